/-! cells are made: new, newarray, a reference put into a new object, Object() -/
def mz (M : Mem) (a : Nat) : Mem := (va_up M.1 a (fun _ => 0), va_up M.2 a (fun _ => 0))
def am_d0 (c : Nat) : Value := match c with
  | 0 => .int 0
  | 1 => .long 0
  | _ => .null
theorem am_e_c {X : Cx} {M M' : Mem} {k : Nat} (g : Shp) (h1 : M'.1 k = M.1 k) (h2 : M'.2 k = M.2 k) : am_e X M' k g = am_e X M k g := by
  cases g with
  | inl x => obtain ⟨t, n⟩ := x; simp only [am_e, h1, h2]
  | inr x =>
    obtain ⟨ci, cs⟩ := x
    simp only [am_e]
    congr 2
    congr 1
    funext j c
    unfold am_u
    rw [h1, h2]
theorem am_w_app {X : Cx} {G : List Shp} {M : Mem} {h : Shp} : am_w X (G ++ [h]) (mz M G.length) = am_w X G M ++ [(X.1 + G.length, am_e X (mz M G.length) G.length h)] := by
  have hlen : (am_w X G M).length = G.length := by simp [am_w]
  apply List.ext_getElem?
  intro k
  rcases Nat.lt_trichotomy k G.length with z | z | z
  · rw [List.getElem?_append_left (by rw [hlen]; exact z)]
    simp only [am_w, List.getElem?_mapIdx]
    rw [List.getElem?_append_left z]
    cases G[k]? with
    | none => rfl
    | some g =>
      have e : am_e X (mz M G.length) k g = am_e X M k g := am_e_c g (by simp [mz, va_up, Nat.ne_of_lt z]) (by simp [mz, va_up, Nat.ne_of_lt z])
      simp [e]
  · subst z
    rw [List.getElem?_append_right (by rw [hlen]; exact Nat.le_refl _), hlen, Nat.sub_self]
    simp [am_w, List.getElem?_mapIdx]
  · rw [List.getElem?_eq_none (by simp [am_w]; omega), List.getElem?_eq_none (by simp [am_w]; omega)]
theorem am_w_setG {X : Cx} {G : List Shp} {M : Mem} {a ci k b : Nat} {cs : List Nat} (hG : G[a]? = some (.inr (ci, cs))) (hk : k < cs.length) : (am_w X G M).set a (X.1 + a, .inr (ci, (cs.mapIdx (fun j c => am_v X.1 (am_u M a j c))).set k (.ref (X.1 + b)))) = am_w X (G.set a (.inr (ci, cs.set k (b + 3)))) M := by
  have ha : a < G.length := (List.getElem?_eq_some_iff.mp hG).1
  apply List.ext_getElem?
  intro i
  by_cases e : i = a
  · subst e
    rw [List.getElem?_set_self (by simp [am_w]; exact ha)]
    simp only [am_w, List.getElem?_mapIdx]
    rw [List.getElem?_set_self ha]
    simp only [Option.map_some, am_e]
    congr 4
    apply List.ext_getElem?
    intro j
    by_cases z : j = k
    · subst z
      rw [List.getElem?_set_self (by simpa using hk), List.getElem?_mapIdx, List.getElem?_set_self hk]
      rfl
    · rw [List.getElem?_set_ne (Ne.symm z), List.getElem?_mapIdx, List.getElem?_mapIdx, List.getElem?_set_ne (Ne.symm z)]
  · rw [List.getElem?_set_ne (Ne.symm e)]
    simp only [am_w, List.getElem?_mapIdx]
    rw [List.getElem?_set_ne (Ne.symm e)]
def am_ac (t : Nat) (f : Nat → Int32) (g : Nat → Int64) : (Nat → Int32) ⊕ (Nat → Int64) ⊕ (Nat → UInt32) ⊕ (Nat → UInt64) ⊕ (Nat → Option Nat) := match t with
  | 1 => .inr (.inl g)
  | _ => .inl f
theorem am_e_a {X : Cx} {M : Mem} {a n : Nat} : ∀ t : Nat, am_e X M a (.inl (t, n)) = .inl (X.2.2 t, n, am_ac t (M.1 a) (M.2 a))
  | 0 => rfl
  | 1 => rfl
  | _ + 2 => rfl
section Cw
variable {p : Program} {l : Launch} {e : Env} {R : Room} {s : State} {m : MethodId} {args : Array Value} {below : List Frame} {meth : Method} {c : Code} {H : Heap} {locs : List Loc} {Z : State → Prop} {cc : ByteArray} {ls : Array Slot} {rest : List Value} {own : String} {X : Cx} {G : List Shp} {M : Mem} {pc kc ks : Nat}
theorem am_newW {C : String} {T : u_T} {N ci index : Nat} {cs : List Nat} (hx : p.tables.exec = Jvm.exec) (hb : c.code = cc) (hown : s.vm.findClass own = some m.cls) (hts : ∀ w ∈ lw_g, w.before args s = true) (hK : am_K X s) (hX : X.1 ≤ s.heap.size) (hH : am_H X G M kc s H locs) (hcl : Cond.classLink own index C ∈ lw_g) (hins : Cond.instantiable C N ∈ lw_g) (hini : Cond.initialized C ∈ lw_g) (hc : vwCl[ci]? = some (C, T, N)) (ty : Nat → FieldType) (hty : ∀ k, k < N → parseFieldDescriptor (T k).2.2.1 = some (ty k)) (hcs : cs.length = N) (hc2 : ∀ j, j < N → cs.getD j 2 ≤ 2 ∧ defaultValue (ty j) = am_d0 (cs.getD j 2)) (hcells : kc + 1 ≤ R.cells) (hslots : ks + N ≤ R.slots) (hdg : decode cc pc = .ok (.new index, 3))
    (kk : ∀ H1 : Heap, am_H X (G ++ [.inr (ci, cs)]) (mz M G.length) (kc + 1) s H1 locs → W p l e R s m args below meth c H1 locs (kc + 1) (ks + N) Z (F0 m (pc + 3) ls (.ref (X.1 + G.length) :: rest))) : W p l e R s m args below meth c H locs kc ks Z (F0 m pc ls rest) := by
  refine AW.sz hH hX (fun hz => ?_)
  have hKn := hK.1.1 ci _ hc
  have hS := hH.2.2
  refine W.newcK hx hb hown (hts _ hcl) (hts _ hins) (hts _ hini) rfl hdg hcells hslots hKn.2.1 hz fun H1 kC hkC e1 z1 o1 => ?_
  refine kk H1 ⟨?_, by have := hH.2.1; simp; omega, ⟨Nat.le_trans hS.1 (by omega), fun x h1 h2 => (o1 x (by have := Nat.lt_of_lt_of_le h1 hS.1; omega)).trans (hS.2.1 x h1 h2), hS.2.2⟩⟩
  rw [am_w_app]
  have hk : ∀ (k : Nat) (x : Nat × va_E), (am_w X G M)[k]? = some x → H1[x.1]? = H[x.1]? := fun k x hx => o1 x.1 (by rw [← hz]; exact (hH.1 k x hx).lt)
  refine (hH.1.kept hk).app (fun k x hx => ?_)
  have hz1 : k < 1 := (List.getElem?_eq_some_iff.mp hx).1
  rw [show k = 0 by omega] at hx
  cases hx
  refine ⟨_, hc, (u_born ty hts (cl_in _ (List.mem_of_getElem? hc)) hKn hkC e1 hty).to (fun j hj => ?_)⟩
  have hj2 := hc2 j hj
  rw [hj2.2]
  have hjl : j < cs.length := by rw [hcs]; exact hj
  have eg : cs.getD j 2 = cs[j] := by rw [List.getD_eq_getElem?_getD, List.getElem?_eq_getElem hjl]; rfl
  rw [eg] at hj2 ⊢
  show _ = (cs.mapIdx (fun j c => am_v X.1 (am_u (mz M G.length) G.length j c))).getD j Value.null
  rw [List.getD_eq_getElem?_getD, List.getElem?_mapIdx, List.getElem?_eq_getElem hjl]
  simp only [Option.map_some, Option.getD_some]
  have key : ∀ c : Nat, c ≤ 2 → am_d0 c = am_v X.1 (am_u (mz M G.length) G.length j c) := fun c hc => by
    match c, hc with
    | 0, _ => simp [am_d0, am_u, am_v, mz, va_up]
    | 1, _ => simp [am_d0, am_u, am_v, mz, va_up]
    | 2, _ => rfl
  exact key _ hj2.1
theorem am_newaW {t N : Nat} {n : Int32} {atype : ArrayType} {ty : FieldType} (hx : p.tables.exec = Jvm.exec) (hb : c.code = cc) (hts : ∀ w ∈ lw_g, w.before args s = true) (hX : X.1 ≤ s.heap.size) (hH : am_H X G M kc s H locs) (hty : newarray.typeOf atype = ty) (harr : Cond.arrayClass ty ∈ lw_g) (hRA : s.vm.findClass ("[" ++ ty.toString) = some (X.2.2 t)) (hcell : ∀ cA : ClassId, vp_cell cA (N, am_ac t ((mz M G.length).1 G.length) ((mz M G.length).2 G.length)) = arrV cA N (fun _ => defaultValue ty)) (hn : ¬ n < 0) (hN : n.toNatClampNeg = N) (hbytes : N * componentBytes ty ≤ 536870912) (hcells : kc + 1 ≤ R.cells) (hslots : ks + N ≤ R.slots) (hdg : decode cc pc = .ok (.newarray atype, 2))
    (kk : ∀ H1 : Heap, am_H X (G ++ [.inl (t, N)]) (mz M G.length) (kc + 1) s H1 locs → W p l e R s m args below meth c H1 locs (kc + 1) (ks + N) Z (F0 m (pc + 2) ls (.ref (X.1 + G.length) :: rest))) : W p l e R s m args below meth c H locs kc ks Z (F0 m pc ls (.int n :: rest)) := by
  subst hty
  refine AW.sz hH hX (fun hz => ?_)
  have hS := hH.2.2
  refine va_newaK hx hb (hts _ harr) rfl hdg rfl hn hN hbytes hcells hslots hz fun H1 cA e1 z1 o1 hAr hNm => ?_
  have hcA : cA = X.2.2 t := Option.some.inj (hNm.symm.trans hRA)
  subst hcA
  refine kk H1 ⟨?_, by have := hH.2.1; simp; omega, ⟨Nat.le_trans hS.1 (by omega), fun x h1 h2 => (o1 x (by have := Nat.lt_of_lt_of_le h1 hS.1; omega)).trans (hS.2.1 x h1 h2), hS.2.2⟩⟩
  rw [am_w_app]
  have hk : ∀ (k : Nat) (x : Nat × va_E), (am_w X G M)[k]? = some x → H1[x.1]? = H[x.1]? := fun k x hx => o1 x.1 (by rw [← hz]; exact (hH.1 k x hx).lt)
  refine (hH.1.kept hk).app (fun k x hx => ?_)
  have hz1 : k < 1 := (List.getElem?_eq_some_iff.mp hx).1
  rw [show k = 0 by omega, am_e_a] at hx
  cases hx
  show H1[X.1 + G.length]? = some (vp_cell _ _)
  rw [e1, ← hcell]
theorem am_putRW {C : String} {T : u_T} {N ci index a b k : Nat} {cs : List Nat} {ty : FieldType} (hx : p.tables.exec = Jvm.exec) (hb : c.code = cc) (hown : s.vm.findClass own = some m.cls) (hts : ∀ w ∈ lw_g, w.before args s = true) (hK : am_K X s) (hH : am_H X G M kc s H locs) (hG : G[a]? = some (.inr (ci, cs))) (hc : vwCl[ci]? = some (C, T, N)) (hk : k < N) (hk2 : k < cs.length) (hlink : Cond.fieldLink own index (T k).1 (T k).2.1 (T k).2.2.1 ∈ lw_g) (hfin : (T k).2.2.2 = true) (hin2 : meth.name = "<init>") (hdecl : (T k).1 = own) (hd : parseFieldDescriptor (T k).2.2.1 = some ty) (hn : ∀ x, narrow ty (.ref x) = .ref x) (hfit : ∀ x, fits ty (.ref x) = true) (hdg : decode cc pc = .ok (.putfield index, 3))
    (kk : ∀ (H1 : Heap) (locs1 : List Loc), am_H X (G.set a (.inr (ci, cs.set k (b + 3)))) M kc s H1 locs1 → W p l e R s m args below meth c H1 locs1 kc ks Z (F0 m (pc + 3) ls rest)) : W p l e R s m args below meth c H locs kc ks Z (F0 m pc ls (.ref (X.1 + b) :: .ref (X.1 + a) :: rest)) := by
  obtain ⟨ty0, hty⟩ := cl_ty _ (List.mem_of_getElem? hc)
  refine va_putF hx hb hts (cl_in _ (List.mem_of_getElem? hc)) ty0 hty (cl_nm _ (List.mem_of_getElem? hc)) hown hK.1 hH.1 (am_D X G M) hH.2.2 a (am_w_at hG) hc k hk (hts _ hlink) (fun _ h => h) hfin hin2 hdecl hd (hn _) (hfit _) (by simpa using hk2) hdg (fun H1 locs1 hP1 hD1 hS1 => ?_)
  refine kk H1 locs1 ⟨?_, by have := hH.2.1; simp; omega, hS1⟩
  rw [← am_w_setG hG hk2]
  exact hP1
end Cw
theorem oi_inst : Cond.instanceMethod Lib.objectInit ∈ lw_g := lw_mem (i := 71) (by decide +kernel) (by decide +kernel)
theorem oi_code : Cond.code Lib.objectInit ⟨#[0xb1]⟩ 1 none ∈ lw_g := lw_mem (i := 72) (by decide +kernel) (by decide +kernel)
theorem ac_int : Cond.arrayClass FieldType.int ∈ lw_g := lw_mem (i := 139) (by decide +kernel) (by decide +kernel)
theorem ac_long : Cond.arrayClass FieldType.long ∈ lw_g := lw_mem (i := 115) (by decide +kernel) (by decide +kernel)
theorem ac_bool : Cond.arrayClass FieldType.boolean ∈ lw_g := lw_mem (i := 166) (by decide +kernel) (by decide +kernel)
section Ca
variable {X : Cx} {l : Launch} {mt : Mt} {R : Room} {mc ms : Nat} {Q : Option Value → List Shp → Mem → Prop} {kc ks pc : Nat} {L S : List Value} {G : List Shp} {M : Mem}
theorem AW.obj {r cR sR p1 len ci tgt idx a : Nat} {v : Int32} {w : Int64} {T' : List It} {C : Prop} {L' S' : List Value} {M' : Mem} (h : am_r G (am_t mt.2.2.2.2 pc) True L S M = some (C, (p1, .invokespecial idx, len, ci, tgt, v, w) :: T', L', .ref a :: S', M')) (hC : C) (hl : Cond.methodLink mt.1.cls idx Lib.objectInit ∈ lw_g) (hR : R = am_R r cR sR) (hr : 0 < r) (hcat : Nat.ble (S'.map fun v => v.category).sum 8 = true) (k : AW X l mt R mc ms Q kc ks (p1 + 3) L' S' G M') : AW X l mt R mc ms Q kc ks pc L S G M := by
  refine AW.run h hC (fun hq => AW.ok fun hok => ?_)
  have hd := am_dec_at hok.1 hq
  have hw := List.all_eq_true.mp hok.2 _ hq
  have hl3 : len = 3 := by simpa [am_wd] using hw
  subst hl3
  subst hR
  intro _ p e s m args below meth c H locs ls hCx hH hL
  have hts := hCx.2.2.2.2.2.2.2.1
  have hcat := Nat.le_of_ble_eq_true hcat
  have hrm := lv_room (m := m) (pc := p1) (ls := ls) (rest := (Value.ref a :: S').map (am_v X.1)) (st := S'.map (am_v X.1)) (by rw [am_sum]; exact hcat)
  refine W.objInit hCx.1 hCx.2.1 hCx.2.2.2.2.2.2.1 (hts _ hl) (hts _ oi_inst) (hts _ oi_code) rfl (by show ls.size = _; rw [hCx.2.2.1, hL.2.1]) rfl hd (show 1 ≤ r from hr) (by simp only [am_R]; omega) ?_
  exact k hok p e s m args below meth c H locs ls hCx hH hL
theorem AW.new {r cR sR p1 len ci0 tgt idx : Nat} {v : Int32} {w : Int64} {T' : List It} {C : Prop} {L' S' : List Value} {M' : Mem} (h : am_r G (am_t mt.2.2.2.2 pc) True L S M = some (C, (p1, .new idx, len, ci0, tgt, v, w) :: T', L', S', M')) (hC : C) {Cn : String} {T : u_T} {N ci : Nat} {cs : List Nat} {G2 : List Shp} {a : Nat} (hcl : Cond.classLink mt.1.cls idx Cn ∈ lw_g) (hins : Cond.instantiable Cn N ∈ lw_g) (hini : Cond.initialized Cn ∈ lw_g) (hc : vwCl[ci]? = some (Cn, T, N)) (ty : Nat → FieldType) (hty : ∀ k, k < N → parseFieldDescriptor (T k).2.2.1 = some (ty k)) (hcs : cs.length = N) (hc2 : ∀ j, j < N → cs.getD j 2 ≤ 2 ∧ defaultValue (ty j) = am_d0 (cs.getD j 2)) (hR : R = am_R r cR sR) (hcells : kc + 1 ≤ cR) (hslots : ks + N ≤ sR) (ha : G.length = a) (hG2 : G ++ [.inr (ci, cs)] = G2) (k : AW X l mt R mc ms Q (kc + 1) (ks + N) (p1 + 3) L' (.ref a :: S') G2 (mz M' a)) : AW X l mt R mc ms Q kc ks pc L S G M := by
  refine AW.run h hC (fun hq => AW.ok fun hok => ?_)
  have hd := am_dec_at hok.1 hq
  have hw := List.all_eq_true.mp hok.2 _ hq
  have hl3 : len = 3 := by simpa [am_wd] using hw
  subst hl3
  subst hR
  subst ha
  subst hG2
  intro _ p e s m args below meth c H locs ls hCx hH hL
  exact am_newW hCx.1 hCx.2.1 hCx.2.2.2.2.2.2.1 hCx.2.2.2.2.2.2.2.1 hCx.2.2.2.2.2.2.2.2.1 hCx.2.2.2.2.2.2.2.2.2 hH hcl hins hini hc ty hty hcs hc2 hcells hslots hd (fun H1 hH1 => k hok p e s m args below meth c H1 locs ls hCx hH1 hL)
theorem AW.newa {t r cR sR p1 len ci0 tgt : Nat} {atype : ArrayType} {ty : FieldType} {n v : Int32} {w : Int64} {T' : List It} {C : Prop} {L' S' : List Value} {M' : Mem} (h : am_r G (am_t mt.2.2.2.2 pc) True L S M = some (C, (p1, .newarray atype, len, ci0, tgt, v, w) :: T', L', .int n :: S', M')) (hC : C) {N a : Nat} {G2 : List Shp} (hty : newarray.typeOf atype = ty) (harr : Cond.arrayClass ty ∈ lw_g) (hRA : ∀ s, am_K X s → s.vm.findClass ("[" ++ ty.toString) = some (X.2.2 t)) (hcell : ∀ cA : ClassId, vp_cell cA (N, am_ac t (fun _ => 0) (fun _ => 0)) = arrV cA N (fun _ => defaultValue ty)) (hn : ¬ n < 0) (hN : n.toNatClampNeg = N) (hbytes : N * componentBytes ty ≤ 536870912) (hR : R = am_R r cR sR) (hcells : kc + 1 ≤ cR) (hslots : ks + N ≤ sR) (ha : G.length = a) (hG2 : G ++ [.inl (t, N)] = G2) (k : AW X l mt R mc ms Q (kc + 1) (ks + N) (p1 + 2) L' (.ref a :: S') G2 (mz M' a)) : AW X l mt R mc ms Q kc ks pc L S G M := by
  refine AW.run h hC (fun hq => AW.ok fun hok => ?_)
  have hd := am_dec_at hok.1 hq
  have hw := List.all_eq_true.mp hok.2 _ hq
  have hl3 : len = 2 := by simpa [am_wd] using hw
  subst hl3
  subst hR
  subst ha
  subst hG2
  intro _ p e s m args below meth c H locs ls hCx hH hL
  refine am_newaW hCx.1 hCx.2.1 hCx.2.2.2.2.2.2.2.1 hCx.2.2.2.2.2.2.2.2.2 hH hty harr (hRA s hCx.2.2.2.2.2.2.2.2.1) (fun cA => ?_) hn hN hbytes hcells hslots hd (fun H1 hH1 => k hok p e s m args below meth c H1 locs ls hCx hH1 hL)
  have e1 : (mz M' G.length).1 G.length = fun _ => 0 := by simp [mz, va_up]
  have e2 : (mz M' G.length).2 G.length = fun _ => 0 := by simp [mz, va_up]
  rw [e1, e2]
  exact hcell cA
theorem AW.putR {p1 len ci k0 idx a b : Nat} {v : Int32} {w : Int64} {T' : List It} {C : Prop} {L' S' : List Value} {M' : Mem} (h : am_r G (am_t mt.2.2.2.2 pc) True L S M = some (C, (p1, .putfield idx, len, ci, k0, v, w) :: T', L', .ref b :: .ref a :: S', M')) (hC : C) {cs : List Nat} {q : vw_C} {ty : FieldType} {G2 : List Shp} (hG : am_sh G a = some (.inr (ci, cs))) (hc : vwCl[ci]? = some q) (hk2 : Nat.blt k0 cs.length = true) (hfin : (q.2.1 k0).2.2.2 = true) (hin2 : mt.1.name = "<init>") (hdecl : (q.2.1 k0).1 = mt.1.cls) (hd : parseFieldDescriptor (q.2.1 k0).2.2.1 = some ty) (hn : ∀ x, narrow ty (.ref x) = .ref x) (hfit : ∀ x, fits ty (.ref x) = true) (hG2 : G.set a (.inr (ci, cs.set k0 (b + 3))) = G2) (k : AW X l mt R mc ms Q kc ks (p1 + 3) L' S' G2 M') : AW X l mt R mc ms Q kc ks pc L S G M := by
  refine AW.run h hC (fun hq => AW.ok fun hok => ?_)
  have hdg := am_dec_at hok.1 hq
  have hw := List.all_eq_true.mp hok.2 _ hq
  simp only [am_wd, hc, Bool.and_eq_true, Nat.beq_eq, decide_eq_true_eq] at hw
  obtain ⟨rfl, ⟨hkN, hlk⟩, -⟩ := hw
  subst hG2
  rw [am_sh_eq] at hG
  intro _ p e s m args below meth c H locs ls hCx hH hL
  obtain ⟨Cn, T, N⟩ := q
  exact am_putRW hCx.1 hCx.2.1 hCx.2.2.2.2.2.2.1 hCx.2.2.2.2.2.2.2.1 hCx.2.2.2.2.2.2.2.2.1 hH hG hc hkN (Nat.blt_eq.mp hk2) (fl_in _ hlk) hfin (by rw [hCx.2.2.2.2.2.1]; exact hin2) hdecl hd hn hfit hdg (fun H1 locs1 hH1 => k hok p e s m args below meth c H1 locs1 ls hCx hH1 hL)
end Ca
theorem ra_0 {X : Cx} (s : State) (h : am_K X s) : s.vm.findClass ("[" ++ FieldType.int.toString) = some (X.2.2 0) := (h.1.2 0 _ rfl).2
theorem ra_1 {X : Cx} (s : State) (h : am_K X s) : s.vm.findClass ("[" ++ FieldType.long.toString) = some (X.2.2 1) := (h.1.2 1 _ rfl).2
theorem ra_2 {X : Cx} (s : State) (h : am_K X s) : s.vm.findClass ("[" ++ FieldType.boolean.toString) = some (X.2.2 2) := (h.1.2 2 _ rfl).2
