def lw_g : List Cond := lw_tbl.filter goodWord
/-! the walk AW over W, and the soundness of one simple instruction -/
def am_C (X : Cx) (mt : Mt) (p : Program) (s : State) (m : MethodId) (args : Array Value) (meth : Method) (c : Code) : Prop :=
  p.tables.exec = Jvm.exec ∧ c.code = mt.2.1 ∧ c.maxLocals = mt.2.2.1 ∧ meth.sig.returnType = mt.2.2.2.1 ∧ meth.locks = false ∧ meth.name = mt.1.name ∧ s.vm.findClass mt.1.cls = some m.cls ∧ (∀ w ∈ lw_g, w.before args s = true) ∧ am_K X s ∧ X.1 ≤ s.heap.size
def am_Q (X : Cx) (mc : Nat) (Q : Option Value → List Shp → Mem → Prop) : Array Value → State → Outcome → State → Prop := fun _ st o t => ∃ (v : Option Value) (G : List Shp) (M : Mem), o = .returned (v.map (am_v X.1)) ∧ Q v G M ∧ va_P X.2.1 vwCl (am_w X G M) t.heap ∧ st.heap.size + mc = X.1 + G.length ∧ va_F (am_A X) st t
def AW (X : Cx) (l : Launch) (mt : Mt) (R : Room) (mc ms : Nat) (Q : Option Value → List Shp → Mem → Prop) (kc ks pc : Nat) (L S : List Value) (G : List Shp) (M : Mem) : Prop :=
  am_ok mt → ∀ (p : Program) (e : Env) (s : State) (m : MethodId) (args : Array Value) (below : List Frame) (meth : Method) (c : Code) (H : Heap) (locs : List Loc) (ls : Array Slot), am_C X mt p s m args meth c → am_H X G M kc s H locs → am_L X mt.2.2.1 L ls →
    W p l e R s m args below meth c H locs kc ks (MQ below (am_Q X mc Q) args s mc ms (am_A X)) (F0 m pc ls (S.map (am_v X.1)))
theorem fl_in : ∀ w ∈ fl_tbl, w ∈ lw_g := by decide +kernel
theorem cl_in : ∀ r ∈ vwCl, ∀ w ∈ u_ws r.1 r.2.1 r.2.2, w ∈ lw_g := by decide +kernel
theorem cl_nm : ∀ r ∈ vwCl, ∀ a, a < r.2.2 → ∀ b, b < r.2.2 → a ≠ b → (r.2.1 a).2.1 ≠ (r.2.1 b).2.1 := by
  intro r hr
  simp only [vwCl, List.mem_cons, List.not_mem_nil, or_false] at hr
  rcases hr with rfl | rfl | rfl | rfl | rfl | rfl | rfl | rfl | rfl
  · exact nmX0
  · exact nmX1
  · exact nmX2
  · exact nmX3
  · exact nmX4
  · exact nmX5
  · exact nmX6
  · exact nmX7
  · exact nmX8
theorem cl_ty : ∀ r ∈ vwCl, ∃ ty : Nat → FieldType, ∀ k, k < r.2.2 → parseFieldDescriptor (r.2.1 k).2.2.1 = some (ty k) := by
  intro r hr
  simp only [vwCl, List.mem_cons, List.not_mem_nil, or_false] at hr
  rcases hr with rfl | rfl | rfl | rfl | rfl | rfl | rfl | rfl | rfl
  · exact ⟨_, tyX0_ok⟩
  · exact ⟨_, tyX1_ok⟩
  · exact ⟨_, tyX2_ok⟩
  · exact ⟨_, tyX3_ok⟩
  · exact ⟨_, tyX4_ok⟩
  · exact ⟨_, tyX5_ok⟩
  · exact ⟨_, tyX6_ok⟩
  · exact ⟨_, tyX7_ok⟩
  · exact ⟨_, tyX8_ok⟩
theorem am_dec_at {code : ByteArray} : ∀ {T : List It} {q : It}, am_dec code T = true → q ∈ T → decode code q.1 = .ok (q.2.1, q.2.2.1)
  | [], _, _, h => by cases h
  | x :: T, q, h, hq => by
    simp only [am_dec, Bool.and_eq_true, decide_eq_true_eq] at h
    rcases List.mem_cons.mp hq with rfl | hq
    · exact h.1
    · exact am_dec_at h.2.2 hq
section Sx
variable {X : Cx} {l : Launch} {mt : Mt} {R : Room} {mc ms : Nat} {Q : Option Value → List Shp → Mem → Prop} {kc ks pc : Nat} {L S : List Value} {G : List Shp} {M : Mem}
/-- an instruction that leaves locals and heap as they are -/
theorem AW.plain {S' : List Value} {pc' : Nat} (h : ∀ (p : Program) (e : Env) (s : State) (m : MethodId) (args : Array Value) (below : List Frame) (meth : Method) (c : Code) (H : Heap) (locs : List Loc) (ls : Array Slot) (Z : State → Prop), am_C X mt p s m args meth c → va_P X.2.1 vwCl (am_w X G M) H → am_L X mt.2.2.1 L ls → W p l e R s m args below meth c H locs kc ks Z (F0 m pc' ls (S'.map (am_v X.1))) → W p l e R s m args below meth c H locs kc ks Z (F0 m pc ls (S.map (am_v X.1))))
    (k : AW X l mt R mc ms Q kc ks pc' L S' G M) : AW X l mt R mc ms Q kc ks pc L S G M := by
  intro hok p e s m args below meth c H locs ls hC hH hL
  exact h p e s m args below meth c H locs ls _ hC hH.1 hL (k hok p e s m args below meth c H locs ls hC hH hL)
theorem AW.ld {i : Nat} {v : Value} (hg : am_g L i = v) (hv : v ≠ .null) {ls : Array Slot} (hL : am_L X mt.2.2.1 L ls) : ls[i]? = some (.val (am_v X.1 v)) := by
  rw [← hg] at hv ⊢
  exact hL.2.2.2 i hv
theorem AW.st1 {i : Nat} {v : Value} {rest : List Value} {pc' : Nat} (hi : am_h L i = true) (hv : v ≠ .null)
    (h : ∀ (p : Program) (e : Env) (s : State) (m : MethodId) (args : Array Value) (below : List Frame) (meth : Method) (c : Code) (H : Heap) (locs : List Loc) (ls : Array Slot) (Z : State → Prop), am_C X mt p s m args meth c → am_L X mt.2.2.1 L ls → lv_has ls mt.2.2.1 (am_l X L) → i < mt.2.2.1 →
      (∀ ls' : Array Slot, lv_has ls' mt.2.2.1 ((i, am_v X.1 v) :: (am_l X L).filter (fun q => !(q.1 == i) && !(q.1 + 1 == i && q.2.category == 2))) → W p l e R s m args below meth c H locs kc ks Z (F0 m pc' ls' (rest.map (am_v X.1)))) → W p l e R s m args below meth c H locs kc ks Z (F0 m pc ls (S.map (am_v X.1))))
    (k : AW X l mt R mc ms Q kc ks pc' (am_s (am_c L i) i v) rest G M) : AW X l mt R mc ms Q kc ks pc L S G M := by
  intro hok p e s m args below meth c H locs ls hC hH hL
  exact h p e s m args below meth c H locs ls _ hC hL hL.has (by rw [← hL.1]; exact am_h_lt hi) (fun ls' hls => k hok p e s m args below meth c H locs ls' hC hH (hL.st1 hi hv hls))
theorem AW.st2 {i : Nat} {v : Value} {rest : List Value} {pc' : Nat} (hi : am_h L (i + 1) = true) (hv : v ≠ .null)
    (h : ∀ (p : Program) (e : Env) (s : State) (m : MethodId) (args : Array Value) (below : List Frame) (meth : Method) (c : Code) (H : Heap) (locs : List Loc) (ls : Array Slot) (Z : State → Prop), am_C X mt p s m args meth c → lv_has ls mt.2.2.1 (am_l X L) → i + 1 < mt.2.2.1 →
      (∀ ls' : Array Slot, lv_has ls' mt.2.2.1 ((i, am_v X.1 v) :: (am_l X L).filter (fun q => !(q.1 == i) && (!(q.1 == i + 1) && !(q.1 + 1 == i && q.2.category == 2)))) → W p l e R s m args below meth c H locs kc ks Z (F0 m pc' ls' (rest.map (am_v X.1)))) → W p l e R s m args below meth c H locs kc ks Z (F0 m pc ls (S.map (am_v X.1))))
    (k : AW X l mt R mc ms Q kc ks pc' (am_s (am_s (am_c L i) i v) (i + 1) .null) rest G M) : AW X l mt R mc ms Q kc ks pc L S G M := by
  intro hok p e s m args below meth c H locs ls hC hH hL
  exact h p e s m args below meth c H locs ls _ hC hL.has (by rw [← hL.1]; exact am_h_lt hi) (fun ls' hls => k hok p e s m args below meth c H locs ls' hC hH (hL.st2 hi hv hls))
/-- a store into a cell -/
theorem AW.wr {a : Nat} {h0 : Shp} {e1 : va_E} {M' : Mem} {rest : List Value} {pc' : Nat} (hG : am_sh G a = some h0) (he : am_e X M' a h0 = e1) (ho : ∀ b, b ≠ a → M'.1 b = M.1 b ∧ M'.2 b = M.2 b)
    (h : ∀ (p : Program) (e : Env) (s : State) (m : MethodId) (args : Array Value) (below : List Frame) (meth : Method) (c : Code) (H : Heap) (locs : List Loc) (ls : Array Slot) (Z : State → Prop), am_C X mt p s m args meth c → va_P X.2.1 vwCl (am_w X G M) H → va_D (am_A X) (am_w X G M) → va_S (am_A X) s.heap H locs → (am_w X G M)[a]? = some (X.1 + a, am_e X M a h0) →
      (∀ (H1 : Heap) (locs1 : List Loc), va_P X.2.1 vwCl ((am_w X G M).set a (X.1 + a, e1)) H1 → va_D (am_A X) ((am_w X G M).set a (X.1 + a, e1)) → va_S (am_A X) s.heap H1 locs1 → W p l e R s m args below meth c H1 locs1 kc ks Z (F0 m pc' ls (rest.map (am_v X.1)))) → W p l e R s m args below meth c H locs kc ks Z (F0 m pc ls (S.map (am_v X.1))))
    (k : AW X l mt R mc ms Q kc ks pc' L rest G M') : AW X l mt R mc ms Q kc ks pc L S G M := by
  intro hok p e s m args below meth c H locs ls hC hH hL
  rw [am_sh_eq] at hG
  refine h p e s m args below meth c H locs ls _ hC hH.1 (am_D X G M) hH.2.2 (am_w_at hG) (fun H1 locs1 hP1 hD1 hS1 => ?_)
  rw [am_w_set hG he ho] at hP1
  exact k hok p e s m args below meth c H1 locs1 ls hC ⟨hP1, hH.2.1, hS1⟩ hL
end Sx
