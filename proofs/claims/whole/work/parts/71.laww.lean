/-! the law's walk: its script lies outside the cells -/
abbrev lw_loc (b : Nat) (X : Cx) (i : Int32) : List (Nat × Value) := [(0, .ref b), (1, .ref (X.1 + 0)), (2, .ref (X.1 + 29)), (3, .int i)]
def LW (X : Cx) (l : Launch) (b n : Nat) (xs : Nat → Int32) (pc : Nat) (i : Int32) (S : List Value) (M : Mem) : Prop :=
  ∀ (p : Program) (e : Env) (s : State) (m : MethodId) (below : List Frame) (meth : Method) (c : Code) (H : Heap) (locs : List Loc) (ls : Array Slot), lw_At p s m meth c b n xs → am_K X s → X.1 = s.heap.size → am_H X G0 M 50 s H locs → lv_has ls 4 (lw_loc b X i) →
    W p l e room_1 s m #[Value.ref b] below meth c H locs 50 1323 (lw_Z below #[Value.ref b] s) (F0 m pc ls S)
theorem lw_gt {s : State} {b : Nat} (h : ∀ w ∈ lw_tbl, w.before #[Value.ref b] s = true) : ∀ w ∈ lw_g, w.before #[Value.ref b] s = true := fun w hw => h w (List.mem_filter.mp hw).1
section Lw
variable {X : Cx} {l : Launch} {b n : Nat} {xs : Nat → Int32} {pc j : Nat} {i : Int32} {S : List Value} {M : Mem}
theorem LW.ld1 (d0 : decode code pc = .ok (.aload_n 1, 1)) (h : LW X l b n xs (pc + 1) i (.ref (X.1 + 0) :: S) M) : LW X l b n xs pc i S M := by
  intro p e s m below meth c H locs ls hA hK hX hH hl
  exact lv_aload_n hA.1 hA.2.1 d0 rfl (lv_at hl 1 rfl) (h p e s m below meth c H locs ls hA hK hX hH hl)
theorem LW.ld2 (d0 : decode code pc = .ok (.aload_n 2, 1)) (h : LW X l b n xs (pc + 1) i (.ref (X.1 + 29) :: S) M) : LW X l b n xs pc i S M := by
  intro p e s m below meth c H locs ls hA hK hX hH hl
  exact lv_aload_n hA.1 hA.2.1 d0 rfl (lv_at hl 2 rfl) (h p e s m below meth c H locs ls hA hK hX hH hl)
theorem LW.arg (k : Nat) {kI : Int} (hn : n ≤ 2560) (hj : j + k < n) (hkI : Int32.ofInt kI = nI k) (d0 : decode code pc = .ok (.aload_n 0, 1)) (d1 : decode code (pc + 1) = .ok (.iload_n 3, 1)) (d2 : decode code (pc + 2) = .ok (.iconst kI, 1)) (d3 : decode code (pc + 3) = .ok (.iadd, 1)) (d4 : decode code (pc + 4) = .ok (.iaload, 1)) (h : LW X l b n xs (pc + 5) (nI j) (.int (xs (j + k)) :: S) M) : LW X l b n xs pc (nI j) S M := by
  intro p e s m below meth c H locs ls hA hK hX hH hl
  obtain ⟨hx, hb, hr, hml, hown, hts, hXs, hbl, hlocks, hgv⟩ := id hA
  have hbA : ¬ am_A X b := by show ¬ X.1 ≤ b; omega
  refine lv_aload_n hx hb d0 rfl (lv_at hl 0 rfl) ?_
  refine lv_iload_n hx hb d1 rfl (lv_at hl 3 rfl) ?_
  refine lv_iconst hx hb d2 hkI ?_
  refine lv_iadd hx hb d3 ?_
  rw [nI_add]
  refine va_sld hx hb hXs hbl hbA hH.2.2 (vp_in_nI hj (by omega)) d4 ?_
  rw [nI_clamp (by omega)]
  exact h p e s m below meth c H locs ls hA hK hX hH hl
theorem LW.boo {x : Int32} (d0 : decode code pc = .ok (.ifCond .eq 7, 3)) (d1 : decode code (pc + 3) = .ok (.iconst 1, 1)) (d2 : decode code (pc + 4) = .ok (.goto 4, 3)) (d3 : decode code (pc + 7) = .ok (.iconst 0, 1)) (h : LW X l b n xs (pc + 8) i (.int (if x = 0 then 0 else 1) :: S) M) : LW X l b n xs pc i (.int x :: S) M := by
  intro p e s m below meth c H locs ls hA hK hX hH hl
  have h1 := h p e s m below meth c H locs ls hA hK hX hH hl
  refine lv_if_eq (tgt := pc + 7) hA.1 hA.2.1 d0 (by omega) (fun q => ?_) (fun q => ?_)
  · rw [if_pos q] at h1
    exact lv_iconst hA.1 hA.2.1 d3 (by decide) h1
  · rw [if_neg q] at h1
    refine lv_iconst (v := 1) hA.1 hA.2.1 d1 (by decide) ?_
    exact lv_goto (tgt := pc + 8) hA.1 hA.2.1 d2 (by omega) h1
theorem LW.eq {x y : Int32} {off : Int} {tgt : Nat} (d0 : decode code pc = .ok (.if_icmp .eq off, 3)) (ht : (pc : Int) + off = (tgt : Int)) (e : x = y) (h : LW X l b n xs tgt i S M) : LW X l b n xs pc i (.int y :: .int x :: S) M := by
  intro p e1 s m below meth c H locs ls hA hK hX hH hl
  exact lv_icmp_eq hA.1 hA.2.1 d0 ht (fun _ => h p e1 s m below meth c H locs ls hA hK hX hH hl) (fun q => absurd e q)
theorem LW.next (h : LW X l b n xs 18 (nI (j + 5)) [] M) : LW X l b n xs 1045 (nI j) [] M := by
  intro p e s m below meth c H locs ls hA hK hX hH hl
  refine lv_iinc (v := nI (j + 5)) (lv' := [(3, .int (nI (j + 5))), (0, .ref b), (1, .ref (X.1 + 0)), (2, .ref (X.1 + 29))]) hA.1 hA.2.1 d_law_1045 hl (k := 3) rfl (by rw [show Int32.ofInt 5 = nI 5 from rfl, nI_add]) (by decide) rfl (fun ls' hl' => ?_)
  refine lv_goto (tgt := 18) hA.1 hA.2.1 d_law_1048 (by decide) ?_
  exact h p e s m below meth c H locs ls' hA hK hX hH (lv_sub hl' [1, 2, 3, 0] rfl)
theorem LW.call {mk : Mt} {cn rk idx a cc : Nat} {cs : List Nat} {vc : vw_C} {As rest : List Value} {Qk : Option Value → Mem → Prop} (hsi : am_siV RL idx mk cn) (hn : As.length = cn) (hst : S = (As.map (am_v X.1)).reverse ++ .ref (X.1 + a) :: rest.map (am_v X.1)) (ha : am_sh G0 a = some (.inr (cc, cs))) (hcc : vwCl[cc]? = some vc) (hcn : mk.1.cls = vc.1) (hrk : rk ≤ 100) (hcat : Nat.ble (rest.map fun v => v.category).sum 8 = true) (d : decode code pc = .ok (.invokevirtual idx, 3))
    (hcal : PC X l mk rk (.ref a :: As) G0 M Qk) (k : ∀ (v : Option Value) (M2 : Mem), Qk v M2 → LW X l b n xs (pc + 3) i ((v.toList ++ rest).map (am_v X.1)) M2) : LW X l b n xs pc i S M := by
  intro p e s m below meth c H locs ls hA hK hX hH hl
  obtain ⟨hx, hb, hr, hml, hown, hts0, hXs, hbl, hlocks, hgv⟩ := id hA
  have hts := lw_gt hts0
  have hcat := Nat.le_of_ble_eq_true hcat
  refine AW.sz hH (by omega) (fun hz => ?_)
  have he := am_w_at (X := X) (M := M) (by rw [← am_sh_eq]; exact ha)
  have hk := hsi.2.1
  have run := va_runV (l := l) (R := room_1) (H := H) (locs := locs) (cells := 50) (slots := 1323) (below := below) (meth := meth) (e := e) (C := mk.1.cls) (b := X.1 + a) (As := As.map (am_v X.1)) (rest := rest.map (am_v X.1)) (g := F0 m pc ls S) (n := cn) (Ts := lw_g)
    (⟨hx, hb, hml, hown, hts⟩ : CallFix p m c code 4 s #[Value.ref b] lw_g RL) hcal
    ⟨callB_of (bytes := mk.2.1) (maxL := mk.2.2.1) (ret := mk.2.2.2.1) cn hts (am_good hk) rfl rfl rfl (hts _ hk.2.1) (hts _ hsi.1) hk.2.2.1 ⟨by simp only [am_R, room_1]; omega, by have := hk.2.2.2; simp only [am_R, room_1]; omega⟩, hts _ hsi.2.2.1, hts _ hsi.2.2.2⟩
    ⟨am_P.blind X _ G0 M, by rw [hcn]; exact va_recv hK.1 hH.1 hcc he, fun U hU hW => ⟨by simp [am_v], by rw [hU]; exact hH.1, by rw [hU]; exact hz, hK.warm hW⟩⟩
    rfl (by simpa using hn) hl.1 hst (lv_room (by rw [am_sum]; exact hcat)) d ⟨by simp only [room_1]; omega, by simp only [room_1]; omega⟩
  refine am_after run hH hz (fun v G2 M2 H1 locs1 hq hH1 => ?_)
  obtain ⟨rfl, hq⟩ := hq
  exact k v M2 hq p e s m below meth c H1 locs1 ls hA hK hX hH1 hl
theorem LW.done (hn : n ≤ 2560) : LW X l b n xs 1051 i [] M := by
  intro p e s m below meth c H locs ls hA hK hX hH hl
  refine lv_iconst hA.1 hA.2.1 d_law_1051 (show Int32.ofInt 1 = 1 by decide) ?_
  refine va_forget (fun q hq => by have := hH.2.2.2.2 q hq; show s.heap.size ≤ q.base; rw [← hX]; exact this) ?_
  refine W.widen (k := 600000) (n := 7302250) (by omega) (by omega) ?_
  exact lw_ret hA.1 hA.2.1 hA.2.2.1 hA.2.2.2.2.2.2.2.2.1 d_law_1052
theorem LW.head (hn : n ≤ 2560) (hj : j ≤ n + 5) (h : j + 5 ≤ n → LW X l b n xs 26 (nI j) [] M) : LW X l b n xs 18 (nI j) [] M := by
  intro p e s m below meth c H locs ls hA hK hX hH hl
  obtain ⟨hx, hb, hr, hml, hown, hts, hXs, hbl, hlocks, hgv⟩ := id hA
  have hbA : ¬ am_A X b := by show ¬ X.1 ≤ b; omega
  refine lv_iload_n hx hb d_law_18 rfl (lv_at hl 3 rfl) ?_
  refine lv_aload_n hx hb d_law_19 rfl (lv_at hl 0 rfl) ?_
  refine va_slen hx hb hXs hbl hbA hH.2.2 d_law_20 ?_
  refine lv_iconst hx hb d_law_21 (show Int32.ofInt 5 = nI 5 by decide) ?_
  refine lv_isub hx hb d_law_22 ?_
  refine lv_icmp_gt (tgt := 1051) hx hb d_law_23 (by decide) (fun q => ?_) (fun q => ?_)
  · exact LW.done hn p e s m below meth c H locs ls hA hK hX hH hl
  · refine h ?_ p e s m below meth c H locs ls hA hK hX hH hl
    rw [fa_lt, show Int32.ofNat n = nI n from rfl, pk_sub_toInt (by omega) (by omega), nI_t (by omega)] at q
    omega
theorem LW.disp (hn : n ≤ 2560) (hj : j + 5 ≤ n) (h : ∀ q, q ≤ 31 → xs j &&& 31 = nI q → LW X l b n xs 32 (nI j) [.int (nI q)] M) : LW X l b n xs 26 (nI j) [] M := by
  intro p e s m below meth c H locs ls hA hK hX hH hl
  obtain ⟨hx, hb, hr, hml, hown, hts, hXs, hbl, hlocks, hgv⟩ := id hA
  have hbA : ¬ am_A X b := by show ¬ X.1 ≤ b; omega
  obtain ⟨q, hq, eq⟩ := pk_andE (xs j) (m := 31) 5 (by decide)
  refine lv_aload_n hx hb d_law_26 rfl (lv_at hl 0 rfl) ?_
  refine lv_iload_n hx hb d_law_27 rfl (lv_at hl 3 rfl) ?_
  refine va_sld hx hb hXs hbl hbA hH.2.2 (vp_in_nI (by omega) (by omega)) d_law_28 ?_
  refine lv_bipush (v := 31) hx hb d_law_29 (by decide) ?_
  refine lv_iand hx hb d_law_31 ?_
  rw [nI_clamp (by omega), eq]
  exact h q (by omega) eq p e s m below meth c H locs ls hA hK hX hH hl
theorem LW.tab {q tgt : Nat} {off : Int} (hq : q ≤ 30) (ho : (#[140, 173, 232, 301, 350, 363, 412, 445, 468, 491, 514, 573, 586, 619, 632, 665, 698, 711, 734, 747, 760, 773, 796, 809, 832, 845, 888, 911, 944, 967, 990] : Array Int)[q]? = some off) (ht : (32 : Int) + off = (tgt : Int)) (h : LW X l b n xs tgt i [] M) : LW X l b n xs 32 i [.int (nI q)] M := by
  intro p e s m below meth c H locs ls hA hK hX hH hl
  have e1 : (nI q).toInt = q := nI_t (by omega)
  refine lv_tableIn (tgt := tgt) hA.1 hA.2.1 d_law_32 (by rw [e1]; omega) (by rw [e1]; omega) (by rw [e1, show ((q : Int) - 0).toNat = q by omega]; exact ho) ht ?_
  exact h p e s m below meth c H locs ls hA hK hX hH hl
theorem LW.tabd (h : LW X l b n xs 1045 i [] M) : LW X l b n xs 32 i [.int (nI 31)] M := by
  intro p e s m below meth c H locs ls hA hK hX hH hl
  refine lv_tableOut (tgt := 1045) hA.1 hA.2.1 d_law_32 (Or.inr (by decide)) (by decide) ?_
  exact h p e s m below meth c H locs ls hA hK hX hH hl
end Lw
