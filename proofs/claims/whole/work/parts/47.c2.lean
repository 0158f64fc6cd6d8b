-- made by wip/whole/mk_c2.py
section C2
variable {X : Cx} {l : Launch} {M : Mem}
theorem c_clear2  : PC X l mX5_clear 1 [.ref 2] G0 M (fun v M' => v = none ∧ FC [] [3] M M' ∧ Sh 3 (fun _ => 6) M') := by
  refine PC.ofW okX5_clear ?_
  refine PW.callS rfl trivial sX5_19 rfl (by decide) rfl (j_fil3 0) (fun v5 M5 hq5 => ?_)
  obtain ⟨rfl, rfl⟩ := hq5
  refine PW.vret rfl rfl trivial ?_
  exact ⟨rfl, FC.rf.pl, sh_clear⟩
theorem c_clear4  : PC X l mX5_clear 1 [.ref 4] G0 M (fun v M' => v = none ∧ FC [] [5] M M' ∧ Sh 5 (fun _ => 6) M') := by
  refine PC.ofW okX5_clear ?_
  refine PW.callS rfl trivial sX5_19 rfl (by decide) rfl (j_fil5 0) (fun v5 M5 hq5 => ?_)
  obtain ⟨rfl, rfl⟩ := hq5
  refine PW.vret rfl rfl trivial ?_
  exact ⟨rfl, FC.rf.pl, sh_clear⟩
theorem c_clear23  : PC X l mX5_clear 1 [.ref 23] G0 M (fun v M' => v = none ∧ FC [] [24] M M' ∧ Sh 24 (fun _ => 6) M') := by
  refine PC.ofW okX5_clear ?_
  refine PW.callS rfl trivial sX5_19 rfl (by decide) rfl (j_fil24 0) (fun v5 M5 hq5 => ?_)
  obtain ⟨rfl, rfl⟩ := hq5
  refine PW.vret rfl rfl trivial ?_
  exact ⟨rfl, FC.rf.pl, sh_clear⟩
theorem c_copy {f : Nat → Nat} (S : Sh 3 f M) : PC X l mX5_copy 1 [.ref 4, .ref 2] G0 M (fun v M' => v = none ∧ FC [] [5] M M' ∧ Sh 5 f M') := by
  refine PC.ofW okX5_copy ?_
  refine PW.copyL rfl trivial cp_link rfl rfl (by decide) rfl ?_
  refine PW.vret rfl rfl trivial ?_
  exact ⟨rfl, FC.rf.pl, sh_copy S⟩
theorem c_put2 (P : Nat → Bool) (lv : Nat) (hl : lv ≤ 6) {f : Nat → Nat} (S : Sh 3 f M) : PC X l mX5_put 0 [.ref 2, .long (mk P), .int (nI lv)] G0 M (fun v M' => v = none ∧ FC [] [3] M M' ∧ Sh 3 (fun i => if P i = true then lv else f i) M') := by
  refine PC.ofW okX5_put ?_
  have loop3 : ∀ k : Nat, ∀ (j : Nat) (M2 : Mem), j ≤ 6 → FC [] [3] M M2 → (∀ k, k < j → M2.2 3 k = mk ((fun j i => decide ((if P i = true then lv else f i) = j)) k)) → (∀ k, j ≤ k → k < 6 → M2.2 3 k = mk ((fun j i => decide (f i = j)) k)) → 6 - j < k → PW X l mX5_put 0 (fun v M' => v = none ∧ FC [] [3] M M' ∧ Sh 3 (fun i => if P i = true then lv else f i) M') 3 [.ref 2, .long (mk P), .null, .int (nI lv), .int (nI j)] [] G0 M2 := by
    intro k
    induction k with
    | zero => intro j M2 hj hF h1 h2 hk; exact absurd hk (Nat.not_lt_zero _)
    | succ k ih =>
      intro j M2 hj hF h1 h2 hk
      refine PW.ige rfl trivial (fun h7 => ?_) (fun h7 => ?_)
      · skip
        rw [i6 (by omega)] at h7
        have e9 : j = 6 := by omega
        subst e9
        refine PW.vret rfl rfl trivial ?_
        exact ⟨rfl, hF, fun k hk => h1 k hk⟩
      · skip
        rw [i6 (by omega)] at h7
        refine PW.ine rfl trivial (fun h19 => ?_) (fun h19 => ?_)
        · skip
          rw [nI_eq (by omega) (by omega)] at h19
          have hs := put_stp (M2 := M2) (b := 3) h1 h2 (x := M2.2 3 j &&& (mk P ^^^ (-1))) (by rw [h2 j (by omega) (by omega)]; exact put_ex h19)
          refine PW.goto rfl ⟨⟨trivial, vp_in_nI (by omega) (by decide)⟩, vp_in_nI (by omega) (by decide)⟩ ?_
          rw [nI_clamp (by omega), nI_1]
          exact ih (j + 1) _ (by omega) hF.pl hs.1 hs.2 (by omega)
        · skip
          rw [nI_eq (by omega) (by omega)] at h19
          have hs := put_stp (M2 := M2) (b := 3) h1 h2 (x := M2.2 3 j ||| mk P) (by rw [h2 j (by omega) (by omega), h19]; exact put_in)
          refine PW.goto rfl ⟨trivial, vp_in_nI (by omega) (by decide)⟩ ?_
          refine PW.goto rfl ⟨trivial, vp_in_nI (by omega) (by decide)⟩ ?_
          rw [nI_clamp (by omega), nI_1]
          exact ih (j + 1) _ (by omega) hF.pl hs.1 hs.2 (by omega)
  refine PW.to 3 rfl trivial ?_
  exact loop3 7 0 M (by omega) FC.rf (fun k hk => absurd hk (Nat.not_lt_zero k)) (fun k _ hk => S k hk) (by omega)
theorem c_put4 (P : Nat → Bool) (lv : Nat) (hl : lv ≤ 6) {f : Nat → Nat} (S : Sh 5 f M) : PC X l mX5_put 0 [.ref 4, .long (mk P), .int (nI lv)] G0 M (fun v M' => v = none ∧ FC [] [5] M M' ∧ Sh 5 (fun i => if P i = true then lv else f i) M') := by
  refine PC.ofW okX5_put ?_
  have loop3 : ∀ k : Nat, ∀ (j : Nat) (M2 : Mem), j ≤ 6 → FC [] [5] M M2 → (∀ k, k < j → M2.2 5 k = mk ((fun j i => decide ((if P i = true then lv else f i) = j)) k)) → (∀ k, j ≤ k → k < 6 → M2.2 5 k = mk ((fun j i => decide (f i = j)) k)) → 6 - j < k → PW X l mX5_put 0 (fun v M' => v = none ∧ FC [] [5] M M' ∧ Sh 5 (fun i => if P i = true then lv else f i) M') 3 [.ref 4, .long (mk P), .null, .int (nI lv), .int (nI j)] [] G0 M2 := by
    intro k
    induction k with
    | zero => intro j M2 hj hF h1 h2 hk; exact absurd hk (Nat.not_lt_zero _)
    | succ k ih =>
      intro j M2 hj hF h1 h2 hk
      refine PW.ige rfl trivial (fun h7 => ?_) (fun h7 => ?_)
      · skip
        rw [i6 (by omega)] at h7
        have e9 : j = 6 := by omega
        subst e9
        refine PW.vret rfl rfl trivial ?_
        exact ⟨rfl, hF, fun k hk => h1 k hk⟩
      · skip
        rw [i6 (by omega)] at h7
        refine PW.ine rfl trivial (fun h19 => ?_) (fun h19 => ?_)
        · skip
          rw [nI_eq (by omega) (by omega)] at h19
          have hs := put_stp (M2 := M2) (b := 5) h1 h2 (x := M2.2 5 j &&& (mk P ^^^ (-1))) (by rw [h2 j (by omega) (by omega)]; exact put_ex h19)
          refine PW.goto rfl ⟨⟨trivial, vp_in_nI (by omega) (by decide)⟩, vp_in_nI (by omega) (by decide)⟩ ?_
          rw [nI_clamp (by omega), nI_1]
          exact ih (j + 1) _ (by omega) hF.pl hs.1 hs.2 (by omega)
        · skip
          rw [nI_eq (by omega) (by omega)] at h19
          have hs := put_stp (M2 := M2) (b := 5) h1 h2 (x := M2.2 5 j ||| mk P) (by rw [h2 j (by omega) (by omega), h19]; exact put_in)
          refine PW.goto rfl ⟨trivial, vp_in_nI (by omega) (by decide)⟩ ?_
          refine PW.goto rfl ⟨trivial, vp_in_nI (by omega) (by decide)⟩ ?_
          rw [nI_clamp (by omega), nI_1]
          exact ih (j + 1) _ (by omega) hF.pl hs.1 hs.2 (by omega)
  refine PW.to 3 rfl trivial ?_
  exact loop3 7 0 M (by omega) FC.rf (fun k hk => absurd hk (Nat.not_lt_zero k)) (fun k _ hk => S k hk) (by omega)
theorem c_put23 (P : Nat → Bool) (lv : Nat) (hl : lv ≤ 6) {f : Nat → Nat} (S : Sh 24 f M) : PC X l mX5_put 0 [.ref 23, .long (mk P), .int (nI lv)] G0 M (fun v M' => v = none ∧ FC [] [24] M M' ∧ Sh 24 (fun i => if P i = true then lv else f i) M') := by
  refine PC.ofW okX5_put ?_
  have loop3 : ∀ k : Nat, ∀ (j : Nat) (M2 : Mem), j ≤ 6 → FC [] [24] M M2 → (∀ k, k < j → M2.2 24 k = mk ((fun j i => decide ((if P i = true then lv else f i) = j)) k)) → (∀ k, j ≤ k → k < 6 → M2.2 24 k = mk ((fun j i => decide (f i = j)) k)) → 6 - j < k → PW X l mX5_put 0 (fun v M' => v = none ∧ FC [] [24] M M' ∧ Sh 24 (fun i => if P i = true then lv else f i) M') 3 [.ref 23, .long (mk P), .null, .int (nI lv), .int (nI j)] [] G0 M2 := by
    intro k
    induction k with
    | zero => intro j M2 hj hF h1 h2 hk; exact absurd hk (Nat.not_lt_zero _)
    | succ k ih =>
      intro j M2 hj hF h1 h2 hk
      refine PW.ige rfl trivial (fun h7 => ?_) (fun h7 => ?_)
      · skip
        rw [i6 (by omega)] at h7
        have e9 : j = 6 := by omega
        subst e9
        refine PW.vret rfl rfl trivial ?_
        exact ⟨rfl, hF, fun k hk => h1 k hk⟩
      · skip
        rw [i6 (by omega)] at h7
        refine PW.ine rfl trivial (fun h19 => ?_) (fun h19 => ?_)
        · skip
          rw [nI_eq (by omega) (by omega)] at h19
          have hs := put_stp (M2 := M2) (b := 24) h1 h2 (x := M2.2 24 j &&& (mk P ^^^ (-1))) (by rw [h2 j (by omega) (by omega)]; exact put_ex h19)
          refine PW.goto rfl ⟨⟨trivial, vp_in_nI (by omega) (by decide)⟩, vp_in_nI (by omega) (by decide)⟩ ?_
          rw [nI_clamp (by omega), nI_1]
          exact ih (j + 1) _ (by omega) hF.pl hs.1 hs.2 (by omega)
        · skip
          rw [nI_eq (by omega) (by omega)] at h19
          have hs := put_stp (M2 := M2) (b := 24) h1 h2 (x := M2.2 24 j ||| mk P) (by rw [h2 j (by omega) (by omega), h19]; exact put_in)
          refine PW.goto rfl ⟨trivial, vp_in_nI (by omega) (by decide)⟩ ?_
          refine PW.goto rfl ⟨trivial, vp_in_nI (by omega) (by decide)⟩ ?_
          rw [nI_clamp (by omega), nI_1]
          exact ih (j + 1) _ (by omega) hF.pl hs.1 hs.2 (by omega)
  refine PW.to 3 rfl trivial ?_
  exact loop3 7 0 M (by omega) FC.rf (fun k hk => absurd hk (Nat.not_lt_zero k)) (fun k _ hk => S k hk) (by omega)
theorem c_own2 (c : Nat) (hc : c < 64) {f : Nat → Nat} (S : Sh 3 f M) (hf : f c ≤ 6) : PF X l mX5_ownerOf 0 [.ref 2, .int (nI c)] G0 M (.int (nI (f c))) := by
  refine PF.ofW okX5_ownerOf ?_
  have loop2 : ∀ k : Nat, ∀ (j : Nat), j ≤ f c → 6 - j < k → PW X l mX5_ownerOf 0 (fun v M' => v = some (.int (nI (f c))) ∧ M' = M) 2 [.ref 2, .int (nI c), .int (nI j)] [] G0 M := by
    intro k
    induction k with
    | zero => intro j hj hk; exact absurd hk (Nat.not_lt_zero _)
    | succ k ih =>
      intro j hj hk
      refine PW.ige rfl trivial (fun h5 => ?_) (fun h5 => ?_)
      · skip
        rw [i6 (by omega)] at h5
        refine PW.iret rfl rfl trivial ?_
        exact ⟨by rw [show f c = 6 by omega]; rfl, rfl⟩
      · skip
        rw [i6 (by omega)] at h5
        refine PW.zeq rfl ⟨trivial, vp_in_nI (by omega) (by decide)⟩ (fun h20 => ?_) (fun h20 => ?_)
        · skip
          rw [lg_cmp_eq, nI_clamp (by omega), S j (by omega), mk_test hc, decide_eq_false_iff_not] at h20
          refine PW.goto rfl trivial ?_
          rw [nI_1]
          exact ih (j + 1) (by omega) (by omega)
        · skip
          rw [lg_cmp_eq, nI_clamp (by omega), S j (by omega), mk_test hc, decide_eq_false_iff_not] at h20
          have e9 : f c = j := Classical.byContradiction h20
          refine PW.iret rfl rfl trivial ?_
          exact ⟨by rw [e9], rfl⟩
  refine PW.to 2 rfl trivial ?_
  exact loop2 7 0 (by omega) (by omega)
theorem c_land2 {f : Nat → Nat} (S : Sh 3 f M) : PF X l mX5_landCells 0 [.ref 2] G0 M (.long (mk (fun i => decide (f i < 6)))) := by
  refine PF.ofW okX5_landCells ?_
  have loop4 : ∀ k : Nat, ∀ (j : Nat), j ≤ 6 → 6 - j < k → PW X l mX5_landCells 0 (fun v M' => v = some (.long (mk (fun i => decide (f i < 6)))) ∧ M' = M) 4 [.ref 2, .long (mk (fun i => decide (f i < j))), .null, .int (nI j)] [] G0 M := by
    intro k
    induction k with
    | zero => intro j hj hk; exact absurd hk (Nat.not_lt_zero _)
    | succ k ih =>
      intro j hj hk
      refine PW.ige rfl trivial (fun h7 => ?_) (fun h7 => ?_)
      · skip
        rw [i6 (by omega)] at h7
        have e9 : j = 6 := by omega
        subst e9
        refine PW.lret rfl rfl trivial ?_
        exact ⟨rfl, rfl⟩
      · skip
        rw [i6 (by omega)] at h7
        refine PW.goto rfl ⟨trivial, vp_in_nI (by omega) (by decide)⟩ ?_
        rw [nI_clamp (by omega), S j (by omega), mk_or, nI_1]
        refine PW.lc ?_ (ih (j + 1) (by omega) (by omega))
        rw [mk_cong (fun i _ => show (decide (f i < j) || decide (f i = j)) = decide (f i < j + 1) from by rw [Bool.eq_iff_iff]; simp; omega)]
  refine PW.to 4 rfl trivial ?_
  refine PW.lc ?_ (loop4 7 0 (by omega) (by omega))
  rw [show mk (fun i => decide (f i < 0)) = 0 from by rw [mk_z]; intro i _; simp]
  rfl
theorem c_own4 (c : Nat) (hc : c < 64) {f : Nat → Nat} (S : Sh 5 f M) (hf : f c ≤ 6) : PF X l mX5_ownerOf 0 [.ref 4, .int (nI c)] G0 M (.int (nI (f c))) := by
  refine PF.ofW okX5_ownerOf ?_
  have loop2 : ∀ k : Nat, ∀ (j : Nat), j ≤ f c → 6 - j < k → PW X l mX5_ownerOf 0 (fun v M' => v = some (.int (nI (f c))) ∧ M' = M) 2 [.ref 4, .int (nI c), .int (nI j)] [] G0 M := by
    intro k
    induction k with
    | zero => intro j hj hk; exact absurd hk (Nat.not_lt_zero _)
    | succ k ih =>
      intro j hj hk
      refine PW.ige rfl trivial (fun h5 => ?_) (fun h5 => ?_)
      · skip
        rw [i6 (by omega)] at h5
        refine PW.iret rfl rfl trivial ?_
        exact ⟨by rw [show f c = 6 by omega]; rfl, rfl⟩
      · skip
        rw [i6 (by omega)] at h5
        refine PW.zeq rfl ⟨trivial, vp_in_nI (by omega) (by decide)⟩ (fun h20 => ?_) (fun h20 => ?_)
        · skip
          rw [lg_cmp_eq, nI_clamp (by omega), S j (by omega), mk_test hc, decide_eq_false_iff_not] at h20
          refine PW.goto rfl trivial ?_
          rw [nI_1]
          exact ih (j + 1) (by omega) (by omega)
        · skip
          rw [lg_cmp_eq, nI_clamp (by omega), S j (by omega), mk_test hc, decide_eq_false_iff_not] at h20
          have e9 : f c = j := Classical.byContradiction h20
          refine PW.iret rfl rfl trivial ?_
          exact ⟨by rw [e9], rfl⟩
  refine PW.to 2 rfl trivial ?_
  exact loop2 7 0 (by omega) (by omega)
theorem c_land4 {f : Nat → Nat} (S : Sh 5 f M) : PF X l mX5_landCells 0 [.ref 4] G0 M (.long (mk (fun i => decide (f i < 6)))) := by
  refine PF.ofW okX5_landCells ?_
  have loop4 : ∀ k : Nat, ∀ (j : Nat), j ≤ 6 → 6 - j < k → PW X l mX5_landCells 0 (fun v M' => v = some (.long (mk (fun i => decide (f i < 6)))) ∧ M' = M) 4 [.ref 4, .long (mk (fun i => decide (f i < j))), .null, .int (nI j)] [] G0 M := by
    intro k
    induction k with
    | zero => intro j hj hk; exact absurd hk (Nat.not_lt_zero _)
    | succ k ih =>
      intro j hj hk
      refine PW.ige rfl trivial (fun h7 => ?_) (fun h7 => ?_)
      · skip
        rw [i6 (by omega)] at h7
        have e9 : j = 6 := by omega
        subst e9
        refine PW.lret rfl rfl trivial ?_
        exact ⟨rfl, rfl⟩
      · skip
        rw [i6 (by omega)] at h7
        refine PW.goto rfl ⟨trivial, vp_in_nI (by omega) (by decide)⟩ ?_
        rw [nI_clamp (by omega), S j (by omega), mk_or, nI_1]
        refine PW.lc ?_ (ih (j + 1) (by omega) (by omega))
        rw [mk_cong (fun i _ => show (decide (f i < j) || decide (f i = j)) = decide (f i < j + 1) from by rw [Bool.eq_iff_iff]; simp; omega)]
  refine PW.to 4 rfl trivial ?_
  refine PW.lc ?_ (loop4 7 0 (by omega) (by omega))
  rw [show mk (fun i => decide (f i < 0)) = 0 from by rw [mk_z]; intro i _; simp]
  rfl
theorem c_cells2 (lv : Nat) (hl : lv ≤ 6) {w h : Nat} (H : Gf w h) (G : Gm w h M) {f : Nat → Nat} (hf : Sw (w * h) f) (S : Sh 3 f M) : PF X l mX5_cellsOf 1 [.ref 2, .int (nI lv)] G0 M (.long (mk (cel (w * h) f lv))) := by
  refine PF.ofW okX5_cellsOf ?_
  have hn := H.n
  refine PW.funS rfl trivial sX5_33 rfl (by decide) rfl (u_isLand (nI lv)) ?_
  refine PW.zeq rfl trivial (fun h4 => ?_) (fun h4 => ?_)
  · skip
    rw [bo_eq, okl5 (by omega), decide_eq_false_iff_not] at h4
    refine PW.funV rfl trivial sX5_43 rfl rfl (by decide) rfl (c_land2 S) ?_
    refine PW.lret rfl rfl trivial ?_
    first
    | exact ⟨by rw [nI_clamp (by omega), S lv (by omega), cel_l hf (by omega)], rfl⟩
    | (have e6 : lv = 6 := by omega
       subst e6
       refine ⟨?_, rfl⟩
       rw [G.2.2.1, mk_not, mk_and]
       rw [mk_cong (fun i _ => show (decide (i < w * h) && !decide (f i < 6)) = cel (w * h) f 6 i from by
         unfold cel
         have := hf.1 i
         rw [Bool.eq_iff_iff]; simp; omega)])
  · skip
    rw [bo_ne, okl5 (by omega), decide_eq_true_eq] at h4
    refine PW.goto rfl ⟨trivial, vp_in_nI (by omega) (by decide)⟩ ?_
    refine PW.lret rfl rfl trivial ?_
    first
    | exact ⟨by rw [nI_clamp (by omega), S lv (by omega), cel_l hf (by omega)], rfl⟩
    | (have e6 : lv = 6 := by omega
       subst e6
       refine ⟨?_, rfl⟩
       rw [G.2.2.1, mk_not, mk_and]
       rw [mk_cong (fun i _ => show (decide (i < w * h) && !decide (f i < 6)) = cel (w * h) f 6 i from by
         unfold cel
         have := hf.1 i
         rw [Bool.eq_iff_iff]; simp; omega)])
theorem c_siz2 (lv : Nat) (hl : lv ≤ 6) {w h : Nat} (H : Gf w h) (G : Gm w h M) {f : Nat → Nat} (hf : Sw (w * h) f) (S : Sh 3 f M) : PF X l mX5_sizeOf 2 [.ref 2, .int (nI lv)] G0 M (.int (nI (many f lv (w * h)))) := by
  refine PF.ofW okX5_sizeOf ?_
  have hn := H.n
  refine PW.funV rfl trivial sX5_47 rfl rfl (by decide) rfl (c_cells2 lv hl H G hf S) ?_
  refine PW.funS rfl trivial sX5_51 rfl (by decide) rfl (j_bitCount _) ?_
  refine PW.iret rfl rfl trivial ?_
  exact ⟨by rw [ct_cel (by omega)], rfl⟩
theorem c_cel2 (lv : Nat) (hl : lv < 6) {w h : Nat} (H : Gf w h) (G : Gm w h M) {f : Nat → Nat} (hf : Sw (w * h) f) (S : Sh 3 f M) : PF X l mX5_cellsOf 1 [.ref 2, .int (nI lv)] G0 M (.long (mk (fun i => decide (f i = lv)))) := by
  have q := c_cells2 (X := X) (l := l) lv (by omega) H G hf S
  rw [cel_l hf hl] at q
  exact q
theorem c_cells4 (lv : Nat) (hl : lv ≤ 6) {w h : Nat} (H : Gf w h) (G : Gm w h M) {f : Nat → Nat} (hf : Sw (w * h) f) (S : Sh 5 f M) : PF X l mX5_cellsOf 1 [.ref 4, .int (nI lv)] G0 M (.long (mk (cel (w * h) f lv))) := by
  refine PF.ofW okX5_cellsOf ?_
  have hn := H.n
  refine PW.funS rfl trivial sX5_33 rfl (by decide) rfl (u_isLand (nI lv)) ?_
  refine PW.zeq rfl trivial (fun h4 => ?_) (fun h4 => ?_)
  · skip
    rw [bo_eq, okl5 (by omega), decide_eq_false_iff_not] at h4
    refine PW.funV rfl trivial sX5_43 rfl rfl (by decide) rfl (c_land4 S) ?_
    refine PW.lret rfl rfl trivial ?_
    first
    | exact ⟨by rw [nI_clamp (by omega), S lv (by omega), cel_l hf (by omega)], rfl⟩
    | (have e6 : lv = 6 := by omega
       subst e6
       refine ⟨?_, rfl⟩
       rw [G.2.2.1, mk_not, mk_and]
       rw [mk_cong (fun i _ => show (decide (i < w * h) && !decide (f i < 6)) = cel (w * h) f 6 i from by
         unfold cel
         have := hf.1 i
         rw [Bool.eq_iff_iff]; simp; omega)])
  · skip
    rw [bo_ne, okl5 (by omega), decide_eq_true_eq] at h4
    refine PW.goto rfl ⟨trivial, vp_in_nI (by omega) (by decide)⟩ ?_
    refine PW.lret rfl rfl trivial ?_
    first
    | exact ⟨by rw [nI_clamp (by omega), S lv (by omega), cel_l hf (by omega)], rfl⟩
    | (have e6 : lv = 6 := by omega
       subst e6
       refine ⟨?_, rfl⟩
       rw [G.2.2.1, mk_not, mk_and]
       rw [mk_cong (fun i _ => show (decide (i < w * h) && !decide (f i < 6)) = cel (w * h) f 6 i from by
         unfold cel
         have := hf.1 i
         rw [Bool.eq_iff_iff]; simp; omega)])
theorem c_siz4 (lv : Nat) (hl : lv ≤ 6) {w h : Nat} (H : Gf w h) (G : Gm w h M) {f : Nat → Nat} (hf : Sw (w * h) f) (S : Sh 5 f M) : PF X l mX5_sizeOf 2 [.ref 4, .int (nI lv)] G0 M (.int (nI (many f lv (w * h)))) := by
  refine PF.ofW okX5_sizeOf ?_
  have hn := H.n
  refine PW.funV rfl trivial sX5_47 rfl rfl (by decide) rfl (c_cells4 lv hl H G hf S) ?_
  refine PW.funS rfl trivial sX5_51 rfl (by decide) rfl (j_bitCount _) ?_
  refine PW.iret rfl rfl trivial ?_
  exact ⟨by rw [ct_cel (by omega)], rfl⟩
theorem c_cel4 (lv : Nat) (hl : lv < 6) {w h : Nat} (H : Gf w h) (G : Gm w h M) {f : Nat → Nat} (hf : Sw (w * h) f) (S : Sh 5 f M) : PF X l mX5_cellsOf 1 [.ref 4, .int (nI lv)] G0 M (.long (mk (fun i => decide (f i = lv)))) := by
  have q := c_cells4 (X := X) (l := l) lv (by omega) H G hf S
  rw [cel_l hf hl] at q
  exact q
theorem c_cells23 (lv : Nat) (hl : lv < 6) {w h : Nat} (H : Gf w h) (G : Gm w h M) {f : Nat → Nat} (hf : Sw (w * h) f) (S : Sh 24 f M) : PF X l mX5_cellsOf 1 [.ref 23, .int (nI lv)] G0 M (.long (mk (cel (w * h) f lv))) := by
  refine PF.ofW okX5_cellsOf ?_
  have hn := H.n
  refine PW.funS rfl trivial sX5_33 rfl (by decide) rfl (u_isLand (nI lv)) ?_
  refine PW.zeq rfl trivial (fun h4 => ?_) (fun h4 => ?_)
  · rw [bo_eq, okl5 (by omega), decide_eq_false_iff_not] at h4
    omega
  · skip
    rw [bo_ne, okl5 (by omega), decide_eq_true_eq] at h4
    refine PW.goto rfl ⟨trivial, vp_in_nI (by omega) (by decide)⟩ ?_
    refine PW.lret rfl rfl trivial ?_
    first
    | exact ⟨by rw [nI_clamp (by omega), S lv (by omega), cel_l hf (by omega)], rfl⟩
    | (have e6 : lv = 6 := by omega
       subst e6
       refine ⟨?_, rfl⟩
       rw [G.2.2.1, mk_not, mk_and]
       rw [mk_cong (fun i _ => show (decide (i < w * h) && !decide (f i < 6)) = cel (w * h) f 6 i from by
         unfold cel
         have := hf.1 i
         rw [Bool.eq_iff_iff]; simp; omega)])
theorem c_cel23 (lv : Nat) (hl : lv < 6) {w h : Nat} (H : Gf w h) (G : Gm w h M) {f : Nat → Nat} (hf : Sw (w * h) f) (S : Sh 24 f M) : PF X l mX5_cellsOf 1 [.ref 23, .int (nI lv)] G0 M (.long (mk (fun i => decide (f i = lv)))) := by
  have q := c_cells23 (X := X) (l := l) lv (by omega) H G hf S
  rw [cel_l hf hl] at q
  exact q
theorem c_lwc {w h : Nat} (H : Gf w h) {f : Nat → Nat} (hf : Sw (w * h) f) (S : Sh 3 f M) : PF X l mX5_landsWithCells 0 [.ref 2] G0 M (.int (nI (fb_ct (fun l => decide (0 < many f l (w * h))) 6))) := by
  refine PF.ofW okX5_landsWithCells ?_
  have hn := H.n
  have loop4 : ∀ k : Nat, ∀ (j : Nat), j ≤ 6 → 6 - j < k → PW X l mX5_landsWithCells 0 (fun v M' => v = some (.int (nI (fb_ct (fun l => decide (0 < many f l (w * h))) 6))) ∧ M' = M) 4 [.ref 2, .int (nI (fb_ct (fun l => decide (0 < many f l (w * h))) j)), .int (nI j)] [] G0 M := by
    intro k
    induction k with
    | zero => intro j hj hk; exact absurd hk (Nat.not_lt_zero _)
    | succ k ih =>
      intro j hj hk
      refine PW.ige rfl trivial (fun h7 => ?_) (fun h7 => ?_)
      · skip
        rw [i6 (by omega)] at h7
        have e9 : j = 6 := by omega
        subst e9
        refine PW.iret rfl rfl trivial ?_
        exact ⟨rfl, rfl⟩
      · skip
        rw [i6 (by omega)] at h7
        refine PW.zne rfl ⟨trivial, vp_in_nI (by omega) (by decide)⟩ (fun h19 => ?_) (fun h19 => ?_)
        · skip
          rw [lg_cmp_eq, nI_clamp (by omega), S j (by omega), mk_many hf (by omega) (by omega)] at h19
          have h20 : 0 < many f j (w * h) := by omega
          refine PW.goto rfl trivial ?_
          rw [nI_1, nI_1]
          refine PW.lc ?_ (ih (j + 1) (by omega) (by omega))
          rw [fb_ct_succ, if_pos (by simpa using h20)]
        · skip
          rw [lg_cmp_eq, nI_clamp (by omega), S j (by omega), mk_many hf (by omega) (by omega)] at h19
          have h20 : ¬ 0 < many f j (w * h) := by omega
          refine PW.goto rfl trivial ?_
          refine PW.goto rfl trivial ?_
          rw [nI_1]
          refine PW.lc ?_ (ih (j + 1) (by omega) (by omega))
          rw [fb_ct_succ, if_neg (by simpa using h20), Int32.add_zero]; rfl
  refine PW.to 4 rfl trivial ?_
  exact loop4 7 0 (by omega) (by omega)
theorem c_nbr2 (a b : Nat) (ha : a < 6) (hb : b < 6) {w h : Nat} (H : Gf w h) (G : Gm w h M) {f : Nat → Nat} (hf : Sw (w * h) f) (S : Sh 3 f M) : PF X l mX5_areNeighbours 2 [.ref 2, .int (nI a), .int (nI b)] G0 M (.int (bo (nbr w (w * h) f a b))) := by
  refine PF.ofW okX5_areNeighbours ?_
  have hn := H.n
  refine PW.funV rfl trivial sX5_47 rfl rfl (by decide) rfl (c_cel2 a ha H G hf S) ?_
  refine PW.funV rfl trivial sX5_57 rfl rfl (by decide) rfl (c_rim _ H G (fun i hi => by have := hf.2 i hi; simp; omega)) ?_
  refine PW.funV rfl trivial sX5_47 rfl rfl (by decide) rfl (c_cel2 b hb H G hf S) ?_
  refine PW.zeq rfl trivial (fun h20 => ?_) (fun h20 => ?_)
  · skip
    rw [lg_cmp_eq, nbr_z hf hb (by omega)] at h20
    refine PW.zret rfl rfl trivial (rfl) ?_
    exact ⟨by rw [h20]; rfl, rfl⟩
  · skip
    rw [lg_cmp_eq, nbr_z hf hb (by omega), Bool.not_eq_false] at h20
    refine PW.goto rfl trivial ?_
    refine PW.zret rfl rfl trivial (rfl) ?_
    exact ⟨by rw [h20]; rfl, rfl⟩
theorem c_prs2 {w h : Nat} (H : Gf w h) (G : Gm w h M) {f : Nat → Nat} (hf : Sw (w * h) f) (S : Sh 3 f M) : PF X l mX5_neighbourPairs 1 [.ref 2] G0 M (.long (mk (prs w (w * h) f))) := by
  refine PF.ofW okX5_neighbourPairs ?_
  have hn := H.n
  have loop4 : ∀ k : Nat, ∀ (a : Nat), a ≤ 6 → 6 - a < k → PW X l mX5_neighbourPairs 1 (fun v M' => v = some (.long (mk (prs w (w * h) f))) ∧ M' = M) 4 [.ref 2, .long (mk (fun i => decide (i < 6 * a) && prs w (w * h) f i)), .null, .int (nI a), .null, .null, .null] [] G0 M := by
    intro k
    induction k with
    | zero => intro a ha hk; exact absurd hk (Nat.not_lt_zero _)
    | succ k ih =>
      intro a ha hk
      have loop30 : ∀ k30 : Nat, ∀ (b : Nat), a < 6 → a < b → b ≤ 6 → 6 - b < k30 → PW X l mX5_neighbourPairs 1 (fun v M' => v = some (.long (mk (prs w (w * h) f))) ∧ M' = M) 30 [.ref 2, .long (mk (fun i => decide (i < 6 * a + b) && prs w (w * h) f i)), .null, .int (nI a), .long (mk (rim w (w * h) (fun i => decide (f i = a)))), .null, .int (nI b)] [] G0 M := by
        intro k30
        induction k30 with
        | zero => intro b ha6 hab hb hk3; exact absurd hk3 (Nat.not_lt_zero _)
        | succ k30 ih30 =>
          intro b ha6 hab hb hk3
          refine PW.ige rfl trivial (fun h34 => ?_) (fun h34 => ?_)
          · skip
            rw [i6 (by omega)] at h34
            have e9 : b = 6 := by omega
            subst e9
            refine PW.goto rfl trivial ?_
            rw [nI_1]
            refine PW.nl [4, 6] ?_
            refine PW.lc ?_ (ih (a + 1) (by omega) (by omega))
            rw [show 6 * (a + 1) = 6 * a + 6 by omega]; rfl
          · skip
            rw [i6 (by omega)] at h34
            have hs := fun i => prs_s (w := w) (n := w * h) (f := f) hab (show b < 6 by omega) (i := i)
            refine PW.zeq rfl ⟨trivial, vp_in_nI (by omega) (by decide)⟩ (fun h49 => ?_) (fun h49 => ?_)
            · skip
              rw [lg_cmp_eq, nI_clamp (by omega), S b (by omega), nbr_z hf (by omega) (by omega)] at h49
              refine PW.goto rfl trivial ?_
              rw [nI_1]
              refine PW.lc ?_ (ih30 (b + 1) ha6 (by omega) (by omega) (by omega))
              rw [show mk (fun i => decide (i < 6 * a + (b + 1)) && prs w (w * h) f i) = mk (fun i => decide (i < 6 * a + b) && prs w (w * h) f i) from mk_cong (fun i _ => by rw [hs i, h49, Bool.and_false, Bool.or_false])]
            · skip
              rw [lg_cmp_eq, nI_clamp (by omega), S b (by omega), nbr_z hf (by omega) (by omega), Bool.not_eq_false] at h49
              refine PW.goto rfl trivial ?_
              rw [show (6 : Int32) = nI 6 from rfl, pk_mul, Nat.mul_comm a 6, nI_add, mk_bit (by omega), mk_or, nI_1]
              refine PW.lc ?_ (ih30 (b + 1) ha6 (by omega) (by omega) (by omega))
              rw [show mk (fun i => decide (i < 6 * a + (b + 1)) && prs w (w * h) f i) = mk (fun i => (decide (i < 6 * a + b) && prs w (w * h) f i) || decide (i = 6 * a + b)) from mk_cong (fun i _ => by rw [hs i, h49, Bool.and_true])]
      refine PW.ige rfl trivial (fun h7 => ?_) (fun h7 => ?_)
      · skip
        rw [i6 (by omega)] at h7
        have e9 : a = 6 := by omega
        subst e9
        refine PW.lret rfl rfl trivial ?_
        refine ⟨?_, rfl⟩
        rw [mk_cong (fun i _ => show (decide (i < 6 * 6) && prs w (w * h) f i) = prs w (w * h) f i from by
          unfold prs
          by_cases q : i < 36
          · simp [q]
          · simp [q])]
      · skip
        rw [i6 (by omega)] at h7
        refine PW.funV rfl ⟨trivial, vp_in_nI (by omega) (by decide)⟩ sX5_57 rfl rfl (by decide) rfl (show PF X l mX1_rimOf 0 [.ref 1, .long (M.2 3 (nI a).toNatClampNeg)] G0 M (.long (mk (rim w (w * h) (fun i => decide (f i = a))))) from by rw [nI_clamp (by omega), S a (by omega)]; exact c_rim _ H G (fun i hi => by have := hf.2 i hi; simp; omega)) ?_
        refine PW.to 30 rfl trivial ?_
        rw [nI_1]
        refine PW.lc ?_ (loop30 7 (a + 1) (by omega) (by omega) (by omega) (by omega))
        rw [mk_cong (fun i _ => (prs_a (w := w) (n := w * h) (f := f) (a := a) (i := i)))]
  refine PW.to 4 rfl trivial ?_
  refine PW.lc ?_ (loop4 7 0 (by omega) (by omega))
  rw [show mk (fun i => decide (i < 6 * 0) && prs w (w * h) f i) = 0 from by rw [mk_z]; intro i _; simp]
  rfl
theorem c_nbr4 (a b : Nat) (ha : a < 6) (hb : b < 6) {w h : Nat} (H : Gf w h) (G : Gm w h M) {f : Nat → Nat} (hf : Sw (w * h) f) (S : Sh 5 f M) : PF X l mX5_areNeighbours 2 [.ref 4, .int (nI a), .int (nI b)] G0 M (.int (bo (nbr w (w * h) f a b))) := by
  refine PF.ofW okX5_areNeighbours ?_
  have hn := H.n
  refine PW.funV rfl trivial sX5_47 rfl rfl (by decide) rfl (c_cel4 a ha H G hf S) ?_
  refine PW.funV rfl trivial sX5_57 rfl rfl (by decide) rfl (c_rim _ H G (fun i hi => by have := hf.2 i hi; simp; omega)) ?_
  refine PW.funV rfl trivial sX5_47 rfl rfl (by decide) rfl (c_cel4 b hb H G hf S) ?_
  refine PW.zeq rfl trivial (fun h20 => ?_) (fun h20 => ?_)
  · skip
    rw [lg_cmp_eq, nbr_z hf hb (by omega)] at h20
    refine PW.zret rfl rfl trivial (rfl) ?_
    exact ⟨by rw [h20]; rfl, rfl⟩
  · skip
    rw [lg_cmp_eq, nbr_z hf hb (by omega), Bool.not_eq_false] at h20
    refine PW.goto rfl trivial ?_
    refine PW.zret rfl rfl trivial (rfl) ?_
    exact ⟨by rw [h20]; rfl, rfl⟩
theorem c_prs4 {w h : Nat} (H : Gf w h) (G : Gm w h M) {f : Nat → Nat} (hf : Sw (w * h) f) (S : Sh 5 f M) : PF X l mX5_neighbourPairs 1 [.ref 4] G0 M (.long (mk (prs w (w * h) f))) := by
  refine PF.ofW okX5_neighbourPairs ?_
  have hn := H.n
  have loop4 : ∀ k : Nat, ∀ (a : Nat), a ≤ 6 → 6 - a < k → PW X l mX5_neighbourPairs 1 (fun v M' => v = some (.long (mk (prs w (w * h) f))) ∧ M' = M) 4 [.ref 4, .long (mk (fun i => decide (i < 6 * a) && prs w (w * h) f i)), .null, .int (nI a), .null, .null, .null] [] G0 M := by
    intro k
    induction k with
    | zero => intro a ha hk; exact absurd hk (Nat.not_lt_zero _)
    | succ k ih =>
      intro a ha hk
      have loop30 : ∀ k30 : Nat, ∀ (b : Nat), a < 6 → a < b → b ≤ 6 → 6 - b < k30 → PW X l mX5_neighbourPairs 1 (fun v M' => v = some (.long (mk (prs w (w * h) f))) ∧ M' = M) 30 [.ref 4, .long (mk (fun i => decide (i < 6 * a + b) && prs w (w * h) f i)), .null, .int (nI a), .long (mk (rim w (w * h) (fun i => decide (f i = a)))), .null, .int (nI b)] [] G0 M := by
        intro k30
        induction k30 with
        | zero => intro b ha6 hab hb hk3; exact absurd hk3 (Nat.not_lt_zero _)
        | succ k30 ih30 =>
          intro b ha6 hab hb hk3
          refine PW.ige rfl trivial (fun h34 => ?_) (fun h34 => ?_)
          · skip
            rw [i6 (by omega)] at h34
            have e9 : b = 6 := by omega
            subst e9
            refine PW.goto rfl trivial ?_
            rw [nI_1]
            refine PW.nl [4, 6] ?_
            refine PW.lc ?_ (ih (a + 1) (by omega) (by omega))
            rw [show 6 * (a + 1) = 6 * a + 6 by omega]; rfl
          · skip
            rw [i6 (by omega)] at h34
            have hs := fun i => prs_s (w := w) (n := w * h) (f := f) hab (show b < 6 by omega) (i := i)
            refine PW.zeq rfl ⟨trivial, vp_in_nI (by omega) (by decide)⟩ (fun h49 => ?_) (fun h49 => ?_)
            · skip
              rw [lg_cmp_eq, nI_clamp (by omega), S b (by omega), nbr_z hf (by omega) (by omega)] at h49
              refine PW.goto rfl trivial ?_
              rw [nI_1]
              refine PW.lc ?_ (ih30 (b + 1) ha6 (by omega) (by omega) (by omega))
              rw [show mk (fun i => decide (i < 6 * a + (b + 1)) && prs w (w * h) f i) = mk (fun i => decide (i < 6 * a + b) && prs w (w * h) f i) from mk_cong (fun i _ => by rw [hs i, h49, Bool.and_false, Bool.or_false])]
            · skip
              rw [lg_cmp_eq, nI_clamp (by omega), S b (by omega), nbr_z hf (by omega) (by omega), Bool.not_eq_false] at h49
              refine PW.goto rfl trivial ?_
              rw [show (6 : Int32) = nI 6 from rfl, pk_mul, Nat.mul_comm a 6, nI_add, mk_bit (by omega), mk_or, nI_1]
              refine PW.lc ?_ (ih30 (b + 1) ha6 (by omega) (by omega) (by omega))
              rw [show mk (fun i => decide (i < 6 * a + (b + 1)) && prs w (w * h) f i) = mk (fun i => (decide (i < 6 * a + b) && prs w (w * h) f i) || decide (i = 6 * a + b)) from mk_cong (fun i _ => by rw [hs i, h49, Bool.and_true])]
      refine PW.ige rfl trivial (fun h7 => ?_) (fun h7 => ?_)
      · skip
        rw [i6 (by omega)] at h7
        have e9 : a = 6 := by omega
        subst e9
        refine PW.lret rfl rfl trivial ?_
        refine ⟨?_, rfl⟩
        rw [mk_cong (fun i _ => show (decide (i < 6 * 6) && prs w (w * h) f i) = prs w (w * h) f i from by
          unfold prs
          by_cases q : i < 36
          · simp [q]
          · simp [q])]
      · skip
        rw [i6 (by omega)] at h7
        refine PW.funV rfl ⟨trivial, vp_in_nI (by omega) (by decide)⟩ sX5_57 rfl rfl (by decide) rfl (show PF X l mX1_rimOf 0 [.ref 1, .long (M.2 5 (nI a).toNatClampNeg)] G0 M (.long (mk (rim w (w * h) (fun i => decide (f i = a))))) from by rw [nI_clamp (by omega), S a (by omega)]; exact c_rim _ H G (fun i hi => by have := hf.2 i hi; simp; omega)) ?_
        refine PW.to 30 rfl trivial ?_
        rw [nI_1]
        refine PW.lc ?_ (loop30 7 (a + 1) (by omega) (by omega) (by omega) (by omega))
        rw [mk_cong (fun i _ => (prs_a (w := w) (n := w * h) (f := f) (a := a) (i := i)))]
  refine PW.to 4 rfl trivial ?_
  refine PW.lc ?_ (loop4 7 0 (by omega) (by omega))
  rw [show mk (fun i => decide (i < 6 * 0) && prs w (w * h) f i) = 0 from by rw [mk_z]; intro i _; simp]
  rfl
theorem c_prs23 {w h : Nat} (H : Gf w h) (G : Gm w h M) {f : Nat → Nat} (hf : Sw (w * h) f) (S : Sh 24 f M) : PF X l mX5_neighbourPairs 1 [.ref 23] G0 M (.long (mk (prs w (w * h) f))) := by
  refine PF.ofW okX5_neighbourPairs ?_
  have hn := H.n
  have loop4 : ∀ k : Nat, ∀ (a : Nat), a ≤ 6 → 6 - a < k → PW X l mX5_neighbourPairs 1 (fun v M' => v = some (.long (mk (prs w (w * h) f))) ∧ M' = M) 4 [.ref 23, .long (mk (fun i => decide (i < 6 * a) && prs w (w * h) f i)), .null, .int (nI a), .null, .null, .null] [] G0 M := by
    intro k
    induction k with
    | zero => intro a ha hk; exact absurd hk (Nat.not_lt_zero _)
    | succ k ih =>
      intro a ha hk
      have loop30 : ∀ k30 : Nat, ∀ (b : Nat), a < 6 → a < b → b ≤ 6 → 6 - b < k30 → PW X l mX5_neighbourPairs 1 (fun v M' => v = some (.long (mk (prs w (w * h) f))) ∧ M' = M) 30 [.ref 23, .long (mk (fun i => decide (i < 6 * a + b) && prs w (w * h) f i)), .null, .int (nI a), .long (mk (rim w (w * h) (fun i => decide (f i = a)))), .null, .int (nI b)] [] G0 M := by
        intro k30
        induction k30 with
        | zero => intro b ha6 hab hb hk3; exact absurd hk3 (Nat.not_lt_zero _)
        | succ k30 ih30 =>
          intro b ha6 hab hb hk3
          refine PW.ige rfl trivial (fun h34 => ?_) (fun h34 => ?_)
          · skip
            rw [i6 (by omega)] at h34
            have e9 : b = 6 := by omega
            subst e9
            refine PW.goto rfl trivial ?_
            rw [nI_1]
            refine PW.nl [4, 6] ?_
            refine PW.lc ?_ (ih (a + 1) (by omega) (by omega))
            rw [show 6 * (a + 1) = 6 * a + 6 by omega]; rfl
          · skip
            rw [i6 (by omega)] at h34
            have hs := fun i => prs_s (w := w) (n := w * h) (f := f) hab (show b < 6 by omega) (i := i)
            refine PW.zeq rfl ⟨trivial, vp_in_nI (by omega) (by decide)⟩ (fun h49 => ?_) (fun h49 => ?_)
            · skip
              rw [lg_cmp_eq, nI_clamp (by omega), S b (by omega), nbr_z hf (by omega) (by omega)] at h49
              refine PW.goto rfl trivial ?_
              rw [nI_1]
              refine PW.lc ?_ (ih30 (b + 1) ha6 (by omega) (by omega) (by omega))
              rw [show mk (fun i => decide (i < 6 * a + (b + 1)) && prs w (w * h) f i) = mk (fun i => decide (i < 6 * a + b) && prs w (w * h) f i) from mk_cong (fun i _ => by rw [hs i, h49, Bool.and_false, Bool.or_false])]
            · skip
              rw [lg_cmp_eq, nI_clamp (by omega), S b (by omega), nbr_z hf (by omega) (by omega), Bool.not_eq_false] at h49
              refine PW.goto rfl trivial ?_
              rw [show (6 : Int32) = nI 6 from rfl, pk_mul, Nat.mul_comm a 6, nI_add, mk_bit (by omega), mk_or, nI_1]
              refine PW.lc ?_ (ih30 (b + 1) ha6 (by omega) (by omega) (by omega))
              rw [show mk (fun i => decide (i < 6 * a + (b + 1)) && prs w (w * h) f i) = mk (fun i => (decide (i < 6 * a + b) && prs w (w * h) f i) || decide (i = 6 * a + b)) from mk_cong (fun i _ => by rw [hs i, h49, Bool.and_true])]
      refine PW.ige rfl trivial (fun h7 => ?_) (fun h7 => ?_)
      · skip
        rw [i6 (by omega)] at h7
        have e9 : a = 6 := by omega
        subst e9
        refine PW.lret rfl rfl trivial ?_
        refine ⟨?_, rfl⟩
        rw [mk_cong (fun i _ => show (decide (i < 6 * 6) && prs w (w * h) f i) = prs w (w * h) f i from by
          unfold prs
          by_cases q : i < 36
          · simp [q]
          · simp [q])]
      · skip
        rw [i6 (by omega)] at h7
        refine PW.funV rfl ⟨trivial, vp_in_nI (by omega) (by decide)⟩ sX5_57 rfl rfl (by decide) rfl (show PF X l mX1_rimOf 0 [.ref 1, .long (M.2 24 (nI a).toNatClampNeg)] G0 M (.long (mk (rim w (w * h) (fun i => decide (f i = a))))) from by rw [nI_clamp (by omega), S a (by omega)]; exact c_rim _ H G (fun i hi => by have := hf.2 i hi; simp; omega)) ?_
        refine PW.to 30 rfl trivial ?_
        rw [nI_1]
        refine PW.lc ?_ (loop30 7 (a + 1) (by omega) (by omega) (by omega) (by omega))
        rw [mk_cong (fun i _ => (prs_a (w := w) (n := w * h) (f := f) (a := a) (i := i)))]
  refine PW.to 4 rfl trivial ?_
  refine PW.lc ?_ (loop4 7 0 (by omega) (by omega))
  rw [show mk (fun i => decide (i < 6 * 0) && prs w (w * h) f i) = 0 from by rw [mk_z]; intro i _; simp]
  rfl
theorem c_low (P : Nat → Bool) : PF X l mX7_lowestCell 1 [.long (mk P)] G0 M (.int (ob (fnd P 64))) := by
  refine PF.ofW okX7_lowestCell ?_
  refine PW.zne rfl trivial (fun h3 => ?_) (fun h3 => ?_)
  · skip
    rw [lg_cmp_eq] at h3
    obtain ⟨c, hc⟩ := Lst.ex h3
    have hc64 := hc.1
    refine PW.funS rfl trivial sX7_117 rfl (by decide) rfl (show PF X l mJ13_bitCount_95d88 0 [.long ((mk P &&& -mk P) - 1)] G0 M (.int (nI c)) from by rw [mk_low hc, mk_below hc.1, show nI c = nI (fb_ct (fun i => decide (i < c)) 64) from by rw [ct_below c 64 (by omega)]]; exact j_bitCount _) ?_
    refine PW.iret rfl rfl trivial ?_
    first | exact ⟨by rw [hz]; rfl, rfl⟩ | exact ⟨by rw [lst_fnd hc]; rfl, rfl⟩
  · skip
    rw [lg_cmp_eq, mk_z] at h3
    have hz : fnd P 64 = none := fnd_none.mpr h3
    refine PW.goto rfl trivial ?_
    refine PW.iret rfl rfl trivial ?_
    first | exact ⟨by rw [hz]; rfl, rfl⟩ | exact ⟨by rw [lst_fnd hc]; rfl, rfl⟩
theorem c_lead (a b c : Nat) (ha : a < 2 ^ 31) (hb : b < 2 ^ 31) (hc : c < 2 ^ 31) : PF X l mX7_leaderOf 0 [.int (nI a), .int (nI b), .int (nI c)] G0 M (.int (mos a b c)) := by
  refine PF.ofW okX7_leaderOf ?_
  refine PW.ile rfl trivial (fun h2 => ?_) (fun h2 => ?_)
  · skip
    rw [nI_leI (by omega) (by omega)] at h2
    refine PW.ile rfl trivial (fun h14 => ?_) (fun h14 => ?_)
    · skip
      rw [nI_leI (by omega) (by omega)] at h14
      refine PW.ile rfl trivial (fun h26 => ?_) (fun h26 => ?_)
      · skip
        rw [nI_leI (by omega) (by omega)] at h26
        refine PW.iret rfl rfl trivial ?_
        refine ⟨?_, rfl⟩
        unfold mos
        split
        · first | rfl | omega
        · split
          · first | rfl | omega
          · split
            · first | rfl | omega
            · first | rfl | omega
      · skip
        rw [nI_leI (by omega) (by omega)] at h26
        refine PW.ile rfl trivial (fun h31 => ?_) (fun h31 => ?_)
        · skip
          rw [nI_leI (by omega) (by omega)] at h31
          refine PW.iret rfl rfl trivial ?_
          refine ⟨?_, rfl⟩
          unfold mos
          split
          · first | rfl | omega
          · split
            · first | rfl | omega
            · split
              · first | rfl | omega
              · first | rfl | omega
        · skip
          rw [nI_leI (by omega) (by omega)] at h31
          refine PW.goto rfl trivial ?_
          refine PW.iret rfl rfl trivial ?_
          refine ⟨?_, rfl⟩
          unfold mos
          split
          · first | rfl | omega
          · split
            · first | rfl | omega
            · split
              · first | rfl | omega
              · first | rfl | omega
    · skip
      rw [nI_leI (by omega) (by omega)] at h14
      refine PW.ile rfl trivial (fun h19 => ?_) (fun h19 => ?_)
      · skip
        rw [nI_leI (by omega) (by omega)] at h19
        refine PW.ile rfl trivial (fun h26 => ?_) (fun h26 => ?_)
        · skip
          rw [nI_leI (by omega) (by omega)] at h26
          refine PW.iret rfl rfl trivial ?_
          refine ⟨?_, rfl⟩
          unfold mos
          split
          · first | rfl | omega
          · split
            · first | rfl | omega
            · split
              · first | rfl | omega
              · first | rfl | omega
        · skip
          rw [nI_leI (by omega) (by omega)] at h26
          refine PW.ile rfl trivial (fun h31 => ?_) (fun h31 => ?_)
          · skip
            rw [nI_leI (by omega) (by omega)] at h31
            refine PW.iret rfl rfl trivial ?_
            refine ⟨?_, rfl⟩
            unfold mos
            split
            · first | rfl | omega
            · split
              · first | rfl | omega
              · split
                · first | rfl | omega
                · first | rfl | omega
          · skip
            rw [nI_leI (by omega) (by omega)] at h31
            refine PW.goto rfl trivial ?_
            refine PW.iret rfl rfl trivial ?_
            refine ⟨?_, rfl⟩
            unfold mos
            split
            · first | rfl | omega
            · split
              · first | rfl | omega
              · split
                · first | rfl | omega
                · first | rfl | omega
      · skip
        rw [nI_leI (by omega) (by omega)] at h19
        refine PW.iret rfl rfl trivial ?_
        refine ⟨?_, rfl⟩
        unfold mos
        split
        · first | rfl | omega
        · split
          · first | rfl | omega
          · split
            · first | rfl | omega
            · first | rfl | omega
  · skip
    rw [nI_leI (by omega) (by omega)] at h2
    refine PW.ile rfl trivial (fun h7 => ?_) (fun h7 => ?_)
    · skip
      rw [nI_leI (by omega) (by omega)] at h7
      refine PW.ile rfl trivial (fun h14 => ?_) (fun h14 => ?_)
      · skip
        rw [nI_leI (by omega) (by omega)] at h14
        refine PW.ile rfl trivial (fun h26 => ?_) (fun h26 => ?_)
        · skip
          rw [nI_leI (by omega) (by omega)] at h26
          refine PW.iret rfl rfl trivial ?_
          refine ⟨?_, rfl⟩
          unfold mos
          split
          · first | rfl | omega
          · split
            · first | rfl | omega
            · split
              · first | rfl | omega
              · first | rfl | omega
        · skip
          rw [nI_leI (by omega) (by omega)] at h26
          refine PW.ile rfl trivial (fun h31 => ?_) (fun h31 => ?_)
          · skip
            rw [nI_leI (by omega) (by omega)] at h31
            refine PW.iret rfl rfl trivial ?_
            refine ⟨?_, rfl⟩
            unfold mos
            split
            · first | rfl | omega
            · split
              · first | rfl | omega
              · split
                · first | rfl | omega
                · first | rfl | omega
          · skip
            rw [nI_leI (by omega) (by omega)] at h31
            refine PW.goto rfl trivial ?_
            refine PW.iret rfl rfl trivial ?_
            refine ⟨?_, rfl⟩
            unfold mos
            split
            · first | rfl | omega
            · split
              · first | rfl | omega
              · split
                · first | rfl | omega
                · first | rfl | omega
      · skip
        rw [nI_leI (by omega) (by omega)] at h14
        refine PW.ile rfl trivial (fun h19 => ?_) (fun h19 => ?_)
        · skip
          rw [nI_leI (by omega) (by omega)] at h19
          refine PW.ile rfl trivial (fun h26 => ?_) (fun h26 => ?_)
          · skip
            rw [nI_leI (by omega) (by omega)] at h26
            refine PW.iret rfl rfl trivial ?_
            refine ⟨?_, rfl⟩
            unfold mos
            split
            · first | rfl | omega
            · split
              · first | rfl | omega
              · split
                · first | rfl | omega
                · first | rfl | omega
          · skip
            rw [nI_leI (by omega) (by omega)] at h26
            refine PW.ile rfl trivial (fun h31 => ?_) (fun h31 => ?_)
            · skip
              rw [nI_leI (by omega) (by omega)] at h31
              refine PW.iret rfl rfl trivial ?_
              refine ⟨?_, rfl⟩
              unfold mos
              split
              · first | rfl | omega
              · split
                · first | rfl | omega
                · split
                  · first | rfl | omega
                  · first | rfl | omega
            · skip
              rw [nI_leI (by omega) (by omega)] at h31
              refine PW.goto rfl trivial ?_
              refine PW.iret rfl rfl trivial ?_
              refine ⟨?_, rfl⟩
              unfold mos
              split
              · first | rfl | omega
              · split
                · first | rfl | omega
                · split
                  · first | rfl | omega
                  · first | rfl | omega
        · skip
          rw [nI_leI (by omega) (by omega)] at h19
          refine PW.iret rfl rfl trivial ?_
          refine ⟨?_, rfl⟩
          unfold mos
          split
          · first | rfl | omega
          · split
            · first | rfl | omega
            · split
              · first | rfl | omega
              · first | rfl | omega
    · skip
      rw [nI_leI (by omega) (by omega)] at h7
      refine PW.iret rfl rfl trivial ?_
      refine ⟨?_, rfl⟩
      unfold mos
      split
      · first | rfl | omega
      · split
        · first | rfl | omega
        · split
          · first | rfl | omega
          · first | rfl | omega
theorem c_sht0 (on : Int32) (hon : on = 0) : PF X l mX7_sheetOf 0 [.ref 0, .int on] G0 M (.ref 2) := by
  refine PF.ofW okX7_sheetOf ?_
  refine PW.zeq rfl trivial (fun h1 => ?_) (fun h1 => ?_)
  · skip
    refine PW.aret rfl rfl trivial ?_
    exact ⟨rfl, rfl⟩
  · exact absurd hon h1
theorem c_sht1 (on : Int32) (hon : ¬ on = 0) : PF X l mX7_sheetOf 0 [.ref 0, .int on] G0 M (.ref 4) := by
  refine PF.ofW okX7_sheetOf ?_
  refine PW.zeq rfl trivial (fun h1 => ?_) (fun h1 => ?_)
  · exact absurd h1 hon
  · skip
    refine PW.goto rfl trivial ?_
    refine PW.aret rfl rfl trivial ?_
    exact ⟨rfl, rfl⟩
theorem c_lay {w h : Nat} (H : Gf w h) : PC X l mX1_lay 0 [.ref 1, .int (nI w), .int (nI h)] G0 M (fun v M' => v = none ∧ FC [1] [1] M M' ∧ Gm w h M') := by
  refine PC.ofW okX1_lay ?_
  have hn := H.n
  have hw := H.1
  have hw6 := H.2.1
  have hh := H.2.2.1
  have hh6 := H.2.2.2
  have loop28 : ∀ k : Nat, ∀ (j : Nat) (M2 : Mem), j ≤ h → FC [1] [1] M M2 → M2.1 1 0 = nI w → M2.1 1 1 = nI h → M2.2 1 2 = mk (fun i => decide (i < w * h)) → M2.2 1 3 = mk (fun i => decide (i < w * j ∧ i % w = 0)) → h - j < k → PW X l mX1_lay 0 (fun v M' => v = none ∧ FC [1] [1] M M' ∧ Gm w h M') 28 [.ref 1, .int (nI w), .int (nI h), .int (nI j)] [] G0 M2 := by
    intro k
    induction k with
    | zero => intro j M2 hj hF g1 g2 g3 g4 hk; exact absurd hk (Nat.not_lt_zero _)
    | succ k ih =>
      intro j M2 hj hF g1 g2 g3 g4 hk
      refine PW.ige rfl trivial (fun h30 => ?_) (fun h30 => ?_)
      · skip
        rw [nI_leI (by omega) (by omega)] at h30
        have e9 : j = h := by omega
        subst e9
        refine PW.vret rfl rfl trivial ?_
        refine ⟨rfl, hF.pl, g1, g2, (upL_n (by decide)).trans g3, (upL_n (by decide)).trans g4, ?_⟩
        rw [upL_s, g4, nI_m1 (by omega), mk_shl (by omega)]
        exact mk_cong (fun i hi => lay_e w (by omega) hw j (by omega) hh i hi)
      · skip
        rw [nI_leI (by omega) (by omega)] at h30
        have hjw : j * w ≤ 5 * 6 := Nat.mul_le_mul (by omega) hw6
        refine PW.goto rfl trivial ?_
        rw [nI_1]
        refine ih (j + 1) _ (by omega) hF.pl g1 g2 ((upL_n (by decide)).trans g3) ?_ (by omega)
        rw [upL_s, g4, pk_mul, mk_bit (by omega), mk_or]
        exact mk_cong (fun i hi => lay_w w (by omega) hw j (by omega) i hi)
  refine PW.to 28 rfl trivial ?_
  refine loop28 (h + 1) 0 _ (Nat.zero_le _) (((FC.rf.pi).pi).pl.pl) rfl rfl ?_ ?_ (by omega)
  · show (_ : Int64) - 1 = _
    rw [pk_mul, mk_bit (by omega), mk_below (by omega)]
  · show (0 : Int64) = _
    rw [mk_0]
    exact mk_cong (fun i _ => by simp)
theorem c_boxed (c e : Nat) {w h : Nat} (H : Gf w h) (G : Gm w h M) (hc : c < w * h) (he : e < w * h) (h1 : c % w ≤ e % w) (h2 : c / w ≤ e / w) : PF X l mX1_boxed 1 [.ref 1, .int (nI c), .int (nI e)] G0 M (.long (mk (inbox w c e))) := by
  refine PF.ofW okX1_boxed ?_
  have hn := H.n
  have hw := H.1
  have hw6 := H.2.1
  have hem := Nat.mod_lt e (show 0 < w by omega)
  have hed := Nat.div_lt_of_lt_mul he
  have hh6 := H.2.2.2
  have loop9 : ∀ k : Nat, ∀ (r : Nat), c / w ≤ r → r ≤ e / w + 1 → e / w + 1 - r < k → PW X l mX1_boxed 1 (fun v M' => v = some (.long (mk (inbox w c e))) ∧ M' = M) 9 [.ref 1, .int (nI c), .int (nI e), .long (mk (fun i => inbox w c e i && decide (i / w < r))), .null, .int (nI r), .null] [] G0 M := by
    intro k
    induction k with
    | zero => intro r hr1 hr2 hk; exact absurd hk (Nat.not_lt_zero _)
    | succ k ih =>
      intro r hr1 hr2 hk
      have loop26 : ∀ k26 : Nat, ∀ (q : Nat), r ≤ e / w → c % w ≤ q → q ≤ e % w + 1 → e % w + 1 - q < k26 → PW X l mX1_boxed 1 (fun v M' => v = some (.long (mk (inbox w c e))) ∧ M' = M) 26 [.ref 1, .int (nI c), .int (nI e), .long (mk (fun i => inbox w c e i && (decide (i / w < r) || (decide (i / w = r) && decide (i % w < q))))), .null, .int (nI r), .int (nI q)] [] G0 M := by
        intro k26
        induction k26 with
        | zero => intro q hre hq1 hq2 hk3; exact absurd hk3 (Nat.not_lt_zero _)
        | succ k26 ih26 =>
          intro q hre hq1 hq2 hk3
          refine PW.funV rfl trivial sX1_36 rfl rfl (by decide) rfl (c_col e (by omega) H G) ?_
          refine PW.igt rfl trivial (fun h33 => ?_) (fun h33 => ?_)
          · skip
            rw [nI_ltI (by omega) (by omega)] at h33
            have e9 : q = e % w + 1 := by omega
            subst e9
            refine PW.goto rfl trivial ?_
            rw [nI_1]
            refine PW.nl [6] ?_
            refine PW.lc ?_ (ih (r + 1) (by omega) (by omega) (by omega))
            rw [mk_cong (fun i _ => show (inbox w c e i && (decide (i / w < r) || (decide (i / w = r) && decide (i % w < e % w + 1)))) = (inbox w c e i && decide (i / w < r + 1)) from by
              by_cases z : i % w ≤ e % w
              · have : i % w < e % w + 1 := by omega
                congr 1
                rw [Bool.eq_iff_iff]; simp [this]; omega
              · unfold inbox; simp [z])]; rfl
          · skip
            rw [nI_ltI (by omega) (by omega)] at h33
            have hrw : r * w ≤ 5 * 6 := Nat.mul_le_mul (by omega) hw6
            refine PW.goto rfl trivial ?_
            rw [G.1, pk_mul, nI_add, mk_bit (by omega), mk_or, nI_1]
            refine PW.lc ?_ (ih26 (q + 1) hre (by omega) (by omega) (by omega))
            rw [mk_cong (fun i _ => (box_s (w := w) (c := c) (e := e) (r := r) (q := q) (by omega) ⟨hq1, by omega⟩ ⟨hr1, hre⟩ (i := i)).symm)]
      refine PW.funV rfl trivial sX1_45 rfl rfl (by decide) rfl (c_row e (by omega) H G) ?_
      refine PW.igt rfl trivial (fun h16 => ?_) (fun h16 => ?_)
      · skip
        rw [nI_ltI (by omega) (by omega)] at h16
        have e9 : r = e / w + 1 := by omega
        subst e9
        refine PW.lret rfl rfl trivial ?_
        refine ⟨?_, rfl⟩
        rw [mk_cong (fun i _ => show (inbox w c e i && decide (i / w < e / w + 1)) = inbox w c e i from by
          unfold inbox
          by_cases q : i / w ≤ e / w
          · have : i / w < e / w + 1 := by omega
            simp [this]
          · simp [q])]
      · skip
        rw [nI_ltI (by omega) (by omega)] at h16
        refine PW.funV rfl trivial sX1_36 rfl rfl (by decide) rfl (c_col c (by omega) H G) ?_
        refine PW.to 26 rfl trivial ?_
        refine PW.lc ?_ (loop26 (e % w + 2) (c % w) (by omega) (Nat.le_refl _) (by omega) (by omega))
        rw [mk_cong (fun i _ => show (inbox w c e i && (decide (i / w < r) || (decide (i / w = r) && decide (i % w < c % w)))) = (inbox w c e i && decide (i / w < r)) from by
          unfold inbox
          by_cases q : c % w ≤ i % w
          · have : ¬ i % w < c % w := by omega
            simp [this]
          · simp [q])]
  refine PW.funV rfl trivial sX1_45 rfl rfl (by decide) rfl (c_row c (by omega) H G) ?_
  refine PW.to 9 rfl trivial ?_
  refine PW.lc ?_ (loop9 (e / w + 2) (c / w) (Nat.le_refl _) (by omega) (by have := Nat.sub_le (e / w + 1) (c / w); omega))
  rw [show mk (fun i => inbox w c e i && decide (i / w < c / w)) = 0 from by rw [mk_z]; intro i _; unfold inbox; by_cases q : c / w ≤ i / w <;> simp [q]]
end C2
