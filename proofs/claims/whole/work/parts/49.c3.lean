-- made by wip/whole/mk_c3.py
section C3
variable {X : Cx} {l : Launch} {M : Mem}
theorem set1_back {dr : Nat → Nat} {c lv : Nat} : set1 (set1 dr c lv) c (dr c) = dr := by funext x; simp only [set1]; split <;> simp_all
theorem c_allH {hd : Nat → Nat} {wy : Nat} (Hd : Hf hd wy) (C : Cm hd wy M) : PF X l mX0_allHeads 0 [.ref 6] G0 M (.int (nI (fb_sm hd 6))) := by
  refine PF.ofW okX0_allHeads ?_
  have loop4 : ∀ k : Nat, ∀ (j : Nat), j ≤ 6 → 6 - j < k → PW X l mX0_allHeads 0 (fun v M' => v = some (.int (nI (fb_sm hd 6))) ∧ M' = M) 4 [.ref 6, .int (nI (fb_sm hd j)), .int (nI j)] [] G0 M := by
    intro k
    induction k with
    | zero => intro j hj hk; exact absurd hk (Nat.not_lt_zero _)
    | succ k ih =>
      intro j hj hk
      refine PW.ige rfl trivial (fun h7 => ?_) (fun h7 => ?_)
      · skip
        rw [i6 (by omega)] at h7
        have e9 : j = 6 := by omega
        subst e9
        refine PW.iret rfl rfl trivial ?_
        exact ⟨rfl, rfl⟩
      · skip
        rw [i6 (by omega)] at h7
        refine PW.goto rfl ⟨trivial, vp_in_nI (by omega) (by decide)⟩ ?_
        rw [nI_clamp (by omega), C.2 j (by omega), nI_add, nI_1]
        exact ih (j + 1) (by omega) (by omega)
  refine PW.to 4 rfl trivial ?_
  exact loop4 7 0 (by omega) (by omega)
theorem c_divi {wy : Nat} (hw : M.1 6 3 = nI wy) (j d : Nat) (hj : j < 6) (hd : M.1 8 j = nI d) : PF X l mX0_divisorOf 0 [.ref 6, .int (nI j)] G0 M (.int (nI (wy * d + 1))) := by
  refine PF.ofW okX0_divisorOf ?_
  refine PW.iret rfl rfl ⟨trivial, vp_in_nI (by omega) (by decide)⟩ ?_
  exact ⟨by rw [nI_clamp (by omega), hd, hw, pk_mul, nI_1], rfl⟩
theorem c_rests {hd : Nat → Nat} {wy : Nat} (Hd : Hf hd wy) (C : Cm hd wy M) (hw : wy = 0) (n : Nat) (hn : n ≤ 36) (h0 : ∀ j, j < 6 → M.1 8 j = 0) : PC X l mX0_shareByRests 1 [.ref 6, .int (nI n)] G0 M (fun v M' => v = none ∧ FC [8, 9] [] M M' ∧ ∀ j, j < 6 → M'.1 8 j = nI (due hd wy n j)) := by
  refine PC.ofW okX0_shareByRests ?_
  obtain ⟨A, eA⟩ : ∃ A, A = fb_sm hd 6 := ⟨_, rfl⟩
  have hA5 : A ≤ 5994 := by rw [eA]; exact sm_le Hd.2 6
  have loop78 : ∀ k : Nat, ∀ (g s : Nat) (M2 : Mem), A ≠ 0 → left0 hd n = s → g ≤ s → FC [8, 9] [] M M2 → (∀ j, j < 6 → M2.1 8 j = nI (dst hd 0 n g j)) → (∀ j, j < 6 → M2.1 9 j = (if (shm (fun l => hd l * n % A) g).testBit j = true then (-1 : Int32) else nI (hd j * n % A))) → s - g < k → PW X l mX0_shareByRests 1 (fun v M' => v = none ∧ FC [8, 9] [] M M' ∧ ∀ j, j < 6 → M'.1 8 j = nI (due hd wy n j)) 78 [.ref 6, .int (nI n), .int (nI A), .int (nI s), .int (nI g), .null, .null] [] G0 M2 := by
    intro k
    induction k with
    | zero => intro g s M2 hA0 el hg hF hz hr hk; exact absurd hk (Nat.not_lt_zero _)
    | succ k ih =>
      intro g s M2 hA0 el hg hF hz hr hk
      have hs6 := (left0_lt (n := n) (hd := hd) (by rw [← eA]; exact hA0)).1
      have loop90 : ∀ k90 : Nat, ∀ (j : Nat), g < s → 1 ≤ j → j ≤ 6 → 6 - j < k90 → PW X l mX0_shareByRests 1 (fun v M' => v = none ∧ FC [8, 9] [] M M' ∧ ∀ j, j < 6 → M'.1 8 j = nI (due hd wy n j)) 90 [.ref 6, .int (nI n), .int (nI A), .int (nI s), .int (nI g), .int (nI ((pg (fun a b => decide ((fun l => hd l * n % A) b < (fun l => hd l * n % A) a)) (fun l => !(fun l => (shm (fun l => hd l * n % A) g).testBit l) l) j).getD 0)), .int (nI j)] [] G0 M2 := by
        intro k90
        induction k90 with
        | zero => intro j hgs hj1 hj hk3; exact absurd hk3 (Nat.not_lt_zero _)
        | succ k90 ih90 =>
          intro j hgs hj1 hj hk3
          have hpr := pick_r (r := fun l => hd l * n % A) (m := fun l => (shm (fun l => hd l * n % A) g).testBit l) (fun l => by
            have h1 := mul_lt (b := 0) (Hd.2 l) hn
            have := Nat.mod_le (hd l * n) A
            omega) hj1 rfl
          have hx6 : (pg (fun a b => decide ((fun l => hd l * n % A) b < (fun l => hd l * n % A) a)) (fun l => !(fun l => (shm (fun l => hd l * n % A) g).testBit l) l) j).getD 0 < 6 := by
            cases e : (pg (fun a b => decide ((fun l => hd l * n % A) b < (fun l => hd l * n % A) a)) (fun l => !(fun l => (shm (fun l => hd l * n % A) g).testBit l) l) j) with
            | none => simp
            | some b => have := (pg_lt e).1; simp; omega
          refine PW.ige rfl trivial (fun h94 => ?_) (fun h94 => ?_)
          · skip
            rw [i6 (by omega)] at h94
            have e9 : j = 6 := by omega
            subst e9
            obtain ⟨b, hb6, hbp⟩ := d_some (hd := hd) (wy := 0) (n := n) (i := g) (by rw [← eA]; exact hA0) (by simp only [dlf, if_true, el]; exact hgs)
            have hbq : (pg (fun a b => decide ((fun l => hd l * n % A) b < (fun l => hd l * n % A) a)) (fun l => !(fun l => (shm (fun l => hd l * n % A) g).testBit l) l) 6) = some b := by rw [eA]; exact hbp
            have hds := fun l => d_step hbp l
            rw [hbq, Option.getD_some]
            refine PW.goto rfl ⟨⟨⟨trivial, vp_in_nI (by omega) (by decide)⟩, vp_in_nI (by omega) (by decide)⟩, vp_in_nI (by omega) (by decide)⟩ ?_
            dsimp only
            rw [nI_clamp (by omega), hz b hb6, nI_1, nI_1]
            refine PW.nl [5, 6] ?_
            refine ih (g + 1) s _ hA0 el (by omega) (FC.pi (M2 := (_, _)) (hF.pi)) (fun j hj => ?_) (fun j hj => ?_) (by omega)
            · refine Eq.trans (congrFun (up_o (by decide)) j) ?_
              rw [hds j]
              by_cases q : j = b
              · subst q; rw [if_pos rfl, up_same]
              · rw [if_neg q, up_ne q]; exact hz j hj
            · have hx := shm_nx (r := fun l => hd l * n % A) (g := g) hbq j
              by_cases q : j = b
              · subst q
                rw [hx]
                refine Eq.trans up_s ?_
                simp
              · rw [hx]
                refine (up_n q).trans ?_
                rw [up_x (by decide), hr j hj]
                simp [q]
          · skip
            rw [i6 (by omega)] at h94
            refine PW.ile rfl ⟨⟨trivial, vp_in_nI (by omega) (by decide)⟩, vp_in_nI (by omega) (by decide)⟩ (fun h111 => ?_) (fun h111 => ?_)
            · skip
              rw [nI_clamp (by omega), nI_clamp (by omega), hr j (by omega), hr _ hx6] at h111
              have hnx := hpr.1 h111
              refine PW.goto rfl trivial ?_
              rw [nI_1]
              refine PW.lc ?_ (ih90 (j + 1) hgs (by omega) (by omega) (by omega))
              rw [hnx]
            · skip
              rw [nI_clamp (by omega), nI_clamp (by omega), hr j (by omega), hr _ hx6] at h111
              have hnx := hpr.2 h111
              refine PW.goto rfl trivial ?_
              rw [nI_1]
              refine PW.lc ?_ (ih90 (j + 1) hgs (by omega) (by omega) (by omega))
              rw [hnx]
      refine PW.ige rfl trivial (fun h81 => ?_) (fun h81 => ?_)
      · skip
        rw [nI_leI (by omega) (by omega)] at h81
        have e9 : g = s := by omega
        subst e9
        refine PW.vret rfl rfl trivial ?_
        refine ⟨rfl, hF, fun j hj => ?_⟩
        rw [hz j hj, hw, ← d_end (wy := 0) (by rw [← eA]; exact hA0)]
        simp only [dlf, if_true, el]
      · skip
        rw [nI_leI (by omega) (by omega)] at h81
        refine PW.to 90 rfl trivial ?_
        refine PW.lc ?_ (loop90 7 1 (by omega) (by omega) (by omega) (by omega))
        rw [show ((pg (fun a b => decide ((fun l => hd l * n % A) b < (fun l => hd l * n % A) a)) (fun l => !(fun l => (shm (fun l => hd l * n % A) g).testBit l) l) 1)).getD 0 = 0 from by simp only [pg]; split <;> simp_all]; rfl
  have loop16 : ∀ k : Nat, ∀ (i s : Nat) (M2 : Mem), A ≠ 0 → i ≤ 6 → s + fb_sm (fun l => hd l * n / A) i = n → FC [8, 9] [] M M2 → (∀ j, j < i → M2.1 8 j = nI (hd j * n / A) ∧ M2.1 9 j = nI (hd j * n % A)) → 6 - i < k → PW X l mX0_shareByRests 1 (fun v M' => v = none ∧ FC [8, 9] [] M M' ∧ ∀ j, j < 6 → M'.1 8 j = nI (due hd wy n j)) 16 [.ref 6, .int (nI n), .int (nI A), .int (nI s), .int (nI i), .null, .null] [] G0 M2 := by
    intro k
    induction k with
    | zero => intro i s M2 hA0 hi hs hF hz hk; exact absurd hk (Nat.not_lt_zero _)
    | succ k ih =>
      intro i s M2 hA0 hi hs hF hz hk
      refine PW.ige rfl trivial (fun h20 => ?_) (fun h20 => ?_)
      · skip
        rw [i6 (by omega)] at h20
        have e9 : i = 6 := by omega
        subst e9
        refine PW.to 78 rfl trivial ?_
        have el : left0 hd n = s := by unfold left0; rw [← eA]; omega
        refine loop78 (s + 1) 0 s M2 hA0 el (by omega) hF (fun j hj => ?_) (fun j hj => ?_) (by omega)
        · rw [(hz j hj).1]; congr 1; simp only [dst, if_true, shm, ← eA]; simp
        · rw [(hz j hj).2]; simp [shm]
      · skip
        rw [i6 (by omega)] at h20
        refine PW.goto rfl ⟨⟨⟨⟨⟨⟨⟨trivial, vp_in_nI (by omega) (by decide)⟩, nI_ne0 (by omega) (by omega)⟩, vp_in_nI (by omega) (by decide)⟩, vp_in_nI (by omega) (by decide)⟩, nI_ne0 (by omega) (by omega)⟩, vp_in_nI (by omega) (by decide)⟩, vp_in_nI (by omega) (by decide)⟩ ?_
        have h1 := mul_lt (b := 0) (Hd.2 i) hn
        have h2 : hd i * n / A ≤ s := by
          have h3 := (left0_lt (n := n) (hd := hd) (by rw [← eA]; exact hA0)).2
          rw [← eA] at h3
          have h4 := fb_sm_part (fun l => hd l * n / A) (show i < 6 by omega)
          omega
        have e7 : M2.1 7 i = nI (hd i) := by rw [hF.i 7]; exact C.2 i (by omega)
        dsimp only
        rw [nI_clamp (by omega), up_x (b := 7) (a := 8) (by decide), e7, pk_mul, pk_rem (by omega) (by omega) (by omega), pk_div (by omega) (by omega) (by omega), up_x (b := 8) (a := 9) (by decide), up_same, pk_sub h2, nI_1]
        refine ih (i + 1) _ _ hA0 (by omega) (by simp only [fb_sm]; omega) (FC.pi (M2 := (_, _)) (hF.pi)) (fun j hj => ?_) (by omega)
        by_cases q : j = i
        · subst q
          refine ⟨?_, up_s⟩
          exact Eq.trans (congrFun (up_o (by decide)) j) up_same
        · have := hz j (by omega)
          refine ⟨?_, (up_n q).trans (by rw [up_x (by decide)]; exact this.2)⟩
          exact Eq.trans (congrFun (up_o (by decide)) j) ((up_ne q).trans this.1)
  refine PW.funV rfl trivial sX0_38 rfl rfl (by decide) rfl (c_allH Hd C) ?_
  rw [← eA]
  refine PW.ige rfl trivial (fun h7 => ?_) (fun h7 => ?_)
  · skip
    rw [show (1 : Int32) = nI 1 from rfl, nI_leI (by omega) (by omega)] at h7
    have hA0 : A ≠ 0 := by omega
    refine PW.to 16 rfl trivial ?_
    exact loop16 7 0 n M hA0 (by omega) (by simp [fb_sm]) FC.rf (fun j hj => absurd hj (Nat.not_lt_zero j)) (by omega)
  · skip
    rw [show (1 : Int32) = nI 1 from rfl, nI_leI (by omega) (by omega)] at h7
    refine PW.vret rfl rfl trivial ?_
    exact ⟨rfl, FC.rf, fun j hj => by rw [h0 j hj]; unfold due; rw [if_pos (by omega)]; rfl⟩
theorem c_divs {hd : Nat → Nat} {wy : Nat} (Hd : Hf hd wy) (C : Cm hd wy M) (hw : wy ≠ 0) (n : Nat) (hn : n ≤ 36) (h0 : ∀ j, j < 6 → M.1 8 j = 0) : PC X l mX0_shareByDivisors 1 [.ref 6, .int (nI n)] G0 M (fun v M' => v = none ∧ FC [8] [] M M' ∧ ∀ j, j < 6 → M'.1 8 j = nI (due hd wy n j)) := by
  refine PC.ofW okX0_shareByDivisors ?_
  obtain ⟨A, eA⟩ : ∃ A, A = fb_sm hd 6 := ⟨_, rfl⟩
  have hA5 : A ≤ 5994 := by rw [eA]; exact sm_le Hd.2 6
  have hwy := Hd.1
  have loop11 : ∀ k : Nat, ∀ (g : Nat) (M2 : Mem), A ≠ 0 → g ≤ n → FC [8] [] M M2 → (∀ j, j < 6 → M2.1 8 j = nI (shd hd wy g j)) → n - g < k → PW X l mX0_shareByDivisors 1 (fun v M' => v = none ∧ FC [8] [] M M' ∧ ∀ j, j < 6 → M'.1 8 j = nI (due hd wy n j)) 11 [.ref 6, .int (nI n), .int (nI g), .null, .null] [] G0 M2 := by
    intro k
    induction k with
    | zero => intro g M2 hA0 hg hF hz hk; exact absurd hk (Nat.not_lt_zero _)
    | succ k ih =>
      intro g M2 hA0 hg hF hz hk
      have hd36 : ∀ a, a < 6 → shd hd wy g a ≤ 36 := fun a ha => by have := shd_le hd wy g a ha; omega
      have hd72 : ∀ a, a < 6 → wy * shd hd wy g a ≤ 72 := fun a ha => Nat.mul_le_mul hwy (hd36 a ha)
      have hC := C.fc hF
      have hmx : ∀ a b, a < 6 → b < 6 → hd a * (wy * shd hd wy g b + 1) ≤ 999 * 73 := fun a b ha hb => Nat.mul_le_mul (Hd.2 a) (by have := hd72 b hb; omega)
      have loop21 : ∀ k21 : Nat, ∀ (j x : Nat), g < n → 1 ≤ j → j ≤ 6 → pg (fun a b => decide (hd b * (wy * shd hd wy g a + 1) < hd a * (wy * shd hd wy g b + 1))) (fun _ => true) j = some x → 6 - j < k21 → PW X l mX0_shareByDivisors 1 (fun v M' => v = none ∧ FC [8] [] M M' ∧ ∀ j, j < 6 → M'.1 8 j = nI (due hd wy n j)) 21 [.ref 6, .int (nI n), .int (nI g), .int (nI x), .int (nI j)] [] G0 M2 := by
        intro k21
        induction k21 with
        | zero => intro j x hgn hj1 hj hp hk3; exact absurd hk3 (Nat.not_lt_zero _)
        | succ k21 ih21 =>
          intro j x hgn hj1 hj hp hk3
          have hx6 : x < 6 := by have := (pg_lt hp).1; omega
          have hpd := pick_d hp
          refine PW.ige rfl trivial (fun h25 => ?_) (fun h25 => ?_)
          · skip
            rw [i6 (by omega)] at h25
            have e9 : j = 6 := by omega
            subst e9
            refine PW.goto rfl ⟨⟨trivial, vp_in_nI (by omega) (by decide)⟩, vp_in_nI (by omega) (by decide)⟩ ?_
            rw [nI_clamp (by omega), hz x hx6, nI_1, nI_1]
            refine PW.nl [3, 4] ?_
            refine ih (g + 1) _ hA0 (by omega) hF.pi (fun j hj => ?_) (by omega)
            have e8 : shd hd wy (g + 1) j = if j = x then shd hd wy g j + 1 else shd hd wy g j := by simp only [shd, hp]
            rw [e8]
            by_cases q : j = x
            · subst q; rw [if_pos rfl, up_s]
            · rw [if_neg q]; exact (up_n q).trans (hz j hj)
          · skip
            rw [i6 (by omega)] at h25
            have m1 := hmx j x (by omega) hx6
            have m2 := hmx x j hx6 (by omega)
            refine PW.funV rfl ⟨trivial, vp_in_nI (by omega) (by decide)⟩ sX0_42 rfl rfl (by decide) rfl (c_divi hC.1 x _ hx6 (hz x hx6)) ?_
            refine PW.funV rfl ⟨trivial, vp_in_nI (by omega) (by decide)⟩ sX0_42 rfl rfl (by decide) rfl (c_divi hC.1 j _ (by omega) (hz j (by omega))) ?_
            refine PW.ile rfl trivial (fun h54 => ?_) (fun h54 => ?_)
            · skip
              rw [nI_clamp (by omega), nI_clamp (by omega), hC.2 j (by omega), hC.2 x hx6, pk_mul, pk_mul, nI_leI (by omega) (by omega)] at h54
              have hnx := hpd.1 (decide_eq_false (by omega))
              refine PW.goto rfl trivial ?_
              rw [nI_1]
              exact ih21 (j + 1) _ hgn (by omega) (by omega) hnx (by omega)
            · skip
              rw [nI_clamp (by omega), nI_clamp (by omega), hC.2 j (by omega), hC.2 x hx6, pk_mul, pk_mul, nI_leI (by omega) (by omega)] at h54
              have hnx := hpd.2 (decide_eq_true (by omega))
              refine PW.goto rfl trivial ?_
              rw [nI_1]
              exact ih21 (j + 1) _ hgn (by omega) (by omega) hnx (by omega)
      refine PW.ige rfl trivial (fun h13 => ?_) (fun h13 => ?_)
      · skip
        rw [nI_leI (by omega) (by omega)] at h13
        have e9 : g = n := by omega
        subst e9
        refine PW.vret rfl rfl trivial ?_
        refine ⟨rfl, hF, fun j hj => ?_⟩
        rw [hz j hj]; unfold due; rw [if_neg (by omega), if_neg hw]
      · skip
        rw [nI_leI (by omega) (by omega)] at h13
        refine PW.to 21 rfl trivial ?_
        exact loop21 7 1 0 (by omega) (by omega) (by omega) pg_1 (by omega)
  refine PW.funV rfl trivial sX0_38 rfl rfl (by decide) rfl (c_allH Hd C) ?_
  rw [← eA]
  refine PW.ige rfl trivial (fun h5 => ?_) (fun h5 => ?_)
  · skip
    rw [show (1 : Int32) = nI 1 from rfl, nI_leI (by omega) (by omega)] at h5
    have hA0 : A ≠ 0 := by omega
    refine PW.to 11 rfl trivial ?_
    exact loop11 (n + 1) 0 M hA0 (by omega) FC.rf (fun j hj => by rw [h0 j hj]; rfl) (by omega)
  · skip
    rw [show (1 : Int32) = nI 1 from rfl, nI_leI (by omega) (by omega)] at h5
    refine PW.vret rfl rfl trivial ?_
    exact ⟨rfl, FC.rf, fun j hj => by rw [h0 j hj]; unfold due; rw [if_pos (by omega)]; rfl⟩
theorem c_shareN {hd : Nat → Nat} {wy : Nat} (Hd : Hf hd wy) (C : Cm hd wy M) (n : Nat) (hn : n ≤ 36) : PC X l mX0_shareOut 2 [.ref 6, .int (nI n)] G0 M (fun v M' => v = none ∧ FC [8, 9] [] M M' ∧ ∀ j, j < 6 → M'.1 8 j = nI (due hd wy n j)) := by
  refine PC.ofW okX0_shareOut ?_
  have hwy := Hd.1
  refine PW.callS rfl trivial sX0_21 rfl (by decide) rfl (j_fill8 0) (fun v5 M5 hq5 => ?_)
  obtain ⟨rfl, rfl⟩ := hq5
  have hF0 : FC [8, 9] [] M (va_up M.1 8 (fun k => if k < 6 then 0 else M.1 8 k), M.2) := FC.rf.pi
  have hC := C.fc hF0
  have hz0 : ∀ j, j < 6 → ((va_up M.1 8 (fun k => if k < 6 then 0 else M.1 8 k), M.2) : Mem).1 8 j = 0 := fun j hj => by simp [va_up, hj]
  refine PW.zne rfl trivial (fun h12 => ?_) (fun h12 => ?_)
  · skip
    have hw : wy ≠ 0 := fun e => h12 (by rw [hC.1, e]; rfl)
    refine PW.callV rfl trivial sX0_35 rfl rfl (by decide) rfl (c_divs Hd hC hw n hn hz0) (fun v25 M25 hq25 => ?_)
    obtain ⟨rfl, hF1, hz1⟩ := hq25
    refine PW.vret rfl rfl trivial ?_
    exact ⟨rfl, hF0.tr hF1.mono, hz1⟩
  · skip
    have hw : wy = 0 := by
      rw [hC.1, show (0 : Int32) = nI 0 from rfl, nI_eq (by omega) (by omega)] at h12
      exact h12
    refine PW.callV rfl trivial sX0_31 rfl rfl (by decide) rfl (c_rests Hd hC hw n hn hz0) (fun v17 M17 hq17 => ?_)
    obtain ⟨rfl, hF1, hz1⟩ := hq17
    refine PW.goto rfl trivial ?_
    refine PW.vret rfl rfl trivial ?_
    exact ⟨rfl, hF0.tr hF1.mono, hz1⟩
theorem c_share {w h : Nat} {mp dr hd : Nat → Nat} {wy : Nat} {vt : Nat → Nat} (F : Sf w h mp dr hd wy vt) (C : CM w h mp dr hd wy vt M) : PC X l mX7_shareOut 3 [.ref 0] G0 M (fun v M' => v = none ∧ FC [8, 9] [] M M' ∧ ∀ j, j < 6 → M'.1 8 j = nI ((due hd wy (w * h - many mp 6 (w * h))) j)) := by
  refine PC.ofW okX7_shareOut ?_
  have hn := F.1.n
  refine PW.funV rfl trivial sX7_186 rfl rfl (by decide) rfl (c_land2 C.2.1) ?_
  refine PW.funS rfl trivial sX7_117 rfl (by decide) rfl (j_bitCount _) ?_
  rw [ct_land F.1.m (by omega)]
  refine PW.callV rfl trivial sX7_233 rfl rfl (by decide) rfl (c_shareN F.2.1 C.2.2.2.1 _ (by omega)) (fun v14 M14 hq14 => ?_)
  obtain ⟨rfl, hF, hz⟩ := hq14
  refine PW.vret rfl rfl trivial ?_
  exact ⟨rfl, hF, hz⟩
theorem c_unlike {w h : Nat} {mp dr hd : Nat → Nat} {wy : Nat} {vt : Nat → Nat} (F : Sf w h mp dr hd wy vt) (C : CM w h mp dr hd wy vt M) : PF X l mX7_unlikeCells 2 [.ref 0] G0 M (.long (mk (fun i => decide (i < w * h) && !decide (mp i = dr i)))) := by
  refine PF.ofW okX7_unlikeCells ?_
  have hn := F.1.n
  have loop4 : ∀ k : Nat, ∀ (j : Nat), j ≤ 7 → 7 - j < k → PW X l mX7_unlikeCells 2 (fun v M' => v = some (.long (mk (fun i => decide (i < w * h) && !decide (mp i = dr i)))) ∧ M' = M) 4 [.ref 0, .long (mk (fun i => decide (i < w * h) && (decide (mp i = dr i) && decide (mp i < j)))), .null, .int (nI j)] [] G0 M := by
    intro k
    induction k with
    | zero => intro j hj hk; exact absurd hk (Nat.not_lt_zero _)
    | succ k ih =>
      intro j hj hk
      refine PW.igt rfl trivial (fun h7 => ?_) (fun h7 => ?_)
      · skip
        rw [show (6 : Int32) = nI 6 from rfl, nI_ltI (by omega) (by omega)] at h7
        have e9 : j = 7 := by omega
        subst e9
        refine PW.lret rfl rfl trivial ?_
        refine ⟨?_, rfl⟩
        rw [C.1.2.2.1, mk_not, mk_and]
        rw [show mk (fun i => decide (i < w * h) && !decide (mp i = dr i)) = mk (fun i => decide (i < w * h) && !((fun i => decide (i < w * h) && (decide (mp i = dr i) && decide (mp i < 7))) i)) from mk_cong (fun i _ => by
          have := F.1.2.2.2.2.1 i
          by_cases q : i < w * h
          · by_cases z : mp i = dr i
            · have : mp i < 7 := by omega
              simp [q, z]; omega
            · simp [q, z]
          · simp [q])]
      · skip
        rw [show (6 : Int32) = nI 6 from rfl, nI_ltI (by omega) (by omega)] at h7
        refine PW.funV rfl trivial sX7_111 rfl rfl (by decide) rfl (c_cells2 j (by omega) F.1.g C.1 F.1.m C.2.1) ?_
        refine PW.funV rfl trivial sX7_111 rfl rfl (by decide) rfl (c_cells4 j (by omega) F.1.g C.1 F.1.d C.2.2.1) ?_
        refine PW.goto rfl trivial ?_
        rw [mk_and, mk_or, nI_1]
        refine PW.lc ?_ (ih (j + 1) (by omega) (by omega))
        rw [show mk (fun i => decide (i < w * h) && (decide (mp i = dr i) && decide (mp i < j + 1))) = mk (fun i => (fun i => decide (i < w * h) && (decide (mp i = dr i) && decide (mp i < j))) i || (cel (w * h) mp j i && cel (w * h) dr j i)) from mk_cong (fun i _ => by
          unfold cel
          rw [Bool.eq_iff_iff]; simp only [Bool.or_eq_true, Bool.and_eq_true, decide_eq_true_eq]; omega)]
  refine PW.to 4 rfl trivial ?_
  refine PW.lc ?_ (loop4 8 0 (by omega) (by omega))
  rw [show mk (fun i => decide (i < w * h) && (decide (mp i = dr i) && decide (mp i < 0))) = 0 from by rw [mk_z]; intro i _; simp]; rfl
theorem c_chg {w h : Nat} {mp dr hd : Nat → Nat} {wy : Nat} {vt : Nat → Nat} (F : Sf w h mp dr hd wy vt) (C : CM w h mp dr hd wy vt M) (c lv : Nat) (hc : c < w * h) (hl : lv ≤ 6) : PF X l mX7_isChange 2 [.ref 0, .int (nI c), .int (nI lv)] G0 M (.int (bo (chg w (w * h) dr c lv))) := by
  refine PF.ofW okX7_isChange ?_
  have hn := F.1.n
  have hd6 := F.1.2.2.2.2.2.1 c
  refine PW.funV rfl trivial sX7_93 rfl rfl (by decide) rfl (c_own4 c (by omega) C.2.2.1 hd6) ?_
  refine PW.ine rfl trivial (fun h11 => ?_) (fun h11 => ?_)
  · skip
    rw [nI_eq (by omega) (by omega)] at h11
    refine PW.ine rfl trivial (fun h19 => ?_) (fun h19 => ?_)
    · skip
      rw [show (6 : Int32) = nI 6 from rfl, nI_eq (by omega) (by omega)] at h19
      refine PW.funV rfl trivial sX7_111 rfl rfl (by decide) rfl (c_cel4 lv (by omega) F.1.g C.1 F.1.d C.2.2.1) ?_
      refine PW.ine rfl trivial (fun h37 => ?_) (fun h37 => ?_)
      · skip
        rw [show (6 : Int32) = nI 6 from rfl, nI_eq (by omega) (by omega)] at h37
        refine PW.funV rfl trivial sX7_240 rfl rfl (by decide) rfl (show PF X l mX1_rimOf 0 [.ref 1, .long ((1 : Int64) <<< ((nI c).toInt64 &&& 63))] G0 M (.long (mk (rim w (w * h) (fun i => decide (i = c))))) from by rw [mk_bit (by omega)]; exact c_rim _ F.1.g C.1 (fun i hi => by simp; omega)) ?_
        refine PW.zeq rfl trivial (fun h64 => ?_) (fun h64 => ?_)
        · skip
          rw [lg_cmp_eq, tch_z F.1.d (by omega) hc (by omega)] at h64
          refine PW.zret rfl rfl trivial (rfl) ?_
          refine ⟨?_, rfl⟩
          simp_all [chg, bo]
        · skip
          rw [lg_cmp_eq, tch_z F.1.d (by omega) hc (by omega), Bool.not_eq_false] at h64
          refine PW.goto rfl trivial ?_
          refine PW.zret rfl rfl trivial (rfl) ?_
          refine ⟨?_, rfl⟩
          simp_all [chg, bo]
      · skip
        rw [show (6 : Int32) = nI 6 from rfl, nI_eq (by omega) (by omega)] at h37
        refine PW.zne rfl trivial (fun h44 => ?_) (fun h44 => ?_)
        · skip
          rw [lg_cmp_eq, mk_many F.1.d (by omega) (by omega)] at h44
          refine PW.funV rfl trivial sX7_240 rfl rfl (by decide) rfl (show PF X l mX1_rimOf 0 [.ref 1, .long ((1 : Int64) <<< ((nI c).toInt64 &&& 63))] G0 M (.long (mk (rim w (w * h) (fun i => decide (i = c))))) from by rw [mk_bit (by omega)]; exact c_rim _ F.1.g C.1 (fun i hi => by simp; omega)) ?_
          refine PW.zeq rfl trivial (fun h64 => ?_) (fun h64 => ?_)
          · skip
            rw [lg_cmp_eq, tch_z F.1.d (by omega) hc (by omega)] at h64
            refine PW.zret rfl rfl trivial (rfl) ?_
            refine ⟨?_, rfl⟩
            simp_all [chg, bo]
          · skip
            rw [lg_cmp_eq, tch_z F.1.d (by omega) hc (by omega), Bool.not_eq_false] at h64
            refine PW.goto rfl trivial ?_
            refine PW.zret rfl rfl trivial (rfl) ?_
            refine ⟨?_, rfl⟩
            simp_all [chg, bo]
        · skip
          rw [lg_cmp_eq, mk_many F.1.d (by omega) (by omega)] at h44
          refine PW.zret rfl rfl trivial (rfl) ?_
          refine ⟨?_, rfl⟩
          simp_all [chg, bo]
    · skip
      rw [show (6 : Int32) = nI 6 from rfl, nI_eq (by omega) (by omega)] at h19
      refine PW.zret rfl rfl trivial (rfl) ?_
      refine ⟨?_, rfl⟩
      simp_all [chg, bo]
  · skip
    rw [nI_eq (by omega) (by omega)] at h11
    refine PW.zret rfl rfl trivial (rfl) ?_
    refine ⟨?_, rfl⟩
    simp_all [chg, bo]
theorem c_fag {w h : Nat} {mp dr hd : Nat → Nat} {wy : Nat} {vt : Nat → Nat} (F : Sf w h mp dr hd wy vt) (C : CM w h mp dr hd wy vt M) (du : Nat → Nat) (hdu : ∀ j, j < 6 → du j < 2 ^ 30) (hz : ∀ j, j < 6 → M.1 8 j = nI (du j)) : PF X l mX7_faultsAgainst 3 [.ref 0, .long (mk (prs w (w * h) mp))] G0 M (.int (nI (flt w (w * h) mp dr du 6))) := by
  refine PF.ofW okX7_faultsAgainst ?_
  have hn := F.1.n
  have loop5 : ∀ k : Nat, ∀ (i : Nat), i ≤ 6 → 6 - i < k → PW X l mX7_faultsAgainst 3 (fun v M' => v = some (.int (nI (flt w (w * h) mp dr du 6))) ∧ M' = M) 5 [.ref 0, .long (mk (prs w (w * h) mp)), .null, .int (nI (fb_sm (fl1 w (w * h) dr du) i)), .int (nI i), .null] [] G0 M := by
    intro k
    induction k with
    | zero => intro i hi hk; exact absurd hk (Nat.not_lt_zero _)
    | succ k ih =>
      intro i hi hk
      refine PW.ige rfl trivial (fun h9 => ?_) (fun h9 => ?_)
      · skip
        rw [i6 (by omega)] at h9
        have e9 : i = 6 := by omega
        subst e9
        refine PW.funV rfl trivial sX7_161 rfl rfl (by decide) rfl (c_prs4 F.1.g C.1 F.1.d C.2.2.1) ?_
        refine PW.funS rfl trivial sX7_117 rfl (by decide) rfl (show PF X l mJ13_bitCount_95d88 0 [.long (mk (prs w (w * h) mp) &&& (mk (prs w (w * h) dr) ^^^ (-1)))] G0 M (.int (nI (fb_ct (fun i => prs w (w * h) mp i && !prs w (w * h) dr i) 64))) from by rw [mk_not, mk_and]; exact j_bitCount _) ?_
        refine PW.funS rfl trivial sX7_117 rfl (by decide) rfl (show PF X l mJ13_bitCount_95d88 0 [.long (mk (prs w (w * h) dr) &&& (mk (prs w (w * h) mp) ^^^ (-1)))] G0 M (.int (nI (fb_ct (fun i => prs w (w * h) dr i && !prs w (w * h) mp i) 64))) from by rw [mk_not, mk_and]; exact j_bitCount _) ?_
        refine PW.iret rfl rfl trivial ?_
        exact ⟨by rw [flt_eq, show (2 : Int32) = nI 2 from rfl, pk_mul, nI_add, nI_add, Nat.add_assoc], rfl⟩
      · skip
        rw [i6 (by omega)] at h9
        have hm := many_le dr i (w * h)
        have hp := prt_le (fun c => decide (dr c = i)) w (w * h)
        have hdi := hdu i (by omega)
        refine PW.funV rfl trivial sX7_134 rfl rfl (by decide) rfl (c_siz4 i (by omega) F.1.g C.1 F.1.d C.2.2.1) ?_
        refine PW.mabs rfl ⟨trivial, vp_in_nI (by omega) (by decide)⟩ sX7_244 (by decide) rfl ?_
        rw [nI_clamp (by omega), hz i (by omega), nI_abs (by omega) hdi]
        refine PW.funV rfl trivial sX7_111 rfl rfl (by decide) rfl (c_cel4 i (by omega) F.1.g C.1 F.1.d C.2.2.1) ?_
        refine PW.funV rfl trivial sX7_154 rfl rfl (by decide) rfl (c_parts _ F.1.g C.1 (fun x hx => by have := F.1.d.2 x hx; simp; omega)) ?_
        refine PW.mmax rfl trivial sX7_249 (by decide) rfl ?_
        rw [max_n (by omega)]
        refine PW.goto rfl trivial ?_
        rw [show (3 : Int32) = nI 3 from rfl, pk_mul, nI_add, nI_add, nI_1]
        refine PW.lc ?_ (ih (i + 1) (by omega) (by omega))
        rw [fb_sm_succ, fl1_n, Nat.add_assoc]
  refine PW.to 5 rfl trivial ?_
  exact loop5 7 0 (by omega) (by omega)
theorem c_fbh {w h : Nat} {mp dr hd : Nat → Nat} {wy : Nat} {vt : Nat → Nat} (F : Sf w h mp dr hd wy vt) (C : CM w h mp dr hd wy vt M) (du : Nat → Nat) (hdu : ∀ j, j < 6 → du j < 2 ^ 30) (hz : ∀ j, j < 6 → M.1 8 j = nI (du j)) (c lv : Nat) (hc : c < w * h) (hl : lv ≤ 6) : PC X l mX7_faultsBehind 4 [.ref 0, .int (nI c), .int (nI lv), .long (mk (prs w (w * h) mp))] G0 M (fun v M' => v = some (.int (nI (flt w (w * h) mp (set1 dr c lv) du 6))) ∧ FC [] [5] M M' ∧ Sh 5 dr M') := by
  refine PC.ofW okX7_faultsBehind ?_
  have hn := F.1.n
  have hd6 := F.1.2.2.2.2.2.1 c
  refine PW.funV rfl trivial sX7_93 rfl rfl (by decide) rfl (c_own4 c (by omega) C.2.2.1 hd6) ?_
  refine PW.callV rfl trivial sX7_97 rfl rfl (by decide) rfl (show PC X l mX5_put 0 [.ref 4, .long ((1 : Int64) <<< ((nI c).toInt64 &&& 63)), .int (nI lv)] G0 M (fun v M2 => v = none ∧ FC [] [5] M M2 ∧ Sh 5 (set1 dr c lv) M2) from by rw [mk_bit (by omega), ← put_1]; exact c_put4 _ _ hl C.2.2.1) (fun v18 M18 hq18 => ?_)
  obtain ⟨rfl, hF1, hS1⟩ := hq18
  have C1 := C.dr hF1 hS1
  have F1 : Sf w h mp (set1 dr c lv) hd wy vt := ⟨wf_set1 F.1 hc hl, F.2⟩
  have hz1 : ∀ j, j < 6 → M18.1 8 j = nI (du j) := fun j hj => by rw [hF1.i 8]; exact hz j hj
  refine PW.funV rfl trivial sX7_164 rfl rfl (by decide) rfl (c_fag F1 C1 du hdu hz1) ?_
  refine PW.callV rfl trivial sX7_97 rfl rfl (by decide) rfl (show PC X l mX5_put 0 [.ref 4, .long ((1 : Int64) <<< ((nI c).toInt64 &&& 63)), .int (nI (dr c))] G0 M18 (fun v M2 => v = none ∧ FC [] [5] M18 M2 ∧ Sh 5 (set1 (set1 dr c lv) c (dr c)) M2) from by rw [mk_bit (by omega), ← put_1]; exact c_put4 _ _ hd6 hS1) (fun v37 M37 hq37 => ?_)
  obtain ⟨rfl, hF2, hS2⟩ := hq37
  rw [set1_back] at hS2
  refine PW.iret rfl rfl trivial ?_
  exact ⟨rfl, hF1.tr hF2, hS2⟩
end C3
