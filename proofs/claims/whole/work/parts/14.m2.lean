-- made by wip/whole/mk_m2.py
section M2
variable {X : Cx} {l : Launch} {M : Mem}
theorem m_share {w h : Nat} {mp dr : Nat → Nat} (Hw : Wf w h mp dr) (H : WM w h mp dr M) {hd : Nat → Nat} {wy : Nat} (Hd : Hf hd wy) (HH : HM hd wy M) : PC X l mX8_share 2 [.ref 29] G0 M (fun v M' => v = none ∧ FI [33] M M' ∧ ∀ j, j < 6 → M'.1 33 j = nI (due hd wy (w * h - many mp 6 (w * h)) j)) := by
  refine PC.ofW okX8_share ?_
  have hn := Hw.n
  have hml := many_le mp 6 (w * h)
  obtain ⟨n, en⟩ : ∃ n, n = w * h - many mp 6 (w * h) := ⟨_, rfl⟩
  obtain ⟨A, eA⟩ : ∃ A, A = fb_sm hd 6 := ⟨_, rfl⟩
  have hA5 : A ≤ 5994 := by rw [eA]; exact sm_le Hd.2 6
  have hn36 : n ≤ 36 := by omega
  have hwy := Hd.1
  rw [← en]
  have loop114 : ∀ k : Nat, ∀ (i m : Nat) (M2 : Mem), A ≠ 0 → i ≤ dlf hd wy n → m < 64 → (wy = 0 → m = shm (fun l => hd l * n % fb_sm hd 6) i) → FI [33] M M2 → (∀ j, j < 6 → M2.1 33 j = nI (dst hd wy n i j)) → dlf hd wy n - i < k → PW X l mX8_share 2 (fun v M' => v = none ∧ FI [33] M M' ∧ ∀ j, j < 6 → M'.1 33 j = nI (due hd wy n j)) 114 [.ref 29, .int (nI A), .int (nI n), .int (nI (dlf hd wy n)), .int (nI m), .int (nI i), .null, .null, .null, .null, .null] [] G0 M2 := by
    intro k
    induction k with
    | zero => intro i m M2 hA0 hi hm hmw hF hz hk; exact absurd hk (Nat.not_lt_zero _)
    | succ k ih =>
      intro i m M2 hA0 hi hm hmw hF hz hk
      have hl36 : dlf hd wy n ≤ 36 := by unfold dlf left0; split <;> omega
      have loop127 : ∀ k127 : Nat, ∀ (j : Nat), i < dlf hd wy n → j ≤ 6 → 6 - j < k127 → PW X l mX8_share 2 (fun v M' => v = none ∧ FI [33] M M' ∧ ∀ j, j < 6 → M'.1 33 j = nI (due hd wy n j)) 127 [.ref 29, .int (nI A), .int (nI n), .int (nI (dlf hd wy n)), .int (nI m), .int (nI i), .int (ob (pg (dgt hd wy n i) (dok hd wy n i) j)), .int (nI j), .null, .null, .null] [] G0 M2 := by
        intro k127
        induction k127 with
        | zero => intro j hil hj hk2; exact absurd hk2 (Nat.not_lt_zero _)
        | succ k127 ih127 =>
          intro j hil hj hk2
          obtain ⟨b, hb6, hbp⟩ := d_some (hd := hd) (wy := wy) (n := n) (i := i) (by rw [← eA]; exact hA0) hil
          have hpl : ∀ b, pg (dgt hd wy n i) (dok hd wy n i) j = some b → b < 6 := fun b q => by have := (pg_lt q).1; omega
          have join310 : j < 6 → ∀ (t : Bool), pg (dgt hd wy n i) (dok hd wy n i) (j + 1) = (if t = true then some j else pg (dgt hd wy n i) (dok hd wy n i) j) → PW X l mX8_share 2 (fun v M' => v = none ∧ FI [33] M M' ∧ ∀ j, j < 6 → M'.1 33 j = nI (due hd wy n j)) 310 [.ref 29, .int (nI A), .int (nI n), .int (nI (dlf hd wy n)), .int (nI m), .int (nI i), .int (ob (pg (dgt hd wy n i) (dok hd wy n i) j)), .int (nI j), .int (bo t), .null, .null] [] G0 M2 := by
            intro hj6 t ht
            refine PW.zeq rfl trivial (fun h312 => ?_) (fun h312 => ?_)
            · skip
              rw [bo_eq] at h312
              subst h312
              rw [if_neg (by decide)] at ht
              refine PW.goto rfl trivial ?_
              rw [nI_1]
              refine PW.nl [8] ?_
              refine PW.lc ?_ (ih127 (j + 1) hil (by omega) (by omega))
              rw [ht]; rfl
            · skip
              rw [bo_ne] at h312
              subst h312
              rw [if_pos rfl] at ht
              refine PW.goto rfl trivial ?_
              refine PW.goto rfl trivial ?_
              rw [nI_1]
              refine PW.nl [8] ?_
              refine PW.lc ?_ (ih127 (j + 1) hil (by omega) (by omega))
              rw [ht]; rfl
          have join271 : j < 6 → ∀ (its : Nat), wy ≠ 0 → its ≤ 73 → (∀ b, pg (dgt hd wy n i) (dok hd wy n i) j = some b → its = wy * dst hd wy n i b + 1) → PW X l mX8_share 2 (fun v M' => v = none ∧ FI [33] M M' ∧ ∀ j, j < 6 → M'.1 33 j = nI (due hd wy n j)) 271 [.ref 29, .int (nI A), .int (nI n), .int (nI (dlf hd wy n)), .int (nI m), .int (nI i), .int (ob (pg (dgt hd wy n i) (dok hd wy n i) j)), .int (nI j), .int 0, .int (nI (wy * dst hd wy n i j + 1)), .null] [.int (nI its)] G0 M2 := by
            intro hj6 its hw hi3 hits
            have ed : ∀ a, dst hd wy n i a = shd hd wy i a := fun a => by simp [dst, hw]
            have hd36 : ∀ a, a < 6 → shd hd wy i a ≤ 36 := fun a ha => by have := shd_le hd wy i a ha; omega
            have hd72 : ∀ a, a < 6 → wy * shd hd wy i a ≤ 72 := fun a ha => Nat.mul_le_mul hwy (hd36 a ha)
            have hj6 : j < 6 := hj6
            refine PW.ieq rfl trivial (fun h277 => ?_) (fun h277 => ?_)
            · skip
              rw [ob_none hpl] at h277
              refine PW.goto rfl trivial ?_
              refine PW.to 310 rfl trivial ?_
              refine PW.nl [9, 10] ?_
              first
              | exact join310 hj6 true (by rw [if_pos rfl]; exact pg_new h277 (by simp [dok, hw]))
              | exact PW.lc (by rw [hp]; rfl) (join310 hj6 true (by rw [if_pos rfl]; exact pg_gt hp (by simp [dok, hw]) (by rw [hi2, ed] at h300; simp only [dgt, if_neg hw, decide_eq_true_eq]; omega)))
              | exact PW.lc (by rw [hp]; rfl) (join310 hj6 false (by rw [if_neg (by decide)]; exact pg_le hp (by rw [hi2, ed] at h300; simp only [dgt, if_neg hw, decide_eq_false_iff_not]; omega)))
            · skip
              rw [ob_none hpl] at h277
              obtain ⟨b2, hp⟩ := Option.ne_none_iff_exists'.mp h277
              have hb2 := hpl b2 hp
              have eb2 : ob (some b2) = nI b2 := rfl
              rw [hp, eb2]
              have hi2 := hits b2 hp
              refine PW.ile rfl ⟨⟨trivial, vp_in_nI (by omega) (by decide)⟩, vp_in_nI (by omega) (by decide)⟩ (fun h300 => ?_) (fun h300 => ?_)
              · skip
                have q1 := Hd.2 j
                have q2 := Hd.2 b2
                have q3 := hd72 j hj6
                have q4 := hd72 b2 hb2
                have q5 : hd j * its ≤ 999 * 73 := Nat.mul_le_mul q1 hi3
                have q6 : hd b2 * (wy * shd hd wy i j + 1) ≤ 999 * 73 := Nat.mul_le_mul q2 (by omega)
                rw [nI_clamp (by omega), nI_clamp (by omega), hF.at 32, HH.2 j hj6, HH.2 b2 hb2, pk_mul, pk_mul, ed, nI_leI (by omega) (by omega)] at h300
                refine PW.to 310 rfl trivial ?_
                refine PW.nl [9, 10] ?_
                first
                | exact join310 hj6 true (by rw [if_pos rfl]; exact pg_new h277 (by simp [dok, hw]))
                | exact PW.lc (by rw [hp]; rfl) (join310 hj6 true (by rw [if_pos rfl]; exact pg_gt hp (by simp [dok, hw]) (by rw [hi2, ed] at h300; simp only [dgt, if_neg hw, decide_eq_true_eq]; omega)))
                | exact PW.lc (by rw [hp]; rfl) (join310 hj6 false (by rw [if_neg (by decide)]; exact pg_le hp (by rw [hi2, ed] at h300; simp only [dgt, if_neg hw, decide_eq_false_iff_not]; omega)))
              · skip
                have q1 := Hd.2 j
                have q2 := Hd.2 b2
                have q3 := hd72 j hj6
                have q4 := hd72 b2 hb2
                have q5 : hd j * its ≤ 999 * 73 := Nat.mul_le_mul q1 hi3
                have q6 : hd b2 * (wy * shd hd wy i j + 1) ≤ 999 * 73 := Nat.mul_le_mul q2 (by omega)
                rw [nI_clamp (by omega), nI_clamp (by omega), hF.at 32, HH.2 j hj6, HH.2 b2 hb2, pk_mul, pk_mul, ed, nI_leI (by omega) (by omega)] at h300
                refine PW.goto rfl trivial ?_
                refine PW.to 310 rfl trivial ?_
                refine PW.nl [9, 10] ?_
                first
                | exact join310 hj6 true (by rw [if_pos rfl]; exact pg_new h277 (by simp [dok, hw]))
                | exact PW.lc (by rw [hp]; rfl) (join310 hj6 true (by rw [if_pos rfl]; exact pg_gt hp (by simp [dok, hw]) (by rw [hi2, ed] at h300; simp only [dgt, if_neg hw, decide_eq_true_eq]; omega)))
                | exact PW.lc (by rw [hp]; rfl) (join310 hj6 false (by rw [if_neg (by decide)]; exact pg_le hp (by rw [hi2, ed] at h300; simp only [dgt, if_neg hw, decide_eq_false_iff_not]; omega)))
          have join227 : j < 6 → wy ≠ 0 → PW X l mX8_share 2 (fun v M' => v = none ∧ FI [33] M M' ∧ ∀ j, j < 6 → M'.1 33 j = nI (due hd wy n j)) 227 [.ref 29, .int (nI A), .int (nI n), .int (nI (dlf hd wy n)), .int (nI m), .int (nI i), .int (ob (pg (dgt hd wy n i) (dok hd wy n i) j)), .int (nI j), .int 0, .null, .null] [.int (nI (wy * dst hd wy n i j + 1))] G0 M2 := by
            intro hj6 hw
            have ed : ∀ a, dst hd wy n i a = shd hd wy i a := fun a => by simp [dst, hw]
            have hd36 : ∀ a, a < 6 → shd hd wy i a ≤ 36 := fun a ha => by have := shd_le hd wy i a ha; omega
            have hd72 : ∀ a, a < 6 → wy * shd hd wy i a ≤ 72 := fun a ha => Nat.mul_le_mul hwy (hd36 a ha)
            have hj6 : j < 6 := hj6
            refine PW.ine rfl trivial (fun h233 => ?_) (fun h233 => ?_)
            · skip
              rw [ob_none hpl] at h233
              obtain ⟨b2, hp⟩ := Option.ne_none_iff_exists'.mp h233
              have hb2 := hpl b2 hp
              have eb2 : ob (some b2) = nI b2 := rfl
              rw [hp, eb2]
              refine PW.ine rfl trivial (fun h245 => ?_) (fun h245 => ?_)
              · skip
                have h2 : wy = 2 := by
                  rw [hF.at 29, HH.1, show (1 : Int32) = nI 1 from rfl, nI_eq (by omega) (by omega)] at h245
                  omega
                refine PW.to 271 rfl ⟨trivial, vp_in_nI (by omega) (by decide)⟩ ?_
                have hq := hd72 b2 hb2
                rw [nI_clamp (by omega), hz b2 hb2, ed b2]
                refine PW.lcs (by rw [hp]; rfl) ?_ (join271 hj6 (wy * shd hd wy i b2 + 1) hw (by omega) (fun b q => by rw [hp] at q; cases q; rw [ed]))
                first | (rw [nI_1, h2, Nat.one_mul]) | (rw [show (2 : Int32) = nI 2 from rfl, pk_mul, nI_1, h2])
              · skip
                have h2 : wy = 1 := by
                  rw [hF.at 29, HH.1, show (1 : Int32) = nI 1 from rfl, nI_eq (by omega) (by omega)] at h245
                  omega
                refine PW.goto rfl ⟨trivial, vp_in_nI (by omega) (by decide)⟩ ?_
                have hq := hd72 b2 hb2
                rw [nI_clamp (by omega), hz b2 hb2, ed b2]
                refine PW.lcs (by rw [hp]; rfl) ?_ (join271 hj6 (wy * shd hd wy i b2 + 1) hw (by omega) (fun b q => by rw [hp] at q; cases q; rw [ed]))
                first | (rw [nI_1, h2, Nat.one_mul]) | (rw [show (2 : Int32) = nI 2 from rfl, pk_mul, nI_1, h2])
            · skip
              rw [ob_none hpl] at h233
              refine PW.goto rfl trivial ?_
              exact join271 hj6 1 hw (by decide) (fun b q => by rw [h233] at q; cases q)
          refine PW.ige rfl trivial (fun h131 => ?_) (fun h131 => ?_)
          · skip
            rw [i6 (by omega)] at h131
            have e : j = 6 := by omega
            subst e
            rw [hbp]
            have eb : ob (some b) = nI b := rfl
            rw [eb]
            refine PW.goto rfl ⟨⟨trivial, vp_in_nI (by omega) (by decide)⟩, vp_in_nI (by omega) (by decide)⟩ ?_
            rw [nI_clamp (by omega), (tb_set m hm b hb6).1, nI_1]
            refine PW.nl [6, 7] ?_
            refine ih (i + 1) _ _ hA0 (by omega) (or_lt64 hm hb6) (fun q => by rw [d_mask hbp q, hmw q]) (hF.put (by decide)) (fun l hl => ?_) (by omega)
            rw [d_step hbp]
            by_cases q : l = b
            · subst q; rw [if_pos rfl, up_s, hz _ hl, nI_1]
            · rw [if_neg q]; exact (up_n q).trans (hz l hl)
          · skip
            rw [i6 (by omega)] at h131
            have hj6 : j < 6 := by omega
            refine PW.zne rfl trivial (fun h141 => ?_) (fun h141 => ?_)
            · skip
              have hw : wy ≠ 0 := fun e => h141 (by rw [hF.at 29, HH.1, e]; rfl)
              have ed : ∀ a, dst hd wy n i a = shd hd wy i a := fun a => by simp [dst, hw]
              refine PW.ine rfl trivial (fun h201 => ?_) (fun h201 => ?_)
              · skip
                have h2 : wy = 2 := by
                  rw [hF.at 29, HH.1, show (1 : Int32) = nI 1 from rfl, nI_eq (by omega) (by omega)] at h201
                  omega
                refine PW.to 227 rfl ⟨trivial, vp_in_nI (by omega) (by decide)⟩ ?_
                rw [nI_clamp (by omega), hz j (by omega)]
                exact PW.lcs rfl (by rw [show (2 : Int32) = nI 2 from rfl, pk_mul, nI_1, h2]) (join227 hj6 hw)
              · skip
                have h2 : wy = 1 := by
                  rw [hF.at 29, HH.1, show (1 : Int32) = nI 1 from rfl, nI_eq (by omega) (by omega)] at h201
                  omega
                refine PW.goto rfl ⟨trivial, vp_in_nI (by omega) (by decide)⟩ ?_
                rw [nI_clamp (by omega), hz j (by omega)]
                exact PW.lcs rfl (by rw [nI_1, h2, Nat.one_mul]) (join227 hj6 hw)
            · skip
              have hw : wy = 0 := by
                rw [hF.at 29, HH.1, show (0 : Int32) = nI 0 from rfl, nI_eq (by omega) (by omega)] at h141
                exact h141
              have hm2 := hmw hw
              refine PW.zne rfl trivial (fun h151 => ?_) (fun h151 => ?_)
              · skip
                rw [tb_get m hm j (by omega), bo_ne] at h151
                refine PW.goto rfl trivial ?_
                first
                | exact join310 hj6 false (by rw [if_neg (by decide)]; exact pg_no (by simp [dok, hw, ← hm2, h151]))
                | exact join310 hj6 true (by rw [if_pos rfl]; exact pg_new h158 (by simp [dok, hw, ← hm2, h151]))
                | exact PW.lc (by rw [hp]; rfl) (join310 hj6 true (by rw [if_pos rfl]; exact pg_gt hp (by simp [dok, hw, ← hm2, h151]) (by simp only [dgt, if_pos hw, ← eA, decide_eq_true_eq]; omega)))
                | exact PW.lc (by rw [hp]; rfl) (join310 hj6 false (by rw [if_neg (by decide)]; exact pg_le hp (by simp only [dgt, if_pos hw, ← eA, decide_eq_false_iff_not]; omega)))
              · skip
                rw [tb_get m hm j (by omega), bo_eq] at h151
                refine PW.ieq rfl trivial (fun h158 => ?_) (fun h158 => ?_)
                · skip
                  rw [ob_none hpl] at h158
                  refine PW.goto rfl trivial ?_
                  refine PW.goto rfl trivial ?_
                  first
                  | exact join310 hj6 false (by rw [if_neg (by decide)]; exact pg_no (by simp [dok, hw, ← hm2, h151]))
                  | exact join310 hj6 true (by rw [if_pos rfl]; exact pg_new h158 (by simp [dok, hw, ← hm2, h151]))
                  | exact PW.lc (by rw [hp]; rfl) (join310 hj6 true (by rw [if_pos rfl]; exact pg_gt hp (by simp [dok, hw, ← hm2, h151]) (by simp only [dgt, if_pos hw, ← eA, decide_eq_true_eq]; omega)))
                  | exact PW.lc (by rw [hp]; rfl) (join310 hj6 false (by rw [if_neg (by decide)]; exact pg_le hp (by simp only [dgt, if_pos hw, ← eA, decide_eq_false_iff_not]; omega)))
                · skip
                  rw [ob_none hpl] at h158
                  obtain ⟨b2, hp⟩ := Option.ne_none_iff_exists'.mp h158
                  have hb2 := hpl b2 hp
                  have eb2 : ob (some b2) = nI b2 := rfl
                  rw [hp, eb2]
                  refine PW.ile rfl ⟨⟨⟨⟨trivial, vp_in_nI (by omega) (by decide)⟩, nI_ne0 (by omega) (by omega)⟩, vp_in_nI (by omega) (by decide)⟩, nI_ne0 (by omega) (by omega)⟩ (fun h183 => ?_) (fun h183 => ?_)
                  · skip
                    have q1 := mul_lt (b := 0) (Hd.2 j) hn36
                    have q2 := mul_lt (b := 0) (Hd.2 b2) hn36
                    have q3 := Nat.mod_le (hd j * n) A
                    have q4 := Nat.mod_le (hd b2 * n) A
                    rw [nI_clamp (by omega), nI_clamp (by omega), hF.at 32, HH.2 j (by omega), HH.2 b2 hb2, pk_mul, pk_mul, pk_rem (by omega) (by omega) (by omega), pk_rem (by omega) (by omega) (by omega), nI_leI (by omega) (by omega)] at h183
                    refine PW.goto rfl trivial ?_
                    first
                    | exact join310 hj6 false (by rw [if_neg (by decide)]; exact pg_no (by simp [dok, hw, ← hm2, h151]))
                    | exact join310 hj6 true (by rw [if_pos rfl]; exact pg_new h158 (by simp [dok, hw, ← hm2, h151]))
                    | exact PW.lc (by rw [hp]; rfl) (join310 hj6 true (by rw [if_pos rfl]; exact pg_gt hp (by simp [dok, hw, ← hm2, h151]) (by simp only [dgt, if_pos hw, ← eA, decide_eq_true_eq]; omega)))
                    | exact PW.lc (by rw [hp]; rfl) (join310 hj6 false (by rw [if_neg (by decide)]; exact pg_le hp (by simp only [dgt, if_pos hw, ← eA, decide_eq_false_iff_not]; omega)))
                  · skip
                    have q1 := mul_lt (b := 0) (Hd.2 j) hn36
                    have q2 := mul_lt (b := 0) (Hd.2 b2) hn36
                    have q3 := Nat.mod_le (hd j * n) A
                    have q4 := Nat.mod_le (hd b2 * n) A
                    rw [nI_clamp (by omega), nI_clamp (by omega), hF.at 32, HH.2 j (by omega), HH.2 b2 hb2, pk_mul, pk_mul, pk_rem (by omega) (by omega) (by omega), pk_rem (by omega) (by omega) (by omega), nI_leI (by omega) (by omega)] at h183
                    refine PW.goto rfl trivial ?_
                    refine PW.goto rfl trivial ?_
                    first
                    | exact join310 hj6 false (by rw [if_neg (by decide)]; exact pg_no (by simp [dok, hw, ← hm2, h151]))
                    | exact join310 hj6 true (by rw [if_pos rfl]; exact pg_new h158 (by simp [dok, hw, ← hm2, h151]))
                    | exact PW.lc (by rw [hp]; rfl) (join310 hj6 true (by rw [if_pos rfl]; exact pg_gt hp (by simp [dok, hw, ← hm2, h151]) (by simp only [dgt, if_pos hw, ← eA, decide_eq_true_eq]; omega)))
                    | exact PW.lc (by rw [hp]; rfl) (join310 hj6 false (by rw [if_neg (by decide)]; exact pg_le hp (by simp only [dgt, if_pos hw, ← eA, decide_eq_false_iff_not]; omega)))
      refine PW.ige rfl trivial (fun h117 => ?_) (fun h117 => ?_)
      · skip
        rw [nI_leI (by omega) (by omega)] at h117
        have e : i = dlf hd wy n := by omega
        subst e
        refine PW.vret rfl rfl trivial ?_
        exact ⟨rfl, hF, fun j hj => by rw [hz j hj, d_end (by rw [← eA]; exact hA0)]⟩
      · skip
        rw [nI_leI (by omega) (by omega)] at h117
        refine PW.to 127 rfl trivial ?_
        exact loop127 7 0 (by omega) (by omega) (by omega)
  have join108 : ∀ (M2 : Mem) (s : Nat), A ≠ 0 → s = dlf hd wy n → FI [33] M M2 → (∀ j, j < 6 → M2.1 33 j = nI (dst hd wy n 0 j)) → PW X l mX8_share 2 (fun v M' => v = none ∧ FI [33] M M' ∧ ∀ j, j < 6 → M'.1 33 j = nI (due hd wy n j)) 108 [.ref 29, .int (nI A), .int (nI n), .int (nI s), .null, .null, .null, .null, .null, .null, .null] [] G0 M2 := by
    intro M2 s hA0 hs hF hz
    refine PW.to 114 rfl trivial ?_
    subst hs
    exact loop114 (dlf hd wy n + 1) 0 0 M2 hA0 (Nat.zero_le _) (by decide) (fun _ => rfl) hF hz (by omega)
  have loop67 : ∀ k : Nat, ∀ (i s : Nat) (M2 : Mem), wy = 0 → A ≠ 0 → i ≤ 6 → s + fb_sm (fun l => hd l * n / A) i = n → FI [33] M M2 → (∀ j, j < i → M2.1 33 j = nI (hd j * n / A)) → 6 - i < k → PW X l mX8_share 2 (fun v M' => v = none ∧ FI [33] M M' ∧ ∀ j, j < 6 → M'.1 33 j = nI (due hd wy n j)) 67 [.ref 29, .int (nI A), .int (nI n), .int (nI s), .int (nI i), .null, .null, .null, .null, .null, .null] [] G0 M2 := by
    intro k
    induction k with
    | zero => intro i s M2 hw0 hA0 hi hs hF hz hk; exact absurd hk (Nat.not_lt_zero _)
    | succ k ih =>
      intro i s M2 hw0 hA0 hi hs hF hz hk
      refine PW.ige rfl trivial (fun h71 => ?_) (fun h71 => ?_)
      · skip
        rw [i6 (by omega)] at h71
        have e : i = 6 := by omega
        subst e
        refine PW.nl [4] ?_
        refine join108 M2 s hA0 (by simp only [dlf, hw0, if_true, left0]; rw [← eA]; omega) hF (fun j hj => ?_)
        rw [hz j hj]
        congr 1
        simp only [dst, hw0, if_true, shm, ← eA]
        simp
      · skip
        rw [i6 (by omega)] at h71
        refine PW.goto rfl ⟨⟨⟨⟨trivial, vp_in_nI (by omega) (by decide)⟩, nI_ne0 (by omega) (by omega)⟩, vp_in_nI (by omega) (by decide)⟩, vp_in_nI (by omega) (by decide)⟩ ?_
        have h1 := mul_lt (b := 0) (Hd.2 i) hn36
        have h2 : hd i * n / A ≤ s := by
          have h3 := (left0_lt (n := n) (hd := hd) (by rw [← eA]; exact hA0)).2
          rw [← eA] at h3
          have h4 := fb_sm_part (fun l => hd l * n / A) (show i < 6 by omega)
          omega
        rw [nI_clamp (by omega), hF.at 32, HH.2 i (by omega), pk_mul, pk_div (by omega) (by omega) (by omega), up_s, pk_sub h2, nI_1]
        refine ih (i + 1) _ _ hw0 hA0 (by omega) (by simp only [fb_sm]; omega) (hF.put (by decide)) (fun j hj => ?_) (by omega)
        by_cases q : j = i
        · subst q; exact up_s
        · exact (up_n q).trans (hz j (by omega))
  have join32 : ∀ (M2 : Mem), FI [33] M M2 → (∀ j, j < 6 → M2.1 33 j = 0) → PW X l mX8_share 2 (fun v M' => v = none ∧ FI [33] M M' ∧ ∀ j, j < 6 → M'.1 33 j = nI (due hd wy n j)) 32 [.ref 29, .int (nI A), .int (nI 6), .null, .null, .null, .null, .null, .null, .null, .null] [] G0 M2 := by
    intro M2 hF hz
    refine PW.zne rfl trivial (fun h33 => ?_) (fun h33 => ?_)
    · skip
      have hA0 : A ≠ 0 := fun e => h33 (by rw [e]; rfl)
      refine PW.funV rfl trivial sX8_106 rfl rfl (by decide) rfl (m_manyOf 0 6 (by decide) Hw (H.fi hF)) ?_
      rw [(H.fi hF).wh, show sl 0 mp dr = mp from rfl]
      refine PW.zne rfl trivial (fun h61 => ?_) (fun h61 => ?_)
      · skip
        rw [pk_sub (by omega), ← en]
        have hw : wy ≠ 0 := fun e => h61 (by rw [hF.at 29, HH.1, e]; rfl)
        exact join108 M2 n hA0 (by simp [dlf, hw]) hF (fun j hj => by rw [hz j hj]; simp only [dst, if_neg hw, shd]; rfl)
      · skip
        rw [pk_sub (by omega), ← en]
        have hw : wy = 0 := by
          rw [hF.at 29, HH.1, show (0 : Int32) = nI 0 from rfl, nI_eq (by omega) (by omega)] at h61
          exact h61
        refine PW.to 67 rfl trivial ?_
        exact loop67 7 0 n M2 hw hA0 (by omega) (by simp [fb_sm]) hF (fun j hj => absurd hj (Nat.not_lt_zero j)) (by omega)
    · skip
      have hA0 : A = 0 := by
        rw [show (0 : Int32) = nI 0 from rfl, nI_eq (by omega) (by omega)] at h33
        exact h33
      refine PW.vret rfl rfl trivial ?_
      exact ⟨rfl, hF, fun j hj => by rw [hz j hj]; unfold due; rw [if_pos (by rw [← eA]; exact hA0)]; rfl⟩
  have loop4 : ∀ k : Nat, ∀ (i : Nat) (M2 : Mem), i ≤ 6 → FI [33] M M2 → (∀ j, j < i → M2.1 33 j = 0) → 6 - i < k → PW X l mX8_share 2 (fun v M' => v = none ∧ FI [33] M M' ∧ ∀ j, j < 6 → M'.1 33 j = nI (due hd wy n j)) 4 [.ref 29, .int (nI (fb_sm hd i)), .int (nI i), .null, .null, .null, .null, .null, .null, .null, .null] [] G0 M2 := by
    intro k
    induction k with
    | zero => intro i M2 hi hF hz hk; exact absurd hk (Nat.not_lt_zero _)
    | succ k ih =>
      intro i M2 hi hF hz hk
      have hs := sm_le Hd.2 i
      refine PW.ige rfl trivial (fun h7 => ?_) (fun h7 => ?_)
      · skip
        rw [i6 (by omega)] at h7
        have e : i = 6 := by omega
        subst e
        rw [← eA]
        exact join32 M2 hF hz
      · skip
        rw [i6 (by omega)] at h7
        refine PW.goto rfl ⟨⟨trivial, vp_in_nI (by omega) (by decide)⟩, vp_in_nI (by omega) (by decide)⟩ ?_
        rw [nI_clamp (by omega), hF.at 32, HH.2 i (by omega), nI_add, nI_1]
        refine ih (i + 1) _ (by omega) (hF.put (by decide)) (fun j hj => ?_) (by omega)
        by_cases q : j = i
        · subst q; exact up_s
        · exact (up_n q).trans (hz j (by omega))
  refine PW.to 4 rfl trivial ?_
  exact loop4 7 0 M (by omega) FI.rf (fun j hj => absurd hj (Nat.not_lt_zero j)) (by omega)
end M2
