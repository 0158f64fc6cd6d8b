-- made by wip/whole/mk_m5.py
section M5
variable {X : Cx} {l : Launch} {M : Mem}
theorem m_may {w h : Nat} {mp dr : Nat → Nat} (Hw : Wf w h mp dr) (H : WM w h mp dr M) (c lv : Nat) (hc : c < w * h) (hl : lv < 6) : PC X l mX8_may 3 [.ref 29, .int (nI c), .int (nI lv)] G0 M (fun v M' => v = some (.int (bo (mayh w (w * h) dr c lv))) ∧ FI [34, 35] M M') := by
  refine PC.ofW okX8_may ?_
  have hn := Hw.n
  have hd6 := Hw.2.2.2.2.2.1 c
  have ec : M.1 31 (nI c).toNatClampNeg = nI (dr c) := by rw [nI_clamp (by omega)]; exact H.2.2.2 c (by omega)
  refine PW.ieq rfl ⟨trivial, vp_in_nI (by omega) (by decide)⟩ (fun h10 => ?_) (fun h10 => ?_)
  · skip
    rw [ec, show (6 : Int32) = nI 6 from rfl, nI_eq (by omega) (by omega)] at h10
    refine PW.zret rfl rfl trivial (rfl) ?_
    refine ⟨?_, FI.rf⟩
    simp_all [mayh, bo]
    try (intro h9; omega)
  · skip
    rw [ec, show (6 : Int32) = nI 6 from rfl, nI_eq (by omega) (by omega)] at h10
    rw [ec]
    refine PW.ieq rfl trivial (fun h15 => ?_) (fun h15 => ?_)
    · skip
      rw [nI_eq (by omega) (by omega)] at h15
      refine PW.zret rfl rfl trivial (rfl) ?_
      refine ⟨?_, FI.rf⟩
      simp_all [mayh, bo]
      try (intro h9; omega)
    · skip
      rw [nI_eq (by omega) (by omega)] at h15
      refine PW.funV rfl trivial sX8_128 rfl rfl (by decide) rfl (m_touches 1 c lv (by omega) (by omega) Hw H) ?_
      rw [show sl 1 mp dr = dr from rfl]
      refine PW.zeq rfl trivial (fun h25 => ?_) (fun h25 => ?_)
      · skip
        rw [bo_eq] at h25
        refine PW.zret rfl rfl trivial (rfl) ?_
        refine ⟨?_, FI.rf⟩
        simp_all [mayh, bo]
        try (intro h9; omega)
      · skip
        rw [bo_ne] at h25
        refine PW.funV rfl trivial sX8_106 rfl rfl (by decide) rfl (m_manyOf 1 (dr c) (by omega) Hw H) ?_
        rw [show sl 1 mp dr = dr from rfl]
        have hm := many_le dr (dr c) (w * h)
        refine PW.ige rfl trivial (fun h35 => ?_) (fun h35 => ?_)
        · skip
          rw [show (2 : Int32) = nI 2 from rfl, nI_leI (by omega) (by omega)] at h35
          refine PW.callV rfl trivial sX8_125 rfl rfl (by decide) rfl (m_partsOf (dr c) (by omega) Hw H) (fun v42 M42 hq42 => ?_)
          obtain ⟨rfl, hF1⟩ := hq42
          have ec2 : M42.1 31 c = nI (dr c) := by rw [hF1.at 31]; exact H.2.2.2 c (by omega)
          refine PW.callV rfl ⟨trivial, vp_in_nI (by omega) (by decide)⟩ sX8_125 rfl rfl (by decide) rfl (show PC X l mX8_partsOf 2 [.ref 29, .int (nI (dr c))] G0 (va_up M42.1 31 (upd (M42.1 31) (nI c).toNatClampNeg (nI lv)), M42.2) (fun v M2 => v = some (.int (nI (prt (fun x => decide (set1 dr c lv x = dr c)) w (w * h)))) ∧ FI [34, 35] (va_up M42.1 31 (upd (M42.1 31) c (nI lv)), M42.2) M2) from by rw [nI_clamp (by omega)]; exact m_partsOf (dr c) (by omega) (wf_set1 Hw hc (by omega)) (wm_set1 (H.fi hF1) (by omega))) (fun v56 M56 hq56 => ?_)
          obtain ⟨rfl, hF2⟩ := hq56
          have hp1 := prt_le (fun x => decide (set1 dr c lv x = dr c)) w (w * h)
          have hp2 := prt_le (fun x => decide (dr x = dr c)) w (w * h)
          refine PW.igt rfl ⟨trivial, vp_in_nI (by omega) (by decide)⟩ (fun h72 => ?_) (fun h72 => ?_)
          · skip
            rw [nI_ltI (by omega) (by omega)] at h72
            refine PW.zret rfl rfl trivial (rfl) ?_
            refine ⟨?_, by rw [nI_clamp (by omega)]; exact hF1.tr (fi_put ec2 hF2 (by decide))⟩
            have hd1 : ¬ dr c = 6 := h10
            first | (have h9 : ¬ prt (fun x => decide (set1 dr c lv x = dr c)) w (w * h) ≤ prt (fun x => decide (dr x = dr c)) w (w * h) := by omega); simp [mayh, bo, h10, h15, h25, h35, h9] | (have h9 : prt (fun x => decide (set1 dr c lv x = dr c)) w (w * h) ≤ prt (fun x => decide (dr x = dr c)) w (w * h) := by omega); simp [mayh, bo, h10, h15, h25, h35, h9]
          · skip
            rw [nI_ltI (by omega) (by omega)] at h72
            refine PW.goto rfl trivial ?_
            refine PW.zret rfl rfl trivial (rfl) ?_
            refine ⟨?_, by rw [nI_clamp (by omega)]; exact hF1.tr (fi_put ec2 hF2 (by decide))⟩
            have hd1 : ¬ dr c = 6 := h10
            first | (have h9 : ¬ prt (fun x => decide (set1 dr c lv x = dr c)) w (w * h) ≤ prt (fun x => decide (dr x = dr c)) w (w * h) := by omega); simp [mayh, bo, h10, h15, h25, h35, h9] | (have h9 : prt (fun x => decide (set1 dr c lv x = dr c)) w (w * h) ≤ prt (fun x => decide (dr x = dr c)) w (w * h) := by omega); simp [mayh, bo, h10, h15, h25, h35, h9]
        · skip
          rw [show (2 : Int32) = nI 2 from rfl, nI_leI (by omega) (by omega)] at h35
          refine PW.zret rfl rfl trivial (rfl) ?_
          refine ⟨?_, FI.rf⟩
          simp_all [mayh, bo]
          try (intro h9; omega)
theorem m_leastTo {w h : Nat} {mp dr : Nat → Nat} (Hw : Wf w h mp dr) (H : WM w h mp dr M) (a b : Nat) (ha : a < 6) (hb : b < 6) : PC X l mX8_leastTo 4 [.ref 29, .int (nI a), .int (nI b)] G0 M (fun v M' => v = some (.int (ob (fnd (fun c => decide (dr c = a) && mayh w (w * h) dr c b) (w * h)))) ∧ FI [34, 35] M M') := by
  refine PC.ofW okX8_leastTo ?_
  have hn := Hw.n
  have loop2 : ∀ k : Nat, ∀ (c : Nat) (M2 : Mem), c ≤ w * h → FI [34, 35] M M2 → (∀ d, d < c → (decide (dr d = a) && mayh w (w * h) dr d b) = false) → w * h - c < k → PW X l mX8_leastTo 4 (fun v M' => v = some (.int (ob (fnd (fun c => decide (dr c = a) && mayh w (w * h) dr c b) (w * h)))) ∧ FI [34, 35] M M') 2 [.ref 29, .int (nI a), .int (nI b), .int (nI c)] [] G0 M2 := by
    intro k
    induction k with
    | zero => intro c M2 hc hF hz hk; exact absurd hk (Nat.not_lt_zero _)
    | succ k ih =>
      intro c M2 hc hF hz hk
      have hd6 := Hw.2.2.2.2.2.1 c
      refine PW.ige rfl trivial (fun h12 => ?_) (fun h12 => ?_)
      · skip
        rw [(H.fi hF).wh, nI_leI (by omega) (by omega)] at h12
        have e : c = w * h := by omega
        subst e
        refine PW.iret rfl rfl trivial ?_
        exact ⟨by rw [fnd_none.mpr hz]; rfl, hF⟩
      · skip
        rw [(H.fi hF).wh, nI_leI (by omega) (by omega)] at h12
        refine PW.ine rfl ⟨trivial, vp_in_nI (by omega) (by decide)⟩ (fun h22 => ?_) (fun h22 => ?_)
        · skip
          rw [nI_clamp (by omega), (H.fi hF).2.2.2 c (by omega), nI_eq (by omega) (by omega)] at h22
          have hF9 := hF
          refine PW.goto rfl trivial ?_
          rw [nI_1]
          refine ih (c + 1) _ (by omega) hF9 (fun d hd => ?_) (by omega)
          by_cases q : d = c
          · subst q; simp_all
          · exact hz d (by omega)
        · skip
          rw [nI_clamp (by omega), (H.fi hF).2.2.2 c (by omega), nI_eq (by omega) (by omega)] at h22
          refine PW.callV rfl trivial sX8_147 rfl rfl (by decide) rfl (m_may Hw (H.fi hF) c b (by omega) hb) (fun v28 M28 hq28 => ?_)
          obtain ⟨rfl, hF1⟩ := hq28
          have hF9 := hF.tr hF1
          refine PW.zeq rfl trivial (fun h31 => ?_) (fun h31 => ?_)
          · skip
            rw [bo_eq] at h31
            refine PW.goto rfl trivial ?_
            rw [nI_1]
            refine ih (c + 1) _ (by omega) hF9 (fun d hd => ?_) (by omega)
            by_cases q : d = c
            · subst q; simp_all
            · exact hz d (by omega)
          · skip
            rw [bo_ne] at h31
            refine PW.iret rfl rfl trivial ?_
            exact ⟨by rw [fnd_some.mpr ⟨by omega, by simp [h22, h31], hz⟩]; rfl, hF9⟩
  refine PW.to 2 rfl trivial ?_
  exact loop2 (w * h + 1) 0 M (Nat.zero_le _) FI.rf (fun d hd => absurd hd (Nat.not_lt_zero d)) (by omega)
end M5
