-- made by wip/whole/mk_m4.py
section M4
variable {X : Cx} {l : Launch} {M : Mem}
theorem due_lt {hd : Nat → Nat} {wy n l : Nat} (Hd : Hf hd wy) (hn : n ≤ 36) (hl : l < 6) : due hd wy n l < 2 ^ 30 := by
  unfold due
  split
  · decide
  · split
    · have h1 := mul_lt (b := 0) (Hd.2 l) hn
      have h2 := Nat.div_le_self (hd l * n) (fb_sm hd 6)
      split <;> omega
    · have := shd_le hd wy n l hl
      omega
theorem m_allFaults {w h : Nat} {mp dr : Nat → Nat} (Hw : Wf w h mp dr) (H : WM w h mp dr M) {hd : Nat → Nat} {wy : Nat} (Hd : Hf hd wy) (HH : HM hd wy M) : PC X l mX8_allFaults 4 [.ref 29] G0 M (fun v M' => v = some (.int (nI (flt w (w * h) mp dr (due hd wy (w * h - many mp 6 (w * h))) 6))) ∧ FI [33, 34, 35] M M') := by
  refine PC.ofW okX8_allFaults ?_
  have hn := Hw.n
  obtain ⟨n, en⟩ : ∃ n, n = w * h := ⟨_, rfl⟩
  obtain ⟨du, edu⟩ : ∃ du, du = due hd wy (w * h - many mp 6 (w * h)) := ⟨_, rfl⟩
  rw [← edu, ← en]
  have loop8 : ∀ k : Nat, ∀ (i : Nat) (M2 : Mem), i ≤ 6 → FI [33, 34, 35] M M2 → (∀ j, j < 6 → M2.1 33 j = nI (du j)) → (∀ j, j < 6 → du j < 2 ^ 30) → 6 - i < k → PW X l mX8_allFaults 4 (fun v M' => v = some (.int (nI (flt w n mp dr du 6))) ∧ FI [33, 34, 35] M M') 8 [.ref 29, .int (nI (flt w n mp dr du i)), .int (nI i), .null, .null, .null, .null] [] G0 M2 := by
    intro k
    induction k with
    | zero => intro i M2 hi hF hz hdu hk; exact absurd hk (Nat.not_lt_zero _)
    | succ k ih =>
      intro i M2 hi hF hz hdu hk
      have loop57 : ∀ k57 : Nat, ∀ (m : Nat) (M3 : Mem), FI [33, 34, 35] M M3 → (∀ j, j < 6 → M3.1 33 j = nI (du j)) → i < 6 → m ≤ i → i - m < k57 → PW X l mX8_allFaults 4 (fun v M' => v = some (.int (nI (flt w n mp dr du 6))) ∧ FI [33, 34, 35] M M') 57 [.ref 29, .int (nI (flt w n mp dr du i + (fl1 w n dr du i + fl2 w n mp dr i m))), .int (nI i), .null, .int (nI m), .null, .null] [] G0 M3 := by
        intro k57
        induction k57 with
        | zero => intro m M3 hF3 hz3 hi6 hm hk3; exact absurd hk3 (Nat.not_lt_zero _)
        | succ k57 ih57 =>
          intro m M3 hF3 hz3 hi6 hm hk3
          refine PW.ige rfl trivial (fun h60 => ?_) (fun h60 => ?_)
          · skip
            rw [nI_leI (by omega) (by omega)] at h60
            have e : m = i := by omega
            subst e
            refine PW.goto rfl trivial ?_
            rw [nI_1]
            refine PW.nl [4] ?_
            exact ih (m + 1) M3 (by omega) hF3 hz3 hdu (by omega)
          · skip
            rw [nI_leI (by omega) (by omega)] at h60
            refine PW.funV rfl trivial sX8_132 rfl rfl (by decide) rfl (m_areBeside 0 i m (by omega) (by omega) Hw (H.fi hF3)) ?_
            rw [show sl 0 mp dr = mp from rfl, ← en]
            refine PW.funV rfl trivial sX8_132 rfl rfl (by decide) rfl (m_areBeside 1 i m (by omega) (by omega) Hw (H.fi hF3)) ?_
            rw [show sl 1 mp dr = dr from rfl, ← en]
            refine PW.zeq rfl trivial (fun h86 => ?_) (fun h86 => ?_)
            · skip
              rw [bo_eq] at h86
              refine PW.zeq rfl trivial (fun h100 => ?_) (fun h100 => ?_)
              · skip
                rw [bo_eq] at h100
                refine PW.goto rfl trivial ?_
                rw [nI_1]
                refine PW.nl [5, 6] ?_
                refine PW.lc ?_ (ih57 (m + 1) M3 hF3 hz3 hi6 (by omega) (by omega))
                have e2 : fl2 w n mp dr i (m + 1) = fl2 w n mp dr i m + pt (nbr w n mp i m) (nbr w n dr i m) := rfl
                first
                | (rw [e2, show pt (nbr w n mp i m) (nbr w n dr i m) = 2 from by simp_all [pt], show (2 : Int32) = nI 2 from rfl, nI_add]; rfl)
                | (rw [e2, show pt (nbr w n mp i m) (nbr w n dr i m) = 1 from by simp_all [pt], nI_1]; rfl)
                | (rw [e2, show pt (nbr w n mp i m) (nbr w n dr i m) = 0 from by simp_all [pt], Int32.add_zero]; rfl)
              · skip
                rw [bo_ne] at h100
                refine PW.zne rfl trivial (fun h105 => ?_) (fun h105 => ?_)
                · skip
                  rw [bo_ne] at h105
                  refine PW.goto rfl trivial ?_
                  rw [nI_1]
                  refine PW.nl [5, 6] ?_
                  refine PW.lc ?_ (ih57 (m + 1) M3 hF3 hz3 hi6 (by omega) (by omega))
                  have e2 : fl2 w n mp dr i (m + 1) = fl2 w n mp dr i m + pt (nbr w n mp i m) (nbr w n dr i m) := rfl
                  first
                  | (rw [e2, show pt (nbr w n mp i m) (nbr w n dr i m) = 2 from by simp_all [pt], show (2 : Int32) = nI 2 from rfl, nI_add]; rfl)
                  | (rw [e2, show pt (nbr w n mp i m) (nbr w n dr i m) = 1 from by simp_all [pt], nI_1]; rfl)
                  | (rw [e2, show pt (nbr w n mp i m) (nbr w n dr i m) = 0 from by simp_all [pt], Int32.add_zero]; rfl)
                · skip
                  rw [bo_eq] at h105
                  refine PW.goto rfl trivial ?_
                  refine PW.goto rfl trivial ?_
                  rw [nI_1]
                  refine PW.nl [5, 6] ?_
                  refine PW.lc ?_ (ih57 (m + 1) M3 hF3 hz3 hi6 (by omega) (by omega))
                  have e2 : fl2 w n mp dr i (m + 1) = fl2 w n mp dr i m + pt (nbr w n mp i m) (nbr w n dr i m) := rfl
                  first
                  | (rw [e2, show pt (nbr w n mp i m) (nbr w n dr i m) = 2 from by simp_all [pt], show (2 : Int32) = nI 2 from rfl, nI_add]; rfl)
                  | (rw [e2, show pt (nbr w n mp i m) (nbr w n dr i m) = 1 from by simp_all [pt], nI_1]; rfl)
                  | (rw [e2, show pt (nbr w n mp i m) (nbr w n dr i m) = 0 from by simp_all [pt], Int32.add_zero]; rfl)
            · skip
              rw [bo_ne] at h86
              refine PW.zne rfl trivial (fun h91 => ?_) (fun h91 => ?_)
              · skip
                rw [bo_ne] at h91
                refine PW.zeq rfl trivial (fun h100 => ?_) (fun h100 => ?_)
                · skip
                  rw [bo_eq] at h100
                  refine PW.goto rfl trivial ?_
                  rw [nI_1]
                  refine PW.nl [5, 6] ?_
                  refine PW.lc ?_ (ih57 (m + 1) M3 hF3 hz3 hi6 (by omega) (by omega))
                  have e2 : fl2 w n mp dr i (m + 1) = fl2 w n mp dr i m + pt (nbr w n mp i m) (nbr w n dr i m) := rfl
                  first
                  | (rw [e2, show pt (nbr w n mp i m) (nbr w n dr i m) = 2 from by simp_all [pt], show (2 : Int32) = nI 2 from rfl, nI_add]; rfl)
                  | (rw [e2, show pt (nbr w n mp i m) (nbr w n dr i m) = 1 from by simp_all [pt], nI_1]; rfl)
                  | (rw [e2, show pt (nbr w n mp i m) (nbr w n dr i m) = 0 from by simp_all [pt], Int32.add_zero]; rfl)
                · skip
                  rw [bo_ne] at h100
                  refine PW.zne rfl trivial (fun h105 => ?_) (fun h105 => ?_)
                  · skip
                    rw [bo_ne] at h105
                    refine PW.goto rfl trivial ?_
                    rw [nI_1]
                    refine PW.nl [5, 6] ?_
                    refine PW.lc ?_ (ih57 (m + 1) M3 hF3 hz3 hi6 (by omega) (by omega))
                    have e2 : fl2 w n mp dr i (m + 1) = fl2 w n mp dr i m + pt (nbr w n mp i m) (nbr w n dr i m) := rfl
                    first
                    | (rw [e2, show pt (nbr w n mp i m) (nbr w n dr i m) = 2 from by simp_all [pt], show (2 : Int32) = nI 2 from rfl, nI_add]; rfl)
                    | (rw [e2, show pt (nbr w n mp i m) (nbr w n dr i m) = 1 from by simp_all [pt], nI_1]; rfl)
                    | (rw [e2, show pt (nbr w n mp i m) (nbr w n dr i m) = 0 from by simp_all [pt], Int32.add_zero]; rfl)
                  · skip
                    rw [bo_eq] at h105
                    refine PW.goto rfl trivial ?_
                    refine PW.goto rfl trivial ?_
                    rw [nI_1]
                    refine PW.nl [5, 6] ?_
                    refine PW.lc ?_ (ih57 (m + 1) M3 hF3 hz3 hi6 (by omega) (by omega))
                    have e2 : fl2 w n mp dr i (m + 1) = fl2 w n mp dr i m + pt (nbr w n mp i m) (nbr w n dr i m) := rfl
                    first
                    | (rw [e2, show pt (nbr w n mp i m) (nbr w n dr i m) = 2 from by simp_all [pt], show (2 : Int32) = nI 2 from rfl, nI_add]; rfl)
                    | (rw [e2, show pt (nbr w n mp i m) (nbr w n dr i m) = 1 from by simp_all [pt], nI_1]; rfl)
                    | (rw [e2, show pt (nbr w n mp i m) (nbr w n dr i m) = 0 from by simp_all [pt], Int32.add_zero]; rfl)
              · skip
                rw [bo_eq] at h91
                refine PW.goto rfl trivial ?_
                refine PW.goto rfl trivial ?_
                rw [nI_1]
                refine PW.nl [5, 6] ?_
                refine PW.lc ?_ (ih57 (m + 1) M3 hF3 hz3 hi6 (by omega) (by omega))
                have e2 : fl2 w n mp dr i (m + 1) = fl2 w n mp dr i m + pt (nbr w n mp i m) (nbr w n dr i m) := rfl
                first
                | (rw [e2, show pt (nbr w n mp i m) (nbr w n dr i m) = 2 from by simp_all [pt], show (2 : Int32) = nI 2 from rfl, nI_add]; rfl)
                | (rw [e2, show pt (nbr w n mp i m) (nbr w n dr i m) = 1 from by simp_all [pt], nI_1]; rfl)
                | (rw [e2, show pt (nbr w n mp i m) (nbr w n dr i m) = 0 from by simp_all [pt], Int32.add_zero]; rfl)
      refine PW.ige rfl trivial (fun h11 => ?_) (fun h11 => ?_)
      · skip
        rw [i6 (by omega)] at h11
        have e : i = 6 := by omega
        subst e
        refine PW.iret rfl rfl trivial ?_
        exact ⟨rfl, hF⟩
      · skip
        rw [i6 (by omega)] at h11
        refine PW.callV rfl trivial sX8_125 rfl rfl (by decide) rfl (m_partsOf i (by omega) Hw (H.fi hF)) (fun v16 M16 hq16 => ?_)
        obtain ⟨rfl, hF1⟩ := hq16
        have hF2 := hF.tr (hF1.mono (by decide))
        rw [← en]
        have hz2 : ∀ j, j < 6 → M16.1 33 j = nI (du j) := fun j hj => by rw [hF1.at 33]; exact hz j hj
        have hp := prt_le (fun c => decide (dr c = i)) w n
        refine PW.funV rfl trivial sX8_106 rfl rfl (by decide) rfl (m_manyOf 1 i (by omega) Hw (H.fi hF2)) ?_
        rw [show sl 1 mp dr = dr from rfl, ← en]
        have hm := many_le dr i n
        refine PW.funS rfl ⟨trivial, vp_in_nI (by omega) (by decide)⟩ sX8_117 rfl (by decide) rfl (m_size _) ?_
        rw [nI_clamp (by omega), hz2 i (by omega), nI_abs (by omega) (hdu i (by omega))]
        refine PW.ile rfl trivial (fun h39 => ?_) (fun h39 => ?_)
        · skip
          rw [show (1 : Int32) = nI 1 from rfl, nI_leI (by omega) (by omega)] at h39
          refine PW.to 57 rfl trivial ?_
          refine PW.nl [3] ?_
          refine PW.lc ?_ (loop57 7 0 M16 hF2 hz2 (by omega) (Nat.zero_le _) (by omega))
          first
          | (rw [show (3 : Int32) = nI 3 from rfl, nI_m1 (by omega), pk_mul, nI_add, nI_add]
             simp only [fl1, fl2, fb_sm, Nat.add_zero, if_pos (show 1 < prt (fun c => decide (dr c = i)) w n by omega)]; rfl)
          | (rw [Int32.add_zero, nI_add]
             simp only [fl1, fl2, fb_sm, Nat.add_zero, if_neg (show ¬ 1 < prt (fun c => decide (dr c = i)) w n by omega)]; rfl)
        · skip
          rw [show (1 : Int32) = nI 1 from rfl, nI_leI (by omega) (by omega)] at h39
          refine PW.goto rfl trivial ?_
          refine PW.to 57 rfl trivial ?_
          refine PW.nl [3] ?_
          refine PW.lc ?_ (loop57 7 0 M16 hF2 hz2 (by omega) (Nat.zero_le _) (by omega))
          first
          | (rw [show (3 : Int32) = nI 3 from rfl, nI_m1 (by omega), pk_mul, nI_add, nI_add]
             simp only [fl1, fl2, fb_sm, Nat.add_zero, if_pos (show 1 < prt (fun c => decide (dr c = i)) w n by omega)]; rfl)
          | (rw [Int32.add_zero, nI_add]
             simp only [fl1, fl2, fb_sm, Nat.add_zero, if_neg (show ¬ 1 < prt (fun c => decide (dr c = i)) w n by omega)]; rfl)
  refine PW.callV rfl trivial sX8_114 rfl rfl (by decide) rfl (m_share Hw H Hd HH) (fun v1 M1 hq1 => ?_)
  obtain ⟨rfl, hF0, hz0⟩ := hq1
  rw [← edu] at hz0
  refine PW.to 8 rfl trivial ?_
  exact loop8 7 0 M1 (by omega) (hF0.mono (by decide)) hz0 (fun j hj => by rw [edu]; exact due_lt Hd (by omega) hj) (by omega)
theorem m_isChange {w h : Nat} {mp dr : Nat → Nat} (Hw : Wf w h mp dr) (H : WM w h mp dr M) (c lv : Nat) (hc : c < w * h) (hl : lv ≤ 6) : PF X l mX8_isChange 3 [.ref 29, .int (nI c), .int (nI lv)] G0 M (.int (bo (chg w (w * h) dr c lv))) := by
  refine PF.ofW okX8_isChange ?_
  have hn := Hw.n
  have hd6 := Hw.2.2.2.2.2.1 c
  have ec : M.1 31 (nI c).toNatClampNeg = nI (dr c) := by rw [nI_clamp (by omega)]; exact H.2.2.2 c (by omega)
  refine PW.ine rfl ⟨trivial, vp_in_nI (by omega) (by decide)⟩ (fun h9 => ?_) (fun h9 => ?_)
  · skip
    rw [ec, nI_eq (by omega) (by omega)] at h9
    refine PW.ine rfl trivial (fun h17 => ?_) (fun h17 => ?_)
    · skip
      rw [show (6 : Int32) = nI 6 from rfl, nI_eq (by omega) (by omega)] at h17
      refine PW.funV rfl trivial sX8_128 rfl rfl (by decide) rfl (m_touches 1 c lv (by omega) (by omega) Hw H) ?_
      rw [show sl 1 mp dr = dr from rfl]
      refine PW.zne rfl trivial (fun h29 => ?_) (fun h29 => ?_)
      · skip
        rw [bo_ne] at h29
        refine PW.goto rfl trivial ?_
        refine PW.zret rfl rfl trivial (rfl) ?_
        refine ⟨?_, rfl⟩
        simp_all [chg, bo]
      · skip
        rw [bo_eq] at h29
        refine PW.ine rfl trivial (fun h35 => ?_) (fun h35 => ?_)
        · skip
          rw [ec, show (6 : Int32) = nI 6 from rfl, nI_eq (by omega) (by omega)] at h35
          refine PW.zret rfl rfl trivial (rfl) ?_
          refine ⟨?_, rfl⟩
          simp_all [chg, bo]
        · skip
          rw [ec, show (6 : Int32) = nI 6 from rfl, nI_eq (by omega) (by omega)] at h35
          refine PW.funV rfl trivial sX8_106 rfl rfl (by decide) rfl (m_manyOf 1 lv (by omega) Hw H) ?_
          rw [show sl 1 mp dr = dr from rfl]
          have hm := many_le dr lv (w * h)
          refine PW.zne rfl trivial (fun h44 => ?_) (fun h44 => ?_)
          · skip
            rw [show (0 : Int32) = nI 0 from rfl, nI_eq (by omega) (by omega)] at h44
            refine PW.zret rfl rfl trivial (rfl) ?_
            refine ⟨?_, rfl⟩
            simp_all [chg, bo]
          · skip
            rw [show (0 : Int32) = nI 0 from rfl, nI_eq (by omega) (by omega)] at h44
            refine PW.goto rfl trivial ?_
            refine PW.zret rfl rfl trivial (rfl) ?_
            refine ⟨?_, rfl⟩
            simp_all [chg, bo]
    · skip
      rw [show (6 : Int32) = nI 6 from rfl, nI_eq (by omega) (by omega)] at h17
      refine PW.zret rfl rfl trivial (rfl) ?_
      refine ⟨?_, rfl⟩
      simp_all [chg, bo]
  · skip
    rw [ec, nI_eq (by omega) (by omega)] at h9
    refine PW.zret rfl rfl trivial (rfl) ?_
    refine ⟨?_, rfl⟩
    simp_all [chg, bo]
theorem m_faultsBy {w h : Nat} {mp dr : Nat → Nat} (Hw : Wf w h mp dr) (H : WM w h mp dr M) {hd : Nat → Nat} {wy : Nat} (Hd : Hf hd wy) (HH : HM hd wy M) (c lv : Nat) (hc : c < w * h) (hl : lv ≤ 6) : PC X l mX8_faultsBy 5 [.ref 29, .int (nI c), .int (nI lv)] G0 M (fun v M' => v = some (.int (nI (flt w (w * h) mp (set1 dr c lv) (due hd wy (w * h - many mp 6 (w * h))) 6))) ∧ FI [33, 34, 35] M M') := by
  refine PC.ofW okX8_faultsBy ?_
  have hn := Hw.n
  have ec : M.1 31 c = nI (dr c) := H.2.2.2 c (by omega)
  refine PW.callV rfl ⟨⟨trivial, vp_in_nI (by omega) (by decide)⟩, vp_in_nI (by omega) (by decide)⟩ sX8_135 rfl rfl (by decide) rfl (show PC X l mX8_allFaults 4 [.ref 29] G0 (va_up M.1 31 (upd (M.1 31) (nI c).toNatClampNeg (nI lv)), M.2) (fun v M2 => v = some (.int (nI (flt w (w * h) mp (set1 dr c lv) (due hd wy (w * h - many mp 6 (w * h))) 6))) ∧ FI [33, 34, 35] (va_up M.1 31 (upd (M.1 31) c (nI lv)), M.2) M2) from by rw [nI_clamp (by omega)]; exact m_allFaults (wf_set1 Hw hc hl) (wm_set1 H (by omega)) Hd (hm_set1 HH)) (fun v15 M15 hq15 => ?_)
  obtain ⟨rfl, hF0⟩ := hq15
  rw [nI_clamp (by omega)]
  refine PW.iret rfl rfl ⟨trivial, vp_in_nI (by omega) (by decide)⟩ ?_
  exact ⟨rfl, by rw [nI_clamp (by omega), ec]; exact fi_put ec hF0 (by decide)⟩
end M4
