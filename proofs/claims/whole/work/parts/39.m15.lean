-- made by wip/whole/mk_m15.py
section M15
variable {X : Cx} {l : Launch} {M : Mem}
theorem m_offOf (lv c : Nat) (hl : lv < 2 ^ 31) (hc : c < 36) {w h : Nat} {mp dr : Nat → Nat} (Hw : Wf w h mp dr) (H : WM w h mp dr M) : PF X l mX8_offOf 0 [.ref 29, .int (nI lv), .int (nI c)] G0 M (.int (nI (ofo w (w * h) mp lv c))) := by
  refine PF.ofW okX8_offOf ?_
  have loop11 : ∀ k : Nat, ∀ (i : Nat), i ≤ w * h → w * h - i < k → PW X l mX8_offOf 0 (fun v M' => v = some (.int (nI (ofo w (w * h) mp lv c))) ∧ M' = M) 11 [.ref 29, .int (nI lv), .int (nI c), .int (nI (many mp lv i)), .int (nI (msm (fun c => c % w) (fun c => decide (mp c = lv)) i)), .int (nI (msm (fun c => c / w) (fun c => decide (mp c = lv)) i)), .int (nI i), .null] [] G0 M := by
    intro k
    induction k with
    | zero => intro i hi hk; exact absurd hk (Nat.not_lt_zero _)
    | succ k ih =>
      intro i hi hk
      have hn := Hw.n
      have hm6 := Hw.2.2.2.2.1 i
      refine PW.ige rfl trivial (fun h22 => ?_) (fun h22 => ?_)
      · skip
        rw [H.wh, nI_leI (by omega) (by omega)] at h22
        have e : i = w * h := by omega
        subst e
        refine PW.iret rfl rfl ⟨⟨trivial, (by rw [H.1]; exact nI_ne0 (by have := Hw.1; omega) (by have := Hw.2.1; omega))⟩, (by rw [H.1]; exact nI_ne0 (by have := Hw.1; omega) (by have := Hw.2.1; omega))⟩ ?_
        refine ⟨?_, rfl⟩
        simp only [H.1]
        rw [pk_rem (by omega) (by have := Hw.1; omega) (by have := Hw.2.1; omega), pk_div (by omega) (by have := Hw.1; omega) (by have := Hw.2.1; omega), pk_mul, pk_mul, sq_ad, sq_ad, nI_add]
        rfl
      · skip
        rw [H.wh, nI_leI (by omega) (by omega)] at h22
        refine PW.ine rfl ⟨trivial, vp_in_nI (by omega) (by decide)⟩ (fun h33 => ?_) (fun h33 => ?_)
        · skip
          rw [nI_clamp (by omega), H.2.2.1 i (by omega), nI_eq (by omega) (by omega)] at h33
          refine PW.goto rfl trivial ?_
          have em : many mp lv (i + 1) = many mp lv i := by unfold many; rw [fb_ct_succ, if_neg (by simpa using h33), Nat.add_zero]
          have e1 : ∀ g, msm g (fun c => decide (mp c = lv)) (i + 1) = msm g (fun c => decide (mp c = lv)) i := fun g => by rw [msm_s, if_neg (by simpa using h33), Nat.add_zero]
          refine PW.lc ?_ (ih (i + 1) (by omega) (by omega))
          rw [em, e1, e1, nI_1]
        · skip
          rw [nI_clamp (by omega), H.2.2.1 i (by omega), nI_eq (by omega) (by omega)] at h33
          refine PW.goto rfl ⟨⟨trivial, (by rw [H.1]; exact nI_ne0 (by have := Hw.1; omega) (by have := Hw.2.1; omega))⟩, (by rw [H.1]; exact nI_ne0 (by have := Hw.1; omega) (by have := Hw.2.1; omega))⟩ ?_
          have em : many mp lv (i + 1) = many mp lv i + 1 := by unfold many; rw [fb_ct_succ, if_pos (by simpa using h33)]
          have e1 : ∀ g, msm g (fun c => decide (mp c = lv)) (i + 1) = msm g (fun c => decide (mp c = lv)) i + g i := fun g => by rw [msm_s, if_pos (by simpa using h33)]
          refine PW.lc ?_ (ih (i + 1) (by omega) (by omega))
          rw [em, e1, e1]
          simp only [H.1]
          rw [pk_rem (by omega) (by have := Hw.1; omega) (by have := Hw.2.1; omega), pk_div (by omega) (by have := Hw.1; omega) (by have := Hw.2.1; omega), nI_add, nI_add, nI_1, nI_1]
  refine PW.to 11 rfl trivial ?_
  exact loop11 (w * h + 1) 0 (Nat.zero_le _) (by omega)
set_option maxHeartbeats 1000000 in
theorem m_leastOff {w h : Nat} {mp dr : Nat → Nat} (Hw : Wf w h mp dr) (H : WM w h mp dr M) (q : Nat) (hq : q ≤ 6) (t : Nat → Nat) (ht : ∀ x, x < q → (Tl mp (w * h)) x = true → t x < w * h ∧ M.1 46 x = nI (t x)) : PC X l mX8_leastOff 3 [.ref 29, .int (nI q)] G0 M (fun v M' => v = some (.int (op (lof (Tl mp (w * h)) (w * h) (ofo w (w * h) mp) t q))) ∧ FI [40, 47] M M') := by
  refine PC.ofW okX8_leastOff ?_
  have hn := Hw.n
  have hot : (otm (Tl mp (w * h)) q 6) < 64 := otm_lt _ q 6 (by omega)
  have hbo : ∀ l c, c < w * h → (ofo w (w * h) mp) l c ≤ 64800 := fun l c hc => ofo_le Hw.2.1 Hw.2.2.2.1 Hw.1 l hc
  have loop118 : ∀ k : Nat, ∀ (c : Nat) (M2 : Mem), c ≤ w * h → FI [40, 47] M M2 → (∀ s, s < 64 → M2.1 47 s = op (dp (ofo w (w * h) mp) (otm (Tl mp (w * h)) q 6) (frk (Tl mp (w * h)) t q) (c) (s))) → w * h - c < k → PW X l mX8_leastOff 3 (fun v M' => v = some (.int (op (lof (Tl mp (w * h)) (w * h) (ofo w (w * h) mp) t q))) ∧ FI [40, 47] M M') 118 [.ref 29, .int (nI q), .int (nI (otm (Tl mp (w * h)) q 6)), .int (nI (lsm (Tl mp (w * h)) (ofo w (w * h) mp) t q 6)), .int (nI c), .null, .null, .null, .null, .null] [] G0 M2 := by
    intro k
    induction k with
    | zero => intro c M2 hc J hx hk; exact absurd hk (Nat.not_lt_zero _)
    | succ k ih =>
      intro c M2 hc J hx hk
      have H2 := H.fi J
      have hdp : ∀ s m, s < 64 → (dp (ofo w (w * h) mp) (otm (Tl mp (w * h)) q 6) (frk (Tl mp (w * h)) t q) (c) (s)) = some m → m < 1000000000 := fun s m hs e => by have := dp_bd hbo hc hs e; omega
      have loop232 : ∀ k232 : Nat, ∀ (s : Nat) (M3 : Mem), c < w * h → s < 64 → FI [40, 47] M M3 → (∀ x, x < 64 → M3.1 47 x = op (if s < x ∧ (frk (Tl mp (w * h)) t q) c = true then (dp (ofo w (w * h) mp) (otm (Tl mp (w * h)) q 6) (frk (Tl mp (w * h)) t q) (c + 1) (x)) else (dp (ofo w (w * h) mp) (otm (Tl mp (w * h)) q 6) (frk (Tl mp (w * h)) t q) (c) (x)))) → (∀ x, x < 6 → M3.1 40 x = nI (if (otm (Tl mp (w * h)) q 6).testBit x = true then (ofo w (w * h) mp) x c else 0)) → s < k232 → PW X l mX8_leastOff 3 (fun v M' => v = some (.int (op (lof (Tl mp (w * h)) (w * h) (ofo w (w * h) mp) t q))) ∧ FI [40, 47] M M') 232 [.ref 29, .int (nI q), .int (nI (otm (Tl mp (w * h)) q 6)), .int (nI (lsm (Tl mp (w * h)) (ofo w (w * h) mp) t q 6)), .int (nI c), .int (bo ((frk (Tl mp (w * h)) t q) c)), .int (nI s), .null, .null, .null] [] G0 M3 := by
        intro k232
        induction k232 with
        | zero => intro s M3 hcn hs J3 hx3 hp3 hk2; exact absurd hk2 (Nat.not_lt_zero _)
        | succ k232 ih232 =>
          intro s M3 hcn hs J3 hx3 hp3 hk2
          have loop245 : ∀ k245 : Nat, ∀ (i : Nat) (M4 : Mem), 0 < s → (frk (Tl mp (w * h)) t q) c = true → i ≤ 6 → FI [40, 47] M M4 → (∀ x, x < 64 → x ≠ s → M4.1 47 x = op (if s < x then (dp (ofo w (w * h) mp) (otm (Tl mp (w * h)) q 6) (frk (Tl mp (w * h)) t q) (c + 1) (x)) else (dp (ofo w (w * h) mp) (otm (Tl mp (w * h)) q 6) (frk (Tl mp (w * h)) t q) (c) (x)))) → M4.1 47 s = op (dq (ofo w (w * h) mp) (otm (Tl mp (w * h)) q 6) c (dp (ofo w (w * h) mp) (otm (Tl mp (w * h)) q 6) (frk (Tl mp (w * h)) t q) c) s (i)) → (∀ x, x < 6 → M4.1 40 x = nI (if (otm (Tl mp (w * h)) q 6).testBit x = true then (ofo w (w * h) mp) x c else 0)) → 6 - i < k245 → PW X l mX8_leastOff 3 (fun v M' => v = some (.int (op (lof (Tl mp (w * h)) (w * h) (ofo w (w * h) mp) t q))) ∧ FI [40, 47] M M') 245 [.ref 29, .int (nI q), .int (nI (otm (Tl mp (w * h)) q 6)), .int (nI (lsm (Tl mp (w * h)) (ofo w (w * h) mp) t q 6)), .int (nI c), .int (bo ((frk (Tl mp (w * h)) t q) c)), .int (nI s), .int (nI i), .null, .null] [] G0 M4 := by
            intro k245
            induction k245 with
            | zero => intro i M4 h0 hfr hi J4 hx4 hd4 hp4 hk3; exact absurd hk3 (Nat.not_lt_zero _)
            | succ k245 ih245 =>
              intro i M4 h0 hfr hi J4 hx4 hd4 hp4 hk3
              have join331 : ∀ (i : Nat) (M4 : Mem), 0 < s → (frk (Tl mp (w * h)) t q) c = true → i < 6 → FI [40, 47] M M4 → (∀ x, x < 64 → x ≠ s → M4.1 47 x = op (if s < x then (dp (ofo w (w * h) mp) (otm (Tl mp (w * h)) q 6) (frk (Tl mp (w * h)) t q) (c + 1) (x)) else (dp (ofo w (w * h) mp) (otm (Tl mp (w * h)) q 6) (frk (Tl mp (w * h)) t q) (c) (x)))) → M4.1 47 s = op (dq (ofo w (w * h) mp) (otm (Tl mp (w * h)) q 6) c (dp (ofo w (w * h) mp) (otm (Tl mp (w * h)) q 6) (frk (Tl mp (w * h)) t q) c) s (i)) → (∀ x, x < 6 → M4.1 40 x = nI (if (otm (Tl mp (w * h)) q 6).testBit x = true then (ofo w (w * h) mp) x c else 0)) → 6 - i < k245 + 1 → PW X l mX8_leastOff 3 (fun v M' => v = some (.int (op (lof (Tl mp (w * h)) (w * h) (ofo w (w * h) mp) t q))) ∧ FI [40, 47] M M') 331 [.ref 29, .int (nI q), .int (nI (otm (Tl mp (w * h)) q 6)), .int (nI (lsm (Tl mp (w * h)) (ofo w (w * h) mp) t q 6)), .int (nI c), .int (bo ((frk (Tl mp (w * h)) t q) c)), .int (nI s), .int (nI i), .null, .null] [.int (op (if s.testBit i = true ∧ (otm (Tl mp (w * h)) q 6).testBit i = true then (dp (ofo w (w * h) mp) (otm (Tl mp (w * h)) q 6) (frk (Tl mp (w * h)) t q) (c) (clr s i)).map (fun m => m + (ofo w (w * h) mp) i c) else none))] G0 M4 := by
                intro i M4 h0 hfr hi J4 hx4 hd4 hp4 hk3
                have hd9 : ∀ k, (dq (ofo w (w * h) mp) (otm (Tl mp (w * h)) q 6) c (dp (ofo w (w * h) mp) (otm (Tl mp (w * h)) q 6) (frk (Tl mp (w * h)) t q) c) s (i)) = some k → k < 1000000000 := fun k e => by have := dq_bd hbo hcn hs (by omega) e; omega
                have hc9 : ∀ k, (if s.testBit i = true ∧ (otm (Tl mp (w * h)) q 6).testBit i = true then (dp (ofo w (w * h) mp) (otm (Tl mp (w * h)) q 6) (frk (Tl mp (w * h)) t q) (c) (clr s i)).map (fun m => m + (ofo w (w * h) mp) i c) else none) = some k → k < 1000000000 := fun k e => by
                  split at e
                  · cases e2 : (dp (ofo w (w * h) mp) (otm (Tl mp (w * h)) q 6) (frk (Tl mp (w * h)) t q) (c) (clr s i)) with
                    | none => rw [e2] at e; cases e
                    | some m => rw [e2] at e; have := dp_bd hbo hc (clr_lt s hs i (by omega)) e2; have := hbo i c hcn; have e : m + (ofo w (w * h) mp) i c = k := Option.some.inj e; omega
                  · cases e
                refine PW.ige rfl ⟨trivial, vp_in_nI (by omega) (by decide)⟩ (fun h348 => ?_) (fun h348 => ?_)
                · skip
                  rw [nI_clamp (by omega), hd4] at h348
                  have hm := om_ge hd9 hc9 h348
                  refine PW.goto rfl ⟨⟨trivial, vp_in_nI (by omega) (by decide)⟩, vp_in_nI (by omega) (by decide)⟩ ?_
                  rw [nI_clamp (by omega), nI_1, hd4]
                  refine PW.nl [9] ?_
                  refine ih245 (i + 1) _ h0 hfr (by omega) (J4.put (by decide)) (fun x h1 h2 => (up_n h2).trans (hx4 x h1 h2)) ?_ (fun x h1 => hp4 x h1) (by omega)
                  rw [up_s]; exact congrArg op hm.symm
                · skip
                  rw [nI_clamp (by omega), hd4] at h348
                  have hm := om_lt hd9 hc9 (Int32.not_le.mp h348)
                  refine PW.goto rfl trivial ?_
                  refine PW.goto rfl ⟨trivial, vp_in_nI (by omega) (by decide)⟩ ?_
                  rw [nI_clamp (by omega), nI_1]
                  refine PW.nl [9] ?_
                  refine ih245 (i + 1) _ h0 hfr (by omega) (J4.put (by decide)) (fun x h1 h2 => (up_n h2).trans (hx4 x h1 h2)) ?_ (fun x h1 => hp4 x h1) (by omega)
                  rw [up_s]; exact congrArg op hm.symm
              refine PW.ige rfl trivial (fun h249 => ?_) (fun h249 => ?_)
              · skip
                rw [i6 (by omega)] at h249
                have e9 : i = 6 := by omega
                subst e9
                refine PW.goto rfl trivial ?_
                rw [nI_dec h0]
                refine PW.nl [7] ?_
                refine ih232 (s - 1) M4 hcn (by omega) J4 (fun x h1 => ?_) hp4 (by omega)
                by_cases e : x = s
                · subst e; rw [hd4, if_pos ⟨by omega, hfr⟩, dp_t hfr]
                · rw [hx4 x h1 e]
                  by_cases y : s < x
                  · rw [if_pos y, if_pos ⟨by omega, hfr⟩]
                  · rw [if_neg y, if_neg (fun z => absurd z.1 (by omega))]
              · skip
                rw [i6 (by omega)] at h249
                refine PW.ine rfl trivial (fun h260 => ?_) (fun h260 => ?_)
                · skip
                  rw [tb_get _ hs i (by omega), bo_1] at h260
                  have hcs : (if s.testBit i = true ∧ (otm (Tl mp (w * h)) q 6).testBit i = true then (dp (ofo w (w * h) mp) (otm (Tl mp (w * h)) q 6) (frk (Tl mp (w * h)) t q) (c) (clr s i)).map (fun m => m + (ofo w (w * h) mp) i c) else none) = none := if_neg (fun z => h260 z.1)
                  refine PW.zeq rfl trivial (fun h301 => ?_) (fun h301 => ?_)
                  · skip
                    refine PW.to 331 rfl trivial ?_
                    refine PW.nl [8] ?_
                    refine PW.lcs rfl ?_ (join331 i M4 h0 hfr (by omega) J4 hx4 hd4 hp4 hk3)
                    rw [hcs]; rfl
                  · exact absurd rfl h301
                · skip
                  rw [tb_get _ hs i (by omega), bo_1] at h260
                  refine PW.ine rfl trivial (fun h270 => ?_) (fun h270 => ?_)
                  · skip
                    rw [tb_get _ hot i (by omega), bo_1] at h270
                    have hcs : (if s.testBit i = true ∧ (otm (Tl mp (w * h)) q 6).testBit i = true then (dp (ofo w (w * h) mp) (otm (Tl mp (w * h)) q 6) (frk (Tl mp (w * h)) t q) (c) (clr s i)).map (fun m => m + (ofo w (w * h) mp) i c) else none) = none := if_neg (fun z => h270 z.2)
                    refine PW.zeq rfl trivial (fun h301 => ?_) (fun h301 => ?_)
                    · skip
                      refine PW.to 331 rfl trivial ?_
                      refine PW.nl [8] ?_
                      refine PW.lcs rfl ?_ (join331 i M4 h0 hfr (by omega) J4 hx4 hd4 hp4 hk3)
                      rw [hcs]; rfl
                    · exact absurd rfl h301
                  · skip
                    rw [tb_get _ hot i (by omega), bo_1] at h270
                    have hcl := clr_less s hs i (by omega) h260
                    have ecl : M4.1 47 (clr s i) = op (dp (ofo w (w * h) mp) (otm (Tl mp (w * h)) q 6) (frk (Tl mp (w * h)) t q) (c) (clr s i)) := by rw [hx4 _ (by omega) (by omega), if_neg (by omega)]
                    refine PW.ige rfl ⟨trivial, (by rw [clr_num s hs i (by omega)]; exact vp_in_nI (clr_lt s hs i (by omega)) (by decide))⟩ (fun h289 => ?_) (fun h289 => ?_)
                    · skip
                      rw [clr_num s hs i (by omega), nI_clamp (by omega), ecl, op_ge (fun k e => hdp _ k (by omega) e)] at h289
                      have hcs : (if s.testBit i = true ∧ (otm (Tl mp (w * h)) q 6).testBit i = true then (dp (ofo w (w * h) mp) (otm (Tl mp (w * h)) q 6) (frk (Tl mp (w * h)) t q) (c) (clr s i)).map (fun m => m + (ofo w (w * h) mp) i c) else none) = none := by rw [if_pos ⟨h260, h270⟩, h289]; rfl
                      refine PW.zeq rfl trivial (fun h301 => ?_) (fun h301 => ?_)
                      · skip
                        refine PW.to 331 rfl trivial ?_
                        refine PW.nl [8] ?_
                        refine PW.lcs rfl ?_ (join331 i M4 h0 hfr (by omega) J4 hx4 hd4 hp4 hk3)
                        rw [hcs]; rfl
                      · exact absurd rfl h301
                    · skip
                      rw [clr_num s hs i (by omega), nI_clamp (by omega), ecl, op_ge (fun k e => hdp _ k (by omega) e)] at h289
                      obtain ⟨m9, e9⟩ := Option.ne_none_iff_exists'.mp h289
                      have hcs : (if s.testBit i = true ∧ (otm (Tl mp (w * h)) q 6).testBit i = true then (dp (ofo w (w * h) mp) (otm (Tl mp (w * h)) q 6) (frk (Tl mp (w * h)) t q) (c) (clr s i)).map (fun m => m + (ofo w (w * h) mp) i c) else none) = some (m9 + (ofo w (w * h) mp) i c) := by rw [if_pos ⟨h260, h270⟩, e9]; rfl
                      refine PW.goto rfl trivial ?_
                      refine PW.zeq rfl trivial (fun h301 => ?_) (fun h301 => ?_)
                      · exact absurd h301 (by decide)
                      · skip
                        refine PW.goto rfl ⟨⟨trivial, (by rw [clr_num s hs i (by omega)]; exact vp_in_nI (clr_lt s hs i (by omega)) (by decide))⟩, vp_in_nI (by omega) (by decide)⟩ ?_
                        refine PW.nl [8] ?_
                        refine PW.lcs rfl ?_ (join331 i M4 h0 hfr (by omega) J4 hx4 hd4 hp4 hk3)
                        rw [hcs, clr_num s hs i (by omega), nI_clamp (by omega), nI_clamp (by omega), ecl, e9, hp4 i (by omega), if_pos h270]
                        show [Value.int (nI m9 + nI _)] = _
                        rw [nI_add]; rfl
          refine PW.zle rfl trivial (fun h234 => ?_) (fun h234 => ?_)
          · skip
            rw [show (0 : Int32) = nI 0 from rfl, nI_leI (by omega) (by omega)] at h234
            have e9 : s = 0 := by omega
            subst e9
            have ht9 : ∀ s, s < 64 → M3.1 47 s = op (dp (ofo w (w * h) mp) (otm (Tl mp (w * h)) q 6) (frk (Tl mp (w * h)) t q) (c + 1) (s)) := fun s hs => by
              rw [hx3 s hs]
              by_cases z : (frk (Tl mp (w * h)) t q) c = true
              · by_cases y : 0 < s
                · rw [if_pos ⟨y, z⟩]
                · rw [if_neg (fun x => y x.1), show s = 0 by omega, dp_0s]
              · rw [if_neg (fun x => z x.2), dp_f z]
            refine PW.goto rfl trivial ?_
            rw [nI_1]
            refine PW.nl [5, 6] ?_
            exact ih (c + 1) M3 (by omega) J3 ht9 (by omega)
          · skip
            rw [show (0 : Int32) = nI 0 from rfl, nI_leI (by omega) (by omega)] at h234
            refine PW.zeq rfl trivial (fun h239 => ?_) (fun h239 => ?_)
            · skip
              rw [bo_eq] at h239
              have ht9 : ∀ s, s < 64 → M3.1 47 s = op (dp (ofo w (w * h) mp) (otm (Tl mp (w * h)) q 6) (frk (Tl mp (w * h)) t q) (c + 1) (s)) := fun s hs => by
                rw [hx3 s hs, if_neg (fun x => by rw [h239] at x; cases x.2), dp_f (by rw [h239]; simp)]
              refine PW.goto rfl trivial ?_
              rw [nI_1]
              refine PW.nl [5, 6] ?_
              exact ih (c + 1) M3 (by omega) J3 ht9 (by omega)
            · skip
              rw [bo_ne] at h239
              refine PW.to 245 rfl trivial ?_
              refine loop245 7 0 M3 (by omega) h239 (by omega) J3 (fun x h1 h2 => ?_) ?_ hp3 (by omega)
              · rw [hx3 x h1]
                by_cases y : s < x
                · rw [if_pos ⟨y, h239⟩, if_pos y]
                · rw [if_neg (fun z => y z.1), if_neg y]
              · rw [hx3 s hs, if_neg (fun z => absurd z.1 (by omega))]; rfl
      have loop186 : ∀ k186 : Nat, ∀ (i : Nat) (M3 : Mem), c < w * h → i ≤ 6 → FI [40, 47] M M3 → (∀ s, s < 64 → M3.1 47 s = op (dp (ofo w (w * h) mp) (otm (Tl mp (w * h)) q 6) (frk (Tl mp (w * h)) t q) (c) (s))) → (∀ x, x < i → M3.1 40 x = nI (if (otm (Tl mp (w * h)) q 6).testBit x = true then (ofo w (w * h) mp) x c else 0)) → 6 - i < k186 → PW X l mX8_leastOff 3 (fun v M' => v = some (.int (op (lof (Tl mp (w * h)) (w * h) (ofo w (w * h) mp) t q))) ∧ FI [40, 47] M M') 186 [.ref 29, .int (nI q), .int (nI (otm (Tl mp (w * h)) q 6)), .int (nI (lsm (Tl mp (w * h)) (ofo w (w * h) mp) t q 6)), .int (nI c), .int (bo ((frk (Tl mp (w * h)) t q) c)), .int (nI i), .null, .null, .null] [] G0 M3 := by
        intro k186
        induction k186 with
        | zero => intro i M3 hcn hi J3 hx3 hp3 hk2; exact absurd hk2 (Nat.not_lt_zero _)
        | succ k186 ih186 =>
          intro i M3 hcn hi J3 hx3 hp3 hk2
          have H3 := H.fi J3
          refine PW.ige rfl trivial (fun h190 => ?_) (fun h190 => ?_)
          · skip
            rw [i6 (by omega)] at h190
            have e9 : i = 6 := by omega
            subst e9
            refine PW.to 232 rfl trivial ?_
            exact loop232 64 63 M3 hcn (by omega) J3 (fun x h1 => by rw [if_neg (fun z => absurd z.1 (by omega))]; exact hx3 x h1) hp3 (by omega)
          · skip
            rw [i6 (by omega)] at h190
            refine PW.ine rfl trivial (fun h206 => ?_) (fun h206 => ?_)
            · skip
              rw [tb_get _ hot i (by omega), bo_1] at h206
              refine PW.goto rfl ⟨trivial, vp_in_nI (by omega) (by decide)⟩ ?_
              rw [nI_clamp (by omega), nI_1]
              refine ih186 (i + 1) _ hcn (by omega) (J3.put (by decide)) (fun s hs => hx3 s hs) (fun x hx => ?_) (by omega)
              by_cases e : x = i
              · subst e; rw [up_s, if_neg h206]; rfl
              · exact (up_n e).trans (hp3 x (by omega))
            · skip
              rw [tb_get _ hot i (by omega), bo_1] at h206
              refine PW.funV rfl trivial sX8_172 rfl rfl (by decide) rfl (m_offOf i c (by omega) (by omega) Hw H3) ?_
              refine PW.goto rfl trivial ?_
              refine PW.goto rfl ⟨trivial, vp_in_nI (by omega) (by decide)⟩ ?_
              rw [nI_clamp (by omega), nI_1]
              refine ih186 (i + 1) _ hcn (by omega) (J3.put (by decide)) (fun s hs => hx3 s hs) (fun x hx => ?_) (by omega)
              by_cases e : x = i
              · subst e; rw [up_s, if_pos h206]
              · exact (up_n e).trans (hp3 x (by omega))
      have loop138 : ∀ k138 : Nat, ∀ (i : Nat), c < w * h → i ≤ q → q - i < k138 → PW X l mX8_leastOff 3 (fun v M' => v = some (.int (op (lof (Tl mp (w * h)) (w * h) (ofo w (w * h) mp) t q))) ∧ FI [40, 47] M M') 138 [.ref 29, .int (nI q), .int (nI (otm (Tl mp (w * h)) q 6)), .int (nI (lsm (Tl mp (w * h)) (ofo w (w * h) mp) t q 6)), .int (nI c), .int (bo (!bex (fun l => (Tl mp (w * h)) l && decide (t l = c)) i)), .int (nI i), .null, .null, .null] [] G0 M2 := by
        intro k138
        induction k138 with
        | zero => intro i hcn hi hk2; exact absurd hk2 (Nat.not_lt_zero _)
        | succ k138 ih138 =>
          intro i hcn hi hk2
          refine PW.ige rfl trivial (fun h141 => ?_) (fun h141 => ?_)
          · skip
            rw [nI_leI (by omega) (by omega)] at h141
            have e9 : i = q := by omega
            rw [e9]
            refine PW.to 186 rfl trivial ?_
            exact loop186 7 0 M2 hcn (by omega) J hx (fun x hx => absurd hx (Nat.not_lt_zero x)) (by omega)
          · skip
            rw [nI_leI (by omega) (by omega)] at h141
            refine PW.zeq rfl trivial (fun h146 => ?_) (fun h146 => ?_)
            · skip
              rw [bo_eq] at h146
              have hv := nb_no h146
              refine PW.goto rfl trivial ?_
              rw [nI_1]
              refine PW.lc ?_ (ih138 (i + 1) hcn (by omega) (by omega))
              rw [hv]; rfl
            · skip
              rw [bo_ne] at h146
              refine PW.funV rfl trivial sX8_169 rfl rfl (by decide) rfl (m_isThere i (by omega) Hw H2) ?_
              refine PW.zeq rfl trivial (fun h155 => ?_) (fun h155 => ?_)
              · skip
                change bo ((Tl mp (w * h)) i) = 0 at h155
                rw [bo_eq] at h155
                have hv := nb_t h146 (show ((fun l => (Tl mp (w * h)) l && decide (t l = c))) i = false by simp [h155])
                refine PW.goto rfl trivial ?_
                refine PW.goto rfl trivial ?_
                rw [nI_1]
                refine PW.lc ?_ (ih138 (i + 1) hcn (by omega) (by omega))
                rw [hv]; rfl
              · skip
                change ¬ bo ((Tl mp (w * h)) i) = 0 at h155
                rw [bo_ne] at h155
                refine PW.ieq rfl ⟨trivial, vp_in_nI (by omega) (by decide)⟩ (fun h167 => ?_) (fun h167 => ?_)
                · skip
                  rw [nI_clamp (by omega), J.at 46, (ht i (by omega) h155).2, nI_eq (by have := (ht i (by omega) h155).1; omega) (by omega)] at h167
                  have hv := nb_s (p := (fun l => (Tl mp (w * h)) l && decide (t l = c))) (i := i) (by simp [h155, h167])
                  refine PW.goto rfl trivial ?_
                  rw [nI_1]
                  refine PW.lc ?_ (ih138 (i + 1) hcn (by omega) (by omega))
                  rw [hv]; rfl
                · skip
                  rw [nI_clamp (by omega), J.at 46, (ht i (by omega) h155).2, nI_eq (by have := (ht i (by omega) h155).1; omega) (by omega)] at h167
                  have hv := nb_t h146 (show ((fun l => (Tl mp (w * h)) l && decide (t l = c))) i = false by simp [h155, h167])
                  refine PW.goto rfl trivial ?_
                  refine PW.goto rfl trivial ?_
                  rw [nI_1]
                  refine PW.lc ?_ (ih138 (i + 1) hcn (by omega) (by omega))
                  rw [hv]; rfl
      refine PW.ige rfl trivial (fun h129 => ?_) (fun h129 => ?_)
      · skip
        rw [H2.wh, nI_leI (by omega) (by omega)] at h129
        have e9 : c = w * h := by omega
        subst e9
        refine PW.ige rfl ⟨trivial, vp_in_nI hot (by decide)⟩ (fun h390 => ?_) (fun h390 => ?_)
        · skip
          rw [nI_clamp (by omega), hx _ hot, op_ge (fun k e => hdp _ k hot e)] at h390
          refine PW.iret rfl rfl trivial ?_
          first | exact ⟨by rw [lof, h390]; rfl, J⟩ | exact ⟨by rw [nI_clamp (by omega), hx _ hot, lof, e9]; show some (Value.int (nI _ + nI m9)) = _; rw [nI_add]; rfl, J⟩
        · skip
          rw [nI_clamp (by omega), hx _ hot, op_ge (fun k e => hdp _ k hot e)] at h390
          obtain ⟨m9, e9⟩ := Option.ne_none_iff_exists'.mp h390
          refine PW.goto rfl ⟨trivial, vp_in_nI hot (by decide)⟩ ?_
          refine PW.iret rfl rfl trivial ?_
          first | exact ⟨by rw [lof, h390]; rfl, J⟩ | exact ⟨by rw [nI_clamp (by omega), hx _ hot, lof, e9]; show some (Value.int (nI _ + nI m9)) = _; rw [nI_add]; rfl, J⟩
      · skip
        rw [H2.wh, nI_leI (by omega) (by omega)] at h129
        have hcn : c < w * h := by omega
        refine PW.to 138 rfl trivial ?_
        exact loop138 (q + 1) 0 hcn (Nat.zero_le _) (by omega)
  have loop84 : ∀ k : Nat, ∀ (i : Nat) (M2 : Mem), i ≤ 64 → FI [40, 47] M M2 → (∀ s, s < i → M2.1 47 s = op (dp (ofo w (w * h) mp) (otm (Tl mp (w * h)) q 6) (frk (Tl mp (w * h)) t q) (0) (s))) → 64 - i < k → PW X l mX8_leastOff 3 (fun v M' => v = some (.int (op (lof (Tl mp (w * h)) (w * h) (ofo w (w * h) mp) t q))) ∧ FI [40, 47] M M') 84 [.ref 29, .int (nI q), .int (nI (otm (Tl mp (w * h)) q 6)), .int (nI (lsm (Tl mp (w * h)) (ofo w (w * h) mp) t q 6)), .int (nI i), .null, .null, .null, .null, .null] [] G0 M2 := by
    intro k
    induction k with
    | zero => intro i M2 hi J hx hk; exact absurd hk (Nat.not_lt_zero _)
    | succ k ih =>
      intro i M2 hi J hx hk
      refine PW.ige rfl trivial (fun h88 => ?_) (fun h88 => ?_)
      · skip
        rw [show (64 : Int32) = nI 64 from rfl, nI_leI (by omega) (by omega)] at h88
        have e9 : i = 64 := by omega
        subst e9
        refine PW.to 118 rfl trivial ?_
        exact loop118 (w * h + 1) 0 M2 (Nat.zero_le _) J hx (by omega)
      · skip
        rw [show (64 : Int32) = nI 64 from rfl, nI_leI (by omega) (by omega)] at h88
        refine PW.zne rfl trivial (fun h99 => ?_) (fun h99 => ?_)
        · skip
          rw [show (0 : Int32) = nI 0 from rfl, nI_eq (by omega) (by omega)] at h99
          refine PW.goto rfl ⟨trivial, vp_in_nI (by omega) (by decide)⟩ ?_
          rw [nI_clamp (by omega), nI_1]
          refine ih (i + 1) _ (by omega) (J.put (by decide)) (fun s hs => ?_) (by omega)
          by_cases e : s = i
          · subst e; rw [up_s, dp_n h99]; rfl
          · exact (up_n e).trans (hx s (by omega))
        · skip
          rw [show (0 : Int32) = nI 0 from rfl, nI_eq (by omega) (by omega)] at h99
          refine PW.goto rfl trivial ?_
          refine PW.goto rfl ⟨trivial, vp_in_nI (by omega) (by decide)⟩ ?_
          rw [nI_clamp (by omega), nI_1]
          refine ih (i + 1) _ (by omega) (J.put (by decide)) (fun s hs => ?_) (by omega)
          by_cases e : s = i
          · subst e; rw [up_s]; subst h99; rfl
          · exact (up_n e).trans (hx s (by omega))
  have loop7 : ∀ k : Nat, ∀ (i : Nat), i ≤ 6 → 6 - i < k → PW X l mX8_leastOff 3 (fun v M' => v = some (.int (op (lof (Tl mp (w * h)) (w * h) (ofo w (w * h) mp) t q))) ∧ FI [40, 47] M M') 7 [.ref 29, .int (nI q), .int (nI (otm (Tl mp (w * h)) q (i))), .int (nI (lsm (Tl mp (w * h)) (ofo w (w * h) mp) t q (i))), .int (nI i), .null, .null, .null, .null, .null] [] G0 M := by
    intro k
    induction k with
    | zero => intro i hi hk; exact absurd hk (Nat.not_lt_zero _)
    | succ k ih =>
      intro i hi hk
      have join73 : ∀ (i : Nat), i < 6 → 6 - i < k + 1 → PW X l mX8_leastOff 3 (fun v M' => v = some (.int (op (lof (Tl mp (w * h)) (w * h) (ofo w (w * h) mp) t q))) ∧ FI [40, 47] M M') 73 [.ref 29, .int (nI q), .int (nI (otm (Tl mp (w * h)) q (i + 1))), .int (nI (lsm (Tl mp (w * h)) (ofo w (w * h) mp) t q (i))), .int (nI i), .null, .null, .null, .null, .null] [.int (nI (if i < q ∧ (Tl mp (w * h)) i = true then (ofo w (w * h) mp) i (t i) else 0)), .int (nI (lsm (Tl mp (w * h)) (ofo w (w * h) mp) t q i))] G0 M := by
        intro i hi hk
        refine PW.goto rfl trivial ?_
        refine PW.lc ?_ (ih (i + 1) (by omega) (by omega))
        rw [nI_add, nI_1]; rfl
      have join38 : ∀ (i : Nat), i < 6 → 6 - i < k + 1 → PW X l mX8_leastOff 3 (fun v M' => v = some (.int (op (lof (Tl mp (w * h)) (w * h) (ofo w (w * h) mp) t q))) ∧ FI [40, 47] M M') 38 [.ref 29, .int (nI q), .int (nI (otm (Tl mp (w * h)) q (i))), .int (nI (lsm (Tl mp (w * h)) (ofo w (w * h) mp) t q (i))), .int (nI i), .null, .null, .null, .null, .null] [.int (nI (if q ≤ i ∧ (Tl mp (w * h)) i = true then 2 ^ i else 0)), .int (nI (otm (Tl mp (w * h)) q i))] G0 M := by
        intro i hi hk
        refine PW.ige rfl trivial (fun h44 => ?_) (fun h44 => ?_)
        · skip
          rw [nI_leI (by omega) (by omega)] at h44
          refine PW.to 73 rfl trivial ?_
          refine PW.lcs ?_ ?_ (join73 i hi hk)
          · rw [fa_or]; rfl
          · show [Value.int (nI 0), _] = _
            first | rw [if_neg (fun z => absurd z.1 (by omega))] | rw [if_neg (fun z => by rw [h53] at z; cases z.2)]
        · skip
          rw [nI_leI (by omega) (by omega)] at h44
          refine PW.funV rfl trivial sX8_169 rfl rfl (by decide) rfl (m_isThere i (by omega) Hw H) ?_
          refine PW.zeq rfl trivial (fun h53 => ?_) (fun h53 => ?_)
          · skip
            change bo ((Tl mp (w * h)) i) = 0 at h53
            rw [bo_eq] at h53
            refine PW.to 73 rfl trivial ?_
            refine PW.lcs ?_ ?_ (join73 i hi hk)
            · rw [fa_or]; rfl
            · show [Value.int (nI 0), _] = _
              first | rw [if_neg (fun z => absurd z.1 (by omega))] | rw [if_neg (fun z => by rw [h53] at z; cases z.2)]
          · skip
            change ¬ bo ((Tl mp (w * h)) i) = 0 at h53
            rw [bo_ne] at h53
            refine PW.funV rfl ⟨trivial, vp_in_nI (by omega) (by decide)⟩ sX8_172 rfl rfl (by decide) rfl (show PF X l mX8_offOf 0 [.ref 29, .int (nI i), .int (M.1 46 (nI i).toNatClampNeg)] G0 M (.int (nI ((ofo w (w * h) mp) i (t i)))) from by rw [nI_clamp (by omega), (ht i (by omega) h53).2]; exact m_offOf i (t i) (by omega) (by have := (ht i (by omega) h53).1; omega) Hw H) ?_
            refine PW.goto rfl trivial ?_
            refine PW.lcs ?_ ?_ (join73 i hi hk)
            · rw [fa_or]; rfl
            · rw [if_pos ⟨by omega, h53⟩]
      refine PW.ige rfl trivial (fun h11 => ?_) (fun h11 => ?_)
      · skip
        rw [i6 (by omega)] at h11
        have e9 : i = 6 := by omega
        subst e9
        refine PW.to 84 rfl trivial ?_
        exact loop84 65 0 M (by omega) FI.rf (fun s hs => absurd hs (Nat.not_lt_zero s)) (by omega)
      · skip
        rw [i6 (by omega)] at h11
        refine PW.ilt rfl trivial (fun h18 => ?_) (fun h18 => ?_)
        · skip
          rw [nI_ltI (by omega) (by omega)] at h18
          refine PW.to 38 rfl trivial ?_
          refine PW.lcs rfl ?_ (join38 i (by omega) hk)
          show [Value.int (nI 0), _] = _
          first | rw [if_neg (fun z => absurd z.1 (by omega))] | rw [if_neg (fun z => by rw [h27] at z; cases z.2)]
        · skip
          rw [nI_ltI (by omega) (by omega)] at h18
          refine PW.funV rfl trivial sX8_169 rfl rfl (by decide) rfl (m_isThere i (by omega) Hw H) ?_
          refine PW.zeq rfl trivial (fun h27 => ?_) (fun h27 => ?_)
          · skip
            change bo ((Tl mp (w * h)) i) = 0 at h27
            rw [bo_eq] at h27
            refine PW.to 38 rfl trivial ?_
            refine PW.lcs rfl ?_ (join38 i (by omega) hk)
            show [Value.int (nI 0), _] = _
            first | rw [if_neg (fun z => absurd z.1 (by omega))] | rw [if_neg (fun z => by rw [h27] at z; cases z.2)]
          · skip
            change ¬ bo ((Tl mp (w * h)) i) = 0 at h27
            rw [bo_ne] at h27
            refine PW.goto rfl trivial ?_
            refine PW.lcs rfl ?_ (join38 i (by omega) hk)
            rw [if_pos ⟨by omega, h27⟩, sh1 (by omega)]
  refine PW.to 7 rfl trivial ?_
  exact loop7 7 0 (by omega) (by omega)
end M15
