-- made by wip/whole/mk_c12.py
section C12
variable {X : Cx} {l : Launch} {M : Mem}
theorem mns_in {A B : Nat → Bool} {n i : Nat} (hA : ∀ i, n ≤ i → A i = false) (h : mns A B i = true) : i < n := by
  rcases Nat.lt_or_ge i n with q | q
  · exact q
  · unfold mns at h; rw [hA i q] at h; cases h
theorem l2i_o (x : Int) : (Int64.ofInt x).toInt32 = Int32.ofInt x := by
  apply Int32.toInt_inj.mp
  rw [Int64.toInt_toInt32, Int32.toInt_ofInt, Int64.toInt_ofInt]
  exact Int.bmod_bmod_of_dvd (by decide)
theorem c_lst {w h : Nat} {mp dr hd : Nat → Nat} {wy : Nat} {vt : Nat → Nat} (F : Sf w h mp dr hd wy vt) (C : CM w h mp dr hd wy vt M) (A B : Nat → Bool) (hA : ∀ i, w * h ≤ i → A i = false) (hB : ∀ i, w * h ≤ i → B i = false) (hAB : fb_ct A 64 = fb_ct B 64) : PC X l mX7_leastSteps 4 [.ref 0, .long (mk A), .long (mk B)] G0 M (fun v M' => v = some (.int (Int32.ofInt (carV (w * h) (stp w) A B))) ∧ FC [14, 19, 20] [14, 15, 16, 17, 18] M M') := by
  refine PC.ofW okX7_leastSteps ?_
  have hn := F.1.n
  obtain ⟨z, ez⟩ : ∃ z, fb_ct (mns A B) 64 = z := ⟨_, rfl⟩
  have hc1 : fb_ct (mns A B) (w * h) = z := by rw [← ez]; exact (ct_cut (fun i hi => by unfold mns; rw [hA i hi]; rfl) (by omega)).symm
  have hAB2 : fb_ct A (w * h) = fb_ct B (w * h) := by rw [← ct_cut hA (by omega), ← ct_cut hB (by omega)]; exact hAB
  have hmm := mns_ct hAB2
  have ez2 : fb_ct (mns B A) 64 = z := by rw [ct_cut (n := w * h) (fun i hi => by unfold mns; rw [hB i hi]; rfl) (by omega), ← hmm.1]; exact hc1
  have hz18 : z ≤ 18 := by omega
  have Bz : Mb z z := ⟨Nat.le_refl _, by omega, Nat.mul_le_mul hz18 hz18⟩
  have loop39 : ∀ k : Nat, ∀ (r : Nat) (M2 : Mem), r ≤ z → FC [14, 19, 20] [14, 15, 16, 17, 18] M M2 → M2.1 14 7 = nI z → M2.1 14 8 = nI z → (∀ x, x < r * z → (M2.2 15 x).toInt = stp w (kth (mns A B) (x / z)) (kth (mns B A) (x % z))) → z - r < k → PW X l mX7_leastSteps 4 (fun v M' => v = some (.int (Int32.ofInt (carV (w * h) (stp w) A B))) ∧ FC [14, 19, 20] [14, 15, 16, 17, 18] M M') 39 [.ref 0, .long (mk A), .null, .long (mk B), .null, .long (mk (rkf (mns A B) r)), .null, .long (mk (mns B A)), .null, .int (nI z), .int (nI r), .null, .null, .null, .null] [] G0 M2 := by
    intro k
    induction k with
    | zero => intro r M2 hr hF h7 h8 hx hk; exact absurd hk (Nat.not_lt_zero _)
    | succ k ih =>
      intro r M2 hr hF h7 h8 hx hk
      have C2 := C.fc hF
      have loop69 : ∀ k69 : Nat, ∀ (q : Nat) (M3 : Mem), r < z → q ≤ z → FC [14, 19, 20] [14, 15, 16, 17, 18] M M3 → M3.1 14 7 = nI z → M3.1 14 8 = nI z → (∀ x, x < r * z + q → (M3.2 15 x).toInt = stp w (kth (mns A B) (x / z)) (kth (mns B A) (x % z))) → z - q < k69 → PW X l mX7_leastSteps 4 (fun v M' => v = some (.int (Int32.ofInt (carV (w * h) (stp w) A B))) ∧ FC [14, 19, 20] [14, 15, 16, 17, 18] M M') 69 [.ref 0, .long (mk A), .null, .long (mk B), .null, .long (mk (rkf (mns A B) (r + 1))), .null, .long (mk (mns B A)), .null, .int (nI z), .int (nI r), .int (nI (kth (mns A B) r)), .long (mk (rkf (mns B A) q)), .null, .int (nI q)] [] G0 M3 := by
        intro k69
        induction k69 with
        | zero => intro q M3 hrz hq hF3 g7 g8 hx3 hk3; exact absurd hk3 (Nat.not_lt_zero _)
        | succ k69 ih69 =>
          intro q M3 hrz hq hF3 g7 g8 hx3 hk3
          have C3 := C.fc hF3
          have hra := kth_ok (P := mns A B) (r := r) (by omega)
          have hka : kth (mns A B) r < w * h := mns_in hA hra.1
          refine PW.ige rfl trivial (fun h73 => ?_) (fun h73 => ?_)
          · skip
            rw [nI_leI (by omega) (by omega)] at h73
            have e9 : q = z := by omega
            subst e9
            refine PW.goto rfl trivial ?_
            rw [nI_1]
            refine PW.nl [11, 12, 14] ?_
            exact ih (r + 1) M3 (by omega) hF3 g7 g8 (fun x h1 => hx3 x (by rw [Nat.succ_mul] at h1; exact h1)) (by omega)
          · skip
            rw [nI_leI (by omega) (by omega)] at h73
            have hqz : q < fb_ct (mns B A) 64 := by omega
            have hrb := kth_ok hqz
            have hkb : kth (mns B A) q < w * h := mns_in hB hrb.1
            refine PW.funS rfl trivial sX7_200 rfl (by decide) rfl (c_low _) ?_
            rw [lst_fnd (rkf_l hqz), show ob (some (kth (mns B A) q)) = nI (kth (mns B A) q) from rfl]
            refine PW.funV rfl trivial sX7_255 rfl rfl (by decide) rfl (c_steps (kth (mns A B) r) (kth (mns B A) q) (by omega) (by omega) F.1.g C3.1) ?_
            refine PW.callV rfl trivial sX7_258 rfl rfl (by decide) rfl (c_setc Bz g7 g8 r q hrz (by omega) _) (fun v99 M99 hq99 => ?_)
            obtain ⟨rfl, rfl⟩ := hq99
            refine PW.goto rfl trivial ?_
            rw [mk_drop (rkf_l hqz), nI_1]
            refine PW.lc ?_ (ih69 (q + 1) _ hrz (by omega) hF3.pl g7 g8 (fun x hx => ?_) (by omega))
            · rw [mk_cong (fun i _ => rkf_s hqz i)]
            · by_cases e : x = r * z + q
              · subst e
                have dm := dm_idx (i := r) (j := q) (m := z) (by omega)
                rw [upL_s, dm.1, dm.2]
                have sb := stp_b (w := w) (kth_lt (mns A B) r) (kth_lt (mns B A) q)
                unfold stp at sb ⊢
                rw [Int32.toInt_toInt64, nI_t (by omega)]
              · rw [upL_n e]; exact hx3 x (by omega)
      refine PW.ige rfl trivial (fun h43 => ?_) (fun h43 => ?_)
      · skip
        rw [nI_leI (by omega) (by omega)] at h43
        have e9 : r = z := by omega
        subst e9
        have Cm : Mc (fun i j => stp w (kth (mns A B) (i - 1)) (kth (mns B A) (j - 1))) r r M2 := ⟨h7, h8, fun i j a b d e => by
          have := idx_lt (i := i - 1) (j := j - 1) (rr := r) (m := r) (by omega) (by omega)
          have q := dm_idx (i := i - 1) (j := j - 1) (m := r) (by omega)
          rw [hx _ this, q.1, q.2]⟩
        refine PW.callV rfl trivial sX7_262 rfl rfl (by decide) rfl (c_solve Bz Cm (fun i j => stp_p _ _ _) (fun i j => by have := stp_b (w := w) (kth_lt (mns A B) (i - 1)) (kth_lt (mns B A) (j - 1)); have : KK = 1125899906842624 := rfl; omega)) (fun v127 M127 hq127 => ?_)
        obtain ⟨rfl, hF3, u, v, p, hH, hp⟩ := hq127
        have Cm3 := Cm.fc hF3
        refine PW.funV rfl trivial sX7_265 rfl rfl (by decide) rfl (c_sum Bz Cm3 hp hH.1) ?_
        refine PW.iret rfl rfl trivial ?_
        exact ⟨by rw [car_eq hA hB (by omega) ez ez2 hH, l2i_o], hF.tr hF3.mono⟩
      · skip
        rw [nI_leI (by omega) (by omega)] at h43
        have hrz : r < fb_ct (mns A B) 64 := by omega
        refine PW.funS rfl trivial sX7_200 rfl (by decide) rfl (c_low _) ?_
        rw [lst_fnd (rkf_l hrz), show ob (some (kth (mns A B) r)) = nI (kth (mns A B) r) from rfl]
        refine PW.to 69 rfl trivial ?_
        rw [mk_drop (rkf_l hrz)]
        refine PW.lc ?_ (loop69 (z + 1) 0 M2 (by omega) (by omega) hF h7 h8 (fun x h1 => hx x (by omega)) (by omega))
        rw [mk_cong (fun i _ => rkf_s hrz i), rkf_0]; rfl
  refine PW.funS rfl trivial sX7_117 rfl (by decide) rfl (show PF X l mJ13_bitCount_95d88 0 [.long (mk A &&& (mk B ^^^ (-1)))] G0 M (.int (nI z)) from by rw [mk_not, mk_and, ← ez]; exact j_bitCount _) ?_
  refine PW.callV rfl trivial sX7_252 rfl rfl (by decide) rfl (c_begin z z Bz) (fun v33 M33 hq33 => ?_)
  obtain ⟨rfl, hF1, h7, h8⟩ := hq33
  refine PW.to 39 rfl trivial ?_
  rw [mk_not, mk_and, mk_not, mk_and]
  refine PW.lc ?_ (loop39 (z + 1) 0 M33 (by omega) (hF1.mono) h7 h8 (fun x hx => by omega) (by omega))
  rw [show mk (fun i => A i && !B i) = mk (rkf (mns A B) 0) from by rw [rkf_0]; rfl]; rfl
theorem r_carried {w h : Nat} {mp dr hd : Nat → Nat} {wy : Nat} {vt : Nat → Nat} (F : Sf w h mp dr hd wy vt) (C : CM w h mp dr hd wy vt M) (lv : Int32) : PC X l mX7_carried 5 [.ref 0, .int lv] G0 M (fun v M' => v = some (.int (if okl 5 lv = true then (if many mp (tn lv) (w * h) = many dr (tn lv) (w * h) then (Int32.ofInt (carV (w * h) (stp w) (fun x => decide (mp x = tn lv)) (fun x => decide (dr x = tn lv)))) else -3) else -1)) ∧ (CM w h mp dr hd wy vt M' ∧ FN M M')) := by
  refine PC.ofW okX7_carried ?_
  have hn := F.1.n
  refine PW.funS rfl trivial sX7_131 rfl (by decide) rfl (u_isLand _) ?_
  refine PW.zne rfl trivial (fun h4 => ?_) (fun h4 => ?_)
  · skip
    rw [bo_ne] at h4
    obtain ⟨j, hj, rfl⟩ := okl_x (m := 5) h4
    have tj : tn (nI j) = j := tn_nI (by omega)
    refine PW.funV rfl trivial sX7_134 rfl rfl (by decide) rfl (c_siz2 j (by omega) F.1.g C.1 F.1.m C.2.1) ?_
    refine PW.funV rfl trivial sX7_134 rfl rfl (by decide) rfl (c_siz4 j (by omega) F.1.g C.1 F.1.d C.2.2.1) ?_
    refine PW.ieq rfl trivial (fun h25 => ?_) (fun h25 => ?_)
    · skip
      have hm1 := many_le mp j (w * h)
      have hm2 := many_le dr j (w * h)
      rw [nI_eq (by omega) (by omega)] at h25
      refine PW.funV rfl trivial sX7_111 rfl rfl (by decide) rfl (c_cel2 j (by omega) F.1.g C.1 F.1.m C.2.1) ?_
      refine PW.funV rfl trivial sX7_111 rfl rfl (by decide) rfl (c_cel4 j (by omega) F.1.g C.1 F.1.d C.2.2.1) ?_
      refine PW.callV rfl trivial sX7_189 rfl rfl (by decide) rfl (c_lst F C _ _ (fun x hx => by have := F.1.m.2 x hx; simp; omega) (fun x hx => by have := F.1.d.2 x hx; simp; omega) (by rw [← cel_l F.1.m (show j < 6 by omega), ← cel_l F.1.d (show j < 6 by omega), ct_cel (by omega), ct_cel (by omega)]; exact h25)) (fun v48 M48 hq48 => ?_)
      obtain ⟨rfl, hF1⟩ := hq48
      refine PW.iret rfl rfl trivial ?_
      exact ⟨by rw [h4, tj, if_pos rfl, if_pos h25], C.fc hF1, hF1.fn⟩
    · skip
      have hm1 := many_le mp j (w * h)
      have hm2 := many_le dr j (w * h)
      rw [nI_eq (by omega) (by omega)] at h25
      refine PW.iret rfl rfl trivial ?_
      exact ⟨by rw [h4, tj, if_pos rfl, if_neg h25], C, FN.rf⟩
  · skip
    rw [bo_eq] at h4
    refine PW.iret rfl rfl trivial ?_
    exact ⟨by rw [h4]; rfl, C, FN.rf⟩
end C12
