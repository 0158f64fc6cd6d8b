-- made by wip/whole/mk_c13.py
section C13
variable {X : Cx} {l : Launch} {M : Mem}
theorem c_dig (l0 : Nat) (hl : l0 < 6) : PF X l mX6_digitOf 0 [.int (nI l0)] G0 M (.long (lN (36 ^ (5 - l0)))) := by
  refine PF.ofW okX6_digitOf ?_
  have loop6 : ∀ k : Nat, ∀ (j : Nat), l0 + 1 ≤ j → j ≤ 6 → 6 - j < k → PW X l mX6_digitOf 0 (fun v M' => v = some (.long (lN (36 ^ (5 - l0)))) ∧ M' = M) 6 [.int (nI l0), .long (lN (36 ^ (j - l0 - 1))), .null, .int (nI j)] [] G0 M := by
    intro k
    induction k with
    | zero => intro j hj1 hj hk; exact absurd hk (Nat.not_lt_zero _)
    | succ k ih =>
      intro j hj1 hj hk
      refine PW.ige rfl trivial (fun h9 => ?_) (fun h9 => ?_)
      · skip
        rw [i6 (by omega)] at h9
        have e9 : j = 6 := by omega
        subst e9
        refine PW.lret rfl rfl trivial ?_
        exact ⟨by rw [show 6 - l0 - 1 = 5 - l0 by omega], rfl⟩
      · skip
        rw [i6 (by omega)] at h9
        refine PW.goto rfl trivial ?_
        rw [show (36 : Int64) = lN 36 from rfl, lN_mul, ← Nat.pow_succ, nI_1]
        refine PW.lc ?_ (ih (j + 1) (by omega) (by omega) (by omega))
        rw [show j + 1 - l0 - 1 = (j - l0 - 1) + 1 by omega]
  refine PW.to 6 rfl trivial ?_
  rw [nI_1]
  refine PW.lc ?_ (loop6 7 (l0 + 1) (by omega) (by omega) (by omega))
  rw [show l0 + 1 - l0 - 1 = 0 by omega]; rfl
theorem c_costs {w h : Nat} {mp dr hd : Nat → Nat} {wy : Nat} {vt : Nat → Nat} (F : Sf w h mp dr hd wy vt) (C : CM w h mp dr hd wy vt M) {rr : Nat} (B : Mb rr (w * h)) (h7 : M.1 14 7 = nI rr) (h8 : M.1 14 8 = nI (w * h)) (i l0 dg : Nat) (hi : i < rr) (hl : l0 < 6) (hdg : dg ≤ 60466176) : PC X l mX6_setCosts 2 [.ref 21, .int (nI i), .long (mk (fun c => decide (mp c = l0))), .long (lN dg)] G0 M (fun v M' => v = none ∧ FC [] [15] M M' ∧ (∀ k, k < w * h → M'.2 15 (i * (w * h) + k) = lN (ofo w (w * h) mp l0 k * 2176782336 + k * dg)) ∧ ∀ x, x < i * (w * h) → M'.2 15 x = M.2 15 x) := by
  refine PC.ofW okX6_setCosts ?_
  have hn := F.1.n
  have hw2 := F.1.1
  have hw6 := F.1.2.1
  have hmy := many_le mp l0 (w * h)
  have bx : ∀ k, k ≤ 36 → msm (fun c => c % w) (fun c => decide (mp c = l0)) k ≤ 36 * 36 := fun k hk => Nat.le_trans (msm_le (B := 36) (fun c hc => by have := Nat.mod_le c w; omega)) (Nat.mul_le_mul_right 36 hk)
  have by2 : ∀ k, k ≤ 36 → msm (fun c => c / w) (fun c => decide (mp c = l0)) k ≤ 36 * 36 := fun k hk => Nat.le_trans (msm_le (B := 36) (fun c hc => by have := Nat.div_le_self c w; omega)) (Nat.mul_le_mul_right 36 hk)
  have loop75 : ∀ k : Nat, ∀ (k2 : Nat) (M2 : Mem), k2 ≤ w * h → FC [] [15] M M2 → (∀ k, k < k2 → M2.2 15 (i * (w * h) + k) = lN (ofo w (w * h) mp l0 k * 2176782336 + k * dg)) → (∀ x, x < i * (w * h) → M2.2 15 x = M.2 15 x) → w * h - k2 < k → PW X l mX6_setCosts 2 (fun v M' => v = none ∧ FC [] [15] M M' ∧ (∀ k, k < w * h → M'.2 15 (i * (w * h) + k) = lN (ofo w (w * h) mp l0 k * 2176782336 + k * dg)) ∧ ∀ x, x < i * (w * h) → M'.2 15 x = M.2 15 x) 75 [.ref 21, .int (nI i), .long (mk (fun c => decide (mp c = l0))), .null, .long (lN dg), .null, .int (nI (many mp l0 (w * h))), .int (nI (msm (fun c => c % w) (fun c => decide (mp c = l0)) (w * h))), .int (nI (msm (fun c => c / w) (fun c => decide (mp c = l0)) (w * h))), .int (nI k2), .null, .null, .null, .null] [] G0 M2 := by
    intro k
    induction k with
    | zero => intro k2 M2 hk2 hF hd hr hk; exact absurd hk (Nat.not_lt_zero _)
    | succ k ih =>
      intro k2 M2 hk2 hF hd hr hk
      have C2 := C.fc hF
      refine PW.funV rfl trivial sX6_36 rfl rfl (by decide) rfl (c_size F.1.g C2.1) ?_
      refine PW.ige rfl trivial (fun h84 => ?_) (fun h84 => ?_)
      · skip
        rw [nI_leI (by omega) (by omega)] at h84
        have e9 : k2 = w * h := by omega
        subst e9
        refine PW.vret rfl rfl trivial ?_
        exact ⟨rfl, hF, hd, hr⟩
      · skip
        rw [nI_leI (by omega) (by omega)] at h84
        have hkm : many mp l0 (w * h) * (k2 % w) ≤ 36 * 36 := Nat.mul_le_mul (by omega) (by have := Nat.mod_le k2 w; omega)
        have hkd : many mp l0 (w * h) * (k2 / w) ≤ 36 * 36 := Nat.mul_le_mul (by omega) (by have := Nat.div_le_self k2 w; omega)
        have bX := bx (w * h) hn
        have bY := by2 (w * h) hn
        refine PW.funV rfl trivial sX6_89 rfl rfl (by decide) rfl (c_col k2 (by omega) F.1.g C2.1) ?_
        refine PW.funV rfl trivial sX6_92 rfl rfl (by decide) rfl (c_row k2 (by omega) F.1.g C2.1) ?_
        refine PW.callV rfl trivial sX6_95 rfl rfl (by decide) rfl (c_setc B (by rw [hF.i 14]; exact h7) (by rw [hF.i 14]; exact h8) i k2 hi (by omega) _) (fun v152 M152 hq152 => ?_)
        obtain ⟨rfl, rfl⟩ := hq152
        refine PW.goto rfl trivial ?_
        rw [nI_1]
        refine PW.nl [10, 12] ?_
        refine ih (k2 + 1) _ (by omega) hF.pl (fun k hk => ?_) (fun x hx => (upL_n (by omega)).trans (hr x hx)) (by omega)
        by_cases e : k = k2
        · subst e
          rw [upL_s, pk_mul, pk_mul, sq64 (by omega) (by omega), sq64 (by omega) (by omega), lN_add, show (2176782336 : Int64) = lN 2176782336 from rfl, lN_mul, nI_l (by omega), lN_mul, lN_add]
          rfl
        · rw [upL_n (by omega)]; exact hd k (by omega)
  have loop15 : ∀ k : Nat, ∀ (k2 : Nat), k2 ≤ w * h → w * h - k2 < k → PW X l mX6_setCosts 2 (fun v M' => v = none ∧ FC [] [15] M M' ∧ (∀ k, k < w * h → M'.2 15 (i * (w * h) + k) = lN (ofo w (w * h) mp l0 k * 2176782336 + k * dg)) ∧ ∀ x, x < i * (w * h) → M'.2 15 x = M.2 15 x) 15 [.ref 21, .int (nI i), .long (mk (fun c => decide (mp c = l0))), .null, .long (lN dg), .null, .int (nI (many mp l0 (w * h))), .int (nI (msm (fun c => c % w) (fun c => decide (mp c = l0)) k2)), .int (nI (msm (fun c => c / w) (fun c => decide (mp c = l0)) k2)), .int (nI k2), .null, .null, .null, .null] [] G0 M := by
    intro k
    induction k with
    | zero => intro k2 hk2 hk; exact absurd hk (Nat.not_lt_zero _)
    | succ k ih =>
      intro k2 hk2 hk
      refine PW.funV rfl trivial sX6_36 rfl rfl (by decide) rfl (c_size F.1.g C.1) ?_
      refine PW.ige rfl trivial (fun h24 => ?_) (fun h24 => ?_)
      · skip
        rw [nI_leI (by omega) (by omega)] at h24
        have e9 : k2 = w * h := by omega
        subst e9
        refine PW.to 75 rfl trivial ?_
        exact loop75 (w * h + 1) 0 M (by omega) FC.rf (fun k hk => by omega) (fun x _ => rfl) (by omega)
      · skip
        rw [nI_leI (by omega) (by omega)] at h24
        refine PW.zeq rfl trivial (fun h35 => ?_) (fun h35 => ?_)
        · skip
          rw [lg_cmp_eq, mk_test (by omega)] at h35
          refine PW.goto rfl trivial ?_
          rw [nI_1]
          refine PW.lc ?_ (ih (k2 + 1) (by omega) (by omega))
          rw [msm_s, msm_s, h35]; rfl
        · skip
          rw [lg_cmp_eq, mk_test (by omega), Bool.not_eq_false] at h35
          refine PW.funV rfl trivial sX6_89 rfl rfl (by decide) rfl (c_col k2 (by omega) F.1.g C.1) ?_
          refine PW.funV rfl trivial sX6_92 rfl rfl (by decide) rfl (c_row k2 (by omega) F.1.g C.1) ?_
          refine PW.goto rfl trivial ?_
          rw [nI_1, nI_add, nI_add]
          refine PW.lc ?_ (ih (k2 + 1) (by omega) (by omega))
          rw [msm_s, msm_s, h35]; rfl
  refine PW.funS rfl trivial sX6_83 rfl (by decide) rfl (j_bitCount _) ?_
  rw [← cel_l F.1.m hl, ct_cel (by omega), cel_l F.1.m hl]
  refine PW.to 15 rfl trivial ?_
  exact loop15 (w * h + 1) 0 (by omega) (by omega)
set_option maxHeartbeats 1000000 in
theorem c_best {w h : Nat} {mp dr hd : Nat → Nat} {wy : Nat} {vt : Nat → Nat} (F : Sf w h mp dr hd wy vt) (C : CM w h mp dr hd wy vt M) : PC X l mX6_findBest 4 [.ref 21, .ref 2] G0 M (fun v M' => v = some (.int (nI (Co (Tl mp (w * h)) (ofo w (w * h) mp) (bt w (w * h) mp)))) ∧ FC [14, 19, 20, 22] [14, 15, 16, 17, 18, 24] M M' ∧ ∃ g : Nat → Nat, Sh 24 g M' ∧ Sw (w * h) g ∧ ∀ l, l < 6 → ∀ x, g x = l ↔ Tl mp (w * h) l = true ∧ bt w (w * h) mp l = x) := by
  refine PC.ofW okX6_findBest ?_
  have hn := F.1.n
  have hp4 := F.1.g.p
  have hw2 := F.1.1
  have hw6 := F.1.2.1
  have hh6 := F.1.2.2.2.1
  have B := T6_b mp hn
  have hr6 := fb_ct_le (T6 mp (w * h)) 6
  have loop88 : ∀ k : Nat, ∀ (k2 : Nat) (u v : Nat → Int) (p : Nat → Nat) (M2 : Mem), Hg (tct w (w * h) mp) (w * h) (fb_ct (T6 mp (w * h)) 6) u v p → k2 ≤ w * h → FC [14, 19, 20, 22] [14, 15, 16, 17, 18, 24] M M2 → Mc (tct w (w * h) mp) (fb_ct (T6 mp (w * h)) 6) (w * h) M2 → (∀ j, j ≤ w * h → M2.1 19 j = nI (p j)) → (∀ i, i < fb_ct (T6 mp (w * h)) 6 → M2.1 22 i = nI (kth (T6 mp (w * h)) i)) → Sh 24 (tsh mp (w * h) p k2) M2 → w * h - k2 < k → PW X l mX6_findBest 4 (fun v M' => v = some (.int (nI (Co (Tl mp (w * h)) (ofo w (w * h) mp) (bt w (w * h) mp)))) ∧ FC [14, 19, 20, 22] [14, 15, 16, 17, 18, 24] M M' ∧ ∃ g : Nat → Nat, Sh 24 g M' ∧ Sw (w * h) g ∧ ∀ l, l < 6 → ∀ x, g x = l ↔ Tl mp (w * h) l = true ∧ bt w (w * h) mp l = x) 88 [.ref 21, .ref 2, .int (nI (fb_ct (T6 mp (w * h)) 6)), .int (nI k2), .null] [] G0 M2 := by
    intro k
    induction k with
    | zero => intro k2 u v p M2 hH hk2 hF Cm hp h22 hS hk; exact absurd hk (Nat.not_lt_zero _)
    | succ k ih =>
      intro k2 u v p M2 hH hk2 hF Cm hp h22 hS hk
      have C2 := C.fc hF
      refine PW.funV rfl trivial sX6_36 rfl rfl (by decide) rfl (c_size F.1.g C2.1) ?_
      refine PW.ige rfl trivial (fun h96 => ?_) (fun h96 => ?_)
      · skip
        rw [nI_leI (by omega) (by omega)] at h96
        have e9 : k2 = w * h := by omega
        subst e9
        refine PW.funV rfl trivial sX6_75 rfl rfl (by decide) rfl (c_sum B Cm hp hH.1) ?_
        refine PW.iret rfl rfl ⟨trivial, (by decide)⟩ ?_
        obtain ⟨d, hd, es⟩ := tsum_div hH hn
        have hco := co_le (mp := mp) hw6 hh6 hw2
        refine ⟨?_, hF, tsh mp (w * h) p (w * h), hS, tsh_sw hH _ (Nat.le_refl _), fun l hl x => tsh_iff hH hn hl x⟩
        rw [es, show Int64.ofInt ((Co (Tl mp (w * h)) (ofo w (w * h) mp) (bt w (w * h) mp) * 2176782336 + d : Nat) : Int) = lN (Co (Tl mp (w * h)) (ofo w (w * h) mp) (bt w (w * h) mp) * 2176782336 + d) from Int64.ofInt_eq_ofNat, show (2176782336 : Int64) = lN 2176782336 from rfl, pk_lDiv (by omega) (by decide) (by decide), lN_i]
        congr 3
        omega
      · skip
        rw [nI_leI (by omega) (by omega)] at h96
        have hpk := hH.1 (k2 + 1) (by omega) (by omega)
        have hts := tsh_s (mp := mp) (n := w * h) (p := p) (k := k2)
        refine PW.funV rfl trivial sX6_68 rfl rfl (by decide) rfl (c_rowIn hn Cm.2.1 hp k2 (by omega)) ?_
        refine PW.zlt rfl trivial (fun h111 => ?_) (fun h111 => ?_)
        · skip
          have hp0 : p (k2 + 1) = 0 := by
            rcases Nat.eq_zero_or_pos (p (k2 + 1)) with z | z
            · exact z
            · rw [nI_m1 z] at h111; exact absurd h111 (nI_pos (by omega))
          rw [if_pos hp0] at hts
          refine PW.goto rfl trivial ?_
          first
          | (rw [nI_1]
             refine PW.nl [4] ?_
             exact ih (k2 + 1) u v p _ hH (by omega) (hF.tr hF3.mono) (Cm.fc hF3) (fun j hj => by rw [hF3.i 19]; exact hp j hj) (fun i hi => by rw [hF3.i 22]; exact h22 i hi) hS3 (by omega))
          | (rw [nI_1]
             refine PW.nl [4] ?_
             exact ih (k2 + 1) u v p M2 hH (by omega) hF Cm hp h22 (by rw [hts]; exact hS) (by omega))
        · skip
          have hp0 : 0 < p (k2 + 1) := by
            rcases Nat.eq_zero_or_pos (p (k2 + 1)) with z | z
            · rw [z] at h111; exact absurd (by decide) h111
            · exact z
          rw [if_neg (by omega)] at hts
          rw [nI_m1 hp0]
          have hk6 := T6_lt (kth_ok (P := T6 mp (w * h)) (r := p (k2 + 1) - 1) (by rw [T6_ct]; omega)).1
          refine PW.ige rfl trivial (fun h117 => ?_) (fun h117 => ?_)
          · rw [nI_leI (by omega) (by omega)] at h117
            omega
          · skip
            refine PW.callV rfl ⟨trivial, vp_in_nI (by omega) (by decide)⟩ sX6_71 rfl rfl (by decide) rfl (show PC X l mX5_put 0 [.ref 23, .long ((1 : Int64) <<< ((nI k2).toInt64 &&& 63)), .int (M2.1 22 (nI (p (k2 + 1) - 1)).toNatClampNeg)] G0 M2 (fun v M3 => v = none ∧ FC [] [24] M2 M3 ∧ Sh 24 (tsh mp (w * h) p (k2 + 1)) M3) from by rw [nI_clamp (by omega), h22 _ (by omega), mk_bit (by omega), hts, ← put_1]; exact c_put23 _ _ (by omega) hS) (fun v134 M134 hq134 => ?_)
            obtain ⟨rfl, hF3, hS3⟩ := hq134
            refine PW.goto rfl trivial ?_
            first
            | (rw [nI_1]
               refine PW.nl [4] ?_
               exact ih (k2 + 1) u v p _ hH (by omega) (hF.tr hF3.mono) (Cm.fc hF3) (fun j hj => by rw [hF3.i 19]; exact hp j hj) (fun i hi => by rw [hF3.i 22]; exact h22 i hi) hS3 (by omega))
            | (rw [nI_1]
               refine PW.nl [4] ?_
               exact ih (k2 + 1) u v p M2 hH (by omega) hF Cm hp h22 (by rw [hts]; exact hS) (by omega))
  have loop22 : ∀ k : Nat, ∀ (j : Nat) (M2 : Mem), j ≤ 6 → FC [14, 19, 20, 22] [14, 15, 16, 17, 18, 24] M M2 → M2.1 14 7 = nI (fb_ct (T6 mp (w * h)) 6) → M2.1 14 8 = nI (w * h) → (∀ i, i < fb_ct (T6 mp (w * h)) j → M2.1 22 i = nI (kth (T6 mp (w * h)) i)) → (∀ x, x < fb_ct (T6 mp (w * h)) j * (w * h) → (M2.2 15 x).toInt = (tcs w (w * h) mp (kth (T6 mp (w * h)) (x / (w * h))) (x % (w * h)) : Int)) → 6 - j < k → PW X l mX6_findBest 4 (fun v M' => v = some (.int (nI (Co (Tl mp (w * h)) (ofo w (w * h) mp) (bt w (w * h) mp)))) ∧ FC [14, 19, 20, 22] [14, 15, 16, 17, 18, 24] M M' ∧ ∃ g : Nat → Nat, Sh 24 g M' ∧ Sw (w * h) g ∧ ∀ l, l < 6 → ∀ x, g x = l ↔ Tl mp (w * h) l = true ∧ bt w (w * h) mp l = x) 22 [.ref 21, .ref 2, .int (nI (fb_ct (T6 mp (w * h)) j)), .int (nI j), .null] [] G0 M2 := by
    intro k
    induction k with
    | zero => intro j M2 hj hF h7 h8 h22 h15 hk; exact absurd hk (Nat.not_lt_zero _)
    | succ k ih =>
      intro j M2 hj hF h7 h8 h22 h15 hk
      have C2 := C.fc hF
      have hrj := fb_ct_le (T6 mp (w * h)) j
      have hmj := many_le mp j (w * h)
      refine PW.ige rfl trivial (fun h25 => ?_) (fun h25 => ?_)
      · skip
        rw [i6 (by omega)] at h25
        have e9 : j = 6 := by omega
        subst e9
        have Cm : Mc (tct w (w * h) mp) (fb_ct (T6 mp (w * h)) 6) (w * h) M2 := ⟨h7, h8, fun i j a b d e => by
          have q1 := idx_lt (i := i - 1) (j := j - 1) (rr := fb_ct (T6 mp (w * h)) 6) (m := w * h) (by omega) (by omega)
          have q := dm_idx (i := i - 1) (j := j - 1) (m := w * h) (by omega)
          rw [h15 _ q1, q.1, q.2]
          unfold tct
          rw [if_pos ⟨a, b, d, e⟩]⟩
        refine PW.callV rfl trivial sX6_62 rfl rfl (by decide) rfl (c_solve B Cm (fun i j => (tct_b hw6 hh6 hw2 i j).1) (fun i j => (tct_b hw6 hh6 hw2 i j).2)) (fun v76 M76 hq76 => ?_)
        obtain ⟨rfl, hF3, u, v, p, hH, hp⟩ := hq76
        have Cm3 := Cm.fc hF3
        refine PW.callV rfl trivial sX6_65 rfl rfl (by decide) rfl (c_clear23) (fun v83 M83 hq83 => ?_)
        obtain ⟨rfl, hF4, hS4⟩ := hq83
        have Cm4 := Cm3.fc hF4
        refine PW.to 88 rfl trivial ?_
        exact loop88 (w * h + 1) 0 u v p M83 hH (by omega) ((hF.tr hF3.mono).tr hF4.mono) Cm4 (fun j hj => by rw [hF4.i 19]; exact hp j hj) (fun i hi => by rw [hF4.i 22, hF3.i 22]; exact h22 i hi) (by rw [tsh_0]; exact hS4) (by omega)
      · skip
        rw [i6 (by omega)] at h25
        refine PW.funV rfl trivial sX6_47 rfl rfl (by decide) rfl (c_siz2 j (by omega) F.1.g C2.1 F.1.m C2.2.1) ?_
        refine PW.zle rfl trivial (fun h33 => ?_) (fun h33 => ?_)
        · skip
          rw [show (0 : Int32) = nI 0 from rfl, nI_leI (by omega) (by omega)] at h33
          have hT : T6 mp (w * h) j = false := by rw [T6_in (by omega)]; unfold Tl; simp; omega
          have hct : fb_ct (T6 mp (w * h)) (j + 1) = fb_ct (T6 mp (w * h)) j := by rw [fb_ct_succ, hT]; rfl
          refine PW.goto rfl trivial ?_
          rw [nI_1]
          refine PW.lc ?_ (ih (j + 1) M2 (by omega) hF h7 h8 (by rw [hct]; exact h22) (by rw [hct]; exact h15) (by omega))
          rw [hct]
        · skip
          rw [show (0 : Int32) = nI 0 from rfl, nI_leI (by omega) (by omega)] at h33
          have hT : T6 mp (w * h) j = true := by rw [T6_in (by omega)]; unfold Tl; simp; omega
          have hct : fb_ct (T6 mp (w * h)) (j + 1) = fb_ct (T6 mp (w * h)) j + 1 := by rw [fb_ct_succ, hT]; rfl
          have hct6 := fb_ct_mono (T6 mp (w * h)) (m := j + 1) (n := 6) (by omega)
          have hkt := kth_at (P := T6 mp (w * h)) (t := j) (by omega) hT
          refine PW.ige rfl trivial (fun h39 => ?_) (fun h39 => ?_)
          · rw [i6 (by omega)] at h39
            omega
          · skip
            have C3 : CM w h mp dr hd wy vt (va_up M2.1 22 (upd (M2.1 22) (nI (fb_ct (T6 mp (w * h)) j)).toNatClampNeg (nI j)), M2.2) := C2.fc (A := [22]) (B := []) FC.rf.pi
            have h73 : ((va_up M2.1 22 (upd (M2.1 22) (nI (fb_ct (T6 mp (w * h)) j)).toNatClampNeg (nI j)), M2.2) : Mem).1 14 7 = nI (fb_ct (T6 mp (w * h)) 6) := by rw [up_o (by decide)]; exact h7
            have h83 : ((va_up M2.1 22 (upd (M2.1 22) (nI (fb_ct (T6 mp (w * h)) j)).toNatClampNeg (nI j)), M2.2) : Mem).1 14 8 = nI (w * h) := by rw [up_o (by decide)]; exact h8
            refine PW.funV rfl ⟨trivial, vp_in_nI (by omega) (by decide)⟩ sX6_51 rfl rfl (by decide) rfl (c_cel2 (M := (va_up M2.1 22 (upd (M2.1 22) (nI (fb_ct (T6 mp (w * h)) j)).toNatClampNeg (nI j)), M2.2)) j (by omega) F.1.g C3.1 F.1.m C3.2.1) ?_
            refine PW.funS rfl trivial sX6_55 rfl (by decide) rfl (c_dig j (by omega)) ?_
            refine PW.callV rfl trivial sX6_58 rfl rfl (by decide) rfl (c_costs (M := (va_up M2.1 22 (upd (M2.1 22) (nI (fb_ct (T6 mp (w * h)) j)).toNatClampNeg (nI j)), M2.2)) F C3 B h73 h83 _ j _ (by omega) (by omega) p36) (fun v60 M60 hq60 => ?_)
            obtain ⟨rfl, hF3, hd3, hr3⟩ := hq60
            rw [nI_clamp (by omega)] at hF3
            refine PW.goto rfl trivial ?_
            rw [nI_1, nI_1]
            have hF4 : FC [14, 19, 20, 22] [14, 15, 16, 17, 18, 24] M (va_up M2.1 22 (upd (M2.1 22) (fb_ct (T6 mp (w * h)) j) (nI j)), M2.2) := hF.pi
            refine PW.lc ?_ (ih (j + 1) _ (by omega) (hF4.tr hF3.mono) (by rw [hF3.i 14]; exact h7) (by rw [hF3.i 14]; exact h8) (fun i hi => ?_) (fun x hx => ?_) (by omega))
            · rw [hct]
            · rw [hF3.i 22]
              by_cases q : i = fb_ct (T6 mp (w * h)) j
              · subst q; rw [hkt]; exact up_s
              · exact (up_n q).trans (h22 i (by omega))
            · rw [hct, Nat.succ_mul] at hx
              rcases Nat.lt_or_ge x (fb_ct (T6 mp (w * h)) j * (w * h)) with q | q
              · rw [hr3 x q]; exact h15 x q
              · obtain ⟨k9, hk9⟩ : ∃ k9, x = fb_ct (T6 mp (w * h)) j * (w * h) + k9 := ⟨x - fb_ct (T6 mp (w * h)) j * (w * h), by omega⟩
                subst hk9
                have dm := dm_idx (i := fb_ct (T6 mp (w * h)) j) (j := k9) (m := w * h) (by omega)
                have hb9 := tcs_le (mp := mp) hw6 hh6 hw2 j (x := k9) (by omega)
                rw [hd3 k9 (by omega), dm.1, dm.2, hkt]
                unfold tcs at hb9 ⊢
                exact pk_lT (by omega)
  refine PW.funV rfl trivial sX6_32 rfl rfl (by decide) rfl (c_lwc F.1.g F.1.m C.2.1) ?_
  rw [← T6_ct6]
  refine PW.funV rfl trivial sX6_36 rfl rfl (by decide) rfl (c_size F.1.g C.1) ?_
  refine PW.callV rfl trivial sX6_41 rfl rfl (by decide) rfl (c_begin _ _ B) (fun v15 M15 hq15 => ?_)
  obtain ⟨rfl, hF1, h7, h8⟩ := hq15
  refine PW.to 22 rfl trivial ?_
  exact loop22 7 0 M15 (by omega) hF1.mono h7 h8 (fun i hi => absurd hi (by simp [fb_ct])) (fun x hx => absurd hx (by simp [fb_ct])) (by omega)
theorem r_off {w h : Nat} {mp dr hd : Nat → Nat} {wy : Nat} {vt : Nat → Nat} (F : Sf w h mp dr hd wy vt) (C : CM w h mp dr hd wy vt M) : PC X l mX7_off 5 [.ref 0] G0 M (fun v M' => v = some (.int (nI (Co (Tl mp (w * h)) (ofo w (w * h) mp) (bt w (w * h) mp)))) ∧ (CM w h mp dr hd wy vt M' ∧ FN M M')) := by
  refine PC.ofW okX7_off ?_
  have hn := F.1.n
  refine PW.callV rfl trivial sX7_193 rfl rfl (by decide) rfl (c_best F C) (fun v8 M8 hq8 => ?_)
  obtain ⟨rfl, hF1, g, hg1, hg2, hg3⟩ := hq8
  have C1 := C.fc hF1
  refine PW.iret rfl rfl trivial ?_
  exact ⟨rfl, C1, hF1.fn⟩
theorem r_tile {w h : Nat} {mp dr hd : Nat → Nat} {wy : Nat} {vt : Nat → Nat} (F : Sf w h mp dr hd wy vt) (C : CM w h mp dr hd wy vt M) (lv : Int32) : PC X l mX7_tile 5 [.ref 0, .int lv] G0 M (fun v M' => v = some (.int (if okl 5 lv = true then tlv w (w * h) mp (tn lv) else -1)) ∧ (CM w h mp dr hd wy vt M' ∧ FN M M')) := by
  refine PC.ofW okX7_tile ?_
  have hn := F.1.n
  refine PW.funS rfl trivial sX7_131 rfl (by decide) rfl (u_isLand _) ?_
  refine PW.zne rfl trivial (fun h4 => ?_) (fun h4 => ?_)
  · skip
    rw [bo_ne] at h4
    obtain ⟨j, hj, rfl⟩ := okl_x (m := 5) h4
    have tj : tn (nI j) = j := tn_nI (by omega)
    refine PW.funV rfl trivial sX7_134 rfl rfl (by decide) rfl (c_siz2 j (by omega) F.1.g C.1 F.1.m C.2.1) ?_
    refine PW.zne rfl trivial (fun h17 => ?_) (fun h17 => ?_)
    · skip
      have hmj := many_le mp j (w * h)
      rw [show (0 : Int32) = nI 0 from rfl, nI_eq (by omega) (by omega)] at h17
      have hT : Tl mp (w * h) j = true := by unfold Tl; simp; omega
      refine PW.callV rfl trivial sX7_193 rfl rfl (by decide) rfl (c_best F C) (fun v31 M31 hq31 => ?_)
      obtain ⟨rfl, hF1, g, hg1, hg2, hg3⟩ := hq31
      have C1 := C.fc hF1
      refine PW.funV rfl trivial sX7_111 rfl rfl (by decide) rfl (c_cel23 j (by omega) F.1.g C1.1 hg2 hg1) ?_
      refine PW.funS rfl trivial sX7_200 rfl (by decide) rfl (c_low _) ?_
      refine PW.iret rfl rfl trivial ?_
      have hb := (bt_best w (w * h) mp).1.1 j (by omega) hT
      have hf : fnd (fun i => decide (g i = j)) 64 = some (bt w (w * h) mp j) := fnd_some.mpr ⟨by omega, by simpa using (hg3 j (by omega) _).mpr ⟨hT, rfl⟩, fun d hd => by
        have : ¬ g d = j := fun z => by have := ((hg3 j (by omega) d).mp z).2; omega
        simpa using this⟩
      exact ⟨by rw [h4, if_pos rfl, tj, hf]; unfold tlv; rw [if_pos hT]; rfl, C1, hF1.fn⟩
    · skip
      have hmj := many_le mp j (w * h)
      rw [show (0 : Int32) = nI 0 from rfl, nI_eq (by omega) (by omega)] at h17
      refine PW.iret rfl rfl trivial ?_
      exact ⟨by rw [h4, if_pos rfl, tj]; unfold tlv; rw [if_neg (by unfold Tl; simp; omega)], C, FN.rf⟩
  · skip
    rw [bo_eq] at h4
    refine PW.iret rfl rfl trivial ?_
    exact ⟨by rw [h4]; rfl, C, FN.rf⟩
theorem r_kept {w h : Nat} {mp dr hd : Nat → Nat} {wy : Nat} {vt : Nat → Nat} (F : Sf w h mp dr hd wy vt) (C : CM w h mp dr hd wy vt M) : PC X l mX7_kept 5 [.ref 0] G0 M (fun v M' => v = some (.int (nI (kpt w (w * h) mp 6))) ∧ (CM w h mp dr hd wy vt M' ∧ FN M M')) := by
  refine PC.ofW okX7_kept ?_
  have hn := F.1.n
  refine PW.callV rfl trivial sX7_193 rfl rfl (by decide) rfl (c_best F C) (fun v8 M8 hq8 => ?_)
  obtain ⟨rfl, hF1, g, hg1, hg2, hg3⟩ := hq8
  have C1 := C.fc hF1
  refine PW.funV rfl trivial sX7_161 rfl rfl (by decide) rfl (c_prs2 F.1.g C1.1 F.1.m C1.2.1) ?_
  refine PW.funV rfl trivial sX7_161 rfl rfl (by decide) rfl (c_prs23 F.1.g C1.1 hg2 hg1) ?_
  refine PW.funS rfl trivial sX7_117 rfl (by decide) rfl (show PF X l mJ13_bitCount_95d88 0 [.long (mk (prs w (w * h) mp) &&& mk (prs w (w * h) g))] G0 _ (.int (nI (kpt w (w * h) mp 6))) from by rw [mk_and, ← kpt_eq hg3]; exact j_bitCount _) ?_
  refine PW.iret rfl rfl trivial ?_
  exact ⟨rfl, C1, hF1.fn⟩
end C13
