-- made by wip/whole/mk_c8.py
section C8
variable {X : Cx} {l : Launch} {M : Mem}
theorem c_votes {vt : Nat → Nat} (hv : ∀ k, vt k ≤ 999) (hm : ∀ k, k < 18 → M.1 26 k = nI (vt k)) (lv s : Nat) (hl : lv < 6) (hs : s < 3) : PF X l mX4_votesOf 1 [.ref 25, .int (nI lv), .int (nI s)] G0 M (.int (nI (vt (3 * lv + s)))) := by
  refine PF.ofW okX4_votesOf ?_
  refine PW.funS rfl trivial sX4_21 rfl (by decide) rfl (u_isLand _) ?_
  refine PW.zeq rfl trivial (fun h4 => ?_) (fun h4 => ?_)
  · rw [bo_eq, okl5 (by omega), decide_eq_false_iff_not] at h4
    omega
  · skip
    skip
    refine PW.funS rfl trivial sX4_25 rfl (by decide) rfl (u_isSide _) ?_
    refine PW.zeq rfl trivial (fun h11 => ?_) (fun h11 => ?_)
    · rw [bo_eq, okl2 (by omega), decide_eq_false_iff_not] at h11
      omega
    · skip
      skip
      refine PW.goto rfl ⟨trivial, (by rw [show (3 : Int32) = nI 3 from rfl, pk_mul, nI_add]; exact vp_in_nI (by omega) (by decide))⟩ ?_
      refine PW.iret rfl rfl trivial ?_
      exact ⟨by rw [show (3 : Int32) = nI 3 from rfl, pk_mul, nI_add, nI_clamp (by omega), Nat.mul_comm lv 3, hm _ (by omega)], rfl⟩
theorem c_setv (lv s : Nat) (hl : lv < 6) (hs : s < 3) (n : Nat) : PC X l mX4_setVotes 1 [.ref 25, .int (nI lv), .int (nI s), .int (nI n)] G0 M (fun v M' => v = none ∧ M' = (va_up M.1 26 (upd (M.1 26) (3 * lv + s) (nI n)), M.2)) := by
  refine PC.ofW okX4_setVotes ?_
  refine PW.funS rfl trivial sX4_21 rfl (by decide) rfl (u_isLand _) ?_
  refine PW.zeq rfl trivial (fun h4 => ?_) (fun h4 => ?_)
  · rw [bo_eq, okl5 (by omega), decide_eq_false_iff_not] at h4
    omega
  · skip
    skip
    refine PW.funS rfl trivial sX4_25 rfl (by decide) rfl (u_isSide _) ?_
    refine PW.zeq rfl trivial (fun h11 => ?_) (fun h11 => ?_)
    · rw [bo_eq, okl2 (by omega), decide_eq_false_iff_not] at h11
      omega
    · skip
      skip
      refine PW.vret rfl rfl ⟨trivial, (by rw [show (3 : Int32) = nI 3 from rfl, pk_mul, nI_add]; exact vp_in_nI (by omega) (by decide))⟩ ?_
      exact ⟨rfl, by rw [show (3 : Int32) = nI 3 from rfl, pk_mul, nI_add, nI_clamp (by omega), Nat.mul_comm lv 3]⟩
theorem c_winner {vt : Nat → Nat} (hv : ∀ k, vt k ≤ 999) (hm : ∀ k, k < 18 → M.1 26 k = nI (vt k)) (lv : Nat) (hl : lv < 6) : PF X l mX4_winnerOf 2 [.ref 25, .int (nI lv)] G0 M (.int (wnr vt lv)) := by
  refine PF.ofW okX4_winnerOf ?_
  have v1 := hv (3 * lv + 0)
  have v2 := hv (3 * lv + 1)
  have v3 := hv (3 * lv + 2)
  refine PW.funV rfl trivial sX4_28 rfl rfl (by decide) rfl (c_votes hv hm lv 0 hl (by omega)) ?_
  refine PW.funV rfl trivial sX4_28 rfl rfl (by decide) rfl (c_votes hv hm lv 1 hl (by omega)) ?_
  refine PW.funV rfl trivial sX4_28 rfl rfl (by decide) rfl (c_votes hv hm lv 2 hl (by omega)) ?_
  refine PW.funS rfl trivial sX4_32 rfl (by decide) rfl (c_lead _ _ _ (by omega) (by omega) (by omega)) ?_
  refine PW.iret rfl rfl trivial ?_
  exact ⟨rfl, rfl⟩
theorem c_vall {vt : Nat → Nat} (hv : ∀ k, vt k ≤ 999) (hm : ∀ k, k < 18 → M.1 26 k = nI (vt k)) (n : Nat) (f : Nat → Nat) (s : Nat) (hs : s < 3) : PF X l mX4_votesForAll 2 [.ref 25, .int (nI s)] G0 M (.int (nI (tly n f vt s 2 6))) := by
  refine PF.ofW okX4_votesForAll ?_
  have loop4 : ∀ k : Nat, ∀ (j : Nat), j ≤ 6 → 6 - j < k → PW X l mX4_votesForAll 2 (fun v M' => v = some (.int (nI (tly n f vt s 2 6))) ∧ M' = M) 4 [.ref 25, .int (nI s), .int (nI (tly n f vt s 2 j)), .int (nI j)] [] G0 M := by
    intro k
    induction k with
    | zero => intro j hj hk; exact absurd hk (Nat.not_lt_zero _)
    | succ k ih =>
      intro j hj hk
      refine PW.ige rfl trivial (fun h7 => ?_) (fun h7 => ?_)
      · skip
        rw [i6 (by omega)] at h7
        have e9 : j = 6 := by omega
        subst e9
        refine PW.iret rfl rfl trivial ?_
        exact ⟨rfl, rfl⟩
      · skip
        rw [i6 (by omega)] at h7
        refine PW.funV rfl trivial sX4_28 rfl rfl (by decide) rfl (c_votes hv hm j s (by omega) hs) ?_
        refine PW.goto rfl trivial ?_
        rw [nI_add, nI_1]
        exact ih (j + 1) (by omega) (by omega)
  refine PW.to 4 rfl trivial ?_
  exact loop4 7 0 (by omega) (by omega)
theorem c_won2 {w h : Nat} {mp dr hd : Nat → Nat} {wy : Nat} {vt : Nat → Nat} (F : Sf w h mp dr hd wy vt) (C : CM w h mp dr hd wy vt M) (s b : Nat) (hs : s < 3) (hb : b ≠ 2) : PF X l mX4_cellsWon 3 [.ref 25, .int (nI s), .ref 2] G0 M (.int (nI (tly (w * h) mp vt s b 6))) := by
  refine PF.ofW okX4_cellsWon ?_
  have hn := F.1.n
  have loop5 : ∀ k : Nat, ∀ (j : Nat), j ≤ 6 → 6 - j < k → PW X l mX4_cellsWon 3 (fun v M' => v = some (.int (nI (tly (w * h) mp vt s b 6))) ∧ M' = M) 5 [.ref 25, .int (nI s), .ref 2, .int (nI (tly (w * h) mp vt s b j)), .int (nI j)] [] G0 M := by
    intro k
    induction k with
    | zero => intro j hj hk; exact absurd hk (Nat.not_lt_zero _)
    | succ k ih =>
      intro j hj hk
      refine PW.ige rfl trivial (fun h9 => ?_) (fun h9 => ?_)
      · skip
        rw [i6 (by omega)] at h9
        have e9 : j = 6 := by omega
        subst e9
        refine PW.iret rfl rfl trivial ?_
        exact ⟨rfl, rfl⟩
      · skip
        rw [i6 (by omega)] at h9
        refine PW.funV rfl trivial sX4_36 rfl rfl (by decide) rfl (c_winner F.2.2 C.2.2.2.2 j (by omega)) ?_
        refine PW.ine rfl trivial (fun h20 => ?_) (fun h20 => ?_)
        · skip
          have ht : tly (w * h) mp vt s b (j + 1) = tly (w * h) mp vt s b j := by simp only [tly, fb_sm, if_neg hb, if_neg h20, Nat.add_zero]
          refine PW.goto rfl trivial ?_
          first
          | (rw [nI_add, nI_1]
             refine PW.lc ?_ (ih (j + 1) (by omega) (by omega))
             rw [ht])
          | (rw [Int32.add_zero, nI_1]
             refine PW.lc ?_ (ih (j + 1) (by omega) (by omega))
             rw [ht])
        · skip
          have ht : tly (w * h) mp vt s b (j + 1) = tly (w * h) mp vt s b j + many mp j (w * h) := by simp only [tly, fb_sm, if_neg hb, if_pos h20]
          refine PW.funV rfl trivial sX4_40 rfl rfl (by decide) rfl (c_siz2 j (by omega) F.1.g C.1 F.1.m C.2.1) ?_
          refine PW.goto rfl trivial ?_
          refine PW.goto rfl trivial ?_
          first
          | (rw [nI_add, nI_1]
             refine PW.lc ?_ (ih (j + 1) (by omega) (by omega))
             rw [ht])
          | (rw [Int32.add_zero, nI_1]
             refine PW.lc ?_ (ih (j + 1) (by omega) (by omega))
             rw [ht])
  refine PW.to 5 rfl trivial ?_
  exact loop5 7 0 (by omega) (by omega)
theorem c_won4 {w h : Nat} {mp dr hd : Nat → Nat} {wy : Nat} {vt : Nat → Nat} (F : Sf w h mp dr hd wy vt) (C : CM w h mp dr hd wy vt M) (s b : Nat) (hs : s < 3) (hb : b ≠ 2) : PF X l mX4_cellsWon 3 [.ref 25, .int (nI s), .ref 4] G0 M (.int (nI (tly (w * h) dr vt s b 6))) := by
  refine PF.ofW okX4_cellsWon ?_
  have hn := F.1.n
  have loop5 : ∀ k : Nat, ∀ (j : Nat), j ≤ 6 → 6 - j < k → PW X l mX4_cellsWon 3 (fun v M' => v = some (.int (nI (tly (w * h) dr vt s b 6))) ∧ M' = M) 5 [.ref 25, .int (nI s), .ref 4, .int (nI (tly (w * h) dr vt s b j)), .int (nI j)] [] G0 M := by
    intro k
    induction k with
    | zero => intro j hj hk; exact absurd hk (Nat.not_lt_zero _)
    | succ k ih =>
      intro j hj hk
      refine PW.ige rfl trivial (fun h9 => ?_) (fun h9 => ?_)
      · skip
        rw [i6 (by omega)] at h9
        have e9 : j = 6 := by omega
        subst e9
        refine PW.iret rfl rfl trivial ?_
        exact ⟨rfl, rfl⟩
      · skip
        rw [i6 (by omega)] at h9
        refine PW.funV rfl trivial sX4_36 rfl rfl (by decide) rfl (c_winner F.2.2 C.2.2.2.2 j (by omega)) ?_
        refine PW.ine rfl trivial (fun h20 => ?_) (fun h20 => ?_)
        · skip
          have ht : tly (w * h) dr vt s b (j + 1) = tly (w * h) dr vt s b j := by simp only [tly, fb_sm, if_neg hb, if_neg h20, Nat.add_zero]
          refine PW.goto rfl trivial ?_
          first
          | (rw [nI_add, nI_1]
             refine PW.lc ?_ (ih (j + 1) (by omega) (by omega))
             rw [ht])
          | (rw [Int32.add_zero, nI_1]
             refine PW.lc ?_ (ih (j + 1) (by omega) (by omega))
             rw [ht])
        · skip
          have ht : tly (w * h) dr vt s b (j + 1) = tly (w * h) dr vt s b j + many dr j (w * h) := by simp only [tly, fb_sm, if_neg hb, if_pos h20]
          refine PW.funV rfl trivial sX4_40 rfl rfl (by decide) rfl (c_siz4 j (by omega) F.1.g C.1 F.1.d C.2.2.1) ?_
          refine PW.goto rfl trivial ?_
          refine PW.goto rfl trivial ?_
          first
          | (rw [nI_add, nI_1]
             refine PW.lc ?_ (ih (j + 1) (by omega) (by omega))
             rw [ht])
          | (rw [Int32.add_zero, nI_1]
             refine PW.lc ?_ (ih (j + 1) (by omega) (by omega))
             rw [ht])
  refine PW.to 5 rfl trivial ?_
  exact loop5 7 0 (by omega) (by omega)
theorem c_tally {w h : Nat} {mp dr hd : Nat → Nat} {wy : Nat} {vt : Nat → Nat} (F : Sf w h mp dr hd wy vt) (C : CM w h mp dr hd wy vt M) (s b : Nat) (hs : s < 3) (hb : b < 3) : PF X l mX7_tally 4 [.ref 0, .int (nI s), .int (nI b)] G0 M (.int (nI (tly (w * h) (if b = 1 then dr else mp) vt s b 6))) := by
  refine PF.ofW okX7_tally ?_
  refine PW.ine rfl trivial (fun h2 => ?_) (fun h2 => ?_)
  · skip
    rw [show (2 : Int32) = nI 2 from rfl, nI_eq (by omega) (by omega)] at h2
    refine PW.ine rfl trivial (fun h24 => ?_) (fun h24 => ?_)
    · skip
      rw [show (1 : Int32) = nI 1 from rfl, nI_eq (by omega) (by omega)] at h24
      refine PW.funV rfl trivial sX7_89 rfl rfl (by decide) rfl (show PF X l mX7_sheetOf 0 _ G0 M _ from by first | exact c_sht0 0 rfl | exact c_sht1 1 (by decide)) ?_
      refine PW.funV rfl trivial sX7_271 rfl rfl (by decide) rfl (show PF X l mX4_cellsWon 3 _ G0 M _ from by first | exact c_won2 F C s b hs h2 | exact c_won4 F C s b hs h2) ?_
      refine PW.iret rfl rfl trivial ?_
      first | exact ⟨rfl, rfl⟩ | exact ⟨by rw [if_neg h24], rfl⟩ | exact ⟨by rw [if_pos h24], rfl⟩
    · skip
      rw [show (1 : Int32) = nI 1 from rfl, nI_eq (by omega) (by omega)] at h24
      refine PW.goto rfl trivial ?_
      refine PW.funV rfl trivial sX7_89 rfl rfl (by decide) rfl (show PF X l mX7_sheetOf 0 _ G0 M _ from by first | exact c_sht0 0 rfl | exact c_sht1 1 (by decide)) ?_
      refine PW.funV rfl trivial sX7_271 rfl rfl (by decide) rfl (show PF X l mX4_cellsWon 3 _ G0 M _ from by first | exact c_won2 F C s b hs h2 | exact c_won4 F C s b hs h2) ?_
      refine PW.iret rfl rfl trivial ?_
      first | exact ⟨rfl, rfl⟩ | exact ⟨by rw [if_neg h24], rfl⟩ | exact ⟨by rw [if_pos h24], rfl⟩
  · skip
    rw [show (2 : Int32) = nI 2 from rfl, nI_eq (by omega) (by omega)] at h2
    subst h2
    refine PW.funV rfl trivial sX7_268 rfl rfl (by decide) rfl (c_vall F.2.2 C.2.2.2.2 (w * h) (if 2 = 1 then dr else mp) s hs) ?_
    refine PW.goto rfl trivial ?_
    refine PW.iret rfl rfl trivial ?_
    first | exact ⟨rfl, rfl⟩ | exact ⟨by rw [if_neg h24], rfl⟩ | exact ⟨by rw [if_pos h24], rfl⟩
theorem c_ldr {w h : Nat} {mp dr hd : Nat → Nat} {wy : Nat} {vt : Nat → Nat} (F : Sf w h mp dr hd wy vt) (C : CM w h mp dr hd wy vt M) (b : Nat) (hb : b < 3) : PF X l mX7_leaderBy 5 [.ref 0, .int (nI b)] G0 M (.int (ldr (w * h) mp dr vt b)) := by
  refine PF.ofW okX7_leaderBy ?_
  have hn := F.1.n
  have t0 := tly_lt (f := if b = 1 then dr else mp) (s := 0) (b := b) hn F.2.2 6
  have t1 := tly_lt (f := if b = 1 then dr else mp) (s := 1) (b := b) hn F.2.2 6
  have t2 := tly_lt (f := if b = 1 then dr else mp) (s := 2) (b := b) hn F.2.2 6
  refine PW.funV rfl trivial sX7_217 rfl rfl (by decide) rfl (c_tally F C 0 b (by omega) hb) ?_
  refine PW.funV rfl trivial sX7_217 rfl rfl (by decide) rfl (c_tally F C 1 b (by omega) hb) ?_
  refine PW.funV rfl trivial sX7_217 rfl rfl (by decide) rfl (c_tally F C 2 b (by omega) hb) ?_
  refine PW.funS rfl trivial sX7_275 rfl (by decide) rfl (c_lead _ _ _ (by omega) (by omega) (by omega)) ?_
  refine PW.iret rfl rfl trivial ?_
  exact ⟨rfl, rfl⟩
theorem r_votes {w h : Nat} {mp dr hd : Nat → Nat} {wy : Nat} {vt : Nat → Nat} (F : Sf w h mp dr hd wy vt) (C : CM w h mp dr hd wy vt M) (lv sd n : Int32) : PC X l mX7_votes 2 [.ref 0, .int lv, .int sd, .int n] G0 M (fun v M' => v = some (.int (if (okl 5 lv && okl 2 sd) = true then (if okl 999 n = true then nI (vt (3 * tn lv + tn sd)) else -2) else -1)) ∧ (CM w h mp dr hd wy (if (okl 5 lv && okl 2 sd && okl 999 n) = true then set1 vt (3 * tn lv + tn sd) (tn n) else vt) M' ∧ FN M M')) := by
  refine PC.ofW okX7_votes ?_
  have hn := F.1.n
  refine PW.funS rfl trivial sX7_131 rfl (by decide) rfl (u_isLand _) ?_
  refine PW.zeq rfl trivial (fun h4 => ?_) (fun h4 => ?_)
  · skip
    rw [bo_eq] at h4
    refine PW.iret rfl rfl trivial ?_
    first
    | (refine ⟨?_, ?_⟩
       · simp [h4]
       · simp [h4]; exact ⟨C, FN.rf⟩)
    | (refine ⟨?_, ?_⟩
       · simp [h11]
       · simp [h11]; exact ⟨C, FN.rf⟩)
  · skip
    rw [bo_ne] at h4
    obtain ⟨j, hj, rfl⟩ := okl_x (m := 5) h4
    have tj : tn (nI j) = j := tn_nI (by omega)
    refine PW.funS rfl trivial sX7_203 rfl (by decide) rfl (u_isSide _) ?_
    refine PW.zne rfl trivial (fun h11 => ?_) (fun h11 => ?_)
    · skip
      rw [bo_ne] at h11
      obtain ⟨i, hi, rfl⟩ := okl_x (m := 2) h11
      have ti : tn (nI i) = i := tn_nI (by omega)
      refine PW.funS rfl trivial sX7_137 rfl (by decide) rfl (u_isPeople _) ?_
      refine PW.zne rfl trivial (fun h20 => ?_) (fun h20 => ?_)
      · skip
        rw [bo_ne] at h20
        obtain ⟨k, hk, rfl⟩ := okl_x (m := 999) h20
        have tk : tn (nI k) = k := tn_nI (by omega)
        refine PW.funV rfl trivial sX7_206 rfl rfl (by decide) rfl (c_votes F.2.2 C.2.2.2.2 j i (by omega) (by omega)) ?_
        refine PW.callV rfl trivial sX7_210 rfl rfl (by decide) rfl (c_setv j i (by omega) (by omega) k) (fun v44 M44 hq44 => ?_)
        obtain ⟨rfl, rfl⟩ := hq44
        refine PW.iret rfl rfl trivial ?_
        refine ⟨?_, ?_⟩
        · rw [h4, h11, h20, tj, ti]; rfl
        · rw [h4, h11, h20, tj, ti, tk, Bool.and_self, Bool.and_self, if_pos rfl]
          have hF1 : FC [26] [] M (va_up M.1 26 (upd (M.1 26) (3 * j + i) (nI k)), M.2) := FC.rf.pi
          refine ⟨⟨C.1.fc hF1, C.2.1.fc hF1, C.2.2.1.fc hF1, C.2.2.2.1.fc hF1, fun x hx => ?_⟩, hF1.fn⟩
          rw [set1_eq]
          by_cases q : x = 3 * j + i
          · rw [if_pos q, q]; exact up_s
          · rw [if_neg q]; exact (up_n q).trans (C.2.2.2.2 x hx)
      · skip
        rw [bo_eq] at h20
        refine PW.iret rfl rfl trivial ?_
        refine ⟨?_, ?_⟩
        · rw [h4, h11, h20]; rfl
        · simp [h20]; exact ⟨C, FN.rf⟩
    · skip
      rw [bo_eq] at h11
      refine PW.iret rfl rfl trivial ?_
      first
      | (refine ⟨?_, ?_⟩
         · simp [h4]
         · simp [h4]; exact ⟨C, FN.rf⟩)
      | (refine ⟨?_, ?_⟩
         · simp [h11]
         · simp [h11]; exact ⟨C, FN.rf⟩)
theorem r_won {w h : Nat} {mp dr hd : Nat → Nat} {wy : Nat} {vt : Nat → Nat} (F : Sf w h mp dr hd wy vt) (C : CM w h mp dr hd wy vt M) (lv : Int32) : PC X l mX7_won 3 [.ref 0, .int lv] G0 M (fun v M' => v = some (.int (if okl 5 lv = true then wnr vt (tn lv) else -1)) ∧ (CM w h mp dr hd wy vt M' ∧ FN M M')) := by
  refine PC.ofW okX7_won ?_
  have hn := F.1.n
  refine PW.funS rfl trivial sX7_131 rfl (by decide) rfl (u_isLand _) ?_
  refine PW.zne rfl trivial (fun h4 => ?_) (fun h4 => ?_)
  · skip
    rw [bo_ne] at h4
    obtain ⟨j, hj, rfl⟩ := okl_x (m := 5) h4
    have tj : tn (nI j) = j := tn_nI (by omega)
    refine PW.funV rfl trivial sX7_214 rfl rfl (by decide) rfl (c_winner F.2.2 C.2.2.2.2 j (by omega)) ?_
    refine PW.iret rfl rfl trivial ?_
    exact ⟨by rw [h4, tj]; rfl, C, FN.rf⟩
  · skip
    rw [bo_eq] at h4
    refine PW.iret rfl rfl trivial ?_
    exact ⟨by rw [h4]; rfl, C, FN.rf⟩
theorem r_has {w h : Nat} {mp dr hd : Nat → Nat} {wy : Nat} {vt : Nat → Nat} (F : Sf w h mp dr hd wy vt) (C : CM w h mp dr hd wy vt M) (sd b : Int32) : PC X l mX7_has 5 [.ref 0, .int sd, .int b] G0 M (fun v M' => v = some (.int (if okl 2 sd = true then (if okl 2 b = true then nI (tly (w * h) (if tn b = 1 then dr else mp) vt (tn sd) (tn b) 6) else -2) else -1)) ∧ (CM w h mp dr hd wy vt M' ∧ FN M M')) := by
  refine PC.ofW okX7_has ?_
  have hn := F.1.n
  refine PW.funS rfl trivial sX7_203 rfl (by decide) rfl (u_isSide _) ?_
  refine PW.zne rfl trivial (fun h4 => ?_) (fun h4 => ?_)
  · skip
    rw [bo_ne] at h4
    obtain ⟨i, hi, rfl⟩ := okl_x (m := 2) h4
    have ti : tn (nI i) = i := tn_nI (by omega)
    refine PW.zlt rfl trivial (fun h10 => ?_) (fun h10 => ?_)
    · skip
      have z0 : (0 : Int32).toInt = 0 := by decide
      have z2 : (2 : Int32).toInt = 2 := by decide
      rw [fa_lt] at h10
      have hno : okl 2 b = false := by unfold okl; exact decide_eq_false (fun q => by omega)
      refine PW.iret rfl rfl trivial ?_
      exact ⟨by rw [h4, hno]; rfl, C, FN.rf⟩
    · skip
      have z0 : (0 : Int32).toInt = 0 := by decide
      have z2 : (2 : Int32).toInt = 2 := by decide
      rw [fa_lt] at h10
      refine PW.ile rfl trivial (fun h15 => ?_) (fun h15 => ?_)
      · skip
        rw [fa_le] at h15
        have hok : okl 2 b = true := by unfold okl; exact decide_eq_true (by omega)
        obtain ⟨j, hj, rfl⟩ := okl_x (m := 2) hok
        have tj : tn (nI j) = j := tn_nI (by omega)
        refine PW.funV rfl trivial sX7_217 rfl rfl (by decide) rfl (c_tally F C i j (by omega) (by omega)) ?_
        refine PW.iret rfl rfl trivial ?_
        exact ⟨by rw [h4, hok, ti, tj]; rfl, C, FN.rf⟩
      · skip
        rw [fa_le] at h15
        have hno : okl 2 b = false := by unfold okl; exact decide_eq_false (fun q => by omega)
        refine PW.iret rfl rfl trivial ?_
        exact ⟨by rw [h4, hno]; rfl, C, FN.rf⟩
  · skip
    rw [bo_eq] at h4
    refine PW.iret rfl rfl trivial ?_
    exact ⟨by rw [h4]; rfl, C, FN.rf⟩
theorem r_ahead {w h : Nat} {mp dr hd : Nat → Nat} {wy : Nat} {vt : Nat → Nat} (F : Sf w h mp dr hd wy vt) (C : CM w h mp dr hd wy vt M) (b : Int32) : PC X l mX7_ahead 6 [.ref 0, .int b] G0 M (fun v M' => v = some (.int (if okl 2 b = true then ldr (w * h) mp dr vt (tn b) else -2)) ∧ (CM w h mp dr hd wy vt M' ∧ FN M M')) := by
  refine PC.ofW okX7_ahead ?_
  have hn := F.1.n
  refine PW.zlt rfl trivial (fun h1 => ?_) (fun h1 => ?_)
  · skip
    have z0 : (0 : Int32).toInt = 0 := by decide
    have z2 : (2 : Int32).toInt = 2 := by decide
    rw [fa_lt] at h1
    have hno : okl 2 b = false := by unfold okl; exact decide_eq_false (fun q => by omega)
    refine PW.iret rfl rfl trivial ?_
    exact ⟨by rw [hno]; rfl, C, FN.rf⟩
  · skip
    have z0 : (0 : Int32).toInt = 0 := by decide
    have z2 : (2 : Int32).toInt = 2 := by decide
    rw [fa_lt] at h1
    refine PW.ile rfl trivial (fun h6 => ?_) (fun h6 => ?_)
    · skip
      rw [fa_le] at h6
      have hok : okl 2 b = true := by unfold okl; exact decide_eq_true (by omega)
      obtain ⟨j, hj, rfl⟩ := okl_x (m := 2) hok
      have tj : tn (nI j) = j := tn_nI (by omega)
      refine PW.funV rfl trivial sX7_220 rfl rfl (by decide) rfl (c_ldr F C j (by omega)) ?_
      refine PW.iret rfl rfl trivial ?_
      exact ⟨by rw [hok, tj]; rfl, C, FN.rf⟩
    · skip
      rw [fa_le] at h6
      have hno : okl 2 b = false := by unfold okl; exact decide_eq_false (fun q => by omega)
      refine PW.iret rfl rfl trivial ?_
      exact ⟨by rw [hno]; rfl, C, FN.rf⟩
theorem r_count {w h : Nat} {mp dr hd : Nat → Nat} {wy : Nat} {vt : Nat → Nat} (F : Sf w h mp dr hd wy vt) (C : CM w h mp dr hd wy vt M) (x : Int32) : PC X l mX7_count 2 [.ref 0, .int x] G0 M (fun v M' => v = some (.int (if x.toInt = 0 then nI (w * h) else if x.toInt = 1 then nI (w * h - many mp 6 (w * h)) else if x.toInt = 2 then nI (w * h - many dr 6 (w * h)) else if x.toInt = 3 then nI (fb_sm hd 6) else if x.toInt = 4 then nI (fb_ct (fun l => decide (0 < many mp l (w * h))) 6) else -2)) ∧ (CM w h mp dr hd wy vt M' ∧ FN M M')) := by
  refine PC.ofW okX7_count ?_
  have hn := F.1.n
  by_cases q0 : x.toInt = 0
  · refine PW.tabIn rfl trivial 36 (off := 35) (by rw [q0]; decide) (by rw [q0]; decide) (by rw [q0]; rfl) (by decide) ?_
    refine PW.funV rfl trivial sX7_79 rfl rfl (by decide) rfl (c_size F.1.g C.1) ?_
    refine PW.iret rfl rfl trivial ?_
    exact ⟨by rw [if_pos q0], C, FN.rf⟩
  by_cases q1 : x.toInt = 1
  · refine PW.tabIn rfl trivial 44 (off := 43) (by rw [q1]; decide) (by rw [q1]; decide) (by rw [q1]; rfl) (by decide) ?_
    refine PW.funV rfl trivial sX7_186 rfl rfl (by decide) rfl (c_land2 C.2.1) ?_
    refine PW.funS rfl trivial sX7_117 rfl (by decide) rfl (j_bitCount _) ?_
    rw [ct_land F.1.m (by omega)]
    refine PW.iret rfl rfl trivial ?_
    exact ⟨by rw [if_neg q0, if_pos q1], C, FN.rf⟩
  by_cases q2 : x.toInt = 2
  · refine PW.tabIn rfl trivial 55 (off := 54) (by rw [q2]; decide) (by rw [q2]; decide) (by rw [q2]; rfl) (by decide) ?_
    refine PW.funV rfl trivial sX7_186 rfl rfl (by decide) rfl (c_land4 C.2.2.1) ?_
    refine PW.funS rfl trivial sX7_117 rfl (by decide) rfl (j_bitCount _) ?_
    rw [ct_land F.1.d (by omega)]
    refine PW.iret rfl rfl trivial ?_
    exact ⟨by rw [if_neg q0, if_neg q1, if_pos q2], C, FN.rf⟩
  by_cases q3 : x.toInt = 3
  · refine PW.tabIn rfl trivial 66 (off := 65) (by rw [q3]; decide) (by rw [q3]; decide) (by rw [q3]; rfl) (by decide) ?_
    refine PW.funV rfl trivial sX7_227 rfl rfl (by decide) rfl (c_allH F.2.1 C.2.2.2.1) ?_
    refine PW.iret rfl rfl trivial ?_
    exact ⟨by rw [if_neg q0, if_neg q1, if_neg q2, if_pos q3], C, FN.rf⟩
  by_cases q4 : x.toInt = 4
  · refine PW.tabIn rfl trivial 74 (off := 73) (by rw [q4]; decide) (by rw [q4]; decide) (by rw [q4]; rfl) (by decide) ?_
    refine PW.funV rfl trivial sX7_230 rfl rfl (by decide) rfl (c_lwc F.1.g F.1.m C.2.1) ?_
    refine PW.iret rfl rfl trivial ?_
    exact ⟨by rw [if_neg q0, if_neg q1, if_neg q2, if_neg q3, if_pos q4], C, FN.rf⟩
  refine PW.tabOut rfl trivial 82 (by omega) (by decide) ?_
  refine PW.iret rfl rfl trivial ?_
  exact ⟨by rw [if_neg q0, if_neg q1, if_neg q2, if_neg q3, if_neg q4], C, FN.rf⟩
theorem c_prices {vt : Nat → Nat} (hv : ∀ k, vt k ≤ 999) (hm : ∀ k, k < 18 → M.1 26 k = nI (vt k)) (a s t lv : Nat) (ha : a < 3) (hs : s < 3) (hab : a ≠ s) (ht : t = 3 - a - s) (hl : lv < 6) (h0 : ∀ e, e < 4 → M.1 27 (4 * lv + e) = nI FAR) : PC X l mX4_setPrices 2 [.ref 25, .int (nI lv), .int (nI a), .int (nI s)] G0 M (fun v M' => v = none ∧ FC [27] [] M M' ∧ (∀ e, e < 4 → M'.1 27 (4 * lv + e) = nI (pvl (prq vt a s t lv e))) ∧ ∀ x, (x < 4 * lv ∨ 4 * lv + 4 ≤ x) → M'.1 27 x = M.1 27 x) := by
  refine PC.ofW okX4_setPrices ?_
  have v1 := hv (3 * lv + s)
  have v2 := hv (3 * lv + a)
  have v3 := hv (3 * lv + t)
  have ht3 : t < 3 := by omega
  have hF6 : FAR = 1000000 := rfl
  have loop31 : ∀ k : Nat, ∀ (g : Nat) (M2 : Mem), g ≤ vt (3 * lv + a) + 1 → FC [27] [] M M2 → (∀ k, k < g → cw vt a s t lv k ≠ 0) → (∀ e, e < 4 → M2.1 27 (4 * lv + e) = nI (pvl (fnd (fun k => decide (cw vt a s t lv k = e)) g))) → (∀ x, (x < 4 * lv ∨ 4 * lv + 4 ≤ x) → M2.1 27 x = M.1 27 x) → vt (3 * lv + a) + 1 - g < k → PW X l mX4_setPrices 2 (fun v M' => v = none ∧ FC [27] [] M M' ∧ (∀ e, e < 4 → M'.1 27 (4 * lv + e) = nI (pvl (prq vt a s t lv e))) ∧ ∀ x, (x < 4 * lv ∨ 4 * lv + 4 ≤ x) → M'.1 27 x = M.1 27 x) 31 [.ref 25, .int (nI lv), .int (nI a), .int (nI s), .int (nI (vt (3 * lv + s))), .int (nI (vt (3 * lv + a))), .int (nI (vt (3 * lv + t))), .int (nI g), .null, .null] [] G0 M2 := by
    intro k
    induction k with
    | zero => intro g M2 hg hF hno hp ho hk; exact absurd hk (Nat.not_lt_zero _)
    | succ k ih =>
      intro g M2 hg hF hno hp ho hk
      refine PW.igt rfl trivial (fun h35 => ?_) (fun h35 => ?_)
      · skip
        rw [nI_ltI (by omega) (by omega)] at h35
        have e9 : g = vt (3 * lv + a) + 1 := by omega
        refine PW.vret rfl rfl trivial ?_
        exact ⟨rfl, hF, fun e he => by rw [hp e he, e9]; rfl, ho⟩
      · skip
        rw [nI_ltI (by omega) (by omega)] at h35
        refine PW.igt rfl trivial (fun h43 => ?_) (fun h43 => ?_)
        · rw [show (999 : Int32) = nI 999 from rfl, nI_ltI (by omega) (by omega)] at h43
          omega
        · skip
          refine PW.funS rfl trivial sX4_32 rfl (by decide) rfl (show PF X l mX7_leaderOf 0 [.int (nI (vt (3 * lv + s)) + nI g), .int (nI (vt (3 * lv + a)) - nI g), .int (nI (vt (3 * lv + t)))] G0 M2 (.int (mos (vt (3 * lv + s) + g) (vt (3 * lv + a) - g) (vt (3 * lv + t)))) from by rw [nI_add, pk_sub (by omega)]; exact c_lead _ _ _ (by omega) (by omega) (by omega)) ?_
          obtain ⟨cwv, ecw⟩ : ∃ x, x = cw vt a s t lv g := ⟨_, rfl⟩
          have hc3 : cwv ≤ 3 := by rw [ecw]; exact whoN_le _ _ _
          rw [show mos (vt (3 * lv + s) + g) (vt (3 * lv + a) - g) (vt (3 * lv + t)) = (if cwv = 3 then -9 else nI cwv) from by rw [ecw]; exact mos_who _ _ _]
          have hpm := fun e => prq_s (vt := vt) (a := a) (s := s) (t := t) (l := lv) (e := e) (g := g) (by omega)
          have hold : M2.1 27 (4 * lv + cwv) = nI (pvl (fnd (fun k => decide (cw vt a s t lv k = cwv)) g)) := hp cwv (by omega)
          have hpl : pvl (fnd (fun k => decide (cw vt a s t lv k = cwv)) g) ≤ FAR := pvl_le (fun k q => by have := (fnd_some.mp q).1; omega)
          refine PW.ine rfl trivial (fun h70 => ?_) (fun h70 => ?_)
          · skip
            have h3 : cwv ≠ 3 := fun q => h70 (if_pos q)
            rw [if_neg h3]
            have ei : nI lv * 4 + nI cwv = nI (4 * lv + cwv) := by rw [show (4 : Int32) = nI 4 from rfl, pk_mul, nI_add, Nat.mul_comm]
            have hwz : nI cwv = (0 : Int32) ↔ cwv = 0 := by rw [show (0 : Int32) = nI 0 from rfl, nI_eq (by omega) (by omega)]
            refine PW.mmin rfl ⟨trivial, (by rw [ei]; exact vp_in_nI (by omega) (by decide))⟩ sX4_60 (by decide) rfl ?_
            rw [ei, nI_clamp (by omega), hold]
            obtain ⟨nv, env⟩ : ∃ nv, nv = (if g < pvl (fnd (fun k => decide (cw vt a s t lv k = cwv)) g) then g else pvl (fnd (fun k => decide (cw vt a s t lv k = cwv)) g)) := ⟨_, rfl⟩
            rw [show (if nI g < nI (pvl (fnd (fun k => decide (cw vt a s t lv k = cwv)) g)) then nI g else nI (pvl (fnd (fun k => decide (cw vt a s t lv k = cwv)) g))) = nI nv from by
              rw [env]
              by_cases q : g < pvl (fnd (fun k => decide (cw vt a s t lv k = cwv)) g)
              · rw [if_pos q, if_pos ((nI_ltI (by omega) (by omega)).mpr q)]
              · rw [if_neg q, if_neg (fun z => q ((nI_ltI (by omega) (by omega)).mp z))]]
            have hp3 : ∀ e, e < 4 → ((va_up M2.1 27 (upd (M2.1 27) (4 * lv + cwv) (nI nv)), M2.2) : Mem).1 27 (4 * lv + e) = nI (pvl (fnd (fun k => decide (cw vt a s t lv k = e)) (g + 1))) := fun e he => by
              rw [hpm e, ← ecw]
              by_cases q : e = cwv
              · subst q; rw [up_s, if_pos rfl, env]
              · rw [if_neg q]; exact (up_n (by omega)).trans (hp e he)
            have ho3 : ∀ x, (x < 4 * lv ∨ 4 * lv + 4 ≤ x) → ((va_up M2.1 27 (upd (M2.1 27) (4 * lv + cwv) (nI nv)), M2.2) : Mem).1 27 x = M.1 27 x := fun x hx => (up_n (by omega)).trans (ho x hx)
            refine PW.zne rfl ⟨trivial, vp_in_nI (by omega) (by decide)⟩ (fun h103 => ?_) (fun h103 => ?_)
            · skip
              rw [hwz] at h103
              rw [nI_clamp (by omega)]
              refine PW.goto rfl trivial ?_
              rw [nI_1]
              refine PW.nl [8, 9] ?_
              refine ih (g + 1) _ (by omega) hF.pi (fun k hk => ?_) hp3 ho3 (by omega)
              by_cases q : k = g
              · subst q; rw [← ecw]; exact h103
              · exact hno k (by omega)
            · skip
              rw [hwz] at h103
              rw [nI_clamp (by omega)]
              refine PW.vret rfl rfl trivial ?_
              refine ⟨rfl, hF.pi, fun e he => ?_, ho3⟩
              rw [hp3 e he]
              have hz0 : cw vt a s t lv g = 0 := by rw [← ecw]; exact h103
              congr 2
              unfold prq
              by_cases q : e = 0
              · subst q
                have hf : fnd (fun k => decide (cw vt a s t lv k = 0)) (g + 1) = some g := fnd_some.mpr ⟨by omega, by simpa using hz0, fun d hd => by simpa using hno d hd⟩
                rw [fnd_at hf (show g + 1 ≤ vt (3 * lv + a) + 1 by omega), hf]
              · exact (fnd_more (n := g + 1) (m := vt (3 * lv + a) + 1) (by omega) (fun k h1 h2 => by
                  have := cw_up hz0 (show g ≤ k by omega)
                  rw [this]; simp; omega)).symm
          · skip
            have h3 : cwv = 3 := by
              by_cases q : cwv = 3
              · exact q
              · rw [if_neg q] at h70
                have e2 := congrArg Int32.toInt h70
                rw [nI_t (by omega)] at e2
                have e3 : (-9 : Int32).toInt = -9 := by decide
                omega
            have ei : nI lv * 4 + 3 = nI (4 * lv + cwv) := by rw [show (4 : Int32) = nI 4 from rfl, show (3 : Int32) = nI 3 from rfl, pk_mul, nI_add, h3, Nat.mul_comm]
            have hwz : (if cwv = 3 then -9 else nI cwv) = (0 : Int32) ↔ cwv = 0 := by rw [if_pos h3]; constructor <;> intro q <;> first | omega | exact absurd q (by decide)
            refine PW.goto rfl trivial ?_
            refine PW.mmin rfl ⟨trivial, (by rw [ei]; exact vp_in_nI (by omega) (by decide))⟩ sX4_60 (by decide) rfl ?_
            rw [ei, nI_clamp (by omega), hold]
            obtain ⟨nv, env⟩ : ∃ nv, nv = (if g < pvl (fnd (fun k => decide (cw vt a s t lv k = cwv)) g) then g else pvl (fnd (fun k => decide (cw vt a s t lv k = cwv)) g)) := ⟨_, rfl⟩
            rw [show (if nI g < nI (pvl (fnd (fun k => decide (cw vt a s t lv k = cwv)) g)) then nI g else nI (pvl (fnd (fun k => decide (cw vt a s t lv k = cwv)) g))) = nI nv from by
              rw [env]
              by_cases q : g < pvl (fnd (fun k => decide (cw vt a s t lv k = cwv)) g)
              · rw [if_pos q, if_pos ((nI_ltI (by omega) (by omega)).mpr q)]
              · rw [if_neg q, if_neg (fun z => q ((nI_ltI (by omega) (by omega)).mp z))]]
            have hp3 : ∀ e, e < 4 → ((va_up M2.1 27 (upd (M2.1 27) (4 * lv + cwv) (nI nv)), M2.2) : Mem).1 27 (4 * lv + e) = nI (pvl (fnd (fun k => decide (cw vt a s t lv k = e)) (g + 1))) := fun e he => by
              rw [hpm e, ← ecw]
              by_cases q : e = cwv
              · subst q; rw [up_s, if_pos rfl, env]
              · rw [if_neg q]; exact (up_n (by omega)).trans (hp e he)
            have ho3 : ∀ x, (x < 4 * lv ∨ 4 * lv + 4 ≤ x) → ((va_up M2.1 27 (upd (M2.1 27) (4 * lv + cwv) (nI nv)), M2.2) : Mem).1 27 x = M.1 27 x := fun x hx => (up_n (by omega)).trans (ho x hx)
            refine PW.zne rfl ⟨trivial, vp_in_nI (by omega) (by decide)⟩ (fun h103 => ?_) (fun h103 => ?_)
            · skip
              rw [hwz] at h103
              rw [nI_clamp (by omega)]
              refine PW.goto rfl trivial ?_
              rw [nI_1]
              refine PW.nl [8, 9] ?_
              refine ih (g + 1) _ (by omega) hF.pi (fun k hk => ?_) hp3 ho3 (by omega)
              by_cases q : k = g
              · subst q; rw [← ecw]; exact h103
              · exact hno k (by omega)
            · skip
              rw [hwz] at h103
              rw [nI_clamp (by omega)]
              refine PW.vret rfl rfl trivial ?_
              refine ⟨rfl, hF.pi, fun e he => ?_, ho3⟩
              rw [hp3 e he]
              have hz0 : cw vt a s t lv g = 0 := by rw [← ecw]; exact h103
              congr 2
              unfold prq
              by_cases q : e = 0
              · subst q
                have hf : fnd (fun k => decide (cw vt a s t lv k = 0)) (g + 1) = some g := fnd_some.mpr ⟨by omega, by simpa using hz0, fun d hd => by simpa using hno d hd⟩
                rw [fnd_at hf (show g + 1 ≤ vt (3 * lv + a) + 1 by omega), hf]
              · exact (fnd_more (n := g + 1) (m := vt (3 * lv + a) + 1) (by omega) (fun k h1 h2 => by
                  have := cw_up hz0 (show g ≤ k by omega)
                  rw [this]; simp; omega)).symm
  refine PW.funV rfl trivial sX4_28 rfl rfl (by decide) rfl (c_votes hv hm lv s hl hs) ?_
  refine PW.funV rfl trivial sX4_28 rfl rfl (by decide) rfl (c_votes hv hm lv a hl ha) ?_
  refine PW.funV rfl trivial sX4_28 rfl rfl (by decide) rfl (show PF X l mX4_votesOf 1 [.ref 25, .int (nI lv), .int ((3 : Int32) - nI a - nI s)] G0 M (.int (nI (vt (3 * lv + t)))) from by rw [show (3 : Int32) = nI 3 from rfl, pk_sub (by omega), pk_sub (by omega), ← ht]; exact c_votes hv hm lv t hl ht3) ?_
  refine PW.to 31 rfl trivial ?_
  exact loop31 (vt (3 * lv + a) + 2) 0 M (by omega) FC.rf (fun k hk => absurd hk (Nat.not_lt_zero k)) (fun e he => by rw [h0 e he]; rfl) (fun x _ => rfl) (by omega)
end C8
