-- made by wip/whole/mk_m8.py
section M8
variable {X : Cx} {l : Launch} {M : Mem}
theorem p_heads {w h : Nat} {mp dr hd : Nat → Nat} {wy : Nat} {vt : Nat → Nat} (F : Sf w h mp dr hd wy vt) (S : SM w h mp dr hd wy vt M) (lv n : Int32) : PC X l mX8_heads 2 [.ref 29, .int lv, .int n] G0 M (fun v M' => v = some (.int (if okl 5 lv = true then (if okl 999 n = true then nI (hd (tn lv)) else -2) else -1)) ∧ (SM w h mp dr (if (okl 5 lv && okl 999 n) = true then set1 hd (tn lv) (tn n) else hd) wy vt M' ∧ FM M M')) := by
  refine PC.ofW okX8_heads ?_
  have hn := F.1.n
  have S0 := (S.fj (th0 M (A := []))).1
  refine PW.funS rfl trivial sX8_103 rfl (by decide) rfl (m_noLand _) ?_
  refine PW.zeq rfl trivial (fun h9 => ?_) (fun h9 => ?_)
  · skip
    rw [bn_eq] at h9
    change okl 5 lv = true at h9
    obtain ⟨j, hj, rfl⟩ := okl_x (m := 5) h9
    refine PW.funS rfl trivial sX8_81 rfl (by decide) rfl (m_in _ _ _) ?_
    refine PW.zne rfl trivial (fun h23 => ?_) (fun h23 => ?_)
    · skip
      rw [show decide ((0 : Int64) ≤ n.toInt64 ∧ n.toInt64 ≤ (999 : Int64)) = okl 999 n from in_l n 999, bo_ne] at h23
      obtain ⟨i, hi, rfl⟩ := okl_x (m := 999) h23
      refine PW.iret rfl rfl ⟨⟨trivial, vp_in_nI (by omega) (by decide)⟩, vp_in_nI (by omega) (by decide)⟩ ?_
      refine ⟨by rw [if_t h9, if_t h23, tn_nI (by omega), nI_clamp (by omega)]; exact congrArg (fun z => some (Value.int z)) (S0.2.1.2 j (by omega)), ?_⟩
      rw [if_t (by rw [h9, h23]; rfl), tn_nI (by omega), tn_nI (by omega), nI_clamp (by omega)]
      exact ⟨sm_hd S0 j i, (th0 M (A := [])).fm.put (by decide)⟩
    · skip
      rw [show decide ((0 : Int64) ≤ n.toInt64 ∧ n.toInt64 ≤ (999 : Int64)) = okl 999 n from in_l n 999, bo_eq] at h23
      refine PW.iret rfl rfl trivial ?_
      exact ⟨by rw [if_t h9, if_f h23], by rw [if_f (by rw [h23]; exact Bool.and_false _)]; exact S.fj (th0 M (A := []))⟩
  · skip
    rw [bn_ne] at h9
    change okl 5 lv = false at h9
    refine PW.iret rfl rfl trivial ?_
    exact ⟨by rw [if_f h9], by rw [if_f (by rw [h9]; rfl)]; exact S.fj (th0 M (A := []))⟩
theorem p_way {w h : Nat} {mp dr hd : Nat → Nat} {wy : Nat} {vt : Nat → Nat} (F : Sf w h mp dr hd wy vt) (S : SM w h mp dr hd wy vt M) (x : Int32) : PC X l mX8_way 2 [.ref 29, .int x] G0 M (fun v M' => v = some (.int (if okl 2 x = true then nI wy else -2)) ∧ (SM w h mp dr hd (if okl 2 x = true then tn x else wy) vt M' ∧ FM M M')) := by
  refine PC.ofW okX8_way ?_
  have hn := F.1.n
  have S0 := (S.fj (th0 M (A := []))).1
  refine PW.funS rfl trivial sX8_81 rfl (by decide) rfl (m_in _ _ _) ?_
  refine PW.zne rfl trivial (fun h14 => ?_) (fun h14 => ?_)
  · skip
    rw [show decide ((0 : Int64) ≤ x.toInt64 ∧ x.toInt64 ≤ (2 : Int64)) = okl 2 x from in_l x 2, bo_ne] at h14
    obtain ⟨i, hi, rfl⟩ := okl_x (m := 2) h14
    refine PW.iret rfl rfl trivial ?_
    refine ⟨by rw [if_t h14]; exact congrArg (fun z => some (Value.int z)) S0.2.1.1, ?_⟩
    rw [if_t h14, tn_nI (by omega)]
    exact ⟨sm_wy S0 i, (th0 M (A := [])).fm.put (by decide)⟩
  · skip
    rw [show decide ((0 : Int64) ≤ x.toInt64 ∧ x.toInt64 ≤ (2 : Int64)) = okl 2 x from in_l x 2, bo_eq] at h14
    refine PW.iret rfl rfl trivial ?_
    exact ⟨by rw [if_f h14], by rw [if_f h14]; exact S.fj (th0 M (A := []))⟩
theorem p_votes {w h : Nat} {mp dr hd : Nat → Nat} {wy : Nat} {vt : Nat → Nat} (F : Sf w h mp dr hd wy vt) (S : SM w h mp dr hd wy vt M) (lv sd n : Int32) : PC X l mX8_votes 2 [.ref 29, .int lv, .int sd, .int n] G0 M (fun v M' => v = some (.int (if (okl 5 lv && okl 2 sd) = true then (if okl 999 n = true then nI (vt (3 * tn lv + tn sd)) else -2) else -1)) ∧ (SM w h mp dr hd wy (if (okl 5 lv && okl 2 sd && okl 999 n) = true then set1 vt (3 * tn lv + tn sd) (tn n) else vt) M' ∧ FM M M')) := by
  refine PC.ofW okX8_votes ?_
  have hn := F.1.n
  have S0 := (S.fj (th0 M (A := []))).1
  refine PW.funS rfl trivial sX8_103 rfl (by decide) rfl (m_noLand _) ?_
  refine PW.zne rfl trivial (fun h9 => ?_) (fun h9 => ?_)
  · skip
    rw [bn_ne] at h9
    change okl 5 lv = false at h9
    refine PW.iret rfl rfl trivial ?_
    first | exact ⟨by rw [if_f (by rw [h9]; rfl)], by rw [if_f (by rw [h9]; rfl)]; exact S.fj (th0 M (A := []))⟩ | exact ⟨by rw [if_f (by rw [h16]; exact Bool.and_false _)], by rw [if_f (by rw [h16, Bool.and_false]; rfl)]; exact S.fj (th0 M (A := []))⟩
  · skip
    rw [bn_eq] at h9
    change okl 5 lv = true at h9
    obtain ⟨j, hj, rfl⟩ := okl_x (m := 5) h9
    refine PW.funS rfl trivial sX8_181 rfl (by decide) rfl (m_noSide _) ?_
    refine PW.zeq rfl trivial (fun h16 => ?_) (fun h16 => ?_)
    · skip
      rw [bn_eq] at h16
      change okl 2 sd = true at h16
      obtain ⟨i, hi, rfl⟩ := okl_x (m := 2) h16
      refine PW.funS rfl trivial sX8_81 rfl (by decide) rfl (m_in _ _ _) ?_
      refine PW.zne rfl trivial (fun h30 => ?_) (fun h30 => ?_)
      · skip
        rw [show decide ((0 : Int64) ≤ n.toInt64 ∧ n.toInt64 ≤ (999 : Int64)) = okl 999 n from in_l n 999, bo_ne] at h30
        obtain ⟨g, hg, rfl⟩ := okl_x (m := 999) h30
        refine PW.iret rfl rfl ⟨⟨trivial, (by rw [show (3 : Int32) = nI 3 from rfl, pk_mul, nI_add]; exact vp_in_nI (by omega) (by decide))⟩, (by rw [show (3 : Int32) = nI 3 from rfl, pk_mul, nI_add]; exact vp_in_nI (by omega) (by decide))⟩ ?_
        have e1 : (3 : Int32) * nI j + nI i = nI (3 * j + i) := by rw [show (3 : Int32) = nI 3 from rfl, pk_mul, nI_add]
        rw [e1, nI_clamp (by omega)]
        refine ⟨by rw [if_t (by rw [h9, h16]; rfl), if_t h30, tn_nI (by omega), tn_nI (by omega)]; exact congrArg (fun z => some (Value.int z)) (S0.2.2 (3 * j + i) (by omega)), ?_⟩
        rw [if_t (by rw [h9, h16, h30]; rfl), tn_nI (by omega), tn_nI (by omega), tn_nI (by omega)]
        exact ⟨sm_vt S0 (3 * j + i) g, (th0 M (A := [])).fm.put (by decide)⟩
      · skip
        rw [show decide ((0 : Int64) ≤ n.toInt64 ∧ n.toInt64 ≤ (999 : Int64)) = okl 999 n from in_l n 999, bo_eq] at h30
        refine PW.iret rfl rfl trivial ?_
        exact ⟨by rw [if_t (by rw [h9, h16]; rfl), if_f h30], by rw [if_f (by rw [h30]; exact Bool.and_false _)]; exact S.fj (th0 M (A := []))⟩
    · skip
      rw [bn_ne] at h16
      change okl 2 sd = false at h16
      refine PW.iret rfl rfl trivial ?_
      first | exact ⟨by rw [if_f (by rw [h9]; rfl)], by rw [if_f (by rw [h9]; rfl)]; exact S.fj (th0 M (A := []))⟩ | exact ⟨by rw [if_f (by rw [h16]; exact Bool.and_false _)], by rw [if_f (by rw [h16, Bool.and_false]; rfl)]; exact S.fj (th0 M (A := []))⟩
theorem m_put (on : Int32) (c lv : Nat) (hc : c < 36) : PC X l mX8_put 0 [.ref 29, .int on, .int (nI c), .int (nI lv)] G0 M (fun v M' => v = none ∧ M' = (if on = 0 then (va_up M.1 30 (upd (M.1 30) c (nI lv)), M.2) else (va_up M.1 31 (upd (M.1 31) c (nI lv)), M.2))) := by
  refine PC.ofW okX8_put ?_
  refine PW.zeq rfl trivial (fun h1 => ?_) (fun h1 => ?_)
  · skip
    refine PW.vret rfl rfl ⟨trivial, vp_in_nI hc (by decide)⟩ ?_
    exact ⟨rfl, by rw [nI_clamp (by omega)]; first | rw [if_pos h1] | rw [if_neg h1]⟩
  · skip
    refine PW.goto rfl ⟨trivial, vp_in_nI hc (by decide)⟩ ?_
    refine PW.vret rfl rfl trivial ?_
    exact ⟨rfl, by rw [nI_clamp (by omega)]; first | rw [if_pos h1] | rw [if_neg h1]⟩
theorem p_give {w h : Nat} {mp dr hd : Nat → Nat} {wy : Nat} {vt : Nat → Nat} (F : Sf w h mp dr hd wy vt) (S : SM w h mp dr hd wy vt M) (on c lv : Int32) : PC X l mX8_give 2 [.ref 29, .int on, .int c, .int lv] G0 M (fun v M' => v = some (.int (if (okc (w * h) c && okl 6 lv) = true then nI (sl on mp dr (tn c)) else -1)) ∧ (SM w h (if (okc (w * h) c && okl 6 lv) = true ∧ on = 0 then set1 mp (tn c) (tn lv) else mp) (if (okc (w * h) c && okl 6 lv) = true ∧ ¬ on = 0 then set1 dr (tn c) (tn lv) else dr) hd wy vt M' ∧ FM M M')) := by
  refine PC.ofW okX8_give ?_
  have hn := F.1.n
  have S0 := (S.fj (th0 M (A := []))).1
  refine PW.funV rfl trivial sX8_91 rfl rfl (by decide) rfl (m_noCell _ F.1 S0.1) ?_
  refine PW.zne rfl trivial (fun h10 => ?_) (fun h10 => ?_)
  · skip
    rw [bn_ne] at h10
    change okc (w * h) c = false at h10
    refine PW.iret rfl rfl trivial ?_
    first | exact ⟨by rw [if_f (by rw [h10]; rfl)], by rw [if_neg (fun z => by rw [h10] at z; exact absurd z.1 (by simp)), if_neg (fun z => by rw [h10] at z; exact absurd z.1 (by simp))]; exact S.fj (th0 M (A := []))⟩ | exact ⟨by rw [if_f (by rw [h22]; exact Bool.and_false _)], by rw [if_neg (fun z => by rw [h22] at z; exact absurd z.1 (by simp)), if_neg (fun z => by rw [h22] at z; exact absurd z.1 (by simp))]; exact S.fj (th0 M (A := []))⟩
  · skip
    rw [bn_eq] at h10
    change okc (w * h) c = true at h10
    obtain ⟨k, hk, rfl⟩ := okc_x h10
    refine PW.funS rfl trivial sX8_81 rfl (by decide) rfl (m_in _ _ _) ?_
    refine PW.zne rfl trivial (fun h22 => ?_) (fun h22 => ?_)
    · skip
      rw [show decide ((0 : Int64) ≤ lv.toInt64 ∧ lv.toInt64 ≤ (6 : Int64)) = okl 6 lv from in_l lv 6, bo_ne] at h22
      obtain ⟨j, hj, rfl⟩ := okl_x (m := 6) h22
      refine PW.funV rfl trivial sX8_95 rfl rfl (by decide) rfl (m_cellOf on k (by omega) S0.1) ?_
      refine PW.callV rfl trivial sX8_99 rfl rfl (by decide) rfl (m_put on k j (by omega)) (fun v39 M39 hq39 => ?_)
      obtain ⟨rfl, rfl⟩ := hq39
      refine PW.iret rfl rfl trivial ?_
      refine ⟨by rw [if_t (by rw [h10, h22]; rfl), tn_nI (by omega)], ?_⟩
      have hb : (okc (w * h) (nI k) && okl 6 (nI j)) = true := by rw [h10, h22]; rfl
      rw [tn_nI (show k < 2 ^ 31 by omega), tn_nI (show j < 2 ^ 31 by omega)]
      by_cases q : on = 0
      · rw [if_pos ⟨hb, q⟩, if_neg (fun z => z.2 q), if_pos q]; exact ⟨sm_mp S0 k j, (th0 M (A := [])).fm.put (by decide)⟩
      · rw [if_neg (fun z => q z.2), if_pos ⟨hb, q⟩, if_neg q]; exact ⟨sm_dr S0 k j, (th0 M (A := [])).fm.put (by decide)⟩
    · skip
      rw [show decide ((0 : Int64) ≤ lv.toInt64 ∧ lv.toInt64 ≤ (6 : Int64)) = okl 6 lv from in_l lv 6, bo_eq] at h22
      refine PW.iret rfl rfl trivial ?_
      first | exact ⟨by rw [if_f (by rw [h10]; rfl)], by rw [if_neg (fun z => by rw [h10] at z; exact absurd z.1 (by simp)), if_neg (fun z => by rw [h10] at z; exact absurd z.1 (by simp))]; exact S.fj (th0 M (A := []))⟩ | exact ⟨by rw [if_f (by rw [h22]; exact Bool.and_false _)], by rw [if_neg (fun z => by rw [h22] at z; exact absurd z.1 (by simp)), if_neg (fun z => by rw [h22] at z; exact absurd z.1 (by simp))]; exact S.fj (th0 M (A := []))⟩
theorem p_hand {w h : Nat} {mp dr hd : Nat → Nat} {wy : Nat} {vt : Nat → Nat} (F : Sf w h mp dr hd wy vt) (S : SM w h mp dr hd wy vt M) (c lv : Int32) : PC X l mX8_hand 4 [.ref 29, .int c, .int lv] G0 M (fun v M' => v = some (.int (if (okc (w * h) c && okl 5 lv) = true then (if mayh w (w * h) dr (tn c) (tn lv) = true then nI (dr (tn c)) else -3) else -1)) ∧ (SM w h mp (if (okc (w * h) c && okl 5 lv && mayh w (w * h) dr (tn c) (tn lv)) = true then set1 dr (tn c) (tn lv) else dr) hd wy vt M' ∧ FM M M')) := by
  refine PC.ofW okX8_hand ?_
  have hn := F.1.n
  have S0 := (S.fj (th0 M (A := []))).1
  refine PW.funV rfl trivial sX8_91 rfl rfl (by decide) rfl (m_noCell _ F.1 S0.1) ?_
  refine PW.zne rfl trivial (fun h10 => ?_) (fun h10 => ?_)
  · skip
    rw [bn_ne] at h10
    change okc (w * h) c = false at h10
    refine PW.iret rfl rfl trivial ?_
    first | exact ⟨by rw [if_f (by rw [h17]; exact Bool.and_false _)], by rw [if_f (by rw [h17, Bool.and_false]; rfl)]; exact S.fj (th0 M (A := []))⟩ | exact ⟨by rw [if_f (by rw [h10]; rfl)], by rw [if_f (by rw [h10]; rfl)]; exact S.fj (th0 M (A := []))⟩
  · skip
    rw [bn_eq] at h10
    change okc (w * h) c = true at h10
    obtain ⟨k, hk, rfl⟩ := okc_x h10
    refine PW.funS rfl trivial sX8_103 rfl (by decide) rfl (m_noLand _) ?_
    refine PW.zeq rfl trivial (fun h17 => ?_) (fun h17 => ?_)
    · skip
      rw [bn_eq] at h17
      change okl 5 lv = true at h17
      obtain ⟨j, hj, rfl⟩ := okl_x (m := 5) h17
      refine PW.callV rfl trivial sX8_147 rfl rfl (by decide) rfl (m_may F.1 S0.1 k j hk (by omega)) (fun v25 M25 hq25 => ?_)
      obtain ⟨rfl, hF1⟩ := hq25
      obtain ⟨S1, FM1⟩ := S.fj ((th0 M (A := [34, 35])).tr (hF1.fj (by decide)))
      refine PW.zne rfl trivial (fun h28 => ?_) (fun h28 => ?_)
      · skip
        rw [bo_ne] at h28
        refine PW.iret rfl rfl ⟨⟨trivial, vp_in_nI (by omega) (by decide)⟩, vp_in_nI (by omega) (by decide)⟩ ?_
        rw [nI_clamp (by omega)]
        refine ⟨by rw [if_t (by rw [h10, h17]; rfl), tn_nI (show k < 2 ^ 31 by omega), tn_nI (show j < 2 ^ 31 by omega), if_t h28, S1.1.2.2.2 k (by omega)], ?_⟩
        rw [tn_nI (show k < 2 ^ 31 by omega), tn_nI (show j < 2 ^ 31 by omega), if_t (by rw [h10, h17, h28]; rfl)]
        exact ⟨sm_dr S1 k j, FM1.put (by decide)⟩
      · skip
        rw [bo_eq] at h28
        refine PW.iret rfl rfl trivial ?_
        exact ⟨by rw [if_t (by rw [h10, h17]; rfl), tn_nI (by omega), tn_nI (by omega), if_f h28], by rw [tn_nI (show k < 2 ^ 31 by omega), tn_nI (show j < 2 ^ 31 by omega), if_f (by rw [h28]; exact Bool.and_false _)]; exact ⟨S1, FM1⟩⟩
    · skip
      rw [bn_ne] at h17
      change okl 5 lv = false at h17
      refine PW.iret rfl rfl trivial ?_
      first | exact ⟨by rw [if_f (by rw [h17]; exact Bool.and_false _)], by rw [if_f (by rw [h17, Bool.and_false]; rfl)]; exact S.fj (th0 M (A := []))⟩ | exact ⟨by rw [if_f (by rw [h10]; rfl)], by rw [if_f (by rw [h10]; rfl)]; exact S.fj (th0 M (A := []))⟩
end M8
