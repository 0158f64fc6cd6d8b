-- made by wip/whole/mk_m10.py
section M10
variable {X : Cx} {l : Launch} {M : Mem}
theorem p_count {w h : Nat} {mp dr hd : Nat → Nat} {wy : Nat} {vt : Nat → Nat} (F : Sf w h mp dr hd wy vt) (S : SM w h mp dr hd wy vt M) (x : Int32) : PC X l mX8_count 3 [.ref 29, .int x] G0 M (fun v M' => v = some (.int (if x.toInt = 0 then nI (w * h) else if x.toInt = 1 then nI (w * h - many mp 6 (w * h)) else if x.toInt = 2 then nI (w * h - many dr 6 (w * h)) else if x.toInt = 3 then nI (fb_sm hd 6) else if x.toInt = 4 then nI (fb_ct (fun l => decide (0 < many mp l (w * h))) 6) else -2)) ∧ (SM w h mp dr hd wy vt M' ∧ FM M M')) := by
  refine PC.ofW okX8_count ?_
  have hn := F.1.n
  have S0 := (S.fj (th0 M (A := []))).1
  have loop12 : ∀ k : Nat, ∀ (i : Nat), i ≤ 6 → 6 - i < k → PW X l mX8_count 3 (fun v M' => v = some (.int (if x.toInt = 0 then nI (w * h) else if x.toInt = 1 then nI (w * h - many mp 6 (w * h)) else if x.toInt = 2 then nI (w * h - many dr 6 (w * h)) else if x.toInt = 3 then nI (fb_sm hd 6) else if x.toInt = 4 then nI (fb_ct (fun l => decide (0 < many mp l (w * h))) 6) else -2)) ∧ (SM w h mp dr hd wy vt M' ∧ FM M M')) 12 [.ref 29, .int x, .int (nI (fb_sm hd i)), .int (nI (fb_ct (fun l => decide (0 < many mp l (w * h))) i)), .int (nI i)] [] G0 (va_up M.1 29 (upd (M.1 29) 0 0), M.2) := by
    intro k
    induction k with
    | zero => intro i hi hk; exact absurd hk (Nat.not_lt_zero _)
    | succ k ih =>
      intro i hi hk
      refine PW.ige rfl trivial (fun h16 => ?_) (fun h16 => ?_)
      · skip
        rw [i6 (by omega)] at h16
        have e9 : i = 6 := by omega
        subst e9
        -- tableswitch at 53
        by_cases q0 : x.toInt = 0
        · refine PW.tabIn rfl trivial 88 (off := 35) (by rw [q0]; decide) (by rw [q0]; decide) (by rw [q0]; rfl) (by decide) ?_
          refine PW.iret rfl rfl trivial ?_
          exact ⟨by rw [if_pos q0, S0.1.wh], S.fj (th0 M (A := []))⟩
        by_cases q1 : x.toInt = 1
        · refine PW.tabIn rfl trivial 98 (off := 45) (by rw [q1]; decide) (by rw [q1]; decide) (by rw [q1]; rfl) (by decide) ?_
          refine PW.funV rfl trivial sX8_106 rfl rfl (by decide) rfl (m_manyOf 0 6 (by decide) F.1 S0.1) ?_
          rw [S0.1.wh, show sl 0 mp dr = mp from rfl]
          refine PW.iret rfl rfl trivial ?_
          exact ⟨by rw [if_neg q0, if_pos q1, pk_sub (many_le _ _ _)], S.fj (th0 M (A := []))⟩
        by_cases q2 : x.toInt = 2
        · refine PW.tabIn rfl trivial 116 (off := 63) (by rw [q2]; decide) (by rw [q2]; decide) (by rw [q2]; rfl) (by decide) ?_
          refine PW.funV rfl trivial sX8_106 rfl rfl (by decide) rfl (m_manyOf 1 6 (by decide) F.1 S0.1) ?_
          rw [S0.1.wh, show sl 1 mp dr = dr from rfl]
          refine PW.iret rfl rfl trivial ?_
          exact ⟨by rw [if_neg q0, if_neg q1, if_pos q2, pk_sub (many_le _ _ _)], S.fj (th0 M (A := []))⟩
        by_cases q3 : x.toInt = 3
        · refine PW.tabIn rfl trivial 134 (off := 81) (by rw [q3]; decide) (by rw [q3]; decide) (by rw [q3]; rfl) (by decide) ?_
          refine PW.iret rfl rfl trivial ?_
          exact ⟨by rw [if_neg q0, if_neg q1, if_neg q2, if_pos q3], S.fj (th0 M (A := []))⟩
        by_cases q4 : x.toInt = 4
        · refine PW.tabIn rfl trivial 136 (off := 83) (by rw [q4]; decide) (by rw [q4]; decide) (by rw [q4]; rfl) (by decide) ?_
          refine PW.iret rfl rfl trivial ?_
          exact ⟨by rw [if_neg q0, if_neg q1, if_neg q2, if_neg q3, if_pos q4], S.fj (th0 M (A := []))⟩
        refine PW.tabOut rfl trivial 138 (by omega) (by decide) ?_
        refine PW.iret rfl rfl trivial ?_
        exact ⟨by rw [if_neg q0, if_neg q1, if_neg q2, if_neg q3, if_neg q4], S.fj (th0 M (A := []))⟩
      · skip
        rw [i6 (by omega)] at h16
        have eh := S0.2.1.2 i (by omega)
        refine PW.funV rfl ⟨trivial, vp_in_nI (by omega) (by decide)⟩ sX8_169 rfl rfl (by decide) rfl (m_isThere i (by omega) F.1 S0.1) ?_
        refine PW.zeq rfl trivial (fun h36 => ?_) (fun h36 => ?_)
        · skip
          rw [bo_eq] at h36
          refine PW.goto rfl trivial ?_
          rw [nI_clamp (by omega), eh, nI_add, nI_1, Int32.add_zero]
          refine PW.lc ?_ (ih (i + 1) (by omega) (by omega))
          rw [fb_ct_succ, h36]; rfl
        · skip
          rw [bo_ne] at h36
          refine PW.goto rfl trivial ?_
          refine PW.goto rfl trivial ?_
          rw [nI_clamp (by omega), eh, nI_add, nI_1, nI_1]
          refine PW.lc ?_ (ih (i + 1) (by omega) (by omega))
          rw [fb_ct_succ, h36]; rfl
  refine PW.to 12 rfl trivial ?_
  exact loop12 7 0 (by omega) (by omega)
theorem boxd0 (w c e l : Nat) (f : Nat → Nat) : boxd w c e l f 0 = f := by funext k; simp [boxd]
theorem boxd_in {w c e l t : Nat} {f : Nat → Nat} (h : inbox w c e t = true) : set1 (boxd w c e l f t) t l = boxd w c e l f (t + 1) := by
  funext x
  rw [set1_eq]
  by_cases q : x = t
  · subst q; simp [boxd, h]
  · rw [if_neg q]
    simp only [boxd]
    congr 2
    rw [show decide (x < t + 1) = decide (x < t) from decide_eq_decide.mpr (by omega)]
theorem boxd_no {w c e l t : Nat} {f : Nat → Nat} (h : inbox w c e t = false) : boxd w c e l f t = boxd w c e l f (t + 1) := by
  funext x
  simp only [boxd]
  by_cases q : x = t
  · subst q; simp [h]
  · rw [show decide (x < t + 1) = decide (x < t) from decide_eq_decide.mpr (by omega)]
theorem boxsl {on : Int32} {w k g j t : Nat} {mp dr : Nat → Nat} : sl on (if on = 0 then boxd w k g j mp t else mp) (if on = 0 then dr else boxd w k g j dr t) t = sl on mp dr t := by
  unfold sl
  by_cases q : on = 0
  · simp [q, boxd]
  · simp [q, boxd]
theorem boxno {on : Int32} {w h k g j t : Nat} {mp dr hd : Nat → Nat} {wy : Nat} {vt : Nat → Nat} {M : Mem} (S : SM w h (if on = 0 then boxd w k g j mp t else mp) (if on = 0 then dr else boxd w k g j dr t) hd wy vt M) (hin : inbox w k g t = false) : SM w h (if on = 0 then boxd w k g j mp (t + 1) else mp) (if on = 0 then dr else boxd w k g j dr (t + 1)) hd wy vt M := by
  rw [← boxd_no hin, ← boxd_no hin]; exact S
theorem boxyes {on : Int32} {w h k g j t : Nat} {mp dr hd : Nat → Nat} {wy : Nat} {vt : Nat → Nat} {M : Mem} (S : SM w h (if on = 0 then boxd w k g j mp t else mp) (if on = 0 then dr else boxd w k g j dr t) hd wy vt M) (hin : inbox w k g t = true) : SM w h (if on = 0 then boxd w k g j mp (t + 1) else mp) (if on = 0 then dr else boxd w k g j dr (t + 1)) hd wy vt (if on = 0 then (va_up M.1 30 (upd (M.1 30) t (nI j)), M.2) else (va_up M.1 31 (upd (M.1 31) t (nI j)), M.2)) := by
  by_cases q : on = 0
  · rw [if_pos q, if_pos q] at S
    rw [if_pos q, if_pos q, if_pos q, ← boxd_in hin]
    exact sm_mp S t j
  · rw [if_neg q, if_neg q] at S
    rw [if_neg q, if_neg q, if_neg q, ← boxd_in hin]
    exact sm_dr S t j
theorem boxfm {on : Int32} {M M2 : Mem} {t j : Nat} (h : FM M M2) : FM M (if on = 0 then (va_up M2.1 30 (upd (M2.1 30) t (nI j)), M2.2) else (va_up M2.1 31 (upd (M2.1 31) t (nI j)), M2.2)) := by
  split
  · exact h.put (by decide)
  · exact h.put (by decide)
theorem inb {a b c : Nat} (ha : a < 2 ^ 31 := by omega) (hb : b < 2 ^ 31 := by omega) (hc : c < 2 ^ 31 := by omega) : decide ((nI b).toInt64 ≤ (nI a).toInt64 ∧ (nI a).toInt64 ≤ (nI c).toInt64) = decide (b ≤ a ∧ a ≤ c) := by
  rw [in_i, nI_t ha, nI_t hb, nI_t hc]
  exact decide_eq_decide.mpr (by omega)
theorem p_box {w h : Nat} {mp dr hd : Nat → Nat} {wy : Nat} {vt : Nat → Nat} (F : Sf w h mp dr hd wy vt) (S : SM w h mp dr hd wy vt M) (on c e lv : Int32) : PC X l mX8_box 2 [.ref 29, .int on, .int c, .int e, .int lv] G0 M (fun v M' => v = some (.int (if (okc (w * h) c && okc (w * h) e && okl 6 lv) = true then (if (tn e % w < tn c % w ∨ tn e / w < tn c / w) then -2 else nI (fb_ct (fun x => inbox w (tn c) (tn e) x && !decide (sl on mp dr x = tn lv)) (w * h))) else -1)) ∧ (SM w h (if (okc (w * h) c && okc (w * h) e && okl 6 lv) = true ∧ ¬ (tn e % w < tn c % w ∨ tn e / w < tn c / w) ∧ on = 0 then boxd w (tn c) (tn e) (tn lv) mp (w * h) else mp) (if (okc (w * h) c && okc (w * h) e && okl 6 lv) = true ∧ ¬ (tn e % w < tn c % w ∨ tn e / w < tn c / w) ∧ ¬ on = 0 then boxd w (tn c) (tn e) (tn lv) dr (w * h) else dr) hd wy vt M' ∧ FM M M')) := by
  refine PC.ofW okX8_box ?_
  have hn := F.1.n
  have S0 := (S.fj (th0 M (A := []))).1
  have loop75 : ∀ k75 : Nat, ∀ (t k g j : Nat) (M2 : Mem), k < w * h → g < w * h → j ≤ 6 → t ≤ w * h → SM w h (if on = 0 then boxd w k g j mp t else mp) (if on = 0 then dr else boxd w k g j dr t) hd wy vt M2 → FM M M2 → w * h - t < k75 → PW X l mX8_box 2 (fun v M' => v = some (.int (nI (fb_ct (fun x => inbox w k g x && !decide (sl on mp dr x = j)) (w * h)))) ∧ (SM w h (if on = 0 then boxd w k g j mp (w * h) else mp) (if on = 0 then dr else boxd w k g j dr (w * h)) hd wy vt M' ∧ FM M M')) 75 [.ref 29, .int on, .int (nI k), .int (nI g), .int (nI j), .int (nI (fb_ct (fun x => inbox w k g x && !decide (sl on mp dr x = j)) t)), .int (nI t)] [] G0 M2 := by
    intro k75
    induction k75 with
    | zero => intro t k g j M2 hk hg hj ht S2 hF hkk; exact absurd hkk (Nat.not_lt_zero _)
    | succ k75 ih75 =>
      intro t k g j M2 hk hg hj ht S2 hF hkk
      have hw1 := F.1.1
      have hw2 := F.1.2.1
      have hk2 := Nat.mod_lt k (show 0 < w by omega)
      have hg2 := Nat.mod_lt g (show 0 < w by omega)
      have ht2 := Nat.mod_lt t (show 0 < w by omega)
      have hk3 := Nat.div_le_self k w
      have hg3 := Nat.div_le_self g w
      have ht3 := Nat.div_le_self t w
      have hs6 := sl_le (on := on) F.1 t
      refine PW.ige rfl trivial (fun h86 => ?_) (fun h86 => ?_)
      · skip
        rw [S2.1.wh, nI_leI (by omega) (by omega)] at h86
        have e9 : t = w * h := by omega
        subst e9
        refine PW.iret rfl rfl trivial ?_
        exact ⟨rfl, S2, hF⟩
      · skip
        rw [S2.1.wh, nI_leI (by omega) (by omega)] at h86
        refine PW.funS rfl ⟨⟨⟨trivial, (by rw [S2.1.1]; exact nI_ne0 (by have := F.1.1; omega) (by have := F.1.2.1; omega))⟩, (by rw [S2.1.1]; exact nI_ne0 (by have := F.1.1; omega) (by have := F.1.2.1; omega))⟩, (by rw [S2.1.1]; exact nI_ne0 (by have := F.1.1; omega) (by have := F.1.2.1; omega))⟩ sX8_81 rfl (by decide) rfl (m_in _ _ _) ?_
        refine PW.zeq rfl trivial (fun h114 => ?_) (fun h114 => ?_)
        · skip
          rw [S2.1.1, pk_rem (by omega) (by omega) (by omega), pk_rem (by omega) (by omega) (by omega), pk_rem (by omega) (by omega) (by omega), inb, bo_eq] at h114
          have hin : inbox w k g t = false := by simp [inbox, h114]
          refine PW.goto rfl trivial ?_
          first
          | (rw [nI_1]
             refine PW.lc ?_ (ih75 (t + 1) k g j _ hk hg hj (by omega) (boxno S2 hin) hF (by omega))
             rw [fb_ct_succ, hin]; rfl)
          | (rw [nI_1]
             refine PW.lc ?_ (ih75 (t + 1) k g j _ hk hg hj (by omega) (boxyes S2 hin) (boxfm hF) (by omega))
             rw [fb_ct_succ, hp]
             first | (rw [Int32.add_zero]; rfl) | (rw [nI_1]; rfl))
        · skip
          rw [S2.1.1, pk_rem (by omega) (by omega) (by omega), pk_rem (by omega) (by omega) (by omega), pk_rem (by omega) (by omega) (by omega), inb, bo_ne] at h114
          refine PW.funS rfl ⟨⟨⟨trivial, (by rw [S2.1.1]; exact nI_ne0 (by have := F.1.1; omega) (by have := F.1.2.1; omega))⟩, (by rw [S2.1.1]; exact nI_ne0 (by have := F.1.1; omega) (by have := F.1.2.1; omega))⟩, (by rw [S2.1.1]; exact nI_ne0 (by have := F.1.1; omega) (by have := F.1.2.1; omega))⟩ sX8_81 rfl (by decide) rfl (m_in _ _ _) ?_
          refine PW.zeq rfl trivial (fun h142 => ?_) (fun h142 => ?_)
          · skip
            rw [S2.1.1, pk_div (by omega) (by omega) (by omega), pk_div (by omega) (by omega) (by omega), pk_div (by omega) (by omega) (by omega), inb, bo_eq] at h142
            have hin : inbox w k g t = false := by simp [inbox, h142]
            refine PW.goto rfl trivial ?_
            first
            | (rw [nI_1]
               refine PW.lc ?_ (ih75 (t + 1) k g j _ hk hg hj (by omega) (boxno S2 hin) hF (by omega))
               rw [fb_ct_succ, hin]; rfl)
            | (rw [nI_1]
               refine PW.lc ?_ (ih75 (t + 1) k g j _ hk hg hj (by omega) (boxyes S2 hin) (boxfm hF) (by omega))
               rw [fb_ct_succ, hp]
               first | (rw [Int32.add_zero]; rfl) | (rw [nI_1]; rfl))
          · skip
            rw [S2.1.1, pk_div (by omega) (by omega) (by omega), pk_div (by omega) (by omega) (by omega), pk_div (by omega) (by omega) (by omega), inb, bo_ne] at h142
            have hin : inbox w k g t = true := by simp [inbox, h114, h142]
            refine PW.funV rfl trivial sX8_95 rfl rfl (by decide) rfl (m_cellOf on t (by omega) S2.1) ?_
            rw [show sl on (if on = 0 then boxd w k g j mp t else mp) (if on = 0 then dr else boxd w k g j dr t) t = sl on mp dr t from boxsl]
            refine PW.ine rfl trivial (fun h156 => ?_) (fun h156 => ?_)
            · skip
              rw [nI_eq (by omega) (by omega)] at h156
              have hp : (inbox w k g t && !decide (sl on mp dr t = j)) = true := by simp [hin, h156]
              refine PW.callV rfl trivial sX8_99 rfl rfl (by decide) rfl (m_put on t j (by omega)) (fun v173 M173 hq173 => ?_)
              obtain ⟨rfl, rfl⟩ := hq173
              refine PW.goto rfl trivial ?_
              first
              | (rw [nI_1]
                 refine PW.lc ?_ (ih75 (t + 1) k g j _ hk hg hj (by omega) (boxno S2 hin) hF (by omega))
                 rw [fb_ct_succ, hin]; rfl)
              | (rw [nI_1]
                 refine PW.lc ?_ (ih75 (t + 1) k g j _ hk hg hj (by omega) (boxyes S2 hin) (boxfm hF) (by omega))
                 rw [fb_ct_succ, hp]
                 first | (rw [Int32.add_zero]; rfl) | (rw [nI_1]; rfl))
            · skip
              rw [nI_eq (by omega) (by omega)] at h156
              have hp : (inbox w k g t && !decide (sl on mp dr t = j)) = false := by simp [h156]
              refine PW.goto rfl trivial ?_
              refine PW.callV rfl trivial sX8_99 rfl rfl (by decide) rfl (m_put on t j (by omega)) (fun v173 M173 hq173 => ?_)
              obtain ⟨rfl, rfl⟩ := hq173
              refine PW.goto rfl trivial ?_
              first
              | (rw [nI_1]
                 refine PW.lc ?_ (ih75 (t + 1) k g j _ hk hg hj (by omega) (boxno S2 hin) hF (by omega))
                 rw [fb_ct_succ, hin]; rfl)
              | (rw [nI_1]
                 refine PW.lc ?_ (ih75 (t + 1) k g j _ hk hg hj (by omega) (boxyes S2 hin) (boxfm hF) (by omega))
                 rw [fb_ct_succ, hp]
                 first | (rw [Int32.add_zero]; rfl) | (rw [nI_1]; rfl))
  refine PW.funV rfl trivial sX8_91 rfl rfl (by decide) rfl (m_noCell _ F.1 S0.1) ?_
  refine PW.zne rfl trivial (fun h10 => ?_) (fun h10 => ?_)
  · skip
    rw [bn_ne] at h10
    change okc (w * h) c = false at h10
    refine PW.iret rfl rfl trivial ?_
    first | exact ⟨by rw [if_f (by rw [h10]; rfl)], by rw [if_neg (fun z => by rw [h10] at z; exact absurd z.1 (by simp)), if_neg (fun z => by rw [h10] at z; exact absurd z.1 (by simp))]; exact S.fj (th0 M (A := []))⟩ | exact ⟨by rw [if_f (by rw [h18, Bool.and_false]; rfl)], by rw [if_neg (fun z => by rw [h18, Bool.and_false] at z; exact absurd z.1 (by simp)), if_neg (fun z => by rw [h18, Bool.and_false] at z; exact absurd z.1 (by simp))]; exact S.fj (th0 M (A := []))⟩ | exact ⟨by rw [if_f (by rw [h31]; exact Bool.and_false _)], by rw [if_neg (fun z => by rw [h31] at z; exact absurd z.1 (by simp)), if_neg (fun z => by rw [h31] at z; exact absurd z.1 (by simp))]; exact S.fj (th0 M (A := []))⟩
  · skip
    rw [bn_eq] at h10
    change okc (w * h) c = true at h10
    obtain ⟨k, hk, rfl⟩ := okc_x h10
    refine PW.funV rfl trivial sX8_91 rfl rfl (by decide) rfl (m_noCell _ F.1 S0.1) ?_
    refine PW.zne rfl trivial (fun h18 => ?_) (fun h18 => ?_)
    · skip
      rw [bn_ne] at h18
      change okc (w * h) e = false at h18
      refine PW.iret rfl rfl trivial ?_
      first | exact ⟨by rw [if_f (by rw [h10]; rfl)], by rw [if_neg (fun z => by rw [h10] at z; exact absurd z.1 (by simp)), if_neg (fun z => by rw [h10] at z; exact absurd z.1 (by simp))]; exact S.fj (th0 M (A := []))⟩ | exact ⟨by rw [if_f (by rw [h18, Bool.and_false]; rfl)], by rw [if_neg (fun z => by rw [h18, Bool.and_false] at z; exact absurd z.1 (by simp)), if_neg (fun z => by rw [h18, Bool.and_false] at z; exact absurd z.1 (by simp))]; exact S.fj (th0 M (A := []))⟩ | exact ⟨by rw [if_f (by rw [h31]; exact Bool.and_false _)], by rw [if_neg (fun z => by rw [h31] at z; exact absurd z.1 (by simp)), if_neg (fun z => by rw [h31] at z; exact absurd z.1 (by simp))]; exact S.fj (th0 M (A := []))⟩
    · skip
      rw [bn_eq] at h18
      change okc (w * h) e = true at h18
      obtain ⟨g, hg, rfl⟩ := okc_x h18
      refine PW.funS rfl trivial sX8_81 rfl (by decide) rfl (m_in _ _ _) ?_
      refine PW.zne rfl trivial (fun h31 => ?_) (fun h31 => ?_)
      · skip
        rw [show decide ((0 : Int64) ≤ lv.toInt64 ∧ lv.toInt64 ≤ (6 : Int64)) = okl 6 lv from in_l lv 6, bo_ne] at h31
        obtain ⟨j, hj, rfl⟩ := okl_x (m := 6) h31
        have hw1 := F.1.1
        have hw2 := F.1.2.1
        have hb : (okc (w * h) (nI k) && okc (w * h) (nI g) && okl 6 (nI j)) = true := by rw [h10, h18, h31]; rfl
        have hk2 := Nat.mod_lt k (show 0 < w by omega)
        have hg2 := Nat.mod_lt g (show 0 < w by omega)
        have hk3 := Nat.div_le_self k w
        have hg3 := Nat.div_le_self g w
        refine PW.ilt rfl ⟨⟨trivial, (by rw [S0.1.1]; exact nI_ne0 (by have := F.1.1; omega) (by have := F.1.2.1; omega))⟩, (by rw [S0.1.1]; exact nI_ne0 (by have := F.1.1; omega) (by have := F.1.2.1; omega))⟩ (fun h48 => ?_) (fun h48 => ?_)
        · skip
          rw [S0.1.1, pk_rem (by omega) (by omega) (by omega), pk_rem (by omega) (by omega) (by omega), nI_ltI (by omega) (by omega)] at h48
          have hbad : g % w < k % w ∨ g / w < k / w := Or.inl h48
          refine PW.iret rfl rfl trivial ?_
          exact ⟨by rw [if_t hb, tn_nI (show g < 2 ^ 31 by omega), tn_nI (show k < 2 ^ 31 by omega), if_pos hbad], by rw [tn_nI (show g < 2 ^ 31 by omega), tn_nI (show k < 2 ^ 31 by omega), if_neg (fun z => z.2.1 hbad), if_neg (fun z => z.2.1 hbad)]; exact S.fj (th0 M (A := []))⟩
        · skip
          rw [S0.1.1, pk_rem (by omega) (by omega) (by omega), pk_rem (by omega) (by omega) (by omega), nI_ltI (by omega) (by omega)] at h48
          refine PW.ige rfl ⟨⟨trivial, (by rw [S0.1.1]; exact nI_ne0 (by have := F.1.1; omega) (by have := F.1.2.1; omega))⟩, (by rw [S0.1.1]; exact nI_ne0 (by have := F.1.1; omega) (by have := F.1.2.1; omega))⟩ (fun h63 => ?_) (fun h63 => ?_)
          · skip
            rw [S0.1.1, pk_div (by omega) (by omega) (by omega), pk_div (by omega) (by omega) (by omega), nI_leI (by omega) (by omega)] at h63
            have hgood : ¬ (g % w < k % w ∨ g / w < k / w) := fun q => by omega
            refine PW.to 75 rfl trivial ?_
            refine PW.post (Q' := (fun v M' => v = some (.int (nI (fb_ct (fun x => inbox w k g x && !decide (sl on mp dr x = j)) (w * h)))) ∧ (SM w h (if on = 0 then boxd w k g j mp (w * h) else mp) (if on = 0 then dr else boxd w k g j dr (w * h)) hd wy vt M' ∧ FM M M'))) (fun v M2 q => ?_) ?_
            · rw [if_t hb, tn_nI (show g < 2 ^ 31 by omega), tn_nI (show k < 2 ^ 31 by omega), tn_nI (show j < 2 ^ 31 by omega), if_neg hgood]
              by_cases z : on = 0
              · rw [if_pos z, if_pos z] at q
                rw [if_pos ⟨hb, hgood, z⟩, if_neg (fun y => y.2.2 z)]; exact q
              · rw [if_neg z, if_neg z] at q
                rw [if_neg (fun y => z y.2.2), if_pos ⟨hb, hgood, z⟩]; exact q
            · refine loop75 (w * h + 1) 0 k g j (va_up M.1 29 (upd (M.1 29) 0 0), M.2) hk hg hj (Nat.zero_le _) ?_ (th0 M (A := [])).fm (by omega)
              rw [boxd0, boxd0, ite_self, ite_self]; exact S0
          · skip
            rw [S0.1.1, pk_div (by omega) (by omega) (by omega), pk_div (by omega) (by omega) (by omega), nI_leI (by omega) (by omega)] at h63
            have hbad : g % w < k % w ∨ g / w < k / w := Or.inr (by omega)
            refine PW.iret rfl rfl trivial ?_
            exact ⟨by rw [if_t hb, tn_nI (show g < 2 ^ 31 by omega), tn_nI (show k < 2 ^ 31 by omega), if_pos hbad], by rw [tn_nI (show g < 2 ^ 31 by omega), tn_nI (show k < 2 ^ 31 by omega), if_neg (fun z => z.2.1 hbad), if_neg (fun z => z.2.1 hbad)]; exact S.fj (th0 M (A := []))⟩
      · skip
        rw [show decide ((0 : Int64) ≤ lv.toInt64 ∧ lv.toInt64 ≤ (6 : Int64)) = okl 6 lv from in_l lv 6, bo_eq] at h31
        refine PW.iret rfl rfl trivial ?_
        first | exact ⟨by rw [if_f (by rw [h10]; rfl)], by rw [if_neg (fun z => by rw [h10] at z; exact absurd z.1 (by simp)), if_neg (fun z => by rw [h10] at z; exact absurd z.1 (by simp))]; exact S.fj (th0 M (A := []))⟩ | exact ⟨by rw [if_f (by rw [h18, Bool.and_false]; rfl)], by rw [if_neg (fun z => by rw [h18, Bool.and_false] at z; exact absurd z.1 (by simp)), if_neg (fun z => by rw [h18, Bool.and_false] at z; exact absurd z.1 (by simp))]; exact S.fj (th0 M (A := []))⟩ | exact ⟨by rw [if_f (by rw [h31]; exact Bool.and_false _)], by rw [if_neg (fun z => by rw [h31] at z; exact absurd z.1 (by simp)), if_neg (fun z => by rw [h31] at z; exact absurd z.1 (by simp))]; exact S.fj (th0 M (A := []))⟩
end M10
