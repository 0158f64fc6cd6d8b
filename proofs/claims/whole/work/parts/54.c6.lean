-- made by wip/whole/mk_c6.py
section C6
variable {X : Cx} {l : Launch} {M : Mem}
theorem r_field {w h : Nat} {mp dr hd : Nat → Nat} {wy : Nat} {vt : Nat → Nat} (F : Sf w h mp dr hd wy vt) (C : CM w h mp dr hd wy vt M) (a b : Int32) : PC X l mX7_field 2 [.ref 0, .int a, .int b] G0 M (fun v M' => v = some (.int (if (okr 2 6 a && okr 2 6 b) = true then nI (tn a * tn b) else -2)) ∧ (CM (if (okr 2 6 a && okr 2 6 b) = true then tn a else w) (if (okr 2 6 a && okr 2 6 b) = true then tn b else h) (if (okr 2 6 a && okr 2 6 b) = true then (fun _ => 6) else mp) (if (okr 2 6 a && okr 2 6 b) = true then (fun _ => 6) else dr) hd wy vt M' ∧ FN M M')) := by
  refine PC.ofW okX7_field ?_
  have hn := F.1.n
  refine PW.funS rfl trivial sX7_69 rfl (by decide) rfl (u_isEdge _) ?_
  refine PW.zeq rfl trivial (fun h4 => ?_) (fun h4 => ?_)
  · skip
    rw [bo_eq] at h4
    refine PW.iret rfl rfl trivial ?_
    first
    | (refine ⟨?_, ?_⟩
       · simp [h4]
       · simp [h4]; exact ⟨C, FN.rf⟩)
    | (refine ⟨?_, ?_⟩
       · simp [h11]
       · simp [h11]; exact ⟨C, FN.rf⟩)
  · skip
    rw [bo_ne] at h4
    obtain ⟨p, hp1, hp2, rfl⟩ := okr_x (a := 2) (b := 6) h4
    have tp : tn (nI p) = p := tn_nI (by omega)
    refine PW.funS rfl trivial sX7_69 rfl (by decide) rfl (u_isEdge _) ?_
    refine PW.zne rfl trivial (fun h11 => ?_) (fun h11 => ?_)
    · skip
      rw [bo_ne] at h11
      obtain ⟨q, hq1, hq2, rfl⟩ := okr_x (a := 2) (b := 6) h11
      have tq : tn (nI q) = q := tn_nI (by omega)
      refine PW.callV rfl trivial sX7_73 rfl rfl (by decide) rfl (c_lay (w := p) (h := q) ⟨hp1, hp2, hq1, hq2⟩) (fun v23 M23 hq23 => ?_)
      obtain ⟨rfl, hF1, hG1⟩ := hq23
      refine PW.callV rfl trivial sX7_76 rfl rfl (by decide) rfl (c_clear2) (fun v30 M30 hq30 => ?_)
      obtain ⟨rfl, hF2, hS2⟩ := hq30
      refine PW.callV rfl trivial sX7_76 rfl rfl (by decide) rfl (c_clear4) (fun v37 M37 hq37 => ?_)
      obtain ⟨rfl, hF3, hS3⟩ := hq37
      have hG3 := (hG1.fc hF2).fc hF3
      refine PW.funV rfl trivial sX7_79 rfl rfl (by decide) rfl (c_size ⟨hp1, hp2, hq1, hq2⟩ hG3) ?_
      refine PW.iret rfl rfl trivial ?_
      refine ⟨?_, ?_⟩
      · rw [h4, h11, tp, tq]; rfl
      · rw [h4, h11, tp, tq]
        exact ⟨⟨hG3, hS2.fc hF3, hS3, ((C.2.2.2.1.fc hF1).fc hF2).fc hF3, fun k hk => by rw [hF3.i 26, hF2.i 26, hF1.i 26]; exact C.2.2.2.2 k hk⟩, (hF1.fn.tr hF2.fn).tr hF3.fn⟩
    · skip
      rw [bo_eq] at h11
      refine PW.iret rfl rfl trivial ?_
      first
      | (refine ⟨?_, ?_⟩
         · simp [h4]
         · simp [h4]; exact ⟨C, FN.rf⟩)
      | (refine ⟨?_, ?_⟩
         · simp [h11]
         · simp [h11]; exact ⟨C, FN.rf⟩)
theorem r_give0 {w h : Nat} {mp dr hd : Nat → Nat} {wy : Nat} {vt : Nat → Nat} (F : Sf w h mp dr hd wy vt) (C : CM w h mp dr hd wy vt M) (on c lv : Int32) (hon : on = 0) : PC X l mX7_give 2 [.ref 0, .int on, .int c, .int lv] G0 M (fun v M' => v = some (.int (if (okc (w * h) c && okl 6 lv) = true then nI (sl on mp dr (tn c)) else -1)) ∧ (CM w h (if (okc (w * h) c && okl 6 lv) = true ∧ on = 0 then set1 mp (tn c) (tn lv) else mp) (if (okc (w * h) c && okl 6 lv) = true ∧ ¬ on = 0 then set1 dr (tn c) (tn lv) else dr) hd wy vt M' ∧ FN M M')) := by
  refine PC.ofW okX7_give ?_
  have hn := F.1.n
  have esl : sl on mp dr = mp := by simp [sl, hon]
  refine PW.funV rfl trivial sX7_83 rfl rfl (by decide) rfl (c_knows _ F.1.g C.1) ?_
  refine PW.zeq rfl trivial (fun h8 => ?_) (fun h8 => ?_)
  · skip
    rw [bo_eq] at h8
    refine PW.iret rfl rfl trivial ?_
    first
    | (refine ⟨?_, ?_⟩
       · simp [h8]
       · simp [h8]; exact ⟨C, FN.rf⟩)
    | (refine ⟨?_, ?_⟩
       · simp [h15]
       · simp [h15]; exact ⟨C, FN.rf⟩)
  · skip
    rw [bo_ne] at h8
    obtain ⟨k, hk, rfl⟩ := okc_x h8
    have tk : tn (nI k) = k := tn_nI (by omega)
    refine PW.funS rfl trivial sX7_86 rfl (by decide) rfl (u_isOwner _) ?_
    refine PW.zne rfl trivial (fun h15 => ?_) (fun h15 => ?_)
    · skip
      rw [bo_ne] at h15
      obtain ⟨j, hj, rfl⟩ := okl_x (m := 6) h15
      have tj : tn (nI j) = j := tn_nI (by omega)
      refine PW.funV rfl trivial sX7_89 rfl rfl (by decide) rfl (c_sht0 on hon) ?_
      refine PW.funV rfl trivial sX7_93 rfl rfl (by decide) rfl (c_own2 k (by omega) C.2.1 (F.1.2.2.2.2.1 k)) ?_
      refine PW.callV rfl trivial sX7_97 rfl rfl (by decide) rfl (show PC X l mX5_put 0 [.ref 2, .long ((1 : Int64) <<< ((nI k).toInt64 &&& 63)), .int (nI j)] G0 M (fun v M2 => v = none ∧ FC [] [3] M M2 ∧ Sh 3 (set1 mp k j) M2) from by rw [mk_bit (by omega), ← put_1]; exact c_put2 _ _ (by omega) C.2.1) (fun v41 M41 hq41 => ?_)
      obtain ⟨rfl, hF1, hS1⟩ := hq41
      refine PW.iret rfl rfl trivial ?_
      refine ⟨?_, ?_⟩
      · rw [h8, h15, tk, esl]; rfl
      · rw [h8, h15, tk, tj]
        simp only [hon, Bool.and_self, not_true_eq_false, not_false_eq_true, and_true, and_false, if_true, if_false]
        exact ⟨C.mp hF1 hS1, hF1.fn⟩
    · skip
      rw [bo_eq] at h15
      refine PW.iret rfl rfl trivial ?_
      first
      | (refine ⟨?_, ?_⟩
         · simp [h8]
         · simp [h8]; exact ⟨C, FN.rf⟩)
      | (refine ⟨?_, ?_⟩
         · simp [h15]
         · simp [h15]; exact ⟨C, FN.rf⟩)
theorem r_at0 {w h : Nat} {mp dr hd : Nat → Nat} {wy : Nat} {vt : Nat → Nat} (F : Sf w h mp dr hd wy vt) (C : CM w h mp dr hd wy vt M) (on c : Int32) (hon : on = 0) : PC X l mX7_at 2 [.ref 0, .int on, .int c] G0 M (fun v M' => v = some (.int (if okc (w * h) c = true then nI (sl on mp dr (tn c)) else -1)) ∧ (CM w h mp dr hd wy vt M' ∧ FN M M')) := by
  refine PC.ofW okX7_at ?_
  have hn := F.1.n
  have esl : sl on mp dr = mp := by simp [sl, hon]
  refine PW.funV rfl trivial sX7_83 rfl rfl (by decide) rfl (c_knows _ F.1.g C.1) ?_
  refine PW.zne rfl trivial (fun h8 => ?_) (fun h8 => ?_)
  · skip
    rw [bo_ne] at h8
    obtain ⟨k, hk, rfl⟩ := okc_x h8
    have tk : tn (nI k) = k := tn_nI (by omega)
    refine PW.funV rfl trivial sX7_89 rfl rfl (by decide) rfl (c_sht0 on hon) ?_
    refine PW.funV rfl trivial sX7_93 rfl rfl (by decide) rfl (c_own2 k (by omega) C.2.1 (F.1.2.2.2.2.1 k)) ?_
    refine PW.iret rfl rfl trivial ?_
    exact ⟨by rw [h8, tk, esl]; rfl, C, FN.rf⟩
  · skip
    rw [bo_eq] at h8
    refine PW.iret rfl rfl trivial ?_
    exact ⟨by rw [h8]; rfl, C, FN.rf⟩
theorem r_cells0 {w h : Nat} {mp dr hd : Nat → Nat} {wy : Nat} {vt : Nat → Nat} (F : Sf w h mp dr hd wy vt) (C : CM w h mp dr hd wy vt M) (on lv : Int32) (hon : on = 0) : PC X l mX7_cells 3 [.ref 0, .int on, .int lv] G0 M (fun v M' => v = some (.int (if okl 5 lv = true then nI (many (sl on mp dr) (tn lv) (w * h)) else -1)) ∧ (CM w h mp dr hd wy vt M' ∧ FN M M')) := by
  refine PC.ofW okX7_cells ?_
  have hn := F.1.n
  have esl : sl on mp dr = mp := by simp [sl, hon]
  refine PW.funS rfl trivial sX7_131 rfl (by decide) rfl (u_isLand _) ?_
  refine PW.zne rfl trivial (fun h4 => ?_) (fun h4 => ?_)
  · skip
    rw [bo_ne] at h4
    obtain ⟨j, hj, rfl⟩ := okl_x (m := 5) h4
    have tj : tn (nI j) = j := tn_nI (by omega)
    refine PW.funV rfl trivial sX7_89 rfl rfl (by decide) rfl (c_sht0 on hon) ?_
    refine PW.funV rfl trivial sX7_134 rfl rfl (by decide) rfl (c_siz2 j (by omega) F.1.g C.1 F.1.m C.2.1) ?_
    refine PW.iret rfl rfl trivial ?_
    exact ⟨by rw [h4, tj, esl]; rfl, C, FN.rf⟩
  · skip
    rw [bo_eq] at h4
    refine PW.iret rfl rfl trivial ?_
    exact ⟨by rw [h4]; rfl, C, FN.rf⟩
theorem r_beside0 {w h : Nat} {mp dr hd : Nat → Nat} {wy : Nat} {vt : Nat → Nat} (F : Sf w h mp dr hd wy vt) (C : CM w h mp dr hd wy vt M) (on a b : Int32) (hon : on = 0) : PC X l mX7_beside 3 [.ref 0, .int on, .int a, .int b] G0 M (fun v M' => v = some (.int (if (okl 5 a && okl 5 b) = true then (if a = b then -3 else bo (nbr w (w * h) (sl on mp dr) (tn a) (tn b))) else -1)) ∧ (CM w h mp dr hd wy vt M' ∧ FN M M')) := by
  refine PC.ofW okX7_beside ?_
  have hn := F.1.n
  have esl : sl on mp dr = mp := by simp [sl, hon]
  refine PW.funS rfl trivial sX7_131 rfl (by decide) rfl (u_isLand _) ?_
  refine PW.zeq rfl trivial (fun h4 => ?_) (fun h4 => ?_)
  · skip
    rw [bo_eq] at h4
    refine PW.iret rfl rfl trivial ?_
    first | exact ⟨by rw [h4]; rfl, C, FN.rf⟩ | exact ⟨by rw [h4, h11]; rfl, C, FN.rf⟩
  · skip
    rw [bo_ne] at h4
    obtain ⟨k, hk, rfl⟩ := okl_x (m := 5) h4
    have tk : tn (nI k) = k := tn_nI (by omega)
    refine PW.funS rfl trivial sX7_131 rfl (by decide) rfl (u_isLand _) ?_
    refine PW.zne rfl trivial (fun h11 => ?_) (fun h11 => ?_)
    · skip
      rw [bo_ne] at h11
      obtain ⟨j, hj, rfl⟩ := okl_x (m := 5) h11
      have tj : tn (nI j) = j := tn_nI (by omega)
      refine PW.ine rfl trivial (fun h18 => ?_) (fun h18 => ?_)
      · skip
        refine PW.funV rfl trivial sX7_89 rfl rfl (by decide) rfl (c_sht0 on hon) ?_
        refine PW.funV rfl trivial sX7_157 rfl rfl (by decide) rfl (c_nbr2 k j (by omega) (by omega) F.1.g C.1 F.1.m C.2.1) ?_
        refine PW.zeq rfl trivial (fun h34 => ?_) (fun h34 => ?_)
        · skip
          rw [bo_eq] at h34
          refine PW.iret rfl rfl trivial ?_
          exact ⟨by rw [h4, h11, if_neg h18, tk, tj, esl, h34]; rfl, C, FN.rf⟩
        · skip
          rw [bo_ne] at h34
          refine PW.goto rfl trivial ?_
          refine PW.iret rfl rfl trivial ?_
          exact ⟨by rw [h4, h11, if_neg h18, tk, tj, esl, h34]; rfl, C, FN.rf⟩
      · skip
        refine PW.iret rfl rfl trivial ?_
        exact ⟨by rw [h4, h11, if_pos h18]; rfl, C, FN.rf⟩
    · skip
      rw [bo_eq] at h11
      refine PW.iret rfl rfl trivial ?_
      first | exact ⟨by rw [h4]; rfl, C, FN.rf⟩ | exact ⟨by rw [h4, h11]; rfl, C, FN.rf⟩
theorem r_box0 {w h : Nat} {mp dr hd : Nat → Nat} {wy : Nat} {vt : Nat → Nat} (F : Sf w h mp dr hd wy vt) (C : CM w h mp dr hd wy vt M) (on c e lv : Int32) (hon : on = 0) : PC X l mX7_box 2 [.ref 0, .int on, .int c, .int e, .int lv] G0 M (fun v M' => v = some (.int (if (okc (w * h) c && okc (w * h) e && okl 6 lv) = true then (if (tn e % w < tn c % w ∨ tn e / w < tn c / w) then -2 else nI (fb_ct (fun x => inbox w (tn c) (tn e) x && !decide (sl on mp dr x = tn lv)) (w * h))) else -1)) ∧ (CM w h (if (okc (w * h) c && okc (w * h) e && okl 6 lv) = true ∧ ¬ (tn e % w < tn c % w ∨ tn e / w < tn c / w) ∧ on = 0 then boxd w (tn c) (tn e) (tn lv) mp (w * h) else mp) (if (okc (w * h) c && okc (w * h) e && okl 6 lv) = true ∧ ¬ (tn e % w < tn c % w ∨ tn e / w < tn c / w) ∧ ¬ on = 0 then boxd w (tn c) (tn e) (tn lv) dr (w * h) else dr) hd wy vt M' ∧ FN M M')) := by
  refine PC.ofW okX7_box ?_
  have hn := F.1.n
  have esl : sl on mp dr = mp := by simp [sl, hon]
  refine PW.funV rfl trivial sX7_83 rfl rfl (by decide) rfl (c_knows _ F.1.g C.1) ?_
  refine PW.zeq rfl trivial (fun h8 => ?_) (fun h8 => ?_)
  · skip
    rw [bo_eq] at h8
    refine PW.iret rfl rfl trivial ?_
    first
    | (refine ⟨?_, ?_⟩
       · simp [h8]
       · simp [h8]; exact ⟨C, FN.rf⟩)
    | (refine ⟨?_, ?_⟩
       · simp [h19]
       · simp [h19]; exact ⟨C, FN.rf⟩)
    | (refine ⟨?_, ?_⟩
       · simp [h27]
       · simp [h27]; exact ⟨C, FN.rf⟩)
  · skip
    rw [bo_ne] at h8
    obtain ⟨k, hk, rfl⟩ := okc_x h8
    have tk : tn (nI k) = k := tn_nI (by omega)
    refine PW.funV rfl trivial sX7_83 rfl rfl (by decide) rfl (c_knows _ F.1.g C.1) ?_
    refine PW.zeq rfl trivial (fun h19 => ?_) (fun h19 => ?_)
    · skip
      rw [bo_eq] at h19
      refine PW.iret rfl rfl trivial ?_
      first
      | (refine ⟨?_, ?_⟩
         · simp [h8]
         · simp [h8]; exact ⟨C, FN.rf⟩)
      | (refine ⟨?_, ?_⟩
         · simp [h19]
         · simp [h19]; exact ⟨C, FN.rf⟩)
      | (refine ⟨?_, ?_⟩
         · simp [h27]
         · simp [h27]; exact ⟨C, FN.rf⟩)
    · skip
      rw [bo_ne] at h19
      obtain ⟨i, hi, rfl⟩ := okc_x h19
      have ti : tn (nI i) = i := tn_nI (by omega)
      refine PW.funS rfl trivial sX7_86 rfl (by decide) rfl (u_isOwner _) ?_
      refine PW.zne rfl trivial (fun h27 => ?_) (fun h27 => ?_)
      · skip
        rw [bo_ne] at h27
        obtain ⟨j, hj, rfl⟩ := okl_x (m := 6) h27
        have tj : tn (nI j) = j := tn_nI (by omega)
        refine PW.funV rfl trivial sX7_101 rfl rfl (by decide) rfl (c_col i (by omega) F.1.g C.1) ?_
        refine PW.funV rfl trivial sX7_101 rfl rfl (by decide) rfl (c_col k (by omega) F.1.g C.1) ?_
        refine PW.ilt rfl trivial (fun h48 => ?_) (fun h48 => ?_)
        · skip
          rw [nI_ltI (by have := Nat.mod_le i w; omega) (by have := Nat.mod_le k w; omega)] at h48
          have hbad : i % w < k % w ∨ i / w < k / w := Or.inl h48
          refine PW.iret rfl rfl trivial ?_
          refine ⟨?_, ?_⟩
          · rw [h8, h19, h27, tk, ti, Bool.and_self, Bool.and_self, if_pos rfl, if_pos hbad]
          · rw [h8, h19, h27, tk, ti]
            simp only [hbad, not_true_eq_false, false_and, and_false, if_false]
            exact ⟨C, FN.rf⟩
        · skip
          rw [nI_ltI (by have := Nat.mod_le i w; omega) (by have := Nat.mod_le k w; omega)] at h48
          refine PW.funV rfl trivial sX7_104 rfl rfl (by decide) rfl (c_row i (by omega) F.1.g C.1) ?_
          refine PW.funV rfl trivial sX7_104 rfl rfl (by decide) rfl (c_row k (by omega) F.1.g C.1) ?_
          refine PW.ige rfl trivial (fun h67 => ?_) (fun h67 => ?_)
          · skip
            rw [nI_leI (by have := Nat.div_le_self k w; omega) (by have := Nat.div_le_self i w; omega)] at h67
            have hgood : ¬ (i % w < k % w ∨ i / w < k / w) := fun q => q.elim h48 (Nat.not_lt.mpr h67)
            refine PW.funV rfl trivial sX7_89 rfl rfl (by decide) rfl (c_sht0 on hon) ?_
            refine PW.funV rfl trivial sX7_107 rfl rfl (by decide) rfl (c_boxed k i F.1.g C.1 hk hi (Nat.not_lt.mp h48) h67) ?_
            refine PW.funV rfl trivial sX7_111 rfl rfl (by decide) rfl (c_cells2 j (by omega) F.1.g C.1 F.1.m C.2.1) ?_
            refine PW.funS rfl trivial sX7_117 rfl (by decide) rfl (show PF X l mJ13_bitCount_95d88 0 [.long (mk (inbox w k i) &&& (mk (cel (w * h) mp j) ^^^ (-1)))] G0 M (.int (nI (fb_ct (fun x => inbox w k i x && !decide (mp x = j)) (w * h)))) from by rw [mk_not, mk_and, ← box_ct hi hn]; exact j_bitCount _) ?_
            refine PW.callV rfl trivial sX7_97 rfl rfl (by decide) rfl (show PC X l mX5_put 0 [.ref 2, .long (mk (inbox w k i)), .int (nI j)] G0 M (fun v M2 => v = none ∧ FC [] [3] M M2 ∧ Sh 3 (boxd w k i j mp (w * h)) M2) from by rw [box_d hi]; exact c_put2 _ _ (by omega) C.2.1) (fun v116 M116 hq116 => ?_)
            obtain ⟨rfl, hF1, hS1⟩ := hq116
            refine PW.iret rfl rfl trivial ?_
            refine ⟨?_, ?_⟩
            · rw [h8, h19, h27, tk, ti, tj, esl, Bool.and_self, Bool.and_self, if_pos rfl, if_neg hgood]
            · rw [h8, h19, h27, tk, ti, tj]
              simp only [hon, hgood, Bool.and_self, not_true_eq_false, not_false_eq_true, and_true, and_false, if_true, if_false]
              exact ⟨C.mp hF1 hS1, hF1.fn⟩
          · skip
            rw [nI_leI (by have := Nat.div_le_self k w; omega) (by have := Nat.div_le_self i w; omega)] at h67
            have hbad : i % w < k % w ∨ i / w < k / w := Or.inr (Nat.not_le.mp h67)
            refine PW.iret rfl rfl trivial ?_
            refine ⟨?_, ?_⟩
            · rw [h8, h19, h27, tk, ti, Bool.and_self, Bool.and_self, if_pos rfl, if_pos hbad]
            · rw [h8, h19, h27, tk, ti]
              simp only [hbad, not_true_eq_false, false_and, and_false, if_false]
              exact ⟨C, FN.rf⟩
      · skip
        rw [bo_eq] at h27
        refine PW.iret rfl rfl trivial ?_
        first
        | (refine ⟨?_, ?_⟩
           · simp [h8]
           · simp [h8]; exact ⟨C, FN.rf⟩)
        | (refine ⟨?_, ?_⟩
           · simp [h19]
           · simp [h19]; exact ⟨C, FN.rf⟩)
        | (refine ⟨?_, ?_⟩
           · simp [h27]
           · simp [h27]; exact ⟨C, FN.rf⟩)
theorem r_give1 {w h : Nat} {mp dr hd : Nat → Nat} {wy : Nat} {vt : Nat → Nat} (F : Sf w h mp dr hd wy vt) (C : CM w h mp dr hd wy vt M) (on c lv : Int32) (hon : ¬ on = 0) : PC X l mX7_give 2 [.ref 0, .int on, .int c, .int lv] G0 M (fun v M' => v = some (.int (if (okc (w * h) c && okl 6 lv) = true then nI (sl on mp dr (tn c)) else -1)) ∧ (CM w h (if (okc (w * h) c && okl 6 lv) = true ∧ on = 0 then set1 mp (tn c) (tn lv) else mp) (if (okc (w * h) c && okl 6 lv) = true ∧ ¬ on = 0 then set1 dr (tn c) (tn lv) else dr) hd wy vt M' ∧ FN M M')) := by
  refine PC.ofW okX7_give ?_
  have hn := F.1.n
  have esl : sl on mp dr = dr := by simp [sl, hon]
  refine PW.funV rfl trivial sX7_83 rfl rfl (by decide) rfl (c_knows _ F.1.g C.1) ?_
  refine PW.zeq rfl trivial (fun h8 => ?_) (fun h8 => ?_)
  · skip
    rw [bo_eq] at h8
    refine PW.iret rfl rfl trivial ?_
    first
    | (refine ⟨?_, ?_⟩
       · simp [h8]
       · simp [h8]; exact ⟨C, FN.rf⟩)
    | (refine ⟨?_, ?_⟩
       · simp [h15]
       · simp [h15]; exact ⟨C, FN.rf⟩)
  · skip
    rw [bo_ne] at h8
    obtain ⟨k, hk, rfl⟩ := okc_x h8
    have tk : tn (nI k) = k := tn_nI (by omega)
    refine PW.funS rfl trivial sX7_86 rfl (by decide) rfl (u_isOwner _) ?_
    refine PW.zne rfl trivial (fun h15 => ?_) (fun h15 => ?_)
    · skip
      rw [bo_ne] at h15
      obtain ⟨j, hj, rfl⟩ := okl_x (m := 6) h15
      have tj : tn (nI j) = j := tn_nI (by omega)
      refine PW.funV rfl trivial sX7_89 rfl rfl (by decide) rfl (c_sht1 on hon) ?_
      refine PW.funV rfl trivial sX7_93 rfl rfl (by decide) rfl (c_own4 k (by omega) C.2.2.1 (F.1.2.2.2.2.2.1 k)) ?_
      refine PW.callV rfl trivial sX7_97 rfl rfl (by decide) rfl (show PC X l mX5_put 0 [.ref 4, .long ((1 : Int64) <<< ((nI k).toInt64 &&& 63)), .int (nI j)] G0 M (fun v M2 => v = none ∧ FC [] [5] M M2 ∧ Sh 5 (set1 dr k j) M2) from by rw [mk_bit (by omega), ← put_1]; exact c_put4 _ _ (by omega) C.2.2.1) (fun v41 M41 hq41 => ?_)
      obtain ⟨rfl, hF1, hS1⟩ := hq41
      refine PW.iret rfl rfl trivial ?_
      refine ⟨?_, ?_⟩
      · rw [h8, h15, tk, esl]; rfl
      · rw [h8, h15, tk, tj]
        simp only [hon, Bool.and_self, not_true_eq_false, not_false_eq_true, and_true, and_false, if_true, if_false]
        exact ⟨C.dr hF1 hS1, hF1.fn⟩
    · skip
      rw [bo_eq] at h15
      refine PW.iret rfl rfl trivial ?_
      first
      | (refine ⟨?_, ?_⟩
         · simp [h8]
         · simp [h8]; exact ⟨C, FN.rf⟩)
      | (refine ⟨?_, ?_⟩
         · simp [h15]
         · simp [h15]; exact ⟨C, FN.rf⟩)
theorem r_at1 {w h : Nat} {mp dr hd : Nat → Nat} {wy : Nat} {vt : Nat → Nat} (F : Sf w h mp dr hd wy vt) (C : CM w h mp dr hd wy vt M) (on c : Int32) (hon : ¬ on = 0) : PC X l mX7_at 2 [.ref 0, .int on, .int c] G0 M (fun v M' => v = some (.int (if okc (w * h) c = true then nI (sl on mp dr (tn c)) else -1)) ∧ (CM w h mp dr hd wy vt M' ∧ FN M M')) := by
  refine PC.ofW okX7_at ?_
  have hn := F.1.n
  have esl : sl on mp dr = dr := by simp [sl, hon]
  refine PW.funV rfl trivial sX7_83 rfl rfl (by decide) rfl (c_knows _ F.1.g C.1) ?_
  refine PW.zne rfl trivial (fun h8 => ?_) (fun h8 => ?_)
  · skip
    rw [bo_ne] at h8
    obtain ⟨k, hk, rfl⟩ := okc_x h8
    have tk : tn (nI k) = k := tn_nI (by omega)
    refine PW.funV rfl trivial sX7_89 rfl rfl (by decide) rfl (c_sht1 on hon) ?_
    refine PW.funV rfl trivial sX7_93 rfl rfl (by decide) rfl (c_own4 k (by omega) C.2.2.1 (F.1.2.2.2.2.2.1 k)) ?_
    refine PW.iret rfl rfl trivial ?_
    exact ⟨by rw [h8, tk, esl]; rfl, C, FN.rf⟩
  · skip
    rw [bo_eq] at h8
    refine PW.iret rfl rfl trivial ?_
    exact ⟨by rw [h8]; rfl, C, FN.rf⟩
theorem r_cells1 {w h : Nat} {mp dr hd : Nat → Nat} {wy : Nat} {vt : Nat → Nat} (F : Sf w h mp dr hd wy vt) (C : CM w h mp dr hd wy vt M) (on lv : Int32) (hon : ¬ on = 0) : PC X l mX7_cells 3 [.ref 0, .int on, .int lv] G0 M (fun v M' => v = some (.int (if okl 5 lv = true then nI (many (sl on mp dr) (tn lv) (w * h)) else -1)) ∧ (CM w h mp dr hd wy vt M' ∧ FN M M')) := by
  refine PC.ofW okX7_cells ?_
  have hn := F.1.n
  have esl : sl on mp dr = dr := by simp [sl, hon]
  refine PW.funS rfl trivial sX7_131 rfl (by decide) rfl (u_isLand _) ?_
  refine PW.zne rfl trivial (fun h4 => ?_) (fun h4 => ?_)
  · skip
    rw [bo_ne] at h4
    obtain ⟨j, hj, rfl⟩ := okl_x (m := 5) h4
    have tj : tn (nI j) = j := tn_nI (by omega)
    refine PW.funV rfl trivial sX7_89 rfl rfl (by decide) rfl (c_sht1 on hon) ?_
    refine PW.funV rfl trivial sX7_134 rfl rfl (by decide) rfl (c_siz4 j (by omega) F.1.g C.1 F.1.d C.2.2.1) ?_
    refine PW.iret rfl rfl trivial ?_
    exact ⟨by rw [h4, tj, esl]; rfl, C, FN.rf⟩
  · skip
    rw [bo_eq] at h4
    refine PW.iret rfl rfl trivial ?_
    exact ⟨by rw [h4]; rfl, C, FN.rf⟩
theorem r_beside1 {w h : Nat} {mp dr hd : Nat → Nat} {wy : Nat} {vt : Nat → Nat} (F : Sf w h mp dr hd wy vt) (C : CM w h mp dr hd wy vt M) (on a b : Int32) (hon : ¬ on = 0) : PC X l mX7_beside 3 [.ref 0, .int on, .int a, .int b] G0 M (fun v M' => v = some (.int (if (okl 5 a && okl 5 b) = true then (if a = b then -3 else bo (nbr w (w * h) (sl on mp dr) (tn a) (tn b))) else -1)) ∧ (CM w h mp dr hd wy vt M' ∧ FN M M')) := by
  refine PC.ofW okX7_beside ?_
  have hn := F.1.n
  have esl : sl on mp dr = dr := by simp [sl, hon]
  refine PW.funS rfl trivial sX7_131 rfl (by decide) rfl (u_isLand _) ?_
  refine PW.zeq rfl trivial (fun h4 => ?_) (fun h4 => ?_)
  · skip
    rw [bo_eq] at h4
    refine PW.iret rfl rfl trivial ?_
    first | exact ⟨by rw [h4]; rfl, C, FN.rf⟩ | exact ⟨by rw [h4, h11]; rfl, C, FN.rf⟩
  · skip
    rw [bo_ne] at h4
    obtain ⟨k, hk, rfl⟩ := okl_x (m := 5) h4
    have tk : tn (nI k) = k := tn_nI (by omega)
    refine PW.funS rfl trivial sX7_131 rfl (by decide) rfl (u_isLand _) ?_
    refine PW.zne rfl trivial (fun h11 => ?_) (fun h11 => ?_)
    · skip
      rw [bo_ne] at h11
      obtain ⟨j, hj, rfl⟩ := okl_x (m := 5) h11
      have tj : tn (nI j) = j := tn_nI (by omega)
      refine PW.ine rfl trivial (fun h18 => ?_) (fun h18 => ?_)
      · skip
        refine PW.funV rfl trivial sX7_89 rfl rfl (by decide) rfl (c_sht1 on hon) ?_
        refine PW.funV rfl trivial sX7_157 rfl rfl (by decide) rfl (c_nbr4 k j (by omega) (by omega) F.1.g C.1 F.1.d C.2.2.1) ?_
        refine PW.zeq rfl trivial (fun h34 => ?_) (fun h34 => ?_)
        · skip
          rw [bo_eq] at h34
          refine PW.iret rfl rfl trivial ?_
          exact ⟨by rw [h4, h11, if_neg h18, tk, tj, esl, h34]; rfl, C, FN.rf⟩
        · skip
          rw [bo_ne] at h34
          refine PW.goto rfl trivial ?_
          refine PW.iret rfl rfl trivial ?_
          exact ⟨by rw [h4, h11, if_neg h18, tk, tj, esl, h34]; rfl, C, FN.rf⟩
      · skip
        refine PW.iret rfl rfl trivial ?_
        exact ⟨by rw [h4, h11, if_pos h18]; rfl, C, FN.rf⟩
    · skip
      rw [bo_eq] at h11
      refine PW.iret rfl rfl trivial ?_
      first | exact ⟨by rw [h4]; rfl, C, FN.rf⟩ | exact ⟨by rw [h4, h11]; rfl, C, FN.rf⟩
theorem r_box1 {w h : Nat} {mp dr hd : Nat → Nat} {wy : Nat} {vt : Nat → Nat} (F : Sf w h mp dr hd wy vt) (C : CM w h mp dr hd wy vt M) (on c e lv : Int32) (hon : ¬ on = 0) : PC X l mX7_box 2 [.ref 0, .int on, .int c, .int e, .int lv] G0 M (fun v M' => v = some (.int (if (okc (w * h) c && okc (w * h) e && okl 6 lv) = true then (if (tn e % w < tn c % w ∨ tn e / w < tn c / w) then -2 else nI (fb_ct (fun x => inbox w (tn c) (tn e) x && !decide (sl on mp dr x = tn lv)) (w * h))) else -1)) ∧ (CM w h (if (okc (w * h) c && okc (w * h) e && okl 6 lv) = true ∧ ¬ (tn e % w < tn c % w ∨ tn e / w < tn c / w) ∧ on = 0 then boxd w (tn c) (tn e) (tn lv) mp (w * h) else mp) (if (okc (w * h) c && okc (w * h) e && okl 6 lv) = true ∧ ¬ (tn e % w < tn c % w ∨ tn e / w < tn c / w) ∧ ¬ on = 0 then boxd w (tn c) (tn e) (tn lv) dr (w * h) else dr) hd wy vt M' ∧ FN M M')) := by
  refine PC.ofW okX7_box ?_
  have hn := F.1.n
  have esl : sl on mp dr = dr := by simp [sl, hon]
  refine PW.funV rfl trivial sX7_83 rfl rfl (by decide) rfl (c_knows _ F.1.g C.1) ?_
  refine PW.zeq rfl trivial (fun h8 => ?_) (fun h8 => ?_)
  · skip
    rw [bo_eq] at h8
    refine PW.iret rfl rfl trivial ?_
    first
    | (refine ⟨?_, ?_⟩
       · simp [h8]
       · simp [h8]; exact ⟨C, FN.rf⟩)
    | (refine ⟨?_, ?_⟩
       · simp [h19]
       · simp [h19]; exact ⟨C, FN.rf⟩)
    | (refine ⟨?_, ?_⟩
       · simp [h27]
       · simp [h27]; exact ⟨C, FN.rf⟩)
  · skip
    rw [bo_ne] at h8
    obtain ⟨k, hk, rfl⟩ := okc_x h8
    have tk : tn (nI k) = k := tn_nI (by omega)
    refine PW.funV rfl trivial sX7_83 rfl rfl (by decide) rfl (c_knows _ F.1.g C.1) ?_
    refine PW.zeq rfl trivial (fun h19 => ?_) (fun h19 => ?_)
    · skip
      rw [bo_eq] at h19
      refine PW.iret rfl rfl trivial ?_
      first
      | (refine ⟨?_, ?_⟩
         · simp [h8]
         · simp [h8]; exact ⟨C, FN.rf⟩)
      | (refine ⟨?_, ?_⟩
         · simp [h19]
         · simp [h19]; exact ⟨C, FN.rf⟩)
      | (refine ⟨?_, ?_⟩
         · simp [h27]
         · simp [h27]; exact ⟨C, FN.rf⟩)
    · skip
      rw [bo_ne] at h19
      obtain ⟨i, hi, rfl⟩ := okc_x h19
      have ti : tn (nI i) = i := tn_nI (by omega)
      refine PW.funS rfl trivial sX7_86 rfl (by decide) rfl (u_isOwner _) ?_
      refine PW.zne rfl trivial (fun h27 => ?_) (fun h27 => ?_)
      · skip
        rw [bo_ne] at h27
        obtain ⟨j, hj, rfl⟩ := okl_x (m := 6) h27
        have tj : tn (nI j) = j := tn_nI (by omega)
        refine PW.funV rfl trivial sX7_101 rfl rfl (by decide) rfl (c_col i (by omega) F.1.g C.1) ?_
        refine PW.funV rfl trivial sX7_101 rfl rfl (by decide) rfl (c_col k (by omega) F.1.g C.1) ?_
        refine PW.ilt rfl trivial (fun h48 => ?_) (fun h48 => ?_)
        · skip
          rw [nI_ltI (by have := Nat.mod_le i w; omega) (by have := Nat.mod_le k w; omega)] at h48
          have hbad : i % w < k % w ∨ i / w < k / w := Or.inl h48
          refine PW.iret rfl rfl trivial ?_
          refine ⟨?_, ?_⟩
          · rw [h8, h19, h27, tk, ti, Bool.and_self, Bool.and_self, if_pos rfl, if_pos hbad]
          · rw [h8, h19, h27, tk, ti]
            simp only [hbad, not_true_eq_false, false_and, and_false, if_false]
            exact ⟨C, FN.rf⟩
        · skip
          rw [nI_ltI (by have := Nat.mod_le i w; omega) (by have := Nat.mod_le k w; omega)] at h48
          refine PW.funV rfl trivial sX7_104 rfl rfl (by decide) rfl (c_row i (by omega) F.1.g C.1) ?_
          refine PW.funV rfl trivial sX7_104 rfl rfl (by decide) rfl (c_row k (by omega) F.1.g C.1) ?_
          refine PW.ige rfl trivial (fun h67 => ?_) (fun h67 => ?_)
          · skip
            rw [nI_leI (by have := Nat.div_le_self k w; omega) (by have := Nat.div_le_self i w; omega)] at h67
            have hgood : ¬ (i % w < k % w ∨ i / w < k / w) := fun q => q.elim h48 (Nat.not_lt.mpr h67)
            refine PW.funV rfl trivial sX7_89 rfl rfl (by decide) rfl (c_sht1 on hon) ?_
            refine PW.funV rfl trivial sX7_107 rfl rfl (by decide) rfl (c_boxed k i F.1.g C.1 hk hi (Nat.not_lt.mp h48) h67) ?_
            refine PW.funV rfl trivial sX7_111 rfl rfl (by decide) rfl (c_cells4 j (by omega) F.1.g C.1 F.1.d C.2.2.1) ?_
            refine PW.funS rfl trivial sX7_117 rfl (by decide) rfl (show PF X l mJ13_bitCount_95d88 0 [.long (mk (inbox w k i) &&& (mk (cel (w * h) dr j) ^^^ (-1)))] G0 M (.int (nI (fb_ct (fun x => inbox w k i x && !decide (dr x = j)) (w * h)))) from by rw [mk_not, mk_and, ← box_ct hi hn]; exact j_bitCount _) ?_
            refine PW.callV rfl trivial sX7_97 rfl rfl (by decide) rfl (show PC X l mX5_put 0 [.ref 4, .long (mk (inbox w k i)), .int (nI j)] G0 M (fun v M2 => v = none ∧ FC [] [5] M M2 ∧ Sh 5 (boxd w k i j dr (w * h)) M2) from by rw [box_d hi]; exact c_put4 _ _ (by omega) C.2.2.1) (fun v116 M116 hq116 => ?_)
            obtain ⟨rfl, hF1, hS1⟩ := hq116
            refine PW.iret rfl rfl trivial ?_
            refine ⟨?_, ?_⟩
            · rw [h8, h19, h27, tk, ti, tj, esl, Bool.and_self, Bool.and_self, if_pos rfl, if_neg hgood]
            · rw [h8, h19, h27, tk, ti, tj]
              simp only [hon, hgood, Bool.and_self, not_true_eq_false, not_false_eq_true, and_true, and_false, if_true, if_false]
              exact ⟨C.dr hF1 hS1, hF1.fn⟩
          · skip
            rw [nI_leI (by have := Nat.div_le_self k w; omega) (by have := Nat.div_le_self i w; omega)] at h67
            have hbad : i % w < k % w ∨ i / w < k / w := Or.inr (Nat.not_le.mp h67)
            refine PW.iret rfl rfl trivial ?_
            refine ⟨?_, ?_⟩
            · rw [h8, h19, h27, tk, ti, Bool.and_self, Bool.and_self, if_pos rfl, if_pos hbad]
            · rw [h8, h19, h27, tk, ti]
              simp only [hbad, not_true_eq_false, false_and, and_false, if_false]
              exact ⟨C, FN.rf⟩
      · skip
        rw [bo_eq] at h27
        refine PW.iret rfl rfl trivial ?_
        first
        | (refine ⟨?_, ?_⟩
           · simp [h8]
           · simp [h8]; exact ⟨C, FN.rf⟩)
        | (refine ⟨?_, ?_⟩
           · simp [h19]
           · simp [h19]; exact ⟨C, FN.rf⟩)
        | (refine ⟨?_, ?_⟩
           · simp [h27]
           · simp [h27]; exact ⟨C, FN.rf⟩)
theorem r_give {w h : Nat} {mp dr hd : Nat → Nat} {wy : Nat} {vt : Nat → Nat} (F : Sf w h mp dr hd wy vt) (C : CM w h mp dr hd wy vt M) (on c lv : Int32) : PC X l mX7_give 2 [.ref 0, .int on, .int c, .int lv] G0 M (fun v M' => v = some (.int (if (okc (w * h) c && okl 6 lv) = true then nI (sl on mp dr (tn c)) else -1)) ∧ (CM w h (if (okc (w * h) c && okl 6 lv) = true ∧ on = 0 then set1 mp (tn c) (tn lv) else mp) (if (okc (w * h) c && okl 6 lv) = true ∧ ¬ on = 0 then set1 dr (tn c) (tn lv) else dr) hd wy vt M' ∧ FN M M')) := by
  by_cases hon : on = 0
  · exact r_give0 F C on c lv hon
  · exact r_give1 F C on c lv hon
theorem r_at {w h : Nat} {mp dr hd : Nat → Nat} {wy : Nat} {vt : Nat → Nat} (F : Sf w h mp dr hd wy vt) (C : CM w h mp dr hd wy vt M) (on c : Int32) : PC X l mX7_at 2 [.ref 0, .int on, .int c] G0 M (fun v M' => v = some (.int (if okc (w * h) c = true then nI (sl on mp dr (tn c)) else -1)) ∧ (CM w h mp dr hd wy vt M' ∧ FN M M')) := by
  by_cases hon : on = 0
  · exact r_at0 F C on c hon
  · exact r_at1 F C on c hon
theorem r_cells {w h : Nat} {mp dr hd : Nat → Nat} {wy : Nat} {vt : Nat → Nat} (F : Sf w h mp dr hd wy vt) (C : CM w h mp dr hd wy vt M) (on lv : Int32) : PC X l mX7_cells 3 [.ref 0, .int on, .int lv] G0 M (fun v M' => v = some (.int (if okl 5 lv = true then nI (many (sl on mp dr) (tn lv) (w * h)) else -1)) ∧ (CM w h mp dr hd wy vt M' ∧ FN M M')) := by
  by_cases hon : on = 0
  · exact r_cells0 F C on lv hon
  · exact r_cells1 F C on lv hon
theorem r_beside {w h : Nat} {mp dr hd : Nat → Nat} {wy : Nat} {vt : Nat → Nat} (F : Sf w h mp dr hd wy vt) (C : CM w h mp dr hd wy vt M) (on a b : Int32) : PC X l mX7_beside 3 [.ref 0, .int on, .int a, .int b] G0 M (fun v M' => v = some (.int (if (okl 5 a && okl 5 b) = true then (if a = b then -3 else bo (nbr w (w * h) (sl on mp dr) (tn a) (tn b))) else -1)) ∧ (CM w h mp dr hd wy vt M' ∧ FN M M')) := by
  by_cases hon : on = 0
  · exact r_beside0 F C on a b hon
  · exact r_beside1 F C on a b hon
theorem r_box {w h : Nat} {mp dr hd : Nat → Nat} {wy : Nat} {vt : Nat → Nat} (F : Sf w h mp dr hd wy vt) (C : CM w h mp dr hd wy vt M) (on c e lv : Int32) : PC X l mX7_box 2 [.ref 0, .int on, .int c, .int e, .int lv] G0 M (fun v M' => v = some (.int (if (okc (w * h) c && okc (w * h) e && okl 6 lv) = true then (if (tn e % w < tn c % w ∨ tn e / w < tn c / w) then -2 else nI (fb_ct (fun x => inbox w (tn c) (tn e) x && !decide (sl on mp dr x = tn lv)) (w * h))) else -1)) ∧ (CM w h (if (okc (w * h) c && okc (w * h) e && okl 6 lv) = true ∧ ¬ (tn e % w < tn c % w ∨ tn e / w < tn c / w) ∧ on = 0 then boxd w (tn c) (tn e) (tn lv) mp (w * h) else mp) (if (okc (w * h) c && okc (w * h) e && okl 6 lv) = true ∧ ¬ (tn e % w < tn c % w ∨ tn e / w < tn c / w) ∧ ¬ on = 0 then boxd w (tn c) (tn e) (tn lv) dr (w * h) else dr) hd wy vt M' ∧ FN M M')) := by
  by_cases hon : on = 0
  · exact r_box0 F C on c e lv hon
  · exact r_box1 F C on c e lv hon
theorem r_trace {w h : Nat} {mp dr hd : Nat → Nat} {wy : Nat} {vt : Nat → Nat} (F : Sf w h mp dr hd wy vt) (C : CM w h mp dr hd wy vt M) : PC X l mX7_trace 3 [.ref 0] G0 M (fun v M' => v = some (.int (nI (fb_ct (fun c => !decide (mp c = dr c)) (w * h)))) ∧ (CM w h mp mp hd wy vt M' ∧ FN M M')) := by
  refine PC.ofW okX7_trace ?_
  have hn := F.1.n
  refine PW.funV rfl trivial sX7_123 rfl rfl (by decide) rfl (c_unlike F C) ?_
  refine PW.funS rfl trivial sX7_117 rfl (by decide) rfl (j_bitCount _) ?_
  refine PW.callV rfl trivial sX7_127 rfl rfl (by decide) rfl (c_copy C.2.1) (fun v16 M16 hq16 => ?_)
  obtain ⟨rfl, hF1, hS1⟩ := hq16
  refine PW.iret rfl rfl trivial ?_
  exact ⟨by rw [unl_ct hn], C.dr hF1 hS1, hF1.fn⟩
theorem r_changed {w h : Nat} {mp dr hd : Nat → Nat} {wy : Nat} {vt : Nat → Nat} (F : Sf w h mp dr hd wy vt) (C : CM w h mp dr hd wy vt M) : PC X l mX7_changed 3 [.ref 0] G0 M (fun v M' => v = some (.int (nI (fb_ct (fun c => !decide (mp c = 6) && !decide (mp c = dr c)) (w * h)))) ∧ (CM w h mp dr hd wy vt M' ∧ FN M M')) := by
  refine PC.ofW okX7_changed ?_
  have hn := F.1.n
  refine PW.funV rfl trivial sX7_123 rfl rfl (by decide) rfl (c_unlike F C) ?_
  refine PW.funV rfl trivial sX7_186 rfl rfl (by decide) rfl (c_land2 C.2.1) ?_
  refine PW.funS rfl trivial sX7_117 rfl (by decide) rfl (show PF X l mJ13_bitCount_95d88 0 [.long (mk (fun i => decide (i < w * h) && !decide (mp i = dr i)) &&& mk (fun i => decide (mp i < 6)))] G0 M (.int (nI (fb_ct (fun c => !decide (mp c = 6) && !decide (mp c = dr c)) (w * h)))) from by rw [mk_and, ← chd_ct F.1.m hn]; exact j_bitCount _) ?_
  refine PW.iret rfl rfl trivial ?_
  exact ⟨rfl, C, FN.rf⟩
theorem r_heads {w h : Nat} {mp dr hd : Nat → Nat} {wy : Nat} {vt : Nat → Nat} (F : Sf w h mp dr hd wy vt) (C : CM w h mp dr hd wy vt M) (lv n : Int32) : PC X l mX7_heads 2 [.ref 0, .int lv, .int n] G0 M (fun v M' => v = some (.int (if okl 5 lv = true then (if okl 999 n = true then nI (hd (tn lv)) else -2) else -1)) ∧ (CM w h mp dr (if (okl 5 lv && okl 999 n) = true then set1 hd (tn lv) (tn n) else hd) wy vt M' ∧ FN M M')) := by
  refine PC.ofW okX7_heads ?_
  have hn := F.1.n
  refine PW.funS rfl trivial sX7_131 rfl (by decide) rfl (u_isLand _) ?_
  refine PW.zne rfl trivial (fun h4 => ?_) (fun h4 => ?_)
  · skip
    rw [bo_ne] at h4
    obtain ⟨j, hj, rfl⟩ := okl_x (m := 5) h4
    have tj : tn (nI j) = j := tn_nI (by omega)
    refine PW.funS rfl trivial sX7_137 rfl (by decide) rfl (u_isPeople _) ?_
    refine PW.zne rfl trivial (fun h13 => ?_) (fun h13 => ?_)
    · skip
      rw [bo_ne] at h13
      obtain ⟨k, hk, rfl⟩ := okl_x (m := 999) h13
      have tk : tn (nI k) = k := tn_nI (by omega)
      refine PW.iret rfl rfl ⟨⟨trivial, vp_in_nI (by omega) (by decide)⟩, vp_in_nI (by omega) (by decide)⟩ ?_
      refine ⟨?_, ?_⟩
      · rw [h4, h13, tj, nI_clamp (by omega), C.2.2.2.1.2 j (by omega)]; rfl
      · rw [h4, h13, tj, tk, nI_clamp (by omega), Bool.and_self, if_pos rfl]
        have hF1 : FC [7] [] M (va_up M.1 7 (upd (M.1 7) j (nI k)), M.2) := FC.rf.pi
        refine ⟨⟨C.1.fc hF1, C.2.1.fc hF1, C.2.2.1.fc hF1, ⟨C.2.2.2.1.1, fun x hx => ?_⟩, C.2.2.2.2⟩, hF1.fn⟩
        rw [set1_eq]
        by_cases q : x = j
        · rw [if_pos q, q]; exact up_s
        · rw [if_neg q]; exact (up_n q).trans (C.2.2.2.1.2 x hx)
    · skip
      rw [bo_eq] at h13
      refine PW.iret rfl rfl trivial ?_
      refine ⟨?_, ?_⟩
      · rw [h4, h13]; rfl
      · simp [h13]; exact ⟨C, FN.rf⟩
  · skip
    rw [bo_eq] at h4
    refine PW.iret rfl rfl trivial ?_
    refine ⟨?_, ?_⟩
    · simp [h4]
    · simp [h4]; exact ⟨C, FN.rf⟩
theorem r_way {w h : Nat} {mp dr hd : Nat → Nat} {wy : Nat} {vt : Nat → Nat} (F : Sf w h mp dr hd wy vt) (C : CM w h mp dr hd wy vt M) (x : Int32) : PC X l mX7_way 2 [.ref 0, .int x] G0 M (fun v M' => v = some (.int (if okl 2 x = true then nI wy else -2)) ∧ (CM w h mp dr hd (if okl 2 x = true then tn x else wy) vt M' ∧ FN M M')) := by
  refine PC.ofW okX7_way ?_
  have hn := F.1.n
  refine PW.zlt rfl trivial (fun h1 => ?_) (fun h1 => ?_)
  · skip
    have hno : okl 2 x = false := by
      rw [fa_lt] at h1
      unfold okl; exact decide_eq_false (fun q => by have : (0 : Int32).toInt = 0 := by decide
                                                     omega)
    refine PW.iret rfl rfl trivial ?_
    refine ⟨?_, ?_⟩
    · rw [hno]; rfl
    · simp [hno]; exact ⟨C, FN.rf⟩
  · skip
    rw [fa_lt] at h1
    refine PW.ilt rfl trivial (fun h6 => ?_) (fun h6 => ?_)
    · skip
      rw [fa_lt] at h6
      have hok : okl 2 x = true := by
        unfold okl; exact decide_eq_true (by have : (3 : Int32).toInt = 3 := by decide
                                             have : (0 : Int32).toInt = 0 := by decide
                                             omega)
      obtain ⟨k, hk, rfl⟩ := okl_x (m := 2) hok
      have tk : tn (nI k) = k := tn_nI (by omega)
      refine PW.iret rfl rfl trivial ?_
      first
      | (refine ⟨?_, ?_⟩
         · rw [hno]; rfl
         · simp [hno]; exact ⟨C, FN.rf⟩)
      | (refine ⟨?_, ?_⟩
         · rw [hok, C.2.2.2.1.1]; rfl
         · rw [hok, tk, if_pos rfl]
           have hF1 : FC [6] [] M (va_up M.1 6 (upd (M.1 6) 3 (nI k)), M.2) := FC.rf.pi
           exact ⟨⟨C.1.fc hF1, C.2.1.fc hF1, C.2.2.1.fc hF1, ⟨up_s, C.2.2.2.1.2⟩, C.2.2.2.2⟩, hF1.fn⟩)
    · skip
      rw [fa_lt] at h6
      have hno : okl 2 x = false := by
        unfold okl; exact decide_eq_false (fun q => by have : (3 : Int32).toInt = 3 := by decide
                                                       omega)
      refine PW.iret rfl rfl trivial ?_
      refine ⟨?_, ?_⟩
      · rw [hno]; rfl
      · simp [hno]; exact ⟨C, FN.rf⟩
theorem r_due {w h : Nat} {mp dr hd : Nat → Nat} {wy : Nat} {vt : Nat → Nat} (F : Sf w h mp dr hd wy vt) (C : CM w h mp dr hd wy vt M) (lv : Int32) : PC X l mX7_due 4 [.ref 0, .int lv] G0 M (fun v M' => v = some (.int (if okl 5 lv = true then nI ((due hd wy (w * h - many mp 6 (w * h))) (tn lv)) else -1)) ∧ (CM w h mp dr hd wy vt M' ∧ FN M M')) := by
  refine PC.ofW okX7_due ?_
  have hn := F.1.n
  refine PW.funS rfl trivial sX7_131 rfl (by decide) rfl (u_isLand _) ?_
  refine PW.zne rfl trivial (fun h4 => ?_) (fun h4 => ?_)
  · skip
    rw [bo_ne] at h4
    obtain ⟨j, hj, rfl⟩ := okl_x (m := 5) h4
    have tj : tn (nI j) = j := tn_nI (by omega)
    refine PW.callV rfl trivial sX7_148 rfl rfl (by decide) rfl (c_share F C) (fun v10 M10 hq10 => ?_)
    obtain ⟨rfl, hF1, hz1⟩ := hq10
    have C1 := C.fc hF1
    refine PW.iret rfl rfl ⟨trivial, vp_in_nI (by omega) (by decide)⟩ ?_
    exact ⟨by rw [h4, tj, nI_clamp (by omega), hz1 j (by omega)]; rfl, C1, hF1.fn⟩
  · skip
    rw [bo_eq] at h4
    refine PW.iret rfl rfl trivial ?_
    exact ⟨by rw [h4]; rfl, C, FN.rf⟩
theorem r_parts {w h : Nat} {mp dr hd : Nat → Nat} {wy : Nat} {vt : Nat → Nat} (F : Sf w h mp dr hd wy vt) (C : CM w h mp dr hd wy vt M) (lv : Int32) : PC X l mX7_parts 3 [.ref 0, .int lv] G0 M (fun v M' => v = some (.int (if okl 5 lv = true then nI (prt (fun c => decide (dr c = tn lv)) w (w * h)) else -1)) ∧ (CM w h mp dr hd wy vt M' ∧ FN M M')) := by
  refine PC.ofW okX7_parts ?_
  have hn := F.1.n
  refine PW.funS rfl trivial sX7_131 rfl (by decide) rfl (u_isLand _) ?_
  refine PW.zne rfl trivial (fun h4 => ?_) (fun h4 => ?_)
  · skip
    rw [bo_ne] at h4
    obtain ⟨j, hj, rfl⟩ := okl_x (m := 5) h4
    have tj : tn (nI j) = j := tn_nI (by omega)
    refine PW.funV rfl trivial sX7_111 rfl rfl (by decide) rfl (c_cel4 j (by omega) F.1.g C.1 F.1.d C.2.2.1) ?_
    refine PW.funV rfl trivial sX7_154 rfl rfl (by decide) rfl (c_parts _ F.1.g C.1 (fun x hx => by have := F.1.d.2 x hx; simp; omega)) ?_
    refine PW.iret rfl rfl trivial ?_
    exact ⟨by rw [h4, tj]; rfl, C, FN.rf⟩
  · skip
    rw [bo_eq] at h4
    refine PW.iret rfl rfl trivial ?_
    exact ⟨by rw [h4]; rfl, C, FN.rf⟩
theorem r_faults {w h : Nat} {mp dr hd : Nat → Nat} {wy : Nat} {vt : Nat → Nat} (F : Sf w h mp dr hd wy vt) (C : CM w h mp dr hd wy vt M) : PC X l mX7_faults 4 [.ref 0] G0 M (fun v M' => v = some (.int (nI (flt w (w * h) mp dr (due hd wy (w * h - many mp 6 (w * h))) 6))) ∧ (CM w h mp dr hd wy vt M' ∧ FN M M')) := by
  refine PC.ofW okX7_faults ?_
  have hn := F.1.n
  obtain ⟨du, edu⟩ : ∃ du, du = due hd wy (w * h - many mp 6 (w * h)) := ⟨_, rfl⟩
  have hdu : ∀ j, j < 6 → du j < 2 ^ 30 := fun j hj => by rw [edu]; exact due_lt F.2.1 (by omega) hj
  have hdu7 : ∀ j, j < 6 → du j ≤ 37 := fun j hj => by rw [edu]; have := due_le (hd := hd) (wy := wy) (n := w * h - many mp 6 (w * h)) hj; omega
  rw [← edu]
  refine PW.callV rfl trivial sX7_148 rfl rfl (by decide) rfl (c_share F C) (fun v1 M1 hq1 => ?_)
  obtain ⟨rfl, hF1, hz1⟩ := hq1
  have C1 := C.fc hF1
  rw [← edu] at hz1
  refine PW.funV rfl trivial sX7_161 rfl rfl (by decide) rfl (c_prs2 F.1.g C1.1 F.1.m C1.2.1) ?_
  refine PW.funV rfl trivial sX7_164 rfl rfl (by decide) rfl (c_fag F C1 du hdu hz1) ?_
  refine PW.iret rfl rfl trivial ?_
  exact ⟨rfl, C1, hF1.fn⟩
theorem r_would {w h : Nat} {mp dr hd : Nat → Nat} {wy : Nat} {vt : Nat → Nat} (F : Sf w h mp dr hd wy vt) (C : CM w h mp dr hd wy vt M) (c lv : Int32) : PC X l mX7_would 5 [.ref 0, .int c, .int lv] G0 M (fun v M' => v = some (.int (if (okc (w * h) c && okl 6 lv) = true then (if chg w (w * h) dr (tn c) (tn lv) = true then nI (flt w (w * h) mp (set1 dr (tn c) (tn lv)) (due hd wy (w * h - many mp 6 (w * h))) 6) else -3) else -1)) ∧ (CM w h mp dr hd wy vt M' ∧ FN M M')) := by
  refine PC.ofW okX7_would ?_
  have hn := F.1.n
  obtain ⟨du, edu⟩ : ∃ du, du = due hd wy (w * h - many mp 6 (w * h)) := ⟨_, rfl⟩
  have hdu : ∀ j, j < 6 → du j < 2 ^ 30 := fun j hj => by rw [edu]; exact due_lt F.2.1 (by omega) hj
  have hdu7 : ∀ j, j < 6 → du j ≤ 37 := fun j hj => by rw [edu]; have := due_le (hd := hd) (wy := wy) (n := w * h - many mp 6 (w * h)) hj; omega
  rw [← edu]
  refine PW.funV rfl trivial sX7_83 rfl rfl (by decide) rfl (c_knows _ F.1.g C.1) ?_
  refine PW.zeq rfl trivial (fun h8 => ?_) (fun h8 => ?_)
  · skip
    rw [bo_eq] at h8
    refine PW.iret rfl rfl trivial ?_
    first | exact ⟨by rw [h8]; rfl, C, FN.rf⟩ | exact ⟨by rw [h8, h15]; rfl, C, FN.rf⟩
  · skip
    rw [bo_ne] at h8
    obtain ⟨k, hk, rfl⟩ := okc_x h8
    have tk : tn (nI k) = k := tn_nI (by omega)
    refine PW.funS rfl trivial sX7_86 rfl (by decide) rfl (u_isOwner _) ?_
    refine PW.zne rfl trivial (fun h15 => ?_) (fun h15 => ?_)
    · skip
      rw [bo_ne] at h15
      obtain ⟨j, hj, rfl⟩ := okl_x (m := 6) h15
      have tj : tn (nI j) = j := tn_nI (by omega)
      refine PW.funV rfl trivial sX7_167 rfl rfl (by decide) rfl (c_chg F C k j hk (by omega)) ?_
      refine PW.zne rfl trivial (fun h26 => ?_) (fun h26 => ?_)
      · skip
        rw [bo_ne] at h26
        refine PW.callV rfl trivial sX7_148 rfl rfl (by decide) rfl (c_share F C) (fun v33 M33 hq33 => ?_)
        obtain ⟨rfl, hF1, hz1⟩ := hq33
        have C1 := C.fc hF1
        rw [← edu] at hz1
        refine PW.funV rfl trivial sX7_161 rfl rfl (by decide) rfl (c_prs2 F.1.g C1.1 F.1.m C1.2.1) ?_
        refine PW.callV rfl trivial sX7_170 rfl rfl (by decide) rfl (c_fbh F C1 du hdu hz1 k j hk (by omega)) (fun v46 M46 hq46 => ?_)
        obtain ⟨rfl, hF2, hS2⟩ := hq46
        refine PW.iret rfl rfl trivial ?_
        exact ⟨by rw [h8, h15, tk, tj, h26]; rfl, C1.dr hF2 hS2, hF1.fn.tr hF2.fn⟩
      · skip
        rw [bo_eq] at h26
        refine PW.iret rfl rfl trivial ?_
        exact ⟨by rw [h8, h15, tk, tj, h26]; rfl, C, FN.rf⟩
    · skip
      rw [bo_eq] at h15
      refine PW.iret rfl rfl trivial ?_
      first | exact ⟨by rw [h8]; rfl, C, FN.rf⟩ | exact ⟨by rw [h8, h15]; rfl, C, FN.rf⟩
theorem r_mayHand {w h : Nat} {mp dr hd : Nat → Nat} {wy : Nat} {vt : Nat → Nat} (F : Sf w h mp dr hd wy vt) (C : CM w h mp dr hd wy vt M) (c lv : Int32) : PC X l mX7_mayHand 5 [.ref 0, .int c, .int lv] G0 M (fun v M' => v = some (.int (if (okc (w * h) c && okl 5 lv) = true then bo (mayh w (w * h) dr (tn c) (tn lv)) else -1)) ∧ (CM w h mp dr hd wy vt M' ∧ FN M M')) := by
  refine PC.ofW okX7_mayHand ?_
  have hn := F.1.n
  refine PW.funV rfl trivial sX7_83 rfl rfl (by decide) rfl (c_knows _ F.1.g C.1) ?_
  refine PW.zeq rfl trivial (fun h8 => ?_) (fun h8 => ?_)
  · skip
    rw [bo_eq] at h8
    refine PW.iret rfl rfl trivial ?_
    first | exact ⟨by rw [h8]; rfl, C, FN.rf⟩ | exact ⟨by rw [h8, h15]; rfl, C, FN.rf⟩
  · skip
    rw [bo_ne] at h8
    obtain ⟨k, hk, rfl⟩ := okc_x h8
    have tk : tn (nI k) = k := tn_nI (by omega)
    refine PW.funS rfl trivial sX7_131 rfl (by decide) rfl (u_isLand _) ?_
    refine PW.zne rfl trivial (fun h15 => ?_) (fun h15 => ?_)
    · skip
      rw [bo_ne] at h15
      obtain ⟨j, hj, rfl⟩ := okl_x (m := 5) h15
      have tj : tn (nI j) = j := tn_nI (by omega)
      refine PW.funV rfl trivial sX7_174 rfl rfl (by decide) rfl (c_allow F C k j hk (by omega)) ?_
      refine PW.zeq rfl trivial (fun h29 => ?_) (fun h29 => ?_)
      · skip
        rw [bo_eq] at h29
        refine PW.iret rfl rfl trivial ?_
        exact ⟨by rw [h8, h15, tk, tj, h29]; rfl, C, FN.rf⟩
      · skip
        rw [bo_ne] at h29
        refine PW.goto rfl trivial ?_
        refine PW.iret rfl rfl trivial ?_
        exact ⟨by rw [h8, h15, tk, tj, h29]; rfl, C, FN.rf⟩
    · skip
      rw [bo_eq] at h15
      refine PW.iret rfl rfl trivial ?_
      first | exact ⟨by rw [h8]; rfl, C, FN.rf⟩ | exact ⟨by rw [h8, h15]; rfl, C, FN.rf⟩
theorem r_hand {w h : Nat} {mp dr hd : Nat → Nat} {wy : Nat} {vt : Nat → Nat} (F : Sf w h mp dr hd wy vt) (C : CM w h mp dr hd wy vt M) (c lv : Int32) : PC X l mX7_hand 5 [.ref 0, .int c, .int lv] G0 M (fun v M' => v = some (.int (if (okc (w * h) c && okl 5 lv) = true then (if mayh w (w * h) dr (tn c) (tn lv) = true then nI (dr (tn c)) else -3) else -1)) ∧ (CM w h mp (if (okc (w * h) c && okl 5 lv && mayh w (w * h) dr (tn c) (tn lv)) = true then set1 dr (tn c) (tn lv) else dr) hd wy vt M' ∧ FN M M')) := by
  refine PC.ofW okX7_hand ?_
  have hn := F.1.n
  refine PW.funV rfl trivial sX7_83 rfl rfl (by decide) rfl (c_knows _ F.1.g C.1) ?_
  refine PW.zeq rfl trivial (fun h8 => ?_) (fun h8 => ?_)
  · skip
    rw [bo_eq] at h8
    refine PW.iret rfl rfl trivial ?_
    first
    | (refine ⟨?_, ?_⟩
       · simp [h8]
       · simp [h8]; exact ⟨C, FN.rf⟩)
    | (refine ⟨?_, ?_⟩
       · simp [h15]
       · simp [h15]; exact ⟨C, FN.rf⟩)
  · skip
    rw [bo_ne] at h8
    obtain ⟨k, hk, rfl⟩ := okc_x h8
    have tk : tn (nI k) = k := tn_nI (by omega)
    refine PW.funS rfl trivial sX7_131 rfl (by decide) rfl (u_isLand _) ?_
    refine PW.zne rfl trivial (fun h15 => ?_) (fun h15 => ?_)
    · skip
      rw [bo_ne] at h15
      obtain ⟨j, hj, rfl⟩ := okl_x (m := 5) h15
      have tj : tn (nI j) = j := tn_nI (by omega)
      refine PW.funV rfl trivial sX7_174 rfl rfl (by decide) rfl (c_allow F C k j hk (by omega)) ?_
      refine PW.zne rfl trivial (fun h29 => ?_) (fun h29 => ?_)
      · skip
        rw [bo_ne] at h29
        refine PW.funV rfl trivial sX7_93 rfl rfl (by decide) rfl (c_own4 k (by omega) C.2.2.1 (F.1.2.2.2.2.2.1 k)) ?_
        refine PW.callV rfl trivial sX7_97 rfl rfl (by decide) rfl (show PC X l mX5_put 0 [.ref 4, .long ((1 : Int64) <<< ((nI k).toInt64 &&& 63)), .int (nI j)] G0 M (fun v M2 => v = none ∧ FC [] [5] M M2 ∧ Sh 5 (set1 dr k j) M2) from by rw [mk_bit (by omega), ← put_1]; exact c_put4 _ _ (by omega) C.2.2.1) (fun v52 M52 hq52 => ?_)
        obtain ⟨rfl, hF1, hS1⟩ := hq52
        refine PW.iret rfl rfl trivial ?_
        refine ⟨?_, ?_⟩
        · rw [h8, h15, tk, tj, h29]; rfl
        · rw [h8, h15, tk, tj, h29]; exact ⟨C.dr hF1 hS1, hF1.fn⟩
      · skip
        rw [bo_eq] at h29
        refine PW.iret rfl rfl trivial ?_
        refine ⟨?_, ?_⟩
        · rw [h8, h15, tk, tj, h29]; rfl
        · rw [tk, tj, h29, Bool.and_false, if_neg (by decide)]; exact ⟨C, FN.rf⟩
    · skip
      rw [bo_eq] at h15
      refine PW.iret rfl rfl trivial ?_
      first
      | (refine ⟨?_, ?_⟩
         · simp [h8]
         · simp [h8]; exact ⟨C, FN.rf⟩)
      | (refine ⟨?_, ?_⟩
         · simp [h15]
         · simp [h15]; exact ⟨C, FN.rf⟩)
theorem r_mend {w h : Nat} {mp dr hd : Nat → Nat} {wy : Nat} {vt : Nat → Nat} (F : Sf w h mp dr hd wy vt) (C : CM w h mp dr hd wy vt M) : PC X l mX7_mend 5 [.ref 0] G0 M (fun v M' => v = some (.int (ofd (mst w (w * h) mp dr (due hd wy (w * h - many mp 6 (w * h))) (7 * (w * h))).2)) ∧ (CM w h mp (mnd w (w * h) mp dr (due hd wy (w * h - many mp 6 (w * h)))) hd wy vt M' ∧ FN M M')) := by
  refine PC.ofW okX7_mend ?_
  have hn := F.1.n
  obtain ⟨du, edu⟩ : ∃ du, du = due hd wy (w * h - many mp 6 (w * h)) := ⟨_, rfl⟩
  have hdu : ∀ j, j < 6 → du j < 2 ^ 30 := fun j hj => by rw [edu]; exact due_lt F.2.1 (by omega) hj
  have hdu7 : ∀ j, j < 6 → du j ≤ 37 := fun j hj => by rw [edu]; have := due_le (hd := hd) (wy := wy) (n := w * h - many mp 6 (w * h)) hj; omega
  rw [← edu]
  have loop29 : ∀ k : Nat, ∀ (c : Nat) (M2 : Mem), c ≤ w * h → FC [8, 9] [5] M M2 → CM w h mp dr hd wy vt M2 → (∀ j, j < 6 → M2.1 8 j = nI (du j)) → w * h - c < k → PW X l mX7_mend 5 (fun v M' => v = some (.int (ofd (mst w (w * h) mp dr du (7 * (w * h))).2)) ∧ (CM w h mp (mnd w (w * h) mp dr du) hd wy vt M' ∧ FN M M')) 29 [.ref 0, .long (mk (prs w (w * h) mp)), .null, .int (nI ((mst w (w * h) mp dr du (7 * c))).1), .int (match (mst w (w * h) mp dr du (7 * c)).2 with | none => -9 | some i => nI (i / 7)), .int (match (mst w (w * h) mp dr du (7 * c)).2 with | none => -9 | some i => nI (i % 7)), .int (nI c), .null, .null] [] G0 M2 := by
    intro k
    induction k with
    | zero => intro c M2 hc hF C2 hz2 hk; exact absurd hk (Nat.not_lt_zero _)
    | succ k ih =>
      intro c M2 hc hF C2 hz2 hk
      have loop44 : ∀ k44 : Nat, ∀ (lv : Nat) (M3 : Mem), c < w * h → lv ≤ 7 → FC [8, 9] [5] M M3 → CM w h mp dr hd wy vt M3 → (∀ j, j < 6 → M3.1 8 j = nI (du j)) → 7 - lv < k44 → PW X l mX7_mend 5 (fun v M' => v = some (.int (ofd (mst w (w * h) mp dr du (7 * (w * h))).2)) ∧ (CM w h mp (mnd w (w * h) mp dr du) hd wy vt M' ∧ FN M M')) 44 [.ref 0, .long (mk (prs w (w * h) mp)), .null, .int (nI ((mst w (w * h) mp dr du (7 * c + lv))).1), .int (match (mst w (w * h) mp dr du (7 * c + lv)).2 with | none => -9 | some i => nI (i / 7)), .int (match (mst w (w * h) mp dr du (7 * c + lv)).2 with | none => -9 | some i => nI (i % 7)), .int (nI c), .int (nI lv), .null] [] G0 M3 := by
        intro k44
        induction k44 with
        | zero => intro lv M3 hcn hl hF3 C3 hz3 hk3; exact absurd hk3 (Nat.not_lt_zero _)
        | succ k44 ih44 =>
          intro lv M3 hcn hl hF3 C3 hz3 hk3
          have hm := mst_le (w := w) (mp := mp) (dr := dr) hn hdu7 (7 * c + lv)
          have hf := flt_le (w := w) (mp := mp) (dr := set1 dr c lv) hn hdu7 6 (Nat.le_refl _)
          refine PW.igt rfl trivial (fun h48 => ?_) (fun h48 => ?_)
          · skip
            rw [show (6 : Int32) = nI 6 from rfl, nI_ltI (by omega) (by omega)] at h48
            have e9 : lv = 7 := by omega
            subst e9
            refine PW.goto rfl trivial ?_
            rw [nI_1]
            refine PW.nl [7] ?_
            refine PW.lc ?_ (ih (c + 1) M3 (by omega) hF3 C3 hz3 (by omega))
            rw [show 7 * (c + 1) = 7 * c + 7 by omega]; rfl
          · skip
            rw [show (6 : Int32) = nI 6 from rfl, nI_ltI (by omega) (by omega)] at h48
            have hl6 : lv ≤ 6 := by omega
            have e7 : (7 * c + lv) / 7 = c := by omega
            have e8 : (7 * c + lv) % 7 = lv := by omega
            refine PW.funV rfl trivial sX7_167 rfl rfl (by decide) rfl (c_chg F C3 c lv hcn hl6) ?_
            refine PW.zeq rfl trivial (fun h59 => ?_) (fun h59 => ?_)
            · skip
              rw [bo_eq] at h59
              have hst : mst w (w * h) mp dr du (7 * c + lv + 1) = mst w (w * h) mp dr du (7 * c + lv) := by simp only [mst, e7, e8, h59]; simp
              refine PW.goto rfl trivial ?_
              first
              | (rw [nI_1]
                 refine PW.nl [8] ?_
                 refine PW.lc ?_ (ih44 (lv + 1) M68 hcn (by omega) hF5 C4 hz4 (by omega))
                 rw [← Nat.add_assoc, hst]; rfl)
              | (rw [nI_1]
                 refine PW.nl [8] ?_
                 refine PW.lc ?_ (ih44 (lv + 1) M3 hcn (by omega) hF3 C3 hz3 (by omega))
                 rw [← Nat.add_assoc, hst]; rfl)
            · skip
              rw [bo_ne] at h59
              refine PW.callV rfl trivial sX7_170 rfl rfl (by decide) rfl (c_fbh F C3 du hdu hz3 c lv hcn hl6) (fun v68 M68 hq68 => ?_)
              obtain ⟨rfl, hF4, hS4⟩ := hq68
              have C4 := C3.dr hF4 hS4
              have hF5 : FC [8, 9] [5] M M68 := hF3.tr hF4.mono
              have hz4 : ∀ j, j < 6 → M68.1 8 j = nI (du j) := fun j hj => by rw [hF4.i 8]; exact hz3 j hj
              refine PW.ige rfl trivial (fun h76 => ?_) (fun h76 => ?_)
              · skip
                rw [nI_leI (by omega) (by omega)] at h76
                have hst : mst w (w * h) mp dr du (7 * c + lv + 1) = mst w (w * h) mp dr du (7 * c + lv) := by
                  simp only [mst, e7, e8, h59]
                  rw [if_neg (by omega)]
                refine PW.goto rfl trivial ?_
                first
                | (rw [nI_1]
                   refine PW.nl [8] ?_
                   refine PW.lc ?_ (ih44 (lv + 1) M68 hcn (by omega) hF5 C4 hz4 (by omega))
                   rw [← Nat.add_assoc, hst]; rfl)
                | (rw [nI_1]
                   refine PW.nl [8] ?_
                   refine PW.lc ?_ (ih44 (lv + 1) M3 hcn (by omega) hF3 C3 hz3 (by omega))
                   rw [← Nat.add_assoc, hst]; rfl)
              · skip
                rw [nI_leI (by omega) (by omega)] at h76
                have hst : mst w (w * h) mp dr du (7 * c + lv + 1) = (flt w (w * h) mp (set1 dr c lv) du 6, some (7 * c + lv)) := by
                  simp only [mst, e7, e8, h59]
                  rw [if_pos ⟨trivial, by omega⟩]
                refine PW.goto rfl trivial ?_
                rw [nI_1]
                refine PW.nl [8] ?_
                refine PW.lc ?_ (ih44 (lv + 1) M68 hcn (by omega) hF5 C4 hz4 (by omega))
                rw [← Nat.add_assoc, hst]
                dsimp only
                rw [e7, e8]; rfl
      refine PW.funV rfl trivial sX7_79 rfl rfl (by decide) rfl (c_size F.1.g C2.1) ?_
      refine PW.ige rfl trivial (fun h38 => ?_) (fun h38 => ?_)
      · skip
        rw [nI_leI (by omega) (by omega)] at h38
        have e9 : c = w * h := by omega
        subst e9
        have hof : ∀ i, (mst w (w * h) mp dr du (7 * (w * h))).2 = some i → i < 252 := fun i q => by have := mst_lt q; omega
        refine PW.ine rfl trivial (fun h106 => ?_) (fun h106 => ?_)
        · skip
          obtain ⟨i, hi⟩ : ∃ i, (mst w (w * h) mp dr du (7 * (w * h))).2 = some i := by
            cases e : (mst w (w * h) mp dr du (7 * (w * h))).2 with
            | none => rw [e] at h106; exact absurd rfl h106
            | some i => exact ⟨i, rfl⟩
          have hi2 := mst_lt hi
          simp only [hi]
          refine PW.callV rfl trivial sX7_97 rfl rfl (by decide) rfl (show PC X l mX5_put 0 [.ref 4, .long ((1 : Int64) <<< ((nI (i / 7)).toInt64 &&& 63)), .int (nI (i % 7))] G0 M2 (fun v M3 => v = none ∧ FC [] [5] M2 M3 ∧ Sh 5 (set1 dr (i / 7) (i % 7)) M3) from by rw [mk_bit (by omega), ← put_1]; exact c_put4 _ _ (by omega) C2.2.2.1) (fun v122 M122 hq122 => ?_)
          obtain ⟨rfl, hF3, hS3⟩ := hq122
          refine PW.iret rfl rfl trivial ?_
          exact ⟨by rw [show (10 : Int32) = nI 10 from rfl, pk_mul, nI_add]; rfl, by rw [show mnd w (w * h) mp dr du = set1 dr (i / 7) (i % 7) from by simp only [mnd, hi]]; exact ⟨C2.dr hF3 hS3, hF.fn.tr hF3.fn⟩⟩
        · skip
          have hno : (mst w (w * h) mp dr du (7 * (w * h))).2 = none := by
            cases e : (mst w (w * h) mp dr du (7 * (w * h))).2 with
            | none => rfl
            | some i =>
              have hi2 := mst_lt e
              exfalso
              rw [e] at h106
              have e2 := congrArg Int32.toInt h106
              dsimp only at e2
              rw [nI_t (by omega)] at e2
              have e3 : (-9 : Int32).toInt = -9 := by decide
              omega
          refine PW.iret rfl rfl trivial ?_
          exact ⟨by rw [hno]; rfl, by rw [show mnd w (w * h) mp dr du = dr from by simp only [mnd, hno]]; exact ⟨C2, hF.fn⟩⟩
      · skip
        rw [nI_leI (by omega) (by omega)] at h38
        refine PW.to 44 rfl trivial ?_
        exact loop44 8 0 M2 (by omega) (by omega) hF C2 hz2 (by omega)
  refine PW.callV rfl trivial sX7_148 rfl rfl (by decide) rfl (c_share F C) (fun v1 M1 hq1 => ?_)
  obtain ⟨rfl, hF1, hz1⟩ := hq1
  have C1 := C.fc hF1
  rw [← edu] at hz1
  refine PW.funV rfl trivial sX7_161 rfl rfl (by decide) rfl (c_prs2 F.1.g C1.1 F.1.m C1.2.1) ?_
  refine PW.funV rfl trivial sX7_164 rfl rfl (by decide) rfl (c_fag F C1 du hdu hz1) ?_
  refine PW.to 29 rfl trivial ?_
  exact loop29 (w * h + 1) 0 M1 (by omega) hF1.mono C1 hz1 (by omega)
theorem r_chain {w h : Nat} {mp dr hd : Nat → Nat} {wy : Nat} {vt : Nat → Nat} (F : Sf w h mp dr hd wy vt) (C : CM w h mp dr hd wy vt M) : PC X l mX7_chain 6 [.ref 0] G0 M (fun v M' => v = some (.int ((match (cst (hnd w (w * h) dr) (hasless (w * h) dr (due hd wy (w * h - many mp 6 (w * h)))) (hasmore (w * h) dr (due hd wy (w * h - many mp 6 (w * h))))) with | none => -9 | some s => nI (dn (hnd w (w * h) dr) (hasless (w * h) dr (due hd wy (w * h - many mp 6 (w * h)))) 7 s)))) ∧ (CM w h mp dr hd wy vt M' ∧ FN M M')) := by
  refine PC.ofW okX7_chain ?_
  have hn := F.1.n
  obtain ⟨du, edu⟩ : ∃ du, du = due hd wy (w * h - many mp 6 (w * h)) := ⟨_, rfl⟩
  have hdu : ∀ j, j < 6 → du j < 2 ^ 30 := fun j hj => by rw [edu]; exact due_lt F.2.1 (by omega) hj
  have hdu7 : ∀ j, j < 6 → du j ≤ 37 := fun j hj => by rw [edu]; have := due_le (hd := hd) (wy := wy) (n := w * h - many mp 6 (w * h)) hj; omega
  rw [← edu]
  refine PW.callV rfl trivial sX7_148 rfl rfl (by decide) rfl (c_share F C) (fun v1 M1 hq1 => ?_)
  obtain ⟨rfl, hF1, hz1⟩ := hq1
  have C1 := C.fc hF1
  rw [← edu] at hz1
  refine PW.callV rfl trivial sX7_177 rfl rfl (by decide) rfl (c_chain F C1 hdu hz1) (fun v8 M8 hq8 => ?_)
  obtain ⟨rfl, hF2, hl2⟩ := hq8
  have C2 := C1.fc hF2
  refine PW.zne rfl trivial (fun h13 => ?_) (fun h13 => ?_)
  · skip
    obtain ⟨s, hs⟩ : ∃ s, cst (hnd w (w * h) dr) (hasless (w * h) dr du) (hasmore (w * h) dr du) = some s := by
      cases e : cst (hnd w (w * h) dr) (hasless (w * h) dr du) (hasmore (w * h) dr du) with
      | none => rw [e] at h13; exact absurd rfl h13
      | some s => exact ⟨s, rfl⟩
    have hcs := cst_ism (hnd w (w * h) dr) (hasless (w * h) dr du) (hasmore (w * h) dr du)
    rw [hs] at hcs
    have hs6 := hcs.2.1
    have hsd : dn (hnd w (w * h) dr) (hasless (w * h) dr du) 7 s ≤ 6 := by have := hcs.2.2.1; simp at this; exact this.2
    have hpos := dn_pos (h := hnd w (w * h) dr) (T := hasless (w * h) dr du) (F := 7) (a := s) (by decide)
    have hch := hl2 s hs
    refine PW.iret rfl rfl trivial ?_
    exact ⟨by simp only [hs], C2, hF1.fn.tr hF2.fn⟩
  · skip
    have hs : cst (hnd w (w * h) dr) (hasless (w * h) dr du) (hasmore (w * h) dr du) = none := by
      cases e : cst (hnd w (w * h) dr) (hasless (w * h) dr du) (hasmore (w * h) dr du) with
      | none => rfl
      | some s =>
        rw [e] at h13
        have hcs := cst_ism (hnd w (w * h) dr) (hasless (w * h) dr du) (hasmore (w * h) dr du)
        rw [e] at hcs
        have hsd : dn (hnd w (w * h) dr) (hasless (w * h) dr du) 7 s ≤ 6 := by have := hcs.2.2.1; simp at this; exact this.2
        have hpos := dn_pos (h := hnd w (w * h) dr) (T := hasless (w * h) dr du) (F := 7) (a := s) (by decide)
        exact absurd h13 (nI_ne0 hpos (by omega))
    refine PW.goto rfl trivial ?_
    refine PW.iret rfl rfl trivial ?_
    exact ⟨by simp only [hs], C2, hF1.fn.tr hF2.fn⟩
theorem r_pass {w h : Nat} {mp dr hd : Nat → Nat} {wy : Nat} {vt : Nat → Nat} (F : Sf w h mp dr hd wy vt) (C : CM w h mp dr hd wy vt M) : PC X l mX7_pass 6 [.ref 0] G0 M (fun v M' => v = some (.int ((match (cst (hnd w (w * h) dr) (hasless (w * h) dr (due hd wy (w * h - many mp 6 (w * h)))) (hasmore (w * h) dr (due hd wy (w * h - many mp 6 (w * h))))) with | none => -3 | some s => nI (pas w (w * h) (chn (hnd w (w * h) dr) (hasless (w * h) dr (due hd wy (w * h - many mp 6 (w * h)))) s) (dn (hnd w (w * h) dr) (hasless (w * h) dr (due hd wy (w * h - many mp 6 (w * h)))) 7 s - 1) dr).1))) ∧ (CM w h mp (match (cst (hnd w (w * h) dr) (hasless (w * h) dr (due hd wy (w * h - many mp 6 (w * h)))) (hasmore (w * h) dr (due hd wy (w * h - many mp 6 (w * h))))) with | none => dr | some s => (pas w (w * h) (chn (hnd w (w * h) dr) (hasless (w * h) dr (due hd wy (w * h - many mp 6 (w * h)))) s) (dn (hnd w (w * h) dr) (hasless (w * h) dr (due hd wy (w * h - many mp 6 (w * h)))) 7 s - 1) dr).2) hd wy vt M' ∧ FN M M')) := by
  refine PC.ofW okX7_pass ?_
  have hn := F.1.n
  obtain ⟨du, edu⟩ : ∃ du, du = due hd wy (w * h - many mp 6 (w * h)) := ⟨_, rfl⟩
  have hdu : ∀ j, j < 6 → du j < 2 ^ 30 := fun j hj => by rw [edu]; exact due_lt F.2.1 (by omega) hj
  have hdu7 : ∀ j, j < 6 → du j ≤ 37 := fun j hj => by rw [edu]; have := due_le (hd := hd) (wy := wy) (n := w * h - many mp 6 (w * h)) hj; omega
  rw [← edu]
  refine PW.callV rfl trivial sX7_148 rfl rfl (by decide) rfl (c_share F C) (fun v1 M1 hq1 => ?_)
  obtain ⟨rfl, hF1, hz1⟩ := hq1
  have C1 := C.fc hF1
  rw [← edu] at hz1
  refine PW.callV rfl trivial sX7_177 rfl rfl (by decide) rfl (c_chain F C1 hdu hz1) (fun v8 M8 hq8 => ?_)
  obtain ⟨rfl, hF2, hl2⟩ := hq8
  have C2 := C1.fc hF2
  refine PW.zne rfl trivial (fun h13 => ?_) (fun h13 => ?_)
  · skip
    obtain ⟨s, hs⟩ : ∃ s, cst (hnd w (w * h) dr) (hasless (w * h) dr du) (hasmore (w * h) dr du) = some s := by
      cases e : cst (hnd w (w * h) dr) (hasless (w * h) dr du) (hasmore (w * h) dr du) with
      | none => rw [e] at h13; exact absurd rfl h13
      | some s => exact ⟨s, rfl⟩
    have hcs := cst_ism (hnd w (w * h) dr) (hasless (w * h) dr du) (hasmore (w * h) dr du)
    rw [hs] at hcs
    have hs6 := hcs.2.1
    have hsd : dn (hnd w (w * h) dr) (hasless (w * h) dr du) 7 s ≤ 6 := by have := hcs.2.2.1; simp at this; exact this.2
    have hpos := dn_pos (h := hnd w (w * h) dr) (T := hasless (w * h) dr du) (F := 7) (a := s) (by decide)
    have hch := hl2 s hs
    refine PW.callV rfl trivial sX7_183 rfl rfl (by decide) rfl (show PC X l mX2_passAlong 5 [.ref 10, .int (match cst (hnd w (w * h) dr) (hasless (w * h) dr du) (hasmore (w * h) dr du) with | none => 0 | some s => nI (dn (hnd w (w * h) dr) (hasless (w * h) dr du) 7 s))] G0 M8 (fun v M3 => v = some (.int (nI (pas w (w * h) (chn (hnd w (w * h) dr) (hasless (w * h) dr du) s) (dn (hnd w (w * h) dr) (hasless (w * h) dr du) 7 s - 1) dr).1)) ∧ FC [] [5] M8 M3 ∧ Sh 5 (pas w (w * h) (chn (hnd w (w * h) dr) (hasless (w * h) dr du) s) (dn (hnd w (w * h) dr) (hasless (w * h) dr du) 7 s - 1) dr).2 M3) from by
      have q := c_pass (X := X) (l := l) F C2 (dn (hnd w (w * h) dr) (hasless (w * h) dr du) 7 s - 1) (chn (hnd w (w * h) dr) (hasless (w * h) dr du) s) (by omega) (fun i hi => (chn_ok hs6 hsd i (by omega)).1) (fun i hi => chn_ne hs6 hsd (by omega)) (fun i hi => hch i (by omega))
      rw [show dn (hnd w (w * h) dr) (hasless (w * h) dr du) 7 s - 1 + 1 = dn (hnd w (w * h) dr) (hasless (w * h) dr du) 7 s by omega] at q
      rw [hs]; exact q) (fun v26 M26 hq26 => ?_)
    obtain ⟨rfl, hF3, hS3⟩ := hq26
    refine PW.iret rfl rfl trivial ?_
    first | exact ⟨by simp only [hs], by simp only [hs]; exact ⟨C2.dr hF3 hS3, (hF1.fn.tr hF2.fn).tr hF3.fn⟩⟩ | exact ⟨by simp only [hs], by simp only [hs]; exact ⟨C2, hF1.fn.tr hF2.fn⟩⟩
  · skip
    have hs : cst (hnd w (w * h) dr) (hasless (w * h) dr du) (hasmore (w * h) dr du) = none := by
      cases e : cst (hnd w (w * h) dr) (hasless (w * h) dr du) (hasmore (w * h) dr du) with
      | none => rfl
      | some s =>
        rw [e] at h13
        have hcs := cst_ism (hnd w (w * h) dr) (hasless (w * h) dr du) (hasmore (w * h) dr du)
        rw [e] at hcs
        have hsd : dn (hnd w (w * h) dr) (hasless (w * h) dr du) 7 s ≤ 6 := by have := hcs.2.2.1; simp at this; exact this.2
        have hpos := dn_pos (h := hnd w (w * h) dr) (T := hasless (w * h) dr du) (F := 7) (a := s) (by decide)
        exact absurd h13 (nI_ne0 hpos (by omega))
    refine PW.goto rfl trivial ?_
    refine PW.iret rfl rfl trivial ?_
    first | exact ⟨by simp only [hs], by simp only [hs]; exact ⟨C2.dr hF3 hS3, (hF1.fn.tr hF2.fn).tr hF3.fn⟩⟩ | exact ⟨by simp only [hs], by simp only [hs]; exact ⟨C2, hF1.fn.tr hF2.fn⟩⟩
end C6
