-- made by wip/whole/mk_m1.py
section M1
variable {X : Cx} {l : Launch} {M : Mem}
theorem m_in (a b c : Int64) : PF X l mX8_in 0 [.long a, .long b, .long c] G0 M (.int (bo (decide (b ≤ a ∧ a ≤ c)))) := by
  refine PF.ofW okX8_in ?_
  refine PW.zlt rfl trivial (fun h3 => ?_) (fun h3 => ?_)
  · skip
    have h3 := (lg_cmp_lt _ _).mp h3
    have h4 : ¬ b ≤ a := Int64.not_le.mpr h3
    refine PW.zret rfl rfl trivial (rfl) ?_
    exact ⟨by simp [bo, *], rfl⟩
  · skip
    have h4 : b ≤ a := Int64.not_lt.mp (fun q => h3 ((lg_cmp_lt _ _).mpr q))
    refine PW.zgt rfl trivial (fun h10 => ?_) (fun h10 => ?_)
    · skip
      have h5 := (lg_cmp_gt _ _).mp h10
      have h5 : ¬ a ≤ c := Int64.not_le.mpr h5
      refine PW.zret rfl rfl trivial (rfl) ?_
      exact ⟨by simp [bo, *], rfl⟩
    · skip
      have h5 : a ≤ c := Int64.not_lt.mp (fun q => h10 ((lg_cmp_gt _ _).mpr q))
      refine PW.goto rfl trivial ?_
      refine PW.zret rfl rfl trivial (rfl) ?_
      exact ⟨by simp [bo, *], rfl⟩
theorem m_size (x : Int32) : PF X l mX8_size 0 [.int x] G0 M (.int (if 0 ≤ x then x else -x)) := by
  refine PF.ofW okX8_size ?_
  refine PW.zge rfl trivial (fun h1 => ?_) (fun h1 => ?_)
  · skip
    refine PW.iret rfl rfl trivial ?_
    exact ⟨by simp [*], rfl⟩
  · skip
    refine PW.goto rfl trivial ?_
    refine PW.iret rfl rfl trivial ?_
    exact ⟨by simp [*], rfl⟩
theorem m_noCell (c : Int32) {w h : Nat} {mp dr : Nat → Nat} (Hf : Wf w h mp dr) (H : WM w h mp dr M) : PF X l mX8_noCell 1 [.ref 29, .int c] G0 M (.int (bo (!decide (0 ≤ c.toInt ∧ c.toInt < ((w * h : Nat) : Int))))) := by
  refine PF.ofW okX8_noCell ?_
  refine PW.funS rfl trivial sX8_81 rfl (by decide) rfl (m_in _ _ _) ?_
  refine PW.zne rfl trivial (fun h18 => ?_) (fun h18 => ?_)
  · skip
    refine PW.zret rfl rfl trivial (rfl) ?_
    have e : decide ((0 : Int64) ≤ c.toInt64 ∧ c.toInt64 ≤ (M.1 29 1 * M.1 29 2 - 1).toInt64) = decide (0 ≤ c.toInt ∧ c.toInt < ((w * h : Nat) : Int)) := by
      have hn := Hf.n
      have hp : 4 ≤ w * h := Nat.mul_le_mul Hf.1 Hf.2.2.1
      rw [H.wh, nI_m1 (by omega)]
      refine (in_i c 0 (nI (w * h - 1))).trans (decide_eq_decide.mpr ?_)
      rw [nI_t (by omega), Int32.toInt_zero]
      omega
    rw [e] at h18
    cases hd : decide (0 ≤ c.toInt ∧ c.toInt < ((w * h : Nat) : Int)) <;> rw [hd] at h18
    all_goals first | exact ⟨rfl, rfl⟩ | exact absurd h18 (by decide) | exact absurd rfl h18
  · skip
    refine PW.goto rfl trivial ?_
    refine PW.zret rfl rfl trivial (rfl) ?_
    have e : decide ((0 : Int64) ≤ c.toInt64 ∧ c.toInt64 ≤ (M.1 29 1 * M.1 29 2 - 1).toInt64) = decide (0 ≤ c.toInt ∧ c.toInt < ((w * h : Nat) : Int)) := by
      have hn := Hf.n
      have hp : 4 ≤ w * h := Nat.mul_le_mul Hf.1 Hf.2.2.1
      rw [H.wh, nI_m1 (by omega)]
      refine (in_i c 0 (nI (w * h - 1))).trans (decide_eq_decide.mpr ?_)
      rw [nI_t (by omega), Int32.toInt_zero]
      omega
    rw [e] at h18
    cases hd : decide (0 ≤ c.toInt ∧ c.toInt < ((w * h : Nat) : Int)) <;> rw [hd] at h18
    all_goals first | exact ⟨rfl, rfl⟩ | exact absurd h18 (by decide) | exact absurd rfl h18
theorem m_noLand (c : Int32) : PF X l mX8_noLand 1 [.int c] G0 M (.int (bo (!decide (0 ≤ c.toInt ∧ c.toInt ≤ 5)))) := by
  refine PF.ofW okX8_noLand ?_
  refine PW.funS rfl trivial sX8_81 rfl (by decide) rfl (m_in _ _ _) ?_
  refine PW.zne rfl trivial (fun h9 => ?_) (fun h9 => ?_)
  · skip
    refine PW.zret rfl rfl trivial (rfl) ?_
    have e : decide ((0 : Int64) ≤ c.toInt64 ∧ c.toInt64 ≤ (5 : Int64)) = decide (0 ≤ c.toInt ∧ c.toInt ≤ 5) := in_i c 0 5
    rw [e] at h9
    cases hd : decide (0 ≤ c.toInt ∧ c.toInt ≤ 5) <;> rw [hd] at h9
    all_goals first | exact ⟨rfl, rfl⟩ | exact absurd h9 (by decide) | exact absurd rfl h9
  · skip
    refine PW.goto rfl trivial ?_
    refine PW.zret rfl rfl trivial (rfl) ?_
    have e : decide ((0 : Int64) ≤ c.toInt64 ∧ c.toInt64 ≤ (5 : Int64)) = decide (0 ≤ c.toInt ∧ c.toInt ≤ 5) := in_i c 0 5
    rw [e] at h9
    cases hd : decide (0 ≤ c.toInt ∧ c.toInt ≤ 5) <;> rw [hd] at h9
    all_goals first | exact ⟨rfl, rfl⟩ | exact absurd h9 (by decide) | exact absurd rfl h9
theorem m_noSide (c : Int32) : PF X l mX8_noSide 1 [.int c] G0 M (.int (bo (!decide (0 ≤ c.toInt ∧ c.toInt ≤ 2)))) := by
  refine PF.ofW okX8_noSide ?_
  refine PW.funS rfl trivial sX8_81 rfl (by decide) rfl (m_in _ _ _) ?_
  refine PW.zne rfl trivial (fun h9 => ?_) (fun h9 => ?_)
  · skip
    refine PW.zret rfl rfl trivial (rfl) ?_
    have e : decide ((0 : Int64) ≤ c.toInt64 ∧ c.toInt64 ≤ (2 : Int64)) = decide (0 ≤ c.toInt ∧ c.toInt ≤ 2) := in_i c 0 2
    rw [e] at h9
    cases hd : decide (0 ≤ c.toInt ∧ c.toInt ≤ 2) <;> rw [hd] at h9
    all_goals first | exact ⟨rfl, rfl⟩ | exact absurd h9 (by decide) | exact absurd rfl h9
  · skip
    refine PW.goto rfl trivial ?_
    refine PW.zret rfl rfl trivial (rfl) ?_
    have e : decide ((0 : Int64) ≤ c.toInt64 ∧ c.toInt64 ≤ (2 : Int64)) = decide (0 ≤ c.toInt ∧ c.toInt ≤ 2) := in_i c 0 2
    rw [e] at h9
    cases hd : decide (0 ≤ c.toInt ∧ c.toInt ≤ 2) <;> rw [hd] at h9
    all_goals first | exact ⟨rfl, rfl⟩ | exact absurd h9 (by decide) | exact absurd rfl h9
theorem m_cellOf (on : Int32) (c : Nat) (hc : c < 36) {w h : Nat} {mp dr : Nat → Nat} (H : WM w h mp dr M) : PF X l mX8_cellOf 0 [.ref 29, .int on, .int (nI c)] G0 M (.int (nI (sl on mp dr c))) := by
  refine PF.ofW okX8_cellOf ?_
  refine PW.zeq rfl trivial (fun h1 => ?_) (fun h1 => ?_)
  · skip
    refine PW.iret rfl rfl ⟨trivial, vp_in_nI hc (by decide)⟩ ?_
    exact ⟨by simp only [sl, h1]; rw [nI_clamp (by omega)]; first | rw [H.2.2.1 c hc]; rfl | rw [H.2.2.2 c hc]; rfl, rfl⟩
  · skip
    refine PW.goto rfl ⟨trivial, vp_in_nI hc (by decide)⟩ ?_
    refine PW.iret rfl rfl trivial ?_
    exact ⟨by simp only [sl, h1]; rw [nI_clamp (by omega)]; first | rw [H.2.2.1 c hc]; rfl | rw [H.2.2.2 c hc]; rfl, rfl⟩
theorem m_manyOf (on : Int32) (lv : Nat) (hlv : lv < 2 ^ 31) {w h : Nat} {mp dr : Nat → Nat} (Hf : Wf w h mp dr) (H : WM w h mp dr M) : PF X l mX8_manyOf 1 [.ref 29, .int on, .int (nI lv)] G0 M (.int (nI (many (sl on mp dr) lv (w * h)))) := by
  refine PF.ofW okX8_manyOf ?_
  have loop5 : ∀ k : Nat, ∀ (c : Nat), c ≤ w * h → w * h - c < k → PW X l mX8_manyOf 1 (fun v M' => v = some (.int (nI (many (sl on mp dr) lv (w * h)))) ∧ M' = M) 5 [.ref 29, .int on, .int (nI lv), .int (nI (many (sl on mp dr) lv c)), .int (nI c)] [] G0 M := by
    intro k
    induction k with
    | zero => intro c hc hk; exact absurd hk (Nat.not_lt_zero _)
    | succ k ih =>
      intro c hc hk
      have hn := Hf.n
      refine PW.ige rfl trivial (fun h16 => ?_) (fun h16 => ?_)
      · skip
        rw [H.wh, nI_leI (by omega) (by omega)] at h16
        have e : c = w * h := by omega
        subst e
        refine PW.iret rfl rfl trivial ?_
        exact ⟨rfl, rfl⟩
      · skip
        rw [H.wh, nI_leI (by omega) (by omega)] at h16
        refine PW.funV rfl trivial sX8_95 rfl rfl (by decide) rfl (m_cellOf on c (by omega) H) ?_
        refine PW.ine rfl trivial (fun h28 => ?_) (fun h28 => ?_)
        · skip
          refine PW.goto rfl trivial ?_
          have e := many_s (sl on mp dr) lv c (by have := sl_le (on := on) Hf c; omega) hlv
          first | rw [if_pos h28] at e | rw [if_neg h28] at e
          rw [← e, nI_1]
          exact ih (c + 1) (by omega) (by omega)
        · skip
          refine PW.goto rfl trivial ?_
          refine PW.goto rfl trivial ?_
          have e := many_s (sl on mp dr) lv c (by have := sl_le (on := on) Hf c; omega) hlv
          first | rw [if_pos h28] at e | rw [if_neg h28] at e
          rw [← e, nI_1]
          exact ih (c + 1) (by omega) (by omega)
  refine PW.to 5 rfl trivial ?_
  exact loop5 (w * h + 1) 0 (Nat.zero_le _) (by omega)
theorem m_isThere (lv : Nat) (hlv : lv < 2 ^ 31) {w h : Nat} {mp dr : Nat → Nat} (Hf : Wf w h mp dr) (H : WM w h mp dr M) : PF X l mX8_isThere 2 [.ref 29, .int (nI lv)] G0 M (.int (bo (decide (0 < many mp lv (w * h))))) := by
  refine PF.ofW okX8_isThere ?_
  refine PW.funV rfl trivial sX8_106 rfl rfl (by decide) rfl (m_manyOf 0 lv hlv Hf H) ?_
  refine PW.zle rfl trivial (fun h6 => ?_) (fun h6 => ?_)
  · skip
    refine PW.zret rfl rfl trivial (rfl) ?_
    have hm := many_le mp lv (w * h)
    have hn := Hf.n
    rw [show sl 0 mp dr = mp from rfl, show (0 : Int32) = nI 0 from rfl, nI_leI (by omega) (by omega)] at h6
    refine ⟨?_, rfl⟩
    first | (have h7 : 0 < many mp lv (w * h) := by omega); simp [bo, h7] | (have h7 : many mp lv (w * h) = 0 := by omega); simp [bo, h7]
  · skip
    refine PW.goto rfl trivial ?_
    refine PW.zret rfl rfl trivial (rfl) ?_
    have hm := many_le mp lv (w * h)
    have hn := Hf.n
    rw [show sl 0 mp dr = mp from rfl, show (0 : Int32) = nI 0 from rfl, nI_leI (by omega) (by omega)] at h6
    refine ⟨?_, rfl⟩
    first | (have h7 : 0 < many mp lv (w * h) := by omega); simp [bo, h7] | (have h7 : many mp lv (w * h) = 0 := by omega); simp [bo, h7]
theorem st_num {w a b : Nat} (h1 : 2 ≤ w) (h2 : w ≤ 6) (ha : a < 36) (hb : b < 36) : (if 0 ≤ (nI a - nI a / nI w * nI w) - (nI b - nI b / nI w * nI w) then (nI a - nI a / nI w * nI w) - (nI b - nI b / nI w * nI w) else -((nI a - nI a / nI w * nI w) - (nI b - nI b / nI w * nI w))) + (if 0 ≤ nI a / nI w - nI b / nI w then nI a / nI w - nI b / nI w else -(nI a / nI w - nI b / nI w)) = nI (ad (a % w) (b % w) + ad (a / w) (b / w)) := by
  have q1 := Nat.mod_lt a (show 0 < w by omega)
  have q2 := Nat.mod_lt b (show 0 < w by omega)
  have q3 := Nat.div_le_self a w
  have q4 := Nat.div_le_self b w
  rw [pk_rem (by omega) (by omega) (by omega), pk_rem (by omega) (by omega) (by omega), pk_div (by omega) (by omega) (by omega), pk_div (by omega) (by omega) (by omega), nI_abs (by omega) (by omega), nI_abs (by omega) (by omega), nI_add]
theorem ad_lt {a b n : Nat} (ha : a < n) (hb : b < n) : ad a b < n := by unfold ad; omega
theorem m_steps (a b : Nat) (ha : a < 36) (hb : b < 36) {w h : Nat} {mp dr : Nat → Nat} (Hf : Wf w h mp dr) (H : WM w h mp dr M) : PF X l mX8_steps 1 [.ref 29, .int (nI a), .int (nI b)] G0 M (.int (nI (ad (a % w) (b % w) + ad (a / w) (b / w)))) := by
  refine PF.ofW okX8_steps ?_
  refine PW.funS rfl ⟨⟨trivial, (by rw [H.1]; exact nI_ne0 (by have := Hf.1; omega) (by have := Hf.2.1; omega))⟩, (by rw [H.1]; exact nI_ne0 (by have := Hf.1; omega) (by have := Hf.2.1; omega))⟩ sX8_117 rfl (by decide) rfl (m_size _) ?_
  refine PW.funS rfl ⟨⟨trivial, (by rw [H.1]; exact nI_ne0 (by have := Hf.1; omega) (by have := Hf.2.1; omega))⟩, (by rw [H.1]; exact nI_ne0 (by have := Hf.1; omega) (by have := Hf.2.1; omega))⟩ sX8_117 rfl (by decide) rfl (m_size _) ?_
  refine PW.iret rfl rfl trivial ?_
  refine ⟨?_, rfl⟩
  simp only [H.1]
  rw [st_num Hf.1 Hf.2.1 ha hb]
theorem m_isBeside (a b : Nat) (ha : a < 36) (hb : b < 36) {w h : Nat} {mp dr : Nat → Nat} (Hf : Wf w h mp dr) (H : WM w h mp dr M) : PF X l mX8_isBeside 1 [.ref 29, .int (nI a), .int (nI b)] G0 M (.int (bo (adj w a b))) := by
  refine PF.ofW okX8_isBeside ?_
  refine PW.funS rfl ⟨⟨trivial, (by rw [H.1]; exact nI_ne0 (by have := Hf.1; omega) (by have := Hf.2.1; omega))⟩, (by rw [H.1]; exact nI_ne0 (by have := Hf.1; omega) (by have := Hf.2.1; omega))⟩ sX8_117 rfl (by decide) rfl (m_size _) ?_
  refine PW.funS rfl ⟨⟨trivial, (by rw [H.1]; exact nI_ne0 (by have := Hf.1; omega) (by have := Hf.2.1; omega))⟩, (by rw [H.1]; exact nI_ne0 (by have := Hf.1; omega) (by have := Hf.2.1; omega))⟩ sX8_117 rfl (by decide) rfl (m_size _) ?_
  refine PW.ine rfl trivial (fun h34 => ?_) (fun h34 => ?_)
  · skip
    refine PW.zret rfl rfl trivial (rfl) ?_
    simp only [H.1] at h34
    rw [st_num Hf.1 Hf.2.1 ha hb, show (1 : Int32) = nI 1 from rfl, nI_eq (by have := ad_lt (Nat.mod_lt a (show 0 < w by have := Hf.1; omega)) (Nat.mod_lt b (show 0 < w by have := Hf.1; omega)); have := Hf.2.1; have := ad_lt (n := 36) (Nat.lt_of_le_of_lt (Nat.div_le_self a w) ha) (Nat.lt_of_le_of_lt (Nat.div_le_self b w) hb); omega) (by omega)] at h34
    exact ⟨by unfold adj bo; first | rw [if_pos (by simpa using h34)] | rw [if_neg (by simpa using h34)], rfl⟩
  · skip
    refine PW.goto rfl trivial ?_
    refine PW.zret rfl rfl trivial (rfl) ?_
    simp only [H.1] at h34
    rw [st_num Hf.1 Hf.2.1 ha hb, show (1 : Int32) = nI 1 from rfl, nI_eq (by have := ad_lt (Nat.mod_lt a (show 0 < w by have := Hf.1; omega)) (Nat.mod_lt b (show 0 < w by have := Hf.1; omega)); have := Hf.2.1; have := ad_lt (n := 36) (Nat.lt_of_le_of_lt (Nat.div_le_self a w) ha) (Nat.lt_of_le_of_lt (Nat.div_le_self b w) hb); omega) (by omega)] at h34
    exact ⟨by unfold adj bo; first | rw [if_pos (by simpa using h34)] | rw [if_neg (by simpa using h34)], rfl⟩
theorem m_touches (on : Int32) (d lv : Nat) (hd : d < 36) (hlv : lv < 2 ^ 31) {w h : Nat} {mp dr : Nat → Nat} (Hf : Wf w h mp dr) (H : WM w h mp dr M) : PF X l mX8_touches 2 [.ref 29, .int on, .int (nI d), .int (nI lv)] G0 M (.int (bo (tch w (w * h) (sl on mp dr) d lv))) := by
  refine PF.ofW okX8_touches ?_
  have loop6 : ∀ k : Nat, ∀ (c : Nat), c ≤ w * h → w * h - c < k → PW X l mX8_touches 2 (fun v M' => v = some (.int (bo (tch w (w * h) (sl on mp dr) d lv))) ∧ M' = M) 6 [.ref 29, .int on, .int (nI d), .int (nI lv), .int (bo (bex (fun e => decide (sl on mp dr e = lv) && adj w d e) c)), .int (nI c)] [] G0 M := by
    intro k
    induction k with
    | zero => intro c hc hk; exact absurd hk (Nat.not_lt_zero _)
    | succ k ih =>
      intro c hc hk
      have hn := Hf.n
      refine PW.ige rfl trivial (fun h17 => ?_) (fun h17 => ?_)
      · skip
        rw [H.wh, nI_leI (by omega) (by omega)] at h17
        have e : c = w * h := by omega
        subst e
        refine PW.zret rfl rfl trivial (bo_z _) ?_
        exact ⟨rfl, rfl⟩
      · skip
        rw [H.wh, nI_leI (by omega) (by omega)] at h17
        refine PW.zne rfl trivial (fun h22 => ?_) (fun h22 => ?_)
        · skip
          rw [bo_ne] at h22
          refine PW.goto rfl trivial ?_
          refine PW.goto rfl trivial ?_
          refine PW.lc ?_ (ih (c + 1) (by omega) (by omega))
          first | simp [bex, nI_succ, bo, h22, h33, h43] | simp [bex, nI_succ, bo, h22, h33] | simp [bex, nI_succ, bo, h22]
        · skip
          rw [bo_eq] at h22
          refine PW.funV rfl trivial sX8_95 rfl rfl (by decide) rfl (m_cellOf on c (by omega) H) ?_
          refine PW.ine rfl trivial (fun h33 => ?_) (fun h33 => ?_)
          · skip
            rw [nI_eq (by have := sl_le (on := on) Hf c; omega) (by omega)] at h33
            refine PW.goto rfl trivial ?_
            refine PW.lc ?_ (ih (c + 1) (by omega) (by omega))
            first | simp [bex, nI_succ, bo, h22, h33, h43] | simp [bex, nI_succ, bo, h22, h33] | simp [bex, nI_succ, bo, h22]
          · skip
            rw [nI_eq (by have := sl_le (on := on) Hf c; omega) (by omega)] at h33
            refine PW.funV rfl trivial sX8_121 rfl rfl (by decide) rfl (m_isBeside d c hd (by omega) Hf H) ?_
            refine PW.zeq rfl trivial (fun h43 => ?_) (fun h43 => ?_)
            · skip
              rw [bo_eq] at h43
              refine PW.goto rfl trivial ?_
              refine PW.lc ?_ (ih (c + 1) (by omega) (by omega))
              first | simp [bex, nI_succ, bo, h22, h33, h43] | simp [bex, nI_succ, bo, h22, h33] | simp [bex, nI_succ, bo, h22]
            · skip
              rw [bo_ne] at h43
              refine PW.goto rfl trivial ?_
              refine PW.goto rfl trivial ?_
              refine PW.lc ?_ (ih (c + 1) (by omega) (by omega))
              first | simp [bex, nI_succ, bo, h22, h33, h43] | simp [bex, nI_succ, bo, h22, h33] | simp [bex, nI_succ, bo, h22]
  refine PW.to 6 rfl trivial ?_
  exact loop6 (w * h + 1) 0 (Nat.zero_le _) (by omega)
theorem m_areBeside (on : Int32) (a b : Nat) (ha : a < 2 ^ 31) (hb : b < 2 ^ 31) {w h : Nat} {mp dr : Nat → Nat} (Hf : Wf w h mp dr) (H : WM w h mp dr M) : PF X l mX8_areBeside 3 [.ref 29, .int on, .int (nI a), .int (nI b)] G0 M (.int (bo (nbr w (w * h) (sl on mp dr) a b))) := by
  refine PF.ofW okX8_areBeside ?_
  have loop6 : ∀ k : Nat, ∀ (c : Nat), c ≤ w * h → w * h - c < k → PW X l mX8_areBeside 3 (fun v M' => v = some (.int (bo (nbr w (w * h) (sl on mp dr) a b))) ∧ M' = M) 6 [.ref 29, .int on, .int (nI a), .int (nI b), .int (bo (bex (fun c => decide (sl on mp dr c = a) && tch w (w * h) (sl on mp dr) c b) c)), .int (nI c)] [] G0 M := by
    intro k
    induction k with
    | zero => intro c hc hk; exact absurd hk (Nat.not_lt_zero _)
    | succ k ih =>
      intro c hc hk
      have hn := Hf.n
      refine PW.ige rfl trivial (fun h17 => ?_) (fun h17 => ?_)
      · skip
        rw [H.wh, nI_leI (by omega) (by omega)] at h17
        have e : c = w * h := by omega
        subst e
        refine PW.zret rfl rfl trivial (bo_z _) ?_
        exact ⟨rfl, rfl⟩
      · skip
        rw [H.wh, nI_leI (by omega) (by omega)] at h17
        refine PW.zne rfl trivial (fun h22 => ?_) (fun h22 => ?_)
        · skip
          rw [bo_ne] at h22
          refine PW.goto rfl trivial ?_
          refine PW.goto rfl trivial ?_
          refine PW.lc ?_ (ih (c + 1) (by omega) (by omega))
          first | simp [bex, nI_succ, bo, h22, h33, h44] | simp [bex, nI_succ, bo, h22, h33] | simp [bex, nI_succ, bo, h22]
        · skip
          rw [bo_eq] at h22
          refine PW.funV rfl trivial sX8_95 rfl rfl (by decide) rfl (m_cellOf on c (by omega) H) ?_
          refine PW.ine rfl trivial (fun h33 => ?_) (fun h33 => ?_)
          · skip
            rw [nI_eq (by have := sl_le (on := on) Hf c; omega) (by omega)] at h33
            refine PW.goto rfl trivial ?_
            refine PW.lc ?_ (ih (c + 1) (by omega) (by omega))
            first | simp [bex, nI_succ, bo, h22, h33, h44] | simp [bex, nI_succ, bo, h22, h33] | simp [bex, nI_succ, bo, h22]
          · skip
            rw [nI_eq (by have := sl_le (on := on) Hf c; omega) (by omega)] at h33
            refine PW.funV rfl trivial sX8_128 rfl rfl (by decide) rfl (m_touches on c b (by omega) hb Hf H) ?_
            refine PW.zeq rfl trivial (fun h44 => ?_) (fun h44 => ?_)
            · skip
              rw [bo_eq] at h44
              refine PW.goto rfl trivial ?_
              refine PW.lc ?_ (ih (c + 1) (by omega) (by omega))
              first | simp [bex, nI_succ, bo, h22, h33, h44] | simp [bex, nI_succ, bo, h22, h33] | simp [bex, nI_succ, bo, h22]
            · skip
              rw [bo_ne] at h44
              refine PW.goto rfl trivial ?_
              refine PW.goto rfl trivial ?_
              refine PW.lc ?_ (ih (c + 1) (by omega) (by omega))
              first | simp [bex, nI_succ, bo, h22, h33, h44] | simp [bex, nI_succ, bo, h22, h33] | simp [bex, nI_succ, bo, h22]
  refine PW.to 6 rfl trivial ?_
  exact loop6 (w * h + 1) 0 (Nat.zero_le _) (by omega)
end M1
