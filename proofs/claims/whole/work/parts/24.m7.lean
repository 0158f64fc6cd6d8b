-- made by wip/whole/mk_m7.py
section M7
variable {X : Cx} {l : Launch} {M : Mem}
theorem m_most (a b c : Nat) (ha : a < 2 ^ 31) (hb : b < 2 ^ 31) (hc : c < 2 ^ 31) : PF X l mX8_most 0 [.int (nI a), .int (nI b), .int (nI c)] G0 M (.int (mos a b c)) := by
  refine PF.ofW okX8_most ?_
  refine PW.ile rfl trivial (fun h2 => ?_) (fun h2 => ?_)
  · skip
    rw [nI_leI (by omega) (by omega)] at h2
    refine PW.ile rfl trivial (fun h16 => ?_) (fun h16 => ?_)
    · skip
      rw [nI_leI (by omega) (by omega)] at h16
      refine PW.ile rfl trivial (fun h30 => ?_) (fun h30 => ?_)
      · skip
        rw [nI_leI (by omega) (by omega)] at h30
        refine PW.iret rfl rfl trivial ?_
        refine ⟨?_, rfl⟩
        unfold mos
        split
        · first | rfl | omega
        · split
          · first | rfl | omega
          · split
            · first | rfl | omega
            · first | rfl | omega
      · skip
        rw [nI_leI (by omega) (by omega)] at h30
        refine PW.ile rfl trivial (fun h35 => ?_) (fun h35 => ?_)
        · skip
          rw [nI_leI (by omega) (by omega)] at h35
          refine PW.iret rfl rfl trivial ?_
          refine ⟨?_, rfl⟩
          unfold mos
          split
          · first | rfl | omega
          · split
            · first | rfl | omega
            · split
              · first | rfl | omega
              · first | rfl | omega
        · skip
          rw [nI_leI (by omega) (by omega)] at h35
          refine PW.goto rfl trivial ?_
          refine PW.iret rfl rfl trivial ?_
          refine ⟨?_, rfl⟩
          unfold mos
          split
          · first | rfl | omega
          · split
            · first | rfl | omega
            · split
              · first | rfl | omega
              · first | rfl | omega
    · skip
      rw [nI_leI (by omega) (by omega)] at h16
      refine PW.ile rfl trivial (fun h21 => ?_) (fun h21 => ?_)
      · skip
        rw [nI_leI (by omega) (by omega)] at h21
        refine PW.ile rfl trivial (fun h30 => ?_) (fun h30 => ?_)
        · skip
          rw [nI_leI (by omega) (by omega)] at h30
          refine PW.iret rfl rfl trivial ?_
          refine ⟨?_, rfl⟩
          unfold mos
          split
          · first | rfl | omega
          · split
            · first | rfl | omega
            · split
              · first | rfl | omega
              · first | rfl | omega
        · skip
          rw [nI_leI (by omega) (by omega)] at h30
          refine PW.ile rfl trivial (fun h35 => ?_) (fun h35 => ?_)
          · skip
            rw [nI_leI (by omega) (by omega)] at h35
            refine PW.iret rfl rfl trivial ?_
            refine ⟨?_, rfl⟩
            unfold mos
            split
            · first | rfl | omega
            · split
              · first | rfl | omega
              · split
                · first | rfl | omega
                · first | rfl | omega
          · skip
            rw [nI_leI (by omega) (by omega)] at h35
            refine PW.goto rfl trivial ?_
            refine PW.iret rfl rfl trivial ?_
            refine ⟨?_, rfl⟩
            unfold mos
            split
            · first | rfl | omega
            · split
              · first | rfl | omega
              · split
                · first | rfl | omega
                · first | rfl | omega
      · skip
        rw [nI_leI (by omega) (by omega)] at h21
        refine PW.goto rfl trivial ?_
        refine PW.iret rfl rfl trivial ?_
        refine ⟨?_, rfl⟩
        unfold mos
        split
        · first | rfl | omega
        · split
          · first | rfl | omega
          · split
            · first | rfl | omega
            · first | rfl | omega
  · skip
    rw [nI_leI (by omega) (by omega)] at h2
    refine PW.ile rfl trivial (fun h7 => ?_) (fun h7 => ?_)
    · skip
      rw [nI_leI (by omega) (by omega)] at h7
      refine PW.ile rfl trivial (fun h16 => ?_) (fun h16 => ?_)
      · skip
        rw [nI_leI (by omega) (by omega)] at h16
        refine PW.ile rfl trivial (fun h30 => ?_) (fun h30 => ?_)
        · skip
          rw [nI_leI (by omega) (by omega)] at h30
          refine PW.iret rfl rfl trivial ?_
          refine ⟨?_, rfl⟩
          unfold mos
          split
          · first | rfl | omega
          · split
            · first | rfl | omega
            · split
              · first | rfl | omega
              · first | rfl | omega
        · skip
          rw [nI_leI (by omega) (by omega)] at h30
          refine PW.ile rfl trivial (fun h35 => ?_) (fun h35 => ?_)
          · skip
            rw [nI_leI (by omega) (by omega)] at h35
            refine PW.iret rfl rfl trivial ?_
            refine ⟨?_, rfl⟩
            unfold mos
            split
            · first | rfl | omega
            · split
              · first | rfl | omega
              · split
                · first | rfl | omega
                · first | rfl | omega
          · skip
            rw [nI_leI (by omega) (by omega)] at h35
            refine PW.goto rfl trivial ?_
            refine PW.iret rfl rfl trivial ?_
            refine ⟨?_, rfl⟩
            unfold mos
            split
            · first | rfl | omega
            · split
              · first | rfl | omega
              · split
                · first | rfl | omega
                · first | rfl | omega
      · skip
        rw [nI_leI (by omega) (by omega)] at h16
        refine PW.ile rfl trivial (fun h21 => ?_) (fun h21 => ?_)
        · skip
          rw [nI_leI (by omega) (by omega)] at h21
          refine PW.ile rfl trivial (fun h30 => ?_) (fun h30 => ?_)
          · skip
            rw [nI_leI (by omega) (by omega)] at h30
            refine PW.iret rfl rfl trivial ?_
            refine ⟨?_, rfl⟩
            unfold mos
            split
            · first | rfl | omega
            · split
              · first | rfl | omega
              · split
                · first | rfl | omega
                · first | rfl | omega
          · skip
            rw [nI_leI (by omega) (by omega)] at h30
            refine PW.ile rfl trivial (fun h35 => ?_) (fun h35 => ?_)
            · skip
              rw [nI_leI (by omega) (by omega)] at h35
              refine PW.iret rfl rfl trivial ?_
              refine ⟨?_, rfl⟩
              unfold mos
              split
              · first | rfl | omega
              · split
                · first | rfl | omega
                · split
                  · first | rfl | omega
                  · first | rfl | omega
            · skip
              rw [nI_leI (by omega) (by omega)] at h35
              refine PW.goto rfl trivial ?_
              refine PW.iret rfl rfl trivial ?_
              refine ⟨?_, rfl⟩
              unfold mos
              split
              · first | rfl | omega
              · split
                · first | rfl | omega
                · split
                  · first | rfl | omega
                  · first | rfl | omega
        · skip
          rw [nI_leI (by omega) (by omega)] at h21
          refine PW.goto rfl trivial ?_
          refine PW.iret rfl rfl trivial ?_
          refine ⟨?_, rfl⟩
          unfold mos
          split
          · first | rfl | omega
          · split
            · first | rfl | omega
            · split
              · first | rfl | omega
              · first | rfl | omega
    · skip
      rw [nI_leI (by omega) (by omega)] at h7
      refine PW.goto rfl trivial ?_
      refine PW.iret rfl rfl trivial ?_
      refine ⟨?_, rfl⟩
      unfold mos
      split
      · first | rfl | omega
      · split
        · first | rfl | omega
        · split
          · first | rfl | omega
          · first | rfl | omega
theorem m_winner {w h : Nat} {mp dr hd : Nat → Nat} {wy : Nat} {vt : Nat → Nat} (F : Sf w h mp dr hd wy vt) (S : SM w h mp dr hd wy vt M) (lv : Nat) (hl : lv < 6) : PF X l mX8_winner 1 [.ref 29, .int (nI lv)] G0 M (.int (wnr vt lv)) := by
  refine PF.ofW okX8_winner ?_
  have e1 : (3 : Int32) * nI lv = nI (3 * lv) := by rw [show (3 : Int32) = nI 3 from rfl, pk_mul]
  have e2 : (3 : Int32) * nI lv + 1 = nI (3 * lv + 1) := by rw [e1, nI_1]
  have e3 : (3 : Int32) * nI lv + 2 = nI (3 * lv + 2) := by rw [e1, show (2 : Int32) = nI 2 from rfl, nI_add]
  have v1 := F.2.2 (3 * lv)
  have v2 := F.2.2 (3 * lv + 1)
  have v3 := F.2.2 (3 * lv + 2)
  refine PW.funS rfl ⟨⟨⟨trivial, (by rw [e1]; exact vp_in_nI (by omega) (by decide))⟩, (by rw [e2]; exact vp_in_nI (by omega) (by decide))⟩, (by rw [e3]; exact vp_in_nI (by omega) (by decide))⟩ sX8_184 rfl (by decide) rfl (show PF X l mX8_most 0 [.int (M.1 48 ((3 : Int32) * nI lv).toNatClampNeg), .int (M.1 48 ((3 : Int32) * nI lv + 1).toNatClampNeg), .int (M.1 48 ((3 : Int32) * nI lv + 2).toNatClampNeg)] G0 M (.int (wnr vt lv)) from by rw [e2, e3, e1, nI_clamp (by omega), nI_clamp (by omega), nI_clamp (by omega), S.2.2 _ (by omega), S.2.2 _ (by omega), S.2.2 _ (by omega)]; exact m_most _ _ _ (by omega) (by omega) (by omega)) ?_
  refine PW.iret rfl rfl trivial ?_
  exact ⟨rfl, rfl⟩
theorem m_sum {w h : Nat} {mp dr hd : Nat → Nat} {wy : Nat} {vt : Nat → Nat} (F : Sf w h mp dr hd wy vt) (S : SM w h mp dr hd wy vt M) (s b : Nat) (hs : s < 3) (hb : b < 3) : PF X l mX8_sum 2 [.ref 29, .int (nI s), .int (nI b)] G0 M (.int (nI (tly (w * h) (if b = 1 then dr else mp) vt s b 6))) := by
  refine PF.ofW okX8_sum ?_
  have loop5 : ∀ k : Nat, ∀ (i : Nat), i ≤ 6 → 6 - i < k → PW X l mX8_sum 2 (fun v M' => v = some (.int (nI (tly (w * h) (if b = 1 then dr else mp) vt s b 6))) ∧ M' = M) 5 [.ref 29, .int (nI s), .int (nI b), .int (nI (tly (w * h) (if b = 1 then dr else mp) vt s b i)), .int (nI i)] [] G0 M := by
    intro k
    induction k with
    | zero => intro i hi hk; exact absurd hk (Nat.not_lt_zero _)
    | succ k ih =>
      intro i hi hk
      refine PW.ige rfl trivial (fun h9 => ?_) (fun h9 => ?_)
      · skip
        rw [i6 (by omega)] at h9
        have e9 : i = 6 := by omega
        subst e9
        refine PW.iret rfl rfl trivial ?_
        exact ⟨rfl, rfl⟩
      · skip
        rw [i6 (by omega)] at h9
        have hn := F.1.n
        refine PW.ine rfl trivial (fun h15 => ?_) (fun h15 => ?_)
        · skip
          rw [show (2 : Int32) = nI 2 from rfl, nI_eq (by omega) (by omega)] at h15
          refine PW.funV rfl trivial sX8_188 rfl rfl (by decide) rfl (m_winner F S i (by omega)) ?_
          refine PW.ine rfl trivial (fun h39 => ?_) (fun h39 => ?_)
          · skip
            have htl : tly (w * h) (if b = 1 then dr else mp) vt s b (i + 1) = tly (w * h) (if b = 1 then dr else mp) vt s b i + 0 := by simp only [tly, fb_sm, if_neg h15, if_neg h39]
            refine PW.goto rfl trivial ?_
            rw [nI_1]
            refine PW.lc ?_ (ih (i + 1) (by omega) (by omega))
            simp only [htl, Nat.add_zero, Int32.add_zero]
          · skip
            have htl : tly (w * h) (if b = 1 then dr else mp) vt s b (i + 1) = tly (w * h) (if b = 1 then dr else mp) vt s b i + many (if b = 1 then dr else mp) i (w * h) := by simp only [tly, fb_sm, if_neg h15, if_pos h39]
            refine PW.ine rfl trivial (fun h45 => ?_) (fun h45 => ?_)
            · skip
              rw [show (1 : Int32) = nI 1 from rfl, nI_eq (by omega) (by omega)] at h45
              have hmf : (if b = 1 then dr else mp) = mp := if_neg h45
              refine PW.funV rfl trivial sX8_106 rfl rfl (by decide) rfl (m_manyOf _ i (by omega) F.1 S.1) ?_
              refine PW.goto rfl trivial ?_
              refine PW.goto rfl trivial ?_
              rw [nI_1]
              refine PW.lc ?_ (ih (i + 1) (by omega) (by omega))
              first | (rw [e1, nI_clamp (by omega), S.2.2 _ (by omega), nI_add, htl]) | (rw [nI_add, htl, hmf]; rfl)
            · skip
              rw [show (1 : Int32) = nI 1 from rfl, nI_eq (by omega) (by omega)] at h45
              have hmf : (if b = 1 then dr else mp) = dr := if_pos h45
              refine PW.goto rfl trivial ?_
              refine PW.funV rfl trivial sX8_106 rfl rfl (by decide) rfl (m_manyOf _ i (by omega) F.1 S.1) ?_
              refine PW.goto rfl trivial ?_
              refine PW.goto rfl trivial ?_
              rw [nI_1]
              refine PW.lc ?_ (ih (i + 1) (by omega) (by omega))
              first | (rw [e1, nI_clamp (by omega), S.2.2 _ (by omega), nI_add, htl]) | (rw [nI_add, htl, hmf]; rfl)
        · skip
          rw [show (2 : Int32) = nI 2 from rfl, nI_eq (by omega) (by omega)] at h15
          have e1 : (3 : Int32) * nI i + nI s = nI (3 * i + s) := by rw [show (3 : Int32) = nI 3 from rfl, pk_mul, nI_add]
          have htl : tly (w * h) (if b = 1 then dr else mp) vt s b (i + 1) = tly (w * h) (if b = 1 then dr else mp) vt s b i + vt (3 * i + s) := by simp only [tly, fb_sm, if_pos h15]
          refine PW.goto rfl ⟨trivial, (by rw [e1]; exact vp_in_nI (by omega) (by decide))⟩ ?_
          refine PW.goto rfl trivial ?_
          rw [nI_1]
          refine PW.lc ?_ (ih (i + 1) (by omega) (by omega))
          first | (rw [e1, nI_clamp (by omega), S.2.2 _ (by omega), nI_add, htl]) | (rw [nI_add, htl, hmf]; rfl)
  refine PW.to 5 rfl trivial ?_
  exact loop5 7 0 (by omega) (by omega)
theorem tly_lt {n : Nat} {f vt : Nat → Nat} {s b : Nat} (hn : n ≤ 36) (hv : ∀ k, vt k ≤ 999) : ∀ k, tly n f vt s b k ≤ 999 * k
  | 0 => Nat.le_refl _
  | k + 1 => by
    have ih := tly_lt (f := f) (s := s) (b := b) hn hv k
    have h1 := hv (3 * k + s)
    have h2 := many_le f k n
    have h3 : (if b = 2 then vt (3 * k + s) else if wnr vt k = nI s then many f k n else 0) ≤ 999 := by
      split
      · exact h1
      · split <;> omega
    simp only [tly, fb_sm] at ih ⊢
    omega
theorem m_leader {w h : Nat} {mp dr hd : Nat → Nat} {wy : Nat} {vt : Nat → Nat} (F : Sf w h mp dr hd wy vt) (S : SM w h mp dr hd wy vt M) (b : Nat) (hb : b < 3) : PF X l mX8_leader 3 [.ref 29, .int (nI b)] G0 M (.int (ldr (w * h) mp dr vt b)) := by
  refine PF.ofW okX8_leader ?_
  have hn := F.1.n
  have t0 := tly_lt (f := if b = 1 then dr else mp) (s := 0) (b := b) hn F.2.2 6
  have t1 := tly_lt (f := if b = 1 then dr else mp) (s := 1) (b := b) hn F.2.2 6
  have t2 := tly_lt (f := if b = 1 then dr else mp) (s := 2) (b := b) hn F.2.2 6
  refine PW.funV rfl trivial sX8_191 rfl rfl (by decide) rfl (m_sum F S 0 b (by omega) hb) ?_
  refine PW.funV rfl trivial sX8_191 rfl rfl (by decide) rfl (m_sum F S 1 b (by omega) hb) ?_
  refine PW.funV rfl trivial sX8_191 rfl rfl (by decide) rfl (m_sum F S 2 b (by omega) hb) ?_
  refine PW.funS rfl trivial sX8_184 rfl (by decide) rfl (m_most _ _ _ (by omega) (by omega) (by omega)) ?_
  refine PW.iret rfl rfl trivial ?_
  exact ⟨rfl, rfl⟩
theorem p_at {w h : Nat} {mp dr hd : Nat → Nat} {wy : Nat} {vt : Nat → Nat} (F : Sf w h mp dr hd wy vt) (S : SM w h mp dr hd wy vt M) (on c : Int32) : PC X l mX8_at 2 [.ref 29, .int on, .int c] G0 M (fun v M' => v = some (.int (if okc (w * h) c = true then nI (sl on mp dr (tn c)) else -1)) ∧ (SM w h mp dr hd wy vt M' ∧ FM M M')) := by
  refine PC.ofW okX8_at ?_
  have hn := F.1.n
  have S0 := (S.fj (th0 M (A := []))).1
  refine PW.funV rfl trivial sX8_91 rfl rfl (by decide) rfl (m_noCell _ F.1 S0.1) ?_
  refine PW.zeq rfl trivial (fun h10 => ?_) (fun h10 => ?_)
  · skip
    rw [bn_eq] at h10
    change okc (w * h) c = true at h10
    obtain ⟨k, hk, rfl⟩ := okc_x h10
    refine PW.funV rfl trivial sX8_95 rfl rfl (by decide) rfl (m_cellOf on k (by omega) S0.1) ?_
    refine PW.iret rfl rfl trivial ?_
    first | exact ⟨by rw [if_f h10], S.fj (th0 M (A := []))⟩ | exact ⟨by rw [if_t h10, tn_nI (by omega)], S.fj (th0 M (A := []))⟩
  · skip
    rw [bn_ne] at h10
    change okc (w * h) c = false at h10
    refine PW.goto rfl trivial ?_
    refine PW.iret rfl rfl trivial ?_
    first | exact ⟨by rw [if_f h10], S.fj (th0 M (A := []))⟩ | exact ⟨by rw [if_t h10, tn_nI (by omega)], S.fj (th0 M (A := []))⟩
theorem p_cells {w h : Nat} {mp dr hd : Nat → Nat} {wy : Nat} {vt : Nat → Nat} (F : Sf w h mp dr hd wy vt) (S : SM w h mp dr hd wy vt M) (on lv : Int32) : PC X l mX8_cells 2 [.ref 29, .int on, .int lv] G0 M (fun v M' => v = some (.int (if okl 5 lv = true then nI (many (sl on mp dr) (tn lv) (w * h)) else -1)) ∧ (SM w h mp dr hd wy vt M' ∧ FM M M')) := by
  refine PC.ofW okX8_cells ?_
  have hn := F.1.n
  have S0 := (S.fj (th0 M (A := []))).1
  refine PW.funS rfl trivial sX8_103 rfl (by decide) rfl (m_noLand _) ?_
  refine PW.zeq rfl trivial (fun h9 => ?_) (fun h9 => ?_)
  · skip
    rw [bn_eq] at h9
    change okl 5 lv = true at h9
    obtain ⟨j, hj, rfl⟩ := okl_x (m := 5) h9
    refine PW.funV rfl trivial sX8_106 rfl rfl (by decide) rfl (m_manyOf on j (by omega) F.1 S0.1) ?_
    refine PW.iret rfl rfl trivial ?_
    first | exact ⟨by rw [if_f h9], S.fj (th0 M (A := []))⟩ | exact ⟨by rw [if_t h9, tn_nI (by omega)], S.fj (th0 M (A := []))⟩
  · skip
    rw [bn_ne] at h9
    change okl 5 lv = false at h9
    refine PW.goto rfl trivial ?_
    refine PW.iret rfl rfl trivial ?_
    first | exact ⟨by rw [if_f h9], S.fj (th0 M (A := []))⟩ | exact ⟨by rw [if_t h9, tn_nI (by omega)], S.fj (th0 M (A := []))⟩
theorem p_due {w h : Nat} {mp dr hd : Nat → Nat} {wy : Nat} {vt : Nat → Nat} (F : Sf w h mp dr hd wy vt) (S : SM w h mp dr hd wy vt M) (lv : Int32) : PC X l mX8_due 3 [.ref 29, .int lv] G0 M (fun v M' => v = some (.int (if okl 5 lv = true then nI ((due hd wy (w * h - many mp 6 (w * h))) (tn lv)) else -1)) ∧ (SM w h mp dr hd wy vt M' ∧ FM M M')) := by
  refine PC.ofW okX8_due ?_
  have hn := F.1.n
  have S0 := (S.fj (th0 M (A := []))).1
  refine PW.funS rfl trivial sX8_103 rfl (by decide) rfl (m_noLand _) ?_
  refine PW.zeq rfl trivial (fun h9 => ?_) (fun h9 => ?_)
  · skip
    rw [bn_eq] at h9
    change okl 5 lv = true at h9
    obtain ⟨j, hj, rfl⟩ := okl_x (m := 5) h9
    refine PW.callV rfl trivial sX8_114 rfl rfl (by decide) rfl (m_share F.1 S0.1 F.2.1 S0.2.1) (fun v15 M15 hq15 => ?_)
    obtain ⟨rfl, hF1, hz⟩ := hq15
    refine PW.iret rfl rfl ⟨trivial, vp_in_nI (by omega) (by decide)⟩ ?_
    exact ⟨by rw [if_t h9, tn_nI (by omega), nI_clamp (by omega), hz j (by omega)], S.fj ((th0 M (A := [33])).tr (hF1.fj (by decide)))⟩
  · skip
    rw [bn_ne] at h9
    change okl 5 lv = false at h9
    refine PW.iret rfl rfl trivial ?_
    exact ⟨by rw [if_f h9], S.fj (th0 M (A := []))⟩
theorem p_parts {w h : Nat} {mp dr hd : Nat → Nat} {wy : Nat} {vt : Nat → Nat} (F : Sf w h mp dr hd wy vt) (S : SM w h mp dr hd wy vt M) (lv : Int32) : PC X l mX8_parts 3 [.ref 29, .int lv] G0 M (fun v M' => v = some (.int (if okl 5 lv = true then nI (prt (fun c => decide (dr c = tn lv)) w (w * h)) else -1)) ∧ (SM w h mp dr hd wy vt M' ∧ FM M M')) := by
  refine PC.ofW okX8_parts ?_
  have hn := F.1.n
  have S0 := (S.fj (th0 M (A := []))).1
  refine PW.funS rfl trivial sX8_103 rfl (by decide) rfl (m_noLand _) ?_
  refine PW.zeq rfl trivial (fun h9 => ?_) (fun h9 => ?_)
  · skip
    rw [bn_eq] at h9
    change okl 5 lv = true at h9
    obtain ⟨j, hj, rfl⟩ := okl_x (m := 5) h9
    refine PW.callV rfl trivial sX8_125 rfl rfl (by decide) rfl (m_partsOf j (by omega) F.1 S0.1) (fun v18 M18 hq18 => ?_)
    obtain ⟨rfl, hF1⟩ := hq18
    refine PW.iret rfl rfl trivial ?_
    first | exact ⟨by rw [if_f h9], S.fj (th0 M (A := []))⟩ | exact ⟨by rw [if_t h9, tn_nI (by omega)], S.fj ((th0 M (A := [34, 35])).tr (hF1.fj (by decide)))⟩
  · skip
    rw [bn_ne] at h9
    change okl 5 lv = false at h9
    refine PW.goto rfl trivial ?_
    refine PW.iret rfl rfl trivial ?_
    first | exact ⟨by rw [if_f h9], S.fj (th0 M (A := []))⟩ | exact ⟨by rw [if_t h9, tn_nI (by omega)], S.fj ((th0 M (A := [34, 35])).tr (hF1.fj (by decide)))⟩
theorem p_beside {w h : Nat} {mp dr hd : Nat → Nat} {wy : Nat} {vt : Nat → Nat} (F : Sf w h mp dr hd wy vt) (S : SM w h mp dr hd wy vt M) (on a b : Int32) : PC X l mX8_beside 4 [.ref 29, .int on, .int a, .int b] G0 M (fun v M' => v = some (.int (if (okl 5 a && okl 5 b) = true then (if a = b then -3 else bo (nbr w (w * h) (sl on mp dr) (tn a) (tn b))) else -1)) ∧ (SM w h mp dr hd wy vt M' ∧ FM M M')) := by
  refine PC.ofW okX8_beside ?_
  have hn := F.1.n
  have S0 := (S.fj (th0 M (A := []))).1
  refine PW.funS rfl trivial sX8_103 rfl (by decide) rfl (m_noLand _) ?_
  refine PW.zne rfl trivial (fun h9 => ?_) (fun h9 => ?_)
  · skip
    rw [bn_ne] at h9
    change okl 5 a = false at h9
    refine PW.iret rfl rfl trivial ?_
    first | exact ⟨by rw [if_f (by rw [show okl 5 a = false from h9]; rfl)], S.fj (th0 M (A := []))⟩ | exact ⟨by rw [if_f (by rw [show okl 5 b = false from h16]; exact Bool.and_false _)], S.fj (th0 M (A := []))⟩
  · skip
    rw [bn_eq] at h9
    change okl 5 a = true at h9
    obtain ⟨j, hj, rfl⟩ := okl_x (m := 5) h9
    refine PW.funS rfl trivial sX8_103 rfl (by decide) rfl (m_noLand _) ?_
    refine PW.zeq rfl trivial (fun h16 => ?_) (fun h16 => ?_)
    · skip
      rw [bn_eq] at h16
      change okl 5 b = true at h16
      obtain ⟨i, hi, rfl⟩ := okl_x (m := 5) h16
      refine PW.ine rfl trivial (fun h23 => ?_) (fun h23 => ?_)
      · skip
        refine PW.funV rfl trivial sX8_132 rfl rfl (by decide) rfl (m_areBeside on j i (by omega) (by omega) F.1 S0.1) ?_
        refine PW.zeq rfl trivial (fun h38 => ?_) (fun h38 => ?_)
        · skip
          rw [bo_eq] at h38
          refine PW.iret rfl rfl trivial ?_
          first | exact ⟨by rw [if_t (by rw [show okl 5 (nI j) = true from h9, show okl 5 (nI i) = true from h16]; rfl), if_neg h23, tn_nI (by omega), tn_nI (by omega), h38]; rfl, S.fj (th0 M (A := []))⟩ | exact ⟨by rw [if_t (by rw [show okl 5 (nI j) = true from h9, show okl 5 (nI i) = true from h16]; rfl), if_pos h23], S.fj (th0 M (A := []))⟩
        · skip
          rw [bo_ne] at h38
          refine PW.goto rfl trivial ?_
          refine PW.iret rfl rfl trivial ?_
          first | exact ⟨by rw [if_t (by rw [show okl 5 (nI j) = true from h9, show okl 5 (nI i) = true from h16]; rfl), if_neg h23, tn_nI (by omega), tn_nI (by omega), h38]; rfl, S.fj (th0 M (A := []))⟩ | exact ⟨by rw [if_t (by rw [show okl 5 (nI j) = true from h9, show okl 5 (nI i) = true from h16]; rfl), if_pos h23], S.fj (th0 M (A := []))⟩
      · skip
        refine PW.goto rfl trivial ?_
        refine PW.iret rfl rfl trivial ?_
        first | exact ⟨by rw [if_t (by rw [show okl 5 (nI j) = true from h9, show okl 5 (nI i) = true from h16]; rfl), if_neg h23, tn_nI (by omega), tn_nI (by omega), h38]; rfl, S.fj (th0 M (A := []))⟩ | exact ⟨by rw [if_t (by rw [show okl 5 (nI j) = true from h9, show okl 5 (nI i) = true from h16]; rfl), if_pos h23], S.fj (th0 M (A := []))⟩
    · skip
      rw [bn_ne] at h16
      change okl 5 b = false at h16
      refine PW.iret rfl rfl trivial ?_
      first | exact ⟨by rw [if_f (by rw [show okl 5 a = false from h9]; rfl)], S.fj (th0 M (A := []))⟩ | exact ⟨by rw [if_f (by rw [show okl 5 b = false from h16]; exact Bool.and_false _)], S.fj (th0 M (A := []))⟩
theorem p_faults {w h : Nat} {mp dr hd : Nat → Nat} {wy : Nat} {vt : Nat → Nat} (F : Sf w h mp dr hd wy vt) (S : SM w h mp dr hd wy vt M)  : PC X l mX8_faults 5 [.ref 29] G0 M (fun v M' => v = some (.int (nI (flt w (w * h) mp dr (due hd wy (w * h - many mp 6 (w * h))) 6))) ∧ (SM w h mp dr hd wy vt M' ∧ FM M M')) := by
  refine PC.ofW okX8_faults ?_
  have hn := F.1.n
  have S0 := (S.fj (th0 M (A := []))).1
  refine PW.callV rfl trivial sX8_135 rfl rfl (by decide) rfl (m_allFaults F.1 S0.1 F.2.1 S0.2.1) (fun v6 M6 hq6 => ?_)
  obtain ⟨rfl, hF1⟩ := hq6
  refine PW.iret rfl rfl trivial ?_
  exact ⟨rfl, S.fj ((th0 M (A := [33, 34, 35])).tr (hF1.fj (by decide)))⟩
theorem p_would {w h : Nat} {mp dr hd : Nat → Nat} {wy : Nat} {vt : Nat → Nat} (F : Sf w h mp dr hd wy vt) (S : SM w h mp dr hd wy vt M) (c lv : Int32) : PC X l mX8_would 6 [.ref 29, .int c, .int lv] G0 M (fun v M' => v = some (.int (if (okc (w * h) c && okl 6 lv) = true then (if chg w (w * h) dr (tn c) (tn lv) = true then nI (flt w (w * h) mp (set1 dr (tn c) (tn lv)) (due hd wy (w * h - many mp 6 (w * h))) 6) else -3) else -1)) ∧ (SM w h mp dr hd wy vt M' ∧ FM M M')) := by
  refine PC.ofW okX8_would ?_
  have hn := F.1.n
  have S0 := (S.fj (th0 M (A := []))).1
  refine PW.funV rfl trivial sX8_91 rfl rfl (by decide) rfl (m_noCell _ F.1 S0.1) ?_
  refine PW.zne rfl trivial (fun h10 => ?_) (fun h10 => ?_)
  · skip
    rw [bn_ne] at h10
    change okc (w * h) c = false at h10
    refine PW.iret rfl rfl trivial ?_
    first | exact ⟨by rw [if_f (by rw [show okc (w * h) c = false from h10]; rfl)], S.fj (th0 M (A := []))⟩ | exact ⟨by rw [if_f (by rw [h22]; exact Bool.and_false _)], S.fj (th0 M (A := []))⟩
  · skip
    rw [bn_eq] at h10
    change okc (w * h) c = true at h10
    obtain ⟨k, hk, rfl⟩ := okc_x h10
    refine PW.funS rfl trivial sX8_81 rfl (by decide) rfl (m_in _ _ _) ?_
    refine PW.zne rfl trivial (fun h22 => ?_) (fun h22 => ?_)
    · skip
      rw [show decide ((0 : Int64) ≤ lv.toInt64 ∧ lv.toInt64 ≤ (6 : Int64)) = okl 6 lv from in_l lv 6, bo_ne] at h22
      obtain ⟨j, hj, rfl⟩ := okl_x (m := 6) h22
      refine PW.funV rfl trivial sX8_139 rfl rfl (by decide) rfl (m_isChange F.1 S0.1 k j hk hj) ?_
      refine PW.zeq rfl trivial (fun h33 => ?_) (fun h33 => ?_)
      · skip
        rw [bo_eq] at h33
        refine PW.iret rfl rfl trivial ?_
        first | exact ⟨by rw [if_t (by rw [show okc (w * h) (nI k) = true from h10, h22]; rfl), tn_nI (by omega), tn_nI (by omega), if_f h33], S.fj (th0 M (A := []))⟩ | exact ⟨by rw [if_t (by rw [show okc (w * h) (nI k) = true from h10, h22]; rfl), tn_nI (by omega), tn_nI (by omega), if_t h33], S.fj ((th0 M (A := [33, 34, 35])).tr (hF1.fj (by decide)))⟩
      · skip
        rw [bo_ne] at h33
        refine PW.callV rfl trivial sX8_142 rfl rfl (by decide) rfl (m_faultsBy F.1 S0.1 F.2.1 S0.2.1 k j hk hj) (fun v39 M39 hq39 => ?_)
        obtain ⟨rfl, hF1⟩ := hq39
        refine PW.goto rfl trivial ?_
        refine PW.iret rfl rfl trivial ?_
        first | exact ⟨by rw [if_t (by rw [show okc (w * h) (nI k) = true from h10, h22]; rfl), tn_nI (by omega), tn_nI (by omega), if_f h33], S.fj (th0 M (A := []))⟩ | exact ⟨by rw [if_t (by rw [show okc (w * h) (nI k) = true from h10, h22]; rfl), tn_nI (by omega), tn_nI (by omega), if_t h33], S.fj ((th0 M (A := [33, 34, 35])).tr (hF1.fj (by decide)))⟩
    · skip
      rw [show decide ((0 : Int64) ≤ lv.toInt64 ∧ lv.toInt64 ≤ (6 : Int64)) = okl 6 lv from in_l lv 6, bo_eq] at h22
      refine PW.iret rfl rfl trivial ?_
      first | exact ⟨by rw [if_f (by rw [show okc (w * h) c = false from h10]; rfl)], S.fj (th0 M (A := []))⟩ | exact ⟨by rw [if_f (by rw [h22]; exact Bool.and_false _)], S.fj (th0 M (A := []))⟩
theorem p_mayHand {w h : Nat} {mp dr hd : Nat → Nat} {wy : Nat} {vt : Nat → Nat} (F : Sf w h mp dr hd wy vt) (S : SM w h mp dr hd wy vt M) (c lv : Int32) : PC X l mX8_mayHand 4 [.ref 29, .int c, .int lv] G0 M (fun v M' => v = some (.int (if (okc (w * h) c && okl 5 lv) = true then bo (mayh w (w * h) dr (tn c) (tn lv)) else -1)) ∧ (SM w h mp dr hd wy vt M' ∧ FM M M')) := by
  refine PC.ofW okX8_mayHand ?_
  have hn := F.1.n
  have S0 := (S.fj (th0 M (A := []))).1
  refine PW.funV rfl trivial sX8_91 rfl rfl (by decide) rfl (m_noCell _ F.1 S0.1) ?_
  refine PW.zne rfl trivial (fun h10 => ?_) (fun h10 => ?_)
  · skip
    rw [bn_ne] at h10
    change okc (w * h) c = false at h10
    refine PW.goto rfl trivial ?_
    refine PW.iret rfl rfl trivial ?_
    first | exact ⟨by rw [if_t (by rw [show okc (w * h) (nI k) = true from h10, show okl 5 (nI j) = true from h17]; rfl), tn_nI (by omega), tn_nI (by omega), h30]; rfl, S.fj ((th0 M (A := [34, 35])).tr (hF1.fj (by decide)))⟩ | exact ⟨by rw [if_f (by rw [show okl 5 lv = false from h17]; exact Bool.and_false _)], S.fj (th0 M (A := []))⟩ | exact ⟨by rw [if_f (by rw [show okc (w * h) c = false from h10]; rfl)], S.fj (th0 M (A := []))⟩
  · skip
    rw [bn_eq] at h10
    change okc (w * h) c = true at h10
    obtain ⟨k, hk, rfl⟩ := okc_x h10
    refine PW.funS rfl trivial sX8_103 rfl (by decide) rfl (m_noLand _) ?_
    refine PW.zeq rfl trivial (fun h17 => ?_) (fun h17 => ?_)
    · skip
      rw [bn_eq] at h17
      change okl 5 lv = true at h17
      obtain ⟨j, hj, rfl⟩ := okl_x (m := 5) h17
      refine PW.callV rfl trivial sX8_147 rfl rfl (by decide) rfl (m_may F.1 S0.1 k j hk (by omega)) (fun v27 M27 hq27 => ?_)
      obtain ⟨rfl, hF1⟩ := hq27
      refine PW.zeq rfl trivial (fun h30 => ?_) (fun h30 => ?_)
      · skip
        rw [bo_eq] at h30
        refine PW.iret rfl rfl trivial ?_
        first | exact ⟨by rw [if_t (by rw [show okc (w * h) (nI k) = true from h10, show okl 5 (nI j) = true from h17]; rfl), tn_nI (by omega), tn_nI (by omega), h30]; rfl, S.fj ((th0 M (A := [34, 35])).tr (hF1.fj (by decide)))⟩ | exact ⟨by rw [if_f (by rw [show okl 5 lv = false from h17]; exact Bool.and_false _)], S.fj (th0 M (A := []))⟩ | exact ⟨by rw [if_f (by rw [show okc (w * h) c = false from h10]; rfl)], S.fj (th0 M (A := []))⟩
      · skip
        rw [bo_ne] at h30
        refine PW.goto rfl trivial ?_
        refine PW.iret rfl rfl trivial ?_
        first | exact ⟨by rw [if_t (by rw [show okc (w * h) (nI k) = true from h10, show okl 5 (nI j) = true from h17]; rfl), tn_nI (by omega), tn_nI (by omega), h30]; rfl, S.fj ((th0 M (A := [34, 35])).tr (hF1.fj (by decide)))⟩ | exact ⟨by rw [if_f (by rw [show okl 5 lv = false from h17]; exact Bool.and_false _)], S.fj (th0 M (A := []))⟩ | exact ⟨by rw [if_f (by rw [show okc (w * h) c = false from h10]; rfl)], S.fj (th0 M (A := []))⟩
    · skip
      rw [bn_ne] at h17
      change okl 5 lv = false at h17
      refine PW.goto rfl trivial ?_
      refine PW.iret rfl rfl trivial ?_
      first | exact ⟨by rw [if_t (by rw [show okc (w * h) (nI k) = true from h10, show okl 5 (nI j) = true from h17]; rfl), tn_nI (by omega), tn_nI (by omega), h30]; rfl, S.fj ((th0 M (A := [34, 35])).tr (hF1.fj (by decide)))⟩ | exact ⟨by rw [if_f (by rw [show okl 5 lv = false from h17]; exact Bool.and_false _)], S.fj (th0 M (A := []))⟩ | exact ⟨by rw [if_f (by rw [show okc (w * h) c = false from h10]; rfl)], S.fj (th0 M (A := []))⟩
theorem p_won {w h : Nat} {mp dr hd : Nat → Nat} {wy : Nat} {vt : Nat → Nat} (F : Sf w h mp dr hd wy vt) (S : SM w h mp dr hd wy vt M) (lv : Int32) : PC X l mX8_won 2 [.ref 29, .int lv] G0 M (fun v M' => v = some (.int (if okl 5 lv = true then wnr vt (tn lv) else -1)) ∧ (SM w h mp dr hd wy vt M' ∧ FM M M')) := by
  refine PC.ofW okX8_won ?_
  have hn := F.1.n
  have S0 := (S.fj (th0 M (A := []))).1
  refine PW.funS rfl trivial sX8_103 rfl (by decide) rfl (m_noLand _) ?_
  refine PW.zeq rfl trivial (fun h9 => ?_) (fun h9 => ?_)
  · skip
    rw [bn_eq] at h9
    change okl 5 lv = true at h9
    obtain ⟨j, hj, rfl⟩ := okl_x (m := 5) h9
    refine PW.funV rfl trivial sX8_188 rfl rfl (by decide) rfl (m_winner F S0 j (by omega)) ?_
    refine PW.iret rfl rfl trivial ?_
    first | exact ⟨by rw [if_f h9], S.fj (th0 M (A := []))⟩ | exact ⟨by rw [if_t h9, tn_nI (by omega)], S.fj (th0 M (A := []))⟩
  · skip
    rw [bn_ne] at h9
    change okl 5 lv = false at h9
    refine PW.goto rfl trivial ?_
    refine PW.iret rfl rfl trivial ?_
    first | exact ⟨by rw [if_f h9], S.fj (th0 M (A := []))⟩ | exact ⟨by rw [if_t h9, tn_nI (by omega)], S.fj (th0 M (A := []))⟩
theorem p_has {w h : Nat} {mp dr hd : Nat → Nat} {wy : Nat} {vt : Nat → Nat} (F : Sf w h mp dr hd wy vt) (S : SM w h mp dr hd wy vt M) (sd b : Int32) : PC X l mX8_has 3 [.ref 29, .int sd, .int b] G0 M (fun v M' => v = some (.int (if okl 2 sd = true then (if okl 2 b = true then nI (tly (w * h) (if tn b = 1 then dr else mp) vt (tn sd) (tn b) 6) else -2) else -1)) ∧ (SM w h mp dr hd wy vt M' ∧ FM M M')) := by
  refine PC.ofW okX8_has ?_
  have hn := F.1.n
  have S0 := (S.fj (th0 M (A := []))).1
  refine PW.funS rfl trivial sX8_181 rfl (by decide) rfl (m_noSide _) ?_
  refine PW.zeq rfl trivial (fun h9 => ?_) (fun h9 => ?_)
  · skip
    rw [bn_eq] at h9
    change okl 2 sd = true at h9
    obtain ⟨j, hj, rfl⟩ := okl_x (m := 2) h9
    refine PW.funS rfl trivial sX8_81 rfl (by decide) rfl (m_in _ _ _) ?_
    refine PW.zeq rfl trivial (fun h23 => ?_) (fun h23 => ?_)
    · skip
      rw [show decide ((0 : Int64) ≤ b.toInt64 ∧ b.toInt64 ≤ (2 : Int64)) = okl 2 b from in_l b 2, bo_eq] at h23
      refine PW.iret rfl rfl trivial ?_
      first | exact ⟨by rw [if_t (show okl 2 (nI j) = true from h9), if_f h23], S.fj (th0 M (A := []))⟩ | exact ⟨by rw [if_t (show okl 2 (nI j) = true from h9), if_t h23, tn_nI (by omega), tn_nI (by omega)], S.fj (th0 M (A := []))⟩
    · skip
      rw [show decide ((0 : Int64) ≤ b.toInt64 ∧ b.toInt64 ≤ (2 : Int64)) = okl 2 b from in_l b 2, bo_ne] at h23
      obtain ⟨i, hi, rfl⟩ := okl_x (m := 2) h23
      refine PW.funV rfl trivial sX8_191 rfl rfl (by decide) rfl (m_sum F S0 j i (by omega) (by omega)) ?_
      refine PW.goto rfl trivial ?_
      refine PW.iret rfl rfl trivial ?_
      first | exact ⟨by rw [if_t (show okl 2 (nI j) = true from h9), if_f h23], S.fj (th0 M (A := []))⟩ | exact ⟨by rw [if_t (show okl 2 (nI j) = true from h9), if_t h23, tn_nI (by omega), tn_nI (by omega)], S.fj (th0 M (A := []))⟩
  · skip
    rw [bn_ne] at h9
    change okl 2 sd = false at h9
    refine PW.iret rfl rfl trivial ?_
    exact ⟨by rw [if_f h9], S.fj (th0 M (A := []))⟩
theorem p_ahead {w h : Nat} {mp dr hd : Nat → Nat} {wy : Nat} {vt : Nat → Nat} (F : Sf w h mp dr hd wy vt) (S : SM w h mp dr hd wy vt M) (b : Int32) : PC X l mX8_ahead 4 [.ref 29, .int b] G0 M (fun v M' => v = some (.int (if okl 2 b = true then ldr (w * h) mp dr vt (tn b) else -2)) ∧ (SM w h mp dr hd wy vt M' ∧ FM M M')) := by
  refine PC.ofW okX8_ahead ?_
  have hn := F.1.n
  have S0 := (S.fj (th0 M (A := []))).1
  refine PW.funS rfl trivial sX8_81 rfl (by decide) rfl (m_in _ _ _) ?_
  refine PW.zeq rfl trivial (fun h14 => ?_) (fun h14 => ?_)
  · skip
    rw [show decide ((0 : Int64) ≤ b.toInt64 ∧ b.toInt64 ≤ (2 : Int64)) = okl 2 b from in_l b 2, bo_eq] at h14
    refine PW.iret rfl rfl trivial ?_
    first | exact ⟨by rw [if_f h14], S.fj (th0 M (A := []))⟩ | exact ⟨by rw [if_t h14, tn_nI (by omega)], S.fj (th0 M (A := []))⟩
  · skip
    rw [show decide ((0 : Int64) ≤ b.toInt64 ∧ b.toInt64 ≤ (2 : Int64)) = okl 2 b from in_l b 2, bo_ne] at h14
    obtain ⟨i, hi, rfl⟩ := okl_x (m := 2) h14
    refine PW.funV rfl trivial sX8_194 rfl rfl (by decide) rfl (m_leader F S0 i (by omega)) ?_
    refine PW.goto rfl trivial ?_
    refine PW.iret rfl rfl trivial ?_
    first | exact ⟨by rw [if_f h14], S.fj (th0 M (A := []))⟩ | exact ⟨by rw [if_t h14, tn_nI (by omega)], S.fj (th0 M (A := []))⟩
end M7
