-- made by wip/whole/mk_m14.py
section M14
variable {X : Cx} {l : Launch} {M : Mem}
theorem p_carried {w h : Nat} {mp dr hd : Nat → Nat} {wy : Nat} {vt : Nat → Nat} (F : Sf w h mp dr hd wy vt) (S : SM w h mp dr hd wy vt M) (lv : Int32) : PC X l mX8_carried 4 [.ref 29, .int lv] G0 M (fun v M' => v = some (.int (if okl 5 lv = true then (if many mp (tn lv) (w * h) = many dr (tn lv) (w * h) then (Int32.ofInt (carV (w * h) (stp w) (fun x => decide (mp x = tn lv)) (fun x => decide (dr x = tn lv)))) else -3) else -1)) ∧ (SM w h mp dr hd wy vt M' ∧ FM M M')) := by
  refine PC.ofW okX8_carried ?_
  have hn := F.1.n
  have S0 := (S.fj (th0 M (A := []))).1
  have hw0 : 0 < w * h := Nat.mul_pos (by have := F.1.1; omega) (by have := F.1.2.2.1; omega)
  have loop42 : ∀ k : Nat, ∀ (j i : Nat) (fr to : Nat → Nat) (M2 : Mem), j ≤ 5 → many mp j (w * h) = many dr j (w * h) → i ≤ w * h → FJ [38, 39] M M2 → (∀ k, fr k < w * h) → (∀ k, to k < w * h) → En (fun x => decide (mp x = j)) fr i (many mp j (i)) → En (fun x => decide (dr x = j)) to i (many dr j (i)) → (∀ k, 1 ≤ k → k ≤ many mp j (i) → M2.1 38 k = nI (fr k)) → (∀ k, 1 ≤ k → k ≤ many dr j (i) → M2.1 39 k = nI (to k)) → w * h - i < k → PW X l mX8_carried 4 (fun v M' => v = some (.int (Int32.ofInt (carV (w * h) (stp w) (fun x => decide (mp x = j)) (fun x => decide (dr x = j))))) ∧ (SM w h mp dr hd wy vt M' ∧ FM M M')) 42 [.ref 29, .int (nI j), .int (nI (many mp j (w * h))), .int (nI (many mp j (i))), .int (nI (many dr j (i))), .int (nI i)] [] G0 M2 := by
    intro k
    induction k with
    | zero => intro j i fr to M2 hj hmm hi J hf1 hf2 EA EB g38 g39 hk; exact absurd hk (Nat.not_lt_zero _)
    | succ k ih =>
      intro j i fr to M2 hj hmm hi J hf1 hf2 EA EB g38 g39 hk
      obtain ⟨S2, FM2⟩ := S.fj J
      have hml := many_le mp j i
      have hdl := many_le dr j i
      have hm6 := F.1.2.2.2.2.1 i
      have hd6 := F.1.2.2.2.2.2.1 i
      have join101 : ∀ (i : Nat) (fr to : Nat → Nat) (M2 : Mem), j ≤ 5 → many mp j (w * h) = many dr j (w * h) → i < w * h → FJ [38, 39] M M2 → (∀ k, fr k < w * h) → (∀ k, to k < w * h) → En (fun x => decide (mp x = j)) fr (i + 1) (many mp j ((i + 1))) → En (fun x => decide (dr x = j)) to (i + 1) (many dr j ((i + 1))) → (∀ k, 1 ≤ k → k ≤ many mp j ((i + 1)) → M2.1 38 k = nI (fr k)) → (∀ k, 1 ≤ k → k ≤ many dr j ((i + 1)) → M2.1 39 k = nI (to k)) → w * h - i < k + 1 → PW X l mX8_carried 4 (fun v M' => v = some (.int (Int32.ofInt (carV (w * h) (stp w) (fun x => decide (mp x = j)) (fun x => decide (dr x = j))))) ∧ (SM w h mp dr hd wy vt M' ∧ FM M M')) 101 [.ref 29, .int (nI j), .int (nI (many mp j (w * h))), .int (nI (many mp j (i + 1))), .int (nI (many dr j (i + 1))), .int (nI i)] [] G0 M2 := by
        intro i fr to M2 hj hmm hin J hf1 hf2 EA EB g38 g39 hk
        refine PW.goto rfl trivial ?_
        rw [nI_1]
        exact ih j (i + 1) fr to M2 hj hmm (by omega) J hf1 hf2 EA EB g38 g39 (by omega)
      have join78 : ∀ (i : Nat) (fr to : Nat → Nat) (M2 : Mem), j ≤ 5 → many mp j (w * h) = many dr j (w * h) → i < w * h → FJ [38, 39] M M2 → (∀ k, fr k < w * h) → (∀ k, to k < w * h) → En (fun x => decide (mp x = j)) fr (i + 1) (many mp j (i + 1)) → En (fun x => decide (dr x = j)) to i (many dr j (i)) → (∀ k, 1 ≤ k → k ≤ many mp j (i + 1) → M2.1 38 k = nI (fr k)) → (∀ k, 1 ≤ k → k ≤ many dr j (i) → M2.1 39 k = nI (to k)) → w * h - i < k + 1 → PW X l mX8_carried 4 (fun v M' => v = some (.int (Int32.ofInt (carV (w * h) (stp w) (fun x => decide (mp x = j)) (fun x => decide (dr x = j))))) ∧ (SM w h mp dr hd wy vt M' ∧ FM M M')) 78 [.ref 29, .int (nI j), .int (nI (many mp j (w * h))), .int (nI (many mp j (i + 1))), .int (nI (many dr j (i))), .int (nI i)] [] G0 M2 := by
        intro i fr to M2 hj hmm hin J hf1 hf2 EA EB g38 g39 hk
        obtain ⟨S2, FM2⟩ := S.fj J
        have hml := many_le mp j i
        have hdl := many_le dr j i
        have hm6 := F.1.2.2.2.2.1 i
        have hd6 := F.1.2.2.2.2.2.1 i
        have hml1 := many_le mp j (i + 1)
        refine PW.ine rfl ⟨trivial, vp_in_nI (by omega) (by decide)⟩ (fun h86 => ?_) (fun h86 => ?_)
        · skip
          rw [nI_clamp (by omega), S2.1.2.2.2 i (by omega), nI_eq (by omega) (by omega)] at h86
          have em : many dr j (i + 1) = many dr j i := by unfold many; rw [fb_ct_succ, if_neg (by simpa using h86), Nat.add_zero]
          refine PW.lc (by rw [← em]) (join101 i fr to M2 hj hmm hin J hf1 hf2 EA (by rw [em]; exact EB.skip (by simpa using h86)) g38 (by rw [em]; exact g39) hk)
        · skip
          rw [nI_clamp (by omega), S2.1.2.2.2 i (by omega), nI_eq (by omega) (by omega)] at h86
          have em : many dr j (i + 1) = many dr j i + 1 := by unfold many; rw [fb_ct_succ, if_pos (by simpa using h86)]
          refine PW.to 101 rfl ⟨trivial, (by rw [nI_1]; exact vp_in_nI (by omega) (by decide))⟩ ?_
          rw [nI_1, nI_clamp (by omega)]
          refine PW.lc (by rw [← em]) (join101 i fr (fun k => if k = many dr j i + 1 then i else to k) _ hj hmm hin (J.put (by decide)) hf1 (fun k => ?_) EA ?_ (fun k q1 q2 => ?_) (fun k q1 q2 => ?_) hk)
          · split
            · exact hin
            · exact hf2 k
          · rw [em]; exact EB.add (by simpa using h86) (if_pos rfl) (fun k hk => if_neg (by omega))
          · rw [up_o (by decide)]; exact g38 k q1 q2
          · by_cases e : k = many dr j i + 1
            · subst e; rw [up_s, if_pos rfl]
            · rw [up_n e, if_neg e]; exact g39 k q1 (by omega)
      refine PW.ige rfl trivial (fun h53 => ?_) (fun h53 => ?_)
      · skip
        rw [S2.1.wh, nI_leI (by omega) (by omega)] at h53
        have e9 : i = w * h := by omega
        subst e9
        refine PW.callV rfl trivial sX8_166 rfl rfl (by decide) rfl (m_assign F.1 S2.1 (many mp j (w * h)) (by omega) fr to (fun a b => stp w (fr a) (to b)) (fun _ _ => rfl) hf1 hf2 g38 (by rw [hmm]; exact g39)) (fun v109 M109 hq109 => ?_)
        obtain ⟨⟨u, v2, p, hH, rfl⟩, hF9⟩ := hq109
        have J9 := J.mono (B := [38, 39, 40, 41, 42, 43, 44, 45]) (by decide)
        obtain ⟨S9, FM9⟩ := S.fj (J9.tr (hF9.fj (by decide)))
        have ex := (hH.isx EA (by rw [hmm]; exact EB)).eq
        refine PW.iret rfl rfl trivial ?_
        exact ⟨by rw [ex], S9, FM9⟩
      · skip
        rw [S2.1.wh, nI_leI (by omega) (by omega)] at h53
        have hin : i < w * h := by omega
        refine PW.ine rfl ⟨trivial, vp_in_nI (by omega) (by decide)⟩ (fun h64 => ?_) (fun h64 => ?_)
        · skip
          rw [nI_clamp (by omega), S2.1.2.2.1 i (by omega), nI_eq (by omega) (by omega)] at h64
          have em : many mp j (i + 1) = many mp j i := by unfold many; rw [fb_ct_succ, if_neg (by simpa using h64), Nat.add_zero]
          refine PW.lc (by rw [← em]) (join78 i fr to M2 hj hmm hin J hf1 hf2 (by rw [em]; exact EA.skip (by simpa using h64)) EB (by rw [em]; exact g38) g39 hk)
        · skip
          rw [nI_clamp (by omega), S2.1.2.2.1 i (by omega), nI_eq (by omega) (by omega)] at h64
          have em : many mp j (i + 1) = many mp j i + 1 := by unfold many; rw [fb_ct_succ, if_pos (by simpa using h64)]
          refine PW.to 78 rfl ⟨trivial, (by rw [nI_1]; exact vp_in_nI (by omega) (by decide))⟩ ?_
          rw [nI_1, nI_clamp (by omega)]
          refine PW.lc (by rw [← em]) (join78 i (fun k => if k = many mp j i + 1 then i else fr k) to _ hj hmm hin (J.put (by decide)) (fun k => ?_) hf2 ?_ EB (fun k q1 q2 => ?_) (fun k q1 q2 => ?_) hk)
          · split
            · exact hin
            · exact hf1 k
          · rw [em]; exact EA.add (by simpa using h64) (if_pos rfl) (fun k hk => if_neg (by omega))
          · by_cases e : k = many mp j i + 1
            · subst e; rw [up_s, if_pos rfl]
            · rw [up_n e, if_neg e]; exact g38 k q1 (by omega)
          · rw [up_o (by decide)]; exact g39 k q1 q2
  refine PW.funS rfl trivial sX8_103 rfl (by decide) rfl (m_noLand _) ?_
  refine PW.zeq rfl trivial (fun h9 => ?_) (fun h9 => ?_)
  · skip
    rw [bn_eq] at h9
    change okl 5 lv = true at h9
    obtain ⟨j, hj, rfl⟩ := okl_x (m := 5) h9
    refine PW.funV rfl trivial sX8_106 rfl rfl (by decide) rfl (m_manyOf 0 j (by omega) F.1 S0.1) ?_
    refine PW.funV rfl trivial sX8_106 rfl rfl (by decide) rfl (m_manyOf 1 j (by omega) F.1 S0.1) ?_
    rw [show sl 1 mp dr = dr from rfl, show sl 0 mp dr = mp from rfl]
    have h1m := many_le mp j (w * h)
    have h1d := many_le dr j (w * h)
    refine PW.ieq rfl trivial (fun h28 => ?_) (fun h28 => ?_)
    · skip
      rw [nI_eq (by omega) (by omega)] at h28
      refine PW.to 42 rfl trivial ?_
      refine PW.post (fun v M2 q => ?_) (loop42 (w * h + 1) j 0 (fun _ => 0) (fun _ => 0) (va_up M.1 29 (upd (M.1 29) 0 0), M.2) (by omega) h28 (Nat.zero_le _) (th0 M) (fun _ => hw0) (fun _ => hw0) En.zero En.zero (fun k a b => absurd b (by have : many mp j 0 = 0 := rfl; omega)) (fun k a b => absurd b (by have : many dr j 0 = 0 := rfl; omega)) (by omega))
      rw [if_t h9, tn_nI (by omega), if_pos h28]; exact q
    · skip
      rw [nI_eq (by omega) (by omega)] at h28
      refine PW.iret rfl rfl trivial ?_
      exact ⟨by rw [if_t h9, tn_nI (by omega), if_neg h28], S.fj (th0 M (A := []))⟩
  · skip
    rw [bn_ne] at h9
    change okl 5 lv = false at h9
    refine PW.iret rfl rfl trivial ?_
    exact ⟨by rw [if_f h9], S.fj (th0 M (A := []))⟩
end M14
