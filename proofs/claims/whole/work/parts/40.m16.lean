-- made by wip/whole/mk_m16.py
section M16
variable {X : Cx} {l : Launch} {M : Mem}
set_option maxHeartbeats 1000000 in
theorem m_layTiles {w h : Nat} {mp dr : Nat → Nat} (Hw : Wf w h mp dr) (H : WM w h mp dr M) : PC X l mX8_layTiles 4 [.ref 29] G0 M (fun v M' => v = some (.int (nI (Co (Tl mp (w * h)) (ofo w (w * h) mp) (bt w (w * h) mp)))) ∧ FI [40, 46, 47] M M' ∧ ∀ x, x < 6 → M'.1 46 x = tlv w (w * h) mp x) := by
  refine PC.ofW okX8_layTiles ?_
  have hn := Hw.n
  have hB := bt_best w (w * h) mp
  have loop8 : ∀ k : Nat, ∀ (i : Nat) (M2 : Mem), i ≤ 6 → FI [40, 46, 47] M M2 → (∀ m, m < i → M2.1 46 m = tlv w (w * h) mp m) → 6 - i < k → PW X l mX8_layTiles 4 (fun v M' => v = some (.int (nI (Co (Tl mp (w * h)) (ofo w (w * h) mp) (bt w (w * h) mp)))) ∧ FI [40, 46, 47] M M' ∧ ∀ x, x < 6 → M'.1 46 x = tlv w (w * h) mp x) 8 [.ref 29, .int (nI (Co (Tl mp (w * h)) (ofo w (w * h) mp) (bt w (w * h) mp))), .int (nI i), .null, .null, .null] [] G0 M2 := by
    intro k
    induction k with
    | zero => intro i M2 hi J hx hk; exact absurd hk (Nat.not_lt_zero _)
    | succ k ih =>
      intro i M2 hi J hx hk
      have loop24 : ∀ k24 : Nat, ∀ (c : Nat) (M3 : Mem), i < 6 → c ≤ w * h → FI [40, 46, 47] M M3 → (∀ m, m < i → M3.1 46 m = tlv w (w * h) mp m) → M3.1 46 i = (if (Tl mp (w * h)) i = true ∧ (bt w (w * h) mp) i < c then nI ((bt w (w * h) mp) i) else -9) → w * h - c < k24 → PW X l mX8_layTiles 4 (fun v M' => v = some (.int (nI (Co (Tl mp (w * h)) (ofo w (w * h) mp) (bt w (w * h) mp)))) ∧ FI [40, 46, 47] M M' ∧ ∀ x, x < 6 → M'.1 46 x = tlv w (w * h) mp x) 24 [.ref 29, .int (nI (Co (Tl mp (w * h)) (ofo w (w * h) mp) (bt w (w * h) mp))), .int (nI i), .int (nI c), .null, .null] [] G0 M3 := by
        intro k24
        induction k24 with
        | zero => intro c M3 hi6 hc J3 hx3 hv3 hk2; exact absurd hk2 (Nat.not_lt_zero _)
        | succ k24 ih24 =>
          intro c M3 hi6 hc J3 hx3 hv3 hk2
          have H3 := H.fi J3
          have loop62 : ∀ k62 : Nat, ∀ (j : Nat), c < w * h → (Tl mp (w * h)) i = true → c ≤ (bt w (w * h) mp) i → j ≤ i → i - j < k62 → PW X l mX8_layTiles 4 (fun v M' => v = some (.int (nI (Co (Tl mp (w * h)) (ofo w (w * h) mp) (bt w (w * h) mp)))) ∧ FI [40, 46, 47] M M' ∧ ∀ x, x < 6 → M'.1 46 x = tlv w (w * h) mp x) 62 [.ref 29, .int (nI (Co (Tl mp (w * h)) (ofo w (w * h) mp) (bt w (w * h) mp))), .int (nI i), .int (nI c), .int (bo (!bex (fun l => (Tl mp (w * h)) l && decide ((bt w (w * h) mp) l = c)) j)), .int (nI j)] [] G0 M3 := by
            intro k62
            induction k62 with
            | zero => intro j hcn hT hcb hj hk3; exact absurd hk3 (Nat.not_lt_zero _)
            | succ k62 ih62 =>
              intro j hcn hT hcb hj hk3
              refine PW.ige rfl trivial (fun h65 => ?_) (fun h65 => ?_)
              · skip
                rw [nI_leI (by omega) (by omega)] at h65
                have e9 : j = i := by omega
                subst e9
                refine PW.zeq rfl trivial (fun h99 => ?_) (fun h99 => ?_)
                · skip
                  change bo (frk (Tl mp (w * h)) (bt w (w * h) mp) j c) = 0 at h99
                  rw [bo_eq] at h99
                  have hcne : c ≠ (bt w (w * h) mp) j := fun e => by
                    have : frk (Tl mp (w * h)) (bt w (w * h) mp) j c = true := frk_t.mpr (fun x hx hTx e2 => by have := hB.1.2 x j (by omega) hi6 hTx hT (by rw [e2, e]); omega)
                    rw [h99] at this; cases this
                  refine PW.goto rfl trivial ?_
                  rw [nI_1]
                  refine PW.nl [4, 5] ?_
                  refine ih24 (c + 1) M3 hi6 (by omega) J3 hx3 ?_ (by omega)
                  rw [hv3, if_neg (fun z => absurd z.2 (by omega)), if_neg (fun z => absurd z.2 (by omega))]
                · skip
                  change ¬ bo (frk (Tl mp (w * h)) (bt w (w * h) mp) j c) = 0 at h99
                  rw [bo_ne, frk_t] at h99
                  have HX : WM w h mp dr (va_up M3.1 46 (upd (M3.1 46) j (nI c)), M3.2) := H.fi (J3.put (f := upd (M3.1 46) j (nI c)) (show 46 ∈ [40, 46, 47] by decide))
                  have HT : ∀ x, x < j + 1 → (Tl mp (w * h)) x = true → set1 (bt w (w * h) mp) j c x < w * h ∧ ((va_up M3.1 46 (upd (M3.1 46) j (nI c)), M3.2) : Mem).1 46 x = nI (set1 (bt w (w * h) mp) j c x) := fun x h1 h2 => by
                    by_cases e : x = j
                    · subst e; rw [set1_eq, if_pos rfl, up_s]; exact ⟨hcn, rfl⟩
                    · rw [set1_eq, if_neg e, up_n e, hx3 x (by omega), tlv, if_pos h2]; exact ⟨hB.1.1 x (by omega) h2, rfl⟩
                  have LI := lof_iff Hw.2.1 Hw.2.2.2.1 Hw.1 (t := set1 (bt w (w * h) mp) j c) hi6 hT (fun m hm _ => by rw [set1_eq, if_neg (by omega)]) (by rw [set1_eq, if_pos rfl]; exact hcb) (fun m hm hTm => by rw [set1_eq, set1_eq, if_neg (by omega), if_pos rfl]; exact h99 m hm hTm)
                  rw [set1_eq, if_pos rfl] at LI
                  refine PW.callV rfl ⟨trivial, vp_in_nI (by omega) (by decide)⟩ sX8_175 rfl rfl (by decide) rfl (show PC X l mX8_leastOff 3 [.ref 29, .int (nI j + 1)] G0 (va_up M3.1 46 (upd (M3.1 46) (nI j).toNatClampNeg (nI c)), M3.2) _ from by rw [nI_1, nI_clamp (by omega)]; exact m_leastOff Hw HX (j + 1) (by omega) _ HT) (fun v118 M118 hq118 => ?_)
                  obtain ⟨rfl, hF9⟩ := hq118
                  have J9 : FI [40, 46, 47] M M118 := (J3.put (f := upd (M3.1 46) j (nI c)) (show 46 ∈ [40, 46, 47] by decide)).tr (hF9.mono (by decide))
                  have hx9 : (∀ m, m < j → M118.1 46 m = tlv w (w * h) mp m) := fun m hm => by rw [hF9.at 46]; exact (up_n (by omega)).trans (hx3 m hm)
                  refine PW.ine rfl trivial (fun h122 => ?_) (fun h122 => ?_)
                  · skip
                    rw [LI] at h122
                    refine PW.goto rfl ⟨trivial, vp_in_nI (by omega) (by decide)⟩ ?_
                    rw [nI_1, nI_clamp (by omega)]
                    refine PW.nl [4, 5] ?_
                    refine ih24 (c + 1) _ hi6 (by omega) (J9.put (by decide)) (fun m hm => (up_n (by omega)).trans (hx9 m hm)) ?_ (by omega)
                    rw [up_s, if_neg (fun z => absurd z.2 (by omega))]
                  · skip
                    rw [LI] at h122
                    refine PW.goto rfl trivial ?_
                    refine PW.goto rfl ⟨trivial, vp_in_nI (by omega) (by decide)⟩ ?_
                    rw [nI_1, nI_clamp (by omega)]
                    refine PW.nl [4, 5] ?_
                    refine ih24 (c + 1) _ hi6 (by omega) (J9.put (by decide)) (fun m hm => (up_n (by omega)).trans (hx9 m hm)) ?_ (by omega)
                    rw [up_s, if_pos ⟨hT, by omega⟩, ← h122]
              · skip
                rw [nI_leI (by omega) (by omega)] at h65
                refine PW.zeq rfl trivial (fun h70 => ?_) (fun h70 => ?_)
                · skip
                  rw [bo_eq] at h70
                  have hv := nb_no h70
                  refine PW.goto rfl trivial ?_
                  rw [nI_1]
                  refine PW.lc ?_ (ih62 (j + 1) hcn hT hcb (by omega) (by omega))
                  rw [hv]; rfl
                · skip
                  rw [bo_ne] at h70
                  refine PW.ieq rfl ⟨trivial, vp_in_nI (by omega) (by decide)⟩ (fun h81 => ?_) (fun h81 => ?_)
                  · skip
                    rw [nI_clamp (by omega), hx3 j (by omega), tlv_ne (by omega) hn (by omega)] at h81
                    have hv := nb_s (p := (fun l => (Tl mp (w * h)) l && decide ((bt w (w * h) mp) l = c))) (i := j) (by simp [h81.1, h81.2])
                    refine PW.goto rfl trivial ?_
                    rw [nI_1]
                    refine PW.lc ?_ (ih62 (j + 1) hcn hT hcb (by omega) (by omega))
                    rw [hv]; rfl
                  · skip
                    rw [nI_clamp (by omega), hx3 j (by omega), tlv_ne (by omega) hn (by omega)] at h81
                    have hv := nb_t h70 (show ((fun l => (Tl mp (w * h)) l && decide ((bt w (w * h) mp) l = c))) j = false by
                      cases z : (Tl mp (w * h)) j with
                      | false => simp [z]
                      | true => simp [z]; exact fun y => h81 ⟨z, y⟩)
                    refine PW.goto rfl trivial ?_
                    refine PW.goto rfl trivial ?_
                    rw [nI_1]
                    refine PW.lc ?_ (ih62 (j + 1) hcn hT hcb (by omega) (by omega))
                    rw [hv]; rfl
          refine PW.ige rfl trivial (fun h34 => ?_) (fun h34 => ?_)
          · skip
            rw [H3.wh, nI_leI (by omega) (by omega)] at h34
            have hv : M3.1 46 i = tlv w (w * h) mp i := by
              rw [hv3, tlv]
              by_cases z : (Tl mp (w * h)) i = true
              · rw [if_pos z, if_pos ⟨z, by have := hB.1.1 i hi6 z; omega⟩]
              · rw [if_neg z, if_neg (fun y => z y.1)]
            refine PW.goto rfl trivial ?_
            rw [nI_1]
            refine PW.nl [3] ?_
            refine ih (i + 1) M3 (by omega) J3 (fun m hm => ?_) (by omega)
            by_cases e : m = i
            · rw [e]; exact hv
            · exact hx3 m (by omega)
          · skip
            rw [H3.wh, nI_leI (by omega) (by omega)] at h34
            refine PW.funV rfl trivial sX8_169 rfl rfl (by decide) rfl (m_isThere i (by omega) Hw H3) ?_
            refine PW.zeq rfl trivial (fun h42 => ?_) (fun h42 => ?_)
            · skip
              change bo ((Tl mp (w * h)) i) = 0 at h42
              rw [bo_eq] at h42
              have hv : M3.1 46 i = tlv w (w * h) mp i := by
                rw [hv3, tlv, if_neg (fun y => by rw [h42] at y; cases y.1), if_neg (by rw [h42]; simp)]
              refine PW.goto rfl trivial ?_
              rw [nI_1]
              refine PW.nl [3] ?_
              refine ih (i + 1) M3 (by omega) J3 (fun m hm => ?_) (by omega)
              by_cases e : m = i
              · rw [e]; exact hv
              · exact hx3 m (by omega)
            · skip
              change ¬ bo ((Tl mp (w * h)) i) = 0 at h42
              rw [bo_ne] at h42
              refine PW.ine rfl ⟨trivial, vp_in_nI (by omega) (by decide)⟩ (fun h53 => ?_) (fun h53 => ?_)
              · skip
                rw [nI_clamp (by omega)] at h53
                have hv : M3.1 46 i = tlv w (w * h) mp i := by
                  rw [hv3] at h53 ⊢
                  by_cases z : (Tl mp (w * h)) i = true ∧ (bt w (w * h) mp) i < c
                  · rw [if_pos z, tlv, if_pos z.1]
                  · rw [if_neg z] at h53; exact absurd rfl h53
                refine PW.goto rfl trivial ?_
                rw [nI_1]
                refine PW.nl [3] ?_
                refine ih (i + 1) M3 (by omega) J3 (fun m hm => ?_) (by omega)
                by_cases e : m = i
                · rw [e]; exact hv
                · exact hx3 m (by omega)
              · skip
                rw [nI_clamp (by omega), hv3] at h53
                have hcb : c ≤ (bt w (w * h) mp) i := by
                  apply Classical.byContradiction
                  intro z
                  rw [if_pos ⟨h42, by omega⟩] at h53
                  exact nn9 (by have := hB.1.1 i hi6 h42; omega) h53
                refine PW.to 62 rfl trivial ?_
                exact loop62 (i + 1) 0 (by omega) h42 hcb (Nat.zero_le _) (by omega)
      refine PW.ige rfl trivial (fun h11 => ?_) (fun h11 => ?_)
      · skip
        rw [i6 (by omega)] at h11
        have e9 : i = 6 := by omega
        subst e9
        refine PW.iret rfl rfl trivial ?_
        exact ⟨rfl, J, hx⟩
      · skip
        rw [i6 (by omega)] at h11
        refine PW.to 24 rfl ⟨trivial, vp_in_nI (by omega) (by decide)⟩ ?_
        rw [nI_clamp (by omega)]
        refine loop24 (w * h + 1) 0 _ (by omega) (Nat.zero_le _) (J.put (by decide)) (fun m hm => (up_n (by omega)).trans (hx m hm)) ?_ (by omega)
        rw [up_s, if_neg (fun z => absurd z.2 (Nat.not_lt_zero _))]
  refine PW.callV rfl trivial sX8_175 rfl rfl (by decide) rfl (m_leastOff Hw H 0 (by omega) (fun _ => 0) (fun x hx => absurd hx (Nat.not_lt_zero x))) (fun v2 M2 hq2 => ?_)
  obtain ⟨rfl, hF1⟩ := hq2
  rw [lof_0 w (w * h) mp hn]
  refine PW.to 8 rfl trivial ?_
  exact loop8 7 0 M2 (by omega) (hF1.mono (by decide)) (fun m hm => absurd hm (Nat.not_lt_zero m)) (by omega)
theorem p_off {w h : Nat} {mp dr hd : Nat → Nat} {wy : Nat} {vt : Nat → Nat} (F : Sf w h mp dr hd wy vt) (S : SM w h mp dr hd wy vt M)  : PC X l mX8_off 4 [.ref 29] G0 M (fun v M' => v = some (.int (nI (Co (Tl mp (w * h)) (ofo w (w * h) mp) (bt w (w * h) mp)))) ∧ (SM w h mp dr hd wy vt M' ∧ FM M M')) := by
  refine PC.ofW okX8_off ?_
  have hn := F.1.n
  have S0 := (S.fj (th0 M (A := []))).1
  refine PW.callV rfl trivial sX8_175 rfl rfl (by decide) rfl (m_leastOff F.1 S0.1 0 (by omega) (fun _ => 0) (fun x hx => absurd hx (Nat.not_lt_zero x))) (fun v7 M7 hq7 => ?_)
  obtain ⟨rfl, hF1⟩ := hq7
  rw [lof_0 w (w * h) mp hn]
  refine PW.iret rfl rfl trivial ?_
  exact ⟨rfl, S.fj ((th0 M (A := [40, 47])).tr (hF1.fj (by decide)))⟩
theorem p_tile {w h : Nat} {mp dr hd : Nat → Nat} {wy : Nat} {vt : Nat → Nat} (F : Sf w h mp dr hd wy vt) (S : SM w h mp dr hd wy vt M) (lv : Int32) : PC X l mX8_tile 5 [.ref 29, .int lv] G0 M (fun v M' => v = some (.int (if okl 5 lv = true then tlv w (w * h) mp (tn lv) else -1)) ∧ (SM w h mp dr hd wy vt M' ∧ FM M M')) := by
  refine PC.ofW okX8_tile ?_
  have hn := F.1.n
  have S0 := (S.fj (th0 M (A := []))).1
  refine PW.funS rfl trivial sX8_103 rfl (by decide) rfl (m_noLand _) ?_
  refine PW.zeq rfl trivial (fun h9 => ?_) (fun h9 => ?_)
  · skip
    rw [bn_eq] at h9
    change okl 5 lv = true at h9
    obtain ⟨j, hj, rfl⟩ := okl_x (m := 5) h9
    refine PW.callV rfl trivial sX8_178 rfl rfl (by decide) rfl (m_layTiles F.1 S0.1) (fun v15 M15 hq15 => ?_)
    obtain ⟨rfl, hF1, hz⟩ := hq15
    refine PW.iret rfl rfl ⟨trivial, vp_in_nI (by omega) (by decide)⟩ ?_
    exact ⟨by rw [if_t h9, tn_nI (by omega), nI_clamp (by omega), hz j (by omega)], S.fj ((th0 M (A := [40, 46, 47])).tr (hF1.fj (by decide)))⟩
  · skip
    rw [bn_ne] at h9
    change okl 5 lv = false at h9
    refine PW.iret rfl rfl trivial ?_
    exact ⟨by rw [if_f h9], S.fj (th0 M (A := []))⟩
theorem p_kept {w h : Nat} {mp dr hd : Nat → Nat} {wy : Nat} {vt : Nat → Nat} (F : Sf w h mp dr hd wy vt) (S : SM w h mp dr hd wy vt M)  : PC X l mX8_kept 5 [.ref 29] G0 M (fun v M' => v = some (.int (nI (kpt w (w * h) mp 6))) ∧ (SM w h mp dr hd wy vt M' ∧ FM M M')) := by
  refine PC.ofW okX8_kept ?_
  have hn := F.1.n
  have S0 := (S.fj (th0 M (A := []))).1
  have hB := bt_best w (w * h) mp
  have loop14 : ∀ k : Nat, ∀ (i : Nat) (M2 : Mem), FJ [40, 46, 47] M M2 → (∀ x, x < 6 → M2.1 46 x = tlv w (w * h) mp x) → i ≤ 6 → 6 - i < k → PW X l mX8_kept 5 (fun v M' => v = some (.int (nI (kpt w (w * h) mp 6))) ∧ (SM w h mp dr hd wy vt M' ∧ FM M M')) 14 [.ref 29, .int (nI (kpt w (w * h) mp i)), .int (nI i), .null, .null] [] G0 M2 := by
    intro k
    induction k with
    | zero => intro i M2 J hz hi hk; exact absurd hk (Nat.not_lt_zero _)
    | succ k ih =>
      intro i M2 J hz hi hk
      have S2 := (S.fj J).1
      have loop22 : ∀ k22 : Nat, ∀ (j : Nat), i < 6 → j ≤ i → i - j < k22 → PW X l mX8_kept 5 (fun v M' => v = some (.int (nI (kpt w (w * h) mp 6))) ∧ (SM w h mp dr hd wy vt M' ∧ FM M M')) 22 [.ref 29, .int (nI (kpt w (w * h) mp i + fb_ct (kpr w (w * h) mp i) j)), .int (nI i), .int (nI j), .null] [] G0 M2 := by
        intro k22
        induction k22 with
        | zero => intro j hi6 hj hk2; exact absurd hk2 (Nat.not_lt_zero _)
        | succ k22 ih22 =>
          intro j hi6 hj hk2
          refine PW.ige rfl trivial (fun h24 => ?_) (fun h24 => ?_)
          · skip
            rw [nI_leI (by omega) (by omega)] at h24
            have e9 : j = i := by omega
            subst e9
            refine PW.goto rfl trivial ?_
            rw [nI_1]
            refine PW.nl [3] ?_
            exact ih (j + 1) M2 J hz (by omega) (by omega)
          · skip
            rw [nI_leI (by omega) (by omega)] at h24
            refine PW.ieq rfl ⟨trivial, vp_in_nI (by omega) (by decide)⟩ (fun h35 => ?_) (fun h35 => ?_)
            · skip
              rw [nI_clamp (by omega), hz i (by omega), tlv_9 hn (by omega)] at h35
              have hv : kpr w (w * h) mp i j = false := by simp [kpr, h35]
              refine PW.zeq rfl trivial (fun h69 => ?_) (fun h69 => ?_)
              · skip
                refine PW.goto rfl trivial ?_
                rw [nI_1]
                refine PW.nl [4] ?_
                refine PW.lc ?_ (ih22 (j + 1) hi6 (by omega) (by omega))
                rw [fb_ct_succ, if_neg (by rw [hv]; simp), Nat.add_zero]; show [_, Value.int (nI _ + nI 0), _, _, _] = _; rw [nI_add]; rfl
              · exact absurd rfl h69
            · skip
              rw [nI_clamp (by omega), hz i (by omega), tlv_9 hn (by omega)] at h35
              have h35 : (Tl mp (w * h)) i = true := by simpa using h35
              refine PW.ieq rfl ⟨trivial, vp_in_nI (by omega) (by decide)⟩ (fun h46 => ?_) (fun h46 => ?_)
              · skip
                rw [nI_clamp (by omega), hz j (by omega), tlv_9 hn (by omega)] at h46
                have hv : kpr w (w * h) mp i j = false := by simp [kpr, h46]
                refine PW.zeq rfl trivial (fun h69 => ?_) (fun h69 => ?_)
                · skip
                  refine PW.goto rfl trivial ?_
                  rw [nI_1]
                  refine PW.nl [4] ?_
                  refine PW.lc ?_ (ih22 (j + 1) hi6 (by omega) (by omega))
                  rw [fb_ct_succ, if_neg (by rw [hv]; simp), Nat.add_zero]; show [_, Value.int (nI _ + nI 0), _, _, _] = _; rw [nI_add]; rfl
                · exact absurd rfl h69
              · skip
                rw [nI_clamp (by omega), hz j (by omega), tlv_9 hn (by omega)] at h46
                have h46 : (Tl mp (w * h)) j = true := by simpa using h46
                refine PW.funV rfl trivial sX8_132 rfl rfl (by decide) rfl (m_areBeside 0 i j (by omega) (by omega) F.1 S2.1) ?_
                refine PW.zeq rfl trivial (fun h56 => ?_) (fun h56 => ?_)
                · skip
                  change bo (nbr w (w * h) mp i j) = 0 at h56
                  rw [bo_eq] at h56
                  have hv : kpr w (w * h) mp i j = false := by simp [kpr, h56]
                  refine PW.zeq rfl trivial (fun h69 => ?_) (fun h69 => ?_)
                  · skip
                    refine PW.goto rfl trivial ?_
                    rw [nI_1]
                    refine PW.nl [4] ?_
                    refine PW.lc ?_ (ih22 (j + 1) hi6 (by omega) (by omega))
                    rw [fb_ct_succ, if_neg (by rw [hv]; simp), Nat.add_zero]; show [_, Value.int (nI _ + nI 0), _, _, _] = _; rw [nI_add]; rfl
                  · exact absurd rfl h69
                · skip
                  change ¬ bo (nbr w (w * h) mp i j) = 0 at h56
                  rw [bo_ne] at h56
                  refine PW.goto rfl trivial ?_
                  refine PW.zeq rfl trivial (fun h69 => ?_) (fun h69 => ?_)
                  · exact absurd h69 (by decide)
                  · skip
                    refine PW.funV rfl ⟨⟨trivial, vp_in_nI (by omega) (by decide)⟩, vp_in_nI (by omega) (by decide)⟩ sX8_121 rfl rfl (by decide) rfl (show PF X l mX8_isBeside 1 [.ref 29, .int (M2.1 46 (nI i).toNatClampNeg), .int (M2.1 46 (nI j).toNatClampNeg)] G0 M2 (.int (bo (adj w ((bt w (w * h) mp) i) ((bt w (w * h) mp) j)))) from by rw [nI_clamp (by omega), nI_clamp (by omega), hz i hi6, hz j (by omega), tlv, tlv, if_pos h35, if_pos h46]; exact m_isBeside _ _ (by have := hB.1.1 i hi6 h35; omega) (by have := hB.1.1 j (by omega) h46; omega) F.1 S2.1) ?_
                    refine PW.zeq rfl trivial (fun h88 => ?_) (fun h88 => ?_)
                    · skip
                      rw [bo_eq] at h88
                      have hv : kpr w (w * h) mp i j = false := by simp [kpr, h88]
                      refine PW.goto rfl trivial ?_
                      rw [nI_1]
                      refine PW.nl [4] ?_
                      refine PW.lc ?_ (ih22 (j + 1) hi6 (by omega) (by omega))
                      rw [fb_ct_succ, if_neg (by rw [hv]; simp), Nat.add_zero]; show [_, Value.int (nI _ + nI 0), _, _, _] = _; rw [nI_add]; rfl
                    · skip
                      rw [bo_ne] at h88
                      have hv : kpr w (w * h) mp i j = true := by simp [kpr, h35, h46, h56, h88]
                      refine PW.goto rfl trivial ?_
                      refine PW.goto rfl trivial ?_
                      rw [nI_1, nI_1]
                      refine PW.nl [4] ?_
                      refine PW.lc ?_ (ih22 (j + 1) hi6 (by omega) (by omega))
                      rw [fb_ct_succ, if_pos hv]; rfl
      refine PW.ige rfl trivial (fun h17 => ?_) (fun h17 => ?_)
      · skip
        rw [i6 (by omega)] at h17
        have e9 : i = 6 := by omega
        subst e9
        refine PW.iret rfl rfl trivial ?_
        exact ⟨rfl, S.fj J⟩
      · skip
        rw [i6 (by omega)] at h17
        refine PW.to 22 rfl trivial ?_
        exact loop22 (i + 1) 0 (by omega) (Nat.zero_le _) (by omega)
  refine PW.callV rfl trivial sX8_178 rfl rfl (by decide) rfl (m_layTiles F.1 S0.1) (fun v6 M6 hq6 => ?_)
  obtain ⟨rfl, hF1, hz⟩ := hq6
  refine PW.to 14 rfl trivial ?_
  exact loop14 7 0 M6 ((th0 M (A := [40, 46, 47])).tr (hF1.fj (by decide))) hz (by omega) (by omega)
end M16
