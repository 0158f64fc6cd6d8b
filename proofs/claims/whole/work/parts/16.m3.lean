-- made by wip/whole/mk_m3.py
section M3
variable {X : Cx} {l : Launch} {M : Mem}
set_option maxHeartbeats 1000000 in
theorem m_partsOf (lv : Nat) (hlv : lv < 6) {w h : Nat} {mp dr : Nat → Nat} (Hw : Wf w h mp dr) (H : WM w h mp dr M) : PC X l mX8_partsOf 2 [.ref 29, .int (nI lv)] G0 M (fun v M' => v = some (.int (nI (prt (fun c => decide (dr c = lv)) w (w * h)))) ∧ FI [34, 35] M M') := by
  refine PC.ofW okX8_partsOf ?_
  have hn := Hw.n
  obtain ⟨n, en⟩ : ∃ n, n = w * h := ⟨_, rfl⟩
  obtain ⟨P, eP⟩ : ∃ P : Nat → Bool, P = fun c => decide (dr c = lv) := ⟨_, rfl⟩
  have hPd : ∀ c, P c = true ↔ dr c = lv := fun c => by rw [eP]; simp
  have hPn : ∀ c, P c = true → c < n := fun c hc => Nat.lt_of_not_le (fun q => by have := Hw.2.2.2.2.2.2.2 c (en ▸ q); have := (hPd c).mp hc; omega)
  rw [← en, ← eP]
  have hn36 : n ≤ 36 := by omega
  have loop25 : ∀ k : Nat, ∀ (c : Nat) (sn : Nat → Bool) (M2 : Mem), c ≤ n → FI [34, 35] M M2 → (∀ x, x < 36 → M2.1 34 x = bo (sn x)) → (∀ x, sn x = true ↔ Sn P w c x) → n - c < k → PW X l mX8_partsOf 2 (fun v M' => v = some (.int (nI (prt P w n))) ∧ FI [34, 35] M M') 25 [.ref 29, .int (nI lv), .int (nI (ctp (Rep P w) c)), .int (nI c), .null, .null, .null] [] G0 M2 := by
    intro k
    induction k with
    | zero => intro c sn M2 hc hF hs hS hk; exact absurd hk (Nat.not_lt_zero _)
    | succ k ih =>
      intro c sn M2 hc hF hs hS hk
      have hcl := ctp_le (Rep P w) c
      have loop80 : ∀ k80 : Nat, ∀ (m i : Nat) (sn2 : Nat → Bool) (q : Nat → Nat) (M3 : Mem), c < n → P c = true → i ≤ m → FI [34, 35] M M3 → (∀ x, x < 36 → M3.1 34 x = bo (sn2 x)) → (∀ j, j < m → M3.1 35 j = nI (q j)) → Bfs P w n c sn sn2 q m i 0 → sn2 c = true → n - i < k80 → PW X l mX8_partsOf 2 (fun v M' => v = some (.int (nI (prt P w n))) ∧ FI [34, 35] M M') 80 [.ref 29, .int (nI lv), .int (nI (ctp (Rep P w) (c + 1))), .int (nI c), .int (nI m), .int (nI i), .null] [] G0 M3 := by
        intro k80
        induction k80 with
        | zero => intro m i sn2 q M3 hcn hpt him hF3 hs3 hq3 hB hc3 hk3; exact absurd hk3 (Nat.not_lt_zero _)
        | succ k80 ih80 =>
          intro m i sn2 q M3 hcn hpt him hF3 hs3 hq3 hB hc3 hk3
          have hmn := hB.m_le
          have loop90 : ∀ k90 : Nat, ∀ (e m2 : Nat) (sn3 : Nat → Bool) (q2 : Nat → Nat) (M4 : Mem), i < m2 → e ≤ n → FI [34, 35] M M4 → (∀ x, x < 36 → M4.1 34 x = bo (sn3 x)) → (∀ j, j < m2 → M4.1 35 j = nI (q2 j)) → Bfs P w n c sn sn3 q2 m2 i e → sn3 c = true → n - e < k90 → PW X l mX8_partsOf 2 (fun v M' => v = some (.int (nI (prt P w n))) ∧ FI [34, 35] M M') 90 [.ref 29, .int (nI lv), .int (nI (ctp (Rep P w) (c + 1))), .int (nI c), .int (nI m2), .int (nI i), .int (nI e)] [] G0 M4 := by
            intro k90
            induction k90 with
            | zero => intro e m2 sn3 q2 M4 him2 hen hF4 hs4 hq4 hB4 hc4 hk4; exact absurd hk4 (Nat.not_lt_zero _)
            | succ k90 ih90 =>
              intro e m2 sn3 q2 M4 him2 hen hF4 hs4 hq4 hB4 hc4 hk4
              have hmn2 := hB4.m_le
              refine PW.ige rfl trivial (fun h101 => ?_) (fun h101 => ?_)
              · skip
                rw [(H.fi hF4).wh, ← en, nI_leI (by omega) (by omega)] at h101
                have e9 : e = n := by omega
                subst e9
                refine PW.goto rfl trivial ?_
                rw [nI_1]
                refine PW.nl [6] ?_
                exact ih80 m2 (i + 1) sn3 q2 M4 hcn hpt (by omega) hF4 hs4 hq4 (hB4.next hPn) hc4 (by omega)
              · skip
                rw [(H.fi hF4).wh, ← en, nI_leI (by omega) (by omega)] at h101
                refine PW.ine rfl ⟨trivial, vp_in_nI (by omega) (by decide)⟩ (fun h112 => ?_) (fun h112 => ?_)
                · skip
                  have hd6 := Hw.2.2.2.2.2.1 e
                  rw [nI_clamp (by omega), (H.fi hF4).2.2.2 e (by omega), nI_eq (by omega) (by omega)] at h112
                  have hsk : P e = true → adj w (q2 i) e = true → sn3 e = true := fun q _ => absurd ((hPd e).mp q) h112
                  refine PW.goto rfl trivial ?_
                  rw [nI_1]
                  exact ih90 (e + 1) m2 sn3 q2 M4 him2 (by omega) hF4 hs4 hq4 (hB4.skip hsk) hc4 (by omega)
                · skip
                  have hd6 := Hw.2.2.2.2.2.1 e
                  rw [nI_clamp (by omega), (H.fi hF4).2.2.2 e (by omega), nI_eq (by omega) (by omega)] at h112
                  have hpe : P e = true := (hPd e).mpr h112
                  refine PW.zne rfl ⟨trivial, vp_in_nI (by omega) (by decide)⟩ (fun h122 => ?_) (fun h122 => ?_)
                  · skip
                    rw [nI_clamp (by omega), hs4 e (by omega), bo_ne] at h122
                    have hsk : P e = true → adj w (q2 i) e = true → sn3 e = true := fun _ _ => h122
                    refine PW.goto rfl trivial ?_
                    rw [nI_1]
                    exact ih90 (e + 1) m2 sn3 q2 M4 him2 (by omega) hF4 hs4 hq4 (hB4.skip hsk) hc4 (by omega)
                  · skip
                    rw [nI_clamp (by omega), hs4 e (by omega), bo_eq] at h122
                    have hqi := hq4 i him2
                    have hqn := (hB4.2.1 i him2).1
                    refine PW.funV rfl ⟨trivial, vp_in_nI (by omega) (by decide)⟩ sX8_121 rfl rfl (by decide) rfl (show PF X l mX8_isBeside 1 [.ref 29, .int (M4.1 35 (nI i).toNatClampNeg), .int (nI e)] G0 M4 (.int (bo (adj w (q2 i) e))) from by rw [nI_clamp (by omega), hqi]; exact m_isBeside (q2 i) e (by omega) (by omega) Hw (H.fi hF4)) ?_
                    refine PW.zeq rfl trivial (fun h138 => ?_) (fun h138 => ?_)
                    · skip
                      rw [bo_eq] at h138
                      have hsk : P e = true → adj w (q2 i) e = true → sn3 e = true := fun _ q => by rw [h138] at q; cases q
                      refine PW.goto rfl trivial ?_
                      rw [nI_1]
                      exact ih90 (e + 1) m2 sn3 q2 M4 him2 (by omega) hF4 hs4 hq4 (hB4.skip hsk) hc4 (by omega)
                    · skip
                      rw [bo_ne] at h138
                      obtain ⟨hB5, hm5⟩ := hB4.add him2 (by omega) hpe h138 h122
                      refine PW.goto rfl ⟨⟨trivial, vp_in_nI (by omega) (by decide)⟩, vp_in_nI (by omega) (by decide)⟩ ?_
                      rw [nI_clamp (by omega), nI_clamp (by omega), nI_1, nI_1]
                      refine ih90 (e + 1) (m2 + 1) _ _ _ (by omega) (by omega) ((hF4.put (by decide)).put (by decide)) (fun x hx => ?_) (fun j hj => ?_) hB5 ?_ (by omega)
                      · by_cases q : x = e
                        · subst q; simp [va_up, upd, bo]; rfl
                        · simp [va_up, upd, q]; exact hs4 x hx
                      · by_cases q : j = m2
                        · subst q; simp [va_up, upd]
                        · simp [va_up, upd, q]; exact hq4 j (by omega)
                      · by_cases q : c = e
                        · simp [q]
                        · simp [q]; exact hc4
          refine PW.ige rfl trivial (fun h84 => ?_) (fun h84 => ?_)
          · skip
            rw [nI_leI (by omega) (by omega)] at h84
            have e : i = m := by omega
            subst e
            refine PW.goto rfl trivial ?_
            rw [nI_1]
            refine PW.nl [4, 5] ?_
            exact ih (c + 1) sn2 M3 (by omega) hF3 hs3 (hB.done hpt hS hc3) (by omega)
          · skip
            rw [nI_leI (by omega) (by omega)] at h84
            refine PW.to 90 rfl trivial ?_
            exact loop90 (n + 1) 0 m sn2 q M3 (by omega) (Nat.zero_le _) hF3 hs3 hq3 hB hc3 (by omega)
      refine PW.ige rfl trivial (fun h35 => ?_) (fun h35 => ?_)
      · skip
        rw [(H.fi hF).wh, ← en, nI_leI (by omega) (by omega)] at h35
        have e : c = n := by omega
        subst e
        refine PW.iret rfl rfl trivial ?_
        exact ⟨rfl, hF⟩
      · skip
        rw [(H.fi hF).wh, ← en, nI_leI (by omega) (by omega)] at h35
        refine PW.ine rfl ⟨trivial, vp_in_nI (by omega) (by decide)⟩ (fun h45 => ?_) (fun h45 => ?_)
        · skip
          have hd6 := Hw.2.2.2.2.2.1 c
          rw [nI_clamp (by omega), (H.fi hF).2.2.2 c (by omega), nI_eq (by omega) (by omega)] at h45
          have hpf : ¬ P c = true := fun q => h45 ((hPd c).mp q)
          refine PW.goto rfl trivial ?_
          rw [nI_1]
          first
          | (refine PW.lc ?_ (ih (c + 1) sn M2 (by omega) hF hs (fun x => ?_) (by omega))
             · rw [ctp_f (fun q => hpf q.1)]
             · rw [hS, Sn.succ]; exact ⟨Or.inl, fun q => q.elim id (fun z => absurd z.1 hpf)⟩)
          | (have hsc := (hS c).mp h54
             refine PW.lc ?_ (ih (c + 1) sn M2 (by omega) hF hs (fun x => ?_) (by omega))
             · rw [ctp_f (fun q => (rep_iff.mp q).2 hsc)]
             · rw [hS, Sn.succ]; exact ⟨Or.inl, fun q => q.elim id (fun z => by obtain ⟨d, d1, d2, d3⟩ := hsc; exact ⟨d, d1, d2, d3.tr z.2⟩)⟩)
        · skip
          have hd6 := Hw.2.2.2.2.2.1 c
          rw [nI_clamp (by omega), (H.fi hF).2.2.2 c (by omega), nI_eq (by omega) (by omega)] at h45
          have hpt : P c = true := (hPd c).mpr h45
          refine PW.zne rfl ⟨trivial, vp_in_nI (by omega) (by decide)⟩ (fun h54 => ?_) (fun h54 => ?_)
          · skip
            rw [nI_clamp (by omega), hs c (by omega), bo_ne] at h54
            refine PW.goto rfl trivial ?_
            rw [nI_1]
            first
            | (refine PW.lc ?_ (ih (c + 1) sn M2 (by omega) hF hs (fun x => ?_) (by omega))
               · rw [ctp_f (fun q => hpf q.1)]
               · rw [hS, Sn.succ]; exact ⟨Or.inl, fun q => q.elim id (fun z => absurd z.1 hpf)⟩)
            | (have hsc := (hS c).mp h54
               refine PW.lc ?_ (ih (c + 1) sn M2 (by omega) hF hs (fun x => ?_) (by omega))
               · rw [ctp_f (fun q => (rep_iff.mp q).2 hsc)]
               · rw [hS, Sn.succ]; exact ⟨Or.inl, fun q => q.elim id (fun z => by obtain ⟨d, d1, d2, d3⟩ := hsc; exact ⟨d, d1, d2, d3.tr z.2⟩)⟩)
          · skip
            rw [nI_clamp (by omega), hs c (by omega), bo_eq] at h54
            refine PW.to 80 rfl ⟨⟨trivial, vp_in_nI (by omega) (by decide)⟩, vp_in_nI (n := 0) (by decide) (by decide)⟩ ?_
            have hrep : Rep P w c := rep_iff.mpr ⟨hpt, fun q => by rw [(hS c).mpr q] at h54; cases h54⟩
            rw [nI_clamp (by omega), nI_1, ← ctp_t hrep]
            refine loop80 (n + 1) 1 0 (fun x => if x = c then true else sn x) (fun _ => c) _ (by omega) hpt (by omega) ((hF.put (by decide)).put (by decide)) (fun x hx => ?_) (fun j hj => ?_) (Bfs.start (by omega) hpt rfl) (if_pos rfl) (by omega)
            · by_cases q : x = c
              · subst q; simp [va_up, upd, bo]; rfl
              · simp [va_up, upd, q]; exact hs x hx
            · rw [show j = 0 by omega]; simp [va_up, upd]
  have loop2 : ∀ k : Nat, ∀ (i : Nat) (M2 : Mem), i ≤ 36 → FI [34, 35] M M2 → (∀ j, j < i → M2.1 34 j = 0) → 36 - i < k → PW X l mX8_partsOf 2 (fun v M' => v = some (.int (nI (prt P w n))) ∧ FI [34, 35] M M') 2 [.ref 29, .int (nI lv), .int (nI i), .null, .null, .null, .null] [] G0 M2 := by
    intro k
    induction k with
    | zero => intro i M2 hi hF hz hk; exact absurd hk (Nat.not_lt_zero _)
    | succ k ih =>
      intro i M2 hi hF hz hk
      refine PW.ige rfl trivial (fun h5 => ?_) (fun h5 => ?_)
      · skip
        rw [show (36 : Int32) = nI 36 from rfl, nI_leI (by omega) (by omega)] at h5
        have e : i = 36 := by omega
        subst e
        refine PW.to 25 rfl trivial ?_
        exact loop25 (n + 1) 0 (fun _ => false) M2 (Nat.zero_le _) hF (fun x hx => by rw [hz x hx]; rfl) (fun x => by simp [Sn]) (by omega)
      · skip
        rw [show (36 : Int32) = nI 36 from rfl, nI_leI (by omega) (by omega)] at h5
        refine PW.goto rfl ⟨trivial, vp_in_nI (by omega) (by decide)⟩ ?_
        rw [nI_clamp (by omega), nI_1]
        refine ih (i + 1) _ (by omega) (hF.put (by decide)) (fun j hj => ?_) (by omega)
        by_cases q : j = i
        · subst q; exact up_s
        · exact (up_n q).trans (hz j (by omega))
  refine PW.to 2 rfl trivial ?_
  exact loop2 37 0 M (by omega) FI.rf (fun j hj => absurd hj (Nat.not_lt_zero j)) (by omega)
end M3
