-- made by wip/whole/mk_m11.py
section M11
variable {X : Cx} {l : Launch} {M : Mem}
theorem p_mend {w h : Nat} {mp dr hd : Nat → Nat} {wy : Nat} {vt : Nat → Nat} (F : Sf w h mp dr hd wy vt) (S : SM w h mp dr hd wy vt M)  : PC X l mX8_mend 6 [.ref 29] G0 M (fun v M' => v = some (.int (ofd (mst w (w * h) mp dr (due hd wy (w * h - many mp 6 (w * h))) (7 * (w * h))).2)) ∧ (SM w h mp (mnd w (w * h) mp dr (due hd wy (w * h - many mp 6 (w * h)))) hd wy vt M' ∧ FM M M')) := by
  refine PC.ofW okX8_mend ?_
  have hn := F.1.n
  have S0 := (S.fj (th0 M (A := []))).1
  obtain ⟨du, edu⟩ : ∃ du, du = due hd wy (w * h - many mp 6 (w * h)) := ⟨_, rfl⟩
  have hdu : ∀ j, j < 6 → du j ≤ 37 := fun j hj => by rw [edu]; have := due_le (hd := hd) (wy := wy) (n := w * h - many mp 6 (w * h)) hj; omega
  rw [← edu]
  have loop15 : ∀ k : Nat, ∀ (c : Nat) (M2 : Mem), c ≤ w * h → FJ [33, 34, 35] M M2 → w * h - c < k → PW X l mX8_mend 6 (fun v M' => v = some (.int (ofd (mst w (w * h) mp dr du (7 * (w * h))).2)) ∧ (SM w h mp (mnd w (w * h) mp dr du) hd wy vt M' ∧ FM M M')) 15 [.ref 29, .int (nI (mst w (w * h) mp dr du (7 * c)).1), .int (ofd (mst w (w * h) mp dr du (7 * c)).2), .int (nI c), .null, .null] [] G0 M2 := by
    intro k
    induction k with
    | zero => intro c M2 hc J hk; exact absurd hk (Nat.not_lt_zero _)
    | succ k ih =>
      intro c M2 hc J hk
      obtain ⟨S2, FM2⟩ := S.fj J
      have loop31 : ∀ k31 : Nat, ∀ (lv : Nat) (M3 : Mem), c < w * h → lv ≤ 7 → FJ [33, 34, 35] M M3 → 7 - lv < k31 → PW X l mX8_mend 6 (fun v M' => v = some (.int (ofd (mst w (w * h) mp dr du (7 * (w * h))).2)) ∧ (SM w h mp (mnd w (w * h) mp dr du) hd wy vt M' ∧ FM M M')) 31 [.ref 29, .int (nI (mst w (w * h) mp dr du (7 * c + lv)).1), .int (ofd (mst w (w * h) mp dr du (7 * c + lv)).2), .int (nI c), .int (nI lv), .null] [] G0 M3 := by
        intro k31
        induction k31 with
        | zero => intro lv M3 hcn hl J3 hk3; exact absurd hk3 (Nat.not_lt_zero _)
        | succ k31 ih31 =>
          intro lv M3 hcn hl J3 hk3
          obtain ⟨S3, FM3⟩ := S.fj J3
          have hm := mst_le (w := w) (mp := mp) (dr := dr) hn hdu (7 * c + lv)
          have hf := flt_le (w := w) (mp := mp) (dr := set1 dr c lv) hn hdu 6 (Nat.le_refl _)
          have d7 : (7 * c + lv) / 7 = c ∨ lv = 7 := by omega
          have m7 : (7 * c + lv) % 7 = lv ∨ lv = 7 := by omega
          have join60 : ∀ (nv : Nat) (M4 : Mem), c < w * h → lv ≤ 6 → FJ [33, 34, 35] M M4 → nv < 2 ^ 31 → mst w (w * h) mp dr du (7 * c + lv + 1) = (if nv < (mst w (w * h) mp dr du (7 * c + lv)).1 then (nv, some (7 * c + lv)) else mst w (w * h) mp dr du (7 * c + lv)) → PW X l mX8_mend 6 (fun v M' => v = some (.int (ofd (mst w (w * h) mp dr du (7 * (w * h))).2)) ∧ (SM w h mp (mnd w (w * h) mp dr du) hd wy vt M' ∧ FM M M')) 60 [.ref 29, .int (nI (mst w (w * h) mp dr du (7 * c + lv)).1), .int (ofd (mst w (w * h) mp dr du (7 * c + lv)).2), .int (nI c), .int (nI lv), .null] [.int (nI nv)] G0 M4 := by
            intro nv M4 hcn hl6 J4 hnv hst
            have e7 : (7 * c + lv) / 7 = c := by omega
            have e8 : (7 * c + lv) % 7 = lv := by omega
            refine PW.ige rfl trivial (fun h65 => ?_) (fun h65 => ?_)
            · skip
              rw [nI_leI (by omega) (by omega)] at h65
              rw [if_neg (by omega)] at hst
              refine PW.goto rfl trivial ?_
              rw [nI_1]
              refine PW.nl [5] ?_
              refine PW.lc ?_ (ih31 (lv + 1) _ hcn (by omega) J4 (by omega))
              rw [← Nat.add_assoc, hst]; rfl
            · skip
              rw [nI_leI (by omega) (by omega)] at h65
              rw [if_pos (by omega)] at hst
              refine PW.goto rfl trivial ?_
              rw [show (10 : Int32) = nI 10 from rfl, pk_mul, nI_add, nI_1]
              refine PW.nl [5] ?_
              refine PW.lc ?_ (ih31 (lv + 1) _ hcn (by omega) J4 (by omega))
              rw [← Nat.add_assoc, hst]
              simp only [ofd, e7, e8]; rfl
          refine PW.igt rfl trivial (fun h35 => ?_) (fun h35 => ?_)
          · skip
            rw [show (6 : Int32) = nI 6 from rfl, nI_ltI (by omega) (by omega)] at h35
            have e9 : lv = 7 := by omega
            subst e9
            refine PW.goto rfl trivial ?_
            rw [nI_1]
            refine PW.nl [4] ?_
            refine PW.lc ?_ (ih (c + 1) M3 (by omega) J3 (by omega))
            rw [show 7 * (c + 1) = 7 * c + 7 by omega]; rfl
          · skip
            rw [show (6 : Int32) = nI 6 from rfl, nI_ltI (by omega) (by omega)] at h35
            have hl6 : lv ≤ 6 := by omega
            have e7 : (7 * c + lv) / 7 = c := by omega
            have e8 : (7 * c + lv) % 7 = lv := by omega
            refine PW.funV rfl trivial sX8_139 rfl rfl (by decide) rfl (m_isChange F.1 S3.1 c lv hcn hl6) ?_
            refine PW.zeq rfl trivial (fun h45 => ?_) (fun h45 => ?_)
            · skip
              rw [bo_eq] at h45
              refine PW.to 60 rfl trivial ?_
              exact join60 1000000000 M3 hcn hl6 J3 (by decide) (by simp only [mst, e7, e8, h45]; simp; intro q; omega)
            · skip
              rw [bo_ne] at h45
              refine PW.callV rfl trivial sX8_142 rfl rfl (by decide) rfl (m_faultsBy F.1 S3.1 F.2.1 S3.2.1 c lv hcn hl6) (fun v52 M52 hq52 => ?_)
              obtain ⟨rfl, hF4⟩ := hq52
              have J4 := J3.tr (hF4.fj (by decide))
              rw [← edu]
              refine PW.goto rfl trivial ?_
              exact join60 _ _ hcn hl6 J4 (by omega) (by simp only [mst, e7, e8, h45]; simp)
      refine PW.ige rfl trivial (fun h25 => ?_) (fun h25 => ?_)
      · skip
        rw [S2.1.wh, nI_leI (by omega) (by omega)] at h25
        have e9 : c = w * h := by omega
        subst e9
        have hof : ∀ i, (mst w (w * h) mp dr du (7 * (w * h))).2 = some i → i < 252 := fun i q => by have := mst_lt q; omega
        refine PW.ieq rfl trivial (fun h94 => ?_) (fun h94 => ?_)
        · skip
          rw [ofd_none hof] at h94
          refine PW.iret rfl rfl trivial ?_
          first
          | (rw [eq2, eq1, nI_clamp (by omega)]
             refine ⟨rfl, ?_⟩
             rw [show mnd w (w * h) mp dr du = set1 dr (i / 7) (i % 7) from by simp only [mnd, hi]]
             exact ⟨sm_dr S2 (i / 7) (i % 7), FM2.put (by decide)⟩)
          | (refine ⟨rfl, ?_⟩
             rw [show mnd w (w * h) mp dr du = dr from by simp only [mnd, h94]]
             exact ⟨S2, FM2⟩)
        · skip
          rw [ofd_none hof] at h94
          obtain ⟨i, hi⟩ := Option.ne_none_iff_exists'.mp h94
          have hi2 := mst_lt hi
          have eo : ofd (mst w (w * h) mp dr du (7 * (w * h))).2 = nI (10 * (i / 7) + i % 7) := by rw [hi]; rfl
          have eq1 : ofd (mst w (w * h) mp dr du (7 * (w * h))).2 / 10 = nI (i / 7) := by rw [eo, show (10 : Int32) = nI 10 from rfl, pk_div (by omega) (by omega) (by omega)]; congr 1; omega
          have eq2 : ofd (mst w (w * h) mp dr du (7 * (w * h))).2 - ofd (mst w (w * h) mp dr du (7 * (w * h))).2 / 10 * 10 = nI (i % 7) := by rw [eo, show (10 : Int32) = nI 10 from rfl, pk_rem (by omega) (by omega) (by omega)]; congr 1; omega
          refine PW.iret rfl rfl ⟨⟨⟨trivial, (by decide)⟩, (by decide)⟩, (by rw [eq1]; exact vp_in_nI (by omega) (by decide))⟩ ?_
          first
          | (rw [eq2, eq1, nI_clamp (by omega)]
             refine ⟨rfl, ?_⟩
             rw [show mnd w (w * h) mp dr du = set1 dr (i / 7) (i % 7) from by simp only [mnd, hi]]
             exact ⟨sm_dr S2 (i / 7) (i % 7), FM2.put (by decide)⟩)
          | (refine ⟨rfl, ?_⟩
             rw [show mnd w (w * h) mp dr du = dr from by simp only [mnd, h94]]
             exact ⟨S2, FM2⟩)
      · skip
        rw [S2.1.wh, nI_leI (by omega) (by omega)] at h25
        refine PW.to 31 rfl trivial ?_
        exact loop31 8 0 M2 (by omega) (by omega) J (by omega)
  refine PW.callV rfl trivial sX8_135 rfl rfl (by decide) rfl (m_allFaults F.1 S0.1 F.2.1 S0.2.1) (fun v6 M6 hq6 => ?_)
  obtain ⟨rfl, hF1⟩ := hq6
  have J1 := (th0 M (A := [33, 34, 35])).tr (hF1.fj (by decide))
  rw [← edu]
  refine PW.to 15 rfl trivial ?_
  exact loop15 (w * h + 1) 0 M6 (Nat.zero_le _) J1 (by omega)
theorem m_passOn {w h : Nat} {mp dr hd : Nat → Nat} {wy : Nat} {vt : Nat → Nat} (F : Sf w h mp dr hd wy vt) (S : SM w h mp dr hd wy vt M) (m0 : Nat) (ch : Nat → Nat) (hm0 : m0 < 6) (hch : ∀ i, i ≤ m0 → ch i < 6) (hli : M.1 29 12 = nI (m0 + 1)) (hc : ∀ i, i ≤ m0 → M.1 37 i = nI (ch i)) : PC X l mX8_passOn 5 [.ref 29] G0 M (fun v M' => v = some (.int (nI (pas w (w * h) ch m0 dr).1)) ∧ (SM w h mp (pas w (w * h) ch m0 dr).2 hd wy vt M' ∧ FM M M')) := by
  refine PC.ofW okX8_passOn ?_
  have hn := F.1.n
  have loop11 : ∀ k : Nat, ∀ (m cnt : Nat) (g : Bool) (d2 : Nat → Nat) (M2 : Mem), m ≤ m0 → Wf w h mp d2 → SM w h mp d2 hd wy vt M2 → FJ [31, 34, 35] M M2 → (g = true → cnt + (pas w (w * h) ch m d2).1 = (pas w (w * h) ch m0 dr).1 ∧ (pas w (w * h) ch m d2).2 = (pas w (w * h) ch m0 dr).2) → (g = false → cnt = (pas w (w * h) ch m0 dr).1 ∧ d2 = (pas w (w * h) ch m0 dr).2) → m < k → PW X l mX8_passOn 5 (fun v M' => v = some (.int (nI (pas w (w * h) ch m0 dr).1)) ∧ (SM w h mp (pas w (w * h) ch m0 dr).2 hd wy vt M' ∧ FM M M')) 11 [.ref 29, .int (nI cnt), .int (bo g), .int (nI m - 1), .null] [] G0 M2 := by
    intro k
    induction k with
    | zero => intro m cnt g d2 M2 hm Hw2 S2 J ht hf hk; exact absurd hk (Nat.not_lt_zero _)
    | succ k ih =>
      intro m cnt g d2 M2 hm Hw2 S2 J ht hf hk
      refine PW.zlt rfl trivial (fun h12 => ?_) (fun h12 => ?_)
      · skip
        have e0 : m = 0 := by
          rcases Nat.eq_zero_or_pos m with z | z
          · exact z
          · rw [nI_m1 z] at h12; exact absurd h12 (nI_pos (by omega))
        subst e0
        have hend : cnt = (pas w (w * h) ch m0 dr).1 ∧ d2 = (pas w (w * h) ch m0 dr).2 := by
          cases g with
          | true => exact ht rfl
          | false => exact hf rfl
        refine PW.iret rfl rfl trivial ?_
        obtain ⟨e1, e2⟩ := hend
        rw [e1]
        exact ⟨rfl, by rw [← e2]; exact S2, J.fm⟩
      · skip
        have hm0 : 0 < m := by
          rcases Nat.eq_zero_or_pos m with z | z
          · subst z; exact absurd (by decide) h12
          · exact z
        obtain ⟨m, rfl⟩ : ∃ j, m = j + 1 := ⟨m - 1, by omega⟩
        rw [nI_m1 (by omega), Nat.add_sub_cancel]
        refine PW.zeq rfl trivial (fun h16 => ?_) (fun h16 => ?_)
        · skip
          rw [bo_eq] at h16
          have hend := hf h16
          refine PW.iret rfl rfl trivial ?_
          obtain ⟨e1, e2⟩ := hend
          rw [e1]
          exact ⟨rfl, by rw [← e2]; exact S2, J.fm⟩
        · skip
          rw [bo_ne] at h16
          subst h16
          obtain ⟨ht1, ht2⟩ := ht rfl
          have ec1 : M2.1 37 m = nI (ch m) := by rw [J.at 37]; exact hc m (by omega)
          have ec2 : M2.1 37 (m + 1) = nI (ch (m + 1)) := by rw [J.at 37]; exact hc (m + 1) (by omega)
          refine PW.callV rfl ⟨⟨trivial, vp_in_nI (by omega) (by decide)⟩, (by rw [nI_1]; exact vp_in_nI (by omega) (by decide))⟩ sX8_150 rfl rfl (by decide) rfl (show PC X l mX8_leastTo 4 [.ref 29, .int (M2.1 37 (nI m).toNatClampNeg), .int (M2.1 37 (nI m + 1).toNatClampNeg)] G0 M2 (fun v M3 => v = some (.int (ob (fnd (fun x => decide (d2 x = ch m) && mayh w (w * h) d2 x (ch (m + 1))) (w * h)))) ∧ FI [34, 35] M2 M3) from by rw [nI_1, nI_clamp (by omega), nI_clamp (by omega), ec1, ec2]; exact m_leastTo Hw2 S2.1 (ch m) (ch (m + 1)) (hch m (by omega)) (hch (m + 1) (by omega))) (fun v34 M34 hq34 => ?_)
          obtain ⟨rfl, hF3⟩ := hq34
          obtain ⟨S3, FM3⟩ := S2.fj (hF3.fj (B := [34, 35]) (by decide))
          have J3 := J.tr (hF3.fj (B := [31, 34, 35]) (by decide))
          refine PW.ieq rfl trivial (fun h43 => ?_) (fun h43 => ?_)
          · skip
            rw [ob_nn] at h43
            have e5 : pas w (w * h) ch (m + 1) d2 = (0, d2) := by simp only [pas, h43]
            rw [e5] at ht1 ht2
            refine PW.zeq rfl trivial (fun h53 => ?_) (fun h53 => ?_)
            · skip
              refine PW.goto rfl trivial ?_
              rw [← Int32.sub_eq_add_neg]
              refine PW.nl [4] ?_
              exact ih m cnt false d2 M34 (by omega) Hw2 S3 J3 (fun q => by cases q) (fun _ => ⟨by simpa using ht1, ht2⟩) (by omega)
            · exact absurd rfl h53
          · skip
            rw [ob_nn] at h43
            obtain ⟨b, hb⟩ := Option.ne_none_iff_exists'.mp h43
            have hb2 := (fnd_some.mp hb).1
            have eb : ob (fnd (fun x => decide (d2 x = ch m) && mayh w (w * h) d2 x (ch (m + 1))) (w * h)) = nI b := by rw [hb]; rfl
            have e5 : pas w (w * h) ch (m + 1) d2 = ((pas w (w * h) ch m (set1 d2 b (ch (m + 1)))).1 + 1, (pas w (w * h) ch m (set1 d2 b (ch (m + 1)))).2) := by simp only [pas, hb]
            rw [e5] at ht1 ht2
            rw [eb]
            have ec3 : M34.1 37 (m + 1) = nI (ch (m + 1)) := by rw [hF3.at 37]; exact ec2
            refine PW.goto rfl trivial ?_
            refine PW.zeq rfl trivial (fun h53 => ?_) (fun h53 => ?_)
            · exact absurd h53 (by decide)
            · skip
              refine PW.goto rfl ⟨⟨trivial, (by rw [nI_1]; exact vp_in_nI (by omega) (by decide))⟩, vp_in_nI (by omega) (by decide)⟩ ?_
              rw [nI_1, nI_1, nI_clamp (by omega), nI_clamp (by omega), ec3, ← Int32.sub_eq_add_neg]
              refine PW.nl [4] ?_
              exact ih m (cnt + 1) true (set1 d2 b (ch (m + 1))) _ (by omega) (wf_set1 Hw2 hb2 (by have := hch (m + 1) (by omega); omega)) (sm_dr S3 b (ch (m + 1))) (J3.put (by decide)) (fun _ => ⟨by dsimp only at ht1; omega, ht2⟩) (fun q => by cases q) (by omega)
  refine PW.to 11 rfl trivial ?_
  rw [hli]
  refine PW.lc ?_ (loop11 (m0 + 1) m0 0 true dr M (Nat.le_refl _) F.1 S FJ.rf (fun _ => ⟨Nat.zero_add _, rfl⟩) (fun q => by cases q) (by omega))
  rw [nI_m2 (by omega), Nat.add_sub_cancel]; rfl
theorem p_chain {w h : Nat} {mp dr hd : Nat → Nat} {wy : Nat} {vt : Nat → Nat} (F : Sf w h mp dr hd wy vt) (S : SM w h mp dr hd wy vt M)  : PC X l mX8_chain 6 [.ref 29] G0 M (fun v M' => v = some (.int ((match (cst (hnd w (w * h) dr) (hasless (w * h) dr (due hd wy (w * h - many mp 6 (w * h)))) (hasmore (w * h) dr (due hd wy (w * h - many mp 6 (w * h))))) with | none => -9 | some s => nI (dn (hnd w (w * h) dr) (hasless (w * h) dr (due hd wy (w * h - many mp 6 (w * h)))) 7 s)))) ∧ (SM w h mp dr hd wy vt M' ∧ FM M M')) := by
  refine PC.ofW okX8_chain ?_
  have hn := F.1.n
  have S0 := (S.fj (th0 M (A := []))).1
  refine PW.callV rfl trivial sX8_156 rfl rfl (by decide) rfl (m_linked F.1 S0.1 F.2.1 S0.2.1) (fun v6 M6 hq6 => ?_)
  obtain ⟨rfl, J1, hz1, hl1⟩ := hq6
  have J2 := (th0 M (A := [33, 34, 35, 36, 37, 43])).tr J1
  obtain ⟨S2, FM2⟩ := S.fj J2
  refine PW.zeq rfl trivial (fun h9 => ?_) (fun h9 => ?_)
  · skip
    rw [bo_eq] at h9
    have hs : cst (hnd w (w * h) dr) (hasless (w * h) dr (due hd wy (w * h - many mp 6 (w * h)))) (hasmore (w * h) dr (due hd wy (w * h - many mp 6 (w * h)))) = none := by simpa using h9
    refine PW.iret rfl rfl trivial ?_
    first | exact ⟨by rw [hli, hs], S2, FM2⟩ | exact ⟨by rw [hs], S2, FM2⟩
  · skip
    rw [bo_ne] at h9
    have hso : ∃ s, cst (hnd w (w * h) dr) (hasless (w * h) dr (due hd wy (w * h - many mp 6 (w * h)))) (hasmore (w * h) dr (due hd wy (w * h - many mp 6 (w * h)))) = some s := Option.isSome_iff_exists.mp h9
    obtain ⟨s, hs⟩ := hso
    obtain ⟨hli, hch⟩ := hl1 s hs
    have hcs := cst_ism (hnd w (w * h) dr) (hasless (w * h) dr (due hd wy (w * h - many mp 6 (w * h)))) (hasmore (w * h) dr (due hd wy (w * h - many mp 6 (w * h))))
    rw [hs] at hcs
    have hs6 := hcs.2.1
    have hsd : dn (hnd w (w * h) dr) (hasless (w * h) dr (due hd wy (w * h - many mp 6 (w * h)))) 7 s ≤ 6 := by have := hcs.2.2.1; simp at this; exact this.2
    have hpos := dn_pos (h := hnd w (w * h) dr) (T := hasless (w * h) dr (due hd wy (w * h - many mp 6 (w * h)))) (F := 7) (a := s) (by decide)
    refine PW.goto rfl trivial ?_
    refine PW.iret rfl rfl trivial ?_
    first | exact ⟨by rw [hli, hs], S2, FM2⟩ | exact ⟨by rw [hs], S2, FM2⟩
theorem inc0 {x : Int32} {n : Nat} (h : n < 2 ^ 31) (h0 : 0 < n := by omega) : decide ((0 : Int64) ≤ x.toInt64 ∧ x.toInt64 ≤ (nI (n - 1)).toInt64) = okc n x := by
  refine (in_i x 0 (nI (n - 1))).trans (decide_eq_decide.mpr ?_)
  rw [nI_t (by omega), Int32.toInt_zero]
  omega
theorem p_link {w h : Nat} {mp dr hd : Nat → Nat} {wy : Nat} {vt : Nat → Nat} (F : Sf w h mp dr hd wy vt) (S : SM w h mp dr hd wy vt M) (x : Int32) : PC X l mX8_link 6 [.ref 29, .int x] G0 M (fun v M' => v = some (.int ((match (cst (hnd w (w * h) dr) (hasless (w * h) dr (due hd wy (w * h - many mp 6 (w * h)))) (hasmore (w * h) dr (due hd wy (w * h - many mp 6 (w * h))))) with | none => -9 | some s => if okc (dn (hnd w (w * h) dr) (hasless (w * h) dr (due hd wy (w * h - many mp 6 (w * h)))) 7 s) x = true then nI (chn (hnd w (w * h) dr) (hasless (w * h) dr (due hd wy (w * h - many mp 6 (w * h)))) s (tn x)) else -9))) ∧ (SM w h mp dr hd wy vt M' ∧ FM M M')) := by
  refine PC.ofW okX8_link ?_
  have hn := F.1.n
  have S0 := (S.fj (th0 M (A := []))).1
  refine PW.callV rfl trivial sX8_156 rfl rfl (by decide) rfl (m_linked F.1 S0.1 F.2.1 S0.2.1) (fun v6 M6 hq6 => ?_)
  obtain ⟨rfl, J1, hz1, hl1⟩ := hq6
  have J2 := (th0 M (A := [33, 34, 35, 36, 37, 43])).tr J1
  obtain ⟨S2, FM2⟩ := S.fj J2
  refine PW.zeq rfl trivial (fun h9 => ?_) (fun h9 => ?_)
  · skip
    rw [bo_eq] at h9
    have hs : cst (hnd w (w * h) dr) (hasless (w * h) dr (due hd wy (w * h - many mp 6 (w * h)))) (hasmore (w * h) dr (due hd wy (w * h - many mp 6 (w * h)))) = none := by simpa using h9
    refine PW.iret rfl rfl trivial ?_
    first | exact ⟨by rw [nI_clamp (by omega), hch k hk, hs]; dsimp only; rw [if_t h25, tn_nI (by omega)], S2, FM2⟩ | exact ⟨by rw [hs]; dsimp only; rw [if_f h25], S2, FM2⟩ | exact ⟨by rw [hs], S2, FM2⟩
  · skip
    rw [bo_ne] at h9
    have hso : ∃ s, cst (hnd w (w * h) dr) (hasless (w * h) dr (due hd wy (w * h - many mp 6 (w * h)))) (hasmore (w * h) dr (due hd wy (w * h - many mp 6 (w * h)))) = some s := Option.isSome_iff_exists.mp h9
    obtain ⟨s, hs⟩ := hso
    obtain ⟨hli, hch⟩ := hl1 s hs
    have hcs := cst_ism (hnd w (w * h) dr) (hasless (w * h) dr (due hd wy (w * h - many mp 6 (w * h)))) (hasmore (w * h) dr (due hd wy (w * h - many mp 6 (w * h))))
    rw [hs] at hcs
    have hs6 := hcs.2.1
    have hsd : dn (hnd w (w * h) dr) (hasless (w * h) dr (due hd wy (w * h - many mp 6 (w * h)))) 7 s ≤ 6 := by have := hcs.2.2.1; simp at this; exact this.2
    have hpos := dn_pos (h := hnd w (w * h) dr) (T := hasless (w * h) dr (due hd wy (w * h - many mp 6 (w * h)))) (F := 7) (a := s) (by decide)
    refine PW.funS rfl trivial sX8_81 rfl (by decide) rfl (m_in _ _ _) ?_
    refine PW.zeq rfl trivial (fun h25 => ?_) (fun h25 => ?_)
    · skip
      rw [hli, nI_m1 hpos, inc0 (by omega), bo_eq] at h25
      refine PW.iret rfl rfl trivial ?_
      first | exact ⟨by rw [nI_clamp (by omega), hch k hk, hs]; dsimp only; rw [if_t h25, tn_nI (by omega)], S2, FM2⟩ | exact ⟨by rw [hs]; dsimp only; rw [if_f h25], S2, FM2⟩ | exact ⟨by rw [hs], S2, FM2⟩
    · skip
      rw [hli, nI_m1 hpos, inc0 (by omega), bo_ne] at h25
      obtain ⟨k, hk, rfl⟩ := okc_x h25
      refine PW.goto rfl ⟨trivial, vp_in_nI (by omega) (by decide)⟩ ?_
      refine PW.iret rfl rfl trivial ?_
      first | exact ⟨by rw [nI_clamp (by omega), hch k hk, hs]; dsimp only; rw [if_t h25, tn_nI (by omega)], S2, FM2⟩ | exact ⟨by rw [hs]; dsimp only; rw [if_f h25], S2, FM2⟩ | exact ⟨by rw [hs], S2, FM2⟩
theorem p_pass {w h : Nat} {mp dr hd : Nat → Nat} {wy : Nat} {vt : Nat → Nat} (F : Sf w h mp dr hd wy vt) (S : SM w h mp dr hd wy vt M)  : PC X l mX8_pass 6 [.ref 29] G0 M (fun v M' => v = some (.int ((match (cst (hnd w (w * h) dr) (hasless (w * h) dr (due hd wy (w * h - many mp 6 (w * h)))) (hasmore (w * h) dr (due hd wy (w * h - many mp 6 (w * h))))) with | none => -3 | some s => nI (pas w (w * h) (chn (hnd w (w * h) dr) (hasless (w * h) dr (due hd wy (w * h - many mp 6 (w * h)))) s) (dn (hnd w (w * h) dr) (hasless (w * h) dr (due hd wy (w * h - many mp 6 (w * h)))) 7 s - 1) dr).1))) ∧ (SM w h mp (match (cst (hnd w (w * h) dr) (hasless (w * h) dr (due hd wy (w * h - many mp 6 (w * h)))) (hasmore (w * h) dr (due hd wy (w * h - many mp 6 (w * h))))) with | none => dr | some s => (pas w (w * h) (chn (hnd w (w * h) dr) (hasless (w * h) dr (due hd wy (w * h - many mp 6 (w * h)))) s) (dn (hnd w (w * h) dr) (hasless (w * h) dr (due hd wy (w * h - many mp 6 (w * h)))) 7 s - 1) dr).2) hd wy vt M' ∧ FM M M')) := by
  refine PC.ofW okX8_pass ?_
  have hn := F.1.n
  have S0 := (S.fj (th0 M (A := []))).1
  refine PW.callV rfl trivial sX8_156 rfl rfl (by decide) rfl (m_linked F.1 S0.1 F.2.1 S0.2.1) (fun v6 M6 hq6 => ?_)
  obtain ⟨rfl, J1, hz1, hl1⟩ := hq6
  have J2 := (th0 M (A := [33, 34, 35, 36, 37, 43])).tr J1
  obtain ⟨S2, FM2⟩ := S.fj J2
  refine PW.zeq rfl trivial (fun h9 => ?_) (fun h9 => ?_)
  · skip
    rw [bo_eq] at h9
    have hs : cst (hnd w (w * h) dr) (hasless (w * h) dr (due hd wy (w * h - many mp 6 (w * h)))) (hasmore (w * h) dr (due hd wy (w * h - many mp 6 (w * h)))) = none := by simpa using h9
    refine PW.iret rfl rfl trivial ?_
    first | exact ⟨by rw [hs], by rw [hs]; exact S3, FM2.tr FM3⟩ | exact ⟨by rw [hs], by rw [hs]; exact S2, FM2⟩
  · skip
    rw [bo_ne] at h9
    have hso : ∃ s, cst (hnd w (w * h) dr) (hasless (w * h) dr (due hd wy (w * h - many mp 6 (w * h)))) (hasmore (w * h) dr (due hd wy (w * h - many mp 6 (w * h)))) = some s := Option.isSome_iff_exists.mp h9
    obtain ⟨s, hs⟩ := hso
    obtain ⟨hli, hch⟩ := hl1 s hs
    have hcs := cst_ism (hnd w (w * h) dr) (hasless (w * h) dr (due hd wy (w * h - many mp 6 (w * h)))) (hasmore (w * h) dr (due hd wy (w * h - many mp 6 (w * h))))
    rw [hs] at hcs
    have hs6 := hcs.2.1
    have hsd : dn (hnd w (w * h) dr) (hasless (w * h) dr (due hd wy (w * h - many mp 6 (w * h)))) 7 s ≤ 6 := by have := hcs.2.2.1; simp at this; exact this.2
    have hpos := dn_pos (h := hnd w (w * h) dr) (T := hasless (w * h) dr (due hd wy (w * h - many mp 6 (w * h)))) (F := 7) (a := s) (by decide)
    refine PW.callV rfl trivial sX8_160 rfl rfl (by decide) rfl (m_passOn F S2 (dn (hnd w (w * h) dr) (hasless (w * h) dr (due hd wy (w * h - many mp 6 (w * h)))) 7 s - 1) (chn (hnd w (w * h) dr) (hasless (w * h) dr (due hd wy (w * h - many mp 6 (w * h)))) s) (by omega) (fun i hi => (chn_ok hs6 hsd i (by omega)).1) (by rw [hli]; congr 1; omega) (fun i hi => hch i (by omega))) (fun v13 M13 hq13 => ?_)
    obtain ⟨rfl, S3, FM3⟩ := hq13
    refine PW.goto rfl trivial ?_
    refine PW.iret rfl rfl trivial ?_
    first | exact ⟨by rw [hs], by rw [hs]; exact S3, FM2.tr FM3⟩ | exact ⟨by rw [hs], by rw [hs]; exact S2, FM2⟩
theorem pas_wf2 {w h : Nat} {mp : Nat → Nat} {ch : Nat → Nat} : ∀ {m : Nat} {dr : Nat → Nat}, Wf w h mp dr → (∀ i, i ≤ m → ch i < 6) → Wf w h mp (pas w (w * h) ch m dr).2
  | 0, _, H, _ => H
  | m + 1, dr, H, hc => by
    simp only [pas]
    split
    · exact H
    · rename_i c e
      exact pas_wf2 (wf_set1 H (fnd_some.mp e).1 (by have := hc (m + 1) (Nat.le_refl _); omega)) (fun i hi => hc i (by omega))
theorem p_settle {w h : Nat} {mp dr hd : Nat → Nat} {wy : Nat} {vt : Nat → Nat} (F : Sf w h mp dr hd wy vt) (S : SM w h mp dr hd wy vt M)  : PC X l mX8_settle 6 [.ref 29] G0 M (fun v M' => v = some (.int (nI (stl w (w * h) (due hd wy (w * h - many mp 6 (w * h))) 40 dr).1)) ∧ (SM w h mp (stl w (w * h) (due hd wy (w * h - many mp 6 (w * h))) 40 dr).2 hd wy vt M' ∧ FM M M')) := by
  refine PC.ofW okX8_settle ?_
  have hn := F.1.n
  have S0 := (S.fj (th0 M (A := []))).1
  obtain ⟨tot, et⟩ : ∃ tot, tot = stl w (w * h) (due hd wy (w * h - many mp 6 (w * h))) 40 dr := ⟨_, rfl⟩
  rw [← et]
  have loop7 : ∀ k : Nat, ∀ (p : Nat) (d2 : Nat → Nat) (M2 : Mem), p ≤ 40 → Wf w h mp d2 → SM w h mp d2 hd wy vt M2 → FM M M2 → p + (stl w (w * h) (due hd wy (w * h - many mp 6 (w * h))) (40 - p) d2).1 = tot.1 → (stl w (w * h) (due hd wy (w * h - many mp 6 (w * h))) (40 - p) d2).2 = tot.2 → 40 - p < k → PW X l mX8_settle 6 (fun v M' => v = some (.int (nI tot.1)) ∧ (SM w h mp tot.2 hd wy vt M' ∧ FM M M')) 7 [.ref 29, .int (nI p)] [] G0 M2 := by
    intro k
    induction k with
    | zero => intro p d2 M2 hp Hw2 S2 hF ht1 ht2 hk; exact absurd hk (Nat.not_lt_zero _)
    | succ k ih =>
      intro p d2 M2 hp Hw2 S2 hF ht1 ht2 hk
      have F2 : Sf w h mp d2 hd wy vt := ⟨Hw2, F.2.1, F.2.2⟩
      refine PW.ige rfl trivial (fun h10 => ?_) (fun h10 => ?_)
      · skip
        rw [show (40 : Int32) = nI 40 from rfl, nI_leI (by omega) (by omega)] at h10
        have e9 : p = 40 := by omega
        subst e9
        have hend : 40 = tot.1 ∧ d2 = tot.2 := ⟨ht1, ht2⟩
        refine PW.iret rfl rfl trivial ?_
        obtain ⟨e1, e2⟩ := hend
        exact ⟨by rw [← e1], by rw [← e2]; exact S2, hF⟩
      · skip
        rw [show (40 : Int32) = nI 40 from rfl, nI_leI (by omega) (by omega)] at h10
        obtain ⟨q, eq⟩ : ∃ q, 40 - p = q + 1 := ⟨39 - p, by omega⟩
        rw [eq] at ht1 ht2
        refine PW.callV rfl trivial sX8_156 rfl rfl (by decide) rfl (m_linked Hw2 S2.1 F.2.1 S2.2.1) (fun v14 M14 hq14 => ?_)
        obtain ⟨rfl, J1, hz1, hl1⟩ := hq14
        obtain ⟨S3, FM3⟩ := S2.fj J1
        refine PW.zeq rfl trivial (fun h17 => ?_) (fun h17 => ?_)
        · skip
          rw [bo_eq] at h17
          have hs : cst (hnd w (w * h) d2) (hasless (w * h) d2 (due hd wy (w * h - many mp 6 (w * h)))) (hasmore (w * h) d2 (due hd wy (w * h - many mp 6 (w * h)))) = none := by simpa using h17
          have hend : p = tot.1 ∧ d2 = tot.2 := by simp only [stl, hs] at ht1 ht2; exact ⟨by simpa using ht1, ht2⟩
          have S2 := S3
          have hF := hF.tr FM3
          refine PW.iret rfl rfl trivial ?_
          obtain ⟨e1, e2⟩ := hend
          exact ⟨by rw [← e1], by rw [← e2]; exact S2, hF⟩
        · skip
          rw [bo_ne] at h17
          have hso : ∃ s, cst (hnd w (w * h) d2) (hasless (w * h) d2 (due hd wy (w * h - many mp 6 (w * h)))) (hasmore (w * h) d2 (due hd wy (w * h - many mp 6 (w * h)))) = some s := Option.isSome_iff_exists.mp h17
          obtain ⟨s, hs⟩ := hso
          obtain ⟨hli, hch⟩ := hl1 s hs
          have hcs := cst_ism (hnd w (w * h) d2) (hasless (w * h) d2 (due hd wy (w * h - many mp 6 (w * h)))) (hasmore (w * h) d2 (due hd wy (w * h - many mp 6 (w * h))))
          rw [hs] at hcs
          have hs6 := hcs.2.1
          have hsd : dn (hnd w (w * h) d2) (hasless (w * h) d2 (due hd wy (w * h - many mp 6 (w * h)))) 7 s ≤ 6 := by have := hcs.2.2.1; simp at this; exact this.2
          have hpos := dn_pos (h := hnd w (w * h) d2) (T := hasless (w * h) d2 (due hd wy (w * h - many mp 6 (w * h)))) (F := 7) (a := s) (by decide)
          simp only [stl, hs] at ht1 ht2
          refine PW.callV rfl trivial sX8_160 rfl rfl (by decide) rfl (m_passOn F2 S3 (dn (hnd w (w * h) d2) (hasless (w * h) d2 (due hd wy (w * h - many mp 6 (w * h)))) 7 s - 1) (chn (hnd w (w * h) d2) (hasless (w * h) d2 (due hd wy (w * h - many mp 6 (w * h)))) s) (by omega) (fun i hi => (chn_ok hs6 hsd i (by omega)).1) (by rw [hli]; congr 1; omega) (fun i hi => hch i (by omega))) (fun v21 M21 hq21 => ?_)
          obtain ⟨rfl, S4, FM4⟩ := hq21
          refine PW.goto rfl trivial ?_
          rw [nI_1]
          refine ih (p + 1) _ _ (by omega) (pas_wf2 Hw2 (fun i hi => (chn_ok hs6 hsd i (by omega)).1)) S4 ((hF.tr FM3).tr FM4) ?_ ?_ (by omega)
          · rw [show 40 - (p + 1) = q by omega]; omega
          · rw [show 40 - (p + 1) = q by omega]; exact ht2
  refine PW.to 7 rfl trivial ?_
  exact loop7 41 0 dr (va_up M.1 29 (upd (M.1 29) 0 0), M.2) (by omega) F.1 S0 (th0 M (A := [])).fm (by rw [et, Nat.zero_add]) (by rw [et]) (by omega)
end M11
