-- made by wip/whole/mk_c5.py
section C5
variable {X : Cx} {l : Launch} {M : Mem}
theorem c_chain {w h : Nat} {mp dr hd : Nat → Nat} {wy : Nat} {vt : Nat → Nat} (F : Sf w h mp dr hd wy vt) (C : CM w h mp dr hd wy vt M) {du : Nat → Nat} (hdu : ∀ j, j < 6 → du j < 2 ^ 30) (h8 : ∀ j, j < 6 → M.1 8 j = nI (du j)) : PC X l mX2_findChain 5 [.ref 10] G0 M (fun v M' => v = some (.int (match (cst (hnd w (w * h) dr) (hasless (w * h) dr du) (hasmore (w * h) dr du)) with | none => 0 | some s => nI (dn (hnd w (w * h) dr) (hasless (w * h) dr du) 7 s))) ∧ FC [11, 12, 13] [] M M' ∧ ∀ s, (cst (hnd w (w * h) dr) (hasless (w * h) dr du) (hasmore (w * h) dr du)) = some s → ∀ i, i < dn (hnd w (w * h) dr) (hasless (w * h) dr du) 7 s → M'.1 13 i = nI (chn (hnd w (w * h) dr) (hasless (w * h) dr du) s i)) := by
  refine PC.ofW okX2_findChain ?_
  have hn := F.1.n
  have hml : ∀ j, many dr j (w * h) ≤ 36 := fun j => by have := many_le dr j (w * h); omega
  obtain ⟨hh, ehh⟩ : ∃ hh, hh = hnd w (w * h) dr := ⟨_, rfl⟩
  obtain ⟨T, eT⟩ : ∃ T, T = hasless (w * h) dr du := ⟨_, rfl⟩
  obtain ⟨mr, emr⟩ : ∃ mr, mr = hasmore (w * h) dr du := ⟨_, rfl⟩
  rw [← ehh, ← eT, ← emr]
  have hdl : ∀ j, dn hh T 7 j ≤ 7 := fun j => dn_le (by decide)
  have loop100 : ∀ k : Nat, ∀ (i s : Nat) (av : Int32) (M2 : Mem), cst hh T mr = some s → s < 6 → dn hh T 7 s ≤ 6 → i ≤ dn hh T 7 s → FC [11, 12, 13] [] M M2 → (∀ x, x < 36 → M2.1 11 x = bo (hh (x / 6) (x % 6))) → (∀ j, j < 6 → M2.1 12 j = nI (dn hh T 7 j)) → (i < dn hh T 7 s → av = nI (chn hh T s i)) → (∀ k, k < i → M2.1 13 k = nI (chn hh T s k)) → dn hh T 7 s - i < k → PW X l mX2_findChain 5 (fun v M' => v = some (.int (match cst hh T mr with | none => 0 | some s => nI (dn hh T 7 s))) ∧ FC [11, 12, 13] [] M M' ∧ ∀ s, cst hh T mr = some s → ∀ i, i < dn hh T 7 s → M'.1 13 i = nI (chn hh T s i)) 100 [.ref 10, .int av, .int (nI (dn hh T 7 s)), .int (nI i)] [] G0 M2 := by
    intro k
    induction k with
    | zero => intro i s av M2 hcs hs6 hs7 hi hF h11 h12 hav hln hk; exact absurd hk (Nat.not_lt_zero _)
    | succ k ih =>
      intro i s av M2 hcs hs6 hs7 hi hF h11 h12 hav hln hk
      refine PW.ige rfl trivial (fun h102 => ?_) (fun h102 => ?_)
      · skip
        rw [nI_leI (by omega) (by omega)] at h102
        have e9 : i = dn hh T 7 s := by omega
        refine PW.iret rfl rfl trivial ?_
        exact ⟨by rw [hcs], hF, fun s2 q => by rw [hcs] at q; cases q; rw [← e9]; exact hln⟩
      · skip
        rw [nI_leI (by omega) (by omega)] at h102
        have hlt : i < dn hh T 7 s := by omega
        have hck := chn_ok hs6 hs7 i hlt
        rw [hav hlt]
        refine PW.ige rfl trivial (fun h108 => ?_) (fun h108 => ?_)
        · rw [i6 (by omega)] at h108
          omega
        · skip
          refine PW.ieq rfl trivial (fun h114 => ?_) (fun h114 => ?_)
          · exfalso
            have e2 := congrArg Int32.toInt h114
            rw [nI_t (by omega)] at e2
            have e3 : (-9 : Int32).toInt = -9 := by decide
            omega
          · skip
            refine PW.funV rfl ⟨trivial, vp_in_nI (by omega) (by decide)⟩ sX2_79 rfl rfl (by decide) rfl (c_next (hh := hh) (T := T) (fun x hx => by rw [up_o (by decide)]; exact h11 x hx) (fun x hx => by rw [up_o (by decide)]; exact h12 x hx) (chn hh T s i) hck.1) ?_
            refine PW.goto rfl trivial ?_
            rw [nI_clamp (by omega), nI_1]
            refine ih (i + 1) s _ _ hcs hs6 hs7 (by omega) hF.pi (fun x hx => by rw [up_o (by decide)]; exact h11 x hx) (fun x hx => by rw [up_o (by decide)]; exact h12 x hx) (fun q => ?_) (fun x hx => ?_) (by omega)
            · obtain ⟨b, e, hb, h5, -⟩ := cnx_some (h := hh) (T := T) hck.1 (by omega) (by omega)
              simp only [chn, e, Option.getD_some]; rfl
            · by_cases q : x = i
              · subst q; exact up_s
              · exact (up_n q).trans (hln x (by omega))
  have loop13 : ∀ k : Nat, ∀ (j : Nat) (M2 : Mem), j ≤ 6 → FC [11, 12, 13] [] M M2 → (∀ x, x < 36 → M2.1 11 x = bo (hh (x / 6) (x % 6))) → (∀ j, j < 6 → M2.1 12 j = nI (dn hh T 7 j)) → 6 - j < k → PW X l mX2_findChain 5 (fun v M' => v = some (.int (match cst hh T mr with | none => 0 | some s => nI (dn hh T 7 s))) ∧ FC [11, 12, 13] [] M M' ∧ ∀ s, cst hh T mr = some s → ∀ i, i < dn hh T 7 s → M'.1 13 i = nI (chn hh T s i)) 13 [.ref 10, .int (ob (pg (fun a b => decide (dn hh T 7 a < dn hh T 7 b)) (fun a => mr a && decide (dn hh T 7 a ≤ 6)) j)), .int (nI j), .null] [] G0 M2 := by
    intro k
    induction k with
    | zero => intro j M2 hj hF h11 h12 hk; exact absurd hk (Nat.not_lt_zero _)
    | succ k ih =>
      intro j M2 hj hF h11 h12 hk
      have C2 := C.fc hF
      have hob : ∀ b, (pg (fun a b => decide (dn hh T 7 a < dn hh T 7 b)) (fun a => mr a && decide (dn hh T 7 a ≤ 6)) j) = some b → b < 6 := fun b q => by have := (pg_lt q).1; omega
      have hm := hml j
      have hj7 := hdl j
      refine PW.ige rfl trivial (fun h16 => ?_) (fun h16 => ?_)
      · skip
        rw [i6 (by omega)] at h16
        have e9 : j = 6 := by omega
        subst e9
        have ecs : (pg (fun a b => decide (dn hh T 7 a < dn hh T 7 b)) (fun a => mr a && decide (dn hh T 7 a ≤ 6)) 6) = cst hh T mr := rfl
        rw [ecs] at hob ⊢
        refine PW.ine rfl trivial (fun h86 => ?_) (fun h86 => ?_)
        · skip
          rw [ob_none hob] at h86
          obtain ⟨s, hp⟩ := Option.ne_none_iff_exists'.mp h86
          have hs6 := hob s hp
          have eb2 : ob (cst hh T mr) = nI s := by rw [hp]; rfl
          rw [eb2]
          have hs7 : dn hh T 7 s ≤ 6 := by have := (pg_lt (show pg _ _ 6 = some s from hp)).2; simp at this; exact this.2
          refine PW.to 100 rfl ⟨trivial, vp_in_nI (by omega) (by decide)⟩ ?_
          rw [nI_clamp (by omega), h12 s hs6]
          exact loop100 7 0 s _ M2 hp hs6 hs7 (by omega) hF h11 h12 (fun _ => rfl) (fun k hk => absurd hk (Nat.not_lt_zero k)) (by omega)
        · skip
          rw [ob_none hob] at h86
          refine PW.iret rfl rfl trivial ?_
          exact ⟨by rw [h86], hF, fun s q => by rw [h86] at q; cases q⟩
      · skip
        rw [i6 (by omega)] at h16
        refine PW.funV rfl trivial sX2_71 rfl rfl (by decide) rfl (c_siz4 j (by omega) F.1.g C2.1 F.1.d C2.2.2.1) ?_
        refine PW.ile rfl ⟨trivial, vp_in_nI (by omega) (by decide)⟩ (fun h36 => ?_) (fun h36 => ?_)
        · skip
          have hdj := hdu j (by omega)
          rw [nI_clamp (by omega), hF.i 8, h8 j (by omega), nI_leI (by omega) (by omega)] at h36
          have hok : (mr j && decide (dn hh T 7 j ≤ 6)) = false := by rw [emr]; simp [hasmore]; omega
          have hnx := pg_no (gt := fun a b => decide (dn hh T 7 a < dn hh T 7 b)) (ok := fun a => mr a && decide (dn hh T 7 a ≤ 6)) (n := j) hok
          refine PW.zeq rfl trivial (fun h46 => ?_) (fun h46 => ?_)
          · skip
            refine PW.goto rfl trivial ?_
            rw [nI_1]
            refine PW.nl [3] ?_
            refine PW.lc ?_ (ih (j + 1) M2 (by omega) hF h11 h12 (by omega))
            rw [hnx]; first | rfl | (rw [hp]; rfl)
          · exact absurd rfl h46
        · skip
          have hdj := hdu j (by omega)
          rw [nI_clamp (by omega), hF.i 8, h8 j (by omega), nI_leI (by omega) (by omega)] at h36
          have hmr : mr j = true := by rw [emr]; simp [hasmore]; omega
          refine PW.goto rfl trivial ?_
          refine PW.zeq rfl trivial (fun h46 => ?_) (fun h46 => ?_)
          · exact absurd h46 (by decide)
          · skip
            refine PW.ine rfl ⟨trivial, vp_in_nI (by omega) (by decide)⟩ (fun h58 => ?_) (fun h58 => ?_)
            · skip
              rw [ob_none hob] at h58
              obtain ⟨b, hp⟩ := Option.ne_none_iff_exists'.mp h58
              have hb6 := hob b hp
              have eb2 : ob (pg (fun a b => decide (dn hh T 7 a < dn hh T 7 b)) (fun a => mr a && decide (dn hh T 7 a ≤ 6)) j) = nI b := by rw [hp]; rfl
              rw [eb2]
              have hb7 := hdl b
              have hbd : dn hh T 7 b ≤ 6 := by have := (pg_lt hp).2; simp at this; exact this.2
              refine PW.ige rfl ⟨trivial, vp_in_nI (by omega) (by decide)⟩ (fun h72 => ?_) (fun h72 => ?_)
              · skip
                first
                | (rw [nI_clamp (by omega), h12 j (by omega), show (7 : Int32) = nI 7 from rfl, nI_leI (by omega) (by omega)] at h72
                   have hnx := pg_no (gt := fun a b => decide (dn hh T 7 a < dn hh T 7 b)) (ok := fun a => mr a && decide (dn hh T 7 a ≤ 6)) (n := j) (by simp; omega))
                | (rw [nI_clamp (by omega), nI_clamp (by omega), h12 j (by omega), h12 b hb6, nI_leI (by omega) (by omega)] at h72
                   have hnx := pg_le hp (by simpa using h72))
                refine PW.goto rfl trivial ?_
                rw [nI_1]
                refine PW.nl [3] ?_
                refine PW.lc ?_ (ih (j + 1) M2 (by omega) hF h11 h12 (by omega))
                rw [hnx]; first | rfl | (rw [hp]; rfl)
              · skip
                first
                | (rw [nI_clamp (by omega), h12 j (by omega), show (7 : Int32) = nI 7 from rfl, nI_leI (by omega) (by omega)] at h72
                   have hnx := pg_new h58 (by simp [hmr]; omega))
                | (rw [nI_clamp (by omega), nI_clamp (by omega), h12 j (by omega), h12 b hb6, nI_leI (by omega) (by omega)] at h72
                   have hnx := pg_gt hp (by simp [hmr]; omega) (by simp; omega))
                refine PW.goto rfl trivial ?_
                rw [nI_1]
                refine PW.nl [3] ?_
                refine PW.lc ?_ (ih (j + 1) M2 (by omega) hF h11 h12 (by omega))
                rw [hnx]; rfl
            · skip
              rw [ob_none hob] at h58
              refine PW.goto rfl trivial ?_
              refine PW.ige rfl trivial (fun h72 => ?_) (fun h72 => ?_)
              · skip
                first
                | (rw [nI_clamp (by omega), h12 j (by omega), show (7 : Int32) = nI 7 from rfl, nI_leI (by omega) (by omega)] at h72
                   have hnx := pg_no (gt := fun a b => decide (dn hh T 7 a < dn hh T 7 b)) (ok := fun a => mr a && decide (dn hh T 7 a ≤ 6)) (n := j) (by simp; omega))
                | (rw [nI_clamp (by omega), nI_clamp (by omega), h12 j (by omega), h12 b hb6, nI_leI (by omega) (by omega)] at h72
                   have hnx := pg_le hp (by simpa using h72))
                refine PW.goto rfl trivial ?_
                rw [nI_1]
                refine PW.nl [3] ?_
                refine PW.lc ?_ (ih (j + 1) M2 (by omega) hF h11 h12 (by omega))
                rw [hnx]; first | rfl | (rw [hp]; rfl)
              · skip
                first
                | (rw [nI_clamp (by omega), h12 j (by omega), show (7 : Int32) = nI 7 from rfl, nI_leI (by omega) (by omega)] at h72
                   have hnx := pg_new h58 (by simp [hmr]; omega))
                | (rw [nI_clamp (by omega), nI_clamp (by omega), h12 j (by omega), h12 b hb6, nI_leI (by omega) (by omega)] at h72
                   have hnx := pg_gt hp (by simp [hmr]; omega) (by simp; omega))
                refine PW.goto rfl trivial ?_
                rw [nI_1]
                refine PW.nl [3] ?_
                refine PW.lc ?_ (ih (j + 1) M2 (by omega) hF h11 h12 (by omega))
                rw [hnx]; rfl
  refine PW.callV rfl trivial sX2_65 rfl rfl (by decide) rfl (c_see F C) (fun v1 M1 hq1 => ?_)
  obtain ⟨rfl, hF1, h11⟩ := hq1
  rw [← ehh] at h11
  have C1 := C.fc hF1
  refine PW.callV rfl trivial sX2_68 rfl rfl (by decide) rfl (c_meas F C1 h11 hdu (fun j hj => by rw [hF1.i 8]; exact h8 j hj) eT) (fun v5 M5 hq5 => ?_)
  obtain ⟨rfl, hF2, h12⟩ := hq5
  have hF3 : FC [11, 12, 13] [] M M5 := (hF1.mono).tr hF2.mono
  have h11 : ∀ x, x < 36 → M5.1 11 x = bo (hh (x / 6) (x % 6)) := fun x hx => by rw [hF2.i 11]; exact h11 x hx
  refine PW.to 13 rfl trivial ?_
  exact loop13 7 0 M5 (by omega) hF3 h11 h12 (by omega)
theorem c_pass {w h : Nat} {mp dr hd : Nat → Nat} {wy : Nat} {vt : Nat → Nat} (F : Sf w h mp dr hd wy vt) (C : CM w h mp dr hd wy vt M) (m0 : Nat) (ch : Nat → Nat) (hm0 : m0 < 6) (hch : ∀ i, i ≤ m0 → ch i < 6) (hne : ∀ i, i < m0 → ch i ≠ ch (i + 1)) (hc : ∀ i, i ≤ m0 → M.1 13 i = nI (ch i)) : PC X l mX2_passAlong 5 [.ref 10, .int (nI (m0 + 1))] G0 M (fun v M' => v = some (.int (nI (pas w (w * h) ch m0 dr).1)) ∧ FC [] [5] M M' ∧ Sh 5 (pas w (w * h) ch m0 dr).2 M') := by
  refine PC.ofW okX2_passAlong ?_
  have hn := F.1.n
  have loop11 : ∀ k : Nat, ∀ (m cnt : Nat) (d2 : Nat → Nat) (M2 : Mem), m ≤ m0 → Wf w h mp d2 → FC [] [5] M M2 → Sh 5 d2 M2 → cnt + (pas w (w * h) ch m d2).1 = (pas w (w * h) ch m0 dr).1 → (pas w (w * h) ch m d2).2 = (pas w (w * h) ch m0 dr).2 → m < k → PW X l mX2_passAlong 5 (fun v M' => v = some (.int (nI (pas w (w * h) ch m0 dr).1)) ∧ FC [] [5] M M' ∧ Sh 5 (pas w (w * h) ch m0 dr).2 M') 11 [.ref 10, .int (nI (m0 + 1)), .int (nI cnt), .int (nI m - 1), .null, .null] [] G0 M2 := by
    intro k
    induction k with
    | zero => intro m cnt d2 M2 hm Hw2 hF hS ht1 ht2 hk; exact absurd hk (Nat.not_lt_zero _)
    | succ k ih =>
      intro m cnt d2 M2 hm Hw2 hF hS ht1 ht2 hk
      have F2 : Sf w h mp d2 hd wy vt := ⟨Hw2, F.2⟩
      have C2 := C.dr hF hS
      refine PW.zlt rfl trivial (fun h12 => ?_) (fun h12 => ?_)
      · skip
        have e0 : m = 0 := by
          rcases Nat.eq_zero_or_pos m with z | z
          · exact z
          · rw [nI_m1 z] at h12; exact absurd h12 (nI_pos (by omega))
        subst e0
        have hend : cnt = (pas w (w * h) ch m0 dr).1 ∧ d2 = (pas w (w * h) ch m0 dr).2 := ⟨ht1, ht2⟩
        refine PW.iret rfl rfl trivial ?_
        obtain ⟨e1, e2⟩ := hend
        exact ⟨by rw [e1], hF, by rw [← e2]; exact hS⟩
      · skip
        have hm1 : 0 < m := by
          rcases Nat.eq_zero_or_pos m with z | z
          · subst z; exact absurd (by decide) h12
          · exact z
        obtain ⟨m, rfl⟩ : ∃ j, m = j + 1 := ⟨m - 1, by omega⟩
        rw [nI_m1 (by omega), Nat.add_sub_cancel]
        have ec1 : M2.1 13 m = nI (ch m) := by rw [hF.i 13]; exact hc m (by omega)
        have ec2 : M2.1 13 (m + 1) = nI (ch (m + 1)) := by rw [hF.i 13]; exact hc (m + 1) (by omega)
        have hc1 := hch m (by omega)
        have hc2 := hch (m + 1) (by omega)
        refine PW.funV rfl ⟨⟨trivial, (by rw [nI_1]; exact vp_in_nI (by omega) (by decide))⟩, vp_in_nI (by omega) (by decide)⟩ sX2_92 rfl rfl (by decide) rfl (show PF X l mX2_cellsToHand 4 [.ref 10, .int (M2.1 13 (nI m).toNatClampNeg), .int (M2.1 13 (nI m + 1).toNatClampNeg)] G0 M2 (.long (mk (fun c => rim w (w * h) (fun i => decide (d2 i = ch (m + 1))) c && lse w (w * h) d2 (ch m) c))) from by rw [nI_1, nI_clamp (by omega), nI_clamp (by omega), ec1, ec2]; exact c_hand F2 C2 _ _ hc1 hc2) ?_
        refine PW.funS rfl trivial sX2_96 rfl (by decide) rfl (c_low _) ?_
        rw [fnd_lse hc1 (hne m (by omega)) (by omega)]
        refine PW.ine rfl trivial (fun h46 => ?_) (fun h46 => ?_)
        · skip
          rw [ob_nn] at h46
          obtain ⟨b, hb⟩ := Option.ne_none_iff_exists'.mp h46
          have hb2 := (fnd_some.mp hb).1
          have eb : ob (fnd (fun x => decide (d2 x = ch m) && mayh w (w * h) d2 x (ch (m + 1))) (w * h)) = nI b := by rw [hb]; rfl
          have e5 : pas w (w * h) ch (m + 1) d2 = ((pas w (w * h) ch m (set1 d2 b (ch (m + 1)))).1 + 1, (pas w (w * h) ch m (set1 d2 b (ch (m + 1)))).2) := by simp only [pas, hb]
          rw [e5] at ht1 ht2
          rw [eb]
          refine PW.callV rfl trivial sX2_99 rfl rfl (by decide) rfl (show PC X l mX5_put 0 [.ref 4, .long ((1 : Int64) <<< ((nI b).toInt64 &&& 63)), .int (M2.1 13 (nI m + 1).toNatClampNeg)] G0 M2 (fun v M3 => v = none ∧ FC [] [5] M2 M3 ∧ Sh 5 (set1 d2 b (ch (m + 1))) M3) from by rw [nI_1, nI_clamp (by omega), ec2, mk_bit (by omega), ← put_1]; exact c_put4 _ _ (by omega) hS) (fun v61 M61 hq61 => ?_)
          obtain ⟨rfl, hF3, hS3⟩ := hq61
          refine PW.goto rfl trivial ?_
          rw [nI_1, ← Int32.sub_eq_add_neg]
          refine PW.nl [4, 5] ?_
          exact ih m (cnt + 1) _ _ (by omega) (wf_set1 Hw2 hb2 (by omega)) (hF.tr hF3) hS3 (by dsimp only at ht1; omega) ht2 (by omega)
        · skip
          rw [ob_nn] at h46
          have e5 : pas w (w * h) ch (m + 1) d2 = (0, d2) := by simp only [pas, h46]
          rw [e5] at ht1 ht2
          have hend : cnt = (pas w (w * h) ch m0 dr).1 ∧ d2 = (pas w (w * h) ch m0 dr).2 := ⟨by simpa using ht1, ht2⟩
          refine PW.iret rfl rfl trivial ?_
          obtain ⟨e1, e2⟩ := hend
          exact ⟨by rw [e1], hF, by rw [← e2]; exact hS⟩
  refine PW.mmin rfl trivial sX2_86 (by decide) rfl ?_
  refine PW.to 11 rfl trivial ?_
  rw [if_neg (fun q => by rw [show (6 : Int32) = nI 6 from rfl, nI_ltI (by omega) (by omega)] at q; omega)]
  refine PW.lc ?_ (loop11 (m0 + 1) m0 0 dr M (Nat.le_refl _) F.1 FC.rf C.2.2.1 (Nat.zero_add _) rfl (by omega))
  rw [nI_m2 (by omega), Nat.add_sub_cancel]; rfl
end C5
