-- made by wip/whole/mk_m6.py
section M6
variable {X : Cx} {l : Launch} {M : Mem}
theorem ob_nn {p : Nat → Bool} {n : Nat} (hn : n ≤ 36 := by omega) : ob (fnd p n) = -9 ↔ fnd p n = none := by
  cases e : fnd p n with
  | none => simp [ob]
  | some b =>
    have hb := (fnd_some.mp e).1
    simp only [ob, reduceCtorEq, iff_false]
    intro e
    have e2 := congrArg Int32.toInt e
    rw [nI_t (by omega)] at e2
    simp at e2
theorem up36 {hh : Nat → Nat → Bool} {M : Mem} {a b : Nat} {y : Int32} (hx3 : ∀ x, x < 6 * a + b → M.1 36 x = bo (hh (x / 6) (x % 6))) (e : bo (hh a b) = vp_nar .boolean y) (hb : b < 6) (x : Nat) (hx : x < 6 * a + (b + 1)) : ((va_up M.1 36 (upd (M.1 36) (6 * a + b) (vp_nar .boolean y)), M.2) : Mem).1 36 x = bo (hh (x / 6) (x % 6)) := by
  by_cases q : x = 6 * a + b
  · subst q
    rw [up_s, show (6 * a + b) / 6 = a by omega, show (6 * a + b) % 6 = b by omega, e]
  · exact (up_n q).trans (hx3 x (by omega))
set_option maxHeartbeats 2000000 in
theorem m_linked {w h : Nat} {mp dr : Nat → Nat} (Hw : Wf w h mp dr) (H : WM w h mp dr M) {hd : Nat → Nat} {wy : Nat} (Hd : Hf hd wy) (HH : HM hd wy M) : PC X l mX8_linked 5 [.ref 29] G0 M (fun v M' => v = some (.int (bo (cst (hnd w (w * h) dr) (hasless (w * h) dr (due hd wy (w * h - many mp 6 (w * h)))) (hasmore (w * h) dr (due hd wy (w * h - many mp 6 (w * h))))).isSome)) ∧ FJ [33, 34, 35, 36, 37, 43] M M' ∧ (∀ j, j < 6 → M'.1 33 j = nI ((due hd wy (w * h - many mp 6 (w * h))) j)) ∧ (∀ s, cst (hnd w (w * h) dr) (hasless (w * h) dr (due hd wy (w * h - many mp 6 (w * h)))) (hasmore (w * h) dr (due hd wy (w * h - many mp 6 (w * h)))) = some s → M'.1 29 12 = nI (dn (hnd w (w * h) dr) (hasless (w * h) dr (due hd wy (w * h - many mp 6 (w * h)))) 7 s) ∧ ∀ i, i < dn (hnd w (w * h) dr) (hasless (w * h) dr (due hd wy (w * h - many mp 6 (w * h)))) 7 s → M'.1 37 i = nI (chn (hnd w (w * h) dr) (hasless (w * h) dr (due hd wy (w * h - many mp 6 (w * h)))) s i))) := by
  refine PC.ofW okX8_linked ?_
  have hn := Hw.n
  obtain ⟨n, en⟩ : ∃ n, n = w * h := ⟨_, rfl⟩
  obtain ⟨du, edu⟩ : ∃ du, du = due hd wy (w * h - many mp 6 (w * h)) := ⟨_, rfl⟩
  have hdu : ∀ j, j < 6 → du j < 2 ^ 30 := fun j hj => by rw [edu]; exact due_lt Hd (by omega) hj
  rw [← edu]
  obtain ⟨hh, ehh⟩ : ∃ hh, hh = hnd w (w * h) dr := ⟨_, rfl⟩
  obtain ⟨T, eT⟩ : ∃ T, T = hasless (w * h) dr du := ⟨_, rfl⟩
  obtain ⟨mr, emr⟩ : ∃ mr, mr = hasmore (w * h) dr du := ⟨_, rfl⟩
  rw [← ehh, ← eT, ← emr]
  have hml : ∀ j, many dr j (w * h) ≤ 36 := fun j => by have := many_le dr j (w * h); omega
  have loop304 : ∀ k : Nat, ∀ (s i : Nat) (M3 : Mem), cst hh T mr = some s → i < dn hh T 7 s → FJ [33, 34, 35, 36, 37, 43] M M3 → (∀ j, j < 6 → M3.1 33 j = nI (du j)) → (∀ x, x < 36 → M3.1 36 x = bo (hh (x / 6) (x % 6))) → (∀ j, j < 6 → M3.1 43 j = nI (dn hh T 1000000000 j)) → M3.1 29 12 = nI (i + 1) → (∀ j, j ≤ i → M3.1 37 j = nI (chn hh T s j)) → dn hh T 7 s - i < k → PW X l mX8_linked 5 (fun v M' => v = some (.int (bo (cst hh T mr).isSome)) ∧ FJ [33, 34, 35, 36, 37, 43] M M' ∧ (∀ j, j < 6 → M'.1 33 j = nI (du j)) ∧ (∀ s, cst hh T mr = some s → M'.1 29 12 = nI (dn hh T 7 s) ∧ ∀ i, i < dn hh T 7 s → M'.1 37 i = nI (chn hh T s i))) 304 [.ref 29, .int (nI (chn hh T s i)), .null, .null] [] G0 M3 := by
    intro k
    induction k with
    | zero => intro s i M3 hs hi hF hz hx hl hli hch hk; exact absurd hk (Nat.not_lt_zero _)
    | succ k ih =>
      intro s i M3 hs hi hF hz hx hl hli hch hk
      have hcs := cst_ism hh T mr
      rw [hs] at hcs
      have hs6 := hcs.2.1
      have hsd : dn hh T 7 s ≤ 6 := by have := hcs.2.2.1; simp at this; exact this.2
      obtain ⟨ha6, had⟩ := chn_ok hs6 hsd i hi
      have eA := dn_F hh T 1000000000 (chn hh T s i)
      rw [if_pos (by omega)] at eA
      have loop319 : ∀ k319 : Nat, ∀ (b : Nat) (o : Option Nat), b ≤ 6 → 2 ≤ dn hh T 7 (chn hh T s i) → IsF (fun x => hh (chn hh T s i) x && decide (dn hh T 7 x + 1 = dn hh T 7 (chn hh T s i))) b o → b < k319 → PW X l mX8_linked 5 (fun v M' => v = some (.int (bo (cst hh T mr).isSome)) ∧ FJ [33, 34, 35, 36, 37, 43] M M' ∧ (∀ j, j < 6 → M'.1 33 j = nI (du j)) ∧ (∀ s, cst hh T mr = some s → M'.1 29 12 = nI (dn hh T 7 s) ∧ ∀ i, i < dn hh T 7 s → M'.1 37 i = nI (chn hh T s i))) 319 [.ref 29, .int (nI (chn hh T s i)), .int (ob o), .int (nI b - 1)] [] G0 M3 := by
        intro k319
        induction k319 with
        | zero => intro b o hb h2d ho hk3; exact absurd hk3 (Nat.not_lt_zero _)
        | succ k319 ih319 =>
          intro b o hb h2d ho hk3
          refine PW.zlt rfl trivial (fun h320 => ?_) (fun h320 => ?_)
          · skip
            have e0 : b = 0 := by
              rcases Nat.eq_zero_or_pos b with z | z
              · exact z
              · rw [nI_m1 z] at h320; exact absurd h320 (nI_pos (by omega))
            subst e0
            obtain ⟨nb, e1, nb6, -, -⟩ := cnx_some (h := hh) (T := T) ha6 h2d (by omega)
            have e2 : o = some nb := by rw [← e1]; exact (ho.fnd).symm
            subst e2
            have eb2 : ob (some nb) = nI nb := rfl
            rw [eb2]
            have ec : chn hh T s (i + 1) = nb := by simp only [chn, e1, Option.getD_some]
            refine PW.goto rfl ⟨trivial, (by rw [hli]; exact vp_in_nI (by omega) (by decide))⟩ ?_
            rw [hli, nI_clamp (by omega), ← ec]
            refine PW.nl [2, 3] ?_
            refine ih s (i + 1) _ hs (by omega) ((hF.put (by decide)).th (Or.inr rfl)) (fun j hj => hz j hj) (fun x h1 => hx x h1) (fun j hj => hl j hj) ?_ (fun j hj => ?_) (by omega)
            · rw [up_s]
              show M3.1 29 12 + 1 = _
              rw [hli, nI_1]
            · show (va_up M3.1 37 _) 37 j = _
              by_cases q : j = i + 1
              · subst q; exact up_same
              · exact (up_ne q).trans (hch j (by omega))
          · skip
            have hb0 : 0 < b := by
              rcases Nat.eq_zero_or_pos b with z | z
              · subst z; exact absurd (by decide) h320
              · exact z
            obtain ⟨b, rfl⟩ : ∃ j, b = j + 1 := ⟨b - 1, by omega⟩
            rw [nI_m1 (by omega), Nat.add_sub_cancel]
            have hst := ho.step (by omega)
            have eB := dn_F hh T 1000000000 b
            have hB9 := dn_le (h := hh) (T := T) (F := 1000000000) (a := b) (by decide)
            refine PW.zeq rfl ⟨trivial, (by rw [show (6 : Int32) = nI 6 from rfl, pk_mul, nI_add]; exact vp_in_nI (by omega) (by decide))⟩ (fun h334 => ?_) (fun h334 => ?_)
            · skip
              rw [show (6 : Int32) = nI 6 from rfl, pk_mul, nI_add, nI_clamp (by omega), hx _ (by omega), show (6 * chn hh T s i + b) / 6 = chn hh T s i by omega, show (6 * chn hh T s i + b) % 6 = b by omega, bo_eq] at h334
              have hst2 : IsF (fun x => hh (chn hh T s i) x && decide (dn hh T 7 x + 1 = dn hh T 7 (chn hh T s i))) b o := by rw [if_neg (by rw [h334]; simp)] at hst; exact hst
              refine PW.goto rfl trivial ?_
              rw [← Int32.sub_eq_add_neg]
              exact ih319 b _ (by omega) h2d hst2 (by omega)
            · skip
              rw [show (6 : Int32) = nI 6 from rfl, pk_mul, nI_add, nI_clamp (by omega), hx _ (by omega), show (6 * chn hh T s i + b) / 6 = chn hh T s i by omega, show (6 * chn hh T s i + b) % 6 = b by omega, bo_ne] at h334
              refine PW.ine rfl ⟨⟨trivial, vp_in_nI (by omega) (by decide)⟩, vp_in_nI (by omega) (by decide)⟩ (fun h351 => ?_) (fun h351 => ?_)
              · skip
                rw [nI_clamp (by omega), nI_clamp (by omega), hl b (by omega), hl _ ha6, eA, nI_m1 (by omega), nI_eq (by omega) (by omega)] at h351
                have hne : ¬ dn hh T 7 b + 1 = dn hh T 7 (chn hh T s i) := fun q => by rw [if_pos (by omega)] at eB; omega
                have hst2 : IsF (fun x => hh (chn hh T s i) x && decide (dn hh T 7 x + 1 = dn hh T 7 (chn hh T s i))) b o := by rw [if_neg (by simp [h334, hne])] at hst; exact hst
                refine PW.goto rfl trivial ?_
                rw [← Int32.sub_eq_add_neg]
                exact ih319 b _ (by omega) h2d hst2 (by omega)
              · skip
                rw [nI_clamp (by omega), nI_clamp (by omega), hl b (by omega), hl _ ha6, eA, nI_m1 (by omega), nI_eq (by omega) (by omega)] at h351
                have heq : dn hh T 7 b + 1 = dn hh T 7 (chn hh T s i) := by
                  by_cases q : dn hh T 7 b ≤ 6
                  · rw [if_pos q] at eB; omega
                  · rw [if_neg q] at eB; omega
                have hst2 : IsF (fun x => hh (chn hh T s i) x && decide (dn hh T 7 x + 1 = dn hh T 7 (chn hh T s i))) b (some b) := by rw [if_pos (by simp [h334, heq])] at hst; exact hst
                refine PW.goto rfl trivial ?_
                refine PW.goto rfl trivial ?_
                rw [← Int32.sub_eq_add_neg]
                exact ih319 b _ (by omega) h2d hst2 (by omega)
      refine PW.ile rfl ⟨trivial, vp_in_nI (by omega) (by decide)⟩ (fun h311 => ?_) (fun h311 => ?_)
      · skip
        rw [nI_clamp (by omega), hl _ ha6, eA, show (1 : Int32) = nI 1 from rfl, nI_leI (by omega) (by omega)] at h311
        refine PW.zret rfl rfl trivial (rfl) ?_
        refine ⟨by rw [hs]; rfl, hF, hz, fun s2 q => ?_⟩
        have e2 : s = s2 := by rw [hs] at q; cases q; rfl
        subst e2
        exact ⟨by rw [hli]; congr 1; omega, fun j hj => hch j (by omega)⟩
      · skip
        rw [nI_clamp (by omega), hl _ ha6, eA, show (1 : Int32) = nI 1 from rfl, nI_leI (by omega) (by omega)] at h311
        refine PW.to 319 rfl trivial ?_
        refine PW.lc ?_ (loop319 7 6 none (by omega) (by omega) (fun j h1 h2 => absurd h2 (by omega)) (by omega))
        rw [show nI 6 - 1 = 5 by decide]; rfl
  have loop206 : ∀ k : Nat, ∀ (i : Nat) (o : Option Nat) (M2 : Mem), i ≤ 6 → FJ [33, 34, 35, 36, 37, 43] M M2 → (∀ j, j < 6 → M2.1 33 j = nI (du j)) → (∀ x, x < 36 → M2.1 36 x = bo (hh (x / 6) (x % 6))) → (∀ j, j < 6 → M2.1 43 j = nI (dn hh T 1000000000 j)) → IsM (dn hh T 7) (fun a => mr a && decide (dn hh T 7 a ≤ 6)) i o → i < k → PW X l mX8_linked 5 (fun v M' => v = some (.int (bo (cst hh T mr).isSome)) ∧ FJ [33, 34, 35, 36, 37, 43] M M' ∧ (∀ j, j < 6 → M'.1 33 j = nI (du j)) ∧ (∀ s, cst hh T mr = some s → M'.1 29 12 = nI (dn hh T 7 s) ∧ ∀ i, i < dn hh T 7 s → M'.1 37 i = nI (chn hh T s i))) 206 [.ref 29, .int (ob o), .int (nI i - 1), .null] [] G0 M2 := by
    intro k
    induction k with
    | zero => intro i o M2 hi hF hz hx hl ho hk; exact absurd hk (Nat.not_lt_zero _)
    | succ k ih =>
      intro i o M2 hi hF hz hx hl ho hk
      have hob : ∀ b, o = some b → b < 6 := fun b q => by subst q; exact ho.2.1
      have join241 : ∀ (i2 : Nat) (t : Bool), i = i2 + 1 → (mr i2 && decide (dn hh T 7 i2 ≤ 6)) = t → PW X l mX8_linked 5 (fun v M' => v = some (.int (bo (cst hh T mr).isSome)) ∧ FJ [33, 34, 35, 36, 37, 43] M M' ∧ (∀ j, j < 6 → M'.1 33 j = nI (du j)) ∧ (∀ s, cst hh T mr = some s → M'.1 29 12 = nI (dn hh T 7 s) ∧ ∀ i, i < dn hh T 7 s → M'.1 37 i = nI (chn hh T s i))) 241 [.ref 29, .int (ob o), .int (nI i2), .null] [.int (bo t)] G0 M2 := by
        intro i2 t ei ht
        subst ei
        have hst := ho.step (by omega)
        rw [ht] at hst
        have eD := dn_F hh T 1000000000 i2
        refine PW.zeq rfl trivial (fun h243 => ?_) (fun h243 => ?_)
        · skip
          rw [bo_eq] at h243
          subst h243
          have hst2 : IsM (dn hh T 7) (fun a => mr a && decide (dn hh T 7 a ≤ 6)) i2 o := by rw [if_neg (fun z => absurd z.1 (by decide))] at hst; exact hst
          refine PW.goto rfl trivial ?_
          rw [← Int32.sub_eq_add_neg]
          refine PW.nl [3] ?_
          exact ih i2 _ M2 (by omega) hF hz hx hl hst2 (by omega)
        · skip
          rw [bo_ne] at h243
          subst h243
          simp only [Bool.and_eq_true, decide_eq_true_eq] at ht
          rw [if_pos ht.2] at eD
          refine PW.ieq rfl trivial (fun h249 => ?_) (fun h249 => ?_)
          · skip
            rw [ob_none hob] at h249
            have hst2 : IsM (dn hh T 7) (fun a => mr a && decide (dn hh T 7 a ≤ 6)) i2 (some i2) := by rw [if_pos ⟨rfl, fun b q => by rw [h249] at q; cases q⟩] at hst; exact hst
            refine PW.goto rfl trivial ?_
            refine PW.goto rfl trivial ?_
            rw [← Int32.sub_eq_add_neg]
            refine PW.nl [3] ?_
            exact ih i2 _ M2 (by omega) hF hz hx hl hst2 (by omega)
          · skip
            rw [ob_none hob] at h249
            obtain ⟨b, hp⟩ := Option.ne_none_iff_exists'.mp h249
            have hb6 := hob b hp
            subst hp
            have eb2 : ob (some b) = nI b := rfl
            rw [eb2]
            have hbd : dn hh T 7 b ≤ 6 := by have := ho.2.2.1; simp at this; exact this.2
            have eB := dn_F hh T 1000000000 b
            rw [if_pos hbd] at eB
            refine PW.igt rfl ⟨⟨trivial, vp_in_nI (by omega) (by decide)⟩, vp_in_nI (by omega) (by decide)⟩ (fun h264 => ?_) (fun h264 => ?_)
            · skip
              rw [nI_clamp (by omega), nI_clamp (by omega), hl i2 (by omega), hl b hb6, eD, eB, nI_ltI (by omega) (by omega)] at h264
              have hst2 : IsM (dn hh T 7) (fun a => mr a && decide (dn hh T 7 a ≤ 6)) i2 (some b) := by rw [if_neg (fun z => by have := z.2 b rfl; omega)] at hst; exact hst
              refine PW.goto rfl trivial ?_
              rw [← Int32.sub_eq_add_neg]
              refine PW.nl [3] ?_
              exact ih i2 _ M2 (by omega) hF hz hx hl hst2 (by omega)
            · skip
              rw [nI_clamp (by omega), nI_clamp (by omega), hl i2 (by omega), hl b hb6, eD, eB, nI_ltI (by omega) (by omega)] at h264
              have hst2 : IsM (dn hh T 7) (fun a => mr a && decide (dn hh T 7 a ≤ 6)) i2 (some i2) := by rw [if_pos ⟨rfl, fun b2 q => by cases q; omega⟩] at hst; exact hst
              refine PW.goto rfl trivial ?_
              refine PW.goto rfl trivial ?_
              rw [← Int32.sub_eq_add_neg]
              refine PW.nl [3] ?_
              exact ih i2 _ M2 (by omega) hF hz hx hl hst2 (by omega)
      refine PW.zlt rfl trivial (fun h207 => ?_) (fun h207 => ?_)
      · skip
        have e0 : i = 0 := by
          rcases Nat.eq_zero_or_pos i with z | z
          · exact z
          · rw [nI_m1 z] at h207; exact absurd h207 (nI_pos (by omega))
        subst e0
        have eo : o = cst hh T mr := ho.one (cst_ism hh T mr)
        subst eo
        refine PW.ine rfl trivial (fun h287 => ?_) (fun h287 => ?_)
        · skip
          rw [ob_none hob] at h287
          obtain ⟨s, hp⟩ := Option.ne_none_iff_exists'.mp h287
          have eb2 : ob (some s) = nI s := rfl
          have hs6 := hob s hp
          refine PW.lc (L' := [.ref 29, .int (nI s), .int (nI 0 - 1), .null]) (by rw [hp]; rfl) ?_
          refine PW.to 304 rfl ⟨trivial, vp_in_nI (n := 0) (by decide) (by decide)⟩ ?_
          refine PW.nl [2, 3] ?_
          have hd1 := dn_pos (h := hh) (T := T) (F := 7) (a := s) (by decide)
          refine loop304 (dn hh T 7 s + 1) s 0 _ hp hd1 ?_ ?_ ?_ ?_ ?_ (fun j hj => ?_) (by omega)
          · exact ((hF.th (Or.inr rfl)).put (by decide)).th (Or.inr rfl)
          · exact fun j hj => hz j hj
          · exact fun x h1 => hx x h1
          · exact fun j hj => hl j hj
          · exact up_s
          · rw [show j = 0 by omega]
            have e0 : Int32.toNatClampNeg 0 = 0 := by decide
            simp [va_up, upd, chn, e0]
        · skip
          rw [ob_none hob] at h287
          refine PW.zret rfl rfl trivial (rfl) ?_
          exact ⟨by rw [h287]; rfl, hF.th (Or.inr rfl), fun j hj => hz j hj, fun s q => by rw [h287] at q; cases q⟩
      · skip
        have hi0 : 0 < i := by
          rcases Nat.eq_zero_or_pos i with z | z
          · subst z; exact absurd (by decide) h207
          · exact z
        obtain ⟨i, rfl⟩ : ∃ j, i = j + 1 := ⟨i - 1, by omega⟩
        rw [nI_m1 (by omega), Nat.add_sub_cancel]
        have hdi := hdu i (by omega)
        have hm := hml i
        have hst := ho.step (by omega)
        have eD := dn_F hh T 1000000000 i
        refine PW.funV rfl trivial sX8_106 rfl rfl (by decide) rfl (m_manyOf 1 i (by omega) Hw (H.fj hF)) ?_
        rw [show sl 1 mp dr = dr from rfl]
        refine PW.ile rfl ⟨trivial, vp_in_nI (by omega) (by decide)⟩ (fun h222 => ?_) (fun h222 => ?_)
        · skip
          rw [nI_clamp (by omega), hz i (by omega), nI_leI (by omega) (by omega)] at h222
          have hok : (mr i && decide (dn hh T 7 i ≤ 6)) = false := by rw [emr]; simp [hasmore]; omega
          refine PW.to 241 rfl trivial ?_
          exact join241 i false rfl hok
        · skip
          rw [nI_clamp (by omega), hz i (by omega), nI_leI (by omega) (by omega)] at h222
          have hmr : mr i = true := by rw [emr]; simp [hasmore]; omega
          refine PW.ige rfl ⟨trivial, vp_in_nI (by omega) (by decide)⟩ (fun h233 => ?_) (fun h233 => ?_)
          · skip
            rw [nI_clamp (by omega), hl i (by omega), show (1000000000 : Int32) = nI 1000000000 from rfl, nI_leI (by omega) (by rw [eD]; split <;> omega)] at h233
            have hok : (mr i && decide (dn hh T 7 i ≤ 6)) = false := by
              have : ¬ dn hh T 7 i ≤ 6 := fun q => by rw [if_pos q] at eD; omega
              simp [this]
            refine PW.to 241 rfl trivial ?_
            exact join241 i false rfl hok
          · skip
            rw [nI_clamp (by omega), hl i (by omega), show (1000000000 : Int32) = nI 1000000000 from rfl, nI_leI (by omega) (by rw [eD]; split <;> omega)] at h233
            have hd6 : dn hh T 7 i ≤ 6 := by
              by_cases q : dn hh T 7 i ≤ 6
              · exact q
              · rw [if_neg q] at eD; omega
            rw [if_pos hd6] at eD
            have hok : (mr i && decide (dn hh T 7 i ≤ 6)) = true := by simp [hmr, hd6]
            refine PW.goto rfl trivial ?_
            exact join241 i true rfl hok
  have loop107 : ∀ k : Nat, ∀ (r : Nat) (est : Nat → Nat) (M2 : Mem), r ≤ 6 → FJ [33, 34, 35, 36, 37, 43] M M2 → (∀ j, j < 6 → M2.1 33 j = nI (du j)) → (∀ x, x < 36 → M2.1 36 x = bo (hh (x / 6) (x % 6))) → (∀ j, j < 6 → M2.1 43 j = nI (est j)) → Rx hh T 1000000000 est r 0 0 → 6 - r < k → PW X l mX8_linked 5 (fun v M' => v = some (.int (bo (cst hh T mr).isSome)) ∧ FJ [33, 34, 35, 36, 37, 43] M M' ∧ (∀ j, j < 6 → M'.1 33 j = nI (du j)) ∧ (∀ s, cst hh T mr = some s → M'.1 29 12 = nI (dn hh T 7 s) ∧ ∀ i, i < dn hh T 7 s → M'.1 37 i = nI (chn hh T s i))) 107 [.ref 29, .int (nI r), .null, .null] [] G0 M2 := by
    intro k
    induction k with
    | zero => intro r est M2 hr hF hz hx hl hR hk; exact absurd hk (Nat.not_lt_zero _)
    | succ k ih =>
      intro r est M2 hr hF hz hx hl hR hk
      have loop115 : ∀ k115 : Nat, ∀ (a : Nat) (est : Nat → Nat) (M2 : Mem), r < 6 → a ≤ 6 → FJ [33, 34, 35, 36, 37, 43] M M2 → (∀ j, j < 6 → M2.1 33 j = nI (du j)) → (∀ x, x < 36 → M2.1 36 x = bo (hh (x / 6) (x % 6))) → (∀ j, j < 6 → M2.1 43 j = nI (est j)) → Rx hh T 1000000000 est r a 0 → 6 - a < k115 → PW X l mX8_linked 5 (fun v M' => v = some (.int (bo (cst hh T mr).isSome)) ∧ FJ [33, 34, 35, 36, 37, 43] M M' ∧ (∀ j, j < 6 → M'.1 33 j = nI (du j)) ∧ (∀ s, cst hh T mr = some s → M'.1 29 12 = nI (dn hh T 7 s) ∧ ∀ i, i < dn hh T 7 s → M'.1 37 i = nI (chn hh T s i))) 115 [.ref 29, .int (nI r), .int (nI a), .null] [] G0 M2 := by
        intro k115
        induction k115 with
        | zero => intro a est M2 hr6 ha hF hz hx hl hR hk2; exact absurd hk2 (Nat.not_lt_zero _)
        | succ k115 ih115 =>
          intro a est M2 hr6 ha hF hz hx hl hR hk2
          have loop123 : ∀ k123 : Nat, ∀ (b : Nat) (est : Nat → Nat) (M2 : Mem), a < 6 → b ≤ 6 → FJ [33, 34, 35, 36, 37, 43] M M2 → (∀ j, j < 6 → M2.1 33 j = nI (du j)) → (∀ x, x < 36 → M2.1 36 x = bo (hh (x / 6) (x % 6))) → (∀ j, j < 6 → M2.1 43 j = nI (est j)) → Rx hh T 1000000000 est r a b → 6 - b < k123 → PW X l mX8_linked 5 (fun v M' => v = some (.int (bo (cst hh T mr).isSome)) ∧ FJ [33, 34, 35, 36, 37, 43] M M' ∧ (∀ j, j < 6 → M'.1 33 j = nI (du j)) ∧ (∀ s, cst hh T mr = some s → M'.1 29 12 = nI (dn hh T 7 s) ∧ ∀ i, i < dn hh T 7 s → M'.1 37 i = nI (chn hh T s i))) 123 [.ref 29, .int (nI r), .int (nI a), .int (nI b)] [] G0 M2 := by
            intro k123
            induction k123 with
            | zero => intro b est M2 ha6 hb hF hz hx hl hR hk3; exact absurd hk3 (Nat.not_lt_zero _)
            | succ k123 ih123 =>
              intro b est M2 ha6 hb hF hz hx hl hR hk3
              refine PW.ige rfl trivial (fun h126 => ?_) (fun h126 => ?_)
              · skip
                rw [i6 (by omega)] at h126
                have e9 : b = 6 := by omega
                subst e9
                refine PW.goto rfl trivial ?_
                rw [nI_1]
                refine PW.nl [3] ?_
                exact ih115 (a + 1) est M2 hr6 (by omega) hF hz hx hl (hR.row (by decide) ha6) (by omega)
              · skip
                rw [i6 (by omega)] at h126
                have ea := (hR.1 a ha6).2
                have eb := (hR.1 b (by omega)).2
                refine PW.zeq rfl ⟨trivial, (by rw [show (6 : Int32) = nI 6 from rfl, pk_mul, nI_add]; exact vp_in_nI (by omega) (by decide))⟩ (fun h145 => ?_) (fun h145 => ?_)
                · skip
                  rw [show (6 : Int32) = nI 6 from rfl, pk_mul, nI_add, nI_clamp (by omega), hx _ (by omega), show (6 * a + b) / 6 = a by omega, show (6 * a + b) % 6 = b by omega, bo_eq] at h145
                  refine PW.goto rfl ⟨⟨trivial, vp_in_nI (by omega) (by decide)⟩, vp_in_nI (by omega) (by decide)⟩ ?_
                  rw [nI_clamp (by omega), hl a ha6]
                  rw [nI_1]
                  refine ih123 (b + 1) (fun j => if j = a ∧ hh a b = true ∧ est b + 1 < est a then est b + 1 else est j) _ ha6 (by omega) (hF.put (by decide)) (fun j hj => hz j hj) (fun x h1 => hx x h1) (fun j hj => ?_) (hR.col (by decide) ha6 (by omega)) (by omega)
                  dsimp only
                  by_cases q : j = a
                  · subst q; rw [up_same]
                    first | (rw [if_neg (fun z => by rw [h145] at z; exact absurd z.2.1 (by decide))]) | (rw [if_neg (fun z => by omega)])
                  · rw [if_neg (fun z => q z.1)]; exact (up_ne q).trans (hl j hj)
                · skip
                  rw [show (6 : Int32) = nI 6 from rfl, pk_mul, nI_add, nI_clamp (by omega), hx _ (by omega), show (6 * a + b) / 6 = a by omega, show (6 * a + b) % 6 = b by omega, bo_ne] at h145
                  refine PW.ige rfl ⟨⟨trivial, vp_in_nI (by omega) (by decide)⟩, vp_in_nI (by omega) (by decide)⟩ (fun h162 => ?_) (fun h162 => ?_)
                  · skip
                    rw [nI_clamp (by omega), nI_clamp (by omega), hl a ha6, hl b (by omega), nI_1, nI_leI (by omega) (by omega)] at h162
                    refine PW.goto rfl ⟨⟨trivial, vp_in_nI (by omega) (by decide)⟩, vp_in_nI (by omega) (by decide)⟩ ?_
                    rw [nI_clamp (by omega), hl a ha6]
                    rw [nI_1]
                    refine ih123 (b + 1) (fun j => if j = a ∧ hh a b = true ∧ est b + 1 < est a then est b + 1 else est j) _ ha6 (by omega) (hF.put (by decide)) (fun j hj => hz j hj) (fun x h1 => hx x h1) (fun j hj => ?_) (hR.col (by decide) ha6 (by omega)) (by omega)
                    dsimp only
                    by_cases q : j = a
                    · subst q; rw [up_same]
                      first | (rw [if_neg (fun z => by rw [h145] at z; exact absurd z.2.1 (by decide))]) | (rw [if_neg (fun z => by omega)])
                    · rw [if_neg (fun z => q z.1)]; exact (up_ne q).trans (hl j hj)
                  · skip
                    rw [nI_clamp (by omega), nI_clamp (by omega), hl a ha6, hl b (by omega), nI_1, nI_leI (by omega) (by omega)] at h162
                    refine PW.goto rfl ⟨trivial, vp_in_nI (by omega) (by decide)⟩ ?_
                    refine PW.goto rfl ⟨trivial, vp_in_nI (by omega) (by decide)⟩ ?_
                    rw [nI_clamp (by omega), nI_clamp (by omega), hl b (by omega), nI_1]
                    rw [nI_1]
                    refine ih123 (b + 1) (fun j => if j = a ∧ hh a b = true ∧ est b + 1 < est a then est b + 1 else est j) _ ha6 (by omega) (hF.put (by decide)) (fun j hj => hz j hj) (fun x h1 => hx x h1) (fun j hj => ?_) (hR.col (by decide) ha6 (by omega)) (by omega)
                    dsimp only
                    by_cases q : j = a
                    · subst q; rw [up_same]
                      rw [if_pos ⟨rfl, h145, by omega⟩]
                    · rw [if_neg (fun z => q z.1)]; exact (up_ne q).trans (hl j hj)
          refine PW.ige rfl trivial (fun h118 => ?_) (fun h118 => ?_)
          · skip
            rw [i6 (by omega)] at h118
            have e9 : a = 6 := by omega
            subst e9
            refine PW.goto rfl trivial ?_
            rw [nI_1]
            refine PW.nl [2] ?_
            exact ih (r + 1) est M2 (by omega) hF hz hx hl hR.round (by omega)
          · skip
            rw [i6 (by omega)] at h118
            refine PW.to 123 rfl trivial ?_
            exact loop123 7 0 est M2 (by omega) (by omega) hF hz hx hl hR (by omega)
      refine PW.ige rfl trivial (fun h110 => ?_) (fun h110 => ?_)
      · skip
        rw [i6 (by omega)] at h110
        have e9 : r = 6 := by omega
        subst e9
        refine PW.to 206 rfl trivial ?_
        refine PW.nl [3] ?_
        refine PW.lc ?_ (loop206 7 6 none M2 (by omega) hF hz hx (fun j hj => by rw [hl j hj, hR.done (by omega) j hj]) (fun j h1 h2 => absurd h2 (by omega)) (by omega))
        rw [show nI 6 - 1 = 5 by decide]; rfl
      · skip
        rw [i6 (by omega)] at h110
        refine PW.to 115 rfl trivial ?_
        exact loop115 7 0 est M2 (by omega) (by omega) hF hz hx hl hR (by omega)
  have loop66 : ∀ k : Nat, ∀ (i : Nat) (M2 : Mem), i ≤ 6 → FJ [33, 34, 35, 36, 37, 43] M M2 → (∀ j, j < 6 → M2.1 33 j = nI (du j)) → (∀ x, x < 36 → M2.1 36 x = bo (hh (x / 6) (x % 6))) → (∀ j, j < i → M2.1 43 j = nI (if T j = true then 1 else 1000000000)) → 6 - i < k → PW X l mX8_linked 5 (fun v M' => v = some (.int (bo (cst hh T mr).isSome)) ∧ FJ [33, 34, 35, 36, 37, 43] M M' ∧ (∀ j, j < 6 → M'.1 33 j = nI (du j)) ∧ (∀ s, cst hh T mr = some s → M'.1 29 12 = nI (dn hh T 7 s) ∧ ∀ i, i < dn hh T 7 s → M'.1 37 i = nI (chn hh T s i))) 66 [.ref 29, .int (nI i), .null, .null] [] G0 M2 := by
    intro k
    induction k with
    | zero => intro i M2 hi hF hz hx hl hk; exact absurd hk (Nat.not_lt_zero _)
    | succ k ih =>
      intro i M2 hi hF hz hx hl hk
      refine PW.ige rfl trivial (fun h69 => ?_) (fun h69 => ?_)
      · skip
        rw [i6 (by omega)] at h69
        have e9 : i = 6 := by omega
        subst e9
        refine PW.to 107 rfl trivial ?_
        exact loop107 7 0 (fun j => if T j = true then 1 else 1000000000) M2 (by omega) hF hz hx hl (Rx.start (by decide)) (by omega)
      · skip
        rw [i6 (by omega)] at h69
        refine PW.funV rfl trivial sX8_106 rfl rfl (by decide) rfl (m_manyOf 1 i (by omega) Hw (H.fj hF)) ?_
        rw [show sl 1 mp dr = dr from rfl]
        have hm := hml i
        have hdi := hdu i (by omega)
        refine PW.ige rfl ⟨trivial, vp_in_nI (by omega) (by decide)⟩ (fun h89 => ?_) (fun h89 => ?_)
        · skip
          rw [nI_clamp (by omega), hz i (by omega), nI_leI (by omega) (by omega)] at h89
          have eT2 : ¬ T i = true := by rw [eT]; simp [hasless]; omega
          refine PW.goto rfl ⟨trivial, vp_in_nI (by omega) (by decide)⟩ ?_
          rw [nI_clamp (by omega), nI_1]
          refine ih (i + 1) _ (by omega) (hF.put (by decide)) (fun j hj => hz j hj) (fun x h1 => hx x h1) (fun j hj => ?_) (by omega)
          by_cases q : j = i
          · subst q; rw [up_s]; first | (rw [if_pos eT2]; rfl) | (rw [if_neg eT2]; rfl)
          · exact (up_n q).trans (hl j (by omega))
        · skip
          rw [nI_clamp (by omega), hz i (by omega), nI_leI (by omega) (by omega)] at h89
          have eT2 : T i = true := by rw [eT]; simp [hasless]; omega
          refine PW.goto rfl trivial ?_
          refine PW.goto rfl ⟨trivial, vp_in_nI (by omega) (by decide)⟩ ?_
          rw [nI_clamp (by omega), nI_1]
          refine ih (i + 1) _ (by omega) (hF.put (by decide)) (fun j hj => hz j hj) (fun x h1 => hx x h1) (fun j hj => ?_) (by omega)
          by_cases q : j = i
          · subst q; rw [up_s]; first | (rw [if_pos eT2]; rfl) | (rw [if_neg eT2]; rfl)
          · exact (up_n q).trans (hl j (by omega))
  have loop6 : ∀ k : Nat, ∀ (a : Nat) (M2 : Mem), a ≤ 6 → FJ [33, 34, 35, 36, 37, 43] M M2 → (∀ j, j < 6 → M2.1 33 j = nI (du j)) → (∀ x, x < 6 * a → M2.1 36 x = bo (hh (x / 6) (x % 6))) → 6 - a < k → PW X l mX8_linked 5 (fun v M' => v = some (.int (bo (cst hh T mr).isSome)) ∧ FJ [33, 34, 35, 36, 37, 43] M M' ∧ (∀ j, j < 6 → M'.1 33 j = nI (du j)) ∧ (∀ s, cst hh T mr = some s → M'.1 29 12 = nI (dn hh T 7 s) ∧ ∀ i, i < dn hh T 7 s → M'.1 37 i = nI (chn hh T s i))) 6 [.ref 29, .int (nI a), .null, .null] [] G0 M2 := by
    intro k
    induction k with
    | zero => intro a M2 ha hF hz hx hk; exact absurd hk (Nat.not_lt_zero _)
    | succ k ih =>
      intro a M2 ha hF hz hx hk
      have loop14 : ∀ k14 : Nat, ∀ (b : Nat) (M3 : Mem), a < 6 → b ≤ 6 → FJ [33, 34, 35, 36, 37, 43] M M3 → (∀ j, j < 6 → M3.1 33 j = nI (du j)) → (∀ x, x < 6 * a + b → M3.1 36 x = bo (hh (x / 6) (x % 6))) → 6 - b < k14 → PW X l mX8_linked 5 (fun v M' => v = some (.int (bo (cst hh T mr).isSome)) ∧ FJ [33, 34, 35, 36, 37, 43] M M' ∧ (∀ j, j < 6 → M'.1 33 j = nI (du j)) ∧ (∀ s, cst hh T mr = some s → M'.1 29 12 = nI (dn hh T 7 s) ∧ ∀ i, i < dn hh T 7 s → M'.1 37 i = nI (chn hh T s i))) 14 [.ref 29, .int (nI a), .int (nI b), .null] [] G0 M3 := by
        intro k14
        induction k14 with
        | zero => intro b M3 ha6 hb hF3 hz3 hx3 hk3; exact absurd hk3 (Nat.not_lt_zero _)
        | succ k14 ih14 =>
          intro b M3 ha6 hb hF3 hz3 hx3 hk3
          refine PW.ige rfl trivial (fun h17 => ?_) (fun h17 => ?_)
          · skip
            rw [i6 (by omega)] at h17
            have e9 : b = 6 := by omega
            subst e9
            refine PW.goto rfl trivial ?_
            rw [nI_1]
            refine PW.nl [2] ?_
            exact ih (a + 1) M3 (by omega) hF3 hz3 (fun x hx => hx3 x (by omega)) (by omega)
          · skip
            rw [i6 (by omega)] at h17
            refine PW.ieq rfl trivial (fun h32 => ?_) (fun h32 => ?_)
            · skip
              rw [nI_eq (by omega) (by omega)] at h32
              have ebf : bo (hh a b) = 0 := by rw [ehh]; simp [hnd, h32, bo]
              have hF5 := hF3
              have hz5 := hz3
              have hx5 := hx3
              refine PW.goto rfl ⟨trivial, (by rw [show (6 : Int32) = nI 6 from rfl, pk_mul, nI_add]; exact vp_in_nI (by omega) (by decide))⟩ ?_
              rw [show (6 : Int32) = nI 6 from rfl, pk_mul, nI_add, nI_clamp (by omega), nI_1]
              exact ih14 (b + 1) _ ha6 (by omega) (hF5.put (by decide)) (fun j hj => hz5 j hj) (fun x hx => up36 (y := 0) hx5 ebf (by omega) x hx) (by omega)
            · skip
              rw [nI_eq (by omega) (by omega)] at h32
              refine PW.callV rfl trivial sX8_150 rfl rfl (by decide) rfl (m_leastTo Hw (H.fj hF3) a b (by omega) (by omega)) (fun v38 M38 hq38 => ?_)
              obtain ⟨rfl, hF4⟩ := hq38
              have hF5 := hF3.tr (hF4.fj (by decide))
              have hz5 : ∀ j, j < 6 → M38.1 33 j = nI (du j) := fun j hj => by rw [hF4.at 33]; exact hz3 j hj
              have hx5 : ∀ x, x < 6 * a + b → M38.1 36 x = bo (hh (x / 6) (x % 6)) := fun x hx => by rw [hF4.at 36]; exact hx3 x hx
              refine PW.ieq rfl trivial (fun h43 => ?_) (fun h43 => ?_)
              · skip
                rw [ob_nn] at h43
                have ebf : bo (hh a b) = 0 := by rw [ehh]; simp [hnd, h43, bo]
                refine PW.goto rfl ⟨trivial, (by rw [show (6 : Int32) = nI 6 from rfl, pk_mul, nI_add]; exact vp_in_nI (by omega) (by decide))⟩ ?_
                rw [show (6 : Int32) = nI 6 from rfl, pk_mul, nI_add, nI_clamp (by omega), nI_1]
                exact ih14 (b + 1) _ ha6 (by omega) (hF5.put (by decide)) (fun j hj => hz5 j hj) (fun x hx => up36 (y := 0) hx5 ebf (by omega) x hx) (by omega)
              · skip
                rw [ob_nn] at h43
                have ebt : bo (hh a b) = 1 := by
                  obtain ⟨c, hc⟩ := Option.ne_none_iff_exists'.mp h43
                  rw [ehh]; simp [hnd, h32, hc, bo]
                refine PW.goto rfl trivial ?_
                refine PW.goto rfl ⟨trivial, (by rw [show (6 : Int32) = nI 6 from rfl, pk_mul, nI_add]; exact vp_in_nI (by omega) (by decide))⟩ ?_
                rw [show (6 : Int32) = nI 6 from rfl, pk_mul, nI_add, nI_clamp (by omega), nI_1]
                exact ih14 (b + 1) _ ha6 (by omega) (hF5.put (by decide)) (fun j hj => hz5 j hj) (fun x hx => up36 (y := 1) hx5 ebt (by omega) x hx) (by omega)
      refine PW.ige rfl trivial (fun h9 => ?_) (fun h9 => ?_)
      · skip
        rw [i6 (by omega)] at h9
        have e9 : a = 6 := by omega
        subst e9
        refine PW.to 66 rfl trivial ?_
        refine PW.nl [2, 3] ?_
        exact loop66 7 0 M2 (by omega) hF hz hx (fun j hj => absurd hj (Nat.not_lt_zero j)) (by omega)
      · skip
        rw [i6 (by omega)] at h9
        refine PW.to 14 rfl trivial ?_
        exact loop14 7 0 M2 (by omega) (by omega) hF hz hx (by omega)
  refine PW.callV rfl trivial sX8_114 rfl rfl (by decide) rfl (m_share Hw H Hd HH) (fun v1 M1 hq1 => ?_)
  obtain ⟨rfl, hF0, hz0⟩ := hq1
  rw [← edu] at hz0
  refine PW.to 6 rfl trivial ?_
  exact loop6 7 0 M1 (by omega) (hF0.fj (by decide)) hz0 (fun x hx => absurd hx (by omega)) (by omega)
end M6
