-- made by wip/whole/mk_c4.py
section C4
variable {X : Cx} {l : Launch} {M : Mem}
theorem c_loose {w h : Nat} {mp dr hd : Nat → Nat} {wy : Nat} {vt : Nat → Nat} (F : Sf w h mp dr hd wy vt) (C : CM w h mp dr hd wy vt M) (a : Nat) (ha : a < 6) (Q : Nat → Bool) : PF X l mX2_looseCells 3 [.ref 10, .int (nI a), .long (mk Q)] G0 M (.long (mk (fun c => Q c && lse w (w * h) dr a c))) := by
  refine PF.ofW okX2_looseCells ?_
  have hn := F.1.n
  have hm := many_le dr a (w * h)
  have hpl := prt_le (fun x => decide (dr x = a)) w (w * h)
  have hout : ∀ i, w * h ≤ i → decide (dr i = a) = false := fun i hi => by have := F.1.d.2 i hi; simp; omega
  have loop38 : ∀ k : Nat, ∀ (j : Nat), j ≤ 36 → 2 ≤ many dr a (w * h) → 36 - j < k → PW X l mX2_looseCells 3 (fun v M' => v = some (.long (mk (fun c => Q c && lse w (w * h) dr a c))) ∧ M' = M) 38 [.ref 10, .int (nI a), .long (mk Q), .null, .long (mk (fun i => decide (dr i = a))), .null, .int (nI (prt (fun x => decide (dr x = a)) w (w * h))), .long (mk (fun c => decide (c < j) && (Q c && lse w (w * h) dr a c))), .null, .int (nI j), .null, .null] [] G0 M := by
    intro k
    induction k with
    | zero => intro j hj hm2 hk; exact absurd hk (Nat.not_lt_zero _)
    | succ k ih =>
      intro j hj hm2 hk
      refine PW.ige rfl trivial (fun h42 => ?_) (fun h42 => ?_)
      · skip
        rw [show (36 : Int32) = nI 36 from rfl, nI_leI (by omega) (by omega)] at h42
        have e9 : j = 36 := by omega
        subst e9
        refine PW.lret rfl rfl trivial ?_
        refine ⟨?_, rfl⟩
        rw [mk_cong (fun i _ => show (decide (i < 36) && (Q i && lse w (w * h) dr a i)) = (Q i && lse w (w * h) dr a i) from by
          by_cases q : i < 36
          · simp [q]
          · rw [lse_no (by have := F.1.d.2 i (by omega); omega)]; simp)]
      · skip
        rw [show (36 : Int32) = nI 36 from rfl, nI_leI (by omega) (by omega)] at h42
        have hpj := prt_le (fun x => decide (dr x = a) && !decide (x = j)) w (w * h)
        refine PW.zeq rfl trivial (fun h60 => ?_) (fun h60 => ?_)
        · skip
          rw [lg_cmp_eq, mk_bit (by omega), mk_and, mk_and, mk_z] at h60
          have hlj : (Q j && lse w (w * h) dr a j) = false := by
            have := h60 j (by omega)
            unfold lse
            cases hq : Q j <;> simp_all
          have hs := loose_s hlj
          refine PW.goto rfl trivial ?_
          first
          | (rw [nI_1]
             refine PW.nl [10] ?_
             refine PW.lc ?_ (ih (j + 1) (by omega) hm2 (by omega))
             rw [hs, if_neg (by decide)]; rfl)
          | (rw [nI_1]
             refine PW.nl [10] ?_
             refine PW.lc ?_ (ih (c + 1) (by omega) hm2 (by omega))
             rw [hs, if_neg (by decide)]; rfl)
        · skip
          rw [lg_cmp_eq, mk_bit (by omega), mk_and, mk_and] at h60
          obtain ⟨c, hc⟩ := Lst.ex h60
          have hc2 := hc.2.1
          simp only [Bool.and_eq_true, decide_eq_true_eq] at hc2
          obtain ⟨⟨hc3, hc4⟩, hc5⟩ := hc2
          subst hc5
          refine PW.funV rfl trivial sX2_60 rfl rfl (by decide) rfl (show PF X l mX1_partsOf 2 [.ref 1, .long (mk (fun i => decide (dr i = a)) &&& ((1 : Int64) <<< ((nI c).toInt64 &&& 63) ^^^ (-1)))] G0 M (.int (nI (prt (fun x => decide (dr x = a) && !decide (x = c)) w (w * h)))) from by rw [mk_bit (by omega), mk_not, mk_and]; exact c_parts _ F.1.g C.1 (fun i hi => by rw [hout i hi]; rfl)) ?_
          refine PW.igt rfl trivial (fun h81 => ?_) (fun h81 => ?_)
          · skip
            rw [nI_ltI (by omega) (by omega)] at h81
            have hs := loose_s (Q := Q) (R := lse w (w * h) dr a) (j := c) (b := false) (by unfold lse; simp; omega)
            refine PW.goto rfl trivial ?_
            first
            | (rw [nI_1]
               refine PW.nl [10] ?_
               refine PW.lc ?_ (ih (j + 1) (by omega) hm2 (by omega))
               rw [hs, if_neg (by decide)]; rfl)
            | (rw [nI_1]
               refine PW.nl [10] ?_
               refine PW.lc ?_ (ih (c + 1) (by omega) hm2 (by omega))
               rw [hs, if_neg (by decide)]; rfl)
          · skip
            rw [nI_ltI (by omega) (by omega)] at h81
            have hs := loose_s (Q := Q) (R := lse w (w * h) dr a) (j := c) (b := true) (by unfold lse; simp [hc4, hc3, hm2]; omega)
            refine PW.goto rfl trivial ?_
            rw [nI_1, mk_bit (by omega)]
            refine PW.nl [10] ?_
            refine PW.lc ?_ (ih (c + 1) (by omega) hm2 (by omega))
            rw [hs, if_pos rfl]; rfl
  refine PW.funV rfl trivial sX2_46 rfl rfl (by decide) rfl (c_cel4 a ha F.1.g C.1 F.1.d C.2.2.1) ?_
  refine PW.funS rfl trivial sX2_54 rfl (by decide) rfl (j_bitCount _) ?_
  rw [← cel_l F.1.d ha, ct_cel (by omega), cel_l F.1.d ha]
  refine PW.ige rfl trivial (fun h16 => ?_) (fun h16 => ?_)
  · skip
    rw [show (2 : Int32) = nI 2 from rfl, nI_leI (by omega) (by omega)] at h16
    refine PW.funV rfl trivial sX2_60 rfl rfl (by decide) rfl (c_parts _ F.1.g C.1 hout) ?_
    refine PW.to 38 rfl trivial ?_
    refine PW.lc ?_ (loop38 37 0 (by omega) h16 (by omega))
    rw [show (mk (fun c => decide (c < 0) && (Q c && lse w (w * h) dr a c))) = 0 from by rw [mk_z]; intro i _; simp]; rfl
  · skip
    rw [show (2 : Int32) = nI 2 from rfl, nI_leI (by omega) (by omega)] at h16
    refine PW.lret rfl rfl trivial ?_
    exact ⟨by rw [mk_0, mk_cong (fun i _ => show (Q i && lse w (w * h) dr a i) = false from by unfold lse; simp; omega)], rfl⟩
theorem c_hand {w h : Nat} {mp dr hd : Nat → Nat} {wy : Nat} {vt : Nat → Nat} (F : Sf w h mp dr hd wy vt) (C : CM w h mp dr hd wy vt M) (a b : Nat) (ha : a < 6) (hb : b < 6) : PF X l mX2_cellsToHand 4 [.ref 10, .int (nI a), .int (nI b)] G0 M (.long (mk (fun c => rim w (w * h) (fun i => decide (dr i = b)) c && lse w (w * h) dr a c))) := by
  refine PF.ofW okX2_cellsToHand ?_
  refine PW.funV rfl trivial sX2_46 rfl rfl (by decide) rfl (c_cel4 b hb F.1.g C.1 F.1.d C.2.2.1) ?_
  refine PW.funV rfl trivial sX2_40 rfl rfl (by decide) rfl (c_rim _ F.1.g C.1 (fun i hi => by have := F.1.d.2 i hi; simp; omega)) ?_
  refine PW.funV rfl trivial sX2_50 rfl rfl (by decide) rfl (c_loose F C a ha _) ?_
  refine PW.lret rfl rfl trivial ?_
  exact ⟨rfl, rfl⟩
theorem c_allow {w h : Nat} {mp dr hd : Nat → Nat} {wy : Nat} {vt : Nat → Nat} (F : Sf w h mp dr hd wy vt) (C : CM w h mp dr hd wy vt M) (c lv : Nat) (hc : c < w * h) (hl : lv < 6) : PF X l mX2_allows 4 [.ref 10, .int (nI c), .int (nI lv)] G0 M (.int (bo (mayh w (w * h) dr c lv))) := by
  refine PF.ofW okX2_allows ?_
  have hn := F.1.n
  have hd6 := F.1.2.2.2.2.2.1 c
  refine PW.funV rfl trivial sX2_34 rfl rfl (by decide) rfl (c_own4 c (by omega) C.2.2.1 hd6) ?_
  refine PW.ieq rfl trivial (fun h12 => ?_) (fun h12 => ?_)
  · skip
    rw [show (6 : Int32) = nI 6 from rfl, nI_eq (by omega) (by omega)] at h12
    have hm : mayh w (w * h) dr c lv = false := by unfold mayh; simp [h12]
    refine PW.zret rfl rfl trivial (rfl) ?_
    exact ⟨by rw [hm]; rfl, rfl⟩
  · skip
    rw [show (6 : Int32) = nI 6 from rfl, nI_eq (by omega) (by omega)] at h12
    refine PW.ine rfl trivial (fun h17 => ?_) (fun h17 => ?_)
    · skip
      rw [nI_eq (by omega) (by omega)] at h17
      have hml := mayh_l (w := w) (n := w * h) h12 h17
      refine PW.funV rfl trivial sX2_40 rfl rfl (by decide) rfl (show PF X l mX1_rimOf 0 [.ref 1, .long ((1 : Int64) <<< ((nI c).toInt64 &&& 63))] G0 M (.long (mk (rim w (w * h) (fun i => decide (i = c))))) from by rw [mk_bit (by omega)]; exact c_rim _ F.1.g C.1 (fun i hi => by simp; omega)) ?_
      refine PW.funV rfl trivial sX2_46 rfl rfl (by decide) rfl (c_cel4 lv hl F.1.g C.1 F.1.d C.2.2.1) ?_
      refine PW.zeq rfl trivial (fun h47 => ?_) (fun h47 => ?_)
      · skip
        rw [lg_cmp_eq, tch_z F.1.d hl hc (by omega)] at h47
        have hm : mayh w (w * h) dr c lv = false := by rw [hml, h47]; rfl
        refine PW.zret rfl rfl trivial (rfl) ?_
        exact ⟨by rw [hm]; rfl, rfl⟩
      · skip
        rw [lg_cmp_eq, tch_z F.1.d hl hc (by omega), Bool.not_eq_false] at h47
        rw [h47, Bool.true_and] at hml
        refine PW.funV rfl trivial sX2_50 rfl rfl (by decide) rfl (show PF X l mX2_looseCells 3 [.ref 10, .int (nI (dr c)), .long ((1 : Int64) <<< ((nI c).toInt64 &&& 63))] G0 M (.long (mk (fun x => decide (x = c) && lse w (w * h) dr (dr c) x))) from by rw [mk_bit (by omega)]; exact c_loose F C (dr c) (by omega) _) ?_
        refine PW.zeq rfl trivial (fun h62 => ?_) (fun h62 => ?_)
        · skip
          rw [lg_cmp_eq, mk_bit (by omega), mk_and, mk_z] at h62
          have hm : mayh w (w * h) dr c lv = false := by have := h62 c (by omega); rw [hml]; simpa using this
          refine PW.zret rfl rfl trivial (rfl) ?_
          exact ⟨by rw [hm]; rfl, rfl⟩
        · skip
          rw [lg_cmp_eq, mk_bit (by omega), mk_and] at h62
          obtain ⟨x, hx⟩ := Lst.ex h62
          have hx2 := hx.2.1
          simp only [Bool.and_eq_true, decide_eq_true_eq] at hx2
          have hm : mayh w (w * h) dr c lv = true := by rw [hml, ← hx2.1.1]; rw [hx2.1.1]; have := hx2.1.2; rw [hx2.1.1] at this; exact this
          refine PW.goto rfl trivial ?_
          refine PW.zret rfl rfl trivial (rfl) ?_
          exact ⟨by rw [hm]; rfl, rfl⟩
    · skip
      rw [nI_eq (by omega) (by omega)] at h17
      have hm : mayh w (w * h) dr c lv = false := by unfold mayh; simp [h17]
      refine PW.zret rfl rfl trivial (rfl) ?_
      exact ⟨by rw [hm]; rfl, rfl⟩
theorem hand_z {w n : Nat} {dr : Nat → Nat} {a b : Nat} : mk (fun i => (decide (i < n) && lse w n dr a i) && rim w n (fun i => decide (dr i = b)) i) = mk (fun c => rim w n (fun i => decide (dr i = b)) c && lse w n dr a c) := mk_cong (fun i _ => by
  rcases Nat.lt_or_ge i n with q | q
  · simp [q]; exact Bool.and_comm _ _
  · rw [rim_out q]; simp)
theorem c_see {w h : Nat} {mp dr hd : Nat → Nat} {wy : Nat} {vt : Nat → Nat} (F : Sf w h mp dr hd wy vt) (C : CM w h mp dr hd wy vt M) : PC X l mX2_seeWhoHands 4 [.ref 10] G0 M (fun v M' => v = none ∧ FC [11] [] M M' ∧ ∀ x, x < 36 → M'.1 11 x = bo (hnd w (w * h) dr (x / 6) (x % 6))) := by
  refine PC.ofW okX2_seeWhoHands ?_
  have hn := F.1.n
  obtain ⟨hh, ehh⟩ : ∃ hh, hh = hnd w (w * h) dr := ⟨_, rfl⟩
  rw [← ehh]
  have loop2 : ∀ k : Nat, ∀ (a : Nat) (M2 : Mem), a ≤ 6 → FC [11] [] M M2 → (∀ x, x < 6 * a → M2.1 11 x = bo (hh (x / 6) (x % 6))) → 6 - a < k → PW X l mX2_seeWhoHands 4 (fun v M' => v = none ∧ FC [11] [] M M' ∧ ∀ x, x < 36 → M'.1 11 x = bo (hh (x / 6) (x % 6))) 2 [.ref 10, .int (nI a), .null, .null, .null] [] G0 M2 := by
    intro k
    induction k with
    | zero => intro a M2 ha hF hx hk; exact absurd hk (Nat.not_lt_zero _)
    | succ k ih =>
      intro a M2 ha hF hx hk
      have C2 := C.fc hF
      have loop24 : ∀ k24 : Nat, ∀ (b : Nat) (M3 : Mem), a < 6 → b ≤ 6 → FC [11] [] M M3 → (∀ x, x < 6 * a + b → M3.1 11 x = bo (hh (x / 6) (x % 6))) → 6 - b < k24 → PW X l mX2_seeWhoHands 4 (fun v M' => v = none ∧ FC [11] [] M M' ∧ ∀ x, x < 36 → M'.1 11 x = bo (hh (x / 6) (x % 6))) 24 [.ref 10, .int (nI a), .long (mk (fun c => decide (c < w * h) && lse w (w * h) dr a c)), .null, .int (nI b)] [] G0 M3 := by
        intro k24
        induction k24 with
        | zero => intro b M3 ha6 hb hF3 hx3 hk3; exact absurd hk3 (Nat.not_lt_zero _)
        | succ k24 ih24 =>
          intro b M3 ha6 hb hF3 hx3 hk3
          have C3 := C.fc hF3
          refine PW.ige rfl trivial (fun h28 => ?_) (fun h28 => ?_)
          · skip
            rw [i6 (by omega)] at h28
            have e9 : b = 6 := by omega
            subst e9
            refine PW.goto rfl trivial ?_
            rw [nI_1]
            refine PW.nl [2, 4] ?_
            exact ih (a + 1) M3 (by omega) hF3 (fun x hx => hx3 x (by omega)) (by omega)
          · skip
            rw [i6 (by omega)] at h28
            refine PW.ieq rfl trivial (fun h45 => ?_) (fun h45 => ?_)
            · skip
              rw [nI_eq (by omega) (by omega)] at h45
              have ebf : bo (hh a b) = 0 := by rw [ehh]; simp [hnd, h45, bo]
              refine PW.goto rfl ⟨trivial, (by rw [show (6 : Int32) = nI 6 from rfl, pk_mul, nI_add]; exact vp_in_nI (by omega) (by decide))⟩ ?_
              dsimp only
              rw [show (6 : Int32) = nI 6 from rfl, pk_mul, nI_add, nI_clamp (by omega), Nat.mul_comm a 6, nI_1]
              exact ih24 (b + 1) _ ha6 (by omega) hF3.pi (fun x hx => upx36 (y := 0) hx3 ebf (by omega) x hx) (by omega)
            · skip
              rw [nI_eq (by omega) (by omega)] at h45
              have hl2 := hnd_l (w := w) (n := w * h) (dr := dr) ha6 h45 (by omega)
              refine PW.funV rfl trivial sX2_46 rfl rfl (by decide) rfl (c_cel4 b (by omega) F.1.g C3.1 F.1.d C3.2.2.1) ?_
              refine PW.funV rfl trivial sX2_40 rfl rfl (by decide) rfl (c_rim _ F.1.g C3.1 (fun i hi => by have := F.1.d.2 i hi; simp; omega)) ?_
              refine PW.zeq rfl trivial (fun h68 => ?_) (fun h68 => ?_)
              · skip
                rw [lg_cmp_eq, mk_and, hand_z, mk_fnd] at h68
                have ebf : bo (hh a b) = 0 := by rw [ehh, hl2, h68]; rfl
                refine PW.goto rfl ⟨trivial, (by rw [show (6 : Int32) = nI 6 from rfl, pk_mul, nI_add]; exact vp_in_nI (by omega) (by decide))⟩ ?_
                dsimp only
                rw [show (6 : Int32) = nI 6 from rfl, pk_mul, nI_add, nI_clamp (by omega), Nat.mul_comm a 6, nI_1]
                exact ih24 (b + 1) _ ha6 (by omega) hF3.pi (fun x hx => upx36 (y := 0) hx3 ebf (by omega) x hx) (by omega)
              · skip
                rw [lg_cmp_eq, mk_and, hand_z, mk_fnd] at h68
                have ebt : bo (hh a b) = 1 := by rw [ehh, hl2, Option.isSome_iff_ne_none.mpr h68]; rfl
                refine PW.goto rfl trivial ?_
                refine PW.goto rfl ⟨trivial, (by rw [show (6 : Int32) = nI 6 from rfl, pk_mul, nI_add]; exact vp_in_nI (by omega) (by decide))⟩ ?_
                dsimp only
                rw [show (6 : Int32) = nI 6 from rfl, pk_mul, nI_add, nI_clamp (by omega), Nat.mul_comm a 6, nI_1]
                exact ih24 (b + 1) _ ha6 (by omega) hF3.pi (fun x hx => upx36 (y := 1) hx3 ebt (by omega) x hx) (by omega)
      refine PW.ige rfl trivial (fun h5 => ?_) (fun h5 => ?_)
      · skip
        rw [i6 (by omega)] at h5
        have e9 : a = 6 := by omega
        subst e9
        refine PW.vret rfl rfl trivial ?_
        exact ⟨rfl, hF, hx⟩
      · skip
        rw [i6 (by omega)] at h5
        refine PW.funV rfl trivial sX2_50 rfl rfl (by decide) rfl (show PF X l mX2_looseCells 3 [.ref 10, .int (nI a), .long (M2.2 1 2)] G0 M2 (.long (mk (fun c => decide (c < w * h) && lse w (w * h) dr a c))) from by rw [C2.1.2.2.1]; exact c_loose F C2 a (by omega) _) ?_
        refine PW.to 24 rfl trivial ?_
        exact loop24 7 0 M2 (by omega) (by omega) hF (fun x h1 => hx x (by omega)) (by omega)
  refine PW.to 2 rfl trivial ?_
  exact loop2 7 0 M (by omega) FC.rf (fun x hx => absurd hx (by omega)) (by omega)
theorem c_meas {w h : Nat} {mp dr hd : Nat → Nat} {wy : Nat} {vt : Nat → Nat} (F : Sf w h mp dr hd wy vt) (C : CM w h mp dr hd wy vt M) {hh : Nat → Nat → Bool} (h11 : ∀ x, x < 36 → M.1 11 x = bo (hh (x / 6) (x % 6))) {du : Nat → Nat} (hdu : ∀ j, j < 6 → du j < 2 ^ 30) (h8 : ∀ j, j < 6 → M.1 8 j = nI (du j)) {T : Nat → Bool} (eT : T = hasless (w * h) dr du) : PC X l mX2_measureLengths 3 [.ref 10] G0 M (fun v M' => v = none ∧ FC [12] [] M M' ∧ ∀ j, j < 6 → M'.1 12 j = nI (dn hh T 7 j)) := by
  refine PC.ofW okX2_measureLengths ?_
  have hn := F.1.n
  have hml : ∀ j, many dr j (w * h) ≤ 36 := fun j => by have := many_le dr j (w * h); omega
  have loop48 : ∀ k : Nat, ∀ (r : Nat) (est : Nat → Nat) (M2 : Mem), r ≤ 5 → FC [12] [] M M2 → (∀ j, j < 6 → M2.1 12 j = nI (est j)) → Rx hh T 7 est r 0 0 → 5 - r < k → PW X l mX2_measureLengths 3 (fun v M' => v = none ∧ FC [12] [] M M' ∧ ∀ j, j < 6 → M'.1 12 j = nI (dn hh T 7 j)) 48 [.ref 10, .int (nI (r + 1)), .null, .null] [] G0 M2 := by
    intro k
    induction k with
    | zero => intro r est M2 hr hF hl hR hk; exact absurd hk (Nat.not_lt_zero _)
    | succ k ih =>
      intro r est M2 hr hF hl hR hk
      have loop56 : ∀ k56 : Nat, ∀ (a : Nat) (est : Nat → Nat) (M2 : Mem), r < 5 → a ≤ 6 → FC [12] [] M M2 → (∀ j, j < 6 → M2.1 12 j = nI (est j)) → Rx hh T 7 est r a 0 → 6 - a < k56 → PW X l mX2_measureLengths 3 (fun v M' => v = none ∧ FC [12] [] M M' ∧ ∀ j, j < 6 → M'.1 12 j = nI (dn hh T 7 j)) 56 [.ref 10, .int (nI (r + 1)), .int (nI a), .null] [] G0 M2 := by
        intro k56
        induction k56 with
        | zero => intro a est M2 hr5 ha hF hl hR hk2; exact absurd hk2 (Nat.not_lt_zero _)
        | succ k56 ih56 =>
          intro a est M2 hr5 ha hF hl hR hk2
          have loop64 : ∀ k64 : Nat, ∀ (b : Nat) (est : Nat → Nat) (M2 : Mem), a < 6 → b ≤ 6 → FC [12] [] M M2 → (∀ j, j < 6 → M2.1 12 j = nI (est j)) → Rx hh T 7 est r a b → 6 - b < k64 → PW X l mX2_measureLengths 3 (fun v M' => v = none ∧ FC [12] [] M M' ∧ ∀ j, j < 6 → M'.1 12 j = nI (dn hh T 7 j)) 64 [.ref 10, .int (nI (r + 1)), .int (nI a), .int (nI b)] [] G0 M2 := by
            intro k64
            induction k64 with
            | zero => intro b est M2 ha6 hb hF hl hR hk3; exact absurd hk3 (Nat.not_lt_zero _)
            | succ k64 ih64 =>
              intro b est M2 ha6 hb hF hl hR hk3
              refine PW.ige rfl trivial (fun h67 => ?_) (fun h67 => ?_)
              · skip
                rw [i6 (by omega)] at h67
                have e9 : b = 6 := by omega
                subst e9
                refine PW.goto rfl trivial ?_
                rw [nI_1]
                refine PW.nl [3] ?_
                exact ih56 (a + 1) est M2 hr5 (by omega) hF hl (hR.row (by decide) ha6) (by omega)
              · skip
                rw [i6 (by omega)] at h67
                have ea := (hR.1 a ha6).2
                have eb := (hR.1 b (by omega)).2
                have hR2 := hR.col (by decide) ha6 (show b < 6 by omega)
                refine PW.zeq rfl ⟨trivial, (by rw [show (6 : Int32) = nI 6 from rfl, pk_mul, nI_add]; exact vp_in_nI (by omega) (by decide))⟩ (fun h81 => ?_) (fun h81 => ?_)
                · skip
                  rw [show (6 : Int32) = nI 6 from rfl, pk_mul, nI_add, nI_clamp (by omega), hF.i 11, h11 _ (by omega), show (a * 6 + b) / 6 = a by omega, show (a * 6 + b) % 6 = b by omega, bo_eq] at h81
                  refine PW.goto rfl trivial ?_
                  rw [nI_1]
                  refine ih64 (b + 1) _ M2 ha6 (by omega) hF ?_ hR2 (by omega)
                  intro j hj
                  rw [if_neg (fun z => by rw [h81] at z; exact absurd z.2.1 (by decide))]
                  exact hl j hj
                · skip
                  rw [show (6 : Int32) = nI 6 from rfl, pk_mul, nI_add, nI_clamp (by omega), hF.i 11, h11 _ (by omega), show (a * 6 + b) / 6 = a by omega, show (a * 6 + b) % 6 = b by omega, bo_ne] at h81
                  refine PW.mmin rfl ⟨⟨trivial, vp_in_nI (by omega) (by decide)⟩, vp_in_nI (by omega) (by decide)⟩ sX2_86 (by decide) rfl ?_
                  refine PW.goto rfl ⟨trivial, vp_in_nI (by omega) (by decide)⟩ ?_
                  rw [nI_clamp (by omega), nI_clamp (by omega), hl a ha6, hl b (by omega), nI_1, nI_1]
                  refine ih64 (b + 1) _ _ ha6 (by omega) hF.pi ?_ hR2 (by omega)
                  intro j hj
                  dsimp only
                  by_cases q : j = a
                  · subst q
                    rw [up_same]
                    by_cases z : est b + 1 < est j
                    · rw [if_pos ((nI_ltI (by omega) (by omega)).mpr z), if_pos ⟨rfl, h81, z⟩]
                    · rw [if_neg (fun y => z ((nI_ltI (by omega) (by omega)).mp y)), if_neg (fun y => z y.2.2)]
                  · rw [if_neg (show ¬ (j = a ∧ hh a b = true ∧ est b + 1 < est a) from fun z => q z.1)]; exact (up_ne q).trans (hl j hj)
          refine PW.ige rfl trivial (fun h59 => ?_) (fun h59 => ?_)
          · skip
            rw [i6 (by omega)] at h59
            have e9 : a = 6 := by omega
            subst e9
            refine PW.goto rfl trivial ?_
            rw [nI_1]
            refine PW.nl [2] ?_
            exact ih (r + 1) est M2 (by omega) hF hl hR.round (by omega)
          · skip
            rw [i6 (by omega)] at h59
            refine PW.to 64 rfl trivial ?_
            exact loop64 7 0 est M2 (by omega) (by omega) hF hl hR (by omega)
      refine PW.ige rfl trivial (fun h51 => ?_) (fun h51 => ?_)
      · skip
        rw [i6 (by omega)] at h51
        have e9 : r = 5 := by omega
        subst e9
        refine PW.vret rfl rfl trivial ?_
        exact ⟨rfl, hF, fun j hj => by rw [hl j hj, hR.done (by omega) j hj]⟩
      · skip
        rw [i6 (by omega)] at h51
        refine PW.to 56 rfl trivial ?_
        exact loop56 7 0 est M2 (by omega) (by omega) hF hl hR (by omega)
  have loop2 : ∀ k : Nat, ∀ (i : Nat) (M2 : Mem), i ≤ 6 → FC [12] [] M M2 → (∀ j, j < i → M2.1 12 j = nI (if T j = true then 1 else 7)) → 6 - i < k → PW X l mX2_measureLengths 3 (fun v M' => v = none ∧ FC [12] [] M M' ∧ ∀ j, j < 6 → M'.1 12 j = nI (dn hh T 7 j)) 2 [.ref 10, .int (nI i), .null, .null] [] G0 M2 := by
    intro k
    induction k with
    | zero => intro i M2 hi hF hl hk; exact absurd hk (Nat.not_lt_zero _)
    | succ k ih =>
      intro i M2 hi hF hl hk
      have C2 := C.fc hF
      refine PW.ige rfl trivial (fun h5 => ?_) (fun h5 => ?_)
      · skip
        rw [i6 (by omega)] at h5
        have e9 : i = 6 := by omega
        subst e9
        refine PW.to 48 rfl trivial ?_
        exact loop48 7 0 (fun j => if T j = true then 1 else 7) M2 (by omega) hF hl (Rx.start (by decide)) (by omega)
      · skip
        rw [i6 (by omega)] at h5
        refine PW.funV rfl trivial sX2_71 rfl rfl (by decide) rfl (c_siz4 i (by omega) F.1.g C2.1 F.1.d C2.2.2.1) ?_
        refine PW.ige rfl ⟨trivial, vp_in_nI (by omega) (by decide)⟩ (fun h30 => ?_) (fun h30 => ?_)
        · skip
          have hm := hml i
          have hdi := hdu i (by omega)
          rw [nI_clamp (by omega), hF.i 8, h8 i (by omega), nI_leI (by omega) (by omega)] at h30
          have eT2 : ¬ T i = true := by rw [eT]; simp [hasless]; omega
          refine PW.goto rfl ⟨trivial, vp_in_nI (by omega) (by decide)⟩ ?_
          rw [nI_clamp (by omega), nI_1]
          refine ih (i + 1) _ (by omega) hF.pi (fun j hj => ?_) (by omega)
          by_cases q : j = i
          · subst q; rw [up_s]; first | (rw [if_pos eT2]; rfl) | (rw [if_neg eT2]; rfl)
          · exact (up_n q).trans (hl j (by omega))
        · skip
          have hm := hml i
          have hdi := hdu i (by omega)
          rw [nI_clamp (by omega), hF.i 8, h8 i (by omega), nI_leI (by omega) (by omega)] at h30
          have eT2 : T i = true := by rw [eT]; simp [hasless]; omega
          refine PW.goto rfl trivial ?_
          refine PW.goto rfl ⟨trivial, vp_in_nI (by omega) (by decide)⟩ ?_
          rw [nI_clamp (by omega), nI_1]
          refine ih (i + 1) _ (by omega) hF.pi (fun j hj => ?_) (by omega)
          by_cases q : j = i
          · subst q; rw [up_s]; first | (rw [if_pos eT2]; rfl) | (rw [if_neg eT2]; rfl)
          · exact (up_n q).trans (hl j (by omega))
  refine PW.to 2 rfl trivial ?_
  exact loop2 7 0 M (by omega) FC.rf (fun j hj => absurd hj (Nat.not_lt_zero j)) (by omega)
theorem c_next {hh : Nat → Nat → Bool} {T : Nat → Bool} (h11 : ∀ x, x < 36 → M.1 11 x = bo (hh (x / 6) (x % 6))) (h12 : ∀ j, j < 6 → M.1 12 j = nI (dn hh T 7 j)) (a : Nat) (ha : a < 6) : PF X l mX2_nextOf 0 [.ref 10, .int (nI a)] G0 M (.int (ob (cnx hh T a))) := by
  refine PF.ofW okX2_nextOf ?_
  have hdl : ∀ j, dn hh T 7 j ≤ 7 := fun j => dn_le (by decide)
  have hda := dn_pos (h := hh) (T := T) (F := 7) (a := a) (by decide)
  have hda7 := hdl a
  have loop2 : ∀ k : Nat, ∀ (j : Nat), j ≤ 6 → (∀ d, d < j → (hh a d && decide (dn hh T 7 d + 1 = dn hh T 7 a)) = false) → 6 - j < k → PW X l mX2_nextOf 0 (fun v M' => v = some (.int (ob (cnx hh T a))) ∧ M' = M) 2 [.ref 10, .int (nI a), .int (nI j)] [] G0 M := by
    intro k
    induction k with
    | zero => intro j hj hno hk; exact absurd hk (Nat.not_lt_zero _)
    | succ k ih =>
      intro j hj hno hk
      have hj7 := hdl j
      have stp1 : (hh a j && decide (dn hh T 7 j + 1 = dn hh T 7 a)) = false → ∀ d, d < j + 1 → (hh a d && decide (dn hh T 7 d + 1 = dn hh T 7 a)) = false := fun h d hd => by
        by_cases q : d = j
        · subst q; exact h
        · exact hno d (by omega)
      refine PW.ige rfl trivial (fun h5 => ?_) (fun h5 => ?_)
      · skip
        rw [i6 (by omega)] at h5
        have e9 : j = 6 := by omega
        subst e9
        refine PW.iret rfl rfl trivial ?_
        exact ⟨by rw [show cnx hh T a = none from fnd_none.mpr hno]; rfl, rfl⟩
      · skip
        rw [i6 (by omega)] at h5
        refine PW.zeq rfl ⟨trivial, (by rw [show (6 : Int32) = nI 6 from rfl, pk_mul, nI_add]; exact vp_in_nI (by omega) (by decide))⟩ (fun h19 => ?_) (fun h19 => ?_)
        · skip
          rw [show (6 : Int32) = nI 6 from rfl, pk_mul, nI_add, nI_clamp (by omega), h11 _ (by omega), show (a * 6 + j) / 6 = a by omega, show (a * 6 + j) % 6 = j by omega, bo_eq] at h19
          have h41 := stp1 (by rw [h19]; rfl)
          refine PW.goto rfl trivial ?_
          rw [nI_1]
          exact ih (j + 1) (by omega) h41 (by omega)
        · skip
          rw [show (6 : Int32) = nI 6 from rfl, pk_mul, nI_add, nI_clamp (by omega), h11 _ (by omega), show (a * 6 + j) / 6 = a by omega, show (a * 6 + j) % 6 = j by omega, bo_ne] at h19
          refine PW.ine rfl ⟨⟨trivial, vp_in_nI (by omega) (by decide)⟩, vp_in_nI (by omega) (by decide)⟩ (fun h36 => ?_) (fun h36 => ?_)
          · skip
            rw [nI_clamp (by omega), nI_clamp (by omega), h12 j (by omega), h12 a ha, nI_m1 (by omega), nI_eq (by omega) (by omega)] at h36
            have h41 := stp1 (by rw [h19]; simp; omega)
            refine PW.goto rfl trivial ?_
            rw [nI_1]
            exact ih (j + 1) (by omega) h41 (by omega)
          · skip
            rw [nI_clamp (by omega), nI_clamp (by omega), h12 j (by omega), h12 a ha, nI_m1 (by omega), nI_eq (by omega) (by omega)] at h36
            refine PW.iret rfl rfl trivial ?_
            exact ⟨by rw [show cnx hh T a = some j from fnd_some.mpr ⟨by omega, by rw [h19]; simp; omega, hno⟩]; rfl, rfl⟩
  refine PW.to 2 rfl trivial ?_
  exact loop2 7 0 (by omega) (fun d hd => absurd hd (Nat.not_lt_zero d)) (by omega)
end C4
