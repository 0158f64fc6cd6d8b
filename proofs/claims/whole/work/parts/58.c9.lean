-- made by wip/whole/mk_c9.py
section C9
variable {X : Cx} {l : Launch} {M : Mem}
theorem oi_le {a : Int} (h1 : -2147483648 ≤ a) (h2 : a < 2147483648) : Int32.ofInt a ≤ 0 ↔ a ≤ 0 := by
  rw [fa_le, fb_ofI h1 h2]
  have : (0 : Int32).toInt = 0 := by decide
  omega
theorem oi_n (n : Nat) : nI n = Int32.ofInt (n : Int) := by
  show Int32.ofNat n = _
  exact (Int32.ofInt_eq_ofNat).symm
theorem c_chp0 {pv : Nat → Nat → Nat} {sz : Nat → Nat} (hpv : ∀ l e, pv l e ≤ FAR) (hsz : ∀ l, sz l ≤ 36) (h27 : ∀ l e, l < 6 → e < 4 → M.1 27 (4 * l + e) = nI (pv l e)) (h28 : ∀ l, l < 6 → M.1 28 l = nI (sz l)) (a b : Int) (ha : -1000 ≤ a ∧ a ≤ 1000) (hb : -1000 ≤ b ∧ b ≤ 1000) : PF X l mX4_cheapest 1 [.ref 27, .ref 28, .int (nI 6), .int (Int32.ofInt a), .int (Int32.ofInt b)] G0 M (.int (nI (chq pv sz 0 a b))) := by
  refine PF.ofW okX4_cheapest ?_
  refine PW.zlt rfl trivial (fun h1 => ?_) (fun h1 => ?_)
  · exact absurd h1 (by decide)
  · skip
    refine PW.ilt rfl trivial (fun h7 => ?_) (fun h7 => ?_)
    · exact absurd h7 (by decide)
    · skip
      refine PW.zle rfl trivial (fun h11 => ?_) (fun h11 => ?_)
      · skip
        rw [oi_le (by omega) (by omega)] at h11
        refine PW.iret rfl rfl trivial ?_
        refine ⟨?_, rfl⟩
        simp only [chq]
        first | (rw [if_pos ⟨by omega, by omega⟩]; rfl) | (rw [if_neg (fun q => by omega)]; rfl)
      · skip
        rw [oi_le (by omega) (by omega)] at h11
        refine PW.zle rfl trivial (fun h16 => ?_) (fun h16 => ?_)
        · skip
          rw [oi_le (by omega) (by omega)] at h16
          refine PW.iret rfl rfl trivial ?_
          refine ⟨?_, rfl⟩
          simp only [chq]
          first | (rw [if_pos ⟨by omega, by omega⟩]; rfl) | (rw [if_neg (fun q => by omega)]; rfl)
        · skip
          rw [oi_le (by omega) (by omega)] at h16
          refine PW.goto rfl trivial ?_
          refine PW.iret rfl rfl trivial ?_
          refine ⟨?_, rfl⟩
          simp only [chq]
          first | (rw [if_pos ⟨by omega, by omega⟩]; rfl) | (rw [if_neg (fun q => by omega)]; rfl)
theorem c_chps {pv : Nat → Nat → Nat} {sz : Nat → Nat} (hpv : ∀ l e, pv l e ≤ FAR) (hsz : ∀ l, sz l ≤ 36) (h27 : ∀ l e, l < 6 → e < 4 → M.1 27 (4 * l + e) = nI (pv l e)) (h28 : ∀ l, l < 6 → M.1 28 l = nI (sz l)) (r : Nat) (hr : r < 6) (ihr : ∀ a b : Int, (-36 * (6 - r) ≤ a ∧ a ≤ 36 * (6 - r)) → (-36 * (6 - r) ≤ b ∧ b ≤ 36 * (6 - r)) → PF X l mX4_cheapest (r + 1) [.ref 27, .ref 28, .int (nI (6 - r)), .int (Int32.ofInt a), .int (Int32.ofInt b)] G0 M (.int (nI (chq pv sz r a b)))) (a b : Int) (ha : -36 * (5 - r) ≤ a ∧ a ≤ 36 * (5 - r)) (hb : -36 * (5 - r) ≤ b ∧ b ≤ 36 * (5 - r)) : PF X l mX4_cheapest (r + 2) [.ref 27, .ref 28, .int (nI (5 - r)), .int (Int32.ofInt a), .int (Int32.ofInt b)] G0 M (.int (nI (chq pv sz (r + 1) a b))) := by
  refine PF.ofW okX4_cheapest ?_
  have hF6 : FAR = 1000000 := rfl
  have hs5 := hsz (5 - r)
  have loop38 : ∀ k : Nat, ∀ (e : Nat), e ≤ 4 → 4 - e < k → PW X l mX4_cheapest (r + 2) (fun v M' => v = some (.int (nI (chq pv sz (r + 1) a b))) ∧ M' = M) 38 [.ref 27, .ref 28, .int (nI (5 - r)), .int (Int32.ofInt a), .int (Int32.ofInt b), .int (nI (sz (5 - r))), .int (nI (chm (pv (5 - r)) (fun e => chq pv sz r (a + dA (sz (5 - r)) e) (b + dB (sz (5 - r)) e)) e)), .int (nI e), .null, .null, .null] [] G0 M := by
    intro k
    induction k with
    | zero => intro e he hk; exact absurd hk (Nat.not_lt_zero _)
    | succ k ih =>
      intro e he hk
      have hcl := chm_le (pv (5 - r)) (fun e => chq pv sz r (a + dA (sz (5 - r)) e) (b + dB (sz (5 - r)) e)) e
      have hpe := hpv (5 - r) e
      have join113 : e < 4 → pv (5 - r) e < chm (pv (5 - r)) (fun e => chq pv sz r (a + dA (sz (5 - r)) e) (b + dB (sz (5 - r)) e)) e → (-36 ≤ dA (sz (5 - r)) e ∧ dA (sz (5 - r)) e ≤ 36) → ∀ x : Int32, x = Int32.ofInt (dB (sz (5 - r)) e) → PW X l mX4_cheapest (r + 2) (fun v M' => v = some (.int (nI (chq pv sz (r + 1) a b))) ∧ M' = M) 113 [.ref 27, .ref 28, .int (nI (5 - r)), .int (Int32.ofInt a), .int (Int32.ofInt b), .int (nI (sz (5 - r))), .int (nI (chm (pv (5 - r)) (fun e => chq pv sz r (a + dA (sz (5 - r)) e) (b + dB (sz (5 - r)) e)) e)), .int (nI e), .int (nI (pv (5 - r) e)), .int (Int32.ofInt (a + dA (sz (5 - r)) e)), .null] [.int x, .int (Int32.ofInt b)] G0 M := by
        intro he4 hlt hdA x hx
        subst hx
        have hdB : -36 ≤ dB (sz (5 - r)) e ∧ dB (sz (5 - r)) e ≤ 36 := by unfold dB; split <;> (try split) <;> omega
        have hq := chq_le pv sz r (a + dA (sz (5 - r)) e) (b + dB (sz (5 - r)) e)
        have hrec : (fun e => chq pv sz r (a + dA (sz (5 - r)) e) (b + dB (sz (5 - r)) e)) e = chq pv sz r (a + dA (sz (5 - r)) e) (b + dB (sz (5 - r)) e) := rfl
        refine PW.funS rfl trivial sX4_56 rfl (by omega) rfl (show PF X l mX4_cheapest (r + 1) [.ref 27, .ref 28, .int (nI (5 - r) + 1), .int (Int32.ofInt (a + dA (sz (5 - r)) e)), .int (Int32.ofInt b + Int32.ofInt (dB (sz (5 - r)) e))] G0 M (.int (nI (chq pv sz r (a + dA (sz (5 - r)) e) (b + dB (sz (5 - r)) e)))) from by rw [← Int32.ofInt_add, nI_1, show 5 - r + 1 = 6 - r by omega]; exact ihr _ _ (by omega) (by omega)) ?_
        refine PW.mmin rfl trivial sX4_60 (by omega) rfl ?_
        refine PW.goto rfl trivial ?_
        rw [nI_add, nI_1]
        refine PW.nl [8, 9, 10] ?_
        refine PW.lc ?_ (ih (e + 1) (by omega) (by omega))
        simp only [chm]
        rw [if_pos hlt]
        by_cases z : pv (5 - r) e + chq pv sz r (a + dA (sz (5 - r)) e) (b + dB (sz (5 - r)) e) < chm (pv (5 - r)) (fun e => chq pv sz r (a + dA (sz (5 - r)) e) (b + dB (sz (5 - r)) e)) e
        · rw [if_pos z, if_pos ((nI_ltI (by omega) (by omega)).mpr z)]; rfl
        · rw [if_neg z, if_neg (fun y => z ((nI_ltI (by omega) (by omega)).mp y))]; rfl
      have join85 : e < 4 → pv (5 - r) e < chm (pv (5 - r)) (fun e => chq pv sz r (a + dA (sz (5 - r)) e) (b + dB (sz (5 - r)) e)) e → ∀ x : Int32, x = Int32.ofInt (dA (sz (5 - r)) e) → PW X l mX4_cheapest (r + 2) (fun v M' => v = some (.int (nI (chq pv sz (r + 1) a b))) ∧ M' = M) 85 [.ref 27, .ref 28, .int (nI (5 - r)), .int (Int32.ofInt a), .int (Int32.ofInt b), .int (nI (sz (5 - r))), .int (nI (chm (pv (5 - r)) (fun e => chq pv sz r (a + dA (sz (5 - r)) e) (b + dB (sz (5 - r)) e)) e)), .int (nI e), .int (nI (pv (5 - r) e)), .null, .null] [.int x, .int (Int32.ofInt a)] G0 M := by
        intro he4 hlt x hx
        subst hx
        have hdA : -36 ≤ dA (sz (5 - r)) e ∧ dA (sz (5 - r)) e ≤ 36 := by unfold dA; split <;> (try split) <;> omega
        refine PW.zne rfl trivial (fun h92 => ?_) (fun h92 => ?_)
        · skip
          have q92 : e ≠ 0 := fun z => h92 (by rw [z]; rfl)
          refine PW.ine rfl trivial (fun h103 => ?_) (fun h103 => ?_)
          · skip
            rw [show (2 : Int32) = nI 2 from rfl, nI_eq (by omega) (by omega)] at h103
            refine PW.to 113 rfl trivial ?_
            rw [← Int32.ofInt_add]
            exact join113 he4 hlt hdA _ (by rw [dB, if_neg q92, if_neg h103]; rfl)
          · skip
            rw [show (2 : Int32) = nI 2 from rfl, nI_eq (by omega) (by omega)] at h103
            refine PW.goto rfl trivial ?_
            rw [← Int32.ofInt_add]
            exact join113 he4 hlt hdA _ (by rw [dB, if_neg q92, if_pos h103, Int32.ofInt_neg, ← oi_n])
        · skip
          have q92 : e = 0 := by rw [show (0 : Int32) = nI 0 from rfl, nI_eq (by omega) (by omega)] at h92; exact h92
          refine PW.goto rfl trivial ?_
          rw [← Int32.ofInt_add]
          exact join113 he4 hlt hdA _ (by rw [dB, if_pos q92]; exact oi_n _)
      refine PW.ige rfl trivial (fun h41 => ?_) (fun h41 => ?_)
      · skip
        rw [show (4 : Int32) = nI 4 from rfl, nI_leI (by omega) (by omega)] at h41
        have e9 : e = 4 := by omega
        subst e9
        refine PW.iret rfl rfl trivial ?_
        exact ⟨rfl, rfl⟩
      · skip
        rw [show (4 : Int32) = nI 4 from rfl, nI_leI (by omega) (by omega)] at h41
        have he4 : e < 4 := by omega
        have ei : nI (5 - r) * 4 + nI e = nI (4 * (5 - r) + e) := by rw [show (4 : Int32) = nI 4 from rfl, pk_mul, nI_add, Nat.mul_comm]
        refine PW.ige rfl ⟨trivial, (by rw [ei]; exact vp_in_nI (by omega) (by decide))⟩ (fun h58 => ?_) (fun h58 => ?_)
        · skip
          rw [ei, nI_clamp (by omega), h27 _ _ (by omega) he4, nI_leI (by omega) (by omega)] at h58
          refine PW.goto rfl trivial ?_
          rw [nI_1]
          refine PW.nl [8, 9, 10] ?_
          refine PW.lc ?_ (ih (e + 1) (by omega) (by omega))
          simp only [chm]
          rw [if_neg (by omega)]; rfl
        · skip
          rw [ei, nI_clamp (by omega), h27 _ _ (by omega) he4, nI_leI (by omega) (by omega)] at h58
          rw [ei, nI_clamp (by omega), h27 _ _ (by omega) he4]
          refine PW.zne rfl trivial (fun h64 => ?_) (fun h64 => ?_)
          · skip
            have q64 : e ≠ 0 := fun z => h64 (by rw [z]; rfl)
            refine PW.ine rfl trivial (fun h75 => ?_) (fun h75 => ?_)
            · skip
              rw [show (1 : Int32) = nI 1 from rfl, nI_eq (by omega) (by omega)] at h75
              refine PW.to 85 rfl trivial ?_
              exact join85 he4 (by omega) _ (by rw [dA, if_neg q64, if_neg h75]; rfl)
            · skip
              rw [show (1 : Int32) = nI 1 from rfl, nI_eq (by omega) (by omega)] at h75
              refine PW.goto rfl trivial ?_
              exact join85 he4 (by omega) _ (by rw [dA, if_neg q64, if_pos h75, Int32.ofInt_neg, ← oi_n])
          · skip
            have q64 : e = 0 := by rw [show (0 : Int32) = nI 0 from rfl, nI_eq (by omega) (by omega)] at h64; exact h64
            refine PW.goto rfl trivial ?_
            exact join85 he4 (by omega) _ (by rw [dA, if_pos q64]; exact oi_n _)
  refine PW.zlt rfl trivial (fun h1 => ?_) (fun h1 => ?_)
  · exact absurd h1 (nI_pos (by omega))
  · skip
    skip
    refine PW.ilt rfl trivial (fun h7 => ?_) (fun h7 => ?_)
    · skip
      refine PW.to 38 rfl ⟨trivial, vp_in_nI (by omega) (by decide)⟩ ?_
      rw [nI_clamp (by omega), h28 (5 - r) (by omega)]
      exact loop38 5 0 (by omega) (by omega)
    · exfalso
      rw [show (6 : Int32) = nI 6 from rfl, nI_ltI (by omega) (by omega)] at h7
      omega
theorem c_cheap {pv : Nat → Nat → Nat} {sz : Nat → Nat} (hpv : ∀ l e, pv l e ≤ FAR) (hsz : ∀ l, sz l ≤ 36) (h27 : ∀ l e, l < 6 → e < 4 → M.1 27 (4 * l + e) = nI (pv l e)) (h28 : ∀ l, l < 6 → M.1 28 l = nI (sz l)) : ∀ (r : Nat), r ≤ 6 → ∀ a b : Int, (-36 * (6 - r) ≤ a ∧ a ≤ 36 * (6 - r)) → (-36 * (6 - r) ≤ b ∧ b ≤ 36 * (6 - r)) → PF X l mX4_cheapest (r + 1) [.ref 27, .ref 28, .int (nI (6 - r)), .int (Int32.ofInt a), .int (Int32.ofInt b)] G0 M (.int (nI (chq pv sz r a b)))
  | 0, _, a, b, h1, h2 => c_chp0 hpv hsz h27 h28 a b (by omega) (by omega)
  | r + 1, hr, a, b, h1, h2 => by
    have q := c_chps (X := X) (l := l) hpv hsz h27 h28 r (by omega) (c_cheap hpv hsz h27 h28 r (by omega)) a b (by omega) (by omega)
    rw [show 6 - (r + 1) = 5 - r by omega]
    exact q
theorem c_few {w h : Nat} {mp dr hd : Nat → Nat} {wy : Nat} {vt : Nat → Nat} (F : Sf w h mp dr hd wy vt) (C : CM w h mp dr hd wy vt M) (a s t : Nat) (ha : a < 3) (hs : s < 3) (hab : a ≠ s) (ht : t = 3 - a - s) : PC X l mX4_fewestToTurn 8 [.ref 25, .int (nI a), .int (nI s), .ref 4] G0 M (fun v M' => v = some (.int (ob (bst (prc vt a s t) (fun x => many dr x (w * h)) 4096))) ∧ FC [27, 28] [] M M') := by
  refine PC.ofW okX4_fewestToTurn ?_
  have hn := F.1.n
  have hF6 : FAR = 1000000 := rfl
  have loop12 : ∀ k : Nat, ∀ (j : Nat) (M2 : Mem), j ≤ 6 → FC [27, 28] [] M M2 → (∀ l e, l < j → e < 4 → M2.1 27 (4 * l + e) = nI (pvl (prq vt a s t l e))) → (∀ x, 4 * j ≤ x → x < 24 → M2.1 27 x = nI FAR) → (∀ l, l < j → M2.1 28 l = nI (many dr l (w * h))) → 6 - j < k → PW X l mX4_fewestToTurn 8 (fun v M' => v = some (.int (ob (bst (prc vt a s t) (fun x => many dr x (w * h)) 4096))) ∧ FC [27, 28] [] M M') 12 [.ref 25, .int (nI a), .int (nI s), .ref 4, .int (nI j)] [] G0 M2 := by
    intro k
    induction k with
    | zero => intro j M2 hj hF hp hz hs8 hk; exact absurd hk (Nat.not_lt_zero _)
    | succ k ih =>
      intro j M2 hj hF hp hz hs8 hk
      have C2 := C.fc hF
      refine PW.ige rfl trivial (fun h16 => ?_) (fun h16 => ?_)
      · skip
        rw [i6 (by omega)] at h16
        have e9 : j = 6 := by omega
        subst e9
        refine PW.funS rfl trivial sX4_56 rfl (by decide) rfl (show PF X l mX4_cheapest 7 [.ref 27, .ref 28, .int 0, .int 0, .int 0] G0 M2 (.int (nI (chq (fun l e => pvl (prq vt a s t l e)) (fun x => many dr x (w * h)) 6 0 0))) from c_cheap (pv := fun l e => pvl (prq vt a s t l e)) (sz := fun x => many dr x (w * h)) (fun l e => pvl_le (fun k q => by have := (fnd_some.mp q).1; have := F.2.2 (3 * l + a); omega)) (fun x => by have := many_le dr x (w * h); omega) hp hs8 6 (by omega) 0 0 (by omega) (by omega)) ?_
        have hcl := chq_le (fun l e => pvl (prq vt a s t l e)) (fun x => many dr x (w * h)) 6 0 0
        have hte := turn_eq (vt := vt) F.2.2 (a := a) (s := s) (t := t) (sz := fun x => many dr x (w * h))
        refine PW.ige rfl trivial (fun h66 => ?_) (fun h66 => ?_)
        · skip
          rw [show (1000000 : Int32) = nI 1000000 from rfl, nI_leI (by omega) (by omega)] at h66
          rw [if_neg (by omega)] at hte
          refine PW.iret rfl rfl trivial ?_
          exact ⟨by rw [← hte], hF⟩
        · skip
          rw [show (1000000 : Int32) = nI 1000000 from rfl, nI_leI (by omega) (by omega)] at h66
          rw [if_pos (by omega)] at hte
          refine PW.goto rfl trivial ?_
          refine PW.iret rfl rfl trivial ?_
          exact ⟨by rw [← hte], hF⟩
      · skip
        rw [i6 (by omega)] at h16
        refine PW.funV rfl trivial sX4_40 rfl rfl (by decide) rfl (c_siz4 j (by omega) F.1.g C2.1 F.1.d C2.2.2.1) ?_
        refine PW.callV rfl ⟨trivial, vp_in_nI (by omega) (by decide)⟩ sX4_52 rfl rfl (by decide) rfl (show PC X l mX4_setPrices 2 [.ref 25, .int (nI j), .int (nI a), .int (nI s)] G0 (va_up M2.1 28 (upd (M2.1 28) (nI j).toNatClampNeg (nI (many dr j (w * h)))), M2.2) (fun v M3 => v = none ∧ FC [27] [] (va_up M2.1 28 (upd (M2.1 28) j (nI (many dr j (w * h)))), M2.2) M3 ∧ (∀ e, e < 4 → M3.1 27 (4 * j + e) = nI (pvl (prq vt a s t j e))) ∧ ∀ x, (x < 4 * j ∨ 4 * j + 4 ≤ x) → M3.1 27 x = M2.1 27 x) from by rw [nI_clamp (by omega)]; exact c_prices (M := (va_up M2.1 28 (upd (M2.1 28) j (nI (many dr j (w * h)))), M2.2)) F.2.2 C2.2.2.2.2 a s t j ha hs hab ht (by omega) (fun e he => hz _ (by omega) (by omega))) (fun v37 M37 hq37 => ?_)
        obtain ⟨rfl, hF3, hp3, ho3⟩ := hq37
        refine PW.goto rfl trivial ?_
        rw [nI_1]
        refine ih (j + 1) _ (by omega) ((FC.pi (M2 := M2) hF).tr hF3.mono) (fun l e hl he => ?_) (fun x h1 h2 => ?_) (fun l hl => ?_) (by omega)
        · by_cases q : l = j
          · subst q; exact hp3 e he
          · rw [ho3 _ (by omega)]; exact hp l e (by omega) he
        · rw [ho3 _ (by omega)]; exact hz x (by omega) h2
        · rw [hF3.i 28]
          by_cases q : l = j
          · subst q; exact up_s
          · exact (up_n q).trans (hs8 l (by omega))
  refine PW.callS rfl trivial sX4_46 rfl (by decide) rfl (j_fill27 1000000) (fun v6 M6 hq6 => ?_)
  obtain ⟨rfl, rfl⟩ := hq6
  refine PW.to 12 rfl trivial ?_
  exact loop12 7 0 _ (by omega) FC.rf.pi (fun l e hl => absurd hl (Nat.not_lt_zero l)) (fun x h1 h2 => by show va_up M.1 27 _ 27 x = _; simp only [va_up, if_true]; rw [if_pos h2]; rfl) (fun l hl => absurd hl (Nat.not_lt_zero l)) (by omega)
theorem mos_rng (x y z : Nat) : mos x y z = -9 ∨ ∃ a, a < 3 ∧ mos x y z = nI a := by
  rw [mos_who]
  by_cases q : whoN x y z = 3
  · rw [if_pos q]; exact Or.inl rfl
  · rw [if_neg q]; exact Or.inr ⟨_, by have := whoN_le x y z; omega, rfl⟩
theorem r_turn {w h : Nat} {mp dr hd : Nat → Nat} {wy : Nat} {vt : Nat → Nat} (F : Sf w h mp dr hd wy vt) (C : CM w h mp dr hd wy vt M) (sd : Int32) : PC X l mX7_turn 9 [.ref 0, .int sd] G0 M (fun v M' => v = some (.int (if okl 2 sd = true then (if ldr (w * h) mp dr vt 1 = -9 ∨ ldr (w * h) mp dr vt 1 = sd then -3 else ob (bst (prc vt (tn (ldr (w * h) mp dr vt 1)) (tn sd) (3 - tn (ldr (w * h) mp dr vt 1) - tn sd)) (fun x => many dr x (w * h)) 4096)) else -1)) ∧ (CM w h mp dr hd wy vt M' ∧ FN M M')) := by
  refine PC.ofW okX7_turn ?_
  have hn := F.1.n
  refine PW.funS rfl trivial sX7_203 rfl (by decide) rfl (u_isSide _) ?_
  refine PW.zne rfl trivial (fun h4 => ?_) (fun h4 => ?_)
  · skip
    rw [bo_ne] at h4
    obtain ⟨i, hi, rfl⟩ := okl_x (m := 2) h4
    have ti : tn (nI i) = i := tn_nI (by omega)
    refine PW.funV rfl trivial sX7_220 rfl rfl (by decide) rfl (c_ldr F C 1 (by omega)) ?_
    refine PW.ieq rfl trivial (fun h18 => ?_) (fun h18 => ?_)
    · skip
      have hst : ldr (w * h) mp dr vt 1 = -9 ∨ ldr (w * h) mp dr vt 1 = nI i := Or.inl h18
      refine PW.iret rfl rfl trivial ?_
      exact ⟨by rw [h4, if_pos rfl, if_pos hst], C, FN.rf⟩
    · skip
      skip
      refine PW.ine rfl trivial (fun h23 => ?_) (fun h23 => ?_)
      · skip
        have hst : ¬ (ldr (w * h) mp dr vt 1 = -9 ∨ ldr (w * h) mp dr vt 1 = nI i) := fun q => q.elim h18 h23
        obtain ⟨a, ha, ea⟩ : ∃ a, a < 3 ∧ ldr (w * h) mp dr vt 1 = nI a := (mos_rng _ _ _).resolve_left h18
        have ta : tn (nI a) = a := tn_nI (by omega)
        have hai : a ≠ i := fun z => h23 (by rw [ea, z])
        refine PW.callV rfl trivial sX7_223 rfl rfl (by decide) rfl (show PC X l mX4_fewestToTurn 8 [.ref 25, .int (ldr (w * h) mp dr vt 1), .int (nI i), .ref 4] G0 M (fun v M' => v = some (.int (ob (bst (prc vt a i (3 - a - i)) (fun x => many dr x (w * h)) 4096))) ∧ FC [27, 28] [] M M') from by rw [ea]; exact c_few F C a i _ ha (by omega) hai rfl) (fun v39 M39 hq39 => ?_)
        obtain ⟨rfl, hF1⟩ := hq39
        refine PW.iret rfl rfl trivial ?_
        exact ⟨by rw [h4, if_pos rfl, if_neg hst, ea, ta, ti], C.fc hF1, hF1.fn⟩
      · skip
        have hst : ldr (w * h) mp dr vt 1 = -9 ∨ ldr (w * h) mp dr vt 1 = nI i := Or.inr h23
        refine PW.iret rfl rfl trivial ?_
        exact ⟨by rw [h4, if_pos rfl, if_pos hst], C, FN.rf⟩
  · skip
    rw [bo_eq] at h4
    refine PW.iret rfl rfl trivial ?_
    exact ⟨by rw [h4]; rfl, C, FN.rf⟩
end C9
