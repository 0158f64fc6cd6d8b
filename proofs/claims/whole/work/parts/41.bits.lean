/-! sets of cells as longs: mk P has the bit i where P i -/
theorem wb_tb (n : Nat) : (lN n).toBitVec = BitVec.ofNat 64 n := rfl
theorem wb_inj {a b : Int64} (h : a.toBitVec = b.toBitVec) : a = b := Int64.toBitVec_inj.mp h
theorem wb_tn {n : Nat} (h : n < 2 ^ 64) : (lN n).toBitVec.toNat = n := by rw [wb_tb, BitVec.toNat_ofNat, Nat.mod_eq_of_lt h]
theorem wb_c : ∀ k, k < 64 → ((nI k).toInt64 &&& 63) = lN k := by decide +kernel
theorem wb_cu : ∀ k, k < 64 → ((nI k).toInt64.toUInt64 &&& Int64.toUInt64 63) = UInt64.ofNat k := by decide +kernel
theorem wb_sm : ∀ k, k < 64 → (BitVec.ofNat 64 k).smod 64 = BitVec.ofNat 64 k := by decide +kernel
theorem wb_shr {n k : Nat} (hn : n < 2 ^ 64) (hk : k < 64) : ((lN n).toUInt64 >>> ((nI k).toInt64.toUInt64 &&& Int64.toUInt64 63)).toInt64 = lN (n / 2 ^ k) := by
  rw [wb_cu k hk]
  apply wb_inj
  apply BitVec.eq_of_toNat_eq
  show ((lN n).toUInt64 >>> UInt64.ofNat k).toNat = (BitVec.ofNat 64 _).toNat
  have h1 : (UInt64.ofNat k).toNat = k := by
    show (BitVec.ofNat 64 k).toNat = k
    rw [BitVec.toNat_ofNat, Nat.mod_eq_of_lt (by omega)]
  have h2 : (lN n).toUInt64.toNat = n := wb_tn hn
  rw [UInt64.toNat_shiftRight, h1, h2, Nat.mod_eq_of_lt hk, Nat.shiftRight_eq_div_pow, BitVec.toNat_ofNat, Nat.mod_eq_of_lt (Nat.lt_of_le_of_lt (Nat.div_le_self _ _) hn)]
theorem wb_and {a b : Nat} (ha : a < 2 ^ 64) (hb : b < 2 ^ 64) : lN a &&& lN b = lN (a &&& b) := by
  apply wb_inj
  rw [Int64.toBitVec_and, wb_tb, wb_tb, wb_tb]
  apply BitVec.eq_of_toNat_eq
  rw [BitVec.toNat_and, BitVec.toNat_ofNat, BitVec.toNat_ofNat, BitVec.toNat_ofNat, Nat.mod_eq_of_lt ha, Nat.mod_eq_of_lt hb, Nat.mod_eq_of_lt (Nat.and_lt_two_pow _ hb)]
def bmn (P : Nat → Bool) : Nat → Nat
  | 0 => 0
  | n + 1 => bmn P n ||| (if P n = true then 2 ^ n else 0)
theorem bmn_bit (P : Nat → Bool) (i : Nat) : ∀ n, (bmn P n).testBit i = (decide (i < n) && P i)
  | 0 => by simp [bmn]
  | n + 1 => by
    rw [bmn, Nat.testBit_or, bmn_bit P i n]
    by_cases e : i = n
    · subst e
      cases h : P i with
      | false => simp
      | true => simp [Nat.testBit_two_pow]
    · have : decide (i < n + 1) = decide (i < n) := decide_eq_decide.mpr (by omega)
      rw [this]
      split
      · rw [Nat.testBit_two_pow]; simp [Ne.symm e]
      · simp
theorem bmn_lt (P : Nat → Bool) : ∀ n, bmn P n < 2 ^ n
  | 0 => by simp [bmn]
  | n + 1 => by
    have h := bmn_lt P n
    have h2 : 2 ^ n < 2 ^ (n + 1) := Nat.pow_lt_pow_right (by decide) (by omega)
    rw [bmn]
    refine Nat.or_lt_two_pow (by omega) ?_
    split
    · exact h2
    · exact Nat.two_pow_pos _
def mk (P : Nat → Bool) : Int64 := lN (bmn P 64)
def gb (x : Int64) (i : Nat) : Bool := x.toBitVec.getLsbD i
theorem gb_ext {x y : Int64} (h : ∀ i, i < 64 → gb x i = gb y i) : x = y := Int64.toBitVec_inj.mp (BitVec.eq_of_getLsbD_eq (fun i hi => h i hi))
theorem gb_mk {P : Nat → Bool} {i : Nat} (hi : i < 64) : gb (mk P) i = P i := by
  unfold gb mk
  rw [wb_tb, BitVec.getLsbD_ofNat, bmn_bit]
  simp [hi]
theorem mk_eq {x : Int64} {P : Nat → Bool} (h : ∀ i, i < 64 → gb x i = P i) : x = mk P := gb_ext (fun i hi => by rw [h i hi, gb_mk hi])
theorem mk_cong {P Q : Nat → Bool} (h : ∀ i, i < 64 → P i = Q i) : mk P = mk Q := gb_ext (fun i hi => by rw [gb_mk hi, gb_mk hi, h i hi])
theorem mk_inj {P Q : Nat → Bool} : mk P = mk Q ↔ ∀ i, i < 64 → P i = Q i := ⟨fun h i hi => by have := congrArg (fun x => gb x i) h; simpa [gb_mk hi] using this, mk_cong⟩
theorem mk_and {P Q : Nat → Bool} : mk P &&& mk Q = mk (fun i => P i && Q i) := mk_eq (fun i hi => by
  show (mk P &&& mk Q).toBitVec.getLsbD i = _
  rw [Int64.toBitVec_and, BitVec.getLsbD_and]
  show (gb (mk P) i && gb (mk Q) i) = _
  rw [gb_mk hi, gb_mk hi])
theorem mk_or {P Q : Nat → Bool} : mk P ||| mk Q = mk (fun i => P i || Q i) := mk_eq (fun i hi => by
  show (mk P ||| mk Q).toBitVec.getLsbD i = _
  rw [Int64.toBitVec_or, BitVec.getLsbD_or]
  show (gb (mk P) i || gb (mk Q) i) = _
  rw [gb_mk hi, gb_mk hi])
theorem gb_m1 : ∀ i, i < 64 → gb (-1) i = true := by decide +kernel
theorem mk_not {P : Nat → Bool} : mk P ^^^ (-1) = mk (fun i => !P i) := mk_eq (fun i hi => by
  show (mk P ^^^ (-1)).toBitVec.getLsbD i = _
  rw [Int64.toBitVec_xor, BitVec.getLsbD_xor]
  show (gb (mk P) i ^^ gb (-1) i) = _
  rw [gb_mk hi, gb_m1 i hi, Bool.xor_true])
theorem mk_shl {P : Nat → Bool} {k : Nat} (hk : k < 64) : mk P <<< ((nI k).toInt64 &&& 63) = mk (fun i => decide (k ≤ i) && P (i - k)) := mk_eq (fun i hi => by
  show (mk P <<< ((nI k).toInt64 &&& 63)).toBitVec.getLsbD i = _
  have e : (BitVec.ofNat 64 k).toNat = k := by rw [BitVec.toNat_ofNat, Nat.mod_eq_of_lt (by omega)]
  rw [wb_c k hk, Int64.toBitVec_shiftLeft, wb_tb, wb_sm k hk, BitVec.shiftLeft_eq', e, BitVec.getLsbD_shiftLeft]
  rcases Nat.lt_or_ge i k with h | h
  · simp [h, Nat.not_le.mpr h]
  · show (decide (i < 64) && !decide (i < k) && gb (mk P) (i - k)) = _
    rw [gb_mk (by omega)]
    simp [hi, h, Nat.not_lt.mpr h])
theorem mk_shr {P : Nat → Bool} {k : Nat} (hk : k < 64) : ((mk P).toUInt64 >>> ((nI k).toInt64.toUInt64 &&& Int64.toUInt64 63)).toInt64 = mk (fun i => decide (i + k < 64) && P (i + k)) := by
  unfold mk
  rw [wb_shr (bmn_lt P 64) hk]
  refine mk_eq (fun i hi => ?_)
  show (lN _).toBitVec.getLsbD i = _
  rw [wb_tb, BitVec.getLsbD_ofNat, Nat.testBit_div_two_pow, bmn_bit]
  simp [hi]
theorem mk_0 : (0 : Int64) = mk (fun _ => false) := mk_eq (fun i _ => BitVec.getLsbD_zero)
theorem gb_1 : ∀ i, i < 64 → gb 1 i = decide (i = 0) := by decide +kernel
theorem mk_1 : (1 : Int64) = mk (fun i => decide (i = 0)) := mk_eq gb_1
theorem mk_bit {c : Nat} (hc : c < 64) : (1 : Int64) <<< ((nI c).toInt64 &&& 63) = mk (fun i => decide (i = c)) := by
  rw [mk_1, mk_shl hc]
  refine mk_cong (fun i hi => ?_)
  by_cases e : i = c
  · subst e; simp
  · by_cases z : c ≤ i
    · have : ¬ i - c = 0 := by omega
      simp [e, this]
    · simp [e, z]
theorem mk_z {P : Nat → Bool} : mk P = 0 ↔ ∀ i, i < 64 → P i = false := by rw [mk_0, mk_inj]
theorem mk_test {P : Nat → Bool} {c : Nat} (hc : c < 64) : (((mk P).toUInt64 >>> ((nI c).toInt64.toUInt64 &&& Int64.toUInt64 63)).toInt64 &&& 1) = 0 ↔ P c = false := by
  rw [mk_shr hc, mk_1, mk_and, mk_z]
  constructor
  · intro h
    have := h 0 (by omega)
    simpa [hc] using this
  · intro h i hi
    by_cases e : i = 0
    · subst e; simp [h]
    · simp [e]
theorem gb_neg (x : Int64) {i : Nat} (hi : i < 64) : gb (-x) i = (gb x i ^^ decide (∃ j, j < i ∧ gb x j = true)) := by
  unfold gb
  rw [Int64.toBitVec_neg, BitVec.getLsbD_neg]
  simp [hi]
theorem sub1 (x : Int64) : x - 1 = (-x) ^^^ (-1) := by
  have ha : (-1 : Int64).toBitVec = BitVec.allOnes 64 := by decide
  apply wb_inj
  rw [Int64.toBitVec_xor, ha, BitVec.xor_allOnes, Int64.toBitVec_neg, BitVec.not_neg]
  rfl
theorem gb_sub1 (x : Int64) {i : Nat} (hi : i < 64) : gb (x - 1) i = !(gb x i ^^ decide (∃ j, j < i ∧ gb x j = true)) := by
  rw [sub1]
  show ((-x) ^^^ (-1)).toBitVec.getLsbD i = _
  rw [Int64.toBitVec_xor, BitVec.getLsbD_xor]
  show (gb (-x) i ^^ gb (-1) i) = _
  rw [gb_neg x hi, gb_m1 i hi, Bool.xor_true]
/-- c is the least of P -/
def Lst (P : Nat → Bool) (c : Nat) : Prop := c < 64 ∧ P c = true ∧ ∀ j, j < c → P j = false
theorem Lst.ex {P : Nat → Bool} (h : ¬ mk P = 0) : ∃ c, Lst P c := by
  rw [mk_z] at h
  have : ∃ i, i < 64 ∧ P i = true := by
    apply Classical.byContradiction
    intro hn
    exact h (fun i hi => by cases e : P i with
      | false => rfl
      | true => exact absurd ⟨i, hi, e⟩ hn)
  obtain ⟨i, h1, h2, h3⟩ := fb_first (p := fun i => P i = true) this
  exact ⟨i, h1, h2, fun j hj => by simpa using h3 j hj⟩
theorem Lst.some {P : Nat → Bool} {c i : Nat} (h : Lst P c) (hi : i < 64) : decide (∃ j, j < i ∧ gb (mk P) j = true) = decide (c < i) := by
  apply decide_eq_decide.mpr
  constructor
  · rintro ⟨j, h1, h2⟩
    rw [gb_mk (by omega)] at h2
    apply Classical.byContradiction
    intro z
    rw [h.2.2 j (by omega)] at h2
    cases h2
  · intro z
    exact ⟨c, z, by rw [gb_mk h.1]; exact h.2.1⟩
theorem mk_low {P : Nat → Bool} {c : Nat} (h : Lst P c) : mk P &&& -mk P = mk (fun i => decide (i = c)) := mk_eq (fun i hi => by
  show (mk P &&& -mk P).toBitVec.getLsbD i = _
  rw [Int64.toBitVec_and, BitVec.getLsbD_and]
  show (gb (mk P) i && gb (-mk P) i) = _
  rw [gb_neg _ hi, h.some hi, gb_mk hi]
  rcases Nat.lt_trichotomy i c with z | z | z
  · rw [h.2.2 i z]; simp; omega
  · rw [z, h.2.1]; simp
  · have : ¬ i = c := by omega
    cases P i <;> simp [z, this])
theorem mk_drop {P : Nat → Bool} {c : Nat} (h : Lst P c) : mk P &&& (mk P - 1) = mk (fun i => P i && !decide (i = c)) := mk_eq (fun i hi => by
  show (mk P &&& (mk P - 1)).toBitVec.getLsbD i = _
  rw [Int64.toBitVec_and, BitVec.getLsbD_and]
  show (gb (mk P) i && gb (mk P - 1) i) = _
  rw [gb_sub1 _ hi, h.some hi, gb_mk hi]
  rcases Nat.lt_trichotomy i c with z | z | z
  · rw [h.2.2 i z]; simp
  · rw [z, h.2.1]; simp
  · have : ¬ i = c := by omega
    cases P i <;> simp [z, this])
theorem mk_below {c : Nat} (hc : c < 64) : mk (fun i => decide (i = c)) - 1 = mk (fun i => decide (i < c)) := mk_eq (fun i hi => by
  have h : Lst (fun i => decide (i = c)) c := ⟨hc, by simp, fun j hj => by simp; omega⟩
  rw [gb_sub1 _ hi, h.some hi, gb_mk hi]
  rcases Nat.lt_trichotomy i c with z | z | z
  · have h1 : ¬ i = c := by omega
    have h2 : ¬ c < i := by omega
    simp [h1, h2, z]
  · simp [z]
  · have h1 : ¬ i = c := by omega
    have h2 : ¬ i < c := by omega
    simp [h1, h2, z])
/-! how many bits -/
theorem and_split {a b c d : Nat} (ha : a < 256) (hc : c < 256) : (a + 256 * b) &&& (c + 256 * d) = (a &&& c) + 256 * (b &&& d) := by
  have h1 : ((a + 256 * b) &&& (c + 256 * d)) % 2 ^ 8 = a &&& c := by
    rw [Nat.and_mod_two_pow]; congr 1 <;> omega
  have h2 : ((a + 256 * b) &&& (c + 256 * d)) / 2 ^ 8 = b &&& d := by
    rw [Nat.and_div_two_pow]; congr 1 <;> omega
  omega
def B8 (a0 a1 a2 a3 a4 a5 a6 a7 : Nat) : Nat := a0 + 256 * (a1 + 256 * (a2 + 256 * (a3 + 256 * (a4 + 256 * (a5 + 256 * (a6 + 256 * a7))))))
theorem and8 {a0 a1 a2 a3 a4 a5 a6 a7 c : Nat} (h0 : a0 < 256) (h1 : a1 < 256) (h2 : a2 < 256) (h3 : a3 < 256) (h4 : a4 < 256) (h5 : a5 < 256) (h6 : a6 < 256) (hc : c < 256) : B8 a0 a1 a2 a3 a4 a5 a6 a7 &&& B8 c c c c c c c c = B8 (a0 &&& c) (a1 &&& c) (a2 &&& c) (a3 &&& c) (a4 &&& c) (a5 &&& c) (a6 &&& c) (a7 &&& c) := by
  unfold B8
  rw [and_split h0 hc, and_split h1 hc, and_split h2 hc, and_split h3 hc, and_split h4 hc, and_split h5 hc, and_split h6 hc]
def pb1 (b : Nat) : Nat := b - (b / 2 &&& 85)
def pb2 (m : Nat) : Nat := (m &&& 51) + (m / 4 &&& 51)
def pb3 (u : Nat) : Nat := (u + u / 16) &&& 15
theorem pb_1 : ∀ b, b < 256 → ∀ c, c < 2 → (b / 2 + 128 * c) &&& 85 = b / 2 &&& 85 ∧ b / 2 &&& 85 ≤ b ∧ pb1 b < 256 := by decide +kernel
theorem pb_2 : ∀ m, m < 256 → ∀ c, c < 4 → (m / 4 + 64 * c) &&& 51 = m / 4 &&& 51 ∧ m &&& 51 ≤ 51 ∧ m / 4 &&& 51 ≤ 51 := by decide +kernel
theorem pb_u : ∀ b, b < 256 → pb2 (pb1 b) ≤ 68 := by decide +kernel
theorem pb_3 : ∀ u, u < 69 → ∀ c, c < 5 → (u + (u / 16 + 16 * c)) &&& 15 = pb3 u ∧ (u + (u / 16 + 16 * c)) < 256 := by decide +kernel
theorem pb_c : ∀ b, b < 256 → pb3 (pb2 (pb1 b)) = fb_ct (fun i => b.testBit i) 8 := by decide +kernel
theorem pb_n : ∀ b, b < 256 → pb2 (pb1 b) % 16 ≤ 4 := by decide +kernel
theorem sw_1 {a0 a1 a2 a3 a4 a5 a6 a7 : Nat} (h0 : a0 < 256) (h1 : a1 < 256) (h2 : a2 < 256) (h3 : a3 < 256) (h4 : a4 < 256) (h5 : a5 < 256) (h6 : a6 < 256) (h7 : a7 < 256) : B8 a0 a1 a2 a3 a4 a5 a6 a7 - (B8 a0 a1 a2 a3 a4 a5 a6 a7 / 2 &&& 6148914691236517205) = B8 (pb1 a0) (pb1 a1) (pb1 a2) (pb1 a3) (pb1 a4) (pb1 a5) (pb1 a6) (pb1 a7) ∧ (B8 a0 a1 a2 a3 a4 a5 a6 a7 / 2 &&& 6148914691236517205) ≤ B8 a0 a1 a2 a3 a4 a5 a6 a7 := by
  have e : B8 a0 a1 a2 a3 a4 a5 a6 a7 / 2 = B8 (a0 / 2 + 128 * (a1 % 2)) (a1 / 2 + 128 * (a2 % 2)) (a2 / 2 + 128 * (a3 % 2)) (a3 / 2 + 128 * (a4 % 2)) (a4 / 2 + 128 * (a5 % 2)) (a5 / 2 + 128 * (a6 % 2)) (a6 / 2 + 128 * (a7 % 2)) (a7 / 2 + 128 * (0 % 2)) := by unfold B8; omega
  have ec : (6148914691236517205 : Nat) = B8 85 85 85 85 85 85 85 85 := by decide
  rw [e, ec, and8 (by omega) (by omega) (by omega) (by omega) (by omega) (by omega) (by omega) (by omega)]
  have q0 := pb_1 a0 h0 (a1 % 2) (by omega)
  have q1 := pb_1 a1 h1 (a2 % 2) (by omega)
  have q2 := pb_1 a2 h2 (a3 % 2) (by omega)
  have q3 := pb_1 a3 h3 (a4 % 2) (by omega)
  have q4 := pb_1 a4 h4 (a5 % 2) (by omega)
  have q5 := pb_1 a5 h5 (a6 % 2) (by omega)
  have q6 := pb_1 a6 h6 (a7 % 2) (by omega)
  have q7 := pb_1 a7 h7 (0 % 2) (by omega)
  rw [q0.1, q1.1, q2.1, q3.1, q4.1, q5.1, q6.1, q7.1]
  unfold pb1 B8
  omega
theorem sw_2 {a0 a1 a2 a3 a4 a5 a6 a7 : Nat} (h0 : a0 < 256) (h1 : a1 < 256) (h2 : a2 < 256) (h3 : a3 < 256) (h4 : a4 < 256) (h5 : a5 < 256) (h6 : a6 < 256) (h7 : a7 < 256) : (B8 a0 a1 a2 a3 a4 a5 a6 a7 &&& 3689348814741910323) + (B8 a0 a1 a2 a3 a4 a5 a6 a7 / 4 &&& 3689348814741910323) = B8 (pb2 a0) (pb2 a1) (pb2 a2) (pb2 a3) (pb2 a4) (pb2 a5) (pb2 a6) (pb2 a7) := by
  have e : B8 a0 a1 a2 a3 a4 a5 a6 a7 / 4 = B8 (a0 / 4 + 64 * (a1 % 4)) (a1 / 4 + 64 * (a2 % 4)) (a2 / 4 + 64 * (a3 % 4)) (a3 / 4 + 64 * (a4 % 4)) (a4 / 4 + 64 * (a5 % 4)) (a5 / 4 + 64 * (a6 % 4)) (a6 / 4 + 64 * (a7 % 4)) (a7 / 4 + 64 * (0 % 4)) := by unfold B8; omega
  have ec : (3689348814741910323 : Nat) = B8 51 51 51 51 51 51 51 51 := by decide
  rw [e, ec, and8 (by omega) (by omega) (by omega) (by omega) (by omega) (by omega) (by omega) (by omega), and8 (by omega) (by omega) (by omega) (by omega) (by omega) (by omega) (by omega) (by omega)]
  rw [(pb_2 a0 h0 (a1 % 4) (by omega)).1, (pb_2 a1 h1 (a2 % 4) (by omega)).1, (pb_2 a2 h2 (a3 % 4) (by omega)).1, (pb_2 a3 h3 (a4 % 4) (by omega)).1, (pb_2 a4 h4 (a5 % 4) (by omega)).1, (pb_2 a5 h5 (a6 % 4) (by omega)).1, (pb_2 a6 h6 (a7 % 4) (by omega)).1, (pb_2 a7 h7 (0 % 4) (by omega)).1]
  unfold pb2 B8
  omega
theorem sw_3 {a0 a1 a2 a3 a4 a5 a6 a7 : Nat} (h0 : a0 < 69) (h1 : a1 < 69 ∧ a1 % 16 < 5) (h2 : a2 < 69 ∧ a2 % 16 < 5) (h3 : a3 < 69 ∧ a3 % 16 < 5) (h4 : a4 < 69 ∧ a4 % 16 < 5) (h5 : a5 < 69 ∧ a5 % 16 < 5) (h6 : a6 < 69 ∧ a6 % 16 < 5) (h7 : a7 < 69 ∧ a7 % 16 < 5) : (B8 a0 a1 a2 a3 a4 a5 a6 a7 + B8 a0 a1 a2 a3 a4 a5 a6 a7 / 16) &&& 1085102592571150095 = B8 (pb3 a0) (pb3 a1) (pb3 a2) (pb3 a3) (pb3 a4) (pb3 a5) (pb3 a6) (pb3 a7) := by
  have e : B8 a0 a1 a2 a3 a4 a5 a6 a7 + B8 a0 a1 a2 a3 a4 a5 a6 a7 / 16 = B8 (a0 + (a0 / 16 + 16 * (a1 % 16))) (a1 + (a1 / 16 + 16 * (a2 % 16))) (a2 + (a2 / 16 + 16 * (a3 % 16))) (a3 + (a3 / 16 + 16 * (a4 % 16))) (a4 + (a4 / 16 + 16 * (a5 % 16))) (a5 + (a5 / 16 + 16 * (a6 % 16))) (a6 + (a6 / 16 + 16 * (a7 % 16))) (a7 + (a7 / 16 + 16 * (0 % 16))) := by unfold B8; omega
  have ec : (1085102592571150095 : Nat) = B8 15 15 15 15 15 15 15 15 := by decide
  rw [e, ec, and8 (by omega) (by omega) (by omega) (by omega) (by omega) (by omega) (by omega) (by omega)]
  rw [(pb_3 a0 h0 (a1 % 16) h1.2).1, (pb_3 a1 h1.1 (a2 % 16) h2.2).1, (pb_3 a2 h2.1 (a3 % 16) h3.2).1, (pb_3 a3 h3.1 (a4 % 16) h4.2).1, (pb_3 a4 h4.1 (a5 % 16) h5.2).1, (pb_3 a5 h5.1 (a6 % 16) h6.2).1, (pb_3 a6 h6.1 (a7 % 16) h7.2).1, (pb_3 a7 h7.1 (0 % 16) (by omega)).1]
theorem sw_4 {a0 a1 a2 a3 a4 a5 a6 a7 x4 x5 x6 : Nat} (h0 : a0 < 9) (h1 : a1 < 9) (h2 : a2 < 9) (h3 : a3 < 9) (h4 : a4 < 9) (h5 : a5 < 9) (h6 : a6 < 9) (h7 : a7 < 9) (e4 : x4 = B8 a0 a1 a2 a3 a4 a5 a6 a7 + B8 a0 a1 a2 a3 a4 a5 a6 a7 / 256) (e5 : x5 = x4 + x4 / 65536) (e6 : x6 = x5 + x5 / 4294967296) : x6 % 128 = a0 + a1 + a2 + a3 + a4 + a5 + a6 + a7 ∧ x6 < 2 ^ 63 := by
  have f4 : x4 = B8 (a0 + a1) (a1 + a2) (a2 + a3) (a3 + a4) (a4 + a5) (a5 + a6) (a6 + a7) a7 := by rw [e4]; unfold B8; omega
  have f5 : x5 = B8 (a0 + a1 + a2 + a3) (a1 + a2 + a3 + a4) (a2 + a3 + a4 + a5) (a3 + a4 + a5 + a6) (a4 + a5 + a6 + a7) (a5 + a6 + a7) (a6 + a7) a7 := by rw [e5, f4]; unfold B8; omega
  have f6 : x6 = B8 (a0 + a1 + a2 + a3 + a4 + a5 + a6 + a7) (a1 + a2 + a3 + a4 + a5 + a6 + a7) (a2 + a3 + a4 + a5 + a6 + a7) (a3 + a4 + a5 + a6 + a7) (a4 + a5 + a6 + a7) (a5 + a6 + a7) (a6 + a7) a7 := by rw [e6, f5]; unfold B8; omega
  rw [f6]; unfold B8
  omega
theorem ct_byte (n j : Nat) : fb_ct (fun i => n.testBit (8 * j + i)) 8 = fb_ct (fun i => (n / 256 ^ j % 256).testBit i) 8 := fb_ct_cong (fun i hi => by
  rw [show 256 = 2 ^ 8 from rfl, Nat.testBit_mod_two_pow, ← Nat.pow_mul, Nat.testBit_div_two_pow, Nat.add_comm]
  simp [hi])
theorem ct_64 (n : Nat) : fb_ct (fun i => n.testBit i) 64 = fb_ct (fun i => (n % 256).testBit i) 8 + fb_ct (fun i => (n / 256 % 256).testBit i) 8 + fb_ct (fun i => (n / 65536 % 256).testBit i) 8 + fb_ct (fun i => (n / 16777216 % 256).testBit i) 8 + fb_ct (fun i => (n / 4294967296 % 256).testBit i) 8 + fb_ct (fun i => (n / 1099511627776 % 256).testBit i) 8 + fb_ct (fun i => (n / 281474976710656 % 256).testBit i) 8 + fb_ct (fun i => (n / 72057594037927936 % 256).testBit i) 8 := by
  have s : ∀ k, fb_ct (fun i => n.testBit i) (8 * k + 8) = fb_ct (fun i => n.testBit i) (8 * k) + fb_ct (fun i => (n / 256 ^ k % 256).testBit i) 8 := fun k => by
    rw [fb_ct_split, ct_byte]
  have s0 := s 0
  have s1 := s 1
  have s2 := s 2
  have s3 := s 3
  have s4 := s 4
  have s5 := s 5
  have s6 := s 6
  have s7 := s 7
  have z : fb_ct (fun i => n.testBit i) (8 * 0) = 0 := rfl
  simp only [Nat.reducePow, Nat.reduceMul, Nat.reduceAdd, Nat.div_one] at s0 s1 s2 s3 s4 s5 s6 s7 z
  omega
