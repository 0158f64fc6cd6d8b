/-! the class's field and sheets; what lies beside what -/
def Gf (w h : Nat) : Prop := 2 ≤ w ∧ w ≤ 6 ∧ 2 ≤ h ∧ h ≤ 6
def Gm (w h : Nat) (M : Mem) : Prop := M.1 1 0 = nI w ∧ M.1 1 1 = nI h ∧ M.2 1 2 = mk (fun i => decide (i < w * h)) ∧ M.2 1 3 = mk (fun i => decide (i < w * h ∧ i % w = 0)) ∧ M.2 1 4 = mk (fun i => decide (i < w * h ∧ i % w = w - 1))
def Sh (b : Nat) (f : Nat → Nat) (M : Mem) : Prop := ∀ k, k < 6 → M.2 b k = mk (fun i => decide (f i = k))
theorem Wf.g {w h : Nat} {mp dr : Nat → Nat} (H : Wf w h mp dr) : Gf w h := ⟨H.1, H.2.1, H.2.2.1, H.2.2.2.1⟩
theorem Gf.n {w h : Nat} (H : Gf w h) : w * h ≤ 36 := wh_le H.2.1 H.2.2.2
theorem Gf.p {w h : Nat} (H : Gf w h) : 4 ≤ w * h := Nat.mul_le_mul H.1 H.2.2.1
theorem Gm.wh {w h : Nat} {M : Mem} (H : Gm w h M) : M.1 1 0 * M.1 1 1 = nI (w * h) := by rw [H.1, H.2.1, pk_mul]
theorem adj_comm (w a b : Nat) : adj w a b = adj w b a := by unfold adj; rw [ad_comm (a % w), ad_comm (a / w)]
theorem adj4 : ∀ w, w < 7 → 2 ≤ w → ∀ i, i < 36 → ∀ j, j < 36 → adj w j i = (decide (j + 1 = i ∧ i % w ≠ 0) || decide (i + 1 = j ∧ j % w ≠ 0) || decide (j + w = i) || decide (i + w = j)) := by decide +kernel
theorem edge4 : ∀ w, w < 7 → 2 ≤ w → ∀ k, k < 36 → (k % w = w - 1 ↔ (k + 1) % w = 0) := by decide +kernel
/-- those that lie beside one of P -/
def rim (w n : Nat) (P : Nat → Bool) : Nat → Bool := fun i => decide (i < n) && bex (fun j => P j && adj w j i) n
theorem rim_iff {w n : Nat} {P : Nat → Bool} {i : Nat} : rim w n P i = true ↔ i < n ∧ ∃ j, j < n ∧ P j = true ∧ adj w j i = true := by
  unfold rim
  rw [Bool.and_eq_true, decide_eq_true_eq, bex_iff]
  constructor
  · rintro ⟨h1, j, h2, h3⟩
    rw [Bool.and_eq_true] at h3
    exact ⟨h1, j, h2, h3.1, h3.2⟩
  · rintro ⟨h1, j, h2, h3, h4⟩
    exact ⟨h1, j, h2, by rw [h3, h4]; rfl⟩
theorem rim_num {w h : Nat} (H : Gf w h) {P : Nat → Bool} (hP : ∀ i, w * h ≤ i → P i = false) : ((((mk P &&& (mk (fun i => decide (i < w * h ∧ i % w = w - 1)) ^^^ (-1))) <<< ((1 : Int32).toInt64 &&& 63) ||| ((mk P &&& (mk (fun i => decide (i < w * h ∧ i % w = 0)) ^^^ (-1))).toUInt64 >>> ((1 : Int32).toInt64.toUInt64 &&& Int64.toUInt64 63)).toInt64) ||| mk P <<< ((nI w).toInt64 &&& 63)) ||| ((mk P).toUInt64 >>> ((nI w).toInt64.toUInt64 &&& Int64.toUInt64 63)).toInt64) &&& mk (fun i => decide (i < w * h)) = mk (rim w (w * h) P) := by
  have hn := H.n
  have hw1 := H.1
  have hw2 := H.2.1
  rw [show (1 : Int32) = nI 1 from rfl, mk_not, mk_not, mk_and, mk_and, mk_shl (by decide), mk_shr (by decide), mk_shl (by omega), mk_shr (by omega), mk_or, mk_or, mk_or, mk_and]
  refine mk_cong (fun i hi => ?_)
  by_cases hin : i < w * h
  · rw [Bool.eq_iff_iff, rim_iff]
    simp only [Bool.and_eq_true, Bool.or_eq_true, decide_eq_true_eq, Bool.not_eq_true', decide_eq_false_iff_not]
    constructor
    · rintro ⟨((⟨h1, h2, h3⟩ | ⟨h1, h2, h3⟩) | ⟨h1, h2⟩) | ⟨h1, h2⟩, -⟩
      · refine ⟨hin, i - 1, by omega, h2, ?_⟩
        rw [adj4 w (by omega) hw1 i (by omega) (i - 1) (by omega)]
        have e := edge4 w (by omega) hw1 (i - 1) (by omega)
        rw [Nat.sub_add_cancel h1] at e
        have : i % w ≠ 0 := fun z => h3 ⟨by omega, e.mpr z⟩
        simp [Nat.sub_add_cancel h1, this]
      · have hlt : i + 1 < w * h := by
          apply Classical.byContradiction
          intro z
          rw [hP (i + 1) (by omega)] at h2; cases h2
        refine ⟨hin, i + 1, hlt, h2, ?_⟩
        rw [adj4 w (by omega) hw1 i (by omega) (i + 1) (by omega)]
        have : (i + 1) % w ≠ 0 := fun z => h3 ⟨hlt, z⟩
        simp [this]
      · refine ⟨hin, i - w, by omega, h2, ?_⟩
        rw [adj4 w (by omega) hw1 i (by omega) (i - w) (by omega)]
        simp [Nat.sub_add_cancel h1]
      · have hlt : i + w < w * h := by
          apply Classical.byContradiction
          intro z
          rw [hP (i + w) (by omega)] at h2; cases h2
        refine ⟨hin, i + w, hlt, h2, ?_⟩
        rw [adj4 w (by omega) hw1 i (by omega) (i + w) (by omega)]
        simp
    · rintro ⟨-, j, h1, h2, h3⟩
      rw [adj4 w (by omega) hw1 i (by omega) j (by omega)] at h3
      simp only [Bool.or_eq_true, decide_eq_true_eq] at h3
      refine ⟨?_, hin⟩
      rcases h3 with ((h3 | h3) | h3) | h3
      · refine Or.inl (Or.inl (Or.inl ⟨by omega, by rw [show i - 1 = j by omega]; exact h2, ?_⟩))
        rintro ⟨-, z⟩
        rw [show i - 1 = j by omega, edge4 w (by omega) hw1 j (by omega), h3.1] at z
        exact h3.2 z
      · refine Or.inl (Or.inl (Or.inr ⟨by omega, by rw [h3.1]; exact h2, ?_⟩))
        rintro ⟨-, z⟩
        rw [h3.1] at z
        exact h3.2 z
      · exact Or.inl (Or.inr ⟨by omega, by rw [show i - w = j by omega]; exact h2⟩)
      · exact Or.inr ⟨by omega, by rw [h3]; exact h2⟩
  · have e : rim w (w * h) P i = false := by unfold rim; simp [hin]
    rw [e]; simp [hin]
theorem rim_out {w n : Nat} {P : Nat → Bool} {i : Nat} (h : n ≤ i) : rim w n P i = false := by
  unfold rim; simp; omega
theorem ct_cut {P : Nat → Bool} {n : Nat} (h : ∀ i, n ≤ i → P i = false) (hn : n ≤ 64) : fb_ct P 64 = fb_ct P n := by
  have e := fb_ct_split P n (64 - n)
  rw [show n + (64 - n) = 64 by omega] at e
  rw [e, fb_ct_zero (p := fun k => P (n + k)).mpr (fun k _ => h _ (by omega)), Nat.add_zero]
/-- cells that hang together with c, as a set -/
noncomputable def cnb (P : Nat → Bool) (w c : Nat) : Nat → Bool := fun i => @decide (Cn P w c i) (Classical.propDecidable _)
theorem cnb_iff {P : Nat → Bool} {w c i : Nat} : cnb P w c i = true ↔ Cn P w c i := by unfold cnb; exact @decide_eq_true_iff _ (Classical.propDecidable _)
