/-! how few votes turn it -/
def whoN (x y z : Nat) : Nat := if y < x ∧ z < x then 0 else if x < y ∧ z < y then 1 else if x < z ∧ y < z then 2 else 3
theorem whoN_le (x y z : Nat) : whoN x y z ≤ 3 := by unfold whoN; split <;> (try split) <;> (try split) <;> decide
theorem mos_who (x y z : Nat) : mos x y z = if whoN x y z = 3 then -9 else nI (whoN x y z) := by
  unfold mos whoN
  split
  · rfl
  · split
    · rfl
    · split <;> rfl
/-- the least number of votes for each end -/
def prc (vt : Nat → Nat) (a s t l e : Nat) : Option Nat := fnd (fun k => decide (whoN (vt (3 * l + a) - k) (vt (3 * l + s) + k) (vt (3 * l + t)) = e)) (vt (3 * l + a) + 1)
def tc (pr : Nat → Nat → Option Nat) (e : Nat → Nat) : Nat → Option Nat
  | 0 => some 0
  | k + 1 => match tc pr e k, pr k (e k) with
    | some a, some b => some (a + b)
    | _, _ => none
def xs (sz e : Nat → Nat) (v k : Nat) : Nat := fb_sm (fun l => if e l = v then sz l else 0) k
def cd (i l : Nat) : Nat := i / 4 ^ l % 4
def bst (pr : Nat → Nat → Option Nat) (sz : Nat → Nat) : Nat → Option Nat
  | 0 => none
  | i + 1 => match tc pr (cd i) 6 with
    | none => bst pr sz i
    | some c => if xs sz (cd i) 0 6 < xs sz (cd i) 1 6 ∧ xs sz (cd i) 2 6 < xs sz (cd i) 1 6 ∧ (match bst pr sz i with
      | none => true
      | some b => decide (c < b)) = true then some c else bst pr sz i
def op (o : Option Nat) : Int32 := match o with
  | none => nI 1000000000
  | some k => nI k
def IsG (p : Nat → Bool) (N lo : Nat) (o : Option Nat) : Prop := match o with
  | none => ∀ j, lo ≤ j → j < N → p j = false
  | some b => lo ≤ b ∧ b < N ∧ p b = true ∧ ∀ j, lo ≤ j → j < b → p j = false
theorem IsG.step {p : Nat → Bool} {N lo : Nat} {o : Option Nat} (h : IsG p N (lo + 1) o) (hl : lo < N) : IsG p N lo (if p lo = true then some lo else o) := by
  split
  · rename_i q
    exact ⟨Nat.le_refl _, hl, q, fun j h1 h2 => by omega⟩
  · rename_i q
    cases o with
    | none =>
      intro j h1 h2
      rcases Nat.eq_or_lt_of_le h1 with z | z
      · subst z; simpa using q
      · exact h j (by omega) h2
    | some b =>
      refine ⟨by have := h.1; omega, h.2.1, h.2.2.1, fun j h1 h2 => ?_⟩
      rcases Nat.eq_or_lt_of_le h1 with z | z
      · subst z; simpa using q
      · exact h.2.2.2 j (by omega) h2
theorem IsG.fnd {p : Nat → Bool} {N : Nat} {o : Option Nat} (h : IsG p N 0 o) : fnd p N = o := by
  cases o with
  | none => exact fnd_none.mpr (fun j hj => h j (Nat.zero_le _) hj)
  | some b => exact fnd_some.mpr ⟨h.2.1, h.2.2.1, fun j hj => h.2.2.2 j (Nat.zero_le _) hj⟩
theorem cd_lt (i l : Nat) : cd i l < 4 := Nat.mod_lt _ (by decide)
theorem cd_num {i l : Nat} (hi : i < 4096) (hl : l < 6) : (nI i >>> ((2 : Int32) * nI l &&& 31)) &&& 3 = nI (cd i l) := by
  have h1 : ∀ l, l < 6 → (((2 : Int32) * nI l &&& 31).toBitVec.smod 32).toNat = 2 * l := by decide +kernel
  rw [pk_shrN (by omega) _ (2 * l) (h1 l hl), pk_andN (Nat.lt_of_le_of_lt (Nat.div_le_self _ _) (by omega)) 2 (by decide)]
  unfold cd
  rw [show (4 : Nat) ^ l = 2 ^ (2 * l) from by rw [Nat.pow_mul]]
theorem tc_le {pr : Nat → Nat → Option Nat} {e : Nat → Nat} (hp : ∀ l x k, pr l x = some k → k ≤ 999) : ∀ {k c : Nat}, tc pr e k = some c → c ≤ 999 * k
  | 0, c, h => by simp [tc] at h; omega
  | k + 1, c, h => by
    simp only [tc] at h
    cases e1 : tc pr e k with
    | none => rw [e1] at h; simp at h
    | some a =>
      cases e2 : pr k (e k) with
      | none => rw [e1, e2] at h; simp at h
      | some b =>
        rw [e1, e2] at h
        simp at h
        have := tc_le hp e1
        have := hp _ _ _ e2
        omega
theorem bst_le {pr : Nat → Nat → Option Nat} {sz : Nat → Nat} (hp : ∀ l x k, pr l x = some k → k ≤ 999) : ∀ {i c : Nat}, bst pr sz i = some c → c ≤ 5994
  | 0, c, h => by simp [bst] at h
  | i + 1, c, h => by
    simp only [bst] at h
    cases e1 : tc pr (cd i) 6 with
    | none => rw [e1] at h; exact bst_le hp h
    | some a =>
      rw [e1] at h
      dsimp only at h
      have key : ∀ (P : Prop) (_ : Decidable P), (if P then some a else bst pr sz i) = some c → c ≤ 5994 := fun P _ h => by
        by_cases q : P
        · rw [if_pos q] at h; cases h; exact tc_le hp e1
        · rw [if_neg q] at h; exact bst_le hp h
      exact key _ _ h
theorem prc_le {vt : Nat → Nat} (hv : ∀ k, vt k ≤ 999) {a s t l e k : Nat} (h : prc vt a s t l e = some k) : k ≤ 999 := by
  have := (fnd_some.mp h).1
  have := hv (3 * l + a)
  omega
theorem xs_le {n : Nat} {f e : Nat → Nat} {v : Nat} (hn : n ≤ 36) : ∀ k, xs (fun l => many f l n) e v k ≤ 36 * k
  | 0 => Nat.le_refl _
  | k + 1 => by
    have ih := xs_le (f := f) (e := e) (v := v) hn k
    have := many_le f k n
    simp only [xs, fb_sm] at ih ⊢
    split <;> omega
theorem op_eq {o : Option Nat} (h : ∀ k, o = some k → k < 1000000000) : op o = 1000000000 ↔ o = none := by
  cases o with
  | none => simp [op]; rfl
  | some k =>
    have := h k rfl
    simp only [op, reduceCtorEq, iff_false]
    rw [show (1000000000 : Int32) = nI 1000000000 from rfl, nI_eq (by omega) (by omega)]
    omega
