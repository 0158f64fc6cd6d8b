/-! the shortest chains: who reaches one that has less, in how many links -/
def dk (h : Nat → Nat → Bool) (T : Nat → Bool) : Nat → Nat → Bool
  | 0, a => T a
  | k + 1, a => dk h T k a || bex (fun b => h a b && dk h T k b) 6
theorem dk_up {h : Nat → Nat → Bool} {T : Nat → Bool} {k a : Nat} (q : dk h T k a = true) : dk h T (k + 1) a = true := by simp [dk, q]
theorem dk_st {h : Nat → Nat → Bool} {T : Nat → Bool} {k a b : Nat} (hb : b < 6) (e : h a b = true) (q : dk h T k b = true) : dk h T (k + 1) a = true := by
  simp only [dk, Bool.or_eq_true]
  exact Or.inr (bex_iff.mpr ⟨b, hb, by simp [e, q]⟩)
theorem dk_same {h : Nat → Nat → Bool} {T : Nat → Bool} {k : Nat} (e : ∀ a, a < 6 → dk h T (k + 1) a = dk h T k a) : ∀ m a, a < 6 → dk h T (k + m) a = dk h T k a
  | 0, a, _ => rfl
  | m + 1, a, ha => by
    have ih := dk_same e m
    have e2 : dk h T (k + m + 1) a = dk h T (k + 1) a := by
      simp only [dk]
      rw [ih a ha]
      congr 1
      exact bex_cong (fun b hb => by rw [ih b hb])
    rw [show k + (m + 1) = k + m + 1 from rfl, e2]
    exact e a ha
theorem ct_eq {p q : Nat → Bool} : ∀ {n : Nat}, (∀ k, k < n → p k = true → q k = true) → fb_ct q n ≤ fb_ct p n → ∀ k, k < n → q k = p k
  | 0, _, _, k, hk => absurd hk (Nat.not_lt_zero k)
  | n + 1, h, hc, k, hk => by
    have h1 := fb_ct_sub (p := p) (q := q) (n := n) (fun k hk => h k (by omega))
    rw [fb_ct_succ, fb_ct_succ] at hc
    have hn := h n (by omega)
    have e : q n = p n := by
      cases hp : p n with
      | true => exact hn hp
      | false =>
        cases hq : q n with
        | false => rfl
        | true => rw [hp, hq] at hc; simp at hc; omega
    rcases Nat.lt_or_ge k n with z | z
    · exact ct_eq (fun k hk => h k (by omega)) (by rw [e] at hc; omega) k z
    · rw [show k = n by omega]; exact e
theorem dk_six (h : Nat → Nat → Bool) (T : Nat → Bool) : ∀ a, a < 6 → dk h T 6 a = dk h T 5 a := by
  have key : ∀ k, (∃ j, j ≤ k ∧ ∀ a, a < 6 → dk h T (j + 1) a = dk h T j a) ∨ k + 1 ≤ fb_ct (dk h T k) 6 ∨ ∀ a, a < 6 → dk h T 0 a = false := by
    intro k
    induction k with
    | zero =>
      rcases Nat.eq_zero_or_pos (fb_ct (dk h T 0) 6) with z | z
      · exact Or.inr (Or.inr (fb_ct_zero.mp z))
      · exact Or.inr (Or.inl z)
    | succ k ih =>
      rcases ih with ⟨j, h1, h2⟩ | h1 | h1
      · exact Or.inl ⟨j, by omega, h2⟩
      · rcases Nat.lt_or_ge (fb_ct (dk h T k) 6) (fb_ct (dk h T (k + 1)) 6) with z | z
        · exact Or.inr (Or.inl (by omega))
        · exact Or.inl ⟨k, by omega, ct_eq (fun a _ q => dk_up q) z⟩
      · exact Or.inr (Or.inr h1)
  intro a ha
  rcases key 6 with ⟨j, h1, h2⟩ | h1 | h1
  · rcases Nat.lt_or_ge j 6 with z | z
    · have e1 := dk_same h2 (5 - j) a ha
      have e2 := dk_same h2 (6 - j) a ha
      rw [show j + (5 - j) = 5 by omega] at e1
      rw [show j + (6 - j) = 6 by omega] at e2
      rw [e1, e2]
    · have : j = 6 := by omega
      subst this
      rcases key 5 with ⟨j, h1, h3⟩ | h1 | h1
      · have e1 := dk_same h3 (5 - j) a ha
        have e2 := dk_same h3 (6 - j) a ha
        rw [show j + (5 - j) = 5 by omega] at e1
        rw [show j + (6 - j) = 6 by omega] at e2
        rw [e1, e2]
      · have hl := fb_ct_le (dk h T 5) 6
        exact ct_eq (p := dk h T 5) (q := dk h T 6) (fun a _ q => dk_up q) (by have := fb_ct_le (dk h T 6) 6; omega) a ha
      · have h0 : ∀ a, a < 6 → dk h T 1 a = dk h T 0 a := fun a ha => by
          simp only [dk]
          have : bex (fun b => h a b && T b) 6 = bex (fun _ => false) 6 := bex_cong (fun b hb => by have := h1 b hb; simp only [dk] at this; simp [this])
          rw [this]; simp [bex]
        have e1 := dk_same h0 5 a ha
        have e2 := dk_same h0 6 a ha
        rw [show 0 + 5 = 5 from rfl] at e1
        rw [show 0 + 6 = 6 from rfl] at e2
        rw [e1, e2]
  · have := fb_ct_le (dk h T 6) 6
    omega
  · have h0 : ∀ a, a < 6 → dk h T 1 a = dk h T 0 a := fun a ha => by
      simp only [dk]
      have : bex (fun b => h a b && T b) 6 = bex (fun _ => false) 6 := bex_cong (fun b hb => by have := h1 b hb; simp only [dk] at this; simp [this])
      rw [this]; simp [bex]
    have e1 := dk_same h0 5 a ha
    have e2 := dk_same h0 6 a ha
    rw [show 0 + 5 = 5 from rfl] at e1
    rw [show 0 + 6 = 6 from rfl] at e2
    rw [e1, e2]
/-- how many lands the shortest way takes; F where there is none -/
def dn (h : Nat → Nat → Bool) (T : Nat → Bool) (F a : Nat) : Nat := match fnd (fun k => dk h T k a) 6 with
  | some k => k + 1
  | none => F
theorem dn_T {h : Nat → Nat → Bool} {T : Nat → Bool} {F a : Nat} (q : T a = true) : dn h T F a = 1 := by
  have : fnd (fun k => dk h T k a) 6 = some 0 := fnd_some.mpr ⟨by decide, q, fun d hd => absurd hd (Nat.not_lt_zero d)⟩
  simp [dn, this]
theorem dn_fin {h : Nat → Nat → Bool} {T : Nat → Bool} {F a k : Nat} (hk : k < 6) (q : dk h T k a = true) : dn h T F a ≤ k + 1 := by
  unfold dn
  cases e : fnd (fun k => dk h T k a) 6 with
  | none => rw [fnd_none.mp e k hk] at q; cases q
  | some j =>
    have := (fnd_some.mp e).2.2
    dsimp only
    rcases Nat.lt_or_ge k j with z | z
    · rw [this k z] at q; cases q
    · omega
theorem dn_le {h : Nat → Nat → Bool} {T : Nat → Bool} {F a : Nat} (hF : 7 ≤ F) : dn h T F a ≤ F := by
  unfold dn
  cases e : fnd (fun k => dk h T k a) 6 with
  | none => exact Nat.le_refl _
  | some j => have := (fnd_some.mp e).1; dsimp only; omega
theorem dn_pos {h : Nat → Nat → Bool} {T : Nat → Bool} {F a : Nat} (hF : 7 ≤ F) : 1 ≤ dn h T F a := by
  unfold dn
  cases fnd (fun k => dk h T k a) 6 with
  | none => dsimp only; omega
  | some j => dsimp only; omega
/-- an edge makes at most one link more -/
theorem dn_tri {h : Nat → Nat → Bool} {T : Nat → Bool} {F a b : Nat} (hF : 7 ≤ F) (ha : a < 6) (hb : b < 6) (e : h a b = true) : dn h T F a ≤ dn h T F b + 1 := by
  cases eb : fnd (fun k => dk h T k b) 6 with
  | none =>
    have : dn h T F b = F := by simp [dn, eb]
    have := dn_le (h := h) (T := T) (a := a) hF
    omega
  | some j =>
    have e1 : dn h T F b = j + 1 := by simp [dn, eb]
    have hj := fnd_some.mp eb
    have h2 := dk_st hb e hj.2.1
    rcases Nat.lt_or_ge (j + 1) 6 with z | z
    · have := dn_fin (F := F) z h2
      omega
    · have : j = 5 := by omega
      subst this
      have h3 : dk h T 5 a = true := by rw [← dk_six h T a ha]; exact h2
      have := dn_fin (F := F) (by decide) h3
      omega
/-- one that is not at its end has an edge to one that is a link nearer -/
theorem dn_edge {h : Nat → Nat → Bool} {T : Nat → Bool} {F a : Nat} (hF : 7 ≤ F) (ha : a < 6) (h1 : 2 ≤ dn h T F a) (h2 : dn h T F a ≤ 6) : ∃ b, b < 6 ∧ h a b = true ∧ dn h T F b + 1 = dn h T F a := by
  cases e : fnd (fun k => dk h T k a) 6 with
  | none => have : dn h T F a = F := by simp [dn, e]
            omega
  | some j =>
    have e1 : dn h T F a = j + 1 := by simp [dn, e]
    obtain ⟨q1, q2, q3⟩ := fnd_some.mp e
    cases j with
    | zero => omega
    | succ j =>
      have q4 := q3 j (by omega)
      simp only [dk, q4, Bool.false_or] at q2
      obtain ⟨b, hb, hq⟩ := bex_iff.mp q2
      simp only [Bool.and_eq_true] at hq
      refine ⟨b, hb, hq.1, ?_⟩
      have h3 := dn_fin (F := F) (h := h) (T := T) (show j < 6 by omega) hq.2
      have h4 := dn_tri (T := T) hF ha hb hq.1
      omega
/-- the estimates of a relaxation: r rounds are done, of the next the rows ahead of a, of row a the columns ahead of b -/
def Rx (h : Nat → Nat → Bool) (T : Nat → Bool) (F : Nat) (est : Nat → Nat) (r a b : Nat) : Prop :=
  (∀ j, j < 6 → dn h T F j ≤ est j ∧ est j ≤ F) ∧ (∀ j, j < 6 → dn h T F j ≤ r + 1 → dn h T F j ≤ 6 → est j ≤ dn h T F j) ∧ (∀ j, j < 6 → j < a → dn h T F j ≤ r + 2 → dn h T F j ≤ 6 → est j ≤ dn h T F j) ∧ ∀ j, j < 6 → j < b → h a j = true → dn h T F j ≤ r + 1 → dn h T F j ≤ 5 → est a ≤ dn h T F j + 1
theorem Rx.col {h : Nat → Nat → Bool} {T : Nat → Bool} {F : Nat} {est : Nat → Nat} {r a b : Nat} (hF : 7 ≤ F) (ha : a < 6) (hb : b < 6) (H : Rx h T F est r a b) : Rx h T F (fun j => if j = a ∧ h a b = true ∧ est b + 1 < est a then est b + 1 else est j) r a (b + 1) := by
  have hle : ∀ j, (if j = a ∧ h a b = true ∧ est b + 1 < est a then est b + 1 else est j) ≤ est j := by
    intro j
    split
    · rename_i q; rw [q.1]; omega
    · exact Nat.le_refl _
  refine ⟨fun j hj => ⟨?_, Nat.le_trans (hle j) (H.1 j hj).2⟩, fun j hj h1 h2 => Nat.le_trans (hle j) (H.2.1 j hj h1 h2), fun j hj h0 h1 h2 => Nat.le_trans (hle j) (H.2.2.1 j hj h0 h1 h2), fun j hj h0 h1 h2 h3 => ?_⟩
  · dsimp only
    split
    · rename_i q
      have := dn_tri (T := T) hF ha hb q.2.1
      have := (H.1 b hb).1
      rw [q.1]; omega
    · exact (H.1 j hj).1
  · by_cases e : j = b
    · subst e
      have h4 := H.2.1 j hj h2 (by omega)
      dsimp only
      by_cases q : est j + 1 < est a
      · rw [if_pos ⟨rfl, h1, q⟩]; omega
      · rw [if_neg (fun z => q z.2.2)]; omega
    · exact Nat.le_trans (hle a) (H.2.2.2 j hj (by omega) h1 h2 h3)
theorem Rx.row {h : Nat → Nat → Bool} {T : Nat → Bool} {F : Nat} {est : Nat → Nat} {r a : Nat} (hF : 7 ≤ F) (ha : a < 6) (H : Rx h T F est r a 6) : Rx h T F est r (a + 1) 0 := by
  refine ⟨H.1, H.2.1, fun j hj h0 h1 h2 => ?_, fun j _ h0 => absurd h0 (Nat.not_lt_zero j)⟩
  by_cases e : j = a
  · subst e
    by_cases q : dn h T F j ≤ r + 1
    · exact H.2.1 j hj q h2
    · obtain ⟨b, hb, h3, h4⟩ := dn_edge (T := T) hF hj (by omega) h2
      have := H.2.2.2 b hb hb h3 (by omega) (by omega)
      omega
  · exact H.2.2.1 j hj (by omega) h1 h2
theorem Rx.round {h : Nat → Nat → Bool} {T : Nat → Bool} {F : Nat} {est : Nat → Nat} {r : Nat} (H : Rx h T F est r 6 0) : Rx h T F est (r + 1) 0 0 :=
  ⟨H.1, fun j hj h1 h2 => H.2.2.1 j hj hj h1 h2, fun j _ h0 => absurd h0 (Nat.not_lt_zero j), fun j _ h0 => absurd h0 (Nat.not_lt_zero j)⟩
theorem Rx.start {h : Nat → Nat → Bool} {T : Nat → Bool} {F : Nat} (hF : 7 ≤ F) : Rx h T F (fun j => if T j = true then 1 else F) 0 0 0 := by
  refine ⟨fun j hj => ?_, fun j hj h1 h2 => ?_, fun j _ h0 => absurd h0 (Nat.not_lt_zero j), fun j _ h0 => absurd h0 (Nat.not_lt_zero j)⟩
  · dsimp only
    split
    · rename_i q; rw [dn_T q]; omega
    · exact ⟨dn_le hF, Nat.le_refl _⟩
  · dsimp only
    split
    · rename_i q; rw [dn_T q]; exact Nat.le_refl _
    · rename_i q
      exfalso
      have h3 := dn_pos (h := h) (T := T) (a := j) hF
      unfold dn at h1 h2 h3
      cases e : fnd (fun k => dk h T k j) 6 with
      | none => rw [e] at h2; dsimp only at h2; omega
      | some k =>
        rw [e] at h1
        dsimp only at h1
        have hk := fnd_some.mp e
        have : k = 0 := by omega
        subst this
        exact q hk.2.1
theorem Rx.done {h : Nat → Nat → Bool} {T : Nat → Bool} {F : Nat} {est : Nat → Nat} {r : Nat} (hr : 5 ≤ r) (H : Rx h T F est r 0 0) (j : Nat) (hj : j < 6) : est j = dn h T F j := by
  have h1 := H.1 j hj
  cases e : fnd (fun k => dk h T k j) 6 with
  | none =>
    have : dn h T F j = F := by simp [dn, e]
    omega
  | some k =>
    have e1 : dn h T F j = k + 1 := by simp [dn, e]
    have hk := (fnd_some.mp e).1
    have := H.2.1 j hj (by omega) (by omega)
    omega
