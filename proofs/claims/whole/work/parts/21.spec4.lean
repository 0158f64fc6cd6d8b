/-! the chain -/
noncomputable def hnd (w n : Nat) (dr : Nat → Nat) (a b : Nat) : Bool := !decide (a = b) && (fnd (fun c => decide (dr c = a) && mayh w n dr c b) n).isSome
def hasless (n : Nat) (dr du : Nat → Nat) (a : Nat) : Bool := decide (many dr a n < du a)
def hasmore (n : Nat) (dr du : Nat → Nat) (a : Nat) : Bool := decide (du a < many dr a n)
theorem dn_F (h : Nat → Nat → Bool) (T : Nat → Bool) (F a : Nat) : dn h T F a = if dn h T 7 a ≤ 6 then dn h T 7 a else F := by
  unfold dn
  cases e : fnd (fun k => dk h T k a) 6 with
  | none => simp
  | some k => have := (fnd_some.mp e).1; dsimp only; rw [if_pos (by omega)]
def cst (h : Nat → Nat → Bool) (T mr : Nat → Bool) : Option Nat := pg (fun a b => decide (dn h T 7 a < dn h T 7 b)) (fun a => mr a && decide (dn h T 7 a ≤ 6)) 6
def cnx (h : Nat → Nat → Bool) (T : Nat → Bool) (a : Nat) : Option Nat := fnd (fun b => h a b && decide (dn h T 7 b + 1 = dn h T 7 a)) 6
def chn (h : Nat → Nat → Bool) (T : Nat → Bool) (s : Nat) : Nat → Nat
  | 0 => s
  | i + 1 => (cnx h T (chn h T s i)).getD 0
theorem cnx_some {h : Nat → Nat → Bool} {T : Nat → Bool} {a : Nat} (ha : a < 6) (h1 : 2 ≤ dn h T 7 a) (h2 : dn h T 7 a ≤ 6) : ∃ b, cnx h T a = some b ∧ b < 6 ∧ dn h T 7 b + 1 = dn h T 7 a ∧ h a b = true := by
  cases e : cnx h T a with
  | none =>
    obtain ⟨b, hb, h3, h4⟩ := dn_edge (T := T) (F := 7) (Nat.le_refl _) ha h1 h2
    have := fnd_none.mp e b hb
    simp [h3, h4] at this
  | some b =>
    have := fnd_some.mp e
    simp only [Bool.and_eq_true, decide_eq_true_eq] at this
    exact ⟨b, rfl, this.1, this.2.1.2, this.2.1.1⟩
theorem chn_ok {h : Nat → Nat → Bool} {T : Nat → Bool} {s : Nat} (hs : s < 6) (h2 : dn h T 7 s ≤ 6) : ∀ i, i < dn h T 7 s → chn h T s i < 6 ∧ dn h T 7 (chn h T s i) + i = dn h T 7 s
  | 0, _ => ⟨hs, rfl⟩
  | i + 1, hi => by
    obtain ⟨h3, h4⟩ := chn_ok hs h2 i (by omega)
    obtain ⟨b, e, hb, h5, -⟩ := cnx_some (h := h) (T := T) h3 (by omega) (by omega)
    simp only [chn, e, Option.getD_some]
    exact ⟨hb, by omega⟩
/-- the least of the ok ones from lo on whose key is least -/
def IsM (D : Nat → Nat) (ok : Nat → Bool) (lo : Nat) (o : Option Nat) : Prop := match o with
  | none => ∀ j, lo ≤ j → j < 6 → ok j = false
  | some b => lo ≤ b ∧ b < 6 ∧ ok b = true ∧ ∀ j, lo ≤ j → j < 6 → ok j = true → D b ≤ D j ∧ (j < b → D b < D j)
theorem IsM.one {D : Nat → Nat} {ok : Nat → Bool} {lo : Nat} {o o2 : Option Nat} (h1 : IsM D ok lo o) (h2 : IsM D ok lo o2) : o = o2 := by
  cases o with
  | none =>
    cases o2 with
    | none => rfl
    | some b => have := h2.2.2.1; rw [h1 b h2.1 h2.2.1] at this; cases this
  | some a =>
    cases o2 with
    | none => have := h1.2.2.1; rw [h2 a h1.1 h1.2.1] at this; cases this
    | some b =>
      have q1 := h1.2.2.2 b h2.1 h2.2.1 h2.2.2.1
      have q2 := h2.2.2.2 a h1.1 h1.2.1 h1.2.2.1
      rcases Nat.lt_trichotomy a b with z | z | z
      · have := q2.2 z; omega
      · rw [z]
      · have := q1.2 z; omega
theorem IsM.step {D : Nat → Nat} {ok : Nat → Bool} {lo : Nat} {o : Option Nat} (h : IsM D ok (lo + 1) o) (hl : lo < 6) : IsM D ok lo (if ok lo = true ∧ (∀ b, o = some b → D lo ≤ D b) then some lo else o) := by
  split
  · rename_i q
    refine ⟨Nat.le_refl _, hl, q.1, fun j h1 h2 h3 => ?_⟩
    rcases Nat.eq_or_lt_of_le h1 with z | z
    · subst z; exact ⟨Nat.le_refl _, fun y => absurd y (Nat.lt_irrefl _)⟩
    · cases o with
      | none => rw [h j (by omega) h2] at h3; cases h3
      | some b =>
        have h4 := h.2.2.2 j (by omega) h2 h3
        have h5 := q.2 b rfl
        exact ⟨by omega, fun y => by omega⟩
  · rename_i q
    cases o with
    | none =>
      intro j h1 h2
      rcases Nat.eq_or_lt_of_le h1 with z | z
      · subst z
        cases hk : ok lo with
        | false => rfl
        | true => exact absurd ⟨hk, fun b e => by cases e⟩ q
      · exact h j (by omega) h2
    | some b =>
      obtain ⟨h1, h2, h3, h4⟩ := h
      refine ⟨by omega, h2, h3, fun j j1 j2 j3 => ?_⟩
      rcases Nat.eq_or_lt_of_le j1 with z | z
      · subst z
        have : ¬ D lo ≤ D b := fun y => q ⟨j3, fun b2 e => by cases e; exact y⟩
        exact ⟨by omega, fun _ => by omega⟩
      · exact h4 j (by omega) j2 j3
theorem pg_ism {D : Nat → Nat} {ok : Nat → Bool} : ∀ n, match pg (fun a b => decide (D a < D b)) ok n with
    | none => ∀ j, j < n → ok j = false
    | some b => b < n ∧ ok b = true ∧ ∀ j, j < n → ok j = true → D b ≤ D j ∧ (j < b → D b < D j)
  | 0 => fun j hj => absurd hj (Nat.not_lt_zero j)
  | n + 1 => by
    have ih := pg_ism (D := D) (ok := ok) n
    cases e : pg (fun a b => decide (D a < D b)) ok n with
    | none =>
      rw [e] at ih
      dsimp only at ih
      cases hk : ok n with
      | true =>
        rw [pg_new e hk]
        refine ⟨by omega, hk, fun j hj h3 => ?_⟩
        rcases Nat.lt_or_ge j n with z | z
        · rw [ih j z] at h3; cases h3
        · rw [show j = n by omega]; exact ⟨Nat.le_refl _, fun y => absurd y (Nat.lt_irrefl _)⟩
      | false =>
        rw [pg_no hk, e]
        intro j hj
        rcases Nat.lt_or_ge j n with z | z
        · exact ih j z
        · rw [show j = n by omega]; exact hk
    | some b =>
      rw [e] at ih
      dsimp only at ih
      by_cases q : ok n = true ∧ D n < D b
      · rw [pg_gt e q.1 (by simpa using q.2)]
        refine ⟨by omega, q.1, fun j hj h3 => ?_⟩
        rcases Nat.lt_or_ge j n with z | z
        · have := (ih.2.2 j z h3).1; exact ⟨by omega, fun _ => by omega⟩
        · rw [show j = n by omega]; exact ⟨Nat.le_refl _, fun y => absurd y (Nat.lt_irrefl _)⟩
      · have e2 : pg (fun a b => decide (D a < D b)) ok (n + 1) = some b := by
          cases hk : ok n with
          | false => rw [pg_no hk, e]
          | true => rw [pg_le e (by simpa using fun y => q ⟨hk, y⟩), e]
        rw [e2]
        refine ⟨by omega, ih.2.1, fun j hj h3 => ?_⟩
        rcases Nat.lt_or_ge j n with z | z
        · exact ih.2.2 j z h3
        · have : j = n := by omega
          subst this
          have : ¬ D j < D b := fun y => q ⟨h3, y⟩
          exact ⟨by omega, fun y => by omega⟩
theorem cst_ism (h : Nat → Nat → Bool) (T mr : Nat → Bool) : IsM (dn h T 7) (fun a => mr a && decide (dn h T 7 a ≤ 6)) 0 (cst h T mr) := by
  have := pg_ism (D := dn h T 7) (ok := fun a => mr a && decide (dn h T 7 a ≤ 6)) 6
  unfold cst
  cases e : pg (fun a b => decide (dn h T 7 a < dn h T 7 b)) (fun a => mr a && decide (dn h T 7 a ≤ 6)) 6 with
  | none => rw [e] at this; exact fun j _ hj => this j hj
  | some b => rw [e] at this; exact ⟨Nat.zero_le _, this.1, this.2.1, fun j _ hj => this.2.2 j hj⟩
/-- the first of those from lo on -/
def IsF (p : Nat → Bool) (lo : Nat) (o : Option Nat) : Prop := match o with
  | none => ∀ j, lo ≤ j → j < 6 → p j = false
  | some b => lo ≤ b ∧ b < 6 ∧ p b = true ∧ ∀ j, lo ≤ j → j < b → p j = false
theorem IsF.step {p : Nat → Bool} {lo : Nat} {o : Option Nat} (h : IsF p (lo + 1) o) (hl : lo < 6) : IsF p lo (if p lo = true then some lo else o) := by
  split
  · rename_i q
    exact ⟨Nat.le_refl _, hl, q, fun j h1 h2 => by omega⟩
  · rename_i q
    cases o with
    | none =>
      intro j h1 h2
      rcases Nat.eq_or_lt_of_le h1 with z | z
      · subst z; simpa using q
      · exact h j (by omega) h2
    | some b =>
      refine ⟨by have := h.1; omega, h.2.1, h.2.2.1, fun j h1 h2 => ?_⟩
      rcases Nat.eq_or_lt_of_le h1 with z | z
      · subst z; simpa using q
      · exact h.2.2.2 j (by omega) h2
theorem IsF.fnd {p : Nat → Bool} {o : Option Nat} (h : IsF p 0 o) : fnd p 6 = o := by
  cases o with
  | none => exact fnd_none.mpr (fun j hj => h j (Nat.zero_le _) hj)
  | some b => exact fnd_some.mpr ⟨h.2.1, h.2.2.1, fun j hj => h.2.2.2 j (Nat.zero_le _) hj⟩
/-- the reference's frame: cells of A, and the fields thrown and links -/
def FJ (A : List Nat) (M M2 : Mem) : Prop := (∀ a, a ∉ A → a ≠ 29 → M2.1 a = M.1 a) ∧ (∀ j, j ≠ 0 → j ≠ 12 → M2.1 29 j = M.1 29 j) ∧ M2.2 = M.2
theorem FJ.rf {A : List Nat} {M : Mem} : FJ A M M := ⟨fun _ _ _ => rfl, fun _ _ _ => rfl, rfl⟩
theorem FJ.tr {A : List Nat} {M M2 M3 : Mem} (h1 : FJ A M M2) (h2 : FJ A M2 M3) : FJ A M M3 := ⟨fun a h q => (h2.1 a h q).trans (h1.1 a h q), fun j a b => (h2.2.1 j a b).trans (h1.2.1 j a b), h2.2.2.trans h1.2.2⟩
theorem FJ.mono {A B : List Nat} {M M2 : Mem} (h1 : FJ A M M2) (h : ∀ a, a ∈ A → a ∈ B) : FJ B M M2 := ⟨fun a ha => h1.1 a (fun q => ha (h a q)), h1.2⟩
theorem FI.fj {A B : List Nat} {M M2 : Mem} (h : FI A M M2) (h1 : ∀ a, a ∈ A → a ∈ B) (h2 : 29 ∉ A := by decide) : FJ B M M2 := ⟨fun a ha _ => h.1 a (fun q => ha (h1 a q)), fun j _ _ => by rw [h.1 29 h2], h.2⟩
theorem FJ.put {A : List Nat} {M M2 : Mem} {a : Nat} {f : Nat → Int32} (h : FJ A M M2) (ha : a ∈ A) (h2 : a ≠ 29 := by decide) : FJ A M (va_up M2.1 a f, M2.2) := ⟨fun b hb q => by
  have : b ≠ a := fun e => hb (e ▸ ha)
  simp [va_up, this, h.1 b hb q], fun j q1 q2 => by simp [va_up, Ne.symm h2]; exact h.2.1 j q1 q2, h.2.2⟩
theorem FJ.th {A : List Nat} {M M2 : Mem} {j : Nat} {x : Int32} (h : FJ A M M2) (hj : j = 0 ∨ j = 12) : FJ A M (va_up M2.1 29 (upd (M2.1 29) j x), M2.2) := ⟨fun b hb q => by simp [va_up, q]; exact h.1 b hb q, fun i q1 q2 => (up_n (by rcases hj with e | e <;> rw [e] <;> assumption)).trans (h.2.1 i q1 q2), h.2.2⟩
theorem FJ.at {A : List Nat} {M M2 : Mem} (h : FJ A M M2) (a : Nat) (ha : a ∉ A := by decide) (h2 : a ≠ 29 := by decide) : M2.1 a = M.1 a := h.1 a ha h2
theorem WM.fj {w h : Nat} {mp dr : Nat → Nat} {A : List Nat} {M M2 : Mem} (H : WM w h mp dr M) (h1 : FJ A M M2) (h2 : 30 ∉ A ∧ 31 ∉ A := by decide) : WM w h mp dr M2 := ⟨by rw [h1.2.1 1 (by decide) (by decide)]; exact H.1, by rw [h1.2.1 2 (by decide) (by decide)]; exact H.2.1, fun c hc => by rw [h1.1 30 h2.1 (by decide)]; exact H.2.2.1 c hc, fun c hc => by rw [h1.1 31 h2.2 (by decide)]; exact H.2.2.2 c hc⟩
theorem HM.fj {hd : Nat → Nat} {wy : Nat} {A : List Nat} {M M2 : Mem} (H : HM hd wy M) (h1 : FJ A M M2) (h2 : 32 ∉ A := by decide) : HM hd wy M2 := ⟨by rw [h1.2.1 6 (by decide) (by decide)]; exact H.1, fun k hk => by rw [h1.1 32 h2 (by decide)]; exact H.2 k hk⟩
