/-! faults, changes, what may be handed -/
def pt (a b : Bool) : Nat := if a && !b then 2 else if b && !a then 1 else 0
noncomputable def fl1 (w n : Nat) (dr : Nat → Nat) (du : Nat → Nat) (l : Nat) : Nat := ad (many dr l n) (du l) + (if 1 < prt (fun c => decide (dr c = l)) w n then 3 * (prt (fun c => decide (dr c = l)) w n - 1) else 0)
def fl2 (w n : Nat) (mp dr : Nat → Nat) (l k : Nat) : Nat := fb_sm (fun m => pt (nbr w n mp l m) (nbr w n dr l m)) k
noncomputable def flt (w n : Nat) (mp dr : Nat → Nat) (du : Nat → Nat) (k : Nat) : Nat := fb_sm (fun l => fl1 w n dr du l + fl2 w n mp dr l l) k
def chg (w n : Nat) (dr : Nat → Nat) (c l : Nat) : Bool := if dr c = l then false else if l = 6 then true else tch w n dr c l || (decide (dr c = 6) && decide (many dr l n = 0))
def set1 (dr : Nat → Nat) (c l : Nat) : Nat → Nat := fun x => if x = c then l else dr x
noncomputable def mayh (w n : Nat) (dr : Nat → Nat) (c l : Nat) : Bool := !decide (dr c = 6) && (!decide (dr c = l) && (tch w n dr c l && (decide (2 ≤ many dr (dr c) n) && decide (prt (fun x => decide (set1 dr c l x = dr c)) w n ≤ prt (fun x => decide (dr x = dr c)) w n))))
/-- the first of n -/
def fnd (p : Nat → Bool) : Nat → Option Nat
  | 0 => none
  | n + 1 => match fnd p n with
    | some c => some c
    | none => if p n then some n else none
theorem fnd_some {p : Nat → Bool} {c : Nat} : ∀ {n : Nat}, fnd p n = some c ↔ c < n ∧ p c = true ∧ ∀ d, d < c → p d = false
  | 0 => by simp [fnd]
  | n + 1 => by
    have ih := fnd_some (p := p) (c := c) (n := n)
    simp only [fnd]
    cases e : fnd p n with
    | some d =>
      dsimp only
      have hd := (fnd_some (p := p) (c := d) (n := n)).mp e
      constructor
      · intro h
        cases h
        exact ⟨by omega, hd.2⟩
      · rintro ⟨h1, h2, h3⟩
        have : c = d := by
          rcases Nat.lt_trichotomy c d with q | q | q
          · have := hd.2.2 c q; rw [h2] at this; cases this
          · exact q
          · have := h3 d q; rw [hd.2.1] at this; cases this
        rw [this]
    | none =>
      dsimp only
      rw [e] at ih
      constructor
      · intro h
        split at h
        · rename_i hp
          cases h
          refine ⟨by omega, hp, fun d hd => ?_⟩
          cases hpd : p d with
          | false => rfl
          | true =>
            exfalso
            obtain ⟨i, h1, h2, h3⟩ := fb_first (p := fun x => p x = true) (n := c) ⟨d, hd, hpd⟩
            have := (fnd_some (p := p) (c := i) (n := c)).mpr ⟨h1, h2, fun x hx => by simpa using h3 x hx⟩
            rw [e] at this; cases this
        · cases h
      · rintro ⟨h1, h2, h3⟩
        by_cases q : c = n
        · subst q; rw [if_pos h2]
        · exact absurd (ih.mpr ⟨by omega, h2, h3⟩) (by simp)
theorem fnd_none {p : Nat → Bool} {n : Nat} : fnd p n = none ↔ ∀ d, d < n → p d = false := by
  constructor
  · intro h d hd
    cases hpd : p d with
    | false => rfl
    | true =>
      exfalso
      obtain ⟨i, h1, h2, h3⟩ := fb_first (p := fun x => p x = true) ⟨d, hd, hpd⟩
      have := (fnd_some (p := p) (c := i) (n := n)).mpr ⟨h1, h2, fun x hx => by simpa using h3 x hx⟩
      rw [h] at this; cases this
  · intro h
    cases e : fnd p n with
    | none => rfl
    | some c =>
      have := fnd_some.mp e
      rw [h c this.1] at this
      exact absurd this.2.1 (by simp)
theorem fnd_cong {p q : Nat → Bool} : ∀ {n : Nat}, (∀ k, k < n → p k = q k) → fnd p n = fnd q n
  | 0, _ => rfl
  | n + 1, h => by simp only [fnd]; rw [fnd_cong (fun k hk => h k (by omega)), h n (by omega)]
/-- the first (cell, owner) whose change leaves fewest faults -/
noncomputable def mst (w n : Nat) (mp dr : Nat → Nat) (du : Nat → Nat) : Nat → Nat × Option Nat
  | 0 => (flt w n mp dr du 6, none)
  | i + 1 => if chg w n dr (i / 7) (i % 7) = true ∧ flt w n mp (set1 dr (i / 7) (i % 7)) du 6 < (mst w n mp dr du i).1 then (flt w n mp (set1 dr (i / 7) (i % 7)) du 6, some i) else mst w n mp dr du i
theorem set1_eq (dr : Nat → Nat) (c l x : Nat) : set1 dr c l x = if x = c then l else dr x := rfl
theorem wf_set1 {w h : Nat} {mp dr : Nat → Nat} (H : Wf w h mp dr) {c l : Nat} (hc : c < w * h) (hl : l ≤ 6) : Wf w h mp (set1 dr c l) := by
  refine ⟨H.1, H.2.1, H.2.2.1, H.2.2.2.1, H.2.2.2.2.1, fun x => ?_, H.2.2.2.2.2.2.1, fun x hx => ?_⟩
  · rw [set1_eq]
    split
    · exact hl
    · exact H.2.2.2.2.2.1 x
  · rw [set1_eq, if_neg (by omega)]
    exact H.2.2.2.2.2.2.2 x hx
theorem wm_set1 {w h : Nat} {mp dr : Nat → Nat} {M : Mem} (H : WM w h mp dr M) {c l : Nat} (hc : c < 36) : WM w h mp (set1 dr c l) (va_up M.1 31 (upd (M.1 31) c (nI l)), M.2) := by
  refine ⟨by simp [va_up]; exact H.1, by simp [va_up]; exact H.2.1, fun x hx => by simp [va_up]; exact H.2.2.1 x hx, fun x hx => ?_⟩
  rw [set1_eq]
  by_cases q : x = c
  · subst q; rw [if_pos rfl]; exact up_s
  · rw [if_neg q]; exact (up_n q).trans (H.2.2.2 x hx)
theorem hm_set1 {hd : Nat → Nat} {wy : Nat} {M : Mem} (H : HM hd wy M) {a : Nat} {f : Nat → Int32} (h1 : a ≠ 29 ∧ a ≠ 32 := by decide) : HM hd wy (va_up M.1 a f, M.2) := ⟨by simp [va_up, Ne.symm h1.1]; exact H.1, fun k hk => by simp [va_up, Ne.symm h1.2]; exact H.2 k hk⟩
theorem fi_put {A : List Nat} {M M2 : Mem} {c : Nat} {x y : Int32} (hx : M.1 31 c = x) (h : FI A (va_up M.1 31 (upd (M.1 31) c y), M.2) M2) (h31 : 31 ∉ A) : FI A M (va_up M2.1 31 (upd (M2.1 31) c x), M2.2) := by
  refine ⟨fun a ha => ?_, h.2⟩
  by_cases q : a = 31
  · subst q
    funext j
    have h3 : M2.1 31 = upd (M.1 31) c y := by rw [h.1 31 h31]; simp [va_up]
    by_cases z : j = c
    · subst z; rw [up_s, hx]
    · rw [up_n z, h3]; simp [upd, z]
  · have h3 := h.1 a ha
    simp [va_up, q] at h3 ⊢
    exact h3
