/-! the cheapest placing: what prices keep, for both sides -/
def Tr (c : Nat → Nat → Int) (m R : Nat) (u v : Nat → Int) (p : Nat → Nat) : Prop :=
  p 0 = R ∧ 1 ≤ R ∧ R ≤ m ∧ (∀ j, 1 ≤ j → j ≤ m → p j < R) ∧ (∀ j k, j ≤ m → k ≤ m → p j = p k → p j ≠ 0 → j = k) ∧ (∀ i, 1 ≤ i → i ≤ R → ∃ j, j ≤ m ∧ p j = i) ∧ (∀ i j, 1 ≤ i → i ≤ R → 1 ≤ j → j ≤ m → u i + v j ≤ c i j) ∧ (∀ j, 1 ≤ j → j ≤ m → p j ≠ 0 → u (p j) + v j = c (p j) j) ∧ (∀ j, 1 ≤ j → j ≤ m → v j ≤ 0) ∧ (∀ j, 1 ≤ j → j ≤ m → p j = 0 → v j = 0) ∧ (∀ i, 0 ≤ u i) ∧ ∀ i, R < i → u i = 0
def Hg (c : Nat → Nat → Int) (m R : Nat) (u v : Nat → Int) (p : Nat → Nat) : Prop :=
  (∀ j, 1 ≤ j → j ≤ m → p j ≤ R) ∧ (∀ j k, 1 ≤ j → j ≤ m → 1 ≤ k → k ≤ m → p j = p k → p j ≠ 0 → j = k) ∧ (∀ i, 1 ≤ i → i ≤ R → ∃ j, 1 ≤ j ∧ j ≤ m ∧ p j = i) ∧ (∀ i j, 1 ≤ i → i ≤ R → 1 ≤ j → j ≤ m → u i + v j ≤ c i j) ∧ (∀ j, 1 ≤ j → j ≤ m → p j ≠ 0 → u (p j) + v j = c (p j) j) ∧ (∀ j, 1 ≤ j → j ≤ m → v j ≤ 0) ∧ (∀ j, 1 ≤ j → j ≤ m → p j = 0 → v j = 0) ∧ (∀ i, 0 ≤ u i) ∧ ∀ i, R < i → u i = 0
theorem Hg.start {c : Nat → Nat → Int} {m : Nat} {u v : Nat → Int} {p : Nat → Nat} (hu : ∀ i, u i = 0) (hv : ∀ j, 1 ≤ j → j ≤ m → v j = 0) (hp : ∀ j, 1 ≤ j → j ≤ m → p j = 0) : Hg c m 0 u v p := by
  refine ⟨fun j a b => by rw [hp j a b]; exact Nat.le_refl _, fun j k a b _ _ _ q => absurd (hp j a b) q, fun i a b => by omega, fun i j a b => by omega, fun j a b q => absurd (hp j a b) q, fun j a b => by rw [hv j a b]; exact Int.le_refl _, fun j a b _ => hv j a b, fun i => by rw [hu i]; exact Int.le_refl _, fun i _ => hu i⟩
theorem Hg.tr {c : Nat → Nat → Int} {m R : Nat} {u v : Nat → Int} {p p2 : Nat → Nat} (h : Hg c m R u v p) (hc : ∀ i j, 0 ≤ c i j) (hR : R < m) (h0 : p2 0 = R + 1) (hp : ∀ j, 1 ≤ j → j ≤ m → p2 j = p j) : Tr c m (R + 1) u v p2 := by
  obtain ⟨h1, h2, h3, h4, h5, h6, h7, h8, h9⟩ := h
  refine ⟨h0, by omega, hR, fun j a b => by rw [hp j a b]; have := h1 j a b; omega, fun j k a b e q => ?_, fun i a b => ?_, fun i j a b d e => ?_, fun j a b q => ?_, h6, fun j a b q => h7 j a b (by rw [← hp j a b]; exact q), h8, fun i hi => h9 i (by omega)⟩
  · rcases Nat.eq_zero_or_pos j with z | z
    · rcases Nat.eq_zero_or_pos k with y | y
      · omega
      · rw [z, h0, hp k y b] at e; have := h1 k y b; omega
    · rcases Nat.eq_zero_or_pos k with y | y
      · rw [y, h0, hp j z a] at e; have := h1 j z a; omega
      · rw [hp j z a, hp k y b] at e; rw [hp j z a] at q; exact h2 j k z a y b e q
  · by_cases e : i = R + 1
    · exact ⟨0, by omega, by rw [h0, e]⟩
    · obtain ⟨j, d, f, g⟩ := h3 i a (by omega)
      exact ⟨j, f, by rw [hp j d f]; exact g⟩
  · by_cases f : i = R + 1
    · rw [h9 i (by omega)]; have := h6 j d e; have := hc i j; omega
    · exact h4 i j a (by omega) d e
  · rw [hp j a b] at q ⊢; exact h5 j a b q
/-- there is a free column -/
theorem Tr.free {c : Nat → Nat → Int} {m R : Nat} {u v : Nat → Int} {p : Nat → Nat} (h : Tr c m R u v p) : ∃ j, 1 ≤ j ∧ j ≤ m ∧ p j = 0 := by
  obtain ⟨h0, h1, h2, h3, h4, _⟩ := h
  apply Classical.byContradiction
  intro hn
  have hne : ∀ j, 1 ≤ j → j ≤ m → p j ≠ 0 := fun j a b q => hn ⟨j, a, b, q⟩
  have := fb_holes (R - 1) m (fun k => p (k + 1) - 1) (fun i hi => by have := h3 (i + 1) (by omega) (by omega); have := hne (i + 1) (by omega) (by omega); omega) (fun i j a b e => by
    have q1 := hne (i + 1) (by omega) (by omega)
    have q2 := hne (j + 1) (by omega) (by omega)
    have := h4 (i + 1) (j + 1) (by omega) (by omega) (by omega) q1
    omega)
  omega
theorem Tr.u_le {c : Nat → Nat → Int} {m R : Nat} {u v : Nat → Int} {p : Nat → Nat} {K : Int} (h : Tr c m R u v p) (hK : ∀ i j, c i j ≤ K) (h0 : 0 ≤ K) {i : Nat} (hi : 1 ≤ i) : u i ≤ K := by
  obtain ⟨j, a, b, e⟩ := h.free
  obtain ⟨_, _, _, _, _, _, h6, _, _, h9, _, h11⟩ := h
  by_cases q : R < i
  · rw [h11 i q]; exact h0
  · have := h6 i j hi (by omega) a b
    rw [h9 j a b e] at this
    have := hK i j
    omega
theorem Tr.v_ge {c : Nat → Nat → Int} {m R : Nat} {u v : Nat → Int} {p : Nat → Nat} {K : Int} (h : Tr c m R u v p) (hc : ∀ i j, 0 ≤ c i j) (hK : ∀ i j, c i j ≤ K) (h0 : 0 ≤ K) {j : Nat} (a : 1 ≤ j) (b : j ≤ m) : -K ≤ v j := by
  by_cases e : p j = 0
  · rw [h.2.2.2.2.2.2.2.2.2.1 j a b e]; omega
  · have h1 := h.u_le hK h0 (i := p j) (by omega)
    have h2 := h.2.2.2.2.2.2.2.1 j a b e
    have := hc (p j) j
    omega
/-- the columns reached: each by a tight way -/
def Sd (c : Nat → Nat → Int) (m : Nat) (u v : Nat → Int) (p : Nat → Nat) (us : Nat → Bool) (bf tm : Nat → Nat) (s : Nat) : Prop :=
  (∀ j, us j = true → j ≤ m ∧ p j ≠ 0 ∧ tm j < s) ∧ ∀ j, us j = true → j ≠ 0 → us (bf j) = true ∧ tm (bf j) < tm j ∧ u (p (bf j)) + v j = c (p (bf j)) j
def Hd (c : Nat → Nat → Int) (m : Nat) (u v : Nat → Int) (p : Nat → Nat) (us : Nat → Bool) (bf : Nat → Nat) (a : Nat) : Prop :=
  a ≤ m ∧ us a = false ∧ (a = 0 → ∀ j, us j = false) ∧ (a ≠ 0 → us 0 = true ∧ us (bf a) = true ∧ u (p (bf a)) + v a = c (p (bf a)) a)
def Sp (c : Nat → Nat → Int) (u v : Nat → Int) (p : Nat → Nat) (us : Nat → Bool) (bf : Nat → Nat) (sl : Nat → Int) (F : Int) (j : Nat) : Prop :=
  (∀ k, us k = true → sl j ≤ c (p k) j - u (p k) - v j) ∧ ((∃ k, us k = true) → us (bf j) = true ∧ sl j = c (p (bf j)) j - u (p (bf j)) - v j) ∧ ((∀ k, us k = false) → sl j = F)
def on1 (us : Nat → Bool) (a : Nat) : Nat → Bool := fun k => if k = a then true else us k
theorem on1_s (us : Nat → Bool) (a : Nat) : on1 us a a = true := if_pos rfl
theorem on1_n {us : Nat → Bool} {a k : Nat} (h : k ≠ a) : on1 us a k = us k := if_neg h
theorem on1_u {us : Nat → Bool} {a k : Nat} (h : us k = true) : on1 us a k = true := by unfold on1; split <;> trivial
theorem Sd.mark {c : Nat → Nat → Int} {m : Nat} {u v : Nat → Int} {p : Nat → Nat} {us : Nat → Bool} {bf tm : Nat → Nat} {s a : Nat} (h : Sd c m u v p us bf tm s) (H : Hd c m u v p us bf a) (hp : p a ≠ 0) : Sd c m u v p (on1 us a) bf (fun k => if k = a then s else tm k) (s + 1) := by
  have key : ∀ k, us k = true → k ≠ a := fun k hk e => by rw [e, H.2.1] at hk; cases hk
  refine ⟨fun j hj => ?_, fun j hj h0 => ?_⟩
  · by_cases e : j = a
    · subst e; exact ⟨H.1, hp, by simp⟩
    · rw [on1_n e] at hj
      have := h.1 j hj
      exact ⟨this.1, this.2.1, by dsimp only; rw [if_neg e]; omega⟩
  · by_cases e : j = a
    · subst e
      obtain ⟨q1, q2, q3⟩ := H.2.2.2 h0
      exact ⟨on1_u q2, by dsimp only; rw [if_pos rfl, if_neg (key _ q2)]; exact (h.1 _ q2).2.2, q3⟩
    · rw [on1_n e] at hj
      obtain ⟨q1, q2, q3⟩ := h.2 j hj h0
      exact ⟨on1_u q1, by dsimp only; rw [if_neg e, if_neg (key _ q1)]; exact q2, q3⟩
theorem Sp.look {c : Nat → Nat → Int} {u v : Nat → Int} {p : Nat → Nat} {us : Nat → Bool} {bf bf2 : Nat → Nat} {sl sl2 : Nat → Int} {F : Int} {j a : Nat} (h : Sp c u v p us bf sl F j) (h1 : c (p a) j - u (p a) - v j < F) (h2 : sl2 j = if c (p a) j - u (p a) - v j < sl j then c (p a) j - u (p a) - v j else sl j) (h3 : bf2 j = if c (p a) j - u (p a) - v j < sl j then a else bf j) : Sp c u v p (on1 us a) bf2 sl2 F j := by
  by_cases q : c (p a) j - u (p a) - v j < sl j
  · rw [if_pos q] at h2 h3
    refine ⟨fun k hk => ?_, fun _ => ⟨by rw [h3]; exact on1_s us a, by rw [h2, h3]⟩, fun hn => absurd (hn a) (by rw [on1_s]; simp)⟩
    by_cases e : k = a
    · rw [e, h2]; exact Int.le_refl _
    · rw [on1_n e] at hk; have := h.1 k hk; omega
  · rw [if_neg q] at h2 h3
    have hne : ∃ k, us k = true := by
      apply Classical.byContradiction
      intro hn
      have := h.2.2 (fun k => by cases e : us k with
        | true => exact absurd ⟨k, e⟩ hn
        | false => rfl)
      omega
    obtain ⟨q1, q2⟩ := h.2.1 hne
    refine ⟨fun k hk => ?_, fun _ => ⟨by rw [h3]; exact on1_u q1, by rw [h2, h3]; exact q2⟩, fun hn => absurd (hn a) (by rw [on1_s]; simp)⟩
    by_cases e : k = a
    · rw [e, h2]; omega
    · rw [on1_n e] at hk; have := h.1 k hk; omega
theorem Sp.cong {c : Nat → Nat → Int} {u v : Nat → Int} {p : Nat → Nat} {us : Nat → Bool} {bf bf2 : Nat → Nat} {sl sl2 : Nat → Int} {F : Int} {j : Nat} (h : Sp c u v p us bf sl F j) (h2 : sl2 j = sl j) (h3 : bf2 j = bf j) : Sp c u v p us bf2 sl2 F j := by
  unfold Sp at h ⊢; rw [h2, h3]; exact h
theorem Sd.cong {c : Nat → Nat → Int} {m : Nat} {u v : Nat → Int} {p : Nat → Nat} {us : Nat → Bool} {bf bf2 tm : Nat → Nat} {s : Nat} (h : Sd c m u v p us bf tm s) (h3 : ∀ j, us j = true → bf2 j = bf j) : Sd c m u v p us bf2 tm s :=
  ⟨h.1, fun j hj h0 => by rw [h3 j hj]; exact h.2 j hj h0⟩
/-- prices move -/
theorem Tr.move {c : Nat → Nat → Int} {m R : Nat} {u v u2 v2 : Nat → Int} {p : Nat → Nat} {us : Nat → Bool} {bf tm : Nat → Nat} {sl sl2 : Nat → Int} {s nx : Nat} {F by2 : Int} (h : Tr c m R u v p) (D : Sd c m u v p us bf tm s) (h0 : us 0 = true)
    (S : ∀ j, 1 ≤ j → j ≤ m → us j = false → Sp c u v p us bf sl F j) (n1 : 1 ≤ nx) (n2 : nx ≤ m) (n3 : us nx = false) (n4 : by2 = sl nx) (n5 : ∀ j, 1 ≤ j → j ≤ m → us j = false → by2 ≤ sl j)
    (k1 : ∀ k, us k = true → u2 (p k) = u (p k) + by2) (k2 : ∀ r, (∀ k, us k = true → p k ≠ r) → u2 r = u r) (k3 : ∀ j, 1 ≤ j → j ≤ m → v2 j = if us j = true then v j - by2 else v j) (k4 : ∀ j, 1 ≤ j → j ≤ m → us j = false → sl2 j = sl j - by2) :
    0 ≤ by2 ∧ Tr c m R u2 v2 p ∧ Sd c m u2 v2 p us bf tm s ∧ Hd c m u2 v2 p us bf nx ∧ ∀ j, 1 ≤ j → j ≤ m → us j = false → Sp c u2 v2 p us bf sl2 F j := by
  obtain ⟨t0, t1, t2, t3, t4, t5, t6, t7, t8, t9, t10, t11⟩ := h
  have row : ∀ k, us k = true → 1 ≤ p k ∧ p k ≤ R := fun k hk => by
    have := D.1 k hk
    rcases Nat.eq_zero_or_pos k with z | z
    · rw [z, t0]; omega
    · have := t3 k z this.1; omega
  have hb : 0 ≤ by2 := by
    obtain ⟨q1, q2⟩ := (S nx n1 n2 n3).2.1 ⟨0, h0⟩
    have := t6 _ nx (row _ q1).1 (row _ q1).2 n1 n2
    omega
  have cas : ∀ r, (∃ k, us k = true ∧ p k = r ∧ u2 r = u r + by2) ∨ ((∀ k, us k = true → p k ≠ r) ∧ u2 r = u r) := fun r => by
    by_cases q : ∃ k, us k = true ∧ p k = r
    · obtain ⟨k, a, b⟩ := q
      exact Or.inl ⟨k, a, b, by rw [← b]; exact k1 k a⟩
    · have : ∀ k, us k = true → p k ≠ r := fun k a b => q ⟨k, a, b⟩
      exact Or.inr ⟨this, k2 r this⟩
  have sp2 : ∀ j, 1 ≤ j → j ≤ m → us j = false → Sp c u2 v2 p us bf sl2 F j := fun j a b d => by
    have S1 := S j a b d
    have e3 := k3 j a b
    rw [if_neg (by rw [d]; simp)] at e3
    have e4 := k4 j a b d
    refine ⟨fun k hk => ?_, fun hk => ?_, fun hn => absurd h0 (by rw [hn 0]; simp)⟩
    · have := S1.1 k hk; have := k1 k hk; omega
    · obtain ⟨q1, q2⟩ := S1.2.1 hk
      have := k1 _ q1
      exact ⟨q1, by omega⟩
  refine ⟨hb, ⟨t0, t1, t2, t3, t4, t5, fun i j a b d e => ?_, fun j a b q => ?_, fun j a b => ?_, fun j a b q => ?_, fun i => ?_, fun i hi => ?_⟩, ⟨D.1, fun j hj hj0 => ?_⟩, ⟨n2, n3, fun z => by omega, fun _ => ?_⟩, sp2⟩
  · have f := t6 i j a b d e
    have e3 := k3 j d e
    rcases cas i with ⟨k, g1, g2, g3⟩ | ⟨g1, g2⟩
    · by_cases q : us j = true
      · rw [if_pos q] at e3; omega
      · rw [if_neg q] at e3
        have q : us j = false := by simpa using q
        have x1 := (S j d e q).1 k g1
        have x2 := n5 j d e q
        rw [g2] at x1
        omega
    · by_cases q : us j = true
      · rw [if_pos q] at e3; omega
      · rw [if_neg q] at e3; omega
  · have f := t7 j a b q
    have e3 := k3 j a b
    by_cases w : us j = true
    · rw [if_pos w] at e3; have := k1 j w; omega
    · rw [if_neg w] at e3
      have : u2 (p j) = u (p j) := k2 _ (fun k hk e => by
        have := t4 k j (D.1 k hk).1 b e (by rw [e]; exact q)
        rw [this] at hk; exact w hk)
      omega
  · have e3 := k3 j a b
    have := t8 j a b
    split at e3 <;> omega
  · have e3 := k3 j a b
    rw [if_neg (fun w => (D.1 j w).2.1 q)] at e3
    rw [e3]; exact t9 j a b q
  · rcases cas i with ⟨k, g1, g2, g3⟩ | ⟨g1, g2⟩
    · have := t10 i; omega
    · have := t10 i; omega
  · rw [k2 i (fun k hk e => by have := (row k hk).2; omega)]; exact t11 i hi
  · obtain ⟨q1, q2, q3⟩ := D.2 j hj hj0
    have e3 := k3 j (by omega) (D.1 j hj).1
    rw [if_pos hj] at e3
    have := k1 _ q1
    exact ⟨q1, q2, by omega⟩
  · obtain ⟨q1, q2⟩ := (sp2 nx n1 n2 n3).2.1 ⟨0, h0⟩
    have := k4 nx n1 n2 n3
    exact ⟨h0, q1, by omega⟩
/-- the way back -/
def Au (c : Nat → Nat → Int) (m R : Nat) (u v : Nat → Int) (p : Nat → Nat) (us : Nat → Bool) (bf tm : Nat → Nat) (a : Nat) : Prop :=
  a ≤ m ∧ (∀ j, j ≤ m → p j ≤ R) ∧ (∀ j k, j ≤ m → k ≤ m → j ≠ a → k ≠ a → p j = p k → p j ≠ 0 → j = k) ∧ (∀ i, 1 ≤ i → i ≤ R → ∃ j, j ≤ m ∧ j ≠ a ∧ p j = i) ∧ (∀ i j, 1 ≤ i → i ≤ R → 1 ≤ j → j ≤ m → u i + v j ≤ c i j) ∧ (∀ j, 1 ≤ j → j ≤ m → j ≠ a → p j ≠ 0 → u (p j) + v j = c (p j) j) ∧ (∀ j, 1 ≤ j → j ≤ m → v j ≤ 0) ∧ (∀ j, 1 ≤ j → j ≤ m → j ≠ a → p j = 0 → v j = 0) ∧ (∀ i, 0 ≤ u i) ∧ (∀ i, R < i → u i = 0) ∧
  (∀ j, us j = true → j ≤ m ∧ p j ≠ 0) ∧ ∀ j, (us j = true ∨ j = a) → j ≠ 0 → tm j ≤ tm a → us (bf j) = true ∧ tm (bf j) < tm j ∧ u (p (bf j)) + v j = c (p (bf j)) j
theorem Au.start {c : Nat → Nat → Int} {m R : Nat} {u v : Nat → Int} {p : Nat → Nat} {us : Nat → Bool} {bf tm : Nat → Nat} {s a : Nat} (h : Tr c m R u v p) (D : Sd c m u v p us bf tm s) (H : Hd c m u v p us bf a) (ha : a ≠ 0) (hp : p a = 0) : Au c m R u v p us bf (fun k => if k = a then s else tm k) a := by
  obtain ⟨t0, t1, t2, t3, t4, t5, t6, t7, t8, t9, t10, t11⟩ := h
  have key : ∀ k, us k = true → k ≠ a := fun k hk e => by rw [e, H.2.1] at hk; cases hk
  refine ⟨H.1, fun j hj => ?_, fun j k a1 b1 _ _ e q => t4 j k a1 b1 e q, fun i a1 b1 => ?_, t6, fun j a1 b1 _ q => t7 j a1 b1 q, t8, fun j a1 b1 _ q => t9 j a1 b1 q, t10, t11, fun j hj => ⟨(D.1 j hj).1, (D.1 j hj).2.1⟩, fun j hj h0 ht => ?_⟩
  · rcases Nat.eq_zero_or_pos j with z | z
    · rw [z, t0]; exact Nat.le_refl _
    · have := t3 j z hj; omega
  · obtain ⟨j, q1, q2⟩ := t5 i a1 b1
    exact ⟨j, q1, fun e => by rw [e, hp] at q2; omega, q2⟩
  · by_cases e : j = a
    · subst e
      obtain ⟨_, q2, q3⟩ := H.2.2.2 h0
      exact ⟨q2, by dsimp only; rw [if_pos rfl, if_neg (key _ q2)]; exact (D.1 _ q2).2.2, q3⟩
    · obtain ⟨q1, q2, q3⟩ := D.2 j (hj.resolve_right e) h0
      exact ⟨q1, by dsimp only; rw [if_neg e, if_neg (key _ q1)]; exact q2, q3⟩
theorem Au.step {c : Nat → Nat → Int} {m R : Nat} {u v : Nat → Int} {p : Nat → Nat} {us : Nat → Bool} {bf tm : Nat → Nat} {a : Nat} (h : Au c m R u v p us bf tm a) (ha : a ≠ 0) : Au c m R u v (fun k => if k = a then p (bf a) else p k) us bf tm (bf a) ∧ tm (bf a) < tm a ∧ bf a ≤ m := by
  obtain ⟨h1, h2, h3, h4, h5, h6, h7, h8, h9, h10, h11, h12⟩ := h
  obtain ⟨q1, q2, q3⟩ := h12 a (Or.inr rfl) ha (Nat.le_refl _)
  obtain ⟨r1, r2⟩ := h11 _ q1
  have hne : bf a ≠ a := fun e => by rw [e] at q2; omega
  refine ⟨⟨r1, fun j hj => ?_, fun j k a1 b1 d e f q => ?_, fun i a1 b1 => ?_, h5, fun j a1 b1 d q => ?_, h7, fun j a1 b1 d q => ?_, h9, h10, fun j hj => ⟨(h11 j hj).1, ?_⟩, fun j hj h0 ht => ?_⟩, q2, r1⟩
  · dsimp only
    split
    · exact h2 _ r1
    · exact h2 j hj
  · dsimp only at f q
    by_cases x : j = a
    · rw [if_pos x] at f q
      by_cases y : k = a
      · omega
      · rw [if_neg y] at f
        exact absurd (h3 (bf a) k r1 b1 hne y f q) (fun z => e z.symm)
    · rw [if_neg x] at f q
      by_cases y : k = a
      · rw [if_pos y] at f
        exact absurd (h3 j (bf a) a1 r1 x hne f q) d
      · rw [if_neg y] at f
        exact h3 j k a1 b1 x y f q
  · obtain ⟨j, x, y, z⟩ := h4 i a1 b1
    by_cases e : j = bf a
    · exact ⟨a, h1, fun z => hne z.symm, by dsimp only; rw [if_pos rfl, ← e]; exact z⟩
    · exact ⟨j, x, e, by dsimp only; rw [if_neg y]; exact z⟩
  · dsimp only at q ⊢
    by_cases x : j = a
    · rw [if_pos x, x]; exact q3
    · rw [if_neg x] at q ⊢; exact h6 j a1 b1 x q
  · dsimp only at q
    by_cases x : j = a
    · rw [if_pos x] at q; exact absurd q r2
    · rw [if_neg x] at q; exact h8 j a1 b1 x q
  · dsimp only
    split
    · exact r2
    · exact (h11 j hj).2
  · have hj2 : us j = true := hj.elim id (fun e => by rw [e]; exact q1)
    obtain ⟨x, y, z⟩ := h12 j (Or.inl hj2) h0 (by omega)
    exact ⟨x, y, by
      dsimp only
      rw [if_neg (fun e => by rw [e] at y; omega)]
      exact z⟩
theorem Au.done {c : Nat → Nat → Int} {m R : Nat} {u v : Nat → Int} {p : Nat → Nat} {us : Nat → Bool} {bf tm : Nat → Nat} (h : Au c m R u v p us bf tm 0) : Hg c m R u v p := by
  obtain ⟨h1, h2, h3, h4, h5, h6, h7, h8, h9, h10, h11, h12⟩ := h
  refine ⟨fun j _ b => h2 j b, fun j k a b d e f q => h3 j k b e (by omega) (by omega) f q, fun i a b => ?_, h5, fun j a b q => h6 j a b (by omega) q, h7, fun j a b q => h8 j a b (by omega) q, h9, h10⟩
  obtain ⟨j, x, y, z⟩ := h4 i a b
  exact ⟨j, by omega, x, z⟩
