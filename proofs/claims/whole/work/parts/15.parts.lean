/-! parts: cells that hang together -/
def Cn (P : Nat → Bool) (w a b : Nat) : Prop := ∀ S : Nat → Prop, S a → (∀ x y, S x → P y = true → adj w x y = true → S y) → S b
theorem Cn.rf {P : Nat → Bool} {w a : Nat} : Cn P w a a := fun _ h _ => h
theorem Cn.st {P : Nat → Bool} {w a b c : Nat} (h : Cn P w a b) (hc : P c = true) (ha : adj w b c = true) : Cn P w a c := fun S h0 hs => hs b c (h S h0 hs) hc ha
theorem Cn.tr {P : Nat → Bool} {w a b c : Nat} (h : Cn P w a b) (h2 : Cn P w b c) : Cn P w a c := fun S h0 hs => h2 S (h S h0 hs) hs
theorem Cn.p {P : Nat → Bool} {w a b : Nat} (h : Cn P w a b) (ha : P a = true) : P b = true := h (fun x => P x = true) ha (fun _ _ _ h _ => h)
noncomputable def ctp (p : Nat → Prop) : Nat → Nat
  | 0 => 0
  | n + 1 => ctp p n + @ite Nat (p n) (Classical.propDecidable _) 1 0
theorem ctp_t {p : Nat → Prop} {n : Nat} (h : p n) : ctp p (n + 1) = ctp p n + 1 := by simp [ctp, h]
theorem ctp_f {p : Nat → Prop} {n : Nat} (h : ¬ p n) : ctp p (n + 1) = ctp p n := by simp [ctp, h]
theorem ctp_le (p : Nat → Prop) : ∀ n, ctp p n ≤ n
  | 0 => Nat.le_refl _
  | n + 1 => by
    have ih := ctp_le p n
    rcases Classical.em (p n) with h | h
    · rw [ctp_t h]; omega
    · rw [ctp_f h]; omega
theorem ctp_stay {p : Nat → Prop} {m : Nat} : ∀ {n : Nat}, m ≤ n → (∀ k, m ≤ k → k < n → ¬ p k) → ctp p n = ctp p m
  | 0, h, _ => by rw [show m = 0 by omega]
  | n + 1, h, hk => by
    rcases Nat.lt_or_ge n m with q | q
    · rw [show m = n + 1 by omega]
    · rw [ctp_f (hk n q (by omega)), ctp_stay q (fun k h1 h2 => hk k h1 (by omega))]
theorem ctp_cong {p q : Nat → Prop} : ∀ {n : Nat}, (∀ k, k < n → (p k ↔ q k)) → ctp p n = ctp q n
  | 0, _ => rfl
  | n + 1, h => by
    have ih := ctp_cong (p := p) (q := q) (n := n) (fun k hk => h k (by omega))
    rcases Classical.em (p n) with z | z
    · rw [ctp_t z, ctp_t ((h n (by omega)).mp z), ih]
    · rw [ctp_f z, ctp_f (fun y => z ((h n (by omega)).mpr y)), ih]
/-- a cell that is its part's first -/
def Rep (P : Nat → Bool) (w c : Nat) : Prop := P c = true ∧ ∀ d, d < c → P d = true → ¬ Cn P w d c
noncomputable def prt (P : Nat → Bool) (w n : Nat) : Nat := ctp (Rep P w) n
theorem prt_le (P : Nat → Bool) (w n : Nat) : prt P w n ≤ n := ctp_le _ _
/-- seen behind the cells ahead of t -/
def Sn (P : Nat → Bool) (w t x : Nat) : Prop := ∃ d, d < t ∧ P d = true ∧ Cn P w d x
theorem Sn.st {P : Nat → Bool} {w t x y : Nat} (h : Sn P w t x) (hy : P y = true) (ha : adj w x y = true) : Sn P w t y := by
  obtain ⟨d, h1, h2, h3⟩ := h
  exact ⟨d, h1, h2, h3.st hy ha⟩
theorem Sn.succ {P : Nat → Bool} {w t x : Nat} : Sn P w (t + 1) x ↔ Sn P w t x ∨ (P t = true ∧ Cn P w t x) := by
  constructor
  · rintro ⟨d, h1, h2, h3⟩
    by_cases e : d = t
    · subst e; exact Or.inr ⟨h2, h3⟩
    · exact Or.inl ⟨d, by omega, h2, h3⟩
  · rintro (⟨d, h1, h2, h3⟩ | ⟨h2, h3⟩)
    · exact ⟨d, by omega, h2, h3⟩
    · exact ⟨t, by omega, h2, h3⟩
theorem rep_iff {P : Nat → Bool} {w c : Nat} : Rep P w c ↔ P c = true ∧ ¬ Sn P w c c := by
  constructor
  · rintro ⟨h1, h2⟩
    exact ⟨h1, fun ⟨d, h3, h4, h5⟩ => h2 d h3 h4 h5⟩
  · rintro ⟨h1, h2⟩
    exact ⟨h1, fun d h3 h4 h5 => h2 ⟨d, h3, h4, h5⟩⟩
/-- a search from c: old what was seen before, q the queue -/
def Bfs (P : Nat → Bool) (w n c : Nat) (old sn : Nat → Bool) (q : Nat → Nat) (m i e : Nat) : Prop :=
  (∀ x, sn x = true ↔ old x = true ∨ ∃ k, k < m ∧ q k = x) ∧ (∀ k, k < m → q k < n ∧ P (q k) = true ∧ Cn P w c (q k)) ∧ (∀ j k, j < k → k < m → q j ≠ q k) ∧ (∀ k, k < i → ∀ y, P y = true → adj w (q k) y = true → sn y = true) ∧ (∀ y, y < e → P y = true → adj w (q i) y = true → sn y = true)
theorem Bfs.m_le {P : Nat → Bool} {w n c : Nat} {old sn : Nat → Bool} {q : Nat → Nat} {m i e : Nat} (h : Bfs P w n c old sn q m i e) : m ≤ n := fb_holes n m q (fun k hk => (h.2.1 k hk).1) h.2.2.1
theorem Bfs.skip {P : Nat → Bool} {w n c : Nat} {old sn : Nat → Bool} {q : Nat → Nat} {m i e : Nat} (h : Bfs P w n c old sn q m i e) (hs : P e = true → adj w (q i) e = true → sn e = true) : Bfs P w n c old sn q m i (e + 1) := by
  refine ⟨h.1, h.2.1, h.2.2.1, h.2.2.2.1, fun y hy h1 h2 => ?_⟩
  by_cases z : y = e
  · subst z; exact hs h1 h2
  · exact h.2.2.2.2 y (by omega) h1 h2
theorem Bfs.add {P : Nat → Bool} {w n c : Nat} {old sn : Nat → Bool} {q : Nat → Nat} {m i e : Nat} (h : Bfs P w n c old sn q m i e) (hi : i < m) (he : e < n) (hp : P e = true) (ha : adj w (q i) e = true) (hs : sn e = false) :
    Bfs P w n c old (fun x => if x = e then true else sn x) (fun k => if k = m then e else q k) (m + 1) i (e + 1) ∧ m < n := by
  have hq : ∀ k, k < m → q k ≠ e := fun k hk z => by
    have := (h.1 e).mpr (Or.inr ⟨k, hk, z⟩)
    rw [hs] at this; cases this
  have H : Bfs P w n c old (fun x => if x = e then true else sn x) (fun k => if k = m then e else q k) (m + 1) i (e + 1) := by
    refine ⟨fun x => ?_, fun k hk => ?_, fun j k hj hk => ?_, fun k hk y h1 h2 => ?_, fun y hy h1 h2 => ?_⟩
    · dsimp only
      by_cases z : x = e
      · subst z
        simp only [if_true, true_iff]
        exact Or.inr ⟨m, by omega, by simp⟩
      · rw [if_neg z, h.1 x]
        constructor
        · rintro (h1 | ⟨k, h1, h2⟩)
          · exact Or.inl h1
          · exact Or.inr ⟨k, by omega, by rw [if_neg (by omega)]; exact h2⟩
        · rintro (h1 | ⟨k, h1, h2⟩)
          · exact Or.inl h1
          · by_cases y : k = m
            · rw [if_pos y] at h2; exact absurd h2.symm z
            · rw [if_neg y] at h2; exact Or.inr ⟨k, by omega, h2⟩
    · dsimp only
      by_cases z : k = m
      · rw [if_pos z]; exact ⟨he, hp, ((h.2.1 i hi).2.2).st hp ha⟩
      · rw [if_neg z]; exact h.2.1 k (by omega)
    · dsimp only
      rw [if_neg (by omega)]
      by_cases z : k = m
      · rw [if_pos z]; exact hq j (by omega)
      · rw [if_neg z]; exact h.2.2.1 j k hj (by omega)
    · dsimp only at h2 ⊢
      rw [if_neg (by omega)] at h2
      by_cases z : y = e
      · rw [if_pos z]
      · rw [if_neg z]; exact h.2.2.2.1 k hk y h1 h2
    · dsimp only at h2 ⊢
      rw [if_neg (by omega)] at h2
      by_cases z : y = e
      · rw [if_pos z]
      · rw [if_neg z]; exact h.2.2.2.2 y (by omega) h1 h2
  exact ⟨H, H.m_le⟩
theorem Bfs.next {P : Nat → Bool} {w n c : Nat} {old sn : Nat → Bool} {q : Nat → Nat} {m i : Nat} (hP : ∀ y, P y = true → y < n) (h : Bfs P w n c old sn q m i n) : Bfs P w n c old sn q m (i + 1) 0 := by
  refine ⟨h.1, h.2.1, h.2.2.1, fun k hk y h1 h2 => ?_, fun y hy => absurd hy (Nat.not_lt_zero y)⟩
  by_cases z : k = i
  · subst z; exact h.2.2.2.2 y (hP y h1) h1 h2
  · exact h.2.2.2.1 k (by omega) y h1 h2
theorem Bfs.start {P : Nat → Bool} {w n c : Nat} {old : Nat → Bool} {q : Nat → Nat} (hc : c < n) (hp : P c = true) (hq : q 0 = c) : Bfs P w n c old (fun x => if x = c then true else old x) q 1 0 0 := by
  refine ⟨fun x => ?_, fun k hk => ?_, fun j k h1 h2 => by omega, fun k hk => absurd hk (Nat.not_lt_zero k), fun y hy => absurd hy (Nat.not_lt_zero y)⟩
  · dsimp only
    by_cases z : x = c
    · subst z
      simp only [if_true, true_iff]
      exact Or.inr ⟨0, by omega, hq⟩
    · rw [if_neg z]
      constructor
      · exact Or.inl
      · rintro (h | ⟨k, h1, h2⟩)
        · exact h
        · rw [show k = 0 by omega, hq] at h2; exact absurd h2.symm z
  · rw [show k = 0 by omega, hq]
    exact ⟨hc, hp, Cn.rf⟩
theorem Bfs.done {P : Nat → Bool} {w n c : Nat} {old sn : Nat → Bool} {q : Nat → Nat} {m e : Nat} (h : Bfs P w n c old sn q m m e) (hp : P c = true) (ho : ∀ x, old x = true ↔ Sn P w c x) (hc : sn c = true) (x : Nat) : sn x = true ↔ Sn P w (c + 1) x := by
  rw [Sn.succ]
  constructor
  · intro hx
    rcases (h.1 x).mp hx with h1 | ⟨k, h1, h2⟩
    · exact Or.inl ((ho x).mp h1)
    · exact Or.inr ⟨hp, h2 ▸ (h.2.1 k h1).2.2⟩
  · rintro (h1 | ⟨-, h1⟩)
    · exact (h.1 x).mpr (Or.inl ((ho x).mpr h1))
    · refine h1 (fun x => sn x = true) hc (fun a b h2 h3 h4 => ?_)
      rcases (h.1 a).mp h2 with h5 | ⟨k, h5, h6⟩
      · exact (h.1 b).mpr (Or.inl ((ho b).mpr (((ho a).mp h5).st h3 h4)))
      · exact h.2.2.2.1 k h5 b h3 (h6 ▸ h4)
