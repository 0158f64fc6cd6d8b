/-! pieces: how the class finds them -/
theorem Cn.mono {P Q : Nat → Bool} {w a b : Nat} (h : Cn P w a b) (hq : ∀ x, P x = true → Q x = true) : Cn Q w a b := fun S h0 hs => h S h0 (fun x y h1 h2 h3 => hs x y h1 (hq y h2) h3)
/-- a growing set within the piece of c -/
def Gr (P : Nat → Bool) (w n c : Nat) (A : Nat → Bool) (k : Nat) : Prop := A c = true ∧ (∀ x, A x = true → x < n ∧ P x = true ∧ Cn P w c x) ∧ k < fb_ct A n
def grow (w n : Nat) (P A : Nat → Bool) : Nat → Bool := fun i => A i || (rim w n A i && P i)
theorem Gr.start {P : Nat → Bool} {w n c : Nat} (hc : c < n) (hp : P c = true) : Gr P w n c (fun i => decide (i = c)) 0 :=
  ⟨by simp, fun x hx => by
    have e : x = c := by simpa using hx
    rw [e]; exact ⟨hc, hp, Cn.rf⟩, fb_ct_pos.mpr ⟨c, hc, by simp⟩⟩
theorem Gr.step {P A : Nat → Bool} {w n c k : Nat} (h : Gr P w n c A k) (hne : ¬ ∀ i, i < 64 → grow w n P A i = A i) (hn : n ≤ 64) : Gr P w n c (grow w n P A) (k + 1) := by
  have up : ∀ x, A x = true → grow w n P A x = true := fun x hx => by unfold grow; rw [hx]; rfl
  refine ⟨up c h.1, fun x hx => ?_, ?_⟩
  · unfold grow at hx
    rw [Bool.or_eq_true, Bool.and_eq_true, rim_iff] at hx
    rcases hx with hx | ⟨⟨h1, j, h2, h3, h4⟩, h5⟩
    · exact h.2.1 x hx
    · exact ⟨h1, h5, ((h.2.1 j h3).2.2).st h5 h4⟩
  · have h1 := h.2.2
    rcases Nat.lt_or_ge (fb_ct A n) (fb_ct (grow w n P A) n) with z | z
    · omega
    · exfalso
      apply hne
      intro i _
      rcases Nat.lt_or_ge i n with q | q
      · exact ct_eq (p := A) (q := grow w n P A) (fun x _ hx => up x hx) z i q
      · cases e : A i with
        | true => exact up i e
        | false => unfold grow; rw [e, rim_out q]; rfl
theorem Gr.done {P A : Nat → Bool} {w n c k : Nat} (h : Gr P w n c A k) (he : ∀ i, i < 64 → grow w n P A i = A i) (hP : ∀ i, n ≤ i → P i = false) (hn : n ≤ 64) (i : Nat) : A i = cnb P w c i := by
  rw [Bool.eq_iff_iff, cnb_iff]
  constructor
  · intro hx; exact (h.2.1 i hx).2.2
  · intro hx
    refine hx (fun x => A x = true) h.1 (fun x y h1 h2 h3 => ?_)
    have hy : y < n := by
      apply Classical.byContradiction
      intro z
      rw [hP y (by omega)] at h2; cases h2
    have hx2 := (h.2.1 x h1).1
    show A y = true
    rw [← he y (by omega)]
    unfold grow
    rw [Bool.or_eq_true, Bool.and_eq_true, rim_iff]
    exact Or.inr ⟨⟨hy, x, hx2, h1, h3⟩, h2⟩
theorem Gr.lt {P A : Nat → Bool} {w n c k : Nat} (h : Gr P w n c A k) : k < n := Nat.lt_of_lt_of_le h.2.2 (fb_ct_le A n)
/-- what is left behind the cells ahead of t -/
noncomputable def rst (P : Nat → Bool) (w t : Nat) : Nat → Bool := fun i => P i && !(@decide (Sn P w t i) (Classical.propDecidable _))
theorem rst_iff {P : Nat → Bool} {w t i : Nat} : rst P w t i = true ↔ P i = true ∧ ¬ Sn P w t i := by
  unfold rst
  rw [Bool.and_eq_true, Bool.not_eq_true']
  constructor
  · rintro ⟨h1, h2⟩
    exact ⟨h1, (@decide_eq_false_iff_not _ (Classical.propDecidable _)).mp h2⟩
  · rintro ⟨h1, h2⟩
    exact ⟨h1, (@decide_eq_false_iff_not _ (Classical.propDecidable _)).mpr h2⟩
theorem Cn.sym {P : Nat → Bool} {w a b : Nat} (h : Cn P w a b) (ha : P a = true) : Cn P w b a := by
  have h2 : Cn P w a b ∧ Cn P w b a := h (fun x => Cn P w a x ∧ Cn P w x a) ⟨Cn.rf, Cn.rf⟩ (fun x y hx hy hxy => ⟨hx.1.st hy hxy, Cn.tr (Cn.st Cn.rf (hx.1.p ha) (by rw [adj_comm]; exact hxy)) hx.2⟩)
  exact h2.2
theorem Sn.le {P : Nat → Bool} {w s t x : Nat} (h : Sn P w s x) (hs : s ≤ t) : Sn P w t x := by
  obtain ⟨d, h1, h2, h3⟩ := h
  exact ⟨d, by omega, h2, h3⟩
theorem Sn.tr {P : Nat → Bool} {w t x y : Nat} (h : Sn P w t x) (h2 : Cn P w x y) : Sn P w t y := by
  obtain ⟨d, h1, h3, h4⟩ := h
  exact ⟨d, h1, h3, h4.tr h2⟩
theorem rst_end {P : Nat → Bool} {w t n : Nat} (ht : t ≤ n) (h : ∀ i, i < n → rst P w t i = false) : ctp (Rep P w) n = ctp (Rep P w) t := ctp_stay ht (fun k h1 h2 hk => by
  rw [rep_iff] at hk
  have h3 := h k h2
  have : rst P w t k = true := rst_iff.mpr ⟨hk.1, fun z => hk.2 (z.le h1)⟩
  rw [h3] at this; cases this)
theorem rst_sn {P : Nat → Bool} {w t c : Nat} (hl : ∀ j, j < c → rst P w t j = false) {x : Nat} (h : Sn P w c x) : Sn P w t x := by
  obtain ⟨d, h1, h2, h3⟩ := h
  have h4 : Sn P w t d := by
    apply Classical.byContradiction
    intro z
    have := rst_iff.mpr ⟨h2, z⟩
    rw [hl d h1] at this; cases this
  exact h4.tr h3
theorem rst_ge {P : Nat → Bool} {w t c : Nat} (h : rst P w t c = true) : t ≤ c := by
  apply Classical.byContradiction
  intro z
  have := rst_iff.mp h
  exact this.2 ⟨c, by omega, this.1, Cn.rf⟩
theorem rst_rep {P : Nat → Bool} {w t c : Nat} (hc : rst P w t c = true) (hl : ∀ j, j < c → rst P w t j = false) : ctp (Rep P w) (c + 1) = ctp (Rep P w) t + 1 := by
  have h1 := rst_iff.mp hc
  rw [ctp_t (rep_iff.mpr ⟨h1.1, fun z => h1.2 (rst_sn hl z)⟩), ← rst_end (n := c) (rst_ge hc) hl]
theorem rst_next {P : Nat → Bool} {w t c : Nat} (hc : rst P w t c = true) (hl : ∀ j, j < c → rst P w t j = false) (i : Nat) : (rst P w t i && !cnb (rst P w t) w c i) = rst P w (c + 1) i := by
  have h1 := rst_iff.mp hc
  have key : rst P w t i = true → (Cn (rst P w t) w c i ↔ Cn P w c i) := fun hi => by
    constructor
    · intro h; exact h.mono (fun x hx => (rst_iff.mp hx).1)
    · intro h
      refine (h (fun x => Cn (rst P w t) w c x ∧ Cn P w c x) ⟨Cn.rf, Cn.rf⟩ (fun x y hx hy hxy => ?_)).1
      have hcy : Cn P w c y := hx.2.st hy hxy
      refine ⟨hx.1.st (rst_iff.mpr ⟨hy, fun z => h1.2 (z.tr (hcy.sym h1.1))⟩) hxy, hcy⟩
  rw [Bool.eq_iff_iff, Bool.and_eq_true, Bool.not_eq_true', rst_iff, ← Bool.not_eq_true, cnb_iff, rst_iff, Sn.succ]
  constructor
  · rintro ⟨⟨h2, h3⟩, h4⟩
    refine ⟨h2, ?_⟩
    rintro (z | ⟨-, z⟩)
    · exact h3 (rst_sn hl z)
    · exact h4 ((key (rst_iff.mpr ⟨h2, h3⟩)).mpr z)
  · rintro ⟨h2, h3⟩
    have h5 : ¬ Sn P w t i := fun z => h3 (Or.inl (z.le (rst_ge hc)))
    exact ⟨⟨h2, h5⟩, fun z => h3 (Or.inr ⟨h1.1, (key (rst_iff.mpr ⟨h2, h5⟩)).mp z⟩)⟩
theorem rst_0 {P : Nat → Bool} {w i : Nat} : rst P w 0 i = P i := by
  rw [Bool.eq_iff_iff, rst_iff]
  exact ⟨fun h => h.1, fun h => ⟨h, fun ⟨d, hd, _⟩ => absurd hd (Nat.not_lt_zero d)⟩⟩
