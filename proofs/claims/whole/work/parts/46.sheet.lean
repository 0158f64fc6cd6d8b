/-! the class: frames, sheets -/
def FC (A B : List Nat) (M M2 : Mem) : Prop := (∀ a, a ∉ A → M2.1 a = M.1 a) ∧ ∀ b, b ∉ B → M2.2 b = M.2 b
theorem FC.rf {A B : List Nat} {M : Mem} : FC A B M M := ⟨fun _ _ => rfl, fun _ _ => rfl⟩
theorem FC.tr {A B : List Nat} {M M2 M3 : Mem} (h1 : FC A B M M2) (h2 : FC A B M2 M3) : FC A B M M3 := ⟨fun a h => (h2.1 a h).trans (h1.1 a h), fun a h => (h2.2 a h).trans (h1.2 a h)⟩
theorem FC.mono {A B C D : List Nat} {M M2 : Mem} (h : FC A B M M2) (h1 : ∀ a, a ∈ A → a ∈ C := by decide) (h2 : ∀ b, b ∈ B → b ∈ D := by decide) : FC C D M M2 := ⟨fun a ha => h.1 a (fun q => ha (h1 a q)), fun b hb => h.2 b (fun q => hb (h2 b q))⟩
theorem FC.pi {A B : List Nat} {M M2 : Mem} {a : Nat} {f : Nat → Int32} (h : FC A B M M2) (ha : a ∈ A := by decide) : FC A B M (va_up M2.1 a f, M2.2) := ⟨fun b hb => by
  have : b ≠ a := fun e => hb (e ▸ ha)
  simp [va_up, this, h.1 b hb], h.2⟩
theorem FC.pl {A B : List Nat} {M M2 : Mem} {b : Nat} {f : Nat → Int64} (h : FC A B M M2) (hb : b ∈ B := by decide) : FC A B M (M2.1, va_up M2.2 b f) := ⟨h.1, fun a ha => by
  have : a ≠ b := fun e => ha (e ▸ hb)
  simp [va_up, this, h.2 a ha]⟩
theorem FC.i {A B : List Nat} {M M2 : Mem} (h : FC A B M M2) (a : Nat) (ha : a ∉ A := by decide) : M2.1 a = M.1 a := h.1 a ha
theorem FC.l {A B : List Nat} {M M2 : Mem} (h : FC A B M M2) (b : Nat) (hb : b ∉ B := by decide) : M2.2 b = M.2 b := h.2 b hb
theorem Gm.fc {w h : Nat} {A B : List Nat} {M M2 : Mem} (G : Gm w h M) (H : FC A B M M2) (h2 : 1 ∉ A ∧ 1 ∉ B := by decide) : Gm w h M2 := by
  obtain ⟨g1, g2, g3, g4, g5⟩ := G
  exact ⟨by rw [H.1 1 h2.1]; exact g1, by rw [H.1 1 h2.1]; exact g2, by rw [H.2 1 h2.2]; exact g3, by rw [H.2 1 h2.2]; exact g4, by rw [H.2 1 h2.2]; exact g5⟩
theorem Sh.fc {b : Nat} {f : Nat → Nat} {A B : List Nat} {M M2 : Mem} (S : Sh b f M) (H : FC A B M M2) (h2 : b ∉ B := by decide) : Sh b f M2 := fun k hk => by rw [H.2 b h2]; exact S k hk
theorem upL_s {f : Nat → Nat → Int64} {g : Nat → Nat → Int32} {a j : Nat} {x : Int64} : ((g, va_up f a (vp_updL (f a) j x)) : Mem).2 a j = x := by simp [va_up, vp_updL]
theorem upL_n {f : Nat → Nat → Int64} {g : Nat → Nat → Int32} {a j i : Nat} {x : Int64} (h : i ≠ j) : ((g, va_up f a (vp_updL (f a) j x)) : Mem).2 a i = f a i := by simp [va_up, vp_updL, h]
/-- a sheet over n cells -/
def Sw (n : Nat) (f : Nat → Nat) : Prop := (∀ c, f c ≤ 6) ∧ ∀ c, n ≤ c → f c = 6
theorem Wf.m {w h : Nat} {mp dr : Nat → Nat} (H : Wf w h mp dr) : Sw (w * h) mp := ⟨H.2.2.2.2.1, H.2.2.2.2.2.2.1⟩
theorem Wf.d {w h : Nat} {mp dr : Nat → Nat} (H : Wf w h mp dr) : Sw (w * h) dr := ⟨H.2.2.2.2.2.1, H.2.2.2.2.2.2.2⟩
def cel (n : Nat) (f : Nat → Nat) (l : Nat) : Nat → Bool := fun i => decide (i < n) && decide (f i = l)
theorem cel_out {n : Nat} {f : Nat → Nat} {l i : Nat} (h : n ≤ i) : cel n f l i = false := by unfold cel; simp; omega
theorem cel_l {n : Nat} {f : Nat → Nat} {l : Nat} (hf : Sw n f) (hl : l < 6) : cel n f l = fun i => decide (f i = l) := by
  funext i
  unfold cel
  rcases Nat.lt_or_ge i n with h | h
  · simp [h]
  · have := hf.2 i h
    have h2 : ¬ f i = l := by omega
    simp [h2]
theorem ct_cel {n : Nat} {f : Nat → Nat} {l : Nat} (hn : n ≤ 64) : fb_ct (cel n f l) 64 = many f l n := by
  rw [ct_cut (n := n) (fun i h => cel_out h) hn]
  exact fb_ct_cong (fun i hi => by unfold cel; simp [hi])
theorem sh_clear {b : Nat} {M : Mem} : Sh b (fun _ => 6) (M.1, va_up M.2 b (fun k => if k < 6 then 0 else M.2 b k)) := fun k hk => by
  have e : ((M.1, va_up M.2 b (fun k => if k < 6 then 0 else M.2 b k)) : Mem).2 b k = 0 := by simp [va_up, hk]
  rw [e, mk_0]
  exact mk_cong (fun i _ => by symm; simp; omega)
theorem sh_copy {a b : Nat} {f : Nat → Nat} {M : Mem} (S : Sh a f M) : Sh b f (M.1, va_up M.2 b (va_cpy (M.2 a) (M.2 b) 0 0 6)) := fun k hk => by
  have e : ((M.1, va_up M.2 b (va_cpy (M.2 a) (M.2 b) 0 0 6)) : Mem).2 b k = M.2 a (0 + (k - 0)) := by
    simp only [va_up, if_true]
    exact pk_cpy_in (by omega) (by omega)
  rw [e, show 0 + (k - 0) = k by omega]
  exact S k hk
theorem put_stp {b j : Nat} {M2 : Mem} {g f : Nat → Nat → Bool} {x : Int64} (h1 : ∀ k, k < j → M2.2 b k = mk (g k)) (h2 : ∀ k, j ≤ k → k < 6 → M2.2 b k = mk (f k)) (hx : x = mk (g j)) : (∀ k, k < j + 1 → ((M2.1, va_up M2.2 b (vp_updL (M2.2 b) j x)) : Mem).2 b k = mk (g k)) ∧ ∀ k, j + 1 ≤ k → k < 6 → ((M2.1, va_up M2.2 b (vp_updL (M2.2 b) j x)) : Mem).2 b k = mk (f k) := by
  refine ⟨fun k hk => ?_, fun k hk h6 => ?_⟩
  · by_cases q : k = j
    · subst q; rw [upL_s, hx]
    · rw [upL_n q]; exact h1 k (by omega)
  · rw [upL_n (by omega)]; exact h2 k (by omega) h6
theorem put_in {P : Nat → Bool} {f : Nat → Nat} {j : Nat} : mk (fun i => decide (f i = j)) ||| mk P = mk (fun i => decide ((if P i = true then j else f i) = j)) := by
  rw [mk_or]
  exact mk_cong (fun i _ => by cases P i <;> simp)
theorem put_ex {P : Nat → Bool} {f : Nat → Nat} {j lv : Nat} (h : j ≠ lv) : mk (fun i => decide (f i = j)) &&& (mk P ^^^ (-1)) = mk (fun i => decide ((if P i = true then lv else f i) = j)) := by
  rw [mk_not, mk_and]
  exact mk_cong (fun i _ => by cases P i <;> simp [Ne.symm h])
theorem put_1 {f : Nat → Nat} {c lv : Nat} : (fun i => if decide (i = c) = true then lv else f i) = set1 f c lv := by
  funext i; unfold set1; simp
theorem mk_many {n : Nat} {f : Nat → Nat} {l : Nat} (hf : Sw n f) (hl : l < 6) (hn : n ≤ 64) : mk (fun i => decide (f i = l)) = 0 ↔ many f l n = 0 := by
  rw [mk_z]
  unfold many
  rw [fb_ct_zero]
  constructor
  · intro h k hk; exact h k (by omega)
  · intro h k hk
    rcases Nat.lt_or_ge k n with z | z
    · exact h k z
    · have := hf.2 k z
      simp; omega
theorem tch_z {w n : Nat} {f : Nat → Nat} {c l : Nat} (hf : Sw n f) (hl : l < 6) (hc : c < n) (hn : n ≤ 64) : mk (rim w n (fun i => decide (i = c))) &&& mk (fun i => decide (f i = l)) = 0 ↔ tch w n f c l = false := by
  rw [mk_and, mk_z, ← Bool.not_eq_true]
  unfold tch
  rw [bex_iff]
  constructor
  · rintro h ⟨e, h1, h2⟩
    have := h e (by omega)
    rw [Bool.and_eq_true] at h2
    have h3 : rim w n (fun i => decide (i = c)) e = true := rim_iff.mpr ⟨h1, c, hc, by simp, h2.2⟩
    rw [h3, h2.1] at this; cases this
  · intro h i hi
    cases e : (rim w n (fun i => decide (i = c)) i && decide (f i = l)) with
    | false => rfl
    | true =>
      exfalso
      rw [Bool.and_eq_true, rim_iff] at e
      obtain ⟨⟨h1, j, h2, h3, h4⟩, h5⟩ := e
      have : j = c := by simpa using h3
      subst this
      exact h ⟨i, h1, by rw [h5, h4]; rfl⟩
theorem rim_tch {w n : Nat} {f : Nat → Nat} {l i : Nat} (hi : i < n) : rim w n (fun c => decide (f c = l)) i = tch w n f i l := by
  rw [Bool.eq_iff_iff, rim_iff]
  unfold tch
  rw [bex_iff]
  constructor
  · rintro ⟨-, j, h2, h3, h4⟩
    exact ⟨j, h2, by rw [h3, adj_comm, h4]; rfl⟩
  · rintro ⟨j, h2, h3⟩
    rw [Bool.and_eq_true] at h3
    exact ⟨hi, j, h2, h3.1, by rw [adj_comm]; exact h3.2⟩
theorem nbr_z {w n : Nat} {f : Nat → Nat} {a b : Nat} (hf : Sw n f) (hb : b < 6) (hn : n ≤ 64) : mk (rim w n (fun i => decide (f i = a))) &&& mk (fun i => decide (f i = b)) = 0 ↔ nbr w n f a b = false := by
  rw [mk_and, mk_z, ← Bool.not_eq_true]
  unfold nbr
  rw [bex_iff]
  constructor
  · rintro h ⟨c, h1, h2⟩
    rw [Bool.and_eq_true] at h2
    unfold tch at h2
    rw [bex_iff] at h2
    obtain ⟨h3, e, h4, h5⟩ := h2
    rw [Bool.and_eq_true] at h5
    have := h e (by omega)
    have h6 : rim w n (fun i => decide (f i = a)) e = true := rim_iff.mpr ⟨h4, c, h1, h3, h5.2⟩
    rw [h6, h5.1] at this; cases this
  · intro h i hi
    cases e : (rim w n (fun i => decide (f i = a)) i && decide (f i = b)) with
    | false => rfl
    | true =>
      exfalso
      rw [Bool.and_eq_true, rim_iff] at e
      obtain ⟨⟨h1, j, h2, h3, h4⟩, h5⟩ := e
      refine h ⟨j, h2, ?_⟩
      rw [h3, Bool.true_and]
      unfold tch
      rw [bex_iff]
      exact ⟨i, h1, by rw [h5, h4]; rfl⟩
theorem nbr_comm {w n : Nat} {f : Nat → Nat} {a b : Nat} : nbr w n f a b = nbr w n f b a := by
  have key : ∀ a b, nbr w n f a b = true → nbr w n f b a = true := fun a b h => by
    unfold nbr tch at h ⊢
    rw [bex_iff] at h ⊢
    obtain ⟨c, h1, h2⟩ := h
    rw [Bool.and_eq_true, bex_iff] at h2
    obtain ⟨h3, e, h4, h5⟩ := h2
    rw [Bool.and_eq_true] at h5
    refine ⟨e, h4, ?_⟩
    rw [Bool.and_eq_true, bex_iff]
    exact ⟨h5.1, c, h1, by rw [h3, adj_comm, h5.2]; rfl⟩
  rw [Bool.eq_iff_iff]
  exact ⟨key a b, key b a⟩
/-- pairs of neighbours -/
def prs (w n : Nat) (f : Nat → Nat) : Nat → Bool := fun i => decide (i < 36 ∧ i / 6 < i % 6) && nbr w n f (i / 6) (i % 6)
theorem prs_s {w n : Nat} {f : Nat → Nat} {a b : Nat} (ha : a < b) (hb : b < 6) {i : Nat} : (decide (i < 6 * a + (b + 1)) && prs w n f i) = ((decide (i < 6 * a + b) && prs w n f i) || (decide (i = 6 * a + b) && nbr w n f a b)) := by
  by_cases e : i = 6 * a + b
  · subst e
    have h1 : (6 * a + b) / 6 = a := by omega
    have h2 : (6 * a + b) % 6 = b := by omega
    have h3 : 6 * a + b < 36 := by omega
    unfold prs
    rw [h1, h2]
    simp [h3, ha]
  · have : decide (i < 6 * a + (b + 1)) = decide (i < 6 * a + b) := decide_eq_decide.mpr (by omega)
    rw [this]; simp [e]
theorem prs_a {w n : Nat} {f : Nat → Nat} {a : Nat} {i : Nat} : (decide (i < 6 * a + (a + 1)) && prs w n f i) = (decide (i < 6 * a) && prs w n f i) := by
  by_cases e : i < 6 * a
  · simp [e, show i < 6 * a + (a + 1) by omega]
  · by_cases z : i < 6 * a + (a + 1)
    · have : ¬ i / 6 < i % 6 := by omega
      unfold prs
      simp [e, this]
    · simp [e, z]
theorem ct_below (c : Nat) : ∀ n, c ≤ n → fb_ct (fun i => decide (i < c)) n = c := by
  have key : ∀ n, fb_ct (fun i => decide (i < c)) n = if n ≤ c then n else c := fun n => by
    induction n with
    | zero => simp [fb_ct]
    | succ n ih =>
      rw [fb_ct_succ, ih]
      by_cases h : n < c
      · simp [h, show n ≤ c by omega, show n + 1 ≤ c by omega]
      · by_cases h2 : n ≤ c
        · have : n = c := by omega
          subst this; simp
        · simp [h, h2, show ¬ n + 1 ≤ c by omega]
  intro n hn
  rw [key]
  split <;> omega
theorem fnd_cut {P : Nat → Bool} {n : Nat} (h : ∀ i, n ≤ i → P i = false) : ∀ {m : Nat}, n ≤ m → fnd P m = fnd P n
  | 0, hm => by rw [show n = 0 by omega]
  | m + 1, hm => by
    rcases Nat.lt_or_ge m n with z | z
    · rw [show n = m + 1 by omega]
    · simp only [fnd]
      rw [fnd_cut h z, h m z]
      cases fnd P n <;> simp
theorem lst_fnd {P : Nat → Bool} {c : Nat} (h : Lst P c) : fnd P 64 = some c := fnd_some.mpr ⟨h.1, h.2.1, h.2.2⟩
theorem okl5 {k : Nat} (h : k < 2 ^ 31) : okl 5 (nI k) = decide (k ≤ 5) := by unfold okl; rw [nI_t h]; exact decide_eq_decide.mpr (by omega)
theorem okl6 {k : Nat} (h : k < 2 ^ 31) : okl 6 (nI k) = decide (k ≤ 6) := by unfold okl; rw [nI_t h]; exact decide_eq_decide.mpr (by omega)
theorem okl2 {k : Nat} (h : k < 2 ^ 31) : okl 2 (nI k) = decide (k ≤ 2) := by unfold okl; rw [nI_t h]; exact decide_eq_decide.mpr (by omega)
theorem lay_w : ∀ w, w < 7 → 2 ≤ w → ∀ j, j < 6 → ∀ i, i < 64 → (decide (i < w * j ∧ i % w = 0) || decide (i = j * w)) = decide (i < w * (j + 1) ∧ i % w = 0) := by decide +kernel
theorem lay_e : ∀ w, w < 7 → 2 ≤ w → ∀ h, h < 7 → 2 ≤ h → ∀ i, i < 64 → (decide (w - 1 ≤ i) && decide (i - (w - 1) < w * h ∧ (i - (w - 1)) % w = 0)) = decide (i < w * h ∧ i % w = w - 1) := by decide +kernel
theorem box_s {w c e r q : Nat} (hq : q < w) (h1 : c % w ≤ q ∧ q ≤ e % w) (h2 : c / w ≤ r ∧ r ≤ e / w) {i : Nat} : (inbox w c e i && (decide (i / w < r) || (decide (i / w = r) && decide (i % w < q + 1)))) = ((inbox w c e i && (decide (i / w < r) || (decide (i / w = r) && decide (i % w < q)))) || decide (i = r * w + q)) := by
  have hd : i = r * w + q ↔ i / w = r ∧ i % w = q := by
    constructor
    · intro e
      subst e
      refine ⟨?_, ?_⟩
      · rw [Nat.mul_comm, Nat.mul_add_div (by omega), Nat.div_eq_of_lt hq, Nat.add_zero]
      · rw [Nat.mul_comm, Nat.mul_add_mod, Nat.mod_eq_of_lt hq]
    · rintro ⟨h3, h4⟩
      have := Nat.div_add_mod i w
      rw [h3, h4, Nat.mul_comm] at this
      exact this.symm
  by_cases z : i = r * w + q
  · obtain ⟨h3, h4⟩ := hd.mp z
    unfold inbox
    rw [h3, h4]
    simp [h1, h2, z]
  · rw [decide_eq_false z, Bool.or_false]
    congr 2
    by_cases y : i / w = r
    · have : ¬ i % w = q := fun x => z (hd.mpr ⟨y, x⟩)
      have e1 : decide (i % w < q + 1) = decide (i % w < q) := decide_eq_decide.mpr (by omega)
      rw [e1]
    · simp [y]
