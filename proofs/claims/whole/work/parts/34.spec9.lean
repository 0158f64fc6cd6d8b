/-! sums over lines and columns; how far all is carried -/
theorem si_none {f : Nat → Int} : ∀ {n : Nat}, (∀ k, k < n → f k = 0) → fb_si f n = 0
  | 0, _ => rfl
  | n + 1, h => by rw [fb_si_succ, si_none (fun k hk => h k (by omega)), h n (by omega)]; rfl
theorem si_le {f g : Nat → Int} : ∀ {n : Nat}, (∀ k, k < n → f k ≤ g k) → fb_si f n ≤ fb_si g n
  | 0, _ => Int.le_refl _
  | n + 1, h => by
    rw [fb_si_succ, fb_si_succ]
    have := si_le (f := f) (g := g) (n := n) (fun k hk => h k (by omega))
    have := h n (by omega)
    omega
theorem si_ex {f : Nat → Int} {n : Nat} (h : fb_si f n ≠ 0) : ∃ k, k < n ∧ f k ≠ 0 := by
  apply Classical.byContradiction
  intro hn
  exact h (si_none (fun k hk => Classical.byContradiction (fun q => hn ⟨k, hk, q⟩)))
theorem si_one {n : Nat} {P : Nat → Prop} [DecidablePred P] {x : Int} {a : Nat} (ha : a < n) (hp : P a) (h1 : ∀ k, k < n → P k → k = a) : fb_si (fun k => if P k then x else 0) n = x := by
  have e : fb_si (fun k => if P k then x else 0) n = fb_si (fun k => if k = a then x else (fun _ => (0 : Int)) k) n := fb_si_cong (fun k hk => by
    by_cases q : k = a
    · subst q; rw [if_pos hp, if_pos rfl]
    · rw [if_neg (fun z => q (h1 k hk z)), if_neg q])
  rw [e, fb_si_upd (fun _ => (0 : Int)) x ha, si_none (fun _ _ => rfl)]
  omega
theorem si_swap (f : Nat → Nat → Int) (m : Nat) : ∀ n, fb_si (fun i => fb_si (f i) m) n = fb_si (fun j => fb_si (fun i => f i j) n) m
  | 0 => (si_none (fun k _ => rfl)).symm
  | n + 1 => by
    rw [fb_si_succ, si_swap f m n, ← fb_si_add]
    exact fb_si_cong (fun k _ => rfl)
theorem si_full {f : Nat → Int} : ∀ {n : Nat}, (∀ k, k < n → f k ≤ 1) → fb_si f n = n → ∀ k, k < n → f k = 1
  | 0, _, _ => fun k hk => by omega
  | n + 1, h, e => by
    rw [fb_si_succ] at e
    have h1 := h n (by omega)
    have h2 : fb_si f n ≤ n := by
      have := si_le (f := f) (g := fun _ => 1) (n := n) (fun k hk => h k (by omega))
      have e2 : fb_si (fun _ => (1 : Int)) n = n := by
        have := fb_si_nat (fun _ => 1) n
        rw [fb_sm_const] at this
        simpa using this
      omega
    intro k hk
    by_cases q : k = n
    · subst q; omega
    · exact si_full (n := n) (fun k hk => h k (by omega)) (by omega) k (by omega)
theorem Hg.re {c : Nat → Nat → Int} {m R : Nat} {u v : Nat → Int} {p : Nat → Nat} (h : Hg c m R u v p) (g : Nat → Int) : fb_si (fun j => if p (j + 1) = 0 then 0 else g (p (j + 1))) m = fb_si (fun i => g (i + 1)) R := by
  have e1 : fb_si (fun j => if p (j + 1) = 0 then 0 else g (p (j + 1))) m = fb_si (fun j => fb_si (fun i => if p (j + 1) = i + 1 then g (i + 1) else 0) R) m := fb_si_cong (fun j hj => by
    by_cases q : p (j + 1) = 0
    · rw [if_pos q, si_none (fun i _ => if_neg (by omega))]
    · rw [if_neg q]
      have hR := h.1 (j + 1) (by omega) (by omega)
      have := si_one (n := R) (P := fun i => p (j + 1) = i + 1) (x := g (p (j + 1))) (a := p (j + 1) - 1) (by omega) (by omega) (fun k _ e => by omega)
      rw [← this]
      exact fb_si_cong (fun i _ => by
        by_cases z : p (j + 1) = i + 1
        · rw [if_pos z, if_pos z, z]
        · rw [if_neg z, if_neg z]))
  rw [e1, si_swap]
  refine fb_si_cong (fun i hi => ?_)
  obtain ⟨j, a, b, e⟩ := h.2.2.1 (i + 1) (by omega) (by omega)
  exact si_one (n := m) (P := fun j => p (j + 1) = i + 1) (a := j - 1) (by omega) (by rw [Nat.sub_add_cancel a]; exact e) (fun k hk q => by
    have := h.2.1 (k + 1) j (by omega) (by omega) a b (by rw [q, e]) (by omega)
    omega)
theorem Hg.all {c : Nat → Nat → Int} {m : Nat} {u v : Nat → Int} {p : Nat → Nat} (h : Hg c m m u v p) {j : Nat} (hj : j < m) : p (j + 1) ≠ 0 := by
  have e := h.re (fun _ => 1)
  have e2 : fb_si (fun _ => (1 : Int)) m = m := by
    have := fb_si_nat (fun _ => 1) m
    rw [fb_sm_const] at this
    simpa using this
  rw [e2] at e
  have := si_full (fun k _ => by split <;> omega) e j hj
  intro q
  rw [if_pos q] at this
  omega
/-- what the placing costs is what rows and columns pay -/
theorem Hg.sum {c : Nat → Nat → Int} {m R : Nat} {u v : Nat → Int} {p : Nat → Nat} (h : Hg c m R u v p) : fb_si (fun j => if p (j + 1) = 0 then 0 else c (p (j + 1)) (j + 1)) m = fb_si (fun i => u (i + 1)) R + fb_si (fun j => v (j + 1)) m := by
  rw [← h.re u, ← fb_si_add]
  refine fb_si_cong (fun j hj => ?_)
  by_cases q : p (j + 1) = 0
  · rw [if_pos q, if_pos q, h.2.2.2.2.2.2.1 _ (by omega) (by omega) q]; rfl
  · rw [if_neg q, if_neg q, h.2.2.2.2.1 _ (by omega) (by omega) q]
def Dua (n : Nat) (d : Nat → Nat → Int) (A B : Nat → Bool) (U V : Nat → Int) : Prop := ∀ a b, a < n → b < n → A a = true → B b = true → U a + V b ≤ d a b
def dsm (n : Nat) (A : Nat → Bool) (U : Nat → Int) : Int := fb_si (fun x => if A x = true then U x else 0) n
def IsX (n : Nat) (d : Nat → Nat → Int) (A B : Nat → Bool) (x : Int) : Prop := (∃ U V, Dua n d A B U V ∧ dsm n A U + dsm n B V = x) ∧ ∀ U V, Dua n d A B U V → dsm n A U + dsm n B V ≤ x
theorem IsX.one {n : Nat} {d : Nat → Nat → Int} {A B : Nat → Bool} {x y : Int} (h : IsX n d A B x) (k : IsX n d A B y) : x = y := by
  obtain ⟨⟨U, V, a, b⟩, h2⟩ := h
  obtain ⟨⟨U2, V2, a2, b2⟩, k2⟩ := k
  have := h2 U2 V2 a2
  have := k2 U V a
  omega
noncomputable def carV (n : Nat) (d : Nat → Nat → Int) (A B : Nat → Bool) : Int := @dite Int (∃ x, IsX n d A B x) (Classical.propDecidable _) (fun h => Classical.choose h) (fun _ => 0)
theorem IsX.eq {n : Nat} {d : Nat → Nat → Int} {A B : Nat → Bool} {x : Int} (h : IsX n d A B x) : carV n d A B = x := by
  unfold carV
  rw [dif_pos ⟨x, h⟩]
  exact IsX.one (Classical.choose_spec (⟨x, h⟩ : ∃ x, IsX n d A B x)) h
/-- the cells of A below t, told one by one -/
def En (A : Nat → Bool) (fr : Nat → Nat) (t n : Nat) : Prop := (∀ g : Nat → Int, fb_si (fun k => g (fr (k + 1))) n = dsm t A g) ∧ (∀ k, k < n → fr (k + 1) < t ∧ A (fr (k + 1)) = true) ∧ ∀ k j, k < n → j < n → fr (k + 1) = fr (j + 1) → k = j
theorem En.zero {A : Nat → Bool} {fr : Nat → Nat} : En A fr 0 0 := ⟨fun _ => rfl, fun k h => by omega, fun k j h => by omega⟩
theorem En.skip {A : Nat → Bool} {fr : Nat → Nat} {t n : Nat} (h : En A fr t n) (ha : A t = false) : En A fr (t + 1) n :=
  ⟨fun g => by rw [h.1 g, dsm, dsm, fb_si_succ, if_neg (by rw [ha]; simp)]; omega, fun k hk => ⟨by have := (h.2.1 k hk).1; omega, (h.2.1 k hk).2⟩, h.2.2⟩
theorem En.add {A : Nat → Bool} {fr fr2 : Nat → Nat} {t n : Nat} (h : En A fr t n) (ha : A t = true) (h1 : fr2 (n + 1) = t) (h2 : ∀ k, k < n → fr2 (k + 1) = fr (k + 1)) : En A fr2 (t + 1) (n + 1) := by
  refine ⟨fun g => ?_, fun k hk => ?_, fun k j hk hj e => ?_⟩
  · rw [fb_si_succ, h1, dsm, fb_si_succ, if_pos ha]
    have := h.1 g
    rw [dsm] at this
    rw [← this]
    congr 1
    exact fb_si_cong (fun k hk => by rw [h2 k hk])
  · by_cases q : k = n
    · subst q; rw [h1]; exact ⟨by omega, ha⟩
    · rw [h2 k (by omega)]; have := h.2.1 k (by omega); exact ⟨by omega, this.2⟩
  · by_cases q : k = n
    · by_cases r : j = n
      · omega
      · subst q; rw [h1, h2 j (by omega)] at e; have := (h.2.1 j (by omega)).1; omega
    · by_cases r : j = n
      · subst r; rw [h1, h2 k (by omega)] at e; have := (h.2.1 k (by omega)).1; omega
      · rw [h2 k (by omega), h2 j (by omega)] at e; exact h.2.2 k j (by omega) (by omega) e
theorem En.cong {A : Nat → Bool} {fr fr2 : Nat → Nat} {t n : Nat} (h : En A fr t n) (h2 : ∀ k, k < n → fr2 (k + 1) = fr (k + 1)) : En A fr2 t n :=
  ⟨fun g => by rw [← h.1 g]; exact fb_si_cong (fun k hk => by rw [h2 k hk]), fun k hk => by rw [h2 k hk]; exact h.2.1 k hk, fun k j a b e => h.2.2 k j a b (by rw [h2 k a, h2 j b] at e; exact e)⟩
theorem En.idx {A : Nat → Bool} {fr : Nat → Nat} {t n a : Nat} (h : En A fr t n) (ha : a < t) (hA : A a = true) : ∃ k, k < n ∧ fr (k + 1) = a := by
  have e := h.1 (fun x => if x = a then 1 else 0)
  have e2 : dsm t A (fun x => if x = a then 1 else 0) = 1 := by
    have := si_one (n := t) (P := fun x => A x = true ∧ x = a) (x := 1) ha ⟨hA, rfl⟩ (fun k _ q => q.2)
    refine Eq.trans ?_ this
    unfold dsm
    refine fb_si_cong (fun k _ => ?_)
    by_cases q1 : A k = true
    · by_cases q2 : k = a
      · rw [if_pos q1, if_pos ⟨q1, q2⟩]; exact if_pos q2
      · rw [if_pos q1, if_neg (fun z => q2 z.2)]; exact if_neg q2
    · rw [if_neg q1, if_neg (fun z => q1 z.1)]
  rw [e2] at e
  obtain ⟨k, hk, q⟩ := si_ex (f := fun k => (fun x => if x = a then (1 : Int) else 0) (fr (k + 1))) (n := n) (by rw [e]; omega)
  refine ⟨k, hk, ?_⟩
  apply Classical.byContradiction
  intro z
  exact q (if_neg z)
/-- prices told by lines, told by cells -/
theorem En.lift {A : Nat → Bool} {fr : Nat → Nat} {t n : Nat} (h : En A fr t n) (u : Nat → Int) : ∃ U : Nat → Int, dsm t A U = fb_si (fun k => u (k + 1)) n ∧ ∀ k, k < n → U (fr (k + 1)) = u (k + 1) := by
  have key : ∀ k, k < n → fb_si (fun j => if fr (j + 1) = fr (k + 1) then u (j + 1) else 0) n = u (k + 1) := fun k hk => by
    rw [← si_one (n := n) (P := fun j => fr (j + 1) = fr (k + 1)) (x := u (k + 1)) hk rfl (fun j hj e => h.2.2 j k hj hk e)]
    refine fb_si_cong (fun j hj => ?_)
    by_cases q : fr (j + 1) = fr (k + 1)
    · rw [if_pos q, if_pos q, h.2.2 j k hj hk q]
    · rw [if_neg q, if_neg q]
  refine ⟨fun a => fb_si (fun j => if fr (j + 1) = a then u (j + 1) else 0) n, ?_, key⟩
  rw [← h.1]
  exact fb_si_cong (fun k hk => key k hk)
theorem Hg.isx {d : Nat → Nat → Int} {N n : Nat} {A B : Nat → Bool} {fr to : Nat → Nat} {u v : Nat → Int} {p : Nat → Nat} (h : Hg (fun i j => d (fr i) (to j)) n n u v p) (EA : En A fr N n) (EB : En B to N n) : IsX N d A B (fb_si (fun j => d (fr (p (j + 1))) (to (j + 1))) n) := by
  have hs : fb_si (fun j => d (fr (p (j + 1))) (to (j + 1))) n = fb_si (fun i => u (i + 1)) n + fb_si (fun j => v (j + 1)) n := by
    rw [← h.sum]
    exact fb_si_cong (fun j hj => by rw [if_neg (h.all hj)])
  refine ⟨?_, fun U V hD => ?_⟩
  · obtain ⟨U, eU, kU⟩ := EA.lift u
    obtain ⟨V, eV, kV⟩ := EB.lift v
    refine ⟨U, V, fun a b ha hb hA hB => ?_, by rw [eU, eV, hs]⟩
    obtain ⟨i, hi, ei⟩ := EA.idx ha hA
    obtain ⟨j, hj, ej⟩ := EB.idx hb hB
    rw [← ei, ← ej, kU i hi, kV j hj]
    exact h.2.2.2.1 (i + 1) (j + 1) (by omega) (by omega) (by omega) (by omega)
  · rw [← EA.1, ← EB.1, ← h.re (fun i => U (fr i)), ← fb_si_add]
    refine si_le (fun j hj => ?_)
    have hp := h.all hj
    have hR := h.1 (j + 1) (by omega) (by omega)
    rw [if_neg hp]
    obtain ⟨i, ei⟩ : ∃ i, p (j + 1) = i + 1 := ⟨p (j + 1) - 1, by omega⟩
    rw [ei]
    have m1 := EA.2.1 i (by omega)
    have m2 := EB.2.1 j hj
    exact hD _ _ m1.1 m2.1 m1.2 m2.2
/-- a cell of both stays where it is -/
theorem ex_low {N : Nat} {P : Nat → Prop} (f : Nat → Int) (h : ∃ b, b < N ∧ P b) : ∃ b, b < N ∧ P b ∧ ∀ k, k < N → P k → f b ≤ f k := by
  induction N with
  | zero => obtain ⟨b, hb, _⟩ := h; omega
  | succ N ih =>
    by_cases q : ∃ b, b < N ∧ P b
    · obtain ⟨b, h1, h2, h3⟩ := ih q
      by_cases z : P N ∧ f N < f b
      · refine ⟨N, by omega, z.1, fun k hk hp => ?_⟩
        by_cases e : k = N
        · rw [e]; exact Int.le_refl _
        · have := h3 k (by omega) hp; omega
      · refine ⟨b, by omega, h2, fun k hk hp => ?_⟩
        by_cases e : k = N
        · subst e
          have : ¬ f k < f b := fun y => z ⟨hp, y⟩
          omega
        · exact h3 k (by omega) hp
    · obtain ⟨b, hb, hp⟩ := h
      have e : b = N := by
        apply Classical.byContradiction
        intro e
        exact q ⟨b, by omega, hp⟩
      subst e
      refine ⟨b, hb, hp, fun k hk hk2 => ?_⟩
      by_cases e : k = b
      · rw [e]; exact Int.le_refl _
      · exact absurd ⟨k, by omega, hk2⟩ q
def mns (A B : Nat → Bool) : Nat → Bool := fun x => A x && !B x
theorem dsm_part (n : Nat) (A B : Nat → Bool) (U : Nat → Int) : dsm n A U = dsm n (mns A B) U + dsm n (fun x => A x && B x) U := by
  unfold dsm
  rw [← fb_si_add]
  refine fb_si_cong (fun k _ => ?_)
  show (if A k = true then U k else 0) = (if (A k && !B k) = true then U k else 0) + (if (A k && B k) = true then U k else 0)
  cases A k <;> cases B k <;> simp
theorem dsm_both (n : Nat) (A B : Nat → Bool) (U : Nat → Int) : dsm n (fun x => A x && B x) U = dsm n (fun x => B x && A x) U := by
  unfold dsm
  exact fb_si_cong (fun k _ => by show (if (A k && B k) = true then U k else 0) = (if (B k && A k) = true then U k else 0); rw [Bool.and_comm])
theorem dsm_neg (n : Nat) (A : Nat → Bool) (U : Nat → Int) : dsm n A (fun x => - U x) = - dsm n A U := by
  unfold dsm
  have := fb_si_sub (fun _ => 0) (fun x => if A x = true then U x else 0) n
  rw [si_none (f := fun _ => (0 : Int)) (fun _ _ => rfl)] at this
  rw [Int.zero_sub] at this
  rw [← this]
  refine fb_si_cong (fun k _ => ?_)
  show (if A k = true then - U k else 0) = 0 - (if A k = true then U k else 0)
  split <;> omega
theorem dsm_le {n : Nat} {A : Nat → Bool} {U V : Nat → Int} (h : ∀ k, k < n → A k = true → U k ≤ V k) : dsm n A U ≤ dsm n A V := by
  unfold dsm
  refine si_le (fun k hk => ?_)
  split
  · rename_i q; exact h k hk q
  · exact Int.le_refl _
theorem dsm_add (n : Nat) (A : Nat → Bool) (U V : Nat → Int) : dsm n A (fun x => U x + V x) = dsm n A U + dsm n A V := by
  unfold dsm
  rw [← fb_si_add]
  refine fb_si_cong (fun k _ => ?_)
  show (if A k = true then U k + V k else 0) = (if A k = true then U k else 0) + (if A k = true then V k else 0)
  split <;> omega
theorem dsm_zero {n : Nat} {A : Nat → Bool} {U : Nat → Int} (h : ∀ k, k < n → A k = true → U k = 0) : dsm n A U = 0 := by
  unfold dsm
  refine si_none (fun k hk => ?_)
  split
  · rename_i q; exact h k hk q
  · rfl
theorem IsX.both {n : Nat} {d : Nat → Nat → Int} {A B : Nat → Bool} {x : Int} (h : IsX n d (mns A B) (mns B A) x) (d0 : ∀ a, d a a = 0) (dp : ∀ a b, 0 ≤ d a b) (dt : ∀ a b c, d a c ≤ d a b + d b c) : IsX n d A B x := by
  have hA : ∀ {a}, mns A B a = true → A a = true := fun {a} q => by unfold mns at q; simp at q; exact q.1
  have hB : ∀ {a}, mns B A a = true → B a = true := fun {a} q => by unfold mns at q; simp at q; exact q.1
  have low : ∀ U V, Dua n d A B U V → dsm n A U + dsm n B V ≤ x := fun U V hD => by
    have e := h.2 U V (fun a b ha hb qa qb => hD a b ha hb (hA qa) (hB qb))
    rw [dsm_part n A B, dsm_part n B A, dsm_both n B A]
    have e2 : dsm n (fun x => A x && B x) U + dsm n (fun x => A x && B x) V ≤ 0 := by
      rw [← dsm_add, ← dsm_zero (n := n) (A := fun x => A x && B x) (U := fun _ => 0) (fun _ _ _ => rfl)]
      refine dsm_le (fun k hk q => ?_)
      have q : A k = true ∧ B k = true := by simpa using q
      have := hD k k hk hk q.1 q.2
      rw [d0 k] at this
      exact this
    omega
  refine ⟨?_, low⟩
  obtain ⟨⟨u, v, hD, e⟩, h2⟩ := h
  by_cases q : ∃ b, b < n ∧ mns B A b = true
  · have hg : ∀ y, ∃ g : Int, (∀ b, b < n → mns B A b = true → g ≤ d y b - v b) ∧ ∃ b, b < n ∧ mns B A b = true ∧ g = d y b - v b := fun y => by
      obtain ⟨b, h1, h2, h3⟩ := ex_low (fun b => d y b - v b) q
      exact ⟨d y b - v b, h3, b, h1, h2, rfl⟩
    obtain ⟨g, hg⟩ := Classical.skolem.mp hg
    have lip : ∀ a b, g a - g b ≤ d a b := fun a b => by
      obtain ⟨_, c, c1, c2, c3⟩ := hg b
      have := (hg a).1 c c1 c2
      have := dt a b c
      omega
    have hF : Dua n d A B g (fun y => - g y) := fun a b _ _ _ _ => by have := lip a b; show g a + - g b ≤ _; omega
    refine ⟨g, fun y => - g y, hF, ?_⟩
    have up := low g _ hF
    have lo : x ≤ dsm n A g + dsm n B (fun y => - g y) := by
      rw [dsm_part n A B, dsm_part n B A, dsm_both n B A]
      have z : dsm n (fun x => A x && B x) g + dsm n (fun x => A x && B x) (fun y => - g y) = 0 := by rw [dsm_neg]; omega
      have z1 : dsm n (mns A B) u ≤ dsm n (mns A B) g := dsm_le (fun k hk qk => by
        obtain ⟨_, c, c1, c2, c3⟩ := hg k
        have := hD k c hk c1 qk c2
        omega)
      have z2 : dsm n (mns B A) v ≤ dsm n (mns B A) (fun y => - g y) := dsm_le (fun k hk qk => by
        have := (hg k).1 k hk qk
        rw [d0] at this
        omega)
      omega
    omega
  · have q2 : ¬ ∃ a, a < n ∧ mns A B a = true := fun ⟨a, ha, hm⟩ => by
      have := h2 (fun y => if y = a then x + 1 else 0) v (fun a b _ hb _ hB2 => absurd ⟨b, hb, hB2⟩ q)
      have e1 : dsm n (mns A B) (fun y => if y = a then x + 1 else 0) = x + 1 := by
        have := si_one (n := n) (P := fun y => mns A B y = true ∧ y = a) (x := x + 1) ha ⟨hm, rfl⟩ (fun k _ q => q.2)
        refine Eq.trans ?_ this
        unfold dsm
        refine fb_si_cong (fun k _ => ?_)
        by_cases q1 : mns A B k = true
        · by_cases q2 : k = a
          · rw [if_pos q1, if_pos ⟨q1, q2⟩]; exact if_pos q2
          · rw [if_pos q1, if_neg (fun z => q2 z.2)]; exact if_neg q2
        · rw [if_neg q1, if_neg (fun z => q1 z.1)]
      have e2 : dsm n (mns B A) v = 0 := dsm_zero (fun k hk qk => absurd ⟨k, hk, qk⟩ q)
      omega
    have e1 : dsm n (mns A B) u = 0 := dsm_zero (fun k hk qk => absurd ⟨k, hk, qk⟩ q2)
    have e2 : dsm n (mns B A) v = 0 := dsm_zero (fun k hk qk => absurd ⟨k, hk, qk⟩ q)
    refine ⟨fun _ => 0, fun _ => 0, fun a b _ _ _ _ => by have := dp a b; show (0 : Int) + 0 ≤ _; omega, ?_⟩
    rw [dsm_zero (fun _ _ _ => rfl), dsm_zero (fun _ _ _ => rfl)]
    omega
def stp (w a b : Nat) : Int := ((ad (a % w) (b % w) + ad (a / w) (b / w) : Nat) : Int)
theorem stp_0 (w a : Nat) : stp w a a = 0 := by unfold stp ad; omega
theorem stp_p (w a b : Nat) : 0 ≤ stp w a b := by unfold stp; omega
theorem stp_t (w a b c : Nat) : stp w a c ≤ stp w a b + stp w b c := by unfold stp ad; omega
theorem stp_le {w h a b : Nat} (hw : w ≤ 6) (h6 : h ≤ 6) (w2 : 2 ≤ w) (ha : a < w * h) (hb : b < w * h) : stp w a b ≤ 10 := by
  have h1 : a % w < w := Nat.mod_lt _ (by omega)
  have h2 : b % w < w := Nat.mod_lt _ (by omega)
  have h3 : a / w < h := Nat.div_lt_of_lt_mul ha
  have h4 : b / w < h := Nat.div_lt_of_lt_mul hb
  unfold stp ad
  generalize a % w = x1 at *
  generalize b % w = x2 at *
  generalize a / w = x3 at *
  generalize b / w = x4 at *
  omega
