/-! the class: how few votes turn it -/
def swp (e : Nat) : Nat := if e = 0 then 1 else if e = 1 then 0 else e
theorem swp_lt {e : Nat} (h : e < 4) : swp e < 4 := by unfold swp; split <;> (try split) <;> omega
theorem swp_swp (e : Nat) : swp (swp e) = e := by
  unfold swp
  by_cases h0 : e = 0
  · subst h0; rfl
  · by_cases h1 : e = 1
    · subst h1; rfl
    · simp [h0, h1]
theorem who_sw (x y z : Nat) : whoN y x z = swp (whoN x y z) := by
  have key : ∀ (A B C D : Prop) [Decidable A] [Decidable B] [Decidable C] [Decidable D], (A → ¬ B) → (C ↔ D) → (if B then 0 else if A then 1 else if D then 2 else 3) = swp (if A then 0 else if B then 1 else if C then 2 else 3) := by
    intro A B C D _ _ _ _ h1 h2
    by_cases a : A
    · simp [a, h1 a, swp]
    · by_cases b : B
      · simp [a, b, swp]
      · by_cases c : C
        · simp [a, b, c, h2.mp c, swp]
        · have d : ¬ D := fun q => c (h2.mpr q)
          simp [a, b, c, d, swp]
  unfold whoN
  exact key _ _ _ _ (fun q r => by omega) (by omega)
/-- who wins a land when k votes have gone: 0 the gaining side -/
def cw (vt : Nat → Nat) (a s t l k : Nat) : Nat := whoN (vt (3 * l + s) + k) (vt (3 * l + a) - k) (vt (3 * l + t))
def prq (vt : Nat → Nat) (a s t l e : Nat) : Option Nat := fnd (fun k => decide (cw vt a s t l k = e)) (vt (3 * l + a) + 1)
theorem prq_prc (vt : Nat → Nat) (a s t l e : Nat) : prq vt a s t l e = prc vt a s t l (swp e) := fnd_cong (fun k _ => decide_eq_decide.mpr (by
  unfold cw
  rw [who_sw (vt (3 * l + a) - k) (vt (3 * l + s) + k)]
  constructor
  · intro h; rw [← h, swp_swp]
  · intro h; rw [h, swp_swp]))
theorem cw_0 {vt : Nat → Nat} {a s t l k : Nat} : cw vt a s t l k = 0 ↔ vt (3 * l + a) - k < vt (3 * l + s) + k ∧ vt (3 * l + t) < vt (3 * l + s) + k := by
  unfold cw whoN
  split
  · rename_i h; simp [h]
  · rename_i h
    constructor
    · intro q; split at q <;> (try split at q) <;> simp at q
    · intro q; exact absurd q h
theorem cw_up {vt : Nat → Nat} {a s t l k j : Nat} (h : cw vt a s t l k = 0) (hj : k ≤ j) : cw vt a s t l j = 0 := by
  rw [cw_0] at h ⊢
  omega
theorem fnd_more {p : Nat → Bool} {n m : Nat} (hm : n ≤ m) (h : ∀ k, n ≤ k → k < m → p k = false) : fnd p m = fnd p n := by
  cases e : fnd p n with
  | some c =>
    have := fnd_some.mp e
    exact fnd_some.mpr ⟨by omega, this.2⟩
  | none =>
    refine fnd_none.mpr (fun d hd => ?_)
    rcases Nat.lt_or_ge d n with z | z
    · exact fnd_none.mp e d z
    · exact h d z hd
theorem fnd_at {p : Nat → Bool} {n c m : Nat} (h : fnd p n = some c) (hm : n ≤ m) : fnd p m = some c := by
  have := fnd_some.mp h
  exact fnd_some.mpr ⟨by omega, this.2⟩
def FAR : Nat := 1000000
def pvl (o : Option Nat) : Nat := o.getD FAR
theorem pvl_le {o : Option Nat} (h : ∀ k, o = some k → k ≤ FAR) : pvl o ≤ FAR := by
  cases o with
  | none => exact Nat.le_refl _
  | some k => exact h k rfl
/-- the price behind one step more -/
theorem prq_s {vt : Nat → Nat} {a s t l e g : Nat} (hg : g ≤ 999) : pvl (fnd (fun k => decide (cw vt a s t l k = e)) (g + 1)) = if e = cw vt a s t l g then (if g < pvl (fnd (fun k => decide (cw vt a s t l k = e)) g) then g else pvl (fnd (fun k => decide (cw vt a s t l k = e)) g)) else pvl (fnd (fun k => decide (cw vt a s t l k = e)) g) := by
  simp only [fnd]
  cases h : fnd (fun k => decide (cw vt a s t l k = e)) g with
  | some c =>
    have := (fnd_some.mp h).1
    have e1 : pvl (some c) = c := rfl
    rw [e1]
    split
    · rw [if_neg (by omega)]
    · rfl
  | none =>
    have e1 : pvl none = FAR := rfl
    simp only [decide_eq_true_eq]
    rw [e1]
    by_cases q : cw vt a s t l g = e
    · rw [if_pos q, if_pos q.symm, if_pos (by unfold FAR; omega)]; rfl
    · rw [if_neg q, if_neg (Ne.symm q)]; rfl
/-- the search over ends -/
def dA (sz e : Nat) : Int := if e = 0 then sz else if e = 1 then -(sz : Int) else 0
def dB (sz e : Nat) : Int := if e = 0 then sz else if e = 2 then -(sz : Int) else 0
def chm (pv : Nat → Nat) (rec : Nat → Nat) : Nat → Nat
  | 0 => FAR
  | e + 1 => if pv e < chm pv rec e then (if pv e + rec e < chm pv rec e then pv e + rec e else chm pv rec e) else chm pv rec e
def chq (pv : Nat → Nat → Nat) (sz : Nat → Nat) : Nat → Int → Int → Nat
  | 0, a, b => if 0 < a ∧ 0 < b then 0 else FAR
  | r + 1, a, b => chm (pv (5 - r)) (fun e => chq pv sz r (a + dA (sz (5 - r)) e) (b + dB (sz (5 - r)) e)) 4
theorem chm_le (pv : Nat → Nat) (rec : Nat → Nat) : ∀ e, chm pv rec e ≤ FAR
  | 0 => Nat.le_refl _
  | e + 1 => by
    have ih := chm_le pv rec e
    simp only [chm]
    split
    · split <;> omega
    · exact ih
theorem chm_step (pv : Nat → Nat) (rec : Nat → Nat) (e : Nat) : chm pv rec (e + 1) ≤ chm pv rec e ∧ chm pv rec (e + 1) ≤ pv e + rec e := by
  simp only [chm]
  split
  · split <;> omega
  · omega
theorem chm_mono (pv : Nat → Nat) (rec : Nat → Nat) (e : Nat) : ∀ k, chm pv rec (e + k) ≤ chm pv rec e
  | 0 => Nat.le_refl _
  | k + 1 => Nat.le_trans (chm_step pv rec (e + k)).1 (chm_mono pv rec e k)
theorem chm_hit (pv : Nat → Nat) (rec : Nat → Nat) : ∀ e, chm pv rec e < FAR → ∃ k, k < e ∧ chm pv rec e = pv k + rec k
  | 0, h => absurd h (Nat.lt_irrefl _)
  | e + 1, h => by
    simp only [chm] at h ⊢
    by_cases q : pv e < chm pv rec e
    · rw [if_pos q] at h ⊢
      by_cases z : pv e + rec e < chm pv rec e
      · rw [if_pos z]; exact ⟨e, by omega, rfl⟩
      · rw [if_neg z] at h ⊢
        obtain ⟨k, h1, h2⟩ := chm_hit pv rec e h
        exact ⟨k, by omega, h2⟩
    · rw [if_neg q] at h ⊢
      obtain ⟨k, h1, h2⟩ := chm_hit pv rec e h
      exact ⟨k, by omega, h2⟩
theorem chq_le (pv : Nat → Nat → Nat) (sz : Nat → Nat) (r : Nat) (a b : Int) : chq pv sz r a b ≤ FAR := by
  cases r with
  | zero => simp only [chq]; split <;> omega
  | succ r => exact chm_le _ _ 4
/-- sums over the last r lands -/
def ts (g : Nat → Nat) : Nat → Nat
  | 0 => 0
  | r + 1 => g (5 - r) + ts g r
def tI (g : Nat → Int) : Nat → Int
  | 0 => 0
  | r + 1 => g (5 - r) + tI g r
theorem ts_cong {f g : Nat → Nat} : ∀ {r : Nat}, (∀ l, 6 ≤ l + r → l < 6 → f l = g l) → r ≤ 6 → ts f r = ts g r
  | 0, _, _ => rfl
  | r + 1, h, hr => by rw [ts, ts, h (5 - r) (by omega) (by omega), ts_cong (fun l h1 h2 => h l (by omega) h2) (by omega)]
theorem tI_cong {f g : Nat → Int} : ∀ {r : Nat}, (∀ l, 6 ≤ l + r → l < 6 → f l = g l) → r ≤ 6 → tI f r = tI g r
  | 0, _, _ => rfl
  | r + 1, h, hr => by rw [tI, tI, h (5 - r) (by omega) (by omega), tI_cong (fun l h1 h2 => h l (by omega) h2) (by omega)]
theorem chq_low {pv : Nat → Nat → Nat} {sz e : Nat → Nat} (he : ∀ l, l < 6 → e l < 4) : ∀ {r : Nat} {a b : Int}, r ≤ 6 → 0 < a + tI (fun l => dA (sz l) (e l)) r → 0 < b + tI (fun l => dB (sz l) (e l)) r → chq pv sz r a b ≤ ts (fun l => pv l (e l)) r
  | 0, a, b, _, h1, h2 => by
    simp only [tI] at h1 h2
    simp only [chq]
    rw [if_pos ⟨by omega, by omega⟩]
    exact Nat.zero_le _
  | r + 1, a, b, hr, h1, h2 => by
    simp only [tI] at h1 h2
    simp only [chq, ts]
    have ih := chq_low (pv := pv) (sz := sz) he (r := r) (a := a + dA (sz (5 - r)) (e (5 - r))) (b := b + dB (sz (5 - r)) (e (5 - r))) (by omega) (by omega) (by omega)
    have h4 := he (5 - r) (by omega)
    have m1 := chm_mono (pv (5 - r)) (fun e => chq pv sz r (a + dA (sz (5 - r)) e) (b + dB (sz (5 - r)) e)) (e (5 - r) + 1) (3 - e (5 - r))
    rw [show e (5 - r) + 1 + (3 - e (5 - r)) = 4 by omega] at m1
    have m2 := (chm_step (pv (5 - r)) (fun e => chq pv sz r (a + dA (sz (5 - r)) e) (b + dB (sz (5 - r)) e)) (e (5 - r))).2
    omega
theorem chq_att {pv : Nat → Nat → Nat} {sz : Nat → Nat} : ∀ {r : Nat} {a b : Int}, r ≤ 6 → chq pv sz r a b < FAR → ∃ e : Nat → Nat, (∀ l, e l < 4) ∧ 0 < a + tI (fun l => dA (sz l) (e l)) r ∧ 0 < b + tI (fun l => dB (sz l) (e l)) r ∧ chq pv sz r a b = ts (fun l => pv l (e l)) r
  | 0, a, b, _, h => by
    simp only [chq] at h ⊢
    by_cases q : 0 < a ∧ 0 < b
    · exact ⟨fun _ => 0, fun _ => Nat.zero_lt_succ 3, by simp only [tI]; omega, by simp only [tI]; omega, by rw [if_pos q]; rfl⟩
    · rw [if_neg q] at h; exact absurd h (Nat.lt_irrefl _)
  | r + 1, a, b, hr, h => by
    simp only [chq] at h ⊢
    obtain ⟨k, hk, e1⟩ := chm_hit _ _ 4 h
    obtain ⟨e, h1, h2, h3, h4⟩ := chq_att (pv := pv) (sz := sz) (r := r) (a := a + dA (sz (5 - r)) k) (b := b + dB (sz (5 - r)) k) (by omega) (by omega)
    have c : ∀ l, 6 ≤ l + r → l < 6 → (if l = 5 - r then k else e l) = e l := fun l q1 q2 => if_neg (by omega)
    refine ⟨fun l => if l = 5 - r then k else e l, fun l => ?_, ?_, ?_, ?_⟩
    · dsimp only; split
      · exact hk
      · exact h1 l
    · simp only [tI, if_true]
      rw [tI_cong (g := fun l => dA (sz l) (e l)) (fun l q1 q2 => by rw [c l q1 q2]) (by omega)]
      omega
    · simp only [tI, if_true]
      rw [tI_cong (g := fun l => dB (sz l) (e l)) (fun l q1 q2 => by rw [c l q1 q2]) (by omega)]
      omega
    · simp only [ts, if_true]
      rw [ts_cong (g := fun l => pv l (e l)) (fun l q1 q2 => by rw [c l q1 q2]) (by omega), e1, h4]
/-! the reference's search -/
theorem tc_some {pr : Nat → Nat → Option Nat} {f : Nat → Nat} : ∀ {k c : Nat}, tc pr f k = some c → (∀ l, l < k → ∃ x, pr l (f l) = some x) ∧ c = fb_sm (fun l => pvl (pr l (f l))) k
  | 0, c, h => by simp [tc] at h; exact ⟨fun l hl => absurd hl (Nat.not_lt_zero l), by rw [← h]; rfl⟩
  | k + 1, c, h => by
    simp only [tc] at h
    cases e1 : tc pr f k with
    | none => rw [e1] at h; simp at h
    | some a =>
      cases e2 : pr k (f k) with
      | none => rw [e1, e2] at h; simp at h
      | some b =>
        rw [e1, e2] at h
        simp at h
        obtain ⟨h1, h2⟩ := tc_some e1
        refine ⟨fun l hl => ?_, ?_⟩
        · by_cases q : l = k
          · subst q; exact ⟨b, e2⟩
          · exact h1 l (by omega)
        · rw [fb_sm_succ, ← h2, e2, ← h]; rfl
theorem tc_of {pr : Nat → Nat → Option Nat} {f : Nat → Nat} : ∀ {k : Nat}, (∀ l, l < k → ∃ x, pr l (f l) = some x) → tc pr f k = some (fb_sm (fun l => pvl (pr l (f l))) k)
  | 0, _ => rfl
  | k + 1, h => by
    obtain ⟨x, hx⟩ := h k (by omega)
    simp only [tc]
    rw [tc_of (fun l hl => h l (by omega)), hx, fb_sm_succ]
    simp [hx, pvl]
theorem bst_low {pr : Nat → Nat → Option Nat} {sz : Nat → Nat} : ∀ {n i c : Nat}, i < n → tc pr (cd i) 6 = some c → xs sz (cd i) 0 6 < xs sz (cd i) 1 6 → xs sz (cd i) 2 6 < xs sz (cd i) 1 6 → ∃ b, bst pr sz n = some b ∧ b ≤ c
  | 0, i, c, h, _, _, _ => absurd h (Nat.not_lt_zero i)
  | n + 1, i, c, h, h1, h2, h3 => by
    by_cases q : i = n
    · subst q
      simp only [bst, h1]
      cases e : bst pr sz i with
      | none => simp [h2, h3]
      | some b =>
        by_cases z : c < b
        · simp [h2, h3, z]
        · simp [z]; omega
    · obtain ⟨b, hb, hc⟩ := bst_low (n := n) (by omega) h1 h2 h3
      simp only [bst]
      rw [hb]
      cases e : tc pr (cd n) 6 with
      | none => exact ⟨b, rfl, hc⟩
      | some c2 =>
        simp only [decide_eq_true_eq]
        by_cases z : xs sz (cd n) 0 6 < xs sz (cd n) 1 6 ∧ xs sz (cd n) 2 6 < xs sz (cd n) 1 6 ∧ c2 < b
        · rw [if_pos z]; exact ⟨c2, rfl, by omega⟩
        · rw [if_neg z]; exact ⟨b, rfl, hc⟩
theorem bst_att {pr : Nat → Nat → Option Nat} {sz : Nat → Nat} : ∀ {n c : Nat}, bst pr sz n = some c → ∃ i, i < n ∧ tc pr (cd i) 6 = some c ∧ xs sz (cd i) 0 6 < xs sz (cd i) 1 6 ∧ xs sz (cd i) 2 6 < xs sz (cd i) 1 6
  | 0, c, h => by simp [bst] at h
  | n + 1, c, h => by
    simp only [bst] at h
    cases e : tc pr (cd n) 6 with
    | none =>
      rw [e] at h
      obtain ⟨i, h1, h2⟩ := bst_att h
      exact ⟨i, by omega, h2⟩
    | some c2 =>
      rw [e] at h
      have key : ∀ (P : Prop) (_ : Decidable P), (P → xs sz (cd n) 0 6 < xs sz (cd n) 1 6 ∧ xs sz (cd n) 2 6 < xs sz (cd n) 1 6) → (if P then some c2 else bst pr sz n) = some c → ∃ i, i < n + 1 ∧ tc pr (cd i) 6 = some c ∧ xs sz (cd i) 0 6 < xs sz (cd i) 1 6 ∧ xs sz (cd i) 2 6 < xs sz (cd i) 1 6 := fun P _ hP h => by
        by_cases q : P
        · rw [if_pos q] at h; cases h; exact ⟨n, by omega, e, (hP q).1, (hP q).2⟩
        · rw [if_neg q] at h
          obtain ⟨i, h1, h2⟩ := bst_att h
          exact ⟨i, by omega, h2⟩
      exact key _ _ (fun z => ⟨z.1, z.2.1⟩) h
theorem cd_ex {f : Nat → Nat} (h : ∀ l, l < 6 → f l < 4) : ∃ i, i < 4096 ∧ ∀ l, l < 6 → cd i l = f l := by
  have h0 := h 0 (by decide)
  have h1 := h 1 (by decide)
  have h2 := h 2 (by decide)
  have h3 := h 3 (by decide)
  have h4 := h 4 (by decide)
  have h5 := h 5 (by decide)
  refine ⟨f 0 + 4 * f 1 + 16 * f 2 + 64 * f 3 + 256 * f 4 + 1024 * f 5, by omega, fun l hl => ?_⟩
  have key : l = 0 ∨ l = 1 ∨ l = 2 ∨ l = 3 ∨ l = 4 ∨ l = 5 := by omega
  unfold cd
  rcases key with rfl | rfl | rfl | rfl | rfl | rfl <;> simp only [Nat.reducePow] <;> omega
theorem xs_cong {sz f g : Nat → Nat} {v : Nat} (h : ∀ l, l < 6 → f l = g l) : xs sz f v 6 = xs sz g v 6 := fb_sm_cong (fun l hl => by rw [h l hl])
theorem ts_sm (g : Nat → Nat) : ts g 6 = fb_sm g 6 := by simp [ts, fb_sm]; omega
theorem dA_x (s e : Nat) : dA s e = ((if swp e = 1 then s else 0 : Nat) : Int) - ((if swp e = 0 then s else 0 : Nat) : Int) := by
  unfold dA swp
  by_cases h0 : e = 0
  · simp [h0]
  · by_cases h1 : e = 1
    · simp [h1]
    · simp [h0, h1]
theorem dB_x (s e : Nat) : dB s e = ((if swp e = 1 then s else 0 : Nat) : Int) - ((if swp e = 2 then s else 0 : Nat) : Int) := by
  unfold dB swp
  by_cases h0 : e = 0
  · simp [h0]
  · by_cases h1 : e = 1
    · simp [h1]
    · simp [h0, h1]
      by_cases h2 : e = 2 <;> simp [h2]
theorem tA_x (sz e : Nat → Nat) : tI (fun l => dA (sz l) (e l)) 6 = (xs sz (fun l => swp (e l)) 1 6 : Int) - (xs sz (fun l => swp (e l)) 0 6 : Int) := by
  obtain ⟨p, hp⟩ : ∃ p : Nat → Nat, p = fun l => if swp (e l) = 1 then sz l else 0 := ⟨_, rfl⟩
  obtain ⟨q, hq⟩ : ∃ q : Nat → Nat, q = fun l => if swp (e l) = 0 then sz l else 0 := ⟨_, rfl⟩
  rw [tI_cong (g := fun l => (p l : Int) - (q l : Int)) (fun l _ _ => by rw [dA_x, hp, hq]) (by omega)]
  rw [show xs sz (fun l => swp (e l)) 1 6 = fb_sm p 6 from by rw [hp]; rfl, show xs sz (fun l => swp (e l)) 0 6 = fb_sm q 6 from by rw [hq]; rfl]
  simp only [tI, fb_sm, Nat.reduceSub, Nat.sub_zero]
  omega
theorem tB_x (sz e : Nat → Nat) : tI (fun l => dB (sz l) (e l)) 6 = (xs sz (fun l => swp (e l)) 1 6 : Int) - (xs sz (fun l => swp (e l)) 2 6 : Int) := by
  obtain ⟨p, hp⟩ : ∃ p : Nat → Nat, p = fun l => if swp (e l) = 1 then sz l else 0 := ⟨_, rfl⟩
  obtain ⟨q, hq⟩ : ∃ q : Nat → Nat, q = fun l => if swp (e l) = 2 then sz l else 0 := ⟨_, rfl⟩
  rw [tI_cong (g := fun l => (p l : Int) - (q l : Int)) (fun l _ _ => by rw [dB_x, hp, hq]) (by omega)]
  rw [show xs sz (fun l => swp (e l)) 1 6 = fb_sm p 6 from by rw [hp]; rfl, show xs sz (fun l => swp (e l)) 2 6 = fb_sm q 6 from by rw [hq]; rfl]
  simp only [tI, fb_sm, Nat.reduceSub, Nat.sub_zero]
  omega
theorem turn_eq {vt : Nat → Nat} (hv : ∀ k, vt k ≤ 999) {a s t : Nat} {sz : Nat → Nat} : (if chq (fun l e => pvl (prq vt a s t l e)) sz 6 0 0 < FAR then nI (chq (fun l e => pvl (prq vt a s t l e)) sz 6 0 0) else -9) = ob (bst (prc vt a s t) sz 4096) := by
  have pe : ∀ l e, pvl (prq vt a s t l e) = pvl (prc vt a s t l (swp e)) := fun l e => by rw [prq_prc]
  have hp : ∀ l x k, prc vt a s t l x = some k → k ≤ 999 := fun l x k h => prc_le hv h
  cases hb : bst (prc vt a s t) sz 4096 with
  | some b =>
    have hb9 := bst_le hp hb
    obtain ⟨i, hi, h1, h2, h3⟩ := bst_att hb
    obtain ⟨h4, h5⟩ := tc_some h1
    have he : ∀ l, l < 6 → swp (cd i l) < 4 := fun l _ => swp_lt (cd_lt i l)
    have exs : ∀ v, xs sz (fun l => swp (swp (cd i l))) v 6 = xs sz (cd i) v 6 := fun v => xs_cong (fun l _ => swp_swp _)
    have low := chq_low (pv := fun l e => pvl (prq vt a s t l e)) (sz := sz) (e := fun l => swp (cd i l)) he (r := 6) (a := 0) (b := 0) (by omega) (by rw [tA_x, exs, exs]; omega) (by rw [tB_x, exs, exs]; omega)
    rw [ts_sm] at low
    have es : fb_sm (fun l => pvl (prq vt a s t l (swp (cd i l)))) 6 = b := by
      rw [h5]; exact fb_sm_cong (fun l _ => by rw [pe, swp_swp])
    rw [es] at low
    have hlt : chq (fun l e => pvl (prq vt a s t l e)) sz 6 0 0 < FAR := by unfold FAR; omega
    rw [if_pos hlt]
    obtain ⟨e, g1, g2, g3, g4⟩ := chq_att (pv := fun l e => pvl (prq vt a s t l e)) (sz := sz) (r := 6) (by omega) hlt
    rw [ts_sm] at g4
    obtain ⟨i2, hi2, hc2⟩ := cd_ex (f := fun l => swp (e l)) (fun l _ => swp_lt (g1 l))
    have hx : ∀ v, xs sz (cd i2) v 6 = xs sz (fun l => swp (e l)) v 6 := fun v => xs_cong hc2
    rw [tA_x] at g2
    rw [tB_x] at g3
    have hall : ∀ l, l < 6 → ∃ x, prc vt a s t l (cd i2 l) = some x := fun l hl => by
      rw [hc2 l hl]
      cases hq : prc vt a s t l (swp (e l)) with
      | some x => exact ⟨x, rfl⟩
      | none =>
        exfalso
        have p1 := fb_sm_part (fun l => pvl (prq vt a s t l (e l))) hl
        have p2 : pvl (prq vt a s t l (e l)) = FAR := by rw [pe, hq]; rfl
        omega
    have ht := tc_of hall
    have es2 : fb_sm (fun l => pvl (prc vt a s t l (cd i2 l))) 6 = chq (fun l e => pvl (prq vt a s t l e)) sz 6 0 0 := by
      rw [g4]; exact fb_sm_cong (fun l hl => by rw [hc2 l hl, pe])
    rw [es2] at ht
    obtain ⟨b2, q1, q2⟩ := bst_low hi2 ht (by rw [hx, hx]; omega) (by rw [hx, hx]; omega)
    rw [hb] at q1
    cases q1
    have : chq (fun l e => pvl (prq vt a s t l e)) sz 6 0 0 = b := by omega
    rw [this]; rfl
  | none =>
    rw [if_neg]
    · rfl
    · intro hlt
      obtain ⟨e, g1, g2, g3, g4⟩ := chq_att (pv := fun l e => pvl (prq vt a s t l e)) (sz := sz) (r := 6) (by omega) hlt
      rw [ts_sm] at g4
      obtain ⟨i2, hi2, hc2⟩ := cd_ex (f := fun l => swp (e l)) (fun l _ => swp_lt (g1 l))
      have hx : ∀ v, xs sz (cd i2) v 6 = xs sz (fun l => swp (e l)) v 6 := fun v => xs_cong hc2
      rw [tA_x] at g2
      rw [tB_x] at g3
      have hall : ∀ l, l < 6 → ∃ x, prc vt a s t l (cd i2 l) = some x := fun l hl => by
        rw [hc2 l hl]
        cases hq : prc vt a s t l (swp (e l)) with
        | some x => exact ⟨x, rfl⟩
        | none =>
          exfalso
          have p1 := fb_sm_part (fun l => pvl (prq vt a s t l (e l))) hl
          have p2 : pvl (prq vt a s t l (e l)) = FAR := by rw [pe, hq]; rfl
          omega
      obtain ⟨b2, q1, q2⟩ := bst_low hi2 (tc_of hall) (by rw [hx, hx]; omega) (by rw [hx, hx]; omega)
      rw [hb] at q1; cases q1
