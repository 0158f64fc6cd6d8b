/-! the class: dues, faults -/
theorem up_x {α : Type} {f : Nat → α} {a b : Nat} {x : α} (h : b ≠ a) : va_up f a x b = f b := by simp [va_up, h]
def Cm (hd : Nat → Nat) (wy : Nat) (M : Mem) : Prop := M.1 6 3 = nI wy ∧ ∀ k, k < 6 → M.1 7 k = nI (hd k)
theorem Cm.fc {hd : Nat → Nat} {wy : Nat} {A B : List Nat} {M M2 : Mem} (C : Cm hd wy M) (H : FC A B M M2) (h2 : 6 ∉ A ∧ 7 ∉ A := by decide) : Cm hd wy M2 := ⟨by rw [H.1 6 h2.1]; exact C.1, fun k hk => by rw [H.1 7 h2.2]; exact C.2 k hk⟩
/-- the class's cells hold the state -/
def CM (w h : Nat) (mp dr hd : Nat → Nat) (wy : Nat) (vt : Nat → Nat) (M : Mem) : Prop := Gm w h M ∧ Sh 3 mp M ∧ Sh 5 dr M ∧ Cm hd wy M ∧ ∀ k, k < 18 → M.1 26 k = nI (vt k)
theorem CM.fc {w h : Nat} {mp dr hd : Nat → Nat} {wy : Nat} {vt : Nat → Nat} {A B : List Nat} {M M2 : Mem} (C : CM w h mp dr hd wy vt M) (H : FC A B M M2) (h1 : 1 ∉ A ∧ 6 ∉ A ∧ 7 ∉ A ∧ 26 ∉ A := by decide) (h2 : 1 ∉ B ∧ 3 ∉ B ∧ 5 ∉ B := by decide) : CM w h mp dr hd wy vt M2 :=
  ⟨C.1.fc H ⟨h1.1, h2.1⟩, C.2.1.fc H h2.2.1, C.2.2.1.fc H h2.2.2, C.2.2.2.1.fc H ⟨h1.2.1, h1.2.2.1⟩, fun k hk => by rw [H.1 26 h1.2.2.2]; exact C.2.2.2.2 k hk⟩
/-- the class's cells but the drawing -/
theorem CM.dr {w h : Nat} {mp dr d2 hd : Nat → Nat} {wy : Nat} {vt : Nat → Nat} {A B : List Nat} {M M2 : Mem} (C : CM w h mp dr hd wy vt M) (H : FC A B M M2) (S : Sh 5 d2 M2) (h1 : 1 ∉ A ∧ 6 ∉ A ∧ 7 ∉ A ∧ 26 ∉ A := by decide) (h2 : 1 ∉ B ∧ 3 ∉ B := by decide) : CM w h mp d2 hd wy vt M2 :=
  ⟨C.1.fc H ⟨h1.1, h2.1⟩, C.2.1.fc H h2.2, S, C.2.2.2.1.fc H ⟨h1.2.1, h1.2.2.1⟩, fun k hk => by rw [H.1 26 h1.2.2.2]; exact C.2.2.2.2 k hk⟩
theorem CM.mp {w h : Nat} {mp m2 dr hd : Nat → Nat} {wy : Nat} {vt : Nat → Nat} {A B : List Nat} {M M2 : Mem} (C : CM w h mp dr hd wy vt M) (H : FC A B M M2) (S : Sh 3 m2 M2) (h1 : 1 ∉ A ∧ 6 ∉ A ∧ 7 ∉ A ∧ 26 ∉ A := by decide) (h2 : 1 ∉ B ∧ 5 ∉ B := by decide) : CM w h m2 dr hd wy vt M2 :=
  ⟨C.1.fc H ⟨h1.1, h2.1⟩, S, C.2.2.1.fc H h2.2, C.2.2.2.1.fc H ⟨h1.2.1, h1.2.2.1⟩, fun k hk => by rw [H.1 26 h1.2.2.2]; exact C.2.2.2.2 k hk⟩
/-- the reference's cells stay -/
def FN (M M' : Mem) : Prop := ∀ a, 29 ≤ a → M'.1 a = M.1 a
theorem FN.rf {M : Mem} : FN M M := fun _ _ => rfl
theorem FN.tr {M M2 M3 : Mem} (h1 : FN M M2) (h2 : FN M2 M3) : FN M M3 := fun a h => (h2 a h).trans (h1 a h)
theorem FC.fn {A B : List Nat} {M M2 : Mem} (h : FC A B M M2) (hA : ∀ a, a ∈ A → a < 29 := by decide) : FN M M2 := fun a ha => h.1 a (fun q => by have := hA a q; omega)
/-! picks -/
theorem pick_r {r : Nat → Nat} {m : Nat → Bool} (hr : ∀ l, r l < 2 ^ 31) {j : Nat} (hj : 1 ≤ j) {o : Option Nat} (ho : pg (fun a b => decide (r b < r a)) (fun l => !m l) j = o) :
    ((if m j = true then (-1 : Int32) else nI (r j)) ≤ (if m (o.getD 0) = true then (-1 : Int32) else nI (r (o.getD 0))) → (pg (fun a b => decide (r b < r a)) (fun l => !m l) (j + 1)).getD 0 = o.getD 0) ∧ (¬ (if m j = true then (-1 : Int32) else nI (r j)) ≤ (if m (o.getD 0) = true then (-1 : Int32) else nI (r (o.getD 0))) → (pg (fun a b => decide (r b < r a)) (fun l => !m l) (j + 1)).getD 0 = j) := by
  have lo : ∀ x, x < 2 ^ 31 → ¬ nI x ≤ (-1 : Int32) := fun x hx q => by
    rw [fa_le, nI_t hx] at q
    have : (-1 : Int32).toInt = -1 := by decide
    omega
  have lo2 : ∀ x, x < 2 ^ 31 → (-1 : Int32) ≤ nI x := fun x hx => by
    rw [fa_le, nI_t hx]
    have : (-1 : Int32).toInt = -1 := by decide
    omega
  cases o with
  | none =>
    have h0 := pg_none ho 0 (by omega)
    have h0 : m 0 = true := by simpa using h0
    simp only [Option.getD_none, h0, if_true]
    cases hm : m j with
    | true =>
      rw [pg_no (by simp [hm]), ho]
      simp
    | false =>
      rw [pg_new ho (by simp [hm])]
      simp [lo _ (hr j)]
  | some b =>
    have hb := (pg_lt ho).2
    have hb : m b = false := by simpa using hb
    simp only [Option.getD_some, hb, Bool.false_eq_true, if_false]
    cases hm : m j with
    | true =>
      rw [pg_no (by simp [hm]), ho]
      simp [lo2 _ (hr b)]
    | false =>
      simp only [Bool.false_eq_true, if_false]
      rw [nI_leI (hr j) (hr b)]
      constructor
      · intro q; rw [pg_le ho (by simpa using q), ho]; rfl
      · intro q; rw [pg_gt ho (by simp [hm]) (by simp; omega)]; rfl
theorem pick_d {gt : Nat → Nat → Bool} {j b : Nat} (ho : pg gt (fun _ => true) j = some b) : (gt j b = false → pg gt (fun _ => true) (j + 1) = some b) ∧ (gt j b = true → pg gt (fun _ => true) (j + 1) = some j) :=
  ⟨fun q => by rw [pg_le ho q, ho], fun q => pg_gt ho rfl q⟩
theorem pg_1 {gt : Nat → Nat → Bool} : pg gt (fun _ => true) 1 = some 0 := rfl
theorem shm_nx {r : Nat → Nat} {g b : Nat} (e : pg (fun a b => decide (r b < r a)) (fun l => !(shm r g).testBit l) 6 = some b) (l : Nat) : (shm r (g + 1)).testBit l = ((shm r g).testBit l || decide (l = b)) := by
  simp only [shm, e]
  exact fb_bit_set _ _ _
theorem ct_land {n : Nat} {f : Nat → Nat} (hf : Sw n f) (hn : n ≤ 64) : fb_ct (fun i => decide (f i < 6)) 64 = n - many f 6 n := by
  rw [ct_cut (n := n) (fun i h => by have := hf.2 i h; simp; omega) hn]
  have h1 := fb_ct_not (fun i => decide (f i < 6)) n
  have h2 : fb_ct (fun k => !decide (f k < 6)) n = many f 6 n := fb_ct_cong (fun i _ => by
    have := hf.1 i
    rw [← decide_not]; exact decide_eq_decide.mpr (by omega))
  omega
/-! pairs -/
def p1 (a b : Bool) : Nat := if a && !b then 1 else 0
theorem pt_2 (a b : Bool) : pt a b = 2 * p1 a b + p1 b a := by cases a <;> cases b <;> decide
theorem ct_sm (p : Nat → Bool) : ∀ n, fb_ct p n = fb_sm (fun i => if p i = true then 1 else 0) n
  | 0 => rfl
  | n + 1 => by rw [fb_ct_succ, fb_sm_succ, ct_sm p n]
theorem prs_ct {w n : Nat} {f g : Nat → Nat} : fb_ct (fun i => prs w n f i && !prs w n g i) 64 = fb_sm (fun i => if i / 6 < i % 6 then p1 (nbr w n f (i / 6) (i % 6)) (nbr w n g (i / 6) (i % 6)) else 0) 36 := by
  rw [ct_cut (n := 36) (fun i h => by unfold prs; simp; omega) (by decide), ct_sm]
  refine fb_sm_cong (fun i hi => ?_)
  unfold prs p1
  by_cases q : i / 6 < i % 6
  · simp [hi, q]
  · simp [q]
theorem prs_fl {w n : Nat} {mp dr : Nat → Nat} : fb_sm (fun l => fl2 w n mp dr l l) 6 = 2 * fb_ct (fun i => prs w n mp i && !prs w n dr i) 64 + fb_ct (fun i => prs w n dr i && !prs w n mp i) 64 := by
  rw [prs_ct, prs_ct]
  have e : ∀ l m, pt (nbr w n mp l m) (nbr w n dr l m) = 2 * p1 (nbr w n mp m l) (nbr w n dr m l) + p1 (nbr w n dr m l) (nbr w n mp m l) := fun l m => by
    rw [nbr_comm (a := l), nbr_comm (f := dr) (a := l)]; exact pt_2 _ _
  simp only [fl2, e]
  generalize nbr w n mp = α
  generalize nbr w n dr = β
  simp [fb_sm]
  omega
theorem fl1_n {w n : Nat} {dr du : Nat → Nat} {l : Nat} : fl1 w n dr du l = ad (many dr l n) (du l) + 3 * (prt (fun c => decide (dr c = l)) w n - 1) := by
  unfold fl1
  split <;> omega
theorem max_n {p : Nat} (hp : p < 2 ^ 30) : (if (0 : Int32) < nI p - 1 then nI p - 1 else 0) = nI (p - 1) := by
  cases p with
  | zero => decide
  | succ p =>
    rw [nI_m1 (by omega), show p + 1 - 1 = p from rfl]
    by_cases h : 0 < p
    · rw [if_pos (by rw [show (0 : Int32) = nI 0 from rfl, nI_ltI (by omega) (by omega)]; exact h)]
    · rw [show p = 0 by omega]; decide
theorem flt_eq {w n : Nat} {mp dr du : Nat → Nat} : flt w n mp dr du 6 = fb_sm (fl1 w n dr du) 6 + (2 * fb_ct (fun i => prs w n mp i && !prs w n dr i) 64 + fb_ct (fun i => prs w n dr i && !prs w n mp i) 64) := by
  rw [← prs_fl]
  exact fb_sm_add _ _ 6
