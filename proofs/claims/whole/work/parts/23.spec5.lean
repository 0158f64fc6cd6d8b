/-! the reference's whole state; what a call with any ints asks first -/
def okc (n : Nat) (c : Int32) : Bool := decide (0 ≤ c.toInt ∧ c.toInt < ((n : Nat) : Int))
def okl (m : Int) (x : Int32) : Bool := decide (0 ≤ x.toInt ∧ x.toInt ≤ m)
def okr (a b : Int) (x : Int32) : Bool := decide (a ≤ x.toInt ∧ x.toInt ≤ b)
def tn (x : Int32) : Nat := x.toInt.toNat
theorem okc_t {n : Nat} {c : Int32} (h : okc n c = true) : tn c < n ∧ c = nI (tn c) := by
  simp only [okc, decide_eq_true_eq] at h
  have h1 := fb_rng c
  refine ⟨by unfold tn; omega, Int32.toInt_inj.mp ?_⟩
  rw [nI_toInt (by unfold tn; omega)]
  unfold tn; omega
theorem okl_t {m : Nat} {c : Int32} (h : okl m c = true) : tn c ≤ m ∧ c = nI (tn c) := by
  simp only [okl, decide_eq_true_eq] at h
  have h1 := fb_rng c
  refine ⟨by unfold tn; omega, Int32.toInt_inj.mp ?_⟩
  rw [nI_toInt (by unfold tn; omega)]
  unfold tn; omega
theorem okr_t {a b : Nat} {c : Int32} (h : okr a b c = true) : a ≤ tn c ∧ tn c ≤ b ∧ c = nI (tn c) := by
  simp only [okr, decide_eq_true_eq] at h
  have h1 := fb_rng c
  refine ⟨by unfold tn; omega, by unfold tn; omega, Int32.toInt_inj.mp ?_⟩
  rw [nI_toInt (by unfold tn; omega)]
  unfold tn; omega
theorem bn_eq {b : Bool} : bo (!b) = 0 ↔ b = true := by cases b <;> decide
theorem bn_ne {b : Bool} : (¬ bo (!b) = 0) ↔ b = false := by cases b <;> decide
theorem in_l (x : Int32) (m : Int32) : decide ((0 : Int64) ≤ x.toInt64 ∧ x.toInt64 ≤ m.toInt64) = okl m.toInt x := in_i x 0 m
theorem in_r (x a b : Int32) : decide (a.toInt64 ≤ x.toInt64 ∧ x.toInt64 ≤ b.toInt64) = okr a.toInt b.toInt x := in_i x a b
def SM (w h : Nat) (mp dr hd : Nat → Nat) (wy : Nat) (vt : Nat → Nat) (M : Mem) : Prop := WM w h mp dr M ∧ HM hd wy M ∧ ∀ k, k < 18 → M.1 48 k = nI (vt k)
def Sf (w h : Nat) (mp dr hd : Nat → Nat) (wy : Nat) (vt : Nat → Nat) : Prop := Wf w h mp dr ∧ Hf hd wy ∧ ∀ k, vt k ≤ 999
/-- the class's cells stay -/
def FM (M M' : Mem) : Prop := (∀ a, a < 29 → M'.1 a = M.1 a) ∧ M'.2 = M.2
theorem FM.tr {M M2 M3 : Mem} (h1 : FM M M2) (h2 : FM M2 M3) : FM M M3 := ⟨fun a h => (h2.1 a h).trans (h1.1 a h), h2.2.trans h1.2⟩
theorem FJ.fm {A : List Nat} {M M2 : Mem} (h : FJ A M M2) (hA : ∀ a, a ∈ A → 29 ≤ a := by decide) : FM M M2 := ⟨fun a ha => h.1 a (fun q => by have := hA a q; omega) (by omega), h.2.2⟩
theorem SM.fj {w h : Nat} {mp dr hd : Nat → Nat} {wy : Nat} {vt : Nat → Nat} {A : List Nat} {M M2 : Mem} (S : SM w h mp dr hd wy vt M) (J : FJ A M M2) (hA : 30 ∉ A ∧ 31 ∉ A ∧ 32 ∉ A ∧ 48 ∉ A := by decide) (hB : ∀ a, a ∈ A → 29 ≤ a := by decide) : SM w h mp dr hd wy vt M2 ∧ FM M M2 :=
  ⟨⟨S.1.fj J ⟨hA.1, hA.2.1⟩, S.2.1.fj J hA.2.2.1, fun k hk => by rw [J.1 48 hA.2.2.2 (by decide)]; exact S.2.2 k hk⟩, J.fm hB⟩
theorem th0 (M : Mem) {A : List Nat} : FJ A M (va_up M.1 29 (upd (M.1 29) 0 0), M.2) := FJ.rf.th (Or.inl rfl)
/-- the leader of three -/
def mos (a b c : Nat) : Int32 := if b < a ∧ c < a then 0 else if a < b ∧ c < b then 1 else if a < c ∧ b < c then 2 else -9
def wnr (vt : Nat → Nat) (l : Nat) : Int32 := mos (vt (3 * l)) (vt (3 * l + 1)) (vt (3 * l + 2))
/-- a side's tally: by 2 votes, else cells of f of the lands that it wins -/
def tly (n : Nat) (f : Nat → Nat) (vt : Nat → Nat) (s by2 : Nat) (k : Nat) : Nat := fb_sm (fun l => if by2 = 2 then vt (3 * l + s) else if wnr vt l = nI s then many f l n else 0) k
def ldr (n : Nat) (mp dr : Nat → Nat) (vt : Nat → Nat) (b : Nat) : Int32 := mos (tly n (if b = 1 then dr else mp) vt 0 b 6) (tly n (if b = 1 then dr else mp) vt 1 b 6) (tly n (if b = 1 then dr else mp) vt 2 b 6)
/-- cells along a chain; how many went, and the drawing behind it -/
noncomputable def pas (w n : Nat) (ch : Nat → Nat) : Nat → (Nat → Nat) → Nat × (Nat → Nat)
  | 0, dr => (0, dr)
  | m + 1, dr => match fnd (fun c => decide (dr c = ch m) && mayh w n dr c (ch (m + 1))) n with
    | none => (0, dr)
    | some c => ((pas w n ch m (set1 dr c (ch (m + 1)))).1 + 1, (pas w n ch m (set1 dr c (ch (m + 1)))).2)
theorem tn_nI {k : Nat} (h : k < 2 ^ 31) : tn (nI k) = k := by unfold tn; rw [nI_toInt h]; rfl
theorem okc_x {n : Nat} {c : Int32} (h : okc n c = true) : ∃ k, k < n ∧ c = nI k := ⟨tn c, okc_t h⟩
theorem okl_x {m : Nat} {c : Int32} (h : okl m c = true) : ∃ k, k ≤ m ∧ c = nI k := ⟨tn c, okl_t h⟩
theorem okr_x {a b : Nat} {c : Int32} (h : okr a b c = true) : ∃ k, a ≤ k ∧ k ≤ b ∧ c = nI k := ⟨tn c, okr_t h⟩
theorem if_f {α : Type} {b : Bool} {x y : α} (h : b = false) : (if b = true then x else y) = y := by rw [h]; rfl
theorem if_t {α : Type} {b : Bool} {x y : α} (h : b = true) : (if b = true then x else y) = x := by rw [h]; rfl
