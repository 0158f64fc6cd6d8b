/-! the best tiles -/
def msm (g : Nat → Nat) (P : Nat → Bool) (n : Nat) : Nat := fb_sm (fun c => if P c = true then g c else 0) n
/-- how far a land's cells lie off a cell -/
def ofo (w n : Nat) (mp : Nat → Nat) (l c : Nat) : Nat :=
  ad (many mp l n * (c % w)) (msm (fun c => c % w) (fun c => decide (mp c = l)) n) * ad (many mp l n * (c % w)) (msm (fun c => c % w) (fun c => decide (mp c = l)) n)
  + ad (many mp l n * (c / w)) (msm (fun c => c / w) (fun c => decide (mp c = l)) n) * ad (many mp l n * (c / w)) (msm (fun c => c / w) (fun c => decide (mp c = l)) n)
def Tl (mp : Nat → Nat) (n l : Nat) : Bool := decide (0 < many mp l n)
def Pl (T : Nat → Bool) (n : Nat) (f : Nat → Nat) : Prop := (∀ l, l < 6 → T l = true → f l < n) ∧ ∀ l m, l < 6 → m < 6 → T l = true → T m = true → f l = f m → l = m
def Co (T : Nat → Bool) (o : Nat → Nat → Nat) (f : Nat → Nat) : Nat := fb_sm (fun l => if T l = true then o l (f l) else 0) 6
def dig (T : Nat → Bool) (f : Nat → Nat) : Nat := fb_sm (fun l => if T l = true then f l * 36 ^ (5 - l) else 0) 6
def Best (T : Nat → Bool) (n : Nat) (o : Nat → Nat → Nat) (f : Nat → Nat) : Prop := Pl T n f ∧ ∀ g, Pl T n g → Co T o f * 2176782336 + dig T f ≤ Co T o g * 2176782336 + dig T g
theorem dig_six (T : Nat → Bool) (f : Nat → Nat) : dig T f = (if T 0 = true then f 0 else 0) * 60466176 + (if T 1 = true then f 1 else 0) * 1679616 + (if T 2 = true then f 2 else 0) * 46656 + (if T 3 = true then f 3 else 0) * 1296 + (if T 4 = true then f 4 else 0) * 36 + (if T 5 = true then f 5 else 0) := by
  have e : ∀ l, (if T l = true then f l * 36 ^ (5 - l) else 0) = (if T l = true then f l else 0) * 36 ^ (5 - l) := fun l => by split <;> simp
  unfold dig
  simp only [fb_sm, e]
  omega
theorem Pl.le {T : Nat → Bool} {n : Nat} {f : Nat → Nat} (h : Pl T n f) (hn : n ≤ 36) {l : Nat} (hl : l < 6) : (if T l = true then f l else 0) ≤ 35 := by
  split
  · rename_i q; have := h.1 l hl q; omega
  · omega
theorem Pl.dig {T : Nat → Bool} {n : Nat} {f : Nat → Nat} (h : Pl T n f) (hn : n ≤ 36) : dig T f < 2176782336 := by
  rw [dig_six]
  have := h.le hn (l := 0) (by omega)
  have := h.le hn (l := 1) (by omega)
  have := h.le hn (l := 2) (by omega)
  have := h.le hn (l := 3) (by omega)
  have := h.le hn (l := 4) (by omega)
  have := h.le hn (l := 5) (by omega)
  omega
theorem Best.co {T : Nat → Bool} {n : Nat} {o : Nat → Nat → Nat} {f g : Nat → Nat} (h : Best T n o f) (hn : n ≤ 36) (hg : Pl T n g) : Co T o f ≤ Co T o g := by
  have h1 := h.2 g hg
  have h2 := hg.dig hn
  apply Classical.byContradiction
  intro q
  have : (Co T o g + 1) * 2176782336 ≤ Co T o f * 2176782336 := Nat.mul_le_mul_right _ (by omega)
  omega
theorem Best.lex {T : Nat → Bool} {n : Nat} {o : Nat → Nat → Nat} {f g : Nat → Nat} (h : Best T n o f) (hn : n ≤ 36) (hg : Pl T n g) (e : Co T o g = Co T o f) {l : Nat} (hl : l < 6) (hT : T l = true) (hm : ∀ m, m < l → T m = true → g m = f m) : f l ≤ g l := by
  have h1 := h.2 g hg
  rw [e] at h1
  have h2 : dig T f ≤ dig T g := by omega
  rw [dig_six, dig_six] at h2
  have hx : ∀ m, m < l → (if T m = true then f m else 0) = (if T m = true then g m else 0) := fun m q => by
    split
    · rename_i z; exact (hm m q z).symm
    · rfl
  have hf : (if T l = true then f l else 0) = f l := if_pos hT
  have hgl : (if T l = true then g l else 0) = g l := if_pos hT
  have b0 := hg.le hn (l := 0) (by omega)
  have b1 := hg.le hn (l := 1) (by omega)
  have b2 := hg.le hn (l := 2) (by omega)
  have b3 := hg.le hn (l := 3) (by omega)
  have b4 := hg.le hn (l := 4) (by omega)
  have b5 := hg.le hn (l := 5) (by omega)
  have l6 : l = 0 ∨ l = 1 ∨ l = 2 ∨ l = 3 ∨ l = 4 ∨ l = 5 := by omega
  rcases l6 with rfl | rfl | rfl | rfl | rfl | rfl
  · omega
  · have := hx 0 (by omega); omega
  · have := hx 0 (by omega); have := hx 1 (by omega); omega
  · have := hx 0 (by omega); have := hx 1 (by omega); have := hx 2 (by omega); omega
  · have := hx 0 (by omega); have := hx 1 (by omega); have := hx 2 (by omega); have := hx 3 (by omega); omega
  · have := hx 0 (by omega); have := hx 1 (by omega); have := hx 2 (by omega); have := hx 3 (by omega); have := hx 4 (by omega); omega
theorem Best.one {T : Nat → Bool} {n : Nat} {o : Nat → Nat → Nat} {f g : Nat → Nat} (h : Best T n o f) (k : Best T n o g) (hn : n ≤ 36) : Co T o f = Co T o g ∧ ∀ l, l < 6 → T l = true → f l = g l := by
  have e : Co T o f = Co T o g := Nat.le_antisymm (h.co hn k.1) (k.co hn h.1)
  refine ⟨e, fun l => ?_⟩
  induction l using Nat.strongRecOn with
  | _ l ih =>
    intro hl hT
    have a := h.lex hn k.1 e.symm hl hT (fun m hm hTm => (ih m hm (by omega) hTm).symm)
    have b := k.lex hn h.1 e hl hT (fun m hm hTm => ih m hm (by omega) hTm)
    omega
theorem ex_least (P : Nat → Prop) (h : ∃ x, P x) : ∃ x, P x ∧ ∀ y, P y → x ≤ y := by
  obtain ⟨x, hx⟩ := h
  induction x using Nat.strongRecOn with
  | _ x ih =>
    by_cases q : ∃ y, y < x ∧ P y
    · obtain ⟨y, h1, h2⟩ := q; exact ih y h1 h2
    · exact ⟨x, hx, fun y hy => Nat.le_of_not_lt (fun z => q ⟨y, z, hy⟩)⟩
theorem best_ex {T : Nat → Bool} {n : Nat} (o : Nat → Nat → Nat) (h : ∃ f, Pl T n f) : ∃ f, Best T n o f := by
  obtain ⟨f, hf⟩ := h
  obtain ⟨x, ⟨g, hg, e⟩, h2⟩ := ex_least (fun x => ∃ g, Pl T n g ∧ Co T o g * 2176782336 + dig T g = x) ⟨_, f, hf, rfl⟩
  exact ⟨g, hg, fun k hk => by rw [e]; exact h2 _ ⟨k, hk, rfl⟩⟩
theorem pl_ex (mp : Nat → Nat) (n : Nat) : ∃ f, Pl (Tl mp n) n f := by
  have hx : ∀ l, ∃ c, Tl mp n l = true → c < n ∧ mp c = l := fun l => by
    by_cases q : Tl mp n l = true
    · have : 0 < fb_ct (fun c => decide (mp c = l)) n := of_decide_eq_true (show decide (0 < many mp l n) = true from q)
      obtain ⟨c, h1, h2⟩ := fb_ct_pos.mp this
      exact ⟨c, fun _ => ⟨h1, by simpa using h2⟩⟩
    · exact ⟨0, fun z => absurd z q⟩
  obtain ⟨f, hf⟩ := Classical.skolem.mp hx
  exact ⟨f, fun l _ q => (hf l q).1, fun l m _ _ q1 q2 e => by rw [← (hf l q1).2, ← (hf m q2).2, e]⟩
theorem bt_ex (w n : Nat) (mp : Nat → Nat) : ∃ f, Best (Tl mp n) n (ofo w n mp) f := best_ex _ (pl_ex mp n)
noncomputable def bt (w n : Nat) (mp : Nat → Nat) : Nat → Nat := Classical.choose (bt_ex w n mp)
theorem bt_best (w n : Nat) (mp : Nat → Nat) : Best (Tl mp n) n (ofo w n mp) (bt w n mp) := Classical.choose_spec (bt_ex w n mp)
/-! the least sum, by sets of lands -/
def clr (S l : Nat) : Nat := S &&& (63 ^^^ 2 ^ l)
theorem clr_bit : ∀ S, S < 64 → ∀ l, l < 6 → ∀ k, k < 6 → (clr S l).testBit k = (S.testBit k && !decide (k = l)) := by decide +kernel
theorem clr_lt : ∀ S, S < 64 → ∀ l, l < 6 → clr S l < 64 := by decide +kernel
theorem clr_less : ∀ S, S < 64 → ∀ l, l < 6 → S.testBit l = true → clr S l < S := by decide +kernel
theorem zero_bit : ∀ S, S < 64 → (∀ l, l < 6 → S.testBit l = false) → S = 0 := by decide +kernel
def omin (a b : Option Nat) : Option Nat := match a, b with
  | none, b => b
  | some a, none => some a
  | some a, some b => if b < a then some b else some a
def dq (o : Nat → Nat → Nat) (ot : Nat) (c : Nat) (prev : Nat → Option Nat) (S : Nat) : Nat → Option Nat
  | 0 => prev S
  | l + 1 => omin (dq o ot c prev S l) (if S.testBit l = true ∧ ot.testBit l = true then (prev (clr S l)).map (fun m => m + o l c) else none)
def dp (o : Nat → Nat → Nat) (ot : Nat) (fre : Nat → Bool) : Nat → Nat → Option Nat
  | 0 => fun S => if S = 0 then some 0 else none
  | c + 1 => fun S => if fre c = true then dq o ot c (dp o ot fre c) S 6 else dp o ot fre c S
theorem dp_t {o : Nat → Nat → Nat} {ot : Nat} {fre : Nat → Bool} {c S : Nat} (h : fre c = true) : dp o ot fre (c + 1) S = dq o ot c (dp o ot fre c) S 6 := if_pos h
theorem dp_f {o : Nat → Nat → Nat} {ot : Nat} {fre : Nat → Bool} {c S : Nat} (h : ¬ fre c = true) : dp o ot fre (c + 1) S = dp o ot fre c S := if_neg h
theorem dp_z {o : Nat → Nat → Nat} {ot : Nat} {fre : Nat → Bool} : dp o ot fre 0 0 = some 0 := rfl
theorem dp_n {o : Nat → Nat → Nat} {ot : Nat} {fre : Nat → Bool} {S : Nat} (h : ¬ S = 0) : dp o ot fre 0 S = none := if_neg h
theorem omin_l {a b : Option Nat} {x : Nat} (h : a = some x) : ∃ m, omin a b = some m ∧ m ≤ x := by
  subst h
  cases b with
  | none => exact ⟨x, rfl, Nat.le_refl _⟩
  | some y =>
    by_cases q : y < x
    · exact ⟨y, if_pos q, by omega⟩
    · exact ⟨x, if_neg q, Nat.le_refl _⟩
theorem omin_r {a b : Option Nat} {x : Nat} (h : b = some x) : ∃ m, omin a b = some m ∧ m ≤ x := by
  subst h
  cases a with
  | none => exact ⟨x, rfl, Nat.le_refl _⟩
  | some y =>
    by_cases q : x < y
    · exact ⟨x, if_pos q, Nat.le_refl _⟩
    · exact ⟨y, if_neg q, by omega⟩
theorem omin_o {a b : Option Nat} {x : Nat} (h : omin a b = some x) : a = some x ∨ b = some x := by
  cases a with
  | none => exact Or.inr h
  | some y =>
    cases b with
    | none => exact Or.inl h
    | some z =>
      by_cases q : z < y
      · rw [omin, if_pos q] at h; exact Or.inr h
      · rw [omin, if_neg q] at h; exact Or.inl h
theorem dq_prev {o : Nat → Nat → Nat} {ot c : Nat} {prev : Nat → Option Nat} {S x : Nat} (h : prev S = some x) : ∀ k, ∃ m, dq o ot c prev S k = some m ∧ m ≤ x
  | 0 => ⟨x, h, Nat.le_refl _⟩
  | k + 1 => by
    obtain ⟨m, h1, h2⟩ := dq_prev h k
    obtain ⟨m2, h3, h4⟩ := omin_l (b := if S.testBit k = true ∧ ot.testBit k = true then (prev (clr S k)).map (fun m => m + o k c) else none) h1
    exact ⟨m2, h3, by omega⟩
theorem dq_new {o : Nat → Nat → Nat} {ot c : Nat} {prev : Nat → Option Nat} {S x l : Nat} (h : prev (clr S l) = some x) (h1 : S.testBit l = true) (h2 : ot.testBit l = true) : ∀ k, l < k → ∃ m, dq o ot c prev S k = some m ∧ m ≤ x + o l c
  | 0, q => by omega
  | k + 1, q => by
    by_cases e : l = k
    · subst e
      obtain ⟨m, h3, h4⟩ := omin_r (a := dq o ot c prev S l) (b := if S.testBit l = true ∧ ot.testBit l = true then (prev (clr S l)).map (fun m => m + o l c) else none) (x := x + o l c) (by rw [if_pos ⟨h1, h2⟩, h]; rfl)
      exact ⟨m, h3, h4⟩
    · obtain ⟨m, h3, h4⟩ := dq_new h h1 h2 k (by omega)
      obtain ⟨m2, h5, h6⟩ := omin_l (b := if S.testBit k = true ∧ ot.testBit k = true then (prev (clr S k)).map (fun m => m + o k c) else none) h3
      exact ⟨m2, h5, by omega⟩
theorem dq_some {o : Nat → Nat → Nat} {ot c : Nat} {prev : Nat → Option Nat} {S x : Nat} : ∀ {k}, dq o ot c prev S k = some x → prev S = some x ∨ ∃ l m, l < k ∧ S.testBit l = true ∧ ot.testBit l = true ∧ prev (clr S l) = some m ∧ x = m + o l c
  | 0, h => Or.inl h
  | k + 1, h => by
    rcases omin_o h with q | q
    · rcases dq_some q with z | ⟨l, m, z1, z⟩
      · exact Or.inl z
      · exact Or.inr ⟨l, m, by omega, z⟩
    · by_cases z : S.testBit k = true ∧ ot.testBit k = true
      · rw [if_pos z] at q
        cases e : prev (clr S k) with
        | none => rw [e] at q; cases q
        | some m =>
          rw [e] at q
          exact Or.inr ⟨k, m, by omega, z.1, z.2, e, (Option.some.inj q).symm⟩
      · rw [if_neg z] at q; cases q
def Va (ot : Nat) (fre : Nat → Bool) (S c : Nat) (f : Nat → Nat) : Prop := (∀ l, l < 6 → S.testBit l = true → ot.testBit l = true ∧ f l < c ∧ fre (f l) = true) ∧ ∀ l m, l < 6 → m < 6 → S.testBit l = true → S.testBit m = true → f l = f m → l = m
def cso (o : Nat → Nat → Nat) (S : Nat) (f : Nat → Nat) : Nat := fb_sm (fun l => if S.testBit l = true then o l (f l) else 0) 6
theorem cso_clr {o : Nat → Nat → Nat} {S l : Nat} (hS : S < 64) (hl : l < 6) (hb : S.testBit l = true) (f : Nat → Nat) : cso o S f = cso o (clr S l) f + o l (f l) := by
  have e := fb_sm_upd (fun k => if S.testBit k = true then o k (f k) else 0) 0 (i := l) (n := 6) hl
  rw [if_pos hb] at e
  have e2 : cso o (clr S l) f = fb_sm (fun k => if k = l then 0 else (fun k => if S.testBit k = true then o k (f k) else 0) k) 6 := fb_sm_cong (fun k hk => by
    rw [clr_bit S hS l hl k hk]
    by_cases q : k = l
    · simp [q]
    · simp [q])
  have e3 : fb_sm (fun k => if k = l then 0 else (fun k => if S.testBit k = true then o k (f k) else 0) k) 6 + o l (f l) = cso o S f := e
  omega
theorem clr_t {S l k : Nat} (hS : S < 64) (hl : l < 6) (hk : k < 6) (h : (clr S l).testBit k = true) : S.testBit k = true ∧ k ≠ l := by
  rw [clr_bit S hS l hl k hk] at h
  simpa using h
theorem dp_low {o : Nat → Nat → Nat} {ot : Nat} {fre : Nat → Bool} {f : Nat → Nat} : ∀ {c S : Nat}, S < 64 → Va ot fre S c f → ∃ m, dp o ot fre c S = some m ∧ m ≤ cso o S f
  | 0, S, hS, h => by
    have : S = 0 := zero_bit S hS (fun l hl => by
      cases e : S.testBit l with
      | false => rfl
      | true => have := (h.1 l hl e).2.1; omega)
    exact ⟨0, if_pos this, Nat.zero_le _⟩
  | c + 1, S, hS, h => by
    by_cases q : ∃ l, l < 6 ∧ S.testBit l = true ∧ f l = c
    · obtain ⟨l, hl, hb, e⟩ := q
      obtain ⟨h1, h2, h3⟩ := h.1 l hl hb
      rw [e] at h3
      have hV : Va ot fre (clr S l) c f := by
        refine ⟨fun k hk z => ?_, fun k m hk hm z1 z2 => h.2 k m hk hm (clr_t hS hl hk z1).1 (clr_t hS hl hm z2).1⟩
        obtain ⟨z1, z2⟩ := clr_t hS hl hk z
        obtain ⟨y1, y2, y3⟩ := h.1 k hk z1
        have : f k ≠ c := fun x => z2 (h.2 k l hk hl z1 hb (by rw [x, e]))
        exact ⟨y1, by omega, y3⟩
      obtain ⟨m, g1, g2⟩ := dp_low (o := o) (clr_lt S hS l hl) hV
      obtain ⟨m2, g3, g4⟩ := dq_new (o := o) (c := c) g1 hb h1 6 hl
      refine ⟨m2, by rw [dp_t h3]; exact g3, ?_⟩
      rw [cso_clr hS hl hb f, e]
      omega
    · have hV : Va ot fre S c f := ⟨fun l hl hb => by
        obtain ⟨y1, y2, y3⟩ := h.1 l hl hb
        have : f l ≠ c := fun x => q ⟨l, hl, hb, x⟩
        exact ⟨y1, by omega, y3⟩, h.2⟩
      obtain ⟨m, g1, g2⟩ := dp_low (o := o) hS hV
      by_cases z : fre c = true
      · obtain ⟨m2, g3, g4⟩ := dq_prev (o := o) (ot := ot) (c := c) g1 6
        exact ⟨m2, by rw [dp_t z]; exact g3, by omega⟩
      · exact ⟨m, by rw [dp_f z]; exact g1, g2⟩
theorem dp_att {o : Nat → Nat → Nat} {ot : Nat} {fre : Nat → Bool} : ∀ {c S m : Nat}, S < 64 → dp o ot fre c S = some m → ∃ f, Va ot fre S c f ∧ cso o S f = m
  | 0, S, m, hS, h => by
    by_cases q : S = 0
    · subst q
      rw [dp_z] at h
      refine ⟨fun _ => 0, ⟨fun l _ z => by simp at z, fun l _ _ _ z => by simp at z⟩, ?_⟩
      cases h
      unfold cso
      simp [fb_sm]
    · rw [dp_n q] at h; cases h
  | c + 1, S, m, hS, h => by
    have up : ∀ f, Va ot fre S c f → Va ot fre S (c + 1) f := fun f hf => ⟨fun l hl hb => by obtain ⟨y1, y2, y3⟩ := hf.1 l hl hb; exact ⟨y1, by omega, y3⟩, hf.2⟩
    by_cases q : fre c = true
    · rw [dp_t q] at h
      rcases dq_some h with z | ⟨l, m2, hl, hb, ho, z1, z2⟩
      · obtain ⟨f, g1, g2⟩ := dp_att hS z
        exact ⟨f, up f g1, g2⟩
      · obtain ⟨f, g1, g2⟩ := dp_att (clr_lt S hS l hl) z1
        have hc : ∀ k, k < 6 → S.testBit k = true → k ≠ l → (clr S l).testBit k = true := fun k hk hb2 e => by rw [clr_bit S hS l hl k hk, hb2]; simpa using e
        refine ⟨fun k => if k = l then c else f k, ⟨fun k hk hb2 => ?_, fun k j hk hj b1 b2 e => ?_⟩, ?_⟩
        · by_cases e : k = l
          · subst e; dsimp only; rw [if_pos rfl]; exact ⟨ho, by omega, q⟩
          · obtain ⟨y1, y2, y3⟩ := g1.1 k hk (hc k hk hb2 e)
            dsimp only; rw [if_neg e]; exact ⟨y1, by omega, y3⟩
        · dsimp only at e
          by_cases e1 : k = l
          · by_cases e2 : j = l
            · omega
            · rw [if_pos e1, if_neg e2] at e
              have := (g1.1 j hj (hc j hj b2 e2)).2.1; omega
          · by_cases e2 : j = l
            · rw [if_neg e1, if_pos e2] at e
              have := (g1.1 k hk (hc k hk b1 e1)).2.1; omega
            · rw [if_neg e1, if_neg e2] at e
              exact g1.2 k j hk hj (hc k hk b1 e1) (hc j hj b2 e2) e
        · rw [cso_clr hS hl hb, if_pos rfl, z2, ← g2]
          congr 1
          refine fb_sm_cong (fun k hk => ?_)
          by_cases y : (clr S l).testBit k = true
          · rw [if_pos y, if_pos y]; exact congrArg (o k) (if_neg (clr_t hS hl hk y).2)
          · rw [if_neg y, if_neg y]
    · rw [dp_f q] at h
      obtain ⟨f, g1, g2⟩ := dp_att hS h
      exact ⟨f, up f g1, g2⟩
/-- lands from k on stand in the mask -/
def otm (T : Nat → Bool) (k : Nat) : Nat → Nat
  | 0 => 0
  | l + 1 => otm T k l ||| (if k ≤ l ∧ T l = true then 2 ^ l else 0)
theorem or64 : ∀ m, m < 64 → ∀ b, b < 6 → m ||| 2 ^ b < 64 ∧ ∀ i, i < 6 → (m ||| 2 ^ b).testBit i = (m.testBit i || decide (i = b)) := by decide +kernel
theorem otm_lt (T : Nat → Bool) (k : Nat) : ∀ l, l ≤ 6 → otm T k l < 64
  | 0, _ => by simp [otm]
  | l + 1, h => by
    have := otm_lt T k l (by omega)
    rw [otm]
    split
    · exact (or64 _ this l (by omega)).1
    · rw [Nat.or_zero]; exact this
theorem otm_bit (T : Nat → Bool) (k i : Nat) (hi : i < 6) : ∀ l, l ≤ 6 → (otm T k l).testBit i = (decide (i < l) && decide (k ≤ i) && T i)
  | 0, _ => by simp [otm]
  | l + 1, h => by
    have ih := otm_bit T k i hi l (by omega)
    have hl := otm_lt T k l (by omega)
    rw [otm]
    by_cases q : k ≤ l ∧ T l = true
    · rw [if_pos q, (or64 _ hl l (by omega)).2 i hi, ih]
      by_cases e : i = l
      · subst e; simp [q.1, q.2]
      · have : decide (i < l + 1) = decide (i < l) := decide_eq_decide.mpr (by omega)
        rw [this]; simp [e]
    · rw [if_neg q, Nat.or_zero, ih]
      by_cases e : i = l
      · subst e
        have : (decide (k ≤ i) && T i) = false := by
          cases hT : T i with
          | false => simp
          | true => simp; exact Nat.lt_of_not_le (fun z => q ⟨z, hT⟩)
        rw [Bool.and_assoc, Bool.and_assoc, this]; simp
      · have : decide (i < l + 1) = decide (i < l) := decide_eq_decide.mpr (by omega)
        rw [this]
/-- what the lands below k cost -/
def lsm (T : Nat → Bool) (o : Nat → Nat → Nat) (t : Nat → Nat) (k n : Nat) : Nat := fb_sm (fun l => if l < k ∧ T l = true then o l (t l) else 0) n
def frk (T : Nat → Bool) (t : Nat → Nat) (k c : Nat) : Bool := !bex (fun l => T l && decide (t l = c)) k
/-- the least sum with the lands below k laid -/
def lof (T : Nat → Bool) (n : Nat) (o : Nat → Nat → Nat) (t : Nat → Nat) (k : Nat) : Option Nat := (dp o (otm T k 6) (frk T t k) n (otm T k 6)).map (fun m => lsm T o t k 6 + m)
theorem frk_t {T : Nat → Bool} {t : Nat → Nat} {k c : Nat} : frk T t k c = true ↔ ∀ l, l < k → T l = true → t l ≠ c := by
  unfold frk
  rw [Bool.not_eq_true', ← Bool.not_eq_true, bex_iff]
  constructor
  · intro h l hl hT e
    exact h ⟨l, hl, by simp [hT, e]⟩
  · rintro h ⟨l, hl, e⟩
    simp at e
    exact h l hl e.1 e.2
theorem co_part {T : Nat → Bool} {o : Nat → Nat → Nat} {t f : Nat → Nat} {k : Nat} (h : ∀ l, l < k → T l = true → f l = t l) : Co T o f = lsm T o t k 6 + cso o (otm T k 6) f := by
  unfold Co lsm cso
  rw [← fb_sm_add]
  refine fb_sm_cong (fun l hl => ?_)
  rw [otm_bit T k l hl 6 (by omega)]
  cases hT : T l with
  | false => simp
  | true =>
    by_cases q : l < k
    · have : ¬ k ≤ l := by omega
      simp [q, this, h l q hT]
    · have : k ≤ l := by omega
      simp [q, this, hl]
theorem lof_low {T : Nat → Bool} {n : Nat} {o : Nat → Nat → Nat} {t f : Nat → Nat} {k : Nat} (hk : k ≤ 6) (hf : Pl T n f) (ha : ∀ l, l < k → T l = true → f l = t l) : ∃ m, lof T n o t k = some m ∧ m ≤ Co T o f := by
  have hV : Va (otm T k 6) (frk T t k) (otm T k 6) n f := by
    have hb : ∀ l, l < 6 → (otm T k 6).testBit l = true → k ≤ l ∧ T l = true := fun l hl h => by
      rw [otm_bit T k l hl 6 (by omega)] at h
      simp at h
      exact ⟨h.1.2, h.2⟩
    refine ⟨fun l hl h => ⟨h, hf.1 l hl (hb l hl h).2, frk_t.mpr (fun m hm hT e => ?_)⟩, fun l m hl hm h1 h2 e => hf.2 l m hl hm (hb l hl h1).2 (hb m hm h2).2 e⟩
    have := hf.2 m l (by omega) hl hT (hb l hl h).2 (by rw [ha m hm hT, e])
    have := (hb l hl h).1
    omega
  obtain ⟨m, h1, h2⟩ := dp_low (o := o) (otm_lt T k 6 (by omega)) hV
  exact ⟨lsm T o t k 6 + m, by unfold lof; rw [h1]; rfl, by rw [co_part ha]; omega⟩
theorem lof_att {T : Nat → Bool} {n : Nat} {o : Nat → Nat → Nat} {t : Nat → Nat} {k m : Nat} (hk : k ≤ 6) (ht : ∀ l, l < k → T l = true → t l < n) (hi : ∀ l j, l < k → j < k → T l = true → T j = true → t l = t j → l = j) (h : lof T n o t k = some m) : ∃ f, Pl T n f ∧ (∀ l, l < k → T l = true → f l = t l) ∧ Co T o f = m := by
  unfold lof at h
  cases e : dp o (otm T k 6) (frk T t k) n (otm T k 6) with
  | none => rw [e] at h; cases h
  | some m2 =>
    rw [e] at h
    obtain ⟨f, g1, g2⟩ := dp_att (otm_lt T k 6 (by omega)) e
    have hb : ∀ l, l < 6 → k ≤ l → T l = true → (otm T k 6).testBit l = true := fun l hl q hT => by rw [otm_bit T k l hl 6 (by omega)]; simp [hl, q, hT]
    have hag : ∀ l, l < k → T l = true → (fun l => if l < k then t l else f l) l = t l := fun l hl _ => if_pos hl
    refine ⟨fun l => if l < k then t l else f l, ⟨fun l hl hT => ?_, fun l j hl hj h1 h2 q => ?_⟩, hag, ?_⟩
    · by_cases q : l < k
      · dsimp only; rw [if_pos q]; exact ht l q hT
      · dsimp only; rw [if_neg q]; exact (g1.1 l hl (hb l hl (by omega) hT)).2.1
    · dsimp only at q
      by_cases z1 : l < k
      · by_cases z2 : j < k
        · rw [if_pos z1, if_pos z2] at q; exact hi l j z1 z2 h1 h2 q
        · rw [if_pos z1, if_neg z2] at q
          exact absurd q (frk_t.mp (g1.1 j hj (hb j hj (by omega) h2)).2.2 l z1 h1)
      · by_cases z2 : j < k
        · rw [if_neg z1, if_pos z2] at q
          exact absurd q.symm (frk_t.mp (g1.1 l hl (hb l hl (by omega) h1)).2.2 j z2 h2)
        · rw [if_neg z1, if_neg z2] at q
          exact g1.2 l j hl hj (hb l hl (by omega) h1) (hb j hj (by omega) h2) q
    · rw [co_part hag]
      have : m = lsm T o t k 6 + m2 := (Option.some.inj h).symm
      rw [this, ← g2]
      congr 1
      refine fb_sm_cong (fun l hl => ?_)
      by_cases q : (otm T k 6).testBit l = true
      · rw [if_pos q, if_pos q]
        rw [otm_bit T k l hl 6 (by omega)] at q
        simp at q
        have := q.1.2
        exact congrArg (o l) (if_neg (by omega))
      · rw [if_neg q, if_neg q]
