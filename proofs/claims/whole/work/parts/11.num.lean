/-! numbers: what the methods of both sides compute with -/
def bo (b : Bool) : Int32 := if b then 1 else 0
theorem bo_t : bo true = 1 := rfl
theorem bo_f : bo false = 0 := rfl
theorem bo_ne {b : Bool} : (¬ bo b = 0) ↔ b = true := by cases b <;> decide
theorem bo_eq {b : Bool} : bo b = 0 ↔ b = false := by cases b <;> decide
theorem bo_z (b : Bool) : narrow .boolean (.int (bo b)) = .int (bo b) := by cases b <;> rfl
def ad (a b : Nat) : Nat := (a - b) + (b - a)
theorem ad_comm (a b : Nat) : ad a b = ad b a := by unfold ad; omega
theorem nI_abs {a b : Nat} (ha : a < 2 ^ 30) (hb : b < 2 ^ 30) : (if 0 ≤ nI a - nI b then nI a - nI b else -(nI a - nI b)) = nI (ad a b) := by
  have h1 := pk_sub_toInt ha hb
  by_cases h : b ≤ a
  · have : 0 ≤ nI a - nI b := by rw [Int32.le_iff_toInt_le, h1]; simp; omega
    rw [if_pos this, pk_sub h]
    congr 1; unfold ad; omega
  · have : ¬ 0 ≤ nI a - nI b := by rw [Int32.le_iff_toInt_le, h1]; simp; omega
    rw [if_neg this, Int32.neg_sub, pk_sub (by omega)]
    congr 1; unfold ad; omega
theorem i32_of (x : Int32) (n : Nat) (hn : n < 2 ^ 31) (h : 0 ≤ x.toInt ∧ x.toInt < n) : ∃ k, k < n ∧ x = nI k := by
  refine ⟨x.toInt.toNat, by omega, ?_⟩
  apply Int32.toInt_inj.mp
  rw [nI_toInt (by omega)]
  omega
theorem i64_le (x y : Int32) : x.toInt64 ≤ y.toInt64 ↔ x.toInt ≤ y.toInt := by
  rw [Int64.le_iff_toInt_le, Int32.toInt_toInt64, Int32.toInt_toInt64]
theorem i64_lt (x y : Int32) : x.toInt64 < y.toInt64 ↔ x.toInt < y.toInt := by
  rw [Int64.lt_iff_toInt_lt, Int32.toInt_toInt64, Int32.toInt_toInt64]
theorem nI_t {n : Nat} (h : n < 2 ^ 31) : (nI n).toInt = n := nI_toInt h
/-- some p of the first n -/
def bex (p : Nat → Bool) : Nat → Bool
  | 0 => false
  | n + 1 => bex p n || p n
theorem bex_iff {p : Nat → Bool} : ∀ {n : Nat}, bex p n = true ↔ ∃ k, k < n ∧ p k = true
  | 0 => by simp [bex]
  | n + 1 => by
    simp only [bex, Bool.or_eq_true, bex_iff (n := n)]
    constructor
    · rintro (⟨k, h1, h2⟩ | h)
      · exact ⟨k, by omega, h2⟩
      · exact ⟨n, by omega, h⟩
    · rintro ⟨k, h1, h2⟩
      by_cases e : k = n
      · subst e; exact Or.inr h2
      · exact Or.inl ⟨k, by omega, h2⟩
theorem bex_cong {p q : Nat → Bool} : ∀ {n : Nat}, (∀ k, k < n → p k = q k) → bex p n = bex q n
  | 0, _ => rfl
  | n + 1, h => by rw [bex, bex, bex_cong (fun k hk => h k (by omega)), h n (by omega)]
def adj (w c e : Nat) : Bool := decide (ad (c % w) (e % w) + ad (c / w) (e / w) = 1)
/-- a field, a map and a drawing -/
def Wf (w h : Nat) (mp dr : Nat → Nat) : Prop := 2 ≤ w ∧ w ≤ 6 ∧ 2 ≤ h ∧ h ≤ 6 ∧ (∀ c, mp c ≤ 6) ∧ (∀ c, dr c ≤ 6) ∧ (∀ c, w * h ≤ c → mp c = 6) ∧ ∀ c, w * h ≤ c → dr c = 6
theorem wh_le {w h : Nat} (h1 : w ≤ 6) (h2 : h ≤ 6) : w * h ≤ 36 := Nat.mul_le_mul h1 h2
theorem Wf.n {w h : Nat} {mp dr : Nat → Nat} (H : Wf w h mp dr) : w * h ≤ 36 := wh_le H.2.1 H.2.2.2.1
/-- the reference's cells hold it -/
def WM (w h : Nat) (mp dr : Nat → Nat) (M : Mem) : Prop := M.1 29 1 = nI w ∧ M.1 29 2 = nI h ∧ (∀ c, c < 36 → M.1 30 c = nI (mp c)) ∧ ∀ c, c < 36 → M.1 31 c = nI (dr c)
def sl (on : Int32) (mp dr : Nat → Nat) : Nat → Nat := if on = 0 then mp else dr
theorem WM.wh {w h : Nat} {mp dr : Nat → Nat} {M : Mem} (H : WM w h mp dr M) : M.1 29 1 * M.1 29 2 = nI (w * h) := by rw [H.1, H.2.1, pk_mul]
def tch (w n : Nat) (f : Nat → Nat) (c l : Nat) : Bool := bex (fun e => decide (f e = l) && adj w c e) n
def nbr (w n : Nat) (f : Nat → Nat) (a b : Nat) : Bool := bex (fun c => decide (f c = a) && tch w n f c b) n
def many (f : Nat → Nat) (l n : Nat) : Nat := fb_ct (fun c => decide (f c = l)) n
theorem many_le (f : Nat → Nat) (l n : Nat) : many f l n ≤ n := fb_ct_le _ _
theorem in_i (x a b : Int32) : decide (a.toInt64 ≤ x.toInt64 ∧ x.toInt64 ≤ b.toInt64) = decide (a.toInt ≤ x.toInt ∧ x.toInt ≤ b.toInt) := decide_eq_decide.mpr (by rw [i64_le, i64_le])
theorem nI_m1 {n : Nat} (h : 0 < n) : nI n - 1 = nI (n - 1) := by rw [show (1 : Int32) = nI 1 from rfl, pk_sub h]
theorem sl_le {on : Int32} {w h : Nat} {mp dr : Nat → Nat} (H : Wf w h mp dr) (c : Nat) : sl on mp dr c ≤ 6 := by
  unfold sl
  split
  · exact H.2.2.2.2.1 c
  · exact H.2.2.2.2.2.1 c
theorem many_s (f : Nat → Nat) (l c : Nat) (h1 : f c < 2 ^ 31) (h2 : l < 2 ^ 31) : nI (many f l (c + 1)) = nI (many f l c) + (if nI (f c) = nI l then 1 else 0) := by
  unfold many
  rw [fb_ct_succ]
  by_cases e : f c = l
  · rw [if_pos (by simpa using e), if_pos (by rw [e]), nI_1]
  · rw [if_neg (by simpa using e), if_neg (by rw [nI_eq h1 h2]; exact e), Nat.add_zero]
    exact (Int32.add_zero _).symm
theorem bo_or (a b : Bool) : bo (a || b) = if a = true then 1 else bo b := by cases a <;> rfl
theorem PW.lc {X : Cx} {l : Launch} {mt : Mt} {rk pc : Nat} {Q : Option Value → Mem → Prop} {L L' S : List Value} {G : List Shp} {M : Mem} (h : L = L') (k : PW X l mt rk Q pc L' S G M) : PW X l mt rk Q pc L S G M := by rw [h]; exact k
theorem PW.lcs {X : Cx} {l : Launch} {mt : Mt} {rk pc : Nat} {Q : Option Value → Mem → Prop} {L L' S S' : List Value} {G : List Shp} {M : Mem} (h : L = L') (h2 : S = S') (k : PW X l mt rk Q pc L' S' G M) : PW X l mt rk Q pc L S G M := by rw [h, h2]; exact k
