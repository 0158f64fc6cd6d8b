/-! the class: the cheapest placing over longs -/
def KK : Int := 1125899906842624
def BIG : Int := 1152921504606846976
/-- rows, columns, costs -/
def Mc (c : Nat → Nat → Int) (rr m : Nat) (M : Mem) : Prop := M.1 14 7 = nI rr ∧ M.1 14 8 = nI m ∧ ∀ i j, 1 ≤ i → i ≤ rr → 1 ≤ j → j ≤ m → (M.2 15 ((i - 1) * m + (j - 1))).toInt = c i j
def Mb (rr m : Nat) : Prop := rr ≤ m ∧ m ≤ 36 ∧ rr * m ≤ 324
theorem Mc.fc {c : Nat → Nat → Int} {rr m : Nat} {A B : List Nat} {M M2 : Mem} (h : Mc c rr m M) (H : FC A B M M2) (h1 : 14 ∉ A := by decide) (h2 : 15 ∉ B := by decide) : Mc c rr m M2 := ⟨by rw [H.1 14 h1]; exact h.1, by rw [H.1 14 h1]; exact h.2.1, fun i j a b d e => by rw [H.2 15 h2]; exact h.2.2 i j a b d e⟩
theorem idx_lt {i j rr m : Nat} (hi : i < rr) (hj : j < m) : i * m + j < rr * m := by
  have h1 : (i + 1) * m ≤ rr * m := Nat.mul_le_mul_right m hi
  have h2 : (i + 1) * m = i * m + m := Nat.succ_mul i m
  omega
/-- prices and rows -/
def Mp (rr m : Nat) (u v : Nat → Int) (p : Nat → Nat) (M : Mem) : Prop := (∀ r, 1 ≤ r → r ≤ rr → (M.2 16 r).toInt = u r) ∧ (∀ j, 1 ≤ j → j ≤ m → (M.2 17 j).toInt = v j) ∧ ∀ j, j ≤ m → M.1 19 j = nI (p j)
theorem Mp.fc {rr m : Nat} {u v : Nat → Int} {p : Nat → Nat} {A B : List Nat} {M M2 : Mem} (h : Mp rr m u v p M) (H : FC A B M M2) (h1 : 19 ∉ A := by decide) (h2 : 16 ∉ B ∧ 17 ∉ B := by decide) : Mp rr m u v p M2 := ⟨fun r a b => by rw [H.2 16 h2.1]; exact h.1 r a b, fun r a b => by rw [H.2 17 h2.2]; exact h.2.1 r a b, fun r a => by rw [H.1 19 h1]; exact h.2.2 r a⟩
theorem Mp.pp {rr m : Nat} {u v : Nat → Int} {p : Nat → Nat} {M : Mem} {a b : Nat} (h : Mp rr m u v p M) : Mp rr m u v (fun k => if k = a then b else p k) (va_up M.1 19 (upd (M.1 19) a (nI b)), M.2) := ⟨h.1, h.2.1, fun r q1 => by
  by_cases q : r = a
  · subst q; rw [up_s]; simp
  · rw [up_n q]; simp only [if_neg q]; exact h.2.2 r q1⟩
theorem upL_o {f : Nat → Nat → Int64} {g : Nat → Nat → Int32} {a b : Nat} {h : Nat → Int64} (hb : b ≠ a) : ((g, va_up f a h) : Mem).2 b = f b := by simp [va_up, hb]
theorem Mp.pu {rr m : Nat} {u v : Nat → Int} {p : Nat → Nat} {M : Mem} {a : Nat} {x : Int64} (h : Mp rr m u v p M) : Mp rr m (fun k => if k = a then x.toInt else u k) v p (M.1, va_up M.2 16 (vp_updL (M.2 16) a x)) := ⟨fun r q1 q2 => by
  by_cases q : r = a
  · subst q; rw [upL_s]; simp
  · rw [upL_n q]; simp only [if_neg q]; exact h.1 r q1 q2, fun r q1 q2 => by rw [upL_o (by decide)]; exact h.2.1 r q1 q2, h.2.2⟩
theorem Mp.pv {rr m : Nat} {u v : Nat → Int} {p : Nat → Nat} {M : Mem} {a : Nat} {x : Int64} (h : Mp rr m u v p M) : Mp rr m u (fun k => if k = a then x.toInt else v k) p (M.1, va_up M.2 17 (vp_updL (M.2 17) a x)) := ⟨fun r q1 q2 => by rw [upL_o (by decide)]; exact h.1 r q1 q2, fun r q1 q2 => by
  by_cases q : r = a
  · subst q; rw [upL_s]; simp
  · rw [upL_n q]; simp only [if_neg q]; exact h.2.1 r q1 q2, h.2.2⟩
theorem Mp.o {rr m : Nat} {u v : Nat → Int} {p : Nat → Nat} {M : Mem} {a : Nat} {f : Nat → Int64} (h : Mp rr m u v p M) (h1 : 16 ≠ a ∧ 17 ≠ a := by decide) : Mp rr m u v p (M.1, va_up M.2 a f) := ⟨fun r q1 q2 => by rw [upL_o h1.1]; exact h.1 r q1 q2, fun r q1 q2 => by rw [upL_o h1.2]; exact h.2.1 r q1 q2, h.2.2⟩
theorem oi64 (x : Int64) : x = Int64.ofInt x.toInt := (Int64.ofInt_toInt x).symm
theorem mk_on {us : Nat → Bool} {a : Nat} (ha : a < 64) : mk us ||| ((1 : Int64) <<< ((nI a).toInt64 &&& 63)) = mk (on1 us a) := by
  rw [mk_bit ha, mk_or]
  exact mk_cong (fun i _ => by unfold on1; by_cases q : i = a <;> simp [q])
/-- the least sum of rows placed in columns of their own -/
theorem Hg.least {c : Nat → Nat → Int} {m R : Nat} {u v : Nat → Int} {p : Nat → Nat} (h : Hg c m R u v p) {g : Nat → Nat} (h1 : ∀ i, i < R → 1 ≤ g i ∧ g i ≤ m) (h2 : ∀ i j, i < R → j < R → g i = g j → i = j) : fb_si (fun j => if p (j + 1) = 0 then 0 else c (p (j + 1)) (j + 1)) m ≤ fb_si (fun i => c (i + 1) (g i)) R := by
  rw [h.sum]
  have a1 : fb_si (fun i => u (i + 1) + v (g i)) R ≤ fb_si (fun i => c (i + 1) (g i)) R := si_le (fun i hi => h.2.2.2.1 (i + 1) (g i) (by omega) (by omega) (h1 i hi).1 (h1 i hi).2)
  rw [fb_si_add] at a1
  have key : fb_si (fun j => v (j + 1)) m ≤ fb_si (fun i => v (g i)) R := by
    have e1 : fb_si (fun i => v (g i)) R = fb_si (fun i => fb_si (fun j => if j + 1 = g i then v (j + 1) else 0) m) R := fb_si_cong (fun i hi => by
      have q := h1 i hi
      have e2 : fb_si (fun j => if j + 1 = g i then v (j + 1) else 0) m = fb_si (fun j => if j + 1 = g i then v (g i) else 0) m := fb_si_cong (fun j _ => by
        by_cases z : j + 1 = g i
        · rw [if_pos z, if_pos z, z]
        · rw [if_neg z, if_neg z])
      rw [e2]
      exact (si_one (n := m) (P := fun j => j + 1 = g i) (x := v (g i)) (a := g i - 1) (by omega) (by omega) (fun k _ z => by omega)).symm)
    rw [e1, si_swap]
    refine si_le (fun j hj => ?_)
    have hv := h.2.2.2.2.2.1 (j + 1) (by omega) (by omega)
    by_cases q : ∃ i, i < R ∧ j + 1 = g i
    · obtain ⟨i, hi, e⟩ := q
      have := si_one (n := R) (P := fun i => j + 1 = g i) (x := v (j + 1)) (a := i) hi e (fun k hk z => h2 k i hk hi (by omega))
      rw [this]; exact Int.le_refl _
    · rw [si_none (fun i hi => if_neg (fun z => q ⟨i, hi, z⟩))]
      exact hv
  omega
