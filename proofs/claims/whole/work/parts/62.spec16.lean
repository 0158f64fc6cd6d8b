/-! sets told one by one -/
def kth (P : Nat → Bool) (k : Nat) : Nat := (fnd (fun i => P i && decide (fb_ct P i = k)) 64).getD 0
def rkf (P : Nat → Bool) (r : Nat) : Nat → Bool := fun x => P x && decide (r ≤ fb_ct P x)
theorem kth_at {P : Nat → Bool} {t : Nat} (ht : t < 64) (hp : P t = true) : kth P (fb_ct P t) = t := by
  have : fnd (fun i => P i && decide (fb_ct P i = fb_ct P t)) 64 = some t := fnd_some.mpr ⟨ht, by simp [hp], fun d hd => by
    cases e : (P d && decide (fb_ct P d = fb_ct P t)) with
    | false => rfl
    | true =>
      rw [Bool.and_eq_true, decide_eq_true_eq] at e
      have := fb_ct_kth_one e.1 hp e.2
      omega⟩
  unfold kth
  rw [this]; rfl
theorem kth_lt (P : Nat → Bool) (k : Nat) : kth P k < 64 := by
  unfold kth
  cases e : fnd (fun i => P i && decide (fb_ct P i = k)) 64 with
  | none => decide
  | some c => exact (fnd_some.mp e).1
theorem kth_ok {P : Nat → Bool} {r : Nat} (hr : r < fb_ct P 64) : P (kth P r) = true ∧ fb_ct P (kth P r) = r := by
  obtain ⟨i, h1, h2, h3⟩ := fb_ct_kth hr
  have := kth_at h1 h2
  rw [h3] at this
  rw [this]; exact ⟨h2, h3⟩
theorem rkf_0 {P : Nat → Bool} : rkf P 0 = P := by funext x; unfold rkf; simp
theorem rkf_l {P : Nat → Bool} {r : Nat} (hr : r < fb_ct P 64) : Lst (rkf P r) (kth P r) := by
  obtain ⟨h1, h2⟩ := kth_ok hr
  refine ⟨kth_lt P r, by unfold rkf; rw [h1, h2]; simp, fun j hj => ?_⟩
  cases e : rkf P r j with
  | false => rfl
  | true =>
    exfalso
    unfold rkf at e
    rw [Bool.and_eq_true, decide_eq_true_eq] at e
    have h3 : fb_ct P (j + 1) = fb_ct P j + 1 := by rw [fb_ct_succ, e.1]; rfl
    have h4 := fb_ct_mono P (m := j + 1) (n := kth P r) hj
    omega
theorem rkf_s {P : Nat → Bool} {r : Nat} (hr : r < fb_ct P 64) (x : Nat) : (rkf P r x && !decide (x = kth P r)) = rkf P (r + 1) x := by
  obtain ⟨h1, h2⟩ := kth_ok hr
  unfold rkf
  cases hp : P x with
  | false => rfl
  | true =>
    by_cases e : x = kth P r
    · subst e; rw [h2]; simp
    · have : fb_ct P x ≠ r := fun z => e (fb_ct_kth_one hp h1 (by omega))
      simp only [Bool.true_and]
      rw [decide_eq_false e, Bool.not_false, Bool.and_true]
      exact decide_eq_decide.mpr (by omega)
theorem kth_en {P : Nat → Bool} : ∀ t, t ≤ 64 → En P (fun k => kth P (k - 1)) t (fb_ct P t)
  | 0, _ => En.zero
  | t + 1, h => by
    have ih := kth_en (P := P) t (by omega)
    rw [fb_ct_succ]
    cases hp : P t with
    | false => exact ih.skip hp
    | true => exact ih.add hp (by show kth P (fb_ct P t + 1 - 1) = t; rw [Nat.add_sub_cancel]; exact kth_at (by omega) hp) (fun _ _ => rfl)
theorem stp_b {w a b : Nat} (ha : a < 64) (hb : b < 64) : stp w a b ≤ 200 := by
  unfold stp ad
  have h1 := Nat.mod_le a w
  have h2 := Nat.mod_le b w
  have h3 := Nat.div_le_self a w
  have h4 := Nat.div_le_self b w
  generalize a % w = x1 at *
  generalize b % w = x2 at *
  generalize a / w = x3 at *
  generalize b / w = x4 at *
  omega
theorem mns_ct {A B : Nat → Bool} {n : Nat} (h : fb_ct A n = fb_ct B n) : fb_ct (mns A B) n = fb_ct (mns B A) n ∧ fb_ct (mns A B) n + fb_ct (mns B A) n ≤ n := by
  have key : ∀ A B : Nat → Bool, fb_ct (mns A B) n + fb_ct (fun k => A k && B k) n = fb_ct A n := fun A B => by
    rw [← fb_ct_or (fun k _ q => by unfold mns at q; cases hb : B k <;> simp_all)]
    exact fb_ct_cong (fun k _ => by unfold mns; cases A k <;> cases B k <;> rfl)
  have k1 := key A B
  have k2 := key B A
  have k3 : fb_ct (fun k => A k && B k) n = fb_ct (fun k => B k && A k) n := fb_ct_cong (fun k _ => Bool.and_comm _ _)
  have k4 : fb_ct (fun k => mns A B k || mns B A k) n = fb_ct (mns A B) n + fb_ct (mns B A) n := fb_ct_or (fun k _ q => by unfold mns at q; cases hb : B k <;> simp_all)
  have k5 := fb_ct_le (fun k => mns A B k || mns B A k) n
  omega
theorem dm_idx {i j m : Nat} (hj : j < m) : (i * m + j) / m = i ∧ (i * m + j) % m = j := by
  rw [Nat.mul_comm]
  exact ⟨by rw [Nat.mul_add_div (by omega), Nat.div_eq_of_lt hj, Nat.add_zero], by rw [Nat.mul_add_mod, Nat.mod_eq_of_lt hj]⟩
theorem car_eq {w N z : Nat} {A B : Nat → Bool} {u v : Nat → Int} {p : Nat → Nat} (hA : ∀ i, N ≤ i → A i = false) (hB : ∀ i, N ≤ i → B i = false) (hN : N ≤ 64) (e1 : fb_ct (mns A B) 64 = z) (e2 : fb_ct (mns B A) 64 = z) (h : Hg (fun i j => stp w (kth (mns A B) (i - 1)) (kth (mns B A) (j - 1))) z z u v p) : carV N (stp w) A B = fb_si (fun j => if p (j + 1) = 0 then 0 else stp w (kth (mns A B) (p (j + 1) - 1)) (kth (mns B A) (j + 1 - 1))) z := by
  have c1 : fb_ct (mns A B) N = z := by rw [← e1]; exact (ct_cut (fun i hi => by unfold mns; rw [hA i hi]; rfl) hN).symm
  have c2 : fb_ct (mns B A) N = z := by rw [← e2]; exact (ct_cut (fun i hi => by unfold mns; rw [hB i hi]; rfl) hN).symm
  have E1 := kth_en (P := mns A B) N hN
  have E2 := kth_en (P := mns B A) N hN
  rw [c1] at E1
  rw [c2] at E2
  have X1 := Hg.isx (d := stp w) (fr := fun k => kth (mns A B) (k - 1)) (to := fun k => kth (mns B A) (k - 1)) h E1 E2
  have X2 := X1.both (stp_0 w) (stp_p w) (stp_t w)
  rw [X2.eq]
  exact fb_si_cong (fun k hk => by rw [if_neg (h.all hk)])
