/-! bounds of dues and faults; what mend and settle do -/
theorem due_le {hd : Nat → Nat} {wy n l : Nat} (hl : l < 6) : due hd wy n l ≤ n + 1 := by
  unfold due
  split
  · omega
  · rename_i hA
    split
    · have h1 : hd l * n / fb_sm hd 6 ≤ n := by
        have h2 := fb_sm_part hd hl
        have h3 : hd l * n ≤ fb_sm hd 6 * n := Nat.mul_le_mul_right n (by omega)
        exact Nat.div_le_of_le_mul h3
      split <;> omega
    · have := shd_le hd wy n l hl
      omega
theorem pt_le (a b : Bool) : pt a b ≤ 2 := by cases a <;> cases b <;> decide
theorem fl2_le (w n : Nat) (mp dr : Nat → Nat) (l : Nat) : ∀ k, fl2 w n mp dr l k ≤ 2 * k
  | 0 => Nat.le_refl _
  | k + 1 => by
    have ih := fl2_le w n mp dr l k
    have := pt_le (nbr w n mp l k) (nbr w n dr l k)
    simp only [fl2, fb_sm] at ih ⊢
    omega
theorem flt_le {w n : Nat} {mp dr du : Nat → Nat} (hn : n ≤ 36) (hd : ∀ l, l < 6 → du l ≤ 37) : ∀ k, k ≤ 6 → flt w n mp dr du k ≤ 200 * k
  | 0, _ => Nat.le_refl _
  | k + 1, hk => by
    have ih := flt_le (w := w) (mp := mp) (dr := dr) hn hd k (by omega)
    have h1 := hd k (by omega)
    have h2 := many_le dr k n
    have h3 := prt_le (fun c => decide (dr c = k)) w n
    have h4 := fl2_le w n mp dr k k
    have h5 : fl1 w n dr du k ≤ 37 + 105 := by
      unfold fl1 ad
      split <;> omega
    simp only [flt, fb_sm] at ih ⊢
    omega
def ofd (o : Option Nat) : Int32 := match o with
  | none => -9
  | some i => nI (10 * (i / 7) + i % 7)
theorem ofd_none {o : Option Nat} (h : ∀ i, o = some i → i < 252) : ofd o = -9 ↔ o = none := by
  cases o with
  | none => simp [ofd]
  | some b =>
    have hb := h b rfl
    simp only [ofd, reduceCtorEq, iff_false]
    intro e
    have e2 := congrArg Int32.toInt e
    rw [nI_t (by omega)] at e2
    simp at e2
    omega
theorem mst_lt {w n : Nat} {mp dr du : Nat → Nat} : ∀ {i j : Nat}, (mst w n mp dr du i).2 = some j → j < i
  | 0, j, h => by simp [mst] at h
  | i + 1, j, h => by
    simp only [mst] at h
    split at h
    · cases h; omega
    · have := mst_lt h; omega
theorem mst_le {w n : Nat} {mp dr du : Nat → Nat} (hn : n ≤ 36) (hd : ∀ l, l < 6 → du l ≤ 37) : ∀ i, (mst w n mp dr du i).1 ≤ 1200
  | 0 => flt_le hn hd 6 (Nat.le_refl _)
  | i + 1 => by
    simp only [mst]
    split
    · exact flt_le hn hd 6 (Nat.le_refl _)
    · exact mst_le hn hd i
noncomputable def mnd (w n : Nat) (mp dr du : Nat → Nat) : Nat → Nat := match (mst w n mp dr du (7 * n)).2 with
  | none => dr
  | some i => set1 dr (i / 7) (i % 7)
theorem pas_wf {w h : Nat} {mp : Nat → Nat} {ch : Nat → Nat} (hc : ∀ i, ch i ≤ 6) : ∀ (m : Nat) {dr : Nat → Nat}, Wf w h mp dr → Wf w h mp (pas w (w * h) ch m dr).2
  | 0, _, H => H
  | m + 1, dr, H => by
    simp only [pas]
    split
    · exact H
    · rename_i c e
      exact pas_wf hc m (wf_set1 H (fnd_some.mp e).1 (hc _))
theorem nI_m2 {n : Nat} (h : 1 ≤ n) : nI n - 2 = nI (n - 1) - 1 := by
  rw [← nI_m1 h, Int32.sub_sub]; rfl
