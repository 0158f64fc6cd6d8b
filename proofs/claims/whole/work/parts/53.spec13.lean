/-! the class: boxes, counts -/
theorem inbox_out {w h c e i : Nat} (he : e < w * h) (hi : w * h ≤ i) : inbox w c e i = false := by
  have h1 : e / w < h := Nat.div_lt_of_lt_mul he
  have h2 : h ≤ i / w := by
    rcases Nat.eq_zero_or_pos w with z | z
    · subst z; simp at he
    · rw [Nat.le_div_iff_mul_le z, Nat.mul_comm]; exact hi
  have h3 : ¬ i / w ≤ e / w := by omega
  unfold inbox
  simp [h3]
theorem box_ct {w h c e j : Nat} {f : Nat → Nat} (he : e < w * h) (hn : w * h ≤ 36) : fb_ct (fun i => inbox w c e i && !cel (w * h) f j i) 64 = fb_ct (fun x => inbox w c e x && !decide (f x = j)) (w * h) := by
  rw [ct_cut (n := w * h) (fun i hi => by rw [inbox_out he hi]; rfl) (by omega)]
  exact fb_ct_cong (fun i hi => by unfold cel; simp [hi])
theorem box_d {w h c e j : Nat} {f : Nat → Nat} (he : e < w * h) : boxd w c e j f (w * h) = (fun i => if inbox w c e i = true then j else f i) := by
  funext i
  unfold boxd
  rcases Nat.lt_or_ge i (w * h) with q | q
  · simp [q]
  · rw [inbox_out he q]; simp
theorem unl_ct {n : Nat} {mp dr : Nat → Nat} (hn : n ≤ 36) : fb_ct (fun i => decide (i < n) && !decide (mp i = dr i)) 64 = fb_ct (fun c => !decide (mp c = dr c)) n := by
  rw [ct_cut (n := n) (fun i hi => by simp; omega) (by omega)]
  exact fb_ct_cong (fun i hi => by simp [hi])
theorem chd_ct {n : Nat} {mp dr : Nat → Nat} (hf : Sw n mp) (hn : n ≤ 36) : fb_ct (fun i => (decide (i < n) && !decide (mp i = dr i)) && decide (mp i < 6)) 64 = fb_ct (fun c => !decide (mp c = 6) && !decide (mp c = dr c)) n := by
  rw [ct_cut (n := n) (fun i hi => by have : ¬ i < n := by omega
                                      simp [this]) (by omega)]
  refine fb_ct_cong (fun i hi => ?_)
  have := hf.1 i
  rw [Bool.eq_iff_iff]
  simp [hi]
  omega
