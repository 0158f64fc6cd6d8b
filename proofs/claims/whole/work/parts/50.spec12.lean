/-! the class: what may be handed -/
noncomputable def lse (w n : Nat) (dr : Nat → Nat) (a c : Nat) : Bool := decide (2 ≤ many dr a n) && (decide (dr c = a) && decide (prt (fun x => decide (dr x = a) && !decide (x = c)) w n ≤ prt (fun x => decide (dr x = a)) w n))
theorem lse_no {w n : Nat} {dr : Nat → Nat} {a c : Nat} (h : dr c ≠ a) : lse w n dr a c = false := by unfold lse; simp [h]
theorem mayh_l {w n : Nat} {dr : Nat → Nat} {c l : Nat} (h6 : dr c ≠ 6) (hl : dr c ≠ l) : mayh w n dr c l = (tch w n dr c l && lse w n dr (dr c) c) := by
  have e : (fun x => decide (set1 dr c l x = dr c)) = (fun x => decide (dr x = dr c) && !decide (x = c)) := by
    funext x
    unfold set1
    by_cases q : x = c
    · subst q; simp [Ne.symm hl]
    · simp [q]
  unfold mayh lse
  rw [e]
  simp [h6, hl]
theorem fnd_lse {w n : Nat} {dr : Nat → Nat} {a b : Nat} (ha : a < 6) (hab : a ≠ b) (hn : n ≤ 64) : fnd (fun c => rim w n (fun i => decide (dr i = b)) c && lse w n dr a c) 64 = fnd (fun c => decide (dr c = a) && mayh w n dr c b) n := by
  rw [fnd_cut (n := n) (fun i hi => by rw [rim_out hi]; rfl) hn]
  refine fnd_cong (fun c hc => ?_)
  rw [rim_tch hc]
  by_cases q : dr c = a
  · subst q
    rw [mayh_l (by omega) hab]; simp
  · rw [lse_no q]; simp [q]
theorem hnd_l {w n : Nat} {dr : Nat → Nat} {a b : Nat} (ha : a < 6) (hab : a ≠ b) (hn : n ≤ 64) : hnd w n dr a b = (fnd (fun c => rim w n (fun i => decide (dr i = b)) c && lse w n dr a c) 64).isSome := by
  unfold hnd
  rw [fnd_lse ha hab hn]
  simp [hab]
theorem mk_fnd {P : Nat → Bool} : mk P = 0 ↔ fnd P 64 = none := by rw [mk_z, fnd_none]
theorem loose_s {Q R : Nat → Bool} {j : Nat} {b : Bool} (hb : (Q j && R j) = b) : mk (fun c => decide (c < j + 1) && (Q c && R c)) = if b = true then mk (fun c => decide (c < j) && (Q c && R c)) ||| mk (fun i => decide (i = j)) else mk (fun c => decide (c < j) && (Q c && R c)) := by
  cases b with
  | true =>
    rw [if_pos rfl, mk_or]
    refine mk_cong (fun i _ => ?_)
    by_cases e : i = j
    · subst e; rw [hb]; simp
    · have : decide (i < j + 1) = decide (i < j) := decide_eq_decide.mpr (by omega)
      simp [e, this]
  | false =>
    rw [if_neg (by decide)]
    refine mk_cong (fun i _ => ?_)
    by_cases e : i = j
    · subst e; rw [hb]; simp
    · have : decide (i < j + 1) = decide (i < j) := decide_eq_decide.mpr (by omega)
      rw [this]
theorem upx36 {hh : Nat → Nat → Bool} {M : Mem} {t a b : Nat} {y : Int32} (hx3 : ∀ x, x < 6 * a + b → M.1 t x = bo (hh (x / 6) (x % 6))) (e : bo (hh a b) = vp_nar .boolean y) (hb : b < 6) (x : Nat) (hx : x < 6 * a + (b + 1)) : ((va_up M.1 t (upd (M.1 t) (6 * a + b) (vp_nar .boolean y)), M.2) : Mem).1 t x = bo (hh (x / 6) (x % 6)) := by
  by_cases q : x = 6 * a + b
  · subst q
    rw [up_s, show (6 * a + b) / 6 = a by omega, show (6 * a + b) % 6 = b by omega, e]
  · exact (up_n q).trans (hx3 x (by omega))
theorem chn_ne {h : Nat → Nat → Bool} {T : Nat → Bool} {s : Nat} (hs : s < 6) (h2 : dn h T 7 s ≤ 6) {i : Nat} (hi : i + 1 < dn h T 7 s) : chn h T s i ≠ chn h T s (i + 1) := fun e => by
  have h3 := (chn_ok hs h2 i (by omega)).2
  have h4 := (chn_ok hs h2 (i + 1) hi).2
  rw [e] at h3
  omega
