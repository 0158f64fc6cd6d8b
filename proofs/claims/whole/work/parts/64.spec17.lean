/-! the class: tiles -/
def T6 (mp : Nat → Nat) (n : Nat) : Nat → Bool := fun l => decide (l < 6) && Tl mp n l
theorem T6_in {mp : Nat → Nat} {n l : Nat} (hl : l < 6) : T6 mp n l = Tl mp n l := by unfold T6; simp [hl]
theorem T6_lt {mp : Nat → Nat} {n l : Nat} (h : T6 mp n l = true) : l < 6 ∧ Tl mp n l = true := by unfold T6 at h; simpa using h
theorem T6_ct (mp : Nat → Nat) (n : Nat) : fb_ct (T6 mp n) 64 = fb_ct (T6 mp n) 6 := ct_cut (fun i hi => by unfold T6; simp; omega) (by decide)
theorem T6_ct6 (mp : Nat → Nat) (n : Nat) : fb_ct (T6 mp n) 6 = fb_ct (fun l => decide (0 < many mp l n)) 6 := fb_ct_cong (fun l hl => T6_in hl)
theorem T6_le (mp : Nat → Nat) (n : Nat) : fb_ct (T6 mp n) 6 ≤ n := by
  obtain ⟨f, hf⟩ := pl_ex mp n
  refine fb_holes n (fb_ct (T6 mp n) 6) (fun i => f (kth (T6 mp n) i)) (fun i hi => ?_) (fun i j hij hj => ?_)
  · have q := T6_lt (kth_ok (P := T6 mp n) (r := i) (by rw [T6_ct]; exact hi)).1
    exact hf.1 _ q.1 q.2
  · have q1 := kth_ok (P := T6 mp n) (r := i) (by rw [T6_ct]; omega)
    have q2 := kth_ok (P := T6 mp n) (r := j) (by rw [T6_ct]; exact hj)
    intro e
    have := hf.2 _ _ (T6_lt q1.1).1 (T6_lt q2.1).1 (T6_lt q1.1).2 (T6_lt q2.1).2 e
    have h3 := q1.2
    rw [this, q2.2] at h3
    omega
theorem T6_b (mp : Nat → Nat) {n : Nat} (hn : n ≤ 36) : Mb (fb_ct (T6 mp n) 6) n := ⟨T6_le mp n, hn, by
  have h1 := fb_ct_le (T6 mp n) 6
  exact Nat.le_trans (Nat.mul_le_mul h1 hn) (by decide)⟩
def tcs (w n : Nat) (mp : Nat → Nat) (l x : Nat) : Nat := ofo w n mp l x * 2176782336 + x * 36 ^ (5 - l)
/-- a row's cost in a column -/
def tct (w n : Nat) (mp : Nat → Nat) (i j : Nat) : Int := if 1 ≤ i ∧ i ≤ fb_ct (T6 mp n) 6 ∧ 1 ≤ j ∧ j ≤ n then (tcs w n mp (kth (T6 mp n) (i - 1)) (j - 1) : Int) else 0
theorem p36 {l : Nat} : 36 ^ (5 - l) ≤ 60466176 := Nat.le_trans (Nat.pow_le_pow_right (by decide) (show 5 - l ≤ 5 by omega)) (by decide)
theorem tcs_le {w h : Nat} {mp : Nat → Nat} (hw : w ≤ 6) (h6 : h ≤ 6) (w2 : 2 ≤ w) (l : Nat) {x : Nat} (hx : x < w * h) : tcs w (w * h) mp l x ≤ 141060000000000 := by
  have h1 := ofo_le (mp := mp) hw h6 w2 l hx
  have h2 : x * 36 ^ (5 - l) ≤ 36 * 60466176 := Nat.mul_le_mul (by have := wh_le hw h6; omega) p36
  unfold tcs
  omega
theorem tct_b {w h : Nat} {mp : Nat → Nat} (hw : w ≤ 6) (h6 : h ≤ 6) (w2 : 2 ≤ w) (i j : Nat) : 0 ≤ tct w (w * h) mp i j ∧ tct w (w * h) mp i j ≤ KK := by
  have hKK : KK = 1125899906842624 := rfl
  unfold tct
  split
  · rename_i q
    have := tcs_le (mp := mp) hw h6 w2 (kth (T6 mp (w * h)) (i - 1)) (x := j - 1) (by omega)
    omega
  · omega
/-- where a land's row was placed -/
def tf (mp : Nat → Nat) (n : Nat) (p : Nat → Nat) (l : Nat) : Nat := (fnd (fun x => decide (p (x + 1) = fb_ct (T6 mp n) l + 1)) n).getD 0
theorem tot_l {w n : Nat} {mp f : Nat → Nat} : fb_si (fun x => if T6 mp n x = true then (tcs w n mp x (f x) : Int) else 0) 6 = ((Co (Tl mp n) (ofo w n mp) f * 2176782336 + dig (Tl mp n) f : Nat) : Int) := by
  have e : fb_si (fun x => if T6 mp n x = true then (tcs w n mp x (f x) : Int) else 0) 6 = fb_si (fun x => ((if Tl mp n x = true then tcs w n mp x (f x) else 0 : Nat) : Int)) 6 := fb_si_cong (fun x hx => by rw [T6_in hx]; split <;> rfl)
  rw [e, fb_si_nat]
  congr 1
  unfold Co dig
  have e2 : ∀ x, (if Tl mp n x = true then tcs w n mp x (f x) else 0) = (if Tl mp n x = true then ofo w n mp x (f x) else 0) * 2176782336 + (if Tl mp n x = true then f x * 36 ^ (5 - x) else 0) := fun x => by
    unfold tcs
    split <;> simp
  simp only [e2]
  rw [fb_sm_add]
  congr 1
  simp only [fb_sm]
  omega
theorem tot_k {w n : Nat} {mp : Nat → Nat} (g : Nat → Nat) (hg : ∀ l, l < 6 → Tl mp n l = true → g l < n) : fb_si (fun i => tct w n mp (i + 1) (g (kth (T6 mp n) i) + 1)) (fb_ct (T6 mp n) 6) = ((Co (Tl mp n) (ofo w n mp) g * 2176782336 + dig (Tl mp n) g : Nat) : Int) := by
  have E := kth_en (P := T6 mp n) 6 (by decide)
  have e1 := E.1 (fun l => (tcs w n mp l (g l) : Int))
  rw [← tot_l]
  refine Eq.trans ?_ e1
  refine fb_si_cong (fun i hi => ?_)
  have q := T6_lt (kth_ok (P := T6 mp n) (r := i) (by rw [T6_ct]; exact hi)).1
  have := hg _ q.1 q.2
  unfold tct
  rw [if_pos ⟨by omega, by omega, by omega, by omega⟩]
  rfl
section Tile
variable {w n : Nat} {mp : Nat → Nat} {u v : Nat → Int} {p : Nat → Nat}
theorem tf_ok (h : Hg (tct w n mp) n (fb_ct (T6 mp n) 6) u v p) {l : Nat} (hl : l < 6) (hT : Tl mp n l = true) : tf mp n p l < n ∧ p (tf mp n p l + 1) = fb_ct (T6 mp n) l + 1 := by
  have hr : fb_ct (T6 mp n) l + 1 ≤ fb_ct (T6 mp n) 6 := by
    have h1 := fb_ct_mono (T6 mp n) (m := l + 1) (n := 6) hl
    rw [fb_ct_succ, T6_in hl, hT] at h1
    simpa using h1
  obtain ⟨j, a, b, e⟩ := h.2.2.1 (fb_ct (T6 mp n) l + 1) (by omega) hr
  unfold tf
  cases q : fnd (fun x => decide (p (x + 1) = fb_ct (T6 mp n) l + 1)) n with
  | none =>
    have := fnd_none.mp q (j - 1) (by omega)
    rw [Nat.sub_add_cancel a] at this
    simp [e] at this
  | some x =>
    have := fnd_some.mp q
    simp only [decide_eq_true_eq] at this
    exact ⟨this.1, this.2.1⟩
theorem tf_pl (h : Hg (tct w n mp) n (fb_ct (T6 mp n) 6) u v p) : Pl (Tl mp n) n (tf mp n p) := by
  refine ⟨fun l hl hT => (tf_ok h hl hT).1, fun l m hl hm hT hM e => ?_⟩
  have q1 := (tf_ok h hl hT).2
  have q2 := (tf_ok h hm hM).2
  rw [e, q2] at q1
  exact fb_ct_kth_one (p := T6 mp n) (by rw [T6_in hl]; exact hT) (by rw [T6_in hm]; exact hM) (by omega)
theorem tf_sum (h : Hg (tct w n mp) n (fb_ct (T6 mp n) 6) u v p) : fb_si (fun j => if p (j + 1) = 0 then 0 else tct w n mp (p (j + 1)) (j + 1)) n = ((Co (Tl mp n) (ofo w n mp) (tf mp n p) * 2176782336 + dig (Tl mp n) (tf mp n p) : Nat) : Int) := by
  rw [← tot_k (tf mp n p) (tf_pl h).1]
  have e := h.re (fun i => tct w n mp i (tf mp n p (kth (T6 mp n) (i - 1)) + 1))
  simp only [Nat.add_sub_cancel] at e
  rw [← e]
  refine fb_si_cong (fun j hj => ?_)
  by_cases q : p (j + 1) = 0
  · rw [if_pos q, if_pos q]
  · rw [if_neg q, if_neg q]
    have hR := h.1 (j + 1) (by omega) (by omega)
    have k := kth_ok (P := T6 mp n) (r := p (j + 1) - 1) (by rw [T6_ct]; omega)
    have t := T6_lt k.1
    have t2 := tf_ok h t.1 t.2
    have : tf mp n p (kth (T6 mp n) (p (j + 1) - 1)) + 1 = j + 1 := h.2.1 _ (j + 1) (by omega) (by omega) (by omega) (by omega) (by rw [t2.2, k.2]; omega) (by rw [t2.2]; omega)
    rw [this]
theorem tf_best (h : Hg (tct w n mp) n (fb_ct (T6 mp n) 6) u v p) : Best (Tl mp n) n (ofo w n mp) (tf mp n p) := by
  refine ⟨tf_pl h, fun g hg => ?_⟩
  have l1 := h.least (g := fun i => g (kth (T6 mp n) i) + 1) (fun i hi => by
    have q := T6_lt (kth_ok (P := T6 mp n) (r := i) (by rw [T6_ct]; exact hi)).1
    have := hg.1 _ q.1 q.2
    omega) (fun i j hi hj e => by
    have q1 := kth_ok (P := T6 mp n) (r := i) (by rw [T6_ct]; exact hi)
    have q2 := kth_ok (P := T6 mp n) (r := j) (by rw [T6_ct]; exact hj)
    have := hg.2 _ _ (T6_lt q1.1).1 (T6_lt q2.1).1 (T6_lt q1.1).2 (T6_lt q2.1).2 (by omega)
    rw [← q1.2, ← q2.2, this])
  rw [tf_sum h, tot_k g hg.1] at l1
  omega
/-- the class's tiles, as a sheet -/
def tsh (mp : Nat → Nat) (n : Nat) (p : Nat → Nat) (k : Nat) : Nat → Nat := fun x => if x < k ∧ p (x + 1) ≠ 0 then kth (T6 mp n) (p (x + 1) - 1) else 6
theorem tsh_s {k : Nat} : tsh mp n p (k + 1) = if p (k + 1) = 0 then tsh mp n p k else set1 (tsh mp n p k) k (kth (T6 mp n) (p (k + 1) - 1)) := by
  by_cases q : p (k + 1) = 0
  · rw [if_pos q]
    funext x
    unfold tsh
    by_cases e : x = k
    · subst e; simp [q]
    · have : (x < k + 1 ∧ p (x + 1) ≠ 0) ↔ (x < k ∧ p (x + 1) ≠ 0) := ⟨fun z => ⟨by omega, z.2⟩, fun z => ⟨by omega, z.2⟩⟩
      simp only [this]
  · rw [if_neg q]
    funext x
    unfold tsh set1
    by_cases e : x = k
    · subst e; simp [q]
    · have : (x < k + 1 ∧ p (x + 1) ≠ 0) ↔ (x < k ∧ p (x + 1) ≠ 0) := ⟨fun z => ⟨by omega, z.2⟩, fun z => ⟨by omega, z.2⟩⟩
      simp only [this, e, if_false]
theorem tsh_0 : tsh mp n p 0 = fun _ => 6 := by funext x; unfold tsh; simp
theorem tsh_iff (h : Hg (tct w n mp) n (fb_ct (T6 mp n) 6) u v p) (hn : n ≤ 36) {l : Nat} (hl : l < 6) (x : Nat) : tsh mp n p n x = l ↔ Tl mp n l = true ∧ bt w n mp l = x := by
  have hb := (tf_best h).one (bt_best w n mp) hn
  unfold tsh
  constructor
  · intro q
    split at q
    · rename_i z
      have hR := h.1 (x + 1) (by omega) (by omega)
      have k := kth_ok (P := T6 mp n) (r := p (x + 1) - 1) (by rw [T6_ct]; omega)
      rw [q] at k
      have t := T6_lt k.1
      have t2 := tf_ok h t.1 t.2
      refine ⟨t.2, ?_⟩
      rw [← hb.2 l hl t.2]
      have : tf mp n p l + 1 = x + 1 := h.2.1 _ (x + 1) (by omega) (by omega) (by omega) (by omega) (by rw [t2.2, k.2]; omega) (by rw [t2.2]; omega)
      omega
    · omega
  · rintro ⟨hT, e⟩
    rw [← hb.2 l hl hT] at e
    have t2 := tf_ok h hl hT
    rw [e] at t2
    rw [if_pos ⟨t2.1, by rw [t2.2]; omega⟩, t2.2, Nat.add_sub_cancel]
    exact kth_at (by omega) (by rw [T6_in hl]; exact hT)
theorem tsh_sw (h : Hg (tct w n mp) n (fb_ct (T6 mp n) 6) u v p) (k : Nat) (hk : k ≤ n) : Sw n (tsh mp n p k) := by
  refine ⟨fun x => ?_, fun x hx => ?_⟩
  · unfold tsh
    split
    · rename_i z
      have hR := h.1 (x + 1) (by omega) (by omega)
      have := T6_lt (kth_ok (P := T6 mp n) (r := p (x + 1) - 1) (by rw [T6_ct]; omega)).1
      omega
    · omega
  · unfold tsh; rw [if_neg (fun z => by omega)]
theorem tsum_div (h : Hg (tct w n mp) n (fb_ct (T6 mp n) 6) u v p) (hn : n ≤ 36) : ∃ d, d < 2176782336 ∧ fb_si (fun j => if p (j + 1) = 0 then 0 else tct w n mp (p (j + 1)) (j + 1)) n = ((Co (Tl mp n) (ofo w n mp) (bt w n mp) * 2176782336 + d : Nat) : Int) := by
  refine ⟨dig (Tl mp n) (tf mp n p), (tf_pl h).dig hn, ?_⟩
  rw [tf_sum h, ((tf_best h).one (bt_best w n mp) hn).1]
theorem tnbr {g : Nat → Nat} (hg : ∀ l, l < 6 → ∀ x, g x = l ↔ Tl mp n l = true ∧ bt w n mp l = x) {a b : Nat} (ha : a < 6) (hb : b < 6) : nbr w n g a b = (Tl mp n a && (Tl mp n b && adj w (bt w n mp a) (bt w n mp b))) := by
  rw [Bool.eq_iff_iff]
  unfold nbr tch
  rw [bex_iff]
  constructor
  · rintro ⟨c, h1, h2⟩
    rw [Bool.and_eq_true, bex_iff, decide_eq_true_eq] at h2
    obtain ⟨h3, e, h4, h5⟩ := h2
    rw [Bool.and_eq_true, decide_eq_true_eq] at h5
    have q1 := (hg a ha c).mp h3
    have q2 := (hg b hb e).mp h5.1
    rw [q1.1, q2.1, q1.2, q2.2, h5.2]; rfl
  · intro h
    simp only [Bool.and_eq_true] at h
    have b1 := (bt_best w n mp).1.1 a ha h.1
    have b2 := (bt_best w n mp).1.1 b hb h.2.1
    refine ⟨_, b1, ?_⟩
    rw [Bool.and_eq_true, bex_iff, decide_eq_true_eq]
    refine ⟨(hg a ha _).mpr ⟨h.1, rfl⟩, _, b2, ?_⟩
    rw [Bool.and_eq_true, decide_eq_true_eq]
    exact ⟨(hg b hb _).mpr ⟨h.2.1, rfl⟩, h.2.2⟩
noncomputable def kp1 (w n : Nat) (mp : Nat → Nat) (a b : Nat) : Nat := if kpr w n mp b a = true then 1 else 0
theorem kpt_eq {g : Nat → Nat} (hg : ∀ l, l < 6 → ∀ x, g x = l ↔ Tl mp n l = true ∧ bt w n mp l = x) : fb_ct (fun i => prs w n mp i && prs w n g i) 64 = kpt w n mp 6 := by
  rw [ct_cut (n := 36) (fun i h => by unfold prs; simp; omega) (by decide), ct_sm]
  have e : fb_sm (fun i => if (prs w n mp i && prs w n g i) = true then 1 else 0) 36 = fb_sm (fun i => if i / 6 < i % 6 then kp1 w n mp (i / 6) (i % 6) else 0) 36 := fb_sm_cong (fun i hi => by
    unfold prs kp1 kpr
    by_cases q : i / 6 < i % 6
    · rw [tnbr hg (show i / 6 < 6 by omega) (show i % 6 < 6 by omega), nbr_comm (a := i / 6), adj_comm w (bt w n mp (i / 6))]
      simp only [hi, q, and_self, decide_true, Bool.true_and, if_true]
      congr 1
      rw [Bool.eq_iff_iff.mp (show (nbr w n mp (i % 6) (i / 6) && (Tl mp n (i / 6) && (Tl mp n (i % 6) && adj w (bt w n mp (i % 6)) (bt w n mp (i / 6))))) = ((Tl mp n (i % 6) && (Tl mp n (i / 6) && nbr w n mp (i % 6) (i / 6))) && adj w (bt w n mp (i % 6)) (bt w n mp (i / 6))) from by
        cases nbr w n mp (i % 6) (i / 6) <;> cases Tl mp n (i / 6) <;> cases Tl mp n (i % 6) <;> simp)]
    · simp [q])
  rw [e]
  have e2 : ∀ a, fb_ct (kpr w n mp a) a = fb_sm (fun b => kp1 w n mp b a) a := fun a => ct_sm _ a
  unfold kpt
  simp only [e2]
  generalize kp1 w n mp = κ
  simp [fb_sm]
  omega
end Tile
theorem sq64 {a b : Nat} (ha : a < 2 ^ 30) (hb : b < 2 ^ 30) : (nI a - nI b).toInt64 * (nI a - nI b).toInt64 = lN (ad a b * ad a b) := by
  have h1 : (nI a - nI b).toInt64 = Int64.ofInt ((a : Int) - b) := by
    rw [oi64 ((nI a - nI b).toInt64), Int32.toInt_toInt64, pk_sub_toInt ha hb]
  rw [h1, ← Int64.ofInt_mul]
  have h2 : ((a : Int) - b) * ((a : Int) - b) = ((ad a b * ad a b : Nat) : Int) := by
    rw [Int.natCast_mul]
    rcases Nat.le_total b a with q | q
    · have : ((ad a b : Nat) : Int) = (a : Int) - b := by unfold ad; omega
      rw [this]
    · have : ((ad a b : Nat) : Int) = -((a : Int) - b) := by unfold ad; omega
      rw [this, Int.neg_mul_neg]
  rw [h2]
  exact Int64.ofInt_eq_ofNat
