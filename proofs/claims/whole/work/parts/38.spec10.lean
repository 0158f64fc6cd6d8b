/-! bounds and steps for the reference's tiles -/
theorem sq_ad (a b : Nat) : (nI a - nI b) * (nI a - nI b) = nI (ad a b * ad a b) := by
  by_cases h : b ≤ a
  · rw [pk_sub h, pk_mul]; congr 1; unfold ad; rw [show b - a = 0 by omega, Nat.add_zero]
  · have e : nI a - nI b = -(nI b - nI a) := (Int32.neg_sub).symm
    rw [e, Int32.neg_mul, Int32.mul_neg, Int32.neg_neg, pk_sub (by omega), pk_mul]
    congr 1; unfold ad; rw [show a - b = 0 by omega, Nat.zero_add]
theorem msm_s {g : Nat → Nat} {P : Nat → Bool} {n : Nat} : msm g P (n + 1) = msm g P n + (if P n = true then g n else 0) := rfl
theorem msm_le {g : Nat → Nat} {P : Nat → Bool} {n B : Nat} (h : ∀ k, k < n → g k ≤ B) : msm g P n ≤ n * B := fb_sm_bound (fun k hk => by
  try dsimp only
  split
  · exact h k hk
  · exact Nat.zero_le _)
theorem ad_sq {a b B : Nat} (ha : a ≤ B) (hb : b ≤ B) : ad a b * ad a b ≤ B * B := Nat.mul_le_mul (by unfold ad; omega) (by unfold ad; omega)
theorem ofo_le {w h : Nat} {mp : Nat → Nat} (hw : w ≤ 6) (h6 : h ≤ 6) (w2 : 2 ≤ w) (l : Nat) {c : Nat} (hc : c < w * h) : ofo w (w * h) mp l c ≤ 64800 := by
  have hn : w * h ≤ 36 := wh_le hw h6
  have hm := many_le mp l (w * h)
  have x1 : c % w ≤ 5 := by have := Nat.mod_lt c (show 0 < w by omega); omega
  have y1 : c / w ≤ 5 := by have := Nat.div_lt_of_lt_mul hc; omega
  have x2 := msm_le (g := fun c => c % w) (P := fun c => decide (mp c = l)) (n := w * h) (B := 5) (fun k _ => by have := Nat.mod_lt k (show 0 < w by omega); show k % w ≤ 5; omega)
  have y2 := msm_le (g := fun c => c / w) (P := fun c => decide (mp c = l)) (n := w * h) (B := 5) (fun k hk => by have := Nat.div_lt_of_lt_mul hk; show k / w ≤ 5; omega)
  have p1 : many mp l (w * h) * (c % w) ≤ 180 := Nat.le_trans (Nat.mul_le_mul (Nat.le_trans hm hn) x1) (by decide)
  have p2 : many mp l (w * h) * (c / w) ≤ 180 := Nat.le_trans (Nat.mul_le_mul (Nat.le_trans hm hn) y1) (by decide)
  have a1 := ad_sq (B := 180) p1 (b := msm (fun c => c % w) (fun c => decide (mp c = l)) (w * h)) (by omega)
  have a2 := ad_sq (B := 180) p2 (b := msm (fun c => c / w) (fun c => decide (mp c = l)) (w * h)) (by omega)
  unfold ofo
  omega
theorem dp_bd {o : Nat → Nat → Nat} {ot : Nat} {fre : Nat → Bool} {n B c S m : Nat} (hb : ∀ l c, c < n → o l c ≤ B) (hc : c ≤ n) (hS : S < 64) (h : dp o ot fre c S = some m) : m ≤ 6 * B := by
  obtain ⟨f, h1, h2⟩ := dp_att hS h
  rw [← h2]
  refine fb_sm_bound (fun k hk => ?_)
  try dsimp only
  split
  · rename_i q; exact hb _ _ (by have := (h1.1 k hk q).2.1; omega)
  · exact Nat.zero_le _
theorem dq_bd {o : Nat → Nat → Nat} {ot : Nat} {fre : Nat → Bool} {n B c S m k : Nat} (hb : ∀ l c, c < n → o l c ≤ B) (hc : c < n) (hS : S < 64) (hk : k ≤ 6) (h : dq o ot c (dp o ot fre c) S k = some m) : m ≤ 7 * B := by
  rcases dq_some h with q | ⟨l, m2, hl, _, _, q, e⟩
  · have := dp_bd hb (by omega) hS q; omega
  · have := dp_bd hb (by omega) (clr_lt S hS l (by omega)) q
    have := hb l c hc
    omega
theorem dq_0 {o : Nat → Nat → Nat} {ot c : Nat} {prev : Nat → Option Nat} : ∀ k, dq o ot c prev 0 k = prev 0
  | 0 => rfl
  | k + 1 => by rw [dq, dq_0 k, if_neg (by simp)]; cases prev 0 <;> rfl
theorem dp_0s {o : Nat → Nat → Nat} {ot : Nat} {fre : Nat → Bool} {c : Nat} : dp o ot fre (c + 1) 0 = dp o ot fre c 0 := by
  by_cases q : fre c = true
  · rw [dp_t q, dq_0]
  · rw [dp_f q]
theorem op_ge {o : Option Nat} (h : ∀ k, o = some k → k < 1000000000) : (1000000000 : Int32) ≤ op o ↔ o = none := by
  cases o with
  | none => simp [op]; decide
  | some k =>
    have := h k rfl
    simp only [op, reduceCtorEq, iff_false]
    rw [show (1000000000 : Int32) = nI 1000000000 from rfl, nI_leI (by omega) (by omega)]
    omega
theorem om_lt {a b : Option Nat} (h1 : ∀ k, a = some k → k < 1000000000) (h2 : ∀ k, b = some k → k < 1000000000) (h : op b < op a) : omin a b = b := by
  obtain ⟨c, e, q⟩ := (op_lt h2 h1).mp h
  subst e
  cases a with
  | none => rfl
  | some x => exact if_pos (q x rfl)
theorem om_ge {a b : Option Nat} (h1 : ∀ k, a = some k → k < 1000000000) (h2 : ∀ k, b = some k → k < 1000000000) (h : op a ≤ op b) : omin a b = a := by
  have hn : ¬ op b < op a := Int32.not_lt.mpr h
  rw [op_lt h2 h1] at hn
  cases b with
  | none => cases a <;> rfl
  | some y =>
    cases a with
    | none => exact absurd ⟨y, rfl, fun b e => by cases e⟩ hn
    | some x => exact if_neg (fun q => hn ⟨y, rfl, fun b e => by cases e; exact q⟩)
theorem nb_no {p : Nat → Bool} {i : Nat} (h : (!bex p i) = false) : (!bex p (i + 1)) = false := by rw [bex]; cases hb : bex p i <;> simp_all
theorem nb_s {p : Nat → Bool} {i : Nat} (h : p i = true) : (!bex p (i + 1)) = false := by rw [bex, h]; simp
theorem nb_t {p : Nat → Bool} {i : Nat} (h : (!bex p i) = true) (h2 : p i = false) : (!bex p (i + 1)) = true := by rw [bex, h2]; simpa using h
theorem bo_1 {b : Bool} : bo b = 1 ↔ b = true := by cases b <;> decide
theorem sh1 {i : Nat} (h : i < 6) : (1 : Int32) <<< (nI i &&& 31) = nI (2 ^ i) := by
  have : ∀ i, i < 6 → (1 : Int32) <<< (nI i &&& 31) = nI (2 ^ i) := by decide +kernel
  exact this i h
theorem clr_num : ∀ s, s < 64 → ∀ l, l < 6 → nI s &&& ((1 : Int32) <<< (nI l &&& 31) ^^^ -1) = nI (clr s l) := by decide +kernel
theorem nI_dec {s : Nat} (h : 0 < s) : nI s + -1 = nI (s - 1) := by rw [← Int32.sub_eq_add_neg, nI_m1 h]
/-- the least sum with nothing laid is the best tiles' -/
theorem lof_0 (w n : Nat) (mp : Nat → Nat) (hn : n ≤ 36) (t : Nat → Nat) : lof (Tl mp n) n (ofo w n mp) t 0 = some (Co (Tl mp n) (ofo w n mp) (bt w n mp)) := by
  have hB := bt_best w n mp
  obtain ⟨m, h1, h2⟩ := lof_low (T := Tl mp n) (n := n) (o := ofo w n mp) (t := t) (k := 0) (by omega) hB.1 (fun l hl => by omega)
  obtain ⟨f, f1, _, f3⟩ := lof_att (T := Tl mp n) (n := n) (o := ofo w n mp) (t := t) (k := 0) (by omega) (fun l hl => by omega) (fun l j hl => by omega) h1
  have := hB.co hn f1
  rw [h1]; congr 1; omega
theorem lof_hit (w n : Nat) (mp : Nat → Nat) (hn : n ≤ 36) {t : Nat → Nat} {k : Nat} (hk : k ≤ 6) (ht : ∀ l, l < k → Tl mp n l = true → t l = bt w n mp l) : lof (Tl mp n) n (ofo w n mp) t k = some (Co (Tl mp n) (ofo w n mp) (bt w n mp)) := by
  have hB := bt_best w n mp
  obtain ⟨m, h1, h2⟩ := lof_low (T := Tl mp n) (n := n) (o := ofo w n mp) (t := t) (k := k) hk hB.1 (fun l hl hT => (ht l hl hT).symm)
  obtain ⟨f, f1, _, f3⟩ := lof_att (T := Tl mp n) (n := n) (o := ofo w n mp) (t := t) (k := k) hk (fun l hl hT => by rw [ht l hl hT]; exact hB.1.1 l (by omega) hT) (fun l j hl hj h3 h4 e => hB.1.2 l j (by omega) (by omega) h3 h4 (by rw [← ht l hl h3, ← ht j hj h4, e])) h1
  have := hB.co hn f1
  rw [h1]; congr 1; omega
theorem lof_miss (w n : Nat) (mp : Nat → Nat) (hn : n ≤ 36) {t : Nat → Nat} {l : Nat} (hl : l < 6) (hT : Tl mp n l = true) (ht : ∀ m, m < l → Tl mp n m = true → t m = bt w n mp m) (hc : t l < bt w n mp l) (hf : ∀ m, m < l → Tl mp n m = true → t m ≠ t l) : lof (Tl mp n) n (ofo w n mp) t (l + 1) ≠ some (Co (Tl mp n) (ofo w n mp) (bt w n mp)) := by
  intro h
  have hB := bt_best w n mp
  have hx : ∀ m, m < l + 1 → Tl mp n m = true → t m < n := fun m hm hTm => by
    by_cases e : m = l
    · have := hB.1.1 l hl hT; rw [e]; omega
    · rw [ht m (by omega) hTm]; exact hB.1.1 m (by omega) hTm
  obtain ⟨f, f1, f2, f3⟩ := lof_att (T := Tl mp n) (n := n) (o := ofo w n mp) (t := t) (k := l + 1) (by omega) hx (fun a b ha hb h3 h4 e => by
    by_cases e1 : a = l
    · by_cases e2 : b = l
      · omega
      · exact absurd (by rw [← e1, e]) (hf b (by omega) h4)
    · by_cases e2 : b = l
      · exact absurd (by rw [← e2, e]) (hf a (by omega) h3)
      · exact hB.1.2 a b (by omega) (by omega) h3 h4 (by rw [← ht a (by omega) h3, ← ht b (by omega) h4, e])) h
  have := hB.lex hn f1 f3 hl hT (fun m hm hTm => by rw [f2 m (by omega) hTm, ht m hm hTm])
  rw [f2 l (by omega) hT] at this
  omega
theorem co_le {w h : Nat} {mp : Nat → Nat} (hw : w ≤ 6) (h6 : h ≤ 6) (w2 : 2 ≤ w) : Co (Tl mp (w * h)) (ofo w (w * h) mp) (bt w (w * h) mp) ≤ 388800 := by
  have hB := bt_best w (w * h) mp
  refine Nat.le_trans (fb_sm_bound (c := 64800) (fun k hk => ?_)) (by decide)
  try dsimp only
  split
  · rename_i q; exact ofo_le hw h6 w2 k (hB.1.1 k hk q)
  · exact Nat.zero_le _
noncomputable def tlv (w n : Nat) (mp : Nat → Nat) (l : Nat) : Int32 := if Tl mp n l = true then nI (bt w n mp l) else -9
theorem tlv_ne {w n : Nat} {mp : Nat → Nat} {l c : Nat} (hc : c < 2 ^ 31) (hn : n ≤ 36) (hl : l < 6) : tlv w n mp l = nI c ↔ Tl mp n l = true ∧ bt w n mp l = c := by
  unfold tlv
  by_cases q : Tl mp n l = true
  · have := (bt_best w n mp).1.1 l hl q
    rw [if_pos q, nI_eq (by omega) hc]
    exact ⟨fun e => ⟨q, e⟩, fun e => e.2⟩
  · rw [if_neg q]
    exact ⟨fun e => absurd e.symm (nn9 hc), fun e => absurd e.1 q⟩
theorem tlv_9 {w n : Nat} {mp : Nat → Nat} {l : Nat} (hn : n ≤ 36) (hl : l < 6) : tlv w n mp l = -9 ↔ Tl mp n l = false := by
  unfold tlv
  by_cases q : Tl mp n l = true
  · have := (bt_best w n mp).1.1 l hl q
    rw [if_pos q]
    exact ⟨fun e => absurd e (nn9 (by omega)), fun e => by rw [q] at e; cases e⟩
  · rw [if_neg q]
    exact ⟨fun _ => by simpa using q, fun _ => rfl⟩
noncomputable def kpr (w n : Nat) (mp : Nat → Nat) (a b : Nat) : Bool := (Tl mp n a && (Tl mp n b && nbr w n mp a b)) && adj w (bt w n mp a) (bt w n mp b)
noncomputable def kpt (w n : Nat) (mp : Nat → Nat) (k : Nat) : Nat := fb_sm (fun a => fb_ct (kpr w n mp a) a) k
theorem lof_iff {w h : Nat} {mp : Nat → Nat} (hw : w ≤ 6) (h6 : h ≤ 6) (w2 : 2 ≤ w) {t : Nat → Nat} {l : Nat} (hl : l < 6) (hT : Tl mp (w * h) l = true) (ht : ∀ m, m < l → Tl mp (w * h) m = true → t m = bt w (w * h) mp m) (hc : t l ≤ bt w (w * h) mp l) (hf : ∀ m, m < l → Tl mp (w * h) m = true → t m ≠ t l) : op (lof (Tl mp (w * h)) (w * h) (ofo w (w * h) mp) t (l + 1)) = nI (Co (Tl mp (w * h)) (ofo w (w * h) mp) (bt w (w * h) mp)) ↔ t l = bt w (w * h) mp l := by
  have hn : w * h ≤ 36 := wh_le hw h6
  have hco := co_le (mp := mp) hw h6 w2
  constructor
  · intro e
    apply Classical.byContradiction
    intro q
    have miss := lof_miss w (w * h) mp hn hl hT ht (by omega) hf
    have hB := bt_best w (w * h) mp
    cases eo : lof (Tl mp (w * h)) (w * h) (ofo w (w * h) mp) t (l + 1) with
    | none =>
      rw [eo] at e
      have e : nI 1000000000 = nI _ := e
      rw [nI_eq (by omega) (by omega)] at e
      omega
    | some m =>
      obtain ⟨f, f1, f2, f3⟩ := lof_att (T := Tl mp (w * h)) (n := w * h) (o := ofo w (w * h) mp) (t := t) (k := l + 1) (by omega) (fun m hm hTm => by
        by_cases e : m = l
        · have := hB.1.1 l hl hT; rw [e]; omega
        · rw [ht m (by omega) hTm]; exact hB.1.1 m (by omega) hTm) (fun a b ha hb h3 h4 e => by
        by_cases e1 : a = l
        · by_cases e2 : b = l
          · omega
          · exact absurd (by rw [← e1, e]) (hf b (by omega) h4)
        · by_cases e2 : b = l
          · exact absurd (by rw [← e2, e]) (hf a (by omega) h3)
          · exact hB.1.2 a b (by omega) (by omega) h3 h4 (by rw [← ht a (by omega) h3, ← ht b (by omega) h4, e])) eo
      have hm : m ≤ 388800 := by
        rw [← f3]
        refine Nat.le_trans (fb_sm_bound (c := 64800) (fun k hk => ?_)) (by decide)
        try dsimp only
        split
        · rename_i q; exact ofo_le hw h6 w2 k (f1.1 k hk q)
        · exact Nat.zero_le _
      rw [eo] at e
      have e : nI m = nI _ := e
      rw [nI_eq (by omega) (by omega)] at e
      exact miss (by rw [eo, e])
  · intro e
    rw [lof_hit w (w * h) mp hn (by omega) (fun m hm hTm => by
      by_cases z : m = l
      · rw [z, e]
      · exact ht m (by omega) hTm)]
    rfl
