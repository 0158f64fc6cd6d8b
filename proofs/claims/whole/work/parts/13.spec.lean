/-! what both sides compute: the dues -/
section Nl
def am_ns (L : List Value) : List Nat → List Value
  | [] => L
  | k :: ks => am_ns (am_s L k .null) ks
theorem am_L.nl {X : Cx} {n : Nat} {ls : Array Slot} : ∀ (ks : List Nat) {L : List Value}, am_L X n L ls → am_L X n (am_ns L ks) ls
  | [], _, h => h
  | k :: ks, L, h => by
    refine am_L.nl ks ⟨by rw [am_s_len]; exact h.1, h.2.1, h.2.2.1, fun j hj => ?_⟩
    rw [am_s_get] at hj ⊢
    by_cases e : j = k ∧ k < L.length
    · rw [if_pos e] at hj; exact absurd rfl hj
    · rw [if_neg e] at hj ⊢; exact h.2.2.2 j hj
/-- locals that are not needed any more are forgotten -/
theorem PW.nl {X : Cx} {l : Launch} {mt : Mt} {rk pc : Nat} {Q : Option Value → Mem → Prop} {L S : List Value} {G : List Shp} {M : Mem} (ks : List Nat) (k : PW X l mt rk Q pc (am_ns L ks) S G M) : PW X l mt rk Q pc L S G M :=
  fun hok p e s m args below meth c H locs ls hC hH hL => k hok p e s m args below meth c H locs ls hC hH (hL.nl ks)
end Nl
/-- only ints of the cells of A may have changed -/
def FI (A : List Nat) (M M2 : Mem) : Prop := (∀ a, a ∉ A → M2.1 a = M.1 a) ∧ M2.2 = M.2
theorem FI.rf {A : List Nat} {M : Mem} : FI A M M := ⟨fun _ _ => rfl, rfl⟩
theorem FI.tr {A : List Nat} {M M2 M3 : Mem} (h1 : FI A M M2) (h2 : FI A M2 M3) : FI A M M3 := ⟨fun a h => (h2.1 a h).trans (h1.1 a h), h2.2.trans h1.2⟩
theorem FI.mono {A B : List Nat} {M M2 : Mem} (h1 : FI A M M2) (h : ∀ a, a ∈ A → a ∈ B) : FI B M M2 := ⟨fun a ha => h1.1 a (fun q => ha (h a q)), h1.2⟩
theorem FI.put {A : List Nat} {M M2 : Mem} {a : Nat} {f : Nat → Int32} (h : FI A M M2) (ha : a ∈ A) : FI A M (va_up M2.1 a f, M2.2) := ⟨fun b hb => by
  have : b ≠ a := fun e => hb (e ▸ ha)
  simp [va_up, this, h.1 b hb], h.2⟩
theorem FI.at {A : List Nat} {M M2 : Mem} (h : FI A M M2) (a : Nat) (ha : a ∉ A := by decide) : M2.1 a = M.1 a := h.1 a ha
theorem WM.fi {w h : Nat} {mp dr : Nat → Nat} {A : List Nat} {M M2 : Mem} (H : WM w h mp dr M) (h1 : FI A M M2) (h2 : 29 ∉ A ∧ 30 ∉ A ∧ 31 ∉ A := by decide) : WM w h mp dr M2 := ⟨by rw [h1.1 29 h2.1]; exact H.1, by rw [h1.1 29 h2.1]; exact H.2.1, fun c hc => by rw [h1.1 30 h2.2.1]; exact H.2.2.1 c hc, fun c hc => by rw [h1.1 31 h2.2.2]; exact H.2.2.2 c hc⟩
theorem up_same {f : Nat → Nat → Int32} {a j : Nat} {x : Int32} : va_up f a (upd (f a) j x) a j = x := by simp [va_up, upd]
theorem up_ne {f : Nat → Nat → Int32} {a j i : Nat} {x : Int32} (h : i ≠ j) : va_up f a (upd (f a) j x) a i = f a i := by simp [va_up, upd, h]
/-- heads and the way -/
def HM (hd : Nat → Nat) (wy : Nat) (M : Mem) : Prop := M.1 29 6 = nI wy ∧ ∀ k, k < 6 → M.1 32 k = nI (hd k)
def Hf (hd : Nat → Nat) (wy : Nat) : Prop := wy ≤ 2 ∧ ∀ k, hd k ≤ 999
theorem HM.fi {hd : Nat → Nat} {wy : Nat} {A : List Nat} {M M2 : Mem} (H : HM hd wy M) (h1 : FI A M M2) (h2 : 29 ∉ A ∧ 32 ∉ A := by decide) : HM hd wy M2 := ⟨by rw [h1.1 29 h2.1]; exact H.1, fun k hk => by rw [h1.1 32 h2.2]; exact H.2 k hk⟩
/-- the first of the n first that is ok and that none of them goes ahead of -/
def pg (gt : Nat → Nat → Bool) (ok : Nat → Bool) : Nat → Option Nat
  | 0 => none
  | n + 1 => match pg gt ok n with
    | none => if ok n then some n else none
    | some b => if ok n && gt n b then some n else some b
theorem pg_lt {gt : Nat → Nat → Bool} {ok : Nat → Bool} : ∀ {n b : Nat}, pg gt ok n = some b → b < n ∧ ok b = true
  | 0, _, h => by cases h
  | n + 1, b, h => by
    simp only [pg] at h
    cases e : pg gt ok n with
    | none =>
      rw [e] at h
      dsimp only at h
      split at h
      · cases h; exact ⟨by omega, by assumption⟩
      · cases h
    | some c =>
      rw [e] at h
      dsimp only at h
      have h1 := pg_lt e
      split at h
      · rename_i h2
        cases h
        simp only [Bool.and_eq_true] at h2
        exact ⟨by omega, h2.1⟩
      · cases h; exact ⟨by omega, h1.2⟩
theorem pg_none {gt : Nat → Nat → Bool} {ok : Nat → Bool} : ∀ {n : Nat}, pg gt ok n = none → ∀ k, k < n → ok k = false
  | 0, _, k, hk => absurd hk (Nat.not_lt_zero k)
  | n + 1, h, k, hk => by
    simp only [pg] at h
    cases e : pg gt ok n with
    | none =>
      rw [e] at h
      dsimp only at h
      split at h
      · cases h
      · rename_i h2
        rcases Nat.lt_or_ge k n with q | q
        · exact pg_none e k q
        · rw [show k = n by omega]; simpa using h2
    | some c =>
      rw [e] at h
      dsimp only at h
      split at h <;> cases h
def ob (o : Option Nat) : Int32 := match o with
  | none => -9
  | some b => nI b
/-- by rests: who has got one more, as a set of bits -/
def shm (r : Nat → Nat) : Nat → Nat
  | 0 => 0
  | k + 1 => match pg (fun a b => decide (r b < r a)) (fun l => !(shm r k).testBit l) 6 with
    | none => shm r k
    | some b => shm r k ||| 2 ^ b
/-- by divisors -/
def shd (hd : Nat → Nat) (wy : Nat) : Nat → Nat → Nat
  | 0 => fun _ => 0
  | k + 1 => match pg (fun a b => decide (hd b * (wy * shd hd wy k a + 1) < hd a * (wy * shd hd wy k b + 1))) (fun _ => true) 6 with
    | none => shd hd wy k
    | some b => fun l => if l = b then shd hd wy k l + 1 else shd hd wy k l
def left0 (hd : Nat → Nat) (n : Nat) : Nat := n - fb_sm (fun l => hd l * n / fb_sm hd 6) 6
def due (hd : Nat → Nat) (wy n : Nat) (l : Nat) : Nat :=
  if fb_sm hd 6 = 0 then 0 else if wy = 0 then hd l * n / fb_sm hd 6 + (if (shm (fun l => hd l * n % fb_sm hd 6) (left0 hd n)).testBit l then 1 else 0) else shd hd wy n l
theorem tb_get : ∀ m, m < 64 → ∀ l, l < 6 → (nI m >>> (nI l &&& 31)) &&& 1 = bo (m.testBit l) := by decide +kernel
theorem tb_set : ∀ m, m < 64 → ∀ b, b < 6 → nI m ||| ((1 : Int32) <<< (nI b &&& 31)) = nI (m ||| 2 ^ b) ∧ m ||| 2 ^ b < 64 := by decide +kernel
theorem or_lt64 {m b : Nat} (h : m < 64) (hb : b < 6) : m ||| 2 ^ b < 64 := (tb_set m h b hb).2
theorem shm_lt (r : Nat → Nat) : ∀ k, shm r k < 64
  | 0 => show 0 < 64 by decide
  | k + 1 => by
    have ih := shm_lt r k
    simp only [shm]
    split
    · exact ih
    · rename_i b e
      exact or_lt64 ih (pg_lt e).1
/-- how many have got one more -/
theorem shm_ct (r : Nat → Nat) : ∀ k, fb_ct (fun l => (shm r k).testBit l) 6 ≤ k
  | 0 => show fb_ct (fun l => (0 : Nat).testBit l) 6 ≤ 0 by decide
  | k + 1 => by
    have ih := shm_ct r k
    simp only [shm]
    split
    · omega
    · rename_i b e
      have hb := pg_lt e
      have h1 : fb_ct (fun l => (shm r k ||| 2 ^ b).testBit l) 6 = fb_ct (fun l => if l = b then true else (shm r k).testBit l) 6 := fb_ct_cong (fun l _ => by rw [fb_bit_set]; by_cases q : l = b <;> simp [q])
      have h2 : fb_ct (fun l => if l = b then true else (shm r k).testBit l) 6 + (if (shm r k).testBit b = true then 1 else 0) = fb_ct (fun l => (shm r k).testBit l) 6 + (if true = true then 1 else 0) := fb_ct_upd (fun l => (shm r k).testBit l) true hb.1
      rw [h1]
      have h3 : (shm r k).testBit b = false := by simpa using hb.2
      rw [h3] at h2
      simp only [if_true, Bool.false_eq_true, if_false] at h2
      omega
theorem shm_some (r : Nat → Nat) {k : Nat} (hk : k < 6) : ∃ b, pg (fun a b => decide (r b < r a)) (fun l => !(shm r k).testBit l) 6 = some b := by
  cases e : pg (fun a b => decide (r b < r a)) (fun l => !(shm r k).testBit l) 6 with
  | some b => exact ⟨b, rfl⟩
  | none =>
    exfalso
    have h := pg_none e
    have h2 : fb_ct (fun l => (shm r k).testBit l) 6 = 6 := fb_ct_all.mpr (fun k hk => by simpa using h k hk)
    have := shm_ct r k
    omega
theorem pg_all {gt : Nat → Nat → Bool} : ∃ b, pg gt (fun _ => true) 6 = some b := by
  cases e : pg gt (fun _ => true) 6 with
  | some b => exact ⟨b, rfl⟩
  | none => exact absurd (pg_none e 0 (by omega)) (by simp)
theorem shd_ct (hd : Nat → Nat) (wy : Nat) : ∀ k, fb_sm (shd hd wy k) 6 = k
  | 0 => by rfl
  | k + 1 => by
    have ih := shd_ct hd wy k
    simp only [shd]
    obtain ⟨b, e⟩ := pg_all (gt := fun a b => decide (hd b * (wy * shd hd wy k a + 1) < hd a * (wy * shd hd wy k b + 1)))
    rw [e]
    dsimp only
    have hb := (pg_lt e).1
    have h1 : fb_sm (fun l => if l = b then shd hd wy k l + 1 else shd hd wy k l) 6 = fb_sm (fun l => if l = b then shd hd wy k b + 1 else shd hd wy k l) 6 := fb_sm_cong (fun l _ => by by_cases q : l = b <;> simp [q])
    have h2 := fb_sm_upd (shd hd wy k) (shd hd wy k b + 1) hb
    rw [h1]
    omega
theorem shd_le (hd : Nat → Nat) (wy k l : Nat) (hl : l < 6) : shd hd wy k l ≤ k := by
  have h1 := shd_ct hd wy k
  have h2 := fb_sm_part (shd hd wy k) hl
  omega
theorem left0_lt {hd : Nat → Nat} {n : Nat} (h : fb_sm hd 6 ≠ 0) : left0 hd n < 6 ∧ fb_sm (fun l => hd l * n / fb_sm hd 6) 6 ≤ n := by
  have key : ∀ a b c d e f A : Nat, 0 < A → A = a + b + c + d + e + f → n ≤ (a * n / A + b * n / A + c * n / A + d * n / A + e * n / A + f * n / A) + 5 ∧ a * n / A + b * n / A + c * n / A + d * n / A + e * n / A + f * n / A ≤ n := by
    intro a b c d e f A hA hs
    have h1 := Nat.div_add_mod (a * n) A
    have h2 := Nat.div_add_mod (b * n) A
    have h3 := Nat.div_add_mod (c * n) A
    have h4 := Nat.div_add_mod (d * n) A
    have h5 := Nat.div_add_mod (e * n) A
    have h6 := Nat.div_add_mod (f * n) A
    have g1 := Nat.mod_lt (a * n) hA
    have g2 := Nat.mod_lt (b * n) hA
    have g3 := Nat.mod_lt (c * n) hA
    have g4 := Nat.mod_lt (d * n) hA
    have g5 := Nat.mod_lt (e * n) hA
    have g6 := Nat.mod_lt (f * n) hA
    generalize a * n / A = x1 at *
    generalize b * n / A = x2 at *
    generalize c * n / A = x3 at *
    generalize d * n / A = x4 at *
    generalize e * n / A = x5 at *
    generalize f * n / A = x6 at *
    have tot : A * n = a * n + b * n + c * n + d * n + e * n + f * n := by rw [hs]; simp [Nat.add_mul]
    have q : A * (x1 + x2 + x3 + x4 + x5 + x6) ≤ A * n ∧ A * n < A * (x1 + x2 + x3 + x4 + x5 + x6 + 6) := by
      simp only [Nat.mul_add]
      omega
    constructor
    · have := Nat.lt_of_mul_lt_mul_left q.2
      omega
    · exact Nat.le_of_mul_le_mul_left q.1 hA
  have h2 := key (hd 0) (hd 1) (hd 2) (hd 3) (hd 4) (hd 5) (fb_sm hd 6) (by omega) (by simp [fb_sm])
  unfold left0
  simp only [fb_sm] at h2 ⊢
  omega
theorem pg_s (gt : Nat → Nat → Bool) (ok : Nat → Bool) (n : Nat) : pg gt ok (n + 1) = if (match pg gt ok n with
    | none => ok n
    | some b => ok n && gt n b) = true then some n else pg gt ok n := by
  simp only [pg]
  cases pg gt ok n <;> simp
theorem ob_none {o : Option Nat} (h : ∀ b, o = some b → b < 6) : ob o = -9 ↔ o = none := by
  cases o with
  | none => simp [ob]
  | some b =>
    have hb := h b rfl
    simp only [ob, reduceCtorEq, iff_false]
    intro e
    have e2 := congrArg Int32.toInt e
    rw [nI_t (by omega)] at e2
    simp at e2
/-- dues behind i picks -/
def dst (hd : Nat → Nat) (wy n i l : Nat) : Nat := if wy = 0 then hd l * n / fb_sm hd 6 + (if (shm (fun l => hd l * n % fb_sm hd 6) i).testBit l then 1 else 0) else shd hd wy i l
def dgt (hd : Nat → Nat) (wy n i a b : Nat) : Bool := if wy = 0 then decide (hd b * n % fb_sm hd 6 < hd a * n % fb_sm hd 6) else decide (hd b * (wy * shd hd wy i a + 1) < hd a * (wy * shd hd wy i b + 1))
def dok (hd : Nat → Nat) (wy n i l : Nat) : Bool := if wy = 0 then !(shm (fun l => hd l * n % fb_sm hd 6) i).testBit l else true
def dlf (hd : Nat → Nat) (wy n : Nat) : Nat := if wy = 0 then left0 hd n else n
theorem d_some {hd : Nat → Nat} {wy n i : Nat} (hA : fb_sm hd 6 ≠ 0) (h : i < dlf hd wy n) : ∃ b, b < 6 ∧ pg (dgt hd wy n i) (dok hd wy n i) 6 = some b := by
  by_cases hw : wy = 0
  · subst hw
    have h6 := (left0_lt (n := n) hA).1
    obtain ⟨b, e⟩ := shm_some (fun l => hd l * n % fb_sm hd 6) (k := i) (by simp [dlf] at h; omega)
    exact ⟨b, (pg_lt e).1, e⟩
  · obtain ⟨b, e⟩ := pg_all (gt := fun a b => decide (hd b * (wy * shd hd wy i a + 1) < hd a * (wy * shd hd wy i b + 1)))
    refine ⟨b, (pg_lt e).1, ?_⟩
    have e1 : dgt hd wy n i = (fun a b => decide (hd b * (wy * shd hd wy i a + 1) < hd a * (wy * shd hd wy i b + 1))) := by funext a b; simp [dgt, hw]
    have e2 : dok hd wy n i = (fun _ => true) := by funext a; simp [dok, hw]
    rw [e1, e2]; exact e
theorem d_step {hd : Nat → Nat} {wy n i b : Nat} (e : pg (dgt hd wy n i) (dok hd wy n i) 6 = some b) (l : Nat) : dst hd wy n (i + 1) l = if l = b then dst hd wy n i l + 1 else dst hd wy n i l := by
  by_cases hw : wy = 0
  · subst hw
    have hb := (pg_lt e).2
    have e' : pg (fun a b => decide (hd b * n % fb_sm hd 6 < hd a * n % fb_sm hd 6)) (fun l => !(shm (fun l => hd l * n % fb_sm hd 6) i).testBit l) 6 = some b := e
    have hb' : (shm (fun l => hd l * n % fb_sm hd 6) i).testBit b = false := by simpa [dok] using hb
    simp only [dst, if_true, shm, e', fb_bit_set]
    by_cases q : l = b
    · subst q; simp [hb']
    · simp [q]
  · have e1 : dgt hd wy n i = (fun a b => decide (hd b * (wy * shd hd wy i a + 1) < hd a * (wy * shd hd wy i b + 1))) := by funext a b; simp [dgt, hw]
    have e2 : dok hd wy n i = (fun _ => true) := by funext a; simp [dok, hw]
    rw [e1, e2] at e
    simp only [dst, if_neg hw, shd, e]
theorem d_mask {hd : Nat → Nat} {wy n i b : Nat} (e : pg (dgt hd wy n i) (dok hd wy n i) 6 = some b) (hw : wy = 0) : shm (fun l => hd l * n % fb_sm hd 6) (i + 1) = shm (fun l => hd l * n % fb_sm hd 6) i ||| 2 ^ b := by
  subst hw
  have e' : pg (fun a b => decide (hd b * n % fb_sm hd 6 < hd a * n % fb_sm hd 6)) (fun l => !(shm (fun l => hd l * n % fb_sm hd 6) i).testBit l) 6 = some b := e
  simp only [shm, e']
theorem d_end {hd : Nat → Nat} {wy n l : Nat} (hA : fb_sm hd 6 ≠ 0) : dst hd wy n (dlf hd wy n) l = due hd wy n l := by
  unfold dst due dlf
  rw [if_neg hA]
  by_cases hw : wy = 0 <;> simp [hw]
theorem sm_le {hd : Nat → Nat} (h : ∀ k, hd k ≤ 999) : ∀ n, fb_sm hd n ≤ 999 * n
  | 0 => by simp [fb_sm]
  | n + 1 => by have := sm_le h n; have := h n; simp only [fb_sm]; omega
theorem i6 {i : Nat} (h : i ≤ 36) : (6 : Int32) ≤ nI i ↔ 6 ≤ i := by rw [show (6 : Int32) = nI 6 from rfl, nI_leI (by omega) (by omega)]
theorem mul_lt {a b n : Nat} (h1 : a ≤ 999) (h2 : n ≤ 36) : a * n ≤ 35964 := Nat.mul_le_mul h1 h2
theorem pg_no {gt : Nat → Nat → Bool} {ok : Nat → Bool} {n : Nat} (h : ok n = false) : pg gt ok (n + 1) = pg gt ok n := by
  rw [pg_s]; cases pg gt ok n <;> simp [h]
theorem pg_new {gt : Nat → Nat → Bool} {ok : Nat → Bool} {n : Nat} (h : pg gt ok n = none) (h2 : ok n = true) : pg gt ok (n + 1) = some n := by
  rw [pg_s, h]; simp [h2]
theorem pg_gt {gt : Nat → Nat → Bool} {ok : Nat → Bool} {n b : Nat} (h : pg gt ok n = some b) (h2 : ok n = true) (h3 : gt n b = true) : pg gt ok (n + 1) = some n := by
  rw [pg_s, h]; simp [h2, h3]
theorem pg_le {gt : Nat → Nat → Bool} {ok : Nat → Bool} {n b : Nat} (h : pg gt ok n = some b) (h3 : gt n b = false) : pg gt ok (n + 1) = pg gt ok n := by
  rw [pg_s, h]; simp [h3]
theorem up_s {f : Nat → Nat → Int32} {g : Nat → Nat → Int64} {a j : Nat} {x : Int32} : ((va_up f a (upd (f a) j x), g) : Mem).1 a j = x := up_same
theorem up_n {f : Nat → Nat → Int32} {g : Nat → Nat → Int64} {a j i : Nat} {x : Int32} (h : i ≠ j) : ((va_up f a (upd (f a) j x), g) : Mem).1 a i = f a i := up_ne h
