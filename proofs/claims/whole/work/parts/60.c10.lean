-- made by wip/whole/mk_c10.py
section C10
variable {X : Cx} {l : Launch} {M : Mem}
theorem c_rch {us : Nat → Bool} (hU : M.2 14 6 = mk us) (j : Nat) (hj : j < 64) : PF X l mX3_isReached 0 [.ref 14, .int (nI j)] G0 M (.int (bo (us j))) := by
  refine PF.ofW okX3_isReached ?_
  refine PW.zeq rfl trivial (fun h10 => ?_) (fun h10 => ?_)
  · skip
    rw [lg_cmp_eq, hU, mk_test hj] at h10
    refine PW.zret rfl rfl trivial (rfl) ?_
    exact ⟨by rw [h10]; rfl, rfl⟩
  · skip
    rw [lg_cmp_eq, hU, mk_test hj, Bool.not_eq_false] at h10
    refine PW.goto rfl trivial ?_
    refine PW.zret rfl rfl trivial (rfl) ?_
    exact ⟨by rw [h10]; rfl, rfl⟩
theorem c_begin (r m : Nat) (B : Mb r m) : PC X l mX3_begin 0 [.ref 14, .int (nI r), .int (nI m)] G0 M (fun v M' => v = none ∧ FC [14] [] M M' ∧ M'.1 14 7 = nI r ∧ M'.1 14 8 = nI m) := by
  refine PC.ofW okX3_begin ?_
  have hm36 := B.2.1
  have hrm := B.1
  have hrr := B.2.2
  refine PW.zlt rfl trivial (fun h1 => ?_) (fun h1 => ?_)
  · exact absurd h1 (nI_pos (by omega))
  · skip
    refine PW.igt rfl trivial (fun h6 => ?_) (fun h6 => ?_)
    · rw [nI_ltI (by omega) (by omega)] at h6
      omega
    · skip
      refine PW.igt rfl trivial (fun h12 => ?_) (fun h12 => ?_)
      · rw [show (36 : Int32) = nI 36 from rfl, nI_ltI (by omega) (by omega)] at h12
        omega
      · skip
        refine PW.igt rfl trivial (fun h21 => ?_) (fun h21 => ?_)
        · rw [pk_mul, show (324 : Int32) = nI 324 from rfl, nI_ltI (by omega) (by omega)] at h21
          omega
        · skip
          refine PW.goto rfl trivial ?_
          refine PW.zeq rfl trivial (fun h32 => ?_) (fun h32 => ?_)
          · exact absurd h32 (by decide)
          · skip
            refine PW.goto rfl trivial ?_
            refine PW.zeq rfl trivial (fun h45 => ?_) (fun h45 => ?_)
            · exact absurd h45 (by decide)
            · skip
              refine PW.goto rfl trivial ?_
              refine PW.vret rfl rfl trivial ?_
              exact ⟨rfl, FC.pi (M2 := (_, _)) FC.rf.pi, (up_n (by decide)).trans up_s, up_s⟩
theorem c_setc {rr m : Nat} (B : Mb rr m) (h7 : M.1 14 7 = nI rr) (h8 : M.1 14 8 = nI m) (i j : Nat) (hi : i < rr) (hj : j < m) (x : Int64) : PC X l mX3_setCost 0 [.ref 14, .int (nI i), .int (nI j), .long x] G0 M (fun v M' => v = none ∧ M' = (M.1, va_up M.2 15 (vp_updL (M.2 15) (i * m + j) x))) := by
  refine PC.ofW okX3_setCost ?_
  have hm36 := B.2.1
  have hrm := B.1
  have hrr := B.2.2
  have hix := idx_lt hi hj
  refine PW.zlt rfl trivial (fun h1 => ?_) (fun h1 => ?_)
  · exact absurd h1 (nI_pos (by omega))
  · skip
    refine PW.ige rfl trivial (fun h9 => ?_) (fun h9 => ?_)
    · rw [h7, nI_leI (by omega) (by omega)] at h9
      omega
    · skip
      skip
      refine PW.zlt rfl trivial (fun h13 => ?_) (fun h13 => ?_)
      · exact absurd h13 (nI_pos (by omega))
      · skip
        refine PW.ige rfl trivial (fun h21 => ?_) (fun h21 => ?_)
        · rw [h8, nI_leI (by omega) (by omega)] at h21
          omega
        · skip
          refine PW.vret rfl rfl ⟨trivial, (by rw [h8, pk_mul, nI_add]; exact vp_in_nI (by omega) (by decide))⟩ ?_
          exact ⟨rfl, by rw [h8, pk_mul, nI_add, nI_clamp (by omega)]⟩
theorem c_tight {c : Nat → Nat → Int} {rr m : Nat} (B : Mb rr m) (C : Mc c rr m M) {u v sl : Nat → Int} {p : Nat → Nat} (Q : Mp rr m u v p M) {us : Nat → Bool} (hU : M.2 14 6 = mk us) (a : Nat) (ha : a ≤ m) (hp1 : 1 ≤ p a) (hp2 : p a ≤ rr) (hs : ∀ j, 1 ≤ j → j ≤ m → (M.2 18 j).toInt = sl j) (hc : ∀ j, 1 ≤ j → j ≤ m → 0 ≤ c (p a) j ∧ c (p a) j ≤ KK) (hu : 0 ≤ u (p a) ∧ u (p a) ≤ KK) (hv : ∀ j, 1 ≤ j → j ≤ m → -KK ≤ v j ∧ v j ≤ 0) : PC X l mX3_tightenFrom 1 [.ref 14, .int (nI a)] G0 M (fun v2 M' => v2 = none ∧ FC [20] [18] M M' ∧ M'.2 18 0 = M.2 18 0 ∧ ∀ j, 1 ≤ j → j ≤ m → (us j = false ∧ (c (p a) j - u (p a) - v j) < sl j → (M'.2 18 j).toInt = (c (p a) j - u (p a) - v j) ∧ M'.1 20 j = nI a) ∧ (¬ (us j = false ∧ (c (p a) j - u (p a) - v j) < sl j) → M'.2 18 j = M.2 18 j ∧ M'.1 20 j = M.1 20 j)) := by
  refine PC.ofW okX3_tightenFrom ?_
  have hm36 := B.2.1
  have hrm := B.1
  have hrr := B.2.2
  have hKK : KK = 1125899906842624 := rfl
  have ep := Q.2.2 a ha
  have loop9 : ∀ k : Nat, ∀ (j : Nat) (M2 : Mem), 1 ≤ j → j ≤ m + 1 → FC [20] [18] M M2 → M2.2 18 0 = M.2 18 0 → (∀ k, 1 ≤ k → k < j → (us k = false ∧ (c (p a) k - u (p a) - v k) < sl k → (M2.2 18 k).toInt = (c (p a) k - u (p a) - v k) ∧ M2.1 20 k = nI a) ∧ (¬ (us k = false ∧ (c (p a) k - u (p a) - v k) < sl k) → M2.2 18 k = M.2 18 k ∧ M2.1 20 k = M.1 20 k)) → (∀ k, j ≤ k → M2.2 18 k = M.2 18 k ∧ M2.1 20 k = M.1 20 k) → m + 1 - j < k → PW X l mX3_tightenFrom 1 (fun v2 M' => v2 = none ∧ FC [20] [18] M M' ∧ M'.2 18 0 = M.2 18 0 ∧ ∀ j, 1 ≤ j → j ≤ m → (us j = false ∧ (c (p a) j - u (p a) - v j) < sl j → (M'.2 18 j).toInt = (c (p a) j - u (p a) - v j) ∧ M'.1 20 j = nI a) ∧ (¬ (us j = false ∧ (c (p a) j - u (p a) - v j) < sl j) → M'.2 18 j = M.2 18 j ∧ M'.1 20 j = M.1 20 j)) 9 [.ref 14, .int (nI a), .int (nI (p a)), .int (nI j), .null, .null] [] G0 M2 := by
    intro k
    induction k with
    | zero => intro j M2 hj1 hj hF h180 hd hr hk; exact absurd hk (Nat.not_lt_zero _)
    | succ k ih =>
      intro j M2 hj1 hj hF h180 hd hr hk
      have C2 := C.fc hF
      have Q2 := Q.fc hF
      refine PW.igt rfl trivial (fun h14 => ?_) (fun h14 => ?_)
      · skip
        rw [C2.2.1, nI_ltI (by omega) (by omega)] at h14
        have e9 : j = m + 1 := by omega
        subst e9
        refine PW.vret rfl rfl trivial ?_
        exact ⟨rfl, hF, h180, fun j h1 h2 => hd j h1 (by omega)⟩
      · skip
        rw [C2.2.1, nI_ltI (by omega) (by omega)] at h14
        have hjm : j ≤ m := by omega
        refine PW.funV rfl trivial sX3_72 rfl rfl (by decide) rfl (c_rch (us := us) (by rw [hF.l 14]; exact hU) j (by omega)) ?_
        refine PW.zne rfl trivial (fun h22 => ?_) (fun h22 => ?_)
        · skip
          rw [bo_ne] at h22
          have hno : ¬ (us j = false ∧ (c (p a) j - u (p a) - v j) < sl j) := fun z => by rw [h22] at z; exact absurd z.1 (by decide)
          refine PW.goto rfl trivial ?_
          rw [nI_1]
          refine PW.nl [4] ?_
          refine ih (j + 1) M2 (by omega) (by omega) hF h180 (fun k h1 h2 => ?_) (fun k h1 => hr k (by omega)) (by omega)
          by_cases e : k = j
          · subst e; exact ⟨fun z => absurd z hno, fun _ => hr k (Nat.le_refl _)⟩
          · exact hd k h1 (by omega)
        · skip
          rw [bo_eq] at h22
          have hix := idx_lt (i := p a - 1) (j := j - 1) (rr := rr) (m := m) (by omega) (by omega)
          have ei : (nI (p a) - 1) * M2.1 14 8 + nI j - 1 = nI ((p a - 1) * m + (j - 1)) := by
            rw [C2.2.1, nI_m1 (by omega), pk_mul, nI_add, nI_m1 (by omega)]
            congr 1; omega
          have ec := C2.2.2 (p a) j hp1 hp2 hj1 hjm
          have eu := Q2.1 (p a) hp1 hp2
          have ev := Q2.2.1 j hj1 hjm
          have esl := hs j hj1 hjm
          have hcj := hc j hj1 hjm
          have hvj := hv j hj1 hjm
          have e18 := (hr j (Nat.le_refl _)).1
          obtain ⟨x, ex⟩ : ∃ x : Int64, x = M2.2 15 ((p a - 1) * m + (j - 1)) - M2.2 16 (p a) - M2.2 17 j := ⟨_, rfl⟩
          have hx9 : x.toInt = (c (p a) j - u (p a) - v j) := by
            have q1 : (M2.2 15 ((p a - 1) * m + (j - 1)) - M2.2 16 (p a)).toInt = c (p a) j - u (p a) := by rw [fb_subL (by omega) (by omega), ec, eu]
            rw [ex, fb_subL (by omega) (by omega), q1, ev]
          refine PW.zge rfl ⟨⟨⟨⟨trivial, (by rw [ei]; exact vp_in_nI (by omega) (by decide))⟩, vp_in_nI (by omega) (by decide)⟩, vp_in_nI (by omega) (by decide)⟩, vp_in_nI (by omega) (by decide)⟩ (fun h67 => ?_) (fun h67 => ?_)
          · skip
            rw [ei, nI_clamp (by omega), nI_clamp (by omega), nI_clamp (by omega), ← ex, lg_cmp_ge, fa_le64, hx9, e18, esl] at h67
            rw [ei, nI_clamp (by omega), nI_clamp (by omega), nI_clamp (by omega), ← ex]
            have hno : ¬ (us j = false ∧ (c (p a) j - u (p a) - v j) < sl j) := fun z => by omega
            refine PW.goto rfl trivial ?_
            rw [nI_1]
            refine PW.nl [4] ?_
            refine ih (j + 1) M2 (by omega) (by omega) hF h180 (fun k h1 h2 => ?_) (fun k h1 => hr k (by omega)) (by omega)
            by_cases e : k = j
            · subst e; exact ⟨fun z => absurd z hno, fun _ => hr k (Nat.le_refl _)⟩
            · exact hd k h1 (by omega)
          · skip
            rw [ei, nI_clamp (by omega), nI_clamp (by omega), nI_clamp (by omega), ← ex, lg_cmp_ge, fa_le64, hx9, e18, esl] at h67
            rw [ei, nI_clamp (by omega), nI_clamp (by omega), nI_clamp (by omega), ← ex]
            refine PW.goto rfl ⟨⟨trivial, vp_in_nI (by omega) (by decide)⟩, vp_in_nI (by omega) (by decide)⟩ ?_
            rw [nI_clamp (by omega), nI_1]
            refine PW.nl [4] ?_
            refine ih (j + 1) _ (by omega) (by omega) (FC.pi (M2 := (_, _)) hF.pl) ((upL_n (by omega)).trans h180) (fun k h1 h2 => ?_) (fun k h1 => ?_) (by omega)
            · by_cases e : k = j
              · subst e
                refine ⟨fun _ => ⟨?_, up_s⟩, fun z => absurd ⟨h22, by omega⟩ z⟩
                show (va_up M2.2 18 (vp_updL (M2.2 18) k x) 18 k).toInt = _
                rw [show va_up M2.2 18 (vp_updL (M2.2 18) k x) 18 k = x from by simp [va_up, vp_updL]]
                exact hx9
              · have := hd k h1 (by omega)
                exact ⟨fun z => ⟨(congrArg Int64.toInt (upL_n (f := M2.2) (g := M2.1) e)).trans (this.1 z).1, (up_n e).trans (this.1 z).2⟩, fun z => ⟨(upL_n (f := M2.2) (g := M2.1) e).trans (this.2 z).1, (up_n e).trans (this.2 z).2⟩⟩
            · have := hr k (by omega)
              exact ⟨(upL_n (f := M2.2) (g := M2.1) (by omega)).trans this.1, (up_n (by omega)).trans this.2⟩
  refine PW.to 9 rfl ⟨trivial, vp_in_nI (by omega) (by decide)⟩ ?_
  rw [nI_clamp (by omega), ep]
  exact loop9 (m + 1) 1 M (by omega) (by omega) FC.rf rfl (fun j h1 h2 => by omega) (fun j h1 => ⟨rfl, rfl⟩) (by omega)
theorem c_near {m : Nat} (hm36 : m ≤ 36) (h8 : M.1 14 8 = nI m) {sl : Nat → Int} {us : Nat → Bool} (hU : M.2 14 6 = mk us) (hs : ∀ j, 1 ≤ j → j ≤ m → (M.2 18 j).toInt = sl j) (hs0 : (M.2 18 0).toInt = BIG) : PC X l mX3_nearestColumn 1 [.ref 14] G0 M (fun v2 M' => (∃ nx, v2 = some (.int (nI nx)) ∧ (nx = 0 → ∀ k, 1 ≤ k → k ≤ m → us k = false → BIG ≤ sl k) ∧ (nx ≠ 0 → nx ≤ m ∧ us nx = false ∧ ∀ k, 1 ≤ k → k ≤ m → us k = false → sl nx ≤ sl k)) ∧ M' = M) := by
  refine PC.ofW okX3_nearestColumn ?_
  have loop4 : ∀ k : Nat, ∀ (j nx : Nat), 1 ≤ j → j ≤ m + 1 → (nx = 0 → ∀ k, 1 ≤ k → k < j → us k = false → BIG ≤ sl k) → (nx ≠ 0 → nx < j ∧ us nx = false ∧ ∀ k, 1 ≤ k → k < j → us k = false → sl nx ≤ sl k) → m + 1 - j < k → PW X l mX3_nearestColumn 1 (fun v2 M' => (∃ nx, v2 = some (.int (nI nx)) ∧ (nx = 0 → ∀ k, 1 ≤ k → k ≤ m → us k = false → BIG ≤ sl k) ∧ (nx ≠ 0 → nx ≤ m ∧ us nx = false ∧ ∀ k, 1 ≤ k → k ≤ m → us k = false → sl nx ≤ sl k)) ∧ M' = M) 4 [.ref 14, .int (nI nx), .int (nI j)] [] G0 M := by
    intro k
    induction k with
    | zero => intro j nx hj1 hj hx1 hx2 hk; exact absurd hk (Nat.not_lt_zero _)
    | succ k ih =>
      intro j nx hj1 hj hx1 hx2 hk
      have hnj : nx ≤ m := by
        by_cases q : nx = 0
        · omega
        · have := (hx2 q).1; omega
      have evx : (M.2 18 nx).toInt = if nx = 0 then BIG else sl nx := by
        by_cases q : nx = 0
        · rw [if_pos q, q]; exact hs0
        · rw [if_neg q]; exact hs nx (by omega) hnj
      refine PW.igt rfl trivial (fun h9 => ?_) (fun h9 => ?_)
      · skip
        rw [h8, nI_ltI (by omega) (by omega)] at h9
        have e9 : j = m + 1 := by omega
        subst e9
        refine PW.iret rfl rfl trivial ?_
        exact ⟨⟨nx, rfl, fun q k h1 h2 h3 => hx1 q k h1 (by omega) h3, fun q => ⟨hnj, (hx2 q).2.1, fun k h1 h2 h3 => (hx2 q).2.2 k h1 (by omega) h3⟩⟩, rfl⟩
      · skip
        rw [h8, nI_ltI (by omega) (by omega)] at h9
        have hjm : j ≤ m := by omega
        have esj := hs j hj1 hjm
        refine PW.funV rfl trivial sX3_72 rfl rfl (by decide) rfl (c_rch hU j (by omega)) ?_
        refine PW.zne rfl trivial (fun h17 => ?_) (fun h17 => ?_)
        · skip
          rw [bo_ne] at h17
          have ss : ∀ k, k < j + 1 → us k = false → k < j := fun k h1 h2 => by
            have : k ≠ j := fun e => by rw [e, h17] at h2; cases h2
            omega
          have hy1 : nx = 0 → ∀ k, 1 ≤ k → k < j + 1 → us k = false → BIG ≤ sl k := fun q k h1 h2 h3 => hx1 q k h1 (ss k h2 h3) h3
          have hy2 : nx ≠ 0 → nx < j + 1 ∧ us nx = false ∧ ∀ k, 1 ≤ k → k < j + 1 → us k = false → sl nx ≤ sl k := fun q => ⟨by omega, (hx2 q).2.1, fun k h1 h2 h3 => (hx2 q).2.2 k h1 (ss k h2 h3) h3⟩
          refine PW.goto rfl trivial ?_
          rw [nI_1]
          exact ih (j + 1) nx (by omega) (by omega) hy1 hy2 (by omega)
        · skip
          rw [bo_eq] at h17
          refine PW.zge rfl ⟨⟨trivial, vp_in_nI (by omega) (by decide)⟩, vp_in_nI (by omega) (by decide)⟩ (fun h33 => ?_) (fun h33 => ?_)
          · skip
            rw [nI_clamp (by omega), nI_clamp (by omega), lg_cmp_ge, fa_le64, esj, evx] at h33
            have hy1 : nx = 0 → ∀ k, 1 ≤ k → k < j + 1 → us k = false → BIG ≤ sl k := fun q k h1 h2 h3 => by
              by_cases e : k = j
              · subst e; rw [if_pos q] at h33; exact h33
              · exact hx1 q k h1 (by omega) h3
            have hy2 : nx ≠ 0 → nx < j + 1 ∧ us nx = false ∧ ∀ k, 1 ≤ k → k < j + 1 → us k = false → sl nx ≤ sl k := fun q => ⟨by omega, (hx2 q).2.1, fun k h1 h2 h3 => by
              by_cases e : k = j
              · subst e; rw [if_neg q] at h33; exact h33
              · exact (hx2 q).2.2 k h1 (by omega) h3⟩
            refine PW.goto rfl trivial ?_
            rw [nI_1]
            exact ih (j + 1) nx (by omega) (by omega) hy1 hy2 (by omega)
          · skip
            rw [nI_clamp (by omega), nI_clamp (by omega), lg_cmp_ge, fa_le64, esj, evx] at h33
            refine PW.goto rfl trivial ?_
            rw [nI_1]
            refine ih (j + 1) j (by omega) (by omega) (fun q => by omega) (fun _ => ⟨by omega, h17, fun k h1 h2 h3 => ?_⟩) (by omega)
            by_cases e : k = j
            · rw [e]; exact Int.le_refl _
            · by_cases z : nx = 0
              · rw [if_pos z] at h33
                have := hx1 z k h1 (by omega) h3; omega
              · rw [if_neg z] at h33
                have := (hx2 z).2.2 k h1 (by omega) h3; omega
  refine PW.to 4 rfl trivial ?_
  exact loop4 (m + 1) 1 0 (by omega) (by omega) (fun _ k h1 h2 => by omega) (fun q => absurd rfl q) (by omega)
theorem c_move {c : Nat → Nat → Int} {rr m : Nat} (B : Mb rr m) (C : Mc c rr m M) {u v sl : Nat → Int} {p : Nat → Nat} (Q : Mp rr m u v p M) {us : Nat → Bool} (hU : M.2 14 6 = mk us) (b : Int64) (hb : 0 ≤ b.toInt ∧ b.toInt ≤ 4 * KK) (hs : ∀ j, 1 ≤ j → j ≤ m → (M.2 18 j).toInt = sl j) (h0 : us 0 = true) (hus : ∀ j, j ≤ m → us j = true → 1 ≤ p j ∧ p j ≤ rr) (inj : ∀ j k, j ≤ m → k ≤ m → p j = p k → p j ≠ 0 → j = k) (hu : ∀ i, 1 ≤ i → 0 ≤ u i ∧ u i ≤ KK) (hv : ∀ j, 1 ≤ j → j ≤ m → -KK ≤ v j ∧ v j ≤ 0) (hsl : ∀ j, 1 ≤ j → j ≤ m → us j = false → -4 * KK ≤ sl j ∧ sl j ≤ 4 * KK) : PC X l mX3_movePrices 1 [.ref 14, .long b] G0 M (fun v2 M' => v2 = none ∧ FC [] [16, 17, 18] M M' ∧ M'.2 18 0 = M.2 18 0 ∧ ∃ u2 v3 sl3 : Nat → Int, Mv p us u v sl u2 v3 sl3 b.toInt (m + 1) ∧ Mp rr m u2 v3 p M' ∧ ∀ j, 1 ≤ j → j ≤ m → (M'.2 18 j).toInt = sl3 j) := by
  refine PC.ofW okX3_movePrices ?_
  have hm36 := B.2.1
  have hrm := B.1
  have hrr := B.2.2
  have hKK : KK = 1125899906842624 := rfl
  have loop2 : ∀ k : Nat, ∀ (j : Nat) (u2 v3 sl3 : Nat → Int) (M2 : Mem), j ≤ m + 1 → FC [] [16, 17, 18] M M2 → M2.2 18 0 = M.2 18 0 → Mv p us u v sl u2 v3 sl3 b.toInt j → Mp rr m u2 v3 p M2 → (∀ j, 1 ≤ j → j ≤ m → (M2.2 18 j).toInt = sl3 j) → m + 1 - j < k → PW X l mX3_movePrices 1 (fun v2 M' => v2 = none ∧ FC [] [16, 17, 18] M M' ∧ M'.2 18 0 = M.2 18 0 ∧ ∃ u2 v3 sl3 : Nat → Int, Mv p us u v sl u2 v3 sl3 b.toInt (m + 1) ∧ Mp rr m u2 v3 p M' ∧ ∀ j, 1 ≤ j → j ≤ m → (M'.2 18 j).toInt = sl3 j) 2 [.ref 14, .long b, .null, .int (nI j)] [] G0 M2 := by
    intro k
    induction k with
    | zero => intro j u2 v3 sl3 M2 hj hF h180 hV Q2 hs2 hk; exact absurd hk (Nat.not_lt_zero _)
    | succ k ih =>
      intro j u2 v3 sl3 M2 hj hF h180 hV Q2 hs2 hk
      have C2 := C.fc hF
      refine PW.igt rfl trivial (fun h7 => ?_) (fun h7 => ?_)
      · skip
        rw [C2.2.1, nI_ltI (by omega) (by omega)] at h7
        have e9 : j = m + 1 := by omega
        subst e9
        refine PW.vret rfl rfl trivial ?_
        exact ⟨rfl, hF, h180, u2, v3, sl3, hV, Q2, hs2⟩
      · skip
        rw [C2.2.1, nI_ltI (by omega) (by omega)] at h7
        have hjm : j ≤ m := by omega
        refine PW.funV rfl trivial sX3_72 rfl rfl (by decide) rfl (c_rch (us := us) (by rw [hF.l 14]; exact hU) j (by omega)) ?_
        refine PW.zeq rfl trivial (fun h15 => ?_) (fun h15 => ?_)
        · skip
          rw [bo_eq] at h15
          have hj1 : 1 ≤ j := by
            rcases Nat.eq_zero_or_pos j with z | z
            · rw [z, h0] at h15; cases h15
            · exact z
          have e18 := hs2 j hj1 hjm
          have es : sl3 j = sl j := by rw [hV.2.2.2 j, if_neg (fun z => by omega)]
          have hsj := hsl j hj1 hjm h15
          refine PW.goto rfl ⟨⟨trivial, vp_in_nI (by omega) (by decide)⟩, vp_in_nI (by omega) (by decide)⟩ ?_
          rw [nI_clamp (by omega), nI_1]
          refine ih (j + 1) u2 v3 _ _ (by omega) hF.pl ((upL_n (by omega)).trans h180) (hV.skip h15 (y := (M2.2 18 j - b).toInt) (by rw [fb_subL (by omega) (by omega), e18])) Q2.o (fun k q1 q2 => ?_) (by omega)
          by_cases e : k = j
          · subst e; rw [upL_s, if_pos rfl]
          · rw [upL_n e, if_neg e]; exact hs2 k q1 q2
        · skip
          rw [bo_ne] at h15
          have hpj := hus j hjm h15
          have e19 := Q2.2.2 j hjm
          have eu : u2 (p j) = u (p j) := hV.2.1 _ (fun k hk _ e => by have := inj k j (by omega) hjm e (by rw [e]; omega); omega)
          have e16 := Q2.1 (p j) hpj.1 hpj.2
          have huj := hu (p j) hpj.1
          refine PW.goto rfl ⟨⟨⟨⟨⟨trivial, vp_in_nI (by omega) (by decide)⟩, (by rw [nI_clamp (by omega), e19]; exact vp_in_nI (by omega) (by decide))⟩, (by rw [nI_clamp (by omega), e19]; exact vp_in_nI (by omega) (by decide))⟩, vp_in_nI (by omega) (by decide)⟩, vp_in_nI (by omega) (by decide)⟩ ?_
          refine PW.goto rfl trivial ?_
          rw [nI_clamp (by omega), e19, nI_clamp (by omega), nI_1]
          refine ih (j + 1) _ _ sl3 _ (by omega) ((FC.pl (M2 := (_, _)) hF.pl)) (((congrFun (upL_o (by decide)) 0).trans (congrFun (upL_o (by decide)) 0)).trans h180) (hV.used h15 hjm (by omega) inj (x := (M2.2 16 (p j) + b).toInt) (y := (M2.2 17 j - b).toInt) (by rw [fb_addL (by omega) (by omega), e16]) (fun h1 => ?_)) (Q2.pu.pv) (fun k q1 q2 => ?_) (by omega)
          · have e17 := Q2.2.1 j h1 hjm
            have ev : v3 j = v j := by rw [hV.2.2.1 j h1, if_neg (fun z => by omega)]
            have := hv j h1 hjm
            rw [fb_subL (by omega) (by omega), e17]
          · refine Eq.trans (congrArg Int64.toInt (congrFun (upL_o (by decide)) k)) ?_
            refine Eq.trans (congrArg Int64.toInt (congrFun (upL_o (by decide)) k)) ?_
            exact hs2 k q1 q2
  refine PW.to 2 rfl trivial ?_
  exact loop2 (m + 2) 0 u v sl M (by omega) FC.rf rfl Mv.start Q hs (by omega)
theorem c_room {c : Nat → Nat → Int} {m R : Nat} (hm36 : m ≤ 36) (h8 : M.1 14 8 = nI m) {u v : Nat → Int} {p : Nat → Nat} {us : Nat → Bool} {bf tm : Nat → Nat} (a : Nat) (A : Au c m R u v p us bf tm a) (ht : tm a ≤ m) (hp : ∀ j, j ≤ m → M.1 19 j = nI (p j)) (hb : ∀ j, 1 ≤ j → j ≤ m → M.1 20 j = nI (bf j)) : PC X l mX3_makeRoom 0 [.ref 14, .int (nI a)] G0 M (fun v2 M' => v2 = none ∧ FC [19] [] M M' ∧ ∃ p2 : Nat → Nat, Hg c m R u v p2 ∧ ∀ j, j ≤ m → M'.1 19 j = nI (p2 j)) := by
  refine PC.ofW okX3_makeRoom ?_
  have loop4 : ∀ k : Nat, ∀ (s a2 : Nat) (p2 : Nat → Nat) (M2 : Mem), s + tm a2 ≤ m → Au c m R u v p2 us bf tm a2 → FC [19] [] M M2 → (∀ j, j ≤ m → M2.1 19 j = nI (p2 j)) → m - s < k → PW X l mX3_makeRoom 0 (fun v2 M' => v2 = none ∧ FC [19] [] M M' ∧ ∃ p2 : Nat → Nat, Hg c m R u v p2 ∧ ∀ j, j ≤ m → M'.1 19 j = nI (p2 j)) 4 [.ref 14, .int (nI a), .int (nI a2), .int (nI s), .null] [] G0 M2 := by
    intro k
    induction k with
    | zero => intro s a2 p2 M2 hst A2 hF hp2 hk; exact absurd hk (Nat.not_lt_zero _)
    | succ k ih =>
      intro s a2 p2 M2 hst A2 hF hp2 hk
      have ha2 := A2.1
      have h82 : M2.1 14 8 = nI m := by rw [hF.i 14]; exact h8
      refine PW.igt rfl trivial (fun h9 => ?_) (fun h9 => ?_)
      · rw [h82, nI_ltI (by omega) (by omega)] at h9
        omega
      · skip
        refine PW.zeq rfl trivial (fun h13 => ?_) (fun h13 => ?_)
        · skip
          have ea : a2 = 0 := by
            rw [show (0 : Int32) = nI 0 from rfl, nI_eq (by omega) (by omega)] at h13; exact h13
          subst ea
          refine PW.vret rfl rfl trivial ?_
          exact ⟨rfl, hF, p2, A2.done, hp2⟩
        · skip
          have ea : a2 ≠ 0 := fun z => h13 (by rw [z]; rfl)
          obtain ⟨A3, ht3, hb3⟩ := A2.step ea
          have e20 : M2.1 20 a2 = nI (bf a2) := by rw [hF.i 20]; exact hb a2 (by omega) ha2
          have e19 := hp2 _ hb3
          refine PW.goto rfl ⟨⟨⟨trivial, vp_in_nI (by omega) (by decide)⟩, (by rw [nI_clamp (by omega), e20]; exact vp_in_nI (by omega) (by decide))⟩, vp_in_nI (by omega) (by decide)⟩ ?_
          rw [nI_clamp (by omega), e20, nI_clamp (by omega), e19, nI_1]
          refine PW.nl [4] ?_
          refine ih (s + 1) (bf a2) _ _ (by omega) A3 hF.pi (fun j hj => ?_) (by omega)
          by_cases q : j = a2
          · subst q; rw [if_pos rfl]; exact up_s
          · rw [if_neg q]; exact (up_n q).trans (hp2 j hj)
  refine PW.to 4 rfl trivial ?_
  exact loop4 (m + 2) 0 a p M (by omega) A FC.rf hp (by omega)
end C10
