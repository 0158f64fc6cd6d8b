-- made by wip/whole/mk_m12.py
section M12
variable {X : Cx} {l : Launch} {M : Mem}
theorem nn9 {n : Nat} (h : n < 2 ^ 31) : ¬ nI n = -9 := fun e => by
  have e2 := congrArg Int32.toInt e
  rw [nI_t h] at e2
  simp at e2
theorem mos_x {x y z : Nat} (h : ¬ mos x y z = -9) : ∃ a, a < 3 ∧ mos x y z = nI a := by
  rw [mos_who] at h ⊢
  by_cases q : whoN x y z = 3
  · rw [if_pos q] at h; exact absurd rfl h
  · rw [if_neg q]
    have := whoN_le x y z
    exact ⟨_, by omega, rfl⟩
theorem ldr_x (n : Nat) (mp dr vt : Nat → Nat) (b : Nat) (h : ¬ ldr n mp dr vt b = -9) : ∃ a, a < 3 ∧ ldr n mp dr vt b = nI a := mos_x h
theorem bst_no {pr : Nat → Nat → Option Nat} {sz : Nat → Nat} {i : Nat} (h : ¬ (xs sz (cd i) 0 6 < xs sz (cd i) 1 6 ∧ xs sz (cd i) 2 6 < xs sz (cd i) 1 6 ∧ ∃ c, tc pr (cd i) 6 = some c ∧ ∀ b, bst pr sz i = some b → c < b)) : bst pr sz (i + 1) = bst pr sz i := by
  rw [bst]
  cases e1 : tc pr (cd i) 6 with
  | none => rfl
  | some c =>
    dsimp only
    refine if_neg (fun q => h ⟨q.1, q.2.1, c, e1, fun b hb => ?_⟩)
    have := q.2.2
    rw [hb] at this
    simpa using this
theorem bst_yes {pr : Nat → Nat → Option Nat} {sz : Nat → Nat} {i : Nat} (h : xs sz (cd i) 0 6 < xs sz (cd i) 1 6 ∧ xs sz (cd i) 2 6 < xs sz (cd i) 1 6 ∧ ∃ c, tc pr (cd i) 6 = some c ∧ ∀ b, bst pr sz i = some b → c < b) : bst pr sz (i + 1) = tc pr (cd i) 6 := by
  obtain ⟨h1, h2, c, e1, h3⟩ := h
  rw [bst, e1]
  dsimp only
  refine if_pos ⟨h1, h2, ?_⟩
  cases e2 : bst pr sz i with
  | none => rfl
  | some b => simpa using h3 b e2
theorem op_lt {o p : Option Nat} (h1 : ∀ k, o = some k → k < 1000000000) (h2 : ∀ k, p = some k → k < 1000000000) : op o < op p ↔ ∃ c, o = some c ∧ ∀ b, p = some b → c < b := by
  cases o with
  | none =>
    cases p with
    | none => simp [op]
    | some b =>
      have := h2 b rfl
      simp only [op, reduceCtorEq, false_and, exists_false, iff_false]
      rw [nI_ltI (by omega) (by omega)]
      omega
  | some c =>
    have := h1 c rfl
    cases p with
    | none =>
      simp only [op, Option.some.injEq, reduceCtorEq, false_implies, implies_true, and_true, exists_eq', iff_true]
      rw [nI_ltI (by omega) (by omega)]
      omega
    | some b =>
      have := h2 b rfl
      simp only [op, Option.some.injEq, forall_eq', exists_eq_left']
      rw [nI_ltI (by omega) (by omega)]
theorem p_turn {w h : Nat} {mp dr hd : Nat → Nat} {wy : Nat} {vt : Nat → Nat} (F : Sf w h mp dr hd wy vt) (S : SM w h mp dr hd wy vt M) (sd : Int32) : PC X l mX8_turn 4 [.ref 29, .int sd] G0 M (fun v M' => v = some (.int (if okl 2 sd = true then (if ldr (w * h) mp dr vt 1 = -9 ∨ ldr (w * h) mp dr vt 1 = sd then -3 else ob (bst (prc vt (tn (ldr (w * h) mp dr vt 1)) (tn sd) (3 - tn (ldr (w * h) mp dr vt 1) - tn sd)) (fun x => many dr x (w * h)) 4096)) else -1)) ∧ (SM w h mp dr hd wy vt M' ∧ FM M M')) := by
  refine PC.ofW okX8_turn ?_
  have hn := F.1.n
  have S0 := (S.fj (th0 M (A := []))).1
  have loop192 : ∀ k : Nat, ∀ (i a s t : Nat) (bx : Option Nat) (M2 : Mem), a < 3 → s < 3 → t < 3 → bx = (bst (prc vt a s t) (fun x => many dr x (w * h)) 4096) → i ≤ 4096 → FJ [49] M M2 → (∀ l x, l < 6 → x < 4 → M2.1 49 (4 * l + x) = op (prc vt a s t l x)) → 4096 - i < k → PW X l mX8_turn 4 (fun v M' => v = some (.int (ob bx)) ∧ (SM w h mp dr hd wy vt M' ∧ FM M M')) 192 [.ref 29, .int (nI s), .int (nI a), .int (nI t), .int (op (bst (prc vt a s t) (fun x => many dr x (w * h)) (i))), .int (nI i), .null, .null, .null, .null, .null, .null, .null] [] G0 M2 := by
    intro k
    induction k with
    | zero => intro i a s t bx M2 ha hs2 ht2 eb hi J hp hk; exact absurd hk (Nat.not_lt_zero _)
    | succ k ih =>
      intro i a s t bx M2 ha hs2 ht2 eb hi J hp hk
      obtain ⟨S2, FM2⟩ := S.fj J
      have hb9 : ∀ i c, bst (prc vt a s t) (fun x => many dr x (w * h)) i = some c → c ≤ 5994 := fun i c q => bst_le (fun l x k => prc_le F.2.2) q
      have hc9 : ∀ j c, j ≤ 6 → tc (prc vt a s t) (cd i) j = some c → c ≤ 5994 := fun j c hj q => Nat.le_trans (tc_le (fun l x k => prc_le F.2.2) q) (by omega)
      have hx9 : ∀ v j, j ≤ 6 → xs (fun x => many dr x (w * h)) (cd i) v j ≤ 216 := fun v j hj => Nat.le_trans (xs_le hn j) (by omega)
      have join372 : ∀ j : Nat, i < 4096 → PW X l mX8_turn 4 (fun v M' => v = some (.int (ob bx)) ∧ (SM w h mp dr hd wy vt M' ∧ FM M M')) 372 [.ref 29, .int (nI s), .int (nI a), .int (nI t), .int (op (bst (prc vt a s t) (fun x => many dr x (w * h)) (i))), .int (nI i), .int (op (tc (prc vt a s t) (cd i) (6))), .int (nI (xs (fun x => many dr x (w * h)) (cd i) 0 (6))), .int (nI (xs (fun x => many dr x (w * h)) (cd i) 1 (6))), .int (nI (xs (fun x => many dr x (w * h)) (cd i) 2 (6))), .int (nI j), .null, .null] [.int (op (bst (prc vt a s t) (fun x => many dr x (w * h)) (i + 1)))] G0 M2 := by
        intro j hi6
        refine PW.goto rfl trivial ?_
        refine PW.nl [6, 7, 8, 9, 10] ?_
        rw [nI_1]
        exact ih (i + 1) a s t bx M2 ha hs2 ht2 eb (by omega) J hp (by omega)
      have loop215 : ∀ k215 : Nat, ∀ (j : Nat), i < 4096 → j ≤ 6 → 6 - j < k215 → PW X l mX8_turn 4 (fun v M' => v = some (.int (ob bx)) ∧ (SM w h mp dr hd wy vt M' ∧ FM M M')) 215 [.ref 29, .int (nI s), .int (nI a), .int (nI t), .int (op (bst (prc vt a s t) (fun x => many dr x (w * h)) (i))), .int (nI i), .int (op (tc (prc vt a s t) (cd i) (j))), .int (nI (xs (fun x => many dr x (w * h)) (cd i) 0 (j))), .int (nI (xs (fun x => many dr x (w * h)) (cd i) 1 (j))), .int (nI (xs (fun x => many dr x (w * h)) (cd i) 2 (j))), .int (nI j), .null, .null] [] G0 M2 := by
        intro k215
        induction k215 with
        | zero => intro j hi6 hj hk2; exact absurd hk2 (Nat.not_lt_zero _)
        | succ k215 ih215 =>
          intro j hi6 hj hk2
          have join335 : ∀ (j : Nat), i < 4096 → j < 6 → 6 - j < k215 + 1 → PW X l mX8_turn 4 (fun v M' => v = some (.int (ob bx)) ∧ (SM w h mp dr hd wy vt M' ∧ FM M M')) 335 [.ref 29, .int (nI s), .int (nI a), .int (nI t), .int (op (bst (prc vt a s t) (fun x => many dr x (w * h)) (i))), .int (nI i), .int (op (tc (prc vt a s t) (cd i) (j + 1))), .int (nI (xs (fun x => many dr x (w * h)) (cd i) 0 (j + 1))), .int (nI (xs (fun x => many dr x (w * h)) (cd i) 1 (j + 1))), .int (nI (xs (fun x => many dr x (w * h)) (cd i) 2 (j))), .int (nI j), .int (nI (cd i j)), .int (nI (many dr j (w * h)))] [.int (nI (if cd i j = 2 then many dr j (w * h) else 0)), .int (nI (xs (fun x => many dr x (w * h)) (cd i) 2 (j)))] G0 M2 := by
            intro j hi6 hj hk2
            refine PW.goto rfl trivial ?_
            refine PW.nl [11, 12] ?_
            refine PW.lc ?_ (ih215 (j + 1) hi6 (by omega) (by omega))
            rw [nI_add, nI_1]; rfl
          have join318 : ∀ (j : Nat), i < 4096 → j < 6 → 6 - j < k215 + 1 → PW X l mX8_turn 4 (fun v M' => v = some (.int (ob bx)) ∧ (SM w h mp dr hd wy vt M' ∧ FM M M')) 318 [.ref 29, .int (nI s), .int (nI a), .int (nI t), .int (op (bst (prc vt a s t) (fun x => many dr x (w * h)) (i))), .int (nI i), .int (op (tc (prc vt a s t) (cd i) (j + 1))), .int (nI (xs (fun x => many dr x (w * h)) (cd i) 0 (j + 1))), .int (nI (xs (fun x => many dr x (w * h)) (cd i) 1 (j))), .int (nI (xs (fun x => many dr x (w * h)) (cd i) 2 (j))), .int (nI j), .int (nI (cd i j)), .int (nI (many dr j (w * h)))] [.int (nI (if cd i j = 1 then many dr j (w * h) else 0)), .int (nI (xs (fun x => many dr x (w * h)) (cd i) 1 (j)))] G0 M2 := by
            intro j hi6 hj hk2
            refine PW.ine rfl trivial (fun h326 => ?_) (fun h326 => ?_)
            · skip
              rw [show (2 : Int32) = nI 2 from rfl, nI_eq (by have := cd_lt i j; omega) (by omega)] at h326
              refine PW.to 335 rfl trivial ?_
              refine PW.lcs ?_ ?_ (join335 j hi6 hj hk2)
              · rw [nI_add]; rfl
              · rw [if_neg h326]; rfl
            · skip
              rw [show (2 : Int32) = nI 2 from rfl, nI_eq (by have := cd_lt i j; omega) (by omega)] at h326
              refine PW.goto rfl trivial ?_
              refine PW.lcs ?_ ?_ (join335 j hi6 hj hk2)
              · rw [nI_add]; rfl
              · rw [if_pos h326]
          have join301 : ∀ (j : Nat), i < 4096 → j < 6 → 6 - j < k215 + 1 → PW X l mX8_turn 4 (fun v M' => v = some (.int (ob bx)) ∧ (SM w h mp dr hd wy vt M' ∧ FM M M')) 301 [.ref 29, .int (nI s), .int (nI a), .int (nI t), .int (op (bst (prc vt a s t) (fun x => many dr x (w * h)) (i))), .int (nI i), .int (op (tc (prc vt a s t) (cd i) (j + 1))), .int (nI (xs (fun x => many dr x (w * h)) (cd i) 0 (j))), .int (nI (xs (fun x => many dr x (w * h)) (cd i) 1 (j))), .int (nI (xs (fun x => many dr x (w * h)) (cd i) 2 (j))), .int (nI j), .int (nI (cd i j)), .int (nI (many dr j (w * h)))] [.int (nI (if cd i j = 0 then many dr j (w * h) else 0)), .int (nI (xs (fun x => many dr x (w * h)) (cd i) 0 (j)))] G0 M2 := by
            intro j hi6 hj hk2
            skip
            refine PW.ine rfl trivial (fun h309 => ?_) (fun h309 => ?_)
            · skip
              rw [show (1 : Int32) = nI 1 from rfl, nI_eq (by have := cd_lt i j; omega) (by omega)] at h309
              refine PW.to 318 rfl trivial ?_
              refine PW.lcs ?_ ?_ (join318 j hi6 hj hk2)
              · rw [nI_add]; rfl
              · rw [if_neg h309]; rfl
            · skip
              rw [show (1 : Int32) = nI 1 from rfl, nI_eq (by have := cd_lt i j; omega) (by omega)] at h309
              refine PW.goto rfl trivial ?_
              refine PW.lcs ?_ ?_ (join318 j hi6 hj hk2)
              · rw [nI_add]; rfl
              · rw [if_pos h309]
          have join286 : ∀ (j : Nat), i < 4096 → j < 6 → 6 - j < k215 + 1 → PW X l mX8_turn 4 (fun v M' => v = some (.int (ob bx)) ∧ (SM w h mp dr hd wy vt M' ∧ FM M M')) 286 [.ref 29, .int (nI s), .int (nI a), .int (nI t), .int (op (bst (prc vt a s t) (fun x => many dr x (w * h)) (i))), .int (nI i), .int (op (tc (prc vt a s t) (cd i) (j))), .int (nI (xs (fun x => many dr x (w * h)) (cd i) 0 (j))), .int (nI (xs (fun x => many dr x (w * h)) (cd i) 1 (j))), .int (nI (xs (fun x => many dr x (w * h)) (cd i) 2 (j))), .int (nI j), .int (nI (cd i j)), .int (nI (many dr j (w * h)))] [.int (op (tc (prc vt a s t) (cd i) (j + 1)))] G0 M2 := by
            intro j hi6 hj hk2
            refine PW.zne rfl trivial (fun h292 => ?_) (fun h292 => ?_)
            · skip
              rw [show (0 : Int32) = nI 0 from rfl, nI_eq (by have := cd_lt i j; omega) (by omega)] at h292
              refine PW.to 301 rfl trivial ?_
              refine PW.lcs ?_ ?_ (join301 j hi6 hj hk2)
              · rfl
              · rw [if_neg h292]; rfl
            · skip
              rw [show (0 : Int32) = nI 0 from rfl, nI_eq (by have := cd_lt i j; omega) (by omega)] at h292
              refine PW.goto rfl trivial ?_
              refine PW.lcs ?_ ?_ (join301 j hi6 hj hk2)
              · rfl
              · rw [if_pos h292]
          refine PW.ige rfl trivial (fun h219 => ?_) (fun h219 => ?_)
          · skip
            rw [i6 (by omega)] at h219
            have e9 : j = 6 := by omega
            subst e9
            refine PW.ile rfl trivial (fun h348 => ?_) (fun h348 => ?_)
            · skip
              rw [nI_leI (by have := hx9 1 6 (by omega); omega) (by have := hx9 0 6 (by omega); omega)] at h348
              have hB : bst (prc vt a s t) (fun x => many dr x (w * h)) (i + 1) = bst (prc vt a s t) (fun x => many dr x (w * h)) i := bst_no (fun q => absurd q.1 (by omega))
              refine PW.to 372 rfl trivial ?_
              refine PW.lcs ?_ ?_ (join372 6 hi6)
              · rfl
              · rw [hB]
            · skip
              rw [nI_leI (by have := hx9 1 6 (by omega); omega) (by have := hx9 0 6 (by omega); omega)] at h348
              refine PW.ile rfl trivial (fun h355 => ?_) (fun h355 => ?_)
              · skip
                rw [nI_leI (by have := hx9 1 6 (by omega); omega) (by have := hx9 2 6 (by omega); omega)] at h355
                have hB : bst (prc vt a s t) (fun x => many dr x (w * h)) (i + 1) = bst (prc vt a s t) (fun x => many dr x (w * h)) i := bst_no (fun q => absurd q.2.1 (by omega))
                refine PW.to 372 rfl trivial ?_
                refine PW.lcs ?_ ?_ (join372 6 hi6)
                · rfl
                · rw [hB]
              · skip
                rw [nI_leI (by have := hx9 1 6 (by omega); omega) (by have := hx9 2 6 (by omega); omega)] at h355
                refine PW.ige rfl trivial (fun h362 => ?_) (fun h362 => ?_)
                · skip
                  have hB : bst (prc vt a s t) (fun x => many dr x (w * h)) (i + 1) = bst (prc vt a s t) (fun x => many dr x (w * h)) i := bst_no (fun q => absurd ((op_lt (fun k q => by have := hc9 6 k (by omega) q; omega) (fun k q => by have := hb9 i k q; omega)).mpr q.2.2) (Int32.not_lt.mpr h362))
                  refine PW.to 372 rfl trivial ?_
                  refine PW.lcs ?_ ?_ (join372 6 hi6)
                  · rfl
                  · rw [hB]
                · skip
                  have hB : bst (prc vt a s t) (fun x => many dr x (w * h)) (i + 1) = tc (prc vt a s t) (cd i) 6 := bst_yes ⟨by omega, by omega, (op_lt (fun k q => by have := hc9 6 k (by omega) q; omega) (fun k q => by have := hb9 i k q; omega)).mp (Int32.not_le.mp h362)⟩
                  refine PW.goto rfl trivial ?_
                  refine PW.lcs ?_ ?_ (join372 6 hi6)
                  · rfl
                  · rw [hB]
          · skip
            rw [i6 (by omega)] at h219
            refine PW.funV rfl trivial sX8_106 rfl rfl (by decide) rfl (m_manyOf 1 j (by omega) F.1 S2.1) ?_
            rw [show sl 1 mp dr = dr from rfl, cd_num (by omega) (by omega)]
            have hcd := cd_lt i j
            have e4 : (4 : Int32) * nI j + nI (cd i j) = nI (4 * j + cd i j) := by rw [show (4 : Int32) = nI 4 from rfl, pk_mul, nI_add]
            have ep : M2.1 49 (4 * j + cd i j) = op (prc vt a s t j (cd i j)) := hp j (cd i j) (by omega) hcd
            refine PW.ieq rfl trivial (fun h246 => ?_) (fun h246 => ?_)
            · skip
              rw [op_eq (fun k q => by have := hc9 j k hj q; omega)] at h246
              have hN : tc (prc vt a s t) (cd i) (j + 1) = none := by simp only [tc, h246]
              refine PW.goto rfl trivial ?_
              refine PW.lcs ?_ ?_ (join286 j hi6 (by omega) hk2)
              · rfl
              · rw [hN]; rfl
            · skip
              rw [op_eq (fun k q => by have := hc9 j k hj q; omega)] at h246
              obtain ⟨c1, ec1⟩ := Option.ne_none_iff_exists'.mp h246
              refine PW.ine rfl ⟨trivial, (by rw [e4]; exact vp_in_nI (by omega) (by decide))⟩ (fun h263 => ?_) (fun h263 => ?_)
              · skip
                rw [e4, nI_clamp (by omega), ep, op_eq (fun k q => by have := prc_le F.2.2 q; omega)] at h263
                obtain ⟨c2, ec2⟩ := Option.ne_none_iff_exists'.mp h263
                have hN : tc (prc vt a s t) (cd i) (j + 1) = some (c1 + c2) := by simp only [tc, ec1, ec2]
                refine PW.to 286 rfl ⟨trivial, (by rw [e4]; exact vp_in_nI (by omega) (by decide))⟩ ?_
                rw [e4, nI_clamp (by omega), ep]
                exact PW.lcs rfl (by rw [hN, ec1, ec2]; show [Value.int (nI c1 + nI c2)] = _; rw [nI_add]; rfl) (join286 j hi6 (by omega) hk2)
              · skip
                rw [e4, nI_clamp (by omega), ep, op_eq (fun k q => by have := prc_le F.2.2 q; omega)] at h263
                have hN : tc (prc vt a s t) (cd i) (j + 1) = none := by simp only [tc, ec1, h263]
                refine PW.goto rfl trivial ?_
                refine PW.lcs ?_ ?_ (join286 j hi6 (by omega) hk2)
                · rfl
                · rw [hN]; rfl
      refine PW.ige rfl trivial (fun h197 => ?_) (fun h197 => ?_)
      · skip
        rw [show (4096 : Int32) = nI 4096 from rfl, nI_leI (by omega) (by omega)] at h197
        have e9 : i = 4096 := by omega
        rw [e9, ← eb]
        have hb9 : ∀ k, bx = some k → k ≤ 5994 := fun k q => hb9 4096 k (by rw [← eb]; exact q)
        refine PW.ine rfl trivial (fun h384 => ?_) (fun h384 => ?_)
        · skip
          rw [op_eq (fun k q => by have := hb9 k q; omega)] at h384
          obtain ⟨c, ec⟩ := Option.ne_none_iff_exists'.mp h384
          refine PW.iret rfl rfl trivial ?_
          first | exact ⟨by rw [ec]; rfl, S2, FM2⟩ | exact ⟨by rw [h384]; rfl, S2, FM2⟩
        · skip
          rw [op_eq (fun k q => by have := hb9 k q; omega)] at h384
          refine PW.goto rfl trivial ?_
          refine PW.iret rfl rfl trivial ?_
          first | exact ⟨by rw [ec]; rfl, S2, FM2⟩ | exact ⟨by rw [h384]; rfl, S2, FM2⟩
      · skip
        rw [show (4096 : Int32) = nI 4096 from rfl, nI_leI (by omega) (by omega)] at h197
        refine PW.to 215 rfl trivial ?_
        exact loop215 7 0 (by omega) (by omega) (by omega)
  have loop43 : ∀ k : Nat, ∀ (i a s t : Nat) (bx : Option Nat) (M2 : Mem), a < 3 → s < 3 → t < 3 → bx = (bst (prc vt a s t) (fun x => many dr x (w * h)) 4096) → i ≤ 6 → FJ [49] M M2 → (∀ l x, l < i → x < 4 → M2.1 49 (4 * l + x) = op (prc vt a s t l x)) → 6 - i < k → PW X l mX8_turn 4 (fun v M' => v = some (.int (ob bx)) ∧ (SM w h mp dr hd wy vt M' ∧ FM M M')) 43 [.ref 29, .int (nI s), .int (nI a), .int (nI t), .int (nI i), .null, .null, .null, .null, .null, .null, .null, .null] [] G0 M2 := by
    intro k
    induction k with
    | zero => intro i a s t bx M2 ha hs2 ht2 eb hi J hp hk; exact absurd hk (Nat.not_lt_zero _)
    | succ k ih =>
      intro i a s t bx M2 ha hs2 ht2 eb hi J hp hk
      obtain ⟨S2, FM2⟩ := S.fj J
      have va := F.2.2 (3 * i + a)
      have loop96 : ∀ k96 : Nat, ∀ (k : Nat) (o : Nat → Option Nat) (M3 : Mem), i < 6 → k ≤ vt (3 * i + a) + 1 → FJ [49] M M3 → (∀ l x, l < i → x < 4 → M3.1 49 (4 * l + x) = op (prc vt a s t l x)) → (∀ y, y < 4 → M3.1 49 (4 * i + y) = op (o y)) → (∀ y, y < 4 → IsG (fun k => decide (whoN (vt (3 * i + a) - k) (vt (3 * i + s) + k) (vt (3 * i + t)) = y)) (vt (3 * i + a) + 1) k (o y)) → k < k96 → PW X l mX8_turn 4 (fun v M' => v = some (.int (ob bx)) ∧ (SM w h mp dr hd wy vt M' ∧ FM M M')) 96 [.ref 29, .int (nI s), .int (nI a), .int (nI t), .int (nI i), .int (nI (vt (3 * i + a))), .int (nI k - 1), .null, .null, .null, .null, .null, .null] [] G0 M3 := by
        intro k96
        induction k96 with
        | zero => intro k o M3 hi6 hkm J3 hp3 hy hG hk3; exact absurd hk3 (Nat.not_lt_zero _)
        | succ k96 ih96 =>
          intro k o M3 hi6 hkm J3 hp3 hy hG hk3
          obtain ⟨S3, FM3⟩ := S.fj J3
          have vs := F.2.2 (3 * i + s)
          have vtt := F.2.2 (3 * i + t)
          have e1 : (3 : Int32) * nI i + nI s = nI (3 * i + s) := by rw [show (3 : Int32) = nI 3 from rfl, pk_mul, nI_add]
          have e2 : (3 : Int32) * nI i + nI t = nI (3 * i + t) := by rw [show (3 : Int32) = nI 3 from rfl, pk_mul, nI_add]
          refine PW.zlt rfl trivial (fun h98 => ?_) (fun h98 => ?_)
          · skip
            have e0 : k = 0 := by
              rcases Nat.eq_zero_or_pos k with z | z
              · exact z
              · rw [nI_m1 z] at h98; exact absurd h98 (nI_pos (by omega))
            subst e0
            refine PW.goto rfl trivial ?_
            rw [nI_1]
            refine PW.nl [5, 6] ?_
            refine ih (i + 1) a s t bx M3 ha hs2 ht2 eb (by omega) J3 (fun l x h1 h2 => ?_) (by omega)
            by_cases q : l = i
            · subst q; rw [hy x h2]; congr 1; exact ((hG x h2).fnd).symm
            · exact hp3 l x (by omega) h2
          · skip
            have hk0 : 0 < k := by
              rcases Nat.eq_zero_or_pos k with z | z
              · subst z; exact absurd (by decide) h98
              · exact z
            obtain ⟨k, rfl⟩ : ∃ j, k = j + 1 := ⟨k - 1, by omega⟩
            rw [nI_m1 (by omega), Nat.add_sub_cancel]
            refine PW.funS rfl ⟨⟨trivial, (by rw [e1]; exact vp_in_nI (by omega) (by decide))⟩, (by rw [e2]; exact vp_in_nI (by omega) (by decide))⟩ sX8_184 rfl (by decide) rfl (show PF X l mX8_most 0 [.int (nI (vt (3 * i + a)) - nI k), .int (M3.1 48 ((3 : Int32) * nI i + nI s).toNatClampNeg + nI k), .int (M3.1 48 ((3 : Int32) * nI i + nI t).toNatClampNeg)] G0 M3 (.int (mos (vt (3 * i + a) - k) (vt (3 * i + s) + k) (vt (3 * i + t)))) from by rw [e1, e2, nI_clamp (by omega), nI_clamp (by omega), S3.2.2 _ (by omega), S3.2.2 _ (by omega), pk_sub (by omega), nI_add]; exact m_most _ _ _ (by omega) (by omega) (by omega)) ?_
            obtain ⟨wn, ewn⟩ : ∃ wn, wn = whoN (vt (3 * i + a) - k) (vt (3 * i + s) + k) (vt (3 * i + t)) := ⟨_, rfl⟩
            have hw3 : wn ≤ 3 := by rw [ewn]; exact whoN_le _ _ _
            rw [mos_who, ← ewn]
            refine PW.ine rfl trivial (fun h160 => ?_) (fun h160 => ?_)
            · skip
              have hw9 : ¬ wn = 3 := fun q => h160 (if_pos q)
              rw [if_neg hw9]
              have e6 : (4 : Int32) * nI i + nI wn = nI (4 * i + wn) := by rw [show (4 : Int32) = nI 4 from rfl, pk_mul, nI_add]
              refine PW.goto rfl ⟨trivial, (by rw [e6]; exact vp_in_nI (by omega) (by decide))⟩ ?_
              rw [e6, nI_clamp (by omega), ← Int32.sub_eq_add_neg]
              refine PW.nl [7, 8, 9, 10] ?_
              refine ih96 k (fun y => if y = wn then some k else o y) _ hi6 (by omega) (J3.put (by decide)) (fun l y h1 h2 => (up_n (by omega)).trans (hp3 l y h1 h2)) (fun y h1 => ?_) (fun y h1 => ?_) (by omega)
              · by_cases q : y = wn
                · subst q; rw [up_s, if_pos rfl]; rfl
                · rw [if_neg q]; exact (up_n (by omega)).trans (hy y h1)
              · have := (hG y h1).step (by omega)
                by_cases q : y = wn
                · rw [if_pos (by rw [← ewn]; simp [q])] at this; rw [if_pos q]; exact this
                · rw [if_neg (by rw [← ewn]; simp; exact fun z => q z.symm)] at this; rw [if_neg q]; exact this
            · skip
              have hw9 : wn = 3 := by
                by_cases q : wn = 3
                · exact q
                · rw [if_neg q] at h160; exact absurd h160 (nn9 (by omega))
              have e6 : (4 : Int32) * nI i + 3 = nI (4 * i + wn) := by rw [hw9, show (4 : Int32) = nI 4 from rfl, show (3 : Int32) = nI 3 from rfl, pk_mul, nI_add]
              refine PW.goto rfl trivial ?_
              refine PW.goto rfl ⟨trivial, (by rw [e6]; exact vp_in_nI (by omega) (by decide))⟩ ?_
              rw [e6, nI_clamp (by omega), ← Int32.sub_eq_add_neg]
              refine PW.nl [7, 8, 9, 10] ?_
              refine ih96 k (fun y => if y = wn then some k else o y) _ hi6 (by omega) (J3.put (by decide)) (fun l y h1 h2 => (up_n (by omega)).trans (hp3 l y h1 h2)) (fun y h1 => ?_) (fun y h1 => ?_) (by omega)
              · by_cases q : y = wn
                · subst q; rw [up_s, if_pos rfl]; rfl
                · rw [if_neg q]; exact (up_n (by omega)).trans (hy y h1)
              · have := (hG y h1).step (by omega)
                by_cases q : y = wn
                · rw [if_pos (by rw [← ewn]; simp [q])] at this; rw [if_pos q]; exact this
                · rw [if_neg (by rw [← ewn]; simp; exact fun z => q z.symm)] at this; rw [if_neg q]; exact this
      have loop53 : ∀ k53 : Nat, ∀ (x : Nat) (M3 : Mem), i < 6 → x ≤ 4 → FJ [49] M M3 → (∀ l x, l < i → x < 4 → M3.1 49 (4 * l + x) = op (prc vt a s t l x)) → (∀ y, y < x → M3.1 49 (4 * i + y) = op none) → 4 - x < k53 → PW X l mX8_turn 4 (fun v M' => v = some (.int (ob bx)) ∧ (SM w h mp dr hd wy vt M' ∧ FM M M')) 53 [.ref 29, .int (nI s), .int (nI a), .int (nI t), .int (nI i), .int (nI x), .null, .null, .null, .null, .null, .null, .null] [] G0 M3 := by
        intro k53
        induction k53 with
        | zero => intro x M3 hi6 hx J3 hp3 hy hk3; exact absurd hk3 (Nat.not_lt_zero _)
        | succ k53 ih53 =>
          intro x M3 hi6 hx J3 hp3 hy hk3
          obtain ⟨S3, FM3⟩ := S.fj J3
          have e3 : (3 : Int32) * nI i + nI a = nI (3 * i + a) := by rw [show (3 : Int32) = nI 3 from rfl, pk_mul, nI_add]
          refine PW.ige rfl trivial (fun h56 => ?_) (fun h56 => ?_)
          · skip
            rw [show (4 : Int32) = nI 4 from rfl, nI_leI (by omega) (by omega)] at h56
            have e9 : x = 4 := by omega
            subst e9
            refine PW.to 96 rfl ⟨trivial, (by rw [e3]; exact vp_in_nI (by omega) (by decide))⟩ ?_
            rw [e3, nI_clamp (by omega), S3.2.2 _ (by omega)]
            refine PW.lc ?_ (loop96 (vt (3 * i + a) + 2) (vt (3 * i + a) + 1) (fun _ => none) M3 hi6 (Nat.le_refl _) J3 hp3 hy (fun x _ j h1 h2 => absurd h2 (by omega)) (by omega))
            rw [nI_m1 (by omega), Nat.add_sub_cancel]
          · skip
            rw [show (4 : Int32) = nI 4 from rfl, nI_leI (by omega) (by omega)] at h56
            have e4 : (4 : Int32) * nI i + nI x = nI (4 * i + x) := by rw [show (4 : Int32) = nI 4 from rfl, pk_mul, nI_add]
            refine PW.goto rfl ⟨trivial, (by rw [e4]; exact vp_in_nI (by omega) (by decide))⟩ ?_
            rw [e4, nI_clamp (by omega), nI_1]
            refine ih53 (x + 1) _ hi6 (by omega) (J3.put (by decide)) (fun l y h1 h2 => (up_n (by omega)).trans (hp3 l y h1 h2)) (fun y h1 => ?_) (by omega)
            by_cases q : y = x
            · subst q; exact up_s
            · exact (up_n (by omega)).trans (hy y (by omega))
      refine PW.ige rfl trivial (fun h47 => ?_) (fun h47 => ?_)
      · skip
        rw [i6 (by omega)] at h47
        have e9 : i = 6 := by omega
        subst e9
        refine PW.to 192 rfl trivial ?_
        refine PW.nl [6, 7, 8, 9, 10, 11, 12] ?_
        exact loop192 4097 0 a s t bx M2 ha hs2 ht2 eb (by omega) J (fun l x h1 h2 => hp l x h1 h2) (by omega)
      · skip
        rw [i6 (by omega)] at h47
        refine PW.to 53 rfl trivial ?_
        exact loop53 5 0 M2 (by omega) (by omega) J hp (fun x hx => absurd hx (Nat.not_lt_zero x)) (by omega)
  refine PW.funS rfl trivial sX8_181 rfl (by decide) rfl (m_noSide _) ?_
  refine PW.zeq rfl trivial (fun h9 => ?_) (fun h9 => ?_)
  · skip
    rw [bn_eq] at h9
    change okl 2 sd = true at h9
    obtain ⟨s, hs, rfl⟩ := okl_x (m := 2) h9
    refine PW.funV rfl trivial sX8_194 rfl rfl (by decide) rfl (m_leader F S0 1 (by omega)) ?_
    refine PW.ieq rfl trivial (fun h23 => ?_) (fun h23 => ?_)
    · skip
      skip
      refine PW.iret rfl rfl trivial ?_
      first | exact ⟨by rw [if_t h9, if_pos (Or.inl h23)], S.fj (th0 M (A := []))⟩ | exact ⟨by rw [if_t h9, if_pos (Or.inr h28)], S.fj (th0 M (A := []))⟩
    · skip
      refine PW.ine rfl trivial (fun h28 => ?_) (fun h28 => ?_)
      · skip
        refine PW.to 43 rfl trivial ?_
        obtain ⟨a, ha, ea⟩ := ldr_x (w * h) mp dr vt 1 h23
        rw [ea] at h28
        have hne : ¬ a = s := fun q => h28 (by rw [q])
        refine PW.post (Q' := (fun v M' => v = some (.int (ob (bst (prc vt a s (3 - a - s)) (fun x => many dr x (w * h)) 4096))) ∧ (SM w h mp dr hd wy vt M' ∧ FM M M'))) (fun v M2 q => ?_) ?_
        · rw [if_t h9, ea, tn_nI (by omega), tn_nI (by omega), if_neg (fun z => z.elim (fun z => absurd z (nn9 (by omega))) h28)]; exact q
        · obtain ⟨bx, eb⟩ : ∃ b, b = bst (prc vt a s (3 - a - s)) (fun x => many dr x (w * h)) 4096 := ⟨_, rfl⟩
          rw [← eb]
          refine PW.lc ?_ (loop43 7 0 a s (3 - a - s) bx (va_up M.1 29 (upd (M.1 29) 0 0), M.2) ha (by omega) (by omega) eb (by omega) (th0 M) (fun l x h1 => absurd h1 (Nat.not_lt_zero l)) (by omega))
          rw [ea, show (3 : Int32) = nI 3 from rfl, pk_sub (by omega), pk_sub (by omega)]; rfl
      · skip
        refine PW.iret rfl rfl trivial ?_
        first | exact ⟨by rw [if_t h9, if_pos (Or.inl h23)], S.fj (th0 M (A := []))⟩ | exact ⟨by rw [if_t h9, if_pos (Or.inr h28)], S.fj (th0 M (A := []))⟩
  · skip
    rw [bn_ne] at h9
    change okl 2 sd = false at h9
    refine PW.iret rfl rfl trivial ?_
    exact ⟨by rw [if_f h9], S.fj (th0 M (A := []))⟩
end M12
