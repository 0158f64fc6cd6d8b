-- made by wip/whole/mk_m17.py
theorem PW.mc {X : Cx} {l : Launch} {mt : Mt} {rk pc : Nat} {Q : Option Value → Mem → Prop} {L S : List Value} {G : List Shp} {M M' : Mem} (h : M' = M) (k : PW X l mt rk Q pc L S G M') : PW X l mt rk Q pc L S G M := by rw [← h]; exact k
theorem up_up {α : Type} {f : Nat → α} {a : Nat} {x y : α} : va_up (va_up f a x) a y = va_up f a y := by funext j; simp only [va_up]; split <;> rfl
theorem up_id {α : Type} {f : Nat → α} {a : Nat} : va_up f a (f a) = f := by funext j; simp only [va_up]; split <;> simp_all
theorem fill_s {g : Nat → Nat → Int32} {f : Nat → Int32} {a i : Nat} {x : Int32} : upd (va_up g a (fun k => if k < i then x else f k) a) i x = fun k => if k < i + 1 then x else f k := by
  funext k
  simp only [upd, va_up, if_true]
  by_cases h : k = i
  · subst h; simp
  · by_cases h2 : k < i
    · simp [h, h2, show k < i + 1 by omega]
    · simp [h, h2, show ¬ k < i + 1 by omega]
theorem filL_s {g : Nat → Nat → Int64} {f : Nat → Int64} {a i : Nat} {x : Int64} : vp_updL (va_up g a (fun k => if k < i then x else f k) a) i x = fun k => if k < i + 1 then x else f k := by
  funext k
  simp only [vp_updL, va_up, if_true]
  by_cases h : k = i
  · subst h; simp
  · by_cases h2 : k < i
    · simp [h, h2, show k < i + 1 by omega]
    · simp [h, h2, show ¬ k < i + 1 by omega]
section M17
variable {X : Cx} {l : Launch} {M : Mem}
theorem pop_64 {n : Nat} (hn : n < 2 ^ 64) {x1 x2 x3 x4 x5 x6 : Int64} (e1 : x1 = lN n - (((lN n).toUInt64 >>> ((1 : Int32).toInt64.toUInt64 &&& Int64.toUInt64 63)).toInt64 &&& 6148914691236517205)) (e2 : x2 = (x1 &&& 3689348814741910323) + ((x1.toUInt64 >>> ((2 : Int32).toInt64.toUInt64 &&& Int64.toUInt64 63)).toInt64 &&& 3689348814741910323)) (e3 : x3 = (x2 + (x2.toUInt64 >>> ((4 : Int32).toInt64.toUInt64 &&& Int64.toUInt64 63)).toInt64) &&& 1085102592571150095) (e4 : x4 = x3 + (x3.toUInt64 >>> ((8 : Int32).toInt64.toUInt64 &&& Int64.toUInt64 63)).toInt64) (e5 : x5 = x4 + (x4.toUInt64 >>> ((16 : Int32).toInt64.toUInt64 &&& Int64.toUInt64 63)).toInt64) (e6 : x6 = x5 + (x5.toUInt64 >>> ((32 : Int32).toInt64.toUInt64 &&& Int64.toUInt64 63)).toInt64) : x6.toInt32 &&& 127 = nI (fb_ct (fun i => n.testBit i) 64) := by
  obtain ⟨a0, h0, d0⟩ : ∃ a, a < 256 ∧ n % 256 = a := ⟨_, Nat.mod_lt _ (by decide), rfl⟩
  obtain ⟨a1, h1, d1⟩ : ∃ a, a < 256 ∧ n / 256 % 256 = a := ⟨_, Nat.mod_lt _ (by decide), rfl⟩
  obtain ⟨a2, h2, d2⟩ : ∃ a, a < 256 ∧ n / 65536 % 256 = a := ⟨_, Nat.mod_lt _ (by decide), rfl⟩
  obtain ⟨a3, h3, d3⟩ : ∃ a, a < 256 ∧ n / 16777216 % 256 = a := ⟨_, Nat.mod_lt _ (by decide), rfl⟩
  obtain ⟨a4, h4, d4⟩ : ∃ a, a < 256 ∧ n / 4294967296 % 256 = a := ⟨_, Nat.mod_lt _ (by decide), rfl⟩
  obtain ⟨a5, h5, d5⟩ : ∃ a, a < 256 ∧ n / 1099511627776 % 256 = a := ⟨_, Nat.mod_lt _ (by decide), rfl⟩
  obtain ⟨a6, h6, d6⟩ : ∃ a, a < 256 ∧ n / 281474976710656 % 256 = a := ⟨_, Nat.mod_lt _ (by decide), rfl⟩
  obtain ⟨a7, h7, d7⟩ : ∃ a, a < 256 ∧ n / 72057594037927936 % 256 = a := ⟨_, Nat.mod_lt _ (by decide), rfl⟩
  have en : n = B8 a0 a1 a2 a3 a4 a5 a6 a7 := by unfold B8; omega
  rw [ct_64 n, d0, d1, d2, d3, d4, d5, d6, d7, ← pb_c a0 h0, ← pb_c a1 h1, ← pb_c a2 h2, ← pb_c a3 h3, ← pb_c a4 h4, ← pb_c a5 h5, ← pb_c a6 h6, ← pb_c a7 h7]
  clear d0 d1 d2 d3 d4 d5 d6 d7
  have hB : B8 a0 a1 a2 a3 a4 a5 a6 a7 < 2 ^ 64 := by rw [← en]; exact hn
  have lit : ∀ c : Nat, c < 2 ^ 31 → True := fun _ _ => trivial
  have w1 := sw_1 h0 h1 h2 h3 h4 h5 h6 h7
  have e1 : x1 = lN (B8 (pb1 a0) (pb1 a1) (pb1 a2) (pb1 a3) (pb1 a4) (pb1 a5) (pb1 a6) (pb1 a7)) := by
    rw [e1, en, show ((lN (B8 a0 a1 a2 a3 a4 a5 a6 a7)).toUInt64 >>> ((1 : Int32).toInt64.toUInt64 &&& Int64.toUInt64 63)).toInt64 = lN (B8 a0 a1 a2 a3 a4 a5 a6 a7 / 2) from wb_shr (k := 1) hB (by decide), show (6148914691236517205 : Int64) = lN 6148914691236517205 from rfl, wb_and (by omega) (by decide), lN_sub w1.2, w1.1]
  have b : ∀ a, a < 256 → pb1 a < 256 := fun a h => (pb_1 a h 0 (by decide)).2.2
  have hB1 : B8 (pb1 a0) (pb1 a1) (pb1 a2) (pb1 a3) (pb1 a4) (pb1 a5) (pb1 a6) (pb1 a7) < 2 ^ 64 := by
    have := b a0 h0; have := b a1 h1; have := b a2 h2; have := b a3 h3; have := b a4 h4; have := b a5 h5; have := b a6 h6; have := b a7 h7
    unfold B8; omega
  have w2 := sw_2 (b a0 h0) (b a1 h1) (b a2 h2) (b a3 h3) (b a4 h4) (b a5 h5) (b a6 h6) (b a7 h7)
  have e2 : x2 = lN (B8 (pb2 (pb1 a0)) (pb2 (pb1 a1)) (pb2 (pb1 a2)) (pb2 (pb1 a3)) (pb2 (pb1 a4)) (pb2 (pb1 a5)) (pb2 (pb1 a6)) (pb2 (pb1 a7))) := by
    rw [e2, e1, show ((lN (B8 (pb1 a0) (pb1 a1) (pb1 a2) (pb1 a3) (pb1 a4) (pb1 a5) (pb1 a6) (pb1 a7))).toUInt64 >>> ((2 : Int32).toInt64.toUInt64 &&& Int64.toUInt64 63)).toInt64 = lN (B8 (pb1 a0) (pb1 a1) (pb1 a2) (pb1 a3) (pb1 a4) (pb1 a5) (pb1 a6) (pb1 a7) / 4) from wb_shr (k := 2) hB1 (by decide), show (3689348814741910323 : Int64) = lN 3689348814741910323 from rfl, wb_and hB1 (by decide), wb_and (by omega) (by decide), lN_add, w2]
  have u : ∀ a, a < 256 → pb2 (pb1 a) < 69 ∧ pb2 (pb1 a) % 16 < 5 := fun a h => ⟨by have := pb_u a h; omega, by have := pb_n a h; omega⟩
  have hB2 : B8 (pb2 (pb1 a0)) (pb2 (pb1 a1)) (pb2 (pb1 a2)) (pb2 (pb1 a3)) (pb2 (pb1 a4)) (pb2 (pb1 a5)) (pb2 (pb1 a6)) (pb2 (pb1 a7)) < 2 ^ 63 := by
    have := u a0 h0; have := u a1 h1; have := u a2 h2; have := u a3 h3; have := u a4 h4; have := u a5 h5; have := u a6 h6; have := u a7 h7
    unfold B8; omega
  have w3 := sw_3 (u a0 h0).1 (u a1 h1) (u a2 h2) (u a3 h3) (u a4 h4) (u a5 h5) (u a6 h6) (u a7 h7)
  have e3 : x3 = lN (B8 (pb3 (pb2 (pb1 a0))) (pb3 (pb2 (pb1 a1))) (pb3 (pb2 (pb1 a2))) (pb3 (pb2 (pb1 a3))) (pb3 (pb2 (pb1 a4))) (pb3 (pb2 (pb1 a5))) (pb3 (pb2 (pb1 a6))) (pb3 (pb2 (pb1 a7)))) := by
    rw [e3, e2, show ((lN (B8 (pb2 (pb1 a0)) (pb2 (pb1 a1)) (pb2 (pb1 a2)) (pb2 (pb1 a3)) (pb2 (pb1 a4)) (pb2 (pb1 a5)) (pb2 (pb1 a6)) (pb2 (pb1 a7)))).toUInt64 >>> ((4 : Int32).toInt64.toUInt64 &&& Int64.toUInt64 63)).toInt64 = lN (B8 (pb2 (pb1 a0)) (pb2 (pb1 a1)) (pb2 (pb1 a2)) (pb2 (pb1 a3)) (pb2 (pb1 a4)) (pb2 (pb1 a5)) (pb2 (pb1 a6)) (pb2 (pb1 a7)) / 16) from wb_shr (k := 4) (by omega) (by decide), show (1085102592571150095 : Int64) = lN 1085102592571150095 from rfl, lN_add, wb_and (by omega) (by decide), w3]
  have v : ∀ a, a < 256 → pb3 (pb2 (pb1 a)) < 9 := fun a h => by rw [pb_c a h]; have := fb_ct_le (fun i => a.testBit i) 8; omega
  have hB3 : B8 (pb3 (pb2 (pb1 a0))) (pb3 (pb2 (pb1 a1))) (pb3 (pb2 (pb1 a2))) (pb3 (pb2 (pb1 a3))) (pb3 (pb2 (pb1 a4))) (pb3 (pb2 (pb1 a5))) (pb3 (pb2 (pb1 a6))) (pb3 (pb2 (pb1 a7))) < 2 ^ 60 := by
    have := v a0 h0; have := v a1 h1; have := v a2 h2; have := v a3 h3; have := v a4 h4; have := v a5 h5; have := v a6 h6; have := v a7 h7
    unfold B8; omega
  generalize hz : B8 (pb3 (pb2 (pb1 a0))) (pb3 (pb2 (pb1 a1))) (pb3 (pb2 (pb1 a2))) (pb3 (pb2 (pb1 a3))) (pb3 (pb2 (pb1 a4))) (pb3 (pb2 (pb1 a5))) (pb3 (pb2 (pb1 a6))) (pb3 (pb2 (pb1 a7))) = z at *
  have e4 : x4 = lN (z + z / 256) := by rw [e4, e3, show ((lN z).toUInt64 >>> ((8 : Int32).toInt64.toUInt64 &&& Int64.toUInt64 63)).toInt64 = lN (z / 256) from wb_shr (k := 8) (by omega) (by decide), lN_add]
  obtain ⟨z4, g4⟩ : ∃ z4, z4 = z + z / 256 := ⟨_, rfl⟩
  rw [← g4] at e4
  have e5 : x5 = lN (z4 + z4 / 65536) := by rw [e5, e4, show ((lN z4).toUInt64 >>> ((16 : Int32).toInt64.toUInt64 &&& Int64.toUInt64 63)).toInt64 = lN (z4 / 65536) from wb_shr (k := 16) (by omega) (by decide), lN_add]
  obtain ⟨z5, g5⟩ : ∃ z5, z5 = z4 + z4 / 65536 := ⟨_, rfl⟩
  rw [← g5] at e5
  have e6 : x6 = lN (z5 + z5 / 4294967296) := by rw [e6, e5, show ((lN z5).toUInt64 >>> ((32 : Int32).toInt64.toUInt64 &&& Int64.toUInt64 63)).toInt64 = lN (z5 / 4294967296) from wb_shr (k := 32) (by omega) (by decide), lN_add]
  have w4 := sw_4 (v a0 h0) (v a1 h1) (v a2 h2) (v a3 h3) (v a4 h4) (v a5 h5) (v a6 h6) (v a7 h7) (x4 := z4) (x5 := z5) (x6 := z5 + z5 / 4294967296) (by rw [g4, ← hz]) g5 rfl
  rw [e6, show (lN (z5 + z5 / 4294967296)).toInt32 = nI (z5 + z5 / 4294967296) from Int64.toInt32_ofNat', show (127 : Int32) = nI (2 ^ 7 - 1) from rfl, fa_mask, ← w4.1]
theorem j_bitCount (P : Nat → Bool) : PF X l mJ13_bitCount_95d88 0 [.long (mk P)] G0 M (.int (nI (fb_ct P 64))) := by
  refine PF.ofW okJ13_bitCount_95d88 ?_
  refine PW.iret rfl rfl trivial ?_
  refine ⟨?_, rfl⟩
  have e : fb_ct P 64 = fb_ct (fun i => (bmn P 64).testBit i) 64 := fb_ct_cong (fun i hi => by rw [bmn_bit]; simp [hi])
  rw [e]
  exact congrArg (fun z => some (Value.int z)) (pop_64 (bmn_lt P 64) rfl rfl rfl rfl rfl rfl)
theorem j_fill8 (x : Int32) : PC X l mJ7_fill_53178 0 [.ref 8, .int x] G0 M (fun v M' => v = none ∧ M' = (va_up M.1 8 (fun k => if k < 6 then x else M.1 8 k), M.2)) := by
  refine PC.ofW okJ7_fill_53178 ?_
  have loop5 : ∀ k : Nat, ∀ (i : Nat) (f : Nat → Int32), i ≤ 6 → f = (fun k => if k < i then x else M.1 8 k) → 6 - i < k → PW X l mJ7_fill_53178 0 (fun v M' => v = none ∧ M' = (va_up M.1 8 (fun k => if k < 6 then x else M.1 8 k), M.2)) 5 [.ref 8, .int x, .int (nI i), .int 6] [] G0 (va_up M.1 8 f, M.2) := by
    intro k
    induction k with
    | zero => intro i f hi hf hk; exact absurd hk (Nat.not_lt_zero _)
    | succ k ih =>
      intro i f hi hf hk
      refine PW.ige rfl trivial (fun h7 => ?_) (fun h7 => ?_)
      · skip
        rw [show (6 : Int32) = nI 6 from rfl, nI_leI (by omega) (by omega)] at h7
        have e : i = 6 := by omega
        subst e
        refine PW.vret rfl rfl trivial ?_
        exact ⟨rfl, by rw [hf]⟩
      · skip
        rw [show (6 : Int32) = nI 6 from rfl, nI_leI (by omega) (by omega)] at h7
        refine PW.goto rfl ⟨trivial, vp_in_nI (by omega) (by decide)⟩ ?_
        rw [nI_clamp (by omega), nI_1, up_up]
        refine ih (i + 1) _ (by omega) ?_ (by omega)
        rw [hf]; exact fill_s (g := M.1) (f := M.1 8) (a := 8) (i := i) (x := x)
  refine PW.to 5 rfl trivial ?_
  refine PW.mc (by rw [show va_up M.1 8 (M.1 8) = M.1 from up_id]) (loop5 7 0 (M.1 8) (by omega) (by funext k; simp) (by omega))
theorem j_fill19 (x : Int32) : PC X l mJ7_fill_53178 0 [.ref 19, .int x] G0 M (fun v M' => v = none ∧ M' = (va_up M.1 19 (fun k => if k < 37 then x else M.1 19 k), M.2)) := by
  refine PC.ofW okJ7_fill_53178 ?_
  have loop5 : ∀ k : Nat, ∀ (i : Nat) (f : Nat → Int32), i ≤ 37 → f = (fun k => if k < i then x else M.1 19 k) → 37 - i < k → PW X l mJ7_fill_53178 0 (fun v M' => v = none ∧ M' = (va_up M.1 19 (fun k => if k < 37 then x else M.1 19 k), M.2)) 5 [.ref 19, .int x, .int (nI i), .int 37] [] G0 (va_up M.1 19 f, M.2) := by
    intro k
    induction k with
    | zero => intro i f hi hf hk; exact absurd hk (Nat.not_lt_zero _)
    | succ k ih =>
      intro i f hi hf hk
      refine PW.ige rfl trivial (fun h7 => ?_) (fun h7 => ?_)
      · skip
        rw [show (37 : Int32) = nI 37 from rfl, nI_leI (by omega) (by omega)] at h7
        have e : i = 37 := by omega
        subst e
        refine PW.vret rfl rfl trivial ?_
        exact ⟨rfl, by rw [hf]⟩
      · skip
        rw [show (37 : Int32) = nI 37 from rfl, nI_leI (by omega) (by omega)] at h7
        refine PW.goto rfl ⟨trivial, vp_in_nI (by omega) (by decide)⟩ ?_
        rw [nI_clamp (by omega), nI_1, up_up]
        refine ih (i + 1) _ (by omega) ?_ (by omega)
        rw [hf]; exact fill_s (g := M.1) (f := M.1 19) (a := 19) (i := i) (x := x)
  refine PW.to 5 rfl trivial ?_
  refine PW.mc (by rw [show va_up M.1 19 (M.1 19) = M.1 from up_id]) (loop5 38 0 (M.1 19) (by omega) (by funext k; simp) (by omega))
theorem j_fill27 (x : Int32) : PC X l mJ7_fill_53178 0 [.ref 27, .int x] G0 M (fun v M' => v = none ∧ M' = (va_up M.1 27 (fun k => if k < 24 then x else M.1 27 k), M.2)) := by
  refine PC.ofW okJ7_fill_53178 ?_
  have loop5 : ∀ k : Nat, ∀ (i : Nat) (f : Nat → Int32), i ≤ 24 → f = (fun k => if k < i then x else M.1 27 k) → 24 - i < k → PW X l mJ7_fill_53178 0 (fun v M' => v = none ∧ M' = (va_up M.1 27 (fun k => if k < 24 then x else M.1 27 k), M.2)) 5 [.ref 27, .int x, .int (nI i), .int 24] [] G0 (va_up M.1 27 f, M.2) := by
    intro k
    induction k with
    | zero => intro i f hi hf hk; exact absurd hk (Nat.not_lt_zero _)
    | succ k ih =>
      intro i f hi hf hk
      refine PW.ige rfl trivial (fun h7 => ?_) (fun h7 => ?_)
      · skip
        rw [show (24 : Int32) = nI 24 from rfl, nI_leI (by omega) (by omega)] at h7
        have e : i = 24 := by omega
        subst e
        refine PW.vret rfl rfl trivial ?_
        exact ⟨rfl, by rw [hf]⟩
      · skip
        rw [show (24 : Int32) = nI 24 from rfl, nI_leI (by omega) (by omega)] at h7
        refine PW.goto rfl ⟨trivial, vp_in_nI (by omega) (by decide)⟩ ?_
        rw [nI_clamp (by omega), nI_1, up_up]
        refine ih (i + 1) _ (by omega) ?_ (by omega)
        rw [hf]; exact fill_s (g := M.1) (f := M.1 27) (a := 27) (i := i) (x := x)
  refine PW.to 5 rfl trivial ?_
  refine PW.mc (by rw [show va_up M.1 27 (M.1 27) = M.1 from up_id]) (loop5 25 0 (M.1 27) (by omega) (by funext k; simp) (by omega))
theorem j_fil3 (x : Int64) : PC X l mJ7_fill_d0a16 0 [.ref 3, .long x] G0 M (fun v M' => v = none ∧ M' = (M.1, va_up M.2 3 (fun k => if k < 6 then x else M.2 3 k))) := by
  refine PC.ofW okJ7_fill_d0a16 ?_
  have loop6 : ∀ k : Nat, ∀ (i : Nat) (f : Nat → Int64), i ≤ 6 → f = (fun k => if k < i then x else M.2 3 k) → 6 - i < k → PW X l mJ7_fill_d0a16 0 (fun v M' => v = none ∧ M' = (M.1, va_up M.2 3 (fun k => if k < 6 then x else M.2 3 k))) 6 [.ref 3, .long x, .null, .int (nI i), .int 6] [] G0 (M.1, va_up M.2 3 f) := by
    intro k
    induction k with
    | zero => intro i f hi hf hk; exact absurd hk (Nat.not_lt_zero _)
    | succ k ih =>
      intro i f hi hf hk
      refine PW.ige rfl trivial (fun h9 => ?_) (fun h9 => ?_)
      · skip
        rw [show (6 : Int32) = nI 6 from rfl, nI_leI (by omega) (by omega)] at h9
        have e : i = 6 := by omega
        subst e
        refine PW.vret rfl rfl trivial ?_
        exact ⟨rfl, by rw [hf]⟩
      · skip
        rw [show (6 : Int32) = nI 6 from rfl, nI_leI (by omega) (by omega)] at h9
        refine PW.goto rfl ⟨trivial, vp_in_nI (by omega) (by decide)⟩ ?_
        rw [nI_clamp (by omega), nI_1, up_up]
        refine ih (i + 1) _ (by omega) ?_ (by omega)
        rw [hf]; exact filL_s (g := M.2) (f := M.2 3) (a := 3) (i := i) (x := x)
  refine PW.to 6 rfl trivial ?_
  refine PW.mc (by rw [show va_up M.2 3 (M.2 3) = M.2 from up_id]) (loop6 7 0 (M.2 3) (by omega) (by funext k; simp) (by omega))
theorem j_fil5 (x : Int64) : PC X l mJ7_fill_d0a16 0 [.ref 5, .long x] G0 M (fun v M' => v = none ∧ M' = (M.1, va_up M.2 5 (fun k => if k < 6 then x else M.2 5 k))) := by
  refine PC.ofW okJ7_fill_d0a16 ?_
  have loop6 : ∀ k : Nat, ∀ (i : Nat) (f : Nat → Int64), i ≤ 6 → f = (fun k => if k < i then x else M.2 5 k) → 6 - i < k → PW X l mJ7_fill_d0a16 0 (fun v M' => v = none ∧ M' = (M.1, va_up M.2 5 (fun k => if k < 6 then x else M.2 5 k))) 6 [.ref 5, .long x, .null, .int (nI i), .int 6] [] G0 (M.1, va_up M.2 5 f) := by
    intro k
    induction k with
    | zero => intro i f hi hf hk; exact absurd hk (Nat.not_lt_zero _)
    | succ k ih =>
      intro i f hi hf hk
      refine PW.ige rfl trivial (fun h9 => ?_) (fun h9 => ?_)
      · skip
        rw [show (6 : Int32) = nI 6 from rfl, nI_leI (by omega) (by omega)] at h9
        have e : i = 6 := by omega
        subst e
        refine PW.vret rfl rfl trivial ?_
        exact ⟨rfl, by rw [hf]⟩
      · skip
        rw [show (6 : Int32) = nI 6 from rfl, nI_leI (by omega) (by omega)] at h9
        refine PW.goto rfl ⟨trivial, vp_in_nI (by omega) (by decide)⟩ ?_
        rw [nI_clamp (by omega), nI_1, up_up]
        refine ih (i + 1) _ (by omega) ?_ (by omega)
        rw [hf]; exact filL_s (g := M.2) (f := M.2 5) (a := 5) (i := i) (x := x)
  refine PW.to 6 rfl trivial ?_
  refine PW.mc (by rw [show va_up M.2 5 (M.2 5) = M.2 from up_id]) (loop6 7 0 (M.2 5) (by omega) (by funext k; simp) (by omega))
theorem j_fil24 (x : Int64) : PC X l mJ7_fill_d0a16 0 [.ref 24, .long x] G0 M (fun v M' => v = none ∧ M' = (M.1, va_up M.2 24 (fun k => if k < 6 then x else M.2 24 k))) := by
  refine PC.ofW okJ7_fill_d0a16 ?_
  have loop6 : ∀ k : Nat, ∀ (i : Nat) (f : Nat → Int64), i ≤ 6 → f = (fun k => if k < i then x else M.2 24 k) → 6 - i < k → PW X l mJ7_fill_d0a16 0 (fun v M' => v = none ∧ M' = (M.1, va_up M.2 24 (fun k => if k < 6 then x else M.2 24 k))) 6 [.ref 24, .long x, .null, .int (nI i), .int 6] [] G0 (M.1, va_up M.2 24 f) := by
    intro k
    induction k with
    | zero => intro i f hi hf hk; exact absurd hk (Nat.not_lt_zero _)
    | succ k ih =>
      intro i f hi hf hk
      refine PW.ige rfl trivial (fun h9 => ?_) (fun h9 => ?_)
      · skip
        rw [show (6 : Int32) = nI 6 from rfl, nI_leI (by omega) (by omega)] at h9
        have e : i = 6 := by omega
        subst e
        refine PW.vret rfl rfl trivial ?_
        exact ⟨rfl, by rw [hf]⟩
      · skip
        rw [show (6 : Int32) = nI 6 from rfl, nI_leI (by omega) (by omega)] at h9
        refine PW.goto rfl ⟨trivial, vp_in_nI (by omega) (by decide)⟩ ?_
        rw [nI_clamp (by omega), nI_1, up_up]
        refine ih (i + 1) _ (by omega) ?_ (by omega)
        rw [hf]; exact filL_s (g := M.2) (f := M.2 24) (a := 24) (i := i) (x := x)
  refine PW.to 6 rfl trivial ?_
  refine PW.mc (by rw [show va_up M.2 24 (M.2 24) = M.2 from up_id]) (loop6 7 0 (M.2 24) (by omega) (by funext k; simp) (by omega))
theorem j_fil16 (x : Int64) : PC X l mJ7_fill_d0a16 0 [.ref 16, .long x] G0 M (fun v M' => v = none ∧ M' = (M.1, va_up M.2 16 (fun k => if k < 37 then x else M.2 16 k))) := by
  refine PC.ofW okJ7_fill_d0a16 ?_
  have loop6 : ∀ k : Nat, ∀ (i : Nat) (f : Nat → Int64), i ≤ 37 → f = (fun k => if k < i then x else M.2 16 k) → 37 - i < k → PW X l mJ7_fill_d0a16 0 (fun v M' => v = none ∧ M' = (M.1, va_up M.2 16 (fun k => if k < 37 then x else M.2 16 k))) 6 [.ref 16, .long x, .null, .int (nI i), .int 37] [] G0 (M.1, va_up M.2 16 f) := by
    intro k
    induction k with
    | zero => intro i f hi hf hk; exact absurd hk (Nat.not_lt_zero _)
    | succ k ih =>
      intro i f hi hf hk
      refine PW.ige rfl trivial (fun h9 => ?_) (fun h9 => ?_)
      · skip
        rw [show (37 : Int32) = nI 37 from rfl, nI_leI (by omega) (by omega)] at h9
        have e : i = 37 := by omega
        subst e
        refine PW.vret rfl rfl trivial ?_
        exact ⟨rfl, by rw [hf]⟩
      · skip
        rw [show (37 : Int32) = nI 37 from rfl, nI_leI (by omega) (by omega)] at h9
        refine PW.goto rfl ⟨trivial, vp_in_nI (by omega) (by decide)⟩ ?_
        rw [nI_clamp (by omega), nI_1, up_up]
        refine ih (i + 1) _ (by omega) ?_ (by omega)
        rw [hf]; exact filL_s (g := M.2) (f := M.2 16) (a := 16) (i := i) (x := x)
  refine PW.to 6 rfl trivial ?_
  refine PW.mc (by rw [show va_up M.2 16 (M.2 16) = M.2 from up_id]) (loop6 38 0 (M.2 16) (by omega) (by funext k; simp) (by omega))
theorem j_fil17 (x : Int64) : PC X l mJ7_fill_d0a16 0 [.ref 17, .long x] G0 M (fun v M' => v = none ∧ M' = (M.1, va_up M.2 17 (fun k => if k < 37 then x else M.2 17 k))) := by
  refine PC.ofW okJ7_fill_d0a16 ?_
  have loop6 : ∀ k : Nat, ∀ (i : Nat) (f : Nat → Int64), i ≤ 37 → f = (fun k => if k < i then x else M.2 17 k) → 37 - i < k → PW X l mJ7_fill_d0a16 0 (fun v M' => v = none ∧ M' = (M.1, va_up M.2 17 (fun k => if k < 37 then x else M.2 17 k))) 6 [.ref 17, .long x, .null, .int (nI i), .int 37] [] G0 (M.1, va_up M.2 17 f) := by
    intro k
    induction k with
    | zero => intro i f hi hf hk; exact absurd hk (Nat.not_lt_zero _)
    | succ k ih =>
      intro i f hi hf hk
      refine PW.ige rfl trivial (fun h9 => ?_) (fun h9 => ?_)
      · skip
        rw [show (37 : Int32) = nI 37 from rfl, nI_leI (by omega) (by omega)] at h9
        have e : i = 37 := by omega
        subst e
        refine PW.vret rfl rfl trivial ?_
        exact ⟨rfl, by rw [hf]⟩
      · skip
        rw [show (37 : Int32) = nI 37 from rfl, nI_leI (by omega) (by omega)] at h9
        refine PW.goto rfl ⟨trivial, vp_in_nI (by omega) (by decide)⟩ ?_
        rw [nI_clamp (by omega), nI_1, up_up]
        refine ih (i + 1) _ (by omega) ?_ (by omega)
        rw [hf]; exact filL_s (g := M.2) (f := M.2 17) (a := 17) (i := i) (x := x)
  refine PW.to 6 rfl trivial ?_
  refine PW.mc (by rw [show va_up M.2 17 (M.2 17) = M.2 from up_id]) (loop6 38 0 (M.2 17) (by omega) (by funext k; simp) (by omega))
theorem j_fil18 (x : Int64) : PC X l mJ7_fill_d0a16 0 [.ref 18, .long x] G0 M (fun v M' => v = none ∧ M' = (M.1, va_up M.2 18 (fun k => if k < 37 then x else M.2 18 k))) := by
  refine PC.ofW okJ7_fill_d0a16 ?_
  have loop6 : ∀ k : Nat, ∀ (i : Nat) (f : Nat → Int64), i ≤ 37 → f = (fun k => if k < i then x else M.2 18 k) → 37 - i < k → PW X l mJ7_fill_d0a16 0 (fun v M' => v = none ∧ M' = (M.1, va_up M.2 18 (fun k => if k < 37 then x else M.2 18 k))) 6 [.ref 18, .long x, .null, .int (nI i), .int 37] [] G0 (M.1, va_up M.2 18 f) := by
    intro k
    induction k with
    | zero => intro i f hi hf hk; exact absurd hk (Nat.not_lt_zero _)
    | succ k ih =>
      intro i f hi hf hk
      refine PW.ige rfl trivial (fun h9 => ?_) (fun h9 => ?_)
      · skip
        rw [show (37 : Int32) = nI 37 from rfl, nI_leI (by omega) (by omega)] at h9
        have e : i = 37 := by omega
        subst e
        refine PW.vret rfl rfl trivial ?_
        exact ⟨rfl, by rw [hf]⟩
      · skip
        rw [show (37 : Int32) = nI 37 from rfl, nI_leI (by omega) (by omega)] at h9
        refine PW.goto rfl ⟨trivial, vp_in_nI (by omega) (by decide)⟩ ?_
        rw [nI_clamp (by omega), nI_1, up_up]
        refine ih (i + 1) _ (by omega) ?_ (by omega)
        rw [hf]; exact filL_s (g := M.2) (f := M.2 18) (a := 18) (i := i) (x := x)
  refine PW.to 6 rfl trivial ?_
  refine PW.mc (by rw [show va_up M.2 18 (M.2 18) = M.2 from up_id]) (loop6 38 0 (M.2 18) (by omega) (by funext k; simp) (by omega))
end M17
