/-! Math's abs, max, min; a row of longs copied -/
theorem nl_abs : ∀ q ∈ nl_tbl, q.2.2 ≠ yJ9_abs_0f7a4 ∧ q.2.2 ≠ yJ9_max_7cf53 ∧ q.2.2 ≠ yJ9_min_7cf53 := by decide +kernel
theorem ma_abs : Cond.code Lib.Math.abs.name Lib.Math.abs.code 1 (some .int) ∈ lw_g := caJ9_abs_0f7a4.1
theorem ma_max : Cond.code Lib.Math.max.name Lib.Math.max.code 2 (some .int) ∈ lw_g := caJ9_max_7cf53.1
theorem ma_min : Cond.code Lib.Math.min.name Lib.Math.min.code 2 (some .int) ∈ lw_g := caJ9_min_7cf53.1
theorem cp_link : Cond.methodLink "PeopleLands$Sheet" 25 arraycopyName ∈ lw_g := lw_mem (i := 361) (by decide +kernel) (by decide +kernel)
theorem cp_stat : Cond.static arraycopyName ∈ lw_g := lw_mem (i := 362) (by decide +kernel) (by decide +kernel)
theorem cp_nat : Cond.native arraycopyName ∈ lw_g := lw_mem (i := 363) (by decide +kernel) (by decide +kernel)
theorem cp_ini : Cond.initialized "java/lang/System" ∈ lw_g := lw_mem (i := 63) (by decide +kernel) (by decide +kernel)
section Mx
variable {X : Cx} {l : Launch} {mt : Mt} {rk : Nat} {Q : Option Value → Mem → Prop} {pc : Nat} {L S : List Value} {G : List Shp} {M : Mem}
theorem PW.mabs {p1 len ci tgt idx : Nat} {v : Int32} {w : Int64} {T' : List It} {C : Prop} {L' S' : List Value} {M' : Mem} {x : Int32}
    (h : am_r G (am_t mt.2.2.2.2 pc) True L S M = some (C, (p1, .invokestatic idx, len, ci, tgt, v, w) :: T', L', .int x :: S', M')) (hC : C) (hsi : am_siS mt.1.cls idx mJ9_abs_0f7a4 1) (hrk : 0 < rk) (hcat : Nat.ble (S'.map fun v => v.category).sum 8 = true)
    (k : PW X l mt rk Q (p1 + 3) L' (.int (if 0 ≤ x then x else -x) :: S') G M') : PW X l mt rk Q pc L S G M := by
  refine AW.run h hC (fun hq => AW.ok fun hok => ?_)
  have hd := am_dec_at hok.1 hq
  have hw := List.all_eq_true.mp hok.2 _ hq
  have hl3 : len = 3 := by simpa [am_wd] using hw
  subst hl3
  have hl := hsi.1.resolve_right (fun q => (nl_abs _ q).1 rfl)
  intro _ p e s m args below meth c H locs ls hCx hH hL
  have hts := hCx.2.2.2.2.2.2.2.1
  have hcat := Nat.le_of_ble_eq_true hcat
  refine va_mabs hCx.1 hCx.2.1 (by rw [hCx.2.2.1, hL.2.1]) hCx.2.2.2.2.2.2.1 (hts _ hl) (hts _ hsi.2.2) (hts _ hsi.2.1.2.1) (hts _ ma_abs) (show 1 ≤ (am_R rk 0 0).frames from hrk) (by rw [am_sum]; simp only [am_R]; omega) (Nat.le_refl _) (Nat.le_refl _) hd ?_
  have k2 := k hok p e s m args below meth c H locs ls hCx hH hL
  rw [show (0 : Int32) - x = -x from Int32.zero_sub x]
  exact k2
theorem PW.mmax {p1 len ci tgt idx : Nat} {v : Int32} {w : Int64} {T' : List It} {C : Prop} {L' S' : List Value} {M' : Mem} {x y : Int32}
    (h : am_r G (am_t mt.2.2.2.2 pc) True L S M = some (C, (p1, .invokestatic idx, len, ci, tgt, v, w) :: T', L', .int y :: .int x :: S', M')) (hC : C) (hsi : am_siS mt.1.cls idx mJ9_max_7cf53 2) (hrk : 0 < rk) (hcat : Nat.ble (S'.map fun v => v.category).sum 8 = true)
    (k : PW X l mt rk Q (p1 + 3) L' (.int (if x < y then y else x) :: S') G M') : PW X l mt rk Q pc L S G M := by
  refine AW.run h hC (fun hq => AW.ok fun hok => ?_)
  have hd := am_dec_at hok.1 hq
  have hw := List.all_eq_true.mp hok.2 _ hq
  have hl3 : len = 3 := by simpa [am_wd] using hw
  subst hl3
  have hl := hsi.1.resolve_right (fun q => (nl_abs _ q).2.1 rfl)
  intro _ p e s m args below meth c H locs ls hCx hH hL
  have hts := hCx.2.2.2.2.2.2.2.1
  have hcat := Nat.le_of_ble_eq_true hcat
  exact va_mmax hCx.1 hCx.2.1 (by rw [hCx.2.2.1, hL.2.1]) hCx.2.2.2.2.2.2.1 (hts _ hl) (hts _ hsi.2.2) (hts _ hsi.2.1.2.1) (hts _ ma_max) (show 1 ≤ (am_R rk 0 0).frames from hrk) (by rw [am_sum]; simp only [am_R]; omega) (Nat.le_refl _) (Nat.le_refl _) hd (k hok p e s m args below meth c H locs ls hCx hH hL)
theorem PW.mmin {p1 len ci tgt idx : Nat} {v : Int32} {w : Int64} {T' : List It} {C : Prop} {L' S' : List Value} {M' : Mem} {x y : Int32}
    (h : am_r G (am_t mt.2.2.2.2 pc) True L S M = some (C, (p1, .invokestatic idx, len, ci, tgt, v, w) :: T', L', .int y :: .int x :: S', M')) (hC : C) (hsi : am_siS mt.1.cls idx mJ9_min_7cf53 2) (hrk : 0 < rk) (hcat : Nat.ble (S'.map fun v => v.category).sum 8 = true)
    (k : PW X l mt rk Q (p1 + 3) L' (.int (if y < x then y else x) :: S') G M') : PW X l mt rk Q pc L S G M := by
  refine AW.run h hC (fun hq => AW.ok fun hok => ?_)
  have hd := am_dec_at hok.1 hq
  have hw := List.all_eq_true.mp hok.2 _ hq
  have hl3 : len = 3 := by simpa [am_wd] using hw
  subst hl3
  have hl := hsi.1.resolve_right (fun q => (nl_abs _ q).2.2 rfl)
  intro _ p e s m args below meth c H locs ls hCx hH hL
  have hts := hCx.2.2.2.2.2.2.2.1
  have hcat := Nat.le_of_ble_eq_true hcat
  exact va_mmin hCx.1 hCx.2.1 (by rw [hCx.2.2.1, hL.2.1]) hCx.2.2.2.2.2.2.1 (hts _ hl) (hts _ hsi.2.2) (hts _ hsi.2.1.2.1) (hts _ ma_min) (show 1 ≤ (am_R rk 0 0).frames from hrk) (by rw [am_sum]; simp only [am_R]; omega) (Nat.le_refl _) (Nat.le_refl _) hd (k hok p e s m args below meth c H locs ls hCx hH hL)
theorem PW.copyL {p1 len ci tgt idx a0 a1 : Nat} {v : Int32} {w : Int64} {T' : List It} {C : Prop} {L' S' : List Value} {M' : Mem}
    (h : am_r G (am_t mt.2.2.2.2 pc) True L S M = some (C, (p1, .invokestatic idx, len, ci, tgt, v, w) :: T', L', .int 6 :: .int 0 :: .ref a1 :: .int 0 :: .ref a0 :: S', M')) (hC : C) (hl : Cond.methodLink mt.1.cls idx arraycopyName ∈ lw_g) (g0 : am_sh G a0 = some (.inl (1, 6))) (g1 : am_sh G a1 = some (.inl (1, 6))) (hrk : 0 < rk) (hcat : Nat.ble (S'.map fun v => v.category).sum 8 = true)
    (k : PW X l mt rk Q (p1 + 3) L' S' G (M'.1, va_up M'.2 a1 (va_cpy (M'.2 a0) (M'.2 a1) 0 0 6))) : PW X l mt rk Q pc L S G M := by
  refine AW.run h hC (fun hq => AW.ok fun hok => ?_)
  have hd := am_dec_at hok.1 hq
  have hw := List.all_eq_true.mp hok.2 _ hq
  have hl3 : len = 3 := by simpa [am_wd] using hw
  subst hl3
  intro _ p e s m args below meth c H locs ls hCx hH hL
  have hts := hCx.2.2.2.2.2.2.2.1
  have hK := hCx.2.2.2.2.2.2.2.2.1
  have hcat := Nat.le_of_ble_eq_true hcat
  rw [am_sh_eq] at g0 g1
  refine va_copyl hCx.1 hCx.2.1 (by rw [hCx.2.2.1, hL.2.1]) hCx.2.2.2.2.2.2.1 (hts _ hl) (hts _ cp_nat) (hts _ cp_stat) (hts _ cp_ini) hK.1 hH.1 (am_D X G M') hH.2.2 a0 a1 1 1 (ty := .long) (am_w_at g0) (am_w_at g1) rfl rfl rfl (by decide) (by decide) (by decide) (by decide) (by decide) (fun _ _ => rfl) (show 1 ≤ (am_R rk 0 0).frames from hrk) ?_ hd (fun H1 locs1 hP1 hD1 hS1 => ?_)
  · rw [am_sum]
    have : nativeFrameWords "java/lang/System" "arraycopy" 5 ≤ 28 := by decide
    simp only [am_R]; omega
  · rw [show Int32.toNatClampNeg 0 = 0 by decide, show Int32.toNatClampNeg 6 = 6 by decide] at hP1
    rw [am_w_set (M := M') (M' := (M'.1, va_up M'.2 a1 (va_cpy (M'.2 a0) (M'.2 a1) 0 0 6))) (h := .inl (1, 6)) g1 (e := .inl (X.2.2 1, 6, .inr (.inl (va_cpy (M'.2 a0) (M'.2 a1) 0 0 6)))) (by simp only [am_e, va_up, if_true]) (fun b hb => ⟨rfl, by simp [va_up, hb]⟩)] at hP1
    exact k hok p e s m args below meth c H1 locs1 ls hCx ⟨hP1, hH.2.1, hS1⟩ hL
end Mx
