/-! one simple instruction is sound -/
theorem am_h_of : ∀ {L : List Value} {i : Nat}, i < L.length → am_h L i = true
  | [], _, h => by simp at h
  | _ :: _, 0, _ => rfl
  | _ :: L, n + 1, h => am_h_of (L := L) (i := n) (by simpa using h)
theorem am_put {X : Cx} {M M' : Mem} {a k0 : Nat} {cs : List Nat} {v : Value} {c0 : Nat} (h0 : cs[k0]? = some c0) (h1 : am_v X.1 (am_u M' a k0 c0) = v) (h2 : ∀ j c, j ≠ k0 → am_u M' a j c = am_u M a j c) :
    cs.mapIdx (fun j c => am_v X.1 (am_u M' a j c)) = (cs.mapIdx (fun j c => am_v X.1 (am_u M a j c))).set k0 v := by
  apply List.ext_getElem?
  intro j
  by_cases hj : j = k0
  · subst hj
    have hl : j < cs.length := (List.getElem?_eq_some_iff.mp h0).1
    rw [List.getElem?_set_self (by simpa using hl), List.getElem?_mapIdx, h0]
    simp [h1]
  · rw [List.getElem?_set_ne (Ne.symm hj), List.getElem?_mapIdx, List.getElem?_mapIdx]
    cases cs[j]? with
    | none => rfl
    | some c => simp [h2 j c hj]
section Sy
variable {X : Cx} {l : Launch} {mt : Mt} {R : Room} {mc ms : Nat} {Q : Option Value → List Shp → Mem → Prop} {kc ks pc : Nat} {L S : List Value} {G : List Shp} {M : Mem}
theorem AW.ok (h : am_ok mt → AW X l mt R mc ms Q kc ks pc L S G M) : AW X l mt R mc ms Q kc ks pc L S G M := fun hok => h hok hok
set_option maxHeartbeats 4000000 in
theorem am_x_sound {c : Option Prop} {L' S' : List Value} {M' : Mem} {q : It} (hq : q ∈ mt.2.2.2.2) (h : am_x G q L S M = some (c, L', S', M')) (hc : ∀ P, c = some P → P) (k : AW X l mt R mc ms Q kc ks (q.1 + q.2.2.1) L' S' G M') : AW X l mt R mc ms Q kc ks q.1 L S G M := by
  refine AW.ok (fun hok => ?_)
  have hd := am_dec_at hok.1 hq
  have hw := List.all_eq_true.mp hok.2 q hq
  obtain ⟨pc, i, len, ci, k0, v, w⟩ := q
  dsimp only at hd k ⊢
  cases i with
  | iconst n =>
    simp only [am_wd, Bool.and_eq_true, Nat.beq_eq, decide_eq_true_eq] at hw
    obtain ⟨rfl, hv⟩ := hw
    simp only [am_x] at h
    cases h
    exact AW.plain (fun p e s m args below meth c H locs ls Z hC hP hL kk => lv_iconst hC.1 hC.2.1 hd hv kk) k
  | bipush n =>
    simp only [am_wd, Bool.and_eq_true, Nat.beq_eq, decide_eq_true_eq] at hw
    obtain ⟨rfl, hv⟩ := hw
    simp only [am_x] at h
    cases h
    exact AW.plain (fun p e s m args below meth c H locs ls Z hC hP hL kk => lv_bipush hC.1 hC.2.1 hd hv kk) k
  | sipush n =>
    simp only [am_wd, Bool.and_eq_true, Nat.beq_eq, decide_eq_true_eq] at hw
    obtain ⟨rfl, hv⟩ := hw
    simp only [am_x] at h
    cases h
    exact AW.plain (fun p e s m args below meth c H locs ls Z hC hP hL kk => lv_sipush hC.1 hC.2.1 hd hv kk) k
  | lconst n =>
    simp only [am_wd, Bool.and_eq_true, Nat.beq_eq, decide_eq_true_eq] at hw
    obtain ⟨rfl, hv⟩ := hw
    simp only [am_x] at h
    cases h
    exact AW.plain (fun p e s m args below meth c H locs ls Z hC hP hL kk => lv_lconst hC.1 hC.2.1 hd hv kk) k
  | ldc n =>
    simp only [am_wd, Bool.and_eq_true, Nat.beq_eq, decide_eq_true_eq] at hw
    obtain ⟨rfl, hv⟩ := hw
    simp only [am_x] at h
    cases h
    exact AW.plain (fun p e s m args below meth c H locs ls Z hC hP hL kk => lv_ldc hC.1 hC.2.1 hC.2.2.2.2.2.2.1 (hC.2.2.2.2.2.2.2.1 _ (fl_in _ hv)) hd kk) k
  | ldc2_w n =>
    simp only [am_wd, Bool.and_eq_true, Nat.beq_eq, decide_eq_true_eq] at hw
    obtain ⟨rfl, hv⟩ := hw
    simp only [am_x] at h
    cases h
    exact AW.plain (fun p e s m args below meth c H locs ls Z hC hP hL kk => lv_ldc2 hC.1 hC.2.1 hC.2.2.2.2.2.2.1 (hC.2.2.2.2.2.2.2.1 _ (fl_in _ hv)) hd kk) k
  | iload j =>
    have hl : len = 2 := by simpa [am_wd] using hw
    subst hl
    simp only [am_x] at h
    split at h
    · rename_i x hx
      cases h
      exact AW.plain (fun p e s m args below meth c H locs ls Z hC hP hL kk => lv_iload hC.1 hC.2.1 hd (AW.ld hx (by simp) hL) kk) k
    · cases h
  | iload_n j =>
    have hl : len = 1 := by simpa [am_wd] using hw
    subst hl
    simp only [am_x] at h
    split at h
    · rename_i x hx
      cases h
      exact AW.plain (fun p e s m args below meth c H locs ls Z hC hP hL kk => lv_iload_n hC.1 hC.2.1 hd rfl (AW.ld hx (by simp) hL) kk) k
    · cases h
  | lload j =>
    have hl : len = 2 := by simpa [am_wd] using hw
    subst hl
    simp only [am_x] at h
    split at h
    · rename_i x hx
      cases h
      exact AW.plain (fun p e s m args below meth c H locs ls Z hC hP hL kk => lv_lload hC.1 hC.2.1 hd (AW.ld hx (by simp) hL) kk) k
    · cases h
  | lload_n j =>
    have hl : len = 1 := by simpa [am_wd] using hw
    subst hl
    simp only [am_x] at h
    split at h
    · rename_i x hx
      cases h
      exact AW.plain (fun p e s m args below meth c H locs ls Z hC hP hL kk => lv_lload_n hC.1 hC.2.1 hd rfl (AW.ld hx (by simp) hL) kk) k
    · cases h
  | aload j =>
    have hl : len = 2 := by simpa [am_wd] using hw
    subst hl
    simp only [am_x] at h
    split at h
    · rename_i x hx
      cases h
      exact AW.plain (fun p e s m args below meth c H locs ls Z hC hP hL kk => lv_aload hC.1 hC.2.1 hd (AW.ld hx (by simp) hL) kk) k
    · cases h
  | aload_n j =>
    have hl : len = 1 := by simpa [am_wd] using hw
    subst hl
    simp only [am_x] at h
    split at h
    · rename_i x hx
      cases h
      exact AW.plain (fun p e s m args below meth c H locs ls Z hC hP hL kk => lv_aload_n hC.1 hC.2.1 hd rfl (AW.ld hx (by simp) hL) kk) k
    · cases h
  | istore j =>
    have hl : len = 2 := by simpa [am_wd] using hw
    subst hl
    simp only [am_x] at h
    split at h
    · split at h
      · rename_i hi
        rw [am_fc_eq] at h
        cases h
        exact AW.st1 (v := .int _) hi (by simp) (fun p e s m args below meth c H locs ls Z hC hL hh hn kk => lv_istore hC.1 hC.2.1 hd hh hn rfl kk) k
      · cases h
    · cases h
  | istore_n j =>
    have hl : len = 1 := by simpa [am_wd] using hw
    subst hl
    simp only [am_x] at h
    split at h
    · split at h
      · rename_i hi
        rw [am_fc_eq] at h
        cases h
        exact AW.st1 (v := .int _) hi (by simp) (fun p e s m args below meth c H locs ls Z hC hL hh hn kk => lv_istore_n hC.1 hC.2.1 hd rfl hh hn rfl kk) k
      · cases h
    · cases h
  | astore j =>
    have hl : len = 2 := by simpa [am_wd] using hw
    subst hl
    simp only [am_x] at h
    split at h
    · split at h
      · rename_i hi
        rw [am_fc_eq] at h
        cases h
        exact AW.st1 (v := .ref _) hi (by simp) (fun p e s m args below meth c H locs ls Z hC hL hh hn kk => lv_astore hC.1 hC.2.1 hd hh hn rfl kk) k
      · cases h
    · cases h
  | astore_n j =>
    have hl : len = 1 := by simpa [am_wd] using hw
    subst hl
    simp only [am_x] at h
    split at h
    · split at h
      · rename_i hi
        rw [am_fc_eq] at h
        cases h
        exact AW.st1 (v := .ref _) hi (by simp) (fun p e s m args below meth c H locs ls Z hC hL hh hn kk => lv_astore_n hC.1 hC.2.1 hd rfl hh hn rfl kk) k
      · cases h
    · cases h
  | lstore j =>
    have hl : len = 2 := by simpa [am_wd] using hw
    subst hl
    simp only [am_x] at h
    split at h
    · split at h
      · rename_i hi
        rw [am_fc_eq] at h
        cases h
        exact AW.st2 (v := .long _) hi (by simp) (fun p e s m args below meth c H locs ls Z hC hh hn kk => lv_lstore hC.1 hC.2.1 hd hh hn rfl kk) k
      · cases h
    · cases h
  | lstore_n j =>
    have hl : len = 1 := by simpa [am_wd] using hw
    subst hl
    simp only [am_x] at h
    split at h
    · split at h
      · rename_i hi
        rw [am_fc_eq] at h
        cases h
        exact AW.st2 (v := .long _) hi (by simp) (fun p e s m args below meth c H locs ls Z hC hh hn kk => lv_lstore_n hC.1 hC.2.1 hd rfl hh hn rfl kk) k
      · cases h
    · cases h
  | iinc j n =>
    simp only [am_wd, Bool.and_eq_true, Nat.beq_eq, decide_eq_true_eq] at hw
    obtain ⟨rfl, hv⟩ := hw
    simp only [am_x] at h
    split at h
    · rename_i x hx
      rw [am_fc_eq] at h
      cases h
      have hne : am_g L j ≠ .null := by rw [hx]; simp
      refine AW.st1 (am_h_of (am_g_lt hne)) (by simp) (fun p e s m args below meth c H locs ls Z hC hL hh hn kk => ?_) k
      obtain ⟨n2, hn2⟩ := List.getElem?_of_mem (am_l_in (X := X) (am_g_lt hne) hne)
      rw [hx] at hn2
      exact lv_iinc hC.1 hC.2.1 hd hh hn2 (by rw [hv]) hn rfl kk
    · cases h
  | iadd =>
    have hl : len = 1 := by simpa [am_wd] using hw
    subst hl
    simp only [am_x] at h
    split at h
    · cases h
      exact AW.plain (fun p e s m args below meth c H locs ls Z hC hP hL kk => lv_iadd hC.1 hC.2.1 hd kk) k
    · cases h
  | isub =>
    have hl : len = 1 := by simpa [am_wd] using hw
    subst hl
    simp only [am_x] at h
    split at h
    · cases h
      exact AW.plain (fun p e s m args below meth c H locs ls Z hC hP hL kk => lv_isub hC.1 hC.2.1 hd kk) k
    · cases h
  | imul =>
    have hl : len = 1 := by simpa [am_wd] using hw
    subst hl
    simp only [am_x] at h
    split at h
    · cases h
      exact AW.plain (fun p e s m args below meth c H locs ls Z hC hP hL kk => lv_imul hC.1 hC.2.1 hd kk) k
    · cases h
  | iand =>
    have hl : len = 1 := by simpa [am_wd] using hw
    subst hl
    simp only [am_x] at h
    split at h
    · cases h
      exact AW.plain (fun p e s m args below meth c H locs ls Z hC hP hL kk => lv_iand hC.1 hC.2.1 hd kk) k
    · cases h
  | ior =>
    have hl : len = 1 := by simpa [am_wd] using hw
    subst hl
    simp only [am_x] at h
    split at h
    · cases h
      exact AW.plain (fun p e s m args below meth c H locs ls Z hC hP hL kk => lv_ior hC.1 hC.2.1 hd kk) k
    · cases h
  | ixor =>
    have hl : len = 1 := by simpa [am_wd] using hw
    subst hl
    simp only [am_x] at h
    split at h
    · cases h
      exact AW.plain (fun p e s m args below meth c H locs ls Z hC hP hL kk => lv_ixor hC.1 hC.2.1 hd kk) k
    · cases h
  | ishl =>
    have hl : len = 1 := by simpa [am_wd] using hw
    subst hl
    simp only [am_x] at h
    split at h
    · cases h
      exact AW.plain (fun p e s m args below meth c H locs ls Z hC hP hL kk => lv_ishl hC.1 hC.2.1 hd kk) k
    · cases h
  | ishr =>
    have hl : len = 1 := by simpa [am_wd] using hw
    subst hl
    simp only [am_x] at h
    split at h
    · cases h
      exact AW.plain (fun p e s m args below meth c H locs ls Z hC hP hL kk => lv_ishr hC.1 hC.2.1 hd kk) k
    · cases h
  | ineg =>
    have hl : len = 1 := by simpa [am_wd] using hw
    subst hl
    simp only [am_x] at h
    split at h
    · cases h
      exact AW.plain (fun p e s m args below meth c H locs ls Z hC hP hL kk => lv_ineg hC.1 hC.2.1 hd kk) k
    · cases h
  | ladd =>
    have hl : len = 1 := by simpa [am_wd] using hw
    subst hl
    simp only [am_x] at h
    split at h
    · cases h
      exact AW.plain (fun p e s m args below meth c H locs ls Z hC hP hL kk => lv_ladd hC.1 hC.2.1 hd kk) k
    · cases h
  | lsub =>
    have hl : len = 1 := by simpa [am_wd] using hw
    subst hl
    simp only [am_x] at h
    split at h
    · cases h
      exact AW.plain (fun p e s m args below meth c H locs ls Z hC hP hL kk => lv_lsub hC.1 hC.2.1 hd kk) k
    · cases h
  | lmul =>
    have hl : len = 1 := by simpa [am_wd] using hw
    subst hl
    simp only [am_x] at h
    split at h
    · cases h
      exact AW.plain (fun p e s m args below meth c H locs ls Z hC hP hL kk => lv_lmul hC.1 hC.2.1 hd kk) k
    · cases h
  | land =>
    have hl : len = 1 := by simpa [am_wd] using hw
    subst hl
    simp only [am_x] at h
    split at h
    · cases h
      exact AW.plain (fun p e s m args below meth c H locs ls Z hC hP hL kk => lv_land hC.1 hC.2.1 hd kk) k
    · cases h
  | lor =>
    have hl : len = 1 := by simpa [am_wd] using hw
    subst hl
    simp only [am_x] at h
    split at h
    · cases h
      exact AW.plain (fun p e s m args below meth c H locs ls Z hC hP hL kk => lv_lor hC.1 hC.2.1 hd kk) k
    · cases h
  | lxor =>
    have hl : len = 1 := by simpa [am_wd] using hw
    subst hl
    simp only [am_x] at h
    split at h
    · cases h
      exact AW.plain (fun p e s m args below meth c H locs ls Z hC hP hL kk => lv_lxor hC.1 hC.2.1 hd kk) k
    · cases h
  | lneg =>
    have hl : len = 1 := by simpa [am_wd] using hw
    subst hl
    simp only [am_x] at h
    split at h
    · cases h
      exact AW.plain (fun p e s m args below meth c H locs ls Z hC hP hL kk => lv_lneg hC.1 hC.2.1 hd kk) k
    · cases h
  | idiv =>
    have hl : len = 1 := by simpa [am_wd] using hw
    subst hl
    simp only [am_x] at h
    split at h
    · cases h
      exact AW.plain (fun p e s m args below meth c H locs ls Z hC hP hL kk => lv_idiv hC.1 hC.2.1 hd (hc _ rfl) kk) k
    · cases h
  | irem =>
    have hl : len = 1 := by simpa [am_wd] using hw
    subst hl
    simp only [am_x] at h
    split at h
    · cases h
      exact AW.plain (fun p e s m args below meth c H locs ls Z hC hP hL kk => lv_irem hC.1 hC.2.1 hd (hc _ rfl) kk) k
    · cases h
  | ldiv =>
    have hl : len = 1 := by simpa [am_wd] using hw
    subst hl
    simp only [am_x] at h
    split at h
    · cases h
      exact AW.plain (fun p e s m args below meth c H locs ls Z hC hP hL kk => lv_ldiv hC.1 hC.2.1 hd (hc _ rfl) kk) k
    · cases h
  | lshl =>
    have hl : len = 1 := by simpa [am_wd] using hw
    subst hl
    simp only [am_x] at h
    split at h
    · cases h
      exact AW.plain (fun p e s m args below meth c H locs ls Z hC hP hL kk => lv_lshl hC.1 hC.2.1 hd rfl kk) k
    · cases h
  | lushr =>
    have hl : len = 1 := by simpa [am_wd] using hw
    subst hl
    simp only [am_x] at h
    split at h
    · cases h
      exact AW.plain (fun p e s m args below meth c H locs ls Z hC hP hL kk => lv_lushr hC.1 hC.2.1 hd rfl kk) k
    · cases h
  | i2l =>
    have hl : len = 1 := by simpa [am_wd] using hw
    subst hl
    simp only [am_x] at h
    split at h
    · cases h
      exact AW.plain (fun p e s m args below meth c H locs ls Z hC hP hL kk => lv_i2l hC.1 hC.2.1 hd rfl kk) k
    · cases h
  | l2i =>
    have hl : len = 1 := by simpa [am_wd] using hw
    subst hl
    simp only [am_x] at h
    split at h
    · cases h
      exact AW.plain (fun p e s m args below meth c H locs ls Z hC hP hL kk => lv_l2i hC.1 hC.2.1 hd rfl kk) k
    · cases h
  | lcmp =>
    have hl : len = 1 := by simpa [am_wd] using hw
    subst hl
    simp only [am_x] at h
    split at h
    · cases h
      exact AW.plain (fun p e s m args below meth c H locs ls Z hC hP hL kk => W.lcmp hC.1 hC.2.1 hd kk) k
    · cases h
  | dup =>
    have hl : len = 1 := by simpa [am_wd] using hw
    subst hl
    simp only [am_x] at h
    split at h
    · cases h
      exact AW.plain (fun p e s m args below meth c H locs ls Z hC hP hL kk => lv_dup hC.1 hC.2.1 hd rfl kk) k
    · cases h
      exact AW.plain (fun p e s m args below meth c H locs ls Z hC hP hL kk => lv_dup hC.1 hC.2.1 hd rfl kk) k
    · cases h
  | pop =>
    have hl : len = 1 := by simpa [am_wd] using hw
    subst hl
    simp only [am_x] at h
    split at h
    · cases h
      exact AW.plain (S := .int _ :: _) (fun p e s m args below meth c H locs ls Z hC hP hL kk => lv_pop hC.1 hC.2.1 hd rfl kk) k
    · cases h
      exact AW.plain (S := .ref _ :: _) (fun p e s m args below meth c H locs ls Z hC hP hL kk => lv_pop hC.1 hC.2.1 hd rfl kk) k
    · cases h
  | dup2 =>
    have hl : len = 1 := by simpa [am_wd] using hw
    subst hl
    simp only [am_x] at h
    split at h
    · cases h
      exact AW.plain (fun p e s m args below meth c H locs ls Z hC hP hL kk => lv_dup2_11 hC.1 hC.2.1 hd rfl rfl kk) k
    · cases h
      exact AW.plain (fun p e s m args below meth c H locs ls Z hC hP hL kk => lv_dup2_11 hC.1 hC.2.1 hd rfl rfl kk) k
    · cases h
      exact AW.plain (fun p e s m args below meth c H locs ls Z hC hP hL kk => lv_dup2_2 hC.1 hC.2.1 hd rfl kk) k
    · cases h
  | getfield n =>
    simp only [am_wd, Bool.and_eq_true, Nat.beq_eq] at hw
    obtain ⟨rfl, hw⟩ := hw
    split at hw
    case h_2 => cases hw
    rename_i r hr
    simp only [Bool.and_eq_true, decide_eq_true_eq] at hw
    simp only [am_x] at h
    split at h
    case h_2 => cases h
    rename_i a S0
    split at h
    case h_2 => cases h
    rename_i cj cs hG
    split at h
    case h_2 => cases h
    rename_i hb
    rw [Nat.beq_eq] at hb
    subst hb
    have he := am_w_at (X := X) (M := M) (by rw [← am_sh_eq]; exact hG)
    simp only [am_e] at he
    split at h
    · rename_i hn
      rw [am_nth_eq] at hn
      cases h
      exact AW.plain (fun p e s m args below meth c H locs ls Z hC hP hL kk => va_get (D := X.2.1) (C := r.1) (T := r.2.1) (N := r.2.2) hC.1 hC.2.1 hC.2.2.2.2.2.2.2.1 (cl_in r (List.mem_of_getElem? hr)) hC.2.2.2.2.2.2.1 hC.2.2.2.2.2.2.2.2.1.1 hP a he hr k0 hw.1 (hC.2.2.2.2.2.2.2.1 _ (fl_in _ hw.2)) (fun _ h9 => h9) (by rw [List.getElem?_mapIdx, hn]; rfl) hd kk) k
    · rename_i hn
      rw [am_nth_eq] at hn
      cases h
      exact AW.plain (fun p e s m args below meth c H locs ls Z hC hP hL kk => va_get (D := X.2.1) (C := r.1) (T := r.2.1) (N := r.2.2) hC.1 hC.2.1 hC.2.2.2.2.2.2.2.1 (cl_in r (List.mem_of_getElem? hr)) hC.2.2.2.2.2.2.1 hC.2.2.2.2.2.2.2.2.1.1 hP a he hr k0 hw.1 (hC.2.2.2.2.2.2.2.1 _ (fl_in _ hw.2)) (fun _ h9 => h9) (by rw [List.getElem?_mapIdx, hn]; rfl) hd kk) k
    · rename_i hn
      rw [am_nth_eq] at hn
      cases h
      exact AW.plain (fun p e s m args below meth c H locs ls Z hC hP hL kk => va_get (D := X.2.1) (C := r.1) (T := r.2.1) (N := r.2.2) hC.1 hC.2.1 hC.2.2.2.2.2.2.2.1 (cl_in r (List.mem_of_getElem? hr)) hC.2.2.2.2.2.2.1 hC.2.2.2.2.2.2.2.2.1.1 hP a he hr k0 hw.1 (hC.2.2.2.2.2.2.2.1 _ (fl_in _ hw.2)) (fun _ h9 => h9) (by rw [List.getElem?_mapIdx, hn]; rfl) hd kk) k
    · cases h
  | putfield n =>
    simp only [am_wd, Bool.and_eq_true, Nat.beq_eq] at hw
    obtain ⟨rfl, hw⟩ := hw
    split at hw
    case h_2 => cases hw
    rename_i r hr
    simp only [Bool.and_eq_true, decide_eq_true_eq] at hw
    simp only [am_x] at h
    split at h
    · rename_i x a S0
      split at h
      case h_2 => cases h
      rename_i cj cs hG
      split at h
      case h_2 => cases h
      rename_i hb
      rw [Nat.beq_eq] at hb
      subst hb
      split at h
      case h_2 => cases h
      rename_i hn
      rw [am_nth_eq] at hn
      split at h
      case h_2 => cases h
      cases h
      simp only [decide_eq_true_eq] at hw
      obtain ⟨⟨hw1, hw2⟩, hw3, hw4⟩ := hw
      obtain ⟨ty0, hty⟩ := cl_ty r (List.mem_of_getElem? hr)
      refine AW.wr (a := a) (h0 := .inr (cj, cs)) (e1 := .inr (cj, (cs.mapIdx (fun j c => am_v X.1 (am_u M a j c))).set k0 (.int x))) hG ?_ (fun b hb => ?_) (fun p e s m args below meth c H locs ls Z hC hP hD hS he kk => ?_) k
      · simp only [am_e]
        rw [am_put (M := M) hn (v := .int x) (by simp [am_u, am_v, va_up, upd, vp_updL]) (fun j c hj => by unfold am_u; simp [va_up, upd, vp_updL, hj])]
      · simp [va_up, hb]
      · exact va_put (D := X.2.1) (C := r.1) (T := r.2.1) (N := r.2.2) (ty := .int) hC.1 hC.2.1 hC.2.2.2.2.2.2.2.1 (cl_in r (List.mem_of_getElem? hr)) ty0 hty (cl_nm r (List.mem_of_getElem? hr)) hC.2.2.2.2.2.2.1 hC.2.2.2.2.2.2.2.2.1.1 hP hD hS a he hr k0 hw1 (hC.2.2.2.2.2.2.2.1 _ (fl_in _ hw2)) (fun _ h9 => h9) hw4 (by rw [hw3]; decide +kernel) rfl rfl (by have := (List.getElem?_eq_some_iff.mp hn).1; simpa using this) hd kk
    · rename_i x a S0
      split at h
      case h_2 => cases h
      rename_i cj cs hG
      split at h
      case h_2 => cases h
      rename_i hb
      rw [Nat.beq_eq] at hb
      subst hb
      split at h
      case h_2 => cases h
      rename_i hn
      rw [am_nth_eq] at hn
      split at h
      case h_2 => cases h
      cases h
      simp only [decide_eq_true_eq] at hw
      obtain ⟨⟨hw1, hw2⟩, hw3, hw4⟩ := hw
      obtain ⟨ty0, hty⟩ := cl_ty r (List.mem_of_getElem? hr)
      refine AW.wr (a := a) (h0 := .inr (cj, cs)) (e1 := .inr (cj, (cs.mapIdx (fun j c => am_v X.1 (am_u M a j c))).set k0 (.long x))) hG ?_ (fun b hb => ?_) (fun p e s m args below meth c H locs ls Z hC hP hD hS he kk => ?_) k
      · simp only [am_e]
        rw [am_put (M := M) hn (v := .long x) (by simp [am_u, am_v, va_up, upd, vp_updL]) (fun j c hj => by unfold am_u; simp [va_up, upd, vp_updL, hj])]
      · simp [va_up, hb]
      · exact va_put (D := X.2.1) (C := r.1) (T := r.2.1) (N := r.2.2) (ty := .long) hC.1 hC.2.1 hC.2.2.2.2.2.2.2.1 (cl_in r (List.mem_of_getElem? hr)) ty0 hty (cl_nm r (List.mem_of_getElem? hr)) hC.2.2.2.2.2.2.1 hC.2.2.2.2.2.2.2.2.1.1 hP hD hS a he hr k0 hw1 (hC.2.2.2.2.2.2.2.1 _ (fl_in _ hw2)) (fun _ h9 => h9) hw4 (by rw [hw3]; decide +kernel) rfl rfl (by have := (List.getElem?_eq_some_iff.mp hn).1; simpa using this) hd kk
    · cases h
  | iaload =>
    have hl : len = 1 := by simpa [am_wd] using hw
    subst hl
    simp only [am_x] at h
    split at h
    case h_2 => cases h
    split at h
    case h_2 => cases h
    rename_i n hG
    cases h
    have he := am_w_at (X := X) (M := M) (by rw [← am_sh_eq]; exact hG)
    exact AW.plain (fun p e s m args below meth c H locs ls Z hC hP hL kk => va_iald hC.1 hC.2.1 hC.2.2.2.2.2.2.2.2.1.1 hP _ 0 he rfl (hc _ rfl) hd kk) k
  | baload =>
    have hl : len = 1 := by simpa [am_wd] using hw
    subst hl
    simp only [am_x] at h
    split at h
    case h_2 => cases h
    split at h
    case h_2 => cases h
    rename_i n hG
    cases h
    have he := am_w_at (X := X) (M := M) (by rw [← am_sh_eq]; exact hG)
    exact AW.plain (fun p e s m args below meth c H locs ls Z hC hP hL kk => va_zald hC.1 hC.2.1 hC.2.2.2.2.2.2.2.2.1.1 hP _ 2 he rfl (hc _ rfl) hd kk) k
  | laload =>
    have hl : len = 1 := by simpa [am_wd] using hw
    subst hl
    simp only [am_x] at h
    split at h
    case h_2 => cases h
    split at h
    case h_2 => cases h
    rename_i n hG
    cases h
    have he := am_w_at (X := X) (M := M) (by rw [← am_sh_eq]; exact hG)
    exact AW.plain (fun p e s m args below meth c H locs ls Z hC hP hL kk => va_lald hC.1 hC.2.1 hC.2.2.2.2.2.2.2.2.1.1 hP _ 1 he rfl (hc _ rfl) hd kk) k
  | iastore =>
    have hl : len = 1 := by simpa [am_wd] using hw
    subst hl
    simp only [am_x] at h
    split at h
    case h_2 => cases h
    rename_i x j a S0
    split at h
    case h_2 => cases h
    rename_i n hG
    cases h
    exact AW.wr (a := a) (h0 := .inl (0, n)) (e1 := .inl (X.2.2 0, n, .inl (upd (M.1 a) j.toNatClampNeg x))) hG (by simp [am_e, va_up]) (fun b hb => by simp [va_up, hb]) (fun p e s m args below meth c H locs ls Z hC hP hD hS he kk => va_iast hC.1 hC.2.1 hC.2.2.2.2.2.2.2.2.1.1 hP hD hS a 0 he rfl (hc _ rfl) hd kk) k
  | bastore =>
    have hl : len = 1 := by simpa [am_wd] using hw
    subst hl
    simp only [am_x] at h
    split at h
    case h_2 => cases h
    rename_i x j a S0
    split at h
    case h_2 => cases h
    rename_i n hG
    cases h
    exact AW.wr (a := a) (h0 := .inl (2, n)) (e1 := .inl (X.2.2 2, n, .inl (upd (M.1 a) j.toNatClampNeg (vp_nar .boolean x)))) hG (by simp [am_e, va_up]) (fun b hb => by simp [va_up, hb]) (fun p e s m args below meth c H locs ls Z hC hP hD hS he kk => va_zast hC.1 hC.2.1 hC.2.2.2.2.2.2.2.2.1.1 hP hD hS a 2 he rfl (hc _ rfl) hd kk) k
  | lastore =>
    have hl : len = 1 := by simpa [am_wd] using hw
    subst hl
    simp only [am_x] at h
    split at h
    case h_2 => cases h
    rename_i x j a S0
    split at h
    case h_2 => cases h
    rename_i n hG
    cases h
    exact AW.wr (a := a) (h0 := .inl (1, n)) (e1 := .inl (X.2.2 1, n, .inr (.inl (vp_updL (M.2 a) j.toNatClampNeg x)))) hG (by simp [am_e, va_up]) (fun b hb => by simp [va_up, hb]) (fun p e s m args below meth c H locs ls Z hC hP hD hS he kk => va_last hC.1 hC.2.1 hC.2.2.2.2.2.2.2.2.1.1 hP hD hS a 1 he rfl (hc _ rfl) hd kk) k
  | arraylength =>
    have hl : len = 1 := by simpa [am_wd] using hw
    subst hl
    simp only [am_x] at h
    split at h
    case h_2 => cases h
    split at h
    · rename_i n hG
      cases h
      have he := am_w_at (X := X) (M := M) (by rw [← am_sh_eq]; exact hG)
      exact AW.plain (fun p e s m args below meth c H locs ls Z hC hP hL kk => va_alen hC.1 hC.2.1 hC.2.2.2.2.2.2.2.2.1.1 hP _ 0 he rfl rfl hd kk) k
    · rename_i n hG
      cases h
      have he := am_w_at (X := X) (M := M) (by rw [← am_sh_eq]; exact hG)
      exact AW.plain (fun p e s m args below meth c H locs ls Z hC hP hL kk => va_alen hC.1 hC.2.1 hC.2.2.2.2.2.2.2.2.1.1 hP _ 1 he rfl rfl hd kk) k
    · rename_i n hG
      cases h
      have he := am_w_at (X := X) (M := M) (by rw [← am_sh_eq]; exact hG)
      exact AW.plain (fun p e s m args below meth c H locs ls Z hC hP hL kk => va_alen hC.1 hC.2.1 hC.2.2.2.2.2.2.2.2.1.1 hP _ 2 he rfl rfl hd kk) k
    · cases h
  | _ => simp only [am_x] at h; cases h
end Sy
