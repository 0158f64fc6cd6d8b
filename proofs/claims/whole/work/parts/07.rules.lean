/-! a run of simple instructions; the branches; the ends; calls -/
def am_t : List It → Nat → List It
  | [], _ => []
  | q :: T, n => match Nat.beq q.1 n with
    | true => q :: T
    | false => am_t T n
def am_r (G : List Shp) : List It → Prop → List Value → List Value → Mem → Option (Prop × List It × List Value × List Value × Mem)
  | [], _, _, _, _ => none
  | q :: T, C, L, S, M => match am_x G q L S M with
    | some (none, L', S', M') => am_r G T C L' S' M'
    | some (some c, L', S', M') => am_r G T (C ∧ c) L' S' M'
    | none => am_fc L (fun L => am_fc S (fun S => some (C, q :: T, L, S, M)))
theorem am_t_mem : ∀ {T : List It} {n : Nat} {q : It}, q ∈ am_t T n → q ∈ T
  | [], _, _, h => h
  | x :: T, n, q, h => by
    unfold am_t at h
    split at h
    · exact h
    · exact List.mem_cons_of_mem _ (am_t_mem h)
theorem am_t_hd : ∀ (T : List It) (n : Nat), am_hd (am_t T n) n = true
  | [], _ => rfl
  | x :: T, n => by
    unfold am_t
    split
    · rename_i h; exact h
    · exact am_t_hd T n
theorem am_t_dec {code : ByteArray} : ∀ {T : List It} {n : Nat}, am_dec code T = true → am_dec code (am_t T n) = true
  | [], _, h => h
  | x :: T, n, h => by
    unfold am_t
    split
    · exact h
    · simp only [am_dec, Bool.and_eq_true] at h
      exact am_t_dec h.2.2
theorem am_r_C {G : List Shp} : ∀ {T : List It} {C C' : Prop} {L S L' S' : List Value} {M M' : Mem} {T' : List It}, am_r G T C L S M = some (C', T', L', S', M') → C' → C
  | [], _, _, _, _, _, _, _, _, _, h, _ => by cases h
  | q :: T, C, C', L, S, L', S', M, M', T', h, hC => by
    unfold am_r at h
    split at h
    · exact am_r_C h hC
    · exact (am_r_C h hC).1
    · rw [am_fc_eq, am_fc_eq] at h
      cases h
      exact hC
section Rl
variable {X : Cx} {l : Launch} {mt : Mt} {R : Room} {mc ms : Nat} {Q : Option Value → List Shp → Mem → Prop} {kc ks pc : Nat} {L S : List Value} {G : List Shp} {M : Mem}
theorem am_r_sound {q : It} {T' : List It} {C' : Prop} {L' S' : List Value} {M' : Mem} : ∀ (T : List It) (pc : Nat) (C : Prop) (L S : List Value) (M : Mem), (∀ q ∈ T, q ∈ mt.2.2.2.2) → am_hd T pc = true → am_dec mt.2.1 T = true → am_r G T C L S M = some (C', q :: T', L', S', M') → C' → (q ∈ mt.2.2.2.2 → AW X l mt R mc ms Q kc ks q.1 L' S' G M') → AW X l mt R mc ms Q kc ks pc L S G M
  | [], _, _, _, _, _, _, _, _, h, _, _ => by cases h
  | x :: T, pc, C, L, S, M, hm, hh, hdc, h, hC, k => by
    have hpc : x.1 = pc := by simpa [am_hd] using hh
    subst hpc
    have hx := hm x List.mem_cons_self
    have hdc0 := hdc
    simp only [am_dec, Bool.and_eq_true] at hdc
    unfold am_r at h
    split at h
    · rename_i L1 S1 M1 h1
      exact am_x_sound hx h1 (fun P hP => by cases hP) (am_r_sound T _ _ _ _ _ (fun q hq => hm q (List.mem_cons_of_mem _ hq)) hdc.2.1 hdc.2.2 h hC k)
    · rename_i c L1 S1 M1 h1
      have hc := (am_r_C h hC).2
      exact am_x_sound hx h1 (fun P hP => by cases hP; exact hc) (am_r_sound T _ _ _ _ _ (fun q hq => hm q (List.mem_cons_of_mem _ hq)) hdc.2.1 hdc.2.2 h hC k)
    · rw [am_fc_eq, am_fc_eq] at h
      cases h
      exact k hx
theorem AW.run {q : It} {T' : List It} {C : Prop} {L' S' : List Value} {M' : Mem} (h : am_r G (am_t mt.2.2.2.2 pc) True L S M = some (C, q :: T', L', S', M')) (hC : C) (k : q ∈ mt.2.2.2.2 → AW X l mt R mc ms Q kc ks q.1 L' S' G M') : AW X l mt R mc ms Q kc ks pc L S G M :=
  AW.ok (fun hok => am_r_sound _ _ _ _ _ _ (fun q hq => am_t_mem hq) (am_t_hd _ _) (am_t_dec hok.1) h hC k)
theorem AW.two {A B : Prop} {S1 S2 : List Value} {p1 p2 : Nat} (h : ∀ (p : Program) (e : Env) (s : State) (m : MethodId) (args : Array Value) (below : List Frame) (meth : Method) (c : Code) (H : Heap) (locs : List Loc) (ls : Array Slot) (Z : State → Prop), am_C X mt p s m args meth c → (A → W p l e R s m args below meth c H locs kc ks Z (F0 m p1 ls (S1.map (am_v X.1)))) → (B → W p l e R s m args below meth c H locs kc ks Z (F0 m p2 ls (S2.map (am_v X.1)))) → W p l e R s m args below meth c H locs kc ks Z (F0 m pc ls (S.map (am_v X.1))))
    (k1 : A → AW X l mt R mc ms Q kc ks p1 L S1 G M) (k2 : B → AW X l mt R mc ms Q kc ks p2 L S2 G M) : AW X l mt R mc ms Q kc ks pc L S G M := by
  intro hok p e s m args below meth c H locs ls hC hH hL
  exact h p e s m args below meth c H locs ls _ hC (fun a => k1 a hok p e s m args below meth c H locs ls hC hH hL) (fun b => k2 b hok p e s m args below meth c H locs ls hC hH hL)
theorem AW.goto {p1 len ci tgt : Nat} {off : Int} {v : Int32} {w : Int64} {T' : List It} {C : Prop} {L' S' : List Value} {M' : Mem} (h : am_r G (am_t mt.2.2.2.2 pc) True L S M = some (C, (p1, .goto off, len, ci, tgt, v, w) :: T', L', S', M')) (hC : C) (k : AW X l mt R mc ms Q kc ks tgt L' S' G M') : AW X l mt R mc ms Q kc ks pc L S G M := by
  refine AW.run h hC (fun hq => AW.ok fun hok => ?_)
  have hd := am_dec_at hok.1 hq
  have hw := List.all_eq_true.mp hok.2 _ hq
  simp only [am_wd, Bool.and_eq_true, Nat.beq_eq, decide_eq_true_eq] at hw
  obtain ⟨rfl, ht⟩ := hw
  exact AW.plain (fun p e s m args below meth c H locs ls Z hC hP hL kk => lv_goto hC.1 hC.2.1 hd ht kk) k
theorem AW.ieq {p1 len ci tgt : Nat} {off : Int} {v : Int32} {w : Int64} {T' : List It} {C : Prop} {L' S' : List Value} {M' : Mem} {x y : Int32} (h : am_r G (am_t mt.2.2.2.2 pc) True L S M = some (C, (p1, .if_icmp .eq off, len, ci, tgt, v, w) :: T', L', .int y :: .int x :: S', M')) (hC : C) (k1 : x = y → AW X l mt R mc ms Q kc ks tgt L' S' G M') (k2 : ¬ x = y → AW X l mt R mc ms Q kc ks (p1 + 3) L' S' G M') : AW X l mt R mc ms Q kc ks pc L S G M := by
  refine AW.run h hC (fun hq => AW.ok fun hok => ?_)
  have hd := am_dec_at hok.1 hq
  have hw := List.all_eq_true.mp hok.2 _ hq
  simp only [am_wd, Bool.and_eq_true, Nat.beq_eq, decide_eq_true_eq] at hw
  obtain ⟨rfl, ht⟩ := hw
  exact AW.two (fun p e s m args below meth c H locs ls Z hC a b => lv_icmp_eq hC.1 hC.2.1 hd ht a b) k1 k2
theorem AW.ine {p1 len ci tgt : Nat} {off : Int} {v : Int32} {w : Int64} {T' : List It} {C : Prop} {L' S' : List Value} {M' : Mem} {x y : Int32} (h : am_r G (am_t mt.2.2.2.2 pc) True L S M = some (C, (p1, .if_icmp .ne off, len, ci, tgt, v, w) :: T', L', .int y :: .int x :: S', M')) (hC : C) (k1 : ¬ x = y → AW X l mt R mc ms Q kc ks tgt L' S' G M') (k2 : x = y → AW X l mt R mc ms Q kc ks (p1 + 3) L' S' G M') : AW X l mt R mc ms Q kc ks pc L S G M := by
  refine AW.run h hC (fun hq => AW.ok fun hok => ?_)
  have hd := am_dec_at hok.1 hq
  have hw := List.all_eq_true.mp hok.2 _ hq
  simp only [am_wd, Bool.and_eq_true, Nat.beq_eq, decide_eq_true_eq] at hw
  obtain ⟨rfl, ht⟩ := hw
  exact AW.two (fun p e s m args below meth c H locs ls Z hC a b => lv_icmp_ne hC.1 hC.2.1 hd ht a b) k1 k2
theorem AW.ilt {p1 len ci tgt : Nat} {off : Int} {v : Int32} {w : Int64} {T' : List It} {C : Prop} {L' S' : List Value} {M' : Mem} {x y : Int32} (h : am_r G (am_t mt.2.2.2.2 pc) True L S M = some (C, (p1, .if_icmp .lt off, len, ci, tgt, v, w) :: T', L', .int y :: .int x :: S', M')) (hC : C) (k1 : x < y → AW X l mt R mc ms Q kc ks tgt L' S' G M') (k2 : ¬ x < y → AW X l mt R mc ms Q kc ks (p1 + 3) L' S' G M') : AW X l mt R mc ms Q kc ks pc L S G M := by
  refine AW.run h hC (fun hq => AW.ok fun hok => ?_)
  have hd := am_dec_at hok.1 hq
  have hw := List.all_eq_true.mp hok.2 _ hq
  simp only [am_wd, Bool.and_eq_true, Nat.beq_eq, decide_eq_true_eq] at hw
  obtain ⟨rfl, ht⟩ := hw
  exact AW.two (fun p e s m args below meth c H locs ls Z hC a b => lv_icmp_lt hC.1 hC.2.1 hd ht a b) k1 k2
theorem AW.ige {p1 len ci tgt : Nat} {off : Int} {v : Int32} {w : Int64} {T' : List It} {C : Prop} {L' S' : List Value} {M' : Mem} {x y : Int32} (h : am_r G (am_t mt.2.2.2.2 pc) True L S M = some (C, (p1, .if_icmp .ge off, len, ci, tgt, v, w) :: T', L', .int y :: .int x :: S', M')) (hC : C) (k1 : y ≤ x → AW X l mt R mc ms Q kc ks tgt L' S' G M') (k2 : ¬ y ≤ x → AW X l mt R mc ms Q kc ks (p1 + 3) L' S' G M') : AW X l mt R mc ms Q kc ks pc L S G M := by
  refine AW.run h hC (fun hq => AW.ok fun hok => ?_)
  have hd := am_dec_at hok.1 hq
  have hw := List.all_eq_true.mp hok.2 _ hq
  simp only [am_wd, Bool.and_eq_true, Nat.beq_eq, decide_eq_true_eq] at hw
  obtain ⟨rfl, ht⟩ := hw
  exact AW.two (fun p e s m args below meth c H locs ls Z hC a b => lv_icmp_ge hC.1 hC.2.1 hd ht a b) k1 k2
theorem AW.igt {p1 len ci tgt : Nat} {off : Int} {v : Int32} {w : Int64} {T' : List It} {C : Prop} {L' S' : List Value} {M' : Mem} {x y : Int32} (h : am_r G (am_t mt.2.2.2.2 pc) True L S M = some (C, (p1, .if_icmp .gt off, len, ci, tgt, v, w) :: T', L', .int y :: .int x :: S', M')) (hC : C) (k1 : y < x → AW X l mt R mc ms Q kc ks tgt L' S' G M') (k2 : ¬ y < x → AW X l mt R mc ms Q kc ks (p1 + 3) L' S' G M') : AW X l mt R mc ms Q kc ks pc L S G M := by
  refine AW.run h hC (fun hq => AW.ok fun hok => ?_)
  have hd := am_dec_at hok.1 hq
  have hw := List.all_eq_true.mp hok.2 _ hq
  simp only [am_wd, Bool.and_eq_true, Nat.beq_eq, decide_eq_true_eq] at hw
  obtain ⟨rfl, ht⟩ := hw
  exact AW.two (fun p e s m args below meth c H locs ls Z hC a b => lv_icmp_gt hC.1 hC.2.1 hd ht a b) k1 k2
theorem AW.ile {p1 len ci tgt : Nat} {off : Int} {v : Int32} {w : Int64} {T' : List It} {C : Prop} {L' S' : List Value} {M' : Mem} {x y : Int32} (h : am_r G (am_t mt.2.2.2.2 pc) True L S M = some (C, (p1, .if_icmp .le off, len, ci, tgt, v, w) :: T', L', .int y :: .int x :: S', M')) (hC : C) (k1 : x ≤ y → AW X l mt R mc ms Q kc ks tgt L' S' G M') (k2 : ¬ x ≤ y → AW X l mt R mc ms Q kc ks (p1 + 3) L' S' G M') : AW X l mt R mc ms Q kc ks pc L S G M := by
  refine AW.run h hC (fun hq => AW.ok fun hok => ?_)
  have hd := am_dec_at hok.1 hq
  have hw := List.all_eq_true.mp hok.2 _ hq
  simp only [am_wd, Bool.and_eq_true, Nat.beq_eq, decide_eq_true_eq] at hw
  obtain ⟨rfl, ht⟩ := hw
  exact AW.two (fun p e s m args below meth c H locs ls Z hC a b => lv_icmp_le hC.1 hC.2.1 hd ht a b) k1 k2
theorem AW.zeq {p1 len ci tgt : Nat} {off : Int} {v : Int32} {w : Int64} {T' : List It} {C : Prop} {L' S' : List Value} {M' : Mem} {x : Int32} (h : am_r G (am_t mt.2.2.2.2 pc) True L S M = some (C, (p1, .ifCond .eq off, len, ci, tgt, v, w) :: T', L', .int x :: S', M')) (hC : C) (k1 : x = 0 → AW X l mt R mc ms Q kc ks tgt L' S' G M') (k2 : ¬ x = 0 → AW X l mt R mc ms Q kc ks (p1 + 3) L' S' G M') : AW X l mt R mc ms Q kc ks pc L S G M := by
  refine AW.run h hC (fun hq => AW.ok fun hok => ?_)
  have hd := am_dec_at hok.1 hq
  have hw := List.all_eq_true.mp hok.2 _ hq
  simp only [am_wd, Bool.and_eq_true, Nat.beq_eq, decide_eq_true_eq] at hw
  obtain ⟨rfl, ht⟩ := hw
  exact AW.two (fun p e s m args below meth c H locs ls Z hC a b => lv_if_eq hC.1 hC.2.1 hd ht a b) k1 k2
theorem AW.zne {p1 len ci tgt : Nat} {off : Int} {v : Int32} {w : Int64} {T' : List It} {C : Prop} {L' S' : List Value} {M' : Mem} {x : Int32} (h : am_r G (am_t mt.2.2.2.2 pc) True L S M = some (C, (p1, .ifCond .ne off, len, ci, tgt, v, w) :: T', L', .int x :: S', M')) (hC : C) (k1 : ¬ x = 0 → AW X l mt R mc ms Q kc ks tgt L' S' G M') (k2 : x = 0 → AW X l mt R mc ms Q kc ks (p1 + 3) L' S' G M') : AW X l mt R mc ms Q kc ks pc L S G M := by
  refine AW.run h hC (fun hq => AW.ok fun hok => ?_)
  have hd := am_dec_at hok.1 hq
  have hw := List.all_eq_true.mp hok.2 _ hq
  simp only [am_wd, Bool.and_eq_true, Nat.beq_eq, decide_eq_true_eq] at hw
  obtain ⟨rfl, ht⟩ := hw
  exact AW.two (fun p e s m args below meth c H locs ls Z hC a b => lv_if_ne hC.1 hC.2.1 hd ht a b) k1 k2
theorem AW.zlt {p1 len ci tgt : Nat} {off : Int} {v : Int32} {w : Int64} {T' : List It} {C : Prop} {L' S' : List Value} {M' : Mem} {x : Int32} (h : am_r G (am_t mt.2.2.2.2 pc) True L S M = some (C, (p1, .ifCond .lt off, len, ci, tgt, v, w) :: T', L', .int x :: S', M')) (hC : C) (k1 : x < 0 → AW X l mt R mc ms Q kc ks tgt L' S' G M') (k2 : ¬ x < 0 → AW X l mt R mc ms Q kc ks (p1 + 3) L' S' G M') : AW X l mt R mc ms Q kc ks pc L S G M := by
  refine AW.run h hC (fun hq => AW.ok fun hok => ?_)
  have hd := am_dec_at hok.1 hq
  have hw := List.all_eq_true.mp hok.2 _ hq
  simp only [am_wd, Bool.and_eq_true, Nat.beq_eq, decide_eq_true_eq] at hw
  obtain ⟨rfl, ht⟩ := hw
  exact AW.two (fun p e s m args below meth c H locs ls Z hC a b => lv_if_lt hC.1 hC.2.1 hd ht a b) k1 k2
theorem AW.zge {p1 len ci tgt : Nat} {off : Int} {v : Int32} {w : Int64} {T' : List It} {C : Prop} {L' S' : List Value} {M' : Mem} {x : Int32} (h : am_r G (am_t mt.2.2.2.2 pc) True L S M = some (C, (p1, .ifCond .ge off, len, ci, tgt, v, w) :: T', L', .int x :: S', M')) (hC : C) (k1 : 0 ≤ x → AW X l mt R mc ms Q kc ks tgt L' S' G M') (k2 : ¬ 0 ≤ x → AW X l mt R mc ms Q kc ks (p1 + 3) L' S' G M') : AW X l mt R mc ms Q kc ks pc L S G M := by
  refine AW.run h hC (fun hq => AW.ok fun hok => ?_)
  have hd := am_dec_at hok.1 hq
  have hw := List.all_eq_true.mp hok.2 _ hq
  simp only [am_wd, Bool.and_eq_true, Nat.beq_eq, decide_eq_true_eq] at hw
  obtain ⟨rfl, ht⟩ := hw
  exact AW.two (fun p e s m args below meth c H locs ls Z hC a b => lv_if_ge hC.1 hC.2.1 hd ht a b) k1 k2
theorem AW.zgt {p1 len ci tgt : Nat} {off : Int} {v : Int32} {w : Int64} {T' : List It} {C : Prop} {L' S' : List Value} {M' : Mem} {x : Int32} (h : am_r G (am_t mt.2.2.2.2 pc) True L S M = some (C, (p1, .ifCond .gt off, len, ci, tgt, v, w) :: T', L', .int x :: S', M')) (hC : C) (k1 : 0 < x → AW X l mt R mc ms Q kc ks tgt L' S' G M') (k2 : ¬ 0 < x → AW X l mt R mc ms Q kc ks (p1 + 3) L' S' G M') : AW X l mt R mc ms Q kc ks pc L S G M := by
  refine AW.run h hC (fun hq => AW.ok fun hok => ?_)
  have hd := am_dec_at hok.1 hq
  have hw := List.all_eq_true.mp hok.2 _ hq
  simp only [am_wd, Bool.and_eq_true, Nat.beq_eq, decide_eq_true_eq] at hw
  obtain ⟨rfl, ht⟩ := hw
  exact AW.two (fun p e s m args below meth c H locs ls Z hC a b => lv_if_gt hC.1 hC.2.1 hd ht a b) k1 k2
theorem AW.zle {p1 len ci tgt : Nat} {off : Int} {v : Int32} {w : Int64} {T' : List It} {C : Prop} {L' S' : List Value} {M' : Mem} {x : Int32} (h : am_r G (am_t mt.2.2.2.2 pc) True L S M = some (C, (p1, .ifCond .le off, len, ci, tgt, v, w) :: T', L', .int x :: S', M')) (hC : C) (k1 : x ≤ 0 → AW X l mt R mc ms Q kc ks tgt L' S' G M') (k2 : ¬ x ≤ 0 → AW X l mt R mc ms Q kc ks (p1 + 3) L' S' G M') : AW X l mt R mc ms Q kc ks pc L S G M := by
  refine AW.run h hC (fun hq => AW.ok fun hok => ?_)
  have hd := am_dec_at hok.1 hq
  have hw := List.all_eq_true.mp hok.2 _ hq
  simp only [am_wd, Bool.and_eq_true, Nat.beq_eq, decide_eq_true_eq] at hw
  obtain ⟨rfl, ht⟩ := hw
  exact AW.two (fun p e s m args below meth c H locs ls Z hC a b => lv_if_le hC.1 hC.2.1 hd ht a b) k1 k2
theorem AW.iret {p1 len ci tgt : Nat} {v : Int32} {w : Int64} {T' : List It} {C : Prop} {L' : List Value} {M' : Mem} {z : Int32} {ty : FieldType} (hr : mt.2.2.2.1 = some ty) (hn : narrow ty (.int z) = .int z) (h : am_r G (am_t mt.2.2.2.2 pc) True L S M = some (C, (p1, .ireturn, len, ci, tgt, v, w) :: T', L', [.int z], M')) (hC : C) (hQ : Q (some (.int z)) G M') (hkc : kc = mc := by rfl) (hks : ks ≤ ms := by exact Nat.le_refl _) : AW X l mt R mc ms Q kc ks pc L S G M := by
  refine AW.run h hC (fun hq => AW.ok fun hok => ?_)
  have hd := am_dec_at hok.1 hq
  have hw := List.all_eq_true.mp hok.2 _ hq
  have hl : len = 1 := by simpa [am_wd] using hw
  subst hl
  subst hkc
  intro _ p e s m args below meth c H locs ls hC hH hL
  refine W.widen (Nat.le_refl _) hks ?_
  exact W.zret (v := z) hC.1 hC.2.1 (hC.2.2.2.1.trans hr) hn (fun t ht hW => ⟨some (.int z), G, M', rfl, hQ, by rw [ht]; exact hH.1, hH.2.1, hH.2.2.F ht⟩) hH.2.2.2.2 hd hC.2.2.2.2.1
theorem AW.lret {p1 len ci tgt : Nat} {v : Int32} {w : Int64} {T' : List It} {C : Prop} {L' : List Value} {M' : Mem} {z : Int64} (hr : mt.2.2.2.1 = some .long) (h : am_r G (am_t mt.2.2.2.2 pc) True L S M = some (C, (p1, .lreturn, len, ci, tgt, v, w) :: T', L', [.long z], M')) (hC : C) (hQ : Q (some (.long z)) G M') (hkc : kc = mc := by rfl) (hks : ks ≤ ms := by exact Nat.le_refl _) : AW X l mt R mc ms Q kc ks pc L S G M := by
  refine AW.run h hC (fun hq => AW.ok fun hok => ?_)
  have hd := am_dec_at hok.1 hq
  have hw := List.all_eq_true.mp hok.2 _ hq
  have hl : len = 1 := by simpa [am_wd] using hw
  subst hl
  subst hkc
  intro _ p e s m args below meth c H locs ls hC hH hL
  refine W.widen (Nat.le_refl _) hks ?_
  exact W.lret (v := z) hC.1 hC.2.1 (hC.2.2.2.1.trans hr) (fun t ht hW => ⟨some (.long z), G, M', rfl, hQ, by rw [ht]; exact hH.1, hH.2.1, hH.2.2.F ht⟩) hH.2.2.2.2 hd hC.2.2.2.2.1
theorem AW.vret {p1 len ci tgt : Nat} {v : Int32} {w : Int64} {T' : List It} {C : Prop} {L' : List Value} {M' : Mem} (hr : mt.2.2.2.1 = none) (h : am_r G (am_t mt.2.2.2.2 pc) True L S M = some (C, (p1, .return_, len, ci, tgt, v, w) :: T', L', [], M')) (hC : C) (hQ : Q (none) G M') (hkc : kc = mc := by rfl) (hks : ks ≤ ms := by exact Nat.le_refl _) : AW X l mt R mc ms Q kc ks pc L S G M := by
  refine AW.run h hC (fun hq => AW.ok fun hok => ?_)
  have hd := am_dec_at hok.1 hq
  have hw := List.all_eq_true.mp hok.2 _ hq
  have hl : len = 1 := by simpa [am_wd] using hw
  subst hl
  subst hkc
  intro _ p e s m args below meth c H locs ls hC hH hL
  refine W.widen (Nat.le_refl _) hks ?_
  exact W.vret hC.1 hC.2.1 (hC.2.2.2.1.trans hr) (fun t ht hW => ⟨none, G, M', rfl, hQ, by rw [ht]; exact hH.1, hH.2.1, hH.2.2.F ht⟩) hH.2.2.2.2 hd hC.2.2.2.2.1
theorem AW.aret {p1 len ci tgt : Nat} {v : Int32} {w : Int64} {T' : List It} {C : Prop} {L' : List Value} {M' : Mem} {z : Nat} {cn : String} (hr : mt.2.2.2.1 = some (.object cn)) (h : am_r G (am_t mt.2.2.2.2 pc) True L S M = some (C, (p1, .areturn, len, ci, tgt, v, w) :: T', L', [.ref z], M')) (hC : C) (hQ : Q (some (.ref z)) G M') (hkc : kc = mc := by rfl) (hks : ks ≤ ms := by exact Nat.le_refl _) : AW X l mt R mc ms Q kc ks pc L S G M := by
  refine AW.run h hC (fun hq => AW.ok fun hok => ?_)
  have hd := am_dec_at hok.1 hq
  have hw := List.all_eq_true.mp hok.2 _ hq
  have hl : len = 1 := by simpa [am_wd] using hw
  subst hl
  subst hkc
  intro _ p e s m args below meth c H locs ls hC hH hL
  refine W.widen (Nat.le_refl _) hks ?_
  exact W.aret hC.1 hC.2.1 (hC.2.2.2.1.trans hr) (Or.inl ⟨_, rfl⟩) (Or.inr ⟨_, rfl⟩) (fun t ht hW => ⟨some (.ref z), G, M', rfl, hQ, by rw [ht]; exact hH.1, hH.2.1, hH.2.2.F ht⟩) hH.2.2.2.2 hd hC.2.2.2.2.1
end Rl
/-! contracts -/
def am_R (rk mc ms : Nat) : Room := { frames := rk, cells := mc, slots := ms, locals := 49 * rk }
def am_P (X : Cx) (vs : List Value) (G : List Shp) (M : Mem) : Array Value → State → Prop := fun a U => a = (vs.map (am_v X.1)).toArray ∧ va_P X.2.1 vwCl (am_w X G M) U.heap ∧ U.heap.size = X.1 + G.length ∧ am_K X U
def AC (X : Cx) (l : Launch) (mt : Mt) (rk mc ms : Nat) (vs : List Value) (G : List Shp) (M : Mem) (Q : Option Value → List Shp → Mem → Prop) : Prop :=
  Met l mt.1 (.code mt.1 mt.2.1 mt.2.2.1 mt.2.2.2.1 :: lw_g) (am_R rk mc ms) (am_P X vs G M) (am_Q X mc Q) mc ms (am_A X)
theorem am_P.blind (X : Cx) (vs : List Value) (G : List Shp) (M : Mem) : FrameBlind (am_P X vs G M) := fun a U g mk q => ⟨q.1, q.2.1, q.2.2.1, am_K.same (s := U) (U := U.calling g mk a) rfl q.2.2.2⟩
theorem AC.ofW {X : Cx} {l : Launch} {mt : Mt} {rk mc ms : Nat} {vs : List Value} {G : List Shp} {M : Mem} {Q : Option Value → List Shp → Mem → Prop} (hok : am_ok mt) (hy : plainName mt.1.cls = true) (hn : (am_sl vs).length ≤ mt.2.2.1)
    (h : AW X l mt (am_R rk mc ms) mc ms Q 0 0 0 (am_ent mt.2.2.1 vs) [] G M) : AC X l mt rk mc ms vs G M Q := by
  refine Met.ofW (cc := mt.2.1) (maxL := mt.2.2.1) (ret := mt.2.2.2.1) hy rfl ?_
  intro p e s m args below meth c s₁ B hml hv
  obtain ⟨rfl, hP, hz, hK⟩ := hv
  have hts : ∀ w ∈ lw_g, w.before _ s = true := fun w hw => atoms_spec (ws := .code mt.1 mt.2.1 mt.2.2.1 mt.2.2.2.1 :: lw_g) B.pre w (List.mem_cons_of_mem _ hw)
  rw [lg_entry_eq]
  exact h hok p e s m _ below meth c s.heap [] _ ⟨B.exec, B.bytes, hml, B.returns, B.notSynchronized, (name_of_methodNamed B.named B.method).1, findClass_of_methodNamed B.named, hts, hK, by omega⟩ ⟨hP, hz, va_S.rf⟩ (am_L.entry X vs mt.2.2.1 hn)
theorem tbl_good : lw_g.all goodWord = true := by decide +kernel
/-- what a callee's tables say -/
def am_cal (mk : Mt) (n : Nat) : Prop := Cond.code mk.1 mk.2.1 mk.2.2.1 mk.2.2.2.1 ∈ lw_g ∧ Cond.initialized mk.1.cls ∈ lw_g ∧ (mk.1.cls ≠ "java/lang/invoke/MethodHandle" ∧ mk.1.cls ≠ "java/lang/invoke/VarHandle" ∧ (parseMethodDescriptor mk.1.desc).map (fun d => d.parameters.length) = some n) ∧ mk.2.2.1 ≤ 30
def am_cV (mk : Mt) : Prop := Cond.instanceMethod mk.1 ∈ lw_g ∧ Cond.selects mk.1.cls mk.1 mk.1 ∈ lw_g
def am_cS (mk : Mt) : Prop := Cond.static mk.1 ∈ lw_g
theorem am_good {mk : Mt} {n : Nat} (h : am_cal mk n) : GoodIn lw_g (.code mk.1 mk.2.1 mk.2.2.1 mk.2.2.2.1 :: lw_g) := by
  have hg : ∀ w ∈ lw_g, w ∈ lw_g ∧ ((w.onTables && w.keeps) = true ∨ ∃ ty, w = .arrayClass ty) := fun w hw => ⟨hw, good_of_word (List.all_eq_true.mp tbl_good w hw)⟩
  intro w hw
  rcases List.mem_cons.mp hw with rfl | hw
  · exact hg _ h.1
  · exact hg w hw
/-- n arguments off the stack -/
def am_sp : Nat → List Value → List Value → Option (List Value × List Value)
  | 0, S, A => some (A, S)
  | n + 1, v :: S, A => am_sp n S (v :: A)
  | _ + 1, [], _ => none
theorem am_sp_eq : ∀ {n : Nat} {S A A' S' : List Value}, am_sp n S A = some (A', S') → ∃ B : List Value, S = B.reverse ++ S' ∧ A' = B ++ A ∧ B.length = n
  | 0, S, A, A', S', h => by
    simp only [am_sp, Option.some.injEq, Prod.mk.injEq] at h
    obtain ⟨rfl, rfl⟩ := h
    exact ⟨[], rfl, rfl, rfl⟩
  | n + 1, [], A, A', S', h => by simp [am_sp] at h
  | n + 1, v :: S, A, A', S', h => by
    obtain ⟨B, h1, h2, h3⟩ := am_sp_eq (n := n) (S := S) (A := v :: A) h
    exact ⟨B ++ [v], by rw [h1]; simp, by rw [h2]; simp, by simp [h3]⟩
theorem am_sum (b : Nat) (S : List Value) : ((S.map (am_v b)).map fun v => v.category).sum = (S.map fun v => v.category).sum := by
  rw [List.map_map]
  congr 1
  apply List.map_congr_left
  intro v _
  exact am_v_cat b v
section Cl
variable {X : Cx} {l : Launch} {mt : Mt} {R : Room} {mc ms : Nat} {Q : Option Value → List Shp → Mem → Prop} {kc ks pc : Nat} {L S : List Value} {G : List Shp} {M : Mem}
/-- behind a call -/
theorem am_after {p : Program} {e : Env} {s : State} {m : MethodId} {args : Array Value} {below : List Frame} {meth : Method} {c : Code} {H : Heap} {locs : List Loc} {Z : State → Prop} {ls : Array Slot} {st0 rest : List Value} {a : Array Value} {mc' ms' : Nat} {Qk : Option Value → List Shp → Mem → Prop}
    (hr : va_Run p l e R s m args below meth c H locs kc ks mc' ms' (F0 m pc ls st0) (rest.map (am_v X.1)) (am_Q X mc' Qk a) (am_A X)) (hH : am_H X G M kc s H locs) (hz : H.size = X.1 + G.length)
    (kk : ∀ (v : Option Value) (G2 : List Shp) (M2 : Mem) (H1 : Heap) (locs1 : List Loc), Qk v G2 M2 → am_H X G2 M2 (kc + mc') s H1 locs1 → W p l e R s m args below meth c H1 locs1 (kc + mc') (ks + ms') Z (F0 m (pc + 3) ls ((v.toList ++ rest).map (am_v X.1)))) : W p l e R s m args below meth c H locs kc ks Z (F0 m pc ls st0) := by
  intro T hT X0
  obtain ⟨v, st₀, t, T', L1, h0, X', hL, e1, e2, ⟨v', G2, M2, hv, hq, hP, hs, hF⟩, st⟩ := hr T hT X0
  have hv : v = v'.map (am_v X.1) := by cases hv; rfl
  subst hv
  have hS := hH.2.2
  have hsz := hH.2.1
  obtain ⟨t2, a1, b1⟩ := kk v' G2 M2 T'.heap (locs ++ L1) hq ⟨by rw [e1]; exact hP, by rw [h0] at hs; omega, by
      unfold va_F at hF
      rw [h0] at hF
      refine ⟨Nat.le_trans hS.1 (by rw [e1]; exact hF.1), fun q h1 h2 => ?_, fun q hq => ?_⟩
      · rw [e1, hF.2 q (Nat.lt_of_lt_of_le h1 hS.1) h2]
        exact hS.2.1 q h1 h2
      · rcases List.mem_append.mp hq with h | h
        · exact hS.2.2 q h
        · exact hL q h⟩ T' rfl X'
  refine ⟨t2, st t2 ?_, b1⟩
  have : ((v'.toList ++ rest).map (am_v X.1)) = (v'.map (am_v X.1)).toList ++ rest.map (am_v X.1) := by cases v' <;> simp
  rw [this] at a1
  exact a1
theorem AW.sz {p : Program} {e : Env} {s : State} {m : MethodId} {args : Array Value} {below : List Frame} {meth : Method} {c : Code} {H : Heap} {locs : List Loc} {Z : State → Prop} {g : JFrame} (hH : am_H X G M kc s H locs) (hb : X.1 ≤ s.heap.size) (h : H.size = X.1 + G.length → W p l e R s m args below meth c H locs kc ks Z g) : W p l e R s m args below meth c H locs kc ks Z g := fun T hT X0 => h (by
  have h1 := X0.heapSize
  rw [hT] at h1
  have h2 := hH.ge hb
  have h3 := hH.2.1
  omega) T hT X0
theorem AW.callV {mk : Mt} {n r rk p1 len ci tgt idx a cc mc' ms' cR sR : Nat} {v : Int32} {w : Int64} {T' : List It} {C : Prop} {L' S1 S' As : List Value} {M' : Mem} {cs : List Nat} {Qk : Option Value → List Shp → Mem → Prop} {vc : vw_C}
    (h : am_r G (am_t mt.2.2.2.2 pc) True L S M = some (C, (p1, .invokevirtual idx, len, ci, tgt, v, w) :: T', L', S1, M')) (hC : C) (hs : am_sp (n + 1) S1 [] = some (.ref a :: As, S'))
    (hl : Cond.methodLink mt.1.cls idx mk.1 ∈ lw_g) (hk : am_cal mk n) (hv : am_cV mk) (ha : am_sh G a = some (.inr (cc, cs))) (hcc : vwCl[cc]? = some vc) (hcn : mk.1.cls = vc.1) (hR : R = am_R r cR sR) (hrk : rk < r) (hf : kc + mc' ≤ cR ∧ ks + ms' ≤ sR) (hcat : (S'.map fun v => v.category).sum ≤ 8)
    (hcal : AC X l mk rk mc' ms' (.ref a :: As) G M' Qk) (k : ∀ (v : Option Value) (G2 : List Shp) (M2 : Mem), Qk v G2 M2 → AW X l mt R mc ms Q (kc + mc') (ks + ms') (p1 + 3) L' (v.toList ++ S') G2 M2) : AW X l mt R mc ms Q kc ks pc L S G M := by
  refine AW.run h hC (fun hq => AW.ok fun hok => ?_)
  have hd := am_dec_at hok.1 hq
  have hw := List.all_eq_true.mp hok.2 _ hq
  have hl3 : len = 3 := by simpa [am_wd] using hw
  subst hl3
  obtain ⟨B, hb1, hb2, hb3⟩ := am_sp_eq hs
  rw [List.append_nil] at hb2
  subst hb2
  intro _ p e s m args below meth c H locs ls hCx hH hL
  refine AW.sz hH hCx.2.2.2.2.2.2.2.2.2 (fun hz => ?_)
  have hts := hCx.2.2.2.2.2.2.2.1
  have hK := hCx.2.2.2.2.2.2.2.2.1
  have he := am_w_at (X := X) (M := M') (by rw [← am_sh_eq]; exact ha)
  have hst : S1.map (am_v X.1) = (As.map (am_v X.1)).reverse ++ .ref (X.1 + a) :: S'.map (am_v X.1) := by
    rw [hb1]; simp [am_v]
  subst hR
  have run := va_runV (l := l) (R := am_R r cR sR) (H := H) (locs := locs) (cells := kc) (slots := ks) (below := below) (meth := meth) (e := e) (C := mk.1.cls) (b := X.1 + a) (As := As.map (am_v X.1)) (rest := S'.map (am_v X.1)) (g := F0 m p1 ls (S1.map (am_v X.1))) (n := n) (Ts := lw_g)
    (⟨hCx.1, hCx.2.1, hCx.2.2.1, hCx.2.2.2.2.2.2.1, hts⟩ : CallFix p m c mt.2.1 mt.2.2.1 s args lw_g mt.1.cls) hcal
    ⟨callB_of (bytes := mk.2.1) (maxL := mk.2.2.1) (ret := mk.2.2.2.1) n hts (am_good hk) rfl rfl rfl (hts _ hk.2.1) (hts _ hl) hk.2.2.1 ⟨hrk, by have := hk.2.2.2; simp only [am_R]; omega⟩, hts _ hv.1, hts _ hv.2⟩
    ⟨am_P.blind X _ G M', by rw [hcn]; exact va_recv hK.1 hH.1 hcc he, fun U hU hW => ⟨by simp [am_v], by rw [hU]; exact hH.1, by rw [hU]; exact hz, hK.warm hW⟩⟩
    rfl (by simpa using hb3) hL.2.1 hst (lv_room (by rw [am_sum]; exact hcat)) hd hf
  exact am_after run hH hz (fun v G2 M2 H1 locs1 hq hH1 => k v G2 M2 hq hok p e s m args below meth c H1 locs1 ls hCx hH1 hL)
theorem AW.callS {mk : Mt} {n r rk p1 len ci tgt idx mc' ms' cR sR : Nat} {v : Int32} {w : Int64} {T' : List It} {C : Prop} {L' S1 S' As : List Value} {M' : Mem} {Qk : Option Value → List Shp → Mem → Prop}
    (h : am_r G (am_t mt.2.2.2.2 pc) True L S M = some (C, (p1, .invokestatic idx, len, ci, tgt, v, w) :: T', L', S1, M')) (hC : C) (hs : am_sp n S1 [] = some (As, S'))
    (hl : Cond.methodLink mt.1.cls idx mk.1 ∈ lw_g ∨ (mt.1.cls, idx, mk.1) ∈ nl_tbl) (hk : am_cal mk n) (hv : am_cS mk) (hR : R = am_R r cR sR) (hrk : rk < r) (hf : kc + mc' ≤ cR ∧ ks + ms' ≤ sR) (hcat : (S'.map fun v => v.category).sum ≤ 8)
    (hcal : AC X l mk rk mc' ms' As G M' Qk) (k : ∀ (v : Option Value) (G2 : List Shp) (M2 : Mem), Qk v G2 M2 → AW X l mt R mc ms Q (kc + mc') (ks + ms') (p1 + 3) L' (v.toList ++ S') G2 M2) : AW X l mt R mc ms Q kc ks pc L S G M := by
  refine AW.run h hC (fun hq => AW.ok fun hok => ?_)
  have hd := am_dec_at hok.1 hq
  have hw := List.all_eq_true.mp hok.2 _ hq
  have hl3 : len = 3 := by simpa [am_wd] using hw
  subst hl3
  obtain ⟨B, hb1, hb2, hb3⟩ := am_sp_eq hs
  rw [List.append_nil] at hb2
  subst hb2
  intro _ p e s m args below meth c H locs ls hCx hH hL
  refine AW.sz hH hCx.2.2.2.2.2.2.2.2.2 (fun hz => ?_)
  have hts := hCx.2.2.2.2.2.2.2.1
  have hK := hCx.2.2.2.2.2.2.2.2.1
  have hst : S1.map (am_v X.1) = (As.map (am_v X.1)).reverse ++ S'.map (am_v X.1) := by
    rw [hb1]; simp
  subst hR
  have hp : PreS s H (am_P X As G M') (As.map (am_v X.1)) := ⟨am_P.blind X _ G M', fun U hU hW => ⟨rfl, by rw [hU]; exact hH.1, by rw [hU]; exact hz, hK.warm hW⟩⟩
  have run : va_Run p l e (am_R r cR sR) s m args below meth c H locs kc ks mc' ms' (F0 m p1 ls (S1.map (am_v X.1))) (S'.map (am_v X.1)) (am_Q X mc' Qk (As.map (am_v X.1)).toArray) (am_A X) := by
    rcases hl with hl | hl
    · exact va_runS (n := n) (Ts := lw_g) (⟨hCx.1, hCx.2.1, hCx.2.2.1, hCx.2.2.2.2.2.2.1, hts⟩ : CallFix p m c mt.2.1 mt.2.2.1 s args lw_g mt.1.cls) hcal
        ⟨callB_of (bytes := mk.2.1) (maxL := mk.2.2.1) (ret := mk.2.2.2.1) n hts (am_good hk) rfl rfl rfl (hts _ hk.2.1) (hts _ hl) hk.2.2.1 ⟨hrk, by have := hk.2.2.2; simp only [am_R]; omega⟩, hts _ hv⟩ hp
        rfl (by simpa using hb3) hL.2.1 hst (lv_room (by rw [am_sum]; exact hcat)) hd hf
    · exact va_runSN (n := n) (Ts := lw_g) (⟨hCx.1, hCx.2.1, hCx.2.2.1, hCx.2.2.2.2.2.2.1, hts⟩ : CallFix p m c mt.2.1 mt.2.2.1 s args lw_g mt.1.cls) hcal
        ⟨va_cnB (bytes := mk.2.1) (maxL := mk.2.2.1) (ret := mk.2.2.2.1) n hts (am_good hk) rfl rfl rfl (hK.2 _ hl) (hts _ hk.2.1) hk.2.2.1 ⟨hrk, by have := hk.2.2.2; simp only [am_R]; omega⟩, hts _ hv, trivial⟩ hp
        rfl (by simpa using hb3) hL.2.1 hst (lv_room (by rw [am_sum]; exact hcat)) hd hf
  exact am_after run hH hz (fun v G2 M2 H1 locs1 hq hH1 => k v G2 M2 hq hok p e s m args below meth c H1 locs1 ls hCx hH1 hL)
theorem AW.callI {mk : Mt} {n r rk p1 len ci tgt idx a mc' ms' cR sR : Nat} {v : Int32} {w : Int64} {T' : List It} {C : Prop} {L' S1 S' As : List Value} {M' : Mem} {Qk : Option Value → List Shp → Mem → Prop}
    (h : am_r G (am_t mt.2.2.2.2 pc) True L S M = some (C, (p1, .invokespecial idx, len, ci, tgt, v, w) :: T', L', S1, M')) (hC : C) (hs : am_sp (n + 1) S1 [] = some (.ref a :: As, S'))
    (hl : Cond.methodLink mt.1.cls idx mk.1 ∈ lw_g ∨ (mt.1.cls, idx, mk.1) ∈ nl_tbl) (hk : am_cal mk n) (hv : Cond.instanceMethod mk.1 ∈ lw_g) (hin : mk.1.name = "<init>") (hrt : mk.2.2.2.1 = none) (hR : R = am_R r cR sR) (hrk : rk < r) (hf : kc + mc' ≤ cR ∧ ks + ms' ≤ sR) (hcat : (S'.map fun v => v.category).sum ≤ 8)
    (hcal : AC X l mk rk mc' ms' (.ref a :: As) G M' Qk) (k : ∀ (v : Option Value) (G2 : List Shp) (M2 : Mem), Qk v G2 M2 → AW X l mt R mc ms Q (kc + mc') (ks + ms') (p1 + 3) L' (v.toList ++ S') G2 M2) : AW X l mt R mc ms Q kc ks pc L S G M := by
  refine AW.run h hC (fun hq => AW.ok fun hok => ?_)
  have hd := am_dec_at hok.1 hq
  have hw := List.all_eq_true.mp hok.2 _ hq
  have hl3 : len = 3 := by simpa [am_wd] using hw
  subst hl3
  obtain ⟨B, hb1, hb2, hb3⟩ := am_sp_eq hs
  rw [List.append_nil] at hb2
  subst hb2
  intro _ p e s m args below meth c H locs ls hCx hH hL
  refine AW.sz hH hCx.2.2.2.2.2.2.2.2.2 (fun hz => ?_)
  have hts := hCx.2.2.2.2.2.2.2.1
  have hK := hCx.2.2.2.2.2.2.2.2.1
  have hst : S1.map (am_v X.1) = (As.map (am_v X.1)).reverse ++ .ref (X.1 + a) :: S'.map (am_v X.1) := by
    rw [hb1]; simp [am_v]
  subst hR
  have hp : PreS s H (am_P X (.ref a :: As) G M') (.ref (X.1 + a) :: As.map (am_v X.1)) := ⟨am_P.blind X _ G M', fun U hU hW => ⟨by simp [am_v], by rw [hU]; exact hH.1, by rw [hU]; exact hz, hK.warm hW⟩⟩
  have run : va_Run p l e (am_R r cR sR) s m args below meth c H locs kc ks mc' ms' (F0 m p1 ls (S1.map (am_v X.1))) (S'.map (am_v X.1)) (am_Q X mc' Qk (Value.ref (X.1 + a) :: As.map (am_v X.1)).toArray) (am_A X) := by
    unfold AC at hcal
    have hG := am_good hk
    have hk' := hk
    rw [hrt] at hcal hG
    rcases hl with hl | hl
    · exact va_runI (n := n) (Ts := lw_g) (⟨hCx.1, hCx.2.1, hCx.2.2.1, hCx.2.2.2.2.2.2.1, hts⟩ : CallFix p m c mt.2.1 mt.2.2.1 s args lw_g mt.1.cls) hcal
        ⟨callB_of (bytes := mk.2.1) (maxL := mk.2.2.1) (ret := none) n hts hG rfl rfl rfl (hts _ hk.2.1) (hts _ hl) hk.2.2.1 ⟨hrk, by have := hk.2.2.2; simp only [am_R]; omega⟩, hin, hts _ hv⟩ hp
        rfl (by simpa using hb3) hL.2.1 hst (lv_room (by rw [am_sum]; exact hcat)) hd hf
    · exact va_runIN (n := n) (Ts := lw_g) (⟨hCx.1, hCx.2.1, hCx.2.2.1, hCx.2.2.2.2.2.2.1, hts⟩ : CallFix p m c mt.2.1 mt.2.2.1 s args lw_g mt.1.cls) hcal
        ⟨va_cnB (bytes := mk.2.1) (maxL := mk.2.2.1) (ret := none) n hts hG rfl rfl rfl (hK.2 _ hl) (hts _ hk.2.1) hk.2.2.1 ⟨hrk, by have := hk.2.2.2; simp only [am_R]; omega⟩, hin, hts _ hv⟩ hp
        rfl (by simpa using hb3) hL.2.1 hst (lv_room (by rw [am_sum]; exact hcat)) hd hf
  exact am_after run hH hz (fun v G2 M2 H1 locs1 hq hH1 => k v G2 M2 hq hok p e s m args below meth c H1 locs1 ls hCx hH1 hL)
end Cl

