/-! methods that make no cell: PW, PC -/
def PW (X : Cx) (l : Launch) (mt : Mt) (rk : Nat) (Q : Option Value → Mem → Prop) (pc : Nat) (L S : List Value) (G : List Shp) (M : Mem) : Prop := AW X l mt (am_R rk 0 0) 0 0 (fun v G' M' => G' = G ∧ Q v M') 0 0 pc L S G M
def PC (X : Cx) (l : Launch) (mt : Mt) (rk : Nat) (vs : List Value) (G : List Shp) (M : Mem) (Q : Option Value → Mem → Prop) : Prop := AC X l mt rk 0 0 vs G M (fun v G' M' => G' = G ∧ Q v M')
/-- the memory stays, the answer is r -/
def PF (X : Cx) (l : Launch) (mt : Mt) (rk : Nat) (vs : List Value) (G : List Shp) (M : Mem) (r : Value) : Prop := PC X l mt rk vs G M (fun v M' => v = some r ∧ M' = M)
def am_siV (own : String) (idx : Nat) (mk : Mt) (n : Nat) : Prop := Cond.methodLink own idx mk.1 ∈ lw_g ∧ am_cal mk n ∧ am_cV mk
def am_siS (own : String) (idx : Nat) (mk : Mt) (n : Nat) : Prop := (Cond.methodLink own idx mk.1 ∈ lw_g ∨ (own, idx, mk.1) ∈ nl_tbl) ∧ am_cal mk n ∧ am_cS mk
def am_siI (own : String) (idx : Nat) (mk : Mt) (n : Nat) : Prop := (Cond.methodLink own idx mk.1 ∈ lw_g ∨ (own, idx, mk.1) ∈ nl_tbl) ∧ am_cal mk n ∧ Cond.instanceMethod mk.1 ∈ lw_g
def am_rc (G : List Shp) (a : Nat) : Option String := match am_sh G a with
  | some (.inr (cc, _)) => match vwCl[cc]? with
    | some r => some r.1
    | none => none
  | _ => none
theorem am_rc_of {G : List Shp} {a : Nat} {C : String} (h : am_rc G a = some C) : ∃ cc cs vc, am_sh G a = some (.inr (cc, cs)) ∧ vwCl[cc]? = some vc ∧ C = vc.1 := by
  unfold am_rc at h
  split at h
  · rename_i cc cs h1
    split at h
    · rename_i r h2
      exact ⟨cc, cs, r, h1, h2, (Option.some.inj h).symm⟩
    · cases h
  · cases h
theorem lw_mem {w : Cond} {i : Nat} (h : lw_tbl[i]? = some w) (hg : goodWord w = true) : w ∈ lw_g := List.mem_filter.mpr ⟨List.mem_of_getElem? h, hg⟩
section Pw
variable {X : Cx} {l : Launch} {mt : Mt} {rk : Nat} {Q : Option Value → Mem → Prop} {pc : Nat} {L S : List Value} {G : List Shp} {M : Mem}
theorem PC.ofW {vs : List Value} (hok : am_ok mt) (h : PW X l mt rk Q 0 (am_ent mt.2.2.1 vs) [] G M) (hy : plainName mt.1.cls = true := by decide +kernel) (hn : (am_sl vs).length ≤ mt.2.2.1 := by exact Nat.le_of_ble_eq_true rfl) : PC X l mt rk vs G M Q := AC.ofW hok hy hn h
theorem PC.weaken {vs : List Value} {Q' : Option Value → Mem → Prop} (h : PC X l mt rk vs G M Q') (hq : ∀ v M', Q' v M' → Q v M') : PC X l mt rk vs G M Q := by
  intro p e
  intros
  rename_i a1 a2 a3 s m args below hf hpre hP hT
  obtain ⟨t, o, h1, h2, h3, ⟨v, G2, M2, k1, ⟨k2, k3⟩, k4⟩, h5⟩ := h p e a1 a2 a3 s m args below hf hpre hP hT
  exact ⟨t, o, h1, h2, h3, ⟨v, G2, M2, k1, ⟨k2, hq _ _ k3⟩, k4⟩, h5⟩
theorem PW.ieq {p1 len ci tgt : Nat} {off : Int} {v : Int32} {w : Int64} {T' : List It} {C : Prop} {L' S' : List Value} {M' : Mem} {x y : Int32} (h : am_r G (am_t mt.2.2.2.2 pc) True L S M = some (C, (p1, .if_icmp .eq off, len, ci, tgt, v, w) :: T', L', .int y :: .int x :: S', M')) (hC : C) (k1 : x = y → PW X l mt rk Q tgt L' S' G M') (k2 : ¬ x = y → PW X l mt rk Q (p1 + 3) L' S' G M') : PW X l mt rk Q pc L S G M := AW.ieq h hC k1 k2
theorem PW.ine {p1 len ci tgt : Nat} {off : Int} {v : Int32} {w : Int64} {T' : List It} {C : Prop} {L' S' : List Value} {M' : Mem} {x y : Int32} (h : am_r G (am_t mt.2.2.2.2 pc) True L S M = some (C, (p1, .if_icmp .ne off, len, ci, tgt, v, w) :: T', L', .int y :: .int x :: S', M')) (hC : C) (k1 : ¬ x = y → PW X l mt rk Q tgt L' S' G M') (k2 : x = y → PW X l mt rk Q (p1 + 3) L' S' G M') : PW X l mt rk Q pc L S G M := AW.ine h hC k1 k2
theorem PW.ilt {p1 len ci tgt : Nat} {off : Int} {v : Int32} {w : Int64} {T' : List It} {C : Prop} {L' S' : List Value} {M' : Mem} {x y : Int32} (h : am_r G (am_t mt.2.2.2.2 pc) True L S M = some (C, (p1, .if_icmp .lt off, len, ci, tgt, v, w) :: T', L', .int y :: .int x :: S', M')) (hC : C) (k1 : x < y → PW X l mt rk Q tgt L' S' G M') (k2 : ¬ x < y → PW X l mt rk Q (p1 + 3) L' S' G M') : PW X l mt rk Q pc L S G M := AW.ilt h hC k1 k2
theorem PW.ige {p1 len ci tgt : Nat} {off : Int} {v : Int32} {w : Int64} {T' : List It} {C : Prop} {L' S' : List Value} {M' : Mem} {x y : Int32} (h : am_r G (am_t mt.2.2.2.2 pc) True L S M = some (C, (p1, .if_icmp .ge off, len, ci, tgt, v, w) :: T', L', .int y :: .int x :: S', M')) (hC : C) (k1 : y ≤ x → PW X l mt rk Q tgt L' S' G M') (k2 : ¬ y ≤ x → PW X l mt rk Q (p1 + 3) L' S' G M') : PW X l mt rk Q pc L S G M := AW.ige h hC k1 k2
theorem PW.igt {p1 len ci tgt : Nat} {off : Int} {v : Int32} {w : Int64} {T' : List It} {C : Prop} {L' S' : List Value} {M' : Mem} {x y : Int32} (h : am_r G (am_t mt.2.2.2.2 pc) True L S M = some (C, (p1, .if_icmp .gt off, len, ci, tgt, v, w) :: T', L', .int y :: .int x :: S', M')) (hC : C) (k1 : y < x → PW X l mt rk Q tgt L' S' G M') (k2 : ¬ y < x → PW X l mt rk Q (p1 + 3) L' S' G M') : PW X l mt rk Q pc L S G M := AW.igt h hC k1 k2
theorem PW.ile {p1 len ci tgt : Nat} {off : Int} {v : Int32} {w : Int64} {T' : List It} {C : Prop} {L' S' : List Value} {M' : Mem} {x y : Int32} (h : am_r G (am_t mt.2.2.2.2 pc) True L S M = some (C, (p1, .if_icmp .le off, len, ci, tgt, v, w) :: T', L', .int y :: .int x :: S', M')) (hC : C) (k1 : x ≤ y → PW X l mt rk Q tgt L' S' G M') (k2 : ¬ x ≤ y → PW X l mt rk Q (p1 + 3) L' S' G M') : PW X l mt rk Q pc L S G M := AW.ile h hC k1 k2
theorem PW.zeq {p1 len ci tgt : Nat} {off : Int} {v : Int32} {w : Int64} {T' : List It} {C : Prop} {L' S' : List Value} {M' : Mem} {x : Int32} (h : am_r G (am_t mt.2.2.2.2 pc) True L S M = some (C, (p1, .ifCond .eq off, len, ci, tgt, v, w) :: T', L', .int x :: S', M')) (hC : C) (k1 : x = 0 → PW X l mt rk Q tgt L' S' G M') (k2 : ¬ x = 0 → PW X l mt rk Q (p1 + 3) L' S' G M') : PW X l mt rk Q pc L S G M := AW.zeq h hC k1 k2
theorem PW.zne {p1 len ci tgt : Nat} {off : Int} {v : Int32} {w : Int64} {T' : List It} {C : Prop} {L' S' : List Value} {M' : Mem} {x : Int32} (h : am_r G (am_t mt.2.2.2.2 pc) True L S M = some (C, (p1, .ifCond .ne off, len, ci, tgt, v, w) :: T', L', .int x :: S', M')) (hC : C) (k1 : ¬ x = 0 → PW X l mt rk Q tgt L' S' G M') (k2 : x = 0 → PW X l mt rk Q (p1 + 3) L' S' G M') : PW X l mt rk Q pc L S G M := AW.zne h hC k1 k2
theorem PW.zlt {p1 len ci tgt : Nat} {off : Int} {v : Int32} {w : Int64} {T' : List It} {C : Prop} {L' S' : List Value} {M' : Mem} {x : Int32} (h : am_r G (am_t mt.2.2.2.2 pc) True L S M = some (C, (p1, .ifCond .lt off, len, ci, tgt, v, w) :: T', L', .int x :: S', M')) (hC : C) (k1 : x < 0 → PW X l mt rk Q tgt L' S' G M') (k2 : ¬ x < 0 → PW X l mt rk Q (p1 + 3) L' S' G M') : PW X l mt rk Q pc L S G M := AW.zlt h hC k1 k2
theorem PW.zge {p1 len ci tgt : Nat} {off : Int} {v : Int32} {w : Int64} {T' : List It} {C : Prop} {L' S' : List Value} {M' : Mem} {x : Int32} (h : am_r G (am_t mt.2.2.2.2 pc) True L S M = some (C, (p1, .ifCond .ge off, len, ci, tgt, v, w) :: T', L', .int x :: S', M')) (hC : C) (k1 : 0 ≤ x → PW X l mt rk Q tgt L' S' G M') (k2 : ¬ 0 ≤ x → PW X l mt rk Q (p1 + 3) L' S' G M') : PW X l mt rk Q pc L S G M := AW.zge h hC k1 k2
theorem PW.zgt {p1 len ci tgt : Nat} {off : Int} {v : Int32} {w : Int64} {T' : List It} {C : Prop} {L' S' : List Value} {M' : Mem} {x : Int32} (h : am_r G (am_t mt.2.2.2.2 pc) True L S M = some (C, (p1, .ifCond .gt off, len, ci, tgt, v, w) :: T', L', .int x :: S', M')) (hC : C) (k1 : 0 < x → PW X l mt rk Q tgt L' S' G M') (k2 : ¬ 0 < x → PW X l mt rk Q (p1 + 3) L' S' G M') : PW X l mt rk Q pc L S G M := AW.zgt h hC k1 k2
theorem PW.zle {p1 len ci tgt : Nat} {off : Int} {v : Int32} {w : Int64} {T' : List It} {C : Prop} {L' S' : List Value} {M' : Mem} {x : Int32} (h : am_r G (am_t mt.2.2.2.2 pc) True L S M = some (C, (p1, .ifCond .le off, len, ci, tgt, v, w) :: T', L', .int x :: S', M')) (hC : C) (k1 : x ≤ 0 → PW X l mt rk Q tgt L' S' G M') (k2 : ¬ x ≤ 0 → PW X l mt rk Q (p1 + 3) L' S' G M') : PW X l mt rk Q pc L S G M := AW.zle h hC k1 k2
theorem PW.goto {p1 len ci tgt : Nat} {off : Int} {v : Int32} {w : Int64} {T' : List It} {C : Prop} {L' S' : List Value} {M' : Mem} (h : am_r G (am_t mt.2.2.2.2 pc) True L S M = some (C, (p1, .goto off, len, ci, tgt, v, w) :: T', L', S', M')) (hC : C) (k : PW X l mt rk Q tgt L' S' G M') : PW X l mt rk Q pc L S G M := AW.goto h hC k
/-- an int's end -/
theorem PW.iret {p1 len ci tgt : Nat} {v : Int32} {w : Int64} {T' : List It} {C : Prop} {L' : List Value} {M' : Mem} {z : Int32} (hr : mt.2.2.2.1 = some .int) (h : am_r G (am_t mt.2.2.2.2 pc) True L S M = some (C, (p1, .ireturn, len, ci, tgt, v, w) :: T', L', [.int z], M')) (hC : C) (hQ : Q (some (.int z)) M') : PW X l mt rk Q pc L S G M := AW.iret hr rfl h hC ⟨rfl, hQ⟩
/-- a boolean's end -/
theorem PW.zret {p1 len ci tgt : Nat} {v : Int32} {w : Int64} {T' : List It} {C : Prop} {L' : List Value} {M' : Mem} {z : Int32} (hr : mt.2.2.2.1 = some .boolean) (h : am_r G (am_t mt.2.2.2.2 pc) True L S M = some (C, (p1, .ireturn, len, ci, tgt, v, w) :: T', L', [.int z], M')) (hC : C) (hz : narrow .boolean (.int z) = .int z) (hQ : Q (some (.int z)) M') : PW X l mt rk Q pc L S G M := AW.iret hr hz h hC ⟨rfl, hQ⟩
theorem PW.lret {p1 len ci tgt : Nat} {v : Int32} {w : Int64} {T' : List It} {C : Prop} {L' : List Value} {M' : Mem} {z : Int64} (hr : mt.2.2.2.1 = some .long) (h : am_r G (am_t mt.2.2.2.2 pc) True L S M = some (C, (p1, .lreturn, len, ci, tgt, v, w) :: T', L', [.long z], M')) (hC : C) (hQ : Q (some (.long z)) M') : PW X l mt rk Q pc L S G M := AW.lret hr h hC ⟨rfl, hQ⟩
theorem PW.vret {p1 len ci tgt : Nat} {v : Int32} {w : Int64} {T' : List It} {C : Prop} {L' : List Value} {M' : Mem} (hr : mt.2.2.2.1 = none) (h : am_r G (am_t mt.2.2.2.2 pc) True L S M = some (C, (p1, .return_, len, ci, tgt, v, w) :: T', L', [], M')) (hC : C) (hQ : Q none M') : PW X l mt rk Q pc L S G M := AW.vret hr h hC ⟨rfl, hQ⟩
theorem PW.aret {p1 len ci tgt : Nat} {v : Int32} {w : Int64} {T' : List It} {C : Prop} {L' : List Value} {M' : Mem} {z : Nat} {cn : String} (hr : mt.2.2.2.1 = some (.object cn)) (h : am_r G (am_t mt.2.2.2.2 pc) True L S M = some (C, (p1, .areturn, len, ci, tgt, v, w) :: T', L', [.ref z], M')) (hC : C) (hQ : Q (some (.ref z)) M') : PW X l mt rk Q pc L S G M := AW.aret hr h hC ⟨rfl, hQ⟩
theorem PW.callV {mk : Mt} {n rk' p1 len ci tgt idx a : Nat} {v : Int32} {w : Int64} {T' : List It} {C : Prop} {L' S1 S' As : List Value} {M' : Mem} {Qk : Option Value → Mem → Prop}
    (h : am_r G (am_t mt.2.2.2.2 pc) True L S M = some (C, (p1, .invokevirtual idx, len, ci, tgt, v, w) :: T', L', S1, M')) (hC : C) (hsi : am_siV mt.1.cls idx mk n) (hs : am_sp (n + 1) S1 [] = some (.ref a :: As, S')) (ha : am_rc G a = some mk.1.cls) (hrk : rk' < rk) (hcat : Nat.ble (S'.map fun v => v.category).sum 8 = true)
    (hcal : PC X l mk rk' (.ref a :: As) G M' Qk) (k : ∀ (v : Option Value) (M2 : Mem), Qk v M2 → PW X l mt rk Q (p1 + 3) L' (v.toList ++ S') G M2) : PW X l mt rk Q pc L S G M := by
  obtain ⟨cc, cs, vc, h1, h2, h3⟩ := am_rc_of ha
  exact AW.callV h hC hs hsi.1 hsi.2.1 hsi.2.2 h1 h2 h3 rfl hrk ⟨Nat.le_refl _, Nat.le_refl _⟩ (Nat.le_of_ble_eq_true hcat) hcal (fun v G2 M2 hq => by obtain ⟨rfl, hq⟩ := hq; exact k v M2 hq)
theorem PW.callS {mk : Mt} {n rk' p1 len ci tgt idx : Nat} {v : Int32} {w : Int64} {T' : List It} {C : Prop} {L' S1 S' As : List Value} {M' : Mem} {Qk : Option Value → Mem → Prop}
    (h : am_r G (am_t mt.2.2.2.2 pc) True L S M = some (C, (p1, .invokestatic idx, len, ci, tgt, v, w) :: T', L', S1, M')) (hC : C) (hsi : am_siS mt.1.cls idx mk n) (hs : am_sp n S1 [] = some (As, S')) (hrk : rk' < rk) (hcat : Nat.ble (S'.map fun v => v.category).sum 8 = true)
    (hcal : PC X l mk rk' As G M' Qk) (k : ∀ (v : Option Value) (M2 : Mem), Qk v M2 → PW X l mt rk Q (p1 + 3) L' (v.toList ++ S') G M2) : PW X l mt rk Q pc L S G M :=
  AW.callS h hC hs hsi.1 hsi.2.1 hsi.2.2 rfl hrk ⟨Nat.le_refl _, Nat.le_refl _⟩ (Nat.le_of_ble_eq_true hcat) hcal (fun v G2 M2 hq => by obtain ⟨rfl, hq⟩ := hq; exact k v M2 hq)
/-- a call of a function: the memory stays -/
theorem PW.funV {mk : Mt} {n rk' p1 len ci tgt idx a : Nat} {v : Int32} {w : Int64} {T' : List It} {C : Prop} {L' S1 S' As : List Value} {M' : Mem} {r : Value}
    (h : am_r G (am_t mt.2.2.2.2 pc) True L S M = some (C, (p1, .invokevirtual idx, len, ci, tgt, v, w) :: T', L', S1, M')) (hC : C) (hsi : am_siV mt.1.cls idx mk n) (hs : am_sp (n + 1) S1 [] = some (.ref a :: As, S')) (ha : am_rc G a = some mk.1.cls) (hrk : rk' < rk) (hcat : Nat.ble (S'.map fun v => v.category).sum 8 = true)
    (hcal : PF X l mk rk' (.ref a :: As) G M' r) (k : PW X l mt rk Q (p1 + 3) L' (r :: S') G M') : PW X l mt rk Q pc L S G M :=
  PW.callV h hC hsi hs ha hrk hcat hcal (fun v M2 hq => by obtain ⟨rfl, rfl⟩ := hq; exact k)
theorem PW.funS {mk : Mt} {n rk' p1 len ci tgt idx : Nat} {v : Int32} {w : Int64} {T' : List It} {C : Prop} {L' S1 S' As : List Value} {M' : Mem} {r : Value}
    (h : am_r G (am_t mt.2.2.2.2 pc) True L S M = some (C, (p1, .invokestatic idx, len, ci, tgt, v, w) :: T', L', S1, M')) (hC : C) (hsi : am_siS mt.1.cls idx mk n) (hs : am_sp n S1 [] = some (As, S')) (hrk : rk' < rk) (hcat : Nat.ble (S'.map fun v => v.category).sum 8 = true)
    (hcal : PF X l mk rk' As G M' r) (k : PW X l mt rk Q (p1 + 3) L' (r :: S') G M') : PW X l mt rk Q pc L S G M :=
  PW.callS h hC hsi hs hrk hcat hcal (fun v M2 hq => by obtain ⟨rfl, rfl⟩ := hq; exact k)
theorem PF.ofW {vs : List Value} {r : Value} (hok : am_ok mt) (h : PW X l mt rk (fun v M' => v = some r ∧ M' = M) 0 (am_ent mt.2.2.1 vs) [] G M) (hy : plainName mt.1.cls = true := by decide +kernel) (hn : (am_sl vs).length ≤ mt.2.2.1 := by exact Nat.le_of_ble_eq_true rfl) : PF X l mt rk vs G M r := AC.ofW hok hy hn h
end Pw
