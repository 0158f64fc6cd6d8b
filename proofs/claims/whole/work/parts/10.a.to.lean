/-! up to a place -/
def am_q (G : List Shp) (stop : Nat) : List It → Prop → List Value → List Value → Mem → Option (Prop × List Value × List Value × Mem)
  | [], _, _, _, _ => none
  | q :: T, C, L, S, M => match Nat.beq q.1 stop with
    | true => am_fc L (fun L => am_fc S (fun S => some (C, L, S, M)))
    | false => match am_x G q L S M with
      | some (none, L', S', M') => am_q G stop T C L' S' M'
      | some (some c, L', S', M') => am_q G stop T (C ∧ c) L' S' M'
      | none => none
theorem am_q_C {G : List Shp} {stop : Nat} : ∀ {T : List It} {C C' : Prop} {L S L' S' : List Value} {M M' : Mem}, am_q G stop T C L S M = some (C', L', S', M') → C' → C
  | [], _, _, _, _, _, _, _, _, h, _ => by cases h
  | q :: T, C, C', L, S, L', S', M, M', h, hC => by
    unfold am_q at h
    split at h
    · rw [am_fc_eq, am_fc_eq] at h
      cases h
      exact hC
    · split at h
      · exact am_q_C h hC
      · exact (am_q_C h hC).1
      · cases h
section To
variable {X : Cx} {l : Launch} {mt : Mt} {R : Room} {mc ms : Nat} {Q : Option Value → List Shp → Mem → Prop} {kc ks pc : Nat} {L S : List Value} {G : List Shp} {M : Mem}
theorem am_q_sound {stop : Nat} {C' : Prop} {L' S' : List Value} {M' : Mem} : ∀ (T : List It) (pc : Nat) (C : Prop) (L S : List Value) (M : Mem), (∀ q ∈ T, q ∈ mt.2.2.2.2) → am_hd T pc = true → am_dec mt.2.1 T = true → am_q G stop T C L S M = some (C', L', S', M') → C' → AW X l mt R mc ms Q kc ks stop L' S' G M' → AW X l mt R mc ms Q kc ks pc L S G M
  | [], _, _, _, _, _, _, _, _, h, _, _ => by cases h
  | x :: T, pc, C, L, S, M, hm, hh, hdc, h, hC, k => by
    have hpc : x.1 = pc := by simpa [am_hd] using hh
    subst hpc
    have hx := hm x List.mem_cons_self
    simp only [am_dec, Bool.and_eq_true] at hdc
    unfold am_q at h
    split at h
    · rename_i hb
      rw [Nat.beq_eq] at hb
      rw [am_fc_eq, am_fc_eq] at h
      cases h
      rw [hb]
      exact k
    · split at h
      · rename_i L1 S1 M1 h1
        exact am_x_sound hx h1 (fun P hP => by cases hP) (am_q_sound T _ _ _ _ _ (fun q hq => hm q (List.mem_cons_of_mem _ hq)) hdc.2.1 hdc.2.2 h hC k)
      · rename_i c L1 S1 M1 h1
        have hc := (am_q_C h hC).2
        exact am_x_sound hx h1 (fun P hP => by cases hP; exact hc) (am_q_sound T _ _ _ _ _ (fun q hq => hm q (List.mem_cons_of_mem _ hq)) hdc.2.1 hdc.2.2 h hC k)
      · cases h
theorem AW.to (stop : Nat) {C : Prop} {L' S' : List Value} {M' : Mem} (h : am_q G stop (am_t mt.2.2.2.2 pc) True L S M = some (C, L', S', M')) (hC : C) (k : AW X l mt R mc ms Q kc ks stop L' S' G M') : AW X l mt R mc ms Q kc ks pc L S G M :=
  AW.ok (fun hok => am_q_sound _ _ _ _ _ _ (fun q hq => am_t_mem hq) (am_t_hd _ _) (am_t_dec hok.1) h hC k)
theorem PW.to {rk : Nat} {Q : Option Value → Mem → Prop} (stop : Nat) {C : Prop} {L' S' : List Value} {M' : Mem} (h : am_q G stop (am_t mt.2.2.2.2 pc) True L S M = some (C, L', S', M')) (hC : C) (k : PW X l mt rk Q stop L' S' G M') : PW X l mt rk Q pc L S G M := AW.to stop h hC k
end To
