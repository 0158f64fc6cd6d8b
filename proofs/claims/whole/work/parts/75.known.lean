-- the tables' words at the law's entry
theorem nl_in : ∀ q ∈ nl_tbl, Cond.methodLinkNest q.1 q.2.1 q.2.2 "PeopleLands" ∈ lw_tbl := by decide +kernel
theorem nl_on : ∀ q ∈ nl_tbl, (Cond.methodLinkNest q.1 q.2.1 q.2.2 "PeopleLands").onTables = true := by decide +kernel
theorem cl_ins : ∀ r ∈ vwCl, ∃ n, Cond.instantiable r.1 n ∈ lw_g := List.forall_mem_cons.mpr ⟨⟨_, inX0⟩, List.forall_mem_cons.mpr ⟨⟨_, inX1⟩, List.forall_mem_cons.mpr ⟨⟨_, inX2⟩, List.forall_mem_cons.mpr ⟨⟨_, inX3⟩, List.forall_mem_cons.mpr ⟨⟨_, inX4⟩, List.forall_mem_cons.mpr ⟨⟨_, inX5⟩, List.forall_mem_cons.mpr ⟨⟨_, inX6⟩, List.forall_mem_cons.mpr ⟨⟨_, inX7⟩, List.forall_mem_cons.mpr ⟨⟨_, inX8⟩, fun _ h => absurd h List.not_mem_nil⟩⟩⟩⟩⟩⟩⟩⟩⟩
theorem kn_arr {s : State} {A : Array Value} {ty : FieldType} (h : (Cond.arrayClass ty).before A s = true) : ∃ cA, ArrOfT s cA ty ∧ s.vm.findClass ("[" ++ ty.toString) = some cA := by
  obtain ⟨cA, kA, comp, h1, h2, h3⟩ := Cond.arrayClass_spec h
  exact ⟨cA, fun n z => ⟨fun k h => (by cases h), kA, h2, comp, h3⟩, h1⟩
theorem kn_of {s : State} {A : Array Value} (hts : ∀ w ∈ lw_tbl, w.before A s = true) : ∃ X : Cx, X.1 = s.heap.size ∧ am_K X s := by
  have hg : ∀ w ∈ lw_g, w.before A s = true := fun w hw => hts w (List.mem_filter.mp hw).1
  have h1 : ∀ r ∈ vwCl, ∃ (cC : ClassId) (iS : Nat → Nat), u_Kn s r.1 r.2.1 r.2.2 cC iS := fun r hr => by
    obtain ⟨n, hn⟩ := cl_ins r hr
    exact u_known hg (cl_in r hr) (hg _ hn)
  obtain ⟨c0, i0, -⟩ := h1 _ (List.mem_of_getElem? (i := 0) rfl)
  have h2 : ∀ k : Nat, ∃ d : ClassId × (Nat → Nat), ∀ r, vwCl[k]? = some r → u_Kn s r.1 r.2.1 r.2.2 d.1 d.2 := fun k => by
    cases e : vwCl[k]? with
    | none => exact ⟨(c0, i0), fun r h => by cases h⟩
    | some r0 =>
      obtain ⟨c, i, h⟩ := h1 r0 (List.mem_of_getElem? e)
      exact ⟨(c, i), fun r h2 => by cases h2; exact h⟩
  obtain ⟨f, hf⟩ := Classical.axiomOfChoice h2
  obtain ⟨a0, a1, a2⟩ := kn_arr (hg _ ac_int)
  obtain ⟨b0, b1, b2⟩ := kn_arr (hg _ ac_long)
  obtain ⟨z0, z1, z2⟩ := kn_arr (hg _ ac_bool)
  refine ⟨(s.heap.size, (fun k => (f k).1, fun k => (f k).2), fun t => match t with | 0 => a0 | 1 => b0 | _ => z0), rfl, ⟨fun c q hq => hf c q hq, fun k q hq => ?_⟩, fun q hq => va_Nw.of (nl_on q hq) (hts _ (nl_in q hq))⟩
  match k, hq with
  | 0, hq => cases hq; exact ⟨a1, a2⟩
  | 1, hq => cases hq; exact ⟨b1, b2⟩
  | 2, hq => cases hq; exact ⟨z1, z2⟩
  | k + 3, hq => simp at hq
