/-! THE MACHINE IN SMALL: a memory of numbers over a graph of cells; a step of an instruction as a function; the walk AW and the contract AC over the kit's W and Met -/
abbrev Mem : Type := (Nat → Nat → Int32) × (Nat → Nat → Int64)
/-- a cell's shape: an array (type 0 int, 1 long, 2 boolean; length), or an object (class, its fields: 0 int, 1 long, 2 null, k + 3 the cell k) -/
abbrev Shp : Type := (Nat × Nat) ⊕ (Nat × List Nat)
/-- where the cells begin, the classes, the array classes -/
abbrev Cx : Type := Nat × va_G × (Nat → ClassId)
def am_v (b : Nat) (v : Value) : Value := match v with
  | .ref k => .ref (b + k)
  | w => w
def am_u (M : Mem) (a j c : Nat) : Value := match c with
  | 0 => .int (M.1 a j)
  | 1 => .long (M.2 a j)
  | 2 => .null
  | k + 3 => .ref k
def am_e (X : Cx) (M : Mem) (a : Nat) (h : Shp) : va_E := match h with
  | .inl (t, n) => .inl (X.2.2 t, n, match t with
    | 1 => .inr (.inl (M.2 a))
    | _ => .inl (M.1 a))
  | .inr (ci, cs) => .inr (ci, cs.mapIdx (fun j c => am_v X.1 (am_u M a j c)))
def am_w (X : Cx) (G : List Shp) (M : Mem) : va_W := G.mapIdx (fun a h => (X.1 + a, am_e X M a h))
theorem am_w_at {X : Cx} {G : List Shp} {M : Mem} {a : Nat} {h : Shp} (hG : G[a]? = some h) : (am_w X G M)[a]? = some (X.1 + a, am_e X M a h) := by
  simp [am_w, List.getElem?_mapIdx, hG]
theorem am_w_of {X : Cx} {G : List Shp} {M : Mem} {k : Nat} {q : Nat × va_E} (h : (am_w X G M)[k]? = some q) : ∃ g, G[k]? = some g ∧ q = (X.1 + k, am_e X M k g) := by
  simp only [am_w, List.getElem?_mapIdx] at h
  cases hg : G[k]? with
  | none => rw [hg] at h; simp at h
  | some g => rw [hg] at h; simp at h; exact ⟨g, rfl, h.symm⟩
abbrev am_A (X : Cx) : Nat → Prop := fun q => X.1 ≤ q
theorem am_D (X : Cx) (G : List Shp) (M : Mem) : va_D (am_A X) (am_w X G M) := by
  refine ⟨fun i j p q hi hj hpq => ?_, fun k q hk => ?_⟩
  · obtain ⟨g, -, rfl⟩ := am_w_of hi
    obtain ⟨g2, -, rfl⟩ := am_w_of hj
    dsimp only at hpq
    omega
  · obtain ⟨g, -, rfl⟩ := am_w_of hk
    exact Nat.le_add_right _ _
/-- a store changes one cell -/
theorem am_w_set {X : Cx} {G : List Shp} {M M' : Mem} {a : Nat} {h : Shp} {e : va_E} (hG : G[a]? = some h) (he : am_e X M' a h = e) (ho : ∀ b, b ≠ a → M'.1 b = M.1 b ∧ M'.2 b = M.2 b) : (am_w X G M).set a (X.1 + a, e) = am_w X G M' := by
  apply List.ext_getElem?
  intro k
  by_cases hk : k = a
  · subst hk
    have hl : k < (am_w X G M).length := by
      have := am_w_at (X := X) (M := M) hG
      exact (List.getElem?_eq_some_iff.mp this).1
    rw [List.getElem?_set_self hl, am_w_at hG, he]
  · rw [List.getElem?_set_ne (Ne.symm hk)]
    simp only [am_w, List.getElem?_mapIdx]
    cases G[k]? with
    | none => rfl
    | some g =>
      have h1 := ho k hk
      have : am_e X M k g = am_e X M' k g := by
        cases g with
        | inl x => obtain ⟨t, n⟩ := x; simp only [am_e, h1.1, h1.2]
        | inr x =>
          obtain ⟨ci, cs⟩ := x
          simp only [am_e]
          congr 2
          congr 1
          funext j c
          unfold am_u
          rw [h1.1, h1.2]
      simp [this]
/-- the heap holds the memory; s the method's start, kc the cells made since -/
def am_H (X : Cx) (G : List Shp) (M : Mem) (kc : Nat) (s : State) (H : Heap) (locs : List Loc) : Prop := va_P X.2.1 vwCl (am_w X G M) H ∧ s.heap.size + kc = X.1 + G.length ∧ va_S (am_A X) s.heap H locs
theorem am_H.ge {X : Cx} {G : List Shp} {M : Mem} {kc : Nat} {s : State} {H : Heap} {locs : List Loc} (h : am_H X G M kc s H locs) (hb : X.1 ≤ s.heap.size) : X.1 + G.length ≤ H.size := by
  cases hn : G.length with
  | zero => exact Nat.le_trans hb h.2.2.1
  | succ n =>
    have hl : n < G.length := by omega
    have := (h.1 n _ (am_w_at (X := X) (M := M) (List.getElem?_eq_getElem hl))).lt
    exact this
def am_K (X : Cx) (s : State) : Prop := va_K X.2.1 vwCl [(X.2.2 0, .int), (X.2.2 1, .long), (X.2.2 2, .boolean)] s ∧ ∀ q ∈ nl_tbl, va_Nw (.methodLinkNest q.1 q.2.1 q.2.2 "PeopleLands") s
theorem am_K.warm {X : Cx} {s U : State} (hW : s.WarmedH U.vm) (h : am_K X s) : am_K X U := ⟨va_K.moved hW.alike h.1, fun q hq => va_Nw.warmM hW (h.2 q hq)⟩
theorem am_K.same {X : Cx} {s U : State} (he : s.vm = U.vm) (h : am_K X s) : am_K X U := ⟨va_K.moved (by rw [← he]; exact Vm.Alike.refl s.vm) h.1, fun q hq => va_Nw.same rfl he (h.2 q hq)⟩
/-! locals -/
def am_g : List Value → Nat → Value
  | [], _ => .null
  | v :: _, 0 => v
  | _ :: L, n + 1 => am_g L n
def am_h : List Value → Nat → Bool
  | [], _ => false
  | _ :: _, 0 => true
  | _ :: L, n + 1 => am_h L n
def am_s : List Value → Nat → Value → List Value
  | [], _, _ => []
  | _ :: L, 0, v => v :: L
  | u :: L, n + 1, v => u :: am_s L n v
def am_c (L : List Value) (i : Nat) : List Value := match i with
  | 0 => L
  | i + 1 => match am_g L i with
    | .long _ => am_s L i .null
    | .double _ => am_s L i .null
    | _ => L
theorem am_s_len : ∀ (L : List Value) (i : Nat) (v : Value), (am_s L i v).length = L.length
  | [], _, _ => rfl
  | _ :: _, 0, _ => rfl
  | _ :: L, n + 1, v => by simp [am_s, am_s_len L n v]
theorem am_s_get : ∀ (L : List Value) (i : Nat) (v : Value) (j : Nat), am_g (am_s L i v) j = if j = i ∧ i < L.length then v else am_g L j
  | [], i, v, j => by simp [am_s, am_g]
  | u :: L, 0, v, 0 => by simp [am_s, am_g]
  | u :: L, 0, v, j + 1 => by simp [am_s, am_g]
  | u :: L, n + 1, v, 0 => by simp [am_s, am_g]
  | u :: L, n + 1, v, j + 1 => by simp [am_s, am_g, am_s_get L n v j]
theorem am_h_lt : ∀ {L : List Value} {i : Nat}, am_h L i = true → i < L.length
  | [], _, h => by simp [am_h] at h
  | _ :: _, 0, _ => by simp
  | _ :: L, n + 1, h => by have := am_h_lt (L := L) (i := n) h; simp; omega
theorem am_c_len (L : List Value) (i : Nat) : (am_c L i).length = L.length := by
  unfold am_c
  split
  · rfl
  · split <;> first | rfl | exact am_s_len _ _ _
theorem am_c_get (L : List Value) (i j : Nat) (h : am_g (am_c L i) j ≠ .null) : am_g (am_c L i) j = am_g L j ∧ ¬ (j + 1 = i ∧ (am_g L j).category = 2) := by
  unfold am_c at h ⊢
  split at h
  · exact ⟨rfl, fun q => by omega⟩
  · rename_i i
    split at h
    · rename_i x hx
      rw [am_s_get] at h ⊢
      by_cases hj : j = i ∧ i < L.length
      · rw [if_pos hj] at h; exact absurd rfl h
      · rw [if_neg hj] at h ⊢
        refine ⟨rfl, fun q => hj ⟨by omega, ?_⟩⟩
        have e : j = i := by omega
        subst e
        rcases Nat.lt_or_ge j L.length with z | z
        · exact z
        · exfalso
          have : ∀ (L : List Value) (j : Nat), L.length ≤ j → am_g L j = .null := by
            intro L
            induction L with
            | nil => intro j _; rfl
            | cons u L ih =>
              intro j hj
              cases j with
              | zero => simp at hj
              | succ j => exact ih j (by simpa using hj)
          exact h (this L j z)
    · rename_i x hx
      rw [am_s_get] at h ⊢
      by_cases hj : j = i ∧ i < L.length
      · rw [if_pos hj] at h; exact absurd rfl h
      · rw [if_neg hj] at h ⊢
        refine ⟨rfl, fun q => hj ⟨by omega, ?_⟩⟩
        have e : j = i := by omega
        subst e
        rcases Nat.lt_or_ge j L.length with z | z
        · exact z
        · exfalso
          have : ∀ (L : List Value) (j : Nat), L.length ≤ j → am_g L j = .null := by
            intro L
            induction L with
            | nil => intro j _; rfl
            | cons u L ih =>
              intro j hj
              cases j with
              | zero => simp at hj
              | succ j => exact ih j (by simpa using hj)
          exact h (this L j z)
    · rename_i h1 h2
      refine ⟨rfl, fun q => ?_⟩
      have e : j = i := by omega
      subst e
      cases hv : am_g L j <;> simp_all [Value.category]
def am_L (X : Cx) (n : Nat) (L : List Value) (ls : Array Slot) : Prop := L.length = n ∧ ls.size = n ∧ lv_wf ls ∧ ∀ i, am_g L i ≠ .null → ls[i]? = some (.val (am_v X.1 (am_g L i)))
/-- the list of known locals, as the kit's rows take it -/
def am_l (X : Cx) (L : List Value) : List (Nat × Value) := (List.range L.length).filterMap (fun i => match am_g L i with
  | .null => none
  | v => some (i, am_v X.1 v))
theorem am_l_mem {X : Cx} {L : List Value} {q : Nat × Value} (h : q ∈ am_l X L) : am_g L q.1 ≠ .null ∧ q.2 = am_v X.1 (am_g L q.1) := by
  obtain ⟨i, -, hi⟩ := List.mem_filterMap.mp h
  split at hi
  · cases hi
  · rename_i hne
    cases hi
    exact ⟨hne, rfl⟩
theorem am_l_in {X : Cx} {L : List Value} {i : Nat} (hi : i < L.length) (h : am_g L i ≠ .null) : (i, am_v X.1 (am_g L i)) ∈ am_l X L := by
  refine List.mem_filterMap.mpr ⟨i, List.mem_range.mpr hi, ?_⟩
  split
  · rename_i e; exact absurd e h
  · rfl
theorem am_g_lt : ∀ {L : List Value} {i : Nat}, am_g L i ≠ .null → i < L.length
  | [], _, h => absurd rfl h
  | _ :: _, 0, _ => by simp
  | _ :: L, n + 1, h => by have := am_g_lt (L := L) (i := n) h; simp; omega
theorem am_v_cat (b : Nat) (v : Value) : (am_v b v).category = v.category := by cases v <;> rfl
theorem am_v_null {b : Nat} {v : Value} (h : am_v b v = .null) : v = .null := by cases v <;> simp_all [am_v]
theorem am_L.has {X : Cx} {n : Nat} {L : List Value} {ls : Array Slot} (h : am_L X n L ls) : lv_has ls n (am_l X L) := by
  refine ⟨h.2.1, h.2.2.1, fun q hq => ?_⟩
  obtain ⟨h1, h2⟩ := am_l_mem hq
  rw [h2]
  exact h.2.2.2 q.1 h1
theorem am_L.st1 {X : Cx} {n i : Nat} {L : List Value} {ls ls' : Array Slot} {v : Value} (h : am_L X n L ls) (hi : am_h L i = true) (hv : v ≠ .null)
    (h' : lv_has ls' n ((i, am_v X.1 v) :: (am_l X L).filter (fun q => !(q.1 == i) && !(q.1 + 1 == i && q.2.category == 2)))) : am_L X n (am_s (am_c L i) i v) ls' := by
  have hl := am_h_lt hi
  refine ⟨by rw [am_s_len, am_c_len]; exact h.1, h'.1, h'.2.1, fun j hj => ?_⟩
  rw [am_s_get, am_c_len] at hj ⊢
  by_cases e : j = i
  · subst e
    rw [if_pos ⟨rfl, hl⟩]
    exact h'.2.2 _ List.mem_cons_self
  · rw [if_neg (fun q => e q.1)] at hj ⊢
    obtain ⟨h1, h2⟩ := am_c_get L i j hj
    rw [h1] at hj ⊢
    refine h'.2.2 (j, am_v X.1 (am_g L j)) (List.mem_cons_of_mem _ (List.mem_filter.mpr ⟨am_l_in (am_g_lt hj) hj, ?_⟩))
    simp only [am_v_cat, Bool.and_eq_true, Bool.not_eq_true', beq_eq_false_iff_ne, Bool.and_eq_false_iff]
    refine ⟨e, ?_⟩
    by_cases e2 : j + 1 = i
    · exact Or.inr (fun z => h2 ⟨e2, z⟩)
    · exact Or.inl e2
theorem am_L.st2 {X : Cx} {n i : Nat} {L : List Value} {ls ls' : Array Slot} {v : Value} (h : am_L X n L ls) (hi : am_h L (i + 1) = true) (hv : v ≠ .null)
    (h' : lv_has ls' n ((i, am_v X.1 v) :: (am_l X L).filter (fun q => !(q.1 == i) && (!(q.1 == i + 1) && !(q.1 + 1 == i && q.2.category == 2))))) : am_L X n (am_s (am_s (am_c L i) i v) (i + 1) .null) ls' := by
  have hl := am_h_lt hi
  refine ⟨by rw [am_s_len, am_s_len, am_c_len]; exact h.1, h'.1, h'.2.1, fun j hj => ?_⟩
  rw [am_s_get, am_s_len, am_c_len] at hj ⊢
  by_cases e : j = i + 1
  · rw [if_pos ⟨e, hl⟩] at hj; exact absurd rfl hj
  rw [if_neg (fun q => e q.1)] at hj ⊢
  rw [am_s_get, am_c_len] at hj ⊢
  by_cases e : j = i
  · subst e
    rw [if_pos ⟨rfl, by omega⟩]
    exact h'.2.2 _ List.mem_cons_self
  · rw [if_neg (fun q => e q.1)] at hj ⊢
    obtain ⟨h1, h2⟩ := am_c_get L i j hj
    rw [h1] at hj ⊢
    refine h'.2.2 (j, am_v X.1 (am_g L j)) (List.mem_cons_of_mem _ (List.mem_filter.mpr ⟨am_l_in (am_g_lt hj) hj, ?_⟩))
    simp only [am_v_cat, Bool.and_eq_true, Bool.not_eq_true', beq_eq_false_iff_ne, Bool.and_eq_false_iff]
    refine ⟨e, by omega, ?_⟩
    by_cases e2 : j + 1 = i
    · exact Or.inr (fun z => h2 ⟨e2, z⟩)
    · exact Or.inl e2
def am_sl : List Value → List Value
  | [] => []
  | .long x :: vs => .long x :: .null :: am_sl vs
  | .double x :: vs => .double x :: .null :: am_sl vs
  | v :: vs => v :: am_sl vs
def am_ent (n : Nat) (vs : List Value) : List Value := am_sl vs ++ List.replicate (n - (am_sl vs).length) .null
theorem am_sl_len (b : Nat) : ∀ vs : List Value, (lg_sl (vs.map (am_v b))).length = (am_sl vs).length
  | [] => rfl
  | v :: vs => by
    have ih := am_sl_len b vs
    cases v <;> simp_all [lg_sl, am_sl, am_v, Value.category]
theorem am_sl_get (b : Nat) : ∀ (vs : List Value) (r : List Slot) (k i : Nat), am_g (am_sl vs ++ List.replicate k .null) i ≠ .null → (lg_sl (vs.map (am_v b)) ++ r)[i]? = some (.val (am_v b (am_g (am_sl vs ++ List.replicate k .null) i)))
  | [], r, k, i, h => by
    exfalso
    have : ∀ (k i : Nat), am_g (List.replicate k .null) i = .null := by
      intro k
      induction k with
      | zero => intro i; rfl
      | succ k ih =>
        intro i
        cases i with
        | zero => rfl
        | succ i => exact ih i
    exact h (this k i)
  | v :: vs, r, k, i, h => by
    have ih := am_sl_get b vs r k
    cases v with
    | long x =>
      cases i with
      | zero => rfl
      | succ i => cases i with
        | zero => exact absurd rfl h
        | succ i => exact ih i h
    | double x =>
      cases i with
      | zero => rfl
      | succ i => cases i with
        | zero => exact absurd rfl h
        | succ i => exact ih i h
    | _ =>
      cases i with
      | zero => rfl
      | succ i => exact ih i h
theorem am_L.entry (X : Cx) (vs : List Value) (n : Nat) (h : (am_sl vs).length ≤ n) : am_L X n (am_ent n vs) (lg_sl (vs.map (am_v X.1)) ++ List.replicate (n - (lg_sl (vs.map (am_v X.1))).length) Slot.unset).toArray := by
  have h1 := lv_entry (vs.map (am_v X.1)) (n := n) (by rw [am_sl_len]; exact h)
  refine ⟨?_, h1.1, h1.2.1, fun i hi => ?_⟩
  · simp [am_ent]; omega
  · rw [List.getElem?_toArray]
    exact am_sl_get X.1 vs _ _ i hi
