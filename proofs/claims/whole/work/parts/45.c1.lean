-- made by wip/whole/mk_c1.py
section C1
variable {X : Cx} {l : Launch} {M : Mem}
theorem u_isLand (x : Int32) : PF X l mX7_isLand 0 [.int x] G0 M (.int (bo (okl 5 x))) := by
  refine PF.ofW okX7_isLand ?_
  refine PW.zlt rfl trivial (fun h1 => ?_) (fun h1 => ?_)
  · skip
    refine PW.zret rfl rfl trivial (rfl) ?_
    refine ⟨?_, rfl⟩
    congr 2
    unfold okl
    rw [fa_lt] at h1
    first | (rw [fa_le] at h7; rw [show decide _ = true from decide_eq_true ⟨by first | (simp at h1; omega) | omega, by first | (simp at h7; omega) | omega⟩]; rfl) | (rw [fa_le] at h7; rw [show decide _ = false from decide_eq_false (fun q => by first | (simp at h7; omega) | omega)]; rfl) | (rw [show decide _ = false from decide_eq_false (fun q => by first | (simp at h1; omega) | omega)]; rfl)
  · skip
    refine PW.ige rfl trivial (fun h7 => ?_) (fun h7 => ?_)
    · skip
      refine PW.zret rfl rfl trivial (rfl) ?_
      refine ⟨?_, rfl⟩
      congr 2
      unfold okl
      rw [fa_lt] at h1
      first | (rw [fa_le] at h7; rw [show decide _ = true from decide_eq_true ⟨by first | (simp at h1; omega) | omega, by first | (simp at h7; omega) | omega⟩]; rfl) | (rw [fa_le] at h7; rw [show decide _ = false from decide_eq_false (fun q => by first | (simp at h7; omega) | omega)]; rfl) | (rw [show decide _ = false from decide_eq_false (fun q => by first | (simp at h1; omega) | omega)]; rfl)
    · skip
      refine PW.goto rfl trivial ?_
      refine PW.zret rfl rfl trivial (rfl) ?_
      refine ⟨?_, rfl⟩
      congr 2
      unfold okl
      rw [fa_lt] at h1
      first | (rw [fa_le] at h7; rw [show decide _ = true from decide_eq_true ⟨by first | (simp at h1; omega) | omega, by first | (simp at h7; omega) | omega⟩]; rfl) | (rw [fa_le] at h7; rw [show decide _ = false from decide_eq_false (fun q => by first | (simp at h7; omega) | omega)]; rfl) | (rw [show decide _ = false from decide_eq_false (fun q => by first | (simp at h1; omega) | omega)]; rfl)
theorem u_isSide (x : Int32) : PF X l mX7_isSide 0 [.int x] G0 M (.int (bo (okl 2 x))) := by
  refine PF.ofW okX7_isSide ?_
  refine PW.zlt rfl trivial (fun h1 => ?_) (fun h1 => ?_)
  · skip
    refine PW.zret rfl rfl trivial (rfl) ?_
    refine ⟨?_, rfl⟩
    congr 2
    unfold okl
    rw [fa_lt] at h1
    first | (rw [fa_le] at h6; rw [show decide _ = true from decide_eq_true ⟨by first | (simp at h1; omega) | omega, by first | (simp at h6; omega) | omega⟩]; rfl) | (rw [fa_le] at h6; rw [show decide _ = false from decide_eq_false (fun q => by first | (simp at h6; omega) | omega)]; rfl) | (rw [show decide _ = false from decide_eq_false (fun q => by first | (simp at h1; omega) | omega)]; rfl)
  · skip
    refine PW.ige rfl trivial (fun h6 => ?_) (fun h6 => ?_)
    · skip
      refine PW.zret rfl rfl trivial (rfl) ?_
      refine ⟨?_, rfl⟩
      congr 2
      unfold okl
      rw [fa_lt] at h1
      first | (rw [fa_le] at h6; rw [show decide _ = true from decide_eq_true ⟨by first | (simp at h1; omega) | omega, by first | (simp at h6; omega) | omega⟩]; rfl) | (rw [fa_le] at h6; rw [show decide _ = false from decide_eq_false (fun q => by first | (simp at h6; omega) | omega)]; rfl) | (rw [show decide _ = false from decide_eq_false (fun q => by first | (simp at h1; omega) | omega)]; rfl)
    · skip
      refine PW.goto rfl trivial ?_
      refine PW.zret rfl rfl trivial (rfl) ?_
      refine ⟨?_, rfl⟩
      congr 2
      unfold okl
      rw [fa_lt] at h1
      first | (rw [fa_le] at h6; rw [show decide _ = true from decide_eq_true ⟨by first | (simp at h1; omega) | omega, by first | (simp at h6; omega) | omega⟩]; rfl) | (rw [fa_le] at h6; rw [show decide _ = false from decide_eq_false (fun q => by first | (simp at h6; omega) | omega)]; rfl) | (rw [show decide _ = false from decide_eq_false (fun q => by first | (simp at h1; omega) | omega)]; rfl)
theorem u_isPeople (x : Int32) : PF X l mX7_isPeople 0 [.int x] G0 M (.int (bo (okl 999 x))) := by
  refine PF.ofW okX7_isPeople ?_
  refine PW.zlt rfl trivial (fun h1 => ?_) (fun h1 => ?_)
  · skip
    refine PW.zret rfl rfl trivial (rfl) ?_
    refine ⟨?_, rfl⟩
    congr 2
    unfold okl
    rw [fa_lt] at h1
    first | (rw [fa_lt] at h8; rw [show decide _ = true from decide_eq_true ⟨by first | (simp at h1; omega) | omega, by first | (simp at h8; omega) | omega⟩]; rfl) | (rw [fa_lt] at h8; rw [show decide _ = false from decide_eq_false (fun q => by first | (simp at h8; omega) | omega)]; rfl) | (rw [show decide _ = false from decide_eq_false (fun q => by first | (simp at h1; omega) | omega)]; rfl)
  · skip
    refine PW.igt rfl trivial (fun h8 => ?_) (fun h8 => ?_)
    · skip
      refine PW.zret rfl rfl trivial (rfl) ?_
      refine ⟨?_, rfl⟩
      congr 2
      unfold okl
      rw [fa_lt] at h1
      first | (rw [fa_lt] at h8; rw [show decide _ = true from decide_eq_true ⟨by first | (simp at h1; omega) | omega, by first | (simp at h8; omega) | omega⟩]; rfl) | (rw [fa_lt] at h8; rw [show decide _ = false from decide_eq_false (fun q => by first | (simp at h8; omega) | omega)]; rfl) | (rw [show decide _ = false from decide_eq_false (fun q => by first | (simp at h1; omega) | omega)]; rfl)
    · skip
      refine PW.goto rfl trivial ?_
      refine PW.zret rfl rfl trivial (rfl) ?_
      refine ⟨?_, rfl⟩
      congr 2
      unfold okl
      rw [fa_lt] at h1
      first | (rw [fa_lt] at h8; rw [show decide _ = true from decide_eq_true ⟨by first | (simp at h1; omega) | omega, by first | (simp at h8; omega) | omega⟩]; rfl) | (rw [fa_lt] at h8; rw [show decide _ = false from decide_eq_false (fun q => by first | (simp at h8; omega) | omega)]; rfl) | (rw [show decide _ = false from decide_eq_false (fun q => by first | (simp at h1; omega) | omega)]; rfl)
theorem u_isEdge (x : Int32) : PF X l mX7_isEdge 0 [.int x] G0 M (.int (bo (okr 2 6 x))) := by
  refine PF.ofW okX7_isEdge ?_
  refine PW.ilt rfl trivial (fun h2 => ?_) (fun h2 => ?_)
  · skip
    refine PW.zret rfl rfl trivial (rfl) ?_
    refine ⟨?_, rfl⟩
    congr 2
    unfold okr
    rw [fa_lt] at h2
    first | (rw [fa_lt] at h8; rw [show decide _ = true from decide_eq_true ⟨by first | (simp at h2; omega) | omega, by first | (simp at h8; omega) | omega⟩]; rfl) | (rw [fa_lt] at h8; rw [show decide _ = false from decide_eq_false (fun q => by first | (simp at h8; omega) | omega)]; rfl) | (rw [show decide _ = false from decide_eq_false (fun q => by first | (simp at h2; omega) | omega)]; rfl)
  · skip
    refine PW.igt rfl trivial (fun h8 => ?_) (fun h8 => ?_)
    · skip
      refine PW.zret rfl rfl trivial (rfl) ?_
      refine ⟨?_, rfl⟩
      congr 2
      unfold okr
      rw [fa_lt] at h2
      first | (rw [fa_lt] at h8; rw [show decide _ = true from decide_eq_true ⟨by first | (simp at h2; omega) | omega, by first | (simp at h8; omega) | omega⟩]; rfl) | (rw [fa_lt] at h8; rw [show decide _ = false from decide_eq_false (fun q => by first | (simp at h8; omega) | omega)]; rfl) | (rw [show decide _ = false from decide_eq_false (fun q => by first | (simp at h2; omega) | omega)]; rfl)
    · skip
      refine PW.goto rfl trivial ?_
      refine PW.zret rfl rfl trivial (rfl) ?_
      refine ⟨?_, rfl⟩
      congr 2
      unfold okr
      rw [fa_lt] at h2
      first | (rw [fa_lt] at h8; rw [show decide _ = true from decide_eq_true ⟨by first | (simp at h2; omega) | omega, by first | (simp at h8; omega) | omega⟩]; rfl) | (rw [fa_lt] at h8; rw [show decide _ = false from decide_eq_false (fun q => by first | (simp at h8; omega) | omega)]; rfl) | (rw [show decide _ = false from decide_eq_false (fun q => by first | (simp at h2; omega) | omega)]; rfl)
theorem u_isOwner (x : Int32) : PF X l mX7_isOwner 1 [.int x] G0 M (.int (bo (okl 6 x))) := by
  refine PF.ofW okX7_isOwner ?_
  refine PW.funS rfl trivial sX7_131 rfl (by decide) rfl (u_isLand x) ?_
  refine PW.zne rfl trivial (fun h4 => ?_) (fun h4 => ?_)
  · skip
    rw [bo_ne] at h4
    refine PW.goto rfl trivial ?_
    refine PW.zret rfl rfl trivial (rfl) ?_
    refine ⟨?_, rfl⟩
    have r6 : (6 : Int32).toInt = 6 := by decide
    congr 2
    unfold okl at h4 ⊢
    simp only [decide_eq_true_eq, decide_eq_false_iff_not] at h4
    first | (rw [r6] at h10; rw [show decide _ = true from decide_eq_true (by omega)]; rfl) | (rw [r6] at h10; rw [show decide _ = false from decide_eq_false (by omega)]; rfl) | (rw [show decide _ = true from decide_eq_true (by omega)]; rfl)
  · skip
    rw [bo_eq] at h4
    refine PW.ine rfl trivial (fun h10 => ?_) (fun h10 => ?_)
    · skip
      rw [fa_eq] at h10
      refine PW.zret rfl rfl trivial (rfl) ?_
      refine ⟨?_, rfl⟩
      have r6 : (6 : Int32).toInt = 6 := by decide
      congr 2
      unfold okl at h4 ⊢
      simp only [decide_eq_true_eq, decide_eq_false_iff_not] at h4
      first | (rw [r6] at h10; rw [show decide _ = true from decide_eq_true (by omega)]; rfl) | (rw [r6] at h10; rw [show decide _ = false from decide_eq_false (by omega)]; rfl) | (rw [show decide _ = true from decide_eq_true (by omega)]; rfl)
    · skip
      rw [fa_eq] at h10
      refine PW.goto rfl trivial ?_
      refine PW.zret rfl rfl trivial (rfl) ?_
      refine ⟨?_, rfl⟩
      have r6 : (6 : Int32).toInt = 6 := by decide
      congr 2
      unfold okl at h4 ⊢
      simp only [decide_eq_true_eq, decide_eq_false_iff_not] at h4
      first | (rw [r6] at h10; rw [show decide _ = true from decide_eq_true (by omega)]; rfl) | (rw [r6] at h10; rw [show decide _ = false from decide_eq_false (by omega)]; rfl) | (rw [show decide _ = true from decide_eq_true (by omega)]; rfl)
theorem c_size {w h : Nat} (H : Gf w h) (G : Gm w h M) : PF X l mX1_size 0 [.ref 1] G0 M (.int (nI (w * h))) := by
  refine PF.ofW okX1_size ?_
  refine PW.iret rfl rfl trivial ?_
  exact ⟨by rw [G.wh], rfl⟩
theorem c_knows (c : Int32) {w h : Nat} (H : Gf w h) (G : Gm w h M) : PF X l mX1_knows 1 [.ref 1, .int c] G0 M (.int (bo (okc (w * h) c))) := by
  refine PF.ofW okX1_knows ?_
  have hn := H.n
  refine PW.zlt rfl trivial (fun h1 => ?_) (fun h1 => ?_)
  · skip
    refine PW.zret rfl rfl trivial (rfl) ?_
    refine ⟨?_, rfl⟩
    have r0 : (0 : Int32).toInt = 0 := by decide
    congr 2
    unfold okc
    rw [fa_lt, r0] at h1
    first | (rw [fa_le, nI_t (by omega)] at h9; rw [show decide _ = true from decide_eq_true (by omega)]; rfl) | (rw [fa_le, nI_t (by omega)] at h9; rw [show decide _ = false from decide_eq_false (by omega)]; rfl) | (rw [show decide _ = false from decide_eq_false (by omega)]; rfl)
  · skip
    refine PW.funV rfl trivial sX1_32 rfl rfl (by decide) rfl (c_size H G) ?_
    refine PW.ige rfl trivial (fun h9 => ?_) (fun h9 => ?_)
    · skip
      refine PW.zret rfl rfl trivial (rfl) ?_
      refine ⟨?_, rfl⟩
      have r0 : (0 : Int32).toInt = 0 := by decide
      congr 2
      unfold okc
      rw [fa_lt, r0] at h1
      first | (rw [fa_le, nI_t (by omega)] at h9; rw [show decide _ = true from decide_eq_true (by omega)]; rfl) | (rw [fa_le, nI_t (by omega)] at h9; rw [show decide _ = false from decide_eq_false (by omega)]; rfl) | (rw [show decide _ = false from decide_eq_false (by omega)]; rfl)
    · skip
      refine PW.goto rfl trivial ?_
      refine PW.zret rfl rfl trivial (rfl) ?_
      refine ⟨?_, rfl⟩
      have r0 : (0 : Int32).toInt = 0 := by decide
      congr 2
      unfold okc
      rw [fa_lt, r0] at h1
      first | (rw [fa_le, nI_t (by omega)] at h9; rw [show decide _ = true from decide_eq_true (by omega)]; rfl) | (rw [fa_le, nI_t (by omega)] at h9; rw [show decide _ = false from decide_eq_false (by omega)]; rfl) | (rw [show decide _ = false from decide_eq_false (by omega)]; rfl)
theorem c_col (c : Nat) (hc : c < 2 ^ 31) {w h : Nat} (H : Gf w h) (G : Gm w h M) : PF X l mX1_columnOf 0 [.ref 1, .int (nI c)] G0 M (.int (nI (c % w))) := by
  refine PF.ofW okX1_columnOf ?_
  refine PW.ige rfl trivial (fun h5 => ?_) (fun h5 => ?_)
  · skip
    skip
    refine PW.iret rfl rfl ⟨trivial, (by rw [G.1]; exact nI_ne0 (by have := H.1; omega) (by have := H.2.1; omega))⟩ ?_
    exact ⟨by rw [G.1, pk_rem hc (by have := H.1; omega) (by have := H.2.1; omega)], rfl⟩
  · rw [G.1, show (1 : Int32) = nI 1 from rfl, nI_leI (by omega) (by have := H.2.1; omega)] at h5
    have := H.1; omega
theorem c_row (c : Nat) (hc : c < 2 ^ 31) {w h : Nat} (H : Gf w h) (G : Gm w h M) : PF X l mX1_rowOf 0 [.ref 1, .int (nI c)] G0 M (.int (nI (c / w))) := by
  refine PF.ofW okX1_rowOf ?_
  refine PW.ige rfl trivial (fun h5 => ?_) (fun h5 => ?_)
  · skip
    skip
    refine PW.iret rfl rfl ⟨trivial, (by rw [G.1]; exact nI_ne0 (by have := H.1; omega) (by have := H.2.1; omega))⟩ ?_
    exact ⟨by rw [G.1, pk_div hc (by have := H.1; omega) (by have := H.2.1; omega)], rfl⟩
  · rw [G.1, show (1 : Int32) = nI 1 from rfl, nI_leI (by omega) (by have := H.2.1; omega)] at h5
    have := H.1; omega
theorem c_steps (a b : Nat) (ha : a < 36) (hb : b < 36) {w h : Nat} (H : Gf w h) (G : Gm w h M) : PF X l mX1_steps 1 [.ref 1, .int (nI a), .int (nI b)] G0 M (.int (nI (ad (a % w) (b % w) + ad (a / w) (b / w)))) := by
  refine PF.ofW okX1_steps ?_
  have q1 := Nat.mod_le a w
  have q2 := Nat.mod_le b w
  have q3 := Nat.div_le_self a w
  have q4 := Nat.div_le_self b w
  refine PW.funV rfl trivial sX1_36 rfl rfl (by decide) rfl (c_col a (by omega) H G) ?_
  refine PW.funV rfl trivial sX1_36 rfl rfl (by decide) rfl (c_col b (by omega) H G) ?_
  refine PW.mabs rfl trivial sX1_40 (by decide) rfl ?_
  refine PW.funV rfl trivial sX1_45 rfl rfl (by decide) rfl (c_row a (by omega) H G) ?_
  refine PW.funV rfl trivial sX1_45 rfl rfl (by decide) rfl (c_row b (by omega) H G) ?_
  refine PW.mabs rfl trivial sX1_40 (by decide) rfl ?_
  refine PW.iret rfl rfl trivial ?_
  exact ⟨by rw [nI_abs (by omega) (by omega), nI_abs (by omega) (by omega), nI_add], rfl⟩
theorem c_rim (P : Nat → Bool) {w h : Nat} (H : Gf w h) (G : Gm w h M) (hP : ∀ i, w * h ≤ i → P i = false) : PF X l mX1_rimOf 0 [.ref 1, .long (mk P)] G0 M (.long (mk (rim w (w * h) P))) := by
  refine PF.ofW okX1_rimOf ?_
  refine PW.lret rfl rfl trivial ?_
  refine ⟨?_, rfl⟩
  rw [← rim_num H hP, G.1, G.2.2.1, G.2.2.2.1, G.2.2.2.2]
theorem c_piece (P : Nat → Bool) (c : Nat) {w h : Nat} (H : Gf w h) (G : Gm w h M) (hP : ∀ i, w * h ≤ i → P i = false) (hc : c < w * h) (hpc : P c = true) : PF X l mX1_pieceFrom 1 [.ref 1, .long (mk (fun i => decide (i = c))), .long (mk P)] G0 M (.long (mk (cnb P w c))) := by
  refine PF.ofW okX1_pieceFrom ?_
  have hn := H.n
  have loop6 : ∀ k : Nat, ∀ (A : Nat → Bool) (i : Nat), Gr P w (w * h) c A i → i ≤ 36 → 36 - i < k → PW X l mX1_pieceFrom 1 (fun v M' => v = some (.long (mk (cnb P w c))) ∧ M' = M) 6 [.ref 1, .long (mk (fun i => decide (i = c))), .null, .long (mk P), .null, .long (mk A), .null, .int (nI i), .null, .null] [] G0 M := by
    intro k
    induction k with
    | zero => intro A i hG hi hk; exact absurd hk (Nat.not_lt_zero _)
    | succ k ih =>
      intro A i hG hi hk
      have hlt := hG.lt
      have hA : ∀ i, w * h ≤ i → A i = false := fun i hi => by
        cases e : A i with
        | false => rfl
        | true => have := (hG.2.1 i e).1; omega
      refine PW.ige rfl trivial (fun h10 => ?_) (fun h10 => ?_)
      · rw [show (36 : Int32) = nI 36 from rfl, nI_leI (by omega) (by omega)] at h10
        omega
      · skip
        skip
        refine PW.funV rfl trivial sX1_54 rfl rfl (by decide) rfl (c_rim A H G hA) ?_
        skip
        refine PW.zne rfl trivial (fun h31 => ?_) (fun h31 => ?_)
        · skip
          rw [lg_cmp_eq, mk_and, mk_or] at h31
          refine PW.goto rfl trivial ?_
          rw [nI_1, mk_and, mk_or]
          refine PW.nl [8] ?_
          exact ih (grow w (w * h) P A) (i + 1) (hG.step (fun q => h31 (mk_cong q)) (by omega)) (by omega) (by omega)
        · skip
          rw [lg_cmp_eq, mk_and, mk_or] at h31
          refine PW.lret rfl rfl trivial ?_
          exact ⟨by rw [mk_cong (fun i _ => hG.done (mk_inj.mp h31) hP (by omega) i)], rfl⟩
  refine PW.to 6 rfl trivial ?_
  exact loop6 37 (fun i => decide (i = c)) 0 (Gr.start hc hpc) (by omega) (by omega)
theorem c_parts (P : Nat → Bool) {w h : Nat} (H : Gf w h) (G : Gm w h M) (hP : ∀ i, w * h ≤ i → P i = false) : PF X l mX1_partsOf 2 [.ref 1, .long (mk P)] G0 M (.int (nI (prt P w (w * h)))) := by
  refine PF.ofW okX1_partsOf ?_
  have hn := H.n
  have loop5 : ∀ k : Nat, ∀ (t : Nat), t ≤ w * h → w * h - t < k → PW X l mX1_partsOf 2 (fun v M' => v = some (.int (nI (prt P w (w * h)))) ∧ M' = M) 5 [.ref 1, .null, .null, .long (mk (rst P w t)), .null, .int (nI (ctp (Rep P w) t))] [] G0 M := by
    intro k
    induction k with
    | zero => intro t ht hk; exact absurd hk (Nat.not_lt_zero _)
    | succ k ih =>
      intro t ht hk
      have hct := ctp_le (Rep P w) t
      have hR : ∀ i, w * h ≤ i → rst P w t i = false := fun i hi => by
        unfold rst; rw [hP i hi]; rfl
      refine PW.ige rfl trivial (fun h9 => ?_) (fun h9 => ?_)
      · skip
        rw [show (36 : Int32) = nI 36 from rfl, nI_leI (by omega) (by omega)] at h9
        have hz : mk (rst P w t) = 0 := by
          apply Classical.byContradiction
          intro z
          obtain ⟨c, hc⟩ := Lst.ex z
          have := rst_ge hc.2.1
          have : c < w * h := by
            apply Classical.byContradiction
            intro y
            have := hc.2.1
            rw [hR c (by omega)] at this; cases this
          omega
        rw [mk_z] at hz
        refine PW.iret rfl rfl trivial ?_
        exact ⟨by unfold prt; rw [rst_end ht (fun i hi => hz i (by omega))], rfl⟩
      · skip
        rw [show (36 : Int32) = nI 36 from rfl, nI_leI (by omega) (by omega)] at h9
        refine PW.zeq rfl trivial (fun h15 => ?_) (fun h15 => ?_)
        · skip
          rw [lg_cmp_eq, mk_z] at h15
          have hz := h15
          refine PW.iret rfl rfl trivial ?_
          exact ⟨by unfold prt; rw [rst_end ht (fun i hi => hz i (by omega))], rfl⟩
        · skip
          rw [lg_cmp_eq] at h15
          obtain ⟨c, hc⟩ := Lst.ex h15
          have hcn : c < w * h := by
            apply Classical.byContradiction
            intro y
            have := hc.2.1
            rw [hR c (by omega)] at this; cases this
          refine PW.funV rfl trivial sX1_50 rfl rfl (by decide) rfl (show PF X l mX1_pieceFrom 1 [.ref 1, .long (mk (rst P w t) &&& -mk (rst P w t)), .long (mk (rst P w t))] G0 M (.long (mk (cnb (rst P w t) w c))) from by rw [mk_low hc]; exact c_piece _ c H G hR hcn hc.2.1) ?_
          refine PW.goto rfl trivial ?_
          have ec := rst_rep hc.2.1 hc.2.2
          have hge := rst_ge hc.2.1
          rw [mk_not, mk_and, nI_1]
          refine PW.lc ?_ (ih (c + 1) (by omega) (by omega))
          rw [ec, mk_cong (fun i _ => (rst_next hc.2.1 hc.2.2 i))]
  refine PW.to 5 rfl trivial ?_
  rw [show mk P = mk (rst P w 0) from mk_cong (fun i _ => rst_0.symm)]
  refine PW.nl [1] ?_
  exact loop5 (w * h + 1) 0 (Nat.zero_le _) (by omega)
end C1
