-- made by wip/whole/mk_m13.py
section M13
variable {X : Cx} {l : Launch} {M : Mem}
theorem up_o {f : Nat → Nat → Int32} {g : Nat → Nat → Int64} {a b : Nat} {h : Nat → Int32} (hb : b ≠ a) : ((va_up f a h, g) : Mem).1 b = f b := by simp [va_up, hb]
def MA (n : Nat) (u v : Nat → Int) (p : Nat → Nat) (M : Mem) : Prop := (∀ r, 1 ≤ r → r ≤ n → (M.1 40 r).toInt = u r) ∧ (∀ j, 1 ≤ j → j ≤ n → (M.1 41 j).toInt = v j) ∧ ∀ j, j ≤ n → M.1 42 j = nI (p j)
theorem MA.o {n : Nat} {u v : Nat → Int} {p : Nat → Nat} {M : Mem} {a : Nat} {f : Nat → Int32} (h : MA n u v p M) (h1 : 40 ≠ a ∧ 41 ≠ a ∧ 42 ≠ a := by decide) : MA n u v p (va_up M.1 a f, M.2) := ⟨fun r a b => by rw [up_o h1.1]; exact h.1 r a b, fun r a b => by rw [up_o h1.2.1]; exact h.2.1 r a b, fun r a => by rw [up_o h1.2.2]; exact h.2.2 r a⟩
theorem MA.pp {n : Nat} {u v : Nat → Int} {p : Nat → Nat} {M : Mem} {a b : Nat} (h : MA n u v p M) : MA n u v (fun k => if k = a then b else p k) (va_up M.1 42 (upd (M.1 42) a (nI b)), M.2) := ⟨fun r q1 q2 => by rw [up_o (by decide)]; exact h.1 r q1 q2, fun r q1 q2 => by rw [up_o (by decide)]; exact h.2.1 r q1 q2, fun r q1 => by
  by_cases q : r = a
  · subst q; rw [up_s]; simp
  · rw [up_n q]; simp only [if_neg q]; exact h.2.2 r q1⟩
theorem MA.pu {n : Nat} {u v : Nat → Int} {p : Nat → Nat} {M : Mem} {a : Nat} {x : Int32} (h : MA n u v p M) : MA n (fun k => if k = a then x.toInt else u k) v p (va_up M.1 40 (upd (M.1 40) a x), M.2) := ⟨fun r q1 q2 => by
  by_cases q : r = a
  · subst q; rw [up_s]; simp
  · rw [up_n q]; simp only [if_neg q]; exact h.1 r q1 q2, fun r q1 q2 => by rw [up_o (by decide)]; exact h.2.1 r q1 q2, fun r q1 => by rw [up_o (by decide)]; exact h.2.2 r q1⟩
theorem MA.pv {n : Nat} {u v : Nat → Int} {p : Nat → Nat} {M : Mem} {a : Nat} {x : Int32} (h : MA n u v p M) : MA n u (fun k => if k = a then x.toInt else v k) p (va_up M.1 41 (upd (M.1 41) a x), M.2) := ⟨fun r q1 q2 => by rw [up_o (by decide)]; exact h.1 r q1 q2, fun r q1 q2 => by
  by_cases q : r = a
  · subst q; rw [up_s]; simp
  · rw [up_n q]; simp only [if_neg q]; exact h.2.1 r q1 q2, fun r q1 => by rw [up_o (by decide)]; exact h.2.2 r q1⟩
/-- how prices stand while they are moved, up to column j -/
def Mv (p : Nat → Nat) (us : Nat → Bool) (u v sl u2 v2 sl2 : Nat → Int) (b : Int) (j : Nat) : Prop :=
  (∀ k, k < j → us k = true → u2 (p k) = u (p k) + b) ∧ (∀ r, (∀ k, k < j → us k = true → p k ≠ r) → u2 r = u r) ∧ (∀ k, 1 ≤ k → v2 k = if k < j ∧ us k = true then v k - b else v k) ∧ ∀ k, sl2 k = if k < j ∧ us k = false then sl k - b else sl k
theorem Mv.start {p : Nat → Nat} {us : Nat → Bool} {u v sl : Nat → Int} {b : Int} : Mv p us u v sl u v sl b 0 := ⟨fun k h => by omega, fun _ _ => rfl, fun k _ => by rw [if_neg (fun q => by omega)], fun k => by rw [if_neg (fun q => by omega)]⟩
theorem Mv.used {p : Nat → Nat} {us : Nat → Bool} {u v sl u2 v2 sl2 : Nat → Int} {b : Int} {j m : Nat} (h : Mv p us u v sl u2 v2 sl2 b j) (hu : us j = true) (hj : j ≤ m) (hp : p j ≠ 0) (inj : ∀ j k, j ≤ m → k ≤ m → p j = p k → p j ≠ 0 → j = k) {x y : Int} (hx : x = u2 (p j) + b) (hy : 1 ≤ j → y = v2 j - b) : Mv p us u v sl (fun k => if k = p j then x else u2 k) (fun k => if k = j then y else v2 k) sl2 b (j + 1) := by
  have hn : u2 (p j) = u (p j) := h.2.1 _ (fun k hk _ e => by have := inj k j (by omega) hj e (by rw [e]; exact hp); omega)
  refine ⟨fun k hk q => ?_, fun r hr => ?_, fun k h1 => ?_, fun k => ?_⟩
  · by_cases e : k = j
    · subst e; dsimp only; rw [if_pos rfl, hx, hn]
    · dsimp only
      rw [if_neg (fun z => e (inj j k hj (by omega) z.symm hp).symm)]
      exact h.1 k (by omega) q
  · dsimp only
    rw [if_neg (fun z => hr j (by omega) hu z.symm)]
    exact h.2.1 r (fun k hk q => hr k (by omega) q)
  · dsimp only
    by_cases e : k = j
    · subst e
      rw [if_pos rfl, if_pos ⟨by omega, hu⟩, hy h1, h.2.2.1 k h1, if_neg (fun z => by omega)]
    · rw [if_neg e, h.2.2.1 k h1]
      by_cases z : k < j ∧ us k = true
      · rw [if_pos z, if_pos ⟨by omega, z.2⟩]
      · rw [if_neg z, if_neg (fun y => z ⟨by omega, y.2⟩)]
  · rw [h.2.2.2 k]
    by_cases z : k < j ∧ us k = false
    · rw [if_pos z, if_pos ⟨by omega, z.2⟩]
    · rw [if_neg z, if_neg (fun y => z ⟨by
        have : k ≠ j := fun e => by rw [e, hu] at y; cases y.2
        omega, y.2⟩)]
theorem Mv.skip {p : Nat → Nat} {us : Nat → Bool} {u v sl u2 v2 sl2 : Nat → Int} {b : Int} {j : Nat} (h : Mv p us u v sl u2 v2 sl2 b j) (hu : us j = false) {y : Int} (hy : y = sl2 j - b) : Mv p us u v sl u2 v2 (fun k => if k = j then y else sl2 k) b (j + 1) := by
  have ne : ∀ k, us k = true → k ≠ j := fun k q e => by rw [e, hu] at q; cases q
  refine ⟨fun k hk q => h.1 k (by have := ne k q; omega) q, fun r hr => h.2.1 r (fun k hk q => hr k (by omega) q), fun k h1 => ?_, fun k => ?_⟩
  · rw [h.2.2.1 k h1]
    by_cases z : k < j ∧ us k = true
    · rw [if_pos z, if_pos ⟨by omega, z.2⟩]
    · rw [if_neg z, if_neg (fun y => z ⟨by have := ne k y.2; omega, y.2⟩)]
  · dsimp only
    by_cases e : k = j
    · subst e
      rw [if_pos rfl, if_pos ⟨by omega, hu⟩, hy, h.2.2.2 k, if_neg (fun z => by omega)]
    · rw [if_neg e, h.2.2.2 k]
      by_cases z : k < j ∧ us k = false
      · rw [if_pos z, if_pos ⟨by omega, z.2⟩]
      · rw [if_neg z, if_neg (fun y => z ⟨by omega, y.2⟩)]
theorem Sd.ct {c : Nat → Nat → Int} {m : Nat} {u v : Nat → Int} {p : Nat → Nat} {us : Nat → Bool} {bf : Nat → Nat} {a : Nat} (H : Hd c m u v p us bf a) : fb_ct (on1 us a) (m + 1) = fb_ct us (m + 1) + 1 := by
  have := fb_ct_upd us true (i := a) (n := m + 1) (by have := H.1; omega)
  rw [H.2.1] at this
  simp only [if_true, Bool.false_eq_true, if_false, Nat.add_zero] at this
  exact this
set_option maxHeartbeats 2000000 in
theorem m_assign {w h : Nat} {mp dr : Nat → Nat} (Hw : Wf w h mp dr) (H : WM w h mp dr M) (n : Nat) (hn : n ≤ 36) (fr to : Nat → Nat) (c : Nat → Nat → Int) (ec : ∀ i j, c i j = stp w (fr i) (to j)) (hfr : ∀ k, fr k < w * h) (hto : ∀ k, to k < w * h) (h38 : ∀ k, 1 ≤ k → k ≤ n → M.1 38 k = nI (fr k)) (h39 : ∀ k, 1 ≤ k → k ≤ n → M.1 39 k = nI (to k)) : PC X l mX8_assign 2 [.ref 29, .int (nI n)] G0 M (fun v M' => (∃ (u v2 : Nat → Int) (p : Nat → Nat), Hg c n n u v2 p ∧ v = some (.int (Int32.ofInt (fb_si (fun j => c (p (j + 1)) (j + 1)) n)))) ∧ FI [40, 41, 42, 43, 44, 45] M M') := by
  refine PC.ofW okX8_assign ?_
  have hN := Hw.n
  have hK : ∀ i j, c i j ≤ 10 := fun i j => by rw [ec]; exact stp_le Hw.2.1 Hw.2.2.2.1 Hw.1 (hfr i) (hto j)
  have h0 : ∀ i j, 0 ≤ c i j := fun i j => by rw [ec]; exact stp_p _ _ _
  have loop341 : ∀ k : Nat, ∀ (j : Nat) (u v : Nat → Int) (p : Nat → Nat) (M2 : Mem), j ≤ n → FI [40, 41, 42, 43, 44, 45] M M2 → MA n u v p M2 → Hg c n n u v p → n - j < k → PW X l mX8_assign 2 (fun v M' => (∃ (u v2 : Nat → Int) (p : Nat → Nat), Hg c n n u v2 p ∧ v = some (.int (Int32.ofInt (fb_si (fun j => c (p (j + 1)) (j + 1)) n)))) ∧ FI [40, 41, 42, 43, 44, 45] M M') 341 [.ref 29, .int (nI n), .int (Int32.ofInt (fb_si (fun j => c (p (j + 1)) (j + 1)) j)), .int (nI (j + 1)), .null, .null, .null, .null, .null] [] G0 M2 := by
    intro k
    induction k with
    | zero => intro j u v p M2 hj hF hM hH hk; exact absurd hk (Nat.not_lt_zero _)
    | succ k ih =>
      intro j u v p M2 hj hF hM hH hk
      refine PW.igt rfl trivial (fun h343 => ?_) (fun h343 => ?_)
      · skip
        rw [nI_ltI (by omega) (by omega)] at h343
        have e9 : j = n := by omega
        subst e9
        refine PW.iret rfl rfl trivial ?_
        exact ⟨⟨u, v, p, hH, rfl⟩, hF⟩
      · skip
        rw [nI_ltI (by omega) (by omega)] at h343
        have hjn : j < n := by omega
        have hp0 := hH.all hjn
        have hpn := hH.1 (j + 1) (by omega) (by omega)
        have e42 := hM.2.2 (j + 1) (by omega)
        have e38 : M2.1 38 (p (j + 1)) = nI (fr (p (j + 1))) := by rw [hF.1 38 (by decide)]; exact h38 _ (by omega) hpn
        have e39 : M2.1 39 (j + 1) = nI (to (j + 1)) := by rw [hF.1 39 (by decide)]; exact h39 _ (by omega) (by omega)
        have hfp := hfr (p (j + 1))
        have htp := hto (j + 1)
        have e40 : (nI (j + 1)).toNatClampNeg = j + 1 := nI_clamp (by omega)
        refine PW.funV rfl ⟨⟨⟨trivial, (vp_in_nI (by omega) (by decide))⟩, (by rw [e40, e42]; exact vp_in_nI (by omega) (by decide))⟩, (vp_in_nI (by omega) (by decide))⟩ sX8_163 rfl rfl (by decide) rfl (show PF X l mX8_steps 1 [.ref 29, .int (M2.1 38 (M2.1 42 (nI (j + 1)).toNatClampNeg).toNatClampNeg), .int (M2.1 39 (nI (j + 1)).toNatClampNeg)] G0 M2 (.int (nI (ad (fr (p (j + 1)) % w) (to (j + 1) % w) + ad (fr (p (j + 1)) / w) (to (j + 1) / w)))) from by rw [e40, e42, nI_clamp (by omega), e38, e39]; exact m_steps _ _ (by omega) (by omega) Hw (H.fi hF)) ?_
        refine PW.goto rfl trivial ?_
        refine PW.lc ?_ (ih (j + 1) u v p M2 (by omega) hF hM hH (by omega))
        rw [nI_1, fb_si_succ, Int32.ofInt_add, ec]
        rfl
  have loop36 : ∀ k : Nat, ∀ (R : Nat) (u v : Nat → Int) (p : Nat → Nat) (M2 : Mem), R ≤ n → FI [40, 41, 42, 43, 44, 45] M M2 → MA n u v p M2 → Hg c n R u v p → n - R < k → PW X l mX8_assign 2 (fun v M' => (∃ (u v2 : Nat → Int) (p : Nat → Nat), Hg c n n u v2 p ∧ v = some (.int (Int32.ofInt (fb_si (fun j => c (p (j + 1)) (j + 1)) n)))) ∧ FI [40, 41, 42, 43, 44, 45] M M') 36 [.ref 29, .int (nI n), .int (nI (R + 1)), .null, .null, .null, .null, .null, .null] [] G0 M2 := by
    intro k
    induction k with
    | zero => intro R u v p M2 hR hF hM hH hk; exact absurd hk (Nat.not_lt_zero _)
    | succ k ih =>
      intro R u v p M2 hR hF hM hH hk
      have loop300 : ∀ k300 : Nat, ∀ (a : Nat) (u v : Nat → Int) (p : Nat → Nat) (us : Nat → Bool) (bf tm : Nat → Nat) (M4 : Mem), R + 1 ≤ n → Au c n (R + 1) u v p us bf tm a → FI [40, 41, 42, 43, 44, 45] M M4 → MA n u v p M4 → (∀ k, 1 ≤ k → k ≤ n → M4.1 44 k = nI (bf k)) → tm a < k300 → PW X l mX8_assign 2 (fun v M' => (∃ (u v2 : Nat → Int) (p : Nat → Nat), Hg c n n u v2 p ∧ v = some (.int (Int32.ofInt (fb_si (fun j => c (p (j + 1)) (j + 1)) n)))) ∧ FI [40, 41, 42, 43, 44, 45] M M') 300 [.ref 29, .int (nI n), .int (nI (R + 1)), .int (nI a), .null, .null, .null, .null, .null] [] G0 M4 := by
        intro k300
        induction k300 with
        | zero => intro a u v p us bf tm M4 hRn9 hA hF4 hM4 g44 hk4; exact absurd hk4 (Nat.not_lt_zero _)
        | succ k300 ih300 =>
          intro a u v p us bf tm M4 hRn9 hA hF4 hM4 g44 hk4
          have han := hA.1
          refine PW.zeq rfl trivial (fun h301 => ?_) (fun h301 => ?_)
          · skip
            have ea : a = 0 := by
              rw [show (0 : Int32) = nI 0 from rfl, nI_eq (by omega) (by omega)] at h301; exact h301
            subst ea
            refine PW.goto rfl trivial ?_
            rw [nI_1]
            refine PW.nl [3] ?_
            exact ih (R + 1) u v p M4 hRn9 hF4 hM4 hA.done (by omega)
          · skip
            have ea : a ≠ 0 := fun z => h301 (by rw [z]; rfl)
            obtain ⟨hA2, ht, hb⟩ := hA.step ea
            have e44 := g44 a (by omega) han
            have e42 := hM4.2.2 _ hb
            refine PW.goto rfl ⟨⟨⟨⟨trivial, (vp_in_nI (by omega) (by decide))⟩, (by rw [nI_clamp (by omega), e44]; exact vp_in_nI (by omega) (by decide))⟩, (vp_in_nI (by omega) (by decide))⟩, (vp_in_nI (by omega) (by decide))⟩ ?_
            rw [nI_clamp (by omega), e44, nI_clamp (by omega), e42, show ((va_up M4.1 42 (upd (M4.1 42) a (nI (p (bf a)))), M4.2) : Mem).1 44 a = nI (bf a) from by rw [up_o (by decide)]; exact e44]
            exact ih300 (bf a) u v _ us bf tm _ hRn9 hA2 (hF4.put (by decide)) hM4.pp (fun k q1 q2 => by rw [up_o (by decide)]; exact g44 k q1 q2) (by omega)
      have loop82 : ∀ k82 : Nat, ∀ (a s : Nat) (u v : Nat → Int) (p : Nat → Nat) (us : Nat → Bool) (bf tm : Nat → Nat) (sl : Nat → Int) (M3 : Mem), Tr c n (R + 1) u v p → Sd c n u v p us bf tm s → Hd c n u v p us bf a → (∀ j, 1 ≤ j → j ≤ n → us j = false → Sp c u v p us bf sl 1000000000 j) → p a ≠ 0 → FI [40, 41, 42, 43, 44, 45] M M3 → MA n u v p M3 → (∀ j, 1 ≤ j → j ≤ n → (M3.1 43 j).toInt = sl j) → (us 0 = true → ∀ j, 1 ≤ j → j ≤ n → M3.1 44 j = nI (bf j)) → (∀ j, j ≤ n → M3.1 45 j = bo (us j)) → n + 1 - fb_ct us (n + 1) < k82 → PW X l mX8_assign 2 (fun v M' => (∃ (u v2 : Nat → Int) (p : Nat → Nat), Hg c n n u v2 p ∧ v = some (.int (Int32.ofInt (fb_si (fun j => c (p (j + 1)) (j + 1)) n)))) ∧ FI [40, 41, 42, 43, 44, 45] M M') 82 [.ref 29, .int (nI n), .int (nI (R + 1)), .int (nI a), .null, .null, .null, .null, .null] [] G0 M3 := by
        intro k82
        induction k82 with
        | zero => intro a s u v p us bf tm sl M3 T D E hS hpa hF3 hM3 h43 h44 h45 hk3; exact absurd hk3 (Nat.not_lt_zero _)
        | succ k82 ih82 =>
          intro a s u v p us bf tm sl M3 T D E hS hpa hF3 hM3 h43 h44 h45 hk3
          have hRn := T.2.2.1
          have han := E.1
          have hpn : ∀ j, j ≤ n → p j ≤ n := fun j hj => by
            rcases Nat.eq_zero_or_pos j with z | z
            · rw [z, T.1]; exact hRn
            · have := T.2.2.2.1 j z hj; omega
          have hct := Sd.ct E
          have hctl := fb_ct_le (on1 us a) (n + 1)
          have D1 := D.mark E hpa
          have hv : ∀ j, 1 ≤ j → j ≤ n → v j ≤ 0 ∧ -10 ≤ v j := fun j a b => ⟨T.2.2.2.2.2.2.2.2.1 j a b, T.v_ge h0 hK (by omega) a b⟩
          have hu : ∀ i, 1 ≤ i → 0 ≤ u i ∧ u i ≤ 10 := fun i hi => ⟨T.2.2.2.2.2.2.2.2.2.2.1 i, T.u_le hK (by omega) hi⟩
          have ha0 : on1 us a 0 = true := by
            by_cases q : a = 0
            · rw [q]; exact on1_s us 0
            · exact on1_u (E.2.2.2 q).1
          have hcs : ∀ j, 1 ≤ j → j ≤ n → c (p a) j - u (p a) - v j < 1000000000 := fun j a1 b1 => by
            have := hK (p a) j; have := hv j a1 b1; have := hu (p a) (by omega); omega
          have loop222 : ∀ k222 : Nat, ∀ (j : Nat) (b : Int32) (nx : Nat) (bf2 : Nat → Nat) (sl2 u2 v2 sl3 : Nat → Int) (M4 : Mem), j ≤ n + 1 → Sd c n u v p (on1 us a) bf2 (fun k => if k = a then s else tm k) (s + 1) → (∀ k, 1 ≤ k → k ≤ n → on1 us a k = false → Sp c u v p (on1 us a) bf2 sl2 1000000000 k) → 1 ≤ nx → nx ≤ n → on1 us a nx = false → b.toInt = sl2 nx → (∀ k, 1 ≤ k → k ≤ n → on1 us a k = false → b.toInt ≤ sl2 k) → Mv p (on1 us a) u v sl2 u2 v2 sl3 b.toInt j → FI [40, 41, 42, 43, 44, 45] M M4 → MA n u2 v2 p M4 → (∀ j, 1 ≤ j → j ≤ n → (M4.1 43 j).toInt = sl3 j) → (∀ k, 1 ≤ k → k ≤ n → M4.1 44 k = nI (bf2 k)) → (∀ j, j ≤ n → M4.1 45 j = bo (on1 us a j)) → n + 1 - j < k222 → PW X l mX8_assign 2 (fun v M' => (∃ (u v2 : Nat → Int) (p : Nat → Nat), Hg c n n u v2 p ∧ v = some (.int (Int32.ofInt (fb_si (fun j => c (p (j + 1)) (j + 1)) n)))) ∧ FI [40, 41, 42, 43, 44, 45] M M') 222 [.ref 29, .int (nI n), .int (nI (R + 1)), .int (nI a), .null, .int b, .int (nI nx), .int (nI j), .null] [] G0 M4 := by
            intro k222
            induction k222 with
            | zero => intro j b nx bf2 sl2 u2 v2 sl3 M4 hj D2 hP nx1 nx2 nx3 hb hbm hV hF4 hM4 g43 g44 g45 hk4; exact absurd hk4 (Nat.not_lt_zero _)
            | succ k222 ih222 =>
              intro j b nx bf2 sl2 u2 v2 sl3 M4 hj D2 hP nx1 nx2 nx3 hb hbm hV hF4 hM4 g43 g44 g45 hk4
              have hbb : 0 ≤ b.toInt ∧ b.toInt ≤ 30 := by
                have z := (hP nx nx1 nx2 nx3).2.1 ⟨0, ha0⟩
                have y := D2.1 _ z.1
                have r1 : 1 ≤ p (bf2 nx) := by have := y.2.1; omega
                have := hK (p (bf2 nx)) nx
                have := hv nx nx1 nx2
                have := hu _ r1
                have r2 : p (bf2 nx) ≤ R + 1 := by
                  rcases Nat.eq_zero_or_pos (bf2 nx) with e | e
                  · rw [e, T.1]; exact Nat.le_refl _
                  · have := T.2.2.2.1 _ e y.1; omega
                have := T.2.2.2.2.2.2.1 _ nx r1 r2 nx1 nx2
                omega
              have join282 : ∀ (j : Nat) (b : Int32) (nx : Nat) (bf2 : Nat → Nat) (sl2 u2 v2 sl3 : Nat → Int) (M4 : Mem), j ≤ n → Sd c n u v p (on1 us a) bf2 (fun k => if k = a then s else tm k) (s + 1) → (∀ k, 1 ≤ k → k ≤ n → on1 us a k = false → Sp c u v p (on1 us a) bf2 sl2 1000000000 k) → 1 ≤ nx → nx ≤ n → on1 us a nx = false → b.toInt = sl2 nx → (∀ k, 1 ≤ k → k ≤ n → on1 us a k = false → b.toInt ≤ sl2 k) → Mv p (on1 us a) u v sl2 u2 v2 sl3 b.toInt (j + 1) → FI [40, 41, 42, 43, 44, 45] M M4 → MA n u2 v2 p M4 → (∀ j, 1 ≤ j → j ≤ n → (M4.1 43 j).toInt = sl3 j) → (∀ k, 1 ≤ k → k ≤ n → M4.1 44 k = nI (bf2 k)) → (∀ j, j ≤ n → M4.1 45 j = bo (on1 us a j)) → n + 1 - j < k222 + 1 → PW X l mX8_assign 2 (fun v M' => (∃ (u v2 : Nat → Int) (p : Nat → Nat), Hg c n n u v2 p ∧ v = some (.int (Int32.ofInt (fb_si (fun j => c (p (j + 1)) (j + 1)) n)))) ∧ FI [40, 41, 42, 43, 44, 45] M M') 282 [.ref 29, .int (nI n), .int (nI (R + 1)), .int (nI a), .null, .int b, .int (nI nx), .int (nI j), .null] [] G0 M4 := by
                intro j b nx bf2 sl2 u2 v2 sl3 M4 hjn D2 hP nx1 nx2 nx3 hb hbm hV hF4 hM4 g43 g44 g45 hk4
                refine PW.goto rfl trivial ?_
                rw [nI_1]
                exact ih222 (j + 1) b nx bf2 sl2 u2 v2 sl3 M4 (by omega) D2 hP nx1 nx2 nx3 hb hbm hV hF4 hM4 g43 g44 g45 (by omega)
              refine PW.igt rfl trivial (fun h225 => ?_) (fun h225 => ?_)
              · skip
                rw [nI_ltI (by omega) (by omega)] at h225
                have e9 : j = n + 1 := by omega
                subst e9
                refine PW.zne rfl ⟨trivial, vp_in_nI (by omega) (by decide)⟩ (fun h297 => ?_) (fun h297 => ?_)
                · skip
                  rw [nI_clamp (by omega)] at h297
                  obtain ⟨_, T2, D3, E2, S2⟩ := T.move (F := 1000000000) (by2 := b.toInt) (u2 := u2) (v2 := v2) (sl2 := sl3) D2 ha0 hP nx1 nx2 nx3 hb hbm (fun k q => hV.1 k (by have := (D2.1 k q).1; omega) q) (fun r q => hV.2.1 r (fun k _ z => q k z)) (fun k q1 q2 => by
                    rw [hV.2.2.1 k q1]
                    by_cases z : on1 us a k = true
                    · rw [if_pos z, if_pos ⟨by omega, z⟩]
                    · rw [if_neg z, if_neg (fun y => z y.2)]) (fun k q1 q2 q3 => by rw [hV.2.2.2 k, if_pos ⟨by omega, q3⟩])
                  rw [hM4.2.2 nx nx2] at h297
                  refine PW.nl [5, 6, 7] ?_
                  exact ih82 nx (s + 1) u2 v2 p (on1 us a) bf2 _ sl3 M4 T2 D3 E2 S2 (fun z => h297 (by rw [z]; rfl)) hF4 hM4 g43 (fun _ => g44) g45 (by omega)
                · skip
                  rw [nI_clamp (by omega)] at h297
                  obtain ⟨_, T2, D3, E2, S2⟩ := T.move (F := 1000000000) (by2 := b.toInt) (u2 := u2) (v2 := v2) (sl2 := sl3) D2 ha0 hP nx1 nx2 nx3 hb hbm (fun k q => hV.1 k (by have := (D2.1 k q).1; omega) q) (fun r q => hV.2.1 r (fun k _ z => q k z)) (fun k q1 q2 => by
                    rw [hV.2.2.1 k q1]
                    by_cases z : on1 us a k = true
                    · rw [if_pos z, if_pos ⟨by omega, z⟩]
                    · rw [if_neg z, if_neg (fun y => z y.2)]) (fun k q1 q2 q3 => by rw [hV.2.2.2 k, if_pos ⟨by omega, q3⟩])
                  rw [hM4.2.2 nx nx2] at h297
                  refine PW.nl [5, 6, 7] ?_
                  have hz : p nx = 0 := by
                    have := hpn nx nx2
                    rw [show (0 : Int32) = nI 0 from rfl, nI_eq (by omega) (by omega)] at h297; exact h297
                  exact loop300 (s + 2) nx u2 v2 p (on1 us a) bf2 _ M4 hRn (Au.start T2 D3 E2 (by omega) hz) hF4 hM4 g44 (by rw [if_pos rfl]; omega)
              · skip
                rw [nI_ltI (by omega) (by omega)] at h225
                have hjn : j ≤ n := by omega
                have hju := g45 j hjn
                refine PW.zeq rfl ⟨trivial, vp_in_nI (by omega) (by decide)⟩ (fun h235 => ?_) (fun h235 => ?_)
                · skip
                  rw [nI_clamp (by omega), hju, bo_eq] at h235
                  have hj1 : 1 ≤ j := by
                    rcases Nat.eq_zero_or_pos j with z | z
                    · rw [z, ha0] at h235; cases h235
                    · exact z
                  have e43 := g43 j hj1 hjn
                  have es : sl3 j = sl2 j := by rw [hV.2.2.2 j, if_neg (fun z => by omega)]
                  have z0 := (hP j hj1 hjn h235).2.1 ⟨0, ha0⟩
                  have y0 := D2.1 _ z0.1
                  have hvj := hv j hj1 hjn
                  have huj := hu (p (bf2 j)) (by have := y0.2.1; omega)
                  have hKj := hK (p (bf2 j)) j
                  have h0j := h0 (p (bf2 j)) j
                  refine PW.to 282 rfl ⟨⟨trivial, (vp_in_nI (by omega) (by decide))⟩, (vp_in_nI (by omega) (by decide))⟩ ?_
                  rw [nI_clamp (by omega)]
                  refine join282 j b nx bf2 sl2 u2 v2 _ _ hjn D2 hP nx1 nx2 nx3 hb hbm (hV.skip h235 (y := (M4.1 43 j - b).toInt) (by rw [fb_subI (by omega) (by omega), e43])) (hF4.put (by decide)) (hM4.o) (fun k q1 q2 => ?_) (fun k q1 q2 => by simp [va_up, upd]; exact g44 k q1 q2) (fun k q => by simp [va_up, upd]; exact g45 k q) hk4
                  by_cases e : k = j
                  · subst e; rw [up_s, if_pos rfl]
                  · rw [up_n e, if_neg e]; exact g43 k q1 q2
                · skip
                  rw [nI_clamp (by omega), hju, bo_ne] at h235
                  have hD := D2.1 j h235
                  have hpj := hpn j hjn
                  have e42 := hM4.2.2 j hjn
                  have eu : u2 (p j) = u (p j) := hV.2.1 _ (fun k hk _ e => by have := T.2.2.2.2.1 k j (by omega) hjn e (by rw [e]; exact hD.2.1); omega)
                  have e40 := hM4.1 (p j) (by omega) hpj
                  have huj := hu (p j) (by omega)
                  refine PW.goto rfl ⟨⟨⟨⟨⟨trivial, (vp_in_nI (by omega) (by decide))⟩, (by rw [nI_clamp (by omega), e42]; exact vp_in_nI (by omega) (by decide))⟩, (by rw [nI_clamp (by omega), e42]; exact vp_in_nI (by omega) (by decide))⟩, (vp_in_nI (by omega) (by decide))⟩, (vp_in_nI (by omega) (by decide))⟩ ?_
                  rw [nI_clamp (by omega), e42, nI_clamp (by omega)]
                  refine join282 j b nx bf2 sl2 _ _ sl3 _ hjn D2 hP nx1 nx2 nx3 hb hbm (hV.used h235 hjn hD.2.1 T.2.2.2.2.1 (x := (M4.1 40 (p j) + b).toInt) (y := (M4.1 41 j - b).toInt) (by rw [fb_addI (by omega) (by omega), e40]) (fun h1 => ?_)) ((hF4.put (by decide)).put (by decide)) (hM4.pu.pv) (fun k q1 q2 => by simp [va_up, upd]; exact g43 k q1 q2) (fun k q1 q2 => by simp [va_up, upd]; exact g44 k q1 q2) (fun k q => by simp [va_up, upd]; exact g45 k q) hk4
                  have e41 := hM4.2.1 j h1 hjn
                  have ev : v2 j = v j := by rw [hV.2.2.1 j h1, if_neg (fun z => by omega)]
                  have := hv j h1 hjn
                  rw [fb_subI (by omega) (by omega), e41]
          have loop107 : ∀ k107 : Nat, ∀ (j : Nat) (b : Int32) (nx : Nat) (bf2 : Nat → Nat) (sl2 : Nat → Int) (M4 : Mem), 1 ≤ j → j ≤ n + 1 → (∀ k, 1 ≤ k → k < j → on1 us a k = false → Sp c u v p (on1 us a) bf2 sl2 1000000000 k) → (∀ k, j ≤ k → k ≤ n → on1 us a k = false → Sp c u v p us bf2 sl2 1000000000 k) → (∀ k, on1 us a k = true → bf2 k = bf k) → FI [40, 41, 42, 43, 44, 45] M M4 → MA n u v p M4 → (∀ j, 1 ≤ j → j ≤ n → (M4.1 43 j).toInt = sl2 j) → (∀ k, 1 ≤ k → k ≤ n → (k < j ∨ us 0 = true) → M4.1 44 k = nI (bf2 k)) → (∀ j, j ≤ n → M4.1 45 j = bo (on1 us a j)) → (nx = 0 → b.toInt = 1000000000 ∧ ∀ k, 1 ≤ k → k < j → on1 us a k = true) → (nx ≠ 0 → nx < j ∧ on1 us a nx = false ∧ b.toInt = sl2 nx ∧ ∀ k, 1 ≤ k → k < j → on1 us a k = false → sl2 nx ≤ sl2 k) → n + 1 - j < k107 → PW X l mX8_assign 2 (fun v M' => (∃ (u v2 : Nat → Int) (p : Nat → Nat), Hg c n n u v2 p ∧ v = some (.int (Int32.ofInt (fb_si (fun j => c (p (j + 1)) (j + 1)) n)))) ∧ FI [40, 41, 42, 43, 44, 45] M M') 107 [.ref 29, .int (nI n), .int (nI (R + 1)), .int (nI a), .int (nI (p a)), .int b, .int (nI nx), .int (nI j), .null] [] G0 M4 := by
            intro k107
            induction k107 with
            | zero => intro j b nx bf2 sl2 M4 hj1 hj hP1 hP2 hbf hF4 hM4 g43 g44 g45 hx1 hx2 hk4; exact absurd hk4 (Nat.not_lt_zero _)
            | succ k107 ih107 =>
              intro j b nx bf2 sl2 M4 hj1 hj hP1 hP2 hbf hF4 hM4 g43 g44 g45 hx1 hx2 hk4
              have join213 : ∀ (j : Nat) (b : Int32) (nx : Nat) (bf2 : Nat → Nat) (sl2 : Nat → Int) (M4 : Mem), 1 ≤ j → j ≤ n → (∀ k, 1 ≤ k → k < j + 1 → on1 us a k = false → Sp c u v p (on1 us a) bf2 sl2 1000000000 k) → (∀ k, j + 1 ≤ k → k ≤ n → on1 us a k = false → Sp c u v p us bf2 sl2 1000000000 k) → (∀ k, on1 us a k = true → bf2 k = bf k) → FI [40, 41, 42, 43, 44, 45] M M4 → MA n u v p M4 → (∀ j, 1 ≤ j → j ≤ n → (M4.1 43 j).toInt = sl2 j) → (∀ k, 1 ≤ k → k ≤ n → (k < j + 1 ∨ us 0 = true) → M4.1 44 k = nI (bf2 k)) → (∀ j, j ≤ n → M4.1 45 j = bo (on1 us a j)) → (nx = 0 → b.toInt = 1000000000 ∧ ∀ k, 1 ≤ k → k < j + 1 → on1 us a k = true) → (nx ≠ 0 → nx < j + 1 ∧ on1 us a nx = false ∧ b.toInt = sl2 nx ∧ ∀ k, 1 ≤ k → k < j + 1 → on1 us a k = false → sl2 nx ≤ sl2 k) → n + 1 - j < k107 + 1 → PW X l mX8_assign 2 (fun v M' => (∃ (u v2 : Nat → Int) (p : Nat → Nat), Hg c n n u v2 p ∧ v = some (.int (Int32.ofInt (fb_si (fun j => c (p (j + 1)) (j + 1)) n)))) ∧ FI [40, 41, 42, 43, 44, 45] M M') 213 [.ref 29, .int (nI n), .int (nI (R + 1)), .int (nI a), .int (nI (p a)), .int b, .int (nI nx), .int (nI j), .null] [] G0 M4 := by
                intro j b nx bf2 sl2 M4 hj1 hjn hP1 hP2 hbf hF4 hM4 g43 g44 g45 hx1 hx2 hk4
                refine PW.goto rfl trivial ?_
                rw [nI_1]
                exact ih107 (j + 1) b nx bf2 sl2 M4 (by omega) (by omega) hP1 hP2 hbf hF4 hM4 g43 g44 g45 hx1 hx2 (by omega)
              have join188 : ∀ (j : Nat) (b : Int32) (nx : Nat) (x : Int32) (bf2 : Nat → Nat) (sl2 : Nat → Int) (M4 : Mem), 1 ≤ j → j ≤ n → on1 us a j = false → (∀ k, 1 ≤ k → k < j + 1 → on1 us a k = false → Sp c u v p (on1 us a) bf2 sl2 1000000000 k) → (∀ k, j + 1 ≤ k → k ≤ n → on1 us a k = false → Sp c u v p us bf2 sl2 1000000000 k) → (∀ k, on1 us a k = true → bf2 k = bf k) → FI [40, 41, 42, 43, 44, 45] M M4 → MA n u v p M4 → (∀ j, 1 ≤ j → j ≤ n → (M4.1 43 j).toInt = sl2 j) → (∀ k, 1 ≤ k → k ≤ n → (k < j + 1 ∨ us 0 = true) → M4.1 44 k = nI (bf2 k)) → (∀ j, j ≤ n → M4.1 45 j = bo (on1 us a j)) → (nx = 0 → b.toInt = 1000000000 ∧ ∀ k, 1 ≤ k → k < j → on1 us a k = true) → (nx ≠ 0 → nx < j ∧ on1 us a nx = false ∧ b.toInt = sl2 nx ∧ ∀ k, 1 ≤ k → k < j → on1 us a k = false → sl2 nx ≤ sl2 k) → n + 1 - j < k107 + 1 → PW X l mX8_assign 2 (fun v M' => (∃ (u v2 : Nat → Int) (p : Nat → Nat), Hg c n n u v2 p ∧ v = some (.int (Int32.ofInt (fb_si (fun j => c (p (j + 1)) (j + 1)) n)))) ∧ FI [40, 41, 42, 43, 44, 45] M M') 188 [.ref 29, .int (nI n), .int (nI (R + 1)), .int (nI a), .int (nI (p a)), .int b, .int (nI nx), .int (nI j), .int x] [] G0 M4 := by
                intro j b nx x bf2 sl2 M4 hj1 hjn hju hP1 hP2 hbf hF4 hM4 g43 g44 g45 hx1 hx2 hk4
                have e43 := g43 j hj1 hjn
                have hq := (hP1 j hj1 (by omega) hju).1 0 ha0
                have hlt : sl2 j < 1000000000 := by
                  have := hK (p 0) j; have := hv j hj1 hjn; have := hu (p 0) (by rw [T.1]; omega); omega
                refine PW.ige rfl ⟨trivial, vp_in_nI (by omega) (by decide)⟩ (fun h197 => ?_) (fun h197 => ?_)
                · skip
                  rw [nI_clamp (by omega), Int32.le_iff_toInt_le, e43] at h197
                  refine PW.nl [8] ?_
                  refine PW.lc rfl (join213 j b nx bf2 sl2 M4 hj1 hjn hP1 hP2 hbf hF4 hM4 g43 g44 g45 (fun q => ?_) (fun q => ?_) hk4)
                  · have := (hx1 q).1; omega
                  · have t := hx2 q
                    refine ⟨by omega, t.2.1, t.2.2.1, fun k q1 q2 q3 => ?_⟩
                    by_cases e : k = j
                    · subst e; have := t.2.2.1; omega
                    · exact t.2.2.2 k q1 (by omega) q3
                · skip
                  rw [nI_clamp (by omega), Int32.le_iff_toInt_le, e43] at h197
                  refine PW.to 213 rfl ⟨trivial, vp_in_nI (by omega) (by decide)⟩ ?_
                  rw [nI_clamp (by omega)]
                  refine PW.nl [8] ?_
                  refine PW.lc rfl (join213 j _ j bf2 sl2 M4 hj1 hjn hP1 hP2 hbf hF4 hM4 g43 g44 g45 (fun q => by omega) (fun _ => ⟨by omega, hju, e43, fun k q1 q2 q3 => ?_⟩) hk4)
                  by_cases e : k = j
                  · rw [e]; exact Int.le_refl _
                  · by_cases z : nx = 0
                    · rw [(hx1 z).2 k q1 (by omega)] at q3; cases q3
                    · have t := hx2 z
                      have := t.2.2.2 k q1 (by omega) q3
                      have := t.2.2.1
                      omega
              refine PW.igt rfl trivial (fun h110 => ?_) (fun h110 => ?_)
              · skip
                rw [nI_ltI (by omega) (by omega)] at h110
                have e9 : j = n + 1 := by omega
                subst e9
                refine PW.to 222 rfl trivial ?_
                refine PW.nl [4, 8] ?_
                have hnx : nx ≠ 0 := fun q => by
                  obtain ⟨f, f1, f2, f3⟩ := T.free
                  have z := (hx1 q).2 f f1 (by omega)
                  exact (D1.1 f z).2.1 f3
                have t := hx2 hnx
                have D2 := D1.cong hbf
                exact loop222 (n + 2) 0 b nx bf2 sl2 u v sl2 M4 (by omega) D2 (fun k q1 q2 q3 => hP1 k q1 (by omega) q3) (by omega) (by omega) t.2.1 t.2.2.1 (fun k q1 q2 q3 => by rw [t.2.2.1]; exact t.2.2.2 k q1 (by omega) q3) Mv.start hF4 hM4 g43 (fun k q1 q2 => g44 k q1 q2 (Or.inl (by omega))) g45 (by omega)
              · skip
                rw [nI_ltI (by omega) (by omega)] at h110
                have hjn : j ≤ n := by omega
                have hju := g45 j hjn
                refine PW.zne rfl ⟨trivial, vp_in_nI (by omega) (by decide)⟩ (fun h120 => ?_) (fun h120 => ?_)
                · skip
                  rw [nI_clamp (by omega), hju, bo_ne] at h120
                  refine PW.lc rfl (join213 j b nx bf2 sl2 M4 hj1 hjn (fun k q1 q2 q3 => hP1 k q1 (by
                    have : k ≠ j := fun e => by rw [e, h120] at q3; cases q3
                    omega) q3) (fun k q1 q2 q3 => hP2 k (by omega) q2 q3) hbf hF4 hM4 g43 (fun k q1 q2 q3 => ?_) g45 (fun q => ⟨(hx1 q).1, fun k q1 q2 => ?_⟩) (fun q => ?_) hk4)
                  · rcases q3 with z | z
                    · by_cases e : k = j
                      · subst e
                        refine g44 k q1 q2 (Or.inr ?_)
                        by_cases ea : a = 0
                        · rw [on1_n (by omega), E.2.2.1 ea k] at h120; cases h120
                        · exact (E.2.2.2 ea).1
                      · exact g44 k q1 q2 (Or.inl (by omega))
                    · exact g44 k q1 q2 (Or.inr z)
                  · by_cases e : k = j
                    · rw [e]; exact h120
                    · exact (hx1 q).2 k q1 (by omega)
                  · have := hx2 q
                    exact ⟨by omega, this.2.1, this.2.2.1, fun k q1 q2 q3 => this.2.2.2 k q1 (by
                      have : k ≠ j := fun e => by rw [e, h120] at q3; cases q3
                      omega) q3⟩
                · skip
                  rw [nI_clamp (by omega), hju, bo_eq] at h120
                  have hpr := hpn a han
                  have hPj := hP2 j (Nat.le_refl _) hjn h120
                  have e38 : M4.1 38 (p a) = nI (fr (p a)) := by rw [hF4.1 38 (by decide)]; exact h38 _ (by omega) hpr
                  have e39 : M4.1 39 j = nI (to j) := by rw [hF4.1 39 (by decide)]; exact h39 _ hj1 hjn
                  have hfp := hfr (p a)
                  have htp := hto j
                  have hvj := hv j hj1 hjn
                  have hua := hu (p a) (by omega)
                  have hKj := hK (p a) j
                  have h0j := h0 (p a) j
                  have hcj := hcs j hj1 hjn
                  have e40 := hM4.1 (p a) (by omega) hpr
                  have e41 := hM4.2.1 j hj1 hjn
                  have e43 := g43 j hj1 hjn
                  refine PW.funV rfl ⟨⟨trivial, (vp_in_nI (by omega) (by decide))⟩, (vp_in_nI (by omega) (by decide))⟩ sX8_163 rfl rfl (by decide) rfl (show PF X l mX8_steps 1 [.ref 29, .int (M4.1 38 (nI (p a)).toNatClampNeg), .int (M4.1 39 (nI j).toNatClampNeg)] G0 M4 (.int (nI (ad (fr (p a) % w) (to j % w) + ad (fr (p a) / w) (to j / w)))) from by rw [nI_clamp (by omega), nI_clamp (by omega), e38, e39]; exact m_steps _ _ (by omega) (by omega) Hw (H.fi hF4)) ?_
                  obtain ⟨x0, ex0⟩ : ∃ x0 : Int32, x0 = nI (ad (fr (p a) % w) (to j % w) + ad (fr (p a) / w) (to j / w)) := ⟨_, rfl⟩
                  have ex1 : x0.toInt = c (p a) j := by
                    rw [ec] at hKj ⊢
                    rw [ex0]; unfold stp at hKj ⊢
                    exact nI_toInt (by omega)
                  rw [← ex0]
                  refine PW.ige rfl ⟨⟨⟨trivial, (vp_in_nI (by omega) (by decide))⟩, (vp_in_nI (by omega) (by decide))⟩, (vp_in_nI (by omega) (by decide))⟩ (fun h168 => ?_) (fun h168 => ?_)
                  · skip
                    rw [nI_clamp (by omega), nI_clamp (by omega)]
                    rw [nI_clamp (by omega), nI_clamp (by omega)] at h168
                    obtain ⟨x, ex⟩ : ∃ x : Int32, x = x0 - M4.1 40 (p a) - M4.1 41 j := ⟨_, rfl⟩
                    have hx9 : x.toInt = c (p a) j - u (p a) - v j := by
                      have q1 : (x0 - M4.1 40 (p a)).toInt = x0.toInt - (M4.1 40 (p a)).toInt := fb_subI (by omega) (by omega)
                      rw [ex, fb_subI (by omega) (by omega), q1, ex1, e40, e41]
                    rw [← ex] at h168
                    rw [← ex]
                    rw [Int32.le_iff_toInt_le, e43, hx9] at h168
                    refine join188 j b nx x bf2 sl2 M4 hj1 hjn h120 (fun k q1 q2 q3 => ?_) (fun k q1 q2 q3 => hP2 k (by omega) q2 q3) hbf hF4 hM4 g43 (fun k q1 q2 q3 => ?_) g45 hx1 hx2 hk4
                    · by_cases e : k = j
                      · subst e; exact hPj.look (hcs k hj1 hjn) (by rw [if_neg (by omega)]) (by rw [if_neg (by omega)])
                      · exact hP1 k q1 (by omega) q3
                    · rcases q3 with z | z
                      · by_cases e : k = j
                        · subst e
                          refine g44 k q1 q2 (Or.inr ?_)
                          by_cases ea : a = 0
                          · have := hPj.2.2 (E.2.2.1 ea); omega
                          · exact (E.2.2.2 ea).1
                        · exact g44 k q1 q2 (Or.inl (by omega))
                      · exact g44 k q1 q2 (Or.inr z)
                  · skip
                    rw [nI_clamp (by omega), nI_clamp (by omega)]
                    rw [nI_clamp (by omega), nI_clamp (by omega)] at h168
                    obtain ⟨x, ex⟩ : ∃ x : Int32, x = x0 - M4.1 40 (p a) - M4.1 41 j := ⟨_, rfl⟩
                    have hx9 : x.toInt = c (p a) j - u (p a) - v j := by
                      have q1 : (x0 - M4.1 40 (p a)).toInt = x0.toInt - (M4.1 40 (p a)).toInt := fb_subI (by omega) (by omega)
                      rw [ex, fb_subI (by omega) (by omega), q1, ex1, e40, e41]
                    rw [← ex] at h168
                    rw [← ex]
                    rw [Int32.le_iff_toInt_le, e43, hx9] at h168
                    refine PW.to 188 rfl ⟨⟨trivial, (vp_in_nI (by omega) (by decide))⟩, (vp_in_nI (by omega) (by decide))⟩ ?_
                    rw [nI_clamp (by omega)]
                    refine join188 j b nx x (fun k => if k = j then a else bf2 k) (fun k => if k = j then x.toInt else sl2 k) _ hj1 hjn h120 (fun k q1 q2 q3 => ?_) (fun k q1 q2 q3 => ?_) (fun k q => ?_) ((hF4.put (by decide)).put (by decide)) (hM4.o.o) (fun k q1 q2 => ?_) (fun k q1 q2 q3 => ?_) (fun k q => ?_) hx1 (fun q => ?_) hk4
                    · by_cases e : k = j
                      · subst e; exact hPj.look (hcs k hj1 hjn) (by rw [if_pos rfl, if_pos (by omega)]; exact hx9) (by rw [if_pos rfl, if_pos (by omega)])
                      · exact (hP1 k q1 (by omega) q3).cong (if_neg e) (if_neg e)
                    · exact (hP2 k (by omega) q2 q3).cong (if_neg (by omega)) (if_neg (by omega))
                    · rw [if_neg (fun e => by rw [e, h120] at q; cases q)]; exact hbf k q
                    · by_cases e : k = j
                      · subst e; simp [va_up, upd]
                      · simp [va_up, upd, e]; exact g43 k q1 q2
                    · by_cases e : k = j
                      · subst e; simp [va_up, upd]
                      · simp [va_up, upd, e]; exact g44 k q1 q2 (q3.elim (fun z => Or.inl (by omega)) Or.inr)
                    · simp [va_up, upd]; exact g45 k q
                    · have := hx2 q
                      rw [if_neg (by omega)]
                      exact ⟨this.1, this.2.1, this.2.2.1, fun k q1 q2 q3 => by rw [if_neg (by omega)]; exact this.2.2.2 k q1 q2 q3⟩
          refine PW.to 107 rfl ⟨⟨trivial, vp_in_nI (by omega) (by decide)⟩, vp_in_nI (by omega) (by decide)⟩ ?_
          rw [nI_clamp (by omega), show ((va_up M3.1 45 (upd (M3.1 45) a (vp_nar .boolean 1)), M3.2) : Mem).1 42 a = nI (p a) from by rw [up_o (by decide)]; exact hM3.2.2 a han]
          refine loop107 (n + 2) 1 (nI 1000000000) 0 bf sl _ (by omega) (by omega) (fun k a b => by omega) (fun k a1 b q => hS k (by omega) b (by
            by_cases e : k = a
            · subst e; rw [on1_s] at q; cases q
            · rw [on1_n e] at q; exact q)) (fun _ _ => rfl) (hF3.put (by decide)) hM3.o (fun j a b => by rw [up_o (by decide)]; exact h43 j a b) (fun j a b q => by rw [up_o (by decide)]; exact h44 (q.resolve_left (by omega)) j a b) (fun j b => ?_) (fun _ => ⟨rfl, fun k a b => by omega⟩) (fun q => absurd rfl q) (by omega)
          by_cases e : j = a
          · subst e; rw [up_s, on1_s]; rfl
          · rw [up_n e, on1_n e]; exact h45 j b
      have loop53 : ∀ k53 : Nat, ∀ (j : Nat) (M3 : Mem), R < n → j ≤ n + 1 → FI [40, 41, 42, 43, 44, 45] M M3 → MA n u v (fun k => if k = 0 then R + 1 else p k) M3 → (∀ k, k < j → M3.1 43 k = nI 1000000000 ∧ M3.1 45 k = 0) → n + 1 - j < k53 → PW X l mX8_assign 2 (fun v M' => (∃ (u v2 : Nat → Int) (p : Nat → Nat), Hg c n n u v2 p ∧ v = some (.int (Int32.ofInt (fb_si (fun j => c (p (j + 1)) (j + 1)) n)))) ∧ FI [40, 41, 42, 43, 44, 45] M M') 53 [.ref 29, .int (nI n), .int (nI (R + 1)), .int (nI 0), .int (nI j), .null, .null, .null, .null] [] G0 M3 := by
        intro k53
        induction k53 with
        | zero => intro j M3 hRn hj hF3 hM3 hz hk3; exact absurd hk3 (Nat.not_lt_zero _)
        | succ k53 ih53 =>
          intro j M3 hRn hj hF3 hM3 hz hk3
          refine PW.igt rfl trivial (fun h56 => ?_) (fun h56 => ?_)
          · skip
            rw [nI_ltI (by omega) (by omega)] at h56
            have e9 : j = n + 1 := by omega
            subst e9
            refine PW.nl [4] ?_
            have T0 : Tr c n (R + 1) u v (fun k => if k = 0 then R + 1 else p k) := hH.tr h0 hRn rfl (fun j a b => if_neg (by omega))
            exact loop82 (n + 2) 0 0 u v (fun k => if k = 0 then R + 1 else p k) (fun _ => false) (fun _ => 0) (fun _ => 0) (fun _ => 1000000000) M3 T0 ⟨fun j q => absurd q (by simp), fun j q => absurd q (by simp)⟩ ⟨by omega, rfl, fun _ _ => rfl, fun q => absurd rfl q⟩ (fun j a b _ => ⟨fun k q => absurd q (by simp), fun ⟨k, q⟩ => absurd q (by simp), fun _ => rfl⟩) (by rw [if_pos rfl]; omega) hF3 hM3 (fun j a b => by rw [(hz j (by omega)).1]; rfl) (fun q => absurd q (by simp)) (fun j b => (hz j (by omega)).2) (by omega)
          · skip
            rw [nI_ltI (by omega) (by omega)] at h56
            refine PW.goto rfl ⟨⟨trivial, vp_in_nI (by omega) (by decide)⟩, vp_in_nI (by omega) (by decide)⟩ ?_
            rw [nI_clamp (by omega), nI_1]
            refine ih53 (j + 1) _ hRn (by omega) ((hF3.put (by decide)).put (by decide)) (hM3.o.o) (fun k hk => ?_) (by omega)
            by_cases q : k = j
            · subst q; simp [va_up, upd]; exact ⟨rfl, rfl⟩
            · have := hz k (by omega); simp [va_up, upd, q]; exact this
      refine PW.igt rfl trivial (fun h38 => ?_) (fun h38 => ?_)
      · skip
        rw [nI_ltI (by omega) (by omega)] at h38
        have e9 : R = n := by omega
        subst e9
        refine PW.to 341 rfl trivial ?_
        exact PW.lc rfl (loop341 (R + 1) 0 u v p M2 (by omega) hF hM hH (by omega))
      · skip
        rw [nI_ltI (by omega) (by omega)] at h38
        have hRn : R < n := by omega
        refine PW.to 53 rfl ⟨trivial, vp_in_nI (n := 0) (by decide) (by decide)⟩ ?_
        refine loop53 (n + 2) 0 _ (by omega) (by omega) (hF.put (by decide)) (hM.pp (a := 0)) (fun k hk => by omega) (by omega)
  have loop2 : ∀ k : Nat, ∀ (j : Nat) (M2 : Mem), j ≤ n + 1 → FI [40, 41, 42, 43, 44, 45] M M2 → (∀ k, k < j → M2.1 40 k = 0 ∧ M2.1 41 k = 0 ∧ M2.1 42 k = 0) → n + 1 - j < k → PW X l mX8_assign 2 (fun v M' => (∃ (u v2 : Nat → Int) (p : Nat → Nat), Hg c n n u v2 p ∧ v = some (.int (Int32.ofInt (fb_si (fun j => c (p (j + 1)) (j + 1)) n)))) ∧ FI [40, 41, 42, 43, 44, 45] M M') 2 [.ref 29, .int (nI n), .int (nI j), .null, .null, .null, .null, .null, .null] [] G0 M2 := by
    intro k
    induction k with
    | zero => intro j M2 hj hF hz hk; exact absurd hk (Nat.not_lt_zero _)
    | succ k ih =>
      intro j M2 hj hF hz hk
      refine PW.igt rfl trivial (fun h4 => ?_) (fun h4 => ?_)
      · skip
        rw [nI_ltI (by omega) (by omega)] at h4
        have e9 : j = n + 1 := by omega
        subst e9
        refine PW.to 36 rfl trivial ?_
        exact loop36 (n + 1) 0 (fun _ => 0) (fun _ => 0) (fun _ => 0) M2 (Nat.zero_le _) hF ⟨fun r _ b => by rw [(hz r (by omega)).1]; rfl, fun r _ b => by rw [(hz r (by omega)).2.1]; rfl, fun r b => (hz r (by omega)).2.2⟩ (Hg.start (fun _ => rfl) (fun _ _ _ => rfl) (fun _ _ _ => rfl)) (by omega)
      · skip
        rw [nI_ltI (by omega) (by omega)] at h4
        refine PW.goto rfl ⟨⟨⟨trivial, vp_in_nI (by omega) (by decide)⟩, vp_in_nI (by omega) (by decide)⟩, vp_in_nI (by omega) (by decide)⟩ ?_
        rw [nI_clamp (by omega), nI_1]
        refine ih (j + 1) _ (by omega) (((hF.put (by decide)).put (by decide)).put (by decide)) (fun k hk => ?_) (by omega)
        by_cases q : k = j
        · subst q; simp [va_up, upd]
        · have := hz k (by omega); simp [va_up, upd, q]; exact this
  refine PW.to 2 rfl trivial ?_
  exact loop2 (n + 2) 0 M (by omega) FI.rf (fun k hk => by omega) (by omega)
end M13
