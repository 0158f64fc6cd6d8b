-- made by wip/whole/mk_c11.py
section C11
variable {X : Cx} {l : Launch} {M : Mem}
set_option maxHeartbeats 1000000 in
theorem c_place {c : Nat → Nat → Int} {rr m : Nat} (B : Mb rr m) (C : Mc c rr m M) (hc0 : ∀ i j, 0 ≤ c i j) (hK : ∀ i j, c i j ≤ KK) {u v : Nat → Int} {p : Nat → Nat} (Q : Mp rr m u v p M) {R : Nat} (hR : R < rr) (hH : Hg c m R u v p) : PC X l mX3_placeFor 2 [.ref 14, .int (nI (R + 1))] G0 M (fun v2 M' => ∃ (e : Nat) (u2 v3 : Nat → Int) (p2 : Nat → Nat) (us : Nat → Bool) (bf tm : Nat → Nat), v2 = some (.int (nI e)) ∧ Au c m (R + 1) u2 v3 p2 us bf tm e ∧ tm e ≤ m ∧ FC [19, 20] [14, 16, 17, 18] M M' ∧ Mp rr m u2 v3 p2 M' ∧ ∀ j, 1 ≤ j → j ≤ m → M'.1 20 j = nI (bf j)) := by
  refine PC.ofW okX3_placeFor ?_
  have hm36 := B.2.1
  have hrm := B.1
  have hrr := B.2.2
  have hKK : KK = 1125899906842624 := rfl
  have hBG : BIG = 1152921504606846976 := rfl
  have loop26 : ∀ k : Nat, ∀ (a s : Nat) (u v : Nat → Int) (p : Nat → Nat) (us : Nat → Bool) (bf tm : Nat → Nat) (sl : Nat → Int) (M3 : Mem), Tr c m (R + 1) u v p → Sd c m u v p us bf tm s → Hd c m u v p us bf a → (∀ j, 1 ≤ j → j ≤ m → us j = false → Sp c u v p us bf sl BIG j) → s = fb_ct us (m + 1) → FC [19, 20] [14, 16, 17, 18] M M3 → Mp rr m u v p M3 → M3.2 14 6 = mk us → (∀ j, 1 ≤ j → j ≤ m → (M3.2 18 j).toInt = sl j) → (M3.2 18 0).toInt = BIG → (us 0 = true → ∀ j, 1 ≤ j → j ≤ m → M3.1 20 j = nI (bf j)) → m + 1 - s < k → PW X l mX3_placeFor 2 (fun v2 M' => ∃ (e : Nat) (u2 v3 : Nat → Int) (p2 : Nat → Nat) (us : Nat → Bool) (bf tm : Nat → Nat), v2 = some (.int (nI e)) ∧ Au c m (R + 1) u2 v3 p2 us bf tm e ∧ tm e ≤ m ∧ FC [19, 20] [14, 16, 17, 18] M M' ∧ Mp rr m u2 v3 p2 M' ∧ ∀ j, 1 ≤ j → j ≤ m → M'.1 20 j = nI (bf j)) 26 [.ref 14, .int (nI (R + 1)), .int (nI a), .int (nI s), .null] [] G0 M3 := by
    intro k
    induction k with
    | zero => intro a s u v p us bf tm sl M3 T D E hS hsc hF3 Q3 hU h18 h180 h20 hk; exact absurd hk (Nat.not_lt_zero _)
    | succ k ih =>
      intro a s u v p us bf tm sl M3 T D E hS hsc hF3 Q3 hU h18 h180 h20 hk
      have C3 := C.fc hF3
      have han := E.1
      have hct := Sd.ct E
      have hctl := fb_ct_le (on1 us a) (m + 1)
      have hsm : s ≤ m := by omega
      have e19 := Q3.2.2 a han
      have hpr : ∀ j, j ≤ m → p j ≤ R + 1 := fun j hj => by
        rcases Nat.eq_zero_or_pos j with z | z
        · rw [z, T.1]; exact Nat.le_refl _
        · have := T.2.2.2.1 j z hj; omega
      have hpa := hpr a han
      refine PW.igt rfl trivial (fun h31 => ?_) (fun h31 => ?_)
      · rw [C3.2.1, nI_ltI (by omega) (by omega)] at h31
        omega
      · skip
        skip
        refine PW.zeq rfl ⟨trivial, vp_in_nI (by omega) (by decide)⟩ (fun h40 => ?_) (fun h40 => ?_)
        · skip
          rw [nI_clamp (by omega), e19, show (0 : Int32) = nI 0 from rfl, nI_eq (by omega) (by omega)] at h40
          have ha0 : a ≠ 0 := fun z => by rw [z, T.1] at h40; omega
          refine PW.iret rfl rfl trivial ?_
          refine ⟨a, u, v, p, us, bf, _, rfl, Au.start T D E ha0 h40, ?_, hF3, Q3, h20 (E.2.2.2 ha0).1⟩
          rw [if_pos rfl]; exact hsm
        · skip
          have hp0 : p a ≠ 0 := fun z => h40 (by rw [nI_clamp (by omega), e19, z]; rfl)
          have D1 := D.mark E hp0
          have hv : ∀ j, 1 ≤ j → j ≤ m → -KK ≤ v j ∧ v j ≤ 0 := fun j a b => ⟨T.v_ge hc0 hK (by omega) a b, T.2.2.2.2.2.2.2.2.1 j a b⟩
          have hu : ∀ i, 1 ≤ i → 0 ≤ u i ∧ u i ≤ KK := fun i hi => ⟨T.2.2.2.2.2.2.2.2.2.2.1 i, T.u_le hK (by omega) hi⟩
          have ha0 : on1 us a 0 = true := by
            by_cases q : a = 0
            · rw [q]; exact on1_s us 0
            · exact on1_u (E.2.2.2 q).1
          have hcs : ∀ j, 1 ≤ j → j ≤ m → c (p a) j - u (p a) - v j < BIG := fun j a1 b1 => by
            have := hK (p a) j; have := hv j a1 b1; have := hu (p a) (by omega); omega
          have hF4 : FC [19, 20] [14, 16, 17, 18] M (M3.1, va_up M3.2 14 (vp_updL (M3.2 14) 6 (mk (on1 us a)))) := hF3.pl
          have C4 := C.fc hF4
          have Q4 : Mp rr m u v p (M3.1, va_up M3.2 14 (vp_updL (M3.2 14) 6 (mk (on1 us a)))) := Q3.o
          have hU4 : ((M3.1, va_up M3.2 14 (vp_updL (M3.2 14) 6 (mk (on1 us a)))) : Mem).2 14 6 = mk (on1 us a) := upL_s
          have h184 : ∀ j, ((M3.1, va_up M3.2 14 (vp_updL (M3.2 14) 6 (mk (on1 us a)))) : Mem).2 18 j = M3.2 18 j := fun j => congrFun (upL_o (by decide)) j
          refine PW.callV rfl trivial sX3_61 rfl rfl (by decide) rfl (show PC X l mX3_tightenFrom 1 [.ref 14, .int (nI a)] G0 (M3.1, va_up M3.2 14 (vp_updL (M3.2 14) 6 (M3.2 14 6 ||| (1 : Int64) <<< ((nI a).toInt64 &&& 63)))) (fun v2 M' => v2 = none ∧ FC [20] [18] (M3.1, va_up M3.2 14 (vp_updL (M3.2 14) 6 (mk (on1 us a)))) M' ∧ M'.2 18 0 = ((M3.1, va_up M3.2 14 (vp_updL (M3.2 14) 6 (mk (on1 us a)))) : Mem).2 18 0 ∧ ∀ j, 1 ≤ j → j ≤ m → (on1 us a j = false ∧ (c (p a) j - u (p a) - v j) < sl j → (M'.2 18 j).toInt = (c (p a) j - u (p a) - v j) ∧ M'.1 20 j = nI a) ∧ (¬ (on1 us a j = false ∧ (c (p a) j - u (p a) - v j) < sl j) → M'.2 18 j = ((M3.1, va_up M3.2 14 (vp_updL (M3.2 14) 6 (mk (on1 us a)))) : Mem).2 18 j ∧ M'.1 20 j = ((M3.1, va_up M3.2 14 (vp_updL (M3.2 14) 6 (mk (on1 us a)))) : Mem).1 20 j)) from by rw [hU, mk_on (by omega)]; exact c_tight B C4 Q4 hU4 a han (by omega) (by omega) (sl := sl) (fun j a1 b1 => by rw [h184]; exact h18 j a1 b1) (fun j _ _ => ⟨hc0 _ _, hK _ _⟩) (hu _ (by omega)) hv) (fun v57 M57 hq57 => ?_)
          obtain ⟨rfl, hF5, h5z, h5⟩ := hq57
          obtain ⟨sl2, esl2⟩ : ∃ sl2 : Nat → Int, sl2 = fun j => if on1 us a j = false ∧ c (p a) j - u (p a) - v j < sl j then c (p a) j - u (p a) - v j else sl j := ⟨_, rfl⟩
          obtain ⟨bf2, ebf2⟩ : ∃ bf2 : Nat → Nat, bf2 = fun j => if on1 us a j = false ∧ c (p a) j - u (p a) - v j < sl j then a else bf j := ⟨_, rfl⟩
          have C5 := C4.fc hF5
          have Q5 := Q4.fc hF5
          have g18 : ∀ j, 1 ≤ j → j ≤ m → (M57.2 18 j).toInt = sl2 j := fun j a1 b1 => by
            rw [esl2]; dsimp only
            by_cases q : on1 us a j = false ∧ c (p a) j - u (p a) - v j < sl j
            · rw [if_pos q]; exact ((h5 j a1 b1).1 q).1
            · rw [if_neg q, ((h5 j a1 b1).2 q).1, h184]; exact h18 j a1 b1
          have g20 : ∀ j, 1 ≤ j → j ≤ m → M57.1 20 j = nI (bf2 j) := fun j a1 b1 => by
            rw [ebf2]; dsimp only
            by_cases q : on1 us a j = false ∧ c (p a) j - u (p a) - v j < sl j
            · rw [if_pos q]; exact ((h5 j a1 b1).1 q).2
            · rw [if_neg q, ((h5 j a1 b1).2 q).2]
              by_cases z : us 0 = true
              · exact h20 z j a1 b1
              · exfalso
                have za : a = 0 := Classical.byContradiction (fun y => z (E.2.2.2 y).1)
                have zj := E.2.2.1 za j
                have zs := (hS j a1 b1 zj).2.2 (E.2.2.1 za)
                have := hcs j a1 b1
                exact q ⟨by rw [on1_n (by omega)]; exact zj, by omega⟩
          have g180 : (M57.2 18 0).toInt = BIG := by rw [h5z, h184]; exact h180
          have hU5 : M57.2 14 6 = mk (on1 us a) := by rw [hF5.l 14]; exact hU4
          have D2 : Sd c m u v p (on1 us a) bf2 (fun k => if k = a then s else tm k) (s + 1) := D1.cong (fun j hj => by rw [ebf2]; dsimp only; rw [if_neg (fun z => by rw [hj] at z; exact absurd z.1 (by decide))])
          have hP : ∀ j, 1 ≤ j → j ≤ m → on1 us a j = false → Sp c u v p (on1 us a) bf2 sl2 BIG j := fun j a1 b1 q => by
            have q2 : us j = false := by
              by_cases e : j = a
              · subst e; rw [on1_s] at q; cases q
              · rw [on1_n e] at q; exact q
            refine (hS j a1 b1 q2).look (hcs j a1 b1) ?_ ?_
            · rw [esl2]; dsimp only
              by_cases z : c (p a) j - u (p a) - v j < sl j
              · rw [if_pos z, if_pos ⟨q, z⟩]
              · rw [if_neg z, if_neg (fun y => z y.2)]
            · rw [ebf2]; dsimp only
              by_cases z : c (p a) j - u (p a) - v j < sl j
              · rw [if_pos z, if_pos ⟨q, z⟩]
              · rw [if_neg z, if_neg (fun y => z y.2)]
          have hsb : ∀ j, 1 ≤ j → j ≤ m → on1 us a j = false → 0 ≤ sl2 j ∧ sl2 j ≤ 2 * KK := fun j a1 b1 q => by
            have z := (hP j a1 b1 q).2.1 ⟨0, ha0⟩
            have y := D2.1 _ z.1
            have r1 : 1 ≤ p (bf2 j) := by have := y.2.1; omega
            have r2 := hpr _ y.1
            have := hK (p (bf2 j)) j
            have := hv j a1 b1
            have := hu _ r1
            have := T.2.2.2.2.2.2.1 _ j r1 r2 a1 b1
            omega
          refine PW.callV rfl trivial sX3_64 rfl rfl (by decide) rfl (c_near hm36 C5.2.1 hU5 g18 g180) (fun v61 M61 hq61 => ?_)
          obtain ⟨⟨nx, rfl, hx1, hx2⟩, rfl⟩ := hq61
          have hnx : nx ≠ 0 := fun q => by
            obtain ⟨f, f1, f2, f3⟩ := T.free
            have fu : on1 us a f = false := by
              cases e : on1 us a f with
              | false => rfl
              | true => exact absurd f3 (D1.1 f e).2.1
            have := hx1 q f f1 f2 fu
            have := hsb f f1 f2 fu
            omega
          obtain ⟨nx2, nx3, nx4⟩ := hx2 hnx
          have nx1 : 1 ≤ nx := by omega
          have hbb := hsb nx nx1 nx2 nx3
          refine PW.callV rfl ⟨trivial, vp_in_nI (by omega) (by decide)⟩ sX3_68 rfl rfl (by decide) rfl (show PC X l mX3_movePrices 1 [.ref 14, .long (M61.2 18 (nI nx).toNatClampNeg)] G0 M61 (fun v2 M' => v2 = none ∧ FC [] [16, 17, 18] M61 M' ∧ M'.2 18 0 = M61.2 18 0 ∧ ∃ u2 v3 sl3 : Nat → Int, Mv p (on1 us a) u v sl2 u2 v3 sl3 (M61.2 18 nx).toInt (m + 1) ∧ Mp rr m u2 v3 p M' ∧ ∀ j, 1 ≤ j → j ≤ m → (M'.2 18 j).toInt = sl3 j) from by rw [nI_clamp (by omega)]; exact c_move B C5 Q5 hU5 (M61.2 18 nx) (by rw [g18 nx nx1 nx2]; omega) g18 ha0 (fun j a1 q => by have y := D2.1 j q; have := hpr j a1; have := y.2.1; omega) T.2.2.2.2.1 hu hv (fun j a1 b1 q => by have := hsb j a1 b1 q; omega)) (fun v74 M74 hq74 => ?_)
          obtain ⟨rfl, hF6, h6z, u2, v3, sl3, hV, Q6, h186⟩ := hq74
          rw [g18 nx nx1 nx2] at hV
          obtain ⟨_, T2, D3, E2, S2⟩ := T.move (F := BIG) (by2 := sl2 nx) (u2 := u2) (v2 := v3) (sl2 := sl3) D2 ha0 hP nx1 nx2 nx3 rfl nx4 (fun k q => hV.1 k (by have := (D2.1 k q).1; omega) q) (fun r q => hV.2.1 r (fun k _ z => q k z)) (fun k q1 q2 => by
            rw [hV.2.2.1 k q1]
            by_cases z : on1 us a k = true
            · rw [if_pos z, if_pos ⟨by omega, z⟩]
            · rw [if_neg z, if_neg (fun y => z y.2)]) (fun k q1 q2 q3 => by rw [hV.2.2.2 k, if_pos ⟨by omega, q3⟩])
          refine PW.goto rfl trivial ?_
          rw [nI_1]
          refine PW.nl [4] ?_
          exact ih nx (s + 1) u2 v3 p (on1 us a) bf2 _ sl3 _ T2 D3 E2 S2 (by omega) ((hF4.tr hF5.mono).tr hF6.mono) Q6 (by rw [hF6.l 14]; exact hU5) h186 (by rw [h6z]; exact g180) (fun _ j a1 b1 => by rw [hF6.i 20]; exact g20 j a1 b1) (by omega)
  refine PW.callS rfl ⟨trivial, vp_in_nI (n := 0) (by decide) (by decide)⟩ sX3_38 rfl (by decide) rfl (j_fil18 1152921504606846976) (fun v19 M19 hq19 => ?_)
  obtain ⟨rfl, rfl⟩ := hq19
  refine PW.to 26 rfl trivial ?_
  have T0 : Tr c m (R + 1) u v (fun k => if k = 0 then R + 1 else p k) := hH.tr hc0 (by omega) rfl (fun j a b => if_neg (by omega))
  refine loop26 (m + 2) 0 0 u v (fun k => if k = 0 then R + 1 else p k) (fun _ => false) (fun _ => 0) (fun _ => 0) (fun _ => BIG) _ T0 ⟨fun j q => absurd q (by simp), fun j q => absurd q (by simp)⟩ ⟨by omega, rfl, fun _ _ => rfl, fun q => absurd rfl q⟩ (fun j a b _ => ⟨fun k q => absurd q (by simp), fun ⟨k, q⟩ => absurd q (by simp), fun _ => rfl⟩) (fb_ct_zero.mpr (fun _ _ => rfl)).symm (FC.pl (M2 := (_, _)) (FC.pl (M2 := (_, _)) FC.rf.pi)) ?_ ?_ (fun j a b => ?_) ?_ (fun q => absurd q (by simp)) (by omega)
  · have q1 := Q.pp (a := 0) (b := R + 1)
    exact Mp.o (M := (_, _)) (Mp.o (M := (_, _)) q1)
  · refine Eq.trans (congrFun (upL_o (by decide)) 6) ?_
    refine Eq.trans upL_s mk_0
  · simp only [va_up, if_true]
    rw [if_pos (show j < 37 by omega)]; decide
  · simp only [va_up, if_true]
    rw [if_pos (show 0 < 37 by omega)]; decide
theorem c_solve {c : Nat → Nat → Int} {rr m : Nat} (B : Mb rr m) (C : Mc c rr m M) (hc0 : ∀ i j, 0 ≤ c i j) (hK : ∀ i j, c i j ≤ KK) : PC X l mX3_solve 3 [.ref 14] G0 M (fun v2 M' => v2 = none ∧ FC [19, 20] [14, 16, 17, 18] M M' ∧ ∃ (u v : Nat → Int) (p : Nat → Nat), Hg c m rr u v p ∧ ∀ j, j ≤ m → M'.1 19 j = nI (p j)) := by
  refine PC.ofW okX3_solve ?_
  have hm36 := B.2.1
  have hrm := B.1
  have hrr := B.2.2
  have hKK : KK = 1125899906842624 := rfl
  have hBG : BIG = 1152921504606846976 := rfl
  have loop26 : ∀ k : Nat, ∀ (R : Nat) (u v : Nat → Int) (p : Nat → Nat) (M2 : Mem), R ≤ rr → FC [19, 20] [14, 16, 17, 18] M M2 → Mp rr m u v p M2 → Hg c m R u v p → rr - R < k → PW X l mX3_solve 3 (fun v2 M' => v2 = none ∧ FC [19, 20] [14, 16, 17, 18] M M' ∧ ∃ (u v : Nat → Int) (p : Nat → Nat), Hg c m rr u v p ∧ ∀ j, j ≤ m → M'.1 19 j = nI (p j)) 26 [.ref 14, .int (nI (R + 1))] [] G0 M2 := by
    intro k
    induction k with
    | zero => intro R u v p M2 hR hF Q2 hH hk; exact absurd hk (Nat.not_lt_zero _)
    | succ k ih =>
      intro R u v p M2 hR hF Q2 hH hk
      have C2 := C.fc hF
      refine PW.igt rfl trivial (fun h31 => ?_) (fun h31 => ?_)
      · skip
        rw [C2.1, nI_ltI (by omega) (by omega)] at h31
        have e9 : R = rr := by omega
        subst e9
        refine PW.vret rfl rfl trivial ?_
        exact ⟨rfl, hF, u, v, p, hH, Q2.2.2⟩
      · skip
        rw [C2.1, nI_ltI (by omega) (by omega)] at h31
        have hRr : R < rr := by omega
        refine PW.callV rfl trivial sX3_47 rfl rfl (by decide) rfl (c_place B C2 hc0 hK Q2 hRr hH) (fun v37 M37 hq37 => ?_)
        obtain ⟨e, u2, v3, p2, us, bf, tm, rfl, hA, hte, hF3, Q3, g20⟩ := hq37
        have C3 := C2.fc hF3
        refine PW.callV rfl trivial sX3_51 rfl rfl (by decide) rfl (c_room hm36 C3.2.1 e hA hte Q3.2.2 g20) (fun v40 M40 hq40 => ?_)
        obtain ⟨rfl, hF4, p3, hH3, hp3⟩ := hq40
        refine PW.goto rfl trivial ?_
        rw [nI_1]
        exact ih (R + 1) u2 v3 p3 _ (by omega) ((hF.tr hF3).tr hF4.mono) ⟨fun r a b => by rw [hF4.l 16]; exact Q3.1 r a b, fun j a b => by rw [hF4.l 17]; exact Q3.2.1 j a b, hp3⟩ hH3 (by omega)
  refine PW.callS rfl trivial sX3_38 rfl (by decide) rfl (j_fil16 0) (fun v5 M5 hq5 => ?_)
  obtain ⟨rfl, rfl⟩ := hq5
  refine PW.callS rfl trivial sX3_38 rfl (by decide) rfl (j_fil17 0) (fun v13 M13 hq13 => ?_)
  obtain ⟨rfl, rfl⟩ := hq13
  refine PW.callS rfl trivial sX3_44 rfl (by decide) rfl (j_fill19 0) (fun v21 M21 hq21 => ?_)
  obtain ⟨rfl, rfl⟩ := hq21
  refine PW.to 26 rfl trivial ?_
  refine loop26 (rr + 1) 0 (fun _ => 0) (fun _ => 0) (fun _ => 0) _ (by omega) (FC.pi (M2 := (_, _)) (FC.pl (M2 := (_, _)) FC.rf.pl)) ⟨fun r a b => ?_, fun j a b => ?_, fun j a => ?_⟩ (Hg.start (fun _ => rfl) (fun _ _ _ => rfl) (fun _ _ _ => rfl)) (by omega)
  · simp only [va_up, if_true, show ¬ (16 = 17) from by decide, if_false]
    rw [if_pos (show r < 37 by omega)]; rfl
  · simp only [va_up, if_true]
    rw [if_pos (show j < 37 by omega)]; rfl
  · simp only [va_up, if_true]
    rw [if_pos (show j < 37 by omega)]; rfl
theorem c_sum {c : Nat → Nat → Int} {rr m : Nat} (B : Mb rr m) (C : Mc c rr m M) {p : Nat → Nat} (hp : ∀ j, j ≤ m → M.1 19 j = nI (p j)) (hpr : ∀ j, 1 ≤ j → j ≤ m → p j ≤ rr) : PF X l mX3_sum 0 [.ref 14] G0 M (.long (Int64.ofInt (fb_si (fun j => if p (j + 1) = 0 then 0 else c (p (j + 1)) (j + 1)) m))) := by
  refine PF.ofW okX3_sum ?_
  have hm36 := B.2.1
  have hrm := B.1
  have hrr := B.2.2
  have hKK : KK = 1125899906842624 := rfl
  have hBG : BIG = 1152921504606846976 := rfl
  have loop4 : ∀ k : Nat, ∀ (j : Nat), j ≤ m → m - j < k → PW X l mX3_sum 0 (fun v M' => v = some (.long (Int64.ofInt (fb_si (fun j => if p (j + 1) = 0 then 0 else c (p (j + 1)) (j + 1)) m))) ∧ M' = M) 4 [.ref 14, .long (Int64.ofInt (fb_si (fun j => if p (j + 1) = 0 then 0 else c (p (j + 1)) (j + 1)) j)), .null, .int (nI (j + 1))] [] G0 M := by
    intro k
    induction k with
    | zero => intro j hj hk; exact absurd hk (Nat.not_lt_zero _)
    | succ k ih =>
      intro j hj hk
      refine PW.igt rfl trivial (fun h9 => ?_) (fun h9 => ?_)
      · skip
        rw [C.2.1, nI_ltI (by omega) (by omega)] at h9
        have e9 : j = m := by omega
        subst e9
        refine PW.lret rfl rfl trivial ?_
        exact ⟨rfl, rfl⟩
      · skip
        rw [C.2.1, nI_ltI (by omega) (by omega)] at h9
        have hjm : j < m := by omega
        have e19 := hp (j + 1) (by omega)
        have hpj := hpr (j + 1) (by omega) (by omega)
        refine PW.zne rfl ⟨trivial, vp_in_nI (by omega) (by decide)⟩ (fun h19 => ?_) (fun h19 => ?_)
        · skip
          rw [nI_clamp (by omega), e19, show (0 : Int32) = nI 0 from rfl, nI_eq (by omega) (by omega)] at h19
          have hix := idx_lt (i := p (j + 1) - 1) (j := j) (rr := rr) (m := m) (by omega) hjm
          have ec := C.2.2 (p (j + 1)) (j + 1) (by omega) hpj (by omega) (by omega)
          have ei : (M.1 19 (nI (j + 1)).toNatClampNeg - 1) * M.1 14 8 + nI (j + 1) - 1 = nI ((p (j + 1) - 1) * m + j) := by
            rw [nI_clamp (by omega), e19, C.2.1, nI_m1 (by omega), pk_mul, nI_add, nI_m1 (by omega)]; congr 1
          refine PW.goto rfl ⟨⟨trivial, vp_in_nI (by omega) (by decide)⟩, (by rw [ei]; exact vp_in_nI (by omega) (by decide))⟩ ?_
          rw [ei, nI_clamp (by omega), nI_1]
          refine PW.lc ?_ (ih (j + 1) (by omega) (by omega))
          rw [fb_si_succ, if_neg h19, Int64.ofInt_add, ← ec, Nat.add_sub_cancel, Int64.ofInt_toInt]
        · skip
          rw [nI_clamp (by omega), e19, show (0 : Int32) = nI 0 from rfl, nI_eq (by omega) (by omega)] at h19
          refine PW.goto rfl trivial ?_
          refine PW.goto rfl trivial ?_
          rw [nI_1]
          refine PW.lc ?_ (ih (j + 1) (by omega) (by omega))
          rw [fb_si_succ, if_pos h19, Int.add_zero, Int64.add_zero]
  refine PW.to 4 rfl trivial ?_
  exact loop4 (m + 1) 0 (by omega) (by omega)
theorem c_rowIn {m : Nat} (hm36 : m ≤ 36) (h8 : M.1 14 8 = nI m) {p : Nat → Nat} (hp : ∀ j, j ≤ m → M.1 19 j = nI (p j)) (j : Nat) (hj : j < m) : PF X l mX3_rowIn 0 [.ref 14, .int (nI j)] G0 M (.int (nI (p (j + 1)) - 1)) := by
  refine PF.ofW okX3_rowIn ?_
  refine PW.zlt rfl trivial (fun h1 => ?_) (fun h1 => ?_)
  · exact absurd h1 (nI_pos (by omega))
  · skip
    refine PW.ige rfl trivial (fun h9 => ?_) (fun h9 => ?_)
    · rw [h8, nI_leI (by omega) (by omega)] at h9
      omega
    · skip
      refine PW.goto rfl ⟨trivial, (by rw [nI_1]; exact vp_in_nI (by omega) (by decide))⟩ ?_
      refine PW.iret rfl rfl trivial ?_
      exact ⟨by rw [nI_1, nI_clamp (by omega), hp (j + 1) (by omega)], rfl⟩
end C11
