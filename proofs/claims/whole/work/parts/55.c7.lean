-- made by wip/whole/mk_c7.py
section C7
variable {X : Cx} {l : Launch} {M : Mem}
theorem r_link {w h : Nat} {mp dr hd : Nat → Nat} {wy : Nat} {vt : Nat → Nat} (F : Sf w h mp dr hd wy vt) (C : CM w h mp dr hd wy vt M) (x : Int32) : PC X l mX7_link 6 [.ref 0, .int x] G0 M (fun v M' => v = some (.int ((match (cst (hnd w (w * h) dr) (hasless (w * h) dr (due hd wy (w * h - many mp 6 (w * h)))) (hasmore (w * h) dr (due hd wy (w * h - many mp 6 (w * h))))) with | none => -9 | some s => if okc (dn (hnd w (w * h) dr) (hasless (w * h) dr (due hd wy (w * h - many mp 6 (w * h)))) 7 s) x = true then nI (chn (hnd w (w * h) dr) (hasless (w * h) dr (due hd wy (w * h - many mp 6 (w * h)))) s (tn x)) else -9))) ∧ (CM w h mp dr hd wy vt M' ∧ FN M M')) := by
  refine PC.ofW okX7_link ?_
  have hn := F.1.n
  obtain ⟨du, edu⟩ : ∃ du, du = due hd wy (w * h - many mp 6 (w * h)) := ⟨_, rfl⟩
  have hdu : ∀ j, j < 6 → du j < 2 ^ 30 := fun j hj => by rw [edu]; exact due_lt F.2.1 (by omega) hj
  have hdu7 : ∀ j, j < 6 → du j ≤ 37 := fun j hj => by rw [edu]; have := due_le (hd := hd) (wy := wy) (n := w * h - many mp 6 (w * h)) hj; omega
  rw [← edu]
  refine PW.callV rfl trivial sX7_148 rfl rfl (by decide) rfl (c_share F C) (fun v1 M1 hq1 => ?_)
  obtain ⟨rfl, hF1, hz1⟩ := hq1
  have C1 := C.fc hF1
  rw [← edu] at hz1
  refine PW.callV rfl trivial sX7_177 rfl rfl (by decide) rfl (c_chain F C1 hdu hz1) (fun v8 M8 hq8 => ?_)
  obtain ⟨rfl, hF2, hl2⟩ := hq8
  have C2 := C1.fc hF2
  refine PW.zlt rfl trivial (fun h13 => ?_) (fun h13 => ?_)
  · skip
    rw [fa_lt] at h13
    have hno : ∀ n, okc n x = false := fun n => by
      unfold okc; exact decide_eq_false (fun q => by have : (0 : Int32).toInt = 0 := by decide
                                                     omega)
    have hend : (match cst (hnd w (w * h) dr) (hasless (w * h) dr du) (hasmore (w * h) dr du) with | none => -9 | some s => if okc (dn (hnd w (w * h) dr) (hasless (w * h) dr du) 7 s) x = true then nI (chn (hnd w (w * h) dr) (hasless (w * h) dr du) s (tn x)) else -9) = (-9 : Int32) := by
      cases cst (hnd w (w * h) dr) (hasless (w * h) dr du) (hasmore (w * h) dr du) with
      | none => rfl
      | some s => simp [hno]
    refine PW.goto rfl trivial ?_
    refine PW.iret rfl rfl trivial ?_
    first | exact ⟨by rw [hend], C2, hF1.fn.tr hF2.fn⟩ | exact ⟨by rw [nI_clamp (by omega), hch k hk]; simp only [hs]; rw [hok, tk]; rfl, C2, hF1.fn.tr hF2.fn⟩
  · skip
    rw [fa_lt] at h13
    have z0 : (0 : Int32).toInt = 0 := by decide
    refine PW.ilt rfl trivial (fun h18 => ?_) (fun h18 => ?_)
    · skip
      obtain ⟨s, hs⟩ : ∃ s, cst (hnd w (w * h) dr) (hasless (w * h) dr du) (hasmore (w * h) dr du) = some s := by
        cases e : cst (hnd w (w * h) dr) (hasless (w * h) dr du) (hasmore (w * h) dr du) with
        | none =>
          rw [e] at h18
          dsimp only at h18
          rw [fa_lt, z0] at h18
          omega
        | some s => exact ⟨s, rfl⟩
      have hcs := cst_ism (hnd w (w * h) dr) (hasless (w * h) dr du) (hasmore (w * h) dr du)
      rw [hs] at hcs h18
      have hs6 := hcs.2.1
      have hsd : dn (hnd w (w * h) dr) (hasless (w * h) dr du) 7 s ≤ 6 := by have := hcs.2.2.1; simp at this; exact this.2
      have hch := hl2 s hs
      dsimp only at h18
      rw [fa_lt, nI_t (by omega)] at h18
      have hok : okc (dn (hnd w (w * h) dr) (hasless (w * h) dr du) 7 s) x = true := by unfold okc; exact decide_eq_true (by omega)
      obtain ⟨k, hk, rfl⟩ := okc_x hok
      have tk : tn (nI k) = k := tn_nI (by omega)
      refine PW.iret rfl rfl ⟨trivial, vp_in_nI (by omega) (by decide)⟩ ?_
      first | exact ⟨by rw [hend], C2, hF1.fn.tr hF2.fn⟩ | exact ⟨by rw [nI_clamp (by omega), hch k hk]; simp only [hs]; rw [hok, tk]; rfl, C2, hF1.fn.tr hF2.fn⟩
    · skip
      have hend : (match cst (hnd w (w * h) dr) (hasless (w * h) dr du) (hasmore (w * h) dr du) with | none => -9 | some s => if okc (dn (hnd w (w * h) dr) (hasless (w * h) dr du) 7 s) x = true then nI (chn (hnd w (w * h) dr) (hasless (w * h) dr du) s (tn x)) else -9) = (-9 : Int32) := by
        cases e : cst (hnd w (w * h) dr) (hasless (w * h) dr du) (hasmore (w * h) dr du) with
        | none => rfl
        | some s =>
          rw [e] at h18
          have hcs := cst_ism (hnd w (w * h) dr) (hasless (w * h) dr du) (hasmore (w * h) dr du)
          rw [e] at hcs
          have hsd : dn (hnd w (w * h) dr) (hasless (w * h) dr du) 7 s ≤ 6 := by have := hcs.2.2.1; simp at this; exact this.2
          dsimp only at h18
          rw [fa_lt, nI_t (by omega)] at h18
          have : okc (dn (hnd w (w * h) dr) (hasless (w * h) dr du) 7 s) x = false := by unfold okc; exact decide_eq_false (fun q => by omega)
          simp [this]
      refine PW.goto rfl trivial ?_
      refine PW.iret rfl rfl trivial ?_
      first | exact ⟨by rw [hend], C2, hF1.fn.tr hF2.fn⟩ | exact ⟨by rw [nI_clamp (by omega), hch k hk]; simp only [hs]; rw [hok, tk]; rfl, C2, hF1.fn.tr hF2.fn⟩
theorem r_settle {w h : Nat} {mp dr hd : Nat → Nat} {wy : Nat} {vt : Nat → Nat} (F : Sf w h mp dr hd wy vt) (C : CM w h mp dr hd wy vt M) : PC X l mX7_settle 6 [.ref 0] G0 M (fun v M' => v = some (.int (nI (stl w (w * h) (due hd wy (w * h - many mp 6 (w * h))) 40 dr).1)) ∧ (CM w h mp (stl w (w * h) (due hd wy (w * h - many mp 6 (w * h))) 40 dr).2 hd wy vt M' ∧ FN M M')) := by
  refine PC.ofW okX7_settle ?_
  have hn := F.1.n
  obtain ⟨du, edu⟩ : ∃ du, du = due hd wy (w * h - many mp 6 (w * h)) := ⟨_, rfl⟩
  have hdu : ∀ j, j < 6 → du j < 2 ^ 30 := fun j hj => by rw [edu]; exact due_lt F.2.1 (by omega) hj
  have hdu7 : ∀ j, j < 6 → du j ≤ 37 := fun j hj => by rw [edu]; have := due_le (hd := hd) (wy := wy) (n := w * h - many mp 6 (w * h)) hj; omega
  rw [← edu]
  obtain ⟨tot, et⟩ : ∃ tot, tot = stl w (w * h) du 40 dr := ⟨_, rfl⟩
  rw [← et]
  have loop6 : ∀ k : Nat, ∀ (p : Nat) (d2 : Nat → Nat) (M2 : Mem), p ≤ 40 → Wf w h mp d2 → CM w h mp d2 hd wy vt M2 → (∀ j, j < 6 → M2.1 8 j = nI (du j)) → FN M M2 → p + (stl w (w * h) du (40 - p) d2).1 = tot.1 → (stl w (w * h) du (40 - p) d2).2 = tot.2 → 40 - p < k → PW X l mX7_settle 6 (fun v M' => v = some (.int (nI tot.1)) ∧ (CM w h mp tot.2 hd wy vt M' ∧ FN M M')) 6 [.ref 0, .int (nI p), .null] [] G0 M2 := by
    intro k
    induction k with
    | zero => intro p d2 M2 hp Hw2 C1 hz1 hN ht1 ht2 hk; exact absurd hk (Nat.not_lt_zero _)
    | succ k ih =>
      intro p d2 M2 hp Hw2 C1 hz1 hN ht1 ht2 hk
      have F2 : Sf w h mp d2 hd wy vt := ⟨Hw2, F.2⟩
      refine PW.ige rfl trivial (fun h9 => ?_) (fun h9 => ?_)
      · skip
        rw [show (40 : Int32) = nI 40 from rfl, nI_leI (by omega) (by omega)] at h9
        have e9 : p = 40 := by omega
        subst e9
        have hend : 40 = tot.1 ∧ d2 = tot.2 := ⟨ht1, ht2⟩
        have C2 := C1
        have hN2 := hN
        refine PW.iret rfl rfl trivial ?_
        obtain ⟨e1, e2⟩ := hend
        exact ⟨by rw [← e1]; first | rfl | skip, by rw [← e2]; exact C2, hN2⟩
      · skip
        rw [show (40 : Int32) = nI 40 from rfl, nI_leI (by omega) (by omega)] at h9
        obtain ⟨q, eq⟩ : ∃ q, 40 - p = q + 1 := ⟨39 - p, by omega⟩
        rw [eq] at ht1 ht2
        refine PW.callV rfl trivial sX7_177 rfl rfl (by decide) rfl (c_chain F2 C1 hdu hz1) (fun v16 M16 hq16 => ?_)
        obtain ⟨rfl, hF2, hl2⟩ := hq16
        have C2 := C1.fc hF2
        have hN2 := hN.tr hF2.fn
        refine PW.zne rfl trivial (fun h21 => ?_) (fun h21 => ?_)
        · skip
          obtain ⟨s, hs⟩ : ∃ s, cst (hnd w (w * h) d2) (hasless (w * h) d2 du) (hasmore (w * h) d2 du) = some s := by
            cases e : cst (hnd w (w * h) d2) (hasless (w * h) d2 du) (hasmore (w * h) d2 du) with
            | none => rw [e] at h21; exact absurd rfl h21
            | some s => exact ⟨s, rfl⟩
          have hcs := cst_ism (hnd w (w * h) d2) (hasless (w * h) d2 du) (hasmore (w * h) d2 du)
          rw [hs] at hcs
          have hs6 := hcs.2.1
          have hsd : dn (hnd w (w * h) d2) (hasless (w * h) d2 du) 7 s ≤ 6 := by have := hcs.2.2.1; simp at this; exact this.2
          have hpos := dn_pos (h := hnd w (w * h) d2) (T := hasless (w * h) d2 du) (F := 7) (a := s) (by decide)
          have hch := hl2 s hs
          simp only [stl, hs] at ht1 ht2
          refine PW.callV rfl trivial sX7_183 rfl rfl (by decide) rfl (show PC X l mX2_passAlong 5 [.ref 10, .int (match cst (hnd w (w * h) d2) (hasless (w * h) d2 du) (hasmore (w * h) d2 du) with | none => 0 | some s => nI (dn (hnd w (w * h) d2) (hasless (w * h) d2 du) 7 s))] G0 M16 (fun v M3 => v = some (.int (nI (pas w (w * h) (chn (hnd w (w * h) d2) (hasless (w * h) d2 du) s) (dn (hnd w (w * h) d2) (hasless (w * h) d2 du) 7 s - 1) d2).1)) ∧ FC [] [5] M16 M3 ∧ Sh 5 (pas w (w * h) (chn (hnd w (w * h) d2) (hasless (w * h) d2 du) s) (dn (hnd w (w * h) d2) (hasless (w * h) d2 du) 7 s - 1) d2).2 M3) from by
            have q := c_pass (X := X) (l := l) F2 C2 (dn (hnd w (w * h) d2) (hasless (w * h) d2 du) 7 s - 1) (chn (hnd w (w * h) d2) (hasless (w * h) d2 du) s) (by omega) (fun i hi => (chn_ok hs6 hsd i (by omega)).1) (fun i hi => chn_ne hs6 hsd (by omega)) (fun i hi => hch i (by omega))
            rw [show dn (hnd w (w * h) d2) (hasless (w * h) d2 du) 7 s - 1 + 1 = dn (hnd w (w * h) d2) (hasless (w * h) d2 du) 7 s by omega] at q
            rw [hs]; exact q) (fun v31 M31 hq31 => ?_)
          obtain ⟨rfl, hF3, hS3⟩ := hq31
          refine PW.goto rfl trivial ?_
          rw [nI_1]
          refine PW.nl [2] ?_
          refine ih (p + 1) _ _ (by omega) (pas_wf2 Hw2 (fun i hi => (chn_ok hs6 hsd i (by omega)).1)) (C2.dr hF3 hS3) (fun j hj => by rw [hF3.i 8, hF2.i 8]; exact hz1 j hj) (hN2.tr hF3.fn) ?_ ?_ (by omega)
          · rw [show 40 - (p + 1) = q by omega]; omega
          · rw [show 40 - (p + 1) = q by omega]; exact ht2
        · skip
          have hs : cst (hnd w (w * h) d2) (hasless (w * h) d2 du) (hasmore (w * h) d2 du) = none := by
            cases e : cst (hnd w (w * h) d2) (hasless (w * h) d2 du) (hasmore (w * h) d2 du) with
            | none => rfl
            | some s =>
              rw [e] at h21
              have hcs := cst_ism (hnd w (w * h) d2) (hasless (w * h) d2 du) (hasmore (w * h) d2 du)
              rw [e] at hcs
              have hsd : dn (hnd w (w * h) d2) (hasless (w * h) d2 du) 7 s ≤ 6 := by have := hcs.2.2.1; simp at this; exact this.2
              have hpos := dn_pos (h := hnd w (w * h) d2) (T := hasless (w * h) d2 du) (F := 7) (a := s) (by decide)
              exact absurd h21 (nI_ne0 hpos (by omega))
          have hend : p = tot.1 ∧ d2 = tot.2 := by simp only [stl, hs] at ht1 ht2; exact ⟨by simpa using ht1, ht2⟩
          refine PW.iret rfl rfl trivial ?_
          obtain ⟨e1, e2⟩ := hend
          exact ⟨by rw [← e1]; first | rfl | skip, by rw [← e2]; exact C2, hN2⟩
  refine PW.callV rfl trivial sX7_148 rfl rfl (by decide) rfl (c_share F C) (fun v1 M1 hq1 => ?_)
  obtain ⟨rfl, hF1, hz1⟩ := hq1
  have C1 := C.fc hF1
  rw [← edu] at hz1
  refine PW.to 6 rfl trivial ?_
  exact loop6 41 0 dr M1 (by omega) F.1 C1 hz1 hF1.fn (by rw [et, Nat.zero_add]) (by rw [et]) (by omega)
end C7
