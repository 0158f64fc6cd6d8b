-- the law from its entry
abbrev G29 : List Shp := [.inr (7, [4, 5, 7, 9, 13, 17, 24, 28]), .inr (1, [0, 0, 1, 1, 1]), .inr (5, [4, 6]), .inl (1, 6), .inr (5, [4, 8]), .inl (1, 6), .inr (0, [10, 11, 12, 0]), .inl (0, 6), .inl (0, 6), .inl (0, 6), .inr (2, [4, 7, 9, 14, 15, 16]), .inl (2, 36), .inl (0, 6), .inl (0, 6), .inr (3, [18, 19, 20, 21, 22, 23, 1, 0, 0]), .inl (1, 324), .inl (1, 37), .inl (1, 37), .inl (1, 37), .inl (0, 37), .inl (0, 37), .inr (6, [4, 17, 25, 26]), .inl (0, 6), .inr (5, [4, 27]), .inl (1, 6), .inr (4, [29, 30, 31]), .inl (0, 18), .inl (0, 24), .inl (0, 6)]
theorem lw_spc {p : Program} {e : Env} {s : State} {m : MethodId} {below : List Frame} {meth : Method} {c : Code} {l : Launch} {b n : Nat} {xs : Nat → Int32} {X : Cx} {mk : Mt} {rk idx a mc' ms' kc ks pc : Nat} {G : List Shp} {M : Mem} {H : Heap} {locs : List Loc} {ls : Array Slot} {rest : List Value} {Qk : Option Value → List Shp → Mem → Prop} (hA : lw_At p s m meth c b n xs) (hK : am_K X s) (hX : X.1 = s.heap.size) (hH : am_H X G M kc s H locs) (hls : ls.size = 4) (hsi : am_siI RL idx mk 0) (hin : mk.1.name = "<init>") (hrt : mk.2.2.2.1 = none) (hrk : rk ≤ 100) (hf : kc + mc' ≤ 600000 ∧ ks + ms' ≤ 7302250) (hcat : Nat.ble (rest.map fun v => v.category).sum 8 = true) (hd : decode code pc = .ok (.invokespecial idx, 3)) (hcal : AC X l mk rk mc' ms' [.ref a] G M Qk)
    (k : ∀ (v : Option Value) (G2 : List Shp) (M2 : Mem) (H1 : Heap) (locs1 : List Loc), Qk v G2 M2 → am_H X G2 M2 (kc + mc') s H1 locs1 → W p l e room_1 s m #[Value.ref b] below meth c H1 locs1 (kc + mc') (ks + ms') (lw_Z below #[Value.ref b] s) (F0 m (pc + 3) ls ((v.toList ++ rest).map (am_v X.1)))) : W p l e room_1 s m #[Value.ref b] below meth c H locs kc ks (lw_Z below #[Value.ref b] s) (F0 m pc ls (.ref (X.1 + a) :: rest.map (am_v X.1))) := by
  obtain ⟨hx, hb, hr, hml, hown, hts0, hXs, hbl, hlocks, hgv⟩ := id hA
  have hts := lw_gt hts0
  have hcat := Nat.le_of_ble_eq_true hcat
  refine AW.sz hH (by omega) (fun hz => ?_)
  obtain ⟨hl, hk, hv⟩ := hsi
  have hp : PreS s H (am_P X [.ref a] G M) [.ref (X.1 + a)] := ⟨am_P.blind X _ G M, fun U hU hW => ⟨by simp [am_v], by rw [hU]; exact hH.1, by rw [hU]; exact hz, hK.warm hW⟩⟩
  have run : va_Run p l e room_1 s m #[Value.ref b] below meth c H locs kc ks mc' ms' (F0 m pc ls (.ref (X.1 + a) :: rest.map (am_v X.1))) (rest.map (am_v X.1)) (am_Q X mc' Qk [Value.ref (X.1 + a)].toArray) (am_A X) := by
    unfold AC at hcal
    have hG := am_good hk
    rw [hrt] at hcal hG
    rcases hl with hl | hl
    · exact va_runI (n := 0) (As := []) (Ts := lw_g) (⟨hx, hb, hml, hown, hts⟩ : CallFix p m c code 4 s #[Value.ref b] lw_g RL) hcal
        ⟨callB_of (bytes := mk.2.1) (maxL := mk.2.2.1) (ret := none) 0 hts hG rfl rfl rfl (hts _ hk.2.1) (hts _ hl) hk.2.2.1 ⟨by simp only [am_R, room_1]; omega, by have := hk.2.2.2; simp only [am_R, room_1]; omega⟩, hin, hts _ hv⟩ hp
        rfl rfl hls rfl (lv_room (by rw [am_sum]; exact hcat)) hd ⟨by simp only [room_1]; omega, by simp only [room_1]; omega⟩
    · exact va_runIN (n := 0) (As := []) (Ts := lw_g) (⟨hx, hb, hml, hown, hts⟩ : CallFix p m c code 4 s #[Value.ref b] lw_g RL) hcal
        ⟨va_cnB (bytes := mk.2.1) (maxL := mk.2.2.1) (ret := none) 0 hts hG rfl rfl rfl (hK.2 _ hl) (hts _ hk.2.1) hk.2.2.1 ⟨by simp only [am_R, room_1]; omega, by have := hk.2.2.2; simp only [am_R, room_1]; omega⟩, hin, hts _ hv⟩ hp
        rfl rfl hls rfl (lv_room (by rw [am_sum]; exact hcat)) hd ⟨by simp only [room_1]; omega, by simp only [room_1]; omega⟩
  exact am_after run hH hz (fun v G2 M2 H1 locs1 hq hH1 => k v G2 M2 H1 locs1 hq hH1)
theorem cm_start {M1 M2 M3 : Mem} (g : Gm 4 4 M1) (n : NZ 2 29 M1 M2) (r : RZ (mz M2 29) M3 36) : CM 4 4 (fun _ => 6) (fun _ => 6) (fun _ => 0) 0 (fun _ => 0) M3 := by
  have k1 : ∀ a, a < 29 → M3.1 a = M2.1 a := fun a ha => by
    rw [(r.1 a ha).1]
    have hne : a ≠ 29 := by omega
    simp [mz, va_up, hne]
  have k2 : ∀ a, a < 29 → M3.2 a = M2.2 a := fun a ha => by
    rw [(r.1 a ha).2]
    have hne : a ≠ 29 := by omega
    simp [mz, va_up, hne]
  have z : ∀ k, k < 6 → (0 : Int64) = mk (fun i => decide ((fun _ => 6) i = k)) := fun k hk => by
    rw [mk_0]
    exact mk_cong (fun i _ => by simp; omega)
  refine ⟨⟨?_, ?_, ?_, ?_, ?_⟩, fun k hk => ?_, fun k hk => ?_, ⟨?_, fun k hk => ?_⟩, fun k hk => ?_⟩
  · rw [k1 1 (by omega), (n.1 1 (by omega)).1]; exact g.1
  · rw [k1 1 (by omega), (n.1 1 (by omega)).1]; exact g.2.1
  · rw [k2 1 (by omega), (n.1 1 (by omega)).2]; exact g.2.2.1
  · rw [k2 1 (by omega), (n.1 1 (by omega)).2]; exact g.2.2.2.1
  · rw [k2 1 (by omega), (n.1 1 (by omega)).2]; exact g.2.2.2.2
  · rw [k2 3 (by omega), (n.2 3 (by omega) (by omega)).2]; exact z k hk
  · rw [k2 5 (by omega), (n.2 5 (by omega) (by omega)).2]; exact z k hk
  · rw [k1 6 (by omega), (n.2 6 (by omega) (by omega)).1]; rfl
  · rw [k1 7 (by omega), (n.2 7 (by omega) (by omega)).1]; rfl
  · rw [k1 26 (by omega), (n.2 26 (by omega) (by omega)).1]; rfl
theorem sm_start {M M3 : Mem} (r : RZ M M3 36) : SM 4 4 (fun _ => 6) (fun _ => 6) (fun _ => 0) 0 (fun _ => 0) M3 :=
  ⟨⟨r.2.1, r.2.2.1, fun c hc => (r.2.2.2.2.1 c hc).1, fun c hc => (r.2.2.2.2.1 c hc).2⟩, ⟨r.2.2.2.1, fun k hk => r.2.2.2.2.2.1 k hk⟩, fun k hk => r.2.2.2.2.2.2 k hk⟩
theorem sf_start : Sf 4 4 (fun _ => 6) (fun _ => 6) (fun _ => 0) 0 (fun _ => 0) := ⟨⟨by decide, by decide, by decide, by decide, fun _ => Nat.le_refl _, fun _ => Nat.le_refl _, fun _ _ => rfl, fun _ _ => rfl⟩, ⟨by decide, fun _ => Nat.zero_le _⟩, fun _ => Nat.zero_le _⟩
set_option maxHeartbeats 4000000 in
set_option maxRecDepth 100000 in
/-- THE LAW, from its entry -/
theorem whole_start {p : Program} {e : Env} {s : State} {m : MethodId} {below : List Frame} {meth : Method} {c : Code} (l : Launch) {b L : Nat} {xs : Nat → Int32} (hL : L ≤ 2560) (C0 : lw_At p s m meth c b L xs) : W p l e room_1 s m #[Value.ref b] below meth c s.heap [] 0 0 (lw_Z below #[Value.ref b] s) (entryFrame m ([Value.ref b] : List Value).toArray 4) := by
  obtain ⟨hx, hb, hr, hml, hown, hts0, hXs, hbl, hlocks, hgv⟩ := id C0
  have hts := lw_gt hts0
  obtain ⟨X, hX, hK⟩ := kn_of hts0
  have hl := lv_entry ([.ref b]) (n := 4) (Nat.le_of_ble_eq_true rfl)
  rw [lg_entry_eq]
  generalize (lg_sl ([.ref b]) ++ List.replicate (4 - (lg_sl ([.ref b])).length) Slot.unset).toArray = ls at hl ⊢
  have hl : lv_has ls 4 [(0, .ref b)] := hl
  have hH0 : am_H X [] ((fun _ _ => 0, fun _ _ => 0) : Mem) 0 s s.heap [] := ⟨fun k q h => by simp [am_w] at h, by simp [hX], va_S.rf⟩
  refine am_newW (C := RX7) (T := TX7) (N := 8) (ci := 7) (cs := [2, 2, 2, 2, 2, 2, 2, 2]) hx hb hown hts hK (Nat.le_of_eq hX) hH0 (lw_mem (i := 65) (by decide +kernel) (by decide +kernel)) inX7 iiX7 rfl tyX7 tyX7_ok rfl dvX7 (Nat.le_of_ble_eq_true rfl) (Nat.le_of_ble_eq_true rfl) d_law_0 (fun H1 hH1 => ?_)
  refine lv_dup hx hb d_law_3 rfl ?_
  refine lw_spc (a := 0) (rest := [.ref 0]) C0 hK hX hH1 hl.1 sL_9 rfl rfl (by decide) ⟨Nat.le_of_ble_eq_true rfl, Nat.le_of_ble_eq_true rfl⟩ rfl d_law_4 kX7_init_0 (fun v G2 M2 H2 locs2 hq hH2 => ?_)
  obtain ⟨rfl, rfl, M1, hG1, hN1⟩ := hq
  have hH2 : am_H X G29 M2 29 s H2 locs2 := hH2
  refine lv_astore_n (lv' := [(1, .ref (X.1 + 0)), (0, .ref b)]) hx hb d_law_7 rfl hl (by decide) rfl (fun ls hl => ?_)
  refine am_newW (G := G29) (C := RX8) (T := TX8) (N := 25) (ci := 8) (cs := [0, 0, 0, 2, 2, 2, 0, 2, 2, 2, 2, 2, 0, 2, 2, 2, 2, 2, 2, 2, 2, 2, 2, 2, 2]) hx hb hown hts hK (Nat.le_of_eq hX) hH2 (lw_mem (i := 734) (by decide +kernel) (by decide +kernel)) inX8 iiX8 rfl tyX8 tyX8_ok rfl dvX8 (Nat.le_of_ble_eq_true rfl) (Nat.le_of_ble_eq_true rfl) d_law_8 (fun H3 hH3 => ?_)
  refine lv_dup hx hb d_law_11 rfl ?_
  refine lw_spc (a := 29) (rest := [.ref 29]) C0 hK hX hH3 hl.1 sL_12 rfl rfl (by decide) ⟨Nat.le_of_ble_eq_true rfl, Nat.le_of_ble_eq_true rfl⟩ rfl d_law_12 (kX8_init (M := mz M2 29) (fun j => by simp [mz, va_up])) (fun v G4 M4 H4 locs4 hq hH4 => ?_)
  obtain ⟨rfl, rfl, hR⟩ := hq
  have hH4 : am_H X G0 M4 50 s H4 locs4 := hH4
  refine lv_astore_n (lv' := [(2, .ref (X.1 + 29)), (1, .ref (X.1 + 0)), (0, .ref b)]) hx hb d_law_15 rfl hl (by decide) rfl (fun ls hl => ?_)
  refine lv_iconst (v := nI 0) hx hb d_law_16 (by decide) ?_
  refine lv_istore_n (lv' := [(3, .int (nI 0)), (2, .ref (X.1 + 29)), (1, .ref (X.1 + 0)), (0, .ref b)]) hx hb d_law_17 rfl hl (by decide) rfl (fun ls hl => ?_)
  exact lw_loop hL (L + 6) 0 (by omega) (by omega) 4 4 _ _ _ 0 _ M4 sf_start (cm_start hG1 hN1 hR) (sm_start hR) p e s m below meth c H4 locs4 ls C0 hK hX hH4 (lv_sub hl [3, 2, 1, 0] rfl)
