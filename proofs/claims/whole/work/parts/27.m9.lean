-- made by wip/whole/mk_m9.py
section M9
variable {X : Cx} {l : Launch} {M : Mem}
theorem PW.post {X : Cx} {l : Launch} {mt : Mt} {rk pc : Nat} {Q Q' : Option Value → Mem → Prop} {L S : List Value} {G : List Shp} {M : Mem} (h : ∀ v M2, Q' v M2 → Q v M2) (k : PW X l mt rk Q' pc L S G M) : PW X l mt rk Q pc L S G M := by
  intro hok p e s m args below meth c H locs ls hC hH hL T hT X0
  obtain ⟨t, h1, o, h2, h3, ⟨v, G2, M2, k1, ⟨k2, k3⟩, k4⟩, h5⟩ := k hok p e s m args below meth c H locs ls hC hH hL T hT X0
  exact ⟨t, h1, o, h2, h3, ⟨v, G2, M2, k1, ⟨k2, h v M2 k3⟩, k4⟩, h5⟩
theorem p_field {w h : Nat} {mp dr hd : Nat → Nat} {wy : Nat} {vt : Nat → Nat} (F : Sf w h mp dr hd wy vt) (S : SM w h mp dr hd wy vt M) (a b : Int32) : PC X l mX8_field 2 [.ref 29, .int a, .int b] G0 M (fun v M' => v = some (.int (if (okr 2 6 a && okr 2 6 b) = true then nI (tn a * tn b) else -2)) ∧ (SM (if (okr 2 6 a && okr 2 6 b) = true then tn a else w) (if (okr 2 6 a && okr 2 6 b) = true then tn b else h) (if (okr 2 6 a && okr 2 6 b) = true then (fun _ => 6) else mp) (if (okr 2 6 a && okr 2 6 b) = true then (fun _ => 6) else dr) hd wy vt M' ∧ FM M M')) := by
  refine PC.ofW okX8_field ?_
  have hn := F.1.n
  have S0 := (S.fj (th0 M (A := []))).1
  have loop48 : ∀ k : Nat, ∀ (i x y : Nat) (M2 : Mem), i ≤ 36 → okr 2 6 (nI x) = true → okr 2 6 (nI y) = true → 2 ≤ x → x ≤ 6 → 2 ≤ y → y ≤ 6 → ((M2.1 29 1 = nI x ∧ M2.1 29 2 = nI y) ∧ HM hd wy M2 ∧ ∀ k, k < 18 → M2.1 48 k = nI (vt k)) → FM M M2 → (∀ j, j < i → M2.1 30 j = nI 6 ∧ M2.1 31 j = nI 6) → 36 - i < k → PW X l mX8_field 2 (fun v M' => v = some (.int (nI (x * y))) ∧ (SM x y (fun _ => 6) (fun _ => 6) hd wy vt M' ∧ FM M M')) 48 [.ref 29, .int (nI x), .int (nI y), .int (nI i)] [] G0 M2 := by
    intro k
    induction k with
    | zero => intro i x y M2 hi ha hb hx1 hx2 hy1 hy2 hS hF hz hk; exact absurd hk (Nat.not_lt_zero _)
    | succ k ih =>
      intro i x y M2 hi ha hb hx1 hx2 hy1 hy2 hS hF hz hk
      refine PW.ige rfl trivial (fun h51 => ?_) (fun h51 => ?_)
      · skip
        rw [show (36 : Int32) = nI 36 from rfl, nI_leI (by omega) (by omega)] at h51
        have e : i = 36 := by omega
        subst e
        refine PW.iret rfl rfl trivial ?_
        exact ⟨by rw [pk_mul], ⟨⟨hS.1.1, hS.1.2, fun c hc => (hz c hc).1, fun c hc => (hz c hc).2⟩, hS.2.1, hS.2.2⟩, hF⟩
      · skip
        rw [show (36 : Int32) = nI 36 from rfl, nI_leI (by omega) (by omega)] at h51
        refine PW.goto rfl ⟨⟨trivial, vp_in_nI (by omega) (by decide)⟩, vp_in_nI (by omega) (by decide)⟩ ?_
        rw [nI_clamp (by omega), nI_1]
        refine ih (i + 1) x y _ (by omega) ha hb hx1 hx2 hy1 hy2 ?_ ?_ (fun j hj => ?_) (by omega)
        · exact ⟨hS.1, ⟨hS.2.1.1, fun k hk => hS.2.1.2 k hk⟩, fun k hk => hS.2.2 k hk⟩
        · exact (hF.put (by decide)).put (by decide)
        · by_cases q : j = i
          · subst q; exact ⟨by simp [va_up, upd]; rfl, by simp [va_up, upd]; rfl⟩
          · exact ⟨by simp [va_up, upd, q]; exact (hz j (by omega)).1, by simp [va_up, upd, q]; exact (hz j (by omega)).2⟩
  refine PW.funS rfl trivial sX8_81 rfl (by decide) rfl (m_in _ _ _) ?_
  refine PW.zeq rfl trivial (fun h16 => ?_) (fun h16 => ?_)
  · skip
    rw [show decide ((2 : Int64) ≤ a.toInt64 ∧ a.toInt64 ≤ (6 : Int64)) = okr 2 6 a from in_r a 2 6, bo_eq] at h16
    refine PW.iret rfl rfl trivial ?_
    first | exact ⟨by rw [if_f (by rw [h16]; rfl)], by rw [if_f (by rw [h16]; rfl), if_f (by rw [h16]; rfl), if_f (by rw [h16]; rfl), if_f (by rw [h16]; rfl)]; exact S.fj (th0 M (A := []))⟩ | exact ⟨by rw [if_f (by rw [h30]; exact Bool.and_false _)], by rw [if_f (by rw [h30]; exact Bool.and_false _), if_f (by rw [h30]; exact Bool.and_false _), if_f (by rw [h30]; exact Bool.and_false _), if_f (by rw [h30]; exact Bool.and_false _)]; exact S.fj (th0 M (A := []))⟩
  · skip
    rw [show decide ((2 : Int64) ≤ a.toInt64 ∧ a.toInt64 ≤ (6 : Int64)) = okr 2 6 a from in_r a 2 6, bo_ne] at h16
    obtain ⟨x, hx1, hx2, rfl⟩ := okr_x (a := 2) (b := 6) h16
    refine PW.funS rfl trivial sX8_81 rfl (by decide) rfl (m_in _ _ _) ?_
    refine PW.zne rfl trivial (fun h30 => ?_) (fun h30 => ?_)
    · skip
      rw [show decide ((2 : Int64) ≤ b.toInt64 ∧ b.toInt64 ≤ (6 : Int64)) = okr 2 6 b from in_r b 2 6, bo_ne] at h30
      obtain ⟨y, hy1, hy2, rfl⟩ := okr_x (a := 2) (b := 6) h30
      refine PW.to 48 rfl trivial ?_
      have hb : (okr 2 6 (nI x) && okr 2 6 (nI y)) = true := by rw [h16, h30]; rfl
      refine PW.post (Q' := (fun v M' => v = some (.int (nI (x * y))) ∧ (SM x y (fun _ => 6) (fun _ => 6) hd wy vt M' ∧ FM M M'))) (fun v M2 q => ?_) ?_
      · rw [if_t hb, if_t hb, if_t hb, if_t hb, if_t hb, tn_nI (by omega), tn_nI (by omega)]; exact q
      refine loop48 37 0 x y _ (by omega) h16 h30 hx1 hx2 hy1 hy2 ?_ ?_ (fun j hj => absurd hj (Nat.not_lt_zero j)) (by omega)
      · exact ⟨⟨(up_n (by decide)).trans up_s, up_s⟩, ⟨(up_n (by decide)).trans ((up_n (by decide)).trans S0.2.1.1), fun k hk => S0.2.1.2 k hk⟩, fun k hk => S0.2.2 k hk⟩
      · exact ((th0 M (A := [])).fm.put (by decide)).put (by decide)
    · skip
      rw [show decide ((2 : Int64) ≤ b.toInt64 ∧ b.toInt64 ≤ (6 : Int64)) = okr 2 6 b from in_r b 2 6, bo_eq] at h30
      refine PW.iret rfl rfl trivial ?_
      first | exact ⟨by rw [if_f (by rw [h16]; rfl)], by rw [if_f (by rw [h16]; rfl), if_f (by rw [h16]; rfl), if_f (by rw [h16]; rfl), if_f (by rw [h16]; rfl)]; exact S.fj (th0 M (A := []))⟩ | exact ⟨by rw [if_f (by rw [h30]; exact Bool.and_false _)], by rw [if_f (by rw [h30]; exact Bool.and_false _), if_f (by rw [h30]; exact Bool.and_false _), if_f (by rw [h30]; exact Bool.and_false _), if_f (by rw [h30]; exact Bool.and_false _)]; exact S.fj (th0 M (A := []))⟩
theorem p_changed {w h : Nat} {mp dr hd : Nat → Nat} {wy : Nat} {vt : Nat → Nat} (F : Sf w h mp dr hd wy vt) (S : SM w h mp dr hd wy vt M)  : PC X l mX8_changed 1 [.ref 29] G0 M (fun v M' => v = some (.int (nI (fb_ct (fun c => !decide (mp c = 6) && !decide (mp c = dr c)) (w * h)))) ∧ (SM w h mp dr hd wy vt M' ∧ FM M M')) := by
  refine PC.ofW okX8_changed ?_
  have hn := F.1.n
  have S0 := (S.fj (th0 M (A := []))).1
  have loop9 : ∀ k : Nat, ∀ (c : Nat), c ≤ w * h → w * h - c < k → PW X l mX8_changed 1 (fun v M' => v = some (.int (nI (fb_ct (fun c => !decide (mp c = 6) && !decide (mp c = dr c)) (w * h)))) ∧ (SM w h mp dr hd wy vt M' ∧ FM M M')) 9 [.ref 29, .int (nI (fb_ct (fun c => !decide (mp c = 6) && !decide (mp c = dr c)) c)), .int (nI c)] [] G0 (va_up M.1 29 (upd (M.1 29) 0 0), M.2) := by
    intro k
    induction k with
    | zero => intro c hc hk; exact absurd hk (Nat.not_lt_zero _)
    | succ k ih =>
      intro c hc hk
      have hm6 := F.1.2.2.2.2.1 c
      have hd6 := F.1.2.2.2.2.2.1 c
      refine PW.ige rfl trivial (fun h19 => ?_) (fun h19 => ?_)
      · skip
        rw [S0.1.wh, nI_leI (by omega) (by omega)] at h19
        have e : c = w * h := by omega
        subst e
        refine PW.iret rfl rfl trivial ?_
        exact ⟨rfl, S.fj (th0 M (A := []))⟩
      · skip
        rw [S0.1.wh, nI_leI (by omega) (by omega)] at h19
        have ec := S0.1.2.2.1 c (by omega)
        have ed := S0.1.2.2.2 c (by omega)
        refine PW.ieq rfl ⟨trivial, vp_in_nI (by omega) (by decide)⟩ (fun h31 => ?_) (fun h31 => ?_)
        · skip
          rw [nI_clamp (by omega), ec, show (6 : Int32) = nI 6 from rfl, nI_eq (by omega) (by omega)] at h31
          have hp : (!decide (mp c = 6) && !decide (mp c = dr c)) = false := by simp [h31]
          refine PW.goto rfl trivial ?_
          rw [nI_1, Int32.add_zero]
          refine PW.lc ?_ (ih (c + 1) (by omega) (by omega))
          rw [fb_ct_succ, hp]; rfl
        · skip
          rw [nI_clamp (by omega), ec, show (6 : Int32) = nI 6 from rfl, nI_eq (by omega) (by omega)] at h31
          refine PW.ieq rfl ⟨⟨trivial, vp_in_nI (by omega) (by decide)⟩, vp_in_nI (by omega) (by decide)⟩ (fun h46 => ?_) (fun h46 => ?_)
          · skip
            rw [nI_clamp (by omega), ec, ed, nI_eq (by omega) (by omega)] at h46
            have hp : (!decide (mp c = 6) && !decide (mp c = dr c)) = false := by simp [h46]
            refine PW.goto rfl trivial ?_
            rw [nI_1, Int32.add_zero]
            refine PW.lc ?_ (ih (c + 1) (by omega) (by omega))
            rw [fb_ct_succ, hp]; rfl
          · skip
            rw [nI_clamp (by omega), ec, ed, nI_eq (by omega) (by omega)] at h46
            have hp : (!decide (mp c = 6) && !decide (mp c = dr c)) = true := by simp [h31, h46]
            refine PW.goto rfl trivial ?_
            refine PW.goto rfl trivial ?_
            rw [nI_1, nI_1]
            refine PW.lc ?_ (ih (c + 1) (by omega) (by omega))
            rw [fb_ct_succ, hp]; rfl
  refine PW.to 9 rfl trivial ?_
  exact loop9 (w * h + 1) 0 (Nat.zero_le _) (by omega)
theorem trd {w h : Nat} {mp dr : Nat → Nat} (F : Wf w h mp dr) : (fun x => if x < w * h then mp x else dr x) = mp := by
  funext x
  by_cases q : x < w * h
  · rw [if_pos q]
  · rw [if_neg q, F.2.2.2.2.2.2.1 x (by omega), F.2.2.2.2.2.2.2 x (by omega)]
theorem trc {w h : Nat} {mp dr hd : Nat → Nat} {wy : Nat} {vt : Nat → Nat} {M : Mem} {c : Nat} (S : SM w h mp (fun x => if x < c then mp x else dr x) hd wy vt M) : SM w h mp (fun x => if x < c + 1 then mp x else dr x) hd wy vt (va_up M.1 31 (upd (M.1 31) c (nI (mp c))), M.2) := by
  have := sm_dr S c (mp c)
  rw [show set1 (fun x => if x < c then mp x else dr x) c (mp c) = (fun x => if x < c + 1 then mp x else dr x) from funext fun x => by
    rw [set1_eq]
    by_cases q : x = c
    · subst q; simp
    · rw [if_neg q]
      by_cases z : x < c
      · rw [if_pos z, if_pos (by omega)]
      · rw [if_neg z, if_neg (by omega)]] at this
  exact this
theorem p_trace {w h : Nat} {mp dr hd : Nat → Nat} {wy : Nat} {vt : Nat → Nat} (F : Sf w h mp dr hd wy vt) (S : SM w h mp dr hd wy vt M)  : PC X l mX8_trace 1 [.ref 29] G0 M (fun v M' => v = some (.int (nI (fb_ct (fun c => !decide (mp c = dr c)) (w * h)))) ∧ (SM w h mp mp hd wy vt M' ∧ FM M M')) := by
  refine PC.ofW okX8_trace ?_
  have hn := F.1.n
  have S0 := (S.fj (th0 M (A := []))).1
  have loop9 : ∀ k : Nat, ∀ (c : Nat) (M2 : Mem), c ≤ w * h → SM w h mp (fun x => if x < c then mp x else dr x) hd wy vt M2 → FM M M2 → w * h - c < k → PW X l mX8_trace 1 (fun v M' => v = some (.int (nI (fb_ct (fun c => !decide (mp c = dr c)) (w * h)))) ∧ (SM w h mp mp hd wy vt M' ∧ FM M M')) 9 [.ref 29, .int (nI (fb_ct (fun c => !decide (mp c = dr c)) c)), .int (nI c)] [] G0 M2 := by
    intro k
    induction k with
    | zero => intro c M2 hc S2 hF hk; exact absurd hk (Nat.not_lt_zero _)
    | succ k ih =>
      intro c M2 hc S2 hF hk
      have hm6 := F.1.2.2.2.2.1 c
      have hd6 := F.1.2.2.2.2.2.1 c
      refine PW.ige rfl trivial (fun h19 => ?_) (fun h19 => ?_)
      · skip
        rw [S2.1.wh, nI_leI (by omega) (by omega)] at h19
        have e : c = w * h := by omega
        subst e
        refine PW.iret rfl rfl trivial ?_
        refine ⟨rfl, ?_, hF⟩
        rw [trd F.1] at S2
        exact S2
      · skip
        rw [S2.1.wh, nI_leI (by omega) (by omega)] at h19
        have ec := S2.1.2.2.1 c (by omega)
        have ed := S2.1.2.2.2 c (by omega)
        dsimp only at ed
        rw [if_neg (by omega)] at ed
        refine PW.ine rfl ⟨⟨trivial, vp_in_nI (by omega) (by decide)⟩, vp_in_nI (by omega) (by decide)⟩ (fun h35 => ?_) (fun h35 => ?_)
        · skip
          rw [nI_clamp (by omega), ec, ed, nI_eq (by omega) (by omega)] at h35
          have hp : (!decide (mp c = dr c)) = true := by simp [h35]
          refine PW.goto rfl ⟨⟨trivial, vp_in_nI (by omega) (by decide)⟩, vp_in_nI (by omega) (by decide)⟩ ?_
          rw [nI_clamp (by omega), ec, nI_1, nI_1]
          refine PW.lc ?_ (ih (c + 1) _ (by omega) (trc S2) (hF.put (by decide)) (by omega))
          rw [fb_ct_succ, hp]; rfl
        · skip
          rw [nI_clamp (by omega), ec, ed, nI_eq (by omega) (by omega)] at h35
          have hp : (!decide (mp c = dr c)) = false := by simp [h35]
          refine PW.goto rfl trivial ?_
          refine PW.goto rfl ⟨⟨trivial, vp_in_nI (by omega) (by decide)⟩, vp_in_nI (by omega) (by decide)⟩ ?_
          rw [nI_clamp (by omega), ec, nI_1, Int32.add_zero]
          refine PW.lc ?_ (ih (c + 1) _ (by omega) (trc S2) (hF.put (by decide)) (by omega))
          rw [fb_ct_succ, hp]; rfl
  refine PW.to 9 rfl trivial ?_
  exact loop9 (w * h + 1) 0 (va_up M.1 29 (upd (M.1 29) 0 0), M.2) (Nat.zero_le _) S0 (th0 M (A := [])).fm (by omega)
end M9
