/-! a switch; the reference's stores -/
section Tb
variable {X : Cx} {l : Launch} {mt : Mt} {R : Room} {mc ms : Nat} {Q : Option Value → List Shp → Mem → Prop} {kc ks pc : Nat} {L S : List Value} {G : List Shp} {M : Mem}
theorem AW.tabIn {p1 len ci k9 : Nat} {dflt lo hi : Int} {offs : Array Int} {v : Int32} {w : Int64} {T' : List It} {C : Prop} {L' S' : List Value} {M' : Mem} {x : Int32} (h : am_r G (am_t mt.2.2.2.2 pc) True L S M = some (C, (p1, .tableswitch dflt lo hi offs, len, ci, k9, v, w) :: T', L', .int x :: S', M')) (hC : C) (tgt : Nat) {off : Int} (h1 : ¬ x.toInt < lo) (h2 : ¬ hi < x.toInt) (ho : offs[(x.toInt - lo).toNat]? = some off) (ht : (p1 : Int) + off = (tgt : Int)) (k : AW X l mt R mc ms Q kc ks tgt L' S' G M') : AW X l mt R mc ms Q kc ks pc L S G M := by
  refine AW.run h hC (fun hq => AW.ok fun hok => ?_)
  have hd := am_dec_at hok.1 hq
  exact AW.plain (fun p e s m args below meth c H locs ls Z hC hP hL kk => lv_tableIn hC.1 hC.2.1 hd h1 h2 ho ht kk) k
theorem AW.tabOut {p1 len ci k9 : Nat} {dflt lo hi : Int} {offs : Array Int} {v : Int32} {w : Int64} {T' : List It} {C : Prop} {L' S' : List Value} {M' : Mem} {x : Int32} (h : am_r G (am_t mt.2.2.2.2 pc) True L S M = some (C, (p1, .tableswitch dflt lo hi offs, len, ci, k9, v, w) :: T', L', .int x :: S', M')) (hC : C) (tgt : Nat) (h1 : x.toInt < lo ∨ hi < x.toInt) (ht : (p1 : Int) + dflt = (tgt : Int)) (k : AW X l mt R mc ms Q kc ks tgt L' S' G M') : AW X l mt R mc ms Q kc ks pc L S G M := by
  refine AW.run h hC (fun hq => AW.ok fun hok => ?_)
  have hd := am_dec_at hok.1 hq
  exact AW.plain (fun p e s m args below meth c H locs ls Z hC hP hL kk => lv_tableOut hC.1 hC.2.1 hd h1 ht kk) k
variable {rk : Nat} {Q2 : Option Value → Mem → Prop}
theorem PW.tabIn {p1 len ci k9 : Nat} {dflt lo hi : Int} {offs : Array Int} {v : Int32} {w : Int64} {T' : List It} {C : Prop} {L' S' : List Value} {M' : Mem} {x : Int32} (h : am_r G (am_t mt.2.2.2.2 pc) True L S M = some (C, (p1, .tableswitch dflt lo hi offs, len, ci, k9, v, w) :: T', L', .int x :: S', M')) (hC : C) (tgt : Nat) {off : Int} (h1 : ¬ x.toInt < lo) (h2 : ¬ hi < x.toInt) (ho : offs[(x.toInt - lo).toNat]? = some off) (ht : (p1 : Int) + off = (tgt : Int)) (k : PW X l mt rk Q2 tgt L' S' G M') : PW X l mt rk Q2 pc L S G M := AW.tabIn h hC tgt h1 h2 ho ht k
theorem PW.tabOut {p1 len ci k9 : Nat} {dflt lo hi : Int} {offs : Array Int} {v : Int32} {w : Int64} {T' : List It} {C : Prop} {L' S' : List Value} {M' : Mem} {x : Int32} (h : am_r G (am_t mt.2.2.2.2 pc) True L S M = some (C, (p1, .tableswitch dflt lo hi offs, len, ci, k9, v, w) :: T', L', .int x :: S', M')) (hC : C) (tgt : Nat) (h1 : x.toInt < lo ∨ hi < x.toInt) (ht : (p1 : Int) + dflt = (tgt : Int)) (k : PW X l mt rk Q2 tgt L' S' G M') : PW X l mt rk Q2 pc L S G M := AW.tabOut h hC tgt h1 ht k
end Tb
section Sx6
variable {w h : Nat} {mp dr hd : Nat → Nat} {wy : Nat} {vt : Nat → Nat} {M : Mem}
theorem FM.put {M M2 : Mem} {a : Nat} {f : Nat → Int32} (H : FM M M2) (ha : 29 ≤ a) : FM M (va_up M2.1 a f, M2.2) := ⟨fun b hb => by
  have : b ≠ a := by omega
  simp [va_up, this]; exact H.1 b hb, H.2⟩
theorem sm_hd (S : SM w h mp dr hd wy vt M) (k n : Nat) : SM w h mp dr (set1 hd k n) wy vt (va_up M.1 32 (upd (M.1 32) k (nI n)), M.2) := by
  refine ⟨⟨S.1.1, S.1.2.1, S.1.2.2.1, S.1.2.2.2⟩, ⟨S.2.1.1, fun x hx => ?_⟩, fun x hx => S.2.2 x hx⟩
  rw [set1_eq]
  by_cases q : x = k
  · rw [if_pos q, q]; exact up_s
  · rw [if_neg q]; exact (up_n q).trans (S.2.1.2 x hx)
theorem sm_vt (S : SM w h mp dr hd wy vt M) (k n : Nat) : SM w h mp dr hd wy (set1 vt k n) (va_up M.1 48 (upd (M.1 48) k (nI n)), M.2) := by
  refine ⟨⟨S.1.1, S.1.2.1, S.1.2.2.1, S.1.2.2.2⟩, ⟨S.2.1.1, fun x hx => S.2.1.2 x hx⟩, fun x hx => ?_⟩
  rw [set1_eq]
  by_cases q : x = k
  · rw [if_pos q, q]; exact up_s
  · rw [if_neg q]; exact (up_n q).trans (S.2.2 x hx)
theorem sm_mp (S : SM w h mp dr hd wy vt M) (k n : Nat) : SM w h (set1 mp k n) dr hd wy vt (va_up M.1 30 (upd (M.1 30) k (nI n)), M.2) := by
  refine ⟨⟨S.1.1, S.1.2.1, fun x hx => ?_, S.1.2.2.2⟩, ⟨S.2.1.1, fun x hx => S.2.1.2 x hx⟩, fun x hx => S.2.2 x hx⟩
  rw [set1_eq]
  by_cases q : x = k
  · rw [if_pos q, q]; exact up_s
  · rw [if_neg q]; exact (up_n q).trans (S.1.2.2.1 x hx)
theorem sm_dr (S : SM w h mp dr hd wy vt M) (k n : Nat) : SM w h mp (set1 dr k n) hd wy vt (va_up M.1 31 (upd (M.1 31) k (nI n)), M.2) := by
  refine ⟨⟨S.1.1, S.1.2.1, S.1.2.2.1, fun x hx => ?_⟩, ⟨S.2.1.1, fun x hx => S.2.1.2 x hx⟩, fun x hx => S.2.2 x hx⟩
  rw [set1_eq]
  by_cases q : x = k
  · rw [if_pos q, q]; exact up_s
  · rw [if_neg q]; exact (up_n q).trans (S.1.2.2.2 x hx)
theorem sm_wy (S : SM w h mp dr hd wy vt M) (v : Nat) : SM w h mp dr hd v vt (va_up M.1 29 (upd (M.1 29) 6 (nI v)), M.2) :=
  ⟨⟨(up_n (by decide)).trans S.1.1, (up_n (by decide)).trans S.1.2.1, S.1.2.2.1, S.1.2.2.2⟩, ⟨up_s, fun x hx => S.2.1.2 x hx⟩, fun x hx => S.2.2 x hx⟩
end Sx6
/-- passes, at most k -/
noncomputable def stl (w n : Nat) (du : Nat → Nat) : Nat → (Nat → Nat) → Nat × (Nat → Nat)
  | 0, dr => (0, dr)
  | k + 1, dr => match cst (hnd w n dr) (hasless n dr du) (hasmore n dr du) with
    | none => (0, dr)
    | some s => ((stl w n du k (pas w n (chn (hnd w n dr) (hasless n dr du) s) (dn (hnd w n dr) (hasless n dr du) 7 s - 1) dr).2).1 + 1, (stl w n du k (pas w n (chn (hnd w n dr) (hasless n dr du) s) (dn (hnd w n dr) (hasless n dr du) 7 s - 1) dr).2).2)
def inbox (w c e k : Nat) : Bool := decide (c % w ≤ k % w ∧ k % w ≤ e % w) && decide (c / w ≤ k / w ∧ k / w ≤ e / w)
/-- a box given to l, as far as the cell t -/
def boxd (w c e l : Nat) (f : Nat → Nat) (t : Nat) : Nat → Nat := fun k => if (decide (k < t) && inbox w c e k) = true then l else f k
