/-! the state keeps its bounds -/
section Kp
variable {w h : Nat} {mp dr hd : Nat → Nat} {wy : Nat} {vt : Nat → Nat} {M M2 : Mem}
theorem Wf.sw (H : Wf w h mp dr) : Wf w h dr mp := ⟨H.1, H.2.1, H.2.2.1, H.2.2.2.1, H.2.2.2.2.2.1, H.2.2.2.2.1, H.2.2.2.2.2.2.2, H.2.2.2.2.2.2.1⟩
theorem Wf.mm (H : Wf w h mp dr) : Wf w h mp mp := ⟨H.1, H.2.1, H.2.2.1, H.2.2.2.1, H.2.2.2.2.1, H.2.2.2.2.1, H.2.2.2.2.2.2.1, H.2.2.2.2.2.2.1⟩
theorem SM.fn (S : SM w h mp dr hd wy vt M) (N : FN M M2) : SM w h mp dr hd wy vt M2 := by
  refine ⟨⟨?_, ?_, fun c hc => ?_, fun c hc => ?_⟩, ⟨?_, fun c hc => ?_⟩, fun c hc => ?_⟩
  · rw [N 29 (by omega)]; exact S.1.1
  · rw [N 29 (by omega)]; exact S.1.2.1
  · rw [N 30 (by omega)]; exact S.1.2.2.1 c hc
  · rw [N 31 (by omega)]; exact S.1.2.2.2 c hc
  · rw [N 29 (by omega)]; exact S.2.1.1
  · rw [N 32 (by omega)]; exact S.2.1.2 c hc
  · rw [N 48 (by omega)]; exact S.2.2 c hc
theorem CM.fm (C : CM w h mp dr hd wy vt M) (N : FM M M2) : CM w h mp dr hd wy vt M2 := by
  obtain ⟨N1, N2⟩ := N
  refine ⟨⟨?_, ?_, ?_, ?_, ?_⟩, fun k hk => ?_, fun k hk => ?_, ⟨?_, fun k hk => ?_⟩, fun k hk => ?_⟩
  · rw [N1 1 (by omega)]; exact C.1.1
  · rw [N1 1 (by omega)]; exact C.1.2.1
  · rw [N2]; exact C.1.2.2.1
  · rw [N2]; exact C.1.2.2.2.1
  · rw [N2]; exact C.1.2.2.2.2
  · rw [N2]; exact C.2.1 k hk
  · rw [N2]; exact C.2.2.1 k hk
  · rw [N1 6 (by omega)]; exact C.2.2.2.1.1
  · rw [N1 7 (by omega)]; exact C.2.2.2.1.2 k hk
  · rw [N1 26 (by omega)]; exact C.2.2.2.2 k hk
theorem wf_box (H : Wf w h mp dr) {c e l : Nat} (hl : l ≤ 6) : Wf w h mp (boxd w c e l dr (w * h)) := by
  refine ⟨H.1, H.2.1, H.2.2.1, H.2.2.2.1, H.2.2.2.2.1, fun x => ?_, H.2.2.2.2.2.2.1, fun x hx => ?_⟩
  · unfold boxd
    split
    · exact hl
    · exact H.2.2.2.2.2.1 x
  · unfold boxd
    rw [if_neg (by simp; omega)]
    exact H.2.2.2.2.2.2.2 x hx
theorem wf_pas (H : Wf w h mp dr) {du : Nat → Nat} {s : Nat} (hs : cst (hnd w (w * h) dr) (hasless (w * h) dr du) (hasmore (w * h) dr du) = some s) : Wf w h mp (pas w (w * h) (chn (hnd w (w * h) dr) (hasless (w * h) dr du) s) (dn (hnd w (w * h) dr) (hasless (w * h) dr du) 7 s - 1) dr).2 := by
  have hcs := cst_ism (hnd w (w * h) dr) (hasless (w * h) dr du) (hasmore (w * h) dr du)
  rw [hs] at hcs
  have hs6 := hcs.2.1
  have hsd : dn (hnd w (w * h) dr) (hasless (w * h) dr du) 7 s ≤ 6 := by have := hcs.2.2.1; simp at this; exact this.2
  have hpos := dn_pos (h := hnd w (w * h) dr) (T := hasless (w * h) dr du) (F := 7) (a := s) (by decide)
  exact pas_wf2 H (fun i hi => (chn_ok hs6 hsd i (by omega)).1)
theorem wf_stl {du : Nat → Nat} : ∀ (k : Nat) {dr : Nat → Nat}, Wf w h mp dr → Wf w h mp (stl w (w * h) du k dr).2
  | 0, _, H => H
  | k + 1, dr, H => by
    simp only [stl]
    split
    · exact H
    · rename_i s e
      exact wf_stl k (wf_pas H e)
theorem sf_field (F : Sf w h mp dr hd wy vt) (a b : Int32) : Sf (if (okr 2 6 a && okr 2 6 b) = true then tn a else w) (if (okr 2 6 a && okr 2 6 b) = true then tn b else h) (if (okr 2 6 a && okr 2 6 b) = true then (fun _ => 6) else mp) (if (okr 2 6 a && okr 2 6 b) = true then (fun _ => 6) else dr) hd wy vt := by
  by_cases q : (okr 2 6 a && okr 2 6 b) = true
  · simp only [if_pos q]
    simp only [Bool.and_eq_true] at q
    have h1 := okr_t (a := 2) (b := 6) q.1
    have h2 := okr_t (a := 2) (b := 6) q.2
    exact ⟨⟨h1.1, h1.2.1, h2.1, h2.2.1, fun _ => Nat.le_refl _, fun _ => Nat.le_refl _, fun _ _ => rfl, fun _ _ => rfl⟩, F.2⟩
  · simp only [if_neg q]; exact F
theorem sf_give (F : Sf w h mp dr hd wy vt) (on c lv : Int32) : Sf w h (if (okc (w * h) c && okl 6 lv) = true ∧ on = 0 then set1 mp (tn c) (tn lv) else mp) (if (okc (w * h) c && okl 6 lv) = true ∧ ¬ on = 0 then set1 dr (tn c) (tn lv) else dr) hd wy vt := by
  refine ⟨?_, F.2⟩
  by_cases q : (okc (w * h) c && okl 6 lv) = true
  · have q0 := q
    simp only [Bool.and_eq_true] at q
    have h1 := okc_t q.1
    have h2 := okl_t (m := 6) q.2
    by_cases r : on = 0
    · rw [if_pos ⟨q0, r⟩, if_neg (fun x => x.2 r)]; exact (wf_set1 F.1.sw h1.1 h2.1).sw
    · rw [if_neg (fun x => r x.2), if_pos ⟨q0, r⟩]; exact wf_set1 F.1 h1.1 h2.1
  · rw [if_neg (fun x => q x.1), if_neg (fun x => q x.1)]; exact F.1
theorem sf_box (F : Sf w h mp dr hd wy vt) (on c e lv : Int32) : Sf w h (if (okc (w * h) c && okc (w * h) e && okl 6 lv) = true ∧ ¬ (tn e % w < tn c % w ∨ tn e / w < tn c / w) ∧ on = 0 then boxd w (tn c) (tn e) (tn lv) mp (w * h) else mp) (if (okc (w * h) c && okc (w * h) e && okl 6 lv) = true ∧ ¬ (tn e % w < tn c % w ∨ tn e / w < tn c / w) ∧ ¬ on = 0 then boxd w (tn c) (tn e) (tn lv) dr (w * h) else dr) hd wy vt := by
  refine ⟨?_, F.2⟩
  by_cases q : (okc (w * h) c && okc (w * h) e && okl 6 lv) = true
  · have q1 : okl 6 lv = true := (Bool.and_eq_true _ _ ▸ q).2
    have h2 := okl_t (m := 6) q1
    by_cases z : (tn e % w < tn c % w ∨ tn e / w < tn c / w)
    · rw [if_neg (fun x => x.2.1 z), if_neg (fun x => x.2.1 z)]; exact F.1
    · by_cases r : on = 0
      · rw [if_pos ⟨q, z, r⟩, if_neg (fun x => x.2.2 r)]; exact (wf_box F.1.sw h2.1).sw
      · rw [if_neg (fun x => r x.2.2), if_pos ⟨q, z, r⟩]; exact wf_box F.1 h2.1
  · rw [if_neg (fun x => q x.1), if_neg (fun x => q x.1)]; exact F.1
theorem sf_trace (F : Sf w h mp dr hd wy vt) : Sf w h mp mp hd wy vt := ⟨F.1.mm, F.2⟩
theorem set1_le {f : Nat → Nat} {m c l : Nat} (h : ∀ k, f k ≤ m) (hl : l ≤ m) : ∀ k, set1 f c l k ≤ m := fun k => by
  rw [set1_eq]
  split
  · exact hl
  · exact h k
theorem sf_heads (F : Sf w h mp dr hd wy vt) (lv n : Int32) : Sf w h mp dr (if (okl 5 lv && okl 999 n) = true then set1 hd (tn lv) (tn n) else hd) wy vt := by
  refine ⟨F.1, ⟨F.2.1.1, ?_⟩, F.2.2⟩
  split
  · rename_i q
    simp only [Bool.and_eq_true] at q
    exact set1_le F.2.1.2 (okl_t (m := 999) q.2).1
  · exact F.2.1.2
theorem sf_way (F : Sf w h mp dr hd wy vt) (x : Int32) : Sf w h mp dr hd (if okl 2 x = true then tn x else wy) vt := by
  refine ⟨F.1, ⟨?_, F.2.1.2⟩, F.2.2⟩
  split
  · rename_i q; exact (okl_t (m := 2) q).1
  · exact F.2.1.1
theorem sf_votes (F : Sf w h mp dr hd wy vt) (lv sd n : Int32) : Sf w h mp dr hd wy (if (okl 5 lv && okl 2 sd && okl 999 n) = true then set1 vt (3 * tn lv + tn sd) (tn n) else vt) := by
  refine ⟨F.1, F.2.1, ?_⟩
  split
  · rename_i q
    simp only [Bool.and_eq_true] at q
    exact set1_le F.2.2 (okl_t (m := 999) q.2).1
  · exact F.2.2
theorem sf_hand (F : Sf w h mp dr hd wy vt) (c lv : Int32) : Sf w h mp (if (okc (w * h) c && okl 5 lv && mayh w (w * h) dr (tn c) (tn lv)) = true then set1 dr (tn c) (tn lv) else dr) hd wy vt := by
  refine ⟨?_, F.2⟩
  split
  · rename_i q
    simp only [Bool.and_eq_true] at q
    exact wf_set1 F.1 (okc_t q.1.1).1 (by have := (okl_t (m := 5) q.1.2).1; omega)
  · exact F.1
theorem sf_mend (F : Sf w h mp dr hd wy vt) : Sf w h mp (mnd w (w * h) mp dr (due hd wy (w * h - many mp 6 (w * h)))) hd wy vt := by
  refine ⟨?_, F.2⟩
  unfold mnd
  split
  · exact F.1
  · rename_i i e
    have := mst_lt e
    exact wf_set1 F.1 (by omega) (by omega)
theorem sf_pass (F : Sf w h mp dr hd wy vt) : Sf w h mp (match (cst (hnd w (w * h) dr) (hasless (w * h) dr (due hd wy (w * h - many mp 6 (w * h)))) (hasmore (w * h) dr (due hd wy (w * h - many mp 6 (w * h))))) with | none => dr | some s => (pas w (w * h) (chn (hnd w (w * h) dr) (hasless (w * h) dr (due hd wy (w * h - many mp 6 (w * h)))) s) (dn (hnd w (w * h) dr) (hasless (w * h) dr (due hd wy (w * h - many mp 6 (w * h)))) 7 s - 1) dr).2) hd wy vt := by
  refine ⟨?_, F.2⟩
  split
  · exact F.1
  · rename_i s e
    exact wf_pas F.1 e
theorem sf_settle (F : Sf w h mp dr hd wy vt) : Sf w h mp (stl w (w * h) (due hd wy (w * h - many mp 6 (w * h))) 40 dr).2 hd wy vt := ⟨wf_stl 40 F.1, F.2⟩
end Kp
