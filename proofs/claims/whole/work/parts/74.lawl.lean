-- made by wip/whole/mk_law3.py: the law's loop
theorem lw_loop {X : Cx} {l : Launch} {b n : Nat} {xs : Nat → Int32} (hn : n ≤ 2560) : ∀ (k j : Nat), j ≤ n + 5 → n + 5 < j + k → ∀ (w h : Nat) (mp dr hd : Nat → Nat) (wy : Nat) (vt : Nat → Nat) (M : Mem), Sf w h mp dr hd wy vt → CM w h mp dr hd wy vt M → SM w h mp dr hd wy vt M → LW X l b n xs 18 (nI j) [] M := by
  intro k
  induction k with
  | zero => intro j h1 h2; omega
  | succ k ihk =>
    intro j h1 h2 w h mp dr hd wy vt M F C S
    refine LW.head hn h1 (fun hj => ?_)
    have ih : LwI X l b n xs j := fun w h mp dr hd wy vt M F C S => LW.next (ihk (j + 5) (by omega) (by omega) w h mp dr hd wy vt M F C S)
    refine LW.disp hn hj (fun q hq e => ?_)
    match q, hq with
    | 0, _ => exact LW.tab (tgt := 172) (off := 140) (by decide) rfl (by decide) (lc_0 hn hj ih F C S)
    | 1, _ => exact LW.tab (tgt := 205) (off := 173) (by decide) rfl (by decide) (lc_1 hn hj ih F C S)
    | 2, _ => exact LW.tab (tgt := 264) (off := 232) (by decide) rfl (by decide) (lc_2 hn hj ih F C S)
    | 3, _ => exact LW.tab (tgt := 333) (off := 301) (by decide) rfl (by decide) (lc_3 hn hj ih F C S)
    | 4, _ => exact LW.tab (tgt := 382) (off := 350) (by decide) rfl (by decide) (lc_4 hn hj ih F C S)
    | 5, _ => exact LW.tab (tgt := 395) (off := 363) (by decide) rfl (by decide) (lc_5 hn hj ih F C S)
    | 6, _ => exact LW.tab (tgt := 444) (off := 412) (by decide) rfl (by decide) (lc_6 hn hj ih F C S)
    | 7, _ => exact LW.tab (tgt := 477) (off := 445) (by decide) rfl (by decide) (lc_7 hn hj ih F C S)
    | 8, _ => exact LW.tab (tgt := 500) (off := 468) (by decide) rfl (by decide) (lc_8 hn hj ih F C S)
    | 9, _ => exact LW.tab (tgt := 523) (off := 491) (by decide) rfl (by decide) (lc_9 hn hj ih F C S)
    | 10, _ => exact LW.tab (tgt := 546) (off := 514) (by decide) rfl (by decide) (lc_10 hn hj ih F C S)
    | 11, _ => exact LW.tab (tgt := 605) (off := 573) (by decide) rfl (by decide) (lc_11 hn hj ih F C S)
    | 12, _ => exact LW.tab (tgt := 618) (off := 586) (by decide) rfl (by decide) (lc_12 hn hj ih F C S)
    | 13, _ => exact LW.tab (tgt := 651) (off := 619) (by decide) rfl (by decide) (lc_13 hn hj ih F C S)
    | 14, _ => exact LW.tab (tgt := 664) (off := 632) (by decide) rfl (by decide) (lc_14 hn hj ih F C S)
    | 15, _ => exact LW.tab (tgt := 697) (off := 665) (by decide) rfl (by decide) (lc_15 hn hj ih F C S)
    | 16, _ => exact LW.tab (tgt := 730) (off := 698) (by decide) rfl (by decide) (lc_16 hn hj ih F C S)
    | 17, _ => exact LW.tab (tgt := 743) (off := 711) (by decide) rfl (by decide) (lc_17 hn hj ih F C S)
    | 18, _ => exact LW.tab (tgt := 766) (off := 734) (by decide) rfl (by decide) (lc_18 hn hj ih F C S)
    | 19, _ => exact LW.tab (tgt := 779) (off := 747) (by decide) rfl (by decide) (lc_19 hn hj ih F C S)
    | 20, _ => exact LW.tab (tgt := 792) (off := 760) (by decide) rfl (by decide) (lc_20 hn hj ih F C S)
    | 21, _ => exact LW.tab (tgt := 805) (off := 773) (by decide) rfl (by decide) (lc_21 hn hj ih F C S)
    | 22, _ => exact LW.tab (tgt := 828) (off := 796) (by decide) rfl (by decide) (lc_22 hn hj ih F C S)
    | 23, _ => exact LW.tab (tgt := 841) (off := 809) (by decide) rfl (by decide) (lc_23 hn hj ih F C S)
    | 24, _ => exact LW.tab (tgt := 864) (off := 832) (by decide) rfl (by decide) (lc_24 hn hj ih F C S)
    | 25, _ => exact LW.tab (tgt := 877) (off := 845) (by decide) rfl (by decide) (lc_25 hn hj ih F C S)
    | 26, _ => exact LW.tab (tgt := 920) (off := 888) (by decide) rfl (by decide) (lc_26 hn hj ih F C S)
    | 27, _ => exact LW.tab (tgt := 943) (off := 911) (by decide) rfl (by decide) (lc_27 hn hj ih F C S)
    | 28, _ => exact LW.tab (tgt := 976) (off := 944) (by decide) rfl (by decide) (lc_28 hn hj ih F C S)
    | 29, _ => exact LW.tab (tgt := 999) (off := 967) (by decide) rfl (by decide) (lc_29 hn hj ih F C S)
    | 30, _ => exact LW.tab (tgt := 1022) (off := 990) (by decide) rfl (by decide) (lc_30 hn hj ih F C S)
    | 31, _ => exact LW.tabd (ih w h mp dr hd wy vt M F C S)
    | q + 32, hq => omega
