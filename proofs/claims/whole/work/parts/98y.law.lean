/-! the law's loop: every call answers as the model's does -/
section LAW
variable {L0 : Nat} {xs0 : Nat → Int32} {h : AH} {Q : Int32 → AH → Prop}
theorem lx_of {K : Int32 → Prop} {a j : Nat} (z : ZZ L0 xs0 h) (hj : a + j < L0) (hL : L0 ≤ 3072) (H : K (xs0 (a + j))) : lX h (nI a + nI j) K := by
  rw [nI_add]
  refine ⟨L0, xs0, z.1, vp_in_nI hj (by omega), ?_⟩
  rw [nI_clamp (by omega)]
  exact H
theorem lx_0 {K : Int32 → Prop} {a : Nat} (z : ZZ L0 xs0 h) (hj : a < L0) (hL : L0 ≤ 3072) (H : K (xs0 a)) : lX h (nI a) K := by
  refine ⟨L0, xs0, z.1, vp_in_nI hj (by omega), ?_⟩
  rw [nI_clamp (by omega)]
  exact H
theorem Inv.bnd {n : Nat} (I : Inv h n) : h.1 ≤ 131 + 20 * n ∧ h.2.1 ≤ 110000 + 100 * n + 131072 := by
  obtain ⟨S, u, l, ⟨rd, fa, li, qu, N, X, c1, c2, c3, c4, c5, c6, c7, c8, c9, c10, c11, c12, c13, c14⟩, M, W⟩ := I
  obtain ⟨sr, ss, sl, ex, re, ga, dr, rt, bg, ie, ff, fl, fq, d1, d2, d3, d4, d5, d6, d7, d8, d9, d10, d11, d12, d13, d14, d15, d16, d17, d18, d19, d20, d21⟩ := c9
  refine ⟨c13, ?_⟩
  rcases d19 with e | ⟨j, hj, e⟩
  · omega
  · have := pow8_le hj
    omega
set_option maxRecDepth 100000 in
set_option maxHeartbeats 4000000 in
theorem law_L (hL : L0 ≤ 3072) (HQ : ∀ h n, n ≤ 1536 → Inv h n → Q 1 h) : ∀ (m i : Nat) (h : AH), i + m = 512 → Inv h (3 * i) → ZZ L0 xs0 h → L_L_law_18 Q 1 102 (m + 1) (nI (6 * i)) h := by
  intro m
  induction m with
  | zero =>
    intro i h hi I z
    refine ⟨L0, xs0, z.1, fun _ => HQ h _ (by omega) I, fun c => absurd ?_ c⟩
    show nI L0 - nI 6 < nI (6 * i)
    rw [tl, pk_sub_toInt (by omega) (by omega), nI_toInt (by omega)]
    omega
  | succ m ih =>
    intro i h hi I z
    refine ⟨L0, xs0, z.1, fun _ => HQ h _ (by omega) I, fun c => ?_⟩
    have c2 : ¬ (nI L0 - nI 6 < nI (6 * i)) := c
    rw [tl, pk_sub_toInt (by omega) (by omega), nI_toInt (by omega)] at c2
    have l6 : 6 * i + 6 ≤ L0 := by omega
    have nxt : ∀ h1 n, n ≤ 3 * i + 3 → Inv h1 n → ZZ L0 xs0 h1 → L_L_law_18 Q 1 102 (m + 1) (nI (6 * i) + 6) h1 := fun h1 n hn I1 z1 => by
      rw [show (6 : Int32) = nI 6 from rfl, nI_add]
      exact ih (i + 1) h1 (by omega) (I1.mono (by omega)) z1
    refine lx_0 z (by omega) hL ⟨?_, ?_, ?_, ?_, ?_, ?_, ?_, ?_, ?_, ?_, ?_, ?_, ?_, ?_, ?_, ?_, ?_, ?_, ?_, ?_, ?_, ?_, ?_, ?_, ?_, ?_, ?_, ?_, ?_, ?_, ?_, ?_, ?_, ?_, ?_, ?_, ?_, ?_, ?_, ?_, ?_, ?_, ?_, ?_, ?_⟩
    · intro _
      refine lx_of (j := 1) z (by omega) hL (lx_of (j := 2) z (by omega) hL (⟨z.2.2.1, z_f_X11_row (fun x1 h1 z1 H1 => ?_) z (op_row I)⟩))
      exact lx_of (j := 1) z1 (by omega) hL (lx_of (j := 2) z1 (by omega) hL (⟨z1.2.2.2, z_f_X12_row (fun x2 h2 z2 E => by exact ⟨fun _ => nxt _ _ (by omega) E.2 z2, fun c => absurd E.1 c⟩) z1 H1⟩))
    · intro _
      refine lx_of (j := 1) z (by omega) hL (lx_of (j := 2) z (by omega) hL (lx_of (j := 3) z (by omega) hL (⟨z.2.2.1, z_f_X11_lay (fun x1 h1 z1 H1 => ?_) z (op_lay I)⟩)))
      exact lx_of (j := 1) z1 (by omega) hL (lx_of (j := 2) z1 (by omega) hL (lx_of (j := 3) z1 (by omega) hL (⟨z1.2.2.2, z_f_X12_lay (fun x2 h2 z2 E => by exact ⟨fun _ => nxt _ _ (by omega) E.2 z2, fun c => absurd E.1 c⟩) z1 H1⟩)))
    · intro _
      refine lx_of (j := 1) z (by omega) hL (lx_of (j := 2) z (by omega) hL (⟨z.2.2.1, z_f_X11_at (fun x1 h1 z1 H1 => ?_) z (op_at I)⟩))
      exact lx_of (j := 1) z1 (by omega) hL (lx_of (j := 2) z1 (by omega) hL (⟨z1.2.2.2, z_f_X12_at (fun x2 h2 z2 E => by exact ⟨fun _ => nxt _ _ (by omega) E.2 z2, fun c => absurd E.1 c⟩) z1 H1⟩))
    · intro _
      refine lx_of (j := 1) z (by omega) hL (⟨z.2.2.1, z_f_X11_tear (fun x1 h1 z1 H1 => ?_) z (op_tear I)⟩)
      exact lx_of (j := 1) z1 (by omega) hL (⟨z1.2.2.2, z_f_X12_tear (fun x2 h2 z2 E => by exact ⟨fun _ => nxt _ _ (by omega) E.2 z2, fun c => absurd E.1 c⟩) z1 H1⟩)
    · intro _
      refine lx_of (j := 1) z (by omega) hL (lx_of (j := 2) z (by omega) hL (lx_of (j := 3) z (by omega) hL (lx_of (j := 4) z (by omega) hL (lx_of (j := 5) z (by omega) hL (⟨z.2.2.1, z_f_X11_copy (fun x1 h1 z1 H1 => ?_) z (op_copy I)⟩)))))
      exact lx_of (j := 1) z1 (by omega) hL (lx_of (j := 2) z1 (by omega) hL (lx_of (j := 3) z1 (by omega) hL (lx_of (j := 4) z1 (by omega) hL (lx_of (j := 5) z1 (by omega) hL (⟨z1.2.2.2, z_f_X12_copy (fun x2 h2 z2 E => by exact ⟨fun _ => nxt _ _ (by omega) E.2 z2, fun c => absurd E.1 c⟩) z1 H1⟩)))))
    · intro _
      refine lx_of (j := 1) z (by omega) hL (⟨z.2.2.1, z_f_X11_mean (fun x1 h1 z1 H1 => ?_) z (op_mean I)⟩)
      exact lx_of (j := 1) z1 (by omega) hL (⟨z1.2.2.2, z_f_X12_mean (fun x2 h2 z2 E => by exact ⟨fun _ => nxt _ _ (by omega) E.2 z2, fun c => absurd E.1 c⟩) z1 H1⟩)
    · intro _
      refine lx_of (j := 1) z (by omega) hL (lx_of (j := 2) z (by omega) hL (⟨z.2.2.1, z_f_X11_text (fun x1 h1 z1 H1 => ?_) z (op_text I)⟩))
      exact lx_of (j := 1) z1 (by omega) hL (lx_of (j := 2) z1 (by omega) hL (⟨z1.2.2.2, z_f_X12_text (fun x2 h2 z2 E => by exact ⟨fun _ => nxt _ _ (by omega) E.2 z2, fun c => absurd E.1 c⟩) z1 H1⟩))
    · intro _
      refine lx_of (j := 1) z (by omega) hL (lx_of (j := 2) z (by omega) hL (lx_of (j := 3) z (by omega) hL (⟨z.2.2.1, z_f_X11_put (fun x1 h1 z1 H1 => ?_) z (op_put I)⟩)))
      exact lx_of (j := 1) z1 (by omega) hL (lx_of (j := 2) z1 (by omega) hL (lx_of (j := 3) z1 (by omega) hL (⟨z1.2.2.2, z_f_X12_put (fun x2 h2 z2 E => by exact ⟨fun _ => nxt _ _ (by omega) E.2 z2, fun c => absurd E.1 c⟩) z1 H1⟩)))
    · intro _
      refine lx_of (j := 1) z (by omega) hL (⟨z.2.2.1, z_f_X11_fault (fun x1 h1 z1 H1 => ?_) z (op_fault I)⟩)
      exact lx_of (j := 1) z1 (by omega) hL (⟨z1.2.2.2, z_f_X12_fault (fun x2 h2 z2 E => by exact ⟨fun _ => nxt _ _ (by omega) E.2 z2, fun c => absurd E.1 c⟩) z1 H1⟩)
    · intro _
      refine lx_of (j := 1) z (by omega) hL (⟨z.2.2.1, z_f_X11_road (fun x1 h1 z1 H1 => ?_) z (op_road I)⟩)
      exact lx_of (j := 1) z1 (by omega) hL (⟨z1.2.2.2, z_f_X12_road (fun x2 h2 z2 E => by exact ⟨fun _ => nxt _ _ (by omega) E.2 z2, fun c => absurd E.1 c⟩) z1 H1⟩)
    · intro _
      refine lx_of (j := 1) z (by omega) hL (lx_of (j := 2) z (by omega) hL (⟨z.2.2.1, z_f_X11_stone (fun x1 h1 z1 H1 => ?_) z (op_stone I)⟩))
      exact lx_of (j := 1) z1 (by omega) hL (lx_of (j := 2) z1 (by omega) hL (⟨z1.2.2.2, z_f_X12_stone (fun x2 h2 z2 E => by exact ⟨fun _ => nxt _ _ (by omega) E.2 z2, fun c => absurd E.1 c⟩) z1 H1⟩))
    · intro _
      refine lx_of (j := 1) z (by omega) hL (lx_of (j := 2) z (by omega) hL (⟨z.2.2.1, z_f_X11_walker (fun x1 h1 z1 H1 => ?_) z (op_walker I)⟩))
      exact lx_of (j := 1) z1 (by omega) hL (lx_of (j := 2) z1 (by omega) hL (⟨z1.2.2.2, z_f_X12_walker (fun x2 h2 z2 E => by exact ⟨fun _ => nxt _ _ (by omega) E.2 z2, fun c => absurd E.1 c⟩) z1 H1⟩))
    · intro _
      refine lx_of (j := 1) z (by omega) hL (lx_of (j := 2) z (by omega) hL (⟨z.2.2.1, z_f_X11_mark (fun x1 h1 z1 H1 => ?_) z (op_mark I)⟩))
      exact lx_of (j := 1) z1 (by omega) hL (lx_of (j := 2) z1 (by omega) hL (⟨z1.2.2.2, z_f_X12_mark (fun x2 h2 z2 E => by exact ⟨fun _ => nxt _ _ (by omega) E.2 z2, fun c => absurd E.1 c⟩) z1 H1⟩))
    · intro _
      refine lx_of (j := 1) z (by omega) hL (⟨z.2.2.1, z_f_X11_law (fun x1 h1 z1 H1 => ?_) z (op_law I)⟩)
      exact lx_of (j := 1) z1 (by omega) hL (⟨z1.2.2.2, z_f_X12_law (fun x2 h2 z2 E => by exact ⟨fun _ => nxt _ _ (by omega) E.2 z2, fun c => absurd E.1 c⟩) z1 H1⟩)
    · intro _
      refine lx_of (j := 1) z (by omega) hL (⟨z.2.2.1, z_f_X11_walk (fun x1 h1 z1 H1 => ?_) z (op_walk I)⟩)
      exact lx_of (j := 1) z1 (by omega) hL (⟨z1.2.2.2, z_f_X12_walk (fun x2 h2 z2 E => by exact ⟨fun _ => nxt _ _ (by omega) E.2 z2, fun c => absurd E.1 c⟩) z1 H1⟩)
    · intro _
      refine lx_of (j := 1) z (by omega) hL (⟨z.2.2.1, z_f_X11_pays (fun x1 h1 z1 H1 => ?_) z (op_pays I)⟩)
      exact lx_of (j := 1) z1 (by omega) hL (⟨z1.2.2.2, z_f_X12_pays (fun x2 h2 z2 E => by exact ⟨fun _ => nxt _ _ (by omega) E.2 z2, fun c => absurd E.1 c⟩) z1 H1⟩)
    · intro _
      refine lx_of (j := 1) z (by omega) hL (⟨z.2.2.1, z_f_X11_undo (fun x1 h1 z1 H1 => ?_) z (op_undo I)⟩)
      exact lx_of (j := 1) z1 (by omega) hL (⟨z1.2.2.2, z_f_X12_undo (fun x2 h2 z2 E => by exact ⟨fun _ => nxt _ _ (by omega) E.2 z2, fun c => absurd E.1 c⟩) z1 H1⟩)
    · intro _
      refine lx_of (j := 1) z (by omega) hL (⟨z.2.2.1, z_f_X11_walks (fun x1 h1 z1 H1 => ?_) z (op_walks I)⟩)
      exact lx_of (j := 1) z1 (by omega) hL (⟨z1.2.2.2, z_f_X12_walks (fun x2 h2 z2 E => by exact ⟨fun _ => nxt _ _ (by omega) E.2 z2, fun c => absurd E.1 c⟩) z1 H1⟩)
    · intro _
      refine lx_of (j := 1) z (by omega) hL (⟨z.2.2.1, z_f_X11_where (fun x1 h1 z1 H1 => ?_) z (op_where I)⟩)
      exact lx_of (j := 1) z1 (by omega) hL (⟨z1.2.2.2, z_f_X12_where (fun x2 h2 z2 E => by exact ⟨fun _ => nxt _ _ (by omega) E.2 z2, fun c => absurd E.1 c⟩) z1 H1⟩)
    · intro _
      refine ⟨z.2.2.1, z_f_X11_apart (fun x1 h1 z1 H1 => ?_) z (op_apart I)⟩
      exact ⟨z1.2.2.2, z_f_X12_apart (fun x2 h2 z2 E => by exact ⟨fun _ => nxt _ _ (by omega) E.2 z2, fun c => absurd E.1 c⟩) z1 H1⟩
    · intro _
      refine lx_of (j := 1) z (by omega) hL (⟨z.2.2.1, z_f_X11_keep (fun x1 h1 z1 H1 => ?_) z (op_keep I)⟩)
      exact lx_of (j := 1) z1 (by omega) hL (⟨z1.2.2.2, z_f_X12_keep (fun x2 h2 z2 E => by exact ⟨fun _ => nxt _ _ (by omega) E.2 z2, fun c => absurd E.1 c⟩) z1 H1⟩)
    · intro _
      refine lx_of (j := 1) z (by omega) hL (⟨z.2.2.1, z_f_X11_on (fun x1 h1 z1 H1 => ?_) z (op_on I)⟩)
      exact lx_of (j := 1) z1 (by omega) hL (⟨z1.2.2.2, z_f_X12_on (fun x2 h2 z2 E => by exact ⟨fun _ => nxt _ _ (by omega) E.2 z2, fun c => absurd E.1 c⟩) z1 H1⟩)
    · intro _
      refine lx_of (j := 1) z (by omega) hL (⟨z.2.2.1, z_f_X11_sees (fun x1 h1 z1 H1 => ?_) z (op_sees I)⟩)
      exact lx_of (j := 1) z1 (by omega) hL (⟨z1.2.2.2, z_f_X12_sees (fun x2 h2 z2 E => by exact ⟨fun _ => nxt _ _ (by omega) E.2 z2, fun c => absurd E.1 c⟩) z1 H1⟩)
    · intro _
      refine lx_of (j := 1) z (by omega) hL (⟨z.2.2.1, z_f_X11_may (fun x1 h1 z1 H1 => ?_) z (op_may I)⟩)
      exact lx_of (j := 1) z1 (by omega) hL (⟨z1.2.2.2, z_f_X12_may (fun x2 h2 z2 E => by exact ⟨fun _ => nxt _ _ (by omega) E.2 z2, fun c => absurd E.1 c⟩) z1 H1⟩)
    · intro _
      refine lx_of (j := 1) z (by omega) hL (lx_of (j := 2) z (by omega) hL (⟨z.2.2.1, z_f_X11_standings (fun x1 h1 z1 H1 => ?_) z (op_standings I)⟩))
      exact lx_of (j := 1) z1 (by omega) hL (lx_of (j := 2) z1 (by omega) hL (⟨z1.2.2.2, z_f_X12_standings (fun x2 h2 z2 E => by exact ⟨fun _ => nxt _ _ (by omega) E.2 z2, fun c => absurd E.1 c⟩) z1 H1⟩))
    · intro _
      refine lx_of (j := 1) z (by omega) hL (⟨z.2.2.1, z_f_X11_look (fun x1 h1 z1 H1 => ?_) z (op_look I)⟩)
      exact lx_of (j := 1) z1 (by omega) hL (⟨z1.2.2.2, z_f_X12_look (fun x2 h2 z2 E => by exact ⟨fun _ => nxt _ _ (by omega) E.2 z2, fun c => absurd E.1 c⟩) z1 H1⟩)
    · intro _
      refine ⟨z.2.2.1, z_f_X11_fewest (fun x1 h1 z1 H1 => ?_) z (op_fewest I)⟩
      exact ⟨z1.2.2.2, z_f_X12_fewest (fun x2 h2 z2 E => by exact ⟨fun _ => nxt _ _ (by omega) E.2 z2, fun c => absurd E.1 c⟩) z1 H1⟩
    · intro _
      refine lx_of (j := 1) z (by omega) hL (⟨z.2.2.1, z_f_X11_way (fun x1 h1 z1 H1 => ?_) z (op_way I)⟩)
      exact lx_of (j := 1) z1 (by omega) hL (⟨z1.2.2.2, z_f_X12_way (fun x2 h2 z2 E => by exact ⟨fun _ => nxt _ _ (by omega) E.2 z2, fun c => absurd E.1 c⟩) z1 H1⟩)
    · intro _
      refine ⟨z.2.2.1, z_f_X11_all (fun x1 h1 z1 H1 => ?_) z (op_all I)⟩
      exact ⟨z1.2.2.2, z_f_X12_all (fun x2 h2 z2 E => by exact ⟨fun _ => nxt _ _ (by omega) E.2 z2, fun c => absurd E.1 c⟩) z1 H1⟩
    · intro _
      refine ⟨z.2.2.1, z_f_X11_best (fun x1 h1 z1 H1 => ?_) z (op_best I)⟩
      exact ⟨z1.2.2.2, z_f_X12_best (fun x2 h2 z2 E => by exact ⟨fun _ => nxt _ _ (by omega) E.2 z2, fun c => absurd E.1 c⟩) z1 H1⟩
    · intro _
      refine ⟨z.2.2.1, z_f_X11_nearest (fun x1 h1 z1 H1 => ?_) z (op_nearest I)⟩
      exact ⟨z1.2.2.2, z_f_X12_nearest (fun x2 h2 z2 E => by exact ⟨fun _ => nxt _ _ (by omega) E.2 z2, fun c => absurd E.1 c⟩) z1 H1⟩
    · intro _
      refine lx_of (j := 1) z (by omega) hL (lx_of (j := 2) z (by omega) hL (⟨z.2.2.1, z_f_X11_brings (fun x1 h1 z1 H1 => ?_) z (op_brings I)⟩))
      exact lx_of (j := 1) z1 (by omega) hL (lx_of (j := 2) z1 (by omega) hL (⟨z1.2.2.2, z_f_X12_brings (fun x2 h2 z2 E => by exact ⟨fun _ => nxt _ _ (by omega) E.2 z2, fun c => absurd E.1 c⟩) z1 H1⟩))
    · intro _
      refine lx_of (j := 1) z (by omega) hL (⟨z.2.2.1, z_f_X11_earn (fun x1 h1 z1 H1 => ?_) z (op_earn I)⟩)
      exact lx_of (j := 1) z1 (by omega) hL (⟨z1.2.2.2, z_f_X12_earn (fun x2 h2 z2 E => by exact ⟨fun _ => nxt _ _ (by omega) E.2 z2, fun c => absurd E.1 c⟩) z1 H1⟩)
    · intro _
      refine lx_of (j := 1) z (by omega) hL (⟨z.2.2.1, z_f_X11_moved (fun x1 h1 z1 H1 => ?_) z (op_moved I)⟩)
      exact lx_of (j := 1) z1 (by omega) hL (⟨z1.2.2.2, z_f_X12_moved (fun x2 h2 z2 E => by exact ⟨fun _ => nxt _ _ (by omega) E.2 z2, fun c => absurd E.1 c⟩) z1 H1⟩)
    · intro _
      refine lx_of (j := 1) z (by omega) hL (⟨z.2.2.1, z_f_X11_who (fun x1 h1 z1 H1 => ?_) z (op_who I)⟩)
      exact lx_of (j := 1) z1 (by omega) hL (⟨z1.2.2.2, z_f_X12_who (fun x2 h2 z2 E => by exact ⟨fun _ => nxt _ _ (by omega) E.2 z2, fun c => absurd E.1 c⟩) z1 H1⟩)
    · intro _
      refine lx_of (j := 1) z (by omega) hL (lx_of (j := 2) z (by omega) hL (lx_of (j := 3) z (by omega) hL (⟨z.2.2.1, z_f_X11_odds (fun x1 h1 z1 H1 => ?_) z (op_odds I)⟩)))
      exact lx_of (j := 1) z1 (by omega) hL (lx_of (j := 2) z1 (by omega) hL (lx_of (j := 3) z1 (by omega) hL (⟨z1.2.2.2, z_f_X12_odds (fun x2 h2 z2 E => by exact ⟨fun _ => nxt _ _ (by omega) E.2 z2, fun c => absurd E.1 c⟩) z1 H1⟩)))
    · intro _
      refine lx_of (j := 1) z (by omega) hL (lx_of (j := 2) z (by omega) hL (⟨z.2.2.1, z_f_X11_years (fun x1 h1 z1 H1 => ?_) z (op_years I)⟩))
      exact lx_of (j := 1) z1 (by omega) hL (lx_of (j := 2) z1 (by omega) hL (⟨z1.2.2.2, z_f_X12_years (fun x2 h2 z2 E => by exact ⟨fun _ => nxt _ _ (by omega) E.2 z2, fun c => absurd E.1 c⟩) z1 H1⟩))
    · intro _
      refine ⟨z.2.2.1, z_f_X11_asked (fun x1 h1 z1 H1 => ?_) z (op_asked I)⟩
      exact ⟨z1.2.2.2, z_f_X12_asked (fun x2 h2 z2 E => by exact ⟨fun _ => nxt _ _ (by omega) E.2 z2, fun c => absurd E.1 c⟩) z1 H1⟩
    · intro _
      refine ⟨z.2.2.1, z_f_X11_upper (fun x1 h1 z1 H1 => ?_) z (op_upper I)⟩
      exact ⟨z1.2.2.2, z_f_X12_upper (fun x2 h2 z2 E => by exact ⟨fun _ => nxt _ _ (by omega) E.2 z2, fun c => absurd E.1 c⟩) z1 H1⟩
    · intro _
      refine ⟨z.2.2.1, z_f_X11_lower (fun x1 h1 z1 H1 => ?_) z (op_lower I)⟩
      exact ⟨z1.2.2.2, z_f_X12_lower (fun x2 h2 z2 E => by exact ⟨fun _ => nxt _ _ (by omega) E.2 z2, fun c => absurd E.1 c⟩) z1 H1⟩
    · intro _
      refine lx_of (j := 1) z (by omega) hL (⟨z.2.2.1, z_f_X11_count (fun x1 h1 z1 H1 => ?_) z (op_count I)⟩)
      exact lx_of (j := 1) z1 (by omega) hL (⟨z1.2.2.2, z_f_X12_count (fun x2 h2 z2 E => by exact ⟨fun _ => nxt _ _ (by omega) E.2 z2, fun c => absurd E.1 c⟩) z1 H1⟩)
    · intro _
      refine ⟨z.2.2.1, z_f_X11_finding (fun x1 h1 z1 H1 => ?_) z (op_finding I)⟩
      exact ⟨z1.2.2.2, z_f_X12_finding (fun x2 h2 z2 E => by exact ⟨fun _ => nxt _ _ (by omega) E.2 z2, fun c => absurd E.1 c⟩) z1 H1⟩
    · intro _
      refine lx_of (j := 1) z (by omega) hL (⟨z.2.2.1, z_f_X11_findings (fun x1 h1 z1 H1 => ?_) z (op_findings I)⟩)
      exact lx_of (j := 1) z1 (by omega) hL (⟨z1.2.2.2, z_f_X12_findings (fun x2 h2 z2 E => by exact ⟨fun _ => nxt _ _ (by omega) E.2 z2, fun c => absurd E.1 c⟩) z1 H1⟩)
    · intro _
      refine ⟨z.2.2.1, z_f_X11_digest (fun x1 h1 z1 H1 => ?_) z (op_digest I)⟩
      exact ⟨z1.2.2.2, z_f_X12_digest (fun x2 h2 z2 E => by exact ⟨fun _ => nxt _ _ (by omega) E.2 z2, fun c => absurd E.1 c⟩) z1 H1⟩
    · intros; exact nxt _ _ (by omega) I z
end LAW
