/-! one walk, in the class -/
/-- what a walk makes of the state -/
def wlkS (S : SS) (w : Nat) : SS := fun c i j =>
  if c = 14 ∧ i = 0 ∧ j = 0 then nI (nx S (rlN S) (stN S) w) else if c = 16 ∧ i = 0 ∧ j = 0 then nI (dnN S + 1)
  else if c = 17 ∧ i = dnN S ∧ j = 0 then nI w else if c = 18 ∧ i = dnN S ∧ j = 0 then S 14 0 0
  else if c = 19 ∧ i = dnN S ∧ j = 0 then nI (bhd S (stN S) w (rlN S)).2.2 else if c = 20 ∧ i = dnN S then nI ((bhd S (stN S) w (rlN S)).2.1 j) else S c i j
theorem wlk_c {S : SS} {w c i j : Nat} (hc : c ≠ 14 ∧ ¬ (16 ≤ c ∧ c ≤ 20)) : wlkS S w c i j = S c i j := by
  unfold wlkS
  rw [if_neg (by omega), if_neg (by omega), if_neg (by omega), if_neg (by omega), if_neg (by omega), if_neg (by omega)]
theorem wlk_14 {S : SS} {w : Nat} : wlkS S w 14 0 0 = nI (nx S (rlN S) (stN S) w) := if_pos ⟨rfl, rfl, rfl⟩
theorem wlk_16 {S : SS} {w : Nat} : wlkS S w 16 0 0 = nI (dnN S + 1) := by unfold wlkS; rw [if_neg (by omega), if_pos ⟨rfl, rfl, rfl⟩]
theorem wlk_17 {S : SS} {w : Nat} : wlkS S w 17 (dnN S) 0 = nI w := by unfold wlkS; rw [if_neg (by omega), if_neg (by omega), if_pos ⟨rfl, rfl, rfl⟩]
theorem wlk_18 {S : SS} {w : Nat} : wlkS S w 18 (dnN S) 0 = S 14 0 0 := by unfold wlkS; rw [if_neg (by omega), if_neg (by omega), if_neg (by omega), if_pos ⟨rfl, rfl, rfl⟩]
theorem wlk_19 {S : SS} {w : Nat} : wlkS S w 19 (dnN S) 0 = nI (bhd S (stN S) w (rlN S)).2.2 := by unfold wlkS; rw [if_neg (by omega), if_neg (by omega), if_neg (by omega), if_neg (by omega), if_pos ⟨rfl, rfl, rfl⟩]
theorem wlk_20 {S : SS} {w j : Nat} : wlkS S w 20 (dnN S) j = nI ((bhd S (stN S) w (rlN S)).2.1 j) := by unfold wlkS; rw [if_neg (by omega), if_neg (by omega), if_neg (by omega), if_neg (by omega), if_neg (by omega), if_pos ⟨rfl, rfl⟩]
theorem wlk_o {S : SS} {w c i j : Nat} (hc : 17 ≤ c) (hi : i ≠ dnN S) : wlkS S w c i j = S c i j := by
  unfold wlkS
  rw [if_neg (by omega), if_neg (by omega), if_neg (by omega), if_neg (by omega), if_neg (by omega), if_neg (by omega)]
theorem wlk_D {S : SS} {w : Nat} : sameD S (wlkS S w) := fun c i j hq => wlk_c (by omega)
theorem cod_ext {f : Nat → Nat} {n : Nat} (hf : ∀ k, n ≤ k → f k = 0) : ∀ m, cod f (n + m) = cod f n
  | 0 => rfl
  | m + 1 => by
    show cod f (n + m) + f (n + m) * 8 ^ (n + m) = _
    rw [cod_ext hf m, hf _ (by omega)]
    omega
theorem pack_cod (f : Nat → Nat) : pack5 (fun k => nI (f k)) = nI (cod f 5) := by
  have : cod f 5 = f 0 + f 1 * 8 + f 2 * 64 + f 3 * 512 + f 4 * 4096 := by
    simp only [cod, Nat.reducePow]
    omega
  rw [this, ← nI_add, ← nI_add, ← nI_add, ← nI_add, ← pk_mul, ← pk_mul, ← pk_mul, ← pk_mul]
  rfl
section WALKC
variable {h : AH} {S : SS} {u l : Int64} {n : Nat}
theorem c_doWalk {w : Nat} {Q : Int32 → AH → Prop} (R : RC h S u l n) (W : WF S) (hw : w < wN S) (hd : dnN S < 60) (H : ∀ h1, RC h1 (wlkS S w) u l n → Cag h h1 → Q (nI (bhd S (stN S) w (rlN S)).2.2) h1) : f_X11_doWalk 1 (nI w) h Q := by
  obtain ⟨w1, w2, w3, w4, w5, w6, w7, w8⟩ := id W
  obtain ⟨rd, X, c1, C, xr⟩ := R.road
  have hs5 := w3.2.2.2.2.2.1
  have xt : ¬ X (42 + dnN S) := fun z => by have := xr _ z; unfold radr at this; omega
  obtain ⟨C4, C7⟩ : Carr h ∧ Ctrp h S := by
    obtain ⟨rd, fa, li, qu, N, X, c1, c2, c3, c4, c5, c6, c7, c8, -⟩ := R
    exact ⟨c2, c7⟩
  obtain ⟨-, -, ⟨f4, g4, g5⟩⟩ := C4
  have Ct : Ctri h (42 + dnN S) := by
    obtain ⟨a1, a2, a3, a4, a5, a6, a7, a8, z, -⟩ := C7 _ hd
    exact ⟨a1, a2, a3, a4, a5, a6, a7, a8, z⟩
  refine gI_of c1 rfl ?_
  rw [w6.1]
  refine c_isBelow (fun q => absurd ⟨nI_pos' (by omega), nI_lt (b := 60) hd (by omega)⟩ q) (fun _ _ => rb1 (gR_of c1 rfl (gI_of c1 rfl ?_)))
  rw [w6.1]
  refine lQ_of g4 (vp_in_nI (by omega) (by omega)) (by rw [nI_clamp (by omega)]; exact g5 _ hd) (gR_of c1 rfl (gI_of c1 rfl (gI_of c1 rfl ⟨by obtain ⟨_, _, _, _, _, _, _, _, z⟩ := Ct; exact isO_of z, c_tbegin Ct fun by_ => ?_⟩)))
  have ht : (aput h (42 + dnN S) (trip rd (S 15 0 0) (S 14 0 0) (S 14 0 0) by_ 0 0 0)).2.2 (42 + dnN S) = some (trip rd (nI (rlN S)) (nI (stN S)) (nI (stN S)) by_ 0 0 0) := by rw [aput_s, w4.1, w5.1]
  have c1' : ∀ e, (aput h (42 + dnN S) e).2.2 1 = _ := fun e => (aput_n h e (by omega)).trans c1
  refine ⟨isO_of ht, c_send w3 (C.put xt) xt w4.2 w5.2 hw ht ?_⟩
  rw [aput_pp]
  refine gI_of (aput_s h _ _) rfl (pF_of (c1' _) (Nat.le_of_ble_eq_true rfl) rfl (gI_of (aput_s _ _ _) rfl (pF_of (aput_s _ _ _) (Nat.le_of_ble_eq_true rfl) rfl ?_)))
  rw [aput_pp]
  refine gI_of ((aput_n _ _ (by omega)).trans (aput_s h _ _)) rfl ?_
  rw [Int32.zero_add]
  generalize hH : aput (aput h (42 + dnN S) _) 1 _ = H1
  have ag : ∀ a, a ≠ 1 → a ≠ 42 + dnN S → H1.2.2 a = h.2.2 a := fun a x y => by rw [← hH, aput_n _ _ x, aput_n _ _ y]
  have at1 : H1.2.2 1 = some (mob rd (nI (nx S (rlN S) (stN S) w)) (S 15 0 0) (S 16 0 0 + 1) (S 4 0 0) u l (S 5 0 0)) := by rw [← hH, aput_s]; rfl
  have att : H1.2.2 (42 + dnN S) = some (ts S rd (nI (rlN S)) (nI (stN S)) (nI w) 0 0 0 (bhd S (stN S) w (rlN S))) := by rw [← hH, aput_n _ _ (by omega), aput_s]
  refine H H1 ?_ (fun a x y => ag a (by omega) (by omega))
  refine R.keepD (fun a x1 x2 x3 x4 => ag a (by omega) (by omega)) (by rw [← hH]; rfl) (by rw [← hH]; rfl) wlk_D (fun rd2 c2 => ?_) (fun c => c.keep (ag 7 (by omega) (by omega)) (fun r => wlk_c (by omega))) (fun c => c.keep (ag 5 (by omega) (by omega)) (ag 6 (by omega) (by omega)) (fun r => wlk_c (by omega)) (fun r => wlk_c (by omega))) (fun c i hi => ?_) (fun c => c.keep (ag 13 (by omega) (by omega)))
  · have e := Cmain.inj c2 c1
    subst e
    unfold Cmain
    rw [at1, wlk_14, wlk_16, wlk_c (by omega), wlk_c (by omega), wlk_c (by omega), w6.1, nI_1]
  · by_cases e : i = dnN S
    · subst e
      refine ⟨_, _, _, _, _, _, _, _, att, fun _ => ⟨?_, ?_, ?_, ?_⟩⟩
      · rw [wlk_18, w4.1]
      · rw [wlk_17]
      · rw [wlk_19, Int32.zero_add]
      · rw [show wlkS S w 20 (dnN S) = fun j => nI ((bhd S (stN S) w (rlN S)).2.1 j) from funext fun j => wlk_20, pack_cod, Int32.zero_add]
        obtain ⟨m, hm⟩ : ∃ m, 5 = sN S + m := ⟨5 - sN S, by omega⟩
        rw [hm, cod_ext (TB.bh w3).2.2]
    · obtain ⟨a1, a2, a3, a4, a5, a6, a7, a8, z, z2⟩ := c i hi
      refine ⟨a1, a2, a3, a4, a5, a6, a7, a8, by rw [ag _ (by omega) (by omega)]; exact z, fun q => ?_⟩
      rw [wlk_16, nI_ltI (by omega) (by omega)] at q
      rw [wlk_o (by omega) e, wlk_o (by omega) e, wlk_o (by omega) e, show wlkS S w 20 i = S 20 i from funext fun j => wlk_o (by omega) e]
      exact z2 (by rw [w6.1]; exact nI_lt (by omega) (by omega))
theorem WF_wlk {w : Nat} (W : WF S) (hw : w < wN S) (hd : dnN S < 60) : WF (wlkS S w) := by
  obtain ⟨w1, w2, w3, w4, w5, w6, w7, w8⟩ := id W
  have sR := (wlk_D (S := S) (w := w)).R
  have cb := Cd_nx (law := rlN S) w3 w4.2 hw
  have clt := Cd_lt w3 cb
  have e14 : stN (wlkS S w) = nx S (rlN S) (stN S) w := by show nN (wlkS S w 14 0 0) = _; rw [wlk_14]; exact nI_clamp (by omega)
  have e15 : rlN (wlkS S w) = rlN S := by unfold rlN; rw [wlk_c (by omega)]
  have e16 : dnN (wlkS S w) = dnN S + 1 := by show nN (wlkS S w 16 0 0) = _; rw [wlk_16]; exact nI_clamp (by omega)
  have tb := TB.bh (c := stN S) (w := w) (law := rlN S) w3
  refine ⟨fun r hr => by rw [wlk_c (by omega)]; exact w1 r hr, fun r hr => by rw [wlk_c (by omega)]; exact w2 r hr, sr_WFr sR w3, ⟨by rw [wlk_14, e14], by rw [e14, sr_Cd sR]; exact cb⟩, ⟨by rw [wlk_c (by omega), e15]; exact w5.1, by rw [e15]; exact w5.2⟩, ⟨by rw [wlk_16, e16], by omega⟩, fun i hi => ?_, fun k hk => ?_⟩
  · rw [sr_w sR, sr_Cd sR]
    by_cases e : i = dnN S
    · subst e
      rw [wlk_17, wlk_18, wlk_19]
      refine ⟨⟨w, rfl, hw⟩, ⟨stN S, w4.1, w4.2⟩, ⟨_, rfl, by have := tb.2.1; omega⟩, fun k => ⟨_, wlk_20, tb.1 k⟩⟩
    · rw [wlk_o (by omega) e, wlk_o (by omega) e, wlk_o (by omega) e]
      obtain ⟨y1, y2, y3, y4⟩ := w7 i (by omega)
      exact ⟨y1, y2, y3, fun k => by rw [wlk_o (by omega) e]; exact y4 k⟩
  · rw [wlk_c (by omega), wlk_c (by omega), sr_Cd sR]
    exact w8 k hk
end WALKC
