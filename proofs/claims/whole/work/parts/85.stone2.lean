section STONE2
variable {h : AH} {S : SS} {u l : Int64} {n : Nat} {mi : Nat → Int32} {ma : Nat → Nat → Int32}
theorem m_isS {v : Int32} {Q : Int32 → AH → Prop} (W : WFr S) (R : RepM h mi u l ma) (A10 : mi 10 = S 8 0 0) (H0 : ¬ (0 ≤ v ∧ v < S 8 0 0) → Q 0 h) (H1 : 0 ≤ v → v < S 8 0 0 → Q 1 h) : f_X12_isStone 102 v h Q := by
  have hs5 := W.2.2.2.2.2.1
  have e1 : (1 : Int32).toInt = 1 := rfl
  refine m_gI R (mg10 _ _ _) ?_
  rw [A10]
  have t9 : (S 8 0 0).toInt = sN S := by rw [W.2.1, nI_toInt (by omega)]
  have t8 : (S 8 0 0 - 1).toInt = (sN S : Int) - 1 := by rw [ti_sub (by rw [t9, e1]; omega) (by rw [t9, e1]; omega), t9, e1]
  refine m_in (a := 0) (b := S 8 0 0 - 1) (fun q => ⟨bl_0, H0 fun z => q ⟨z.1, ?_⟩⟩) (fun q1 q2 => ⟨bl_1, H1 q1 ?_⟩)
  · rw [tle, t8]
    have := tl.mp z.2
    omega
  · rw [tl, t9]
    have := tle.mp q2
    omega
def snI (S : SS) (k v : Nat) : Int32 := if v = 0 then nI (nu S k) else if v = 1 then tpI (dig (stN S) k) else if v = 2 then homI S k else smI (fun i => S 20 i k) (dnN S)
theorem c_ofStone {k v : Nat} {Q : Int32 → AH → Prop} (R : RC h S u l n) (W : WF S) (hk : k < sN S) (hv : v < 4) (H : Q (snI S k v) h) : f_X11_ofStone 1 (nI k) (nI v) h Q := by
  obtain ⟨w1, w2, w3, w4, w5, w6, w7, w8⟩ := id W
  have hs5 := w3.2.2.2.2.2.1
  have cb := Cd_lt w3 w4.2
  obtain ⟨rd, X, c1, C, xr⟩ := R.road
  obtain ⟨nn, hm, wy, fo, fn, fh, fw, ff, wa, st, x1, x2, x3, x4, x5, d1, d2, d3, d4, d5, d6, d7⟩ := C
  obtain ⟨f1, f2, f3⟩ := d6 k hk
  have e0 : (0 : Int32) = nI 0 := rfl
  have e1 : (1 : Int32) = nI 1 := rfl
  have e2 : (2 : Int32) = nI 2 := rfl
  have vk : vp_in (nI k) 5 := vp_in_nI (by omega) (by omega)
  unfold f_X11_ofStone
  rw [e0, e1, e2, nI_eqI (by omega) (by omega), nI_eqI (by omega) (by omega), nI_eqI (by omega) (by omega)]
  unfold snI at H
  refine ⟨fun z => gR_of c1 rfl (gR_of d1 rfl (lI_of d2 vk ?_)), fun z => gI_of c1 rfl ?_, fun z => gR_of c1 rfl (gR_of d1 rfl (lI_of d3 vk ?_)), fun z0 z1 z2 => ⟨R.o, c_allMoves R W (by omega) ?_⟩⟩
  · rw [if_pos z] at H; rw [nI_clamp (by omega), f1, (w3.2.2.2.2.2.2.2.2.1 k hk).1]; exact H
  · rw [if_neg (by omega), if_pos z] at H
    rw [w4.1]
    exact c_tell cb (by omega) H
  · rw [if_neg (by omega), if_neg (by omega), if_pos z] at H; rw [nI_clamp (by omega), f2]; exact H
  · rw [if_neg z0, if_neg z1, if_neg z2] at H; exact H
theorem op_stone {a b : Int32} (I : Inv h n) : f_X11_stone 1 a b h (fun x h1 => f_X12_stone 102 a b h1 (fun y h2 => x = y ∧ Inv h2 n)) := by
  obtain ⟨S, u, l, R, M, W⟩ := I
  obtain ⟨mi, ma, R1, A, Wm, T, F, Rd, Lg, Kp⟩ := id M
  obtain ⟨w1, w2, w3, w4, w5, w6, w7, w8⟩ := id W
  have hs5 := w3.2.2.2.2.2.1
  have cb := Cd_lt w3 w4.2
  unfold f_X11_stone f_X12_stone
  refine c_stones R (c_isBelow (fun q => br0 ⟨R1.o, m_isS w3 R1 A.2.2.2.1 (fun _ => br0 ⟨rfl, S, u, l, R, M, W⟩) (fun q1 q2 => absurd ⟨q1, q2⟩ q)⟩) (fun q1 q2 => br1 ?_))
  have q2' := q2
  rw [w3.2.1] at q2
  obtain ⟨w, hw, rfl⟩ := lt_nI (x := a) (m := sN S) (by omega) q1 q2
  have hd := dig_lt (stN S) w
  have isw : ∀ {h1 : AH} {Q : Int32 → AH → Prop}, RepM h1 mi u l ma → Q 1 h1 → f_X12_isStone 102 (nI w) h1 Q := fun r H => m_isS w3 r A.2.2.2.1 (fun q => absurd ⟨q1, q2'⟩ q) (fun _ _ => H)
  refine c_isBelow (fun q => rb0 ⟨R1.o, isw R1 (br1 (m_in (a := 0) (b := 3) (fun _ => rb0 ⟨rfl, S, u, l, R, M, W⟩) (fun y1 y2 => by grind)))⟩) (fun p1 p2 => rb1 ?_)
  obtain ⟨v, hv, rfl⟩ := lt_nI (x := b) (m := 4) (by omega) p1 p2
  refine ⟨R.o, c_ofStone R W hw hv (c_told R (fun h1 r1 a1 => ?_))⟩
  have R1' := R1.keep a1
  have M1 := M.keep a1
  refine ⟨R1'.o, isw R1' (br1 (m_in (a := 0) (b := 3) (fun y => by grind) (fun _ _ => rb1 ?_)))⟩
  have any := MS.any (S := S) R1'
  have fin : ∀ x, x = snI S w v → B_X12_stone_74 (fun y h2 => (1 : Int32) = y ∧ Inv h2 n) 102 x h1 := fun x e => by
    subst e
    exact ⟨R1'.o, m_tells M1 (fun h2 r2 a2 => ⟨rfl, Inv.of r1 r2 a2 (WF_told W _)⟩)⟩
  have e0 : (0 : Int32) = nI 0 := rfl
  have e2 : (2 : Int32) = nI 2 := rfl
  rw [e0, e2, nI_eqI (by omega) (by omega), nI_eqI (by omega) (by omega)]
  have e1 : (nI v = (1 : Int32)) = (v = 1) := propext (nI_eqI (b := 1) (by omega) (by omega))
  rw [e1]
  unfold snI at fin
  refine ⟨fun z0 => ⟨fun z1 => ⟨fun z2 => m_gR R1' (mr19 _ _ _) (m_lI R1' (j := 10) rfl rfl rfl (vp_in_nI (by omega) (by omega)) (fin _ ?_)), fun z2 => ⟨R1'.o, m_home w3 Rd A.2.2.1 any hw (fin _ ?_)⟩⟩, fun z1 => m_gI R1' (mg17 _ _ _) ?_⟩, fun z0 => m_num w3 Rd any hw (fin _ ?_)⟩
  · rw [if_neg z0, if_neg z1, if_neg z2, nI_clamp (by omega), Lg.2.1 w (by omega)]
  · rw [if_neg z0, if_neg z1, if_pos z2]
  · rw [A.2.2.2.2.2.2.1, w4.1]
    exact m_spot cb (by omega) (m_tellP hd (fin _ (by rw [if_neg z0, if_pos z1])))
  · rw [if_pos z0]
end STONE2
