section WALKER2
variable {h : AH} {S : SS} {u l : Int64} {n : Nat}
/-- what is told of a walker -/
def wkI (S : SS) (w v : Nat) : Int32 := if v = 0 then nI (kd S w) else if v = 1 then nI (fr S w) else if v = 2 then nI (to_ S w) else smI (fun i => if S 17 i 0 = nI w then S 19 i 0 else 0) (dnN S)
theorem c_ofWalker {w v : Nat} {Q : Int32 → AH → Prop} (R : RC h S u l n) (W : WF S) (hw : w < wN S) (hv : v < 4) (H : Q (wkI S w v) h) : f_X11_ofWalker 1 (nI w) (nI v) h Q := by
  have w3 := W.2.2.1
  obtain ⟨rd, X, c1, C, xr⟩ := R.road
  obtain ⟨w1, w2, -⟩ := w3.2.2.2.2.2.2.2.2.2.2 w hw
  refine gR_of c1 rfl ⟨C.o, c_walkerAt w3 C hw fun wa xw ho => ⟨fun q => (by cases q), fun a4 q => ?_⟩⟩
  cases q
  have e0 : (0 : Int32) = nI 0 := rfl
  have e1 : (1 : Int32) = nI 1 := rfl
  have e2 : (2 : Int32) = nI 2 := rfl
  rw [e0, e1, e2, nI_eqI (by omega) (by omega), nI_eqI (by omega) (by omega), nI_eqI (by omega) (by omega)]
  unfold wkI at H
  refine ⟨fun z => c_kind w3 hw ho ?_, fun z => gW_of ho (kcl_wk w2) rfl ?_, fun z => gW_of ho (kcl_wk w2) rfl ?_, fun z0 z1 z2 => ⟨R.o, c_allPay R W ?_⟩⟩
  · rw [if_pos z] at H; exact H
  · rw [if_neg (by omega), if_pos z] at H; exact H
  · rw [if_neg (by omega), if_neg (by omega), if_pos z] at H; exact H
  · rw [if_neg z0, if_neg z1, if_neg z2] at H; exact H
theorem op_walker {a b : Int32} (I : Inv h n) : f_X11_walker 1 a b h (fun x h1 => f_X12_walker 102 a b h1 (fun y h2 => x = y ∧ Inv h2 n)) := by
  obtain ⟨S, u, l, R, M, W⟩ := I
  obtain ⟨mi, ma, R1, A, Wm, T, F, Rd, Lg, Kp⟩ := id M
  obtain ⟨w1, w2, w3, w4, w5, w6, w7, w8⟩ := id W
  have hw5 := w3.2.2.2.2.2.2.1
  unfold f_X11_walker f_X12_walker
  refine c_walkers R (c_isBelow (fun q => br0 ⟨R1.o, m_isW w3 R1 A.2.2.2.2.1 (fun _ => br0 ⟨rfl, S, u, l, R, M, W⟩) (fun q1 q2 => absurd ⟨q1, q2⟩ q)⟩) (fun q1 q2 => br1 ?_))
  have q2' := q2
  rw [w3.2.2.1] at q2
  obtain ⟨w, hw, rfl⟩ := lt_nI (x := a) (m := wN S) (by omega) q1 q2
  have isw : ∀ {h1 : AH} {Q : Int32 → AH → Prop}, RepM h1 mi u l ma → Q 1 h1 → f_X12_isWalker 102 (nI w) h1 Q := fun r H => m_isW w3 r A.2.2.2.2.1 (fun q => absurd ⟨q1, q2'⟩ q) (fun _ _ => H)
  refine c_isBelow (fun q => rb0 ⟨R1.o, isw R1 (br1 (m_in (a := 0) (b := 3) (fun _ => rb0 ⟨rfl, S, u, l, R, M, W⟩) (fun y1 y2 => by grind)))⟩) (fun p1 p2 => rb1 ?_)
  obtain ⟨v, hv, rfl⟩ := lt_nI (x := b) (m := 4) (by omega) p1 p2
  refine ⟨R.o, c_ofWalker R W hw hv (c_told R (fun h1 r1 a1 => ?_))⟩
  have R1' := R1.keep a1
  have M1 := M.keep a1
  refine ⟨R1'.o, isw R1' (br1 (m_in (a := 0) (b := 3) (fun y => by grind) (fun _ _ => rb1 ?_)))⟩
  have any := MS.any (S := S) R1'
  have fin : ∀ x, x = wkI S w v → B_X12_walker_70 (fun y h2 => (1 : Int32) = y ∧ Inv h2 n) 102 x h1 := fun x e => by
    subst e
    exact ⟨R1'.o, m_tells M1 (fun h2 r2 a2 => ⟨rfl, Inv.of r1 r2 a2 (WF_told W _)⟩)⟩
  have e0 : (0 : Int32) = nI 0 := rfl
  have e2 : (2 : Int32) = nI 2 := rfl
  rw [e0, e2, nI_eqI (by omega) (by omega), nI_eqI (by omega) (by omega)]
  have e1 : (nI v = (1 : Int32)) = (v = 1) := propext (nI_eqI (b := 1) (by omega) (by omega))
  rw [e1]
  unfold wkI at fin
  refine ⟨fun z0 => ⟨fun z1 => ⟨fun z2 => m_gR R1' (mr18 _ _ _) (m_lI R1' (j := 9) rfl rfl rfl (vp_in_nI (by omega) (by omega)) (fin _ ?_)), fun z2 => m_to w3 Rd any hw (fin _ ?_)⟩, fun z1 => m_from w3 Rd any hw (fin _ ?_)⟩, fun z0 => m_kind w3 Rd any hw (fin _ ?_)⟩
  · rw [if_neg z0, if_neg z1, if_neg z2, nI_clamp (by omega), Lg.1 w (by omega)]
  · rw [if_neg z0, if_neg z1, if_pos z2]
  · rw [if_neg z0, if_pos z1]
  · rw [if_pos z0]
end WALKER2
