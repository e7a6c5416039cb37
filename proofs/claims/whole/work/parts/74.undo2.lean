section UNDO2
variable {h : AH} {S : SS} {u l : Int64} {n : Nat}
theorem WF_und {m : Nat} (W : WF S) : WF (undS S m) := by
  unfold undS
  split
  · rename_i q
    obtain ⟨w1, w2, w3, w4, w5, w6, w7, w8⟩ := id W
    obtain ⟨-, ⟨c, e18, hc⟩, -⟩ := w7 m q
    rw [e18, w5.1]
    exact WF_dynS W hc w5.2 (by omega)
  · exact W
theorem op_undo {v : Int32} (I : Inv h n) : f_X11_undo 1 v h (fun x h1 => f_X12_undo 102 v h1 (fun y h2 => x = y ∧ Inv h2 n)) := by
  obtain ⟨S, u, l, R, M, W⟩ := I
  obtain ⟨mi, ma, R1, A, -⟩ := id M
  obtain ⟨w1, w2, w3, w4, w5, w6, w7, w8⟩ := id W
  obtain ⟨rd, c1⟩ := R.main
  obtain ⟨C4, C7⟩ : Carr h ∧ Ctrp h S := by
    obtain ⟨rd, fa, li, qu, N, X, c1, c2, c3, c4, c5, c6, c7, c8, -⟩ := R
    exact ⟨c2, c7⟩
  obtain ⟨-, -, ⟨f4, g4, g5⟩⟩ := C4
  have bad : ¬ (0 ≤ v ∧ v ≤ S 16 0 0) → f_X12_undo 102 v h (fun y h2 => (-1 : Int32) = y ∧ Inv h2 n) := fun q => by
    refine m_gI R1 (mg20 _ _ _) ?_
    rw [A.2.2.2.2.2.2.2]
    exact m_in (a := 0) (b := S 16 0 0) (fun _ => rb0 ⟨rfl, S, u, l, R, M, W⟩) (fun q1 q2 => absurd ⟨q1, q2⟩ q)
  unfold f_X11_undo
  refine ⟨fun q => bad (fun z => by grind), fun q => gI_of c1 rfl ⟨fun q2 => gI_of c1 rfl (gI_of c1 rfl ?_), fun q2 => bad (fun z => q2 z.2)⟩⟩
  have q0 : 0 ≤ v := by grind
  rw [w6.1] at q2
  obtain ⟨m, hm, rfl⟩ : ∃ m, m ≤ dnN S ∧ v = nI m := by
    have t1 := tle.mp q2
    rw [nI_toInt (by omega)] at t1
    have t0 := tle.mp q0
    rw [ti_0] at t0
    refine ⟨v.toInt.toNat, by omega, ti_ext ?_⟩
    rw [nI_toInt (by omega)]
    omega
  -- the model's side
  have mod : ∀ h1, RC h1 (undS S m) u l n → Cag h h1 → f_X12_undo 102 (nI m) h1 (fun y h2 => S 16 0 0 - nI m = y ∧ Inv h2 n) := by
    intro h1 r1 a1
    have R1' := R1.keep a1
    refine m_gI R1' (mg20 _ _ _) ?_
    rw [A.2.2.2.2.2.2.2]
    refine m_in (a := 0) (b := S 16 0 0) (fun z => absurd ⟨q0, by rw [w6.1]; exact q2⟩ z) (fun _ _ => rb1 (m_gI R1' (mg20 _ _ _) ⟨dnN S - m + 1, m_undo (dnN S - m) S h1 (by omega) W (M.keep a1) (fun h2 r2 a2 => ⟨?_, Inv.of r1 r2 a2 (WF_und W)⟩)⟩))
    rw [A.2.2.2.2.2.2.2]
  rw [w6.1]
  refine c_isBelow (fun z => br0 ?_) (fun z1 z2 => br1 ?_)
  · have e : m = dnN S := by
      have : ¬ m < dnN S := fun y => z ⟨q0, nI_lt y (by omega)⟩
      omega
    refine pF_of c1 (Nat.le_of_ble_eq_true rfl) rfl ?_
    rw [← w6.1]
    have : aput h 1 (.inr (11, List.set [.ref 2, .ref 3, .ref 4, .ref 5, .ref 6, .ref 7, .ref 13, .ref 14, .ref rd, .int (S 14 0 0), .int (S 15 0 0), .int (S 16 0 0), .int (S 4 0 0), .long u, .long l, .int (S 5 0 0)] 11 (.int (nI m)))) = h := by
      refine aput_id ?_
      rw [c1, e, ← w6.1]
      rfl
    rw [this]
    refine mod h ?_ Cag.rf
    unfold undS
    rw [if_neg (by omega)]
    exact R
  · rw [nI_ltI (by omega) (by omega)] at z2
    obtain ⟨a1, a2, a3, a4, a5, a6, a7, a8, z, zz⟩ := C7 m (by omega)
    have bf := (zz (by rw [w6.1]; exact nI_lt z2 (by omega))).1
    refine gR_of c1 rfl (lQ_of g4 (vp_in_nI (by omega) (by omega)) (by rw [nI_clamp (by omega)]; exact g5 m (by omega)) (gI_of z rfl (pF_of c1 (Nat.le_of_ble_eq_true rfl) rfl (pF_of (aput_s _ _ _) (Nat.le_of_ble_eq_true rfl) rfl ?_))))
    rw [aput_pp, bf, ← w6.1]
    refine mod _ ?_ (Cag.put (by omega))
    unfold undS
    rw [if_pos z2]
    refine R.dyn (fun a ha => aput_n h _ ha) rfl rfl (fun rd2 c2 => ?_) (by rw [w6.1]; exact nI_le hm (by omega))
    have e := Cmain.inj c2 c1
    subst e
    rw [aput_s]
    rfl
end UNDO2
