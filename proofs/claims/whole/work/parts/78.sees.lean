section SEES
variable {h : AH} {S : SS} {u l : Int64} {n : Nat} {mi : Nat → Int32} {ma : Nat → Nat → Int32}
theorem m_isP {v : Int32} {Q : Int32 → AH → Prop} (W : WFr S) (R : RepM h mi u l ma) (A9 : mi 9 = S 7 0 0) (H0 : ¬ (0 ≤ v ∧ v < S 7 0 0) → Q 0 h) (H1 : 0 ≤ v → v < S 7 0 0 → Q 1 h) : f_X12_isPost 102 v h Q := by
  have hp7 := W.2.2.2.1
  have e1 : (1 : Int32).toInt = 1 := rfl
  refine m_gI R (mg9 _ _ _) ?_
  rw [A9]
  have t9 : (S 7 0 0).toInt = pN S := by rw [W.1, nI_toInt (by omega)]
  have t8 : (S 7 0 0 - 1).toInt = (pN S : Int) - 1 := by rw [ti_sub (by rw [t9, e1]; omega) (by rw [t9, e1]; omega), t9, e1]
  refine m_in (a := 0) (b := S 7 0 0 - 1) (fun q => ⟨bl_0, H0 fun z => q ⟨z.1, ?_⟩⟩) (fun q1 q2 => ⟨bl_1, H1 q1 ?_⟩)
  · rw [tle, t8]
    have := tl.mp z.2
    omega
  · rw [tl, t9]
    have := tle.mp q2
    omega
theorem m_sees_L {c p : Nat} {Q : Int32 → AH → Prop} (W : WFr S) (e14 : S 14 0 0 = nI c) (hc : c < 32768) (hp : p < 8) : ∀ (m k : Nat) (h : AH), k + m = sN S → RM h (up S 4 0 0 (nI (hpA S c p k))) u l → (∀ h1, RM h1 (up S 4 0 0 (nI (hpA S c p (sN S)))) u l → Mag h h1 → Q (nI (lsA S c p (sN S))) h1) → L_X12_sees_17 Q 102 (nI p) (m + 1) (nI k) h := by
  have hs5 := W.2.2.2.2.2.1
  intro m
  induction m with
  | zero =>
    intro k h hk M H
    obtain ⟨mi, ma, R, A, Wm, T, F, Rd, Lg, Kp⟩ := id M
    have Rd' : LkR S ma := Rd.keep (fun _ _ _ _ => rfl) (fun c i j _ _ => (up_c S _ (by omega)).symm)
    have A10 : mi 10 = S 8 0 0 := A.2.2.2.1.trans (up_c S _ (by omega))
    have A17 : mi 17 = nI c := (A.2.2.2.2.2.2.1.trans (up_c S _ (by omega))).trans e14
    have : k = sN S := by omega
    subst this
    refine m_gI R (mg10 _ _ _) ?_
    rw [A10, W.2.1]
    refine ⟨fun _ => m_gI R (mg17 _ _ _) ?_, fun q => absurd (Int32.le_refl _) q⟩
    rw [A17]
    exact ⟨R.o, m_seen W Rd' A10 (MS.any R) hc (by omega) (H h M Mag.rf)⟩
  | succ m ih =>
    intro k h hk M H
    obtain ⟨mi, ma, R, A, Wm, T, F, Rd, Lg, Kp⟩ := id M
    have A10 : mi 10 = S 8 0 0 := A.2.2.2.1.trans (up_c S _ (by omega))
    have A17 : mi 17 = nI c := (A.2.2.2.2.2.2.1.trans (up_c S _ (by omega))).trans e14
    have hd := dig_lt c k
    refine m_gI R (mg10 _ _ _) ?_
    rw [A10, W.2.1, nI_leI (by omega) (by omega)]
    refine ⟨fun q => by omega, fun _ => m_gI R (mg4 _ _ _) (m_gI R (mg17 _ _ _) ?_)⟩
    rw [A17, A.1, up_s]
    have nxt : ∀ x, x = nI (hpA S c p (k + 1)) → pF h 102 12 4 (.int x) (fun h9 => L_X12_sees_17 Q 102 (nI p) (m + 1) (nI k + 1) h9) := by
      intro x hx
      subst hx
      rw [nI_1]
      refine m_told M (fun h1 r1 a1 => ih (k + 1) h1 (by omega) ?_ (fun h2 r2 a2 => H h2 r2 (a1.tr a2)))
      rw [up_up] at r1
      exact r1
    refine m_spot hc (by omega) ?_
    rw [nI_eqI (by omega) (by omega)]
    refine ⟨fun z => nxt _ ?_, fun z => nxt _ ?_⟩
    · show nI (hpA S c p k) + 0 = nI (hpA S c p k + (if dig c k = p then 1 else 0))
      rw [if_neg z]; exact Int32.add_zero _
    · show nI (hpA S c p k) + 1 = nI (hpA S c p k + (if dig c k = p then 1 else 0))
      rw [if_pos z]; exact nI_1 _
theorem op_sees {v : Int32} (I : Inv h n) : f_X11_sees 1 v h (fun x h1 => f_X12_sees 102 v h1 (fun y h2 => x = y ∧ Inv h2 n)) := by
  obtain ⟨S, u, l, R, M, W⟩ := I
  obtain ⟨mi, ma, R1, A, -⟩ := id M
  obtain ⟨w1, w2, w3, w4, w5, w6, w7, w8⟩ := id W
  obtain ⟨rd, X, c1, C, xr⟩ := R.road
  have cb := Cd_lt w3 w4.2
  have hp7 := w3.2.2.2.1
  unfold f_X11_sees f_X12_sees
  refine c_posts R (c_isBelow (fun q => rb0 ⟨R1.o, m_isP w3 R1 A.2.2.1 (fun _ => rb0 ⟨rfl, S, u, l, R, M, W⟩) (fun q1 q2 => absurd ⟨q1, q2⟩ q)⟩) (fun q1 q2 => rb1 ?_))
  have q2' := q2
  rw [w3.1] at q2
  obtain ⟨p, hp, rfl⟩ := lt_nI (x := v) (m := pN S) (by omega) q1 q2
  refine gR_of c1 rfl (gI_of c1 rfl ?_)
  rw [w4.1]
  refine ⟨C.o, c_heap w3 C cb (by omega) (c_told2 R (fun h1 r1 a1 b1 => ?_))⟩
  obtain ⟨rd2, X2, c2, C2, -⟩ := r1.road
  have sR : sameR (up S 4 0 0 (nI (hpA S (stN S) p (sN S)))) S := fun c i j _ _ => (up_c S _ (by omega)).symm
  have C3 : Crod h1 rd2 S X2 := C2.keep (fun _ _ => rfl) sR
  refine gR_of c2 rfl (gI_of c2 rfl ?_)
  rw [up_c _ _ (by omega), w4.1]
  refine ⟨C3.o, c_least w3 C3 cb (by omega) ?_⟩
  have R1' := R1.keep a1
  refine ⟨R1'.o, m_isP w3 R1' A.2.2.1 (fun q => absurd ⟨q1, q2'⟩ q) (fun _ _ => rb1 (m_told (M.keep a1) (fun h2 r2 a2 => ⟨sN S + 1, m_sees_L w3 w4.1 cb (by omega) (sN S) 0 h2 (by omega) r2 (fun h3 r3 a3 => ⟨rfl, Inv.of r1 r3 (a2.tr a3) (WF_told W _)⟩)⟩)))⟩
end SEES
