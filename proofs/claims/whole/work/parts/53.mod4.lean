section M4
variable {h : AH} {S : SS} {u l : Int64} {n : Nat} {Q : Int32 → AH → Prop}
theorem va_up_id {α : Type} (f : Nat → α) (a : Nat) : va_up f a (f a) = f := by
  funext b
  by_cases e : b = a
  · subst e; rw [va_up_self]
  · rw [va_up_ne _ _ e]
theorem m_text_L {j z : Nat} {mi : Nat → Int32} (hj : j < 4) (hz : z ≤ 60) : ∀ (m i : Nat) (h : AH) (ma : Nat → Nat → Int32), i + m = z → RepM h mi u l ma → (∀ h1 g, RepM h1 mi u l (va_up ma 3 g) → Mag h h1 → (∀ x, (60 * j + i ≤ x ∧ x < 60 * j + z → g x = 32) ∧ (¬ (60 * j + i ≤ x ∧ x < 60 * j + z) → g x = ma 3 x)) → Q (nI z) h1) → L_X12_text_34 Q 102 (nI j) (nI z) (m + 1) (nI i) h := by
  intro m
  induction m with
  | zero =>
    intro i h ma hi R H
    show B_X12_text_34 _ _ _ _ _ _ _
    unfold B_X12_text_34
    refine pk_le z i (fun q => ?_) (fun q => by omega)
    exact H h (ma 3) (by rw [va_up_id]; exact R) Mag.rf (fun x => ⟨fun q2 => by omega, fun _ => rfl⟩)
  | succ m ih =>
    intro i h ma hi R H
    show B_X12_text_34 _ _ _ _ _ _ _
    unfold B_X12_text_34
    refine pk_le z i (fun q => by omega) (fun q => m_gR R (mr3 _ _ _) ?_)
    rw [ix60]
    refine m_sI R (j := 3) rfl rfl rfl (vp_in_nI (by omega) (by omega)) (fun h1 r1 a1 => ?_)
    rw [nI_1, nI_clamp (by omega)] at *
    refine ih (i + 1) h1 _ (by omega) r1 (fun h2 g r2 a2 hg => H h2 g ?_ (a1.tr a2) (fun x => ?_))
    · rw [bx_uu] at r2; exact r2
    · obtain ⟨g1, g2⟩ := hg x
      rw [va_up_self] at g2
      refine ⟨fun q2 => ?_, fun q2 => ?_⟩
      · by_cases e : x = 60 * j + i
        · rw [g2 (by omega), e, pk_us]
        · exact g1 (by omega)
      · rw [g2 (by omega), pk_un (by omega)]
theorem le60 {k : Int32} (h0 : 0 ≤ k) (h1 : k ≤ 60) : ∃ z : Nat, k = nI z ∧ z ≤ 60 := by
  obtain ⟨z, hz, rfl⟩ := nI_of (x := k) (by grind)
  have := (nI_leI hz (show 60 < 2 ^ 31 by omega)).mp h1
  exact ⟨z, rfl, this⟩
theorem op_text {r k : Int32} (I : Inv h n) : f_X11_text 1 r k h (fun x h1 => f_X12_text 102 r k h1 (fun y h2 => x = y ∧ Inv h2 n)) := by
  obtain ⟨S, u, l, R, M, W⟩ := I
  unfold f_X12_text
  refine C_text R (fun q => m_textB q (br0 ⟨rfl, S, u, l, R, M, W⟩)) (fun q => m_isText (fun _ => br0 ⟨rfl, S, u, l, R, M, W⟩) (fun q1 q2 => br1 ⟨fun c => by grind, fun _ => ⟨rfl, S, u, l, R, M, W⟩⟩)) (fun j hj e q h1 r1 a1 => ?_) (fun j hj e q1 q2 h1 r1 a1 => ?_)
  all_goals
    have M1 := M.keep a1
    subst e
  · exact m_textJ hj (br1 ⟨fun _ => ⟨fun c => by grind, fun _ => ⟨M1.o, m_find (f := 5) (by omega) M1 (fun h2 r2 a2 => ⟨rfl, Inv.of r1 r2 a2 (WF_fnd W 5)⟩)⟩⟩, fun c => by grind⟩)
  · refine m_textJ hj (br1 ⟨fun _ => ⟨fun _ => ?_, fun c => absurd q1 c⟩, fun c => absurd q2 c⟩)
    obtain ⟨z, rfl, hz⟩ := le60 q1 q2
    obtain ⟨mi, ma, R1, A, Wm, T, F, Rd, Lg, Kp⟩ := M1
    refine m_gR R1 (mr2 _ _ _) (m_sI R1 (j := 2) rfl rfl rfl (vp_in_nI hj (by omega)) (fun h2 r2 a2 => ⟨z + 1, m_text_L hj hz z 0 h2 _ (by omega) r2 (fun h3 g r3 a3 hg => ⟨rfl, Inv.of r1 ?_ (a2.tr a3) (WF_mkr W (Or.inr rfl) q1 q2)⟩)⟩))
    refine RM.keepW (c := 2) (Or.inr rfl) r3 A Wm T F Rd Lg Kp (fun j i x y => by rw [va_up_ne _ _ y, va_up_ne _ _ x]) (fun c' i j x y => mkr_c x y) (fun q => absurd q (by omega)) (fun _ => ⟨fun r hr => ?_, fun r hr i hi => ?_⟩)
    · rw [va_up_ne _ _ (by omega), va_up_self, nI_clamp (by omega)]
      by_cases e : r = j
      · subst e; rw [pk_us, mkr_z]
      · rw [pk_un e, mkr_n e]; exact T.1 r hr
    · rw [va_up_self]
      obtain ⟨g1, g2⟩ := hg (60 * r + i)
      by_cases e : r = j
      · subst e
        rw [mkr_z, nI_toInt (by omega)] at hi
        rw [g1 (by omega)]
        exact mkr_p.symm
      · rw [mkr_n e] at hi
        have h6 := (W.2.1 r hr).2
        rw [mkr_n e, g2 (by omega), va_up_ne _ _ (by omega)]
        exact T.2 r hr i hi
theorem op_mean {r : Int32} (I : Inv h n) : f_X11_mean 1 r h (fun x h1 => f_X12_mean 102 r h1 (fun y h2 => x = y ∧ Inv h2 n)) := by
  obtain ⟨S, u, l, R, M, W⟩ := I
  unfold f_X12_mean
  refine C_mean W R (fun q => m_rowB q (rb0 ⟨rfl, S, u, l, R, M, W⟩)) (fun j hj e q h1 r1 a1 => ?_) (fun j hj e q h1 r1 a1 => ?_) (fun j hj e z ez z0 z6 h1 r1 a1 => ?_)
  all_goals
    have M1 := M.keep a1
    subst e
  · exact m_rowJ hj (rb1 (m_size hj M1 ⟨fun c => by grind, fun _ => ⟨M1.o, m_find (f := 1) (by omega) M1 (fun h2 r2 a2 => ⟨rfl, Inv.of r1 r2 a2 (WF_fnd W 1)⟩)⟩⟩))
  · exact m_rowJ hj (rb1 (m_size hj M1 ⟨fun c => m_size hj M1 ⟨fun c => absurd q c, fun _ => ⟨M1.o, m_find (f := 4) (by omega) M1 (fun h2 r2 a2 => ⟨rfl, Inv.of r1 r2 a2 (WF_fnd W 4)⟩)⟩⟩, fun c => by grind⟩))
  · refine m_rowJ hj (rb1 (m_size hj M1 ⟨fun c => m_size hj M1 ⟨fun c => ⟨z + 1, ?_⟩, fun c => ?_⟩, fun c => absurd (by rw [ez]; exact nI_pos' (by omega)) c⟩))
    · have key : ∀ (m i : Nat), i + m = z → L_X12_mean_44 (fun y h2 => 1 = y ∧ Inv h2 n) 102 (nI j) (m + 1) (smL (fun i => (S 1 j i).toInt64) i) (nI i) h1 := by
        intro m
        induction m with
        | zero =>
          intro i hi
          show B_X12_mean_44 _ _ _ _ _ _ _
          unfold B_X12_mean_44
          refine m_size hj M1 (pk_le z i (fun q => m_size hj M1 ⟨?_, M1.o, ?_⟩) (fun q => by omega) ez)
          · rw [ez]
            intro q
            rw [nI_l (by omega)] at q
            have := (lN_eq (by omega) (by omega : 0 < 2 ^ 31)).mp q
            omega
          · rw [ez]
            have ei : i = z := by omega
            rw [ei]
            exact m_tells M1 (fun h2 r2 a2 => ⟨rfl, Inv.of r1 r2 a2 (WF_told W _)⟩)
        | succ m ih =>
          intro i hi
          show B_X12_mean_44 _ _ _ _ _ _ _
          unfold B_X12_mean_44
          refine m_size hj M1 (pk_le z i (fun q => by omega) (fun q => m_place hj (by omega) (by rw [ez, nI_toInt (by omega)]; omega) M1 ?_) ez)
          rw [nI_1]
          exact ih (i + 1) (by omega)
      exact key z 0 (by omega)
    · rw [ez] at c
      exact absurd c (nI_ne0 z0 (by omega))
end M4
