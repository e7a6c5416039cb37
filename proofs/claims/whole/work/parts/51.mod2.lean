theorem ix60 (j k : Nat) : (60 : Int32) * nI j + nI k = nI (60 * j + k) := by
  show nI 60 * nI j + nI k = _
  rw [pk_mul, nI_add]
/-- both heaps hold one state -/
def Inv (h : AH) (n : Nat) : Prop := ∃ S u l, RC h S u l n ∧ RM h S u l ∧ WF S
section M2
variable {h : AH} {S : SS} {u l : Int64} {n : Nat} {Q : Int32 → AH → Prop}
/-- the class has gone from h to h1, the model from h1 to h2 -/
theorem Inv.of {h1 h2 : AH} {S1 : SS} (R1 : RC h1 S1 u l n) (R2 : RM h2 S1 u l) (a2 : Mag h1 h2) (W : WF S1) : Inv h2 n := ⟨S1, u, l, R1.keepM a2, R2, W⟩
theorem WF_fnd (W : WF S) (f : Nat) : WF (fnd S f) := (sameT_fnd S f).WF W
theorem WF_told (W : WF S) (v : Int32) : WF (up S 4 0 0 v) := (sameT_told S v).WF W
/-- only rows' or texts' places and sizes differ -/
theorem WF_rows {S1 : SS} (W : WF S) (HS : ∀ c i j, 4 ≤ c → S1 c i j = S c i j) (h0 : ∀ r, r < 6 → -1 ≤ (S1 0 r 0).toInt ∧ (S1 0 r 0).toInt ≤ 60) (h2 : ∀ r, r < 4 → -1 ≤ (S1 2 r 0).toInt ∧ (S1 2 r 0).toInt ≤ 60) : WF S1 := by
  have SR : sameR S S1 := fun c i j x y => HS c i j (by omega)
  have d1 : dnN S1 = dnN S := by unfold dnN; rw [HS 16 0 0 (by omega)]
  have d2 : stN S1 = stN S := by unfold stN; rw [HS 14 0 0 (by omega)]
  have d3 : rlN S1 = rlN S := by unfold rlN; rw [HS 15 0 0 (by omega)]
  obtain ⟨w1, w2, w3, w4, w5, w6, w7, w8⟩ := W
  refine ⟨h0, h2, sr_WFr SR w3, ?_, ?_, ?_, fun i hi => ?_, fun k hk => ?_⟩
  · rw [HS 14 0 0 (by omega), d2, sr_Cd SR]; exact w4
  · rw [HS 15 0 0 (by omega), d3]; exact w5
  · rw [HS 16 0 0 (by omega), d1]; exact w6
  · rw [d1] at hi
    rw [HS 17 i 0 (by omega), HS 18 i 0 (by omega), HS 19 i 0 (by omega), sr_w SR, sr_Cd SR]
    obtain ⟨a1, a2, a3, a4⟩ := w7 i hi
    exact ⟨a1, a2, a3, fun k => by rw [HS 20 i k (by omega)]; exact a4 k⟩
  · rw [HS 21 k 0 (by omega), HS 22 k 0 (by omega), sr_Cd SR]
    exact w8 k hk
theorem toInt_le60 {k : Int32} (h0 : 0 ≤ k) (h1 : k ≤ 60) : -1 ≤ k.toInt ∧ k.toInt ≤ 60 := by
  have a := Int32.le_iff_toInt_le.mp h0
  have b := Int32.le_iff_toInt_le.mp h1
  have e0 : (0 : Int32).toInt = 0 := rfl
  have e1 : (60 : Int32).toInt = 60 := rfl
  omega
theorem WF_mkr {c j : Nat} {k v : Int32} (W : WF S) (hc : c = 0 ∨ c = 2) (h0 : 0 ≤ k) (h1 : k ≤ 60) : WF (mkr S c j k v) := by
  refine WF_rows W (fun c' i j x => mkr_c (by omega) (by omega)) (fun r hr => ?_) (fun r hr => ?_)
  · unfold mkr
    split
    · exact toInt_le60 h0 h1
    · rw [if_neg (by omega)]; exact W.1 r hr
  · unfold mkr
    split
    · exact toInt_le60 h0 h1
    · rw [if_neg (by omega)]; exact W.2.1 r hr
/-- a row's first i places are written -/
theorem m_makes_L {j : Nat} {mi : Nat → Int32} {Q : AH → Prop} (hj : j < 6) : ∀ (m i : Nat) (h : AH) (ma : Nat → Nat → Int32), i + m = 60 → RepM h mi u l ma → (∀ h1 g, RepM h1 mi u l (va_up ma 1 g) → Mag h h1 → (∀ x, (60 * j + i ≤ x ∧ x < 60 * j + 60 → g x = 0) ∧ (¬ (60 * j + i ≤ x ∧ x < 60 * j + 60) → g x = ma 1 x)) → Q h1) → L_X12_makes_9 Q 102 (nI j) (m + 1) (nI i) h := by
  intro m
  induction m with
  | zero =>
    intro i h ma hi R H
    show B_X12_makes_9 _ _ _ _ _ _
    unfold B_X12_makes_9
    refine pk_le 60 i (fun q => ?_) (fun q => by omega)
    have e : va_up ma 1 (ma 1) = ma := by
      funext a
      by_cases e : a = 1
      · subst e; rw [va_up_self]
      · rw [va_up_ne _ _ e]
    exact H h (ma 1) (by rw [e]; exact R) Mag.rf (fun x => ⟨fun q2 => by omega, fun _ => rfl⟩)
  | succ m ih =>
    intro i h ma hi R H
    show B_X12_makes_9 _ _ _ _ _ _
    unfold B_X12_makes_9
    refine pk_le 60 i (fun q => by omega) (fun q => m_gR R (mr1 _ _ _) ?_)
    rw [ix60]
    refine m_sI R (j := 1) rfl rfl rfl (vp_in_nI (by omega) (by omega)) (fun h1 r1 a1 => ?_)
    rw [nI_1, nI_clamp (by omega)] at *
    refine ih (i + 1) h1 _ (by omega) r1 (fun h2 g r2 a2 hg => H h2 g ?_ (a1.tr a2) (fun x => ?_))
    · rw [bx_uu] at r2; exact r2
    · obtain ⟨g1, g2⟩ := hg x
      rw [va_up_self] at g2
      refine ⟨fun q2 => ?_, fun q2 => ?_⟩
      · by_cases e : x = 60 * j + i
        · rw [g2 (by omega), e, pk_us]
        · exact g1 (by omega)
      · rw [g2 (by omega), pk_un (by omega)]
theorem m_makes {j : Nat} {k : Int32} {Q : AH → Prop} (hj : j < 6) (h0 : k ≤ 60) (WS : WF S) (R : RM h S u l) (H : ∀ h1, RM h1 (mkr S 0 j k 0) u l → Mag h h1 → Q h1) : f_X12_makes 102 (nI j) k h Q := by
  obtain ⟨mi, ma, R1, A, W, T, F, Rd, Lg, K⟩ := R
  unfold f_X12_makes
  refine m_gR R1 (mr0 _ _ _) (m_sI R1 (j := 0) rfl rfl rfl (vp_in_nI hj (by omega)) (fun h1 r1 a1 => ⟨61, m_makes_L hj 60 0 h1 _ (by omega) r1 (fun h2 g r2 a2 hg => H h2 ?_ (a1.tr a2))⟩))
  refine RM.keepW (c := 0) (Or.inl rfl) r2 A W T F Rd Lg K (fun j i x y => by rw [va_up_ne _ _ y, va_up_ne _ _ x]) (fun c' i j x y => mkr_c x y) (fun _ => ⟨fun r hr => ?_, fun r hr i hi => ?_⟩) (fun q => absurd q (by omega))
  · rw [va_up_ne _ _ (by omega), va_up_self, nI_clamp (by omega)]
    by_cases e : r = j
    · subst e; rw [pk_us, mkr_z]
    · rw [pk_un e, mkr_n e]; exact W.1 r hr
  · rw [va_up_self]
    obtain ⟨g1, g2⟩ := hg (60 * r + i)
    by_cases e : r = j
    · subst e
      rw [mkr_z] at hi
      have b := Int32.le_iff_toInt_le.mp h0
      have e1 : (60 : Int32).toInt = 60 := rfl
      rw [g1 (by omega)]
      exact mkr_p.symm
    · rw [mkr_n e] at hi
      rw [mkr_n e, g2 ?_, va_up_ne _ _ (by omega)]
      · exact W.2 r hr i hi
      · have := (WS.1 r hr).2
        omega
theorem op_row {r k : Int32} (I : Inv h n) : f_X11_row 1 r k h (fun x h1 => f_X12_row 102 r k h1 (fun y h2 => x = y ∧ Inv h2 n)) := by
  obtain ⟨S, u, l, R, M, W⟩ := I
  unfold f_X12_row
  refine C_row R (fun q => m_isRow (fun _ => br0 ⟨rfl, S, u, l, R, M, W⟩) (fun q1 q2 => by grind)) (fun q => m_isRow (fun _ => br0 ⟨rfl, S, u, l, R, M, W⟩) (fun q1 q2 => br1 ⟨fun c => by grind, fun _ => ⟨rfl, S, u, l, R, M, W⟩⟩)) (fun j hj e q h1 r1 a1 => ?_) (fun j hj e q1 q2 h1 r1 a1 => ?_)
  · have M1 := M.keep a1
    subst e
    refine m_isRow (fun q2 => absurd q2 (by have := nI_lt hj (show 6 < 2 ^ 31 by omega); have := nI_pos' (n := j) (by omega); grind [show nI 6 = 6 from rfl])) (fun q1 q2 => br1 ⟨fun _ => ⟨fun c => by grind, fun _ => ⟨M1.o, m_find (f := 5) (by omega) M1 (fun h2 r2 a2 => ⟨rfl, Inv.of r1 r2 a2 (WF_fnd W 5)⟩)⟩⟩, fun c => by grind⟩)
  · have M1 := M.keep a1
    subst e
    refine m_isRow (fun q2 => absurd q2 (by have := nI_lt hj (show 6 < 2 ^ 31 by omega); have := nI_pos' (n := j) (by omega); grind [show nI 6 = 6 from rfl])) (fun _ _ => br1 ⟨fun _ => ⟨fun _ => ⟨M1.o, m_makes hj q2 W M1 (fun h2 r2 a2 => ⟨rfl, Inv.of r1 r2 a2 (WF_mkr W (Or.inl rfl) q1 q2)⟩)⟩, fun c => absurd q1 c⟩, fun c => absurd q2 c⟩)
end M2
