section MAY2
variable {h : AH} {S : SS} {u l : Int64} {n : Nat}
theorem m_seenFrom {j p z : Nat} {v3 : Int32} {Q : Int32 → AH → Prop} {K : Int32 → Int32 → AH → Prop} (M : RM h S u l) (W : WF S) (hj : j < 6) (hz : S 0 j 0 = nI z) (hz8 : z ≤ 7) (hp : p ≤ 7) (H : K (if sfB S (stN S) j p z then v3 ||| ((1 : Int32) <<< (nI p &&& 31)) else v3) (nI (p + 1)) h) : ∃ nn, L_X12_may_107 Q K 102 (nI j) (nI z) v3 (nI p) nn (1 : Int32) (0 : Int32) h := by
  obtain ⟨w1, w2, w3, w4, w5, w6, w7, w8⟩ := id W
  have cb := Cd_lt w3 w4.2
  obtain ⟨mi, ma, R1, A, Wm, T, F, Rd, Lg, Kp⟩ := id M
  have tz : (S 0 j 0).toInt = z := by rw [hz, nI_toInt (by omega)]
  have main : ∀ (m i : Nat) (v5 : Int32), i + m = z → v5 = (if sfB S (stN S) j p i then 1 else 0) → L_X12_may_107 Q K 102 (nI j) (nI z) v3 (nI p) (m + 1) v5 (nI i) h := by
    intro m
    induction m with
    | zero =>
      intro i v5 hi e
      have : i = z := by omega
      subst this
      refine ⟨fun _ => ?_, fun q => absurd (Int32.le_refl _) q⟩
      rw [nI_1]
      cases g : sfB S (stN S) j p i with
      | false => rw [g] at e H; subst e; exact ⟨fun _ => by rw [Int32.or_zero]; exact H, fun q => absurd rfl q⟩
      | true => rw [g] at e H; subst e; exact ⟨fun q => absurd q (by decide), fun _ => H⟩
    | succ m ih =>
      intro i v5 hi e
      refine ⟨fun q => absurd q (by rw [nI_leI (by omega) (by omega)]; omega), fun _ => ?_⟩
      rw [nI_1]
      cases g : sfB S (stN S) j p i with
      | false =>
        rw [g] at e; subst e
        refine ⟨fun _ => ih (i + 1) 0 (by omega) ?_, fun q => absurd rfl q⟩
        have := sfB_f g 1
        rw [this]
        rfl
      | true =>
        rw [g] at e; subst e
        refine ⟨fun q => absurd q (by decide), fun _ => m_gI R1 (mg17 _ _ _) ?_⟩
        rw [A.2.2.2.2.2.2.1, w4.1, nI_add]
        refine ⟨R1.o, m_seen w3 Rd A.2.2.2.1 (MS.any R1) cb (by omega) (m_place hj (by omega) (by omega) M ⟨fun q => ih (i + 1) 0 (by omega) ?_, fun q => ih (i + 1) 1 (by omega) ?_⟩)⟩
        · rw [show sfB S (stN S) j p (i + 1) = (sfB S (stN S) j p i && decide (nI (lsA S (stN S) (p + i) (sN S)) = S 1 j i)) from rfl, g, decide_eq_false q]; rfl
        · rw [show sfB S (stN S) j p (i + 1) = (sfB S (stN S) j p i && decide (nI (lsA S (stN S) (p + i) (sN S)) = S 1 j i)) from rfl, g, decide_eq_true q]; rfl
  exact ⟨z + 1, main z 0 1 (by omega) rfl⟩
theorem m_bits {j z : Nat} {Q : Int32 → AH → Prop} (M : RM h S u l) (W : WF S) (hj : j < 6) (hz : S 0 j 0 = nI z) (hz1 : 1 ≤ z) (hzp : z ≤ pN S) (H : Q (bts S (stN S) j z (pN S - z + 1)) h) : ∃ nn, L_X12_may_90 Q 102 (nI j) (nI z) nn (0 : Int32) (0 : Int32) h := by
  obtain ⟨w1, w2, w3, w4, w5, w6, w7, w8⟩ := id W
  have hp7 := w3.2.2.2.1
  obtain ⟨mi, ma, R1, A, -⟩ := id M
  have main : ∀ (m p : Nat), p + m = pN S - z + 1 → L_X12_may_90 Q 102 (nI j) (nI z) (m + 1) (bts S (stN S) j z p) (nI p) h := by
    intro m
    induction m with
    | zero =>
      intro p hp
      have : p = pN S - z + 1 := by omega
      subst this
      refine m_gI R1 (mg9 _ _ _) ?_
      rw [A.2.2.1, w3.1, nI_add, nI_ltI (by omega) (by omega)]
      exact ⟨fun _ => H, fun q => absurd (by omega) q⟩
    | succ m ih =>
      intro p hp
      have ih := ih (p + 1) (by omega)
      rw [bts] at ih
      refine m_gI R1 (mg9 _ _ _) ?_
      rw [A.2.2.1, w3.1, nI_add, nI_ltI (by omega) (by omega)]
      exact ⟨fun q => by omega, fun _ => m_seenFrom M W hj hz (by omega) (by omega) ih⟩
  exact ⟨pN S - z + 1 + 1, main _ 0 (by omega)⟩
end MAY2
