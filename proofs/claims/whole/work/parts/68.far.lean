/-! how far from home, how many at home -/
def hmc (S : SS) (c : Nat) : Nat → Nat
  | 0 => 0
  | k + 1 => hmc S c k + (if dig c k + 1 = nu S k ∧ nu S k ≤ pN S then 1 else 0)
theorem nI_toN (x : Int32) : nI x.toBitVec.toNat = x := by
  refine Int32.toBitVec_inj.mp (BitVec.eq_of_toNat_eq ?_)
  rw [pk_tn x.toBitVec.isLt]
section FAR
variable {h h0 : AH} {S : SS} {rd : Nat} {X : Nat → Prop} {mi0 : Nat → Int32} {u l : Int64} {ma0 : Nat → Nat → Int32} {T : TR}
theorem MS.any {mi : Nat → Int32} {ma : Nat → Nat → Int32} (R : RepM h mi u l ma) : MS S h mi u l ma (fun k => (ma 22 k).toBitVec.toNat, fun k => (ma 23 k).toBitVec.toNat, (mi 38).toBitVec.toNat) h :=
  ⟨mi, ma, R, Mag.rf, fun _ _ => rfl, fun _ _ _ _ => rfl, fun _ _ => (nI_toN _).symm, fun _ _ => (nI_toN _).symm, (nI_toN _).symm⟩
theorem c_post {c k : Nat} {Q : Int32 → AH → Prop} (hc : c < 32768) (hk : k < 5) (H : Q (nI (dig c k)) h) : f_X5_postOf (nI c) (nI k) h Q := by
  unfold f_X5_postOf
  rw [b_post (by omega) hk]
  exact H
theorem m_spot {c k : Nat} {Q : Int32 → AH → Prop} (hc : c < 32768) (hk : k < 5) (H : Q (nI (dig c k)) h) : f_X12_spotOf (nI c) (nI k) h Q := by
  unfold f_X12_spotOf
  rw [b_shr (by omega) hk]
  exact H
theorem c_far {c : Nat} {Q : Int32 → AH → Prop} (W : WFr S) (C : Crod h rd S X) (hc : c < 32768) (H : Q (nI (apt S c (sN S))) h) : f_X5_farFromHome rd (nI c) h Q := by
  have hs5 := W.2.2.2.2.2.1
  have hp7 := W.2.2.2.1
  obtain ⟨n, hm, wy, fo, fn, fh, fw, ff, wa, st, x1, x2, x3, x4, x5, c1, c2, c3, c4, c5, c6, c7⟩ := C
  have main : ∀ (m k : Nat), k + m = sN S → L_X5_farFromHome_4 Q rd (nI c) (m + 1) (nI (apt S c k)) (nI k) h := by
    intro m
    induction m with
    | zero =>
      intro k hk
      have : k = sN S := by omega
      subst this
      refine gI_of c1 rfl ?_
      rw [W.2.1]
      exact ⟨fun _ => H, fun q => absurd (Int32.le_refl _) q⟩
    | succ m ih =>
      intro k hk
      obtain ⟨d1, d2, d3⟩ := c6 k (by omega)
      have n1 := (W.2.2.2.2.2.2.2.2.1 k (by omega)).2
      have hd := dig_lt c k
      have ih := ih (k + 1) (by omega)
      unfold apt at ih
      refine gI_of c1 rfl ?_
      rw [W.2.1, nI_leI (by omega) (by omega)]
      refine ⟨fun q => by omega, fun _ => ?_⟩
      refine c_post hc (by omega) ?_
      rw [show (7 : Int32) = nI 7 from rfl, nI_eqI (by omega) (by omega), nI_1]
      refine ⟨fun q => gR_of c1 rfl (lI_of c3 (vp_in_nI (by omega) (by omega)) ?_), fun q => ?_⟩
      · rw [if_neg q] at ih
        rw [nI_clamp (by omega), d2]
        unfold homI
        by_cases e : nu S k ≤ pN S
        · rw [if_pos e]
          rw [if_pos e] at ih
          refine ⟨fun z => absurd z (nI_nn _ (by omega)), fun _ => gR_of c1 rfl (lI_of c4 (i := 8 * nI k + nI (dig c k)) ?_ ?_)⟩
          · rw [show (8 : Int32) = nI 8 from rfl, pk_mul, nI_add]
            exact vp_in_nI (by omega) (by omega)
          · rw [show (8 : Int32) = nI 8 from rfl, pk_mul, nI_add, nI_clamp (by omega), d3 _ hd]
            unfold wayI
            rw [if_pos e, nI_add]
            exact ih
        · rw [if_neg e]
          rw [if_neg e] at ih
          exact ⟨fun _ => ih, fun z => absurd rfl z⟩
      · rw [if_pos q] at ih
        rw [show (10 : Int32) = nI 10 from rfl, nI_add]
        exact ih
  exact ⟨sN S + 1, main (sN S) 0 (by omega)⟩
theorem c_homes {c : Nat} {Q : Int32 → AH → Prop} (W : WFr S) (C : Crod h rd S X) (hc : c < 32768) (H : Q (nI (hmc S c (sN S))) h) : f_X5_homeOf rd (nI c) h Q := by
  have hs5 := W.2.2.2.2.2.1
  have hp7 := W.2.2.2.1
  obtain ⟨n, hm, wy, fo, fn, fh, fw, ff, wa, st, x1, x2, x3, x4, x5, c1, c2, c3, c4, c5, c6, c7⟩ := C
  have main : ∀ (m k : Nat), k + m = sN S → L_X5_homeOf_4 Q rd (nI c) (m + 1) (nI (hmc S c k)) (nI k) h := by
    intro m
    induction m with
    | zero =>
      intro k hk
      have : k = sN S := by omega
      subst this
      refine gI_of c1 rfl ?_
      rw [W.2.1]
      exact ⟨fun _ => H, fun q => absurd (Int32.le_refl _) q⟩
    | succ m ih =>
      intro k hk
      obtain ⟨d1, d2, d3⟩ := c6 k (by omega)
      have n1 := (W.2.2.2.2.2.2.2.2.1 k (by omega)).2
      have hd := dig_lt c k
      have ih := ih (k + 1) (by omega)
      unfold hmc at ih
      refine gI_of c1 rfl ?_
      rw [W.2.1, nI_leI (by omega) (by omega)]
      refine ⟨fun q => by omega, fun _ => ?_⟩
      refine c_post hc (by omega) ?_
      rw [nI_1]
      refine gR_of c1 rfl (lI_of c3 (vp_in_nI (by omega) (by omega)) ?_)
      rw [nI_clamp (by omega), d2]
      unfold homI
      by_cases e : nu S k ≤ pN S
      · rw [if_pos e, nI_eqI (by omega) (by omega)]
        refine ⟨fun z => ?_, fun z => ?_⟩
        · rw [if_neg (by omega)] at ih; exact ih
        · rw [if_pos (by omega)] at ih; rw [nI_1]; exact ih
      · rw [if_neg e]
        rw [if_neg (fun z => e z.2)] at ih
        exact ⟨fun _ => ih, fun z => absurd z (nI_nn _ (by omega))⟩
  exact ⟨sN S + 1, main (sN S) 0 (by omega)⟩
theorem m_apartOf {c : Nat} {Q : Int32 → AH → Prop} (W : WFr S) (Rd : LkR S ma0) (A9 : mi0 9 = S 7 0 0) (A10 : mi0 10 = S 8 0 0) (M : MS S h0 mi0 u l ma0 T h) (hc : c < 32768) (H : Q (nI (apt S c (sN S))) h) : f_X12_apartOf 102 (nI c) h Q := by
  have hs5 := W.2.2.2.2.2.1
  have hp7 := W.2.2.2.1
  obtain ⟨mi, ma, R, -, m1, m2, m3, -⟩ := id M
  have main : ∀ (m k : Nat), k + m = sN S → L_X12_apartOf_4 Q 102 (nI c) (m + 1) (nI (apt S c k)) (nI k) h := by
    intro m
    induction m with
    | zero =>
      intro k hk
      have : k = sN S := by omega
      subst this
      refine m_gI R (mg10 _ _ _) ?_
      rw [m1 10 (by omega), A10, W.2.1]
      exact ⟨fun _ => H, fun q => absurd (Int32.le_refl _) q⟩
    | succ m ih =>
      intro k hk
      have n1 := (W.2.2.2.2.2.2.2.2.1 k (by omega)).2
      have hd := dig_lt c k
      have ih := ih (k + 1) (by omega)
      unfold apt at ih
      refine m_gI R (mg10 _ _ _) ?_
      rw [m1 10 (by omega), A10, W.2.1, nI_leI (by omega) (by omega)]
      refine ⟨fun q => by omega, fun _ => ?_⟩
      refine m_spot hc (by omega) ?_
      rw [show (7 : Int32) = nI 7 from rfl, nI_eqI (by omega) (by omega), nI_1]
      refine ⟨fun q => ⟨R.o, m_home W Rd A9 M (by omega) ⟨fun z => ⟨R.o, m_home W Rd A9 M (by omega) ?_⟩, fun z => ?_⟩⟩, fun q => ?_⟩
      · rw [if_neg q] at ih
        by_cases e : nu S k ≤ pN S
        · rw [if_pos e] at ih
          unfold homI
          rw [if_pos e]
          refine m_abs (a := dig c k) (b := nu S k - 1) (by omega) (by omega) rfl ?_
          rw [nI_add]
          unfold ds at ih
          rw [if_pos e] at ih
          have : (if nu S k - 1 ≤ dig c k then dig c k - (nu S k - 1) else nu S k - 1 - dig c k) = (if dig c k ≤ nu S k - 1 then nu S k - 1 - dig c k else dig c k - (nu S k - 1)) := by
            split <;> split <;> omega
          rw [this]
          exact ih
        · unfold homI at z
          rw [if_neg e] at z
          exact absurd z (by decide)
      · rw [if_neg q] at ih
        by_cases e : nu S k ≤ pN S
        · unfold homI at z
          rw [if_pos e] at z
          exact absurd (nI_pos' (by omega)) z
        · rw [if_neg e] at ih
          rw [Int32.add_zero]
          exact ih
      · rw [if_pos q] at ih
        rw [show (10 : Int32) = nI 10 from rfl, nI_add]
        exact ih
  exact ⟨sN S + 1, main (sN S) 0 (by omega)⟩
end FAR
