def whS (S : SS) (j c : Nat) : Nat → SS
  | 0 => mkr S 0 j (S 8 0 0) 0
  | k + 1 => up (whS S j c k) 1 j k (tpI (dig c k))
theorem wh_c {S : SS} {j c x a b : Nat} (hx : 2 ≤ x) : ∀ k, whS S j c k x a b = S x a b
  | 0 => by unfold whS mkr; rw [if_neg (by omega), if_neg (by omega)]
  | k + 1 => by unfold whS; rw [up_c _ _ (by omega), wh_c hx k]
theorem wh_0 {S : SS} {j c : Nat} : ∀ k, whS S j c k 0 j 0 = S 8 0 0
  | 0 => by unfold whS mkr; rw [if_pos ⟨rfl, rfl, rfl⟩]
  | k + 1 => by unfold whS; rw [up_c _ _ (by omega), wh_0 k]
section WHERE2
variable {h : AH} {S : SS} {u l : Int64} {n : Nat}
theorem WF_wh {j c : Nat} (W : WF S) : ∀ k, WF (whS S j c k)
  | 0 => by
    have hs5 := W.2.2.1.2.2.2.2.2.1
    unfold whS
    refine WF_mkr W (Or.inl rfl) ?_ ?_
    · rw [W.2.2.1.2.1]; exact nI_pos' (by omega)
    · rw [W.2.2.1.2.1]; exact nI_le (b := 60) (by omega) (by omega)
  | k + 1 => WF_wr (WF_wh W k) (Or.inl rfl)
theorem c_where_L {j c : Nat} {Q : Int32 → AH → Prop} (W : WF S) (hj : j < 6) (e14 : S 14 0 0 = nI c) (hc : c < 32768) : ∀ (m k : Nat) (h : AH), k + m = sN S → RC h (whS S j c k) u l n → (∀ h1, RC h1 (whS S j c (sN S)) u l n → Cag h h1 → Q (nI (hpA S c 7 (sN S))) h1) → L_X11_where_30 Q 1 (nI j) (m + 1) (nI k) h := by
  have w3 := W.2.2.1
  have hs5 := w3.2.2.2.2.2.1
  intro m
  induction m with
  | zero =>
    intro k h hk R H
    have : k = sN S := by omega
    subst this
    obtain ⟨rd, X, c1, C, -⟩ := R.road
    have C3 : Crod h rd S X := C.keep (fun _ _ => rfl) (fun x a b hx _ => (wh_c (by omega) _).symm)
    refine c_stones R ?_
    rw [wh_c (by omega), w3.2.1]
    refine ⟨fun _ => gR_of c1 rfl (gI_of c1 rfl ?_), fun q => absurd (Int32.le_refl _) q⟩
    rw [wh_c (by omega), e14]
    exact ⟨C3.o, C3.o, c_heap w3 C3 hc (p := 7) (by omega) (H h R Cag.rf)⟩
  | succ m ih =>
    intro k h hk R H
    refine c_stones R ?_
    rw [wh_c (by omega), w3.2.1, nI_leI (by omega) (by omega)]
    refine ⟨fun q => by omega, fun _ => c_gR R (fun _ => rfl) (c_rowAt R.rows hj (by omega) (c_gI R (fun _ => rfl) ?_))⟩
    rw [wh_c (by omega), e14]
    refine c_tell hc (by omega) ⟨R.rows.o hj, c_set (R.rows.2 j hj) (by omega) (by rw [wh_0, w3.2.1, nI_toInt (by omega)]; omega) (fun q => absurd ⟨nI_pos' (by omega), by rw [wh_0, w3.2.1]; exact nI_lt (by omega) (by omega)⟩ q) (fun k' e' k1' k2' e5 r5 => ?_)⟩
    have ek : k = k' := (nI_eqI (by omega) (by omega)).mp e'
    subst ek
    rw [nI_1]
    refine ih (k + 1) _ (by omega) (C_wr (A := 2) (c := 0) (m := 6) (b := 22) (Or.inl ⟨rfl, rfl, rfl, rfl⟩) R R.rows hj r5) (fun h2 r2 a2 => H h2 r2 ((Cag.put (by omega)).tr a2))
theorem m_where_L {j c : Nat} {Q : Int32 → AH → Prop} (W : WF S) (hj : j < 6) (e14 : S 14 0 0 = nI c) (hc : c < 32768) : ∀ (m k : Nat) (h : AH), k + m = sN S → RM h (whS S j c k) u l → (∀ h1, RM h1 (whS S j c (sN S)) u l → Mag h h1 → Q (nI (hpA S c 7 (sN S))) h1) → L_X12_where_22 Q 102 (nI j) (m + 1) (nI (hpA S c 7 k)) (nI k) h := by
  have w3 := W.2.2.1
  have hs5 := w3.2.2.2.2.2.1
  intro m
  induction m with
  | zero =>
    intro k h hk M H
    have : k = sN S := by omega
    subst this
    obtain ⟨mi, ma, R, A, -⟩ := id M
    refine m_gI R (mg10 _ _ _) ?_
    rw [A.2.2.2.1, wh_c (by omega), w3.2.1]
    exact ⟨fun _ => H h M Mag.rf, fun q => absurd (Int32.le_refl _) q⟩
  | succ m ih =>
    intro k h hk M H
    have hd := dig_lt c k
    obtain ⟨mi, ma, R, A, -⟩ := id M
    refine m_gI R (mg10 _ _ _) ?_
    rw [A.2.2.2.1, wh_c (by omega), w3.2.1, nI_leI (by omega) (by omega)]
    refine ⟨fun q => by omega, fun _ => m_gR R (mr1 _ _ _) (m_gI R (mg17 _ _ _) ?_)⟩
    rw [A.2.2.2.2.2.2.1, wh_c (by omega), e14]
    refine m_spot hc (by omega) (m_tellP hd (m_wr2 (WF_wh W k) hj (by omega) M (fun h1 r1 a1 => ?_)))
    obtain ⟨mi1, ma1, R1, A1, -⟩ := id r1
    refine m_gI R1 (mg17 _ _ _) ?_
    rw [A1.2.2.2.2.2.2.1, up_c _ _ (by omega), wh_c (by omega), e14]
    refine m_spot hc (by omega) ?_
    rw [show (7 : Int32) = nI 7 from rfl, nI_eqI (by omega) (by omega), nI_1]
    have ih := ih (k + 1) h1 (by omega) r1 (fun h2 r2 a2 => H h2 r2 (a1.tr a2))
    rw [show hpA S c 7 (k + 1) = hpA S c 7 k + (if dig c k = 7 then 1 else 0) from rfl] at ih
    refine ⟨fun q => ?_, fun q => ?_⟩
    · rw [if_neg q] at ih; rw [Int32.add_zero]; exact ih
    · rw [if_pos q] at ih; rw [nI_1]; exact ih
theorem op_where {r : Int32} (I : Inv h n) : f_X11_where 1 r h (fun x h1 => f_X12_where 102 r h1 (fun y h2 => x = y ∧ Inv h2 n)) := by
  obtain ⟨S, u, l, R, M, W⟩ := I
  obtain ⟨w1, w2, w3, w4, w5, w6, w7, w8⟩ := id W
  have hs5 := w3.2.2.2.2.2.1
  have cb := Cd_lt w3 w4.2
  unfold f_X11_where f_X12_where
  refine c_isBelow (fun q => rb0 (m_rowB (by grind) (rb0 ⟨rfl, S, u, l, R, M, W⟩))) (fun q1 q2 => rb1 ?_)
  obtain ⟨j, hj, rfl⟩ := lt_nI (x := r) (m := 6) (by omega) q1 q2
  have z0 : 0 ≤ S 8 0 0 := by rw [w3.2.1]; exact nI_pos' (by omega)
  have z6 : S 8 0 0 ≤ 60 := by rw [w3.2.1]; exact nI_le (b := 60) (by omega) (by omega)
  refine c_gR R (fun _ => rfl) (c_rowAt R.rows hj (by omega) (c_stones R ⟨R.rows.o hj, C_mk (Or.inl ⟨rfl, rfl, rfl, rfl⟩) R R.rows hj z0 z6 (fun h1 r1 a1 => ⟨sN S + 1, c_where_L W hj w4.1 cb (sN S) 0 h1 (by omega) r1 (fun h2 r2 a2 => ?_)⟩)⟩))
  have M2 := M.keep (a1.tr a2)
  obtain ⟨mi, ma, R1, A, -⟩ := id M2
  refine m_rowJ hj (rb1 (m_gI R1 (mg10 _ _ _) ?_))
  rw [A.2.2.2.1]
  exact ⟨R1.o, m_makes hj z6 W M2 (fun h3 r3 a3 => ⟨sN S + 1, m_where_L W hj w4.1 cb (sN S) 0 h3 (by omega) r3 (fun h4 r4 a4 => ⟨rfl, Inv.of r2 r4 (a3.tr a4) (WF_wh W _)⟩)⟩)⟩
end WHERE2
