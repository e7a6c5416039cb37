section M3
variable {h : AH} {S : SS} {u l : Int64} {n : Nat} {Q : Int32 → AH → Prop}
theorem nI_b {j m : Nat} (hj : j < m) (hm : m < 2 ^ 31) : 0 ≤ nI j ∧ nI j < nI m := ⟨nI_pos' (by omega), nI_lt hj hm⟩
theorem m_rowJ {j : Nat} (hj : j < 6) (H : Q 1 h) : f_X12_isRow (nI j) h Q :=
  m_isRow (fun q => absurd q (by have := nI_b hj (show 6 < 2 ^ 31 by omega); grind [show nI 6 = 6 from rfl])) (fun _ _ => H)
theorem m_rowB {r : Int32} (hr : r < 0 ∨ 6 ≤ r) (H : Q 0 h) : f_X12_isRow r h Q := m_isRow (fun _ => H) (fun q1 q2 => by grind)
theorem m_textJ {j : Nat} (hj : j < 4) (H : Q 1 h) : f_X12_isText (nI j) h Q :=
  m_isText (fun q => absurd q (by have := nI_b hj (show 4 < 2 ^ 31 by omega); grind [show nI 4 = 4 from rfl])) (fun _ _ => H)
theorem m_textB {r : Int32} (hr : r < 0 ∨ 4 ≤ r) (H : Q 0 h) : f_X12_isText r h Q := m_isText (fun _ => H) (fun q1 q2 => by grind)
/-- a size is read -/
theorem m_size {j : Nat} {K : Int32 → Prop} (hj : j < 6) (R : RM h S u l) (H : K (S 0 j 0)) : gR h 102 12 0 (fun a => lI h a (nI j) K) := by
  obtain ⟨mi, ma, R1, A, W, -⟩ := R
  refine m_gR R1 (mr0 _ _ _) (m_lI R1 (j := 0) rfl rfl rfl (vp_in_nI hj (by omega)) ?_)
  rw [nI_clamp (by omega), W.1 j hj]
  exact H
theorem m_tsize {j : Nat} {K : Int32 → Prop} (hj : j < 4) (R : RM h S u l) (H : K (S 2 j 0)) : gR h 102 12 2 (fun a => lI h a (nI j) K) := by
  obtain ⟨mi, ma, R1, A, W, T, -⟩ := R
  refine m_gR R1 (mr2 _ _ _) (m_lI R1 (j := 2) rfl rfl rfl (vp_in_nI hj (by omega)) ?_)
  rw [nI_clamp (by omega), T.1 j hj]
  exact H
theorem m_place {j k : Nat} {K : Int32 → Prop} (hj : j < 6) (hk : k < 60) (hz : (k : Int) < (S 0 j 0).toInt) (R : RM h S u l) (H : K (S 1 j k)) : gR h 102 12 1 (fun a => lI h a ((60 : Int32) * nI j + nI k) K) := by
  obtain ⟨mi, ma, R1, A, W, -⟩ := R
  rw [ix60]
  refine m_gR R1 (mr1 _ _ _) (m_lI R1 (j := 1) rfl rfl rfl (vp_in_nI (by omega) (by omega)) ?_)
  rw [nI_clamp (by omega), W.2 j hj k hz]
  exact H
theorem m_tplace {j k : Nat} {K : Int32 → Prop} (hj : j < 4) (hk : k < 60) (hz : (k : Int) < (S 2 j 0).toInt) (R : RM h S u l) (H : K (S 3 j k)) : gR h 102 12 3 (fun a => lI h a ((60 : Int32) * nI j + nI k) K) := by
  obtain ⟨mi, ma, R1, A, W, T, -⟩ := R
  rw [ix60]
  refine m_gR R1 (mr3 _ _ _) (m_lI R1 (j := 3) rfl rfl rfl (vp_in_nI (by omega) (by omega)) ?_)
  rw [nI_clamp (by omega), T.2 j hj k hz]
  exact H
/-- a place is written -/
theorem m_wr {j k : Nat} {v : Int32} {K : AH → Prop} (WS : WF S) (hj : j < 6) (hk : k < 60) (R : RM h S u l) (H : ∀ h1, RM h1 (up S 1 j k v) u l → Mag h h1 → K h1) : gR h 102 12 1 (fun a => sI h a ((60 : Int32) * nI j + nI k) v K) := by
  obtain ⟨mi, ma, R1, A, W, T, F, Rd, Lg, Kp⟩ := R
  rw [ix60]
  refine m_gR R1 (mr1 _ _ _) (m_sI R1 (j := 1) rfl rfl rfl (vp_in_nI (by omega) (by omega)) (fun h1 r1 a1 => H h1 ?_ a1))
  refine RM.keepW (c := 0) (Or.inl rfl) r1 A W T F Rd Lg Kp (fun j i x y => by rw [va_up_ne _ _ y]) (fun c' i j x y => up_c _ _ y) (fun _ => ⟨fun r hr => ?_, fun r hr i hi => ?_⟩) (fun q => absurd q (by omega))
  · rw [va_up_ne _ _ (by omega), up_c _ _ (by omega)]; exact W.1 r hr
  · rw [up_c _ _ (by omega)] at hi
    have h6 := (WS.1 r hr).2
    rw [va_up_self, nI_clamp (by omega)]
    by_cases e : r = j ∧ i = k
    · rw [e.1, e.2, pk_us, up_s]
    · rw [pk_un (by omega), show up S 1 j k v 1 r i = S 1 r i from if_neg (fun z => e z.2)]
      exact W.2 r hr i hi
theorem m_twr {j k : Nat} {v : Int32} {K : AH → Prop} (WS : WF S) (hj : j < 4) (hk : k < 60) (R : RM h S u l) (H : ∀ h1, RM h1 (up S 3 j k v) u l → Mag h h1 → K h1) : gR h 102 12 3 (fun a => sI h a ((60 : Int32) * nI j + nI k) v K) := by
  obtain ⟨mi, ma, R1, A, W, T, F, Rd, Lg, Kp⟩ := R
  rw [ix60]
  refine m_gR R1 (mr3 _ _ _) (m_sI R1 (j := 3) rfl rfl rfl (vp_in_nI (by omega) (by omega)) (fun h1 r1 a1 => H h1 ?_ a1))
  refine RM.keepW (c := 2) (Or.inr rfl) r1 A W T F Rd Lg Kp (fun j i x y => by rw [va_up_ne _ _ y]) (fun c' i j x y => up_c _ _ y) (fun q => absurd q (by omega)) (fun _ => ⟨fun r hr => ?_, fun r hr i hi => ?_⟩)
  · rw [va_up_ne _ _ (by omega), up_c _ _ (by omega)]; exact T.1 r hr
  · rw [up_c _ _ (by omega)] at hi
    have h6 := (WS.2.1 r hr).2
    rw [va_up_self, nI_clamp (by omega)]
    by_cases e : r = j ∧ i = k
    · rw [e.1, e.2, pk_us, up_s]
    · rw [pk_un (by omega), show up S 3 j k v 3 r i = S 3 r i from if_neg (fun z => e z.2)]
      exact T.2 r hr i hi
theorem WF_wr {c j k : Nat} {v : Int32} (W : WF S) (hc : c = 1 ∨ c = 3) : WF (up S c j k v) :=
  WF_rows W (fun c' i j x => up_c _ _ (by omega)) (fun r hr => by rw [up_c _ _ (by omega)]; exact W.1 r hr) (fun r hr => by rw [up_c _ _ (by omega)]; exact W.2.1 r hr)
/-- in(i, 0, z - 1), where z is a size -/
theorem m_inz {i z : Int32} {Q : Int32 → AH → Prop} (hz : 0 ≤ z) (h0 : ¬ (0 ≤ i ∧ i < z) → Q 0 h) (h1 : 0 ≤ i → i < z → Q 1 h) : f_X12_in i.toInt64 (0 : Int64) ((z - (1 : Int32)).toInt64) h Q :=
  m_in (a := 0) (b := z - 1) (fun q => h0 (by grind)) (fun q1 q2 => h1 q1 (by grind))
theorem m_lacks {j : Nat} {i : Int32} (hj : j < 6) (R : RM h S u l) (h1 : S 0 j 0 < 0 → Q 1 h) (h2 : 0 ≤ S 0 j 0 → ¬ (0 ≤ i ∧ i < S 0 j 0) → Q 2 h) (h3 : 0 ≤ i → i < S 0 j 0 → Q 0 h) : f_X12_lacks 102 (nI j) i h Q := by
  unfold f_X12_lacks
  exact m_size hj R ⟨fun c => m_size hj R (m_inz c (fun q => br0 (h2 c q)) (fun q1 q2 => br1 (h3 q1 q2))), fun c => h1 (by grind)⟩
theorem op_at {r i : Int32} (I : Inv h n) : f_X11_at 1 r i h (fun x h1 => f_X12_at 102 r i h1 (fun y h2 => x = y ∧ Inv h2 n)) := by
  obtain ⟨S, u, l, R, M, W⟩ := I
  unfold f_X12_at
  refine C_at W R (fun q => m_rowB q (rb0 ⟨rfl, S, u, l, R, M, W⟩)) (fun j hj e q h1 r1 a1 => ?_) (fun j hj e q d h1 r1 a1 => ?_) (fun j hj e k ek k1 k2 h1 r1 a1 => ?_)
  all_goals
    have M1 := M.keep a1
    subst e
    refine m_rowJ hj (rb1 ⟨M1.o, m_lacks hj M1 (fun z => ?_) (fun z z2 => ?_) (fun z z2 => ?_)⟩)
  · exact ⟨fun c => absurd c (by decide), fun _ => ⟨M1.o, m_find (f := 1) (by omega) M1 (fun h2 r2 a2 => ⟨rfl, Inv.of r1 r2 a2 (WF_fnd W 1)⟩)⟩⟩
  · exact absurd q (by grind)
  · exact absurd q (by grind)
  · exact absurd q (by grind)
  · exact ⟨fun c => absurd c (by decide), fun _ => ⟨M1.o, m_find (f := 2) (by omega) M1 (fun h2 r2 a2 => ⟨rfl, Inv.of r1 r2 a2 (WF_fnd W 2)⟩)⟩⟩
  · exact absurd ⟨z, z2⟩ d
  · subst ek; exact absurd ((idx_lt (by omega)).mpr k2) (by have := nI_pos' (n := k) (by omega); grind)
  · subst ek; exact absurd ⟨nI_pos' (by omega), (idx_lt (by omega)).mpr k2⟩ z2
  · subst ek
    exact ⟨fun _ => m_place hj k1 k2 M1 ⟨M1.o, m_tells M1 (fun h2 r2 a2 => ⟨rfl, Inv.of r1 r2 a2 (WF_told W _)⟩)⟩, fun c => absurd (by decide) c⟩
theorem op_lay {r i v : Int32} (I : Inv h n) : f_X11_lay 1 r i v h (fun x h1 => f_X12_lay 102 r i v h1 (fun y h2 => x = y ∧ Inv h2 n)) := by
  obtain ⟨S, u, l, R, M, W⟩ := I
  unfold f_X12_lay
  refine C_lay W R (fun q => m_rowB q (rb0 ⟨rfl, S, u, l, R, M, W⟩)) (fun j hj e q h1 r1 a1 => ?_) (fun j hj e q d h1 r1 a1 => ?_) (fun j hj e k ek k1 k2 h1 r1 a1 => ?_)
  all_goals
    have M1 := M.keep a1
    subst e
    refine m_rowJ hj (rb1 ⟨M1.o, m_lacks hj M1 (fun z => ?_) (fun z z2 => ?_) (fun z z2 => ?_)⟩)
  · exact ⟨fun c => absurd c (by decide), fun _ => ⟨M1.o, m_find (f := 1) (by omega) M1 (fun h2 r2 a2 => ⟨rfl, Inv.of r1 r2 a2 (WF_fnd W 1)⟩)⟩⟩
  · exact absurd q (by grind)
  · exact absurd q (by grind)
  · exact absurd q (by grind)
  · exact ⟨fun c => absurd c (by decide), fun _ => ⟨M1.o, m_find (f := 2) (by omega) M1 (fun h2 r2 a2 => ⟨rfl, Inv.of r1 r2 a2 (WF_fnd W 2)⟩)⟩⟩
  · exact absurd ⟨z, z2⟩ d
  · subst ek; exact absurd ((idx_lt (by omega)).mpr k2) (by have := nI_pos' (n := k) (by omega); grind)
  · subst ek; exact absurd ⟨nI_pos' (by omega), (idx_lt (by omega)).mpr k2⟩ z2
  · subst ek
    exact ⟨fun _ => m_place hj k1 k2 M1 (m_told M1 (fun h2 r2 a2 => m_wr (WF_told W _) hj k1 r2 (fun h3 r3 a3 => ⟨rfl, Inv.of r1 r3 (a2.tr a3) (WF_wr (WF_told W _) (Or.inl rfl))⟩))), fun c => absurd (by decide) c⟩
theorem op_put {r i v : Int32} (I : Inv h n) : f_X11_put 1 r i v h (fun x h1 => f_X12_put 102 r i v h1 (fun y h2 => x = y ∧ Inv h2 n)) := by
  obtain ⟨S, u, l, R, M, W⟩ := I
  unfold f_X12_put
  refine C_put W R (fun q => m_textB q (rb0 ⟨rfl, S, u, l, R, M, W⟩)) (fun j hj e q h1 r1 a1 => ?_) (fun j hj e q d h1 r1 a1 => ?_) (fun j hj e k ek k1 k2 h1 r1 a1 => ?_)
  all_goals
    have M1 := M.keep a1
    subst e
  · exact m_textJ hj (rb1 (m_tsize hj M1 ⟨fun c => by grind, fun _ => ⟨M1.o, m_find (f := 1) (by omega) M1 (fun h2 r2 a2 => ⟨rfl, Inv.of r1 r2 a2 (WF_fnd W 1)⟩)⟩⟩))
  · exact m_textJ hj (rb1 (m_tsize hj M1 ⟨fun c => m_tsize hj M1 (m_inz c (fun _ => rb0 ⟨M1.o, m_find (f := 2) (by omega) M1 (fun h2 r2 a2 => ⟨rfl, Inv.of r1 r2 a2 (WF_fnd W 2)⟩)⟩) (fun z z2 => absurd ⟨z, z2⟩ d)), fun c => absurd q c⟩))
  · subst ek
    have q2 := (idx_lt (k := k) (by omega)).mpr k2
    have q1 := nI_pos' (n := k) (by omega)
    exact m_textJ hj (rb1 (m_tsize hj M1 ⟨fun c => m_tsize hj M1 (m_inz c (fun z => absurd ⟨q1, q2⟩ z) (fun _ _ => rb1 (m_tplace hj k1 k2 M1 (m_twr W hj k1 M1 (fun h2 r2 a2 => ⟨rfl, Inv.of r1 r2 a2 (WF_wr W (Or.inr rfl))⟩))))), fun c => by grind⟩))
theorem op_tear {r : Int32} (I : Inv h n) : f_X11_tear 1 r h (fun x h1 => f_X12_tear 102 r h1 (fun y h2 => x = y ∧ Inv h2 n)) := by
  obtain ⟨S, u, l, R, M, W⟩ := I
  unfold f_X12_tear
  refine C_tear R (fun q => m_rowB q (rb0 ⟨rfl, S, u, l, R, M, W⟩)) (fun j hj e q h1 r1 a1 => ?_) (fun j hj e q h1 r1 a1 => ?_)
  all_goals
    have M1 := M.keep a1
    subst e
  · exact m_rowJ hj (rb1 (m_size hj M1 ⟨fun c => by grind, fun _ => ⟨M1.o, m_find (f := 1) (by omega) M1 (fun h2 r2 a2 => ⟨rfl, Inv.of r1 r2 a2 (WF_fnd W 1)⟩)⟩⟩))
  · refine m_rowJ hj (rb1 (m_size hj M1 ⟨fun c => ?_, fun c => absurd q c⟩))
    obtain ⟨mi, ma, R1, A, Wm, T, F, Rd, Lg, Kp⟩ := M1
    refine m_gR R1 (mr0 _ _ _) (m_sI R1 (j := 0) rfl rfl rfl (vp_in_nI hj (by omega)) (fun h2 r2 a2 => ⟨rfl, Inv.of r1 ?_ a2 ?_⟩))
    · refine RM.keepW (c := 0) (Or.inl rfl) r2 A Wm T F Rd Lg Kp (fun j i x y => by rw [va_up_ne _ _ x]) (fun c' i j x y => up_c _ _ x) (fun _ => ⟨fun r hr => ?_, fun r hr i hi => ?_⟩) (fun q => absurd q (by omega))
      · rw [va_up_self, nI_clamp (by omega)]
        by_cases e : r = j
        · subst e; rw [pk_us, up_s]
        · rw [pk_un e, up_i _ _ e]; exact Wm.1 r hr
      · rw [va_up_ne _ _ (by omega), up_c _ _ (by omega)]
        by_cases e : r = j
        · subst e
          rw [up_s] at hi
          have : (-1 : Int32).toInt = -1 := rfl
          omega
        · rw [up_i _ _ e] at hi; exact Wm.2 r hr i hi
    · refine WF_rows W (fun c' i j x => up_c _ _ (by omega)) (fun r hr => ?_) (fun r hr => by rw [up_c _ _ (by omega)]; exact W.2.1 r hr)
      unfold up
      split
      · decide
      · exact W.1 r hr
end M3
