section WALKS2
variable {h : AH} {S : SS} {u l : Int64} {n : Nat}
def okw (S : SS) (j k : Nat) : Prop := 0 ≤ S 1 j k ∧ S 1 j k < S 9 0 0
theorem c_scan {j z : Nat} {Q : Int32 → AH → Prop} (hj : j < 6) (R : RC h S u l n) (hz : S 0 j 0 = nI z) (hz60 : z ≤ 60)
    (Hb : (∃ k, k < z ∧ ¬ okw S j k) → ∀ h1, RC h1 (fnd S 3) u l n → Cag h h1 → Q (-3) h1)
    (Hg : (∀ k, k < z → okw S j k) → (((S 16 0 0 + nI z) ≤ (60 : Int32) → ∃ n, L_X11_walks_89 Q 1 (22 + 2 * j) n (0 : Int32) (0 : Int32) h) ∧ (¬ ((S 16 0 0 + nI z) ≤ (60 : Int32)) → Q (-2 : Int32) h))) :
    ∀ (m i : Nat), i + m = z → (∀ k, k < i → okw S j k) → L_X11_walks_26 Q 1 (22 + 2 * j) (m + 1) (nI i) h := by
  have rw_ := R.rows.2 j hj
  have tz : (S 0 j 0).toInt = z := by rw [hz, nI_toInt (by omega)]
  intro m
  induction m with
  | zero =>
    intro i hi ok
    have : i = z := by omega
    subst this
    refine gI_of rw_.1 rfl ⟨fun _ => c_gI R (fun _ => rfl) (gI_of rw_.1 rfl ?_), fun q => absurd (by rw [hz]; exact Int32.le_refl _) q⟩
    rw [hz]
    exact Hg ok
  | succ m ih =>
    intro i hi ok
    refine gI_of rw_.1 rfl ⟨fun q => absurd q ?_, fun _ => ⟨isO_of rw_.1, c_get rw_ (by omega) (fun q => absurd ⟨nI_pos' (by omega), by rw [hz]; exact nI_lt (by omega) (by omega)⟩ q) (fun k e hk1 hk2 => ?_)⟩⟩
    · rw [hz, nI_leI (by omega) (by omega)]; omega
    · have e2 : i = k := (nI_eqI (by omega) (by omega)).mp e
      subst e2
      refine c_walkers R (c_isBelow (fun q => rb0 ⟨R.o, c_found (f := 3) (by omega) R (Hb ⟨i, by omega, q⟩)⟩) (fun q1 q2 => rb1 ?_))
      rw [nI_1]
      refine ih (i + 1) (by omega) fun k hk => ?_
      by_cases e3 : k = i
      · rw [e3]; exact ⟨q1, q2⟩
      · exact ok k (by omega)
theorem m_scan {j z : Nat} {Q : Int32 → AH → Prop} (hj : j < 6) (W : WF S) (R : RM h S u l) (hz : S 0 j 0 = nI z) (hz60 : z ≤ 60)
    (Hb : (∃ k, k < z ∧ ¬ okw S j k) → ∀ h1, RM h1 (fnd S 3) u l → Mag h h1 → Q (-3) h1)
    (Hg : (∀ k, k < z → okw S j k) → (((S 16 0 0 + nI z) ≤ (60 : Int32) → ∃ n, L_X12_walks_89 Q 102 (nI j) n (0 : Int32) (0 : Int32) h) ∧ (¬ ((S 16 0 0 + nI z) ≤ (60 : Int32)) → Q (-2 : Int32) h))) :
    ∀ (m i : Nat), i + m = z → (∀ k, k < i → okw S j k) → L_X12_walks_26 Q 102 (nI j) (m + 1) (nI i) h := by
  have tz : (S 0 j 0).toInt = z := by rw [hz, nI_toInt (by omega)]
  obtain ⟨mi, ma, R1, A, -⟩ := id R
  intro m
  induction m with
  | zero =>
    intro i hi ok
    have : i = z := by omega
    subst this
    refine m_size hj R ⟨fun _ => m_gI R1 (mg20 _ _ _) (m_size hj R ?_), fun q => absurd (by rw [hz]; exact Int32.le_refl _) q⟩
    rw [hz, A.2.2.2.2.2.2.2]
    exact Hg ok
  | succ m ih =>
    intro i hi ok
    refine m_size hj R ⟨fun q => absurd q ?_, fun _ => m_place hj (by omega) (by omega) R ⟨R.o, m_isW W.2.2.1 R1 A.2.2.2.2.1 (fun q => rb0 ⟨R.o, m_find (f := 3) (by omega) R (Hb ⟨i, by omega, q⟩)⟩) (fun q1 q2 => rb1 ?_)⟩⟩
    · rw [hz, nI_leI (by omega) (by omega)]; omega
    · rw [nI_1]
      refine ih (i + 1) (by omega) fun k hk => ?_
      by_cases e3 : k = i
      · rw [e3]; exact ⟨q1, q2⟩
      · exact ok k (by omega)
theorem op_walks {r : Int32} (I : Inv h n) : f_X11_walks 1 r h (fun x h1 => f_X12_walks 102 r h1 (fun y h2 => x = y ∧ Inv h2 n)) := by
  obtain ⟨S, u, l, R, M, W⟩ := I
  obtain ⟨w1, w2, w3, w4, w5, w6, w7, w8⟩ := id W
  have hw5 := w3.2.2.2.2.2.2.1
  unfold f_X11_walks f_X12_walks
  refine c_gR R (fun _ => rfl) ⟨R.o, c_rmiss R R.rows (by omega) (fun q => brm1 (m_rowB (by grind [show nI 6 = 6 from rfl]) (rb0 ⟨rfl, S, u, l, R, M, W⟩))) (fun j hj e q h1 r1 a1 => brm3 ?_) (fun j hj e q => br0 ?_)⟩
  · subst e
    exact m_rowJ hj (rb1 (m_size hj (M.keep a1) ⟨fun z => by grind, fun _ => ⟨(M.keep a1).o, m_find (f := 1) (by omega) (M.keep a1) (fun h2 r2 a2 => ⟨rfl, Inv.of r1 r2 a2 (WF_fnd W 1)⟩)⟩⟩))
  · subst e
    have t0 := tle.mp q
    rw [ti_0] at t0
    have t60 := (w1 j hj).2
    obtain ⟨z, hz⟩ : ∃ z : Nat, S 0 j 0 = nI z ∧ z ≤ 60 := ⟨(S 0 j 0).toInt.toNat, ti_ext (by rw [nI_toInt (by omega)]; omega), by omega⟩
    obtain ⟨hz, hz60⟩ := hz
    have ms : ∀ {h1 : AH} {y : Int32}, RM h1 S u l → (∃ nn, L_X12_walks_26 (fun y' h2 => y = y' ∧ Inv h2 n) 102 (nI j) nn (0 : Int32) h1) → f_X12_isRow (nI j) h1 (fun x1 h2 => ((¬ (x1 = 0) → gR h2 102 12 0 (fun a3 => lI h2 a3 (nI j) (fun x4 => ((0 ≤ x4 → ∃ nn, L_X12_walks_26 (fun y' h2 => y = y' ∧ Inv h2 n) 102 (nI j) nn (0 : Int32) h2) ∧ (¬ (0 ≤ x4) → isO h2 102 12 ∧ f_X12_find 102 (1 : Int32) h2 (fun x5 h6 => y = x5 ∧ Inv h6 n)))))) ∧ (x1 = 0 → y = (-1 : Int32) ∧ Inv h2 n))) := fun m1 H => m_rowJ hj (rb1 (m_size hj m1 ⟨fun _ => H, fun zz => absurd q zz⟩))
    have kp : ∀ m', rwk S j 0 m' → True := fun _ _ => trivial
    have ge : (∀ k, k < z → okw S j k) → (S 16 0 0 + nI z) ≤ (60 : Int32) → rwk S j 0 z := by
      intro ok le
      refine ⟨by rw [hz, Nat.zero_add], fun k hk => ?_, ?_, by omega⟩
      · obtain ⟨o1, o2⟩ := ok k (by omega)
        rw [w3.2.2.1] at o2
        obtain ⟨w, hw, e⟩ := lt_nI (m := wN S) (by omega) o1 o2
        exact ⟨w, hw, e⟩
      · rw [w6.1, nI_add, show (60 : Int32) = nI 60 from rfl, nI_leI (by omega) (by omega)] at le
        exact le
    refine c_gR R (fun _ => rfl) (c_rowAt R.rows hj (by omega) ⟨z + 1, c_scan hj R hz hz60 (fun bad h1 r1 a1 => ?_) (fun ok => ⟨fun le => ⟨z + 1, c_walks_L hj z 0 S 0 h (ge ok le) W R (fun h1 r1 wf1 a1 => ?_)⟩, fun nle => ?_⟩) z 0 (by omega) (fun k hk => by omega)⟩)
    · refine ms (M.keep a1) ⟨z + 1, m_scan hj W (M.keep a1) hz hz60 (fun _ h2 r2 a2 => ⟨rfl, Inv.of r1 r2 a2 (WF_fnd W 3)⟩) (fun ok => ?_) z 0 (by omega) (fun k hk => by omega)⟩
      obtain ⟨k, hk, nk⟩ := bad
      exact absurd (ok k hk) nk
    · refine ms (M.keep a1) ⟨z + 1, m_scan hj W (M.keep a1) hz hz60 (fun bad => ?_) (fun _ => ⟨fun _ => ⟨z + 1, m_walks_W hj z 0 S 0 h1 (ge ok le) W (M.keep a1) (fun h2 r2 a2 => ⟨rfl, Inv.of r1 r2 a2 wf1⟩)⟩, fun nle => absurd le nle⟩) z 0 (by omega) (fun k hk => by omega)⟩
      obtain ⟨k, hk, nk⟩ := bad
      exact absurd (ok k hk) nk
    · refine ms M ⟨z + 1, m_scan hj W M hz hz60 (fun bad => ?_) (fun _ => ⟨fun le => absurd le nle, fun _ => ⟨rfl, S, u, l, R, M, W⟩⟩) z 0 (by omega) (fun k hk => by omega)⟩
      obtain ⟨k, hk, nk⟩ := bad
      exact absurd (ok k hk) nk
end WALKS2
