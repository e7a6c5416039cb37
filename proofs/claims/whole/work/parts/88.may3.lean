/-! loops in general -/
theorem lpG {α : Type} {L : Nat → α → AH → Prop} {I : Nat → α → AH → Prop} (z : Nat) (he : ∀ m a h, I z a h → L (m + 1) a h) (hs : ∀ i m a h, i < z → I i a h → (∀ a' h', I (i + 1) a' h' → L m a' h') → L (m + 1) a h) : ∀ (k i : Nat), i + k = z → ∀ a h, I i a h → L (k + 1) a h := by
  intro k
  induction k with
  | zero =>
    intro i hi a h H
    have : i = z := by omega
    subst this
    exact he 0 a h H
  | succ k ih =>
    intro i hi a h H
    exact hs i (k + 1) a h (by omega) H (fun a' h' H' => ih (i + 1) (by omega) a' h' H')
/-- a loop that leaves the heap as it is: no sum; a sum f -/
theorem lpZ {L : Nat → Int32 → AH → Prop} {h : AH} (z : Nat) (he : ∀ m, L (m + 1) (nI z) h) (hs : ∀ i m, i < z → L m (nI (i + 1)) h → L (m + 1) (nI i) h) : ∃ n, L n (0 : Int32) h :=
  ⟨z + 1, lpG (L := L) (I := fun i a h1 => a = nI i ∧ h1 = h) z (fun m a h1 H => by obtain ⟨rfl, rfl⟩ := H; exact he m) (fun i m a h1 hi H K => by obtain ⟨rfl, rfl⟩ := H; exact hs i m hi (K _ _ ⟨rfl, rfl⟩)) z 0 (by omega) (0 : Int32) h ⟨rfl, rfl⟩⟩
theorem lpA {α : Type} {L : Nat → α → Int32 → AH → Prop} {h : AH} (f : Nat → α) (z : Nat) (he : ∀ m, L (m + 1) (f z) (nI z) h) (hs : ∀ i m, i < z → L m (f (i + 1)) (nI (i + 1)) h → L (m + 1) (f i) (nI i) h) : ∃ n, L n (f 0) (0 : Int32) h :=
  ⟨z + 1, lpG (L := fun n (a : α × Int32) h => L n a.1 a.2 h) (I := fun i a h1 => a = (f i, nI i) ∧ h1 = h) z (fun m a h1 H => by obtain ⟨rfl, rfl⟩ := H; exact he m) (fun i m a h1 hi H K => by obtain ⟨rfl, rfl⟩ := H; exact hs i m hi (K _ _ ⟨rfl, rfl⟩)) z 0 (by omega) (f 0, (0 : Int32)) h ⟨rfl, rfl⟩⟩
section MAY3
variable {h : AH} {S : SS} {u l : Int64} {n : Nat}
def ok9 (S : SS) (j k : Nat) : Prop := 0 ≤ S 1 j k ∧ S 1 j k < 10
theorem sz_of {j : Nat} (W : WF S) (hj : j < 6) (q : 0 ≤ S 0 j 0) : ∃ z : Nat, S 0 j 0 = nI z ∧ z ≤ 60 := by
  have t0 := tle.mp q
  rw [ti_0] at t0
  have t60 := (W.1 j hj).2
  exact ⟨(S 0 j 0).toInt.toNat, ti_ext (by rw [nI_toInt (by omega)]; omega), by omega⟩
theorem c_may_L {j z : Nat} {Q : Int32 → AH → Prop} (hj : j < 6) (R : RC h S u l n) (hz : S 0 j 0 = nI z) (hz60 : z ≤ 60)
    (Hb : (∃ k, k < z ∧ ¬ ok9 S j k) → ∀ h1, RC h1 (fnd S 3) u l n → Cag h h1 → Q (-3) h1)
    (Hg : (∀ k, k < z → ok9 S j k) → ∃ n, L_X11_may_94 Q 1 (22 + 2 * j) n (0 : Int32) (0 : Int32) h) :
    ∀ (m i : Nat), i + m = z → (∀ k, k < i → ok9 S j k) → L_X11_may_53 Q 1 (22 + 2 * j) (m + 1) (nI i) h := by
  have rw_ := R.rows.2 j hj
  have tz : (S 0 j 0).toInt = z := by rw [hz, nI_toInt (by omega)]
  intro m
  induction m with
  | zero =>
    intro i hi ok
    have : i = z := by omega
    subst this
    exact gI_of rw_.1 rfl ⟨fun _ => Hg ok, fun q => absurd (by rw [hz]; exact Int32.le_refl _) q⟩
  | succ m ih =>
    intro i hi ok
    refine gI_of rw_.1 rfl ⟨fun q => absurd q ?_, fun _ => ⟨isO_of rw_.1, c_get rw_ (by omega) (fun q => absurd ⟨nI_pos' (by omega), by rw [hz]; exact nI_lt (by omega) (by omega)⟩ q) (fun k e hk1 hk2 => ?_)⟩⟩
    · rw [hz, nI_leI (by omega) (by omega)]; omega
    · have e2 : i = k := (nI_eqI (by omega) (by omega)).mp e
      subst e2
      refine c_isBelow (fun q => rb0 ⟨R.o, c_found (f := 3) (by omega) R (Hb ⟨i, by omega, q⟩)⟩) (fun q1 q2 => rb1 ?_)
      rw [nI_1]
      refine ih (i + 1) (by omega) fun k hk => ?_
      by_cases e3 : k = i
      · rw [e3]; exact ⟨q1, q2⟩
      · exact ok k (by omega)
theorem m_may_L {j z : Nat} {Q : Int32 → AH → Prop} (hj : j < 6) (R : RM h S u l) (hz : S 0 j 0 = nI z) (hz60 : z ≤ 60)
    (Hb : (∃ k, k < z ∧ ¬ ok9 S j k) → ∀ h1, RM h1 (fnd S 3) u l → Mag h h1 → Q (-3) h1)
    (Hg : (∀ k, k < z → ok9 S j k) → ∃ n, L_X12_may_90 Q 102 (nI j) (nI z) n (0 : Int32) (0 : Int32) h) :
    ∀ (m i : Nat), i + m = z → (∀ k, k < i → ok9 S j k) → L_X12_may_46 Q 102 (nI j) (nI z) (m + 1) (nI i) h := by
  have tz : (S 0 j 0).toInt = z := by rw [hz, nI_toInt (by omega)]
  intro m
  induction m with
  | zero =>
    intro i hi ok
    have : i = z := by omega
    subst this
    exact ⟨fun _ => Hg ok, fun q => absurd (Int32.le_refl _) q⟩
  | succ m ih =>
    intro i hi ok
    refine ⟨fun q => absurd q ?_, fun _ => m_place hj (by omega) (by omega) R (m_in (a := 0) (b := 9) (fun q => rb0 ⟨R.o, m_find (f := 3) (by omega) R (Hb ⟨i, by omega, fun z => q ⟨z.1, by have := z.2; grind⟩⟩)⟩) (fun q1 q2 => rb1 ?_))⟩
    · rw [nI_leI (by omega) (by omega)]; omega
    · rw [nI_1]
      refine ih (i + 1) (by omega) fun k hk => ?_
      by_cases e3 : k = i
      · rw [e3]; exact ⟨q1, by grind⟩
      · exact ok k (by omega)
theorem M_may {j z : Nat} {Q : Int32 → AH → Prop} (hj : j < 6) (M : RM h S u l) (W : WF S) (hz : S 0 j 0 = nI z) (hz60 : z ≤ 60)
    (Hs : (z = 0 ∨ pN S < z) → ∀ h1, RM h1 (fnd S 5) u l → Mag h h1 → Q (-3) h1)
    (Hb : 1 ≤ z → z ≤ pN S → (∃ k, k < z ∧ ¬ ok9 S j k) → ∀ h1, RM h1 (fnd S 3) u l → Mag h h1 → Q (-3) h1)
    (Hg : 1 ≤ z → z ≤ pN S → (∀ k, k < z → ok9 S j k) → Q (bts S (stN S) j z (pN S - z + 1)) h) : f_X12_may 102 (nI j) h Q := by
  have w3 := W.2.2.1
  have hp7 := w3.2.2.2.1
  obtain ⟨mi, ma, R1, A, -⟩ := id M
  have bad : (z = 0 ∨ pN S < z) → B_X12_may_38 Q 102 h := fun q => ⟨M.o, m_find (f := 5) (by omega) M (Hs q)⟩
  refine m_rowJ hj (rb1 (m_size hj M ⟨fun _ => ?_, fun q => absurd (by rw [hz]; exact nI_pos' (by omega)) q⟩))
  rw [hz]
  have e0 : (nI z = 0) = (z = 0) := propext (nI_eqI (b := 0) (by omega) (by omega))
  rw [e0]
  refine ⟨fun q => bad (Or.inl q), fun q => m_gI R1 (mg9 _ _ _) ?_⟩
  rw [A.2.2.1, w3.1, nI_leI (by omega) (by omega)]
  exact ⟨fun q2 => ⟨z + 1, m_may_L hj M hz hz60 (Hb (by omega) q2) (fun ok => m_bits M W hj hz (by omega) q2 (Hg (by omega) q2 ok)) z 0 (by omega) (fun k hk => by omega)⟩, fun q2 => bad (Or.inr (by omega))⟩
theorem op_may {r : Int32} (I : Inv h n) : f_X11_may 1 r h (fun x h1 => f_X12_may 102 r h1 (fun y h2 => x = y ∧ Inv h2 n)) := by
  obtain ⟨S, u, l, R, M, W⟩ := I
  obtain ⟨w1, w2, w3, w4, w5, w6, w7, w8⟩ := id W
  have hp7 := w3.2.2.2.1
  unfold f_X11_may
  refine c_gR R (fun _ => rfl) ⟨R.o, c_rmiss R R.rows (by omega) (fun q => brm1 (m_rowB (by grind [show nI 6 = 6 from rfl]) (rb0 ⟨rfl, S, u, l, R, M, W⟩))) (fun j hj e q h1 r1 a1 => brm3 ?_) (fun j hj e q => br0 ?_)⟩
  · subst e
    exact m_rowJ hj (rb1 (m_size hj (M.keep a1) ⟨fun z => by grind, fun _ => ⟨(M.keep a1).o, m_find (f := 1) (by omega) (M.keep a1) (fun h2 r2 a2 => ⟨rfl, Inv.of r1 r2 a2 (WF_fnd W 1)⟩)⟩⟩))
  · subst e
    obtain ⟨z, hz, hz60⟩ := sz_of W hj q
    have rw_ := R.rows.2 j hj
    have bad : (z = 0 ∨ pN S < z) → B_X11_may_44 (fun x h1 => f_X12_may 102 (nI j) h1 (fun y h2 => x = y ∧ Inv h2 n)) 1 h := fun q => ⟨R.o, c_found (f := 5) (by omega) R (fun h1 r1 a1 => M_may hj (M.keep a1) W hz hz60 (fun _ h2 r2 a2 => ⟨rfl, Inv.of r1 r2 a2 (WF_fnd W 5)⟩) (fun z1 z2 => by omega) (fun z1 z2 => by omega))⟩
    refine c_gR R (fun _ => rfl) (c_rowAt R.rows hj (by omega) (gI_of rw_.1 rfl ?_))
    rw [hz]
    have e0 : (nI z = 0) = (z = 0) := propext (nI_eqI (b := 0) (by omega) (by omega))
    rw [e0]
    refine ⟨fun q => bad (Or.inl q), fun q => gI_of rw_.1 rfl (c_posts R ?_)⟩
    rw [hz, w3.1, nI_leI (by omega) (by omega)]
    refine ⟨fun q2 => ⟨z + 1, c_may_L hj R hz hz60 (fun bd h1 r1 a1 => ?_) (fun ok => c_bits R W hj hz (by omega) q2 ?_) z 0 (by omega) (fun k hk => by omega)⟩, fun q2 => bad (Or.inr (by omega))⟩
    · refine M_may hj (M.keep a1) W hz hz60 (fun z => by omega) (fun _ _ _ h2 r2 a2 => ⟨rfl, Inv.of r1 r2 a2 (WF_fnd W 3)⟩) (fun _ _ ok => ?_)
      obtain ⟨k, k1, k2⟩ := bd
      exact absurd (ok k k1) k2
    · refine M_may hj M W hz hz60 (fun z => by omega) (fun _ _ bd => ?_) (fun _ _ _ => ⟨rfl, S, u, l, R, M, W⟩)
      obtain ⟨k, k1, k2⟩ := bd
      exact absurd (ok k k1) k2
end MAY3
