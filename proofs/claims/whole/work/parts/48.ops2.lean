section C2
variable {h : AH} {S : SS} {u l : Int64} {n : Nat} {r i v : Int32} {Q : Int32 → AH → Prop}
theorem br0 {A B : Prop} (a : A) : ((0 : Int32) = 0 → A) ∧ (¬ (0 : Int32) = 0 → B) := ⟨fun _ => a, fun c => absurd rfl c⟩
theorem br1 {A B : Prop} (b : B) : ((1 : Int32) = 0 → A) ∧ (¬ (1 : Int32) = 0 → B) := ⟨fun c => absurd c (by decide), fun _ => b⟩
theorem brm1 {A B : Prop} (b : B) : ((-1 : Int32) = 0 → A) ∧ (¬ (-1 : Int32) = 0 → B) := ⟨fun c => absurd c (by decide), fun _ => b⟩
theorem brm3 {A B : Prop} (b : B) : ((-3 : Int32) = 0 → A) ∧ (¬ (-3 : Int32) = 0 → B) := ⟨fun c => absurd c (by decide), fun _ => b⟩
theorem rb0 {A B : Prop} (b : B) : (¬ (0 : Int32) = 0 → A) ∧ ((0 : Int32) = 0 → B) := ⟨fun c => absurd rfl c, fun _ => b⟩
theorem rb1 {A B : Prop} (a : A) : (¬ (1 : Int32) = 0 → A) ∧ ((1 : Int32) = 0 → B) := ⟨fun _ => a, fun c => absurd c (by decide)⟩
theorem C_at (W : WF S) (R : RC h S u l n) (h0 : r < 0 ∨ 6 ≤ r → Q (-1) h) (h1 : ∀ j, j < 6 → r = nI j → S 0 j 0 < 0 → ∀ h1, RC h1 (fnd S 1) u l n → Cag h h1 → Q (-3) h1) (h2 : ∀ j, j < 6 → r = nI j → 0 ≤ S 0 j 0 → ¬ (0 ≤ i ∧ i < S 0 j 0) → ∀ h1, RC h1 (fnd S 2) u l n → Cag h h1 → Q (-3) h1)
    (h3 : ∀ j, j < 6 → r = nI j → ∀ k : Nat, i = nI k → k < 60 → (k : Int) < (S 0 j 0).toInt → ∀ h1, RC h1 (up S 4 0 0 (S 1 j k)) u l n → Cag h h1 → Q 1 h1) : f_X11_at 1 r i h Q := by
  unfold f_X11_at
  refine c_gR R (fun _ => rfl) ⟨R.o, c_rplace R R.rows (by omega) (fun q => brm1 (h0 q)) (fun j hj e q h4 r4 a4 => brm3 (h1 j hj e q h4 r4 a4)) (fun j hj e q d h4 r4 a4 => brm3 (h2 j hj e q d h4 r4 a4)) (fun j hj e q1 q2 => br0 ?_)⟩
  subst e
  refine c_gR R (fun _ => rfl) (c_rowAt R.rows hj (by omega) ⟨R.rows.o hj, c_get (R.rows.2 j hj) (W.1 j hj).2 (fun q => absurd ⟨q1, q2⟩ q) (fun k e k1 k2 => ?_)⟩)
  exact c_told R (fun h4 r4 a4 => h3 j hj rfl k e k1 k2 h4 r4 a4)
theorem C_lay (W : WF S) (R : RC h S u l n) (h0 : r < 0 ∨ 6 ≤ r → Q (-1) h) (h1 : ∀ j, j < 6 → r = nI j → S 0 j 0 < 0 → ∀ h1, RC h1 (fnd S 1) u l n → Cag h h1 → Q (-3) h1) (h2 : ∀ j, j < 6 → r = nI j → 0 ≤ S 0 j 0 → ¬ (0 ≤ i ∧ i < S 0 j 0) → ∀ h1, RC h1 (fnd S 2) u l n → Cag h h1 → Q (-3) h1)
    (h3 : ∀ j, j < 6 → r = nI j → ∀ k : Nat, i = nI k → k < 60 → (k : Int) < (S 0 j 0).toInt → ∀ h1, RC h1 (up (up S 4 0 0 (S 1 j k)) 1 j k v) u l n → Cag h h1 → Q 1 h1) : f_X11_lay 1 r i v h Q := by
  unfold f_X11_lay
  refine c_gR R (fun _ => rfl) ⟨R.o, c_rplace R R.rows (by omega) (fun q => brm1 (h0 q)) (fun j hj e q h4 r4 a4 => brm3 (h1 j hj e q h4 r4 a4)) (fun j hj e q d h4 r4 a4 => brm3 (h2 j hj e q d h4 r4 a4)) (fun j hj e q1 q2 => br0 ?_)⟩
  subst e
  refine c_gR R (fun _ => rfl) (c_rowAt R.rows hj (by omega) ⟨R.rows.o hj, c_get (R.rows.2 j hj) (W.1 j hj).2 (fun q => absurd ⟨q1, q2⟩ q) (fun k e k1 k2 => ?_)⟩)
  refine c_told R (fun h4 r4 a4 => ?_)
  have hz : up S 4 0 0 (S 1 j k) 0 j 0 = S 0 j 0 := up_c S _ (by omega)
  refine c_gR r4 (fun _ => rfl) (c_rowAt r4.rows hj (by omega) ⟨r4.rows.o hj, c_set (r4.rows.2 j hj) (by omega) (by rw [hz]; exact (W.1 j hj).2) (fun q => absurd ⟨q1, by rw [hz]; exact q2⟩ q) (fun k' e' k1' k2' e5 r5 => ?_)⟩)
  have ek : k' = k := by
    have := e.symm.trans e'
    exact ((nI_eq (by omega) (by omega)).mp this).symm
  subst ek
  exact h3 j hj rfl k' e k1 k2 _ (C_wr (A := 2) (c := 0) (m := 6) (b := 22) (Or.inl ⟨rfl, rfl, rfl, rfl⟩) r4 r4.rows hj r5) (a4.tr (Cag.put (by omega)))
theorem C_put (W : WF S) (R : RC h S u l n) (h0 : r < 0 ∨ 4 ≤ r → Q (-1) h) (h1 : ∀ j, j < 4 → r = nI j → S 2 j 0 < 0 → ∀ h1, RC h1 (fnd S 1) u l n → Cag h h1 → Q (-3) h1) (h2 : ∀ j, j < 4 → r = nI j → 0 ≤ S 2 j 0 → ¬ (0 ≤ i ∧ i < S 2 j 0) → ∀ h1, RC h1 (fnd S 2) u l n → Cag h h1 → Q (-3) h1)
    (h3 : ∀ j, j < 4 → r = nI j → ∀ k : Nat, i = nI k → k < 60 → (k : Int) < (S 2 j 0).toInt → ∀ h1, RC h1 (up S 3 j k v.toInt8.toInt32) u l n → Cag h h1 → Q (S 3 j k + 1000) h1) : f_X11_put 1 r i v h Q := by
  unfold f_X11_put
  refine c_gR R (fun _ => rfl) ⟨R.o, c_rplace R R.texts (by omega) (fun q => brm1 (h0 q)) (fun j hj e q h4 r4 a4 => brm3 (h1 j hj e q h4 r4 a4)) (fun j hj e q d h4 r4 a4 => brm3 (h2 j hj e q d h4 r4 a4)) (fun j hj e q1 q2 => br0 ?_)⟩
  subst e
  refine c_gR R (fun _ => rfl) (c_rowAt R.texts hj (by omega) ⟨R.texts.o hj, c_get (R.texts.2 j hj) (W.2.1 j hj).2 (fun q => absurd ⟨q1, q2⟩ q) (fun k e k1 k2 => ?_)⟩)
  refine c_gR R (fun _ => rfl) (c_rowAt R.texts hj (by omega) ⟨R.texts.o hj, c_set (R.texts.2 j hj) (by omega) (W.2.1 j hj).2 (fun q => absurd ⟨q1, q2⟩ q) (fun k' e' k1' k2' e5 r5 => ?_)⟩)
  have ek : k' = k := by
    have := e.symm.trans e'
    exact ((nI_eq (by omega) (by omega)).mp this).symm
  subst ek
  exact h3 j hj rfl k' e k1 k2 _ (C_wr (A := 3) (c := 2) (m := 4) (b := 34) (Or.inr ⟨rfl, rfl, rfl, rfl⟩) R R.texts hj r5) (Cag.put (by omega))
theorem C_tear (R : RC h S u l n) (h0 : r < 0 ∨ 6 ≤ r → Q (-1) h) (h1 : ∀ j, j < 6 → r = nI j → S 0 j 0 < 0 → ∀ h1, RC h1 (fnd S 1) u l n → Cag h h1 → Q (-3) h1) (h2 : ∀ j, j < 6 → r = nI j → 0 ≤ S 0 j 0 → ∀ h1, RC h1 (up S 0 j 0 (-1)) u l n → Cag h h1 → Q 1 h1) : f_X11_tear 1 r h Q := by
  unfold f_X11_tear
  refine c_gR R (fun _ => rfl) ⟨R.o, c_rmiss R R.rows (by omega) (fun q => brm1 (h0 q)) (fun j hj e q h4 r4 a4 => brm3 (h1 j hj e q h4 r4 a4)) (fun j hj e q => br0 ?_)⟩
  subst e
  refine c_gR R (fun _ => rfl) (c_rowAt R.rows hj (by omega) ⟨R.rows.o hj, ?_⟩)
  unfold f_X6_remove
  obtain ⟨r1, g, r2, r3⟩ := R.rows.2 j hj
  refine pF_of r1 (by show 1 < 2; omega) rfl (h2 j hj rfl q _ ?_ (Cag.put (by omega)))
  refine R.keepR (A := 2) (c := 0) (m := 6) (b := 22) (Or.inl ⟨rfl, rfl, rfl, rfl⟩) (fun a ha => aput_n _ _ (by omega)) rfl rfl (fun c' i j x y => up_c _ _ x) (fun r hr => ?_)
  rw [show up S 0 j 0 (-1) (0 + 1) r = S (0 + 1) r from funext fun i => up_c _ _ (by omega)]
  by_cases e : r = j
  · subst e
    rw [up_s]
    refine ⟨aput_s _ _ _, g, by rw [aput_n _ _ (by omega)]; exact r2, fun i hi => ?_⟩
    have : (-1 : Int32).toInt = -1 := rfl
    omega
  · rw [up_i _ _ e]
    exact (R.rows.2 r hr).keep (aput_n _ _ (by omega)) (aput_n _ _ (by omega)) (fun _ => rfl)
theorem C_mean (W : WF S) (R : RC h S u l n) (h0 : r < 0 ∨ 6 ≤ r → Q (-1) h) (h1 : ∀ j, j < 6 → r = nI j → S 0 j 0 < 0 → ∀ h1, RC h1 (fnd S 1) u l n → Cag h h1 → Q (-3) h1) (h2 : ∀ j, j < 6 → r = nI j → S 0 j 0 = 0 → ∀ h1, RC h1 (fnd S 4) u l n → Cag h h1 → Q (-3) h1)
    (h3 : ∀ j, j < 6 → r = nI j → ∀ z : Nat, S 0 j 0 = nI z → 0 < z → z ≤ 60 → ∀ h1, RC h1 (up S 4 0 0 (smL (fun i => (S 1 j i).toInt64) z / (nI z).toInt64).toInt32) u l n → Cag h h1 → Q 1 h1) : f_X11_mean 1 r h Q := by
  unfold f_X11_mean
  refine c_gR R (fun _ => rfl) ⟨R.o, c_rmiss R R.rows (by omega) (fun q => brm1 (h0 q)) (fun j hj e q h4 r4 a4 => brm3 (h1 j hj e q h4 r4 a4)) (fun j hj e q => br0 ?_)⟩
  subst e
  have RW := R.rows.2 j hj
  have hz6 := (W.1 j hj).2
  refine c_gR R (fun _ => rfl) (c_rowAt R.rows hj (by omega) (gI_of RW.1 rfl ⟨fun c => ?_, fun c => ⟨R.o, c_found (f := 4) (by omega) R (h2 j hj rfl c)⟩⟩))
  obtain ⟨z, hz1, hz2⟩ := nI_of (x := S 0 j 0) (by grind)
  have hzt : (S 0 j 0).toInt = z := by rw [hz2, nI_toInt hz1]
  have hz0 : 0 < z := by
    rcases Nat.eq_zero_or_pos z with e | e
    · exact absurd (by rw [hz2, e]; rfl) c
    · exact e
  refine ⟨z + 1, ?_⟩
  have key : ∀ (m i : Nat), i + m = z → L_X11_mean_42 Q 1 (22 + 2 * j) (m + 1) (smL (fun i => (S 1 j i).toInt64) i) (nI i) h := by
    intro m
    induction m with
    | zero =>
      intro i hi
      show B_X11_mean_42 _ _ _ _ _ _ _
      unfold B_X11_mean_42
      refine gI_of RW.1 rfl (pk_le z i (fun q => gI_of RW.1 rfl ⟨?_, ?_⟩) (fun q => by omega) hz2)
      · rw [hz2]
        intro q
        rw [nI_l hz1] at q
        have := (lN_eq hz1 (by omega : 0 < 2 ^ 31)).mp q
        omega
      · rw [hz2]
        have ei : i = z := by omega
        rw [ei]
        exact c_told R (fun h4 r4 a4 => h3 j hj rfl z hz2 hz0 (by omega) h4 r4 a4)
    | succ m ih =>
      intro i hi
      show B_X11_mean_42 _ _ _ _ _ _ _
      unfold B_X11_mean_42
      refine gI_of RW.1 rfl (pk_le z i (fun q => by omega) (fun q => ⟨R.rows.o hj, c_get RW hz6 (fun d => absurd ⟨nI_pos' (by omega), (idx_lt (by omega)).mpr (by omega)⟩ d) (fun k e k1 k2 => ?_)⟩) hz2)
      have ek : i = k := (nI_eq (by omega) (by omega)).mp e
      subst ek
      rw [nI_1]
      exact ih (i + 1) (by omega)
  exact key z 0 (by omega)
end C2
