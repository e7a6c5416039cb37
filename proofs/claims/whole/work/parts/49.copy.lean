def cpS (S : SS) (a i b j n : Nat) : SS := fun c x y => if c = 1 ∧ x = b ∧ j ≤ y ∧ y < j + n then S 1 a (i + (y - j)) else S c x y
theorem cpS_c {S : SS} {a i b j n c x y : Nat} (h : c ≠ 1) : cpS S a i b j n c x y = S c x y := if_neg fun q => h q.1
section C3
variable {h : AH} {S : SS} {u l : Int64} {n : Nat}
theorem c_part {a p : Nat} {z i k : Int32} {f : Nat → Int32} {Q : Int32 → AH → Prop} (R : RowAt h a p z f) (hz0 : 0 ≤ z) (hz : z.toInt ≤ 60) (h0 : ¬ (0 ≤ i ∧ 0 ≤ k ∧ i.toInt + k.toInt ≤ z.toInt) → Q 0 h) (h1 : ∀ x y : Nat, i = nI x → k = nI y → (x : Int) + y ≤ z.toInt → Q 1 h) : f_X6_hasPart a i k h Q := by
  unfold f_X6_hasPart
  refine ⟨fun c => h0 (by grind), fun c => ⟨fun d => h0 (by grind), fun d => ?_⟩⟩
  obtain ⟨x, hx, rfl⟩ := nI_of c
  obtain ⟨y, hy, rfl⟩ := nI_of d
  obtain ⟨Z, hZ, rfl⟩ := nI_of (x := z) (by grind)
  rw [nI_toInt hZ] at hz
  rw [nI_toInt hx, nI_toInt hy, nI_toInt hZ] at h0
  refine gI_of R.1 rfl (pk_lt Z x (fun q => h0 (by omega)) (fun q => gI_of R.1 rfl ?_))
  rw [pk_sub q]
  exact pk_lt (Z - x) y (fun q2 => h0 (by omega)) (fun q2 => h1 x y rfl rfl (by rw [nI_toInt hZ]; omega))
theorem C_copy {r i t j k : Int32} {Q : Int32 → AH → Prop} (W : WF S) (R : RC h S u l n) (h0 : (r < 0 ∨ 6 ≤ r) ∨ (t < 0 ∨ 6 ≤ t) → Q (-1) h) (h1 : ∀ a b, a < 6 → b < 6 → r = nI a → t = nI b → k < 0 → ∀ h1, RC h1 (fnd S 5) u l n → Cag h h1 → Q (-3) h1)
    (h2 : ∀ a b, a < 6 → b < 6 → r = nI a → t = nI b → 0 ≤ k → (S 0 a 0 < 0 ∨ S 0 b 0 < 0) → ∀ h1, RC h1 (fnd S 1) u l n → Cag h h1 → Q (-3) h1)
    (h3 : ∀ a b, a < 6 → b < 6 → r = nI a → t = nI b → 0 ≤ k → 0 ≤ S 0 a 0 → 0 ≤ S 0 b 0 → ¬ (0 ≤ i ∧ i.toInt + k.toInt ≤ (S 0 a 0).toInt ∧ 0 ≤ j ∧ j.toInt + k.toInt ≤ (S 0 b 0).toInt) → ∀ h1, RC h1 (fnd S 2) u l n → Cag h h1 → Q (-3) h1)
    (h4 : ∀ a b, a < 6 → b < 6 → r = nI a → t = nI b → ∀ x y z : Nat, i = nI x → j = nI y → k = nI z → (x : Int) + z ≤ (S 0 a 0).toInt → (y : Int) + z ≤ (S 0 b 0).toInt → ∀ h1, RC h1 (cpS S a x b y z) u l n → Cag h h1 → Q 1 h1) : f_X11_copy 1 r i t j k h Q := by
  unfold f_X11_copy
  refine c_isBelow (fun q => br0 (h0 (by grind))) (fun q1 q2 => br1 (c_isBelow (fun q => rb0 (h0 (by grind))) (fun q3 q4 => rb1 ?_)))
  obtain ⟨a, ha, rfl⟩ := lt_nI (m := 6) (by omega) q1 q2
  obtain ⟨b, hb, rfl⟩ := lt_nI (m := 6) (by omega) q3 q4
  refine ⟨fun c => ?_, fun c => ⟨R.o, c_found (f := 5) (by omega) R (h1 a b ha hb rfl rfl (by grind))⟩⟩
  have RA := R.rows.2 a ha
  have RB := R.rows.2 b hb
  refine c_gR R (fun _ => rfl) (c_rowAt R.rows ha (by omega) ⟨R.rows.o ha, c_miss RA (fun z0 => rb0 ?_) (fun z0 => rb1 ⟨R.o, c_found (f := 1) (by omega) R (h2 a b ha hb rfl rfl c (Or.inl z0))⟩)⟩)
  refine c_gR R (fun _ => rfl) (c_rowAt R.rows hb (by omega) ⟨R.rows.o hb, c_miss RB (fun z1 => br0 ?_) (fun z1 => br1 ⟨R.o, c_found (f := 1) (by omega) R (h2 a b ha hb rfl rfl c (Or.inr z1))⟩)⟩)
  refine c_gR R (fun _ => rfl) (c_rowAt R.rows ha (by omega) ⟨R.rows.o ha, c_part RA z0 (W.1 a ha).2 (fun d => br0 ⟨R.o, c_found (f := 2) (by omega) R (h3 a b ha hb rfl rfl c z0 z1 (fun z => d ⟨z.1, c, z.2.1⟩))⟩) (fun x z e1 e2 e3 => br1 ?_)⟩)
  refine c_gR R (fun _ => rfl) (c_rowAt R.rows hb (by omega) ⟨R.rows.o hb, c_part RB z1 (W.1 b hb).2 (fun d => rb0 ⟨R.o, c_found (f := 2) (by omega) R (h3 a b ha hb rfl rfl c z0 z1 (fun z => d ⟨z.2.2.1, c, z.2.2.2⟩))⟩) (fun y z' e4 e5 e6 => rb1 ?_)⟩)
  obtain ⟨ra1, f, ra2, ra3⟩ := id RA
  obtain ⟨rb1', g, rb2, rb3⟩ := id RB
  refine c_gR R (fun _ => rfl) (c_rowAt R.rows ha (by omega) (gR_of ra1 rfl (c_gR R (fun _ => rfl) (c_rowAt R.rows hb (by omega) (gR_of rb1' rfl ?_)))))
  have za := (W.1 a ha).2
  have zb := (W.1 b hb).2
  have ez : z' = z := by
    rw [e2] at e5
    have l1 : z < 2 ^ 31 := by omega
    have l2 : z' < 2 ^ 31 := by omega
    exact ((nI_eq l1 l2).mp e5).symm
  subst ez
  subst e1 e2 e4
  refine ⟨60, f, 60, g, ra2, rb2, nI_pos (by omega), nI_pos (by omega), nI_pos (by omega), ?_, ?_, ?_⟩
  · rw [nI_clamp (by omega), nI_clamp (by omega)]; omega
  · rw [nI_clamp (by omega), nI_clamp (by omega)]; omega
  · rw [nI_clamp (by omega), nI_clamp (by omega), nI_clamp (by omega)]
    refine h4 a b ha hb rfl rfl x y z' rfl rfl rfl e3 e6 _ ?_ (Cag.put (by omega))
    refine R.keepR (A := 2) (c := 0) (m := 6) (b := 22) (Or.inl ⟨rfl, rfl, rfl, rfl⟩) (fun a ha => aput_n _ _ (by omega)) rfl rfl (fun c' i j x y => cpS_c y) (fun r hr => ?_)
    rw [cpS_c (by omega)]
    by_cases e : r = b
    · subst e
      refine ⟨by rw [aput_n _ _ (by omega)]; exact rb1', _, aput_s _ _ _, fun i hi => ?_⟩
      unfold cpS
      by_cases q : y ≤ i ∧ i < y + z'
      · rw [if_pos ⟨rfl, rfl, q.1, q.2⟩, pk_cpy_in q.1 q.2]
        exact ra3 _ (by omega)
      · rw [if_neg (fun z => q ⟨z.2.2.1, z.2.2.2⟩), pk_cpy_out (by omega)]
        exact rb3 i hi
    · refine (R.rows.2 r hr).keep (aput_n _ _ (by omega)) (aput_n _ _ (by omega)) (fun i => ?_)
      exact if_neg fun q => e q.2.1
end C3
