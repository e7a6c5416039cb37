/-! fault, road -/
section FAULT
variable {h h1 : AH} {S : SS} {u l : Int64} {n t : Nat} {R : PR}
theorem RC.grow (C : RC h S u l n) (ha : ∀ a, a < h.1 → h1.2.2 a = h.2.2 a) (hn : h.1 ≤ h1.1) (hm : h1.1 ≤ h.1 + 20) (hs : h1.2.1 ≤ h.2.1 + 100) : RC h1 S u l (n + 1) := by
  obtain ⟨rd, fa, li, qu, N, X, c1, c2, c3, c4, c5, c6, c7, c8, c9, c10, c11, c12, c13, c14⟩ := C
  have hsea : fa < h.1 ∧ li < h.1 ∧ qu < h.1 := by
    obtain ⟨sr, ss, sl, ex, re, ga, dr, rt, bg, ie, ff, fl, fq, -, -, -, -, -, -, -, -, -, -, -, -, -, -, -, d1, d2, d3, -⟩ := id c9
    exact ⟨d1, d2, d3⟩
  refine ⟨rd, fa, li, qu, N, X, ?_, c2.keep (fun a _ _ => ha a (by omega)), c3.keep (fun a _ _ => ha a (by omega)) (fun _ => rfl) (fun _ _ => rfl), c4.keep (fun a _ _ => ha a (by omega)) (fun _ => rfl) (fun _ _ => rfl), c5.keep (ha 7 (by omega)) (fun _ => rfl), c6.keep (ha 5 (by omega)) (ha 6 (by omega)) (fun _ => rfl) (fun _ => rfl), c7.keep (fun a _ _ => ha a (by omega)) rfl (fun _ => rfl) (fun _ => rfl) (fun _ => rfl) (fun _ _ => rfl), c8.keep (ha 13 (by omega)), c9.keep (fun a hq => ha a (by omega)) hn sameR.rf, c10.keep (fun a hq => ha a (c11 a hq).2.2.2.2) sameR.rf, fun a hq => ?_, by omega, by omega, by omega⟩
  · unfold Cmain
    rw [ha 1 (by omega)]
    exact c1
  · obtain ⟨y1, y2, y3, y4, y5⟩ := c11 a hq
    exact ⟨y1, y2, y3, y4, by omega⟩
theorem RC.b131 (C : RC h S u l n) : 131 ≤ h.1 := by
  obtain ⟨rd, fa, li, qu, N, X, c1, c2, c3, c4, c5, c6, c7, c8, c9, c10, c11, c12, c13, c14⟩ := C
  exact c12
/-- a text that there is, read -/
theorem c_reads {Q : Int32 → AH → Prop} (C : RC h S u l n) (W : WF S) (ht : t < 4)
    (Hf : ∀ f, pall (sg S t) = .inl f → ∀ h1, RC h1 S u l (n + 1) → Cag h h1 → Q (nI f) h1)
    (Hg : ∀ R, pall (sg S t) = .inr R → ∀ h1 a, RD h t h.1 R a h1 → Q (-9) h1) : nO h 4 3 dfX4 (fun a4 h5 => gR h5 1 11 1 (fun a6 => lQ h5 a6 2 (nI t) (fun a7 => f_X4_init a4 a7 h5 (fun h8 => isO h8 a4 4 ∧ f_X4_read a4 h8 Q)))) := by
  have b := C.b131
  obtain ⟨rd, c1⟩ := C.main
  obtain ⟨⟨f, w1, w2⟩, w3⟩ := C.texts
  have T := w3 t ht
  rw [show 34 + 1 + 2 * t = 35 + 2 * t by omega] at T
  have k5 : ∀ x e, x < h.1 → (anew h 3 e).2.2 x = h.2.2 x := fun x e hx => anew_n _ _ _ (Nat.ne_of_lt hx)
  unfold nO
  dsimp only
  refine gR_of ((k5 1 _ (by omega)).trans c1) rfl (lQ_of ((k5 3 _ (by omega)).trans w1) (vp_in_nI ht (by omega)) (by rw [nI_clamp (by omega)]; exact w2 t ht) (r_init (t := t) (fun h8 Z => r_read W b ht T Z (fun f e h1 R1 a1 b5 Z1 => Hf f e h1 ?_ ?_) Hg)))
  · exact C.grow Z1.2.2.1 (by have := Z1.1; omega) (by have := Z1.1; omega) (by have := Z1.2.1; omega)
  · exact fun a x y => Z1.2.2.1 a (by omega)
theorem op_fault {r : Int32} (I : Inv h n) : f_X11_fault 1 r h (fun x h1 => f_X12_fault 102 r h1 (fun y h2 => x = y ∧ Inv h2 (n + 1))) := by
  have I3 := I.mono (m := n + 1) (by omega)
  obtain ⟨S, u, l, C, M, W⟩ := I
  refine c_gR C (fun _ => rfl) ⟨C.o, c_rmiss C C.texts (by omega) (fun q => brm1 (m_textB q (rb0 ⟨rfl, I3⟩))) (fun j hj e q h1 r1 a1 => brm3 ?_) (fun j hj e q => br0 ?_)⟩
  · subst e
    have M1 := M.keep a1
    obtain ⟨mi, ma, R1, A, Wm, T, F, Rd, Lg, Kp⟩ := id M1
    refine m_textJ hj (rb1 (m_gR R1 (mr2 _ _ _) (m_lI R1 (j := 2) rfl rfl rfl (vp_in_nI hj (by omega)) ?_)))
    rw [nI_clamp (by omega), T.1 j hj]
    exact ⟨fun c => by grind, fun _ => ⟨M1.o, m_find (f := 1) (by omega) M1 (fun h2 r2 a2 => ⟨rfl, (Inv.of r1 r2 a2 (WF_fnd W 1)).mono (by omega)⟩)⟩⟩
  · subst e
    have go : ∀ (x : Int32) (h1 : AH), Cag h h1 → RC h1 S u l (n + 1) → (∀ f, pall (sg S j) = .inl f → x = nI f) → (∀ R, pall (sg S j) = .inr R → x = -9) → f_X12_fault 102 (nI j) h1 (fun y h2 => x = y ∧ Inv h2 (n + 1)) := fun x h1 ag C1 x1 x2 => by
      obtain ⟨mi, ma, R1, A, Wm, T, F, Rd, Lg, Kp⟩ := id (M.keep ag)
      refine m_textJ hj (rb1 (m_gR R1 (mr2 _ _ _) (m_lI R1 (j := 2) rfl rfl rfl (vp_in_nI hj (by omega)) ?_)))
      rw [nI_clamp (by omega), T.1 j hj]
      refine ⟨fun _ => ⟨R1.o, m_reads T W hj (MX.of R1 A Rd) A.1 (fun f e h2 mi2 ma2 X2 y4 y27 => br0 (m_gI X2.rep (mg27 _ _ _) ⟨?_, Inv.of C1 (X2.rmS y4 Wm T F Lg Kp) X2.mag W⟩)) (fun R e h2 mi2 ma2 a X2 => br1 ⟨x2 R e, Inv.of C1 (X2.1.rmS X2.2.1 Wm T F Lg Kp) X2.1.mag W⟩)⟩, fun z => absurd q z⟩
      rw [y27]
      exact x1 f e
    have in1 : ∀ {f f' : Nat}, (Sum.inl f : Sum Nat PR) = .inl f' → f = f' := fun e => Sum.inl.inj e
    refine c_reads C W hj (fun f e h1 C1 ag => go _ h1 ag C1 (fun f' e' => by rw [in1 (e.symm.trans e')]) (fun R e' => by cases e.symm.trans e')) (fun R e h1 a Z => go _ h1 (fun a x y => Z.2.2.1 a (by have := C.b131; omega)) (C.grow Z.2.2.1 ?_ ?_ ?_) (fun f' e' => by cases e.symm.trans e') (fun _ _ => rfl))
    all_goals have i4 := (ri_pall e).2.2.2.1
    · have := Z.1; omega
    · have := Z.1; omega
    · have := Z.2.1; omega
end FAULT
