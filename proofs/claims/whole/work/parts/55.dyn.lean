/-- rows, texts and the road are the same -/
def sameD (S S1 : SS) : Prop := ∀ c i j, c ≤ 3 ∨ (7 ≤ c ∧ c ≤ 13) → S1 c i j = S c i j
theorem sameD.R {S S1 : SS} (H : sameD S S1) : sameR S S1 := fun c i j h1 h2 => H c i j (Or.inr ⟨h1, h2⟩)
theorem Cmain.inj {h : AH} {S : SS} {u l : Int64} {rd rd2 : Nat} (c1 : Cmain h S u l rd) (c2 : Cmain h S u l rd2) : rd = rd2 := by
  have e1 := c1.symm.trans c2
  simp only [Option.some.injEq, Sum.inr.injEq, Prod.mk.injEq, List.cons.injEq, Value.ref.injEq] at e1
  exact e1.2.2.2.2.2.2.2.2.2.1
theorem RC.keepD {h h1 : AH} {S S1 : SS} {u l u1 l1 : Int64} {n : Nat} (R : RC h S u l n) (ha : ∀ a, a ≠ 1 → ¬ (5 ≤ a ∧ a ≤ 7) → a ≠ 13 → ¬ (42 ≤ a ∧ a ≤ 101) → h1.2.2 a = h.2.2 a) (hn : h1.1 = h.1) (hs : h1.2.1 = h.2.1) (HD : sameD S S1) (h1c : ∀ rd, Cmain h S u l rd → Cmain h1 S1 u1 l1 rd) (h7 : Cfnd h S → Cfnd h1 S1) (hk : Ckep h S → Ckep h1 S1) (ht : Ctrp h S → Ctrp h1 S1) (h13 : Ctri h 13 → Ctri h1 13) : RC h1 S1 u1 l1 n := by
  obtain ⟨rd, fa, li, qu, N, X, c1, c2, c3, c4, c5, c6, c7, c8, c9, c10, c11, c12, c13, c14⟩ := R
  have hsea : sadr fa ∧ sadr li ∧ sadr qu := by
    obtain ⟨sr, ss, sl, ex, re, ga, dr, rt, bg, ie, ff, fl, fq, -, -, -, -, -, -, -, -, d9, d10, d11, -⟩ := id c9
    exact ⟨d9, d10, d11⟩
  unfold sadr at hsea
  have hb : ∀ a, a ≠ 1 ∧ ¬ (5 ≤ a ∧ a ≤ 7) ∧ a ≠ 13 ∧ ¬ (42 ≤ a ∧ a ≤ 101) → h1.2.2 a = h.2.2 a := fun a q => ha a q.1 q.2.1 q.2.2.1 q.2.2.2
  exact ⟨rd, fa, li, qu, N, X, h1c rd c1, c2.keep (fun a _ _ => hb a (by omega)), c3.keep (fun a _ _ => hb a (by omega)) (fun r => HD 0 r 0 (by omega)) (fun r i => HD 1 r i (by omega)), c4.keep (fun a _ _ => hb a (by omega)) (fun r => HD 2 r 0 (by omega)) (fun r i => HD 3 r i (by omega)), h7 c5, hk c6, ht c7, h13 c8, c9.keep (fun a hq => hb a (by omega)) (by rw [hn]; exact Nat.le_refl _) HD.R, c10.keep (fun a hq => by
      have := (c11 a hq).1
      unfold radr at this
      exact hb a (by omega)) HD.R, fun a hq => by rw [hn]; exact c11 a hq, by rw [hn]; exact c12, by rw [hn]; exact c13, by rw [hs]; exact c14⟩
theorem RM.keepD {h1 : AH} {S S1 : SS} {u1 l1 : Int64} {mi1 : Nat → Int32} {ma ma1 : Nat → Nat → Int32} (R1 : RepM h1 mi1 u1 l1 ma1) (HD : sameD S S1) (A : LkA S1 mi1) (W : LkW S ma) (T : LkT S ma) (F : LkF S1 ma1) (Rd : LkR S ma) (Lg : LkL S1 ma1) (K : LkK S1 ma1) (hm : ∀ j i, j ≤ 3 ∨ (5 ≤ j ∧ j ≤ 8) → ma1 j i = ma j i) : RM h1 S1 u1 l1 :=
  ⟨mi1, ma1, R1, A, W.keep (fun i => hm 0 i (by omega)) (fun i => hm 1 i (by omega)) (fun r => HD 0 r 0 (by omega)) (fun r i => HD 1 r i (by omega)), T.keep (fun i => hm 2 i (by omega)) (fun i => hm 3 i (by omega)) (fun r => HD 2 r 0 (by omega)) (fun r i => HD 3 r i (by omega)), F, Rd.keep (fun j i x y => hm j i (by omega)) HD.R, Lg, K⟩
section D1
variable {h : AH} {S : SS} {u l : Int64} {n : Nat} {Q : Int32 → AH → Prop}
theorem op_asked (I : Inv h n) : f_X11_asked 1 h (fun x h1 => f_X12_asked 102 h1 (fun y h2 => x = y ∧ Inv h2 n)) := by
  obtain ⟨S, u, l, R, M, W⟩ := I
  obtain ⟨mi, ma, R1, A, -⟩ := id M
  unfold f_X11_asked f_X12_asked
  exact c_gI R (fun _ => rfl) (m_gI R1 (mg4 _ _ _) ⟨A.1.symm, S, u, l, R, M, W⟩)
theorem op_finding (I : Inv h n) : f_X11_finding 1 h (fun x h1 => f_X12_finding 102 h1 (fun y h2 => x = y ∧ Inv h2 n)) := by
  obtain ⟨S, u, l, R, M, W⟩ := I
  obtain ⟨mi, ma, R1, A, -⟩ := id M
  unfold f_X11_finding f_X12_finding
  exact c_gI R (fun _ => rfl) (m_gI R1 (mg7 _ _ _) ⟨A.2.1.symm, S, u, l, R, M, W⟩)
theorem op_upper (I : Inv h n) : f_X11_upper 1 h (fun x h1 => f_X12_upper 102 h1 (fun y h2 => x = y ∧ Inv h2 n)) := by
  obtain ⟨S, u, l, R, M, W⟩ := I
  obtain ⟨mi, ma, R1, -⟩ := id M
  obtain ⟨rd, c1⟩ := R.main
  exact gL_of c1 rfl (gL_of R1.1 rfl ⟨rfl, S, u, l, R, M, W⟩)
theorem op_lower (I : Inv h n) : f_X11_lower 1 h (fun x h1 => f_X12_lower 102 h1 (fun y h2 => x = y ∧ Inv h2 n)) := by
  obtain ⟨S, u, l, R, M, W⟩ := I
  obtain ⟨mi, ma, R1, -⟩ := id M
  obtain ⟨rd, c1⟩ := R.main
  exact gL_of c1 rfl (gL_of R1.1 rfl ⟨rfl, S, u, l, R, M, W⟩)
theorem op_findings {f : Int32} (I : Inv h n) : f_X11_findings 1 f h (fun x h1 => f_X12_findings 102 f h1 (fun y h2 => x = y ∧ Inv h2 n)) := by
  obtain ⟨S, u, l, R, M, W⟩ := I
  obtain ⟨mi, ma, R1, A, Wm, T, F, -⟩ := id M
  obtain ⟨_, _, _, _, _, _, -, -, -, -, ⟨g, hg, hg2⟩, -⟩ := id R
  unfold f_X11_findings f_X12_findings B_X11_findings_10
  have bad : ¬ (1 ≤ f ∧ f ≤ 5) → f_X12_in f.toInt64 (1 : Int64) (5 : Int64) h (fun x1 h2 => ((x1 = 0 → (-1 : Int32) = -1 ∧ Inv h2 n) ∧ (¬ (x1 = 0) → gR h2 102 12 8 (fun a3 => lI h2 a3 f (fun x4 => (-1 : Int32) = x4 ∧ Inv h2 n))))) := fun q => m_in (a := 1) (b := 5) (fun _ => br0 ⟨rfl, S, u, l, R, M, W⟩) (fun q1 q2 => absurd ⟨q1, q2⟩ q)
  refine ⟨fun c => bad (by grind), fun c => ⟨fun d => ?_, fun d => bad (by grind)⟩⟩
  obtain ⟨j, hj, rfl⟩ := lt_nI (x := f) (m := 6) (by omega) (by grind) (by grind [show nI 6 = 6 from rfl])
  refine c_gR R (fun _ => rfl) (lI_of hg (vp_in_nI hj (by omega)) ?_)
  refine m_in (a := 1) (b := 5) (fun q => by grind) (fun _ _ => br1 (m_gR R1 (mr8 _ _ _) (m_lI R1 (j := 4) rfl rfl rfl (vp_in_nI hj (by omega)) ⟨?_, S, u, l, R, M, W⟩)))
  rw [nI_clamp (by omega), hg2 j hj, F j hj]
theorem WF_dyn {S1 : SS} (W : WF S) (HD : sameD S S1) (w4 : S1 14 0 0 = nI (stN S1) ∧ Cd S (stN S1)) (w5 : S1 15 0 0 = nI (rlN S1) ∧ rlN S1 ≤ 2) (w6 : S1 16 0 0 = nI (dnN S1) ∧ dnN S1 ≤ 60)
    (w7 : ∀ i, i < dnN S1 → (∃ b, S1 17 i 0 = nI b ∧ b < wN S) ∧ (∃ c, S1 18 i 0 = nI c ∧ Cd S c) ∧ (∃ p, S1 19 i 0 = nI p ∧ p ≤ 100) ∧ ∀ k, ∃ m, S1 20 i k = nI m ∧ m ≤ 3) (w8 : ∀ k, k < 3 → S1 21 k 0 = -1 ∨ ∃ c r, S1 21 k 0 = nI c ∧ Cd S c ∧ S1 22 k 0 = nI r ∧ r ≤ 2) : WF S1 := by
  refine ⟨fun r hr => by rw [HD 0 r 0 (by omega)]; exact W.1 r hr, fun r hr => by rw [HD 2 r 0 (by omega)]; exact W.2.1 r hr, sr_WFr HD.R W.2.2.1, ⟨w4.1, by rw [sr_Cd HD.R]; exact w4.2⟩, w5, w6, fun i hi => ?_, fun k hk => ?_⟩
  · rw [sr_w HD.R, sr_Cd HD.R]; exact w7 i hi
  · rw [sr_Cd HD.R]; exact w8 k hk
theorem op_law {v : Int32} (I : Inv h n) : f_X11_law 1 v h (fun x h1 => f_X12_law 102 v h1 (fun y h2 => x = y ∧ Inv h2 n)) := by
  obtain ⟨S, u, l, R, M, W⟩ := I
  obtain ⟨mi, ma, R1, A, Wm, T, F, Rd, Lg, Kp⟩ := id M
  obtain ⟨rd, c1⟩ := R.main
  unfold f_X11_law f_X12_law
  refine c_isBelow (fun q => rb0 (m_in (a := 0) (b := 2) (fun _ => rb0 ⟨rfl, S, u, l, R, M, W⟩) (fun q1 q2 => by grind))) (fun q1 q2 => rb1 ?_)
  have HD : sameD S (up S 15 0 0 v) := fun c i j hq => up_c _ _ (by omega)
  refine c_gI R (fun _ => rfl) (pF_of c1 (by show 10 < 16; omega) rfl ?_)
  have R2 : RC (aput h 1 (mob rd (S 14 0 0) v (S 16 0 0) (S 4 0 0) u l (S 5 0 0))) (up S 15 0 0 v) u l n := by
    refine R.keepD (fun a x _ _ _ => aput_n _ _ x) rfl rfl HD (fun rd2 c2 => ?_) (fun c => c.keep (aput_n _ _ (by omega)) (fun r => up_c _ _ (by omega))) (fun c => c.keep (aput_n _ _ (by omega)) (aput_n _ _ (by omega)) (fun r => up_c _ _ (by omega)) (fun r => up_c _ _ (by omega))) (fun c => c.keep (fun a _ _ => aput_n _ _ (by omega)) (up_c _ _ (by omega)) (fun i => up_c _ _ (by omega)) (fun i => up_c _ _ (by omega)) (fun i => up_c _ _ (by omega)) (fun i k => up_c _ _ (by omega))) (fun c => c.keep (aput_n _ _ (by omega)))
    have e := c1.inj c2
    subst e
    unfold Cmain
    rw [aput_s, up_s, up_c _ _ (by omega), up_c _ _ (by omega), up_c _ _ (by omega), up_c _ _ (by omega)]
  have R1' := R1.keep (Cag.put (h := h) (a := 1) (e := mob rd (S 14 0 0) v (S 16 0 0) (S 4 0 0) u l (S 5 0 0)) (by omega))
  refine m_in (a := 0) (b := 2) (fun q => by grind) (fun _ _ => rb1 (m_gI R1' (mg16 _ _ _) (m_pF R1' (by omega) (ms16 _ _ _ _) (fun h2 r2 a2 => ⟨A.2.2.2.2.2.1.symm, Inv.of R2 ?_ a2 ?_⟩))))
  · refine RM.keepD r2 HD ?_ Wm T (F.keep (fun _ => rfl) (fun r => up_c _ _ (by omega))) Rd (Lg.keep (fun _ _ _ _ => rfl) (fun c i j x y => up_c _ _ (by omega))) (Kp.keep (fun _ => rfl) (fun _ => rfl) (fun r => up_c _ _ (by omega)) (fun r => up_c _ _ (by omega))) (fun _ _ _ => rfl)
    obtain ⟨a1, a2, a3, a4, a5, a6, a7, a8⟩ := A
    refine ⟨?_, ?_, ?_, ?_, ?_, ?_, ?_, ?_⟩
    all_goals first
      | (rw [pk_us, up_s]; done)
      | (rw [pk_un (by omega), up_c _ _ (by omega)]; assumption)
  · obtain ⟨j, hj, rfl⟩ := lt_nI (x := v) (m := 3) (by omega) q1 q2
    obtain ⟨w1, w2, w3, w4, w5, w6, w7, w8⟩ := id W
    have e16 : dnN (up S 15 0 0 (nI j)) = dnN S := by unfold dnN; rw [up_c _ _ (by omega)]
    have e14 : stN (up S 15 0 0 (nI j)) = stN S := by unfold stN; rw [up_c _ _ (by omega)]
    have e15 : rlN (up S 15 0 0 (nI j)) = j := by unfold rlN; rw [up_s]; exact nI_clamp (by omega)
    refine WF_dyn W HD ?_ ?_ ?_ (fun i hi => ?_) (fun k hk => ?_)
    · rw [e14, up_c _ _ (by omega)]; exact w4
    · rw [e15, up_s]; exact ⟨rfl, by omega⟩
    · rw [e16, up_c _ _ (by omega)]; exact w6
    · rw [e16] at hi
      rw [up_c _ _ (by omega), up_c _ _ (by omega), up_c _ _ (by omega)]
      obtain ⟨x1, x2, x3, x4⟩ := w7 i hi
      exact ⟨x1, x2, x3, fun k => by rw [up_c _ _ (by omega)]; exact x4 k⟩
    · rw [up_c _ _ (by omega), up_c _ _ (by omega)]; exact w8 k hk
end D1
