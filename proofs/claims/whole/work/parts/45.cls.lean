/-- of two heaps: the model's cells are the same -/
def Cag (h h1 : AH) : Prop := ∀ a, 102 ≤ a → a ≤ 130 → h1.2.2 a = h.2.2 a
theorem Cag.rf {h : AH} : Cag h h := fun _ _ _ => rfl
theorem Cag.tr {h h1 h2 : AH} (A : Cag h h1) (B : Cag h1 h2) : Cag h h2 := fun a x y => (B a x y).trans (A a x y)
theorem Cag.put {h : AH} {a : Nat} {e : va_E} (ha : a < 102 ∨ 130 < a) : Cag h (aput h a e) := fun b x y => aput_n h e (by omega)
theorem RM.keep {h h1 : AH} {S : SS} {u l : Int64} (R : RM h S u l) (A : Cag h h1) : RM h1 S u l := by
  obtain ⟨mi, ma, R1, rest⟩ := R
  exact ⟨mi, ma, R1.keep A, rest⟩
theorem RC.keepM {h h1 : AH} {S : SS} {u l : Int64} {n : Nat} (R : RC h S u l n) (A : Mag h h1) : RC h1 S u l n := by
  obtain ⟨rd, fa, li, qu, N, X, c1, c2, c3, c4, c5, c6, c7, c8, c9, c10, c11, c12, c13, c14⟩ := R
  have ha : ∀ a, ¬ (102 ≤ a ∧ a ≤ 130) → h1.2.2 a = h.2.2 a := A.2.2
  have hx : ∀ a, X a → ¬ (102 ≤ a ∧ a ≤ 130) := fun a hq => by
    have := (c11 a hq).1
    unfold radr at this
    omega
  have hsea : ¬ (102 ≤ fa ∧ fa ≤ 130) ∧ ¬ (102 ≤ li ∧ li ≤ 130) ∧ ¬ (102 ≤ qu ∧ qu ≤ 130) := by
    obtain ⟨sr, ss, sl, ex, re, ga, dr, rt, bg, ie, ff, fl, fq, -, -, -, -, -, -, -, -, d9, d10, d11, -⟩ := id c9
    unfold sadr at d9 d10 d11
    omega
  refine ⟨rd, fa, li, qu, N, X, ?_, c2.keep (fun a _ _ => ha a (by omega)), c3.keep (fun a _ _ => ha a (by omega)) (fun _ => rfl) (fun _ _ => rfl), c4.keep (fun a _ _ => ha a (by omega)) (fun _ => rfl) (fun _ _ => rfl), c5.keep (ha 7 (by omega)) (fun _ => rfl), c6.keep (ha 5 (by omega)) (ha 6 (by omega)) (fun _ => rfl) (fun _ => rfl), c7.keep (fun a _ _ => ha a (by omega)) rfl (fun _ => rfl) (fun _ => rfl) (fun _ => rfl) (fun _ _ => rfl), c8.keep (ha 13 (by omega)), c9.keep (fun a hq => ha a (by omega)) (by rw [A.1]; exact Nat.le_refl _) sameR.rf, c10.keep (fun a hq => ha a (hx a hq)) sameR.rf, fun a hq => by rw [A.1]; exact c11 a hq, by rw [A.1]; exact c12, by rw [A.1]; exact c13, by rw [A.2.1]; exact c14⟩
  unfold Cmain
  rw [ha 1 (by omega)]
  exact c1
/-- a heap that differs at 1, 7 alone -/
theorem RC.keepT {h h1 : AH} {S S1 : SS} {u l u1 l1 : Int64} {n : Nat} (R : RC h S u l n) (ha : ∀ a, a ≠ 1 → a ≠ 7 → h1.2.2 a = h.2.2 a) (hn : h1.1 = h.1) (hs : h1.2.1 = h.2.1) (HT : sameT S S1) (h1c : ∀ rd, Cmain h S u l rd → Cmain h1 S1 u1 l1 rd) (h7 : Cfnd h S → Cfnd h1 S1) : RC h1 S1 u1 l1 n := by
  obtain ⟨rd, fa, li, qu, N, X, c1, c2, c3, c4, c5, c6, c7, c8, c9, c10, c11, c12, c13, c14⟩ := R
  have hsea : (18 ≤ fa ∧ 18 ≤ li ∧ 18 ≤ qu) := by
    obtain ⟨sr, ss, sl, ex, re, ga, dr, rt, bg, ie, ff, fl, fq, -, -, -, -, -, -, -, -, d9, d10, d11, -⟩ := id c9
    unfold sadr at d9 d10 d11
    omega
  exact ⟨rd, fa, li, qu, N, X, h1c rd c1, c2.keep (fun a _ _ => ha a (by omega) (by omega)), c3.keep (fun a _ _ => ha a (by omega) (by omega)) (fun r => HT 0 r 0 (by omega) (by omega) (by omega)) (fun r i => HT 1 r i (by omega) (by omega) (by omega)), c4.keep (fun a _ _ => ha a (by omega) (by omega)) (fun r => HT 2 r 0 (by omega) (by omega) (by omega)) (fun r i => HT 3 r i (by omega) (by omega) (by omega)), h7 c5, c6.keep (ha 5 (by omega) (by omega)) (ha 6 (by omega) (by omega)) (fun r => HT 21 r 0 (by omega) (by omega) (by omega)) (fun r => HT 22 r 0 (by omega) (by omega) (by omega)), c7.keep (fun a _ _ => ha a (by omega) (by omega)) (HT 16 0 0 (by omega) (by omega) (by omega)) (fun i => HT 17 i 0 (by omega) (by omega) (by omega)) (fun i => HT 18 i 0 (by omega) (by omega) (by omega)) (fun i => HT 19 i 0 (by omega) (by omega) (by omega)) (fun i k => HT 20 i k (by omega) (by omega) (by omega)), c8.keep (ha 13 (by omega) (by omega)), c9.keep (fun a hq => ha a (by omega) (by omega)) (by rw [hn]; exact Nat.le_refl _) HT.R, c10.keep (fun a hq => by
      have := (c11 a hq).1
      unfold radr at this
      exact ha a (by omega) (by omega)) HT.R, fun a hq => by rw [hn]; exact c11 a hq, by rw [hn]; exact c12, by rw [hn]; exact c13, by rw [hs]; exact c14⟩
theorem Cmain.o {h : AH} {S : SS} {u l : Int64} {rd : Nat} (C : Cmain h S u l rd) : isO h 1 11 := ⟨_, C⟩
theorem RC.o {h : AH} {S : SS} {u l : Int64} {n : Nat} (R : RC h S u l n) : isO h 1 11 := by
  obtain ⟨rd, fa, li, qu, N, X, c1, -⟩ := R
  exact c1.o
theorem RC.main {h : AH} {S : SS} {u l : Int64} {n : Nat} (R : RC h S u l n) : ∃ rd, Cmain h S u l rd := by
  obtain ⟨rd, fa, li, qu, N, X, c1, -⟩ := R
  exact ⟨rd, c1⟩
section CC
variable {h : AH} {S : SS} {u l : Int64} {n : Nat}
/-- what is told -/
theorem c_told {v : Int32} {K : AH → Prop} (R : RC h S u l n) (H : ∀ h1, RC h1 (up S 4 0 0 v) u l n → Cag h h1 → K h1) : pF h 1 11 12 (.int v) K := by
  obtain ⟨rd, c1⟩ := R.main
  refine pF_of c1 (by show 12 < 16; omega) rfl (H _ (R.keepT (fun a h1 _ => aput_n _ _ h1) rfl rfl (sameT_told S v) (fun rd2 c2 => ?_) (fun c => c.keep (aput_n _ _ (by omega)) (fun r => up_c S v (by omega)))) (Cag.put (by omega)))
  have e1 := c1.symm.trans c2
  have e2 : rd = rd2 := by
    simp only [Option.some.injEq, Sum.inr.injEq, Prod.mk.injEq, List.cons.injEq, Value.ref.injEq] at e1
    exact e1.2.2.2.2.2.2.2.2.2.1
  subst e2
  unfold Cmain
  rw [aput_s, up_s, up_c S v (by omega), up_c S v (by omega), up_c S v (by omega), up_c S v (by omega)]
  rfl
theorem c_gI {k : Nat} {x : Int32} {K : Int32 → Prop} (R : RC h S u l n) (hk : ∀ rd, (match mob rd (S 14 0 0) (S 15 0 0) (S 16 0 0) (S 4 0 0) u l (S 5 0 0) with | .inr q => q.2 | _ => [])[k]? = some (.int x)) (H : K x) : gI h 1 11 k K := by
  obtain ⟨rd, c1⟩ := R.main
  exact gI_of c1 (hk rd) H
theorem c_gR {k a : Nat} {K : Nat → Prop} (R : RC h S u l n) (hk : ∀ rd, (match mob rd (S 14 0 0) (S 15 0 0) (S 16 0 0) (S 4 0 0) u l (S 5 0 0) with | .inr q => q.2 | _ => [])[k]? = some (.ref a)) (H : K a) : gR h 1 11 k K := by
  obtain ⟨rd, c1⟩ := R.main
  exact gR_of c1 (hk rd) H
theorem c_found {f : Nat} {Q : Int32 → AH → Prop} (hf : f < 6) (R : RC h S u l n) (H : ∀ h1, RC h1 (fnd S f) u l n → Cag h h1 → Q (-3) h1) : f_X11_found 1 (nI f) h Q := by
  obtain ⟨rd, c1⟩ := R.main
  obtain ⟨_, _, _, _, _, _, -, -, -, -, ⟨g, hg, hg2⟩, -⟩ := id R
  unfold f_X11_found
  refine pF_of c1 (by show 15 < 16; omega) rfl ?_
  refine gR_of (aput_s _ _ _) rfl ?_
  have h7 : (aput h 1 (mob rd (S 14 0 0) (S 15 0 0) (S 16 0 0) (S 4 0 0) u l (nI f))).2.2 7 = some (.inl (0, 6, .inl g)) := by rw [aput_n _ _ (by omega)]; exact hg
  refine lI_of h7 (vp_in_nI hf (by omega)) ?_
  refine sI_of h7 (vp_in_nI hf (by omega)) (H _ (R.keepT (fun a h1 h2 => by rw [aput_n _ _ h2, aput_n _ _ h1]) rfl rfl (sameT_fnd S f) (fun rd2 c2 => ?_) (fun _ => ?_)) ((Cag.put (by omega)).tr (Cag.put (by omega))))
  · have e1 := c1.symm.trans c2
    have e2 : rd = rd2 := by
      simp only [Option.some.injEq, Sum.inr.injEq, Prod.mk.injEq, List.cons.injEq, Value.ref.injEq] at e1
      exact e1.2.2.2.2.2.2.2.2.2.1
    subst e2
    unfold Cmain
    rw [aput_n _ _ (by omega), aput_s, fnd_c S (by omega) (by omega), fnd_c S (by omega) (by omega), fnd_c S (by omega) (by omega), fnd_c S (by omega) (by omega)]
    have e3 : fnd S f 5 0 0 = nI f := by unfold fnd; rw [up_c _ _ (by omega), up_s]
    rw [e3]
    rfl
  · refine ⟨_, aput_s _ _ _, fun i hi => ?_⟩
    rw [nI_clamp (by omega), hg2 f hf]
    unfold fnd
    by_cases e : i = f
    · subst e
      rw [pk_us, up_s]
    · rw [pk_un e, up_i _ _ e, up_c _ _ (by omega)]
      exact hg2 i hi
theorem c_isBelow {x y : Int32} {Q : Int32 → AH → Prop} (h0 : ¬ (0 ≤ x ∧ x < y) → Q 0 h) (h1 : 0 ≤ x → x < y → Q 1 h) : f_X11_isBelow x y h Q := by
  unfold f_X11_isBelow
  grind
/-- a row's, a text's reads and writes -/
theorem c_has {a p : Nat} {z i : Int32} {f : Nat → Int32} {Q : Int32 → AH → Prop} (R : RowAt h a p z f) (h0 : ¬ (0 ≤ i ∧ i < z) → Q 0 h) (h1 : 0 ≤ i → i < z → Q 1 h) : f_X6_has a i h Q := by
  unfold f_X6_has
  refine ⟨fun c => h0 (by grind), fun c => gI_of R.1 rfl ⟨fun d => h0 (by grind), fun d => h1 (by grind) (by grind)⟩⟩
theorem c_miss {a p : Nat} {z : Int32} {f : Nat → Int32} {Q : Int32 → AH → Prop} (R : RowAt h a p z f) (h0 : 0 ≤ z → Q 0 h) (h1 : z < 0 → Q 1 h) : f_X6_isMissing a h Q := by
  unfold f_X6_isMissing
  exact gI_of R.1 rfl ⟨fun c => h0 c, fun c => h1 (by grind)⟩
end CC
