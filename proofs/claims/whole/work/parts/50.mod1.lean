theorem w_lt (a b : Int32) : a.toInt64 < b.toInt64 ↔ a < b := by
  rw [Int64.lt_iff_toInt_lt, Int32.lt_iff_toInt_lt, Int32.toInt_toInt64, Int32.toInt_toInt64]
theorem w_le (a b : Int32) : a.toInt64 ≤ b.toInt64 ↔ a ≤ b := by
  rw [Int64.le_iff_toInt_le, Int32.le_iff_toInt_le, Int32.toInt_toInt64, Int32.toInt_toInt64]
section M1
variable {h : AH} {S : SS} {u l : Int64} {Q : Int32 → AH → Prop}
theorem m_in {x a b : Int32} (h0 : ¬ (a ≤ x ∧ x ≤ b) → Q 0 h) (h1 : a ≤ x → x ≤ b → Q 1 h) : f_X12_in x.toInt64 a.toInt64 b.toInt64 h Q := by
  unfold f_X12_in
  rw [w_lt, w_lt]
  grind
theorem m_isRow {r : Int32} (h0 : r < 0 ∨ 6 ≤ r → Q 0 h) (h1 : 0 ≤ r → r < 6 → Q 1 h) : f_X12_isRow r h Q := by
  unfold f_X12_isRow
  exact m_in (a := 0) (b := 5) (fun q => ⟨bl_0, h0 (by grind)⟩) (fun q1 q2 => ⟨bl_1, h1 q1 (by grind)⟩)
theorem m_isText {r : Int32} (h0 : r < 0 ∨ 4 ≤ r → Q 0 h) (h1 : 0 ≤ r → r < 4 → Q 1 h) : f_X12_isText r h Q := by
  unfold f_X12_isText
  exact m_in (a := 0) (b := 3) (fun q => ⟨bl_0, h0 (by grind)⟩) (fun q1 q2 => ⟨bl_1, h1 q1 (by grind)⟩)
theorem LkA.up4 {mi : Nat → Int32} (A : LkA S mi) (v : Int32) : LkA (up S 4 0 0 v) (upd mi 4 v) := by
  obtain ⟨a1, a2, a3, a4, a5, a6, a7, a8⟩ := A
  refine ⟨by rw [pk_us, up_s], ?_, ?_, ?_, ?_, ?_, ?_, ?_⟩ <;> rw [pk_un (by omega), up_c _ _ (by omega)] <;> assumption
theorem LkA.fnd {mi : Nat → Int32} (A : LkA S mi) (f : Nat) : LkA (fnd S f) (upd mi 7 (nI f)) := by
  obtain ⟨a1, a2, a3, a4, a5, a6, a7, a8⟩ := A
  refine ⟨?_, ?_, ?_, ?_, ?_, ?_, ?_, ?_⟩
  · rw [pk_un (by omega), fnd_c _ (by omega) (by omega)]; assumption
  · rw [pk_us]; show nI f = up _ _ _ _ _ _ _ _; rw [up_c _ _ (by omega), up_s]
  all_goals rw [pk_un (by omega), fnd_c _ (by omega) (by omega)]; assumption
theorem RM.o (R : RM h S u l) : isO h 102 12 := by
  obtain ⟨mi, ma, R1, -⟩ := R
  exact R1.o
theorem m_told {v : Int32} {K : AH → Prop} (R : RM h S u l) (H : ∀ h1, RM h1 (up S 4 0 0 v) u l → Mag h h1 → K h1) : pF h 102 12 4 (.int v) K := by
  obtain ⟨mi, ma, R1, A, W, T, F, Rd, Lg, K⟩ := R
  exact m_pF R1 (by omega) (ms4 _ _ _ _) (fun h1 r1 a1 => H h1 (RM.keepT (u := u) (l := l) (h := h) (mi := mi) r1 (A.up4 v) (sameT_told S v) W T (F.keep (fun _ => rfl) (fun r => up_c _ _ (by omega))) Rd Lg K (fun _ _ _ _ => rfl)) a1)
theorem m_tells {v : Int32} (R : RM h S u l) (H : ∀ h1, RM h1 (up S 4 0 0 v) u l → Mag h h1 → Q 1 h1) : f_X12_tells 102 v h Q := by
  unfold f_X12_tells
  exact m_told R H
theorem m_find {f : Nat} (hf : f < 6) (R : RM h S u l) (H : ∀ h1, RM h1 (fnd S f) u l → Mag h h1 → Q (-3) h1) : f_X12_find 102 (nI f) h Q := by
  obtain ⟨mi, ma, R1, A, W, T, F, Rd, Lg, K⟩ := R
  unfold f_X12_find
  refine m_pF R1 (by omega) (ms7 _ _ _ _) (fun h1 r1 a1 => m_gR r1 (mr8 _ _ _) (m_lI r1 (j := 4) rfl rfl rfl (vp_in_nI hf (by omega)) (m_sI r1 (j := 4) rfl rfl rfl (vp_in_nI hf (by omega)) (fun h2 r2 a2 => H h2 ?_ (a1.tr a2)))))
  refine RM.keepT (u := u) (l := l) (h := h) (mi := mi) r2 (A.fnd f) (sameT_fnd S f) W T (fun i hi => ?_) Rd Lg K (fun j i _ hj => by rw [va_up_ne _ _ hj])
  rw [va_up_self, nI_clamp (by omega), F f hf]
  show _ = up _ _ _ _ _ _ _ _
  by_cases e : i = f
  · subst e
    rw [pk_us, up_s]
  · rw [pk_un e, up_i _ _ e, up_c _ _ (by omega)]
    exact F i hi
/-- a heap whose rows, or texts, alone have changed -/
theorem RM.keepW {h1 : AH} {S1 : SS} {mi : Nat → Int32} {ma ma1 : Nat → Nat → Int32} {c : Nat} (hc : c = 0 ∨ c = 2) (R1 : RepM h1 mi u l ma1) (A : LkA S mi) (W : LkW S ma) (T : LkT S ma) (F : LkF S ma) (Rd : LkR S ma) (Lg : LkL S ma) (K : LkK S ma) (hm : ∀ j i, j ≠ c → j ≠ c + 1 → ma1 j i = ma j i) (HS : ∀ c' i j, c' ≠ c → c' ≠ c + 1 → S1 c' i j = S c' i j) (hw : c = 0 → LkW S1 ma1) (ht : c = 2 → LkT S1 ma1) : RM h1 S1 u l := by
  refine ⟨mi, ma1, R1, ?_, ?_, ?_, F.keep (fun i => hm 4 i (by omega) (by omega)) (fun r => HS 6 r 0 (by omega) (by omega)), Rd.keep (fun j i x y => hm j i (by omega) (by omega)) (fun c' i j x y => HS c' i j (by omega) (by omega)), Lg.keep (fun j i x y => hm j i (by omega) (by omega)) (fun c' i j x y => HS c' i j (by omega) (by omega)), K.keep (fun i => hm 15 i (by omega) (by omega)) (fun i => hm 16 i (by omega) (by omega)) (fun r => HS 21 r 0 (by omega) (by omega)) (fun r => HS 22 r 0 (by omega) (by omega))⟩
  · unfold LkA
    rw [HS 4 0 0 (by omega) (by omega), HS 5 0 0 (by omega) (by omega), HS 7 0 0 (by omega) (by omega), HS 8 0 0 (by omega) (by omega), HS 9 0 0 (by omega) (by omega), HS 15 0 0 (by omega) (by omega), HS 14 0 0 (by omega) (by omega), HS 16 0 0 (by omega) (by omega)]
    exact A
  · rcases hc with rfl | rfl
    · exact hw rfl
    · exact W.keep (fun i => hm 0 i (by omega) (by omega)) (fun i => hm 1 i (by omega) (by omega)) (fun r => HS 0 r 0 (by omega) (by omega)) (fun r i => HS 1 r i (by omega) (by omega))
  · rcases hc with rfl | rfl
    · exact T.keep (fun i => hm 2 i (by omega) (by omega)) (fun i => hm 3 i (by omega) (by omega)) (fun r => HS 2 r 0 (by omega) (by omega)) (fun r i => HS 3 r i (by omega) (by omega))
    · exact ht rfl
end M1
