/-! the model's walks are the spec's -/
/-- behind some of a walk: the model's numbers and rows, but for the walk's own, as at first -/
def MS (S : SS) (h0 : AH) (mi0 : Nat → Int32) (u l : Int64) (ma0 : Nat → Nat → Int32) (T : TR) (h : AH) : Prop := ∃ mi ma, RepM h mi u l ma ∧ Mag h0 h ∧ (∀ j, j ≠ 38 → mi j = mi0 j) ∧ (∀ j i, j ≠ 22 → j ≠ 23 → ma j i = ma0 j i) ∧ (∀ k, k < sN S → ma 22 k = nI (T.1 k)) ∧ (∀ k, k < 5 → ma 23 k = nI (T.2.1 k)) ∧ mi 38 = nI T.2.2
section MW
variable {S : SS} {h0 h : AH} {mi0 : Nat → Int32} {u l : Int64} {ma0 : Nat → Nat → Int32} {T : TR}
theorem ti_0 : (0 : Int32).toInt = 0 := rfl
theorem nI_eqI {a b : Nat} (ha : a < 2 ^ 31) (hb : b < 2 ^ 31) : nI a = nI b ↔ a = b := by
  refine ⟨fun e => ?_, fun e => by rw [e]⟩
  have := congrArg Int32.toInt e
  rw [nI_toInt ha, nI_toInt hb] at this
  omega
theorem m_num {k : Nat} {K : Int32 → Prop} (W : WFr S) (Rd : LkR S ma0) (M : MS S h0 mi0 u l ma0 T h) (hk : k < sN S) (H : K (nI (nu S k))) : gR h 102 12 11 (fun a => lI h a (nI k) K) := by
  obtain ⟨mi, ma, R, -, -, m2, -⟩ := M
  have hs5 := W.2.2.2.2.2.1
  refine m_gR R (mr11 _ _ _) (m_lI R (j := 5) rfl rfl rfl (vp_in_nI (by omega) (by omega)) ?_)
  rw [nI_clamp (by omega), m2 5 k (by omega) (by omega), Rd.1 k hk, (W.2.2.2.2.2.2.2.2.1 k hk).1]
  exact H
theorem m_home {k : Nat} {Q : Int32 → AH → Prop} (W : WFr S) (Rd : LkR S ma0) (A9 : mi0 9 = S 7 0 0) (M : MS S h0 mi0 u l ma0 T h) (hk : k < sN S) (H : Q (homI S k) h) : f_X12_home 102 (nI k) h Q := by
  have n1 := (W.2.2.2.2.2.2.2.2.1 k hk).2
  have hp7 := W.2.2.2.1
  refine m_num W Rd M hk ?_
  obtain ⟨mi, ma, R, -, m1, -⟩ := id M
  refine m_gI R (mg9 _ _ _) ?_
  rw [m1 9 (by omega), A9, W.1]
  unfold homI at H
  refine ⟨fun q => ?_, fun q => m_num W Rd M hk ?_⟩
  · rw [nI_ltI (by omega) (by omega)] at q
    rw [if_neg (by omega)] at H
    exact H
  · rw [nI_ltI (by omega) (by omega)] at q
    rw [if_pos (by omega)] at H
    rw [show (1 : Int32) = nI 1 from rfl, pk_sub (by omega)]
    exact H
theorem m_abs {x : Int32} {Q : Int32 → AH → Prop} {a b : Nat} (ha : a < 100) (hb : b < 100) (hx : x = nI a - nI b) (H : Q (nI (if b ≤ a then a - b else b - a)) h) : f_X12_size x h Q := by
  subst hx
  have e1 : (nI a - nI b).toInt = (a : Int) - b := pk_sub_toInt (by omega) (by omega)
  refine ⟨fun q => ?_, fun q => ?_⟩
  · rw [tle, e1, ti_0] at q
    rw [if_pos (by omega)] at H
    rw [pk_sub (by omega)]
    exact H
  · rw [tle, e1, ti_0] at q
    rw [if_neg (by omega)] at H
    have : -(nI a - nI b) = nI (b - a) := by
      refine ti_ext ?_
      rw [ti_neg (by omega), e1, nI_toInt (by omega)]
      omega
    rw [this]
    exact H
/-- how far a stone is from its home, 9 if it has none -/
theorem m_away {k p : Nat} {K : Int32 → AH → Prop} (W : WFr S) (Rd : LkR S ma0) (A9 : mi0 9 = S 7 0 0) (M : MS S h0 mi0 u l ma0 T h) (hk : k < sN S) (hp : p < 8) (H : K (nI (ds S k p)) h) :
    f_X12_home 102 (nI k) h (fun x1 h2 => ((0 ≤ x1 → isO h2 102 12 ∧ f_X12_home 102 (nI k) h2 (fun x3 h4 => f_X12_size (x3 - nI p) h4 K)) ∧ (¬ (0 ≤ x1) → K (9 : Int32) h2))) := by
  have n1 := (W.2.2.2.2.2.2.2.2.1 k hk).2
  obtain ⟨mi, ma, R, -⟩ := id M
  refine m_home W Rd A9 M hk ⟨fun q => ⟨R.o, m_home W Rd A9 M hk ?_⟩, fun q => ?_⟩
  · by_cases e : nu S k ≤ pN S
    · unfold homI
      rw [if_pos e]
      refine m_abs (a := nu S k - 1) (b := p) (by omega) (by omega) rfl ?_
      unfold ds at H
      rw [if_pos e] at H
      exact H
    · unfold homI at q
      rw [if_neg e] at q
      exact absurd q (by decide)
  · by_cases e : nu S k ≤ pN S
    · unfold homI at q
      rw [if_pos e] at q
      exact absurd (nI_pos' (by omega)) q
    · unfold ds at H
      rw [if_neg e] at H
      exact H
theorem m_ahead {k j p law : Nat} {Q : Int32 → AH → Prop} (W : WFr S) (Rd : LkR S ma0) (A9 : mi0 9 = S 7 0 0) (M : MS S h0 mi0 u l ma0 T h) (hk : k < sN S) (hj : j < sN S) (hp : p < 8) (hl : law ≤ 2) (H : Q (if ahb S law k j p then 1 else 0) h) : f_X12_isAhead 102 (nI k) (nI j) (nI p) (nI law) h Q := by
  have n1 := (W.2.2.2.2.2.2.2.2.1 k hk).2
  have n2 := (W.2.2.2.2.2.2.2.2.1 j hj).2
  have hp7 := W.2.2.2.1
  have dk : ds S k p < 100 := by
    unfold ds
    split
    · split <;> omega
    · omega
  have dj : ds S j p < 100 := by
    unfold ds
    split
    · split <;> omega
    · omega
  obtain ⟨mi, ma, R, -⟩ := id M
  unfold f_X12_isAhead
  rw [show (1 : Int32) = nI 1 from rfl, nI_eqI (by omega) (by omega)]
  refine ⟨fun q => ⟨R.o, m_away (K := fun x5 h6 => B_X12_isAhead_50 Q 102 (nI k) (nI j) (nI p) (nI law) x5 h6) W Rd A9 M hk hp ?_⟩, fun q => m_num W Rd M hk (m_num W Rd M hj ?_)⟩
  · unfold ahb at H
    rw [if_neg q] at H
    refine ⟨R.o, m_away (K := fun x5 h6 => B_X12_isAhead_75 Q 102 (nI k) (nI j) (nI law) (nI (ds S k p)) x5 h6) W Rd A9 M hj hp ?_⟩
    have tail : (¬ (law = 2 ∧ ds S k p ≠ ds S j p)) → B_X12_isAhead_105 Q 102 (nI k) (nI j) h := by
      intro z
      rw [if_neg z] at H
      refine m_num W Rd M hk (m_num W Rd M hj ?_)
      rw [nI_leI (by omega) (by omega)]
      refine ⟨fun c => ?_, fun c => ?_⟩
      · rw [decide_eq_false (by omega)] at H; exact H
      · rw [decide_eq_true (by omega)] at H; exact H
    unfold B_X12_isAhead_75
    rw [show (2 : Int32) = nI 2 from rfl, nI_eqI (by omega) (by omega), nI_eqI (by omega) (by omega), nI_leI (by omega) (by omega)]
    refine ⟨fun c => tail (fun z => c z.1), fun c => ⟨fun d => tail (fun z => z.2 d), fun d => ?_⟩⟩
    rw [if_pos (show law = 2 ∧ ds S k p ≠ ds S j p from ⟨c, d⟩)] at H
    refine ⟨fun z => ?_, fun z => ?_⟩
    · rw [decide_eq_false (by omega)] at H; exact H
    · rw [decide_eq_true (by omega)] at H; exact H
  · unfold ahb at H
    rw [if_pos q] at H
    rw [nI_leI (by omega) (by omega)]
    refine ⟨fun c => ?_, fun c => ?_⟩
    · rw [decide_eq_false (by omega)] at H; exact H
    · rw [decide_eq_true (by omega)] at H; exact H
theorem tkn_lt {sp : Nat → Nat} {p law k : Nat} : ∀ {n : Nat}, tkn S sp p law n = some k → k < n
  | 0, e => by cases e
  | n + 1, e => by
    unfold tkn at e
    split at e
    · split at e
      · have := Option.some.inj e; omega
      · cases e
    · rename_i b hb
      have := tkn_lt hb
      split at e
      · have := Option.some.inj e; omega
      · have := Option.some.inj e; omega
theorem m_taken {p law : Nat} {Q : Int32 → AH → Prop} (W : WFr S) (Rd : LkR S ma0) (A9 : mi0 9 = S 7 0 0) (A10 : mi0 10 = S 8 0 0) (I : TI S T) (M : MS S h0 mi0 u l ma0 T h) (hp : p < 8) (hl : law ≤ 2) (H0 : tk S T.1 p law = none → Q (-9) h) (H1 : ∀ k, tk S T.1 p law = some k → k < sN S → Q (nI k) h) : f_X12_taken 102 (nI p) (nI law) h Q := by
  have hs5 := W.2.2.2.2.2.1
  obtain ⟨mi, ma, R, -, m1, m2, m3, -⟩ := id M
  have main : ∀ (m k : Nat) (v3 : Int32), k + m = sN S → (match tkn S T.1 p law k with | none => v3 = -9 | some b => v3 = nI b) → L_X12_taken_6 Q 102 (nI p) (nI law) (m + 1) v3 (nI k) h := by
    intro m
    induction m with
    | zero =>
      intro k v3 hk hv
      have e : k = sN S := by omega
      subst e
      refine m_gI R (mg10 _ _ _) ?_
      rw [m1 10 (by omega), A10, W.2.1]
      refine ⟨fun _ => ?_, fun q => absurd (Int32.le_refl _) q⟩
      cases z : tkn S T.1 p law (sN S) with
      | none => rw [z] at hv; dsimp only at hv; rw [hv]; exact H0 z
      | some b => rw [z] at hv; dsimp only at hv; rw [hv]; exact H1 b z (tkn_lt z)
    | succ m ih =>
      intro k v3 hk hv
      refine m_gI R (mg10 _ _ _) ?_
      rw [m1 10 (by omega), A10, W.2.1, nI_leI (by omega) (by omega)]
      refine ⟨fun q => by omega, fun _ => m_gR R (mr36 _ _ _) (m_lI R (j := 22) rfl rfl rfl (vp_in_nI (by omega) (by omega)) ?_)⟩
      have lt := I.lt W (show k < sN S by omega)
      rw [nI_clamp (by omega), m3 k (by omega), nI_eqI (by omega) (by omega), nI_1]
      refine ⟨fun q => ih (k + 1) v3 (by omega) ?_, fun q => ⟨fun z => ih (k + 1) _ (by omega) ?_, fun z => ?_⟩⟩
      · unfold tkn
        cases y : tkn S T.1 p law k with
        | none => rw [y] at hv; dsimp only at hv ⊢; rw [if_neg q]; exact hv
        | some b => rw [y] at hv; dsimp only at hv ⊢; rw [if_neg (fun x => q x.1)]; exact hv
      · unfold tkn
        cases y : tkn S T.1 p law k with
        | none => rw [y] at hv; dsimp only at hv ⊢; rw [if_pos q]
        | some b => rw [y] at hv; dsimp only at hv; rw [hv] at z; exact absurd z (nI_nn b (by have := tkn_lt y; omega))
      · cases y : tkn S T.1 p law k with
        | none => rw [y] at hv; exact absurd hv z
        | some b =>
          rw [y] at hv
          dsimp only at hv
          subst hv
          have lb := tkn_lt y
          refine ⟨R.o, m_ahead W Rd A9 M (by omega) (by omega) hp hl ?_⟩
          refine ⟨fun c => ih (k + 1) _ (by omega) ?_, fun c => ih (k + 1) _ (by omega) ?_⟩
          · unfold tkn
            rw [y]
            dsimp only
            split at c
            · exact absurd c (by decide)
            · rename_i g; rw [if_neg (fun x => g x.2)]
          · unfold tkn
            rw [y]
            dsimp only
            split at c
            · rename_i g; rw [if_pos ⟨q, g⟩]
            · exact absurd rfl c
  exact ⟨sN S + 1, main (sN S) 0 (-9) (by omega) rfl⟩
end MW
