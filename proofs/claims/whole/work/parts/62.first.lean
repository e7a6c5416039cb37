/-! the class's firstOn takes the stone that the spec takes -/
theorem ti_add {x y : Int32} (h : -2147483648 ≤ x.toInt + y.toInt) (h2 : x.toInt + y.toInt < 2147483648) : (x + y).toInt = x.toInt + y.toInt := by
  rw [Int32.toInt_add]; exact Int.bmod_eq_of_le (by omega) (by omega)
theorem ti_sub {x y : Int32} (h : -2147483648 ≤ x.toInt - y.toInt) (h2 : x.toInt - y.toInt < 2147483648) : (x - y).toInt = x.toInt - y.toInt := by
  rw [Int32.toInt_sub]; exact Int.bmod_eq_of_le (by omega) (by omega)
theorem ti_mul {x y : Int32} (h : -2147483648 ≤ x.toInt * y.toInt) (h2 : x.toInt * y.toInt < 2147483648) : (x * y).toInt = x.toInt * y.toInt := by
  rw [Int32.toInt_mul]; exact Int.bmod_eq_of_le (by omega) (by omega)
theorem ti_neg {x : Int32} (h : -2147483648 < x.toInt) : (-x).toInt = -x.toInt := by
  have := Int32.toInt_lt x
  rw [Int32.toInt_neg]; exact Int.bmod_eq_of_le (by omega) (by omega)
theorem tl {x y : Int32} : x < y ↔ x.toInt < y.toInt := Int32.lt_iff_toInt_lt
theorem tle {x y : Int32} : x ≤ y ↔ x.toInt ≤ y.toInt := Int32.le_iff_toInt_le
theorem ti_ext {x y : Int32} (h : x.toInt = y.toInt) : x = y := Int32.toInt_inj.mp h
section FIRST
variable {h : AH} {S : SS} {rd : Nat} {X : Nat → Prop}
theorem c_turn {law k p : Nat} {Q : Int32 → AH → Prop} (W : WFr S) (C : Crod h rd S X) (hk : k < sN S) (hp : p < 8) (hl : law ≤ 2) (H : ∀ x : Int32, x.toInt = tnI S law p k → Q x h) : f_X5_turnOf rd (nI k) (nI p) (nI law) h Q := by
  obtain ⟨n, hm, wy, fo, fn, fh, fw, ff, wa, st, x1, x2, x3, x4, x5, c1, c2, c3, c4, c5, c6, c7⟩ := C
  have hs5 := W.2.2.2.2.2.1
  obtain ⟨n0, n1, n2⟩ := W.2.2.2.2.2.2.2.2.1 k hk
  obtain ⟨d1, d2, d3⟩ := c6 k hk
  have rdn : ∀ K : Int32 → Prop, K (nI (nu S k)) → lI h n (nI k) K := fun K z => lI_of c2 (vp_in_nI (by omega) (by omega)) (by rw [nI_clamp (by omega), d1, n0]; exact z)
  have tn : (nI (nu S k)).toInt = nu S k := nI_toInt (by omega)
  unfold f_X5_turnOf
  refine ⟨fun e => gR_of c1 rfl (rdn _ (H _ ?_)), fun e => gR_of c1 rfl (rdn _ (H _ ?_)), fun e0 e1 => gR_of c1 rfl (rdn _ (gR_of c1 rfl (lI_of c4 (i := 8 * nI k + nI p) ?_ ?_)))⟩
  · have : law = 0 := by
      rcases Nat.lt_or_ge 0 law with q | q
      · have := congrArg Int32.toInt e
        rw [nI_toInt (by omega)] at this
        have : (0 : Int32).toInt = 0 := rfl
        omega
      · omega
    unfold tnI
    rw [if_pos this, tn]
  · have : law = 1 := by
      have := congrArg Int32.toInt e
      rw [nI_toInt (by omega)] at this
      have : (1 : Int32).toInt = 1 := rfl
      omega
    unfold tnI
    rw [if_neg (by omega), if_pos this, ti_neg (by omega), tn]
  · rw [show (8 : Int32) = nI 8 from rfl, pk_mul, nI_add]
    exact vp_in_nI (by omega) (by omega)
  · rw [show (8 : Int32) = nI 8 from rfl, pk_mul, nI_add, nI_clamp (by omega), d3 p hp]
    refine H _ ?_
    have l0 : law ≠ 0 := fun z => e0 (by rw [z]; rfl)
    have l1 : law ≠ 1 := fun z => e1 (by rw [z]; rfl)
    unfold tnI
    rw [if_neg l0, if_neg l1]
    have wt : (wayI S k p).toInt = (if nu S k ≤ pN S then (ds S k p : Int) else 7) ∧ (wayI S k p).toInt ≤ 7 ∧ 0 ≤ (wayI S k p).toInt := by
      unfold wayI
      split
      · have := (ds_le W (k := k) (p := p) hk (by omega) (by assumption)).1
        rw [nI_toInt (by omega)]; omega
      · exact ⟨rfl, by decide, by decide⟩
    have e10 : (10 : Int32).toInt = 10 := rfl
    have m1 : ((10 : Int32) * wayI S k p).toInt = 10 * (wayI S k p).toInt := by
      rw [ti_mul (by rw [e10]; omega) (by rw [e10]; omega), e10]
    rw [ti_sub (by rw [m1, tn]; omega) (by rw [m1, tn]; omega), m1, tn, wt.1]
theorem c_first {t c law a b : Nat} {lw bf by_ py ca mv : Int32} {Q : Int32 → AH → Prop} (W : WFr S) (C : Crod h rd S X) (T : h.2.2 t = some (trip rd lw bf (nI c) by_ py ca mv)) (hc : c < 32768) (hl : law ≤ 2) (ha : a < pN S) (hb : b < pN S)
    (H0 : fpo S (dig c) law b 8 a = b → Q (-1) h)
    (H1 : ∀ p k, fpo S (dig c) law b 8 a = p → p ≠ b → p < pN S → tk S (dig c) p law = some k → k < sN S → dig c k = p → (a < b ↔ p < b) → Q (nI k) h) : f_X9_firstOn t (nI a) (nI b) (nI law) h Q := by
  have hs5 := W.2.2.2.2.2.1
  have hp7 := W.2.2.2.1
  have hS8 := W.2.1
  have z0 : (0 : Int32).toInt = 0 := rfl
  have ta : (nI a).toInt = a := nI_toInt (by omega)
  have tb : (nI b).toInt = b := nI_toInt (by omega)
  have lenI : (if 0 ≤ (nI b - nI a) then (nI b - nI a) else 0 - (nI b - nI a) : Int32).toInt = if a < b then (b : Int) - a else (a : Int) - b := by
    have e1 : (nI b - nI a).toInt = (b : Int) - a := by rw [ti_sub (by omega) (by omega), ta, tb]
    by_cases q : 0 ≤ nI b - nI a
    · rw [if_pos q, e1]
      rw [tle, e1, z0] at q
      split <;> omega
    · rw [if_neg q, ti_sub (by omega) (by omega), e1]
      rw [tle, e1, z0] at q
      split <;> omega
  unfold f_X9_firstOn
  generalize hLn : (if 0 ≤ (nI b - nI a) then (nI b - nI a) else 0 - (nI b - nI a) : Int32) = ln at lenI
  have main : ∀ (m k : Nat) (v4 v5 : Int32), k + m = sN S →
      ((v4 = -1 ∧ ∀ j, j < k → ¬ onw a b (dig c j)) ∨ ∃ i, i < k ∧ v4 = nI i ∧ onw a b (dig c i) ∧ v5.toInt = kyI S (dig c) law a b i ∧ ∀ j, j < k → onw a b (dig c j) → kyI S (dig c) law a b i ≤ kyI S (dig c) law a b j) →
      L_X9_firstOn_17 Q t (nI a) (nI b) (nI law) ln (m + 1) v4 v5 (nI k) h := by
    intro m
    induction m with
    | zero =>
      intro k v4 v5 hk hi
      obtain ⟨n, hm, wy, fo, fn, fh, fw, ff, wa, st, x1, x2, x3, x4, x5, c1, -⟩ := C
      refine gR_of T rfl (gI_of c1 rfl ⟨fun _ => ?_, fun q => absurd (show S 8 0 0 ≤ nI k by rw [hS8]; exact nI_le (by omega) (by omega)) q⟩)
      have ek : k = sN S := by omega
      subst ek
      rcases fpo_key W (sp := dig c) hl hb 8 a ha (by split <;> omega) with ⟨g1, g2⟩ | ⟨p, k, g1, g2, g3, g4, g5, g6, g7, g8, g9⟩
      · rcases hi with ⟨e, -⟩ | ⟨i, i1, -, i3, -⟩
        · rw [e]; exact H0 g1
        · exact absurd i3 (g2 i i1)
      · rcases hi with ⟨-, i2⟩ | ⟨i, i1, i2, i3, i4, i5⟩
        · exact absurd (by rw [g6]; exact g7) (i2 k g5)
        · have : i = k := by
            by_cases e : i = k
            · exact e
            · have q1 := g9 i i1 i3 e
              have q2 := i5 k g5 (by rw [g6]; exact g7)
              omega
          rw [i2, this]
          exact H1 p k g1 g2 g3 g4 g5 g6 g8
    | succ m ih =>
      intro k v4 v5 hk hi
      obtain ⟨n, hm, wy, fo, fn, fh, fw, ff, wa, st, x1, x2, x3, x4, x5, c1, -⟩ := id C
      have hd := dig_lt c k
      have tp : (nI (dig c k)).toInt = dig c k := nI_toInt (by omega)
      have hk1 : nI k + 1 = nI (k + 1) := nI_1 k
      -- what comes behind the step
      have rest : ∀ t0 : Int32, t0.toInt = stp a b (dig c k) → B_X9_firstOn_56 Q (L_X9_firstOn_17 Q t (nI a) (nI b) (nI law) ln (m + 1)) t (nI a) (nI b) (nI law) v4 v5 ln (nI k) (nI (dig c k)) t0 h := by
        intro t0 ht
        have skip : ¬ onw a b (dig c k) → L_X9_firstOn_17 Q t (nI a) (nI b) (nI law) ln (m + 1) v4 v5 (nI k + 1) h := by
          intro no
          rw [hk1]
          refine ih (k + 1) v4 v5 (by omega) ?_
          rcases hi with ⟨e, i2⟩ | ⟨i, i1, i2, i3, i4, i5⟩
          · refine Or.inl ⟨e, fun j hj => ?_⟩
            by_cases e2 : j = k
            · rw [e2]; exact no
            · exact i2 j (by omega)
          · refine Or.inr ⟨i, by omega, i2, i3, i4, fun j hj hoj => ?_⟩
            by_cases e2 : j = k
            · rw [e2] at hoj; exact absurd hoj no
            · exact i5 j (by omega) hoj
        refine ⟨fun q => skip fun z => ?_, fun q => ⟨fun q2 => skip fun z => ?_, fun q2 => gR_of T rfl ⟨isO_of c1, c_turn W C (by omega) hd hl fun x hx => ?_⟩⟩⟩
        · rw [tl, ht, z0] at q; exact absurd z.1 (by omega)
        · rw [tle, lenI, ht] at q2; exact absurd z.2 (by omega)
        · have on : onw a b (dig c k) := by
            rw [tl, ht, z0] at q
            rw [tle, lenI, ht] at q2
            exact ⟨by omega, by omega⟩
          have rng := tn_rng W (law := law) (k := k) (p := dig c k) (by omega) (by omega)
          have on' := on
          have sb : stp a b (dig c k) ≤ 7 := by
            have := on.2
            split at this <;> omega
          have s0 := on.1
          have e100 : (100 : Int32).toInt = 100 := rfl
          have m1 : ((100 : Int32) * t0).toInt = 100 * stp a b (dig c k) := by
            rw [ti_mul (by rw [e100, ht]; omega) (by rw [e100, ht]; omega), e100, ht]
          have ky : ((100 : Int32) * t0 + x).toInt = kyI S (dig c) law a b k := by
            rw [ti_add (by rw [m1, hx]; omega) (by rw [m1, hx]; omega), m1, hx]; rfl
          have take : (∀ j, j < k → onw a b (dig c j) → kyI S (dig c) law a b k ≤ kyI S (dig c) law a b j) → B_X9_firstOn_102 Q (L_X9_firstOn_17 Q t (nI a) (nI b) (nI law) ln (m + 1)) t (nI a) (nI b) (nI law) ln (nI k) ((100 : Int32) * t0 + x) h := by
            intro hle
            show L_X9_firstOn_17 Q t (nI a) (nI b) (nI law) ln (m + 1) (nI k) _ (nI k + 1) h
            rw [hk1]
            refine ih (k + 1) _ _ (by omega) (Or.inr ⟨k, by omega, rfl, on, ky, fun j hj hoj => ?_⟩)
            by_cases e2 : j = k
            · rw [e2]; omega
            · exact hle j (by omega) hoj
          refine ⟨fun q3 => take fun j hj hoj => ?_, fun q3 => ⟨fun q4 => ?_, fun q4 => take fun j hj hoj => ?_⟩⟩
          · rcases hi with ⟨e, i2⟩ | ⟨i, i1, i2, i3, i4, i5⟩
            · exact absurd hoj (i2 j hj)
            · rw [i2, tl, nI_toInt (by omega), z0] at q3; omega
          · rw [hk1]
            refine ih (k + 1) _ _ (by omega) ?_
            rcases hi with ⟨e, i2⟩ | ⟨i, i1, i2, i3, i4, i5⟩
            · exact absurd (by rw [e]; decide) q3
            · refine Or.inr ⟨i, by omega, i2, i3, i4, fun j hj hoj => ?_⟩
              by_cases e2 : j = k
              · rw [e2, ← i4, ← ky]; exact tle.mp q4
              · exact i5 j (by omega) hoj
          · rcases hi with ⟨e, i2⟩ | ⟨i, i1, i2, i3, i4, i5⟩
            · exact absurd hoj (i2 j hj)
            · have := i5 j hj hoj
              rw [tle, i4, ky] at q4
              omega
      refine gR_of T rfl (gI_of c1 rfl ⟨fun q => absurd (nI_lt (show k < sN S by omega) (by omega)) (by rw [← hS8, tl]; have := tle.mp q; omega), fun _ => gI_of T rfl ?_⟩)
      show (nI b ≤ nI a → _) ∧ (¬ nI b ≤ nI a → _)
      rw [b_post (by omega) (by omega)]
      refine ⟨fun q => rest _ ?_, fun q => rest _ ?_⟩
      · rw [tle, ta, tb] at q
        rw [ti_sub (by omega) (by omega), ta, tp]; unfold stp; rw [if_neg (by omega)]
      · rw [tle, ta, tb] at q
        rw [ti_sub (by omega) (by omega), ta, tp]; unfold stp; rw [if_pos (by omega)]
  exact ⟨sN S + 1, main (sN S) 0 (-1) 0 (by omega) (Or.inl ⟨rfl, fun j hj => by omega⟩)⟩
end FIRST
