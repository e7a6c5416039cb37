/-! the unlike standings behind all rows -/
def inl (f : Nat → Nat) (x : Nat) : Nat → Bool
  | 0 => false
  | k + 1 => inl f x k || decide (f k = x)
def mts (g : Nat → Nat) : Nat → Nat × (Nat → Nat)
  | 0 => (0, fun _ => 0)
  | r + 1 => if inl (mts g r).2 (g r) (mts g r).1 then mts g r else ((mts g r).1 + 1, fun i => if i = (mts g r).1 then g r else (mts g r).2 i)
theorem inl_mono {f : Nat → Nat} {x k : Nat} (h : inl f x k = true) : ∀ m, inl f x (k + m) = true
  | 0 => h
  | m + 1 => by show (inl f x (k + m) || _) = true; rw [inl_mono h m]; rfl
theorem mts_le (g : Nat → Nat) : ∀ r, (mts g r).1 ≤ r
  | 0 => Nat.le_refl _
  | r + 1 => by
    have := mts_le g r
    unfold mts
    split
    · omega
    · show (mts g r).1 + 1 ≤ r + 1
      omega
theorem mts_all {g : Nat → Nat} {P : Nat → Prop} : ∀ {r : Nat}, (∀ i, i < r → P (g i)) → ∀ i, i < (mts g r).1 → P ((mts g r).2 i)
  | 0, _, i, hi => absurd hi (Nat.not_lt_zero _)
  | r + 1, h, i, hi => by
    have ih := mts_all (g := g) (P := P) (r := r) (fun i hi => h i (by omega))
    unfold mts at hi ⊢
    split
    · rename_i e
      rw [if_pos e] at hi
      exact ih i hi
    · rename_i e
      rw [if_neg e] at hi
      show P (if i = (mts g r).1 then g r else (mts g r).2 i)
      have hi : i < (mts g r).1 + 1 := hi
      split
      · exact h r (by omega)
      · exact ih i (by omega)
/-- the standing behind a row -/
def gRw (S : SS) (law c m : Nat) (row : Nat) : Nat := (rww S law c (rdg (wN S) m row) m).1
theorem gRw_cd {S : SS} {law c m row : Nat} (W : WFr S) (D : Cd S c) (hr : row < wN S ^ m) : Cd S (gRw S law c m row) := rww_cd W D m (fun k hk => rdg_lt (wpos hr (by omega)))
section GATHER
variable {h0 h : AH} {S : SS} {u l : Int64} {n rd c law fa li qu : Nat} {X : Nat → Prop} {ex re ga dr rt bg ie : Int32} {f e a : Nat → Int32} {ma0 ma : Nat → Nat → Int32} {mi : Nat → Int32}
theorem c_gather {x P1 : Nat} {P2 : Nat → Nat} {Q : AH → Prop} (Z : SQ h0 rd c law ex fa li qu re (nI P1) dr rt bg ie f e a h) (hP : P1 < 125) (hx : x < 32768) (h2 : ∀ i, i < P1 → P2 i < 32768) (he : ∀ i, i < P1 → e i = nI (P2 i))
    (Ht : inl P2 x P1 = true → Q h) (Hf : inl P2 x P1 = false → ∀ h1 e', SQ h0 rd c law ex fa li qu re (nI (P1 + 1)) dr rt bg ie f e' a h1 → (∀ i, i < P1 + 1 → e' i = nI (if i = P1 then x else P2 i)) → Q h1) : f_X7_gather 14 (nI x) h Q := by
  obtain ⟨z1, z2, z3, z4, z5, z6, z7, z8⟩ := id Z
  have vP : vp_in (nI P1) 125 := vp_in_nI hP (by omega)
  refine ⟨P1 + 1, lpG (L := L_X7_gather_2 Q 14 (nI x)) (I := fun i b h1 => b = nI i ∧ h1 = h ∧ inl P2 x i = false) P1 (fun m b h1 Y => ?_) (fun i m b h1 hi Y K => ?_) P1 0 (by omega) 0 h ⟨rfl, rfl, rfl⟩⟩
  · obtain ⟨rfl, rfl, y⟩ := Y
    refine gI_of z4 rfl ⟨fun _ => gI_of z4 rfl ⟨fun q => absurd q ?_, fun _ => gR_of z4 rfl (gI_of z4 rfl (sI_of z7 vP ?_))⟩, fun q => absurd (Int32.le_refl _) q⟩
    · rw [show (125 : Int32) = nI 125 from rfl, nI_leI (by omega) (by omega)]; omega
    · have Z2 := Z.p16 (g := upd e (nI P1).toNatClampNeg (nI x))
      refine gI_of Z2.2.2.2.1 rfl (pF_of Z2.2.2.2.1 (Nat.le_of_ble_eq_true rfl) rfl ?_)
      rw [nI_1]
      refine Hf y _ _ (Z2.p14 (ga' := nI (P1 + 1)) (dr' := dr) (rt' := rt) (bg' := bg) (ie' := ie)) (fun i hi => ?_)
      rw [nI_clamp (by omega)]
      by_cases g : i = P1
      · rw [if_pos g, g, pk_us]
      · rw [if_neg g, pk_un g, he i (by omega)]
  · obtain ⟨rfl, rfl, y⟩ := Y
    refine gI_of z4 rfl ⟨fun q => absurd q ?_, fun _ => ⟨fun q => absurd q ?_, fun _ => gR_of z4 rfl (lI_of z7 (vp_in_nI (by omega) (by omega)) ?_)⟩⟩
    · rw [nI_leI (by omega) (by omega)]; omega
    · rw [show (125 : Int32) = nI 125 from rfl, nI_leI (by omega) (by omega)]; omega
    · have := h2 i hi
      rw [nI_clamp (by omega), he i hi, nI_eqI (by omega) (by omega), nI_1]
      refine ⟨fun q => K _ _ ⟨rfl, rfl, ?_⟩, fun q => Ht ?_⟩
      · show (inl P2 x i || decide (P2 i = x)) = false
        rw [y, decide_eq_false q]; rfl
      · have g : inl P2 x (i + 1) = true := by
          show (inl P2 x i || decide (P2 i = x)) = true
          rw [decide_eq_true q, Bool.or_true]
        have := inl_mono g (P1 - (i + 1))
        rw [show i + 1 + (P1 - (i + 1)) = P1 by omega] at this
        exact this
theorem c_gatherEnds {m : Nat} {Q : Int32 → AH → Prop} (Z : SQ h0 rd c law ex fa li qu re ga dr rt bg ie f e a h) (W : WFr S) (C : Crod h0 rd S X) (xr : ∀ x, X x → radr x) (D : Cd S c) (hl : law ≤ 2) (hm : m ≤ 3)
    (H : ∀ h1 f' e', SQ h0 rd c law ex fa li qu re (nI (mts (gRw S law c m) (wN S ^ m)).1) dr rt bg ie f' e' a h1 → (∀ i, i < (mts (gRw S law c m) (wN S ^ m)).1 → e' i = nI ((mts (gRw S law c m) (wN S ^ m)).2 i)) → Q (nI (mts (gRw S law c m) (wN S ^ m)).1) h1) : f_X7_gatherEnds 14 (nI m) h Q := by
  have hw5 := W.2.2.2.2.2.2.1
  have pl : wN S ^ m ≤ 125 := Nat.le_trans (Nat.pow_le_pow_left hw5 m) (Nat.pow_le_pow_right (n := 5) (by omega) hm)
  refine pF_of Z.2.2.2.1 (Nat.le_of_ble_eq_true rfl) rfl ?_
  have Z1 := Z.p14 (ga' := nI 0) (dr' := dr) (rt' := rt) (bg' := bg) (ie' := ie)
  refine q_first Z1 W C xr (by omega) (Q := fun x2 h4 => ∃ n, L_X7_gatherEnds_17 Q 14 (nI m) x2 n (0 : Int32) h4) (fun h2 g Z2 hg => ?_)
  refine ⟨wN S ^ m + 1, lpG (L := L_X7_gatherEnds_17 Q 14 (nI m) (nI (wN S ^ m))) (I := fun r b h1 => b = nI r ∧ ∃ f' e', SQ h0 rd c law ex fa li qu re (nI (mts (gRw S law c m) r).1) dr rt bg ie f' e' a h1 ∧ (r < wN S ^ m → ∀ k, k < m → f' k = nI (rdg (wN S) m r k)) ∧ ∀ i, i < (mts (gRw S law c m) r).1 → e' i = nI ((mts (gRw S law c m) r).2 i)) (wN S ^ m) (fun k b h1 Y => ?_) (fun r k b h1 hr Y K => ?_) (wN S ^ m) 0 (by omega) 0 h2 ⟨rfl, g, e, Z2, fun _ => hg, fun i hi => absurd hi (Nat.not_lt_zero _)⟩⟩
  · obtain ⟨rfl, f', e', Z3, -, y⟩ := Y
    exact ⟨fun _ => gI_of Z3.2.2.2.1 rfl (H h1 f' e' Z3 y), fun q => absurd (Int32.le_refl _) q⟩
  · obtain ⟨rfl, f', e', Z3, yd, y⟩ := Y
    have pb := mts_le (gRw S law c m) r
    refine ⟨fun q => absurd q ?_, fun _ => q_body Z3 W C xr D hl (by omega) hr (yd hr) (fun h4 Z4 ht => ?_)⟩
    · rw [nI_leI (by omega) (by omega)]; omega
    · obtain ⟨t1, t2, t3, t4, t5, ht⟩ := ht
      refine gR_of Z4.2.2.2.1 rfl (gI_of ht rfl ⟨Z4.o, c_gather (x := gRw S law c m r) (P2 := (mts (gRw S law c m) r).2) Z4 (by omega) (Cd_lt W (gRw_cd W D hr)) (mts_all (P := fun v => v < 32768) (fun i hi => Cd_lt W (gRw_cd W D (by omega)))) y (fun ye => ?_) (fun ye h5 e5 Z5 y5 => ?_)⟩)
      · refine q_next Z4 W C xr (by omega) hr (yd hr) (fun h6 g6 Z6 yg => ?_)
        rw [nI_1]
        refine K _ _ ⟨rfl, g6, e', ?_, yg, ?_⟩
        · rw [mts, if_pos ye]; exact Z6
        · rw [mts, if_pos ye]; exact y
      · refine q_next Z5 W C xr (by omega) hr (yd hr) (fun h6 g6 Z6 yg => ?_)
        rw [nI_1]
        refine K _ _ ⟨rfl, g6, e5, ?_, yg, ?_⟩
        · rw [mts, ye]; exact Z6
        · rw [mts, ye]; exact y5
theorem m_meets {m : Nat} {Q : AH → Prop} (WS : WF S) (Z : MX S h0 u l ma0 h mi ma) (hm : m ≤ 3)
    (H : ∀ h1 mi1 ma1, MX S h0 u l ma0 h1 mi1 ma1 → mi1 39 = nI (mts (gRw S (rlN S) (stN S) m) (wN S ^ m)).1 → (∀ i, i < (mts (gRw S (rlN S) (stN S) m) (wN S ^ m)).1 → ma1 24 i = nI ((mts (gRw S (rlN S) (stN S) m) (wN S ^ m)).2 i)) → Q h1) : f_X12_meets 102 (nI m) h Q := by
  obtain ⟨w1, w2, W, w4, w5, w6, w7, w8⟩ := id WS
  have hw5 := W.2.2.2.2.2.2.1
  have pl : wN S ^ m ≤ 125 := Nat.le_trans (Nat.pow_le_pow_left hw5 m) (Nat.pow_le_pow_right (n := 5) (by omega) hm)
  refine Z.pF (by omega) (ms39 _ _ _ _) (fun h1 Z1 => ⟨Z1.rep.o, m_power W Z1 (by omega) ⟨wN S ^ m + 1, lpG (L := L_X12_meets_13 Q 102 (nI m) (nI (wN S ^ m))) (I := fun r b h1 => b = nI r ∧ ∃ mi1 ma1, MX S h0 u l ma0 h1 mi1 ma1 ∧ mi1 39 = nI (mts (gRw S (rlN S) (stN S) m) r).1 ∧ ∀ i, i < (mts (gRw S (rlN S) (stN S) m) r).1 → ma1 24 i = nI ((mts (gRw S (rlN S) (stN S) m) r).2 i)) (wN S ^ m) (fun k b h2 Y => ?_) (fun r k b h2 hr Y K => ?_) (wN S ^ m) 0 (by omega) 0 h1 ⟨rfl, _, _, Z1, pk_us, fun i hi => absurd hi (Nat.not_lt_zero _)⟩⟩⟩)
  · obtain ⟨rfl, mi1, ma1, Z2, y1, y2⟩ := Y
    exact ⟨fun _ => H h2 mi1 ma1 Z2 y1 y2, fun q => absurd (Int32.le_refl _) q⟩
  · obtain ⟨rfl, mi1, ma1, Z2, y1, y2⟩ := Y
    have pb := mts_le (gRw S (rlN S) (stN S) m) r
    have gl : gRw S (rlN S) (stN S) m r < 32768 := Cd_lt W (gRw_cd W w4.2 hr)
    have pa := mts_all (g := gRw S (rlN S) (stN S) m) (P := fun v => v < 32768) (r := r) (fun i hi => Cd_lt W (gRw_cd W w4.2 (by omega)))
    refine ⟨fun q => absurd q ?_, fun _ => ⟨Z2.rep.o, m_behindRow WS Z2 (by omega) hr (fun h3 mi3 ma3 Z3 _ v2 v3 => ?_)⟩⟩
    · rw [nI_leI (by omega) (by omega)]; omega
    · have e39 : mi3 39 = nI (mts (gRw S (rlN S) (stN S) m) r).1 := (v2 39 (by omega) (by omega)).trans y1
      have e24 : ∀ i, i < (mts (gRw S (rlN S) (stN S) m) r).1 → ma3 24 i = nI ((mts (gRw S (rlN S) (stN S) m) r).2 i) := fun i hi => (v3 24 i (by omega) (by omega)).trans (y2 i hi)
      show ∃ n, L_X12_meets_32 Q (L_X12_meets_13 Q 102 (nI m) (nI (wN S ^ m)) k) 102 (nI m) (nI (wN S ^ m)) (nI r) (nI (gRw S (rlN S) (stN S) m r)) n (1 : Int32) (0 : Int32) h3
      refine lpA (L := L_X12_meets_32 Q (L_X12_meets_13 Q 102 (nI m) (nI (wN S ^ m)) k) 102 (nI m) (nI (wN S ^ m)) (nI r) (nI (gRw S (rlN S) (stN S) m r))) (fun i => if inl (mts (gRw S (rlN S) (stN S) m) r).2 (gRw S (rlN S) (stN S) m r) i then (0 : Int32) else 1) (mts (gRw S (rlN S) (stN S) m) r).1 (fun k2 => m_gI Z3.rep (mg39 _ _ _) ⟨fun _ => ?_, fun q => absurd (by rw [e39]; exact Int32.le_refl _) q⟩) (fun i k2 hi K2 => m_gI Z3.rep (mg39 _ _ _) ⟨fun q => absurd q ?_, fun _ => ?_⟩)
      · rw [nI_1]
        cases g : inl (mts (gRw S (rlN S) (stN S) m) r).2 (gRw S (rlN S) (stN S) m r) (mts (gRw S (rlN S) (stN S) m) r).1 with
        | true =>
          refine ⟨fun _ => K _ _ ⟨rfl, mi3, ma3, Z3, ?_, ?_⟩, fun q => absurd rfl q⟩
          · rw [mts, if_pos g]; exact e39
          · rw [mts, if_pos g]; exact e24
        | false =>
          refine ⟨fun q => absurd q (by decide), fun _ => m_gR Z3.rep (mr40 _ _ _) (m_gI Z3.rep (mg39 _ _ _) ?_)⟩
          rw [e39]
          refine Z3.sI (j := 24) (by omega) rfl rfl rfl (vp_in_nI (by omega) (by omega)) (fun h4 Z4 => m_gI Z4.rep (mg39 _ _ _) (Z4.pF (by omega) (ms39 _ _ _ _) (fun h5 Z5 => K _ _ ⟨rfl, _, _, Z5, ?_, fun i hi => ?_⟩)))
          · rw [pk_us, e39, nI_1, mts, g]
            rfl
          · rw [mts, g] at hi ⊢
            have hi : i < (mts (gRw S (rlN S) (stN S) m) r).1 + 1 := hi
            show _ = nI (if i = (mts (gRw S (rlN S) (stN S) m) r).1 then gRw S (rlN S) (stN S) m r else (mts (gRw S (rlN S) (stN S) m) r).2 i)
            rw [va_up_self, nI_clamp (by omega)]
            by_cases e : i = (mts (gRw S (rlN S) (stN S) m) r).1
            · rw [if_pos e, e, pk_us]
            · rw [if_neg e, pk_un e, e24 i (by omega)]
      · rw [e39, nI_leI (by omega) (by omega)]; omega
      · rw [nI_1]
        have iu : inl (mts (gRw S (rlN S) (stN S) m) r).2 (gRw S (rlN S) (stN S) m r) (i + 1) = (inl (mts (gRw S (rlN S) (stN S) m) r).2 (gRw S (rlN S) (stN S) m r) i || decide ((mts (gRw S (rlN S) (stN S) m) r).2 i = gRw S (rlN S) (stN S) m r)) := rfl
        rw [iu] at K2
        cases g : inl (mts (gRw S (rlN S) (stN S) m) r).2 (gRw S (rlN S) (stN S) m r) i with
        | true =>
          rw [g] at K2
          exact ⟨fun _ => K2, fun q => absurd rfl q⟩
        | false =>
          rw [g] at K2
          refine ⟨fun q => absurd q (by decide), fun _ => m_gR Z3.rep (mr40 _ _ _) (m_lI Z3.rep (j := 24) rfl rfl rfl (vp_in_nI (by omega) (by omega)) ?_)⟩
          have := pa i hi
          rw [nI_clamp (by omega), e24 i hi, nI_eqI (by omega) (by omega)]
          refine ⟨fun q => ?_, fun q => ?_⟩
          · rw [decide_eq_true q] at K2; exact K2
          · rw [decide_eq_false q] at K2; exact K2
end GATHER
