/-! a text read, in the model: walkers, all -/
section PARSEM2
variable {S : SS} {h0 h : AH} {u l : Int64} {ma0 ma : Nat → Nat → Int32} {mi : Nat → Int32} {R : PR} {t a : Nat} {Q : Int32 → AH → Prop}
theorem m_takesWalker (I : RI R) (T : LkT S ma0) (W : WF S) (ht : t < 4) (Z : MP S h0 u l ma0 R a h mi ma) (ha : a ≤ 64)
    (Hf : ∀ f, itW (sg S t) R a = .inl f → ∀ h1 mi1 ma1, MX S h0 u l ma0 h1 mi1 ma1 → mi1 4 = S 4 0 0 → mi1 27 = nI f → Q 0 h1)
    (Hg : ∀ R', itW (sg S t) R a = .inr R' → ∀ h1 mi1 ma1, MP S h0 u l ma0 R' (a + 3) h1 mi1 ma1 → Q 1 h1) : f_X12_takesWalker 102 (nI t) h Q := by
  obtain ⟨i1, i2, i3, i4, i5, i6, i7⟩ := id I
  obtain ⟨X, z4, z27, z28, z29, z30, zs, zw⟩ := id Z
  have m1 : ∀ v : Nat, v < 100 → ¬ nI v = (-1 : Int32) := fun v hv z => nI_lit v z (by omega)
  refine ⟨X.rep.o, m_here X T W ht z27 (by omega) (m_kindOf (fun z => ⟨fun _ => Hf a ?_ h mi ma X z4 z27, fun q => absurd (by decide) q⟩) (fun k z => ⟨fun q => absurd q (nI_n0 (by have := kof_le z; omega)), fun _ => m_gI X.rep (mg30 _ _ _) ?_⟩))⟩
  · unfold itW; rw [z]
  have k5 := kof_le z
  unfold itW at Hf Hg
  rw [z] at Hf Hg
  dsimp only at Hf Hg
  rw [z30]
  have e5 : (nI (R 4 0) = 5) = (R 4 0 = 5) := propext (nI_eqI (b := 5) (by omega) (by omega))
  rw [e5]
  refine ⟨fun q => m_gI X.rep (mg27 _ _ _) (X.pF (by omega) (ms27 _ _ _ _) (fun h2 X2 => m_gI X2.rep (mg30 _ _ _) (m_gR X2.rep (mr33 _ _ _) ?_))), fun q => Hf a ?_ h mi ma X z4 z27⟩
  rotate_left
  · rw [if_pos q]
  rw [if_neg q] at Hf Hg
  rw [z27, nI_1] at X2
  rw [pk_un (by omega), z30]
  have v5 : vp_in (nI (R 4 0)) 5 := vp_in_nI (by omega) (by omega)
  refine X2.sI (j := 19) (by omega) rfl rfl rfl v5 (fun h3 X3 => m_gR X3.rep (mr34 _ _ _) (m_gI X3.rep (mg28 _ _ _) ⟨X3.rep.o, ?_⟩))
  rw [nI_clamp (by omega)] at X3
  rw [pk_un (by omega), z28, show (1 : Int32) = nI 1 from rfl, pk_sub (by omega)]
  refine m_figure (lo := 0) (hi := R 0 0 - 1) (a := a + 1) X3 T W ht pk_us (by omega) (by omega) (by omega) (fun d => ?_) (fun v d e => absurd e (m1 v (by have := isD_some (by omega) d; omega))) (fun f d _ h4 X4 => ?_)
  · refine X3.sI (j := 20) (by omega) rfl rfl rfl v5 (fun h5 X5 => m_gR X5.rep (mr34 _ _ _) (m_lI X5.rep (j := 20) rfl rfl rfl v5 ?_))
    rw [va_up_self, pk_us]
    refine ⟨fun y => absurd y (by decide), fun _ => Hf (a + 1) ?_ h5 _ _ X5 (by rw [pk_un (by omega)]; exact z4) pk_us⟩
    rw [d]
  · obtain ⟨d1, d2, d3⟩ := isD_some (by omega) d
    rw [d] at Hf Hg
    dsimp only at Hf Hg
    have uu : ∀ j, j ≠ 27 → upd (upd mi 27 (nI (a + 1))) 27 (nI (a + 1 + 1)) j = mi j := fun j hj => by rw [pk_un hj, pk_un hj]
    refine X4.sI (j := 20) (by omega) rfl rfl rfl v5 (fun h5 X5 => m_gR X5.rep (mr34 _ _ _) (m_lI X5.rep (j := 20) rfl rfl rfl v5 ?_))
    rw [va_up_self, pk_us]
    refine ⟨fun _ => m_gR X5.rep (mr35 _ _ _) (m_gI X5.rep (mg28 _ _ _) (m_gR X5.rep (mr34 _ _ _) (m_lI X5.rep (j := 20) rfl rfl rfl v5 ⟨X5.rep.o, ?_⟩))), fun y => absurd (nI_pos' (by omega)) y⟩
    rw [nI_clamp (by omega)] at X5
    rw [va_up_self, pk_us, uu 28 (by omega), z28, pk_sub (by omega)]
    have fin : ∀ (x : Int32) (h6 : AH) (mi6 : Nat → Int32) (ma6 : Nat → Nat → Int32), MX S h0 u l ma0 h6 mi6 ma6 → mi6 30 = nI (R 4 0) → (x < 0 → ∀ h7 ma7, MX S h0 u l ma0 h7 (upd mi6 30 (nI (R 4 0 + 1))) ma7 → Q 0 h7) → (¬ x < 0 → ∀ h7, MX S h0 u l ma0 h7 (upd mi6 30 (nI (R 4 0 + 1))) (va_up ma6 21 (upd (ma6 21) (R 4 0) x)) → Q 1 h7) → sI h6 124 (nI (R 4 0)) x (fun h24 => gI h24 102 12 30 (fun x25 => pF h24 102 12 30 (.int (x25 + (1 : Int32))) (fun h26 => gR h26 102 12 35 (fun a27 => lI h26 a27 (nI (R 4 0)) (fun x28 => ((x28 < 0 → Q (0 : Int32) h26) ∧ (¬ (x28 < 0) → Q (1 : Int32) h26))))))) := fun x h6 mi6 ma6 X6 y30 J0 J1 => by
      refine X6.sI (j := 21) (by omega) rfl rfl rfl v5 (fun h7 X7 => m_gI X7.rep (mg30 _ _ _) (X7.pF (by omega) (ms30 _ _ _ _) (fun h8 X8 => m_gR X8.rep (mr35 _ _ _) (m_lI X8.rep (j := 21) rfl rfl rfl v5 ?_))))
      rw [y30, nI_1, nI_clamp (by omega)] at X8
      rw [nI_clamp (by omega), va_up_self, pk_us]
      exact ⟨fun y => J0 y h8 _ X8, fun y => J1 y h8 X8⟩
    refine m_figure (lo := 0) (hi := R 0 0 - 1) (a := a + 1 + 1) X5 T W ht pk_us (by omega) (by omega) (by omega) (fun d' => ?_) (fun g d' e => ?_) (fun g d' ne h6 X6 => ?_)
    · refine fin _ h5 _ _ X5 (by rw [uu 30 (by omega)]; exact z30) (fun _ h7 ma7 X7 => Hf (a + 2) ?_ h7 _ _ X7 (by rw [pk_un (by omega), uu 4 (by omega)]; exact z4) (by rw [pk_un (by omega), pk_us])) (fun y => absurd (by decide) y)
      rw [show a + 2 = a + 1 + 1 from rfl, d']
    · have g7 := isD_some (by omega) d'
      have ge : g = f := (nI_eqI (by omega) (by omega)).mp e
      refine fin _ h5 _ _ X5 (by rw [uu 30 (by omega)]; exact z30) (fun _ h7 ma7 X7 => Hf (a + 2) ?_ h7 _ _ X7 (by rw [pk_un (by omega), uu 4 (by omega)]; exact z4) (by rw [pk_un (by omega), pk_us])) (fun y => absurd (by decide) y)
      rw [show a + 2 = a + 1 + 1 from rfl, d']
      dsimp only
      rw [if_pos ge]
    · have g7 := isD_some (by omega) d'
      have gn : ¬ g = f := fun z => ne (by rw [z])
      refine fin _ h6 _ _ X6 (by rw [pk_un (by omega), uu 30 (by omega)]; exact z30) (fun y => absurd y (nI_n0 (by omega))) (fun _ h7 X7 => Hg (adW R k f g) ?_ h7 _ _ ⟨X7, ?_, ?_, ?_, ?_, ?_, fun i hi => ?_, fun w hw => ?_⟩)
      · rw [show a + 2 = a + 1 + 1 from rfl, d']
        dsimp only
        rw [if_neg gn]
      · rw [pk_un (by omega), pk_un (by omega), uu 4 (by omega)]; exact z4
      · rw [pk_un (by omega), pk_us]
      · rw [pk_un (by omega), pk_un (by omega), uu 28 (by omega), adW_c (by omega)]; exact z28
      · rw [pk_un (by omega), pk_un (by omega), uu 29 (by omega), adW_c (by omega)]; exact z29
      · rw [pk_us, adW_4]
      · rw [adW_c (by omega)] at hi
        rw [va_up_ne _ _ (by omega), va_up_ne _ _ (by omega), va_up_ne _ _ (by omega), va_up_ne _ _ (by omega), va_up_ne _ _ (by omega), va_up_ne _ _ (by omega), adW_c (by omega), adW_c (by omega)]
        exact zs i hi
      · rw [adW_4] at hw
        rw [va_up_ne _ _ (by omega), va_up_ne _ _ (by omega), va_up_self, va_up_ne _ _ (by omega), va_up_self, va_up_ne _ _ (by omega), va_up_self, va_up_ne _ _ (by omega), va_up_ne _ _ (by omega)]
        by_cases e : w = R 4 0
        · rw [e, pk_us, pk_us, pk_us, adW_5, adW_6, adW_7]; exact ⟨rfl, rfl, rfl⟩
        · rw [pk_un e, pk_un e, pk_un e, adW_i (by omega) e, adW_i (by omega) e, adW_i (by omega) e]; exact zw w (by omega)
theorem m_reads_L (T : LkT S ma0) (W : WF S) (ht : t < 4) : ∀ (n a : Nat) (R : PR) (h : AH) (mi : Nat → Int32) (ma : Nat → Nat → Int32), RI R → a ≤ 63 → 61 ≤ skp (sg S t) 61 a + n → MP S h0 u l ma0 R a h mi ma →
    (∀ f, prs (sg S t) n (skp (sg S t) 61 a) R = .inl f → ∀ h1 mi1 ma1, MX S h0 u l ma0 h1 mi1 ma1 → mi1 4 = S 4 0 0 → mi1 27 = nI f → Q 0 h1) →
    (∀ R', prs (sg S t) n (skp (sg S t) 61 a) R = .inr R' → ∀ h1 mi1 ma1 a', MP S h0 u l ma0 R' a' h1 mi1 ma1 → Q 1 h1) → L_X12_reads_68 Q 102 (nI t) (n + 2) 1 h := by
  have b60 := (W.2.1 t ht).2
  intro n
  induction n with
  | zero =>
    intro a R h mi ma I ha hn Z Hf Hg
    obtain ⟨X, z4, z27, z28, z29, z30, zs, zw⟩ := id Z
    have sl := skp_le (S := S) (t := t) b60 61 a
    refine br1 ⟨X.rep.o, m_skip T W ht (fun h1 mi1 X1 y1 y2 => ⟨X1.rep.o, m_here X1 T W ht y1 (by omega) ⟨fun q => absurd (sg_end b60 (by omega)) q, fun _ => ?_⟩⟩) X z27 (by omega)⟩
    exact Hg R rfl h1 mi1 ma (skp (sg S t) 61 a) ⟨X1, (y2 4 (by omega)).trans z4, y1, (y2 28 (by omega)).trans z28, (y2 29 (by omega)).trans z29, (y2 30 (by omega)).trans z30, zs, zw⟩
  | succ n ih =>
    intro a R h mi ma I ha hn Z Hf Hg
    obtain ⟨X, z4, z27, z28, z29, z30, zs, zw⟩ := id Z
    have sl := skp_le (S := S) (t := t) b60 61 a
    refine br1 ⟨X.rep.o, m_skip T W ht (fun h1 mi1 X1 y1 y2 => ⟨X1.rep.o, ?_⟩) X z27 (by omega)⟩
    have Z1 : MP S h0 u l ma0 R (skp (sg S t) 61 a) h1 mi1 ma := ⟨X1, (y2 4 (by omega)).trans z4, y1, (y2 28 (by omega)).trans z28, (y2 29 (by omega)).trans z29, (y2 30 (by omega)).trans z30, zs, zw⟩
    generalize hb : skp (sg S t) 61 a = b at *
    have bad : ∀ f, itm (sg S t) R b = .inl f → ¬ sg S t b = 256 → ∀ h1 mi1 ma1, MX S h0 u l ma0 h1 mi1 ma1 → mi1 4 = S 4 0 0 → mi1 27 = nI f → L_X12_reads_68 Q 102 (nI t) (n + 2) 0 h1 := fun f e q h1 mi1 ma1 X1 k1 k2 => br0 (Hf f (by rw [prs, if_neg q, e]) h1 mi1 ma1 X1 k1 k2)
    have good : ∀ R', itm (sg S t) R b = .inr R' → ¬ sg S t b = 256 → ∀ h1 mi1 ma1, MP S h0 u l ma0 R' (b + 3) h1 mi1 ma1 → L_X12_reads_68 Q 102 (nI t) (n + 2) 1 h1 := fun R' e q h1 mi1 ma1 Z2 => by
      have b59 : b < 60 := by
        rcases Nat.lt_or_ge b 60 with z | z
        · exact z
        · exact absurd (sg_end b60 z) q
      have ge := skp_ge (sg := sg S t) 61 (b + 3)
      refine ih (b + 3) R' h1 mi1 ma1 (ri_itm I e) (by omega) (by omega) Z2 (fun f ef => Hf f ?_) (fun R2 e2 => Hg R2 ?_)
      · rw [prs, if_neg q, e]; exact ef
      · rw [prs, if_neg q, e]; exact e2
    refine m_here X1 T W ht y1 (by omega) ⟨fun q => ⟨X1.rep.o, m_here X1 T W ht y1 (by omega) ⟨fun q2 => ⟨X1.rep.o, m_takesWalker I T W ht Z1 (by omega) (fun f e => bad f (by unfold itm; rw [if_neg q2]; exact e) q) (fun R' e => good R' (by unfold itm; rw [if_neg q2]; exact e) q)⟩, fun q2 => ⟨X1.rep.o, m_takesStone I T W ht Z1 (by omega) (fun f e => bad f (by unfold itm; rw [if_pos q2]; exact e) q) (fun R' e => good R' (by unfold itm; rw [if_pos q2]; exact e) q)⟩⟩⟩, fun q => ?_⟩
    exact Hg R (by rw [prs, if_pos q]) h1 mi1 ma b Z1
theorem m_reads (T : LkT S ma0) (W : WF S) (ht : t < 4) (Z : MX S h0 u l ma0 h mi ma) (z4 : mi 4 = S 4 0 0)
    (Hf : ∀ f, pall (sg S t) = .inl f → ∀ h1 mi1 ma1, MX S h0 u l ma0 h1 mi1 ma1 → mi1 4 = S 4 0 0 → mi1 27 = nI f → Q 0 h1)
    (Hg : ∀ R, pall (sg S t) = .inr R → ∀ h1 mi1 ma1 a, MP S h0 u l ma0 R a h1 mi1 ma1 → Q 1 h1) : f_X12_reads 102 (nI t) h Q := by
  have b60 := (W.2.1 t ht).2
  refine Z.pF (by omega) (ms27 _ _ _ _) (fun h1 Z1 => Z1.pF (by omega) (ms29 _ _ _ _) (fun h2 Z2 => Z2.pF (by omega) (ms30 _ _ _ _) (fun h3 Z3 => ⟨Z3.rep.o, m_skip (a := 0) T W ht (fun h4 mi4 X4 y1 y2 => ⟨X4.rep.o, ?_⟩) Z3 (by rw [pk_un (by omega), pk_un (by omega), pk_us]; rfl) (by omega)⟩)))
  have sl := skp_le (S := S) (t := t) b60 61 0
  have w4 : mi4 4 = S 4 0 0 := by rw [y2 4 (by omega), pk_un (by omega), pk_un (by omega), pk_un (by omega)]; exact z4
  have w29 : mi4 29 = 0 := by rw [y2 29 (by omega), pk_un (by omega), pk_us]
  have w30 : mi4 30 = 0 := by rw [y2 30 (by omega), pk_us]
  unfold pall at Hf Hg
  generalize hb : skp (sg S t) 61 0 = b at *
  refine m_here X4 T W ht y1 (by omega) ⟨fun q => m_gI X4.rep (mg27 _ _ _) (X4.pF (by omega) (ms27 _ _ _ _) (fun h5 X5 => ⟨X5.rep.o, ?_⟩)), fun q => Hf b (by rw [if_neg q]) h4 mi4 ma X4 w4 y1⟩
  rw [if_pos q] at Hf Hg
  rw [y1, nI_1] at X5
  refine m_figure (lo := 2) (hi := 7) (a := b + 1) X5 T W ht pk_us (by omega) (by omega) (by omega) (fun d => ?_) (fun v d e => absurd e (fun z => nI_lit v z (by have := isD_some (by omega) d; omega))) (fun p d _ h6 X6 => ?_)
  · refine X5.pF (by omega) (ms28 _ _ _ _) (fun h6 X6 => m_gI X6.rep (mg28 _ _ _) ?_)
    rw [pk_us]
    refine ⟨fun _ => ⟨1, br0 (Hf (b + 1) ?_ h6 _ _ X6 ?_ ?_)⟩, fun z => absurd (by decide) z⟩
    · rw [d]
    · rw [pk_un (by omega), pk_un (by omega)]; exact w4
    · rw [pk_un (by omega), pk_us]
  · obtain ⟨d1, d2, d3⟩ := isD_some (by omega) d
    rw [d] at Hf Hg
    dsimp only at Hf Hg
    refine X6.pF (by omega) (ms28 _ _ _ _) (fun h7 X7 => m_gI X7.rep (mg28 _ _ _) ?_)
    rw [pk_us]
    refine ⟨fun z => absurd z ?_, fun _ => ⟨63, ?_⟩⟩
    · rw [show (0 : Int32) = nI 0 from rfl, nI_leI (by omega) (by omega)]; omega
    · refine m_reads_L T W ht 61 (b + 2) (pr0 p) h7 _ _ (RI.zero d1 d2) (by omega) (by omega) ⟨X7, ?_, ?_, pk_us, ?_, ?_, fun k hk => absurd hk (Nat.not_lt_zero _), fun k hk => absurd hk (Nat.not_lt_zero _)⟩ Hf Hg
      · rw [pk_un (by omega), pk_un (by omega), pk_un (by omega)]; exact w4
      · rw [pk_un (by omega), pk_us]
      · rw [pk_un (by omega), pk_un (by omega), pk_un (by omega)]; exact w29
      · rw [pk_un (by omega), pk_un (by omega), pk_un (by omega)]; exact w30
end PARSEM2
