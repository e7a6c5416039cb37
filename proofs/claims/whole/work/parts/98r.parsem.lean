/-! a text read, in the model -/
def MP (S : SS) (h0 : AH) (u l : Int64) (ma0 : Nat → Nat → Int32) (R : PR) (a : Nat) (h : AH) (mi : Nat → Int32) (ma : Nat → Nat → Int32) : Prop := MX S h0 u l ma0 h mi ma ∧ mi 4 = S 4 0 0 ∧ mi 27 = nI a ∧ mi 28 = nI (R 0 0) ∧ mi 29 = nI (R 1 0) ∧ mi 30 = nI (R 4 0) ∧ (∀ k, k < R 1 0 → ma 17 k = nI (R 2 k) ∧ ma 18 k = nI (R 3 k)) ∧ ∀ w, w < R 4 0 → ma 19 w = nI (R 5 w) ∧ ma 20 w = nI (R 6 w) ∧ ma 21 w = nI (R 7 w)
section PARSEM
variable {S : SS} {h0 h : AH} {u l : Int64} {ma0 ma : Nat → Nat → Int32} {mi : Nat → Int32} {R : PR} {t a : Nat} {Q : Int32 → AH → Prop}
theorem m_here (Z : MX S h0 u l ma0 h mi ma) (T : LkT S ma0) (W : WF S) (ht : t < 4) (e27 : mi 27 = nI a) (ha : a < 100) (H : Q (sg S t a) h) : f_X12_here 102 (nI t) h Q := by
  have b60 := (W.2.1 t ht).2
  refine m_gI Z.rep (mg27 _ _ _) (m_gR Z.rep (mr2 _ _ _) (m_lI Z.rep (j := 2) rfl rfl rfl (vp_in_nI ht (by omega)) ?_))
  rw [nI_clamp (by omega), Z.2.2.2.2 2 t (by omega), T.1 t ht, e27]
  have le : (S 2 t 0 ≤ nI a) ↔ ¬ (a : Int) < (S 2 t 0).toInt := by rw [tle, nI_toInt (by omega)]; omega
  rw [le]
  unfold sg at H
  refine ⟨fun q => ?_, fun q => m_gR Z.rep (mr3 _ _ _) (m_gI Z.rep (mg27 _ _ _) ?_)⟩
  · rw [if_neg q] at H; exact H
  · have q : (a : Int) < (S 2 t 0).toInt := Classical.byContradiction q
    rw [if_pos q] at H
    rw [e27, ix60]
    refine m_lI Z.rep (j := 3) rfl rfl rfl (vp_in_nI (by omega) (by omega)) ?_
    rw [nI_clamp (by omega), Z.2.2.2.2 3 _ (by omega), T.2 t ht a q]
    exact H
theorem m_figure {lo hi : Nat} {but : Int32} (Z : MX S h0 u l ma0 h mi ma) (T : LkT S ma0) (W : WF S) (ht : t < 4) (e27 : mi 27 = nI a) (ha : a < 99) (hl : lo ≤ 100) (hh : hi ≤ 100)
    (H0 : isD (sg S t a) lo hi = none → Q (-1) h) (Hb : ∀ v, isD (sg S t a) lo hi = some v → nI v = but → Q (-1) h)
    (H1 : ∀ v, isD (sg S t a) lo hi = some v → ¬ nI v = but → ∀ h1, MX S h0 u l ma0 h1 (upd mi 27 (nI (a + 1))) ma → Q (nI v) h1) : f_X12_figure 102 (nI t) (nI lo) (nI hi) but h Q := by
  refine ⟨Z.rep.o, m_here Z T W ht e27 (by omega) (m_in (a := nI lo) (b := nI hi) (fun q => br0 (H0 ?_)) (fun q1 q2 => br1 ?_))⟩
  · unfold isD
    rw [if_neg (fun z => q ((fig_iff hh hl).mpr z))]
  · have g := (fig_iff hh hl).mp ⟨q1, q2⟩
    have e : isD (sg S t a) lo hi = some ((sg S t a).toInt - 48).toNat := by unfold isD; rw [if_pos g]
    have d := isD_some hh e
    have ev : sg S t a - 48 = nI ((sg S t a).toInt - 48).toNat := by
      have : nI (48 + ((sg S t a).toInt - 48).toNat) - 48 = nI ((sg S t a).toInt - 48).toNat := by
        rw [show (48 : Int32) = nI 48 from rfl, pk_sub (by omega)]
        congr 1
        omega
      rw [← d.2.2] at this
      exact this
    rw [ev]
    refine ⟨fun q => m_gI Z.rep (mg27 _ _ _) (Z.pF (by omega) (ms27 _ _ _ _) (fun h1 Z1 => ?_)), fun q => Hb _ e q⟩
    rw [e27, nI_1] at Z1
    exact H1 _ e q h1 Z1
theorem m_skip {Q : AH → Prop} (T : LkT S ma0) (W : WF S) (ht : t < 4) (H : ∀ h1 mi1, MX S h0 u l ma0 h1 mi1 ma → mi1 27 = nI (skp (sg S t) 61 a) → (∀ j, j ≠ 27 → mi1 j = mi j) → Q h1) (Z : MX S h0 u l ma0 h mi ma) (e27 : mi 27 = nI a) (ha : a ≤ 64) : f_X12_skip 102 (nI t) h Q := by
  have b60 := (W.2.1 t ht).2
  have main : ∀ (n a : Nat) (h : AH) (mi1 : Nat → Int32), 60 ≤ a + n → a ≤ 64 → MX S h0 u l ma0 h mi1 ma → mi1 27 = nI a → (∀ j, j ≠ 27 → mi1 j = mi j) → (∀ h2 mi2, MX S h0 u l ma0 h2 mi2 ma → mi2 27 = nI (skp (sg S t) n a) → (∀ j, j ≠ 27 → mi2 j = mi j) → Q h2) → L_X12_skip_0 Q 102 (nI t) (n + 1) h := by
    intro n
    induction n with
    | zero =>
      intro a h mi1 hn ha Z e k G
      refine ⟨Z.rep.o, m_here Z T W ht e (by omega) ⟨fun _ => G h mi1 Z e k, fun q => ?_⟩⟩
      rw [sg_end b60 (by omega)] at q
      exact absurd q (by decide)
    | succ n ih =>
      intro a h mi1 hn ha Z e k G
      refine ⟨Z.rep.o, m_here Z T W ht e (by omega) ⟨fun q => G h mi1 Z ?_ k, fun q => m_gI Z.rep (mg27 _ _ _) (Z.pF (by omega) (ms27 _ _ _ _) (fun h2 Z2 => ?_))⟩⟩
      · rw [skp, if_neg q]; exact e
      · have al : a < 60 := by
          rcases Nat.lt_or_ge a 60 with z | z
          · exact z
          · rw [sg_end b60 z] at q
            exact absurd q (by decide)
        rw [skp, if_pos q] at G
        refine ih (a + 1) h2 _ (by omega) (by omega) Z2 ?_ (fun j hj => by rw [pk_un hj]; exact k j hj) G
        rw [pk_us, e, nI_1]
  exact ⟨62, main 61 a h mi (by omega) ha Z e27 (fun _ _ => rfl) H⟩
theorem m_kindOf {x : Int32} (H0 : kof x = none → Q (-1) h) (H1 : ∀ k, kof x = some k → Q (nI k) h) : f_X12_kindOf x h Q := by
  unfold kof at H0 H1
  refine ⟨fun z => ?_, fun z => ?_, fun z => ?_, fun z => ?_, fun z => ?_, fun z => ?_, fun z1 z2 z3 z4 z5 z6 => ?_⟩
  · subst z; exact H1 2 rfl
  · subst z; exact H1 1 rfl
  · subst z; exact H1 3 rfl
  · subst z; exact H1 5 rfl
  · subst z; exact H1 4 rfl
  · subst z; exact H1 0 rfl
  · rw [if_neg z6, if_neg z2, if_neg z1, if_neg z3, if_neg z5, if_neg z4] at H0; exact H0 rfl
theorem m_takesStone (I : RI R) (T : LkT S ma0) (W : WF S) (ht : t < 4) (Z : MP S h0 u l ma0 R a h mi ma) (ha : a ≤ 64)
    (Hf : ∀ f, itS (sg S t) R a = .inl f → ∀ h1 mi1 ma1, MX S h0 u l ma0 h1 mi1 ma1 → mi1 4 = S 4 0 0 → mi1 27 = nI f → Q 0 h1)
    (Hg : ∀ R', itS (sg S t) R a = .inr R' → ∀ h1 mi1 ma1, MP S h0 u l ma0 R' (a + 3) h1 mi1 ma1 → Q 1 h1) : f_X12_takesStone 102 (nI t) h Q := by
  obtain ⟨i1, i2, i3, i4, i5, i6, i7⟩ := id I
  obtain ⟨X, z4, z27, z28, z29, z30, zs, zw⟩ := id Z
  have m1 : ∀ v : Nat, v < 100 → ¬ nI v = (-1 : Int32) := fun v hv z => nI_lit v z (by omega)
  refine m_gI X.rep (mg29 _ _ _) ?_
  rw [z29]
  have e5 : (nI (R 1 0) = 5) = (R 1 0 = 5) := propext (nI_eqI (b := 5) (by omega) (by omega))
  rw [e5]
  refine ⟨fun q => Hf a ?_ h mi ma X z4 z27, fun q => m_gI X.rep (mg30 _ _ _) ?_⟩
  · unfold itS; rw [if_pos (Or.inl q)]
  rw [z30]
  have e0 : (nI (R 4 0) ≤ 0) = (R 4 0 ≤ 0) := propext (nI_leI (b := 0) (by omega) (by omega))
  rw [e0]
  refine ⟨fun q2 => m_gI X.rep (mg27 _ _ _) (X.pF (by omega) (ms27 _ _ _ _) (fun h2 X2 => ⟨X2.rep.o, ?_⟩)), fun q2 => Hf a ?_ h mi ma X z4 z27⟩
  rotate_left
  · unfold itS; rw [if_pos (Or.inr (by omega))]
  rw [z27, nI_1] at X2
  have c1 : ¬ (R 1 0 = 5 ∨ 0 < R 4 0) := by omega
  unfold itS at Hf Hg
  rw [if_neg c1] at Hf Hg
  refine m_here (a := a + 1) X2 T W ht pk_us (by omega) ?_
  have u29 : ∀ v, upd mi 27 v 29 = nI (R 1 0) := fun v => by rw [pk_un (by omega)]; exact z29
  refine ⟨R 1 0 + 1, lpG (L := L_X12_takesStone_38 Q 102 (nI t) (sg S t (a + 1) - 48)) (I := fun k b h3 => b = nI k ∧ h3 = h2 ∧ ∀ j, j < k → ¬ nI (R 2 j) = sg S t (a + 1) - 48) (R 1 0) (fun m b h3 Y => ?_) (fun k m b h3 hk Y K => ?_) (R 1 0) 0 (by omega) 0 h2 ⟨rfl, rfl, fun j hj => absurd hj (Nat.not_lt_zero _)⟩⟩
  · obtain ⟨rfl, rfl, y⟩ := Y
    refine m_gI X2.rep (mg29 _ _ _) ?_
    rw [u29]
    refine ⟨fun _ => m_gR X2.rep (mr31 _ _ _) (m_gI X2.rep (mg29 _ _ _) ⟨X2.rep.o, ?_⟩), fun q => absurd (Int32.le_refl _) q⟩
    rw [u29]
    have v5 : vp_in (nI (R 1 0)) 5 := vp_in_nI (by omega) (by omega)
    -- the number
    refine m_figure (lo := 1) (hi := 9) (a := a + 1) X2 T W ht pk_us (by omega) (by omega) (by omega) (fun d => ?_) (fun v d e => absurd e (m1 v (by have := isD_some (by omega) d; omega))) (fun v d _ h4 X4 => ?_)
    · refine X2.sI (j := 17) (by omega) rfl rfl rfl v5 (fun h5 X5 => m_gR X5.rep (mr31 _ _ _) (m_gI X5.rep (mg29 _ _ _) ?_))
      rw [u29]
      refine m_lI X5.rep (j := 17) rfl rfl rfl v5 ?_
      rw [va_up_self, pk_us]
      refine ⟨fun z => absurd z (by decide), fun _ => Hf (a + 1) ?_ h5 _ _ X5 (by rw [pk_un (by omega)]; exact z4) pk_us⟩
      rw [d]
    · obtain ⟨d1, d2, d3⟩ := isD_some (by omega) d
      have nd : dpN R v (R 1 0) = false := by
        rw [Bool.eq_false_iff]
        intro z
        obtain ⟨k, k1, k2⟩ := dpN_iff.mp z
        refine y k k1 ?_
        rw [d3, k2, show (48 : Int32) = nI 48 from rfl, pk_sub (by omega)]
        congr 1
        omega
      rw [d] at Hf Hg
      dsimp only at Hf Hg
      rw [nd] at Hf Hg
      have uu : ∀ j, j ≠ 27 → upd (upd mi 27 (nI (a + 1))) 27 (nI (a + 1 + 1)) j = mi j := fun j hj => by rw [pk_un hj, pk_un hj]
      refine X4.sI (j := 17) (by omega) rfl rfl rfl v5 (fun h5 X5 => m_gR X5.rep (mr31 _ _ _) (m_gI X5.rep (mg29 _ _ _) ?_))
      rw [uu 29 (by omega), z29]
      refine m_lI X5.rep (j := 17) rfl rfl rfl v5 ?_
      rw [va_up_self, pk_us]
      refine ⟨fun _ => m_gR X5.rep (mr32 _ _ _) (m_gI X5.rep (mg29 _ _ _) (m_gI X5.rep (mg28 _ _ _) ⟨X5.rep.o, ?_⟩)), fun z => absurd (nI_pos' (by omega)) z⟩
      rw [uu 29 (by omega), uu 28 (by omega), z29, z28, show (1 : Int32) = nI 1 from rfl, pk_sub (by omega)]
      -- its post
      have fin : ∀ (x : Int32) (h6 : AH) (mi6 : Nat → Int32) (ma6 : Nat → Nat → Int32), MX S h0 u l ma0 h6 mi6 ma6 → mi6 29 = nI (R 1 0) → (x < 0 → ∀ h7 ma7, MX S h0 u l ma0 h7 (upd mi6 29 (nI (R 1 0 + 1))) ma7 → Q 0 h7) → (¬ x < 0 → ∀ h7, MX S h0 u l ma0 h7 (upd mi6 29 (nI (R 1 0 + 1))) (va_up ma6 18 (upd (ma6 18) (R 1 0) x)) → Q 1 h7) → sI h6 121 (nI (R 1 0)) x (fun h15 => gI h15 102 12 29 (fun x16 => pF h15 102 12 29 (.int (x16 + (1 : Int32))) (fun h17 => gR h17 102 12 32 (fun a18 => gI h17 102 12 29 (fun x19 => lI h17 a18 (x19 - (1 : Int32)) (fun x20 => ((x20 < 0 → Q (0 : Int32) h17) ∧ (¬ (x20 < 0) → Q (1 : Int32) h17)))))))) := fun x h6 mi6 ma6 X6 y29 J0 J1 => by
        refine X6.sI (j := 18) (by omega) rfl rfl rfl v5 (fun h7 X7 => m_gI X7.rep (mg29 _ _ _) (X7.pF (by omega) (ms29 _ _ _ _) (fun h8 X8 => m_gR X8.rep (mr32 _ _ _) (m_gI X8.rep (mg29 _ _ _) ?_))))
        rw [y29, nI_1, nI_clamp (by omega)] at X8
        rw [pk_us, y29, nI_1, show (1 : Int32) = nI 1 from rfl, pk_sub (by omega), Nat.add_sub_cancel]
        refine m_lI X8.rep (j := 18) rfl rfl rfl v5 ?_
        rw [nI_clamp (by omega), va_up_self, pk_us]
        exact ⟨fun z => J0 z h8 _ X8, fun z => J1 z h8 X8⟩
      refine m_figure (lo := 0) (hi := R 0 0 - 1) (a := a + 1 + 1) X5 T W ht pk_us (by omega) (by omega) (by omega) (fun d' => ?_) (fun v d' e => absurd e (m1 v (by have := isD_some (by omega) d'; omega))) (fun w d' _ h6 X6 => ?_)
      · refine fin _ h5 _ _ X5 (by rw [uu 29 (by omega)]; exact z29) (fun _ h7 ma7 X7 => Hf (a + 2) ?_ h7 _ _ X7 (by rw [pk_un (by omega), uu 4 (by omega)]; exact z4) (by rw [pk_un (by omega), pk_us])) (fun z => absurd (by decide) z)
        rw [show a + 2 = a + 1 + 1 from rfl, d']
        rfl
      · obtain ⟨f1, f2, f3⟩ := isD_some (by omega) d'
        refine fin _ h6 _ _ X6 (by rw [pk_un (by omega), uu 29 (by omega)]; exact z29) (fun z => absurd z (nI_n0 (by omega))) (fun _ h7 X7 => Hg (adS R v w) ?_ h7 _ _ ⟨X7, ?_, ?_, ?_, ?_, ?_, fun k hk => ?_, fun k hk => ?_⟩)
        · rw [show a + 2 = a + 1 + 1 from rfl, d']
          rfl
        · rw [pk_un (by omega), pk_un (by omega), uu 4 (by omega)]; exact z4
        · rw [pk_un (by omega), pk_us]
        · rw [pk_un (by omega), pk_un (by omega), uu 28 (by omega), adS_x (Or.inl rfl)]; exact z28
        · rw [pk_us, adS_1]
        · rw [pk_un (by omega), pk_un (by omega), uu 30 (by omega), adS_x (Or.inr (by omega))]; exact z30
        · rw [adS_1] at hk
          rw [va_up_ne _ _ (by omega), va_up_self, va_up_self, va_up_ne _ _ (by omega), nI_clamp (by omega)]
          by_cases e : k = R 1 0
          · rw [e, pk_us, pk_us, adS_2, adS_3]; exact ⟨rfl, rfl⟩
          · rw [pk_un e, pk_un e, adS_o (by omega) (by omega), adS_o (by omega) (by omega)]; exact zs k (by omega)
        · rw [adS_x (Or.inr (by omega))] at hk
          rw [va_up_ne _ _ (by omega), va_up_ne _ _ (by omega), va_up_ne _ _ (by omega), va_up_ne _ _ (by omega), va_up_ne _ _ (by omega), va_up_ne _ _ (by omega), adS_x (Or.inr (by omega)), adS_x (Or.inr (by omega)), adS_x (Or.inr (by omega))]
          exact zw k hk
  · obtain ⟨rfl, rfl, y⟩ := Y
    refine m_gI X2.rep (mg29 _ _ _) ?_
    rw [u29, nI_leI (by omega) (by omega)]
    refine ⟨fun z => by omega, fun _ => m_gR X2.rep (mr31 _ _ _) (m_lI X2.rep (j := 17) rfl rfl rfl (vp_in_nI (by omega) (by omega)) ?_)⟩
    rw [nI_clamp (by omega), (zs k hk).1, nI_1]
    refine ⟨fun z => K _ _ ⟨rfl, rfl, fun j hj => ?_⟩, fun z => ?_⟩
    · by_cases e : j = k
      · rw [e]; exact z
      · exact y j (by omega)
    · have r9 := i5 k hk
      have ex : sg S t (a + 1) = nI (48 + R 2 k) := by
        have e1 : sg S t (a + 1) - 48 + 48 = sg S t (a + 1) := Int32.sub_add_cancel _ _
        rw [← z, show (48 : Int32) = nI 48 from rfl, nI_add] at e1
        rw [← e1]
        congr 1
        omega
      have d : isD (sg S t (a + 1)) 1 9 = some (R 2 k) := by
        unfold isD
        rw [ex, nI_toInt (by omega), if_pos (by omega)]
        congr 1
        omega
      refine Hf (a + 1) ?_ h3 _ _ X2 (by rw [pk_un (by omega)]; exact z4) pk_us
      rw [d]
      dsimp only
      rw [if_pos (dpN_iff.mpr ⟨k, hk, rfl⟩)]
end PARSEM
