/-! a text read, in the class: walkers, all -/
section PARSED
variable {h0 h : AH} {S : SS} {t b a : Nat} {R : PR} {Q : Int32 → AH → Prop}
theorem kcl_wkl (k : Nat) : kcl k ∈ wkl := by
  unfold kcl
  split
  · decide
  · split
    · decide
    · split
      · decide
      · split
        · decide
        · split
          · decide
          · decide
theorem w_init {ci : Nat} {f g : Int32} {Q : AH → Prop} (hc : ci ∈ wkl) (H : Q (anew h 2 (.inr (ci, [.int f, .int g])))) : f_X10_init h.1 f g (anew h 2 (.inr (ci, [.int 0, .int 0]))) Q := by
  refine ⟨ci, _, hc, anew_s _ _ _, Nat.le_of_ble_eq_true rfl, ci, _, hc, aput_s _ _ _, Nat.le_of_ble_eq_true rfl, ?_⟩
  rw [aput_pp]
  have e : ∀ e e2, aput (anew h 2 e) h.1 e2 = anew h 2 e2 := fun e e2 => by
    unfold aput anew
    exact Prod.ext rfl (Prod.ext rfl (bx_uu _ _ _ _))
  rw [e]
  exact H
theorem r_make {x f g : Int32} {k : Nat} {Q : Option Nat → AH → Prop} (hk : kof x = some k) (H : Q (some h.1) (anew h 2 (.inr (kcl k, [.int f, .int g])))) : f_X4_make x f g h Q := by
  have m := kcl_wkl k
  unfold kof at hk
  by_cases e0 : x = 119
  · rw [if_pos e0] at hk
    cases hk
    subst e0
    exact ⟨fun z => absurd z (by decide), fun z => absurd z (by decide), fun z => absurd z (by decide), fun z => absurd z (by decide), fun z => absurd z (by decide), fun _ _ _ _ _ => w_init m H⟩
  rw [if_neg e0] at hk
  by_cases e1 : x = 99
  · rw [if_pos e1] at hk
    cases hk
    subst e1
    exact ⟨fun z => absurd z (by decide), fun _ => w_init (ci := 1) m H, fun z => absurd z (by decide), fun z => absurd z (by decide), fun z => absurd z (by decide), fun _ z => absurd rfl z⟩
  rw [if_neg e1] at hk
  by_cases e2 : x = 98
  · rw [if_pos e2] at hk
    cases hk
    subst e2
    exact ⟨fun _ => w_init (ci := 0) m H, fun z => absurd z (by decide), fun z => absurd z (by decide), fun z => absurd z (by decide), fun z => absurd z (by decide), fun z => absurd rfl z⟩
  rw [if_neg e2] at hk
  by_cases e3 : x = 108
  · rw [if_pos e3] at hk
    cases hk
    subst e3
    exact ⟨fun z => absurd z (by decide), fun z => absurd z (by decide), fun _ => w_init (ci := 2) m H, fun z => absurd z (by decide), fun z => absurd z (by decide), fun _ _ z => absurd rfl z⟩
  rw [if_neg e3] at hk
  by_cases e4 : x = 116
  · rw [if_pos e4] at hk
    cases hk
    subst e4
    exact ⟨fun z => absurd z (by decide), fun z => absurd z (by decide), fun z => absurd z (by decide), fun z => absurd z (by decide), fun _ => w_init (ci := 8) m H, fun _ _ _ _ z => absurd rfl z⟩
  rw [if_neg e4] at hk
  by_cases e5 : x = 112
  · rw [if_pos e5] at hk
    cases hk
    subst e5
    exact ⟨fun z => absurd z (by decide), fun z => absurd z (by decide), fun z => absurd z (by decide), fun _ => w_init (ci := 3) m H, fun z => absurd z (by decide), fun _ _ _ z => absurd rfl z⟩
  rw [if_neg e5] at hk
  cases hk
theorem r_isWalker {x : Int32} (H0 : kof x = none → Q 0 h) (H1 : ∀ k, kof x = some k → Q 1 h) : f_X4_isWalker x h Q := by
  unfold kof at H0 H1
  by_cases e0 : x = 119
  · rw [if_pos e0] at H1
    exact ⟨fun _ => H1 _ rfl, fun z => absurd e0 z⟩
  rw [if_neg e0] at H0 H1
  refine ⟨fun z => absurd z e0, fun _ => ?_⟩
  by_cases e1 : x = 99
  · rw [if_pos e1] at H1
    exact ⟨fun _ => H1 _ rfl, fun z => absurd e1 z⟩
  rw [if_neg e1] at H0 H1
  refine ⟨fun z => absurd z e1, fun _ => ?_⟩
  by_cases e2 : x = 98
  · rw [if_pos e2] at H1
    exact ⟨fun _ => H1 _ rfl, fun z => absurd e2 z⟩
  rw [if_neg e2] at H0 H1
  refine ⟨fun z => absurd z e2, fun _ => ?_⟩
  by_cases e3 : x = 108
  · rw [if_pos e3] at H1
    exact ⟨fun _ => H1 _ rfl, fun z => absurd e3 z⟩
  rw [if_neg e3] at H0 H1
  refine ⟨fun z => absurd z e3, fun _ => ?_⟩
  by_cases e4 : x = 116
  · rw [if_pos e4] at H1
    exact ⟨fun _ => H1 _ rfl, fun z => absurd e4 z⟩
  rw [if_neg e4] at H0 H1
  refine ⟨fun z => absurd z e4, fun _ => ?_⟩
  by_cases e5 : x = 112
  · rw [if_pos e5] at H1
    exact ⟨fun z => absurd e5 z, fun _ => H1 _ rfl⟩
  rw [if_neg e5] at H0
  exact ⟨fun _ => H0 rfl, fun z => absurd z e5⟩
theorem r_addWalker {k f g : Nat} {Q : AH → Prop} (Z : RD h0 t b R a h) (hw : R 4 0 < 5) (H : ∀ h1, RD h0 t b (adW R k f g) a h1 → Q h1) : isO (anew h 2 (.inr (kcl k, [.int (nI f), .int (nI g)]))) (b + 1) 5 ∧ f_X5_addWalker (b + 1) h.1 (anew h 2 (.inr (kcl k, [.int (nI f), .int (nI g)]))) Q := by
  obtain ⟨z1, z2, z3, z4, z5, fn, fh, fw, ff, z6, z7, z8, z9, z10, z11⟩ := id Z
  generalize hh1 : anew h 2 (.inr (kcl k, [.int (nI f), .int (nI g)])) = h1
  have k1 : ∀ x, x ≠ h.1 → h1.2.2 x = h.2.2 x := fun x hx => by rw [← hh1]; exact anew_n _ _ _ hx
  have n1 : h1.2.2 h.1 = some (.inr (kcl k, [.int (nI f), .int (nI g)])) := by rw [← hh1]; exact anew_s _ _ _
  have s1 : h1.1 = h.1 + 1 ∧ h1.2.1 = h.2.1 + 2 := by rw [← hh1]; exact ⟨rfl, rfl⟩
  have o1 := (k1 (b + 1) (by omega)).trans z5
  have v5 : vp_in (nI (R 4 0)) 5 := vp_in_nI hw (by omega)
  refine ⟨isO_of o1, gI_of o1 rfl ⟨fun z => absurd z ?_, fun _ => gR_of o1 rfl (gI_of o1 rfl ⟨5, ff, kcl k, _, (k1 _ (by omega)).trans z9, n1, kcl_wkl k, v5, ?_⟩)⟩⟩
  · rw [show (5 : Int32) = nI 5 from rfl, nI_leI (by omega) (by omega)]; omega
  rw [nI_clamp (by omega)]
  have o2 : ∀ e, (aput h1 (b + 1 + 4) e).2.2 (b + 1) = _ := fun e => (aput_n h1 e (by omega)).trans o1
  refine gI_of (o2 _) rfl (pF_of (o2 _) (Nat.le_of_ble_eq_true rfl) rfl (H _ (Z.mk ?_ ?_ (fun x hx => ?_) ⟨?_, fn, fh, fw, va_up ff (R 4 0) (some h.1), ?_, ?_, ?_, ?_, fun i hi => ?_, fun w hw' => ?_⟩)))
  · rw [adW_4]; show h1.1 = _; omega
  · rw [adW_4]; show h1.2.1 = _; omega
  · rw [aput_n _ _ (by omega), aput_n _ _ (by omega), k1 x (by omega)]
  · have em : mkR (adW R k f g) = mkR R := funext fun x => by unfold mkR; rw [adW_c (by omega), adW_c (by omega)]
    have eh : hsR (adW R k f g) = hsR R := funext fun x => by unfold hsR; rw [adW_c (by omega), adW_c (by omega)]
    have e3 : adW R k f g 3 = R 3 := funext fun x => adW_c (by omega)
    rw [aput_s, em, eh, e3, adW_c (by omega), adW_c (by omega), adW_4, ← nI_1]
    rfl
  · rw [aput_n _ _ (by omega), aput_n _ _ (by omega), k1 _ (by omega)]; exact z6
  · rw [aput_n _ _ (by omega), aput_n _ _ (by omega), k1 _ (by omega)]; exact z7
  · rw [aput_n _ _ (by omega), aput_n _ _ (by omega), k1 _ (by omega)]; exact z8
  · rw [aput_n _ _ (by omega), aput_s]
  · rw [adW_c (by omega)] at hi
    obtain ⟨y1, y2, y3⟩ := z10 i hi
    rw [adW_c (by omega)]
    refine ⟨y1, ?_, fun p hp => ?_⟩
    · rw [y2]; unfold hmR; rw [adW_c (by omega), adW_c (by omega)]
    · rw [y3 p hp]; unfold wyR; rw [adW_c (by omega), adW_c (by omega)]
  · rw [adW_4] at hw'
    by_cases e : w = R 4 0
    · rw [e, va_up_self, adW_5, adW_6, adW_7, aput_n _ _ (by omega), aput_n _ _ (by omega), show b + 1 + 5 + R 4 0 = h.1 by omega]
      exact ⟨rfl, n1⟩
    · rw [va_up_ne _ _ e, adW_i (by omega) e, adW_i (by omega) e, adW_i (by omega) e, aput_n _ _ (by omega), aput_n _ _ (by omega), k1 _ (by omega)]
      exact z11 w (by omega)
theorem r_has {v : Nat} (I : RI R) (Z : RD h0 t b R a h) (hv : v ≤ 9) (H0 : dpN R v (R 1 0) = false → Q 0 h) (H1 : dpN R v (R 1 0) = true → Q 1 h) : isO h (b + 1) 5 ∧ f_X5_hasNumber (b + 1) (nI v) h Q := by
  obtain ⟨i1, i2, i3, i4, i5, i6, i7⟩ := id I
  obtain ⟨z1, z2, z3, z4, z5, fn, fh, fw, ff, z6, z7, z8, z9, z10, z11⟩ := id Z
  have main : ∀ n k, k + n = R 1 0 → dpN R v k = false → L_X5_hasNumber_2 Q (b + 1) (nI v) (n + 1) (nI k) h := by
    intro n
    induction n with
    | zero =>
      intro k hk d
      have ek : k = R 1 0 := hk
      rw [ek] at d ⊢
      exact gI_of z5 rfl ⟨fun _ => H0 d, fun q => absurd (Int32.le_refl _) q⟩
    | succ n ih =>
      intro k hk d
      refine gI_of z5 rfl ⟨fun q => absurd q ?_, fun _ => gR_of z5 rfl (lI_of z6 (vp_in_nI (by omega) (by omega)) ?_)⟩
      · rw [nI_leI (by omega) (by omega)]; omega
      · rw [nI_clamp (by omega), (z10 k (by omega)).1, nI_1]
        have := i5 k (by omega)
        refine ⟨fun ne => ih (k + 1) (by omega) ?_, fun e => H1 (dpN_iff.mpr ⟨k, by omega, (nI_eqI (by omega) (by omega)).mp e⟩)⟩
        show (dpN R v k || decide (R 2 k = v)) = false
        rw [d, Bool.false_or, decide_eq_false_iff_not]
        exact fun e => ne (by rw [e])
  exact ⟨isO_of z5, R 1 0 + 1, main (R 1 0) 0 (by omega) rfl⟩
theorem r_readPosts (W : WF S) (hb : 131 ≤ b) (ht : t < 4) (T : RowAt h0 (34 + 2 * t) (35 + 2 * t) (S 2 t 0) (S 3 t)) (Z : RD h0 t b (pr0 0) a h) (ha : a ≤ 64)
    (Hf : ∀ f h1, ((¬ sg S t a = 114 ∧ f = a) ∨ (sg S t a = 114 ∧ isD (sg S t (a + 1)) 2 7 = none ∧ f = a + 1)) → RD h0 t b (pr0 0) f h1 → Q 0 h1)
    (Hg : ∀ p h1, sg S t a = 114 → isD (sg S t (a + 1)) 2 7 = some p → RD h0 t b (pr0 p) (a + 2) h1 → Q 1 h1) : isO h b 4 ∧ f_X4_readPosts b h Q := by
  refine ⟨Z.o, Z.o, r_sign W hb ht T Z (by omega) ⟨fun e => r_next Z (fun h1 Z1 => r_isFigure (lo := 2) (hi := 7) W hb ht T Z1 (by omega) (by omega) (by omega) (fun d => ⟨fun q => absurd rfl q, fun _ => Hf (a + 1) h1 (Or.inr ⟨e, d, rfl⟩) Z1⟩) (fun p d => ⟨fun _ => ?_, fun q => absurd q (by decide)⟩)), fun e => Hf a h (Or.inl ⟨e, rfl⟩) Z⟩⟩
  obtain ⟨d1, d2, d3⟩ := isD_some (by omega) d
  refine gR_of Z1.2.2.2.1 rfl (r_take W hb ht T Z1 (by omega) d3 (fun h2 Z2 => ?_))
  obtain ⟨z1, z2, z3, z4, z5, fn, fh, fw, ff, z6, z7, z8, z9, z10, z11⟩ := id Z2
  refine pF_of z5 (Nat.le_of_ble_eq_true rfl) rfl (Hg p _ e d (Z2.mk z1 z2 (fun x hx => aput_n _ _ (by omega)) ⟨aput_s _ _ _, fn, fh, fw, ff, (aput_n _ _ (by omega)).trans z6, (aput_n _ _ (by omega)).trans z7, (aput_n _ _ (by omega)).trans z8, (aput_n _ _ (by omega)).trans z9, fun k hk => absurd hk (Nat.not_lt_zero _), fun w hw => absurd hw (Nat.not_lt_zero _)⟩))
theorem r_readStone (I : RI R) (W : WF S) (hb : 131 ≤ b) (ht : t < 4) (T : RowAt h0 (34 + 2 * t) (35 + 2 * t) (S 2 t 0) (S 3 t)) (Z : RD h0 t b R a h) (ha : a ≤ 64)
    (Hf : ∀ f, itS (sg S t) R a = .inl f → ∀ h1, RD h0 t b R f h1 → Q 0 h1)
    (Hg : ∀ R', itS (sg S t) R a = .inr R' → ∀ h1, RD h0 t b R' (a + 3) h1 → Q 1 h1) : isO h b 4 ∧ f_X4_readStone b h Q := by
  obtain ⟨i1, i2, i3, i4, i5, i6, i7⟩ := id I
  have z5 := Z.2.2.2.2.1
  unfold itS at Hf Hg
  refine ⟨Z.o, gR_of Z.2.2.2.1 rfl (gI_of z5 rfl ⟨fun q => Hf a ?_ h Z, fun q => gR_of Z.2.2.2.1 rfl (gI_of z5 rfl ⟨fun q2 => ?_, fun q2 => Hf a ?_ h Z⟩)⟩)⟩
  · rw [tl, nI_toInt (by omega), ti_0] at q
    rw [if_pos (Or.inr (by omega))]
  rotate_left
  · rw [show (5 : Int32) = nI 5 from rfl, nI_ltI (by omega) (by omega)] at q2
    rw [if_pos (Or.inl (by omega))]
  rw [tl, nI_toInt (by omega), ti_0] at q
  rw [show (5 : Int32) = nI 5 from rfl, nI_ltI (by omega) (by omega)] at q2
  rw [if_neg (by omega)] at Hf Hg
  refine r_next Z (fun h1 Z1 => r_isFigure (lo := 1) (hi := 9) W hb ht T Z1 (by omega) (by omega) (by omega) (fun d => ⟨fun _ => Hf (a + 1) (by rw [d]) h1 Z1, fun q => absurd rfl q⟩) (fun v d => ⟨fun q => absurd q (by decide), fun _ => ?_⟩))
  obtain ⟨d1, d2, d3⟩ := isD_some (by omega) d
  rw [d] at Hf Hg
  dsimp only at Hf Hg
  refine gR_of Z1.2.2.2.1 rfl ⟨Z1.o, r_sign W hb ht T Z1 (by omega) ?_⟩
  rw [d3, show (48 : Int32) = nI 48 from rfl, pk_sub (by omega), show 48 + v - 48 = v by omega]
  refine r_has I Z1 (by omega) (fun e => ⟨fun _ => r_take W hb ht T Z1 (by omega) d3 (fun h2 Z2 => ?_), fun q => absurd rfl q⟩) (fun e => ⟨fun q => absurd q (by decide), fun _ => Hf (a + 1) (by rw [if_pos e]) h1 Z1⟩)
  rw [if_neg (by rw [e]; decide)] at Hf Hg
  refine gR_of Z2.2.2.2.1 rfl (gI_of Z2.2.2.2.2.1 rfl ?_)
  rw [show (1 : Int32) = nI 1 from rfl, pk_sub (by omega)]
  refine r_isFigure (lo := 0) (hi := R 0 0 - 1) W hb ht T Z2 (by omega) (by omega) (by omega) (fun d' => ⟨fun q => absurd rfl q, fun _ => Hf (a + 2) (by rw [show a + 2 = a + 1 + 1 from rfl, d']) h2 Z2⟩) (fun p d' => ⟨fun _ => ?_, fun q => absurd q (by decide)⟩)
  obtain ⟨y1, y2, y3⟩ := isD_some (by omega) d'
  refine gR_of Z2.2.2.2.1 rfl (r_take W hb ht T Z2 (by omega) y3 (fun h3 Z3 => r_addStone I Z3 (by omega) (by omega) (by omega) (by omega) (fun h4 Z4 => Hg _ ?_ h4 Z4)))
  rw [show a + 2 = a + 1 + 1 from rfl, d']
theorem r_readWalker (I : RI R) (W : WF S) (hb : 131 ≤ b) (ht : t < 4) (T : RowAt h0 (34 + 2 * t) (35 + 2 * t) (S 2 t 0) (S 3 t)) (Z : RD h0 t b R a h) (ha : a ≤ 64)
    (Hf : ∀ f, itW (sg S t) R a = .inl f → ∀ h1, RD h0 t b R f h1 → Q 0 h1)
    (Hg : ∀ R', itW (sg S t) R a = .inr R' → ∀ h1, RD h0 t b R' (a + 3) h1 → Q 1 h1) : isO h b 4 ∧ f_X4_readWalker b h Q := by
  obtain ⟨i1, i2, i3, i4, i5, i6, i7⟩ := id I
  have z5 := Z.2.2.2.2.1
  unfold itW at Hf Hg
  refine ⟨Z.o, Z.o, r_sign W hb ht T Z (by omega) (r_isWalker (fun e => ⟨fun _ => Hf a (by rw [e]) h Z, fun q => absurd rfl q⟩) (fun k e => ⟨fun q => absurd q (by decide), fun _ => gR_of Z.2.2.2.1 rfl (gI_of z5 rfl ?_)⟩))⟩
  have k5 := kof_le e
  rw [e] at Hf Hg
  dsimp only at Hf Hg
  refine ⟨fun q => ?_, fun q => Hf a ?_ h Z⟩
  rotate_left
  · rw [show (5 : Int32) = nI 5 from rfl, nI_ltI (by omega) (by omega)] at q
    rw [if_pos (by omega)]
  rw [show (5 : Int32) = nI 5 from rfl, nI_ltI (by omega) (by omega)] at q
  rw [if_neg (by omega)] at Hf Hg
  have s1 : nI (R 0 0) - (1 : Int32) = nI (R 0 0 - 1) := by rw [show (1 : Int32) = nI 1 from rfl, pk_sub (by omega)]
  refine r_next Z (fun h1 Z1 => gR_of Z1.2.2.2.1 rfl (gI_of Z1.2.2.2.2.1 rfl ?_))
  rw [s1]
  refine r_isFigure (lo := 0) (hi := R 0 0 - 1) W hb ht T Z1 (by omega) (by omega) (by omega) (fun d => ⟨fun q => absurd rfl q, fun _ => Hf (a + 1) (by rw [d]) h1 Z1⟩) (fun f d => ⟨fun _ => ?_, fun q => absurd q (by decide)⟩)
  obtain ⟨d1, d2, d3⟩ := isD_some (by omega) d
  rw [d] at Hf Hg
  dsimp only at Hf Hg
  refine r_take W hb ht T Z1 (by omega) d3 (fun h2 Z2 => gR_of Z2.2.2.2.1 rfl (gI_of Z2.2.2.2.2.1 rfl ?_))
  rw [s1]
  refine r_isFigure (lo := 0) (hi := R 0 0 - 1) W hb ht T Z2 (by omega) (by omega) (by omega) (fun d' => ⟨fun _ => Hf (a + 2) (by rw [show a + 2 = a + 1 + 1 from rfl, d']) h2 Z2, fun q => absurd rfl q⟩) (fun g d' => ⟨fun q => absurd q (by decide), fun _ => ⟨Z2.o, r_sign W hb ht T Z2 (by omega) ?_⟩⟩)
  obtain ⟨y1, y2, y3⟩ := isD_some (by omega) d'
  rw [show a + 2 = a + 1 + 1 from rfl, d'] at Hf Hg
  dsimp only at Hf Hg
  rw [y3, show (48 : Int32) = nI 48 from rfl, pk_sub (by omega), show 48 + g - 48 = g by omega]
  refine ⟨fun ne => gR_of Z2.2.2.2.1 rfl (r_take W hb ht T Z2 (by omega) y3 (fun h3 Z3 => r_make e ⟨_, rfl, r_addWalker Z3 (by omega) (fun h4 Z4 => Hg _ ?_ h4 Z4)⟩)), fun eq => Hf (a + 1 + 1) ?_ h2 Z2⟩
  · rw [if_neg (fun z => ne (by rw [z]))]
  · rw [if_pos ((nI_eqI (by omega) (by omega)).mp eq)]
theorem r_read_L (W : WF S) (hb : 131 ≤ b) (ht : t < 4) (T : RowAt h0 (34 + 2 * t) (35 + 2 * t) (S 2 t 0) (S 3 t)) : ∀ (n a c : Nat) (R : PR) (h : AH), RI R → a ≤ 64 → c ≤ a → 61 ≤ a + n → RD h0 t b R a h →
    (∀ f, prs (sg S t) n a R = .inl f → ∀ h1 R1 a1, R1 4 0 ≤ 5 → RD h0 t b R1 a1 h1 → Q (nI f) h1) →
    (∀ R', prs (sg S t) n a R = .inr R' → ∀ h1 a1, RD h0 t b R' a1 h1 → Q (-9) h1) → L_X4_read_22 Q b (n + 1) (nI c) h := by
  have b60 := (W.2.1 t ht).2
  intro n
  induction n with
  | zero =>
    intro a c R h I ha hc hn Z Hf Hg
    exact ⟨Z.o, r_sign W hb ht T Z (by omega) ⟨fun _ => Hg R rfl h a Z, fun q => absurd (sg_end b60 (by omega)) q⟩⟩
  | succ n ih =>
    intro a c R h I ha hc hn Z Hf Hg
    unfold prs at Hf Hg
    refine ⟨Z.o, r_sign W hb ht T Z (by omega) ⟨fun q => Hg R (by rw [if_pos q]) h a Z, fun q => ?_⟩⟩
    rw [if_neg q] at Hf Hg
    have a60 : a < 60 := by
      rcases Nat.lt_or_ge a 60 with z | z
      · exact z
      · exact absurd (sg_end b60 z) q
    refine ⟨fun z => absurd z ?_, fun _ => ⟨Z.o, r_sign W hb ht T Z (by omega) ?_⟩⟩
    · rw [show (60 : Int32) = nI 60 from rfl, nI_leI (by omega) (by omega)]; omega
    have f0 : ∀ f, itm (sg S t) R a = .inl f → ∀ h1, RD h0 t b R f h1 → B_X4_read_58 Q (L_X4_read_22 Q b (n + 1)) b (nI c) 0 h1 := fun f e h1 Z1 => by
      refine ⟨fun z => absurd rfl z, fun _ => gI_of Z1.2.2.2.1 rfl (Hf f ?_ h1 R f I.2.2.2.1 Z1)⟩
      rw [e]
    have f1 : ∀ R', itm (sg S t) R a = .inr R' → ∀ h1, RD h0 t b R' (a + 3) h1 → B_X4_read_58 Q (L_X4_read_22 Q b (n + 1)) b (nI c) 1 h1 := fun R' e h1 Z1 => by
      refine ⟨fun _ => r_skip W hb ht T Z1 (by omega) (fun h2 Z2 => ?_), fun z => absurd z (by decide)⟩
      rw [nI_1]
      rw [e] at Hf Hg
      dsimp only at Hf Hg
      have g1 := skp_ge (sg := sg S t) 61 (a + 3)
      have g2 := skp_le (S := S) (t := t) b60 61 (a + 3)
      exact ih _ _ R' h2 (ri_itm I e) (by omega) (by omega) (by omega) Z2 Hf Hg
    unfold itm at f0 f1
    refine ⟨fun e => ?_, fun e => ?_⟩
    · rw [if_neg e] at f0 f1
      exact r_readWalker I W hb ht T Z (by omega) f0 f1
    · rw [if_pos e] at f0 f1
      exact r_readStone I W hb ht T Z (by omega) f0 f1
theorem r_read (W : WF S) (hb : 131 ≤ b) (ht : t < 4) (T : RowAt h0 (34 + 2 * t) (35 + 2 * t) (S 2 t 0) (S 3 t)) (Z : RD h0 t b (pr0 0) 0 h)
    (Hf : ∀ f, pall (sg S t) = .inl f → ∀ h1 R1 a1, R1 4 0 ≤ 5 → RD h0 t b R1 a1 h1 → Q (nI f) h1)
    (Hg : ∀ R', pall (sg S t) = .inr R' → ∀ h1 a1, RD h0 t b R' a1 h1 → Q (-9) h1) : isO h b 4 ∧ f_X4_read b h Q := by
  have b60 := (W.2.1 t ht).2
  refine ⟨Z.o, r_skip W hb ht T Z (by omega) (fun h1 Z1 => ?_)⟩
  unfold pall at Hf Hg
  have g1 := skp_le (S := S) (t := t) b60 61 0
  generalize hc : skp (sg S t) 61 0 = c at *
  refine r_readPosts W hb ht T Z1 (by omega) (fun f h2 y Z2 => ⟨fun z => absurd rfl z, fun _ => gI_of Z2.2.2.2.1 rfl (Hf f ?_ h2 (pr0 0) f (by decide) Z2)⟩) (fun p h2 e d Z2 => ⟨fun _ => r_skip W hb ht T Z2 (by omega) (fun h3 Z3 => ⟨61 + 1, ?_⟩), fun z => absurd z (by decide)⟩)
  · rcases y with ⟨y1, rfl⟩ | ⟨y1, y2, rfl⟩
    · rw [if_neg y1]
    · rw [if_pos y1, y2]
  · rw [if_pos e, d] at Hf Hg
    dsimp only at Hf Hg
    obtain ⟨d1, d2, d3⟩ := isD_some (by omega) d
    have g2 := skp_le (S := S) (t := t) b60 61 (c + 2)
    exact r_read_L W hb ht T 61 _ 0 (pr0 p) h3 (RI.zero d1 d2) (by omega) (by omega) (by omega) Z3 Hf Hg
theorem r_init {Q : AH → Prop} (H : ∀ h1, RD h t h.1 (pr0 0) 0 h1 → Q h1) : f_X4_init h.1 (34 + 2 * t) (anew h 3 (.inr (4, dfX4))) Q := by
  have ne : ∀ {a b : Nat}, a < b → a ≠ b := fun h => Nat.ne_of_lt h
  have q1 : ∀ e, (anew (anew (anew h 3 (.inr (4, dfX4))) 10 (.inr (5, dfX5))) 5 e).2.2 (h.1 + 1) = some (.inr (5, dfX5)) := fun e => by
    rw [anew_n _ _ _ (ne (by show h.1 + 1 < h.1 + 1 + 1; omega))]
    exact anew_s _ _ _
  have q2 : ∀ (h : AH) (x k : Nat) (e e2 : va_E), x < h.1 → (anew (aput h x e) k e2).2.2 x = some e := fun h x k e e2 hx => by
    rw [anew_n _ _ _ (ne (by show x < h.1; exact hx))]
    exact aput_s _ _ _
  unfold f_X4_init nO
  dsimp only
  unfold f_X5_init
  refine nA_of (k := 5) (by omega) (pF_of (q1 _) (Nat.le_of_ble_eq_true rfl) rfl ?_)
  refine nA_of (k := 5) (by omega) (pF_of (q2 _ _ _ _ _ (by show h.1 + 1 < h.1 + 1 + 1 + 1; omega)) (Nat.le_of_ble_eq_true rfl) rfl ?_)
  refine nA_of (k := 40) (by omega) (pF_of (q2 _ _ _ _ _ (by show h.1 + 1 < h.1 + 1 + 1 + 1 + 1; omega)) (Nat.le_of_ble_eq_true rfl) rfl ?_)
  refine ⟨by decide, by decide, pF_of (q2 _ _ _ _ _ (by show h.1 + 1 < h.1 + 1 + 1 + 1 + 1 + 1; omega)) (Nat.le_of_ble_eq_true rfl) rfl ?_⟩
  refine pF_of (aput_s _ _ _) (Nat.le_of_ble_eq_true rfl) rfl (pF_of (aput_s _ _ _) (Nat.le_of_ble_eq_true rfl) rfl (pF_of (aput_s _ _ _) (Nat.le_of_ble_eq_true rfl) rfl (pF_of (aput_s _ _ _) (Nat.le_of_ble_eq_true rfl) rfl (pF_of (aput_s _ _ _) (Nat.le_of_ble_eq_true rfl) rfl (pF_of (aput_s _ _ _) (Nat.le_of_ble_eq_true rfl) rfl ?_)))))
  rw [aput_pp, aput_pp, aput_pp, aput_pp, aput_pp, aput_pp]
  generalize hh : aput (anew (aput (anew _ _ _) _ _) _ _) (anew h 3 (.inr (4, dfX4))).1 _ = h9
  have hb : h9.2.2 h.1 = some (.inr (4, dfX4)) := by
    rw [← hh, aput_n _ _ (ne (by show h.1 < h.1 + 1; omega)), anew_n _ _ _ (ne (by show h.1 < h.1 + 1 + 1 + 1 + 1 + 1; omega)), aput_n _ _ (ne (by show h.1 < h.1 + 1; omega)), anew_n _ _ _ (ne (by show h.1 < h.1 + 1 + 1 + 1 + 1; omega)), aput_n _ _ (ne (by show h.1 < h.1 + 1; omega)), anew_n _ _ _ (ne (by show h.1 < h.1 + 1 + 1 + 1; omega)), aput_n _ _ (ne (by show h.1 < h.1 + 1; omega)), anew_n _ _ _ (ne (by show h.1 < h.1 + 1 + 1; omega)), anew_n _ _ _ (ne (by show h.1 < h.1 + 1; omega))]
    exact anew_s _ _ _
  have hx : ∀ x, x < h.1 → h9.2.2 x = h.2.2 x := fun x hx => by
    rw [← hh, aput_n _ _ (ne (by show x < h.1 + 1; omega)), anew_n _ _ _ (ne (by show x < h.1 + 1 + 1 + 1 + 1 + 1; omega)), aput_n _ _ (ne (by show x < h.1 + 1; omega)), anew_n _ _ _ (ne (by show x < h.1 + 1 + 1 + 1 + 1; omega)), aput_n _ _ (ne (by show x < h.1 + 1; omega)), anew_n _ _ _ (ne (by show x < h.1 + 1 + 1 + 1; omega)), aput_n _ _ (ne (by show x < h.1 + 1; omega)), anew_n _ _ _ (ne (by show x < h.1 + 1 + 1; omega)), anew_n _ _ _ (ne (by show x < h.1 + 1; omega))]
    exact anew_n _ _ _ (ne hx)
  have s9 : h9.1 = h.1 + 6 ∧ h9.2.1 = h.2.1 + 68 := by rw [← hh]; exact ⟨rfl, rfl⟩
  have c1 : h9.2.2 (h.1 + 1) = some (rob (h.1 + 1) 0 0 0 0 0 0) := by rw [← hh]; exact aput_s _ _ _
  have gt : ∀ {a b : Nat}, b < a → a ≠ b := fun h => Nat.ne_of_gt h
  have c5 : h9.2.2 (h.1 + 5) = some (.inl (4, 5, .inr (.inr (.inr (.inr (fun _ => none)))))) := by
    rw [← hh, aput_n _ _ (gt (by show h.1 + 1 < h.1 + 5; omega))]; exact anew_s _ _ _
  have c4 : h9.2.2 (h.1 + 4) = some (.inl (0, 40, .inl (fun _ => 0))) := by
    rw [← hh, aput_n _ _ (gt (by show h.1 + 1 < h.1 + 4; omega)), anew_n _ _ _ (ne (by show h.1 + 4 < h.1 + 1 + 1 + 1 + 1 + 1; omega)), aput_n _ _ (gt (by show h.1 + 1 < h.1 + 4; omega))]; exact anew_s _ _ _
  have c3 : h9.2.2 (h.1 + 3) = some (.inl (0, 5, .inl (fun _ => 0))) := by
    rw [← hh, aput_n _ _ (gt (by show h.1 + 1 < h.1 + 3; omega)), anew_n _ _ _ (ne (by show h.1 + 3 < h.1 + 1 + 1 + 1 + 1 + 1; omega)), aput_n _ _ (gt (by show h.1 + 1 < h.1 + 3; omega)), anew_n _ _ _ (ne (by show h.1 + 3 < h.1 + 1 + 1 + 1 + 1; omega)), aput_n _ _ (gt (by show h.1 + 1 < h.1 + 3; omega))]; exact anew_s _ _ _
  have c2 : h9.2.2 (h.1 + 2) = some (.inl (0, 5, .inl (fun _ => 0))) := by
    rw [← hh, aput_n _ _ (gt (by show h.1 + 1 < h.1 + 2; omega)), anew_n _ _ _ (ne (by show h.1 + 2 < h.1 + 1 + 1 + 1 + 1 + 1; omega)), aput_n _ _ (gt (by show h.1 + 1 < h.1 + 2; omega)), anew_n _ _ _ (ne (by show h.1 + 2 < h.1 + 1 + 1 + 1 + 1; omega)), aput_n _ _ (gt (by show h.1 + 1 < h.1 + 2; omega)), anew_n _ _ _ (ne (by show h.1 + 2 < h.1 + 1 + 1 + 1; omega)), aput_n _ _ (gt (by show h.1 + 1 < h.1 + 2; omega))]; exact anew_s _ _ _
  clear hh
  refine pF_of hb (Nat.le_of_ble_eq_true rfl) rfl (pF_of (aput_s _ _ _) (Nat.le_of_ble_eq_true rfl) rfl (pF_of (aput_s _ _ _) (Nat.le_of_ble_eq_true rfl) rfl ?_))
  rw [aput_pp, aput_pp]
  exact H _ ⟨s9.1, s9.2, fun x y => (aput_n _ _ (ne y)).trans (hx x y), aput_s _ _ _, (aput_n _ _ (by omega)).trans c1, _, _, _, _, (aput_n _ _ (by omega)).trans c2, (aput_n _ _ (by omega)).trans c3, (aput_n _ _ (by omega)).trans c4, (aput_n _ _ (by omega)).trans c5, fun k hk => absurd hk (Nat.not_lt_zero _), fun w hw => absurd hw (Nat.not_lt_zero _)⟩
end PARSED
