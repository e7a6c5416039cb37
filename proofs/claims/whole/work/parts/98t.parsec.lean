/-! a text read, in the class -/
def hmR (R : PR) (k : Nat) : Int32 := if R 2 k ≤ R 0 0 then nI (R 2 k - 1) else -9
def wyR (R : PR) (k p : Nat) : Int32 := if R 2 k ≤ R 0 0 then nI (if p ≤ R 2 k - 1 then R 2 k - 1 - p else p - (R 2 k - 1)) else 7
def mkR (R : PR) (k : Nat) : Nat := if R 2 k ≤ R 0 0 then 7 else 0
def hsR (R : PR) (k : Nat) : Nat := if R 2 k ≤ R 0 0 then R 2 k - 1 else 0
abbrev rob (b : Nat) (p s w st mb hb : Int32) : va_E := .inr (5, [.ref (b + 1), .ref (b + 2), .ref (b + 3), .ref (b + 4), .int p, .int s, .int w, .int st, .int mb, .int hb])
/-- a road's object at b, its rows behind it, its walkers behind them -/
def RB (h : AH) (b : Nat) (R : PR) : Prop := h.2.2 b = some (rob b (nI (R 0 0)) (nI (R 1 0)) (nI (R 4 0)) (nI (cod (R 3) (R 1 0))) (nI (cod (mkR R) (R 1 0))) (nI (cod (hsR R) (R 1 0)))) ∧ ∃ (fn fh fw : Nat → Int32) (ff : Nat → Option Nat), h.2.2 (b + 1) = some (.inl (0, 5, .inl fn)) ∧ h.2.2 (b + 2) = some (.inl (0, 5, .inl fh)) ∧ h.2.2 (b + 3) = some (.inl (0, 40, .inl fw)) ∧ h.2.2 (b + 4) = some (.inl (4, 5, .inr (.inr (.inr (.inr ff))))) ∧ (∀ k, k < R 1 0 → fn k = nI (R 2 k) ∧ fh k = hmR R k ∧ ∀ p, p < 8 → fw (8 * k + p) = wyR R k p) ∧ ∀ w, w < R 4 0 → ff w = some (b + 5 + w) ∧ h.2.2 (b + 5 + w) = some (.inr (kcl (R 5 w), [.int (nI (R 6 w)), .int (nI (R 7 w))]))
def rdo (b t : Nat) (a : Nat) : va_E := .inr (4, [.ref (b + 1), .ref (34 + 2 * t), .int (nI a)])
/-- while it reads -/
def RD (h0 : AH) (t b : Nat) (R : PR) (a : Nat) (h : AH) : Prop := h.1 = b + 6 + R 4 0 ∧ h.2.1 = h0.2.1 + 68 + 2 * R 4 0 ∧ (∀ x, x < b → h.2.2 x = h0.2.2 x) ∧ h.2.2 b = some (rdo b t a) ∧ RB h (b + 1) R
section PARSEC
variable {h0 h : AH} {S : SS} {t b a : Nat} {R : PR} {Q : Int32 → AH → Prop}
theorem RD.o (Z : RD h0 t b R a h) : isO h b 4 := ⟨_, Z.2.2.2.1⟩
theorem RD.at (Z : RD h0 t b R a h) {a' : Nat} : RD h0 t b R a' (aput h b (rdo b t a')) := by
  obtain ⟨z1, z2, z3, z4, z5, fn, fh, fw, ff, z6, z7, z8, z9, z10, z11⟩ := Z
  refine ⟨z1, z2, fun x hx => (aput_n h _ (by omega)).trans (z3 x hx), aput_s h b _, (aput_n h _ (by omega)).trans z5, fn, fh, fw, ff, (aput_n h _ (by omega)).trans z6, (aput_n h _ (by omega)).trans z7, (aput_n h _ (by omega)).trans z8, (aput_n h _ (by omega)).trans z9, z10, fun w hw => ⟨(z11 w hw).1, (aput_n h _ (by omega)).trans (z11 w hw).2⟩⟩
theorem r_next {K : AH → Prop} (Z : RD h0 t b R a h) (H : ∀ h1, RD h0 t b R (a + 1) h1 → K h1) : gI h b 4 2 (fun x => pF h b 4 2 (.int (x + (1 : Int32))) K) := by
  refine gI_of Z.2.2.2.1 rfl (pF_of Z.2.2.2.1 (Nat.le_of_ble_eq_true rfl) rfl ?_)
  rw [nI_1]
  exact H _ Z.at
theorem r_row (Z : RD h0 t b R a h) (hb : 131 ≤ b) (ht : t < 4) (T : RowAt h0 (34 + 2 * t) (35 + 2 * t) (S 2 t 0) (S 3 t)) : RowAt h (34 + 2 * t) (35 + 2 * t) (S 2 t 0) (S 3 t) := T.keep (Z.2.2.1 _ (by omega)) (Z.2.2.1 _ (by omega)) (fun _ => rfl)
theorem r_sign (W : WF S) (hb : 131 ≤ b) (ht : t < 4) (T : RowAt h0 (34 + 2 * t) (35 + 2 * t) (S 2 t 0) (S 3 t)) (Z : RD h0 t b R a h) (ha : a < 100) (H : Q (sg S t a) h) : f_X4_sign b h Q := by
  have b60 := (W.2.1 t ht).2
  have rw_ := r_row Z hb ht T
  have lt : nI a < S 2 t 0 ↔ (a : Int) < (S 2 t 0).toInt := by rw [tl, nI_toInt (by omega)]
  unfold sg at H
  refine gR_of Z.2.2.2.1 rfl (gI_of Z.2.2.2.1 rfl ⟨isO_of rw_.1, c_has rw_ (fun q => br0 ?_) (fun q1 q2 => br1 (gR_of Z.2.2.2.1 rfl (gI_of Z.2.2.2.1 rfl ⟨isO_of rw_.1, c_get rw_ b60 (fun q => absurd ⟨q1, q2⟩ q) (fun k e k1 k2 => ?_)⟩)))⟩)
  · rw [if_neg (fun z => q ⟨nI_pos' (by omega), lt.mpr z⟩)] at H
    exact H
  · have ek : a = k := (nI_eqI (by omega) (by omega)).mp e
    subst ek
    rw [if_pos k2] at H
    exact H
theorem r_isFigure {lo hi : Nat} (W : WF S) (hb : 131 ≤ b) (ht : t < 4) (T : RowAt h0 (34 + 2 * t) (35 + 2 * t) (S 2 t 0) (S 3 t)) (Z : RD h0 t b R a h) (ha : a < 100) (hl : lo ≤ 100) (hh : hi ≤ 100) (H0 : isD (sg S t a) lo hi = none → Q 0 h) (H1 : ∀ v, isD (sg S t a) lo hi = some v → Q 1 h) : isO h b 4 ∧ f_X4_isFigure b (nI lo) (nI hi) h Q := by
  have e48 : ∀ k, (48 : Int32) + nI k = nI (48 + k) := fun k => by rw [show (48 : Int32) = nI 48 from rfl, nI_add]
  have none' : ¬ ((48 + (lo : Int)) ≤ (sg S t a).toInt ∧ (sg S t a).toInt ≤ 48 + (hi : Int)) → Q 0 h := fun z => H0 (by unfold isD; rw [if_neg z])
  refine ⟨Z.o, Z.o, r_sign W hb ht T Z ha ?_⟩
  rw [e48, e48]
  refine ⟨fun q => none' (fun z => ?_), fun q => ⟨Z.o, r_sign W hb ht T Z ha ⟨fun q2 => none' (fun z => ?_), fun q2 => H1 _ (by unfold isD; rw [if_pos (by rw [tl, nI_toInt (by omega)] at q q2; omega)])⟩⟩⟩
  · rw [tl, nI_toInt (by omega)] at q; omega
  · rw [tl, nI_toInt (by omega)] at q2; omega
theorem r_take {v : Nat} (W : WF S) (hb : 131 ≤ b) (ht : t < 4) (T : RowAt h0 (34 + 2 * t) (35 + 2 * t) (S 2 t 0) (S 3 t)) (Z : RD h0 t b R a h) (ha : a < 100) (hv : sg S t a = nI (48 + v)) (H : ∀ h1, RD h0 t b R (a + 1) h1 → Q (nI v) h1) : isO h b 4 ∧ f_X4_takeFigure b h Q := by
  refine ⟨Z.o, Z.o, r_sign W hb ht T Z ha (r_next Z (fun h1 Z1 => ?_))⟩
  rw [hv, show (48 : Int32) = nI 48 from rfl, pk_sub (by omega), show 48 + v - 48 = v by omega]
  exact H h1 Z1
theorem r_skip {Q : AH → Prop} (W : WF S) (hb : 131 ≤ b) (ht : t < 4) (T : RowAt h0 (34 + 2 * t) (35 + 2 * t) (S 2 t 0) (S 3 t)) (Z : RD h0 t b R a h) (ha : a ≤ 64) (H : ∀ h1, RD h0 t b R (skp (sg S t) 61 a) h1 → Q h1) : isO h b 4 ∧ f_X4_skipBlanks b h Q := by
  have b60 := (W.2.1 t ht).2
  have main : ∀ (n a : Nat) (h : AH), 60 ≤ a + n → a ≤ 64 → RD h0 t b R a h → (∀ h1, RD h0 t b R (skp (sg S t) n a) h1 → Q h1) → L_X4_skipBlanks_0 Q b (n + 1) h := by
    intro n
    induction n with
    | zero =>
      intro a h hn ha Z G
      have rw_ := r_row Z hb ht T
      refine gI_of Z.2.2.2.1 rfl (gR_of Z.2.2.2.1 rfl (gI_of rw_.1 rfl ⟨fun _ => G h Z, fun q2 => absurd ?_ q2⟩))
      rw [tle, nI_toInt (by omega)]
      omega
    | succ n ih =>
      intro a h hn ha Z G
      have rw_ := r_row Z hb ht T
      have le : S 2 t 0 ≤ nI a ↔ (S 2 t 0).toInt ≤ (a : Int) := by rw [tle, nI_toInt (by omega)]
      have lt : ¬ S 2 t 0 ≤ nI a → nI a < S 2 t 0 := fun q => by rw [tl, nI_toInt (by omega)]; rw [le] at q; omega
      refine gI_of Z.2.2.2.1 rfl (gR_of Z.2.2.2.1 rfl (gI_of rw_.1 rfl ⟨fun q => G h ?_, fun q2 => gR_of Z.2.2.2.1 rfl (gI_of Z.2.2.2.1 rfl ⟨isO_of rw_.1, c_get rw_ b60 (fun q => absurd ⟨nI_pos' (by omega), lt q2⟩ q) (fun k e k1 k2 => ?_)⟩)⟩))
      · have : sg S t a = 256 := by
          unfold sg
          rw [if_neg]
          intro z
          rw [le] at q
          omega
        rw [skp, this, if_neg (by decide)]
        exact Z
      · have ek : a = k := (nI_eqI (by omega) (by omega)).mp e
        subst ek
        have es : sg S t a = S 3 t a := by unfold sg; rw [if_pos k2]
        rw [skp, es] at G
        refine ⟨fun z => G h ?_, fun z => r_next Z (fun h1 Z1 => ih (a + 1) h1 (by omega) (by omega) Z1 ?_)⟩
        · rw [if_neg z]; exact Z
        · rw [if_pos z] at G; exact G
  exact ⟨Z.o, 62, main 61 a h (by omega) ha Z H⟩
theorem cod_with {f g : Nat → Nat} {s x : Nat} {Q : Int32 → AH → Prop} (hs : s < 5) (hf : ∀ k, k < s → f k < 8) (hx : x < 8) (hg : ∀ k, k < s → g k = f k) (hgs : g s = x) (H : Q (nI (cod g (s + 1))) h) : f_X5_withPost (nI (cod f s)) (nI s) (nI x) h Q := by
  have lo : cod f s < 8 ^ s := cod_lt hf
  have l5 : 8 ^ s ≤ 8 ^ 5 := Nat.pow_le_pow_right (by omega) (by omega)
  unfold f_X5_withPost
  rw [b_with (by omega) hs hx]
  have e2 : wp (cod f s) s x = cod g (s + 1) := by
    have d0 : dig (cod f s) s = 0 := by unfold dig; rw [Nat.div_eq_of_lt lo]
    unfold wp
    rw [d0, Nat.zero_mul, Nat.sub_zero]
    show _ = cod g s + g s * 8 ^ s
    rw [hgs, cod_cong hg]
  rw [e2]
  exact H
/-- how the road changes, the rest stays -/
theorem RD.mk (Z : RD h0 t b R a h) {R' : PR} {h1 : AH} (e1 : h1.1 = b + 6 + R' 4 0) (e2 : h1.2.1 = h0.2.1 + 68 + 2 * R' 4 0) (ha : ∀ x, x ≤ b → h1.2.2 x = h.2.2 x) (B : RB h1 (b + 1) R') : RD h0 t b R' a h1 := ⟨e1, e2, fun x hx => (ha x (by omega)).trans (Z.2.2.1 x hx), (ha b (Nat.le_refl _)).trans Z.2.2.2.1, B⟩
theorem r_addStone {v q : Nat} {Q : AH → Prop} (I : RI R) (Z : RD h0 t b R a h) (hs : R 1 0 < 5) (h1 : 1 ≤ v) (h9 : v ≤ 9) (hq : q < R 0 0) (H : ∀ h1, RD h0 t b (adS R v q) a h1 → Q h1) : isO h (b + 1) 5 ∧ f_X5_addStone (b + 1) (nI v) (nI q) h Q := by
  obtain ⟨i1, i2, i3, i4, i5, i6, i7⟩ := id I
  obtain ⟨z1, z2, z3, z4, z5, fn, fh, fw, ff, z6, z7, z8, z9, z10, z11⟩ := id Z
  have v5 : vp_in (nI (R 1 0)) 5 := vp_in_nI hs (by omega)
  have hmk : ∀ k, k < R 1 0 → mkR R k < 8 := fun k _ => by unfold mkR; split <;> omega
  have hhs : ∀ k, k < R 1 0 → hsR R k < 8 := fun k _ => by unfold hsR; split <;> omega
  have p3 : ∀ k, k < R 1 0 → R 3 k < 8 := fun k hk => by have := (i5 k hk).2.2; omega
  have a0 : adS R v q 0 0 = R 0 0 := adS_x (Or.inl rfl)
  have a2 : ∀ k, k < R 1 0 → adS R v q 2 k = R 2 k := fun k hk => adS_o (by omega) hk
  have mk' : ∀ k, k < R 1 0 → mkR (adS R v q) k = mkR R k := fun k hk => by unfold mkR; rw [a0, a2 k hk]
  have hs' : ∀ k, k < R 1 0 → hsR (adS R v q) k = hsR R k := fun k hk => by unfold hsR; rw [a0, a2 k hk]
  refine ⟨isO_of z5, gI_of z5 rfl ⟨fun _ => gI_of z5 rfl ?_, fun z => absurd (nI_lt (b := 5) hs (by omega)) z⟩⟩
  have go : ∀ t0 : Int32, t0 = hmR (adS R v q) (R 1 0) → B_X5_addStone_25 Q (b + 1) (nI v) (nI q) t0 h := fun t0 et => by
    refine gR_of z5 rfl (gI_of z5 rfl (sI_of z6 v5 ?_))
    rw [nI_clamp (by omega)]
    have o1 : ∀ e, (aput h (b + 1 + 1) e).2.2 (b + 1) = _ := fun e => (aput_n h e (by omega)).trans z5
    refine gR_of (o1 _) rfl (gI_of (o1 _) rfl (sI_of ((aput_n h _ (by omega)).trans z7) v5 ?_))
    rw [nI_clamp (by omega)]
    generalize hH2 : aput (aput h (b + 1 + 1) (.inl (0, 5, .inl (upd fn (R 1 0) (nI v))))) (b + 1 + 2) (.inl (0, 5, .inl (upd fh (R 1 0) t0))) = H2
    have k2 : ∀ x, x ≠ b + 1 + 1 → x ≠ b + 1 + 2 → H2.2.2 x = h.2.2 x := fun x x1 x2 => by rw [← hH2, aput_n _ _ x2, aput_n _ _ x1]
    have n2 : H2.2.2 (b + 1 + 1) = some (.inl (0, 5, .inl (upd fn (R 1 0) (nI v)))) := by rw [← hH2, aput_n _ _ (by omega), aput_s]
    have m2 : H2.2.2 (b + 1 + 2) = some (.inl (0, 5, .inl (upd fh (R 1 0) t0))) := by rw [← hH2, aput_s]
    have s2 : H2.1 = h.1 ∧ H2.2.1 = h.2.1 := by rw [← hH2]; exact ⟨rfl, rfl⟩
    have o2 := (k2 (b + 1) (by omega) (by omega)).trans z5
    refine gI_of o2 rfl (gI_of o2 rfl (cod_with (g := adS R v q 3) hs p3 (by omega) (fun k hk => adS_o (by omega) hk) adS_3 (pF_of o2 (Nat.le_of_ble_eq_true rfl) rfl ?_)))
    -- its ways home
    have fin : ∀ (h3 : AH) (fw3 : Nat → Int32) (mb hb : Int32), h3.1 = h.1 → h3.2.1 = h.2.1 → (∀ x, x ≠ b + 1 → x ≠ b + 1 + 1 → x ≠ b + 1 + 2 → x ≠ b + 1 + 3 → h3.2.2 x = h.2.2 x) → h3.2.2 (b + 1) = some (rob (b + 1) (nI (R 0 0)) (nI (R 1 0)) (nI (R 4 0)) (nI (cod (adS R v q 3) (R 1 0 + 1))) mb hb) → h3.2.2 (b + 1 + 1) = some (.inl (0, 5, .inl (upd fn (R 1 0) (nI v)))) → h3.2.2 (b + 1 + 2) = some (.inl (0, 5, .inl (upd fh (R 1 0) t0))) → h3.2.2 (b + 1 + 3) = some (.inl (0, 40, .inl fw3)) → (∀ p, p < 8 → fw3 (8 * R 1 0 + p) = wyR (adS R v q) (R 1 0) p) → (∀ x, x < 8 * R 1 0 → fw3 x = fw x) → mb = nI (cod (mkR (adS R v q)) (R 1 0 + 1)) → hb = nI (cod (hsR (adS R v q)) (R 1 0 + 1)) → B_X5_addStone_138 Q (b + 1) h3 := fun h3 fw3 mb hb e1 e2 e3 e4 e5 e6 e7 e8 e9 e10 e11 => by
      refine gI_of e4 rfl (pF_of e4 (Nat.le_of_ble_eq_true rfl) rfl ?_)
      rw [nI_1]
      refine H _ (Z.mk (by rw [adS_x (Or.inr (by omega))]; exact e1.trans z1) (by rw [adS_x (Or.inr (by omega))]; exact e2.trans z2) (fun x hx => (aput_n _ _ (by omega)).trans (e3 x (by omega) (by omega) (by omega) (by omega))) ⟨?_, upd fn (R 1 0) (nI v), upd fh (R 1 0) t0, fw3, ff, (aput_n _ _ (by omega)).trans e5, (aput_n _ _ (by omega)).trans e6, (aput_n _ _ (by omega)).trans e7, ((aput_n _ _ (by omega)).trans (e3 _ (by omega) (by omega) (by omega) (by omega))).trans z9, fun k hk => ?_, fun w hw => ?_⟩)
      · rw [aput_s, a0, adS_1, adS_x (Or.inr (by omega)), ← e10, ← e11]
        rfl
      · rw [adS_1] at hk
        by_cases e : k = R 1 0
        · rw [e, pk_us, pk_us, adS_2, et]
          exact ⟨rfl, rfl, e8⟩
        · obtain ⟨y1, y2, y3⟩ := z10 k (by omega)
          rw [pk_un e, pk_un e, a2 k (by omega)]
          refine ⟨y1, ?_, fun p hp => ?_⟩
          · rw [y2]; unfold hmR; rw [a0, a2 k (by omega)]
          · rw [e9 _ (by omega), y3 p hp]; unfold wyR; rw [a0, a2 k (by omega)]
      · rw [adS_x (Or.inr (by omega))] at hw
        rw [adS_x (Or.inr (by omega)), adS_x (Or.inr (by omega)), adS_x (Or.inr (by omega))]
        exact ⟨(z11 w hw).1, ((aput_n _ _ (by omega)).trans (e3 _ (by omega) (by omega) (by omega) (by omega))).trans (z11 w hw).2⟩
    refine ⟨8 + 1, lpG (L := L_X5_addStone_65 Q (b + 1) t0) (I := fun p x h3 => x = nI p ∧ h3.1 = h.1 ∧ h3.2.1 = h.2.1 ∧ (∀ x, x ≠ b + 1 → x ≠ b + 1 + 1 → x ≠ b + 1 + 2 → x ≠ b + 1 + 3 → h3.2.2 x = h.2.2 x) ∧ h3.2.2 (b + 1) = some (rob (b + 1) (nI (R 0 0)) (nI (R 1 0)) (nI (R 4 0)) (nI (cod (adS R v q 3) (R 1 0 + 1))) (nI (cod (mkR R) (R 1 0))) (nI (cod (hsR R) (R 1 0)))) ∧ h3.2.2 (b + 1 + 1) = some (.inl (0, 5, .inl (upd fn (R 1 0) (nI v)))) ∧ h3.2.2 (b + 1 + 2) = some (.inl (0, 5, .inl (upd fh (R 1 0) t0))) ∧ ∃ fw3, h3.2.2 (b + 1 + 3) = some (.inl (0, 40, .inl fw3)) ∧ (∀ p', p' < p → fw3 (8 * R 1 0 + p') = wyR (adS R v q) (R 1 0) p') ∧ ∀ x, x < 8 * R 1 0 → fw3 x = fw x) 8 (fun m x h3 Y => ?_) (fun p m x h3 hp Y K => ?_) 8 0 (by omega) 0 _ ⟨rfl, s2.1, s2.2, fun x x1 x2 x3 x4 => (aput_n _ _ x1).trans (k2 x x2 x3), aput_s _ _ _, (aput_n _ _ (by omega)).trans n2, (aput_n _ _ (by omega)).trans m2, fw, ((aput_n _ _ (by omega)).trans (k2 _ (by omega) (by omega))).trans z8, fun p' hp' => absurd hp' (Nat.not_lt_zero _), fun _ _ => rfl⟩⟩
    · obtain ⟨rfl, e1, e2, e3, e4, e5, e6, fw3, e7, e8, e9⟩ := Y
      refine ⟨fun _ => ⟨fun y => ?_, fun y => ?_⟩, fun y => absurd (Int32.le_refl _) y⟩
      · have nh : ¬ v ≤ R 0 0 := fun z => by
          rw [et] at y
          unfold hmR at y
          rw [adS_2, a0, if_pos z] at y
          exact nI_nn _ (by omega) y
        refine fin h3 fw3 _ _ e1 e2 e3 e4 e5 e6 e7 e8 e9 ?_ ?_
        · show _ = nI (cod (mkR (adS R v q)) (R 1 0) + mkR (adS R v q) (R 1 0) * 8 ^ R 1 0)
          rw [cod_cong mk', show mkR (adS R v q) (R 1 0) = 0 by unfold mkR; rw [adS_2, a0, if_neg nh], Nat.zero_mul, Nat.add_zero]
        · show _ = nI (cod (hsR (adS R v q)) (R 1 0) + hsR (adS R v q) (R 1 0) * 8 ^ R 1 0)
          rw [cod_cong hs', show hsR (adS R v q) (R 1 0) = 0 by unfold hsR; rw [adS_2, a0, if_neg nh], Nat.zero_mul, Nat.add_zero]
      · have yh : v ≤ R 0 0 := by
          rcases Nat.lt_or_ge (R 0 0) v with z | z
          · exfalso
            refine y ?_
            rw [et]
            unfold hmR
            rw [adS_2, a0, if_neg (by omega)]
          · exact z
        have et2 : t0 = nI (v - 1) := by rw [et]; unfold hmR; rw [adS_2, a0, if_pos yh]
        rw [et2]
        refine gI_of e4 rfl (gI_of e4 rfl (cod_with (x := 7) (g := mkR (adS R v q)) hs hmk (by omega) mk' (by unfold mkR; rw [adS_2, a0, if_pos yh]) (pF_of e4 (Nat.le_of_ble_eq_true rfl) rfl (gI_of (aput_s _ _ _) rfl (gI_of (aput_s _ _ _) rfl (cod_with (g := hsR (adS R v q)) hs hhs (by omega) hs' (by unfold hsR; rw [adS_2, a0, if_pos yh]) (pF_of (aput_s _ _ _) (Nat.le_of_ble_eq_true rfl) rfl ?_)))))))
        rw [aput_pp]
        exact fin _ fw3 _ _ e1 e2 (fun x x1 x2 x3 x4 => (aput_n _ _ x1).trans (e3 x x1 x2 x3 x4)) (aput_s _ _ _) ((aput_n _ _ (by omega)).trans e5) ((aput_n _ _ (by omega)).trans e6) ((aput_n _ _ (by omega)).trans e7) e8 e9 rfl rfl
    · obtain ⟨rfl, e1, e2, e3, e4, e5, e6, fw3, e7, e8, e9⟩ := Y
      have wy : ∀ {h' : AH} {K : Int32 → AH → Prop}, K (wyR (adS R v q) (R 1 0) p) h' → f_X5_wayBetween (nI p) t0 h' K := fun G => by
        rw [et]
        unfold hmR wyR at *
        rw [adS_2, a0] at *
        by_cases z : v ≤ R 0 0
        · rw [if_pos z] at G ⊢
          refine ⟨fun _ => ?_, fun y => absurd y (nI_nn _ (by omega))⟩
          have e3 : (nI p - nI (v - 1)).toInt = (p : Int) - (v - 1 : Nat) := pk_sub_toInt (by omega) (by omega)
          have e4 : (if 0 ≤ (nI p - nI (v - 1)) then (nI p - nI (v - 1)) else 0 - (nI p - nI (v - 1)) : Int32) = nI (if p ≤ v - 1 then v - 1 - p else p - (v - 1)) := by
            refine ti_ext ?_
            by_cases g : 0 ≤ nI p - nI (v - 1)
            · rw [if_pos g, e3]
              rw [tle, e3, ti_0] at g
              rw [nI_toInt (by split <;> omega)]
              split <;> omega
            · rw [if_neg g, ti_sub (by rw [e3, ti_0]; omega) (by rw [e3, ti_0]; omega), e3, ti_0]
              rw [tle, e3, ti_0] at g
              rw [nI_toInt (by split <;> omega)]
              split <;> omega
          rw [e4]
          exact G
        · rw [if_neg z] at G ⊢
          exact ⟨fun y => absurd rfl y, fun _ => G⟩
      refine ⟨fun y => absurd y ?_, fun _ => gR_of e4 rfl (gI_of e4 rfl (wy ?_))⟩
      · rw [show (8 : Int32) = nI 8 from rfl, nI_leI (by omega) (by omega)]; omega
      · rw [show (8 : Int32) = nI 8 from rfl, pk_mul, nI_add]
        refine sI_of e7 (vp_in_nI (by omega) (by omega)) ?_
        rw [nI_clamp (by omega), nI_1]
        refine K _ _ ⟨rfl, e1, e2, fun x x1 x2 x3 x4 => (aput_n _ _ x4).trans (e3 x x1 x2 x3 x4), (aput_n _ _ (by omega)).trans e4, (aput_n _ _ (by omega)).trans e5, (aput_n _ _ (by omega)).trans e6, _, aput_s _ _ _, fun p' hp' => ?_, fun x hx => ?_⟩
        · by_cases z : p' = p
          · rw [z, pk_us]
          · rw [pk_un (by omega)]; exact e8 p' (by omega)
        · rw [pk_un (by omega)]; exact e9 x hx
  rw [nI_ltI (by omega) (by omega)]
  refine ⟨fun z => go _ ?_, fun z => go _ ?_⟩
  · unfold hmR; rw [adS_2, a0, if_neg (by omega)]
  · unfold hmR; rw [adS_2, a0, if_pos (by omega), show (1 : Int32) = nI 1 from rfl, pk_sub (by omega)]
end PARSEC
