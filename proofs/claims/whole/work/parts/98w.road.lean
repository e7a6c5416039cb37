/-! a road taken -/
def RS (S : SS) (R : PR) : SS := fun c i j => if c = 7 then nI (R 0 0) else if c = 8 then nI (R 1 0) else if c = 9 then nI (R 4 0) else if c = 10 then nI (R 2 i) else if c = 11 then nI (R 5 i) else if c = 12 then nI (R 6 i) else if c = 13 then nI (R 7 i) else if c = 14 then nI (cod (R 3) (R 1 0)) else if c = 15 ∨ c = 16 then 0 else if c = 21 then -1 else S c i j
section ROAD
variable {h h1 : AH} {S : SS} {u l : Int64} {n t : Nat} {R : PR}
theorem RS_o {c i j : Nat} (hc : c ≤ 6 ∨ (17 ≤ c ∧ c ≠ 21)) : RS S R c i j = S c i j := by
  unfold RS
  rw [if_neg (by omega), if_neg (by omega), if_neg (by omega), if_neg (by omega), if_neg (by omega), if_neg (by omega), if_neg (by omega), if_neg (by omega), if_neg (by omega), if_neg (by omega)]
theorem rs_p (I : RI R) : pN (RS S R) = R 0 0 := nI_clamp (by have := I.2.1; omega)
theorem rs_s (I : RI R) : sN (RS S R) = R 1 0 := nI_clamp (by have := I.2.2.1; omega)
theorem rs_w (I : RI R) : wN (RS S R) = R 4 0 := nI_clamp (by have := I.2.2.2.1; omega)
theorem rs_nu (I : RI R) {k : Nat} (hk : k < R 1 0) : nu (RS S R) k = R 2 k := nI_clamp (by have := I.2.2.2.2.1 k hk; omega)
theorem rs_kd (I : RI R) {k : Nat} (hk : k < R 4 0) : kd (RS S R) k = R 5 k := nI_clamp (by have := I.2.2.2.2.2.2 k hk; omega)
theorem rs_fr (I : RI R) {k : Nat} (hk : k < R 4 0) : fr (RS S R) k = R 6 k := nI_clamp (by have := I.2.2.2.2.2.2 k hk; have := I.2.1; omega)
theorem rs_to (I : RI R) {k : Nat} (hk : k < R 4 0) : to_ (RS S R) k = R 7 k := nI_clamp (by have := I.2.2.2.2.2.2 k hk; have := I.2.1; omega)
theorem rs_c (I : RI R) : cod (R 3) (R 1 0) < 8 ^ R 1 0 ∧ cod (R 3) (R 1 0) < 32768 := by
  have p3 : ∀ k, k < R 1 0 → R 3 k < 8 := fun k hk => by have := I.2.2.2.2.1 k hk; have := I.2.1; omega
  have l := cod_lt p3
  have l5 : 8 ^ R 1 0 ≤ 8 ^ 5 := Nat.pow_le_pow_right (by omega) I.2.2.1
  exact ⟨l, by omega⟩
theorem WF_rs (W : WF S) (I : RI R) : WF (RS S R) := by
  obtain ⟨i1, i2, i3, i4, i5, i6, i7⟩ := id I
  have cb := rs_c I
  have est : stN (RS S R) = cod (R 3) (R 1 0) := nI_clamp (by omega)
  have erl : rlN (RS S R) = 0 := nI_clamp (n := 0) (by omega)
  have edn : dnN (RS S R) = 0 := nI_clamp (n := 0) (by omega)
  refine ⟨fun r hr => by rw [RS_o (by omega)]; exact W.1 r hr, fun r hr => by rw [RS_o (by omega)]; exact W.2.1 r hr, ?_, ?_, ⟨by rw [erl]; rfl, by omega⟩, ⟨by rw [edn]; rfl, by omega⟩, fun i hi => absurd hi (by rw [edn]; omega), fun k hk => Or.inl rfl⟩
  · unfold WFr
    rw [rs_p I, rs_s I, rs_w I]
    refine ⟨rfl, rfl, rfl, i2, by omega, i3, i4, fun z => by omega, fun k hk => ?_, fun k j hkj hj => ?_, fun w hw => ?_⟩
    · rw [rs_nu I hk]; exact ⟨rfl, (i5 k hk).1, (i5 k hk).2.1⟩
    · rw [rs_nu I hj, rs_nu I (by omega)]; exact i6 k j hkj hj
    · obtain ⟨y1, y2, y3, y4⟩ := i7 w hw
      rw [rs_kd I hw, rs_fr I hw, rs_to I hw]; exact ⟨rfl, y1, rfl, y2, rfl, y3, y4⟩
  · rw [est]
    refine ⟨rfl, ?_⟩
    unfold Cd
    rw [rs_s I, rs_p I]
    refine ⟨cb.1, fun k hk => Or.inl ?_⟩
    rw [dig_cod (fun j hj => by have := (i5 j hj).2.2; omega) hk]
    exact (i5 k hk).2.2
theorem rs_Crod {b : Nat} {X : Nat → Prop} (I : RI R) (B : RB h b R) (hX : ∀ x, b ≤ x → x < b + 5 + R 4 0 → X x) : Crod h b (RS S R) X := by
  obtain ⟨b1, fn, fh, fw, ff, b2, b3, b4, b5, b6, b7⟩ := B
  refine ⟨b + 1, b + 2, b + 3, b + 4, fn, fh, fw, ff, fun w => b + 5 + w, nI (cod (R 3) (R 1 0)), hX _ (by omega) (by omega), hX _ (by omega) (by omega), hX _ (by omega) (by omega), hX _ (by omega) (by omega), hX _ (by omega) (by omega), ?_, b2, b3, b4, b5, fun k hk => ?_, fun w hw => ?_⟩
  · rw [b1, rs_s I, rs_p I, cod_cong (f := mkR R) (g := fun k => if nu (RS S R) k ≤ R 0 0 then 7 else 0) (fun j hj => by rw [rs_nu I hj]; rfl), cod_cong (f := hsR R) (g := fun k => if nu (RS S R) k ≤ R 0 0 then nu (RS S R) k - 1 else 0) (fun j hj => by rw [rs_nu I hj]; rfl)]
    rfl
  · rw [rs_s I] at hk
    obtain ⟨y1, y2, y3⟩ := b6 k hk
    refine ⟨y1, ?_, fun p hp => ?_⟩
    · rw [y2]; unfold hmR homI; rw [rs_nu I hk, rs_p I]
    · rw [y3 p hp]; unfold wyR wayI ds; rw [rs_nu I hk, rs_p I]
      by_cases z : R 2 k ≤ R 0 0
      · rw [if_pos z, if_pos z, if_pos z]
      · rw [if_neg z, if_neg z]
  · rw [rs_w I] at hw
    obtain ⟨y1, y2⟩ := b7 w hw
    refine ⟨y1, hX (b + 5 + w) (by omega) (by omega), ?_⟩
    rw [y2, rs_kd I hw]
    rfl
theorem RC.road2 {h10 h19 : AH} {a : Nat} {g : Nat → Int32} (C : RC h S u l n) (I : RI R) (Z : RD h t h.1 R a h10) (e1 : h19.1 = h10.1) (e2 : h19.2.1 = h10.2.1) (hx : ∀ x, x ≠ 1 → x ≠ 6 → h19.2.2 x = h10.2.2 x) (hm : h19.2.2 1 = some (mob (h.1 + 1) (nI (cod (R 3) (R 1 0))) 0 0 (S 4 0 0) u l (S 5 0 0))) (h6 : h19.2.2 6 = some (.inl (0, 3, .inl g))) (hg : ∀ k, k < 3 → g k = -9) : RC h19 (RS S R) u l (n + 1) := by
  obtain ⟨z1, z2, z3, z4, z5⟩ := Z
  have i4 := I.2.2.2.1
  obtain ⟨rd, fa, li, qu, N, X, c1, c2, c3, c4, c5, c6, c7, c8, c9, c10, c11, c12, c13, c14⟩ := C
  have ha : ∀ x, x < h.1 → x ≠ 1 → x ≠ 6 → h19.2.2 x = h.2.2 x := fun x x1 x2 x3 => (hx x x2 x3).trans (z3 x x1)
  obtain ⟨sr, ss, sl, ex, re, ga, dr, rt, bg, ie, ff, fl, fq, d1, d2, ⟨f3, d3⟩, ⟨f4, d4⟩, ⟨f5, d5⟩, d6, d7, d8, d9, d10, d11, d12, d13, d14, d15, d16, d17, d18, d19, d20, d21⟩ := c9
  have s9 := d9
  have s10 := d10
  have s11 := d11
  unfold sadr at s9 s10 s11
  refine ⟨h.1 + 1, fa, li, qu, N, fun x => h.1 + 1 ≤ x ∧ x < h19.1, hm, c2.keep (fun a _ _ => ha a (by omega) (by omega) (by omega)), c3.keep (fun a _ _ => ha a (by omega) (by omega) (by omega)) (fun _ => RS_o (by omega)) (fun _ _ => RS_o (by omega)), c4.keep (fun a _ _ => ha a (by omega) (by omega) (by omega)) (fun _ => RS_o (by omega)) (fun _ _ => RS_o (by omega)), c5.keep (ha 7 (by omega) (by omega) (by omega)) (fun _ => RS_o (by omega)), ?_, fun i hi => ?_, c8.keep (ha 13 (by omega) (by omega) (by omega)), ?_, rs_Crod I ?_ (fun x x1 x2 => ⟨x1, by omega⟩), fun a hq => ?_, by omega, by omega, by omega⟩
  · obtain ⟨f, g', y1, y2, y3⟩ := c6
    exact ⟨f, g, (ha 5 (by omega) (by omega) (by omega)).trans y1, h6, fun k hk => Or.inl ⟨rfl, hg k hk⟩⟩
  · obtain ⟨rd', lw, bf, st, by_, py, ca, mv, y1, y2⟩ := c7 i hi
    exact ⟨rd', lw, bf, st, by_, py, ca, mv, (ha _ (by omega) (by omega) (by omega)).trans y1, fun q => absurd q (nI_n0 (by omega))⟩
  · refine ⟨sr, ss, sl, ex, re, ga, dr, rt, bg, ie, ff, fl, fq, (ha _ (by omega) (by omega) (by omega)).trans d1, d2.keep (ha _ (by omega) (by omega) (by omega)), ⟨f3, (ha _ (by omega) (by omega) (by omega)).trans d3⟩, ⟨f4, (ha _ (by omega) (by omega) (by omega)).trans d4⟩, ⟨f5, (ha _ (by omega) (by omega) (by omega)).trans d5⟩, (ha _ (by omega) (by omega) (by omega)).trans d6, (ha _ (by omega) (by omega) (by omega)).trans d7, (ha _ (by omega) (by omega) (by omega)).trans d8, d9, d10, d11, d12, d13, d14, by omega, by omega, by omega, by omega, d19, d20, fun _ q => by omega⟩
  · obtain ⟨b1, fn, fh, fw, ff', b2, b3, b4, b5, b6, b7⟩ := z5
    have hb : ∀ x, h.1 < x → h19.2.2 x = h10.2.2 x := fun x q => hx x (by omega) (by omega)
    exact ⟨(hb _ (by omega)).trans b1, fn, fh, fw, ff', (hb _ (by omega)).trans b2, (hb _ (by omega)).trans b3, (hb _ (by omega)).trans b4, (hb _ (by omega)).trans b5, b6, fun w hw => ⟨(b7 w hw).1, (hb _ (by omega)).trans (b7 w hw).2⟩⟩
  · refine ⟨Or.inr (by omega), by omega, by omega, by omega, hq.2⟩
theorem M_road {j : Nat} {Q : Int32 → AH → Prop} (M : RM h S u l) (W : WF S) (hj : j < 4) (hz : 0 ≤ S 2 j 0)
    (Hf : ∀ f, pall (sg S j) = .inl f → ∀ h1, RM h1 S u l → Mag h h1 → Q (-4) h1)
    (Hg : ∀ R, pall (sg S j) = .inr R → ∀ h1, RM h1 (RS S R) u l → Mag h h1 → Q (nI (R 1 0)) h1) : f_X12_road 102 (nI j) h Q := by
  obtain ⟨mi, ma, R1, A, Wm, T, F, Rd, Lg, Kp⟩ := id M
  refine m_textJ hj (rb1 (m_gR R1 (mr2 _ _ _) (m_lI R1 (j := 2) rfl rfl rfl (vp_in_nI hj (by omega)) ?_)))
  rw [nI_clamp (by omega), T.1 j hj]
  refine ⟨fun _ => ⟨R1.o, m_reads T W hj (MX.of R1 A Rd) A.1 (fun f e h2 mi2 ma2 X2 y4 y27 => rb0 (Hf f e h2 (X2.rmS y4 Wm T F Lg Kp) X2.mag)) (fun R e h2 mi2 ma2 a X2 => rb1 ?_)⟩, fun z => absurd hz z⟩
  have I := ri_pall e
  obtain ⟨i1, i2, i3, i4, i5, i6, i7⟩ := id I
  obtain ⟨X, x4, x27, x28, x29, x30, xs, xw⟩ := X2
  have cb := rs_c I
  have p3 : ∀ k, k < R 1 0 → R 3 k < 8 := fun k hk => by have := i5 k hk; omega
  refine m_gI X.rep (mg28 _ _ _) (m_pF X.rep (by omega) (ms9 _ _ _ _) (fun h3 r3 a3 => m_gI r3 (mg29 _ _ _) (m_pF r3 (by omega) (ms10 _ _ _ _) (fun h4 r4 a4 => m_gI r4 (mg30 _ _ _) (m_pF r4 (by omega) (ms12 _ _ _ _) (fun h5 r5 a5 => m_pF r5 (by omega) (ms17 _ _ _ _) (fun h6 r6 a6 => ?_)))))))
  rw [pk_un (by omega), pk_un (by omega), pk_un (by omega), x28, x29, x30] at r6
  generalize hmi : upd (upd (upd (upd mi2 9 (nI (R 0 0))) 10 (nI (R 1 0))) 12 (nI (R 4 0))) 17 0 = mi6 at r6
  have m10 : mi6 10 = nI (R 1 0) := by rw [← hmi, pk_un (by omega), pk_un (by omega), pk_us]
  have g6 : Mag h h6 := (((X.mag.tr a3).tr a4).tr a5).tr a6
  refine ⟨5 + 1, lpG (L := L_X12_road_66 Q 102) (I := fun i x h7 => x = nI i ∧ ∃ mi7 ma7, RepM h7 mi7 u l ma7 ∧ Mag h6 h7 ∧ (∀ j, j ≠ 17 → mi7 j = mi6 j) ∧ mi7 17 = nI (cod (R 3) (min i (R 1 0))) ∧ (∀ j x, j < 5 ∨ 8 < j → ma7 j x = ma2 j x) ∧ ∀ x, x < i → ma7 5 x = ma2 17 x ∧ ma7 6 x = ma2 19 x ∧ ma7 7 x = ma2 20 x ∧ ma7 8 x = ma2 21 x) 5 (fun m x h7 Y => ?_) (fun i m x h7 hi Y K => ?_) 5 0 (by omega) 0 h6 ⟨rfl, mi6, ma2, r6, Mag.rf, fun _ _ => rfl, by rw [← hmi, pk_us, Nat.zero_min]; rfl, fun _ _ _ => rfl, fun x hx => absurd hx (Nat.not_lt_zero _)⟩⟩
  · obtain ⟨rfl, mi7, ma7, r7, a7, y1, y2, y3, y4⟩ := Y
    refine ⟨fun _ => m_pF r7 (by omega) (ms16 _ _ _ _) (fun h8 r8 a8 => ⟨3 + 1, lpG (L := L_X12_road_163 Q 102) (I := fun i x h9 => x = nI i ∧ ∃ ma9, RepM h9 (upd mi7 16 0) u l ma9 ∧ Mag h8 h9 ∧ (∀ j x, j ≠ 15 → ma9 j x = ma7 j x) ∧ ∀ x, x < i → ma9 15 x = -1) 3 (fun m x h9 Y => ?_) (fun i m x h9 hi Y K => ?_) 3 0 (by omega) 0 h8 ⟨rfl, ma7, r8, Mag.rf, fun _ _ _ => rfl, fun x hx => absurd hx (Nat.not_lt_zero _)⟩⟩), fun z => absurd (by decide) z⟩
    · obtain ⟨rfl, ma9, r9, a9, z1, z2⟩ := Y
      refine ⟨fun _ => ⟨r9.o, m_clear r9 (fun h10 g1 g2 r10 a10 gz => m_gI r10 (mg10 _ _ _) ?_)⟩, fun z => absurd (by decide) z⟩
      rw [pk_un (by omega), pk_un (by omega), y1 10 (by omega), m10]
      have eo : ∀ j, j ≠ 20 → j ≠ 16 → j ≠ 17 → upd (upd mi7 16 0) 20 0 j = mi6 j := fun j q1 q2 q3 => by rw [pk_un q1, pk_un q2, y1 j q3]
      have em : ∀ j x, j ≤ 4 ∨ (17 ≤ j) → va_up (va_up ma9 9 g1) 10 g2 j x = ma2 j x := fun j x q => by rw [va_up_ne _ _ (by omega), va_up_ne _ _ (by omega), z1 _ _ (by omega), y3 _ _ (by omega)]
      have e0 : ∀ j x, j ≤ 4 → va_up (va_up ma9 9 g1) 10 g2 j x = ma j x := fun j x q => by rw [em j x (by omega)]; exact X.2.2.2.2 j x (by omega)
      have edn : dnN (RS S R) = 0 := nI_clamp (n := 0) (by omega)
      refine Hg R e h10 ⟨_, _, r10, ?_, Wm.keep (fun i => e0 0 i (by omega)) (fun i => e0 1 i (by omega)) (fun r => RS_o (by omega)) (fun r i => RS_o (by omega)), T.keep (fun i => e0 2 i (by omega)) (fun i => e0 3 i (by omega)) (fun r => RS_o (by omega)) (fun r i => RS_o (by omega)), F.keep (fun i => e0 4 i (by omega)) (fun r => RS_o (by omega)), ⟨fun k hk => ?_, fun w hw => ?_⟩, ⟨fun w hw => ?_, fun k hk => ?_, fun i hi => absurd hi (by rw [edn]; omega)⟩, fun k hk => ⟨?_, fun q => absurd q (by show ¬ (0 : Int32) ≤ -1; decide)⟩⟩ ((((g6.tr a7).tr a8).tr a9).tr a10)
      · have m5 : ∀ j, j ≠ 9 → j ≠ 10 → j ≠ 12 → j ≠ 17 → mi6 j = mi2 j := fun j q1 q2 q3 q4 => by rw [← hmi, pk_un q4, pk_un q3, pk_un q2, pk_un q1]
        have A2 := X.2.2.1
        unfold LkA
        refine ⟨?_, ?_, ?_, ?_, ?_, ?_, ?_, pk_us⟩
        · rw [eo 4 (by omega) (by omega) (by omega), m5 4 (by omega) (by omega) (by omega) (by omega), RS_o (by omega)]; exact x4
        · rw [eo 7 (by omega) (by omega) (by omega), m5 7 (by omega) (by omega) (by omega) (by omega), RS_o (by omega), A2.2.1, up_c _ _ (by omega)]
        · rw [eo 9 (by omega) (by omega) (by omega), ← hmi, pk_un (by omega), pk_un (by omega), pk_un (by omega), pk_us]; rfl
        · rw [eo 10 (by omega) (by omega) (by omega), m10]; rfl
        · rw [eo 12 (by omega) (by omega) (by omega), ← hmi, pk_un (by omega), pk_us]; rfl
        · rw [pk_un (by omega), pk_us]; rfl
        · rw [pk_un (by omega), pk_un (by omega), y2, Nat.min_eq_right i3]; rfl
      · rw [rs_s I] at hk
        rw [va_up_ne _ _ (by omega), va_up_ne _ _ (by omega), z1 _ _ (by omega), (y4 k (by omega)).1, (xs k hk).1]
        rfl
      · rw [rs_w I] at hw
        obtain ⟨v1, v2, v3, v4⟩ := y4 w (by omega)
        obtain ⟨t1, t2, t3⟩ := xw w hw
        have e3 : ∀ j, j ≠ 9 → j ≠ 10 → j ≠ 15 → va_up (va_up ma9 9 g1) 10 g2 j w = ma7 j w := fun j q1 q2 q3 => by rw [va_up_ne _ _ q2, va_up_ne _ _ q1, z1 _ _ q3]
        rw [e3 6 (by omega) (by omega) (by omega), e3 7 (by omega) (by omega) (by omega), e3 8 (by omega) (by omega) (by omega), v2, v3, v4, t1, t2, t3]
        exact ⟨rfl, rfl, rfl⟩
      · rw [va_up_ne _ _ (by omega), va_up_self, edn]; exact (gz w hw).1
      · rw [va_up_self, edn]; exact (gz k hk).2
      · rw [va_up_ne _ _ (by omega), va_up_ne _ _ (by omega), z2 k hk]; rfl
    · obtain ⟨rfl, ma9, r9, a9, z1, z2⟩ := Y
      refine ⟨fun q => absurd q ?_, fun _ => m_gR r9 (mr25 _ _ _) (m_sI r9 (j := 15) rfl rfl rfl (vp_in_nI hi (by omega)) (fun h10 r10 a10 => ?_))⟩
      · rw [show (3 : Int32) = nI 3 from rfl, nI_leI (by omega) (by omega)]; omega
      · rw [nI_clamp (by omega)] at r10
        rw [nI_1]
        refine K _ _ ⟨rfl, _, r10, a9.tr a10, fun j x q => by rw [va_up_ne _ _ q]; exact z1 j x q, fun x hx => ?_⟩
        rw [va_up_self]
        by_cases z : x = i
        · rw [z, pk_us]
        · rw [pk_un z]; exact z2 x (by omega)
  · obtain ⟨rfl, mi7, ma7, r7, a7, y1, y2, y3, y4⟩ := Y
    have v5 : vp_in (nI i) 5 := vp_in_nI hi (by omega)
    refine ⟨fun q => absurd q ?_, fun _ => m_gR r7 (mr11 _ _ _) (m_gR r7 (mr31 _ _ _) (m_lI r7 (j := 17) rfl rfl rfl v5 (m_sI r7 (j := 5) rfl rfl rfl v5 (fun h8 r8 a8 => m_gI r8 (mg17 _ _ _) (m_gI r8 (mg10 _ _ _) ?_)))))⟩
    · rw [show (5 : Int32) = nI 5 from rfl, nI_leI (by omega) (by omega)]; omega
    rw [nI_clamp (by omega)] at r8
    have go : ∀ t2 : Int32, mi7 17 ||| t2 = nI (cod (R 3) (min (i + 1) (R 1 0))) → B_X12_road_110 Q (L_X12_road_66 Q 102 m) 102 (nI i) 102 (mi7 17) t2 h8 := fun t2 et => by
      refine m_pF r8 (by omega) (ms17 _ _ _ _) (fun h9 r9 a9 => m_gR r9 (mr13 _ _ _) (m_gR r9 (mr33 _ _ _) (m_lI r9 (j := 19) rfl rfl rfl v5 (m_sI r9 (j := 6) rfl rfl rfl v5 (fun h10 r10 a10 => m_gR r10 (mr14 _ _ _) (m_gR r10 (mr34 _ _ _) (m_lI r10 (j := 20) rfl rfl rfl v5 (m_sI r10 (j := 7) rfl rfl rfl v5 (fun h11 r11 a11 => m_gR r11 (mr15 _ _ _) (m_gR r11 (mr35 _ _ _) (m_lI r11 (j := 21) rfl rfl rfl v5 (m_sI r11 (j := 8) rfl rfl rfl v5 (fun h12 r12 a12 => ?_)))))))))))))
      rw [nI_clamp (by omega)] at r12
      rw [et] at r12
      rw [nI_1]
      refine K _ _ ⟨rfl, _, _, r12, ((((a7.tr a8).tr a9).tr a10).tr a11).tr a12, fun j q => by rw [pk_un q]; exact y1 j q, pk_us, fun j x q => ?_, fun x hx => ?_⟩
      · rw [va_up_ne _ _ (by omega), va_up_ne _ _ (by omega), va_up_ne _ _ (by omega), va_up_ne _ _ (by omega)]
        exact y3 j x q
      · by_cases z : x = i
        · subst z
          refine ⟨?_, ?_, ?_, ?_⟩
          · rw [va_up_ne _ _ (by omega), va_up_ne _ _ (by omega), va_up_ne _ _ (by omega), va_up_self, pk_us]
            exact y3 17 x (by omega)
          · rw [va_up_ne _ _ (by omega), va_up_ne _ _ (by omega), va_up_self, pk_us, va_up_ne _ _ (by omega)]
            exact y3 19 x (by omega)
          · rw [va_up_ne _ _ (by omega), va_up_self, pk_us, va_up_ne _ _ (by omega), va_up_ne _ _ (by omega)]
            exact y3 20 x (by omega)
          · rw [va_up_self, pk_us, va_up_ne _ _ (by omega), va_up_ne _ _ (by omega), va_up_ne _ _ (by omega)]
            exact y3 21 x (by omega)
        · obtain ⟨v1, v2, v3, v4⟩ := y4 x (by omega)
          refine ⟨?_, ?_, ?_, ?_⟩
          · rw [va_up_ne _ _ (by omega), va_up_ne _ _ (by omega), va_up_ne _ _ (by omega), va_up_self, pk_un z]; exact v1
          · rw [va_up_ne _ _ (by omega), va_up_ne _ _ (by omega), va_up_self, pk_un z, va_up_ne _ _ (by omega)]; exact v2
          · rw [va_up_ne _ _ (by omega), va_up_self, pk_un z, va_up_ne _ _ (by omega), va_up_ne _ _ (by omega)]; exact v3
          · rw [va_up_self, pk_un z, va_up_ne _ _ (by omega), va_up_ne _ _ (by omega), va_up_ne _ _ (by omega)]; exact v4
    rw [y1 10 (by omega), m10, nI_leI (by omega) (by omega)]
    refine ⟨fun q => go 0 ?_, fun q => m_gR r8 (mr32 _ _ _) (m_lI r8 (j := 18) rfl rfl rfl v5 (go _ ?_))⟩
    · rw [y2, Int32.or_zero, Nat.min_eq_right (by omega), Nat.min_eq_right (by omega)]
    · rw [nI_clamp (by omega), va_up_ne _ _ (by omega), y3 18 i (by omega), (xs i (by omega)).2, y2, Nat.min_eq_left (by omega), Nat.min_eq_left (by omega)]
      exact b_or (by omega) (fun j hj => p3 j (by omega))
theorem itm_le {sg : Nat → Int32} {R : PR} {a f : Nat} (h : itm sg R a = .inl f) : f ≤ a + 2 := by
  have inj : ∀ {x : Nat}, (Sum.inl x : Sum Nat PR) = .inl f → x = f := fun e => Sum.inl.inj e
  unfold itm at h
  split at h
  · unfold itS at h
    split at h
    · have := inj h; omega
    · split at h
      · have := inj h; omega
      · split at h
        · have := inj h; omega
        · split at h
          · have := inj h; omega
          · cases h
  · unfold itW at h
    split at h
    · have := inj h; omega
    · split at h
      · have := inj h; omega
      · split at h
        · have := inj h; omega
        · split at h
          · have := inj h; omega
          · split at h
            · have := inj h; omega
            · cases h
theorem prs_le {S : SS} {t : Nat} (b60 : (S 2 t 0).toInt ≤ 60) : ∀ (n a : Nat) (R : PR) (f : Nat), prs (sg S t) n a R = .inl f → f ≤ 100
  | 0, a, R, f, h => by cases h
  | n + 1, a, R, f, h => by
    unfold prs at h
    split at h
    · cases h
    · rename_i q
      have a60 : a < 60 := by
        rcases Nat.lt_or_ge a 60 with z | z
        · exact z
        · exact absurd (sg_end b60 z) q
      split at h
      · rename_i f' e
        have e2 : f' = f := Sum.inl.inj h
        have := itm_le e
        omega
      · exact prs_le b60 n _ _ f h
theorem pall_le {S : SS} {t f : Nat} (W : WF S) (ht : t < 4) (h : pall (sg S t) = .inl f) : f ≤ 100 := by
  have b60 := (W.2.1 t ht).2
  have g := skp_le (S := S) (t := t) b60 61 0
  have inj : ∀ {x : Nat}, (Sum.inl x : Sum Nat PR) = .inl f → x = f := fun e => Sum.inl.inj e
  unfold pall at h
  split at h
  · split at h
    · have := inj h; omega
    · exact prs_le b60 _ _ _ f h
  · have := inj h; omega
theorem c_readsA {Q : Nat → Int32 → AH → Prop} (C : RC h S u l n) (W : WF S) (ht : t < 4)
    (Hf : ∀ f, pall (sg S t) = .inl f → ∀ h1, RC h1 S u l (n + 1) → Cag h h1 → Q h.1 (nI f) h1)
    (Hg : ∀ R, pall (sg S t) = .inr R → ∀ h1 a, RD h t h.1 R a h1 → Q h.1 (-9) h1) : nO h 4 3 dfX4 (fun a4 h5 => gR h5 1 11 1 (fun a6 => lQ h5 a6 2 (nI t) (fun a7 => f_X4_init a4 a7 h5 (fun h8 => isO h8 a4 4 ∧ f_X4_read a4 h8 (Q a4))))) := by
  have b := C.b131
  obtain ⟨rd, c1⟩ := C.main
  obtain ⟨⟨f, w1, w2⟩, w3⟩ := C.texts
  have T := w3 t ht
  rw [show 34 + 1 + 2 * t = 35 + 2 * t by omega] at T
  have k5 : ∀ x e, x < h.1 → (anew h 3 e).2.2 x = h.2.2 x := fun x e hx => anew_n _ _ _ (Nat.ne_of_lt hx)
  unfold nO
  dsimp only
  refine gR_of ((k5 1 _ (by omega)).trans c1) rfl (lQ_of ((k5 3 _ (by omega)).trans w1) (vp_in_nI ht (by omega)) (by rw [nI_clamp (by omega)]; exact w2 t ht) (r_init (t := t) (fun h8 Z => r_read W b ht T Z (fun f e h1 R1 a1 b5 Z1 => Hf f e h1 ?_ ?_) Hg)))
  · exact C.grow Z1.2.2.1 (by have := Z1.1; omega) (by have := Z1.1; omega) (by have := Z1.2.1; omega)
  · exact fun a x y => Z1.2.2.1 a (by omega)
theorem op_road {r : Int32} (I : Inv h n) : f_X11_road 1 r h (fun x h1 => f_X12_road 102 r h1 (fun y h2 => x = y ∧ Inv h2 (n + 1))) := by
  have I3 := I.mono (m := n + 1) (by omega)
  obtain ⟨S, u, l, C, M, W⟩ := I
  refine c_gR C (fun _ => rfl) ⟨C.o, c_rmiss C C.texts (by omega) (fun q => brm1 (m_textB q (rb0 ⟨rfl, I3⟩))) (fun j hj e q h1 r1 a1 => brm3 ?_) (fun j hj e q => br0 ?_)⟩
  · subst e
    have M1 := M.keep a1
    obtain ⟨mi, ma, R1, A, Wm, T, F, Rd, Lg, Kp⟩ := id M1
    refine m_textJ hj (rb1 (m_gR R1 (mr2 _ _ _) (m_lI R1 (j := 2) rfl rfl rfl (vp_in_nI hj (by omega)) ?_)))
    rw [nI_clamp (by omega), T.1 j hj]
    exact ⟨fun c => by grind, fun _ => ⟨M1.o, m_find (f := 1) (by omega) M1 (fun h2 r2 a2 => ⟨rfl, (Inv.of r1 r2 a2 (WF_fnd W 1)).mono (by omega)⟩)⟩⟩
  · subst e
    have in1 : ∀ {f f' : PR}, (Sum.inr f : Sum Nat PR) = .inr f' → f = f' := fun e => Sum.inr.inj e
    have f9 : ∀ f, pall (sg S j) = .inl f → ¬ nI f = (-9 : Int32) := fun f e => nI_nn f (by
      have := pall_le W hj e
      omega)
    refine c_readsA C W hj ?_ ?_
    · intro f e h1 C1 ag
      refine ⟨fun z => absurd z (f9 f e), fun _ => ?_⟩
      exact M_road (M.keep ag) W hj q (fun f' e' h2 r2 a2 => ⟨rfl, Inv.of C1 r2 a2 W⟩) (fun R e' => by cases e.symm.trans e')
    intro R e h1 a Z
    refine ⟨fun _ => ?_, fun z => absurd rfl z⟩
    have I := ri_pall e
    have b := C.b131
    obtain ⟨rd, c1⟩ := C.main
    obtain ⟨_, _, _, _, _, _, -, -, -, -, -, ⟨f, g, hf, hg, hk⟩, -⟩ := id C
    have z1 := (Z.2.2.1 1 (by omega)).trans c1
    have z6 := (Z.2.2.1 6 (by omega)).trans hg
    have zr := Z.2.2.2.2.1
    refine gR_of Z.2.2.2.1 rfl (pF_of z1 (Nat.le_of_ble_eq_true rfl) rfl (gR_of (aput_s _ _ _) rfl (gI_of ((aput_n _ _ (by omega)).trans zr) rfl (pF_of (aput_s _ _ _) (Nat.le_of_ble_eq_true rfl) rfl (pF_of (aput_s _ _ _) (Nat.le_of_ble_eq_true rfl) rfl (pF_of (aput_s _ _ _) (Nat.le_of_ble_eq_true rfl) rfl (gR_of (aput_s _ _ _) rfl ?_)))))))
    rw [aput_pp, aput_pp, aput_pp]
    refine c_fill (n := 3) (by omega) ((aput_n _ _ (by omega)).trans z6) (fun g' hg' => gR_of ((aput_n _ _ (by omega)).trans (aput_s _ _ _)) rfl (gI_of (((aput_n _ _ (by omega)).trans (aput_n _ _ (by omega))).trans zr) rfl ?_))
    have C2 := C.road2 I Z (h19 := aput (aput h1 1 (mob (h.1 + 1) (nI (cod (R 3) (R 1 0))) 0 0 (S 4 0 0) u l (S 5 0 0))) 6 (.inl (0, 3, .inl g'))) rfl rfl (fun x x1 x2 => (aput_n _ _ x2).trans (aput_n _ _ x1)) ((aput_n _ _ (by omega)).trans (aput_s _ _ _)) (aput_s _ _ _) hg'
    refine M_road (M.keep (fun a x y => ((aput_n _ _ (by omega)).trans (aput_n _ _ (by omega))).trans (Z.2.2.1 a (by omega)))) W hj q (fun f' e' => by cases e.symm.trans e') (fun R' e' h2 r2 a2 => ?_)
    have er := in1 (e.symm.trans e')
    subst er
    exact ⟨rfl, Inv.of C2 r2 a2 (WF_rs W I)⟩
end ROAD
