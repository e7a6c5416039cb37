/-! earn -/
/-- what a row pays -/
def pRw (S : SS) (law c m : Nat) (row : Nat) : Nat := (rww S law c (rdg (wN S) m row) m).2
def fgs (d : Nat → Nat) : Nat → Nat
  | 0 => 0
  | k + 1 => 5 * fgs d k + d k
def ern (p g : Nat → Nat) : Nat → Nat × Nat
  | 0 => (p 0, g 0)
  | r + 1 => if (ern p g r).1 < p (r + 1) then (p (r + 1), g (r + 1)) else ern p g r
theorem ern_b {p g : Nat → Nat} {b : Nat} (h : ∀ r, p r ≤ b) : ∀ r, (ern p g r).1 ≤ b
  | 0 => h 0
  | r + 1 => by
    have h1 := ern_b (g := g) h r
    have h2 := h (r + 1)
    unfold ern
    split <;> assumption
section EARN
variable {h0 h : AH} {S : SS} {u l : Int64} {n rd c law fa li qu : Nat} {X : Nat → Prop} {ex re ga dr rt bg ie : Int32} {f e a : Nat → Int32} {ma0 ma : Nat → Nat → Int32} {mi : Nat → Int32}
theorem q_figures {m : Nat} {d : Nat → Nat} {Q : Int32 → AH → Prop} (Z : SQ h0 rd c law ex fa li qu re ga dr rt bg ie f e a h) (hm : m ≤ 4) (hd : ∀ k, k < m → f k = nI (d k)) (H : Q (nI (fgs d m)) h) : f_X7_figuresOf 14 (nI m) h Q := by
  obtain ⟨z1, z2, z3, z4, z5, z6, z7, z8⟩ := id Z
  refine lpA (L := L_X7_figuresOf_4 Q 14 (nI m)) (fun i => nI (fgs d i)) m (fun k => ⟨fun _ => H, fun q => absurd (Int32.le_refl _) q⟩) (fun i k hi K => ⟨fun q => absurd q ?_, fun _ => ⟨fun q => absurd q ?_, fun _ => gR_of z4 rfl (lI_of z6 (vp_in_nI (by omega) (by omega)) ?_)⟩⟩)
  · rw [nI_leI (by omega) (by omega)]; omega
  · rw [show (4 : Int32) = nI 4 from rfl, nI_leI (by omega) (by omega)]; omega
  · rw [nI_clamp (by omega), hd i hi, show (5 : Int32) = nI 5 from rfl, pk_mul, nI_add, nI_1]
    exact K
theorem q_dearest {m : Nat} {Q : Int32 → AH → Prop} (Z : SQ h0 rd c law ex fa li qu re ga dr rt bg ie f e a h) (W : WFr S) (C : Crod h0 rd S X) (xr : ∀ x, X x → radr x) (D : Cd S c) (hl : law ≤ 2) (hm : m ≤ 4) (hw : 1 ≤ wN S)
    (H : ∀ h1 f', SQ h0 rd c law ex fa li qu re ga (nI (ern (pRw S law c m) (fun r => fgs (rdg (wN S) m r) m) (wN S ^ m - 1)).2) rt bg ie f' e a h1 → Q (nI (ern (pRw S law c m) (fun r => fgs (rdg (wN S) m r) m) (wN S ^ m - 1)).1) h1) : f_X7_dearest 14 (nI m) h Q := by
  have hw5 := W.2.2.2.2.2.2.1
  have pl := wpow_le hw5 hm
  have pp : 0 < wN S ^ m := Nat.pow_pos hw
  have pb : ∀ r, pRw S law c m r ≤ 108 := fun r => Nat.le_trans (rww_pay W m) (by omega)
  generalize hE : ern (pRw S law c m) (fun r => fgs (rdg (wN S) m r) m) = E at *
  have eb : ∀ r, (E r).1 ≤ 108 := fun r => by rw [← hE]; exact ern_b pb r
  have e0 : E 0 = (pRw S law c m 0, fgs (rdg (wN S) m 0) m) := by rw [← hE]; rfl
  have e1 : ∀ r, E (r + 1) = if (E r).1 < pRw S law c m (r + 1) then (pRw S law c m (r + 1), fgs (rdg (wN S) m (r + 1)) m) else E r := fun r => by rw [← hE]; rfl
  refine q_first Z W C xr hm (Q := fun x2 h4 => ∃ n, L_X7_dearest_15 Q 14 (nI m) x2 n (-1 : Int32) (0 : Int32) h4) (fun h2 g Z2 hg => ?_)
  refine ⟨wN S ^ m + 1, lpG (L := fun f (b : Int32 × Int32) h => L_X7_dearest_15 Q 14 (nI m) (nI (wN S ^ m)) f b.1 b.2 h) (I := fun r b h1 => b.2 = nI r ∧ ∃ dr' f', SQ h0 rd c law ex fa li qu re ga dr' rt bg ie f' e a h1 ∧ (r < wN S ^ m → ∀ k, k < m → f' k = nI (rdg (wN S) m r k)) ∧ ((r = 0 ∧ b.1 = -1) ∨ (1 ≤ r ∧ b.1 = nI (E (r - 1)).1 ∧ dr' = nI (E (r - 1)).2))) (wN S ^ m) (fun k b h1 Y => ?_) (fun r k b h1 hr Y K => ?_) (wN S ^ m) 0 (by omega) ((-1 : Int32), (0 : Int32)) h2 ⟨rfl, dr, g, Z2, fun _ => hg, Or.inl ⟨rfl, rfl⟩⟩⟩
  · obtain ⟨b1, b2⟩ := b
    obtain ⟨y1, dr', f', Z3, -, y⟩ := Y
    dsimp only at y1 y
    subst y1
    rcases y with ⟨y, -⟩ | ⟨-, y2, y3⟩
    · omega
    · subst y2 y3
      exact ⟨fun _ => H h1 f' Z3, fun q => absurd (Int32.le_refl _) q⟩
  · obtain ⟨b1, b2⟩ := b
    obtain ⟨y1, dr', f', Z3, yd, y⟩ := Y
    dsimp only at y1 y
    subst y1
    refine ⟨fun q => absurd q ?_, fun _ => q_body Z3 W C xr D hl hm hr (yd hr) (fun h4 Z4 ht => ?_)⟩
    · rw [nI_leI (by omega) (by omega)]; omega
    · obtain ⟨t1, t2, t3, t4, t5, ht⟩ := ht
      have pr := pb r
      refine gR_of Z4.2.2.2.1 rfl (gI_of ht rfl ⟨fun q => ?_, fun q => gR_of Z4.2.2.2.1 rfl (gI_of ht rfl ⟨Z4.o, q_figures Z4 hm (yd hr) (pF_of Z4.2.2.2.1 (Nat.le_of_ble_eq_true rfl) rfl ?_)⟩)⟩)
      · refine q_next Z4 W C xr hm hr (yd hr) (fun h6 g6 Z6 yg => ?_)
        rw [nI_1]
        refine K (_, _) _ ⟨rfl, dr', g6, Z6, yg, Or.inr ⟨by omega, ?_⟩⟩
        rw [Nat.add_sub_cancel]
        rcases y with ⟨y, y2⟩ | ⟨y, y2, y3⟩
        · rw [y2] at q
          exact absurd q (by
            rw [tle, nI_toInt (by show pRw S law c m r < _; omega), show (-1 : Int32).toInt = -1 from rfl]
            omega)
        · have eb1 := eb (r - 1)
          have q' : pRw S law c m r ≤ (E (r - 1)).1 := by
            rw [y2] at q
            exact (nI_leI (by show pRw S law c m r < _; omega) (by omega)).mp q
          obtain ⟨r, rfl⟩ : ∃ r', r = r' + 1 := ⟨r - 1, by omega⟩
          rw [Nat.add_sub_cancel] at q' y2 y3
          rw [e1 r, if_neg (by omega)]
          exact ⟨y2, y3⟩
      · have Z5 := Z4.p14 (ga' := ga) (dr' := nI (fgs (rdg (wN S) m r) m)) (rt' := rt) (bg' := bg) (ie' := ie)
        refine q_next Z5 W C xr hm hr (yd hr) (fun h6 g6 Z6 yg => ?_)
        rw [nI_1]
        refine K (_, _) _ ⟨rfl, _, g6, Z6, yg, Or.inr ⟨by omega, ?_⟩⟩
        rw [Nat.add_sub_cancel]
        rcases y with ⟨y, y2⟩ | ⟨y, y2, y3⟩
        · subst y
          rw [e0]
          exact ⟨rfl, rfl⟩
        · have eb1 := eb (r - 1)
          have q' : ¬ pRw S law c m r ≤ (E (r - 1)).1 := by
            rw [y2] at q
            exact fun z => q ((nI_leI (by show pRw S law c m r < _; omega) (by omega)).mpr z)
          obtain ⟨r, rfl⟩ : ∃ r', r = r' + 1 := ⟨r - 1, by omega⟩
          rw [Nat.add_sub_cancel] at q'
          rw [e1 r, if_pos (by omega)]
          exact ⟨rfl, rfl⟩
theorem C_earn {m : Nat} {Q : Int32 → AH → Prop} (R : RC h S u l n) (W : WF S) (hm1 : 1 ≤ m) (hm : m ≤ 4) (hw : 1 ≤ wN S)
    (H : ∀ h1, RC h1 (up S 4 0 0 (nI (ern (pRw S (rlN S) (stN S) m) (fun r => fgs (rdg (wN S) m r) m) (wN S ^ m - 1)).2)) u l n → Cag h h1 → Q (nI (ern (pRw S (rlN S) (stN S) m) (fun r => fgs (rdg (wN S) m r) m) (wN S ^ m - 1)).1) h1) : f_X11_earn 1 (nI m) h Q := by
  obtain ⟨w1, w2, w3, w4, w5, w6, w7, w8⟩ := id W
  have hw5 := w3.2.2.2.2.2.2.1
  obtain ⟨rd, X, c1, C, xr⟩ := R.road
  refine ⟨fun q => absurd q ?_, fun _ => ⟨fun _ => c_walkers R ⟨fun _ => gR_of c1 rfl (gR_of c1 rfl (gI_of c1 rfl (gI_of c1 rfl ?_))), fun q => absurd q ?_⟩, fun q => absurd (nI_le (b := 4) hm (by omega)) q⟩⟩
  · rw [show (1 : Int32) = nI 1 from rfl, nI_ltI (by omega) (by omega)]; omega
  · rw [w4.1, w5.1]
    obtain ⟨_, _, _, _, _, _, _, _, _, _, _, _, _, ho, -⟩ := R.sea
    refine ⟨isO_of ho, c_from R c1 (fun h1 ex fa li qu re ga dr rt bg ie R1 a1 o1 => ?_)⟩
    have c11 : Cmain h1 S u l rd := (a1 1 (by omega)).trans c1
    have C1 : Crod h1 rd S X := C.keep (fun x hx => a1 x (by have := xr x hx; unfold radr at this; omega)) sameR.rf
    obtain ⟨f, e, a, Z⟩ := SQ.of R1 o1
    refine gR_of c11 rfl ⟨Z.o, q_dearest Z w3 C1 xr w4.2 w5.2 hm hw (fun h2 f' Z2 => ?_)⟩
    have R2 := Z2.rc R1 c11 o1
    have c12 : Cmain h2 S u l rd := (Z2.2.2.1 1 (by omega) (by omega)).trans c11
    refine gR_of c12 rfl (gI_of Z2.2.2.2.1 rfl (c_told R2 (fun h3 r3 a3 => H h3 r3 ?_)))
    have b1 : Cag h h1 := fun x _ _ => a1 x (by omega)
    exact (b1.tr Z2.cag).tr a3
  · rw [w3.2.2.1]; exact nI_z (by omega) (by omega)
/-- a row's figures, told one by one -/
theorem m_figures {m row : Nat} {Q : Int32 → AH → Prop} {K : Int32 → Int32 → AH → Prop} {v2 : Int32} (WS : WF S) (Z : MX S h0 u l ma0 h mi ma) (hm : m ≤ 4) (hr : row < wN S ^ m) (e4 : mi 4 = 0)
    (H : ∀ h1 mi1, MX S h0 u l ma0 h1 mi1 ma → mi1 4 = nI (fgs (rdg (wN S) m row) m) → K v2 (nI (row + 1)) h1) : ∃ n, L_X12_earn_74 Q K 102 (nI m) v2 (nI (wN S ^ m)) (nI row) n (nI (wN S ^ m)) (0 : Int32) h := by
  obtain ⟨w1, w2, W, w4, w5, w6, w7, w8⟩ := id WS
  have hw5 := W.2.2.2.2.2.2.1
  have pl := wpow_le hw5 hm
  refine ⟨m + 1, lpG (L := fun f (a : Int32 × Int32) h => L_X12_earn_74 Q K 102 (nI m) v2 (nI (wN S ^ m)) (nI row) f a.1 a.2 h) (I := fun k a h1 => a = (nI (wN S ^ (m - k)), nI k) ∧ ∃ mi1, MX S h0 u l ma0 h1 mi1 ma ∧ mi1 4 = nI (fgs (rdg (wN S) m row) k)) m (fun k a h1 Y => ?_) (fun k k2 a h1 hk Y K2 => ?_) m 0 (by omega) (nI (wN S ^ m), (0 : Int32)) h ⟨rfl, mi, Z, e4⟩⟩
  · obtain ⟨rfl, mi1, Z1, y1⟩ := Y
    refine ⟨fun _ => ?_, fun q => absurd (Int32.le_refl _) q⟩
    rw [nI_1]
    exact H h1 mi1 Z1 y1
  · obtain ⟨rfl, mi1, Z1, y1⟩ := Y
    have wp := wpos hr (by omega)
    have e1 : wN S ^ (m - k) / wN S = wN S ^ (m - 1 - k) := by
      rw [show m - k = m - 1 - k + 1 by omega, Nat.pow_succ, Nat.mul_div_cancel _ wp]
    have p1 : 0 < wN S ^ (m - 1 - k) := Nat.pow_pos wp
    have p2 := wpow_le (w := wN S) (n := m - 1 - k) hw5 (by omega)
    have p3 := wpow_le (w := wN S) (n := m - k) hw5 (by omega)
    have ql : row / wN S ^ (m - 1 - k) ≤ row := Nat.div_le_self _ _
    refine ⟨fun q => absurd q ?_, fun _ => m_gI Z1.rep (mg12 _ _ _) ?_⟩
    · rw [nI_leI (by omega) (by omega)]; omega
    · rw [Z1.a12, W.2.2.1]
      dsimp only
      rw [pk_div (by omega) (by omega) (by omega), e1]
      refine ⟨nI_z (by omega) (by omega), m_gI Z1.rep (mg4 _ _ _) ⟨nI_z p1 (by omega), m_gI Z1.rep (mg12 _ _ _) ?_⟩⟩
      rw [Z1.a12, W.2.2.1]
      refine ⟨nI_z (by omega) (by omega), Z1.pF (by omega) (ms4 _ _ _ _) (fun h2 Z2 => K2 (_, _) _ ⟨?_, _, Z2, ?_⟩)⟩
      · rw [nI_1, show m - (k + 1) = m - 1 - k by omega]; rfl
      · rw [pk_us, y1, pk_div (by omega) p1 (by omega), pk_rem (by omega) (by omega) (by omega), show (5 : Int32) = nI 5 from rfl, pk_mul, nI_add]
        rfl
theorem M_earn {m : Nat} {Q : Int32 → AH → Prop} (M : RM h S u l) (W : WF S) (hm1 : 1 ≤ m) (hm : m ≤ 4) (hw : 1 ≤ wN S)
    (H : ∀ h1, RM h1 (up S 4 0 0 (nI (ern (pRw S (rlN S) (stN S) m) (fun r => fgs (rdg (wN S) m r) m) (wN S ^ m - 1)).2)) u l → Mag h h1 → Q (nI (ern (pRw S (rlN S) (stN S) m) (fun r => fgs (rdg (wN S) m r) m) (wN S ^ m - 1)).1) h1) : f_X12_earn 102 (nI m) h Q := by
  obtain ⟨w1, w2, w3, w4, w5, w6, w7, w8⟩ := id W
  have hw5 := w3.2.2.2.2.2.2.1
  have pl := wpow_le hw5 hm
  have pp : 0 < wN S ^ m := Nat.pow_pos hw
  have pb : ∀ r, pRw S (rlN S) (stN S) m r ≤ 108 := fun r => Nat.le_trans (rww_pay w3 m) (by omega)
  generalize hE : ern (pRw S (rlN S) (stN S) m) (fun r => fgs (rdg (wN S) m r) m) = E at *
  have eb : ∀ r, (E r).1 ≤ 108 := fun r => by rw [← hE]; exact ern_b pb r
  have e0 : E 0 = (pRw S (rlN S) (stN S) m 0, fgs (rdg (wN S) m 0) m) := by rw [← hE]; rfl
  have e1 : ∀ r, E (r + 1) = if (E r).1 < pRw S (rlN S) (stN S) m (r + 1) then (pRw S (rlN S) (stN S) m (r + 1), fgs (rdg (wN S) m (r + 1)) m) else E r := fun r => by rw [← hE]; rfl
  obtain ⟨mi, ma, R, A, Wm, T, F, Rd, Lg, Kp⟩ := id M
  have Z := MX.of R A Rd
  refine m_in (a := 1) (b := 4) (fun q => absurd ⟨nI_le (a := 1) (by omega) (by omega), nI_le (b := 4) (by omega) (by omega)⟩ q) (fun _ _ => rb1 (m_gI R (mg12 _ _ _) ⟨fun _ => ⟨R.o, m_power w3 Z hm ?_⟩, fun q => absurd q ?_⟩))
  · refine ⟨wN S ^ m + 1, lpG (L := fun f (b : Int32 × Int32) h => L_X12_earn_35 Q 102 (nI m) (nI (wN S ^ m)) f b.1 b.2 h) (I := fun r b h1 => b.2 = nI r ∧ ∃ mi1 ma1, MX S h u l ma h1 mi1 ma1 ∧ ((r = 0 ∧ b.1 = -1) ∨ (1 ≤ r ∧ b.1 = nI (E (r - 1)).1 ∧ mi1 4 = nI (E (r - 1)).2))) (wN S ^ m) (fun k b h1 Y => ?_) (fun r k b h1 hr Y K => ?_) (wN S ^ m) 0 (by omega) ((-1 : Int32), (0 : Int32)) h ⟨rfl, mi, ma, Z, Or.inl ⟨rfl, rfl⟩⟩⟩
    · obtain ⟨b1, b2⟩ := b
      obtain ⟨y1, mi1, ma1, Z1, y⟩ := Y
      dsimp only at y1 y
      subst y1
      rcases y with ⟨y, -⟩ | ⟨-, y2, y3⟩
      · omega
      · subst y2
        have := Z1.rm Wm T F Lg Kp
        rw [y3] at this
        exact ⟨fun _ => H h1 this Z1.mag, fun q => absurd (Int32.le_refl _) q⟩
    · obtain ⟨b1, b2⟩ := b
      obtain ⟨y1, mi1, ma1, Z1, y⟩ := Y
      dsimp only at y1 y
      subst y1
      refine ⟨fun q => absurd q ?_, fun _ => ⟨Z1.rep.o, m_behindRow W Z1 hm hr (fun h2 mi2 ma2 Z2 v1 v2 v3 => m_gI Z2.rep (mg41 _ _ _) ?_)⟩⟩
      · rw [nI_leI (by omega) (by omega)]; omega
      · rw [v1]
        have pr := pb r
        refine ⟨fun q => ?_, fun q => m_gI Z2.rep (mg41 _ _ _) (Z2.pF (by omega) (ms4 _ _ _ _) (fun h3 Z3 => ?_))⟩
        · rw [nI_1]
          refine K (_, _) _ ⟨rfl, mi2, ma2, Z2, Or.inr ⟨by omega, ?_⟩⟩
          rw [Nat.add_sub_cancel]
          rcases y with ⟨y, y2⟩ | ⟨y, y2, y3⟩
          · rw [y2] at q
            exact absurd q (by
              rw [tle, nI_toInt (by show pRw S (rlN S) (stN S) m r < _; omega), show (-1 : Int32).toInt = -1 from rfl]
              omega)
          · have eb1 := eb (r - 1)
            have q' : pRw S (rlN S) (stN S) m r ≤ (E (r - 1)).1 := by
              rw [y2] at q
              exact (nI_leI (by show pRw S (rlN S) (stN S) m r < _; omega) (by omega)).mp q
            obtain ⟨r, rfl⟩ : ∃ r', r = r' + 1 := ⟨r - 1, by omega⟩
            rw [Nat.add_sub_cancel] at q' y2 y3
            rw [e1 r, if_neg (by omega)]
            exact ⟨y2, (v2 4 (by omega) (by omega)).trans y3⟩
        · rw [v1]
          refine m_figures W Z3 hm hr pk_us (fun h4 mi4 Z4 y4 => K (_, _) _ ⟨rfl, mi4, ma2, Z4, Or.inr ⟨by omega, ?_⟩⟩)
          rw [Nat.add_sub_cancel]
          rcases y with ⟨y, y2⟩ | ⟨y, y2, y3⟩
          · subst y
            rw [e0]
            exact ⟨rfl, y4⟩
          · have eb1 := eb (r - 1)
            have q' : ¬ pRw S (rlN S) (stN S) m r ≤ (E (r - 1)).1 := by
              rw [y2] at q
              exact fun z => q ((nI_leI (by show pRw S (rlN S) (stN S) m r < _; omega) (by omega)).mpr z)
            obtain ⟨r, rfl⟩ : ∃ r', r = r' + 1 := ⟨r - 1, by omega⟩
            rw [Nat.add_sub_cancel] at q'
            rw [e1 r, if_pos (by omega)]
            exact ⟨rfl, y4⟩
  · rw [A.2.2.2.2.1, w3.2.2.1]; exact nI_z (by omega) (by omega)
theorem op_earn {x : Int32} (I : Inv h n) : f_X11_earn 1 x h (fun x1 h1 => f_X12_earn 102 x h1 (fun y1 h2 => x1 = y1 ∧ Inv h2 n)) := by
  obtain ⟨S, u, l, R, M, W⟩ := I
  obtain ⟨mi, ma, R1, A, -⟩ := id M
  obtain ⟨w1, w2, w3, w4, w5, w6, w7, w8⟩ := id W
  have bad1 : ¬ (1 ≤ x ∧ x ≤ 4) → f_X12_earn 102 x h (fun y1 h2 => (-1 : Int32) = y1 ∧ Inv h2 n) := fun q => m_in (a := 1) (b := 4) (fun _ => rb0 ⟨rfl, S, u, l, R, M, W⟩) (fun q1 q2 => absurd ⟨q1, q2⟩ q)
  by_cases q : 1 ≤ x ∧ x ≤ 4
  · obtain ⟨q1, q2⟩ := q
    by_cases p : 1 ≤ wN S
    · obtain ⟨m, hm, rfl⟩ := lt_nI (x := x) (m := 5) (by omega) (by grind) (by grind [show nI 5 = 5 from rfl])
      have hm1 : 1 ≤ m := (nI_leI (a := 1) (by omega) (by omega)).mp q1
      exact C_earn R W hm1 (by omega) p (fun h1 r1 a1 => M_earn (M.keep a1) W hm1 (by omega) p (fun h2 r2 a2 => ⟨rfl, Inv.of r1 r2 a2 (WF_told W _)⟩))
    · have e9 : S 9 0 0 = 0 := by rw [w3.2.2.1, show wN S = 0 by omega]; rfl
      refine ⟨fun z => by grind, fun _ => ⟨fun _ => c_walkers R ⟨fun z => absurd e9 z, fun _ => ?_⟩, fun z => absurd q2 z⟩⟩
      exact m_in (a := 1) (b := 4) (fun z => absurd ⟨q1, q2⟩ z) (fun _ _ => rb1 (m_gI R1 (mg12 _ _ _) ⟨fun z => absurd (A.2.2.2.2.1.trans e9) z, fun _ => ⟨rfl, S, u, l, R, M, W⟩⟩))
  · exact ⟨fun z => bad1 q, fun z => ⟨fun z2 => by grind, fun _ => bad1 q⟩⟩
end EARN
