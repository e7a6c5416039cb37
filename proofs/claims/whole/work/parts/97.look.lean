/-! look -/
def mxv (g : Nat → Nat) : Nat → Nat
  | 0 => 0
  | v + 1 => if mxv g v < g v then g v else mxv g v
theorem mxv_ge {g : Nat → Nat} : ∀ {m v : Nat}, v < m → g v ≤ mxv g m
  | 0, v, h => absurd h (Nat.not_lt_zero _)
  | m + 1, v, h => by
    unfold mxv
    by_cases e : v = m
    · subst e; split <;> omega
    · have := mxv_ge (g := g) (m := m) (v := v) (by omega)
      split <;> omega
theorem mxv_le {g : Nat → Nat} {b : Nat} : ∀ {m : Nat}, (∀ v, v < m → g v ≤ b) → mxv g m ≤ b
  | 0, _ => Nat.zero_le _
  | m + 1, h => by
    have h1 := mxv_le (g := g) (b := b) (m := m) (fun v hv => h v (by omega))
    have h2 := h m (by omega)
    unfold mxv
    split <;> assumption
theorem mxv_step {g g' : Nat → Nat} {m s : Nat} (hs : s < m) (h1 : g' s = g s + 1) (h2 : ∀ v, v ≠ s → g' v = g v) : mxv g' m = if mxv g m < g' s then g' s else mxv g m := by
  have a1 := mxv_ge (g := g') hs
  have a2 : mxv g m ≤ mxv g' m := mxv_le (fun v hv => by
    have b1 := mxv_ge (g := g') hv
    by_cases e : v = s
    · subst e; omega
    · rw [h2 v e] at b1; exact b1)
  have a3 : mxv g' m ≤ if mxv g m < g' s then g' s else mxv g m := mxv_le (fun v hv => by
    by_cases e : v = s
    · subst e; split <;> omega
    · have b1 := mxv_ge (g := g) hv
      rw [h2 v e]
      split <;> omega)
  split at a3
  · rename_i e; rw [if_pos e]; omega
  · rename_i e; rw [if_neg e]; omega
theorem mxv_0 : ∀ m, mxv (fun _ => 0) m = 0
  | 0 => rfl
  | m + 1 => by unfold mxv; rw [if_neg (by omega)]; exact mxv_0 m
def bsp (mm : Nat → Nat) : Nat → Nat × Nat
  | 0 => (0, mm 0)
  | p + 1 => if mm (p + 1) < (bsp mm p).2 then (p + 1, mm (p + 1)) else bsp mm p
theorem bsp_b {mm : Nat → Nat} {b : Nat} (h : ∀ p, mm p ≤ b) : ∀ p, (bsp mm p).1 ≤ p ∧ (bsp mm p).2 ≤ b
  | 0 => ⟨Nat.le_refl _, h 0⟩
  | p + 1 => by
    have h1 := bsp_b h p
    have h2 := h (p + 1)
    unfold bsp
    split
    · exact ⟨Nat.le_refl _, h2⟩
    · exact ⟨by omega, h1.2⟩
theorem hgA_le (S : SS) (P : Nat → Nat) (q v : Nat) : ∀ k, hgA S P q v k ≤ k
  | 0 => Nat.le_refl _
  | k + 1 => by have := hgA_le S P q v k; unfold hgA; split <;> omega
section LOOK
variable {h0 h : AH} {S : SS} {u l : Int64} {n rd c law fa li qu : Nat} {X : Nat → Prop} {ex re ga dr rt bg ie : Int32} {f e a : Nat → Int32} {ma0 ma : Nat → Nat → Int32} {mi : Nat → Int32}
/-- how many at most look alike at a post -/
def msA (S : SS) (P : Nat × (Nat → Nat)) (q : Nat) : Nat := mxv (fun v => hgA S P.2 q v P.1) 10
theorem msA_le {P : Nat × (Nat → Nat)} {q : Nat} : msA S P q ≤ P.1 := mxv_le (fun v _ => hgA_le S P.2 q v P.1)
theorem q_mostAlike {P : Nat × (Nat → Nat)} {q : Nat} {Q : Int32 → AH → Prop} (Z : SQ h0 rd c law ex fa li qu re (nI P.1) dr rt bg ie f e a h) (W : WFr S) (C : Crod h0 rd S X) (xr : ∀ x, X x → radr x) (hP : P.1 ≤ 125) (hp : ∀ i, i < P.1 → P.2 i < 32768) (he : ∀ i, i < P.1 → e i = nI (P.2 i)) (hq : q < 100)
    (H : ∀ h1 a', SQ h0 rd c law ex fa li qu re (nI P.1) dr rt bg ie f e a' h1 → Q (nI (msA S P q)) h1) : f_X7_mostAlike 14 (nI q) h Q := by
  refine gR_of Z.2.2.2.1 rfl (c_fill (n := 10) (by omega) Z.2.2.2.2.2.2.2 (fun g hg => ?_))
  have Z1 := Z.p17 (g := g)
  refine ⟨P.1 + 1, lpG (L := fun f (b : Int32 × Int32) h => L_X7_mostAlike_12 Q 14 (nI q) f b.1 b.2 h) (I := fun i b h1 => b = (nI (mxv (fun v => hgA S P.2 q v i) 10), nI i) ∧ ∃ a', SQ h0 rd c law ex fa li qu re (nI P.1) dr rt bg ie f e a' h1 ∧ ∀ v, v < 10 → a' v = nI (hgA S P.2 q v i)) P.1 (fun k b h1 Y => ?_) (fun i k b h1 hi Y K => ?_) P.1 0 (by omega) ((0 : Int32), (0 : Int32)) _ ⟨?_, g, Z1, fun v hv => hg v hv⟩⟩
  · obtain ⟨rfl, a', Z2, y⟩ := Y
    exact gI_of Z2.2.2.2.1 rfl ⟨fun _ => H h1 a' Z2, fun q => absurd (Int32.le_refl _) q⟩
  · obtain ⟨rfl, a', Z2, y⟩ := Y
    have C2 := Z2.rod C xr
    refine gI_of Z2.2.2.2.1 rfl ⟨fun q => absurd q ?_, fun _ => gR_of Z2.2.2.2.1 rfl ⟨Z2.o, q_endAt Z2 hP hi (he i hi) ⟨C2.o, c_least W C2 (hp i hi) hq ?_⟩⟩⟩
    · rw [nI_leI (by omega) (by omega)]; omega
    · have b1 := lsA_le (c := P.2 i) (p := q) W (sN S) (Nat.le_refl _)
      generalize hs : lsA S (P.2 i) q (sN S) = s at *
      have vs : vp_in (nI s) 10 := vp_in_nI (by omega) (by omega)
      have b2 := hgA_le S P.2 q s i
      refine ⟨fun z => absurd z (nI_n0 (by omega)), fun _ => ⟨fun z => absurd z ?_, fun _ => gR_of Z2.2.2.2.1 rfl (lI_of Z2.2.2.2.2.2.2.2 vs (sI_of Z2.2.2.2.2.2.2.2 vs ?_))⟩⟩
      · rw [show (10 : Int32) = nI 10 from rfl, nI_leI (by omega) (by omega)]; omega
      · rw [nI_clamp (by omega), y s (by omega), nI_1]
        have Z3 := Z2.p17 (g := upd a' s (nI (hgA S P.2 q s i + 1)))
        refine gR_of Z3.2.2.2.1 rfl (lI_of Z3.2.2.2.2.2.2.2 vs ?_)
        rw [nI_clamp (by omega), pk_us]
        have u1 : hgA S P.2 q s (i + 1) = hgA S P.2 q s i + 1 := by rw [hgA, if_pos hs]
        have u2 : ∀ v, v ≠ s → hgA S P.2 q v (i + 1) = hgA S P.2 q v i := fun v hv => by rw [hgA, if_neg (fun z => hv (z.symm.trans hs))]; rfl
        have ms := mxv_step (g := fun v => hgA S P.2 q v i) (g' := fun v => hgA S P.2 q v (i + 1)) (m := 10) (s := s) (by omega) u1 u2
        have b3 : mxv (fun v => hgA S P.2 q v i) 10 ≤ i := mxv_le (fun v _ => hgA_le S P.2 q v i)
        refine K (_, _) _ ⟨?_, _, Z3, fun v hv => ?_⟩
        · rw [ms, u1]
          refine Prod.ext ?_ (nI_1 i)
          show (if nI _ < nI _ then _ else _) = nI (if _ then _ else _)
          by_cases z : mxv (fun v => hgA S P.2 q v i) 10 < hgA S P.2 q s i + 1
          · rw [if_pos z, if_pos (nI_lt z (by omega))]
          · rw [if_neg z, if_neg (by rw [nI_ltI (by omega) (by omega)]; exact z)]
        · by_cases z : v = s
          · rw [z, pk_us, u1]
          · rw [pk_un z, y v hv, u2 v z]
  · exact Prod.ext (congrArg nI (mxv_0 10)).symm rfl
theorem C_look {m : Nat} {Q : Int32 → AH → Prop} (R : RC h S u l n) (W : WF S) (hm : m ≤ 3) (hp : 1 ≤ pN S)
    (H : ∀ h1, RC h1 (up S 4 0 0 (nI (bsp (msA S (mts (gRw S (rlN S) (stN S) m) (wN S ^ m))) (pN S - 1)).2)) u l n → Cag h h1 → Q (nI (bsp (msA S (mts (gRw S (rlN S) (stN S) m) (wN S ^ m))) (pN S - 1)).1) h1) : f_X11_look 1 (nI m) h Q := by
  obtain ⟨w1, w2, w3, w4, w5, w6, w7, w8⟩ := id W
  have hp7 := w3.2.2.2.1
  have hw5 := w3.2.2.2.2.2.2.1
  have pl : wN S ^ m ≤ 125 := Nat.le_trans (Nat.pow_le_pow_left hw5 m) (Nat.pow_le_pow_right (n := 5) (by omega) hm)
  have pb := mts_le (gRw S (rlN S) (stN S) m) (wN S ^ m)
  have pa := mts_all (g := gRw S (rlN S) (stN S) m) (P := fun v => v < 32768) (r := wN S ^ m) (fun i hi => Cd_lt w3 (gRw_cd w3 w4.2 hi))
  obtain ⟨rd, X, c1, C, xr⟩ := R.road
  refine ⟨fun q => absurd q (nI_n0 (by omega)), fun _ => ⟨fun _ => c_posts R ⟨fun _ => gR_of c1 rfl (gR_of c1 rfl (gI_of c1 rfl (gI_of c1 rfl ?_))), fun q => absurd q ?_⟩, fun q => absurd (nI_le (b := 3) hm (by omega)) q⟩⟩
  · rw [w4.1, w5.1]
    obtain ⟨_, _, _, _, _, _, _, _, _, _, _, _, _, ho, -⟩ := R.sea
    refine ⟨isO_of ho, c_from R c1 (fun h1 ex fa li qu re ga dr rt bg ie R1 a1 o1 => ?_)⟩
    have c11 : Cmain h1 S u l rd := (a1 1 (by omega)).trans c1
    have C1 : Crod h1 rd S X := C.keep (fun x hx => a1 x (by have := xr x hx; unfold radr at this; omega)) sameR.rf
    obtain ⟨f, e, a, Z⟩ := SQ.of R1 o1
    refine gR_of c11 rfl ⟨Z.o, c_gatherEnds Z w3 C1 xr w4.2 w5.2 hm (fun h2 f' e' Z2 he => ?_)⟩
    generalize hP : mts (gRw S (rlN S) (stN S) m) (wN S ^ m) = P at *
    have c12 : ∀ {h2 : AH} {a'}, SQ h1 rd (stN S) (rlN S) ex fa li qu re (nI P.1) dr rt bg ie f' e' a' h2 → Cmain h2 S u l rd := fun Z2 => (Z2.2.2.1 1 (by omega) (by omega)).trans c11
    have bb := bsp_b (mm := msA S P) (b := 125) (fun p => Nat.le_trans msA_le (by omega))
    refine gR_of (c12 Z2) rfl ⟨Z2.o, q_mostAlike (q := 0) Z2 w3 C1 xr (by omega) pa he (by omega) (fun h3 a3 Z3 => ?_)⟩
    refine ⟨pN S - 1 + 1, lpG (L := fun f (b : Int32 × Int32 × Int32) h => L_X11_look_66 Q 1 f b.1 b.2.1 b.2.2 h) (I := fun i b h4 => b = (nI (bsp (msA S P) i).1, nI (bsp (msA S P) i).2, nI (i + 1)) ∧ ∃ a', SQ h1 rd (stN S) (rlN S) ex fa li qu re (nI P.1) dr rt bg ie f' e' a' h4) (pN S - 1) (fun k b h4 Y => ?_) (fun i k b h4 hi Y K => ?_) (pN S - 1) 0 (by omega) ((0 : Int32), nI (msA S P 0), (1 : Int32)) h3 ⟨rfl, a3, Z3⟩⟩
    · obtain ⟨rfl, a4, Z4⟩ := Y
      have R4 := Z4.rc R1 c11 o1
      refine c_posts R4 ⟨fun _ => c_told R4 (fun h5 r5 a5 => H h5 r5 ?_), fun q => absurd ?_ q⟩
      · have b1 : Cag h h1 := fun x _ _ => a1 x (by omega)
        exact (b1.tr Z4.cag).tr a5
      · rw [w3.1]; exact nI_le (by omega) (by omega)
    · obtain ⟨rfl, a4, Z4⟩ := Y
      have R4 := Z4.rc R1 c11 o1
      refine c_posts R4 ⟨fun q => absurd q ?_, fun _ => gR_of (c12 Z4) rfl ⟨Z4.o, q_mostAlike (q := i + 1) Z4 w3 C1 xr (by omega) pa he (by omega) (fun h5 a5 Z5 => ?_)⟩⟩
      · rw [w3.1, nI_leI (by omega) (by omega)]; omega
      · have b1 : msA S P (i + 1) ≤ 125 := Nat.le_trans msA_le (by omega)
        have b2 := bb i
        dsimp only
        rw [nI_leI (by omega) (by omega), nI_1]
        refine ⟨fun q => K (_, _, _) _ ⟨?_, a5, Z5⟩, fun q => K (_, _, _) _ ⟨?_, a5, Z5⟩⟩
        · rw [bsp, if_neg (by omega)]; rfl
        · rw [bsp, if_pos (by omega)]; rfl
  · rw [w3.1]; exact nI_z (by omega) (by omega)
theorem M_look {m : Nat} {Q : Int32 → AH → Prop} (M : RM h S u l) (W : WF S) (hm : m ≤ 3) (hp : 1 ≤ pN S)
    (H : ∀ h1, RM h1 (up S 4 0 0 (nI (bsp (msA S (mts (gRw S (rlN S) (stN S) m) (wN S ^ m))) (pN S - 1)).2)) u l → Mag h h1 → Q (nI (bsp (msA S (mts (gRw S (rlN S) (stN S) m) (wN S ^ m))) (pN S - 1)).1) h1) : f_X12_look 102 (nI m) h Q := by
  obtain ⟨w1, w2, w3, w4, w5, w6, w7, w8⟩ := id W
  have hp7 := w3.2.2.2.1
  have hw5 := w3.2.2.2.2.2.2.1
  have pl : wN S ^ m ≤ 125 := Nat.le_trans (Nat.pow_le_pow_left hw5 m) (Nat.pow_le_pow_right (n := 5) (by omega) hm)
  have pb := mts_le (gRw S (rlN S) (stN S) m) (wN S ^ m)
  have pa := mts_all (g := gRw S (rlN S) (stN S) m) (P := fun v => v < 32768) (r := wN S ^ m) (fun i hi => Cd_lt w3 (gRw_cd w3 w4.2 hi))
  obtain ⟨mi, ma, R, A, Wm, T, F, Rd, Lg, Kp⟩ := id M
  have Z := MX.of R A Rd
  refine m_in (a := 0) (b := 3) (fun q => absurd ⟨nI_pos' (by omega), nI_le (b := 3) (by omega) (by omega)⟩ q) (fun _ _ => rb1 (m_gI R (mg9 _ _ _) ⟨fun _ => ⟨R.o, m_meets W Z hm (fun h1 mi1 ma1 Z1 e39 e24 => ?_)⟩, fun q => absurd q ?_⟩))
  · generalize hP : mts (gRw S (rlN S) (stN S) m) (wN S ^ m) = P at *
    have bb := bsp_b (mm := msA S P) (b := 125) (fun p => Nat.le_trans msA_le (by omega))
    refine ⟨pN S + 1, lpG (L := fun f (b : Int32 × Int32 × Int32) h => L_X12_look_37 Q 102 f b.1 b.2.1 b.2.2 h) (I := fun p b h4 => h4 = h1 ∧ b.2.2 = nI p ∧ ((p = 0 ∧ b.1 = -9) ∨ (1 ≤ p ∧ b.1 = nI (bsp (msA S P) (p - 1)).1 ∧ b.2.1 = nI (bsp (msA S P) (p - 1)).2))) (pN S) (fun k b h4 Y => ?_) (fun p k b h4 hi Y K => ?_) (pN S) 0 (by omega) ((-9 : Int32), (0 : Int32), (0 : Int32)) h1 ⟨rfl, rfl, Or.inl ⟨rfl, rfl⟩⟩⟩
    · obtain ⟨b1, b2, b3⟩ := b
      obtain ⟨rfl, y1, y2⟩ := Y
      dsimp only at y1 y2
      rcases y2 with ⟨y, -⟩ | ⟨-, y3, y4⟩
      · omega
      subst y1 y3 y4
      refine m_gI Z1.rep (mg9 _ _ _) ?_
      rw [Z1.a9, w3.1]
      refine ⟨fun _ => Z1.pF (by omega) (ms4 _ _ _ _) (fun h5 Z5 => ?_), fun q => absurd (Int32.le_refl _) q⟩
      have := Z5.rm Wm T F Lg Kp
      rw [pk_us] at this
      exact H h5 this Z5.mag
    · obtain ⟨b1, b2, b3⟩ := b
      obtain ⟨rfl, y1, y2⟩ := Y
      dsimp only at y1 y2
      subst y1
      refine m_gI Z1.rep (mg9 _ _ _) ?_
      rw [Z1.a9, w3.1]
      have m125 : msA S P p ≤ 125 := Nat.le_trans msA_le (by omega)
      refine ⟨fun q => absurd q (by rw [nI_leI (by omega) (by omega)]; omega), fun _ => lpA (L := L_X12_look_52 Q (fun a b c h => L_X12_look_37 Q 102 k a b c h) 102 b1 b2 (nI p)) (fun v => nI (mxv (fun v => hgA S P.2 p v P.1) v)) 10 (fun k2 => ⟨fun _ => ?_, fun q => absurd (Int32.le_refl _) q⟩) (fun v k2 hv K2 => ⟨fun q => absurd q ?_, fun _ => ?_⟩)⟩
      · have e142 : (p = 0 ∨ msA S P p < (bsp (msA S P) (p - 1)).2) → L_X12_look_37 Q 102 k (nI p) (nI (msA S P p)) (nI p + 1) h4 := fun z => by
          rw [nI_1]
          refine K (_, _, _) _ ⟨rfl, rfl, Or.inr ⟨by omega, ?_⟩⟩
          rw [Nat.add_sub_cancel]
          cases p with
          | zero => exact ⟨rfl, rfl⟩
          | succ p =>
            rw [Nat.add_sub_cancel] at z
            rw [bsp, if_pos (by omega)]
            exact ⟨rfl, rfl⟩
        rcases y2 with ⟨y, e9⟩ | ⟨y, y3, y4⟩
        · exact ⟨fun _ => e142 (Or.inl y), fun q => absurd e9 q⟩
        · have b4 := bb (p - 1)
          refine ⟨fun q => absurd (y3.symm.trans q) (nI_nn _ (by omega)), fun _ => ?_⟩
          have cnd : (b2 ≤ nI (mxv (fun v => hgA S P.2 p v P.1) 10)) ↔ (bsp (msA S P) (p - 1)).2 ≤ msA S P p := by
            rw [y4]
            exact nI_leI (by omega) (by have := m125; unfold msA at this; omega)
          refine ⟨fun q => ?_, fun q => e142 (Or.inr ?_)⟩
          · rw [cnd] at q
            rw [nI_1]
            refine K (_, _, _) _ ⟨rfl, rfl, Or.inr ⟨by omega, ?_⟩⟩
            rw [Nat.add_sub_cancel]
            obtain ⟨p, rfl⟩ : ∃ p', p = p' + 1 := ⟨p - 1, by omega⟩
            rw [Nat.add_sub_cancel] at q y3 y4
            rw [bsp, if_neg (by omega)]
            exact ⟨y3, y4⟩
          · rw [cnd] at q
            omega
      · rw [show (10 : Int32) = nI 10 from rfl, nI_leI (by omega) (by omega)]; omega
      · refine lpA (L := L_X12_look_65 Q (L_X12_look_52 Q (fun a b c h => L_X12_look_37 Q 102 k a b c h) 102 b1 b2 (nI p) k2) 102 b1 b2 (nI p) (nI (mxv (fun v => hgA S P.2 p v P.1) v)) (nI v)) (fun i => nI (hgA S P.2 p v i)) P.1 (fun k3 => m_gI Z1.rep (mg39 _ _ _) ⟨fun _ => ?_, fun q => absurd (by rw [e39]; exact Int32.le_refl _) q⟩) (fun i k3 hi K3 => m_gI Z1.rep (mg39 _ _ _) ⟨fun q => absurd q ?_, fun _ => m_gR Z1.rep (mr40 _ _ _) (m_lI Z1.rep (j := 24) rfl rfl rfl (vp_in_nI (by omega) (by omega)) ?_)⟩)
        · have g1 := hgA_le S P.2 p v P.1
          have g2 : mxv (fun v => hgA S P.2 p v P.1) v ≤ P.1 := mxv_le (fun v _ => hgA_le S P.2 p v P.1)
          rw [nI_leI (by omega) (by omega), nI_1]
          rw [mxv] at K2
          refine ⟨fun q => ?_, fun q => ?_⟩
          · rw [if_neg (by omega)] at K2; exact K2
          · rw [if_pos (by omega)] at K2; exact K2
        · rw [e39, nI_leI (by omega) (by omega)]; omega
        · rw [nI_clamp (by omega), e24 i hi]
          refine ⟨Z1.rep.o, m_seen w3 Z1.rd Z1.a10 (MS.any Z1.rep) (pa i hi) (by omega) ?_⟩
          have g1 := lsA_le (c := P.2 i) (p := p) w3 (sN S) (Nat.le_refl _)
          rw [nI_eqI (by omega) (by omega), nI_1]
          rw [hgA] at K3
          refine ⟨fun q => ?_, fun q => ?_⟩
          · rw [if_neg q] at K3; rw [Int32.add_zero]; exact K3
          · rw [if_pos q] at K3; rw [nI_1]; exact K3
  · rw [A.2.2.1, w3.1]; exact nI_z (by omega) (by omega)
theorem op_look {x : Int32} (I : Inv h n) : f_X11_look 1 x h (fun x1 h1 => f_X12_look 102 x h1 (fun y1 h2 => x1 = y1 ∧ Inv h2 n)) := by
  obtain ⟨S, u, l, R, M, W⟩ := I
  obtain ⟨mi, ma, R1, A, -⟩ := id M
  obtain ⟨w1, w2, w3, w4, w5, w6, w7, w8⟩ := id W
  have hp7 := w3.2.2.2.1
  have bad1 : ¬ (0 ≤ x ∧ x ≤ 3) → f_X12_look 102 x h (fun y1 h2 => (-1 : Int32) = y1 ∧ Inv h2 n) := fun q => m_in (a := 0) (b := 3) (fun _ => rb0 ⟨rfl, S, u, l, R, M, W⟩) (fun q1 q2 => absurd ⟨q1, q2⟩ q)
  by_cases q : 0 ≤ x ∧ x ≤ 3
  · obtain ⟨q1, q2⟩ := q
    by_cases p : 1 ≤ pN S
    · obtain ⟨m, hm, rfl⟩ := lt_nI (x := x) (m := 4) (by omega) q1 (by grind [show nI 4 = 4 from rfl])
      exact C_look R W (by omega) p (fun h1 r1 a1 => M_look (M.keep a1) W (by omega) p (fun h2 r2 a2 => ⟨rfl, Inv.of r1 r2 a2 (WF_told W _)⟩))
    · have e7 : S 7 0 0 = 0 := by rw [w3.1, show pN S = 0 by omega]; rfl
      refine ⟨fun z => by grind, fun _ => ⟨fun _ => c_posts R ⟨fun z => absurd e7 z, fun _ => ?_⟩, fun z => absurd q2 z⟩⟩
      exact m_in (a := 0) (b := 3) (fun z => absurd ⟨q1, q2⟩ z) (fun _ _ => rb1 (m_gI R1 (mg9 _ _ _) ⟨fun z => absurd (A.2.2.1.trans e7) z, fun _ => ⟨rfl, S, u, l, R, M, W⟩⟩))
  · exact ⟨fun z => bad1 q, fun z => ⟨fun z2 => by grind, fun _ => bad1 q⟩⟩
end LOOK
