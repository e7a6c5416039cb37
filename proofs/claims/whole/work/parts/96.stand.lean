/-! standings -/
/-- how many of the first k look so at a post -/
def hgA (S : SS) (P : Nat → Nat) (q v : Nat) : Nat → Nat
  | 0 => 0
  | k + 1 => hgA S P q v k + (if lsA S (P k) q (sN S) = v then 1 else 0)
section STAND
variable {h0 h : AH} {S : SS} {u l : Int64} {n rd c law fa li qu : Nat} {X : Nat → Prop} {ex re ga dr rt bg ie : Int32} {f e a : Nat → Int32} {ma0 ma : Nat → Nat → Int32} {mi : Nat → Int32}
theorem q_endAt {i P1 : Nat} {x : Int32} {Q : Int32 → AH → Prop} (Z : SQ h0 rd c law ex fa li qu re (nI P1) dr rt bg ie f e a h) (hP : P1 ≤ 125) (hi : i < P1) (hx : e i = x) (H : Q x h) : f_X7_endAt 14 (nI i) h Q := by
  obtain ⟨z1, z2, z3, z4, z5, z6, z7, z8⟩ := id Z
  refine ⟨fun q => absurd q (nI_n0 (by omega)), fun _ => gI_of z4 rfl ⟨fun q => absurd q ?_, fun _ => ⟨fun q => absurd q ?_, fun _ => gR_of z4 rfl (lI_of z7 (vp_in_nI (by omega) (by omega)) ?_)⟩⟩⟩
  · rw [nI_leI (by omega) (by omega)]; omega
  · rw [show (125 : Int32) = nI 125 from rfl, nI_leI (by omega) (by omega)]; omega
  · rw [nI_clamp (by omega), hx]; exact H
theorem C_standings {m p : Nat} {Q : Int32 → AH → Prop} (R : RC h S u l n) (W : WF S) (hm : m ≤ 3) (hp : p < pN S)
    (H : ∀ h1, RC h1 (up S 4 0 0 (nI (hgA S (mts (gRw S (rlN S) (stN S) m) (wN S ^ m)).2 p (lsA S (stN S) p (sN S)) (mts (gRw S (rlN S) (stN S) m) (wN S ^ m)).1))) u l n → Cag h h1 → Q (nI (mts (gRw S (rlN S) (stN S) m) (wN S ^ m)).1) h1) : f_X11_standings 1 (nI m) (nI p) h Q := by
  obtain ⟨w1, w2, w3, w4, w5, w6, w7, w8⟩ := id W
  have hp7 := w3.2.2.2.1
  have hw5 := w3.2.2.2.2.2.2.1
  have cb := Cd_lt w3 w4.2
  have pl : wN S ^ m ≤ 125 := Nat.le_trans (Nat.pow_le_pow_left hw5 m) (Nat.pow_le_pow_right (n := 5) (by omega) hm)
  have pb := mts_le (gRw S (rlN S) (stN S) m) (wN S ^ m)
  have pa := mts_all (g := gRw S (rlN S) (stN S) m) (P := fun v => v < 32768) (r := wN S ^ m) (fun i hi => Cd_lt w3 (gRw_cd w3 w4.2 hi))
  obtain ⟨rd, X, c1, C, xr⟩ := R.road
  refine ⟨fun q => absurd q (nI_n0 (by omega)), fun _ => ⟨fun q => absurd q ?_, fun _ => c_posts R (c_isBelow (fun q => absurd ⟨nI_pos' (by omega), by rw [w3.1]; exact nI_lt hp (by omega)⟩ q) (fun _ _ => rb1 (gR_of c1 rfl (gR_of c1 rfl (gI_of c1 rfl (gI_of c1 rfl ?_))))))⟩⟩
  · rw [show (3 : Int32) = nI 3 from rfl, nI_ltI (by omega) (by omega)]; omega
  · rw [w4.1, w5.1]
    obtain ⟨_, _, _, _, _, _, _, _, _, _, _, _, _, ho, -⟩ := R.sea
    refine ⟨isO_of ho, c_from R c1 (fun h1 ex fa li qu re ga dr rt bg ie R1 a1 o1 => ?_)⟩
    have c11 : Cmain h1 S u l rd := (a1 1 (by omega)).trans c1
    have C1 : Crod h1 rd S X := C.keep (fun x hx => a1 x (by have := xr x hx; unfold radr at this; omega)) sameR.rf
    obtain ⟨f, e, a, Z⟩ := SQ.of R1 o1
    refine gR_of c11 rfl ⟨Z.o, c_gatherEnds Z w3 C1 xr w4.2 w5.2 hm (fun h2 f' e' Z2 he => ?_)⟩
    have R2 := Z2.rc R1 c11 o1
    have c12 : Cmain h2 S u l rd := (Z2.2.2.1 1 (by omega) (by omega)).trans c11
    have C2 := Z2.rod C1 xr
    refine lpA (L := L_X11_standings_59 Q 1 (nI p) (nI (mts (gRw S (rlN S) (stN S) m) (wN S ^ m)).1)) (fun i => nI (hgA S (mts (gRw S (rlN S) (stN S) m) (wN S ^ m)).2 p (lsA S (stN S) p (sN S)) i)) (mts (gRw S (rlN S) (stN S) m) (wN S ^ m)).1 (fun k => ⟨fun _ => c_told R2 (fun h3 r3 a3 => H h3 r3 ?_), fun q => absurd (Int32.le_refl _) q⟩) (fun i k hi K => ⟨fun q => absurd q ?_, fun _ => gR_of c12 rfl (gR_of c12 rfl ⟨Z2.o, q_endAt Z2 (by omega) hi (he i hi) ⟨C2.o, c_least w3 C2 (pa i hi) (by omega) (gR_of c12 rfl (gI_of c12 rfl ?_))⟩⟩)⟩)
    · have b1 : Cag h h1 := fun x _ _ => a1 x (by omega)
      exact (b1.tr Z2.cag).tr a3
    · rw [nI_leI (by omega) (by omega)]; omega
    · rw [w4.1]
      refine ⟨C2.o, c_least w3 C2 cb (by omega) ?_⟩
      have b1 := lsA_le (c := (mts (gRw S (rlN S) (stN S) m) (wN S ^ m)).2 i) (p := p) w3 (sN S) (Nat.le_refl _)
      have b2 := lsA_le (c := stN S) (p := p) w3 (sN S) (Nat.le_refl _)
      rw [nI_eqI (by omega) (by omega), nI_1, nI_1]
      rw [hgA] at K
      refine ⟨fun q => ?_, fun q => ?_⟩
      · rw [if_neg q] at K; exact K
      · rw [if_pos q] at K; exact K
theorem M_standings {m p : Nat} {Q : Int32 → AH → Prop} (M : RM h S u l) (W : WF S) (hm : m ≤ 3) (hp : p < pN S)
    (H : ∀ h1, RM h1 (up S 4 0 0 (nI (hgA S (mts (gRw S (rlN S) (stN S) m) (wN S ^ m)).2 p (lsA S (stN S) p (sN S)) (mts (gRw S (rlN S) (stN S) m) (wN S ^ m)).1))) u l → Mag h h1 → Q (nI (mts (gRw S (rlN S) (stN S) m) (wN S ^ m)).1) h1) : f_X12_standings 102 (nI m) (nI p) h Q := by
  obtain ⟨w1, w2, w3, w4, w5, w6, w7, w8⟩ := id W
  have hp7 := w3.2.2.2.1
  have hw5 := w3.2.2.2.2.2.2.1
  have cb := Cd_lt w3 w4.2
  have pl : wN S ^ m ≤ 125 := Nat.le_trans (Nat.pow_le_pow_left hw5 m) (Nat.pow_le_pow_right (n := 5) (by omega) hm)
  have pb := mts_le (gRw S (rlN S) (stN S) m) (wN S ^ m)
  have pa := mts_all (g := gRw S (rlN S) (stN S) m) (P := fun v => v < 32768) (r := wN S ^ m) (fun i hi => Cd_lt w3 (gRw_cd w3 w4.2 hi))
  obtain ⟨mi, ma, R, A, Wm, T, F, Rd, Lg, Kp⟩ := id M
  have Z := MX.of R A Rd
  refine m_in (a := 0) (b := 3) (fun q => absurd ⟨nI_pos' (by omega), nI_le (b := 3) (by omega) (by omega)⟩ q) (fun _ _ => br1 ⟨R.o, m_isP w3 R A.2.2.1 (fun q => absurd ⟨nI_pos' (by omega), by rw [w3.1]; exact nI_lt hp (by omega)⟩ q) (fun _ _ => rb1 ⟨R.o, m_meets W Z hm (fun h1 mi1 ma1 Z1 e39 e24 => ?_)⟩)⟩)
  generalize hP : mts (gRw S (rlN S) (stN S) m) (wN S ^ m) = P at *
  refine Z1.pF (by omega) (ms4 _ _ _ _) (fun h2 Z2 => ⟨P.1 + 1, lpG (L := L_X12_standings_34 Q 102 (nI p)) (I := fun i b h3 => b = nI i ∧ ∃ mi3, MX S h u l ma h3 mi3 ma1 ∧ mi3 39 = nI P.1 ∧ mi3 4 = nI (hgA S P.2 p (lsA S (stN S) p (sN S)) i)) P.1 (fun k b h3 Y => ?_) (fun i k b h3 hi Y K => ?_) P.1 0 (by omega) 0 h2 ⟨rfl, _, Z2, by rw [pk_un (by omega)]; exact e39, pk_us⟩⟩)
  · obtain ⟨rfl, mi3, Z3, y1, y2⟩ := Y
    refine m_gI Z3.rep (mg39 _ _ _) ?_
    rw [y1]
    refine ⟨fun _ => m_gI Z3.rep (mg39 _ _ _) ?_, fun q => absurd (Int32.le_refl _) q⟩
    rw [y1]
    have := Z3.rm Wm T F Lg Kp
    rw [y2] at this
    exact H h3 this Z3.mag
  · obtain ⟨rfl, mi3, Z3, y1, y2⟩ := Y
    refine m_gI Z3.rep (mg39 _ _ _) ⟨fun q => absurd q ?_, fun _ => m_gI Z3.rep (mg4 _ _ _) (m_gR Z3.rep (mr40 _ _ _) (m_lI Z3.rep (j := 24) rfl rfl rfl (vp_in_nI (by omega) (by omega)) ?_))⟩
    · rw [y1, nI_leI (by omega) (by omega)]; omega
    · rw [nI_clamp (by omega), e24 i hi, y2]
      refine ⟨Z3.rep.o, m_seen w3 Z3.rd Z3.a10 (MS.any Z3.rep) (pa i hi) (by omega) (m_gI Z3.rep (mg17 _ _ _) ?_)⟩
      rw [Z3.a17, w4.1]
      refine ⟨Z3.rep.o, m_seen w3 Z3.rd Z3.a10 (MS.any Z3.rep) cb (by omega) ?_⟩
      have b1 := lsA_le (c := P.2 i) (p := p) w3 (sN S) (Nat.le_refl _)
      have b2 := lsA_le (c := stN S) (p := p) w3 (sN S) (Nat.le_refl _)
      rw [nI_eqI (by omega) (by omega), nI_1]
      refine ⟨fun q => Z3.pF (by omega) (ms4 _ _ _ _) (fun h4 Z4 => K _ _ ⟨rfl, _, Z4, by rw [pk_un (by omega)]; exact y1, ?_⟩), fun q => Z3.pF (by omega) (ms4 _ _ _ _) (fun h4 Z4 => K _ _ ⟨rfl, _, Z4, by rw [pk_un (by omega)]; exact y1, ?_⟩)⟩
      · rw [pk_us, hgA, if_neg q]; exact Int32.add_zero _
      · rw [pk_us, hgA, if_pos q]; exact nI_1 _
theorem op_standings {x y : Int32} (I : Inv h n) : f_X11_standings 1 x y h (fun x1 h1 => f_X12_standings 102 x y h1 (fun y1 h2 => x1 = y1 ∧ Inv h2 n)) := by
  obtain ⟨S, u, l, R, M, W⟩ := I
  obtain ⟨mi, ma, R1, A, -⟩ := id M
  obtain ⟨w1, w2, w3, w4, w5, w6, w7, w8⟩ := id W
  have hp7 := w3.2.2.2.1
  have bad1 : ¬ (0 ≤ x ∧ x ≤ 3) → f_X12_standings 102 x y h (fun y1 h2 => (-1 : Int32) = y1 ∧ Inv h2 n) := fun q => m_in (a := 0) (b := 3) (fun _ => br0 ⟨rfl, S, u, l, R, M, W⟩) (fun q1 q2 => absurd ⟨q1, q2⟩ q)
  by_cases q : 0 ≤ x ∧ x ≤ 3
  · obtain ⟨q1, q2⟩ := q
    by_cases p : 0 ≤ y ∧ y < S 7 0 0
    · obtain ⟨p1, p2⟩ := p
      rw [w3.1] at p2
      obtain ⟨m, hm, rfl⟩ := lt_nI (x := x) (m := 4) (by omega) q1 (by grind [show nI 4 = 4 from rfl])
      obtain ⟨p, hp, rfl⟩ := lt_nI (x := y) (m := pN S) (by omega) p1 p2
      exact C_standings R W (by omega) hp (fun h1 r1 a1 => M_standings (M.keep a1) W (by omega) hp (fun h2 r2 a2 => ⟨rfl, Inv.of r1 r2 a2 (WF_told W _)⟩))
    · refine ⟨fun z => by grind, fun _ => ⟨fun z => by grind, fun _ => c_posts R (c_isBelow (fun _ => rb0 ?_) (fun z1 z2 => absurd ⟨z1, z2⟩ p))⟩⟩
      exact m_in (a := 0) (b := 3) (fun z => absurd ⟨q1, q2⟩ z) (fun _ _ => br1 ⟨R1.o, m_isP w3 R1 A.2.2.1 (fun _ => rb0 ⟨rfl, S, u, l, R, M, W⟩) (fun z1 z2 => absurd ⟨z1, z2⟩ p)⟩)
  · refine ⟨fun z => bad1 q, fun z => ⟨fun _ => bad1 q, fun z2 => by grind⟩⟩
end STAND
