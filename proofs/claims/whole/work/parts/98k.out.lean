/-! all, nearest, brings -/
section OUT
variable {h : AH} {S : SS} {u l : Int64} {n rd c law : Nat}
theorem Inv.mono (I : Inv h n) {m : Nat} (hm : n ≤ m) : Inv h m := by
  obtain ⟨S, u, l, R, M, W⟩ := I
  exact ⟨S, u, l, R.mono hm, M, W⟩
theorem RC.rod (R : RC h S u l n) (c1 : Cmain h S u l rd) : ∃ X, Crod h rd S X := by
  obtain ⟨rd2, X, c2, C, -⟩ := R.road
  have e := Cmain.inj c1 c2
  subst e
  exact ⟨X, C⟩
theorem C_from {K : AH → Prop} (R : RC h S u l n) (W : WF S)
    (H : ∀ (h1 : AH) (rd : Nat) (ex : Int32) (fa li qu : Nat) (re ga dr rt bg ie : Int32), RC h1 S u l n → Cag h h1 → Cmain h1 S u l rd → h1.2.2 14 = some (sob rd (nI (stN S)) (nI (rlN S)) ex fa li qu re ga dr rt bg ie) → K h1) :
    gR h 1 11 7 (fun a1 => gR h 1 11 8 (fun a2 => gI h 1 11 9 (fun x3 => gI h 1 11 10 (fun x4 => isO h a1 7 ∧ f_X7_from a1 a2 x3 x4 h K)))) := by
  obtain ⟨w1, w2, w3, w4, w5, w6, w7, w8⟩ := id W
  obtain ⟨rd, c1⟩ := R.main
  refine gR_of c1 rfl (gR_of c1 rfl (gI_of c1 rfl (gI_of c1 rfl ?_)))
  rw [w4.1, w5.1]
  obtain ⟨_, _, _, _, _, _, _, _, _, _, _, _, _, ho, -⟩ := R.sea
  exact ⟨isO_of ho, c_from R c1 (fun h1 ex fa li qu re ga dr rt bg ie R1 a1 o1 => H h1 rd ex fa li qu re ga dr rt bg ie R1 (fun x _ _ => a1 x (by omega)) ((a1 1 (by omega)).trans c1) o1)⟩
theorem EXP.o (E : EXP h S rd c law) : isO h 14 7 := by
  obtain ⟨_, _, _, _, _, _, _, _, _, _, _, _, e, -⟩ := E
  exact isO_of e
theorem x_rd {K : Nat → Prop} (E : EXP h S rd c law) (H : K rd) : gR h 14 7 4 K := by
  obtain ⟨_, _, _, _, _, _, _, _, _, _, _, _, e, -⟩ := E
  exact gR_of e rfl H
theorem x_start {K : Int32 → Prop} (E : EXP h S rd c law) (H : K (nI c)) : gI h 14 7 5 K := by
  obtain ⟨_, _, _, _, _, _, _, _, _, _, _, _, e, -⟩ := E
  exact gI_of e rfl H
theorem x_n {K : Int32 → Prop} (E : EXP h S rd c law) (H : K (nI (bfa S law c).1)) : gI h 14 7 11 K := by
  obtain ⟨_, _, _, _, _, _, _, _, _, _, _, _, e, -⟩ := E
  exact gI_of e rfl H
theorem x_q {i : Nat} {K : Int32 → Prop} (W : WFr S) (D : Cd S c) (E : EXP h S rd c law) (hi : i < (bfa S law c).1) (H : K (nI ((bfa S law c).2.1 i))) : gR h 14 7 10 (fun a => lI h a (nI i) K) := by
  obtain ⟨fa, li, qu, N, _, _, _, _, _, ff, fl, fq, e1, e2, e3, e4, e5, b1, b2, b3, b4, b5⟩ := E
  have g := (bg_all (law := law) W D).2
  refine gR_of e1 rfl (lI_of e4 (vp_in_nI (by omega) (by omega)) ?_)
  rw [nI_clamp (by omega), b3 i hi]
  exact H
theorem x_in {i : Nat} {A A' BD : Prop} (W : WFr S) (D : Cd S c) (E : EXP h S rd c law) (hi : i < (bfa S law c).1) (H : BD) : gI h 14 7 11 (fun x1 => ((x1 ≤ nI i → A) ∧ (¬ (x1 ≤ nI i) → gR h 14 7 10 (fun a2 => aL h a2 0 (fun x3 => ((x3 ≤ nI i → A') ∧ (¬ (x3 ≤ nI i) → BD))))))) := by
  obtain ⟨fa, li, qu, N, _, _, _, _, _, ff, fl, fq, e1, e2, e3, e4, e5, b1, b2, b3, b4, b5⟩ := E
  have g := (bg_all (law := law) W D).2
  refine gI_of e1 rfl ⟨fun q => absurd q ?_, fun _ => gR_of e1 rfl (aL_of e4 ⟨fun q => absurd q ?_, fun _ => H⟩)⟩
  · rw [nI_leI (by omega) (by omega)]; omega
  · rw [nI_leI (by omega) (by omega)]; omega
theorem x_out {A B : Prop} (E : EXP h S rd c law) (H : A) : gI h 14 7 11 (fun x1 => ((x1 ≤ nI (bfa S law c).1 → A) ∧ (¬ (x1 ≤ nI (bfa S law c).1) → B))) :=
  x_n E ⟨fun _ => H, fun q => absurd (Int32.le_refl _) q⟩
theorem x_far {x : Nat} {Q : Int32 → AH → Prop} (W : WFr S) (E : EXP h S rd c law) (hx : x < 8 ^ sN S) (H : Q (farI ((bfa S law c).2.2.1 x)) h) : f_X7_farTo 14 (nI x) h Q := by
  have o := E.o
  obtain ⟨fa, li, qu, N, _, _, _, _, _, ff, fl, fq, e1, e2, e3, e4, e5, b1, b2, b3, b4, b5⟩ := E
  refine ⟨o, fun q => absurd q (nI_n0 (by omega)), fun _ => gR_of e1 rfl (aL_of e2 ⟨fun q => absurd q ?_, fun _ => br1 (gR_of e1 rfl (lI_of e2 (vp_in_nI (by omega) (by omega)) ?_))⟩)⟩
  · rw [nI_leI (by omega) (by omega)]; omega
  · rw [nI_clamp (by omega), b4 x (by omega)]
    exact H
theorem x_farq {i : Nat} {Q : Int32 → AH → Prop} (W : WFr S) (D : Cd S c) (E : EXP h S rd c law) (hi : i < (bfa S law c).1) (H : Q (nI (dp (bfa S law c) i)) h) : f_X7_farTo 14 (nI ((bfa S law c).2.1 i)) h Q := by
  have G := (bg_all (law := law) W D).1
  refine x_far W E (G.2.2.1 i hi).1 ?_
  rw [(G.dpe hi).1]
  exact H
theorem M_farq {h0 : AH} {ma0 ma : Nat → Nat → Int32} {mi : Nat → Int32} {i : Nat} {K : Int32 → Prop} (W : WFr S) (D : Cd S c) (Z : MB S h0 u l ma0 (bfa S law c) h mi ma) (hi : i < (bfa S law c).1) (H : K (nI (dp (bfa S law c) i))) : lI h 129 (nI ((bfa S law c).2.1 i)) K := by
  have G := (bg_all (law := law) W D).1
  refine Z.far (Cd_lt W (G.2.2.1 i hi)) ?_
  rw [(G.dpe hi).1]
  exact H
theorem bfa_told {v : Int32} : bfa (up S 4 0 0 v) = bfa S := sr_bfa (sameT_told S v).R
theorem c_told3 {v : Int32} {K : AH → Prop} (R : RC h S u l n) (c1 : Cmain h S u l rd) (H : ∀ h1, RC h1 (up S 4 0 0 v) u l n → Cag h h1 → (∀ a, a ≠ 1 → h1.2.2 a = h.2.2 a) → Cmain h1 (up S 4 0 0 v) u l rd → K h1) : pF h 1 11 12 (.int v) K := by
  obtain ⟨fs, e1, e2, e3⟩ := c_told (v := v) (K := fun h1 => RC h1 (up S 4 0 0 v) u l n ∧ Cag h h1) R (fun h1 r a => ⟨r, a⟩)
  refine ⟨fs, e1, e2, H _ e3.1 e3.2 (fun a ha => aput_n h _ ha) ?_⟩
  have e := e1.symm.trans c1
  simp only [Option.some.injEq, Sum.inr.injEq, Prod.mk.injEq, true_and] at e
  subst e
  unfold Cmain
  rw [aput_s, up_s, up_c _ _ (by omega), up_c _ _ (by omega), up_c _ _ (by omega), up_c _ _ (by omega)]
  rfl
theorem M_all {Q : Int32 → AH → Prop} (M : RM h S u l) (W : WF S) (H : ∀ h1, RM h1 (up S 4 0 0 (nI (dp (bfa S (rlN S) (stN S)) ((bfa S (rlN S) (stN S)).1 - 1)))) u l → Mag h h1 → Q (nI (bfa S (rlN S) (stN S)).1) h1) : f_X12_all 102 h Q := by
  obtain ⟨w1, w2, w3, w4, w5, w6, w7, w8⟩ := id W
  obtain ⟨G, g1, g2⟩ := bg_all (law := rlN S) w3 w4.2
  have N1 := G.1
  have em : nI (bfa S (rlN S) (stN S)).1 - 1 = nI ((bfa S (rlN S) (stN S)).1 - 1) := by rw [show (1 : Int32) = nI 1 from rfl, pk_sub (by omega)]
  obtain ⟨mi, ma, R, A, Wm, T, F, Rd, Lg, Kp⟩ := id M
  refine m_gI R (mg16 _ _ _) ?_
  rw [A.2.2.2.2.2.1, w5.1]
  refine ⟨R.o, m_goesOut W w5.2 (MX.of R A Rd) (fun h1 mi1 ma1 Z1 y1 => m_gR Z1.1.rep (mr43 _ _ _) (m_gR Z1.1.rep (mr42 _ _ _) (m_gI Z1.1.rep (mg45 _ _ _) ?_)))⟩
  rw [Z1.2.1, em]
  refine Z1.line (by omega) g2 (M_farq w3 w4.2 Z1 (by omega) (Z1.1.pF (by omega) (ms4 _ _ _ _) (fun h2 Z2 => m_gI Z2.rep (mg45 _ _ _) ?_)))
  rw [pk_un (by omega), Z1.2.1]
  have := Z2.rm Wm T F Lg Kp
  rw [pk_us] at this
  exact H h2 this Z2.mag
theorem op_all (I : Inv h n) : f_X11_all 1 h (fun x h1 => f_X12_all 102 h1 (fun y h2 => x = y ∧ Inv h2 (n + 3))) := by
  obtain ⟨S, u, l, R, M, W⟩ := I
  obtain ⟨w1, w2, w3, w4, w5, w6, w7, w8⟩ := id W
  obtain ⟨G, g1, g2⟩ := bg_all (law := rlN S) w3 w4.2
  have N1 := G.1
  have l1 : (bfa S (rlN S) (stN S)).1 - 1 < (bfa S (rlN S) (stN S)).1 := by omega
  have dl := (G.dpe l1).2
  have em : nI (bfa S (rlN S) (stN S)).1 - 1 = nI ((bfa S (rlN S) (stN S)).1 - 1) := by rw [show (1 : Int32) = nI 1 from rfl, pk_sub (by omega)]
  refine C_from R W (fun h1 rd ex fa li qu re ga dr rt bg ie R1 a1 c1 o1 => gR_of c1 rfl ⟨isO_of o1, isO_of o1, c_explore R1 w3 c1 o1 w4.2 w5.2 (fun h2 R2 E2 a2 c2 => x_n E2 ⟨fun q => absurd q ?_, fun _ => x_n E2 ?_⟩)⟩)
  · rw [show (0 : Int32) = nI 0 from rfl, nI_leI (by omega) (by omega)]; omega
  · have E2' := E2
    obtain ⟨fa', li', qu', N, _, _, _, _, _, ff, fl, fq, e1, e2, e3, e4, e5, b1, b2, b3, b4, b5⟩ := E2'
    refine gR_of e1 rfl (aL_of e4 ⟨fun q => absurd q ?_, fun _ => gR_of e1 rfl (x_n E2 ?_)⟩)
    · rw [nI_ltI (by omega) (by omega)]; omega
    · rw [em]
      refine lI_of e4 (vp_in_nI (by omega) (by omega)) ?_
      rw [nI_clamp (by omega), b3 _ l1]
      refine ⟨E2.o, x_farq w3 w4.2 E2 l1 (c_told3 R2 c2 (fun h3 r3 a3 z3 c3 => ?_))⟩
      have W3 := WF_told W (nI (dp (bfa S (rlN S) (stN S)) ((bfa S (rlN S) (stN S)).1 - 1)))
      have D3 : Cd (up S 4 0 0 (nI (dp (bfa S (rlN S) (stN S)) ((bfa S (rlN S) (stN S)).1 - 1)))) (stN S) := by rw [sr_Cd (sameT_told S _).R]; exact w4.2
      have o3 := (z3 14 (by omega)).trans e1
      refine gR_of c3 rfl ⟨isO_of o3, isO_of o3, c_explore r3 W3.2.2.1 c3 o3 D3 w5.2 (fun h4 R4 E4 a4 c4 => x_n E4 ?_)⟩
      rw [bfa_told]
      exact M_all (M.keep (((a1.tr a2).tr a3).tr a4)) W (fun h5 r5 a5 => ⟨rfl, Inv.of (R4.mono (by omega)) r5 a5 W3⟩)
/-- the first of the least -/
def lsi (a : Nat → Nat) : Nat → Nat
  | 0 => 0
  | j + 1 => if a j < a (lsi a j) then j else lsi a j
theorem lsi_lt {a : Nat → Nat} : ∀ {m : Nat}, 0 < m → lsi a m < m
  | 0, h => absurd h (Nat.lt_irrefl _)
  | 1, _ => by show (if _ then 0 else 0) < 1; split <;> omega
  | m + 2, _ => by
    have := lsi_lt (a := a) (m := m + 1) (by omega)
    have e : lsi a (m + 2) = if a (m + 1) < a (lsi a (m + 1)) then m + 1 else lsi a (m + 1) := rfl
    rw [e]
    split
    · exact Nat.lt_succ_self _
    · exact Nat.lt_succ_of_lt this
theorem apt_le (S : SS) (W : WFr S) (c : Nat) : ∀ k, k ≤ sN S → apt S c k ≤ 10 * k
  | 0, _ => Nat.le_refl _
  | k + 1, hk => by
    have h1 := apt_le S W c k (by omega)
    have hd := dig_lt c k
    show apt S c k + (if dig c k = 7 then 10 else if nu S k ≤ pN S then ds S k (dig c k) else 0) ≤ 10 * (k + 1)
    split
    · omega
    · split
      · rename_i g
        have := (ds_le W (k := k) (p := dig c k) (by omega) (by omega) g).1
        omega
      · omega
theorem M_nearest {Q : Int32 → AH → Prop} (M : RM h S u l) (W : WF S) (H : ∀ h1, RM h1 (up S 4 0 0 (nI (dp (bfa S (rlN S) (stN S)) (lsi (fun i => apt S ((bfa S (rlN S) (stN S)).2.1 i) (sN S)) (bfa S (rlN S) (stN S)).1)))) u l → Mag h h1 → Q (nI (apt S ((bfa S (rlN S) (stN S)).2.1 (lsi (fun i => apt S ((bfa S (rlN S) (stN S)).2.1 i) (sN S)) (bfa S (rlN S) (stN S)).1)) (sN S))) h1) : f_X12_nearest 102 h Q := by
  obtain ⟨w1, w2, w3, w4, w5, w6, w7, w8⟩ := id W
  obtain ⟨G, g1, g2⟩ := bg_all (law := rlN S) w3 w4.2
  have N1 := G.1
  have q0 := bfa_q0 (S := S) (law := rlN S) (c := stN S)
  have hs5 := w3.2.2.2.2.2.1
  obtain ⟨mi, ma, R, A, Wm, T, F, Rd, Lg, Kp⟩ := id M
  have cb := Cd_lt w3 w4.2
  refine m_gI R (mg16 _ _ _) ?_
  rw [A.2.2.2.2.2.1, w5.1]
  refine ⟨R.o, m_goesOut W w5.2 (MX.of R A Rd) (fun h1 mi1 ma1 Z1 y1 => m_gI Z1.1.rep (mg17 _ _ _) ?_)⟩
  rw [Z1.1.a17, w4.1]
  refine ⟨Z1.1.rep.o, m_apartOf w3 Z1.1.rd Z1.1.a9 Z1.1.a10 (MS.any Z1.1.rep) cb (Z1.1.pF (by omega) (ms4 _ _ _ _) (fun h2 X2 => ?_))⟩
  have ab : ∀ x, apt S x (sN S) ≤ 50 := fun x => Nat.le_trans (apt_le S w3 x (sN S) (Nat.le_refl _)) (by omega)
  generalize hB : bfa S (rlN S) (stN S) = B at *
  have l0 : lsi (fun i => apt S (B.2.1 i) (sN S)) 1 = 0 := by show (if _ then 0 else 0) = 0; split <;> rfl
  have d0 : dp B 0 = 0 := by have := (G.dpe (show 0 < B.1 by omega)).2; omega
  refine ⟨B.1 - 1 + 1, lpG (L := fun f (b : Int32 × Int32) h => L_X12_nearest_24 Q 102 f b.1 b.2 h) (I := fun i b h3 => b = (nI (apt S (B.2.1 (lsi (fun i => apt S (B.2.1 i) (sN S)) (i + 1))) (sN S)), nI (i + 1)) ∧ ∃ mi3, MB S h u l ma B h3 mi3 ma1 ∧ mi3 4 = nI (dp B (lsi (fun i => apt S (B.2.1 i) (sN S)) (i + 1)))) (B.1 - 1) (fun k b h3 Y => ?_) (fun i k b h3 hi Y K => ?_) (B.1 - 1) 0 (by omega) (nI (apt S (stN S) (sN S)), (1 : Int32)) h2 ⟨by rw [l0, q0]; rfl, _, ⟨X2, by rw [pk_un (by omega)]; exact Z1.2.1, Z1.2.2.1, Z1.2.2.2⟩, by rw [pk_us, l0, d0]; rfl⟩⟩
  · obtain ⟨rfl, mi3, Z3, y⟩ := Y
    rw [show B.1 - 1 + 1 = B.1 by omega] at y ⊢
    refine m_gI Z3.1.rep (mg45 _ _ _) ?_
    rw [Z3.2.1]
    have := Z3.1.rm Wm T F Lg Kp
    rw [y] at this
    exact ⟨fun _ => H h3 this Z3.1.mag, fun q => absurd (Int32.le_refl _) q⟩
  · obtain ⟨rfl, mi3, Z3, y⟩ := Y
    have il : i + 1 < B.1 := by omega
    have Dq := Cd_lt w3 (G.2.2.1 (i + 1) il)
    refine m_gI Z3.1.rep (mg45 _ _ _) ?_
    rw [Z3.2.1]
    refine ⟨fun q => absurd q (by rw [nI_leI (by omega) (by omega)]; omega), fun _ => m_gR Z3.1.rep (mr42 _ _ _) (Z3.line il g2 ⟨Z3.1.rep.o, m_apartOf w3 Z3.1.rd Z3.1.a9 Z3.1.a10 (MS.any Z3.1.rep) Dq ?_⟩)⟩
    have a1 := ab (B.2.1 (i + 1))
    have a2 := ab (B.2.1 (lsi (fun i => apt S (B.2.1 i) (sN S)) (i + 1)))
    dsimp only
    rw [nI_leI (by omega) (by omega)]
    have le : lsi (fun i => apt S (B.2.1 i) (sN S)) (i + 1 + 1) = if apt S (B.2.1 (i + 1)) (sN S) < apt S (B.2.1 (lsi (fun i => apt S (B.2.1 i) (sN S)) (i + 1))) (sN S) then i + 1 else lsi (fun i => apt S (B.2.1 i) (sN S)) (i + 1) := rfl
    refine ⟨fun q => ?_, fun q => m_gR Z3.1.rep (mr42 _ _ _) (Z3.line il g2 ⟨Z3.1.rep.o, m_apartOf w3 Z3.1.rd Z3.1.a9 Z3.1.a10 (MS.any Z3.1.rep) Dq (m_gR Z3.1.rep (mr43 _ _ _) (m_gR Z3.1.rep (mr42 _ _ _) (Z3.line il g2 ?_)))⟩)⟩
    · rw [nI_1]
      refine K (_, _) _ ⟨?_, mi3, Z3, ?_⟩
      · rw [le, if_neg (by omega)]; rfl
      · rw [le, if_neg (by omega)]; exact y
    · have Z3' : MB S h u l ma (bfa S (rlN S) (stN S)) h3 mi3 ma1 := by rw [hB]; exact Z3
      have far := M_farq (i := i + 1) (K := fun x13 => pF h3 102 12 4 (.int x13) (fun h14 => L_X12_nearest_24 Q 102 k (nI (apt S (B.2.1 (i + 1)) (sN S))) (nI (i + 1) + 1) h14)) w3 w4.2 Z3' (by rw [hB]; exact il) (by
        rw [hB]
        refine Z3.1.pF (by omega) (ms4 _ _ _ _) (fun h4 X4 => ?_)
        rw [nI_1]
        refine K (_, _) _ ⟨?_, _, ⟨X4, by rw [pk_un (by omega)]; exact Z3.2.1, Z3.2.2.1, Z3.2.2.2⟩, ?_⟩
        · rw [le, if_pos (by omega)]; rfl
        · rw [pk_us, le, if_pos (by omega)])
      rw [hB] at far
      exact far
theorem op_nearest (I : Inv h n) : f_X11_nearest 1 h (fun x h1 => f_X12_nearest 102 h1 (fun y h2 => x = y ∧ Inv h2 (n + 3))) := by
  obtain ⟨S, u, l, R, M, W⟩ := I
  obtain ⟨w1, w2, w3, w4, w5, w6, w7, w8⟩ := id W
  obtain ⟨G, g1, g2⟩ := bg_all (law := rlN S) w3 w4.2
  have N1 := G.1
  have q0 := bfa_q0 (S := S) (law := rlN S) (c := stN S)
  have cb := Cd_lt w3 w4.2
  have hs5 := w3.2.2.2.2.2.1
  have ab : ∀ x, apt S x (sN S) ≤ 50 := fun x => Nat.le_trans (apt_le S w3 x (sN S) (Nat.le_refl _)) (by omega)
  refine C_from R W (fun h1 rd ex fa li qu re ga dr rt bg ie R1 a1 c1 o1 => gR_of c1 rfl ⟨isO_of o1, isO_of o1, c_explore R1 w3 c1 o1 w4.2 w5.2 (fun h2 R2 E2 a2 c2 => ?_)⟩)
  obtain ⟨X2, C2⟩ := R2.rod c2
  refine x_start E2 (x_rd E2 (x_start E2 ⟨C2.o, c_far w3 C2 cb ?_⟩))
  have ll := lsi_lt (a := fun i => apt S ((bfa S (rlN S) (stN S)).2.1 i) (sN S)) (m := (bfa S (rlN S) (stN S)).1) (by omega)
  refine ⟨(bfa S (rlN S) (stN S)).1 + 1, lpG (L := fun f (b : Int32 × Int32 × Int32) h => L_X7_leastApart_23 (fun x7 h8 => gR h8 1 11 7 (fun a9 => isO h8 a9 7 ∧ f_X7_farTo a9 x7 h8 (fun x10 h11 => pF h11 1 11 12 (.int x10) (fun h12 => gR h12 1 11 8 (fun a13 => isO h12 a13 5 ∧ f_X5_farFromHome a13 x7 h12 (fun x14 h15 => f_X12_nearest 102 h15 (fun y h2 => x14 = y ∧ Inv h2 (n + 3)))))))) 14 f b.1 b.2.1 b.2.2 h) (I := fun i b h3 => b = (nI ((bfa S (rlN S) (stN S)).2.1 (lsi (fun i => apt S ((bfa S (rlN S) (stN S)).2.1 i) (sN S)) i)), nI (apt S ((bfa S (rlN S) (stN S)).2.1 (lsi (fun i => apt S ((bfa S (rlN S) (stN S)).2.1 i) (sN S)) i)) (sN S)), nI i) ∧ h3 = h2) (bfa S (rlN S) (stN S)).1 (fun k b h3 Y => ?_) (fun i k b h3 hi Y K => ?_) (bfa S (rlN S) (stN S)).1 0 (by omega) (nI (stN S), nI (apt S (stN S) (sN S)), (0 : Int32)) h2 ⟨?_, rfl⟩⟩
  · obtain ⟨rfl, rfl⟩ := Y
    refine x_out E2 (gR_of c2 rfl ⟨E2.o, x_farq w3 w4.2 E2 ll (c_told3 R2 c2 (fun h4 r4 a4 z4 c4 => ?_))⟩)
    have W4 := WF_told W (nI (dp (bfa S (rlN S) (stN S)) (lsi (fun i => apt S ((bfa S (rlN S) (stN S)).2.1 i) (sN S)) (bfa S (rlN S) (stN S)).1)))
    obtain ⟨X4, C4⟩ := r4.rod c4
    have C4' : Crod h4 rd S X4 := C4.keep (fun _ _ => rfl) (fun c i j _ _ => (up_c S _ (by omega)).symm)
    refine gR_of c4 rfl ⟨C4.o, c_far w3 C4' (Cd_lt w3 (G.2.2.1 _ ll)) ?_⟩
    exact M_nearest (M.keep ((a1.tr a2).tr a4)) W (fun h5 r5 a5 => ⟨rfl, Inv.of (r4.mono (by omega)) r5 a5 W4⟩)
  · obtain ⟨rfl, rfl⟩ := Y
    have Dq := Cd_lt w3 (G.2.2.1 i hi)
    refine x_in w3 w4.2 E2 hi (x_rd E2 (x_q w3 w4.2 E2 hi ⟨C2.o, c_far w3 C2 Dq ?_⟩))
    have b1 := ab ((bfa S (rlN S) (stN S)).2.1 i)
    have b2 := ab ((bfa S (rlN S) (stN S)).2.1 (lsi (fun i => apt S ((bfa S (rlN S) (stN S)).2.1 i) (sN S)) i))
    dsimp only
    rw [nI_leI (by omega) (by omega)]
    have le : lsi (fun i => apt S ((bfa S (rlN S) (stN S)).2.1 i) (sN S)) (i + 1) = if apt S ((bfa S (rlN S) (stN S)).2.1 i) (sN S) < apt S ((bfa S (rlN S) (stN S)).2.1 (lsi (fun i => apt S ((bfa S (rlN S) (stN S)).2.1 i) (sN S)) i)) (sN S) then i else lsi (fun i => apt S ((bfa S (rlN S) (stN S)).2.1 i) (sN S)) i := rfl
    refine ⟨fun q => ?_, fun q => x_q w3 w4.2 E2 hi ?_⟩
    · rw [nI_1]
      refine K (_, _, _) _ ⟨?_, rfl⟩
      rw [le, if_neg (by omega)]; rfl
    · rw [nI_1]
      refine K (_, _, _) _ ⟨?_, rfl⟩
      rw [le, if_pos (by omega)]; rfl
  · show _ = (nI ((bfa S (rlN S) (stN S)).2.1 0), nI (apt S ((bfa S (rlN S) (stN S)).2.1 0) (sN S)), nI 0)
    rw [q0]
    rfl
/-- the first standing with a stone at a post -/
def fwk (B : BF) (P : Nat → Bool) : Nat → Option Nat
  | 0 => none
  | k + 1 => match fwk B P k with
    | some e => some e
    | none => if P (B.2.1 k) then some k else none
theorem fwk_none {B : BF} {P : Nat → Bool} : ∀ {k : Nat}, fwk B P k = none → ∀ j, j < k → P (B.2.1 j) = false
  | 0, _, j, hj => absurd hj (Nat.not_lt_zero _)
  | k + 1, e, j, hj => by
    unfold fwk at e
    split at e
    · cases e
    · rename_i g
      split at e
      · cases e
      · rename_i g2
        by_cases z : j = k
        · rw [z]; exact Bool.eq_false_iff.mpr g2
        · exact fwk_none g j (by omega)
theorem fwk_some {B : BF} {P : Nat → Bool} : ∀ {k e : Nat}, fwk B P k = some e → e < k ∧ P (B.2.1 e) = true ∧ ∀ j, j < e → P (B.2.1 j) = false
  | 0, e, h => by cases h
  | k + 1, e, h => by
    unfold fwk at h
    split at h
    · rename_i e' g
      have : e' = e := Option.some.inj h
      subst this
      have := fwk_some g
      exact ⟨by omega, this.2⟩
    · rename_i g
      split at h
      · rename_i g2
        have : k = e := Option.some.inj h
        subst this
        exact ⟨by omega, g2, fwk_none g⟩
      · cases h
theorem fwk_stay {B : BF} {P : Nat → Bool} {k e : Nat} (h : fwk B P k = some e) : ∀ m, fwk B P (k + m) = some e
  | 0 => h
  | m + 1 => by
    show (match fwk B P (k + m) with | some e => some e | none => _) = _
    rw [fwk_stay h m]
theorem fwk_at {B : BF} {P : Nat → Bool} {k : Nat} (h : fwk B P k = none) (p : P (B.2.1 k) = true) : fwk B P (k + 1) = some k := by
  show (match fwk B P k with | some e => some e | none => if P (B.2.1 k) then some k else none) = _
  rw [h, p]
  rfl
theorem fwk_no {B : BF} {P : Nat → Bool} {k : Nat} (h : fwk B P k = none) (p : P (B.2.1 k) = false) : fwk B P (k + 1) = none := by
  show (match fwk B P k with | some e => some e | none => if P (B.2.1 k) then some k else none) = _
  rw [h, p]
  rfl
def fwI (B : BF) (P : Nat → Bool) : Int32 := match fwk B P B.1 with
  | none => -9
  | some e => nI (dp B e)
theorem M_brings {k p : Nat} {Q : Int32 → AH → Prop} (M : RM h S u l) (W : WF S) (hk : k < sN S) (hp : p < pN S) (H : ∀ h1, RM h1 S u l → Mag h h1 → Q (fwI (bfa S (rlN S) (stN S)) (fun x => decide (dig x k = p))) h1) : f_X12_brings 102 (nI k) (nI p) h Q := by
  obtain ⟨w1, w2, w3, w4, w5, w6, w7, w8⟩ := id W
  obtain ⟨G, g1, g2⟩ := bg_all (law := rlN S) w3 w4.2
  have hs5 := w3.2.2.2.2.2.1
  have hp7 := w3.2.2.2.1
  obtain ⟨mi, ma, R, A, Wm, T, F, Rd, Lg, Kp⟩ := id M
  refine ⟨R.o, m_isS w3 R A.2.2.2.1 (fun q => absurd ⟨nI_pos' (by omega), by rw [w3.2.1]; exact nI_lt hk (by omega)⟩ q) (fun _ _ => br1 ⟨R.o, m_isP w3 R A.2.2.1 (fun q => absurd ⟨nI_pos' (by omega), by rw [w3.1]; exact nI_lt hp (by omega)⟩ q) (fun _ _ => rb1 (m_gI R (mg16 _ _ _) ?_))⟩)⟩
  rw [A.2.2.2.2.2.1, w5.1]
  refine ⟨R.o, m_goesOut W w5.2 (MX.of R A Rd) (fun h1 mi1 ma1 Z1 y1 => ?_)⟩
  have H2 := H h1 (Z1.1.rmS (y1.trans A.1) Wm T F Lg Kp) Z1.1.mag
  refine ⟨(bfa S (rlN S) (stN S)).1 + 1, lpG (L := L_X12_brings_28 Q 102 (nI k) (nI p)) (I := fun i b h3 => b = nI i ∧ h3 = h1 ∧ fwk (bfa S (rlN S) (stN S)) (fun x => decide (dig x k = p)) i = none) (bfa S (rlN S) (stN S)).1 (fun m b h3 Y => ?_) (fun i m b h3 hi Y K => ?_) (bfa S (rlN S) (stN S)).1 0 (by omega) 0 h1 ⟨rfl, rfl, rfl⟩⟩
  · obtain ⟨rfl, rfl, y⟩ := Y
    refine m_gI Z1.1.rep (mg45 _ _ _) ?_
    rw [Z1.2.1]
    unfold fwI at H2
    rw [y] at H2
    exact ⟨fun _ => H2, fun q => absurd (Int32.le_refl _) q⟩
  · obtain ⟨rfl, rfl, y⟩ := Y
    have Dq := Cd_lt w3 (G.2.2.1 i hi)
    refine m_gI Z1.1.rep (mg45 _ _ _) ?_
    rw [Z1.2.1]
    refine ⟨fun q => absurd q (by rw [nI_leI (by omega) (by omega)]; omega), fun _ => m_gR Z1.1.rep (mr42 _ _ _) (Z1.line hi g2 (m_spot Dq (by omega) ?_))⟩
    have hd := dig_lt ((bfa S (rlN S) (stN S)).2.1 i) k
    rw [nI_eqI (by omega) (by omega), nI_1]
    refine ⟨fun q => K _ _ ⟨rfl, rfl, fwk_no y (decide_eq_false q)⟩, fun q => m_gR Z1.1.rep (mr43 _ _ _) (m_gR Z1.1.rep (mr42 _ _ _) (Z1.line hi g2 (M_farq w3 w4.2 Z1 hi ?_)))⟩
    have := fwk_stay (fwk_at (P := fun x => decide (dig x k = p)) y (decide_eq_true q)) ((bfa S (rlN S) (stN S)).1 - (i + 1))
    rw [show i + 1 + ((bfa S (rlN S) (stN S)).1 - (i + 1)) = (bfa S (rlN S) (stN S)).1 by omega] at this
    unfold fwI at H2
    rw [this] at H2
    exact H2
theorem op_brings {x y : Int32} (I : Inv h n) : f_X11_brings 1 x y h (fun x1 h1 => f_X12_brings 102 x y h1 (fun y1 h2 => x1 = y1 ∧ Inv h2 (n + 3))) := by
  obtain ⟨S, u, l, R, M, W⟩ := I
  obtain ⟨mi, ma, R1, A, -⟩ := id M
  obtain ⟨w1, w2, w3, w4, w5, w6, w7, w8⟩ := id W
  have hs5 := w3.2.2.2.2.2.1
  have hp7 := w3.2.2.2.1
  have I3 : Inv h (n + 3) := ⟨S, u, l, R.mono (by omega), M, W⟩
  by_cases q : 0 ≤ x ∧ x < S 8 0 0
  · obtain ⟨q1, q2⟩ := q
    have st : ∀ {Q : Int32 → AH → Prop}, Q 1 h → f_X12_isStone 102 x h Q := fun H => m_isS w3 R1 A.2.2.2.1 (fun q => absurd ⟨q1, q2⟩ q) (fun _ _ => H)
    by_cases p : 0 ≤ y ∧ y < S 7 0 0
    · obtain ⟨p1, p2⟩ := p
      refine c_stones R (c_isBelow (fun z => absurd ⟨q1, q2⟩ z) (fun _ _ => br1 (c_posts R (c_isBelow (fun z => absurd ⟨p1, p2⟩ z) (fun _ _ => rb1 ?_)))))
      rw [w3.2.1] at q2
      rw [w3.1] at p2
      obtain ⟨k, hk, rfl⟩ := lt_nI (x := x) (m := sN S) (by omega) q1 q2
      obtain ⟨p, hp, rfl⟩ := lt_nI (x := y) (m := pN S) (by omega) p1 p2
      obtain ⟨G, g1, g2⟩ := bg_all (law := rlN S) w3 w4.2
      refine C_from R W (fun h1 rd ex fa li qu re ga dr rt bg ie R1 a1 c1 o1 => gR_of c1 rfl ⟨isO_of o1, isO_of o1, c_explore R1 w3 c1 o1 w4.2 w5.2 (fun h2 R2 E2 a2 c2 => ?_)⟩)
      have fin := M_brings (Q := fun y1 h3 => fwI (bfa S (rlN S) (stN S)) (fun x => decide (dig x k = p)) = y1 ∧ Inv h3 (n + 3)) (M.keep (a1.tr a2)) W hk hp (fun h3 r3 a3 => ⟨rfl, Inv.of (R2.mono (by omega)) r3 a3 W⟩)
      refine ⟨(bfa S (rlN S) (stN S)).1 + 1, lpG (L := L_X7_firstWith_6 _ 14 (nI k) (nI p)) (I := fun i b h3 => b = nI i ∧ h3 = h2 ∧ fwk (bfa S (rlN S) (stN S)) (fun x => decide (dig x k = p)) i = none) (bfa S (rlN S) (stN S)).1 (fun m b h3 Y => ?_) (fun i m b h3 hi Y K => ?_) (bfa S (rlN S) (stN S)).1 0 (by omega) 0 h2 ⟨rfl, rfl, rfl⟩⟩
      · obtain ⟨rfl, rfl, y⟩ := Y
        unfold fwI at fin
        rw [y] at fin
        exact x_out E2 ⟨fun q => absurd q (by decide), fun _ => fin⟩
      · obtain ⟨rfl, rfl, y⟩ := Y
        have Dq := Cd_lt w3 (G.2.2.1 i hi)
        refine x_in w3 w4.2 E2 hi (x_q w3 w4.2 E2 hi (c_post Dq (by omega) ?_))
        have hd := dig_lt ((bfa S (rlN S) (stN S)).2.1 i) k
        rw [nI_eqI (by omega) (by omega), nI_1]
        refine ⟨fun q => K _ _ ⟨rfl, rfl, fwk_no y (decide_eq_false q)⟩, fun q => x_q w3 w4.2 E2 hi ⟨fun _ => gR_of c2 rfl ⟨E2.o, x_farq w3 w4.2 E2 hi ?_⟩, fun z => absurd (nI_pos' (by omega)) z⟩⟩
        have := fwk_stay (fwk_at (P := fun x => decide (dig x k = p)) y (decide_eq_true q)) ((bfa S (rlN S) (stN S)).1 - (i + 1))
        rw [show i + 1 + ((bfa S (rlN S) (stN S)).1 - (i + 1)) = (bfa S (rlN S) (stN S)).1 by omega] at this
        unfold fwI at fin
        rw [this] at fin
        exact fin
    · exact c_stones R (c_isBelow (fun z => absurd ⟨q1, q2⟩ z) (fun _ _ => br1 (c_posts R (c_isBelow (fun _ => rb0 ⟨R1.o, st (br1 ⟨R1.o, m_isP w3 R1 A.2.2.1 (fun _ => rb0 ⟨rfl, I3⟩) (fun z1 z2 => absurd ⟨z1, z2⟩ p)⟩)⟩) (fun z1 z2 => absurd ⟨z1, z2⟩ p)))))
  · exact c_stones R (c_isBelow (fun _ => br0 ⟨R1.o, m_isS w3 R1 A.2.2.2.1 (fun _ => br0 ⟨rfl, I3⟩) (fun z1 z2 => absurd ⟨z1, z2⟩ q)⟩) (fun z1 z2 => absurd ⟨z1, z2⟩ q))
end OUT
