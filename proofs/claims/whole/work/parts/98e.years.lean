/-! years -/
def lot (s : Nat) : Nat → Nat
  | 0 => s
  | k + 1 => 48271 * lot s k % 2147483647
def yrs (S : SS) (law c s : Nat) : Nat → Nat
  | 0 => c
  | k + 1 => nx S law (yrs S law c s k) (lot s (k + 1) % wN S)
def fps (g : Nat → Nat) : Nat → Nat
  | 0 => 0
  | p + 1 => if g (fps g p) < g (p + 1) then p + 1 else fps g p
theorem fps_le (g : Nat → Nat) : ∀ p, fps g p ≤ p
  | 0 => Nat.le_refl _
  | p + 1 => by have := fps_le g p; unfold fps; split <;> omega
theorem lot_lt {s : Nat} (h : s < 2147483647) : ∀ k, lot s k < 2147483647
  | 0 => h
  | k + 1 => Nat.mod_lt _ (by omega)
theorem lot_c {x : Nat} (hx : x < 2147483647) : ((48271 : Int64) * lN x) - ((48271 : Int64) * lN x) / (2147483647 : Int64) * (2147483647 : Int64) = lN (48271 * x % 2147483647) := by
  rw [show (48271 : Int64) = lN 48271 from rfl, show (2147483647 : Int64) = lN 2147483647 from rfl, lN_mul, pk_lRem (by omega) (by omega) (by omega)]
theorem lot_m {x : Nat} (hx : x < 2147483647) : (lN x * (48271 : Int64)) - (lN x * (48271 : Int64)) / (2147483647 : Int64) * (2147483647 : Int64) = lN (48271 * x % 2147483647) := by
  rw [show (48271 : Int64) = lN 48271 from rfl, show (2147483647 : Int64) = lN 2147483647 from rfl, lN_mul, pk_lRem (by omega) (by omega) (by omega), Nat.mul_comm]
theorem lot_w {x w : Nat} (hx : x < 2147483647) (h0 : 0 < w) (hw : w ≤ 5) : (lN x - lN x / (nI w).toInt64 * (nI w).toInt64).toInt32 = nI (x % w) := by
  rw [nI_l (by omega), pk_lRem (by omega) h0 (by omega), lN_i]
theorem yrs_cd {S : SS} {law c s : Nat} (W : WFr S) (D : Cd S c) (hw : 0 < wN S) : ∀ k, Cd S (yrs S law c s k)
  | 0 => D
  | k + 1 => Cd_nx W (yrs_cd W D hw k) (Nat.mod_lt _ hw)
theorem hpA_le (S : SS) (c p : Nat) : ∀ k, hpA S c p k ≤ k
  | 0 => Nat.le_refl _
  | k + 1 => by have := hpA_le S c p k; unfold hpA; split <;> omega
section YEARS
variable {h : AH} {S : SS} {u l : Int64} {n rd : Nat} {X : Nat → Prop}
theorem c_fullest {c : Nat} {Q : Int32 → AH → Prop} (W : WFr S) (C : Crod h rd S X) (hc : c < 32768) (hp : 1 ≤ pN S) (H : Q (nI (fps (fun p => hpA S c p (sN S)) (pN S - 1))) h) : f_X5_fullestPost rd (nI c) h Q := by
  have hp7 := W.2.2.2.1
  have hs5 := W.2.2.2.2.2.1
  obtain ⟨nn, hm, wy, fo, fn, fh, fw, ff, wa, st, x1, x2, x3, x4, x5, c1, -⟩ := id C
  refine ⟨pN S - 1 + 1, lpG (L := fun f (b : Int32 × Int32) h => L_X5_fullestPost_4 Q rd (nI c) f b.1 b.2 h) (I := fun i b h1 => b = (nI (fps (fun p => hpA S c p (sN S)) i), nI (i + 1)) ∧ h1 = h) (pN S - 1) (fun k b h1 Y => ?_) (fun i k b h1 hi Y K => ?_) (pN S - 1) 0 (by omega) ((0 : Int32), (1 : Int32)) h ⟨rfl, rfl⟩⟩
  · obtain ⟨rfl, rfl⟩ := Y
    refine gI_of c1 rfl ⟨fun _ => H, fun q => absurd ?_ q⟩
    rw [W.1]; exact nI_le (by omega) (by omega)
  · obtain ⟨rfl, rfl⟩ := Y
    have fl := fps_le (fun p => hpA S c p (sN S)) i
    have b1 := hpA_le S c (i + 1) (sN S)
    have b2 := hpA_le S c (fps (fun p => hpA S c p (sN S)) i) (sN S)
    refine gI_of c1 rfl ⟨fun q => absurd q ?_, fun _ => ⟨C.o, c_heap (p := i + 1) W C hc (by omega) ⟨C.o, c_heap (p := fps (fun p => hpA S c p (sN S)) i) W C hc (by omega) ?_⟩⟩⟩
    · rw [W.1, nI_leI (by omega) (by omega)]; omega
    · rw [nI_leI (by omega) (by omega)]
      refine ⟨fun q => K (_, _) _ ⟨Prod.ext ?_ (nI_1 _), rfl⟩, fun q => K (_, _) _ ⟨Prod.ext ?_ (nI_1 _), rfl⟩⟩
      · show _ = nI (fps (fun p => hpA S c p (sN S)) (i + 1))
        rw [fps, if_neg (by omega)]
      · show _ = nI (fps (fun p => hpA S c p (sN S)) (i + 1))
        rw [fps, if_pos (by omega)]
theorem C_years {m s : Nat} {Q : Int32 → AH → Prop} (R : RC h S u l n) (W : WF S) (hm1 : 1 ≤ m) (hm : m ≤ 200) (hs1 : 1 ≤ s) (hs : s < 2147483647)
    (H0 : wN S = 0 → ∀ h1, RC h1 (fnd S 4) u l n → Cag h h1 → Q (-3) h1)
    (H : 0 < wN S → ∀ h1, RC h1 (up S 4 0 0 (nI (fps (fun p => hpA S (yrs S (rlN S) (stN S) s m) p (sN S)) (pN S - 1)))) u l n → Cag h h1 → Q (nI (apt S (yrs S (rlN S) (stN S) s m) (sN S))) h1) : f_X11_years 1 (nI m) (nI s) h Q := by
  obtain ⟨w1, w2, w3, w4, w5, w6, w7, w8⟩ := id W
  have hw5 := w3.2.2.2.2.2.2.1
  obtain ⟨rd, X, c1, C, xr⟩ := R.road
  have x13 : ¬ X 13 := fun z => by have := xr 13 z; unfold radr at this; omega
  have C8 : Ctri h 13 := by
    obtain ⟨rd, fa, li, qu, N, X, c1, c2, c3, c4, c5, c6, c7, c8, -⟩ := R
    exact c8
  have e1 : (1 : Int32) = nI 1 := rfl
  refine ⟨fun q => absurd q ?_, fun _ => ⟨fun q => absurd q ?_, fun _ => ⟨fun q => absurd q ?_, fun _ => ⟨fun _ => c_walkers R ?_, fun q => absurd ?_ q⟩⟩⟩⟩
  · rw [e1, nI_ltI (by omega) (by omega)]; omega
  · rw [show (200 : Int32) = nI 200 from rfl, nI_ltI (by omega) (by omega)]; omega
  · rw [e1, nI_ltI (by omega) (by omega)]; omega
  · rw [w3.2.2.1]
    have ez : (nI (wN S) = 0) = (wN S = 0) := propext (nI_eqI (b := 0) (by omega) (by omega))
    rw [ez]
    refine ⟨fun nz => ?_, fun z => ⟨R.o, c_found (f := 4) (by omega) R (H0 z)⟩⟩
    have hw : 0 < wN S := by omega
    have hp : 1 ≤ pN S := by
      rcases Nat.eq_zero_or_pos (pN S) with z | z
      · exact absurd (w3.2.2.2.2.2.2.2.1 z).2 nz
      · exact z
    refine gR_of c1 rfl (gR_of c1 rfl (gI_of c1 rfl (gI_of c1 rfl ⟨by obtain ⟨_, _, _, _, _, _, _, _, z⟩ := C8; exact isO_of z, c_tbegin C8 fun by_ => ?_⟩)))
    rw [w4.1, w5.1, nI_l (by omega)]
    have c1' : ∀ e, (aput h 13 e).2.2 1 = _ := fun e => (aput_n h e (by omega)).trans c1
    refine ⟨m + 1, lpG (L := fun f (b : Int64 × Int32) h => L_X11_years_69 Q 1 (nI m) f b.1 b.2 h) (I := fun i b h1 => b = (lN (lot s i), nI i) ∧ ∃ bf by_ py ca mv, h1 = aput h 13 (trip rd (nI (rlN S)) bf (nI (yrs S (rlN S) (stN S) s i)) by_ py ca mv)) m (fun k b h1 Y => ?_) (fun i k b h1 hi Y K => ?_) m 0 (by omega) (lN s, (0 : Int32)) _ ⟨rfl, _, _, _, _, _, rfl⟩⟩
    · obtain ⟨rfl, bf, by_, py, ca, mv, rfl⟩ := Y
      have R2 : RC (aput h 13 (trip rd (nI (rlN S)) bf (nI (yrs S (rlN S) (stN S) s m)) by_ py ca mv)) S u l n := R.put13
      have cb := Cd_lt w3 (yrs_cd (law := rlN S) (s := s) w3 w4.2 hw m)
      refine ⟨fun _ => gR_of (c1' _) rfl (gR_of (c1' _) rfl (gI_of (aput_s h 13 _) rfl ⟨(C.put x13).o, c_fullest w3 (C.put x13) cb hp (c_told2 R2 (fun h2 r2 a2 b2 => ?_))⟩)), fun q => absurd (Int32.le_refl _) q⟩
      obtain ⟨rd2, X2, c2, C2, -⟩ := r2.road
      have sR : sameR (up S 4 0 0 (nI (fps (fun p => hpA S (yrs S (rlN S) (stN S) s m) p (sN S)) (pN S - 1)))) S := fun c i j _ _ => (up_c S _ (by omega)).symm
      have C3 : Crod h2 rd2 S X2 := C2.keep (fun _ _ => rfl) sR
      refine gR_of c2 rfl (gR_of c2 rfl (gI_of ((b2 13 (by omega)).trans (aput_s h 13 _)) rfl ⟨C3.o, c_far w3 C3 cb (H hw h2 r2 ((Cag.put (by omega)).tr a2))⟩))
    · obtain ⟨rfl, bf, by_, py, ca, mv, rfl⟩ := Y
      have ll := lot_lt hs i
      have ln := lot_lt hs (i + 1)
      refine ⟨fun q => absurd q ?_, fun _ => gR_of (c1' _) rfl (gR_of (c1' _) rfl (c_walkersR w3 (C.put x13) ⟨?_, isO_of (aput_s h 13 _), ?_⟩))⟩
      · rw [nI_leI (by omega) (by omega)]; omega
      · rw [nI_l (by omega)]
        intro z
        have := (pk_lEQ (a := wN S) (b := 0) (by omega) (by omega)).mp z
        omega
      · dsimp only
        rw [lot_c ll, lot_w (Nat.mod_lt _ (by omega)) hw hw5, nI_1]
        refine c_send w3 (C.put x13) x13 (yrs_cd w3 w4.2 hw i) w5.2 (Nat.mod_lt _ hw) (aput_s h 13 _) ?_
        rw [aput_pp]
        exact K (_, _) _ ⟨rfl, _, _, _, _, _, rfl⟩
  · rw [nI_l (by omega), show (2147483647 : Int64) = lN 2147483647 from rfl, pk_lLT (by omega) (by omega)]
    exact hs
theorem M_years {m s : Nat} {Q : Int32 → AH → Prop} (M : RM h S u l) (W : WF S) (hm1 : 1 ≤ m) (hm : m ≤ 200) (hs1 : 1 ≤ s) (hs : s < 2147483647)
    (H0 : wN S = 0 → ∀ h1, RM h1 (fnd S 4) u l → Mag h h1 → Q (-3) h1)
    (H : 0 < wN S → ∀ h1, RM h1 (up S 4 0 0 (nI (fps (fun p => hpA S (yrs S (rlN S) (stN S) s m) p (sN S)) (pN S - 1)))) u l → Mag h h1 → Q (nI (apt S (yrs S (rlN S) (stN S) s m) (sN S))) h1) : f_X12_years 102 (nI m) (nI s) h Q := by
  obtain ⟨w1, w2, w3, w4, w5, w6, w7, w8⟩ := id W
  have hw5 := w3.2.2.2.2.2.2.1
  have hp7 := w3.2.2.2.1
  have hs5 := w3.2.2.2.2.2.1
  obtain ⟨mi, ma, R, A, Wm, T, F, Rd, Lg, Kp⟩ := id M
  have Z := MX.of R A Rd
  refine m_in (a := 1) (b := 200) (fun q => absurd ⟨nI_le (a := 1) (by omega) (by omega), nI_le (b := 200) (by omega) (by omega)⟩ q) (fun _ _ => br1 (m_in (a := 1) (b := 2147483646) (fun q => absurd ⟨nI_le (a := 1) (by omega) (by omega), nI_le (b := 2147483646) (by omega) (by omega)⟩ q) (fun _ _ => rb1 (m_gI R (mg12 _ _ _) ?_))))
  rw [A.2.2.2.2.1, w3.2.2.1]
  have ez : (nI (wN S) = 0) = (wN S = 0) := propext (nI_eqI (b := 0) (by omega) (by omega))
  rw [ez]
  refine ⟨fun nz => m_gI R (mg17 _ _ _) ?_, fun z => ⟨R.o, m_find (f := 4) (by omega) M (H0 z)⟩⟩
  have hw : 0 < wN S := by omega
  have hp : 1 ≤ pN S := by
    rcases Nat.eq_zero_or_pos (pN S) with z | z
    · exact absurd (w3.2.2.2.2.2.2.2.1 z).2 nz
    · exact z
  rw [A.2.2.2.2.2.2.1, w4.1, nI_l (by omega)]
  refine ⟨m + 1, lpG (L := fun f (b : Int32 × Int64 × Int32) h => L_X12_years_51 Q 102 (nI m) f b.1 b.2.1 b.2.2 h) (I := fun i b h1 => b = (nI (yrs S (rlN S) (stN S) s i), lN (lot s i), nI i) ∧ ∃ mi1 ma1, MX S h u l ma h1 mi1 ma1) m (fun k b h1 Y => ?_) (fun i k b h1 hi Y K => ?_) m 0 (by omega) (nI (stN S), lN s, (0 : Int32)) _ ⟨rfl, _, _, Z⟩⟩
  · obtain ⟨rfl, mi1, ma1, Z1⟩ := Y
    have cb := Cd_lt w3 (yrs_cd (law := rlN S) (s := s) w3 w4.2 hw m)
    generalize hc : yrs S (rlN S) (stN S) s m = c at *
    refine ⟨fun _ => ⟨pN S + 1, lpG (L := fun f (b : Int32 × Int32) h => L_X12_years_100 Q 102 (nI c) f b.1 b.2 h) (I := fun p b h2 => b.2 = nI p ∧ ∃ mi2, MX S h u l ma h2 mi2 ma1 ∧ ((p = 0 ∧ b.1 = -1) ∨ (1 ≤ p ∧ b.1 = nI (hpA S c (fps (fun p => hpA S c p (sN S)) (p - 1)) (sN S)) ∧ mi2 4 = nI (fps (fun p => hpA S c p (sN S)) (p - 1))))) (pN S) (fun k2 b h2 Y => ?_) (fun p k2 b h2 hi Y K => ?_) (pN S) 0 (by omega) ((-1 : Int32), (0 : Int32)) h1 ⟨rfl, mi1, Z1, Or.inl ⟨rfl, rfl⟩⟩⟩, fun q => absurd (Int32.le_refl _) q⟩
    · obtain ⟨b1, b2⟩ := b
      obtain ⟨y1, mi2, Z2, y⟩ := Y
      dsimp only at y1 y
      subst y1
      rcases y with ⟨y, -⟩ | ⟨-, -, y3⟩
      · omega
      · refine m_gI Z2.rep (mg9 _ _ _) ?_
        rw [Z2.a9, w3.1]
        have := Z2.rm Wm T F Lg Kp
        rw [y3] at this
        exact ⟨fun _ => ⟨Z2.rep.o, m_apartOf w3 Z2.rd Z2.a9 Z2.a10 (MS.any Z2.rep) cb (H hw h2 this Z2.mag)⟩, fun q => absurd (Int32.le_refl _) q⟩
    · obtain ⟨b1, b2⟩ := b
      obtain ⟨y1, mi2, Z2, y⟩ := Y
      dsimp only at y1 y
      subst y1
      refine m_gI Z2.rep (mg9 _ _ _) ?_
      rw [Z2.a9, w3.1]
      refine ⟨fun q => absurd q (by rw [nI_leI (by omega) (by omega)]; omega), fun _ => lpA (L := L_X12_years_115 Q (fun a b h => L_X12_years_100 Q 102 (nI c) k2 a b h) 102 (nI c) b1 (nI p)) (fun i => nI (hpA S c p i)) (sN S) (fun k3 => m_gI Z2.rep (mg10 _ _ _) ⟨fun _ => ?_, fun q => absurd (by rw [Z2.a10, w3.2.1]; exact Int32.le_refl _) q⟩) (fun i k3 hi2 K3 => m_gI Z2.rep (mg10 _ _ _) ⟨fun q => absurd q ?_, fun _ => m_spot cb (by omega) ?_⟩)⟩
      · have hl := hpA_le S c p (sN S)
        rcases y with ⟨y, y2⟩ | ⟨y, y2, y3⟩
        · subst y y2
          refine ⟨fun q => absurd q ?_, fun _ => Z2.pF (by omega) (ms4 _ _ _ _) (fun h3 Z3 => ?_)⟩
          · rw [tle, nI_toInt (by omega), show (-1 : Int32).toInt = -1 from rfl]; omega
          · rw [nI_1]
            exact K (_, _) _ ⟨rfl, _, Z3, Or.inr ⟨by omega, rfl, pk_us⟩⟩
        · have fl := hpA_le S c (fps (fun p => hpA S c p (sN S)) (p - 1)) (sN S)
          obtain ⟨p, rfl⟩ : ∃ p', p = p' + 1 := ⟨p - 1, by omega⟩
          rw [Nat.add_sub_cancel] at y2 y3 fl
          subst y2
          rw [nI_leI (by omega) (by omega)]
          refine ⟨fun q => ?_, fun q => Z2.pF (by omega) (ms4 _ _ _ _) (fun h3 Z3 => ?_)⟩
          · rw [nI_1]
            refine K (_, _) _ ⟨rfl, mi2, Z2, Or.inr ⟨by omega, ?_⟩⟩
            rw [Nat.add_sub_cancel, fps, if_neg (by omega)]
            exact ⟨rfl, y3⟩
          · rw [nI_1]
            refine K (_, _) _ ⟨rfl, _, Z3, Or.inr ⟨by omega, ?_⟩⟩
            rw [Nat.add_sub_cancel, fps, if_pos (by omega)]
            exact ⟨rfl, pk_us⟩
      · rw [Z2.a10, w3.2.1, nI_leI (by omega) (by omega)]; omega
      · have hd := dig_lt c i
        rw [nI_eqI (by omega) (by omega), nI_1]
        rw [hpA] at K3
        refine ⟨fun q => ?_, fun q => ?_⟩
        · rw [if_neg q] at K3; rw [Int32.add_zero]; exact K3
        · rw [if_pos q] at K3; rw [nI_1]; exact K3
  · obtain ⟨rfl, mi1, ma1, Z1⟩ := Y
    have ll := lot_lt hs i
    have ln := lot_lt hs (i + 1)
    refine ⟨fun q => absurd q ?_, fun _ => m_gI Z1.rep (mg12 _ _ _) ?_⟩
    · rw [nI_leI (by omega) (by omega)]; omega
    · rw [Z1.a12, w3.2.2.1]
      dsimp only
      refine ⟨?_, m_gI Z1.rep (mg16 _ _ _) ?_⟩
      · rw [nI_l (by omega)]
        intro z
        have := (pk_lEQ (a := wN S) (b := 0) (by omega) (by omega)).mp z
        omega
      · rw [lot_m ll, lot_w (Nat.mod_lt _ (by omega)) hw hw5, nI_1, Z1.a16, w5.1]
        refine ⟨Z1.rep.o, m_behind w3 Z1.rd Z1.a9 Z1.a10 (yrs_cd w3 w4.2 hw i) (Nat.mod_lt _ hw) w5.2 Z1.rep fun h2 M2 => ?_⟩
        obtain ⟨mi2, ma2, Z2, -⟩ := Z1.behind M2
        exact K (_, _, _) _ ⟨rfl, mi2, ma2, Z2⟩
theorem op_years {x y : Int32} (I : Inv h n) : f_X11_years 1 x y h (fun x1 h1 => f_X12_years 102 x y h1 (fun y1 h2 => x1 = y1 ∧ Inv h2 n)) := by
  obtain ⟨S, u, l, R, M, W⟩ := I
  obtain ⟨mi, ma, R1, A, -⟩ := id M
  obtain ⟨w1, w2, w3, w4, w5, w6, w7, w8⟩ := id W
  have bad : ¬ ((1 ≤ x ∧ x ≤ 200) ∧ (1 ≤ y ∧ y ≤ 2147483646)) → f_X12_years 102 x y h (fun y1 h2 => (-1 : Int32) = y1 ∧ Inv h2 n) := fun q => m_in (a := 1) (b := 200) (fun _ => br0 ⟨rfl, S, u, l, R, M, W⟩) (fun q1 q2 => br1 (m_in (a := 1) (b := 2147483646) (fun _ => rb0 ⟨rfl, S, u, l, R, M, W⟩) (fun q3 q4 => absurd ⟨⟨q1, q2⟩, ⟨q3, q4⟩⟩ q)))
  by_cases q : (1 ≤ x ∧ x ≤ 200) ∧ (1 ≤ y ∧ y ≤ 2147483646)
  · obtain ⟨⟨q1, q2⟩, q3, q4⟩ := q
    obtain ⟨m, hm, rfl⟩ := lt_nI (x := x) (m := 201) (by omega) (by grind) (by grind [show nI 201 = 201 from rfl])
    obtain ⟨s, hs, rfl⟩ := lt_nI (x := y) (m := 2147483647) (by omega) (by grind) (by grind [show nI 2147483647 = 2147483647 from rfl])
    have hm1 : 1 ≤ m := (nI_leI (a := 1) (by omega) (by omega)).mp q1
    have hs1 : 1 ≤ s := (nI_leI (a := 1) (by omega) (by omega)).mp q3
    exact C_years R W hm1 (by omega) hs1 hs (fun z h1 r1 a1 => M_years (M.keep a1) W hm1 (by omega) hs1 hs (fun _ h2 r2 a2 => ⟨rfl, Inv.of r1 r2 a2 (WF_fnd W 4)⟩) (fun z2 => by omega)) (fun z h1 r1 a1 => M_years (M.keep a1) W hm1 (by omega) hs1 hs (fun z2 => by omega) (fun _ h2 r2 a2 => ⟨rfl, Inv.of r1 r2 a2 (WF_told W _)⟩))
  · have e4 : (y.toInt64 < (2147483647 : Int64)) ↔ y < 2147483647 := w_lt y 2147483647
    refine ⟨fun _ => bad q, fun z1 => ⟨fun _ => bad q, fun z2 => ⟨fun _ => bad q, fun z3 => ⟨fun z4 => absurd ⟨⟨Int32.not_lt.mp z1, Int32.not_lt.mp z2⟩, ⟨Int32.not_lt.mp z3, ?_⟩⟩ q, fun _ => bad q⟩⟩⟩⟩
    rw [e4] at z4
    rw [tl, show (2147483647 : Int32).toInt = 2147483647 from rfl] at z4
    rw [tle, show (2147483646 : Int32).toInt = 2147483646 from rfl]
    omega
end YEARS
