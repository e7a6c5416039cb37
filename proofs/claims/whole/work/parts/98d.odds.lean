/-! odds -/
def hts (g : Nat → Nat) (k : Nat) (v : Int32) : Nat → Nat
  | 0 => 0
  | r + 1 => hts g k v r + (if tpI (dig (g r) k) = v then 1 else 0)
theorem hts_le (g : Nat → Nat) (k : Nat) (v : Int32) : ∀ r, hts g k v r ≤ r
  | 0 => Nat.le_refl _
  | r + 1 => by have := hts_le g k v r; unfold hts; split <;> omega
theorem mod_half {b r : Nat} (h0 : 0 < r) (h1 : r ≤ b) : 2 * (b % r) < b := by
  have h2 : b % r = (b - r) % r := Nat.mod_eq_sub_mod h1
  have h3 := Nat.mod_le (b - r) r
  have h4 := Nat.mod_lt b h0
  omega
theorem gcd_st (a b : Nat) : Nat.gcd a b = Nat.gcd b (a % b) := by
  rw [Nat.gcd_comm a b, Nat.gcd_rec b a, Nat.gcd_comm]
section ODDS
variable {h0 h : AH} {S : SS} {u l : Int64} {n rd c law fa li qu : Nat} {X : Nat → Prop} {ex re ga dr rt bg ie : Int32} {f e a : Nat → Int32} {ma0 ma : Nat → Nat → Int32} {mi : Nat → Int32}
theorem c_euc {x y : Int32} {Q : AH → Prop} : ∀ (t a b i : Nat), a < 1000 → b < 1000 → b < 2 ^ t → i + 2 * t + 1 ≤ 100 → B_X11_tellFraction_39 Q 1 x y (nI (Nat.gcd a b)) h → ∃ n, L_X11_tellFraction_8 Q 1 x y n (nI a) (nI b) (nI i) h := by
  intro t
  induction t with
  | zero =>
    intro a b i ha hb ht hi H
    have b0 : b = 0 := by omega
    subst b0
    rw [Nat.gcd_zero_right] at H
    exact ⟨1, fun _ => H, fun q => absurd rfl q⟩
  | succ t ih =>
    intro a b i ha hb ht hi H
    have two : ∀ (a b i : Nat), a < 1000 → b < 1000 → i < 100 → b ≠ 0 → (∃ n, L_X11_tellFraction_8 Q 1 x y n (nI b) (nI (a % b)) (nI (i + 1)) h) → ∃ n, L_X11_tellFraction_8 Q 1 x y n (nI a) (nI b) (nI i) h := fun a b i ha hb hi nb G => by
      obtain ⟨m, G⟩ := G
      have nz : ¬ nI b = 0 := nI_z (by omega) (by omega)
      refine ⟨m + 1, fun q => absurd q nz, fun _ => ⟨fun q => absurd q ?_, fun _ => ⟨nz, ?_⟩⟩⟩
      · rw [show (100 : Int32) = nI 100 from rfl, nI_leI (by omega) (by omega)]; omega
      · rw [pk_rem (by omega) (by omega) (by omega), nI_1]
        exact G
    by_cases b0 : b = 0
    · subst b0
      rw [Nat.gcd_zero_right] at H
      exact ⟨1, fun _ => H, fun q => absurd rfl q⟩
    · have r1 := Nat.mod_lt a (show 0 < b by omega)
      rw [gcd_st] at H
      refine two a b i ha hb (by omega) b0 ?_
      by_cases r0 : a % b = 0
      · rw [r0] at H ⊢
        rw [Nat.gcd_zero_right] at H
        exact ⟨1, fun _ => H, fun q => absurd rfl q⟩
      · rw [gcd_st] at H
        have r2 := mod_half (b := b) (r := a % b) (by omega) (by omega)
        refine two b (a % b) (i + 1) hb (by omega) (by omega) r0 (ih _ _ _ (by omega) (by omega) ?_ (by omega) H)
        rw [Nat.pow_succ] at ht
        omega
theorem m_euc {x y : Int32} {Q : Int32 → AH → Prop} : ∀ (b a : Nat), a < 1000 → b < 1000 → (∀ m, L_X12_odds_115 Q 102 x y (m + 1) (nI (Nat.gcd a b)) 0 h) → ∃ n, L_X12_odds_115 Q 102 x y n (nI a) (nI b) h := by
  intro b
  induction b using Nat.strongRecOn with
  | ind b ih =>
    intro a ha hb H
    by_cases b0 : b = 0
    · subst b0
      rw [Nat.gcd_zero_right] at H
      exact ⟨1, H 0⟩
    · have r1 := Nat.mod_lt a (show 0 < b by omega)
      have nz : ¬ nI b = 0 := nI_z (by omega) (by omega)
      rw [gcd_st] at H
      obtain ⟨m, G⟩ := ih (a % b) r1 b hb (by omega) H
      refine ⟨m + 1, fun q => absurd q nz, fun _ => ⟨nz, ?_⟩⟩
      rw [pk_rem (by omega) (by omega) (by omega)]
      exact G
theorem RC.frac {rd : Nat} {u1 l1 : Int64} (R : RC h S u l n) (c1 : Cmain h S u l rd) : RC (aput h 1 (mob rd (S 14 0 0) (S 15 0 0) (S 16 0 0) (S 4 0 0) u1 l1 (S 5 0 0))) S u1 l1 n :=
  R.keepT (fun a x _ => aput_n h _ x) rfl rfl (fun _ _ _ _ _ _ => rfl) (fun rd2 c2 => by
    have e := Cmain.inj c1 c2
    subst e
    exact aput_s h 1 _) (fun c => c.keep (aput_n h _ (by omega)) (fun _ => rfl))
theorem c_fraction {x y : Nat} {Q : AH → Prop} (R : RC h S u l n) (hx : x ≤ y) (hy : 0 < y) (hy6 : y ≤ 625)
    (H : ∀ h1, RC h1 S (nI x / nI (Nat.gcd x y)).toInt64 (nI y / nI (Nat.gcd x y)).toInt64 n → Cag h h1 → Q h1) : f_X11_tellFraction 1 (nI x) (nI y) h Q := by
  obtain ⟨rd, c1⟩ := R.main
  have g0 : 0 < Nat.gcd x y := Nat.gcd_pos_of_pos_right x hy
  have g1 : Nat.gcd x y ≤ y := Nat.gcd_le_right x hy
  have nz : ¬ nI (Nat.gcd x y) = 0 := nI_z g0 (by omega)
  refine c_euc 10 x y 0 (by omega) (by omega) (by omega) (by omega) ⟨fun q => absurd q ?_, fun _ => ⟨nz, pF_of c1 (Nat.le_of_ble_eq_true rfl) rfl ⟨nz, pF_of (aput_s h 1 _) (Nat.le_of_ble_eq_true rfl) rfl ?_⟩⟩⟩
  · rw [show (0 : Int32) = nI 0 from rfl, nI_leI (by omega) (by omega)]; omega
  · rw [aput_pp]
    exact H _ (R.frac c1) (Cag.put (by omega))
theorem RM.pU {v : Int64} {K : AH → Prop} (M : RM h S u l) (H : ∀ h1, RM h1 S v l → Mag h h1 → K h1) : pF h 102 12 5 (.long v) K := by
  obtain ⟨mi, ma, R, rest⟩ := M
  exact pF_of R.1 (Nat.le_of_ble_eq_true rfl) rfl (H _ ⟨mi, ma, R.obj (mset_u mi u l v), rest⟩ (Mag.put (by omega)))
theorem RM.pL {v : Int64} {K : AH → Prop} (M : RM h S u l) (H : ∀ h1, RM h1 S u v → Mag h h1 → K h1) : pF h 102 12 6 (.long v) K := by
  obtain ⟨mi, ma, R, rest⟩ := M
  exact pF_of R.1 (Nat.le_of_ble_eq_true rfl) rfl (H _ ⟨mi, ma, R.obj (mset_l mi u l v), rest⟩ (Mag.put (by omega)))
theorem q_rowsWith {k m : Nat} {v : Int32} {Q : Int32 → AH → Prop} (Z : SQ h0 rd c law ex fa li qu re ga dr rt bg ie f e a h) (W : WFr S) (C : Crod h0 rd S X) (xr : ∀ x, X x → radr x) (D : Cd S c) (hl : law ≤ 2) (hm : m ≤ 4) (hk : k < 5)
    (H : ∀ h1 f', SQ h0 rd c law ex fa li qu re ga dr rt bg ie f' e a h1 → Q (nI (hts (gRw S law c m) k v (wN S ^ m))) h1) : f_X7_rowsWith 14 (nI k) v (nI m) h Q := by
  have hw5 := W.2.2.2.2.2.2.1
  have pl := wpow_le hw5 hm
  refine q_first Z W C xr hm (Q := fun x2 h4 => ∃ n, L_X7_rowsWith_17 Q 14 (nI k) v (nI m) x2 n (0 : Int32) (0 : Int32) h4) (fun h2 g Z2 hg => ?_)
  refine ⟨wN S ^ m + 1, lpG (L := fun f (b : Int32 × Int32) h => L_X7_rowsWith_17 Q 14 (nI k) v (nI m) (nI (wN S ^ m)) f b.1 b.2 h) (I := fun r b h1 => b = (nI (hts (gRw S law c m) k v r), nI r) ∧ ∃ f', SQ h0 rd c law ex fa li qu re ga dr rt bg ie f' e a h1 ∧ (r < wN S ^ m → ∀ k, k < m → f' k = nI (rdg (wN S) m r k))) (wN S ^ m) (fun i b h1 Y => ?_) (fun r i b h1 hr Y K => ?_) (wN S ^ m) 0 (by omega) ((0 : Int32), (0 : Int32)) h2 ⟨rfl, g, Z2, fun _ => hg⟩⟩
  · obtain ⟨rfl, f', Z3, -⟩ := Y
    exact ⟨fun _ => H h1 f' Z3, fun q => absurd (Int32.le_refl _) q⟩
  · obtain ⟨rfl, f', Z3, yd⟩ := Y
    refine ⟨fun q => absurd q ?_, fun _ => q_body Z3 W C xr D hl hm hr (yd hr) (fun h4 Z4 ht => ?_)⟩
    · rw [nI_leI (by omega) (by omega)]; omega
    · obtain ⟨t1, t2, t3, t4, t5, ht⟩ := ht
      have gl : (rww S law c (rdg (wN S) m r) m).1 < 32768 := Cd_lt W (gRw_cd (law := law) (m := m) W D hr)
      have nx : ∀ x, x = nI (hts (gRw S law c m) k v (r + 1)) → isO h4 14 7 ∧ f_X7_nextRow 14 (nI m) h4 (fun h1 => L_X7_rowsWith_17 Q 14 (nI k) v (nI m) (nI (wN S ^ m)) i x (nI r + 1) h1) := fun x ex => by
        subst ex
        refine q_next Z4 W C xr hm hr (yd hr) (fun h6 g6 Z6 yg => ?_)
        rw [nI_1]
        exact K (_, _) _ ⟨rfl, g6, Z6, yg⟩
      refine gR_of Z4.2.2.2.1 rfl (gI_of ht rfl (c_tell gl hk ⟨fun q => nx _ ?_, fun q => nx _ ?_⟩))
      · have q : ¬ tpI (dig (gRw S law c m r) k) = v := q
        rw [hts, if_neg q]; rfl
      · have q : tpI (dig (gRw S law c m r) k) = v := q
        rw [hts, if_pos q]; exact nI_1 _
theorem C_odds {k m : Nat} {v : Int32} {Q : Int32 → AH → Prop} (R : RC h S u l n) (W : WF S) (hk : k < sN S) (hm : m ≤ 4) (hv : v = -9 ∨ (0 ≤ v ∧ v < S 7 0 0))
    (H0 : wN S = 0 → 0 < m → ∀ h1, RC h1 (fnd S 4) u l n → Cag h h1 → Q (-3) h1)
    (H : 0 < wN S ^ m → ∀ h1, RC h1 S (nI (hts (gRw S (rlN S) (stN S) m) k v (wN S ^ m)) / nI (Nat.gcd (hts (gRw S (rlN S) (stN S) m) k v (wN S ^ m)) (wN S ^ m))).toInt64 (nI (wN S ^ m) / nI (Nat.gcd (hts (gRw S (rlN S) (stN S) m) k v (wN S ^ m)) (wN S ^ m))).toInt64 n → Cag h h1 → Q 1 h1) : f_X11_odds 1 (nI k) v (nI m) h Q := by
  obtain ⟨w1, w2, w3, w4, w5, w6, w7, w8⟩ := id W
  have hs5 := w3.2.2.2.2.2.1
  have hw5 := w3.2.2.2.2.2.2.1
  have pl := wpow_le hw5 hm
  obtain ⟨rd, X, c1, C, xr⟩ := R.road
  have p65 : 0 < wN S ^ m → B_X11_odds_65 Q 1 (nI k) v (nI m) h := fun pp => by
    refine gR_of c1 rfl (gR_of c1 rfl (gI_of c1 rfl (gI_of c1 rfl ?_)))
    rw [w4.1, w5.1]
    obtain ⟨_, _, _, _, _, _, _, _, _, _, _, _, _, ho, -⟩ := R.sea
    refine ⟨isO_of ho, c_from R c1 (fun h1 ex fa li qu re ga dr rt bg ie R1 a1 o1 => ?_)⟩
    have c11 : Cmain h1 S u l rd := (a1 1 (by omega)).trans c1
    have C1 : Crod h1 rd S X := C.keep (fun x hx => a1 x (by have := xr x hx; unfold radr at this; omega)) sameR.rf
    have b1 : Cag h h1 := fun x _ _ => a1 x (by omega)
    obtain ⟨f, e, a, Z⟩ := SQ.of R1 o1
    refine gR_of c11 rfl ⟨Z.o, q_rowsWith Z w3 C1 xr w4.2 w5.2 hm (by omega) (fun h2 f' Z2 => ?_)⟩
    have R2 := Z2.rc R1 c11 o1
    have c12 : Cmain h2 S u l rd := (Z2.2.2.1 1 (by omega) (by omega)).trans c11
    refine gR_of c12 rfl ⟨Z2.o, c_rowsOf w3 (Z2.rod C1 xr) hm Z2.2.2.2.1 ⟨R2.o, c_fraction R2 (hts_le _ _ _ _) pp pl (fun h3 r3 a3 => H pp h3 r3 ((b1.tr Z2.cag).tr a3))⟩⟩
  have p45 : B_X11_odds_45 Q 1 (nI k) v (nI m) h := by
    refine c_walkers R ?_
    rw [w3.2.2.1]
    refine ⟨fun q => p65 (Nat.pow_pos ?_), fun q => ⟨fun q2 => p65 ?_, fun q2 => ⟨R.o, c_found (f := 4) (by omega) R (H0 ?_ ?_)⟩⟩⟩
    · rcases Nat.eq_zero_or_pos (wN S) with z | z
      · exact absurd (by rw [z]; rfl) q
      · exact z
    · have m0 : m = 0 := by
        have := (nI_leI (a := m) (b := 0) (by omega) (by omega)).mp q2
        omega
      rw [m0, Nat.pow_zero]
      omega
    · exact (nI_eqI (b := 0) (by omega) (by omega)).mp q
    · rcases Nat.eq_zero_or_pos m with z | z
      · exact absurd (by rw [z]; decide) q2
      · exact z
  refine c_stones R (c_isBelow (fun q => absurd ⟨nI_pos' (by omega), by rw [w3.2.1]; exact nI_lt hk (by omega)⟩ q) (fun _ _ => br1 ⟨fun q => absurd q (nI_n0 (by omega)), fun _ => ⟨fun q => absurd q ?_, fun _ => ⟨fun _ => p45, fun q => c_posts R (c_isBelow (fun q2 => ?_) (fun _ _ => rb1 p45))⟩⟩⟩))
  · rw [show (4 : Int32) = nI 4 from rfl, nI_ltI (by omega) (by omega)]; omega
  · rcases hv with z | z
    · exact absurd z q
    · exact absurd z q2
theorem M_odds {k m : Nat} {v : Int32} {Q : Int32 → AH → Prop} (M : RM h S u l) (W : WF S) (hk : k < sN S) (hm : m ≤ 4) (hv : v = -9 ∨ (0 ≤ v ∧ v < S 7 0 0))
    (H0 : wN S = 0 → 0 < m → ∀ h1, RM h1 (fnd S 4) u l → Mag h h1 → Q (-3) h1)
    (H : 0 < wN S ^ m → ∀ h1, RM h1 S (nI (hts (gRw S (rlN S) (stN S) m) k v (wN S ^ m)) / nI (Nat.gcd (hts (gRw S (rlN S) (stN S) m) k v (wN S ^ m)) (wN S ^ m))).toInt64 (nI (wN S ^ m) / nI (Nat.gcd (hts (gRw S (rlN S) (stN S) m) k v (wN S ^ m)) (wN S ^ m))).toInt64 → Mag h h1 → Q 1 h1) : f_X12_odds 102 (nI k) v (nI m) h Q := by
  obtain ⟨w1, w2, w3, w4, w5, w6, w7, w8⟩ := id W
  have hs5 := w3.2.2.2.2.2.1
  have hw5 := w3.2.2.2.2.2.2.1
  have pl := wpow_le hw5 hm
  obtain ⟨mi, ma, R, A, Wm, T, F, Rd, Lg, Kp⟩ := id M
  have Z := MX.of R A Rd
  have p53 : 0 < wN S ^ m → B_X12_odds_53 Q 102 (nI k) v (nI m) h := fun pp => by
    refine ⟨R.o, m_power w3 Z hm ⟨wN S ^ m + 1, lpG (L := fun f (b : Int32 × Int32) h => L_X12_odds_66 Q 102 (nI k) v (nI m) (nI (wN S ^ m)) f b.1 b.2 h) (I := fun r b h1 => b = (nI (hts (gRw S (rlN S) (stN S) m) k v r), nI r) ∧ ∃ mi1 ma1, MX S h u l ma h1 mi1 ma1 ∧ mi1 4 = mi 4) (wN S ^ m) (fun i b h1 Y => ?_) (fun r i b h1 hr Y K => ?_) (wN S ^ m) 0 (by omega) ((0 : Int32), (0 : Int32)) h ⟨rfl, mi, ma, Z, rfl⟩⟩⟩
    · obtain ⟨rfl, mi1, ma1, Z1, y⟩ := Y
      have M1 := Z1.rmS (y.trans A.1) Wm T F Lg Kp
      have hle := hts_le (gRw S (rlN S) (stN S) m) k v (wN S ^ m)
      have g0 : 0 < Nat.gcd (hts (gRw S (rlN S) (stN S) m) k v (wN S ^ m)) (wN S ^ m) := Nat.gcd_pos_of_pos_right _ pp
      have g1 : Nat.gcd (hts (gRw S (rlN S) (stN S) m) k v (wN S ^ m)) (wN S ^ m) ≤ wN S ^ m := Nat.gcd_le_right _ pp
      have nz := nI_z g0 (by omega)
      refine ⟨fun _ => m_euc _ _ (by omega) (by omega) (fun i => ⟨fun _ => ⟨nz, M1.pU (fun h2 r2 a2 => ⟨nz, r2.pL (fun h3 r3 a3 => H pp h3 r3 ((Z1.mag.tr a2).tr a3))⟩)⟩, fun q => absurd rfl q⟩), fun q => absurd (Int32.le_refl _) q⟩
    · obtain ⟨rfl, mi1, ma1, Z1, y⟩ := Y
      refine ⟨fun q => absurd q ?_, fun _ => ⟨Z1.rep.o, m_behindRow W Z1 hm hr (fun h2 mi2 ma2 Z2 v1 v2 v3 => ?_)⟩⟩
      · rw [nI_leI (by omega) (by omega)]; omega
      · have gl : (rww S (rlN S) (stN S) (rdg (wN S) m r) m).1 < 32768 := Cd_lt w3 (gRw_cd (law := rlN S) (m := m) w3 w4.2 hr)
        refine m_spot gl (by omega) (m_tellP (dig_lt _ _) ⟨fun q => ?_, fun q => ?_⟩)
        · have q : ¬ tpI (dig (gRw S (rlN S) (stN S) m r) k) = v := q
          refine K (_, _) _ ⟨Prod.ext ?_ (nI_1 r), mi2, ma2, Z2, (v2 4 (by omega) (by omega)).trans y⟩
          show _ = nI (hts (gRw S (rlN S) (stN S) m) k v (r + 1))
          rw [hts, if_neg q]
          exact Int32.add_zero _
        · have q : tpI (dig (gRw S (rlN S) (stN S) m r) k) = v := q
          refine K (_, _) _ ⟨Prod.ext ?_ (nI_1 r), mi2, ma2, Z2, (v2 4 (by omega) (by omega)).trans y⟩
          show _ = nI (hts (gRw S (rlN S) (stN S) m) k v (r + 1))
          rw [hts, if_pos q]
          exact nI_1 _
  have p22 : B_X12_odds_22 Q 102 (nI k) v (nI m) h := by
    refine m_in (a := 0) (b := 4) (fun q => absurd ⟨nI_pos' (by omega), nI_le (b := 4) hm (by omega)⟩ q) (fun _ _ => rb1 (m_gI R (mg12 _ _ _) ?_))
    rw [A.2.2.2.2.1, w3.2.2.1]
    refine ⟨fun q => p53 (Nat.pow_pos ?_), fun q => ⟨fun q2 => p53 ?_, fun q2 => ⟨R.o, m_find (f := 4) (by omega) M (H0 ?_ ?_)⟩⟩⟩
    · rcases Nat.eq_zero_or_pos (wN S) with z | z
      · exact absurd (by rw [z]; rfl) q
      · exact z
    · have m0 : m = 0 := by
        have := (nI_leI (a := m) (b := 0) (by omega) (by omega)).mp q2
        omega
      rw [m0, Nat.pow_zero]
      omega
    · exact (nI_eqI (b := 0) (by omega) (by omega)).mp q
    · rcases Nat.eq_zero_or_pos m with z | z
      · exact absurd (by rw [z]; decide) q2
      · exact z
  refine ⟨R.o, m_isS w3 R A.2.2.2.1 (fun q => absurd ⟨nI_pos' (by omega), by rw [w3.2.1]; exact nI_lt hk (by omega)⟩ q) (fun _ _ => br1 ⟨fun _ => p22, fun q => ⟨R.o, m_isP w3 R A.2.2.1 (fun q2 => ?_) (fun _ _ => br1 p22)⟩⟩)⟩
  rcases hv with z | z
  · exact absurd z q
  · exact absurd z q2
theorem op_odds {x y z : Int32} (I : Inv h n) : f_X11_odds 1 x y z h (fun x1 h1 => f_X12_odds 102 x y z h1 (fun y1 h2 => x1 = y1 ∧ Inv h2 n)) := by
  obtain ⟨S, u, l, R, M, W⟩ := I
  obtain ⟨mi, ma, R1, A, -⟩ := id M
  obtain ⟨w1, w2, w3, w4, w5, w6, w7, w8⟩ := id W
  have hs5 := w3.2.2.2.2.2.1
  by_cases q : 0 ≤ x ∧ x < S 8 0 0
  · obtain ⟨q1, q2⟩ := q
    have q2' := q2
    rw [w3.2.1] at q2
    obtain ⟨k, hk, rfl⟩ := lt_nI (x := x) (m := sN S) (by omega) q1 q2
    have st : ∀ {Q : Int32 → AH → Prop}, Q 1 h → f_X12_isStone 102 (nI k) h Q := fun H => m_isS w3 R1 A.2.2.2.1 (fun q => absurd ⟨q1, q2'⟩ q) (fun _ _ => H)
    by_cases p : 0 ≤ z ∧ z ≤ 4
    · obtain ⟨p1, p2⟩ := p
      obtain ⟨m, hm, rfl⟩ := lt_nI (x := z) (m := 5) (by omega) p1 (by grind [show nI 5 = 5 from rfl])
      by_cases v : y = -9 ∨ (0 ≤ y ∧ y < S 7 0 0)
      · refine C_odds R W hk (by omega) v (fun z1 z2 h1 r1 a1 => M_odds (M.keep a1) W hk (by omega) v (fun _ _ h2 r2 a2 => ⟨rfl, Inv.of r1 r2 a2 (WF_fnd W 4)⟩) (fun z3 => ?_)) (fun pp h1 r1 a1 => M_odds (M.keep a1) W hk (by omega) v (fun z1 z2 => ?_) (fun _ h2 r2 a2 => ⟨rfl, Inv.of r1 r2 a2 W⟩))
        · rw [z1, Nat.zero_pow z2] at z3
          exact absurd z3 (Nat.lt_irrefl _)
        · rw [z1, Nat.zero_pow z2] at pp
          exact absurd pp (Nat.lt_irrefl _)
      · have v1 : ¬ y = -9 := fun e => v (Or.inl e)
        have v2 : ¬ (0 ≤ y ∧ y < S 7 0 0) := fun e => v (Or.inr e)
        have bad : f_X12_odds 102 (nI k) y (nI m) h (fun y1 h2 => (-1 : Int32) = y1 ∧ Inv h2 n) := ⟨R1.o, st (br1 ⟨fun e => absurd e v1, fun _ => ⟨R1.o, m_isP w3 R1 A.2.2.1 (fun _ => br0 ⟨rfl, S, u, l, R, M, W⟩) (fun z1 z2 => absurd ⟨z1, z2⟩ v2)⟩⟩)⟩
        exact c_stones R (c_isBelow (fun e => absurd ⟨q1, q2'⟩ e) (fun _ _ => br1 ⟨fun _ => bad, fun _ => ⟨fun _ => bad, fun _ => ⟨fun e => absurd e v1, fun _ => c_posts R (c_isBelow (fun _ => rb0 bad) (fun z1 z2 => absurd ⟨z1, z2⟩ v2))⟩⟩⟩))
    · have b22 : ∀ {h1 : AH}, Inv h1 n → B_X12_odds_22 (fun y1 h2 => (-1 : Int32) = y1 ∧ Inv h2 n) 102 (nI k) y z h1 := fun I1 => m_in (a := 0) (b := 4) (fun _ => rb0 ⟨rfl, I1⟩) (fun q1 q2 => absurd ⟨q1, q2⟩ p)
      have bad : f_X12_odds 102 (nI k) y z h (fun y1 h2 => (-1 : Int32) = y1 ∧ Inv h2 n) := ⟨R1.o, st (br1 ⟨fun _ => b22 ⟨S, u, l, R, M, W⟩, fun _ => ⟨R1.o, m_isP w3 R1 A.2.2.1 (fun _ => br0 ⟨rfl, S, u, l, R, M, W⟩) (fun _ _ => br1 (b22 ⟨S, u, l, R, M, W⟩))⟩⟩)⟩
      exact c_stones R (c_isBelow (fun e => absurd ⟨q1, q2'⟩ e) (fun _ _ => br1 ⟨fun _ => bad, fun z1 => ⟨fun _ => bad, fun z2 => absurd ⟨Int32.not_lt.mp z1, Int32.not_lt.mp z2⟩ p⟩⟩))
  · exact c_stones R (c_isBelow (fun _ => br0 ⟨R1.o, m_isS w3 R1 A.2.2.2.1 (fun _ => br0 ⟨rfl, S, u, l, R, M, W⟩) (fun z1 z2 => absurd ⟨z1, z2⟩ q)⟩) (fun z1 z2 => absurd ⟨z1, z2⟩ q))
end ODDS
