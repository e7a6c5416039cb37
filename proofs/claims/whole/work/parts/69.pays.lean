/-! apart, pays -/
theorem up_up (S : SS) (c i j : Nat) (v w : Int32) : up (up S c i j v) c i j w = up S c i j w := by
  funext a b d
  unfold up
  split <;> rfl
section PAYS
variable {h h0 h1 : AH} {S : SS} {rd t : Nat} {X : Nat → Prop} {mi0 mi : Nat → Int32} {u l : Int64} {ma0 ma : Nat → Nat → Int32} {T : TR} {n : Nat}
theorem m_isHome {c k : Nat} {Q : Int32 → AH → Prop} (W : WFr S) (Rd : LkR S ma0) (A9 : mi0 9 = S 7 0 0) (M : MS S h0 mi0 u l ma0 T h) (hc : c < 32768) (hk : k < sN S) (H : Q (if dig c k + 1 = nu S k ∧ nu S k ≤ pN S then 1 else 0) h) : f_X12_isHome 102 (nI c) (nI k) h Q := by
  have hs5 := W.2.2.2.2.2.1
  have hp7 := W.2.2.2.1
  have n1 := (W.2.2.2.2.2.2.2.2.1 k hk).2
  have hd := dig_lt c k
  refine ⟨M.o, m_home W Rd A9 M hk ?_⟩
  unfold homI
  by_cases e : nu S k ≤ pN S
  · rw [if_pos e]
    refine ⟨fun q => absurd q (nI_n0 (by omega)), fun _ => m_spot hc (by omega) ⟨M.o, m_home W Rd A9 M hk ?_⟩⟩
    unfold homI
    rw [if_pos e, nI_eqI (by omega) (by omega)]
    refine ⟨fun q => ?_, fun q => ?_⟩
    · rw [if_neg (by omega)] at H; exact H
    · rw [if_pos (by omega)] at H; exact H
  · rw [if_neg e]
    rw [if_neg (fun z => e z.2)] at H
    exact ⟨fun _ => H, fun q => absurd (by decide) q⟩
theorem m_isW {v : Int32} {Q : Int32 → AH → Prop} (W : WFr S) (R : RepM h mi u l ma) (A12 : mi 12 = S 9 0 0) (H0 : ¬ (0 ≤ v ∧ v < S 9 0 0) → Q 0 h) (H1 : 0 ≤ v → v < S 9 0 0 → Q 1 h) : f_X12_isWalker 102 v h Q := by
  have hw5 := W.2.2.2.2.2.2.1
  have e1 : (1 : Int32).toInt = 1 := rfl
  refine m_gI R (mg12 _ _ _) ?_
  rw [A12]
  have t9 : (S 9 0 0).toInt = wN S := by rw [W.2.2.1, nI_toInt (by omega)]
  have t8 : (S 9 0 0 - 1).toInt = (wN S : Int) - 1 := by rw [ti_sub (by rw [t9, e1]; omega) (by rw [t9, e1]; omega), t9, e1]
  refine m_in (a := 0) (b := S 9 0 0 - 1) (fun q => ⟨bl_0, H0 fun z => q ⟨z.1, ?_⟩⟩) (fun q1 q2 => ⟨bl_1, H1 q1 ?_⟩)
  · rw [tle, t8]
    have := tl.mp z.2
    omega
  · rw [tl, t9]
    have := tle.mp q2
    omega
/-- the model's walk leaves all that is linked -/
theorem RM.ofMS (R1 : RepM h mi u l ma) (A : LkA S mi) (Wm : LkW S ma) (Tm : LkT S ma) (F : LkF S ma) (Rd : LkR S ma) (Lg : LkL S ma) (Kp : LkK S ma) (M : MS S h mi u l ma T h1) : RM h1 S u l := by
  obtain ⟨mi1, ma1, R2, g, m1, m2, -⟩ := M
  refine ⟨mi1, ma1, R2, ?_, Wm.keep (fun i => m2 0 i (by omega) (by omega)) (fun i => m2 1 i (by omega) (by omega)) (fun _ => rfl) (fun _ _ => rfl), Tm.keep (fun i => m2 2 i (by omega) (by omega)) (fun i => m2 3 i (by omega) (by omega)) (fun _ => rfl) (fun _ _ => rfl), F.keep (fun i => m2 4 i (by omega) (by omega)) (fun _ => rfl), Rd.keep (fun j i _ _ => m2 j i (by omega) (by omega)) sameR.rf, Lg.keep (fun j i _ _ => m2 j i (by omega) (by omega)) (fun _ _ _ _ _ => rfl), Kp.keep (fun i => m2 15 i (by omega) (by omega)) (fun i => m2 16 i (by omega) (by omega)) (fun _ => rfl) (fun _ => rfl)⟩
  obtain ⟨a1, a2, a3, a4, a5, a6, a7, a8⟩ := A
  refine ⟨?_, ?_, ?_, ?_, ?_, ?_, ?_, ?_⟩ <;> rw [m1 _ (by omega)] <;> assumption
theorem MS.mag (M : MS S h0 mi0 u l ma0 T h) : Mag h0 h := by
  obtain ⟨_, _, _, g, _⟩ := M
  exact g
theorem c_tbegin {st lw : Int32} {Q : AH → Prop} (C : Ctri h t) (H : ∀ by_, Q (aput h t (trip rd lw st st by_ 0 0 0))) : f_X9_begin t rd st lw h Q := by
  obtain ⟨rd0, lw0, bf0, st0, by0, py0, ca0, mv0, hc⟩ := C
  refine pF_of hc (Nat.le_of_ble_eq_true rfl) rfl ?_
  refine pF_of (aput_s h t _) (Nat.le_of_ble_eq_true rfl) rfl ?_
  rw [aput_pp]
  refine pF_of (aput_s h t _) (Nat.le_of_ble_eq_true rfl) rfl ?_
  rw [aput_pp]
  refine pF_of (aput_s h t _) (Nat.le_of_ble_eq_true rfl) rfl ?_
  rw [aput_pp]
  refine pF_of (aput_s h t _) (Nat.le_of_ble_eq_true rfl) rfl ?_
  rw [aput_pp]
  refine pF_of (aput_s h t _) (Nat.le_of_ble_eq_true rfl) rfl ?_
  rw [aput_pp]
  refine pF_of (aput_s h t _) (Nat.le_of_ble_eq_true rfl) rfl ?_
  rw [aput_pp]
  exact H by0
theorem c_walkerAt {w : Nat} {Q : Option Nat → AH → Prop} (W : WFr S) (C : Crod h rd S X) (hw : w < wN S) (H : ∀ wa, X wa → h.2.2 wa = some (wob S w) → Q (some wa) h) : f_X5_walkerAt rd (nI w) h Q := by
  have hw5 := W.2.2.2.2.2.2.1
  obtain ⟨w1, w2, w3, w4, w5, w6, w7⟩ := W.2.2.2.2.2.2.2.2.2.2 w hw
  obtain ⟨n, hm, wy, fo, fn, fh, fw, ff, wa, st, x1, x2, x3, x4, x5, c1, c2, c3, c4, c5, c6, c7⟩ := C
  obtain ⟨d1, d2, d3⟩ := c7 w hw
  refine ⟨fun q => absurd q (nI_n0 (by omega)), fun _ => gI_of c1 rfl ?_⟩
  rw [W.2.2.1, nI_leI (by omega) (by omega)]
  refine ⟨fun q => by omega, fun _ => gR_of c1 rfl (lQ_of c5 (vp_in_nI (by omega) (by omega)) (by rw [nI_clamp (by omega)]; exact d1) (H _ d2 ?_))⟩
  rw [w3, w5] at d3
  exact d3
theorem c_send {c w law : Nat} {bf by_ py ca mv : Int32} {Q : AH → Prop} (W : WFr S) (C : Crod h rd S X) (hX : ¬ X t) (D : Cd S c) (hl : law ≤ 2) (hw : w < wN S) (ho : h.2.2 t = some (trip rd (nI law) bf (nI c) by_ py ca mv))
    (H : Q (aput h t (ts S rd (nI law) bf (nI w) py ca mv (bhd S c w law)))) : f_X9_send t (nI w) h Q := by
  obtain ⟨n, hm, wy, fo, fn, fh, fw, ff, wa, st, x1, x2, x3, x4, x5, c1, -⟩ := id C
  refine gR_of ho rfl ⟨isO_of c1, c_walkerAt W C hw fun wa xw hwo => ⟨fun q => (by cases q), fun a4 q => pF_of ho (Nat.le_of_ble_eq_true rfl) rfl ?_⟩⟩
  cases q
  have e : (Sum.inr (9, List.set [.ref rd, .int (nI law), .int bf, .int (nI c), .int by_, .int py, .int ca, .int mv] 4 (.int (nI w))) : va_E) = ts S rd (nI law) bf (nI w) py ca mv (tr0 c) := (ts_0 D.1).symm
  rw [e]
  exact c_goK W C hX D hl hw hwo (fun z => hX (z ▸ xw)) H
theorem RC.put13 {rd lw bf st by_ py ca mv} (R : RC h S u l n) : RC (aput h 13 (trip rd lw bf st by_ py ca mv)) S u l n :=
  R.keepD (fun a _ _ h13 _ => aput_n h _ h13) rfl rfl (fun _ _ _ _ => rfl) (fun rd2 c2 => (aput_n h _ (by omega)).trans c2) (fun c => c.keep (aput_n h _ (by omega)) (fun _ => rfl)) (fun c => c.keep (aput_n h _ (by omega)) (aput_n h _ (by omega)) (fun _ => rfl) (fun _ => rfl)) (fun c => c.keep (fun a _ _ => aput_n h _ (by omega)) rfl (fun _ => rfl) (fun _ => rfl) (fun _ => rfl) (fun _ _ => rfl)) (fun _ => ⟨_, _, _, _, _, _, _, _, aput_s h 13 _⟩)
theorem RC.road (R : RC h S u l n) : ∃ rd X, Cmain h S u l rd ∧ Crod h rd S X ∧ ∀ a, X a → radr a := by
  obtain ⟨rd, fa, li, qu, N, X, c1, c2, c3, c4, c5, c6, c7, c8, c9, c10, c11, -⟩ := R
  exact ⟨rd, X, c1, c10, fun a ha => (c11 a ha).1⟩
theorem Crod.o (C : Crod h rd S X) : isO h rd 5 := by
  obtain ⟨n, hm, wy, fo, fn, fh, fw, ff, wa, st, x1, x2, x3, x4, x5, c1, -⟩ := C
  exact isO_of c1
theorem c_told2 {v : Int32} {K : AH → Prop} (R : RC h S u l n) (H : ∀ h1, RC h1 (up S 4 0 0 v) u l n → Cag h h1 → (∀ a, a ≠ 1 → h1.2.2 a = h.2.2 a) → K h1) : pF h 1 11 12 (.int v) K := by
  obtain ⟨fs, e1, e2, e3⟩ := c_told (v := v) (K := fun h1 => RC h1 (up S 4 0 0 v) u l n ∧ Cag h h1) R (fun h1 r a => ⟨r, a⟩)
  exact ⟨fs, e1, e2, H _ e3.1 e3.2 (fun a ha => aput_n h _ ha)⟩
theorem op_pays {v : Int32} (I : Inv h n) : f_X11_pays 1 v h (fun x h1 => f_X12_pays 102 v h1 (fun y h2 => x = y ∧ Inv h2 n)) := by
  obtain ⟨S, u, l, R, M, W⟩ := I
  obtain ⟨mi, ma, R1, A, Wm, T, F, Rd, Lg, Kp⟩ := id M
  obtain ⟨w1, w2, w3, w4, w5, w6, w7, w8⟩ := id W
  have hw5 := w3.2.2.2.2.2.2.1
  obtain ⟨rd, X, c1, C, xr⟩ := R.road
  have x13 : ¬ X 13 := fun z => by have := xr 13 z; unfold radr at this; omega
  have C8 : Ctri h 13 := by
    obtain ⟨rd, fa, li, qu, N, X, c1, c2, c3, c4, c5, c6, c7, c8, -⟩ := R
    exact c8
  unfold f_X11_pays f_X12_pays
  refine c_walkers R (c_isBelow (fun q => rb0 ⟨R1.o, m_isW w3 R1 A.2.2.2.2.1 (fun _ => rb0 ⟨rfl, S, u, l, R, M, W⟩) (fun q1 q2 => absurd ⟨q1, q2⟩ q)⟩) (fun q1 q2 => rb1 ?_))
  rw [w3.2.2.1] at q2
  obtain ⟨w, hw, rfl⟩ := lt_nI (x := v) (m := wN S) (by omega) q1 q2
  refine gR_of c1 rfl (gR_of c1 rfl (gI_of c1 rfl (gI_of c1 rfl ⟨by obtain ⟨_, _, _, _, _, _, _, _, z⟩ := C8; exact isO_of z, c_tbegin C8 fun by_ => ?_⟩)))
  have ht : (aput h 13 (trip rd (S 15 0 0) (S 14 0 0) (S 14 0 0) by_ 0 0 0)).2.2 13 = some (trip rd (nI (rlN S)) (nI (stN S)) (nI (stN S)) by_ 0 0 0) := by rw [aput_s, w4.1, w5.1]
  have c1' : ∀ e, (aput h 13 e).2.2 1 = _ := fun e => (aput_n h e (by omega)).trans c1
  refine gR_of (c1' _) rfl ⟨isO_of ht, c_send w3 (C.put x13) x13 w4.2 w5.2 hw ht ?_⟩
  rw [aput_pp]
  have cb := Cd_lt w3 (Cd_nx (law := rlN S) w3 w4.2 hw)
  refine gR_of (c1' _) rfl (gR_of (c1' _) rfl (gI_of (aput_s h 13 _) rfl ⟨(C.put x13).o, c_far w3 (C.put x13) cb ?_⟩))
  refine c_told2 R.put13 (fun h2 r2 a2 b2 => c_gR r2 (fun _ => rfl) (gI_of ((b2 13 (by omega)).trans (aput_s h 13 _)) rfl ?_))
  have ag : Cag h h2 := (Cag.put (by omega)).tr a2
  have R1' := R1.keep ag
  refine ⟨R1'.o, m_isW w3 R1' A.2.2.2.2.1 (fun q => absurd ⟨nI_pos' (by omega), by rw [w3.2.2.1]; exact nI_lt hw (by omega)⟩ q) (fun _ _ => rb1 (m_gI R1' (mg17 _ _ _) (m_gI R1' (mg16 _ _ _) ?_)))⟩
  rw [A.2.2.2.2.2.2.1, A.2.2.2.2.2.1, w4.1, w5.1]
  refine ⟨R1'.o, m_behind w3 Rd A.2.2.1 A.2.2.2.1 w4.2 hw w5.2 R1' fun h3 M3 => ⟨M3.o, m_apartOf w3 Rd A.2.2.1 A.2.2.2.1 M3 cb ?_⟩⟩
  have RM3 := RM.ofMS R1' A Wm T F Rd Lg Kp M3
  obtain ⟨mi3, ma3, R3, g3, m1, m2, -, -, m5⟩ := id M3
  obtain ⟨fs, e1, e2, e3⟩ := m_told (v := nI (apt S (nx S (rlN S) (stN S) w) (sN S))) (K := fun h4 => RM h4 (up S 4 0 0 (nI (apt S (nx S (rlN S) (stN S) w) (sN S)))) u l ∧ Mag h3 h4) RM3 (fun h4 r a => ⟨r, a⟩)
  refine ⟨fs, e1, e2, ?_⟩
  have : fs = mfs mi3 u l := by
    have := e1.symm.trans R3.1
    simp only [Option.some.injEq, Sum.inr.injEq, Prod.mk.injEq, true_and] at this
    exact this
  subst this
  refine gI_of (aput_s h3 102 _) (mg38 (upd mi3 4 _) u l) ?_
  rw [pk_un (by omega), m5]
  refine ⟨Int32.zero_add _, Inv.of r2 e3.1 (g3.tr e3.2) (WF_told W _)⟩
end PAYS
