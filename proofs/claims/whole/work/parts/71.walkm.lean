/-! one walk, in the model; walk, both sides -/
section WALKM
variable {h : AH} {S : SS} {u l : Int64} {n : Nat}
theorem m_walks_L {mi : Nat → Int32} {tm : Nat → Nat} {d : Nat} {Q : Int32 → AH → Prop} (hd : d < 60) (e20 : mi 20 = nI d) : ∀ (m i : Nat) (h : AH) (ma : Nat → Nat → Int32), i + m = 5 → RepM h mi u l ma → (∀ k, k < 5 → ma 23 k = nI (tm k)) →
    (∀ h1 g1 g2, RepM h1 (upd mi 20 (nI (d + 1))) u l (va_up (va_up ma 14 g1) 10 g2) → Mag h h1 → (∀ k, i ≤ k → k < 5 → g1 (5 * d + k) = nI (tm k) ∧ g2 k = ma 10 k + nI (tm k)) → (∀ x, ¬ (5 * d + i ≤ x ∧ x < 5 * d + 5) → g1 x = ma 14 x) → (∀ k, k < i → g2 k = ma 10 k) → Q (mi 38) h1) →
    L_X12_walks1_68 Q 102 (m + 1) (nI i) h := by
  intro m
  induction m with
  | zero =>
    intro i h ma hi R T H
    have : i = 5 := by omega
    subst this
    refine ⟨fun _ => m_gI R (mg20 _ _ _) (m_pF R (by omega) (ms20 _ _ _ _) (fun h1 r1 a1 => m_gI r1 (mg38 _ _ _) ?_)), fun q => absurd (by decide) q⟩
    rw [e20, nI_1] at r1
    rw [pk_un (by omega)]
    refine H h1 (ma 14) (ma 10) ?_ a1 (fun k x y => by omega) (fun _ _ => rfl) (fun _ _ => rfl)
    rw [va_up_id, va_up_id]
    exact r1
  | succ m ih =>
    intro i h ma hi R T H
    refine ⟨fun q => absurd q (by rw [show (5 : Int32) = nI 5 from rfl, nI_leI (by omega) (by omega)]; omega), fun _ => m_gR R (mr24 _ _ _) (m_gI R (mg20 _ _ _) ?_)⟩
    rw [e20, show (5 : Int32) = nI 5 from rfl, pk_mul, nI_add, nI_1]
    have v5 : vp_in (nI i) 5 := vp_in_nI (by omega) (by omega)
    refine m_gR R (mr37 _ _ _) (m_lI R (j := 23) rfl rfl rfl v5 (m_sI R (j := 14) rfl rfl rfl (vp_in_nI (by omega) (by omega)) (fun h1 r1 a1 => m_gR r1 (mr19 _ _ _) (m_lI r1 (j := 10) rfl rfl rfl v5 (m_gR r1 (mr37 _ _ _) (m_lI r1 (j := 23) rfl rfl rfl v5 (m_sI r1 (j := 10) rfl rfl rfl v5 (fun h2 r2 a2 => ?_))))))))
    rw [nI_clamp (by omega), nI_clamp (by omega), va_up_ne _ _ (by omega), va_up_ne _ _ (by omega), T i (by omega)] at r2
    refine ih (i + 1) h2 _ (by omega) r2 (fun k hk => by rw [va_up_ne _ _ (by omega), va_up_ne _ _ (by omega)]; exact T k hk) (fun h3 g1 g2 r3 a3 z1 z2 z3 => H h3 g1 g2 ?_ ((a1.tr a2).tr a3) (fun k k1 k2 => ?_) (fun x hx => ?_) (fun k hk => ?_))
    · have e : va_up (va_up (va_up (va_up ma 14 (upd (ma 14) (5 * d + i) (nI (tm i)))) 10 (upd (ma 10) i (ma 10 i + nI (tm i)))) 14 g1) 10 g2 = va_up (va_up ma 14 g1) 10 g2 := by
        funext a
        unfold va_up
        split
        · rfl
        · split
          · rfl
          · rfl
      rw [e] at r3
      exact r3
    · by_cases e : k = i
      · subst e
        rw [z2 _ (by omega), z3 _ (by omega), va_up_ne _ _ (by omega), va_up_self, va_up_self, pk_us, pk_us]
        exact ⟨rfl, rfl⟩
      · obtain ⟨y1, y2⟩ := z1 k (by omega) k2
        rw [y1, y2, va_up_self, pk_un (by omega)]
        exact ⟨rfl, rfl⟩
    · rw [z2 x (by omega), va_up_ne _ _ (by omega), va_up_self, pk_un (by omega)]
    · rw [z3 k (by omega), va_up_self, pk_un (by omega)]
theorem m_walks1 {w : Nat} {Q : Int32 → AH → Prop} (M : RM h S u l) (W : WF S) (hw : w < wN S) (hd : dnN S < 60) (H : ∀ h1, RM h1 (wlkS S w) u l → Mag h h1 → Q (nI (bhd S (stN S) w (rlN S)).2.2) h1) : f_X12_walks1 102 (nI w) h Q := by
  obtain ⟨mi, ma, R, A, Wm, T, F, Rd, Lg, Kp⟩ := id M
  obtain ⟨w1, w2, w3, w4, w5, w6, w7, w8⟩ := id W
  have hw5 := w3.2.2.2.2.2.2.1
  have e17 : mi 17 = nI (stN S) := A.2.2.2.2.2.2.1.trans w4.1
  have e16 : mi 16 = nI (rlN S) := A.2.2.2.2.2.1.trans w5.1
  have e20 : mi 20 = nI (dnN S) := A.2.2.2.2.2.2.2.trans w6.1
  have vd : vp_in (nI (dnN S)) 60 := vp_in_nI hd (by omega)
  have vw : vp_in (nI w) 5 := vp_in_nI (by omega) (by omega)
  refine m_gR R (mr21 _ _ _) (m_gI R (mg20 _ _ _) ?_)
  rw [e20]
  refine m_sI R (j := 11) rfl rfl rfl vd (fun h1 r1 a1 => m_gR r1 (mr22 _ _ _) (m_gI r1 (mg20 _ _ _) (m_gI r1 (mg17 _ _ _) ?_)))
  rw [e20, e17]
  refine m_sI r1 (j := 12) rfl rfl rfl vd (fun h2 r2 a2 => m_gI r2 (mg17 _ _ _) (m_gI r2 (mg16 _ _ _) ?_))
  rw [e17, e16]
  rw [nI_clamp (by omega)] at r2
  generalize hma : va_up (va_up ma 11 (upd (ma 11) (dnN S) (nI w))) 12 (upd (va_up ma 11 (upd (ma 11) (dnN S) (nI w)) 12) (dnN S) (nI (stN S))) = ma2 at r2
  have k2 : ∀ j x, j ≠ 11 → j ≠ 12 → ma2 j x = ma j x := fun j x y z => by rw [← hma, va_up_ne _ _ z, va_up_ne _ _ y]
  have Rd2 : LkR S ma2 := Rd.keep (fun j i _ _ => k2 j i (by omega) (by omega)) sameR.rf
  refine ⟨r2.o, m_behind w3 Rd2 A.2.2.1 A.2.2.2.1 w4.2 hw w5.2 r2 fun h3 M3 => ?_⟩
  obtain ⟨mi3, ma3, r3, a3, m1, m2, -, m4, m5⟩ := M3
  refine m_pF r3 (by omega) (ms17 _ _ _ _) (fun h4 r4 a4 => m_gR r4 (mr23 _ _ _) (m_gI r4 (mg20 _ _ _) (m_gI r4 (mg38 _ _ _) ?_)))
  rw [pk_un (by omega), pk_un (by omega), m1 20 (by omega), e20, m5]
  refine m_sI r4 (j := 13) rfl rfl rfl vd (fun h5 r5 a5 => m_gR r5 (mr18 _ _ _) (m_lI r5 (j := 9) rfl rfl rfl vw (m_gI r5 (mg38 _ _ _) ?_)))
  rw [pk_un (by omega), m5]
  refine m_sI r5 (j := 9) rfl rfl rfl vw (fun h6 r6 a6 => ?_)
  rw [nI_clamp (by omega), nI_clamp (by omega), va_up_ne _ _ (by omega)] at r6
  generalize hma6 : va_up (va_up ma3 13 _) 9 _ = ma6 at r6
  have k6 : ∀ j x, j ≠ 9 → j ≠ 13 → ma6 j x = ma3 j x := fun j x y z => by rw [← hma6, va_up_ne _ _ y, va_up_ne _ _ z]
  refine ⟨6, m_walks_L (tm := (bhd S (stN S) w (rlN S)).2.1) hd (by rw [pk_un (by omega), m1 20 (by omega), e20]) 5 0 h6 _ rfl r6 (fun k hk => by rw [k6 23 k (by omega) (by omega), m4 k hk]) (fun h7 g1 g2 r7 a7 z1 z2 z3 => ?_)⟩
  rw [pk_un (by omega), m5]
  have kk : ∀ j x, j ≠ 9 → j ≠ 10 → j ≠ 11 → j ≠ 12 → j ≠ 13 → j ≠ 14 → j ≠ 22 → j ≠ 23 → va_up (va_up ma6 14 g1) 10 g2 j x = ma j x := fun j x y1 y2 y3 y4 y5 y6 y7 y8 => by
    rw [va_up_ne _ _ y2, va_up_ne _ _ y6, k6 j x y1 y5, m2 j x y7 y8, k2 j x y3 y4]
  have sR := (wlk_D (S := S) (w := w)).R
  have e16' : dnN (wlkS S w) = dnN S + 1 := by show nN (wlkS S w 16 0 0) = _; rw [wlk_16]; exact nI_clamp (by omega)
  have old : ∀ c i j, 17 ≤ c → i < dnN S → wlkS S w c i j = S c i j := fun c i j hc hi => wlk_o hc (by omega)
  refine H h7 (RM.keepD r7 wlk_D ?_ Wm T (F.keep (fun i => kk 4 i (by omega) (by omega) (by omega) (by omega) (by omega) (by omega) (by omega) (by omega)) (fun r => wlk_c (by omega))) Rd ⟨fun x hx => ?_, fun k hk => ?_, fun i hi => ?_⟩ (Kp.keep (fun i => kk 15 i (by omega) (by omega) (by omega) (by omega) (by omega) (by omega) (by omega) (by omega)) (fun i => kk 16 i (by omega) (by omega) (by omega) (by omega) (by omega) (by omega) (by omega) (by omega)) (fun r => wlk_c (by omega)) (fun r => wlk_c (by omega))) (fun j i hj => kk j i (by omega) (by omega) (by omega) (by omega) (by omega) (by omega) (by omega) (by omega))) ((((((a1.tr a2).tr a3).tr a4).tr a5).tr a6).tr a7)
  · obtain ⟨b1, b2, b3, b4, b5, b6, b7, b8⟩ := A
    refine ⟨?_, ?_, ?_, ?_, ?_, ?_, ?_, ?_⟩
    · rw [pk_un (by omega), pk_un (by omega), m1 _ (by omega), wlk_c (by omega)]; exact b1
    · rw [pk_un (by omega), pk_un (by omega), m1 _ (by omega), wlk_c (by omega)]; exact b2
    · rw [pk_un (by omega), pk_un (by omega), m1 _ (by omega), wlk_c (by omega)]; exact b3
    · rw [pk_un (by omega), pk_un (by omega), m1 _ (by omega), wlk_c (by omega)]; exact b4
    · rw [pk_un (by omega), pk_un (by omega), m1 _ (by omega), wlk_c (by omega)]; exact b5
    · rw [pk_un (by omega), pk_un (by omega), m1 _ (by omega), wlk_c (by omega)]; exact b6
    · rw [pk_un (by omega), pk_us, wlk_14]
    · rw [pk_us, wlk_16]
  · rw [va_up_ne _ _ (by omega), va_up_ne _ _ (by omega), e16']
    have s1 : smI (fun i => if wlkS S w 17 i 0 = nI x then wlkS S w 19 i 0 else 0) (dnN S) = ma 9 x := by
      rw [Lg.1 x hx]
      exact smI_cong fun i hi => by rw [old 17 i 0 (by omega) hi, old 19 i 0 (by omega) hi]
    rw [smI, s1, wlk_17, wlk_19, ← hma6, va_up_self]
    by_cases e : x = w
    · subst e
      rw [pk_us, if_pos rfl, m2 9 _ (by omega) (by omega), k2 9 _ (by omega) (by omega)]
    · rw [pk_un e, if_neg (fun z => e ((nI_eqI (by omega) (by omega)).mp z).symm), m2 9 _ (by omega) (by omega), k2 9 _ (by omega) (by omega), Int32.add_zero]
  · rw [va_up_self, (z1 k (by omega) hk).2, e16', k6 10 k (by omega) (by omega), m2 10 k (by omega) (by omega), k2 10 k (by omega) (by omega)]
    have s1 : smI (fun i => wlkS S w 20 i k) (dnN S) = ma 10 k := by
      rw [Lg.2.1 k hk]
      exact smI_cong fun i hi => by rw [old 20 i k (by omega) hi]
    rw [smI, s1, wlk_20]
  · rw [e16'] at hi
    have z14 : ∀ x, va_up (va_up ma6 14 g1) 10 g2 14 x = g1 x := fun x => by rw [va_up_ne _ _ (by omega), va_up_self]
    have q11 : ∀ x, va_up (va_up ma6 14 g1) 10 g2 11 x = upd (ma 11) (dnN S) (nI w) x := fun x => by
      rw [va_up_ne _ _ (by omega), va_up_ne _ _ (by omega), k6 _ _ (by omega) (by omega), m2 _ _ (by omega) (by omega), ← hma, va_up_ne _ _ (by omega), va_up_self]
    have q12 : ∀ x, va_up (va_up ma6 14 g1) 10 g2 12 x = upd (ma 12) (dnN S) (nI (stN S)) x := fun x => by
      rw [va_up_ne _ _ (by omega), va_up_ne _ _ (by omega), k6 _ _ (by omega) (by omega), m2 _ _ (by omega) (by omega), ← hma, va_up_self, va_up_ne _ _ (by omega)]
    have q13 : ∀ x, va_up (va_up ma6 14 g1) 10 g2 13 x = upd (ma3 13) (dnN S) (nI (bhd S (stN S) w (rlN S)).2.2) x := fun x => by
      rw [va_up_ne _ _ (by omega), va_up_ne _ _ (by omega), ← hma6, va_up_ne _ _ (by omega), va_up_self]
    rw [q11, q12, q13]
    by_cases e : i = dnN S
    · subst e
      rw [pk_us, pk_us, pk_us, wlk_17, wlk_18, wlk_19, w4.1]
      refine ⟨rfl, rfl, rfl, fun k hk => ?_⟩
      rw [z14, (z1 k (by omega) hk).1, wlk_20]
    · obtain ⟨y1, y2, y3, y4⟩ := Lg.2.2 i (by omega)
      rw [pk_un e, pk_un e, pk_un e, old 17 i 0 (by omega) (by omega), old 18 i 0 (by omega) (by omega), old 19 i 0 (by omega) (by omega), m2 13 _ (by omega) (by omega), k2 13 _ (by omega) (by omega)]
      refine ⟨y1, y2, y3, fun k hk => ?_⟩
      rw [z14, z2 _ (by omega), k6 _ _ (by omega) (by omega), m2 _ _ (by omega) (by omega), k2 _ _ (by omega) (by omega), y4 k hk, old 20 i k (by omega) (by omega)]
theorem op_walk {v : Int32} (I : Inv h n) : f_X11_walk 1 v h (fun x h1 => f_X12_walk 102 v h1 (fun y h2 => x = y ∧ Inv h2 n)) := by
  obtain ⟨S, u, l, R, M, W⟩ := I
  obtain ⟨mi, ma, R1, A, -⟩ := id M
  obtain ⟨w1, w2, w3, w4, w5, w6, w7, w8⟩ := id W
  have hw5 := w3.2.2.2.2.2.2.1
  unfold f_X11_walk f_X12_walk
  refine c_walkers R (c_isBelow (fun q => rb0 ⟨R1.o, m_isW w3 R1 A.2.2.2.2.1 (fun _ => rb0 ⟨rfl, S, u, l, R, M, W⟩) (fun q1 q2 => absurd ⟨q1, q2⟩ q)⟩) (fun q1 q2 => rb1 ?_))
  have q2' := q2
  rw [w3.2.2.1] at q2
  obtain ⟨w, hw, rfl⟩ := lt_nI (x := v) (m := wN S) (by omega) q1 q2
  refine c_gI R (fun _ => rfl) ?_
  rw [w6.1, show (60 : Int32) = nI 60 from rfl, nI_ltI (by omega) (by omega)]
  have isw : ∀ {h1 : AH} {Q : Int32 → AH → Prop}, RepM h1 mi u l ma → Q 1 h1 → f_X12_isWalker 102 (nI w) h1 Q := fun r H => m_isW w3 r A.2.2.2.2.1 (fun q => absurd ⟨q1, q2'⟩ q) (fun _ _ => H)
  refine ⟨fun q => ⟨R.o, c_doWalk R W hw q fun h1 r1 a1 => ?_⟩, fun q => ⟨R1.o, isw R1 (rb1 (m_gI R1 (mg20 _ _ _) ?_))⟩⟩
  · have R1' := R1.keep a1
    refine ⟨R1'.o, isw R1' (rb1 (m_gI R1' (mg20 _ _ _) ?_))⟩
    rw [A.2.2.2.2.2.2.2, w6.1, nI_eqI (by omega) (by omega)]
    refine ⟨fun _ => ⟨R1'.o, m_walks1 (M.keep a1) W hw q fun h2 r2 a2 => ⟨rfl, Inv.of r1 r2 a2 (WF_wlk W hw q)⟩⟩, fun z => by omega⟩
  · rw [A.2.2.2.2.2.2.2, w6.1, nI_eqI (by omega) (by omega)]
    refine ⟨fun z => by omega, fun _ => ⟨rfl, S, u, l, R, M, W⟩⟩
end WALKM
