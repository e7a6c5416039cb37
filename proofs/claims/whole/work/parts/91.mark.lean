/-! mark -/
def umv (c d : Nat) : Nat → Nat
  | 0 => 0
  | k + 1 => umv c d k + (if dig c k = dig d k then 1 else 0)
theorem umv_le (c d : Nat) : ∀ k, umv c d k ≤ k
  | 0 => Nat.le_refl _
  | k + 1 => by have := umv_le c d k; unfold umv; split <;> omega
theorem sm_ext {f : Nat → Nat} {n : Nat} (hf : ∀ k, n ≤ k → f k = 0) : ∀ m, sm f (n + m) = sm f n
  | 0 => rfl
  | m + 1 => by
    show sm f (n + m) + f (n + m) = _
    rw [sm_ext hf m, hf _ (by omega)]
    omega
theorem sm_le {f : Nat → Nat} {m : Nat} (hf : ∀ k, f k ≤ m) : ∀ n, sm f n ≤ m * n
  | 0 => Nat.zero_le _
  | n + 1 => by
    have h1 := sm_le hf n
    have h2 := hf n
    unfold sm
    rw [Nat.mul_add]
    omega
def mrk (S : SS) (c w law v : Nat) : Int32 := if v = 1 then nI (sm (bhd S c w law).2.1 (sN S)) else if v = 2 then nI (umv c (nx S law c w) (sN S)) else if v = 3 then nI (nxt (fr S w) (to_ S w)) else if v = 4 then (match tk S (tr0 c).1 (fr S w) 1 with | none => -9 | some k => nI (nu S k)) else nI (2 * (if to_ S w ≤ fr S w then fr S w - to_ S w else to_ S w - fr S w))
theorem nI_n100 {k : Nat} (hk : k < 2 ^ 31) : nI k ≠ -100 := by
  intro e
  have h1 : (nI k).toInt = (-100 : Int32).toInt := by rw [e]
  rw [nI_toInt hk] at h1
  have : (-100 : Int32).toInt = -100 := rfl
  omega
section MARK
variable {h h0 : AH} {S : SS} {u l : Int64} {n rd t : Nat} {X : Nat → Prop} {mi mi0 : Nat → Int32} {ma ma0 : Nat → Nat → Int32} {T : TR}
theorem mrk_ne {c w law v : Nat} (W : WFr S) (hw : w < wN S) : mrk S c w law v ≠ -100 := by
  obtain ⟨w1, w2, w3, w4, w5, w6, w7⟩ := W.2.2.2.2.2.2.2.2.2.2 w hw
  have hp7 := W.2.2.2.1
  have hs5 := W.2.2.2.2.2.1
  unfold mrk
  split
  · have := sm_le (TB.bh (c := c) (w := w) (law := law) W).1 (sN S)
    exact nI_n100 (by omega)
  · split
    · have := umv_le c (nx S law c w) (sN S)
      exact nI_n100 (by omega)
    · split
      · have := nxt_lt w4 w6
        exact nI_n100 (by omega)
      · split
        · split
          · decide
          · rename_i k hk
            have n1 := (W.2.2.2.2.2.2.2.2.1 k (tkn_lt hk)).2
            exact nI_n100 (by omega)
        · refine nI_n100 ?_
          split <;> omega
theorem c_walkerN {v : Int32} {Q : Option Nat → AH → Prop} (C : Crod h rd S X) (hv : ¬ (0 ≤ v ∧ v < S 9 0 0)) (H : Q none h) : f_X5_walkerAt rd v h Q := by
  obtain ⟨nn, hm, wy, fo, fn, fh, fw, ff, wa, st, x1, x2, x3, x4, x5, c1, -⟩ := C
  exact ⟨fun _ => H, fun q => gI_of c1 rfl ⟨fun _ => H, fun q2 => absurd ⟨Int32.not_lt.mp q, Int32.not_le.mp q2⟩ hv⟩⟩
theorem c_unmoved {c d : Nat} {lw by_ py ca mv : Int32} {Q : Int32 → AH → Prop} (W : WFr S) (C : Crod h rd S X) (hc : c < 32768) (hd : d < 32768) (ho : h.2.2 t = some (trip rd lw (nI c) (nI d) by_ py ca mv)) (H : Q (nI (umv c d (sN S))) h) : f_X9_unmoved t h Q := by
  have hs5 := W.2.2.2.2.2.1
  obtain ⟨nn, hm, wy, fo, fn, fh, fw, ff, wa, st, x1, x2, x3, x4, x5, c1, -⟩ := C
  refine lpA (L := L_X9_unmoved_4 Q t) (fun i => nI (umv c d i)) (sN S) (fun k => gR_of ho rfl (gI_of c1 rfl ⟨fun _ => H, fun q => absurd (by rw [W.2.1]; exact Int32.le_refl _) q⟩)) (fun i k hi K => gR_of ho rfl (gI_of c1 rfl ⟨fun q => absurd q ?_, fun _ => gI_of ho rfl (c_post hc (by omega) (gI_of ho rfl (c_post hd (by omega) ?_)))⟩))
  · rw [W.2.1, nI_leI (by omega) (by omega)]; omega
  · have d1 := dig_lt c i
    have d2 := dig_lt d i
    rw [nI_eqI (by omega) (by omega), nI_1, nI_1]
    rw [umv] at K
    refine ⟨fun q => ?_, fun q => ?_⟩
    · rw [if_neg q] at K; exact K
    · rw [if_pos q] at K; exact K
theorem go1_X1 {hh : AH} {wa : Nat} {fs : List Value} {Q : AH → Prop} (ho : hh.2.2 wa = some (.inr (1, fs))) (H : v_go1 wa t hh Q) : f_X1_go wa t hh Q := by
  obtain ⟨ci, fs', h1, h2⟩ := H
  have e := ho.symm.trans h1
  simp only [Option.some.injEq, Sum.inr.injEq, Prod.mk.injEq] at e
  obtain ⟨e, -⟩ := e
  subst e
  rcases h2 with ⟨a, -⟩ | ⟨-, b⟩ | ⟨a, -⟩ | ⟨a, -⟩ | ⟨a, -⟩ | ⟨a, -⟩
  · exact absurd a (by decide)
  · exact b
  · exact absurd a (by decide)
  · exact absurd a (by decide)
  · exact absurd a (by decide)
  · exact absurd a (by decide)
theorem go1_go0 {hh : AH} {wa ci : Nat} {fs : List Value} {Q : AH → Prop} (ho : hh.2.2 wa = some (.inr (ci, fs))) (hc : ci = 0 ∨ ci = 3) (H : v_go1 wa t hh Q) : v_go0 wa t hh Q := by
  obtain ⟨ci', fs', h1, h2⟩ := H
  have e := ho.symm.trans h1
  simp only [Option.some.injEq, Sum.inr.injEq, Prod.mk.injEq] at e
  obtain ⟨e, -⟩ := e
  subst e
  refine ⟨ci, fs', h1, ?_⟩
  rcases h2 with ⟨a, b⟩ | ⟨a, -⟩ | ⟨a, -⟩ | ⟨a, b⟩ | ⟨a, -⟩ | ⟨a, -⟩
  · exact Or.inl ⟨a, b⟩
  · exact absurd a (by omega)
  · exact absurd a (by omega)
  · exact Or.inr ⟨a, b⟩
  · exact absurd a (by omega)
  · exact absurd a (by omega)
theorem c_tells {c w v law wa : Nat} {by_ : Int32} {Q : Int32 → AH → Prop} (W : WFr S) (C : Crod h rd S X) (hX : ¬ X t) (D : Cd S c) (hl : law ≤ 2) (hw : w < wN S) (ho : h.2.2 wa = some (wob S w)) (wt : wa ≠ t) (hv : 1 ≤ v) (hv5 : v ≤ 5)
    (H0 : iofB (kd S w) v = false → Q (-100) (aput h t (trip rd (nI law) (nI c) (nI c) by_ 0 0 0)))
    (H1 : iofB (kd S w) v = true → ∀ rd lw bf st by_ py ca mv, Q (mrk S c w law v) (aput h t (trip rd lw bf st by_ py ca mv))) : v_tell0 wa (nI v) t (aput h t (trip rd (nI law) (nI c) (nI c) by_ 0 0 0)) Q := by
  obtain ⟨w1, w2, w3, w4, w5, w6, w7⟩ := W.2.2.2.2.2.2.2.2.2.2 w hw
  have hp7 := W.2.2.2.1
  have hs5 := W.2.2.2.2.2.1
  have clt := Cd_lt W D
  have ho' : ∀ e, (aput h t e).2.2 wa = some (wob S w) := fun e => (aput_n h e wt).trans ho
  have go : ∀ {Q : AH → Prop}, Q (aput h t (ts S rd (nI law) (nI c) by_ 0 0 0 (bhd S c w law))) → v_go1 wa t (aput h t (trip rd (nI law) (nI c) (nI c) by_ 0 0 0)) Q := fun H => by
    have := c_goK (bf := nI c) (by_ := by_) (py := 0) (ca := 0) (mv := 0) W C hX D hl hw ho wt H
    rw [ts_0 D.1] at this
    exact this
  have eq : ∀ k, k < 9 → (nI v = nI k ↔ v = k) := fun k hk => nI_eqI (by omega) (by omega)
  have nlt := Cd_lt W (Cd_nx (law := law) W D hw)
  have both : ∀ ci fs, (ci = 0 ∨ ci = 3) → (aput h t (trip rd (nI law) (nI c) (nI c) by_ 0 0 0)).2.2 wa = some (.inr (ci, fs)) → v = 2 → iofB (kd S w) v = true → v_go0 wa t (aput h t (trip rd (nI law) (nI c) (nI c) by_ 0 0 0)) (fun h1 => isO h1 t 9 ∧ f_X9_unmoved t h1 (fun x2 h3 => Q x2 h3)) := fun ci fs hci hh e2 e3 => by
    refine go1_go0 hh hci (go ⟨isO_of (aput_s _ _ _), c_unmoved W (C.put hX) clt nlt (aput_s _ _ _) ?_⟩)
    have := H1 e3
    unfold mrk at this
    rw [if_neg (by omega), if_pos e2] at this
    exact this _ _ _ _ _ _ _ _
  have next : ∀ {hh : AH} {ci : Nat}, hh.2.2 wa = some (.inr (ci, [.int (nI (fr S w)), .int (nI (to_ S w))])) → ci ∈ wkl → v = 3 → Q (mrk S c w law v) hh → gW hh wa 0 (fun x3 => gW hh wa 1 (fun x4 => f_X10_nextTo x3 x4 hh (fun x5 h6 => Q x5 h6))) := fun hh hci e z => by
    refine gW_of hh hci rfl (gW_of hh hci rfl (c_next (by omega) (by omega) w7 ?_))
    unfold mrk at z
    rw [if_neg (by omega), if_neg (by omega), if_pos e] at z
    exact z
  have H1' : iofB (kd S w) v = true → Q (mrk S c w law v) (aput h t (trip rd (nI law) (nI c) (nI c) by_ 0 0 0)) := fun z => H1 z _ _ _ _ _ _ _ _
  have ifx : iofB (kd S w) v = decide (kd S w = v ∨ (kd S w = 4 ∧ v = 3) ∨ (kd S w = 5 ∧ v = 2)) := rfl
  have yes : (kd S w = v ∨ (kd S w = 4 ∧ v = 3) ∨ (kd S w = 5 ∧ v = 2)) → iofB (kd S w) v = true := fun z => by rw [ifx]; exact decide_eq_true z
  have no : ¬ (kd S w = v ∨ (kd S w = 4 ∧ v = 3) ∨ (kd S w = 5 ∧ v = 2)) → Q (-100) (aput h t (trip rd (nI law) (nI c) (nI c) by_ 0 0 0)) := fun z => H0 (by rw [ifx]; exact decide_eq_false z)
  have cs : kd S w = 0 ∨ kd S w = 1 ∨ kd S w = 2 ∨ kd S w = 3 ∨ kd S w = 4 ∨ kd S w = 5 := by omega
  rcases cs with e | e | e | e | e | e
  all_goals
    unfold wob kcl at ho ho'
    rw [e] at ho ho'
    simp only [Nat.reduceEqDiff, if_true, if_false] at ho ho'
  · exact ⟨10, _, ho' _, Or.inr (Or.inr (Or.inr (Or.inr (Or.inr ⟨rfl, no (by omega)⟩))))⟩
  · refine ⟨1, _, ho' _, Or.inr (Or.inl ⟨rfl, ⟨fun q => ⟨isO_of (ho' _), go1_X1 (ho' _) (go (gI_of (aput_s _ _ _) rfl ?_))⟩, fun q => ⟨⟨_, _, by decide, ho' _⟩, no (fun z => q ((eq 1 (by omega)).mpr (by omega)))⟩⟩⟩)⟩
    have e1 := (eq 1 (by omega)).mp q
    have := H1 (yes (by omega))
    unfold mrk at this
    rw [if_pos e1] at this
    rw [Int32.zero_add]
    exact this _ _ _ _ _ _ _ _
  · refine ⟨0, _, ho' _, Or.inl ⟨rfl, ⟨fun q => ?_, fun q => ⟨⟨_, _, by decide, ho' _⟩, no (fun z => q ((eq 2 (by omega)).mpr (by omega)))⟩⟩⟩⟩
    have e1 := (eq 2 (by omega)).mp q
    exact both 0 _ (Or.inl rfl) (ho' _) e1 (yes (by omega))
  · refine ⟨2, _, ho' _, Or.inr (Or.inr (Or.inl ⟨rfl, ⟨fun q => ⟨⟨_, _, by decide, ho' _⟩, no (fun z => q ((eq 3 (by omega)).mpr (by omega)))⟩, fun q => ?_⟩⟩))⟩
    have e1 := (eq 3 (by omega)).mp q
    exact next (ho' _) (by decide) e1 (H1' (yes (by omega)))
  · refine ⟨8, _, ho' _, Or.inr (Or.inr (Or.inr (Or.inr (Or.inl ⟨rfl, ⟨fun q => ⟨⟨_, _, by decide, ho' _⟩, ⟨fun q2 => ⟨⟨_, _, by decide, ho' _⟩, no (fun z => ?_)⟩, fun q2 => ?_⟩⟩, fun q => ⟨isO_of (ho' _), ?_⟩⟩⟩))))⟩
    · rcases z with z | z | z
      · exact q ((eq 4 (by omega)).mpr (by omega))
      · exact q2 ((eq 3 (by omega)).mpr (by omega))
      · omega
    · have e1 := (eq 3 (by omega)).mp q2
      exact next (ho' _) (by decide) e1 (H1' (yes (by omega)))
    · have e1 := (eq 4 (by omega)).mp q
      have H2 := H1 (yes (by omega))
      unfold mrk at H2
      rw [if_neg (by omega), if_neg (by omega), if_neg (by omega), if_pos e1] at H2
      have hn := nxt_lt w4 w6
      have I := TI.zero D
      rw [← ts_0 (S := S) (rd := rd) (lw := nI law) (bf := nI c) (by_ := by_) (py := 0) (ca := 0) (mv := 0) D.1]
      refine gW_of (ho' _) (by decide) rfl (gW_of (ho' _) (by decide) rfl (gW_of (ho' _) (by decide) rfl (c_next (by omega) (by omega) w7 ⟨isO_of (aput_s h t _), c_firstT (law := 1) W C hX I (by omega) w4 hn (fun e => ⟨isO_of (aput_s h t _), ⟨fun _ => ?_, fun q => absurd m1_lt q⟩⟩) (fun p k e1 e2 e3 e4 e5 e6 => ⟨isO_of (aput_s h t _), ?_⟩)⟩)))
      · rw [fpo_near w7] at e
        cases z : tk S (tr0 c).1 (fr S w) 1 with
        | none =>
          rw [z] at H2
          exact H2 _ _ _ _ _ _ _ _
        | some y =>
          rw [z] at e
          dsimp only at e
          exact absurd e (by unfold nxt; split <;> omega)
      · rw [fpo_near w7] at e1
        cases z : tk S (tr0 c).1 (fr S w) 1 with
        | none =>
          rw [z] at e1
          exact absurd e1.symm e2
        | some y =>
          rw [z] at e1 H2
          dsimp only at e1 H2
          subst e1
          rw [z] at e4
          have : y = k := Option.some.inj e4
          subst this
          have C2 := C.put (e := ts S rd (nI law) (nI c) by_ 0 0 0 (tr0 c)) hX
          obtain ⟨nn, hm, wy, fo, fn, fh, fw, ff, wa, st, x1, x2, x3, x4, x5, c1, c2, -, -, -, c6, -⟩ := id C2
          refine ⟨fun q => absurd q (nI_n0 (by omega)), fun _ => gR_of (aput_s h t _) rfl (gI_of c1 rfl ⟨fun q => absurd q ?_, fun _ => gR_of (aput_s h t _) rfl (gR_of c1 rfl (lI_of c2 (vp_in_nI (by omega) (by omega)) ?_))⟩)⟩
          · rw [W.2.1, nI_leI (by omega) (by omega)]; omega
          · rw [nI_clamp (by omega), (c6 y e5).1, (W.2.2.2.2.2.2.2.2.1 y e5).1]
            exact H2 _ _ _ _ _ _ _ _
  · refine ⟨3, _, ho' _, Or.inr (Or.inr (Or.inr (Or.inl ⟨rfl, ⟨fun q => ⟨⟨_, _, by decide, ho' _⟩, ⟨fun q2 => ?_, fun q2 => ⟨⟨_, _, by decide, ho' _⟩, no (fun z => ?_)⟩⟩⟩, fun q => gW_of (ho' _) (by decide) rfl (gW_of (ho' _) (by decide) rfl ?_)⟩⟩)))⟩
    · have e1 := (eq 2 (by omega)).mp q2
      exact both 3 _ (Or.inr rfl) (ho' _) e1 (yes (by omega))
    · rcases z with z | z | z
      · exact q ((eq 5 (by omega)).mpr (by omega))
      · omega
      · exact q2 ((eq 2 (by omega)).mpr (by omega))
    · have e1 := (eq 5 (by omega)).mp q
      have H2 := H1' (yes (by omega))
      unfold mrk at H2
      rw [if_neg (by omega), if_neg (by omega), if_neg (by omega), if_neg (by omega)] at H2
      have e3 : (nI (to_ S w) - nI (fr S w)).toInt = (to_ S w : Int) - fr S w := pk_sub_toInt (by omega) (by omega)
      have e4 : (if 0 ≤ (nI (to_ S w) - nI (fr S w)) then (nI (to_ S w) - nI (fr S w)) else 0 - (nI (to_ S w) - nI (fr S w)) : Int32) = nI (if to_ S w ≤ fr S w then fr S w - to_ S w else to_ S w - fr S w) := by
        refine ti_ext ?_
        by_cases g : 0 ≤ nI (to_ S w) - nI (fr S w)
        · rw [if_pos g, e3]
          rw [tle, e3, ti_0] at g
          rw [nI_toInt (by split <;> omega)]
          split <;> omega
        · rw [if_neg g, ti_sub (by rw [e3, ti_0]; omega) (by rw [e3, ti_0]; omega), e3, ti_0]
          rw [tle, e3, ti_0] at g
          rw [nI_toInt (by split <;> omega)]
          split <;> omega
      rw [e4, show (2 : Int32) = nI 2 from rfl, pk_mul]
      exact H2
theorem m_mark {w v : Nat} {Q : Int32 → AH → Prop} (M : RM h S u l) (W : WF S) (hw : w < wN S) (hv : 1 ≤ v) (hv5 : v ≤ 5)
    (H0 : iofB (kd S w) v = false → ∀ h1, RM h1 (fnd S 3) u l → Mag h h1 → Q (-3) h1)
    (H1 : iofB (kd S w) v = true → ∀ h1, RM h1 S u l → Mag h h1 → Q (mrk S (stN S) w (rlN S) v) h1) : f_X12_mark 102 (nI w) (nI v) h Q := by
  obtain ⟨w1, w2, w3, w4, w5, w6, w7, w8⟩ := id W
  obtain ⟨k1, k2, k3, k4, k5, k6, k7⟩ := w3.2.2.2.2.2.2.2.2.2.2 w hw
  have hs5 := w3.2.2.2.2.2.1
  have hp7 := w3.2.2.2.1
  have hw5 := w3.2.2.2.2.2.2.1
  have cb := Cd_lt w3 w4.2
  obtain ⟨mi, ma, R, A, Wm, Tm, F, Rd, Lg, Kp⟩ := id M
  refine ⟨R.o, m_isW w3 R A.2.2.2.2.1 (fun q => absurd ⟨nI_pos' (by omega), by rw [w3.2.2.1]; exact nI_lt hw (by omega)⟩ q) (fun _ _ => br1 (m_in (a := 1) (b := 5) (fun q => absurd ⟨nI_le (a := 1) (by omega) (by omega), nI_le (b := 5) (by omega) (by omega)⟩ q) (fun _ _ => rb1 (m_kind w3 Rd (MS.any R) hw (m_isOf (by omega) (by omega) ?_)))))⟩
  cases e : iofB (kd S w) v with
  | false => exact rb0 ⟨R.o, m_find (f := 3) (by omega) M (H0 e)⟩
  | true =>
    refine rb1 (m_gI R (mg17 _ _ _) (m_gI R (mg16 _ _ _) ?_))
    rw [A.2.2.2.2.2.2.1, A.2.2.2.2.2.1, w4.1, w5.1]
    have eq : ∀ k, k < 9 → (nI v = nI k ↔ v = k) := fun k hk => nI_eqI (by omega) (by omega)
    refine ⟨R.o, m_behind w3 Rd A.2.2.1 A.2.2.2.1 w4.2 hw w5.2 R fun h3 M3 => ?_⟩
    have RM3 := RM.ofMS R A Wm Tm F Rd Lg Kp M3
    have H2 := H1 e h3 RM3 M3.mag
    have tb := TB.bh (c := stN S) (w := w) (law := rlN S) w3
    have nlt := Cd_lt w3 (Cd_nx (law := rlN S) w3 w4.2 hw)
    obtain ⟨mi3, ma3, R3, g3, m1, m2, -, m4, m5⟩ := id M3
    unfold mrk at H2
    refine ⟨fun z => ?_, fun z => ?_, fun z => ?_, fun z => ?_, fun z1 z2 z3 z4 => ?_⟩
    · have z := (eq 1 (by omega)).mp z
      rw [if_pos z] at H2
      have tm : ∀ (k : Nat) (K : Int32 → Prop), k < 5 → K (nI ((bhd S (stN S) w (rlN S)).2.1 k)) → gR h3 102 12 37 (fun a => lI h3 a (nI k) K) := fun k K hk z => m_gR R3 (mr37 _ _ _) (m_lI R3 (j := 23) rfl rfl rfl (vp_in_nI hk (by omega)) (by rw [nI_clamp (by omega), m4 k hk]; exact z))
      refine tm 0 _ (by omega) (tm 1 _ (by omega) (tm 2 _ (by omega) (tm 3 _ (by omega) (tm 4 _ (by omega) ?_))))
      obtain ⟨m, hm⟩ : ∃ m, 5 = sN S + m := ⟨5 - sN S, by omega⟩
      rw [← sm_ext tb.2.2 m, ← hm] at H2
      rw [nI_add, nI_add, nI_add, nI_add]
      simp only [sm, Nat.zero_add] at H2
      exact H2
    · have z := (eq 2 (by omega)).mp z
      rw [if_neg (by omega), if_pos z] at H2
      refine lpA (L := L_X12_mark_129 Q 102 (nI (nx S (rlN S) (stN S) w))) (fun i => nI (umv (stN S) (nx S (rlN S) (stN S) w) i)) (sN S) (fun k => m_gI R3 (mg10 _ _ _) ⟨fun _ => H2, fun q => absurd (by rw [m1 10 (by omega), A.2.2.2.1, w3.2.1]; exact Int32.le_refl _) q⟩) (fun i k hi K => m_gI R3 (mg10 _ _ _) ⟨fun q => absurd q ?_, fun _ => m_spot nlt (by omega) (m_gI R3 (mg17 _ _ _) ?_)⟩)
      · rw [m1 10 (by omega), A.2.2.2.1, w3.2.1, nI_leI (by omega) (by omega)]; omega
      · rw [m1 17 (by omega), A.2.2.2.2.2.2.1, w4.1]
        refine m_spot cb (by omega) ?_
        have d1 := dig_lt (stN S) i
        have d2 := dig_lt (nx S (rlN S) (stN S) w) i
        rw [nI_eqI (by omega) (by omega), nI_1]
        rw [umv] at K
        refine ⟨fun q => ?_, fun q => ?_⟩
        · rw [if_neg (Ne.symm q)] at K; rw [Int32.add_zero]; exact K
        · rw [if_pos q.symm] at K; rw [nI_1]; exact K
    · have z := (eq 3 (by omega)).mp z
      rw [if_neg (by omega), if_neg (by omega), if_pos z] at H2
      refine m_from w3 Rd M3 hw (m_to w3 Rd M3 hw ?_)
      rw [nI_leI (by omega) (by omega)]
      unfold nxt at H2
      refine ⟨fun y => m_from w3 Rd M3 hw ?_, fun y => m_from w3 Rd M3 hw ?_⟩
      · rw [if_neg (by omega)] at H2
        rw [show (1 : Int32) = nI 1 from rfl, pk_sub (by omega)]
        exact H2
      · rw [if_pos (by omega)] at H2
        rw [nI_1]
        exact H2
    · have z := (eq 4 (by omega)).mp z
      rw [if_neg (by omega), if_neg (by omega), if_neg (by omega), if_pos z] at H2
      have k4 : kd S w = 4 := by
        have := of_decide_eq_true e
        omega
      have e38 : mi3 38 = nI (match tk S (tr0 (stN S)).1 (fr S w) 1 with | none => 0 | some k => nu S k) := by
        rw [m5]
        unfold bhd
        dsimp only
        rw [if_pos k4, if_neg (by omega)]
        cases tk S (tr0 (stN S)).1 (fr S w) 1 with
        | none => rfl
        | some k => exact congrArg nI (Nat.zero_add _)
      refine m_gI R3 (mg38 _ _ _) ?_
      rw [e38]
      cases y : tk S (tr0 (stN S)).1 (fr S w) 1 with
      | none =>
        rw [y] at H2
        exact ⟨fun q => absurd rfl q, fun _ => H2⟩
      | some k =>
        rw [y] at H2
        have n1 := (w3.2.2.2.2.2.2.2.2.1 k (tkn_lt y)).2
        refine ⟨fun _ => m_gI R3 (mg38 _ _ _) ?_, fun q => ?_⟩
        · rw [e38, y]
          exact H2
        · have := (nI_eqI (a := nu S k) (b := 0) (by omega) (by omega)).mp q
          omega
    · have y1 : v ≠ 1 := fun q => z1 ((eq 1 (by omega)).mpr q)
      have y2 : v ≠ 2 := fun q => z2 ((eq 2 (by omega)).mpr q)
      have y3 : v ≠ 3 := fun q => z3 ((eq 3 (by omega)).mpr q)
      have y4 : v ≠ 4 := fun q => z4 ((eq 4 (by omega)).mpr q)
      rw [if_neg y1, if_neg y2, if_neg y3, if_neg y4] at H2
      refine m_from w3 Rd M3 hw (m_to w3 Rd M3 hw (m_abs (a := fr S w) (b := to_ S w) (by omega) (by omega) rfl ?_))
      rw [show (2 : Int32) = nI 2 from rfl, pk_mul]
      exact H2
theorem op_mark {a b : Int32} (I : Inv h n) : f_X11_mark 1 a b h (fun x h1 => f_X12_mark 102 a b h1 (fun y h2 => x = y ∧ Inv h2 n)) := by
  obtain ⟨S, u, l, R, M, W⟩ := I
  obtain ⟨mi, ma, R1, A, -⟩ := id M
  obtain ⟨w1, w2, w3, w4, w5, w6, w7, w8⟩ := id W
  have hw5 := w3.2.2.2.2.2.2.1
  obtain ⟨rd, X, c1, C, xr⟩ := R.road
  have x13 : ¬ X 13 := fun z => by have := xr 13 z; unfold radr at this; omega
  have C8 : Ctri h 13 := by
    obtain ⟨rd, fa, li, qu, N, X, c1, c2, c3, c4, c5, c6, c7, c8, -⟩ := R
    exact c8
  unfold f_X11_mark
  refine gR_of c1 rfl ⟨C.o, ?_⟩
  by_cases q : 0 ≤ a ∧ a < S 9 0 0
  · obtain ⟨q1, q2⟩ := q
    have q2' := q2
    rw [w3.2.2.1] at q2
    obtain ⟨w, hw, rfl⟩ := lt_nI (x := a) (m := wN S) (by omega) q1 q2
    have isw : ∀ {h1 : AH} {Q : Int32 → AH → Prop}, RepM h1 mi u l ma → Q 1 h1 → f_X12_isWalker 102 (nI w) h1 Q := fun r H => m_isW w3 r A.2.2.2.2.1 (fun q => absurd ⟨q1, q2'⟩ q) (fun _ _ => H)
    have bad : ¬ (1 ≤ b ∧ b ≤ 5) → f_X12_mark 102 (nI w) b h (fun y h2 => (-1 : Int32) = y ∧ Inv h2 n) := fun q => ⟨R1.o, isw R1 (br1 (m_in (a := 1) (b := 5) (fun _ => rb0 ⟨rfl, S, u, l, R, M, W⟩) (fun q1 q2 => absurd ⟨q1, q2⟩ q)))⟩
    refine c_walkerAt w3 C hw fun wa xw hwo => ⟨fun q => (by cases q), fun a4 q => ?_⟩
    cases q
    refine ⟨fun p1 => bad (by grind), fun p1 => ⟨fun p2 => ?_, fun p2 => bad (by grind)⟩⟩
    obtain ⟨v, hv6, rfl⟩ := lt_nI (x := b) (m := 6) (by omega) (by grind) (by grind [show nI 6 = 6 from rfl])
    have hv : 1 ≤ v := by
      by_cases z : v = 0
      · subst z; exact absurd (by decide) p1
      · omega
    refine gR_of c1 rfl (gR_of c1 rfl (gI_of c1 rfl (gI_of c1 rfl ⟨by obtain ⟨_, _, _, _, _, _, _, _, z⟩ := C8; exact isO_of z, c_tbegin C8 fun by_ => ?_⟩)))
    rw [w4.1, w5.1]
    refine gR_of ((aput_n h _ (by omega)).trans c1) rfl (c_tells w3 C x13 w4.2 w5.2 hw hwo (fun z => x13 (z ▸ xw)) hv (by omega) (fun e => ?_) (fun e rd lw bf st by_ py ca mv => ?_))
    · have R2 : RC (aput h 13 (trip rd (nI (rlN S)) (nI (stN S)) (nI (stN S)) by_ 0 0 0)) S u l n := R.put13
      refine ⟨fun z => absurd rfl z, fun _ => ⟨R2.o, c_found (f := 3) (by omega) R2 (fun h1 r1 a1 => ?_)⟩⟩
      have ag : Cag h h1 := (Cag.put (by omega)).tr a1
      exact m_mark (M.keep ag) W hw hv (by omega) (fun _ h2 r2 a2 => ⟨rfl, Inv.of r1 r2 a2 (WF_fnd W 3)⟩) (fun e2 => by rw [e] at e2; cases e2)
    · have R2 : RC (aput h 13 (trip rd lw bf st by_ py ca mv)) S u l n := R.put13
      have ag : Cag h (aput h 13 (trip rd lw bf st by_ py ca mv)) := Cag.put (by omega)
      refine ⟨fun _ => ?_, fun z => absurd z (mrk_ne w3 hw)⟩
      exact m_mark (M.keep ag) W hw hv (by omega) (fun e2 => by rw [e] at e2; cases e2) (fun _ h2 r2 a2 => ⟨rfl, Inv.of R2 r2 a2 W⟩)
  · refine c_walkerN C q ⟨fun _ => ⟨R1.o, m_isW w3 R1 A.2.2.2.2.1 (fun _ => br0 ⟨rfl, S, u, l, R, M, W⟩) (fun q1 q2 => absurd ⟨q1, q2⟩ q)⟩, fun a4 z => by cases z⟩
end MARK
