section K1
variable {h : AH} {S : SS} {u l : Int64} {n : Nat} {Q : Int32 → AH → Prop}
/-- the road's numbers -/
theorem c_posts {K : Int32 → Prop} (R : RC h S u l n) (H : K (S 7 0 0)) : gR h 1 11 8 (fun a => gI h a 5 4 K) := by
  obtain ⟨rd, fa, li, qu, N, X, c1, c2, c3, c4, c5, c6, c7, c8, c9, ⟨_, _, _, _, _, _, _, _, _, _, -, -, -, -, -, d1, -⟩, -⟩ := R
  exact gR_of c1 rfl (gI_of d1 rfl H)
theorem c_stones {K : Int32 → Prop} (R : RC h S u l n) (H : K (S 8 0 0)) : gR h 1 11 8 (fun a => gI h a 5 5 K) := by
  obtain ⟨rd, fa, li, qu, N, X, c1, c2, c3, c4, c5, c6, c7, c8, c9, ⟨_, _, _, _, _, _, _, _, _, _, -, -, -, -, -, d1, -⟩, -⟩ := R
  exact gR_of c1 rfl (gI_of d1 rfl H)
theorem c_walkers {K : Int32 → Prop} (R : RC h S u l n) (H : K (S 9 0 0)) : gR h 1 11 8 (fun a => gI h a 5 6 K) := by
  obtain ⟨rd, fa, li, qu, N, X, c1, c2, c3, c4, c5, c6, c7, c8, c9, ⟨_, _, _, _, _, _, _, _, _, _, -, -, -, -, -, d1, -⟩, -⟩ := R
  exact gR_of c1 rfl (gI_of d1 rfl H)
theorem nI_lit (k : Nat) : nI k = -1 → k < 2 ^ 31 → False := by
  intro e hk
  have h1 : (nI k).toInt = (-1 : Int32).toInt := by rw [e]
  rw [nI_toInt hk] at h1
  have : (-1 : Int32).toInt = -1 := rfl
  omega
theorem nI_nn (k : Nat) (hk : k < 2 ^ 31) : nI k ≠ -9 := by
  intro e
  have h1 : (nI k).toInt = (-9 : Int32).toInt := by rw [e]
  rw [nI_toInt hk] at h1
  have : (-9 : Int32).toInt = -9 := rfl
  omega
theorem Cd_lt {c : Nat} (W : WFr S) (C : Cd S c) : c < 32768 := by
  have h1 : 8 ^ sN S ≤ 8 ^ 5 := Nat.pow_le_pow_right (by omega) W.2.2.2.2.2.1
  have h2 := C.1
  omega
theorem op_keep {k : Int32} (I : Inv h n) : f_X11_keep 1 k h (fun x h1 => f_X12_keep 102 k h1 (fun y h2 => x = y ∧ Inv h2 n)) := by
  obtain ⟨S, u, l, R, M, W⟩ := I
  obtain ⟨mi, ma, R1, A, Wm, T, F, Rd, Lg, Kp⟩ := id M
  obtain ⟨_, _, _, _, _, _, -, -, -, -, -, ⟨f, g, hf, hg, hk⟩, -⟩ := id R
  unfold f_X11_keep f_X12_keep
  refine c_isBelow (fun q => rb0 (m_in (a := 0) (b := 2) (fun _ => rb0 ⟨rfl, S, u, l, R, M, W⟩) (fun q1 q2 => by grind))) (fun q1 q2 => rb1 ?_)
  obtain ⟨j, hj, rfl⟩ := lt_nI (x := k) (m := 3) (by omega) q1 q2
  have inn : ∀ {h : AH} {Q : Int32 → AH → Prop}, Q 1 h → f_X12_in (nI j).toInt64 (0 : Int64) (2 : Int64) h Q := fun H => m_in (a := 0) (b := 2) (fun q => by grind) (fun _ _ => H)
  refine c_posts R ⟨fun c => ?_, fun c => inn (rb1 (m_gI R1 (mg9 _ _ _) ⟨fun d => absurd (A.2.2.1.trans c) d, fun _ => ⟨rfl, S, u, l, R, M, W⟩⟩))⟩
  have v3 : vp_in (nI j) 3 := vp_in_nI hj (by omega)
  refine c_gR R (fun _ => rfl) (c_gI R (fun _ => rfl) (sI_of hf v3 ?_))
  obtain ⟨rd, c1⟩ := R.main
  have c1' : (aput h 5 (.inl (0, 3, .inl (upd f (nI j).toNatClampNeg (S 14 0 0))))).2.2 1 = _ := (aput_n h _ (by omega)).trans c1
  have hg' : (aput h 5 (.inl (0, 3, .inl (upd f (nI j).toNatClampNeg (S 14 0 0))))).2.2 6 = _ := (aput_n h _ (by omega)).trans hg
  refine gR_of c1' rfl (gI_of c1' rfl (sI_of hg' v3 ?_))
  rw [nI_clamp (by omega)]
  generalize hH : aput (aput h 5 (.inl (0, 3, .inl (upd f j (S 14 0 0))))) 6 (.inl (0, 3, .inl (upd g j (S 15 0 0)))) = H1
  have ag : ∀ a, a ≠ 5 → a ≠ 6 → H1.2.2 a = h.2.2 a := fun a x y => by rw [← hH, aput_n _ _ y, aput_n _ _ x]
  have HD : sameD S (up (up S 21 j 0 (S 14 0 0)) 22 j 0 (S 15 0 0)) := fun c i j hq => by rw [up_c _ _ (by omega), up_c _ _ (by omega)]
  have upc : ∀ c i k, c ≠ 21 → c ≠ 22 → up (up S 21 j 0 (S 14 0 0)) 22 j 0 (S 15 0 0) c i k = S c i k := fun c i k x y => by rw [up_c _ _ y, up_c _ _ x]
  obtain ⟨w1, w2, w3, w4, w5, w6, w7, w8⟩ := id W
  have clt := Cd_lt w3 w4.2
  have R2 : RC H1 (up (up S 21 j 0 (S 14 0 0)) 22 j 0 (S 15 0 0)) u l n := by
    refine R.keepD (fun a x y _ _ => ag a (by omega) (by omega)) (by rw [← hH]; rfl) (by rw [← hH]; rfl) HD (fun rd2 c2 => ?_) (fun c => c.keep (ag 7 (by omega) (by omega)) (fun r => upc 6 r 0 (by omega) (by omega))) (fun _ => ?_) (fun c => c.keep (fun a _ _ => ag a (by omega) (by omega)) (upc _ _ _ (by omega) (by omega)) (fun i => upc _ _ _ (by omega) (by omega)) (fun i => upc _ _ _ (by omega) (by omega)) (fun i => upc _ _ _ (by omega) (by omega)) (fun i k => upc _ _ _ (by omega) (by omega))) (fun c => c.keep (ag 13 (by omega) (by omega)))
    · unfold Cmain
      rw [ag 1 (by omega) (by omega), upc _ _ _ (by omega) (by omega), upc _ _ _ (by omega) (by omega), upc _ _ _ (by omega) (by omega), upc _ _ _ (by omega) (by omega), upc _ _ _ (by omega) (by omega)]
      exact c2
    · refine ⟨upd f j (S 14 0 0), upd g j (S 15 0 0), by rw [← hH, aput_n _ _ (by omega), aput_s], by rw [← hH, aput_s], fun i hi => ?_⟩
      by_cases e : i = j
      · subst e
        rw [pk_us, pk_us, up_s, up_c _ _ (by omega), up_s]
        refine Or.inr ⟨by rw [w4.1]; exact nI_pos' (by omega), rfl, rfl, by rw [w5.1]; exact nI_nn _ (by omega)⟩
      · rw [pk_un e, pk_un e, up_i _ _ e, up_i _ _ e, up_i _ _ e, up_i _ _ e]
        exact hk i hi
  have c1h : H1.2.2 1 = _ := (ag 1 (by omega) (by omega)).trans c1
  refine gI_of c1h rfl ?_
  have Ag : Cag h H1 := fun a x y => ag a (by omega) (by omega)
  have R1' := R1.keep Ag
  refine inn (rb1 (m_gI R1' (mg9 _ _ _) ⟨fun _ => m_gR R1' (mr25 _ _ _) (m_gI R1' (mg17 _ _ _) (m_sI R1' (j := 15) rfl rfl rfl v3 (fun h2 r2 a2 => m_gR r2 (mr26 _ _ _) (m_gI r2 (mg16 _ _ _) (m_sI r2 (j := 16) rfl rfl rfl v3 (fun h3 r3 a3 => m_gI r3 (mg20 _ _ _) ⟨A.2.2.2.2.2.2.2.symm, Inv.of R2 ?_ (a2.tr a3) ?_⟩)))))), fun d => absurd (A.2.2.1.symm.trans d) c⟩))
  · rw [nI_clamp (by omega)] at r3
    refine RM.keepD r3 HD ?_ Wm T (F.keep (fun i => by rw [va_up_ne _ _ (by omega), va_up_ne _ _ (by omega)]) (fun r => upc _ _ _ (by omega) (by omega))) Rd (Lg.keep (fun j i x y => by rw [va_up_ne _ _ (by omega), va_up_ne _ _ (by omega)]) (fun c i j x y => upc _ _ _ (by omega) (by omega))) (fun i hi => ?_) (fun j i x => by rw [va_up_ne _ _ (by omega), va_up_ne _ _ (by omega)])
    · unfold LkA
      rw [upc _ _ _ (by omega) (by omega), upc _ _ _ (by omega) (by omega), upc _ _ _ (by omega) (by omega), upc _ _ _ (by omega) (by omega), upc _ _ _ (by omega) (by omega), upc _ _ _ (by omega) (by omega), upc _ _ _ (by omega) (by omega), upc _ _ _ (by omega) (by omega)]
      exact A
    · rw [va_up_ne _ _ (by omega), va_up_self, va_up_self, va_up_ne _ _ (by omega)]
      by_cases e : i = j
      · subst e
        rw [pk_us, pk_us, up_s, up_c _ _ (by omega), up_s]
        exact ⟨A.2.2.2.2.2.2.1, fun _ => A.2.2.2.2.2.1⟩
      · rw [pk_un e, pk_un e, up_i _ _ e, up_i _ _ e, up_i _ _ e, up_i _ _ e]
        exact Kp i hi
  · have e16 : dnN (up (up S 21 j 0 (S 14 0 0)) 22 j 0 (S 15 0 0)) = dnN S := by unfold dnN; rw [upc _ _ _ (by omega) (by omega)]
    have e14 : stN (up (up S 21 j 0 (S 14 0 0)) 22 j 0 (S 15 0 0)) = stN S := by unfold stN; rw [upc _ _ _ (by omega) (by omega)]
    have e15 : rlN (up (up S 21 j 0 (S 14 0 0)) 22 j 0 (S 15 0 0)) = rlN S := by unfold rlN; rw [upc _ _ _ (by omega) (by omega)]
    refine WF_dyn W HD ?_ ?_ ?_ (fun i hi => ?_) (fun i hi => ?_)
    · rw [e14, upc _ _ _ (by omega) (by omega)]; exact w4
    · rw [e15, upc _ _ _ (by omega) (by omega)]; exact w5
    · rw [e16, upc _ _ _ (by omega) (by omega)]; exact w6
    · rw [e16] at hi
      rw [upc _ _ _ (by omega) (by omega), upc _ _ _ (by omega) (by omega), upc _ _ _ (by omega) (by omega)]
      obtain ⟨x1, x2, x3, x4⟩ := w7 i hi
      exact ⟨x1, x2, x3, fun k => by rw [upc _ _ _ (by omega) (by omega)]; exact x4 k⟩
    · by_cases e : i = j
      · subst e
        rw [up_s, up_c _ _ (by omega), up_s]
        exact Or.inr ⟨stN S, rlN S, w4.1, w4.2, w5.1, w5.2⟩
      · rw [up_i _ _ e, up_i _ _ e, up_i _ _ e, up_i _ _ e]
        exact w8 i hi
/-- clear(): no walks, nothing paid, nothing moved -/
theorem m_clear_L {mi : Nat → Int32} {Q : AH → Prop} : ∀ (m i : Nat) (h : AH) (ma : Nat → Nat → Int32), i + m = 5 → RepM h mi u l ma → (∀ h1 g1 g2, RepM h1 mi u l (va_up (va_up ma 9 g1) 10 g2) → Mag h h1 → (∀ x, i ≤ x → x < 5 → g1 x = 0 ∧ g2 x = 0) → (∀ x, x < i → g1 x = ma 9 x ∧ g2 x = ma 10 x) → Q h1) → L_X12_clear_7 Q 102 (m + 1) (nI i) h := by
  intro m
  induction m with
  | zero =>
    intro i h ma hi R H
    show B_X12_clear_7 _ _ _ _ _
    unfold B_X12_clear_7
    refine pk_le 5 i (fun q => ?_) (fun q => by omega)
    refine H h (ma 9) (ma 10) ?_ Mag.rf (fun x x1 x2 => by omega) (fun x _ => ⟨rfl, rfl⟩)
    rw [va_up_id, va_up_id]
    exact R
  | succ m ih =>
    intro i h ma hi R H
    show B_X12_clear_7 _ _ _ _ _
    unfold B_X12_clear_7
    refine pk_le 5 i (fun q => by omega) (fun q => m_gR R (mr18 _ _ _) (m_sI R (j := 9) rfl rfl rfl (vp_in_nI q (by omega)) (fun h1 r1 a1 => m_gR r1 (mr19 _ _ _) (m_sI r1 (j := 10) rfl rfl rfl (vp_in_nI q (by omega)) (fun h2 r2 a2 => ?_)))))
    rw [nI_1, nI_clamp (by omega)] at *
    refine ih (i + 1) h2 _ (by omega) r2 (fun h3 g1 g2 r3 a3 z1 z2 => H h3 g1 g2 ?_ ((a1.tr a2).tr a3) (fun x x1 x2 => ?_) (fun x x1 => ?_))
    · have e : va_up (va_up (va_up (va_up ma 9 (upd (ma 9) i 0)) 10 (upd (va_up ma 9 (upd (ma 9) i 0) 10) i 0)) 9 g1) 10 g2 = va_up (va_up ma 9 g1) 10 g2 := by
        funext a
        unfold va_up
        split
        · rfl
        · split
          · rfl
          · rfl
      rw [e] at r3
      exact r3
    · by_cases e : x = i
      · obtain ⟨y1, y2⟩ := z2 x (by omega)
        rw [y1, y2, e, va_up_ne _ _ (by omega), va_up_self, va_up_self, pk_us, pk_us]
        exact ⟨rfl, rfl⟩
      · exact z1 x (by omega) x2
    · obtain ⟨y1, y2⟩ := z2 x (by omega)
      rw [y1, y2, va_up_ne _ _ (by omega), va_up_self, va_up_self, pk_un (by omega), pk_un (by omega), va_up_ne _ _ (by omega)]
      exact ⟨rfl, rfl⟩
theorem m_clear {mi : Nat → Int32} {ma : Nat → Nat → Int32} {Q : AH → Prop} (R : RepM h mi u l ma) (H : ∀ h1 g1 g2, RepM h1 (upd mi 20 0) u l (va_up (va_up ma 9 g1) 10 g2) → Mag h h1 → (∀ x, x < 5 → g1 x = 0 ∧ g2 x = 0) → Q h1) : f_X12_clear 102 h Q := by
  unfold f_X12_clear
  exact m_pF R (by omega) (ms20 _ _ _ _) (fun h1 r1 a1 => ⟨6, m_clear_L 5 0 h1 _ (by omega) r1 (fun h2 g1 g2 r2 a2 z1 _ => H h2 g1 g2 r2 (a1.tr a2) (fun x x1 => z1 x (by omega) x1))⟩)
end K1
