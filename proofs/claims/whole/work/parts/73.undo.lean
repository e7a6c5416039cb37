section UNDO
variable {h : AH} {S : SS} {u l : Int64} {n : Nat}
theorem dyn_dyn {a b c a1 b1 c1 : Int32} : dynS (dynS S a b c) a1 b1 c1 = dynS S a1 b1 c1 := by
  funext x y z
  unfold dynS up
  split
  · rfl
  · split
    · rfl
    · split
      · rfl
      · rfl
/-- all walks but the first m are undone -/
def undS (S : SS) (m : Nat) : SS := if m < dnN S then dynS S (S 18 m 0) (S 15 0 0) (nI m) else S
theorem i32_sub (x y : Int32) : x + y - y = x := Int32.add_sub_cancel x y
theorem m_undo_L {mi : Nat → Int32} {d : Nat} {Q : Int32 → AH → Prop} {K : AH → Prop} {v1 v2 : Int32} (hd : d < 60) (e20 : mi 20 = nI d) : ∀ (m i : Nat) (h : AH) (ma : Nat → Nat → Int32), i + m = 5 → RepM h mi u l ma →
    (∀ h1 g, RepM h1 mi u l (va_up ma 10 g) → Mag h h1 → (∀ k, i ≤ k → k < 5 → g k = ma 10 k - ma 14 (5 * d + k)) → (∀ k, k < i → g k = ma 10 k) → K h1) → L_X12_undo_82 Q K 102 v1 v2 (m + 1) (nI i) h := by
  intro m
  induction m with
  | zero =>
    intro i h ma hi R H
    have : i = 5 := by omega
    subst this
    refine ⟨fun _ => H h (ma 10) (by rw [va_up_id]; exact R) Mag.rf (fun k x y => by omega) (fun _ _ => rfl), fun q => absurd (by decide) q⟩
  | succ m ih =>
    intro i h ma hi R H
    have v5 : vp_in (nI i) 5 := vp_in_nI (by omega) (by omega)
    refine ⟨fun q => absurd q (by rw [show (5 : Int32) = nI 5 from rfl, nI_leI (by omega) (by omega)]; omega), fun _ => m_gR R (mr19 _ _ _) (m_lI R (j := 10) rfl rfl rfl v5 (m_gR R (mr24 _ _ _) (m_gI R (mg20 _ _ _) ?_)))⟩
    rw [e20, show (5 : Int32) = nI 5 from rfl, pk_mul, nI_add, nI_1]
    refine m_lI R (j := 14) rfl rfl rfl (vp_in_nI (by omega) (by omega)) (m_sI R (j := 10) rfl rfl rfl v5 (fun h1 r1 a1 => ?_))
    rw [nI_clamp (by omega), nI_clamp (by omega)] at r1
    refine ih (i + 1) h1 _ (by omega) r1 (fun h2 g r2 a2 z1 z2 => H h2 g ?_ (a1.tr a2) (fun k k1 k2 => ?_) (fun k hk => ?_))
    · have e : va_up (va_up ma 10 (upd (ma 10) i (ma 10 i - ma 14 (5 * d + i)))) 10 g = va_up ma 10 g := bx_uu _ _ _ _
      rw [e] at r2
      exact r2
    · by_cases e : k = i
      · subst e
        rw [z2 _ (by omega), va_up_self, pk_us]
      · rw [z1 k (by omega) k2, va_up_self, pk_un e, va_up_ne _ _ (by omega)]
    · rw [z2 k (by omega), va_up_self, pk_un (by omega)]
theorem m_undo {m : Nat} {v2 : Int32} {Q : Int32 → AH → Prop} : ∀ (e : Nat) (S : SS) (h : AH), dnN S = m + e → WF S → RM h S u l → (∀ h1, RM h1 (undS S m) u l → Mag h h1 → Q v2 h1) → L_X12_undo_23 Q 102 (nI m) v2 (e + 1) h := by
  intro e
  induction e with
  | zero =>
    intro S h hd W M H
    obtain ⟨w1, w2, w3, w4, w5, w6, w7, w8⟩ := id W
    obtain ⟨mi, ma, R, A, -⟩ := id M
    refine m_gI R (mg20 _ _ _) ?_
    rw [A.2.2.2.2.2.2.2, w6.1, nI_leI (by omega) (by omega)]
    refine ⟨fun _ => H h ?_ Mag.rf, fun q => by omega⟩
    unfold undS
    rw [if_neg (by omega)]
    exact M
  | succ e ih =>
    intro S h hd W M H
    obtain ⟨w1, w2, w3, w4, w5, w6, w7, w8⟩ := id W
    obtain ⟨mi, ma, R, A, Wm, T, F, Rd, Lg, Kp⟩ := id M
    have e20 : mi 20 = nI (dnN S) := A.2.2.2.2.2.2.2.trans w6.1
    have hw5 := w3.2.2.2.2.2.2.1
    generalize hD : m + e = d
    have dd : dnN S = d + 1 := by omega
    obtain ⟨⟨b, e17, hb⟩, ⟨c, e18, hc⟩, ⟨p, e19, hp⟩, e2⟩ := w7 d (by omega)
    obtain ⟨y1, y2, y3, y4⟩ := Lg.2.2 d (by omega)
    have vd : vp_in (nI d) 60 := vp_in_nI (by omega) (by omega)
    refine m_gI R (mg20 _ _ _) ?_
    rw [e20, nI_leI (by omega) (by omega)]
    refine ⟨fun q => by omega, fun _ => m_gI R (mg20 _ _ _) ?_⟩
    rw [e20, show (1 : Int32) = nI 1 from rfl, pk_sub (by omega), show dnN S - 1 = d by omega]
    refine m_pF R (by omega) (ms20 _ _ _ _) (fun h1 r1 a1 => m_gR r1 (mr22 _ _ _) (m_gI r1 (mg20 _ _ _) ?_))
    rw [pk_us]
    refine m_lI r1 (j := 12) rfl rfl rfl vd ?_
    rw [nI_clamp (by omega), y2]
    refine m_pF r1 (by omega) (ms17 _ _ _ _) (fun h2 r2 a2 => m_gR r2 (mr18 _ _ _) (m_gR r2 (mr21 _ _ _) (m_gI r2 (mg20 _ _ _) ?_)))
    rw [pk_un (by omega), pk_us]
    refine m_lI r2 (j := 11) rfl rfl rfl vd ?_
    rw [nI_clamp (by omega), y1, e17]
    have vb : vp_in (nI b) 5 := vp_in_nI (by omega) (by omega)
    refine m_lI r2 (j := 9) rfl rfl rfl vb (m_gR r2 (mr23 _ _ _) (m_gI r2 (mg20 _ _ _) ?_))
    rw [pk_un (by omega), pk_us]
    refine m_lI r2 (j := 13) rfl rfl rfl vd (m_sI r2 (j := 9) rfl rfl rfl vb (fun h3 r3 a3 => ?_))
    rw [nI_clamp (by omega), nI_clamp (by omega), y3] at r3
    refine ⟨6, m_undo_L (d := d) (by omega) (by rw [pk_un (by omega), pk_us]) 5 0 h3 _ rfl r3 (fun h4 g r4 a4 z1 _ => ?_)⟩
    have W1 : WF (dynS S (S 18 d 0) (S 15 0 0) (nI d)) := by
      rw [e18, w5.1]
      exact WF_dynS W hc w5.2 (by omega)
    have d1 : dnN (dynS S (S 18 d 0) (S 15 0 0) (nI d)) = d := by unfold dnN; rw [dynS_16]; exact nI_clamp (by omega)
    refine ih (dynS S (S 18 d 0) (S 15 0 0) (nI d)) h4 (by omega) W1 ?_ (fun h5 r5 a5 => H h5 ?_ ((((a1.tr a2).tr a3).tr a4).tr a5))
    · generalize hma : va_up (va_up ma 9 _) 10 g = ma2 at r4
      have kk : ∀ j x, j ≠ 9 → j ≠ 10 → ma2 j x = ma j x := fun j x q1 q2 => by rw [← hma, va_up_ne _ _ q2, va_up_ne _ _ q1]
      refine RM.keepD r4 dynS_D ?_ Wm T (F.keep (fun i => kk 4 i (by omega) (by omega)) (fun r => dynS_c (by omega))) Rd ⟨fun x hx => ?_, fun k hk => ?_, fun i hi => ?_⟩ (Kp.keep (fun i => kk 15 i (by omega) (by omega)) (fun i => kk 16 i (by omega) (by omega)) (fun r => dynS_c (by omega)) (fun r => dynS_c (by omega))) (fun j i hj => kk j i (by omega) (by omega))
      · obtain ⟨b1, b2, b3, b4, b5, b6, b7, b8⟩ := A
        unfold LkA
        rw [dynS_14, dynS_15, dynS_16, dynS_c (by omega), dynS_c (by omega), dynS_c (by omega), dynS_c (by omega), dynS_c (by omega), pk_us, pk_un (by omega), pk_un (by omega), pk_un (by omega), pk_un (by omega), pk_un (by omega), pk_un (by omega), pk_un (by omega), pk_un (by omega), pk_un (by omega), pk_un (by omega), pk_un (by omega), pk_un (by omega), pk_un (by omega), pk_us]
        exact ⟨b1, b2, b3, b4, b5, b6, rfl, rfl⟩
      · rw [d1]
        have s1 : smI (fun i => if dynS S (S 18 d 0) (S 15 0 0) (nI d) 17 i 0 = nI x then dynS S (S 18 d 0) (S 15 0 0) (nI d) 19 i 0 else 0) d = smI (fun i => if S 17 i 0 = nI x then S 19 i 0 else 0) d := smI_cong fun i hi => by rw [dynS_c (by omega), dynS_c (by omega)]
        rw [s1, ← hma, va_up_ne _ _ (by omega), va_up_self]
        have s2 := Lg.1 x hx
        rw [dd, smI, e17] at s2
        by_cases q : x = b
        · subst q
          rw [if_pos rfl] at s2
          rw [pk_us, s2, i32_sub]
        · rw [if_neg (fun z => q ((nI_eqI (by omega) (by omega)).mp z).symm), Int32.add_zero] at s2
          rw [pk_un q, s2]
      · rw [d1]
        have s1 : smI (fun i => dynS S (S 18 d 0) (S 15 0 0) (nI d) 20 i k) d = smI (fun i => S 20 i k) d := smI_cong fun i hi => by rw [dynS_c (by omega)]
        rw [s1, ← hma, va_up_self, z1 k (by omega) hk, va_up_ne _ _ (by omega), va_up_ne _ _ (by omega), y4 k hk]
        have s2 := Lg.2.1 k hk
        rw [dd, smI] at s2
        rw [s2, i32_sub]
      · rw [d1] at hi
        obtain ⟨x1, x2, x3, x4⟩ := Lg.2.2 i (by omega)
        rw [kk 11 _ (by omega) (by omega), kk 12 _ (by omega) (by omega), kk 13 _ (by omega) (by omega), dynS_c (by omega), dynS_c (by omega), dynS_c (by omega)]
        exact ⟨x1, x2, x3, fun k hk => by rw [kk 14 _ (by omega) (by omega), dynS_c (by omega)]; exact x4 k hk⟩
    · unfold undS at r5 ⊢
      rw [d1] at r5
      rw [if_pos (by omega)]
      by_cases q : m < d
      · rw [if_pos q, dyn_dyn, dynS_c (by omega), dynS_15] at r5
        exact r5
      · rw [if_neg q, show d = m by omega] at r5
        exact r5
end UNDO
