section M5
variable {h : AH} {S : SS} {u l : Int64} {n : Nat} {Q : Int32 → AH → Prop}
theorem m_copy_L {a b x y z : Nat} {mi : Nat → Int32} {f : Nat → Int32} (ha : a < 6) (hb : b < 6) (hx : x + z ≤ 60) (hy : y + z ≤ 60) : ∀ (m t : Nat) (h : AH) (ma : Nat → Nat → Int32), t + m = z → RepM h mi u l ma → (y ≤ x → ∀ q, ma 1 q = if 60 * b + y ≤ q ∧ q < 60 * b + y + t then f (60 * a + x + (q - (60 * b + y))) else f q) → (¬ y ≤ x → ∀ q, ma 1 q = if 60 * b + y + (z - t) ≤ q ∧ q < 60 * b + y + z then f (60 * a + x + (q - (60 * b + y))) else f q) → (∀ h1 g, RepM h1 mi u l (va_up ma 1 g) → Mag h h1 → (∀ q, g q = if 60 * b + y ≤ q ∧ q < 60 * b + y + z then f (60 * a + x + (q - (60 * b + y))) else f q) → Q 1 h1) → L_X12_copy_104 Q 102 (nI a) (nI x) (nI b) (nI y) (nI z) (m + 1) (nI t) h := by
  intro m
  induction m with
  | zero =>
    intro t h ma ht R I1 I2 H
    show B_X12_copy_104 _ _ _ _ _ _ _ _ _ _
    unfold B_X12_copy_104
    refine pk_le z t (fun q => ?_) (fun q => by omega)
    refine H h (ma 1) (by rw [va_up_id]; exact R) Mag.rf (fun q => ?_)
    by_cases c : y ≤ x
    · rw [I1 c q, show t = z by omega]
    · rw [I2 c q, show 60 * b + y + (z - t) = 60 * b + y by omega]
  | succ m ih =>
    intro t h ma ht R I1 I2 H
    show B_X12_copy_104 _ _ _ _ _ _ _ _ _ _
    unfold B_X12_copy_104
    have step : ∀ p, p < z → (y ≤ x → p = t) → (¬ y ≤ x → p = z - 1 - t) → B_X12_copy_129 Q (L_X12_copy_104 Q 102 (nI a) (nI x) (nI b) (nI y) (nI z) (m + 1)) 102 (nI a) (nI x) (nI b) (nI y) (nI z) (nI t) (nI p) h := by
      intro p hp p1 p2
      unfold B_X12_copy_129
      refine m_gR R (mr1 _ _ _) (m_gR R (mr1 _ _ _) ?_)
      rw [ix60, ix60, nI_add, nI_add]
      refine m_lI R (j := 1) rfl rfl rfl (vp_in_nI (by omega) (by omega)) (m_sI R (j := 1) rfl rfl rfl (vp_in_nI (by omega) (by omega)) (fun h1 r1 a1 => ?_))
      rw [nI_1, nI_clamp (by omega), nI_clamp (by omega)] at *
      have rd : ma 1 (60 * a + x + p) = f (60 * a + x + p) := by
        by_cases c : y ≤ x
        · rw [I1 c, if_neg (by have := p1 c; omega)]
        · rw [I2 c, if_neg (by have := p2 c; omega)]
      rw [rd] at r1
      refine ih (t + 1) h1 _ (by omega) r1 (fun c q => ?_) (fun c q => ?_) (fun h2 g r2 a2 hg => H h2 g ?_ (a1.tr a2) hg)
      · rw [va_up_self]
        have e := p1 c
        by_cases e2 : q = 60 * b + y + p
        · rw [e2, pk_us, if_pos (by omega)]
          congr 1
          omega
        · rw [pk_un e2, I1 c q]
          by_cases e3 : 60 * b + y ≤ q ∧ q < 60 * b + y + t
          · rw [if_pos e3, if_pos (by omega)]
          · rw [if_neg e3, if_neg (by omega)]
      · rw [va_up_self]
        have e := p2 c
        by_cases e2 : q = 60 * b + y + p
        · rw [e2, pk_us, if_pos (by omega)]
          congr 1
          omega
        · rw [pk_un e2, I2 c q]
          by_cases e3 : 60 * b + y + (z - t) ≤ q ∧ q < 60 * b + y + z
          · rw [if_pos e3, if_pos (by omega)]
          · rw [if_neg e3, if_neg (by omega)]
      · rw [bx_uu] at r2; exact r2
    refine pk_le z t (fun q => by omega) (fun q => pk_le y x (fun c => step t (by omega) (fun _ => rfl) (fun d => absurd c d)) (fun c => ?_))
    have e1 : (nI z - (1 : Int32)) - nI t = nI (z - 1 - t) := by
      show (nI z - nI 1) - nI t = _
      rw [pk_sub (by omega), pk_sub (by omega)]
    rw [e1]
    exact step (z - 1 - t) (by omega) (fun d => by omega) (fun _ => rfl)
theorem w_sum {x y z : Int32} : (z.toInt64 < x.toInt64 + y.toInt64) ↔ z.toInt < x.toInt + y.toInt := by
  rw [Int64.lt_iff_toInt_lt, Int64.toInt_add, Int32.toInt_toInt64, Int32.toInt_toInt64, Int32.toInt_toInt64]
  have h1 := Int32.le_toInt x
  have h2 := Int32.toInt_lt x
  have h3 := Int32.le_toInt y
  have h4 := Int32.toInt_lt y
  rw [Int.bmod_eq_of_le (by omega) (by omega)]
theorem op_copy {r i t j k : Int32} (I : Inv h n) : f_X11_copy 1 r i t j k h (fun x h1 => f_X12_copy 102 r i t j k h1 (fun y h2 => x = y ∧ Inv h2 n)) := by
  obtain ⟨S, u, l, R, M, W⟩ := I
  unfold f_X12_copy
  refine C_copy W R (fun q => ?_) (fun a b ha hb e1 e2 q h1 r1 a1 => ?_) (fun a b ha hb e1 e2 q q2 h1 r1 a1 => ?_) (fun a b ha hb e1 e2 q q2 q3 d h1 r1 a1 => ?_) (fun a b ha hb e1 e2 x y z ex ey ez z1 z2 h1 r1 a1 => ?_)
  · exact m_isRow (fun _ => br0 ⟨rfl, S, u, l, R, M, W⟩) (fun c1 c2 => br1 (m_isRow (fun _ => rb0 ⟨rfl, S, u, l, R, M, W⟩) (fun c3 c4 => by grind)))
  all_goals
    have M1 := M.keep a1
    subst e1 e2
    refine m_rowJ ha (br1 (m_rowJ hb (rb1 ?_)))
  · exact ⟨fun c => by grind, fun _ => ⟨M1.o, m_find (f := 5) (by omega) M1 (fun h2 r2 a2 => ⟨rfl, Inv.of r1 r2 a2 (WF_fnd W 5)⟩)⟩⟩
  · have miss : B_X12_copy_45 (fun y h2 => -3 = y ∧ Inv h2 n) 102 h1 := ⟨M1.o, m_find (f := 1) (by omega) M1 (fun h2 r2 a2 => ⟨rfl, Inv.of r1 r2 a2 (WF_fnd W 1)⟩)⟩
    exact ⟨fun _ => m_size ha M1 ⟨fun _ => miss, fun c => m_size hb M1 ⟨fun c2 => by grind, fun _ => miss⟩⟩, fun c => absurd q c⟩
  · have bey : B_X12_copy_95 (fun y h2 => -3 = y ∧ Inv h2 n) 102 h1 := ⟨M1.o, m_find (f := 2) (by omega) M1 (fun h2 r2 a2 => ⟨rfl, Inv.of r1 r2 a2 (WF_fnd W 2)⟩)⟩
    refine ⟨fun _ => m_size ha M1 ⟨fun c => by grind, fun _ => m_size hb M1 ⟨fun _ => ⟨fun _ => bey, fun c1 => ⟨fun _ => bey, fun c2 => m_size ha M1 ⟨fun _ => bey, fun c3 => m_size hb M1 ⟨fun c4 => ?_, fun _ => bey⟩⟩⟩⟩, fun c => absurd q3 c⟩⟩, fun c => absurd q c⟩
    rw [← Int64.not_lt] at c4
    rw [w_sum] at c3 c4
    exact absurd ⟨by grind, by omega, by grind, by omega⟩ d
  · have za := (W.1 a ha).2
    have zb := (W.1 b hb).2
    subst ex ey ez
    have s1 : ¬ ((S 0 a 0).toInt64 < (nI x).toInt64 + (nI z).toInt64) := by
      rw [w_sum, nI_toInt (by omega), nI_toInt (by omega)]; omega
    have s2 : (nI y).toInt64 + (nI z).toInt64 ≤ (S 0 b 0).toInt64 := by
      rw [← Int64.not_lt, w_sum, nI_toInt (by omega), nI_toInt (by omega)]; omega
    have s3 : 0 ≤ S 0 a 0 := by
      rw [Int32.le_iff_toInt_le]; show (0 : Int) ≤ _; omega
    have s4 : 0 ≤ S 0 b 0 := by
      rw [Int32.le_iff_toInt_le]; show (0 : Int) ≤ _; omega
    refine ⟨fun _ => m_size ha M1 ⟨fun c => absurd c (Int32.not_lt.mpr s3), fun _ => m_size hb M1 ⟨fun _ => ⟨fun c => absurd c (nI_pos (by omega)), fun _ => ⟨fun c => absurd c (nI_pos (by omega)), fun _ => m_size ha M1 ⟨fun c => absurd c s1, fun _ => m_size hb M1 ⟨fun _ => ⟨z + 1, ?_⟩, fun c => absurd s2 c⟩⟩⟩⟩, fun c => absurd s4 c⟩⟩, fun c => absurd (nI_pos' (by omega)) c⟩
    obtain ⟨mi, ma, R1, A, Wm, T, F, Rd, Lg, Kp⟩ := M1
    refine m_copy_L (f := ma 1) ha hb (by omega) (by omega) z 0 h1 ma (by omega) R1 (fun _ q => by rw [if_neg (by omega)]) (fun _ q => by rw [if_neg (by omega)]) (fun h2 g r2 a2 hg => ⟨rfl, Inv.of r1 ?_ a2 ?_⟩)
    · refine RM.keepW (c := 0) (Or.inl rfl) r2 A Wm T F Rd Lg Kp (fun j i x y => by rw [va_up_ne _ _ y]) (fun c' i j x y => cpS_c y) (fun _ => ⟨fun r hr => ?_, fun r hr i hi => ?_⟩) (fun q => absurd q (by omega))
      · rw [va_up_ne _ _ (by omega), cpS_c (by omega)]; exact Wm.1 r hr
      · rw [cpS_c (by omega)] at hi
        have h6 := (W.1 r hr).2
        rw [va_up_self, hg]
        unfold cpS
        by_cases e : r = b ∧ y ≤ i ∧ i < y + z
        · rw [if_pos (by omega), if_pos ⟨rfl, e⟩]
          rw [show 60 * a + x + (60 * r + i - (60 * b + y)) = 60 * a + (x + (i - y)) by omega]
          exact Wm.2 a ha _ (by omega)
        · rw [if_neg (by omega), if_neg (fun q => e q.2)]
          exact Wm.2 r hr i hi
    · exact WF_rows W (fun c' i j x => cpS_c (by omega)) (fun r hr => by rw [cpS_c (by omega)]; exact W.1 r hr) (fun r hr => by rw [cpS_c (by omega)]; exact W.2.1 r hr)
end M5
