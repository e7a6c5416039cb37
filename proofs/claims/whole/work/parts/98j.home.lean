/-! all at home -/
theorem cod_bit {f : Nat → Nat} : ∀ (n : Nat), (∀ k, k < n → f k < 8) → ∀ i, (cod f n).testBit i = (decide (i < 3 * n) && (f (i / 3)).testBit (i % 3))
  | 0, _, i => by
    show (0 : Nat).testBit i = _
    rw [Nat.zero_testBit, decide_eq_false (by omega)]
    rfl
  | n + 1, h, i => by
    have ih := cod_bit n (fun k hk => h k (by omega)) i
    have lt := cod_lt (f := f) (n := n) (fun k hk => h k (by omega))
    rw [p8] at lt
    have e : cod f (n + 1) = 2 ^ (3 * n) * f n + cod f n := by
      show cod f n + f n * 8 ^ n = _
      rw [p8, Nat.mul_comm, Nat.add_comm]
    rw [e, Nat.testBit_two_pow_mul_add _ lt]
    by_cases q : i < 3 * n
    · rw [if_pos q, ih, decide_eq_true q, decide_eq_true (show i < 3 * (n + 1) by omega)]
    · rw [if_neg q]
      by_cases q2 : i < 3 * (n + 1)
      · rw [decide_eq_true q2, show i / 3 = n by omega, show i % 3 = i - 3 * n by omega]
        rfl
      · rw [decide_eq_false q2, Nat.testBit_lt_two_pow (Nat.lt_of_lt_of_le (show f n < 2 ^ 3 from h n (by omega)) (Nat.pow_le_pow_right (by omega) (by omega)))]
        rfl
theorem cod_and {f g : Nat → Nat} {n : Nat} (hf : ∀ k, k < n → f k < 8) (hg : ∀ k, k < n → g k < 8) : cod f n &&& cod g n = cod (fun k => f k &&& g k) n := by
  refine Nat.eq_of_testBit_eq fun i => ?_
  rw [Nat.testBit_and, cod_bit n hf, cod_bit n hg, cod_bit n (fun k hk => Nat.lt_of_le_of_lt Nat.and_le_left (hf k hk)), Nat.testBit_and]
  cases decide (i < 3 * n) <;> simp
theorem and_78 : ∀ x : Fin 8, x.1 &&& 7 = x.1 ∧ x.1 &&& 0 = 0 := by decide
theorem cod_inj {f g : Nat → Nat} {n : Nat} (hf : ∀ k, k < n → f k < 8) (hg : ∀ k, k < n → g k < 8) (e : cod f n = cod g n) : ∀ k, k < n → f k = g k := fun k hk => by
  have h1 := dig_cod hf hk
  rw [e, dig_cod hg hk] at h1
  exact h1.symm
theorem allH_iff {S : SS} {c : Nat} : ∀ n, allH S c n = true ↔ ∀ k, k < n → pN S < nu S k ∨ dig c k + 1 = nu S k
  | 0 => ⟨fun _ k hk => absurd hk (Nat.not_lt_zero _), fun _ => rfl⟩
  | n + 1 => by
    show (allH S c n && (decide (pN S < nu S n) || decide (dig c n + 1 = nu S n))) = true ↔ _
    rw [Bool.and_eq_true, allH_iff n, Bool.or_eq_true, decide_eq_true_iff, decide_eq_true_iff]
    refine ⟨fun h k hk => ?_, fun h => ⟨fun k hk => h k (by omega), h n (by omega)⟩⟩
    by_cases e : k = n
    · rw [e]; exact h.2
    · exact h.1 k (by omega)
section HOME
variable {h h0 : AH} {S : SS} {rd : Nat} {X : Nat → Prop} {u l : Int64} {mi : Nat → Int32} {ma ma0 : Nat → Nat → Int32}
theorem nI_and {a b : Nat} (ha : a < 2 ^ 32) (hb : b < 2 ^ 32) : nI a &&& nI b = nI (a &&& b) := by
  refine Int32.toBitVec_inj.mp (BitVec.eq_of_toNat_eq ?_)
  have : a &&& b < 2 ^ 32 := Nat.lt_of_le_of_lt Nat.and_le_left ha
  rw [Int32.toBitVec_and, BitVec.toNat_and, pk_tn ha, pk_tn hb, pk_tn this]
theorem c_allHome {c : Nat} {Q : Int32 → AH → Prop} (W : WFr S) (C : Crod h rd S X) (hc : c < 8 ^ sN S) (H : Q (if allH S c (sN S) then 1 else 0) h) : f_X5_isAllHome rd (nI c) h Q := by
  obtain ⟨nn, hm, wy, fo, fn, fh, fw, ff, wa, st, x1, x2, x3, x4, x5, c1, -⟩ := C
  have s5 := pow8_le W.2.2.2.2.2.1
  have hp7 := W.2.2.2.1
  have m8 : ∀ k, k < sN S → (if nu S k ≤ pN S then 7 else 0) < 8 := fun k _ => by split <;> omega
  have v8 : ∀ k, k < sN S → (if nu S k ≤ pN S then nu S k - 1 else 0) < 8 := fun k _ => by split <;> omega
  have b1 := cod_lt m8
  have b2 := cod_lt v8
  have key : (nI c &&& nI (cod (fun k => if nu S k ≤ pN S then 7 else 0) (sN S)) = nI (cod (fun k => if nu S k ≤ pN S then nu S k - 1 else 0) (sN S))) ↔ allH S c (sN S) = true := by
    rw [nI_and (by omega) (by omega)]
    have lt : c &&& cod (fun k => if nu S k ≤ pN S then 7 else 0) (sN S) ≤ c := Nat.and_le_left
    rw [nI_eqI (by omega) (by omega), allH_iff]
    have e1 : c &&& cod (fun k => if nu S k ≤ pN S then 7 else 0) (sN S) = cod (fun k => dig c k &&& (if nu S k ≤ pN S then 7 else 0)) (sN S) := by
      have := cod_and (f := fun k => dig c k) (n := sN S) (fun k _ => dig_lt c k) m8
      rw [cod_dig_lt hc] at this
      exact this
    rw [e1]
    have d8 : ∀ k, k < sN S → (dig c k &&& (if nu S k ≤ pN S then 7 else 0)) < 8 := fun k _ => Nat.lt_of_le_of_lt Nat.and_le_left (dig_lt c k)
    have one : ∀ k, k < sN S → ((dig c k &&& (if nu S k ≤ pN S then 7 else 0)) = (if nu S k ≤ pN S then nu S k - 1 else 0) ↔ (pN S < nu S k ∨ dig c k + 1 = nu S k)) := fun k hk => by
      have n1 := (W.2.2.2.2.2.2.2.2.1 k hk).2
      obtain ⟨a1, a2⟩ := and_78 ⟨dig c k, dig_lt c k⟩
      by_cases q : nu S k ≤ pN S
      · rw [if_pos q, if_pos q, a1]
        dsimp only
        exact ⟨fun z => Or.inr (by omega), fun z => by rcases z with z | z <;> omega⟩
      · rw [if_neg q, if_neg q, a2]
        exact ⟨fun _ => Or.inl (by omega), fun _ => rfl⟩
    refine ⟨fun e k hk => (one k hk).mp (cod_inj d8 v8 e k hk), fun e => cod_cong (fun k hk => (one k hk).mpr (e k hk))⟩
  refine gI_of c1 rfl (gI_of c1 rfl ⟨fun q => ?_, fun q => ?_⟩)
  · rw [key] at q
    rw [if_neg q] at H; exact H
  · rw [key] at q
    rw [if_pos q] at H; exact H
theorem m_isDone {c : Nat} {Q : Int32 → AH → Prop} (W : WFr S) (Z : MX S h0 u l ma0 h mi ma) (hc : c < 32768) (H : Q (if allH S c (sN S) then 1 else 0) h) : f_X12_isDone 102 (nI c) h Q := by
  have hs5 := W.2.2.2.2.2.1
  have hp7 := W.2.2.2.1
  refine lpA (L := L_X12_isDone_4 Q 102 (nI c)) (fun i => if allH S c i then (1 : Int32) else 0) (sN S) (fun k => m_gI Z.rep (mg10 _ _ _) ⟨fun _ => ⟨?_, H⟩, fun q => absurd (by rw [Z.a10, W.2.1]; exact Int32.le_refl _) q⟩) (fun i k hi K => m_gI Z.rep (mg10 _ _ _) ⟨fun q => absurd q ?_, fun _ => ?_⟩)
  · split
    · exact bl_1
    · exact bl_0
  · rw [Z.a10, W.2.1, nI_leI (by omega) (by omega)]; omega
  · have n1 := (W.2.2.2.2.2.2.2.2.1 i hi).2
    rw [nI_1]
    have ae : allH S c (i + 1) = (allH S c i && (decide (pN S < nu S i) || decide (dig c i + 1 = nu S i))) := rfl
    rw [ae] at K
    cases g : allH S c i with
    | false => rw [g] at K; exact ⟨fun _ => K, fun q => absurd rfl q⟩
    | true =>
      rw [g] at K
      refine ⟨fun q => absurd q (by decide), fun _ => ⟨Z.rep.o, m_home W Z.rd Z.a9 (MS.any Z.rep) hi ?_⟩⟩
      unfold homI
      by_cases q : nu S i ≤ pN S
      · rw [if_pos q]
        rw [decide_eq_false (show ¬ pN S < nu S i by omega)] at K
        refine ⟨fun z => absurd z (nI_n0 (by omega)), fun _ => ⟨Z.rep.o, m_isHome W Z.rd Z.a9 (MS.any Z.rep) hc hi ?_⟩⟩
        by_cases z : dig c i + 1 = nu S i
        · rw [decide_eq_true z] at K
          rw [if_pos ⟨z, q⟩]
          refine ⟨fun y => absurd y (by decide), fun _ => ?_⟩
          show L_X12_isDone_4 Q 102 (nI c) k 1 (nI i + 1) h
          rw [nI_1]; exact K
        · rw [decide_eq_false z] at K
          rw [if_neg (fun y => z y.1)]
          exact ⟨fun _ => K, fun y => absurd rfl y⟩
      · rw [if_neg q]
        rw [decide_eq_true (show pN S < nu S i by omega)] at K
        refine ⟨fun _ => ?_, fun z => absurd (by decide) z⟩
        show L_X12_isDone_4 Q 102 (nI c) k 1 (nI i + 1) h
        rw [nI_1]; exact K
end HOME
