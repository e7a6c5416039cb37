/-! numbers of three bits each, packed in one -/
theorem lt5 {P : Nat → Prop} (h0 : P 0) (h1 : P 1) (h2 : P 2) (h3 : P 3) (h4 : P 4) {k : Nat} (hk : k < 5) : P k := by
  match k, hk with
  | 0, _ => exact h0
  | 1, _ => exact h1
  | 2, _ => exact h2
  | 3, _ => exact h3
  | 4, _ => exact h4
theorem p8 (k : Nat) : 8 ^ k = 2 ^ (3 * k) := by rw [show (8 : Nat) = 2 ^ 3 from rfl, ← Nat.pow_mul]
theorem b_post {c k : Nat} (hc : c < 2 ^ 32) (hk : k < 5) : (((nI c).toUInt32 >>> (((3 : Int32) * nI k).toUInt32 &&& Int32.toUInt32 31)).toInt32) &&& (7 : Int32) = nI (dig c k) := by
  have hs : ((((3 : Int32) * nI k).toUInt32 &&& Int32.toUInt32 31).toBitVec % 32).toNat = 3 * k := by
    revert hk
    refine fun hk => lt5 (P := fun k => ((((3 : Int32) * nI k).toUInt32 &&& Int32.toUInt32 31).toBitVec % 32).toNat = 3 * k) ?_ ?_ ?_ ?_ ?_ hk <;> decide
  rw [pk_ushrN hc _ (3 * k) hs, pk_andN (Nat.lt_of_le_of_lt (Nat.div_le_self _ _) hc) 3 (by decide)]
  unfold dig
  rw [p8]
def wp (c k p : Nat) : Nat := c - dig c k * 8 ^ k + p * 8 ^ k
theorem b_shl {k p : Nat} (hk : k < 5) (hp : p < 2 ^ 16) : nI p <<< (((3 : Int32) * nI k) &&& 31) = nI (p * 8 ^ k) := by
  have hs : ((((3 : Int32) * nI k) &&& 31).toBitVec.smod 32).toNat = 3 * k := by
    revert hk
    refine fun hk => lt5 (P := fun k => ((((3 : Int32) * nI k) &&& 31).toBitVec.smod 32).toNat = 3 * k) ?_ ?_ ?_ ?_ ?_ hk <;> decide
  have hb : p * 2 ^ (3 * k) < 2 ^ 32 := by
    refine lt5 (P := fun k => p * 2 ^ (3 * k) < 2 ^ 32) ?_ ?_ ?_ ?_ ?_ hk <;> omega
  rw [pk_shlN _ (3 * k) hs hb, p8]
theorem wp_form (c k p : Nat) : wp c k p = 2 ^ (3 * k) * (2 ^ 3 * (c / 8 ^ k / 8) + p) + c % 8 ^ k := by
  unfold wp dig
  have e1 := Nat.div_add_mod c (8 ^ k)
  have e2 := Nat.div_add_mod (c / 8 ^ k) 8
  rw [← p8]
  generalize 8 ^ k = q at *
  generalize c / q = a at *
  generalize c % q = m at *
  generalize a / 8 = b at *
  generalize a % 8 = d at *
  subst e2
  subst e1
  rw [Nat.mul_comm d q, Nat.mul_add, Nat.mul_add, Nat.mul_comm p q]
  have : q * (2 ^ 3 * b) = q * (8 * b) := rfl
  omega
theorem c_form (c k : Nat) : c = 2 ^ (3 * k) * (2 ^ 3 * (c / 8 ^ k / 8) + dig c k) + c % 8 ^ k := by
  have e1 := Nat.div_add_mod c (8 ^ k)
  have e2 := Nat.div_add_mod (c / 8 ^ k) 8
  unfold dig
  rw [← p8, show (2 : Nat) ^ 3 = 8 from rfl, e2]
  exact e1.symm
theorem b_with {c k p : Nat} (hc : c < 32768) (hk : k < 5) (hp : p < 8) : (nI c &&& (((7 : Int32) <<< (((3 : Int32) * nI k) &&& 31)) ^^^ (-1 : Int32))) ||| (nI p <<< (((3 : Int32) * nI k) &&& 31)) = nI (wp c k p) := by
  rw [b_shl hk (by omega)]
  have hM : (((7 : Int32) <<< (((3 : Int32) * nI k) &&& 31)) ^^^ (-1 : Int32)).toBitVec.toNat = 2 ^ 32 - 1 - 7 * 2 ^ (3 * k) := by
    refine lt5 (P := fun k => (((7 : Int32) <<< (((3 : Int32) * nI k) &&& 31)) ^^^ (-1 : Int32)).toBitVec.toNat = 2 ^ 32 - 1 - 7 * 2 ^ (3 * k)) ?_ ?_ ?_ ?_ ?_ hk <;> decide
  have hpb : p * 8 ^ k < 2 ^ 32 := by
    refine lt5 (P := fun k => p * 8 ^ k < 2 ^ 32) ?_ ?_ ?_ ?_ ?_ hk <;> omega
  have hwb : wp c k p < 2 ^ 32 := by
    unfold wp
    have : p * 8 ^ k < 2 ^ 16 := by
      refine lt5 (P := fun k => p * 8 ^ k < 2 ^ 16) ?_ ?_ ?_ ?_ ?_ hk <;> omega
    omega
  refine Int32.toBitVec_inj.mp (BitVec.eq_of_toNat_eq ?_)
  rw [Int32.toBitVec_or, Int32.toBitVec_and, BitVec.toNat_or, BitVec.toNat_and, hM, pk_tn (by omega), pk_tn hpb, pk_tn hwb]
  refine Nat.eq_of_testBit_eq fun i => ?_
  rw [Nat.testBit_or, Nat.testBit_and, wp_form]
  have hm : c % 8 ^ k < 2 ^ (3 * k) := by rw [← p8]; exact Nat.mod_lt _ (Nat.pow_pos (by omega))
  have hd : dig c k < 2 ^ 3 := Nat.mod_lt _ (by omega)
  have e1 : c.testBit i = (2 ^ (3 * k) * (2 ^ 3 * (c / 8 ^ k / 8) + dig c k) + c % 8 ^ k).testBit i := congrArg (fun z => Nat.testBit z i) (c_form c k)
  rw [e1, Nat.testBit_two_pow_mul_add _ hm, Nat.testBit_two_pow_mul_add _ hm, Nat.testBit_two_pow_mul_add _ hd, Nat.testBit_two_pow_mul_add _ (show p < 2 ^ 3 from hp), p8, Nat.testBit_mul_two_pow]
  by_cases i32 : i < 32
  · have hb : (2 ^ 32 - 1 - 7 * 2 ^ (3 * k)).testBit i = !(decide (3 * k ≤ i ∧ i < 3 * k + 3)) := by
      have : ∀ i : Fin 32, (2 ^ 32 - 1 - 7 * 2 ^ (3 * k)).testBit i.1 = !(decide (3 * k ≤ i.1 ∧ i.1 < 3 * k + 3)) := by
        refine lt5 (P := fun k => ∀ i : Fin 32, (2 ^ 32 - 1 - 7 * 2 ^ (3 * k)).testBit i.1 = !(decide (3 * k ≤ i.1 ∧ i.1 < 3 * k + 3))) ?_ ?_ ?_ ?_ ?_ hk <;> decide
      exact this ⟨i, i32⟩
    rw [hb]
    by_cases a : i < 3 * k
    · rw [if_pos a, if_pos a, decide_eq_false (p := 3 * k ≤ i ∧ i < 3 * k + 3) (by omega), decide_eq_false (p := 3 * k ≤ i) (by omega)]
      simp
    · rw [if_neg a, if_neg a, decide_eq_true (p := 3 * k ≤ i) (by omega)]
      by_cases b : i - 3 * k < 3
      · rw [if_pos b, if_pos b, decide_eq_true (p := 3 * k ≤ i ∧ i < 3 * k + 3) (by omega)]
        simp
      · rw [if_neg b, if_neg b, decide_eq_false (p := 3 * k ≤ i ∧ i < 3 * k + 3) (by omega), Nat.testBit_lt_two_pow (x := p) (i := i - 3 * k) (Nat.lt_of_lt_of_le (show p < 2 ^ 3 from hp) (Nat.pow_le_pow_right (by omega) (by omega)))]
        simp
  · have z : c / 8 ^ k / 8 = 0 ∨ (c / 8 ^ k / 8).testBit (i - 3 * k - 3) = false := by
      refine Or.inr (Nat.testBit_lt_two_pow ?_)
      have l1 : c / 8 ^ k / 8 ≤ c := Nat.le_trans (Nat.div_le_self _ _) (Nat.div_le_self _ _)
      have l2 : (2 : Nat) ^ 15 ≤ 2 ^ (i - 3 * k - 3) := Nat.pow_le_pow_right (by omega) (by omega)
      have : (2 : Nat) ^ 15 = 32768 := rfl
      omega
    have z2 : (c / 8 ^ k / 8).testBit (i - 3 * k - 3) = false := by
      rcases z with z | z
      · rw [z]; exact Nat.zero_testBit _
      · exact z
    rw [p8] at z2
    rw [if_neg (by omega), if_neg (by omega), if_neg (by omega), if_neg (by omega), z2, Nat.testBit_lt_two_pow (x := p) (i := i - 3 * k) (Nat.lt_of_lt_of_le (show p < 2 ^ 3 from hp) (Nat.pow_le_pow_right (by omega) (by omega)))]
    simp
theorem dig_lt (c k : Nat) : dig c k < 8 := Nat.mod_lt _ (by omega)
theorem dig_wp {c k p j : Nat} (hk : k < 5) (hj : j < 5) (hp : p < 8) : dig (wp c k p) j = if j = k then p else dig c j := by
  refine lt5 (P := fun k => dig (wp c k p) j = if j = k then p else dig c j) ?_ ?_ ?_ ?_ ?_ hk <;>
    (refine lt5 (P := fun j => dig (wp c _ p) j = if j = _ then p else dig c j) ?_ ?_ ?_ ?_ ?_ hj <;> (unfold wp dig; simp only [Nat.reducePow, Nat.reduceEqDiff, if_true, if_false]; omega))
theorem wp_lt {n c k p : Nat} (hn : n ≤ 5) (hc : c < 8 ^ n) (hk : k < n) (hp : p < 8) : wp c k p < 8 ^ n := by
  have hk5 : k < 5 := by omega
  have e : n = 0 ∨ n = 1 ∨ n = 2 ∨ n = 3 ∨ n = 4 ∨ n = 5 := by omega
  revert hk
  refine lt5 (P := fun k => k < n → wp c k p < 8 ^ n) ?_ ?_ ?_ ?_ ?_ hk5 <;>
    (intro hk; unfold wp dig; rcases e with e | e | e | e | e | e <;> (subst e; simp only [Nat.reducePow] at *; omega))
theorem cod_cong {f g : Nat → Nat} : ∀ {n : Nat}, (∀ j, j < n → f j = g j) → cod f n = cod g n
  | 0, _ => rfl
  | n + 1, h => by unfold cod; rw [cod_cong (fun j hj => h j (by omega)), h n (by omega)]
theorem cod_dig (c : Nat) : ∀ n, cod (fun k => dig c k) n = c % 8 ^ n
  | 0 => by unfold cod; omega
  | n + 1 => by
    unfold cod
    rw [cod_dig c n, Nat.pow_succ, Nat.mod_mul, Nat.mul_comm]
    rfl
theorem cod_dig_lt {c n : Nat} (h : c < 8 ^ n) : cod (fun k => dig c k) n = c := by rw [cod_dig, Nat.mod_eq_of_lt h]
theorem cod_lt {f : Nat → Nat} : ∀ {n : Nat}, (∀ j, j < n → f j < 8) → cod f n < 8 ^ n
  | 0, _ => by unfold cod; omega
  | n + 1, h => by
    have h1 := cod_lt (fun j hj => h j (by omega : j < n + 1)) (n := n)
    have h2 := h n (by omega)
    unfold cod
    rw [Nat.pow_succ]
    have h3 : f n * 8 ^ n ≤ 7 * 8 ^ n := Nat.mul_le_mul_right _ (by omega)
    omega
theorem dig_cod {f : Nat → Nat} : ∀ {n k : Nat}, (∀ j, j < n → f j < 8) → k < n → dig (cod f n) k = f k
  | 0, k, _, hk => by omega
  | n + 1, k, h, hk => by
    have h1 := cod_lt (fun j hj => h j (by omega : j < n + 1)) (n := n)
    have h2 := h n (by omega)
    unfold cod
    by_cases e : k = n
    · subst e
      unfold dig
      rw [Nat.add_mul_div_right _ _ (Nat.pow_pos (by omega)), Nat.div_eq_of_lt h1, Nat.zero_add, Nat.mod_eq_of_lt h2]
    · have ih := dig_cod (n := n) (k := k) (fun j hj => h j (by omega)) (by omega)
      unfold dig at ih ⊢
      have e2 : 8 ^ n = 8 ^ k * (8 * 8 ^ (n - k - 1)) := by
        rw [← Nat.pow_succ', ← Nat.pow_add]
        congr 1
        omega
      rw [e2, Nat.mul_comm (f n), Nat.mul_assoc, Nat.add_mul_div_left _ _ (Nat.pow_pos (by omega)), Nat.mul_assoc, Nat.add_mul_mod_self_left]
      exact ih
theorem wp_cod {n c k p : Nat} (hn : n ≤ 5) (hc : c < 8 ^ n) (hk : k < n) (hp : p < 8) : cod (fun j => if j = k then p else dig c j) n = wp c k p := by
  rw [← cod_dig_lt (wp_lt hn hc hk hp)]
  exact cod_cong fun j hj => (dig_wp (by omega) (by omega) hp).symm
