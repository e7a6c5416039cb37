/-! may: from which posts a row is seen -/
def sfB (S : SS) (c j p : Nat) : Nat → Bool
  | 0 => true
  | i + 1 => sfB S c j p i && decide (nI (lsA S c (p + i) (sN S)) = S 1 j i)
theorem sfB_f {S : SS} {c j p i : Nat} (hf : sfB S c j p i = false) : ∀ m, sfB S c j p (i + m) = false
  | 0 => hf
  | m + 1 => by show (sfB S c j p (i + m) && _) = false; rw [sfB_f hf m]; rfl
def bts (S : SS) (c j z : Nat) : Nat → Int32
  | 0 => 0
  | p + 1 => if sfB S c j p z then bts S c j z p ||| ((1 : Int32) <<< (nI p &&& 31)) else bts S c j z p
section MAY
variable {h : AH} {S : SS} {u l : Int64} {n : Nat}
theorem c_seenFrom {j p z : Nat} {Q : Int32 → AH → Prop} (R : RC h S u l n) (W : WF S) (hj : j < 6) (hz : S 0 j 0 = nI z) (hz8 : z ≤ 7) (hp : p ≤ 7) (H : Q (if sfB S (stN S) j p z then 1 else 0) h) : f_X11_isSeenFrom 1 (22 + 2 * j) (nI p) h Q := by
  obtain ⟨w1, w2, w3, w4, w5, w6, w7, w8⟩ := id W
  have cb := Cd_lt w3 w4.2
  obtain ⟨rd, X, c1, C, xr⟩ := R.road
  have rw_ := R.rows.2 j hj
  have tz : (S 0 j 0).toInt = z := by rw [hz, nI_toInt (by omega)]
  have main : ∀ (m i : Nat), i + m = z → sfB S (stN S) j p i = true → L_X11_isSeenFrom_2 Q 1 (22 + 2 * j) (nI p) (m + 1) (nI i) h := by
    intro m
    induction m with
    | zero =>
      intro i hi ok
      have : i = z := by omega
      subst this
      refine gI_of rw_.1 rfl ?_
      rw [hz]
      rw [ok] at H
      exact ⟨fun _ => H, fun q => absurd (Int32.le_refl _) q⟩
    | succ m ih =>
      intro i hi ok
      refine gI_of rw_.1 rfl ?_
      rw [hz, nI_leI (by omega) (by omega)]
      refine ⟨fun q => by omega, fun _ => gR_of c1 rfl (gI_of c1 rfl ?_)⟩
      rw [w4.1, nI_add]
      refine ⟨C.o, c_least w3 C cb (by omega) ⟨isO_of rw_.1, c_get rw_ (by omega) (fun q => absurd ⟨nI_pos' (by omega), by rw [hz]; exact nI_lt (by omega) (by omega)⟩ q) (fun k e hk1 hk2 => ?_)⟩⟩
      have e2 : i = k := (nI_eqI (by omega) (by omega)).mp e
      subst e2
      refine ⟨fun q => ?_, fun q => ?_⟩
      · rw [nI_1]
        refine ih (i + 1) (by omega) ?_
        show (sfB S (stN S) j p i && decide (nI (lsA S (stN S) (p + i) (sN S)) = S 1 j i)) = true
        rw [ok, decide_eq_true q]
        rfl
      · have f1 : sfB S (stN S) j p (i + 1) = false := by
          show (sfB S (stN S) j p i && decide (nI (lsA S (stN S) (p + i) (sN S)) = S 1 j i)) = false
          rw [ok, decide_eq_false q]
          rfl
        have f2 := sfB_f f1 m
        rw [show i + 1 + m = z by omega] at f2
        rw [f2] at H
        exact H
  exact ⟨z + 1, main z 0 (by omega) rfl⟩
theorem c_bits {j z : Nat} {Q : Int32 → AH → Prop} (R : RC h S u l n) (W : WF S) (hj : j < 6) (hz : S 0 j 0 = nI z) (hz1 : 1 ≤ z) (hzp : z ≤ pN S) (H : Q (bts S (stN S) j z (pN S - z + 1)) h) : ∃ nn, L_X11_may_94 Q 1 (22 + 2 * j) nn (0 : Int32) (0 : Int32) h := by
  obtain ⟨w1, w2, w3, w4, w5, w6, w7, w8⟩ := id W
  have hp7 := w3.2.2.2.1
  have rw_ := R.rows.2 j hj
  have main : ∀ (m p : Nat), p + m = pN S - z + 1 → L_X11_may_94 Q 1 (22 + 2 * j) (m + 1) (bts S (stN S) j z p) (nI p) h := by
    intro m
    induction m with
    | zero =>
      intro p hp
      have : p = pN S - z + 1 := by omega
      subst this
      refine gI_of rw_.1 rfl (c_posts R ?_)
      rw [hz, w3.1, nI_add, nI_ltI (by omega) (by omega)]
      exact ⟨fun _ => H, fun q => absurd (by omega) q⟩
    | succ m ih =>
      intro p hp
      have ih := ih (p + 1) (by omega)
      rw [bts] at ih
      refine gI_of rw_.1 rfl (c_posts R ?_)
      rw [hz, w3.1, nI_add, nI_ltI (by omega) (by omega)]
      refine ⟨fun q => by omega, fun _ => ⟨R.o, c_seenFrom R W hj hz (by omega) (by omega) ?_⟩⟩
      rw [nI_1]
      cases e : sfB S (stN S) j p z with
      | false => rw [e] at ih; exact ⟨fun _ => ih, fun q => absurd rfl q⟩
      | true => rw [e] at ih; exact ⟨fun q => absurd q (by decide), fun _ => ih⟩
  exact ⟨pN S - z + 1 + 1, main _ 0 (by omega)⟩
end MAY
