/-! the model's behind -/
theorem b_shr {c k : Nat} (hc : c < 2 ^ 31) (hk : k < 5) : (nI c >>> (((3 : Int32) * nI k) &&& 31)) &&& (7 : Int32) = nI (dig c k) := by
  have hs : ((((3 : Int32) * nI k) &&& 31).toBitVec.smod 32).toNat = 3 * k := by
    refine lt5 (P := fun k => ((((3 : Int32) * nI k) &&& 31).toBitVec.smod 32).toNat = 3 * k) ?_ ?_ ?_ ?_ ?_ hk <;> decide
  rw [pk_shrN hc _ (3 * k) hs, pk_andN (Nat.lt_of_le_of_lt (Nat.div_le_self _ _) (by omega)) 3 (by decide)]
  unfold dig
  rw [p8]
theorem b_or {f : Nat → Nat} {k : Nat} (hk : k < 5) (hf : ∀ j, j ≤ k → f j < 8) : nI (cod f k) ||| (nI (f k) <<< (((3 : Int32) * nI k) &&& 31)) = nI (cod f (k + 1)) := by
  have h1 := cod_lt (f := f) (n := k) (fun j hj => hf j (by omega))
  have h2 := hf k (by omega)
  have h5 : cod f (k + 1) < 8 ^ (k + 1) := cod_lt (fun j hj => hf j (by omega))
  have h6 : 8 ^ (k + 1) ≤ 8 ^ 5 := Nat.pow_le_pow_right (by omega) (by omega)
  have h7 : cod f (k + 1) = cod f k + f k * 8 ^ k := rfl
  have h8 : 8 ^ 5 = 32768 := rfl
  rw [b_shl hk (by omega)]
  refine Int32.toBitVec_inj.mp (BitVec.eq_of_toNat_eq ?_)
  rw [Int32.toBitVec_or, BitVec.toNat_or, pk_tn (by omega), pk_tn (by omega), pk_tn (by omega), h7, p8, Nat.mul_comm, Nat.add_comm, Nat.two_pow_add_eq_or_of_lt (by rw [← p8]; exact h1), Nat.or_comm]
section MB
variable {S : SS} {h0 h : AH} {mi0 : Nat → Int32} {u l : Int64} {ma0 : Nat → Nat → Int32} {T : TR}
theorem MS.o (M : MS S h0 mi0 u l ma0 T h) : isO h 102 12 := by
  obtain ⟨mi, ma, R, -⟩ := M
  exact R.o
theorem m_put_ {k q : Nat} {Q : AH → Prop} (W : WFr S) (Rd : LkR S ma0) (M : MS S h0 mi0 u l ma0 T h) (hk : k < sN S) (H : ∀ h1, MS S h0 mi0 u l ma0 (tput S T k q) h1 → Q h1) : f_X12_put_ 102 (nI k) (nI q) h Q := by
  have hs5 := W.2.2.2.2.2.1
  obtain ⟨mi, ma, R, g, m1, m2, m3, m4, m5⟩ := M
  refine m_gR R (mr36 _ _ _) (m_sI R (j := 22) rfl rfl rfl (vp_in_nI (by omega) (by omega)) (fun h1 r1 a1 => m_gR r1 (mr37 _ _ _) (m_lI r1 (j := 23) rfl rfl rfl (vp_in_nI (by omega) (by omega)) (m_sI r1 (j := 23) rfl rfl rfl (vp_in_nI (by omega) (by omega)) (fun h2 r2 a2 => m_gI r2 (mg38 _ _ _) (m_gR r2 (mr11 _ _ _) (m_lI r2 (j := 5) rfl rfl rfl (vp_in_nI (by omega) (by omega)) (m_pF r2 (by omega) (ms38 _ _ _ _) (fun h3 r3 a3 => H h3 ⟨_, _, r3, ((g.tr a1).tr a2).tr a3, fun j hj => ?_, fun j i hj hi => ?_, fun j hj => ?_, fun j hj => ?_, ?_⟩)))))))))
  · rw [pk_un hj, m1 j hj]
  · rw [va_up_ne _ _ hi, va_up_ne _ _ hj, m2 j i hj hi]
  · rw [va_up_ne _ _ (by omega), va_up_self, nI_clamp (by omega)]
    unfold tput
    dsimp only
    by_cases e : j = k
    · rw [if_pos e, e, pk_us]
    · rw [if_neg e, pk_un e, m3 j hj]
  · rw [va_up_self, nI_clamp (by omega), va_up_ne _ _ (by omega)]
    unfold tput
    dsimp only
    by_cases e : j = k
    · rw [if_pos e, e, pk_us, m4 k (by omega), nI_1]
    · rw [if_neg e, pk_un e, m4 j hj]
  · rw [pk_us, nI_clamp (by omega), va_up_ne _ _ (by omega), va_up_ne _ _ (by omega), m5, m2 5 k (by omega) (by omega), Rd.1 k hk, (W.2.2.2.2.2.2.2.2.1 k hk).1, nI_add]
    rfl
/-- the step from a post towards b -/
def dirI (v : Int32) (p b : Nat) : Prop := (v = 1 ∧ p ≤ b) ∨ (v = -1 ∧ b ≤ p)
theorem dir_nxt {v : Int32} {p b : Nat} (D : dirI v p b) (hpb : p ≠ b) : nI p + v = nI (nxt p b) ∧ dirI v (nxt p b) b := by
  unfold nxt
  rcases D with ⟨e, q⟩ | ⟨e, q⟩
  · rw [if_pos (by omega), e, nI_1]
    exact ⟨rfl, Or.inl ⟨rfl, by omega⟩⟩
  · rw [if_neg (by omega), e]
    obtain ⟨m, rfl⟩ : ∃ m, p = m + 1 := ⟨p - 1, by omega⟩
    rw [pk_m1]
    exact ⟨rfl, Or.inr ⟨rfl, by omega⟩⟩
theorem m_load {p b law much : Nat} {far : Bool} {v6 : Int32} {Q : AH → Prop} (W : WFr S) (Rd : LkR S ma0) (A9 : mi0 9 = S 7 0 0) (A10 : mi0 10 = S 8 0 0) (hp : p < pN S) (hb : b < pN S) (hpb : p ≠ b) (hl : law ≤ 2) (hm : much ≤ 3) (D : dirI v6 p b) :
    ∀ (m i : Nat) (T : TR) (h : AH), i + m = much → TI S T → MS S h0 mi0 u l ma0 T h → (∀ h1, MS S h0 mi0 u l ma0 (tmv S law p (if far then b else nxt p b) m T) h1 → Q h1) → L_X12_carries_46 Q 102 (nI b) (nI law) (nI much) (if far then 1 else 0) v6 (nI p) (m + 1) (nI i) h := by
  have hp7 := W.2.2.2.1
  have hs5 := W.2.2.2.2.2.1
  have hn := nxt_lt hp hb
  intro m
  induction m with
  | zero =>
    intro i T h hi I M H
    have : i = much := by omega
    subst this
    exact ⟨fun _ => H h M, fun q => absurd (Int32.le_refl _) q⟩
  | succ m ih =>
    intro i T h hi I M H
    show (_ → _) ∧ _
    rw [nI_leI (by omega) (by omega), nI_eqI (by omega) (by omega)]
    refine ⟨fun q => by omega, fun _ => ⟨fun q => absurd q hpb, fun _ => ⟨M.o, m_taken W Rd A9 A10 I M (by omega) hl (fun z => ⟨fun _ => ?_, fun q => absurd rfl q⟩) (fun k z hk => ⟨fun q => absurd q (nI_nn k (by omega)), fun _ => ?_⟩)⟩⟩⟩
    · rw [nI_1]
      refine ih (i + 1) T h (by omega) I M fun h1 M1 => H h1 ?_
      rw [tmv_none z] at M1 ⊢
      exact M1
    · have go : ∀ x, x = nI (if far then b else nxt p b) → B_X12_carries_92 Q (L_X12_carries_46 Q 102 (nI b) (nI law) (nI much) (if far then 1 else 0) v6 (nI p) (m + 1)) 102 (nI b) (nI law) (nI much) (if far then 1 else 0) v6 (nI p) (nI i) 102 (nI k) x h := by
        intro x hx
        subst hx
        refine ⟨M.o, m_put_ W Rd M hk fun h1 M1 => ?_⟩
        rw [nI_1]
        refine ih (i + 1) _ h1 (by omega) (I.put (Or.inl ?_)) M1 fun h2 M2 => H h2 ?_
        · split <;> assumption
        · rw [tmv_some z]
          exact M2
      cases far
      · exact ⟨fun _ => go _ (dir_nxt D hpb).1, fun q => absurd rfl q⟩
      · exact ⟨fun q => absurd q (by decide), fun _ => go _ rfl⟩
theorem m_seek {b law : Nat} {much far v6 : Int32} {Q : AH → Prop} (W : WFr S) (Rd : LkR S ma0) (A9 : mi0 9 = S 7 0 0) (A10 : mi0 10 = S 8 0 0) (hb : b < pN S) (hl : law ≤ 2) (I : TI S T) (M : MS S h0 mi0 u l ma0 T h) :
    ∀ (n p : Nat), p < pN S → (if p < b then b - p else p - b) ≤ n → dirI v6 p b → (dirI v6 (fpo S T.1 law b n p) b → ∃ m, L_X12_carries_46 Q 102 (nI b) (nI law) much far v6 (nI (fpo S T.1 law b n p)) m (0 : Int32) h) → L_X12_carries_15 Q 102 (nI b) (nI law) much far v6 (n + 1) (nI p) h := by
  have hp7 := W.2.2.2.1
  have hs5 := W.2.2.2.2.2.1
  intro n
  induction n with
  | zero =>
    intro p hp hd D H
    have e : p = b := by split at hd <;> omega
    subst e
    exact ⟨fun _ => H D, fun q => absurd rfl q⟩
  | succ n ih =>
    intro p hp hd D H
    by_cases e : p = b
    · subst e
      refine ⟨fun _ => ?_, fun q => absurd rfl q⟩
      unfold fpo at H
      rw [if_pos rfl] at H
      exact H D
    · refine ⟨fun q => absurd ((nI_eqI (by omega) (by omega)).mp q) e, fun _ => ⟨M.o, m_taken W Rd A9 A10 I M (by omega) hl (fun z => ⟨fun q => absurd rfl q, fun _ => ?_⟩) (fun k z hk => ⟨fun _ => ?_, fun q => absurd q (nI_nn k (by omega))⟩)⟩⟩
      · obtain ⟨d1, d2⟩ := dir_nxt D e
        rw [d1]
        have hx := nxt_lt hp hb
        refine ih _ hx ?_ d2 ?_
        · unfold nxt
          by_cases q : p < b
          · rw [if_pos q] at hd ⊢; split <;> omega
          · rw [if_neg q] at hd ⊢; split <;> omega
        · unfold fpo at H
          rw [if_neg e, z] at H
          exact H
      · unfold fpo at H
        rw [if_neg e, z] at H
        exact H D
theorem m_carries {a b law much : Nat} {far : Bool} {Q : AH → Prop} (W : WFr S) (Rd : LkR S ma0) (A9 : mi0 9 = S 7 0 0) (A10 : mi0 10 = S 8 0 0) (ha : a < pN S) (hb : b < pN S) (hl : law ≤ 2) (hm : 1 ≤ much) (hm3 : much ≤ 3) (I : TI S T) (M : MS S h0 mi0 u l ma0 T h)
    (H : ∀ h1, MS S h0 mi0 u l ma0 (crr S law a b much far T) h1 → Q h1) : f_X12_carries 102 (nI a) (nI b) (nI law) (nI much) (if far then 1 else 0) h Q := by
  have hp7 := W.2.2.2.1
  have go : ∀ v6, dirI v6 a b → ∃ n, L_X12_carries_15 Q 102 (nI b) (nI law) (nI much) (if far then 1 else 0) v6 n (nI a) h := by
    intro v6 D
    refine ⟨9, m_seek W Rd A9 A10 hb hl I M 8 a ha (by split <;> omega) D fun D2 => ?_⟩
    by_cases e : fpo S T.1 law b 8 a = b
    · rw [crr_none e] at H
      rw [e]
      refine ⟨1, ⟨fun _ => H h M, fun _ => ⟨fun _ => H h M, fun q => absurd rfl q⟩⟩⟩
    · rw [crr_some rfl e] at H
      exact ⟨much + 1, m_load W Rd A9 A10 (fpo_lt hb 8 a ha) hb e hl hm3 D2 much 0 T h (by omega) I M H⟩
  refine ⟨fun q => go _ (Or.inr ⟨rfl, ?_⟩), fun q => go _ (Or.inl ⟨rfl, ?_⟩)⟩
  · rw [nI_leI (by omega) (by omega)] at q; exact q
  · rw [nI_leI (by omega) (by omega)] at q; omega
end MB
