/-! what is seen at a post: how many, the least number -/
def hpA (S : SS) (c p : Nat) : Nat → Nat
  | 0 => 0
  | k + 1 => hpA S c p k + (if dig c k = p then 1 else 0)
def lsA (S : SS) (c p : Nat) : Nat → Nat
  | 0 => 0
  | k + 1 => if dig c k = p ∧ (lsA S c p k = 0 ∨ nu S k < lsA S c p k) then nu S k else lsA S c p k
section SEEN
variable {h h0 : AH} {S : SS} {rd : Nat} {X : Nat → Prop} {mi0 mi : Nat → Int32} {u l : Int64} {ma0 ma : Nat → Nat → Int32} {T : TR}
theorem lsA_le {c p : Nat} (W : WFr S) : ∀ k, k ≤ sN S → lsA S c p k ≤ 9
  | 0, _ => by unfold lsA; omega
  | k + 1, hk => by
    have n1 := (W.2.2.2.2.2.2.2.2.1 k (by omega)).2
    have := lsA_le (c := c) (p := p) W k (by omega)
    show (if _ then _ else _) ≤ 9
    split <;> omega
theorem c_heap {c p : Nat} {Q : Int32 → AH → Prop} (W : WFr S) (C : Crod h rd S X) (hc : c < 32768) (hp : p < 100) (H : Q (nI (hpA S c p (sN S))) h) : f_X5_heapAt rd (nI c) (nI p) h Q := by
  have hs5 := W.2.2.2.2.2.1
  obtain ⟨n, hm, wy, fo, fn, fh, fw, ff, wa, st, x1, x2, x3, x4, x5, c1, -⟩ := C
  have main : ∀ (m k : Nat), k + m = sN S → L_X5_heapAt_5 Q rd (nI c) (nI p) (m + 1) (nI (hpA S c p k)) (nI k) h := by
    intro m
    induction m with
    | zero =>
      intro k hk
      have : k = sN S := by omega
      subst this
      refine gI_of c1 rfl ?_
      rw [W.2.1]
      exact ⟨fun _ => H, fun q => absurd (Int32.le_refl _) q⟩
    | succ m ih =>
      intro k hk
      have hd := dig_lt c k
      have ih := ih (k + 1) (by omega)
      unfold hpA at ih
      refine gI_of c1 rfl ?_
      rw [W.2.1, nI_leI (by omega) (by omega)]
      refine ⟨fun q => by omega, fun _ => c_post hc (by omega) ?_⟩
      rw [nI_eqI (by omega) (by omega), nI_1, nI_1]
      refine ⟨fun q => ?_, fun q => ?_⟩
      · rw [if_neg q] at ih; exact ih
      · rw [if_pos q] at ih; exact ih
  exact ⟨sN S + 1, main (sN S) 0 (by omega)⟩
theorem c_least {c p : Nat} {Q : Int32 → AH → Prop} (W : WFr S) (C : Crod h rd S X) (hc : c < 32768) (hp : p < 100) (H : Q (nI (lsA S c p (sN S))) h) : f_X5_leastAt rd (nI c) (nI p) h Q := by
  have hs5 := W.2.2.2.2.2.1
  obtain ⟨n, hm, wy, fo, fn, fh, fw, ff, wa, st, x1, x2, x3, x4, x5, c1, c2, -, -, -, c6, -⟩ := C
  have main : ∀ (m k : Nat), k + m = sN S → L_X5_leastAt_5 Q rd (nI c) (nI p) (m + 1) (nI (lsA S c p k)) (nI k) h := by
    intro m
    induction m with
    | zero =>
      intro k hk
      have : k = sN S := by omega
      subst this
      refine gI_of c1 rfl ?_
      rw [W.2.1]
      exact ⟨fun _ => H, fun q => absurd (Int32.le_refl _) q⟩
    | succ m ih =>
      intro k hk
      have hd := dig_lt c k
      obtain ⟨n0, n1⟩ := W.2.2.2.2.2.2.2.2.1 k (by omega)
      have lb := lsA_le (c := c) (p := p) W k (by omega)
      have ih := ih (k + 1) (by omega)
      have num : ∀ K : Int32 → Prop, K (nI (nu S k)) → gR h rd 5 0 (fun a => lI h a (nI k) K) := fun K z => gR_of c1 rfl (lI_of c2 (vp_in_nI (by omega) (by omega)) (by rw [nI_clamp (by omega), (c6 k (by omega)).1, n0]; exact z))
      rw [show lsA S c p (k + 1) = if dig c k = p ∧ (lsA S c p k = 0 ∨ nu S k < lsA S c p k) then nu S k else lsA S c p k from rfl] at ih
      refine gI_of c1 rfl ?_
      rw [W.2.1, nI_leI (by omega) (by omega)]
      refine ⟨fun q => by omega, fun _ => c_post hc (by omega) ?_⟩
      rw [nI_eqI (by omega) (by omega), nI_1, show (0 : Int32) = nI 0 from rfl, nI_eqI (by omega) (by omega)]
      refine ⟨fun q => ?_, fun q => ⟨fun z => num _ ?_, fun z => num _ ?_⟩⟩
      · rw [if_neg (fun y => q y.1)] at ih; exact ih
      · rw [if_pos ⟨q, Or.inl z⟩] at ih; rw [nI_1]; exact ih
      · rw [nI_leI (by omega) (by omega)]
        refine ⟨fun y => ?_, fun y => num _ ?_⟩
        · rw [if_neg (by omega)] at ih; exact ih
        · rw [if_pos ⟨q, Or.inr (by omega)⟩] at ih; rw [nI_1]; exact ih
  exact ⟨sN S + 1, main (sN S) 0 (by omega)⟩
theorem m_seen {c p : Nat} {Q : Int32 → AH → Prop} (W : WFr S) (Rd : LkR S ma0) (A10 : mi0 10 = S 8 0 0) (M : MS S h0 mi0 u l ma0 T h) (hc : c < 32768) (hp : p < 100) (H : Q (nI (lsA S c p (sN S))) h) : f_X12_seen 102 (nI c) (nI p) h Q := by
  have hs5 := W.2.2.2.2.2.1
  obtain ⟨mi, ma, R, -, m1, m2, m3, -⟩ := id M
  have main : ∀ (m k : Nat), k + m = sN S → L_X12_seen_5 Q 102 (nI c) (nI p) (m + 1) (nI (lsA S c p k)) (nI k) h := by
    intro m
    induction m with
    | zero =>
      intro k hk
      have : k = sN S := by omega
      subst this
      refine m_gI R (mg10 _ _ _) ?_
      rw [m1 10 (by omega), A10, W.2.1]
      exact ⟨fun _ => H, fun q => absurd (Int32.le_refl _) q⟩
    | succ m ih =>
      intro k hk
      have hd := dig_lt c k
      obtain ⟨n0, n1⟩ := W.2.2.2.2.2.2.2.2.1 k (by omega)
      have lb := lsA_le (c := c) (p := p) W k (by omega)
      have ih := ih (k + 1) (by omega)
      have num : ∀ K : Int32 → Prop, K (nI (nu S k)) → gR h 102 12 11 (fun a => lI h a (nI k) K) := fun K z => m_num W Rd M (by omega) z
      rw [show lsA S c p (k + 1) = if dig c k = p ∧ (lsA S c p k = 0 ∨ nu S k < lsA S c p k) then nu S k else lsA S c p k from rfl] at ih
      refine m_gI R (mg10 _ _ _) ?_
      rw [m1 10 (by omega), A10, W.2.1, nI_leI (by omega) (by omega)]
      refine ⟨fun q => by omega, fun _ => m_spot hc (by omega) ?_⟩
      rw [nI_eqI (by omega) (by omega), nI_1, show (0 : Int32) = nI 0 from rfl, nI_eqI (by omega) (by omega)]
      refine ⟨fun q => ?_, fun q => ⟨fun z => num _ ?_, fun z => num _ ?_⟩⟩
      · rw [if_neg (fun y => q y.1)] at ih; exact ih
      · rw [if_pos ⟨q, Or.inl z⟩] at ih; rw [nI_1]; exact ih
      · rw [nI_leI (by omega) (by omega)]
        refine ⟨fun y => ?_, fun y => num _ ?_⟩
        · rw [if_neg (by omega)] at ih; exact ih
        · rw [if_pos ⟨q, Or.inr (by omega)⟩] at ih; rw [nI_1]; exact ih
  exact ⟨sN S + 1, main (sN S) 0 (by omega)⟩
end SEEN
