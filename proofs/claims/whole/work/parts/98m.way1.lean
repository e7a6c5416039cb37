/-! way: the first row that does it -/
def bk (B : BF) (x : Nat) : Nat → Nat
  | 0 => x
  | k + 1 => B.2.2.2 (bk B x k) / 8
def anyW (f : Nat → Bool) : Nat → Bool
  | 0 => false
  | w + 1 => anyW f w || f w
theorem anyW_iff {f : Nat → Bool} : ∀ {m : Nat}, anyW f m = true ↔ ∃ w, w < m ∧ f w = true
  | 0 => ⟨fun z => (by cases z), fun z => (by obtain ⟨w, h, _⟩ := z; exact absurd h (Nat.not_lt_zero _))⟩
  | m + 1 => by
    show (anyW f m || f m) = true ↔ _
    rw [Bool.or_eq_true, anyW_iff]
    refine ⟨fun z => ?_, fun ⟨w, h1, h2⟩ => ?_⟩
    · rcases z with ⟨w, h1, h2⟩ | z
      · exact ⟨w, by omega, h2⟩
      · exact ⟨m, by omega, z⟩
    · by_cases e : w = m
      · rw [e] at h2; exact Or.inr h2
      · exact Or.inl ⟨w, by omega, h2⟩
/-- from x on home can be come to in r walks, always farther -/
def ldn (S : SS) (law : Nat) (B : BF) (L : Nat) : Nat → Nat → Bool
  | 0, x => hmP S x
  | r + 1, x => anyW (fun w => decide (B.2.2.1 (nx S law x w) = some (L - r)) && ldn S law B L r (nx S law x w)) (wN S)
/-- the standing on the way behind n walks, the walker then -/
def pt (B : BF) (e n : Nat) : Nat := bk B (B.2.1 e) (dp B e - n)
def wv (B : BF) (e n : Nat) : Nat := B.2.2.2 (pt B e (n + 1)) % 8
section WAY1
variable {S : SS} {law e : Nat} {B : BF}
theorem bkc (W : WFr S) (G : BG S law B.1 0 B) (he : e < B.1) : ∀ k, k ≤ dp B e → ∃ j, j < B.1 ∧ B.2.1 j = bk B (B.2.1 e) k ∧ dp B j = dp B e - k
  | 0, _ => ⟨e, he, rfl, rfl⟩
  | k + 1, hk => by
    obtain ⟨j, j1, j2, j3⟩ := bkc W G he k (by omega)
    have d0 := (G.dpe j1).2
    obtain ⟨p, v, p1, p2, p3, p4, p5, p6⟩ := G.2.2.2.2.2.2.2.2.1 j (by omega) j1
    have hw5 := W.2.2.2.2.2.2.1
    refine ⟨p, by omega, ?_, by omega⟩
    show B.2.1 p = B.2.2.2 (bk B (B.2.1 e) k) / 8
    rw [← j2, p4]
    omega
theorem way_step (W : WFr S) (G : BG S law B.1 0 B) (he : e < B.1) {n : Nat} (hn : n < dp B e) : ∃ j p, j < B.1 ∧ p < j ∧ B.2.1 j = pt B e (n + 1) ∧ B.2.1 p = pt B e n ∧ dp B j = n + 1 ∧ dp B p = n ∧ wv B e n < wN S ∧ nx S law (pt B e n) (wv B e n) = pt B e (n + 1) ∧ B.2.2.2 (pt B e (n + 1)) = pt B e n * 8 + wv B e n ∧ ∀ p' v', v' < wN S → (p' < p ∨ (p' = p ∧ v' < wv B e n)) → ∃ t, t < j ∧ B.2.1 t = nx S law (B.2.1 p') v' := by
  have hw5 := W.2.2.2.2.2.2.1
  obtain ⟨j, j1, j2, j3⟩ := bkc W G he (dp B e - (n + 1)) (by omega)
  have d0 := (G.dpe j1).2
  obtain ⟨p, v, p1, p2, p3, p4, p5, p6⟩ := G.2.2.2.2.2.2.2.2.1 j (by omega) j1
  have ep : B.2.1 j = pt B e (n + 1) := j2
  have ew : wv B e n = v := by
    show B.2.2.2 (pt B e (n + 1)) % 8 = v
    rw [← ep, p4]
    omega
  have eq : B.2.1 p = pt B e n := by
    show B.2.1 p = bk B (B.2.1 e) (dp B e - n)
    rw [show dp B e - n = dp B e - (n + 1) + 1 by omega]
    show B.2.1 p = B.2.2.2 (bk B (B.2.1 e) (dp B e - (n + 1))) / 8
    rw [← j2, p4]
    omega
  rw [ew]
  refine ⟨j, p, j1, p1, ep, eq, by omega, by omega, p2, by rw [← eq, ← ep]; exact p3, by rw [← ep, p4, eq], p6⟩
theorem pt_top : pt B e (dp B e) = B.2.1 e := by
  unfold pt
  rw [Nat.sub_self]
  rfl
theorem ldn_1 {L r x : Nat} : ldn S law B L (r + 1) x = anyW (fun w => decide (B.2.2.1 (nx S law x w) = some (L - r)) && ldn S law B L r (nx S law x w)) (wN S) := rfl
theorem ldn_pt (W : WFr S) (G : BG S law B.1 0 B) (he : e < B.1) (hp : hmP S (B.2.1 e) = true) : ∀ r, r ≤ dp B e → ldn S law B (dp B e) r (pt B e (dp B e - r)) = true
  | 0, _ => by
    show hmP S (pt B e (dp B e - 0)) = true
    rw [Nat.sub_zero, pt_top]
    exact hp
  | r + 1, hr => by
    have ih := ldn_pt W G he hp r (by omega)
    obtain ⟨j, p, s1, s2, s3, s4, s5, s6, s7, s8, s9, s10⟩ := way_step W G he (n := dp B e - (r + 1)) (by omega)
    rw [ldn_1, anyW_iff]
    refine ⟨_, s7, ?_⟩
    have e2 : dp B e - (r + 1) + 1 = dp B e - r := by omega
    rw [Bool.and_eq_true, decide_eq_true_iff, s8, e2]
    refine ⟨?_, ih⟩
    rw [e2] at s3
    rw [← s3, (G.dpe s1).1]
    congr 1
    omega
theorem way_desc (W : WFr S) (G : BG S law B.1 0 B) (he : e < B.1) (hf : ∀ j, j < e → hmP S (B.2.1 j) = false) : ∀ (r n t j : Nat), n + r = dp B e → j < B.1 → B.2.1 j = pt B e n → t < j → dp B t = n → ldn S law B (dp B e) r (B.2.1 t) = true → False
  | 0, n, t, j, hn, hj, ej, ht, hd, hl => by
    have : n = dp B e := by omega
    subst this
    rw [pt_top] at ej
    have := G.idx hj he ej
    subst this
    have := hf t ht
    rw [show hmP S (B.2.1 t) = true from hl] at this
    cases this
  | r + 1, n, t, j, hn, hj, ej, ht, hd, hl => by
    rw [ldn_1, anyW_iff] at hl
    obtain ⟨w, w1, w2⟩ := hl
    rw [Bool.and_eq_true, decide_eq_true_iff] at w2
    obtain ⟨w2, w3⟩ := w2
    obtain ⟨j', p, s1, s2, s3, s4, s5, s6, s7, s8, s9, s10⟩ := way_step W G he (n := n) (by omega)
    have : p = j := G.idx (by omega) hj (s4.trans ej.symm)
    subst this
    obtain ⟨t', t1, t2⟩ := s10 t w w1 (Or.inl ht)
    have dt := (G.dpe (show t' < B.1 by omega)).1
    rw [t2, w2] at dt
    have dt := Option.some.inj dt
    refine way_desc W G he hf r (n + 1) t' j' (by omega) s1 s3 t1 (by omega) ?_
    rw [t2]
    exact w3
/-- no walker ahead of the way's does it -/
theorem way_less (W : WFr S) (G : BG S law B.1 0 B) (he : e < B.1) (hf : ∀ j, j < e → hmP S (B.2.1 j) = false) {n v : Nat} (hn : n < dp B e) (hv : v < wv B e n) (h1 : B.2.2.1 (nx S law (pt B e n) v) = some (n + 1)) : ldn S law B (dp B e) (dp B e - (n + 1)) (nx S law (pt B e n) v) = false := by
  obtain ⟨j, p, s1, s2, s3, s4, s5, s6, s7, s8, s9, s10⟩ := way_step W G he hn
  obtain ⟨t, t1, t2⟩ := s10 p v (by omega) (Or.inr ⟨rfl, hv⟩)
  rw [s4] at t2
  cases z : ldn S law B (dp B e) (dp B e - (n + 1)) (nx S law (pt B e n) v) with
  | false => rfl
  | true =>
    have dt := (G.dpe (show t < B.1 by omega)).1
    rw [t2, h1] at dt
    have dt := Option.some.inj dt
    exact (way_desc W G he hf (dp B e - (n + 1)) (n + 1) t j (by omega) s1 s3 t1 (by omega) (by rw [t2]; exact z)).elim
end WAY1
/-- a row that holds the way -/
def wyS (S : SS) (j L : Nat) (f : Nat → Int32) : SS := fun c i k => if c = 0 ∧ i = j ∧ k = 0 then nI L else if c = 1 ∧ i = j then f k else S c i k
theorem wy_0 {S : SS} {j L : Nat} : mkr S 0 j (nI L) 0 = wyS S j L (fun _ => 0) := rfl
theorem wy_up {S : SS} {j L k : Nat} {f : Nat → Int32} {v : Int32} : up (wyS S j L f) 1 j k v = wyS S j L (upd f k v) := by
  funext c i k'
  unfold up wyS upd
  by_cases e : c = 1 ∧ i = j ∧ k' = k
  · obtain ⟨rfl, rfl, rfl⟩ := e
    rw [if_pos ⟨rfl, rfl, rfl⟩, if_neg (by omega), if_pos ⟨rfl, rfl⟩, if_pos rfl]
  · rw [if_neg e]
    by_cases e2 : c = 0 ∧ i = j ∧ k' = 0
    · rw [if_pos e2, if_pos e2]
    · rw [if_neg e2, if_neg e2]
      by_cases e3 : c = 1 ∧ i = j
      · rw [if_pos e3, if_pos e3, if_neg (fun z => e ⟨e3.1, e3.2, z⟩)]
      · rw [if_neg e3, if_neg e3]
theorem wy_c {S : SS} {j L c i k : Nat} {f : Nat → Int32} (hc : 2 ≤ c) : wyS S j L f c i k = S c i k := by
  unfold wyS
  rw [if_neg (by omega), if_neg (by omega)]
theorem wy_z {S : SS} {j L : Nat} {f : Nat → Int32} : wyS S j L f 0 j 0 = nI L := if_pos ⟨rfl, rfl, rfl⟩
theorem wy_R {S : SS} {j L : Nat} {f : Nat → Int32} : sameR S (wyS S j L f) := fun c i k h1 _ => wy_c (by omega)
theorem WF_wy {S : SS} {j L : Nat} (hL : L ≤ 60) {f : Nat → Int32} (W : WF S) : WF (wyS S j L f) := by
  refine WF_rows W (fun c i k hc => wy_c (by omega)) (fun r hr => ?_) (fun r hr => by rw [wy_c (by omega)]; exact W.2.1 r hr)
  by_cases e : r = j
  · rw [e, wy_z, nI_toInt (by omega)]; omega
  · rw [show wyS S j L f 0 r 0 = S 0 r 0 by unfold wyS; rw [if_neg (fun z => e z.2.1), if_neg (by omega)]]
    exact W.1 r hr
