/-! the script stays: a frame for every method -/
def ZZ (L0 : Nat) (xs0 : Nat → Int32) (h : AH) : Prop := h.2.2 0 = some (.inl (9, L0, .inl xs0)) ∧ 102 < h.1 ∧ isO h 1 11 ∧ isO h 102 12
section ZM
variable {L0 : Nat} {xs0 : Nat → Int32} {h : AH} {a ci k t : Nat} {i x : Int32}
theorem ZZ.obj {fs fs2 : List Value} (z : ZZ L0 xs0 h) (hc : h.2.2 a = some (.inr (ci, fs))) : ZZ L0 xs0 (aput h a (.inr (ci, fs2))) := by
  obtain ⟨z1, z2, ⟨f3, z3⟩, ⟨f4, z4⟩⟩ := z
  have a0 : (0 : Nat) ≠ a := fun e => by rw [← e, z1] at hc; cases hc
  refine ⟨(aput_n h _ a0).trans z1, z2, ?_, ?_⟩
  · by_cases e : 1 = a
    · rw [← e, z3] at hc
      cases hc
      exact ⟨fs2, by rw [← e, aput_s]⟩
    · exact ⟨f3, (aput_n h _ e).trans z3⟩
  · by_cases e : 102 = a
    · rw [← e, z4] at hc
      cases hc
      exact ⟨fs2, by rw [← e, aput_s]⟩
    · exact ⟨f4, (aput_n h _ e).trans z4⟩
theorem ZZ.arr {y y2 : vp_A} (z : ZZ L0 xs0 h) (ht : t ≠ 9) (hc : h.2.2 a = some (.inl (t, y))) : ZZ L0 xs0 (aput h a (.inl (t, y2))) := by
  obtain ⟨z1, z2, ⟨f3, z3⟩, ⟨f4, z4⟩⟩ := z
  have a0 : (0 : Nat) ≠ a := fun e => by
    rw [← e, z1] at hc
    cases hc
    exact ht rfl
  have a1 : (1 : Nat) ≠ a := fun e => by rw [← e, z3] at hc; cases hc
  have a2 : (102 : Nat) ≠ a := fun e => by rw [← e, z4] at hc; cases hc
  exact ⟨(aput_n h _ a0).trans z1, z2, ⟨f3, (aput_n h _ a1).trans z3⟩, ⟨f4, (aput_n h _ a2).trans z4⟩⟩
theorem ZZ.new {e : va_E} (z : ZZ L0 xs0 h) : ZZ L0 xs0 (anew h k e) := by
  obtain ⟨z1, z2, ⟨f3, z3⟩, ⟨f4, z4⟩⟩ := z
  exact ⟨(anew_n h _ _ (by omega)).trans z1, Nat.lt_succ_of_lt z2, ⟨f3, (anew_n h _ _ (by omega)).trans z3⟩, ⟨f4, (anew_n h _ _ (by omega)).trans z4⟩⟩
theorem zm_and {A A' B B' : Prop} (f : A → A') (g : B → B') : A ∧ B → A' ∧ B' := fun q => ⟨f q.1, g q.2⟩
theorem zm_imp {P A A' : Prop} (f : P → A → A') : (P → A) → (P → A') := fun q p => f p (q p)
theorem zm_or {A A' B B' : Prop} (f : A → A') (g : B → B') : A ∨ B → A' ∨ B' := fun q => q.elim (fun x => Or.inl (f x)) (fun x => Or.inr (g x))
theorem zm_all {α : Type} {r p p' : α → Prop} (f : ∀ x, r x → p x → p' x) : (∀ x, r x → p x) → ∀ x, r x → p' x := fun q x y => f x y (q x y)
theorem zm_ex {α : Type} {p p' : α → Prop} (f : ∀ x, p x → p' x) : (∃ x, p x) → ∃ x, p' x := fun ⟨x, q⟩ => ⟨x, f x q⟩
theorem zm_gI {K K' : Int32 → Prop} (f : ∀ x, K x → K' x) : gI h a ci k K → gI h a ci k K' := fun ⟨a, b, c, d, q⟩ => ⟨a, b, c, d, f _ q⟩
theorem zm_gL {K K' : Int64 → Prop} (f : ∀ x, K x → K' x) : gL h a ci k K → gL h a ci k K' := fun ⟨a, b, c, d, q⟩ => ⟨a, b, c, d, f _ q⟩
theorem zm_gR {K K' : Nat → Prop} (f : ∀ x, K x → K' x) : gR h a ci k K → gR h a ci k K' := fun ⟨a, b, c, d, q⟩ => ⟨a, b, c, d, f _ q⟩
theorem zm_gW {K K' : Int32 → Prop} (f : ∀ x, K x → K' x) : gW h a k K → gW h a k K' := fun ⟨a, b, c, d, e, g, q⟩ => ⟨a, b, c, d, e, g, f _ q⟩
theorem zm_lI {K K' : Int32 → Prop} (f : ∀ x, K x → K' x) : lI h a i K → lI h a i K' := fun ⟨a, b, c, d, q⟩ => ⟨a, b, c, d, f _ q⟩
theorem zm_lB {K K' : Int32 → Prop} (f : ∀ x, K x → K' x) : lB h a i K → lB h a i K' := fun ⟨a, b, c, d, q⟩ => ⟨a, b, c, d, f _ q⟩
theorem zm_lQ {K K' : Nat → Prop} (f : ∀ x, K x → K' x) : lQ h a t i K → lQ h a t i K' := fun ⟨a, b, c, d, e, g, q⟩ => ⟨a, b, c, d, e, g, f _ q⟩
theorem zm_aL {K K' : Int32 → Prop} (f : ∀ x, K x → K' x) : aL h a t K → aL h a t K' := fun ⟨a, b, q⟩ => ⟨a, b, f _ q⟩
theorem zm_iB {K K' : Int32 → Prop} (f : ∀ x, K x → K' x) : iB h a K → iB h a K' := fun ⟨a, b, c, d, q⟩ => ⟨a, b, c, d, f _ q⟩
theorem zm_iLm {K K' : Int32 → Prop} (f : ∀ x, K x → K' x) : iLm h a K → iLm h a K' := fun ⟨a, b, c, d, q⟩ => ⟨a, b, c, d, f _ q⟩
theorem zm_pF {v : Value} {K K' : AH → Prop} (z : ZZ L0 xs0 h) (f : ∀ h1, ZZ L0 xs0 h1 → K h1 → K' h1) : pF h a ci k v K → pF h a ci k v K' := fun ⟨a, b, c, q⟩ => ⟨a, b, c, f _ (z.obj b) q⟩
theorem zm_pW {v : Value} {K K' : AH → Prop} (z : ZZ L0 xs0 h) (f : ∀ h1, ZZ L0 xs0 h1 → K h1 → K' h1) : pW h a k v K → pW h a k v K' := fun ⟨a, b, c, d, e, q⟩ => ⟨a, b, c, d, e, f _ (z.obj d) q⟩
theorem zm_sI {K K' : AH → Prop} (z : ZZ L0 xs0 h) (f : ∀ h1, ZZ L0 xs0 h1 → K h1 → K' h1) : sI h a i x K → sI h a i x K' := fun ⟨a, b, c, d, q⟩ => ⟨a, b, c, d, f _ (z.arr (by decide) c) q⟩
theorem zm_sB {K K' : AH → Prop} (z : ZZ L0 xs0 h) (f : ∀ h1, ZZ L0 xs0 h1 → K h1 → K' h1) : sB h a i x K → sB h a i x K' := fun ⟨a, b, c, d, q⟩ => ⟨a, b, c, d, f _ (z.arr (by decide) c) q⟩
theorem zm_sQ {v : Nat} {K K' : AH → Prop} (z : ZZ L0 xs0 h) (f : ∀ h1, ZZ L0 xs0 h1 → K h1 → K' h1) : sQ h a t i v K → sQ h a t i v K' := fun ⟨a, b, c, d, e, g, m, n, q⟩ => ⟨a, b, c, d, e, g, m, n, f _ (z.arr (fun y => by subst y; exact absurd m (by show ¬ c ∈ ([] : List Nat); exact List.not_mem_nil)) e) q⟩
theorem zm_nA {n : Int32} {K K' : Nat → AH → Prop} (z : ZZ L0 xs0 h) (f : ∀ a h1, ZZ L0 xs0 h1 → K a h1 → K' a h1) : nA h t n K → nA h t n K' := fun ⟨a, b, q⟩ => ⟨a, b, f _ _ z.new q⟩
theorem zm_nQ {n : Int32} {K K' : Nat → AH → Prop} (z : ZZ L0 xs0 h) (f : ∀ a h1, ZZ L0 xs0 h1 → K a h1 → K' a h1) : nQ h t n K → nQ h t n K' := fun ⟨a, b, q⟩ => ⟨a, b, f _ _ z.new q⟩
theorem zm_nO {N : Nat} {fs : List Value} {K K' : Nat → AH → Prop} (z : ZZ L0 xs0 h) (f : ∀ a h1, ZZ L0 xs0 h1 → K a h1 → K' a h1) : nO h ci N fs K → nO h ci N fs K' := fun q => f _ _ z.new q
theorem zm_cpI {a0 : Nat} {sp dp n : Int32} {K K' : AH → Prop} (z : ZZ L0 xs0 h) (f : ∀ h1, ZZ L0 xs0 h1 → K h1 → K' h1) : cpI h a0 sp a dp n K → cpI h a0 sp a dp n K' := fun ⟨a, b, c, d, e, g, m1, m2, m3, m4, m5, q⟩ => ⟨a, b, c, d, e, g, m1, m2, m3, m4, m5, f _ (z.arr (by decide) g) q⟩
end ZM
