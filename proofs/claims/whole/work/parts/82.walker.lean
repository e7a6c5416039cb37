section WALKER
variable {h : AH} {S : SS} {u l : Int64} {n : Nat}
theorem c_kind {hh : AH} {wa w : Nat} {Q : Int32 → AH → Prop} (W : WFr S) (hw : w < wN S) (ho : hh.2.2 wa = some (wob S w)) (H : Q (nI (kd S w)) hh) : v_kind0 wa hh Q := by
  obtain ⟨w1, w2, -⟩ := W.2.2.2.2.2.2.2.2.2.2 w hw
  have cs : kd S w = 0 ∨ kd S w = 1 ∨ kd S w = 2 ∨ kd S w = 3 ∨ kd S w = 4 ∨ kd S w = 5 := by omega
  refine ⟨_, _, ho, ?_⟩
  unfold kcl
  rcases cs with e | e | e | e | e | e <;> rw [e] at H ⊢
  · exact Or.inr (Or.inr (Or.inr (Or.inr (Or.inr ⟨rfl, H⟩))))
  · exact Or.inr (Or.inl ⟨rfl, H⟩)
  · exact Or.inl ⟨rfl, H⟩
  · exact Or.inr (Or.inr (Or.inl ⟨rfl, H⟩))
  · exact Or.inr (Or.inr (Or.inr (Or.inr (Or.inl ⟨rfl, H⟩))))
  · exact Or.inr (Or.inr (Or.inr (Or.inl ⟨rfl, H⟩)))
theorem kcl_wk {k : Nat} (hk : k ≤ 5) : kcl k ∈ wkl := by
  have cs : k = 0 ∨ k = 1 ∨ k = 2 ∨ k = 3 ∨ k = 4 ∨ k = 5 := by omega
  rcases cs with e | e | e | e | e | e <;> subst e <;> decide
end WALKER
