/-! what was paid and moved in all: the class's sums over its trips -/
section SUMS
variable {h : AH} {S : SS} {u l : Int64} {n : Nat}
theorem RC.trp (R : RC h S u l n) : (∃ f, h.2.2 4 = some (.inl (3, 60, .inr (.inr (.inr (.inr f))))) ∧ ∀ i, i < 60 → f i = some (42 + i)) ∧ Ctrp h S := by
  obtain ⟨rd, fa, li, qu, N, X, c1, c2, c3, c4, c5, c6, c7, c8, -⟩ := R
  exact ⟨c2.2.2, c7⟩
theorem c_allPay {w : Int32} {Q : Int32 → AH → Prop} (R : RC h S u l n) (W : WF S) (H : Q (smI (fun i => if S 17 i 0 = w then S 19 i 0 else 0) (dnN S)) h) : f_X11_allPay 1 w h Q := by
  have w6 := W.2.2.2.2.2.1
  obtain ⟨⟨f4, g4, g5⟩, C7⟩ := R.trp
  have main : ∀ (m i : Nat), i + m = dnN S → L_X11_allPay_4 Q 1 w (m + 1) (smI (fun i => if S 17 i 0 = w then S 19 i 0 else 0) i) (nI i) h := by
    intro m
    induction m with
    | zero =>
      intro i hi
      have : i = dnN S := by omega
      subst this
      refine c_gI R (fun _ => rfl) ?_
      rw [w6.1]
      exact ⟨fun _ => H, fun q => absurd (Int32.le_refl _) q⟩
    | succ m ih =>
      intro i hi
      obtain ⟨a1, a2, a3, a4, a5, a6, a7, a8, z, zz⟩ := C7 i (by omega)
      obtain ⟨b1, b2, b3, b4⟩ := zz (by rw [w6.1]; exact nI_lt (by omega) (by omega))
      have ih := ih (i + 1) (by omega)
      rw [smI] at ih
      have lq : ∀ K : Nat → Prop, K (42 + i) → gR h 1 11 2 (fun a => lQ h a 3 (nI i) K) := fun K y => c_gR R (fun _ => rfl) (lQ_of g4 (vp_in_nI (by omega) (by omega)) (by rw [nI_clamp (by omega)]; exact g5 i (by omega)) y)
      refine c_gI R (fun _ => rfl) ?_
      rw [w6.1, nI_leI (by omega) (by omega)]
      refine ⟨fun q => by omega, fun _ => ⟨fun q => absurd q (by rw [show (60 : Int32) = nI 60 from rfl, nI_leI (by omega) (by omega)]; omega), fun _ => lq _ (gI_of z rfl ⟨fun q => ?_, fun q => lq _ (gI_of z rfl ?_)⟩)⟩⟩
      · rw [nI_1]
        rw [b2] at q
        rw [if_neg q, Int32.add_zero] at ih
        exact ih
      · rw [nI_1]
        rw [b2] at q
        rw [if_pos q, ← b3] at ih
        exact ih
  exact ⟨dnN S + 1, main (dnN S) 0 (by omega)⟩
end SUMS
