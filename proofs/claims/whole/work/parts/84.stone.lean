section STONE
variable {h : AH} {S : SS} {u l : Int64} {n : Nat}
theorem c_times {t k : Nat} {f : Nat → Int32} {rd : Nat} {lw bf st by_ py ca : Int32} {Q : Int32 → AH → Prop} (ho : h.2.2 t = some (trip rd lw bf st by_ py ca (pack5 f))) (hf : ∀ k, ∃ m, f k = nI m ∧ m ≤ 3) (hk : k < 5) (H : Q (f k) h) : f_X9_timesMoved t (nI k) h Q := by
  have e : f = fun k => nI (nN (f k)) := funext fun k => by
    obtain ⟨m, e1, e2⟩ := hf k
    rw [e1]
    exact congrArg nI (nI_clamp (by omega)).symm
  have lt : ∀ k, nN (f k) < 8 := fun k => by
    obtain ⟨m, e1, e2⟩ := hf k
    rw [e1, show nN (nI m) = m from nI_clamp (by omega)]
    omega
  have b := cod_lt (f := fun k => nN (f k)) (n := 5) (fun j _ => lt j)
  refine gI_of ho rfl ?_
  rw [e, pack_cod]
  refine c_post (by omega) hk ?_
  rw [dig_cod (f := fun k => nN (f k)) (fun j _ => lt j) hk]
  rw [e] at H
  exact H
theorem c_allMoves {k : Nat} {Q : Int32 → AH → Prop} (R : RC h S u l n) (W : WF S) (hk : k < 5) (H : Q (smI (fun i => S 20 i k) (dnN S)) h) : f_X11_allMoves 1 (nI k) h Q := by
  have w6 := W.2.2.2.2.2.1
  have w7 := W.2.2.2.2.2.2.1
  obtain ⟨⟨f4, g4, g5⟩, C7⟩ := R.trp
  have main : ∀ (m i : Nat), i + m = dnN S → L_X11_allMoves_4 Q 1 (nI k) (m + 1) (smI (fun i => S 20 i k) i) (nI i) h := by
    intro m
    induction m with
    | zero =>
      intro i hi
      have : i = dnN S := by omega
      subst this
      refine c_gI R (fun _ => rfl) ?_
      rw [w6.1]
      exact ⟨fun _ => H, fun q => absurd (Int32.le_refl _) q⟩
    | succ m ih =>
      intro i hi
      obtain ⟨a1, a2, a3, a4, a5, a6, a7, a8, z, zz⟩ := C7 i (by omega)
      obtain ⟨b1, b2, b3, b4⟩ := zz (by rw [w6.1]; exact nI_lt (by omega) (by omega))
      subst b4
      have ih := ih (i + 1) (by omega)
      rw [smI] at ih
      refine c_gI R (fun _ => rfl) ?_
      rw [w6.1, nI_leI (by omega) (by omega)]
      refine ⟨fun q => by omega, fun _ => ⟨fun q => absurd q (by rw [show (60 : Int32) = nI 60 from rfl, nI_leI (by omega) (by omega)]; omega), fun _ => c_gR R (fun _ => rfl) (lQ_of g4 (vp_in_nI (by omega) (by omega)) (by rw [nI_clamp (by omega)]; exact g5 i (by omega)) ⟨isO_of z, c_times z (w7 i (by omega)).2.2.2 hk ?_⟩)⟩⟩
      rw [nI_1]
      exact ih
  exact ⟨dnN S + 1, main (dnN S) 0 (by omega)⟩
end STONE
