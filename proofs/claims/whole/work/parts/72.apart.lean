section APART
variable {h : AH} {S : SS} {u l : Int64} {n : Nat}
theorem m_apart_L {c : Nat} {Q : Int32 → AH → Prop} (W : WFr S) (e14 : S 14 0 0 = nI c) (hc : c < 32768) : ∀ (m k : Nat) (h : AH), k + m = sN S → RM h (up S 4 0 0 (nI (hmc S c k))) u l → (∀ h1, RM h1 (up S 4 0 0 (nI (hmc S c (sN S)))) u l → Mag h h1 → Q (nI (apt S c (sN S))) h1) → L_X12_apart_7 Q 102 (m + 1) (nI k) h := by
  have hs5 := W.2.2.2.2.2.1
  intro m
  induction m with
  | zero =>
    intro k h hk M H
    obtain ⟨mi, ma, R, A, Wm, T, F, Rd, Lg, Kp⟩ := id M
    have Rd' : LkR S ma := Rd.keep (fun _ _ _ _ => rfl) (fun c i j _ _ => (up_c S _ (by omega)).symm)
    have A9 : mi 9 = S 7 0 0 := A.2.2.1.trans (up_c S _ (by omega))
    have A10 : mi 10 = S 8 0 0 := A.2.2.2.1.trans (up_c S _ (by omega))
    have A17 : mi 17 = nI c := (A.2.2.2.2.2.2.1.trans (up_c S _ (by omega))).trans e14
    have : k = sN S := by omega
    subst this
    refine m_gI R (mg10 _ _ _) ?_
    rw [A10, W.2.1]
    refine ⟨fun _ => m_gI R (mg17 _ _ _) ?_, fun q => absurd (Int32.le_refl _) q⟩
    rw [A17]
    exact ⟨R.o, m_apartOf W Rd' A9 A10 (MS.any R) hc (H h M Mag.rf)⟩
  | succ m ih =>
    intro k h hk M H
    obtain ⟨mi, ma, R, A, Wm, T, F, Rd, Lg, Kp⟩ := id M
    have Rd' : LkR S ma := Rd.keep (fun _ _ _ _ => rfl) (fun c i j _ _ => (up_c S _ (by omega)).symm)
    have A9 : mi 9 = S 7 0 0 := A.2.2.1.trans (up_c S _ (by omega))
    have A10 : mi 10 = S 8 0 0 := A.2.2.2.1.trans (up_c S _ (by omega))
    have A17 : mi 17 = nI c := (A.2.2.2.2.2.2.1.trans (up_c S _ (by omega))).trans e14
    refine m_gI R (mg10 _ _ _) ?_
    rw [A10, W.2.1, nI_leI (by omega) (by omega)]
    refine ⟨fun q => by omega, fun _ => m_gI R (mg4 _ _ _) (m_gI R (mg17 _ _ _) ?_)⟩
    rw [A17, A.1, up_s, nI_1]
    have nxt : ∀ x, x = nI (hmc S c (k + 1)) → pF h 102 12 4 (.int x) (fun h9 => L_X12_apart_7 Q 102 (m + 1) (nI (k + 1)) h9) := by
      intro x hx
      subst hx
      refine m_told M (fun h1 r1 a1 => ih (k + 1) h1 (by omega) ?_ (fun h2 r2 a2 => H h2 r2 (a1.tr a2)))
      rw [up_up] at r1
      exact r1
    refine ⟨R.o, m_isHome W Rd' A9 (MS.any R) hc (by omega) ⟨fun z => nxt _ ?_, fun z => nxt _ ?_⟩⟩
    · show nI (hmc S c k) + 0 = nI (hmc S c k + (if dig c k + 1 = nu S k ∧ nu S k ≤ pN S then 1 else 0))
      split at z
      · exact absurd z (by decide)
      · rename_i g; rw [if_neg g]; exact Int32.add_zero _
    · show nI (hmc S c k) + 1 = nI (hmc S c k + (if dig c k + 1 = nu S k ∧ nu S k ≤ pN S then 1 else 0))
      split at z
      · rename_i g; rw [if_pos g]; exact nI_1 _
      · exact absurd rfl z
theorem op_apart (I : Inv h n) : f_X11_apart 1 h (fun x h1 => f_X12_apart 102 h1 (fun y h2 => x = y ∧ Inv h2 n)) := by
  obtain ⟨S, u, l, R, M, W⟩ := I
  obtain ⟨w1, w2, w3, w4, w5, w6, w7, w8⟩ := id W
  obtain ⟨rd, X, c1, C, xr⟩ := R.road
  have cb := Cd_lt w3 w4.2
  unfold f_X11_apart f_X12_apart
  refine gR_of c1 rfl (gI_of c1 rfl ?_)
  rw [w4.1]
  refine ⟨C.o, c_homes w3 C cb (c_told2 R (fun h1 r1 a1 b1 => ?_))⟩
  obtain ⟨rd2, X2, c2, C2, -⟩ := r1.road
  have sR : sameR (up S 4 0 0 (nI (hmc S (stN S) (sN S)))) S := fun c i j _ _ => (up_c S _ (by omega)).symm
  have C3 : Crod h1 rd2 S X2 := C2.keep (fun _ _ => rfl) sR
  refine gR_of c2 rfl (gI_of c2 rfl ?_)
  rw [up_c _ _ (by omega), w4.1]
  refine ⟨C3.o, c_far w3 C3 cb ?_⟩
  refine m_told (M.keep a1) (fun h2 r2 a2 => ⟨sN S + 1, m_apart_L w3 w4.1 cb (sN S) 0 h2 (by omega) r2 (fun h3 r3 a3 => ⟨rfl, Inv.of r1 r3 (a2.tr a3) (WF_told W _)⟩)⟩)
end APART
