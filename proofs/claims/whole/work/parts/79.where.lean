section WHERE
variable {h : AH} {S : SS} {u l : Int64} {n : Nat}
theorem m_wr2 {j k : Nat} {v : Int32} {K : AH → Prop} (WS : WF S) (hj : j < 6) (hk : k < 60) (R : RM h S u l) (H : ∀ h1, RM h1 (up S 1 j k v) u l → Mag h h1 → K h1) : sI h 104 ((60 : Int32) * nI j + nI k) v K := by
  obtain ⟨fs, x, hc, hx, H'⟩ := m_wr WS hj hk R H
  obtain ⟨mi, ma, R1, -⟩ := R
  have e := hc.symm.trans R1.1
  simp only [Option.some.injEq, Sum.inr.injEq, Prod.mk.injEq, true_and] at e
  subst e
  have e2 : x = 104 := by
    have := hx.symm.trans (mr1 mi u l)
    simp only [Option.some.injEq, Value.ref.injEq] at this
    exact this
  subst e2
  exact H'
/-- a post as it is told -/
def tpI (p : Nat) : Int32 := if p = 7 then -9 else nI p
theorem c_tell {c k : Nat} {Q : Int32 → AH → Prop} (hc : c < 32768) (hk : k < 5) (H : Q (tpI (dig c k)) h) : f_X5_tellPost (nI c) (nI k) h Q := by
  have hd := dig_lt c k
  refine c_post hc hk ?_
  rw [show (7 : Int32) = nI 7 from rfl, nI_eqI (by omega) (by omega)]
  unfold tpI at H
  refine ⟨fun q => ?_, fun q => ?_⟩
  · rw [if_neg q] at H; exact H
  · rw [if_pos q] at H; exact H
theorem m_tellP {p : Nat} {Q : Int32 → AH → Prop} (hp : p < 8) (H : Q (tpI p) h) : f_X12_told (nI p) h Q := by
  unfold f_X12_told
  rw [show (7 : Int32) = nI 7 from rfl, nI_eqI (by omega) (by omega)]
  unfold tpI at H
  refine ⟨fun q => ?_, fun q => ?_⟩
  · rw [if_neg q] at H; exact H
  · rw [if_pos q] at H; exact H
end WHERE
