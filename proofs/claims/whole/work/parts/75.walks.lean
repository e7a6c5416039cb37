/-! walks -/
def wks (j : Nat) : SS → Nat → Int32 → Nat → SS × Int32
  | S, _, v, 0 => (S, v)
  | S, i, v, m + 1 => wks j (wlkS S (nN (S 1 j i))) (i + 1) (v + nI (bhd S (stN S) (nN (S 1 j i)) (rlN S)).2.2) m
/-- a row of walkers, from place i on -/
def rwk (S : SS) (j i m : Nat) : Prop := S 0 j 0 = nI (i + m) ∧ (∀ k, k < i + m → ∃ w, w < wN S ∧ S 1 j k = nI w) ∧ dnN S + m ≤ 60 ∧ i + m ≤ 60
theorem rwk.next {S : SS} {j i m w : Nat} (K : rwk S j i (m + 1)) : rwk (wlkS S w) j (i + 1) m := by
  obtain ⟨k1, k2, k3, k4⟩ := K
  have e16 : dnN (wlkS S w) = dnN S + 1 := by show nN (wlkS S w 16 0 0) = _; rw [wlk_16]; exact nI_clamp (by omega)
  refine ⟨by rw [wlk_c (by omega), k1, show i + 1 + m = i + (m + 1) by omega], fun k hk => ?_, by omega, by omega⟩
  rw [sr_w (wlk_D (S := S) (w := w)).R, wlk_c (by omega)]
  exact k2 k (by omega)
section WALKS
variable {h : AH} {S : SS} {u l : Int64} {n : Nat}
theorem c_walks_L {j : Nat} {Q : Int32 → AH → Prop} (hj : j < 6) : ∀ (m i : Nat) (S : SS) (v : Int32) (h : AH), rwk S j i m → WF S → RC h S u l n → (∀ h1, RC h1 (wks j S i v m).1 u l n → WF (wks j S i v m).1 → Cag h h1 → Q (wks j S i v m).2 h1) → L_X11_walks_89 Q 1 (22 + 2 * j) (m + 1) v (nI i) h := by
  intro m
  induction m with
  | zero =>
    intro i S v h K W R H
    obtain ⟨k1, k2, k3, k4⟩ := K
    have rw_ := R.rows.2 j hj
    refine gI_of rw_.1 rfl ?_
    rw [k1]
    exact ⟨fun _ => H h R W Cag.rf, fun q => absurd (Int32.le_refl _) q⟩
  | succ m ih =>
    intro i S v h K W R H
    obtain ⟨k1, k2, k3, k4⟩ := id K
    have rw_ := R.rows.2 j hj
    have hz : (S 0 j 0).toInt = (i + (m + 1) : Nat) := by rw [k1, nI_toInt (by omega)]
    refine gI_of rw_.1 rfl ⟨fun q => absurd q ?_, fun _ => ⟨isO_of rw_.1, c_get rw_ (by omega) (fun q => absurd ⟨nI_pos' (by omega), by rw [k1]; exact nI_lt (by omega) (by omega)⟩ q) (fun k e hk1 hk2 => ?_)⟩⟩
    · rw [k1, nI_leI (by omega) (by omega)]; omega
    · have e2 : i = k := (nI_eqI (by omega) (by omega)).mp e
      subst e2
      obtain ⟨w, hw, ew⟩ := k2 i (by omega)
      have en : nN (S 1 j i) = w := by rw [ew]; exact nI_clamp (by have := W.2.2.1.2.2.2.2.2.2.1; omega)
      rw [ew]
      refine ⟨R.o, c_doWalk R W hw (by omega) fun h1 r1 a1 => ?_⟩
      rw [nI_1]
      refine ih (i + 1) (wlkS S w) _ h1 K.next (WF_wlk W hw (by omega)) r1 (fun h2 r2 w2 a2 => ?_)
      have := H h2
      rw [wks, en] at this
      exact this r2 w2 (a1.tr a2)
theorem m_walks_W {j : Nat} {Q : Int32 → AH → Prop} (hj : j < 6) : ∀ (m i : Nat) (S : SS) (v : Int32) (h : AH), rwk S j i m → WF S → RM h S u l → (∀ h1, RM h1 (wks j S i v m).1 u l → Mag h h1 → Q (wks j S i v m).2 h1) → L_X12_walks_89 Q 102 (nI j) (m + 1) v (nI i) h := by
  intro m
  induction m with
  | zero =>
    intro i S v h K W R H
    obtain ⟨k1, k2, k3, k4⟩ := K
    refine m_size hj R ?_
    rw [k1]
    exact ⟨fun _ => H h R Mag.rf, fun q => absurd (Int32.le_refl _) q⟩
  | succ m ih =>
    intro i S v h K W R H
    obtain ⟨k1, k2, k3, k4⟩ := id K
    have hz : (S 0 j 0).toInt = (i + (m + 1) : Nat) := by rw [k1, nI_toInt (by omega)]
    refine m_size hj R ⟨fun q => absurd q ?_, fun _ => m_place hj (by omega) (by omega) R ?_⟩
    · rw [k1, nI_leI (by omega) (by omega)]; omega
    · obtain ⟨w, hw, ew⟩ := k2 i (by omega)
      have en : nN (S 1 j i) = w := by rw [ew]; exact nI_clamp (by have := W.2.2.1.2.2.2.2.2.2.1; omega)
      rw [ew]
      refine ⟨R.o, m_walks1 R W hw (by omega) fun h1 r1 a1 => ?_⟩
      rw [nI_1]
      refine ih (i + 1) (wlkS S w) _ h1 K.next (WF_wlk W hw (by omega)) r1 (fun h2 r2 a2 => ?_)
      have := H h2
      rw [wks, en] at this
      exact this r2 (a1.tr a2)
end WALKS
