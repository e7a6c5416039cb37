/-! a text read as a road -/
/-- what is read: 0 posts, 1 stones, 2 numbers, 3 places, 4 walkers, 5 kinds, 6 from, 7 to -/
abbrev PR : Type := Nat → Nat → Nat
def pu (R : PR) (c i v : Nat) : PR := fun c' i' => if c' = c ∧ i' = i then v else R c' i'
theorem pu_s (R : PR) (c i v : Nat) : pu R c i v c i = v := if_pos ⟨rfl, rfl⟩
theorem pu_c (R : PR) {c i c' i' : Nat} (v : Nat) (h : c' ≠ c) : pu R c i v c' i' = R c' i' := if_neg fun q => h q.1
theorem pu_i (R : PR) {c i c' i' : Nat} (v : Nat) (h : i' ≠ i) : pu R c i v c' i' = R c' i' := if_neg fun q => h q.2
/-- the sign at a place -/
def sg (S : SS) (t i : Nat) : Int32 := if (i : Int) < (S 2 t 0).toInt then S 3 t i else 256
def isD (x : Int32) (lo hi : Nat) : Option Nat := if (48 + (lo : Int)) ≤ x.toInt ∧ x.toInt ≤ 48 + (hi : Int) then some (x.toInt - 48).toNat else none
theorem isD_some {x : Int32} {lo hi v : Nat} (hh : hi ≤ 100) (h : isD x lo hi = some v) : lo ≤ v ∧ v ≤ hi ∧ x = nI (48 + v) := by
  unfold isD at h
  split at h
  · rename_i g
    have e := Option.some.inj h
    refine ⟨by omega, by omega, ti_ext ?_⟩
    rw [nI_toInt (by omega)]
    omega
  · cases h
theorem isD_none {x : Int32} {lo hi : Nat} (h : isD x lo hi = none) : ¬ ((48 + (lo : Int)) ≤ x.toInt ∧ x.toInt ≤ 48 + (hi : Int)) := by
  unfold isD at h
  split at h
  · cases h
  · assumption
def kof (x : Int32) : Option Nat := if x = 119 then some 0 else if x = 99 then some 1 else if x = 98 then some 2 else if x = 108 then some 3 else if x = 116 then some 4 else if x = 112 then some 5 else none
def dpN (R : PR) (v : Nat) : Nat → Bool
  | 0 => false
  | k + 1 => dpN R v k || decide (R 2 k = v)
theorem dpN_iff {R : PR} {v : Nat} : ∀ {m : Nat}, dpN R v m = true ↔ ∃ k, k < m ∧ R 2 k = v
  | 0 => ⟨fun z => (by cases z), fun z => (by obtain ⟨k, h, _⟩ := z; exact absurd h (Nat.not_lt_zero _))⟩
  | m + 1 => by
    show (dpN R v m || decide (R 2 m = v)) = true ↔ _
    rw [Bool.or_eq_true, dpN_iff, decide_eq_true_iff]
    refine ⟨fun z => ?_, fun ⟨w, h1, h2⟩ => ?_⟩
    · rcases z with ⟨w, h1, h2⟩ | z
      · exact ⟨w, by omega, h2⟩
      · exact ⟨m, by omega, z⟩
    · by_cases e : w = m
      · rw [e] at h2; exact Or.inr h2
      · exact Or.inl ⟨w, by omega, h2⟩
def adS (R : PR) (v q : Nat) : PR := pu (pu (pu R 2 (R 1 0) v) 3 (R 1 0) q) 1 0 (R 1 0 + 1)
def adW (R : PR) (k f g : Nat) : PR := pu (pu (pu (pu R 5 (R 4 0) k) 6 (R 4 0) f) 7 (R 4 0) g) 4 0 (R 4 0 + 1)
/-- one item from place a on: the fault, or what is read then (three places on) -/
def itS (sg : Nat → Int32) (R : PR) (a : Nat) : Sum Nat PR :=
  if R 1 0 = 5 ∨ 0 < R 4 0 then .inl a else match isD (sg (a + 1)) 1 9 with
    | none => .inl (a + 1)
    | some v => if dpN R v (R 1 0) then .inl (a + 1) else match isD (sg (a + 2)) 0 (R 0 0 - 1) with
      | none => .inl (a + 2)
      | some q => .inr (adS R v q)
def itW (sg : Nat → Int32) (R : PR) (a : Nat) : Sum Nat PR := match kof (sg a) with
    | none => .inl a
    | some k => if R 4 0 = 5 then .inl a else match isD (sg (a + 1)) 0 (R 0 0 - 1) with
      | none => .inl (a + 1)
      | some f => match isD (sg (a + 2)) 0 (R 0 0 - 1) with
        | none => .inl (a + 2)
        | some g => if g = f then .inl (a + 2) else .inr (adW R k f g)
def itm (sg : Nat → Int32) (R : PR) (a : Nat) : Sum Nat PR := if sg a = 109 then itS sg R a else itW sg R a
def skp (sg : Nat → Int32) : Nat → Nat → Nat
  | 0, a => a
  | n + 1, a => if sg a = 32 then skp sg n (a + 1) else a
def prs (sg : Nat → Int32) : Nat → Nat → PR → Sum Nat PR
  | 0, _, R => .inr R
  | n + 1, a, R => if sg a = 256 then .inr R else match itm sg R a with
    | .inl f => .inl f
    | .inr R' => prs sg n (skp sg 61 (a + 3)) R'
def pr0 (p : Nat) : PR := fun c i => if c = 0 ∧ i = 0 then p else 0
def pall (sg : Nat → Int32) : Sum Nat PR :=
  if sg (skp sg 61 0) = 114 then match isD (sg (skp sg 61 0 + 1)) 2 7 with
    | none => .inl (skp sg 61 0 + 1)
    | some p => prs sg 61 (skp sg 61 (skp sg 61 0 + 2)) (pr0 p)
  else .inl (skp sg 61 0)
/-- what holds of what is read -/
def RI (R : PR) : Prop := 2 ≤ R 0 0 ∧ R 0 0 ≤ 7 ∧ R 1 0 ≤ 5 ∧ R 4 0 ≤ 5 ∧ (∀ k, k < R 1 0 → 1 ≤ R 2 k ∧ R 2 k ≤ 9 ∧ R 3 k < R 0 0) ∧ (∀ k j, k < j → j < R 1 0 → R 2 k ≠ R 2 j) ∧ ∀ w, w < R 4 0 → R 5 w ≤ 5 ∧ R 6 w < R 0 0 ∧ R 7 w < R 0 0 ∧ R 6 w ≠ R 7 w
theorem RI.zero {p : Nat} (h2 : 2 ≤ p) (h7 : p ≤ 7) : RI (pr0 p) := ⟨h2, h7, Nat.zero_le _, Nat.zero_le _, fun k hk => absurd hk (Nat.not_lt_zero _), fun k j _ hj => absurd hj (Nat.not_lt_zero _), fun w hw => absurd hw (Nat.not_lt_zero _)⟩
theorem kof_le {x : Int32} {k : Nat} (h : kof x = some k) : k ≤ 5 := by
  unfold kof at h
  split at h
  · have := Option.some.inj h; omega
  · split at h
    · have := Option.some.inj h; omega
    · split at h
      · have := Option.some.inj h; omega
      · split at h
        · have := Option.some.inj h; omega
        · split at h
          · have := Option.some.inj h; omega
          · split at h
            · have := Option.some.inj h; omega
            · cases h
section ADD
variable {R : PR} {v q k f g : Nat}
theorem adS_c {c i : Nat} (hc : c ≠ 1) (h2 : c ≠ 2 ∨ i ≠ R 1 0) (h3 : c ≠ 3 ∨ i ≠ R 1 0) : adS R v q c i = R c i := by
  unfold adS
  rw [pu_c _ _ hc]
  rw [show pu (pu R 2 (R 1 0) v) 3 (R 1 0) q c i = pu R 2 (R 1 0) v c i from if_neg (fun z => by rcases h3 with y | y; exact y z.1; exact y z.2)]
  exact if_neg (fun z => by rcases h2 with y | y; exact y z.1; exact y z.2)
theorem adS_1 : adS R v q 1 0 = R 1 0 + 1 := pu_s _ _ _ _
theorem adS_2 : adS R v q 2 (R 1 0) = v := by unfold adS; rw [pu_c _ _ (by omega), pu_c _ _ (by omega), pu_s]
theorem adS_3 : adS R v q 3 (R 1 0) = q := by unfold adS; rw [pu_c _ _ (by omega), pu_s]
theorem adW_c {c i : Nat} (hc : c < 4) : adW R k f g c i = R c i := by
  unfold adW
  rw [pu_c _ _ (by omega), pu_c _ _ (by omega), pu_c _ _ (by omega), pu_c _ _ (by omega)]
theorem adW_i {c i : Nat} (hc : c ≠ 4) (hi : i ≠ R 4 0) : adW R k f g c i = R c i := by
  unfold adW
  rw [pu_c _ _ hc, pu_i _ _ hi, pu_i _ _ hi, pu_i _ _ hi]
theorem adW_4 : adW R k f g 4 0 = R 4 0 + 1 := pu_s _ _ _ _
theorem adW_5 : adW R k f g 5 (R 4 0) = k := by unfold adW; rw [pu_c _ _ (by omega), pu_c _ _ (by omega), pu_c _ _ (by omega), pu_s]
theorem adW_6 : adW R k f g 6 (R 4 0) = f := by unfold adW; rw [pu_c _ _ (by omega), pu_c _ _ (by omega), pu_s]
theorem adW_7 : adW R k f g 7 (R 4 0) = g := by unfold adW; rw [pu_c _ _ (by omega), pu_s]
theorem adS_o {c i : Nat} (hc : c ≠ 1) (hi : i < R 1 0) : adS R v q c i = R c i := adS_c hc (Or.inr (by omega)) (Or.inr (by omega))
theorem adS_x {c i : Nat} (hc : c = 0 ∨ 4 ≤ c) : adS R v q c i = R c i := adS_c (by omega) (Or.inl (by omega)) (Or.inl (by omega))
theorem ri_adS (I : RI R) (hs : R 1 0 < 5) (h1 : 1 ≤ v) (h9 : v ≤ 9) (hq : q < R 0 0) (hd : dpN R v (R 1 0) = false) : RI (adS R v q) := by
  obtain ⟨i1, i2, i3, i4, i5, i6, i7⟩ := I
  have nd : ∀ k, k < R 1 0 → R 2 k ≠ v := fun k hk z => by
    have : dpN R v (R 1 0) = true := dpN_iff.mpr ⟨k, hk, z⟩
    rw [hd] at this
    cases this
  unfold RI
  rw [adS_x (Or.inl rfl), adS_1, adS_x (Or.inr (by omega))]
  refine ⟨i1, i2, by omega, i4, fun k hk => ?_, fun k j hkj hj => ?_, fun w hw => ?_⟩
  · by_cases e : k = R 1 0
    · rw [e, adS_2, adS_3]; exact ⟨h1, h9, hq⟩
    · rw [adS_o (by omega) (by omega), adS_o (by omega) (by omega)]; exact i5 k (by omega)
  · rw [adS_o (by omega) (by omega)]
    by_cases e : j = R 1 0
    · rw [e, adS_2]; exact nd k (by omega)
    · rw [adS_o (by omega) (by omega)]; exact i6 k j hkj (by omega)
  · rw [adS_x (Or.inr (by omega)), adS_x (Or.inr (by omega)), adS_x (Or.inr (by omega))]
    exact i7 w hw
theorem ri_adW (I : RI R) (hs : R 4 0 < 5) (hk : k ≤ 5) (hf : f < R 0 0) (hg : g < R 0 0) (hn : ¬ g = f) : RI (adW R k f g) := by
  obtain ⟨i1, i2, i3, i4, i5, i6, i7⟩ := I
  unfold RI
  rw [adW_c (by omega), adW_c (by omega), adW_4]
  refine ⟨i1, i2, i3, by omega, fun k hk => ?_, fun k j hkj hj => ?_, fun w hw => ?_⟩
  · rw [adW_c (by omega), adW_c (by omega)]; exact i5 k hk
  · rw [adW_c (by omega), adW_c (by omega)]; exact i6 k j hkj hj
  · by_cases e : w = R 4 0
    · rw [e, adW_5, adW_6, adW_7]; exact ⟨hk, hf, hg, fun z => hn z.symm⟩
    · rw [adW_i (by omega) e, adW_i (by omega) e, adW_i (by omega) e]; exact i7 w (by omega)
end ADD
theorem ri_itm {sg : Nat → Int32} {R R' : PR} {a : Nat} (I : RI R) (h : itm sg R a = .inr R') : RI R' := by
  have hp := I.2.1
  have hp2 := I.1
  unfold itm at h
  split at h
  · unfold itS at h
    split at h
    · cases h
    · rename_i q
      split at h
      · cases h
      · rename_i v hv
        split at h
        · cases h
        · rename_i hd
          split at h
          · cases h
          · rename_i w hw
            have e := Sum.inr.inj h
            subst e
            have d1 := isD_some (by omega) hv
            have d2 := isD_some (by omega) hw
            have := I.2.2.1
            exact ri_adS I (by omega) (by omega) (by omega) (by omega) (Bool.eq_false_iff.mpr hd)
  · unfold itW at h
    split at h
    · cases h
    · rename_i k hk
      split at h
      · cases h
      · rename_i q
        split at h
        · cases h
        · rename_i f hf
          split at h
          · cases h
          · rename_i g hg
            split at h
            · cases h
            · rename_i hn
              have e := Sum.inr.inj h
              subst e
              have d1 := isD_some (by omega) hf
              have d2 := isD_some (by omega) hg
              have := I.2.2.2.1
              exact ri_adW I (by omega) (kof_le hk) (by omega) (by omega) hn
theorem ri_prs {sg : Nat → Int32} : ∀ (n a : Nat) (R R' : PR), RI R → prs sg n a R = .inr R' → RI R'
  | 0, a, R, R', I, h => by have := Sum.inr.inj h; subst this; exact I
  | n + 1, a, R, R', I, h => by
    unfold prs at h
    split at h
    · have := Sum.inr.inj h; subst this; exact I
    · split at h
      · cases h
      · rename_i R2 h2
        exact ri_prs n _ R2 R' (ri_itm I h2) h
theorem ri_pall {sg : Nat → Int32} {R : PR} (h : pall sg = .inr R) : RI R := by
  unfold pall at h
  split at h
  · split at h
    · cases h
    · rename_i p hp
      have := isD_some (by omega) hp
      exact ri_prs _ _ _ _ (RI.zero (by omega) (by omega)) h
  · cases h
theorem skp_ge {sg : Nat → Int32} : ∀ (n a : Nat), a ≤ skp sg n a
  | 0, a => Nat.le_refl _
  | n + 1, a => by
    unfold skp
    split
    · have := skp_ge (sg := sg) n (a + 1); omega
    · exact Nat.le_refl _
theorem sg_end {S : SS} {t i : Nat} (h : (S 2 t 0).toInt ≤ 60) (hi : 60 ≤ i) : sg S t i = 256 := by
  unfold sg
  rw [if_neg (by omega)]
theorem skp_le {S : SS} {t : Nat} (h : (S 2 t 0).toInt ≤ 60) : ∀ (n a : Nat), skp (sg S t) n a ≤ max a 60
  | 0, a => by show a ≤ _; omega
  | n + 1, a => by
    unfold skp
    split
    · rename_i e
      have lt : a < 60 := by
        rcases Nat.lt_or_ge a 60 with z | z
        · exact z
        · rw [sg_end h z] at e
          exact absurd e (by decide)
      have := skp_le (S := S) (t := t) h n (a + 1)
      omega
    · omega
theorem fig_iff {x : Int32} {lo hi : Nat} (hh : hi ≤ 100) (hl : lo ≤ 100) : (nI lo ≤ x - 48 ∧ x - 48 ≤ nI hi) ↔ ((48 + (lo : Int)) ≤ x.toInt ∧ x.toInt ≤ 48 + (hi : Int)) := by
  have e48 : (48 : Int32).toInt = 48 := rfl
  have b := x.toInt_lt
  rw [tle, tle, nI_toInt (by omega), nI_toInt (by omega)]
  refine ⟨fun ⟨h1, h2⟩ => ?_, fun ⟨h1, h2⟩ => ?_⟩
  · have e : x = (x - 48) + 48 := (Int32.sub_add_cancel x 48).symm
    have e2 : x.toInt = (x - 48).toInt + 48 := by
      have := ti_add (x := x - 48) (y := 48) (by rw [e48]; omega) (by rw [e48]; omega)
      rw [← e, e48] at this
      exact this
    omega
  · rw [ti_sub (by rw [e48]; omega) (by rw [e48]; omega), e48]
    omega
