/-! moved, who -/
def okp (S : SS) (j k : Nat) : Prop := S 1 j k = -9 ∨ (0 ≤ S 1 j k ∧ S 1 j k < S 7 0 0)
def gof (S : SS) (j k : Nat) : Nat := if S 1 j k = -9 then 7 else nN (S 1 j k)
def gol (S : SS) (j : Nat) : Nat := cod (gof S j) (sN S)
section WHO
variable {h0 h : AH} {S : SS} {u l : Int64} {n : Nat} {ma0 ma : Nat → Nat → Int32} {mi : Nat → Int32}
theorem okp_post {j k : Nat} (W : WFr S) (o : okp S j k) (ne : ¬ S 1 j k = -9) : ∃ p, p < pN S ∧ S 1 j k = nI p := by
  rcases o with o | ⟨o1, o2⟩
  · exact absurd o ne
  · rw [W.1] at o2
    obtain ⟨p, hp, e⟩ := lt_nI (m := pN S) (by have := W.2.2.2.1; omega) o1 o2
    exact ⟨p, hp, e⟩
theorem gof_lt {j k : Nat} (W : WFr S) (o : okp S j k) : gof S j k < 8 := by
  unfold gof
  split
  · omega
  · rename_i ne
    obtain ⟨p, hp, e⟩ := okp_post W o ne
    have := W.2.2.2.1
    rw [e, show nN (nI p) = p from nI_clamp (by omega)]
    omega
theorem gol_lt {j : Nat} (W : WFr S) (o : ∀ k, k < sN S → okp S j k) : gol S j < 32768 := by
  have h1 := cod_lt (f := gof S j) (n := sN S) (fun k hk => gof_lt W (o k hk))
  have h2 : 8 ^ sN S ≤ 8 ^ 5 := Nat.pow_le_pow_right (by omega) W.2.2.2.2.2.1
  unfold gol
  omega
theorem C_refuse {r : Int32} {Q : Int32 → AH → Prop} (R : RC h S u l n) (W : WF S) (h0 : r < 0 ∨ 6 ≤ r → Q (-1) h)
    (h1 : ∀ j, j < 6 → r = nI j → S 0 j 0 < 0 → ∀ h1, RC h1 (fnd S 1) u l n → Cag h h1 → Q (-3) h1)
    (h2 : ∀ j, j < 6 → r = nI j → 0 ≤ S 0 j 0 → ¬ S 0 j 0 = S 8 0 0 → ∀ h1, RC h1 (fnd S 5) u l n → Cag h h1 → Q (-3) h1)
    (h3 : ∀ j, j < 6 → r = nI j → S 0 j 0 = S 8 0 0 → (∃ k, k < sN S ∧ ¬ okp S j k) → ∀ h1, RC h1 (fnd S 3) u l n → Cag h h1 → Q (-3) h1)
    (h4 : ∀ j, j < 6 → r = nI j → S 0 j 0 = S 8 0 0 → (∀ k, k < sN S → okp S j k) → Q 0 h) : f_X11_refuseStanding 1 r h Q := by
  obtain ⟨w1, w2, w3, w4, w5, w6, w7, w8⟩ := id W
  have hs5 := w3.2.2.2.2.2.1
  refine c_gR R (fun _ => rfl) ⟨R.o, c_rmiss R R.rows (by omega) (fun q => brm1 (h0 (by grind [show nI 6 = 6 from rfl]))) (fun j hj e q h1' r1 a1 => brm3 (h1 j hj e q h1' r1 a1)) (fun j hj e q => br0 ?_)⟩
  subst e
  have rw_ := R.rows.2 j hj
  refine c_gR R (fun _ => rfl) (c_rowAt R.rows hj (by omega) (gI_of rw_.1 rfl (c_stones R ⟨fun z => ?_, fun z => ⟨R.o, c_found (f := 5) (by omega) R (h2 j hj rfl q z)⟩⟩)))
  have ez : S 0 j 0 = nI (sN S) := z.trans w3.2.1
  have tz : (S 0 j 0).toInt = sN S := by rw [ez, nI_toInt (by omega)]
  refine ⟨sN S + 1, lpG (L := L_X11_refuseStanding_46 Q 1 (22 + 2 * j)) (I := fun i b h' => b = nI i ∧ h' = h ∧ ∀ k, k < i → okp S j k) (sN S) (fun m b h' Y => ?_) (fun i m b h' hi Y K => ?_) (sN S) 0 (by omega) 0 h ⟨rfl, rfl, fun k hk => absurd hk (Nat.not_lt_zero _)⟩⟩
  · obtain ⟨rfl, rfl, y⟩ := Y
    exact gI_of rw_.1 rfl ⟨fun _ => h4 j hj rfl z y, fun q => absurd (by rw [ez]; exact Int32.le_refl _) q⟩
  · obtain ⟨rfl, rfl, y⟩ := Y
    have get : ∀ {Q : Int32 → AH → Prop}, Q (S 1 j i) h' → f_X6_get (22 + 2 * j) (nI i) h' Q := fun H => c_get rw_ (by omega) (fun q => absurd ⟨nI_pos' (by omega), by rw [ez]; exact nI_lt (by omega) (by omega)⟩ q) (fun k e hk1 hk2 => by
      have e2 : i = k := (nI_eqI (by omega) (by omega)).mp e
      subst e2
      exact H)
    have nx : okp S j i → L_X11_refuseStanding_46 Q 1 (22 + 2 * j) m (nI i + 1) h' := fun o => by
      rw [nI_1]
      refine K _ _ ⟨rfl, rfl, fun k hk => ?_⟩
      by_cases e : k = i
      · rw [e]; exact o
      · exact y k (by omega)
    refine gI_of rw_.1 rfl ⟨fun q => absurd q ?_, fun _ => ⟨isO_of rw_.1, get ⟨fun q => nx (Or.inl q), fun q => ⟨isO_of rw_.1, get (c_posts R (c_isBelow (fun q2 => rb0 ⟨R.o, c_found (f := 3) (by omega) R (h3 j hj rfl z ⟨i, hi, fun o => ?_⟩)⟩) (fun q1 q2 => rb1 (nx (Or.inr ⟨q1, q2⟩)))))⟩⟩⟩⟩
    · rw [ez, nI_leI (by omega) (by omega)]; omega
    · rcases o with o | o
      · exact q o
      · exact q2 o
theorem c_standingOf {j : Nat} {Q : Int32 → AH → Prop} (R : RC h S u l n) (W : WF S) (hj : j < 6) (ez : S 0 j 0 = nI (sN S)) (ok : ∀ k, k < sN S → okp S j k) (H : Q (nI (gol S j)) h) : f_X11_standingOf 1 (22 + 2 * j) h Q := by
  obtain ⟨w1, w2, w3, w4, w5, w6, w7, w8⟩ := id W
  have hs5 := w3.2.2.2.2.2.1
  have hp7 := w3.2.2.2.1
  have rw_ := R.rows.2 j hj
  have tz : (S 0 j 0).toInt = sN S := by rw [ez, nI_toInt (by omega)]
  refine lpA (L := L_X11_standingOf_4 Q 1 (22 + 2 * j)) (fun i => nI (cod (gof S j) i)) (sN S) (fun k => c_stones R ⟨fun _ => H, fun q => absurd (by rw [w3.2.1]; exact Int32.le_refl _) q⟩) (fun i k hi K => c_stones R ⟨fun q => absurd q ?_, fun _ => ⟨isO_of rw_.1, ?_⟩⟩)
  · rw [w3.2.1, nI_leI (by omega) (by omega)]; omega
  · have get : ∀ {Q : Int32 → AH → Prop}, Q (S 1 j i) h → f_X6_get (22 + 2 * j) (nI i) h Q := fun H => c_get rw_ (by omega) (fun q => absurd ⟨nI_pos' (by omega), by rw [ez]; exact nI_lt (by omega) (by omega)⟩ q) (fun k e hk1 hk2 => by
      have e2 : i = k := (nI_eqI (by omega) (by omega)).mp e
      subst e2
      exact H)
    have lo : cod (gof S j) i < 8 ^ i := cod_lt (fun k hk => gof_lt w3 (ok k (by omega)))
    have l5 : 8 ^ i ≤ 8 ^ 5 := Nat.pow_le_pow_right (by omega) (by omega)
    have g8 := gof_lt w3 (ok i hi)
    have fin : ∀ x, x = nI (gof S j i) → B_X11_standingOf_37 Q (L_X11_standingOf_4 Q 1 (22 + 2 * j) k) 1 (22 + 2 * j) (nI i) (nI (cod (gof S j) i)) (nI i) x h := fun x e => by
      subst e
      unfold B_X11_standingOf_37 f_X5_withPost
      rw [b_with (by omega) (by omega) g8, nI_1]
      have e2 : wp (cod (gof S j) i) i (gof S j i) = cod (gof S j) (i + 1) := by
        have d0 : dig (cod (gof S j) i) i = 0 := by unfold dig; rw [Nat.div_eq_of_lt lo]
        unfold wp
        rw [d0, Nat.zero_mul, Nat.sub_zero]
        rfl
      rw [e2]
      exact K
    refine get ⟨fun q => ⟨isO_of rw_.1, get (fin _ ?_)⟩, fun q => fin _ ?_⟩
    · obtain ⟨p, hp, e⟩ := okp_post w3 (ok i hi) q
      unfold gof
      rw [if_neg q, e, show nN (nI p) = p from nI_clamp (by omega)]
    · unfold gof
      rw [if_pos q]
      rfl
theorem m_placeX {j k : Nat} {K : Int32 → Prop} (Z : MX S h0 u l ma0 h mi ma) (Wm : LkW S ma0) (hj : j < 6) (hk : k < 60) (hz : (k : Int) < (S 0 j 0).toInt) (H : K (S 1 j k)) : gR h 102 12 1 (fun a => lI h a ((60 : Int32) * nI j + nI k) K) := by
  rw [ix60]
  refine m_gR Z.rep (mr1 _ _ _) (m_lI Z.rep (j := 1) rfl rfl rfl (vp_in_nI (by omega) (by omega)) ?_)
  rw [nI_clamp (by omega), Z.2.2.2.2 1 _ (by omega), Wm.2 j hj k hz]
  exact H
theorem m_bars {j : Nat} {Q : Int32 → AH → Prop} (M : RM h S u l) (WS : WF S) (R : RepM h mi u l ma) (A : LkA S mi) (Rd : LkR S ma) (Wm : LkW S ma) (hj : j < 6)
    (H1 : S 0 j 0 < 0 → Q 1 h) (H5 : 0 ≤ S 0 j 0 → ¬ S 0 j 0 = S 8 0 0 → Q 5 h)
    (H3 : S 0 j 0 = S 8 0 0 → (∃ k, k < sN S ∧ ¬ okp S j k) → ∀ h1 mi1, MX S h u l ma h1 mi1 ma → mi1 4 = mi 4 → Q 3 h1)
    (H0 : S 0 j 0 = S 8 0 0 → (∀ k, k < sN S → okp S j k) → ∀ h1 mi1, MX S h u l ma h1 mi1 ma → mi1 4 = mi 4 → mi1 50 = nI (gol S j) → Q 0 h1) : f_X12_bars 102 (nI j) h Q := by
  obtain ⟨w1, w2, w3, w4, w5, w6, w7, w8⟩ := id WS
  have hs5 := w3.2.2.2.2.2.1
  have hp7 := w3.2.2.2.1
  have Z := MX.of R A Rd
  refine m_size hj M ⟨fun q0 => m_size hj M (m_gI R (mg10 _ _ _) ?_), fun q => H1 (Int32.not_le.mp q)⟩
  rw [A.2.2.2.1]
  refine ⟨fun z => Z.pF (by omega) (ms50 _ _ _ _) (fun h1 Z1 => ?_), fun z => H5 q0 z⟩
  have ez : S 0 j 0 = nI (sN S) := z.trans w3.2.1
  have tz : (S 0 j 0).toInt = sN S := by rw [ez, nI_toInt (by omega)]
  refine ⟨sN S + 1, lpG (L := L_X12_bars_33 Q 102 (nI j)) (I := fun i b h' => b = nI i ∧ (∀ k, k < i → okp S j k) ∧ ∃ mi1, MX S h u l ma h' mi1 ma ∧ mi1 4 = mi 4 ∧ mi1 50 = nI (cod (gof S j) i)) (sN S) (fun m b h' Y => ?_) (fun i m b h' hi Y K => ?_) (sN S) 0 (by omega) 0 h1 ⟨rfl, fun k hk => absurd hk (Nat.not_lt_zero _), _, Z1, pk_un (by omega), pk_us⟩⟩
  · obtain ⟨rfl, y, mi1, Z2, y1, y2⟩ := Y
    refine m_gI Z2.rep (mg10 _ _ _) ?_
    rw [Z2.a10, w3.2.1]
    exact ⟨fun _ => H0 z y h' mi1 Z2 y1 y2, fun q => absurd (Int32.le_refl _) q⟩
  · obtain ⟨rfl, y, mi1, Z2, y1, y2⟩ := Y
    refine m_gI Z2.rep (mg10 _ _ _) ?_
    rw [Z2.a10, w3.2.1, nI_leI (by omega) (by omega)]
    have fin : okp S j i → B_X12_bars_69 Q (L_X12_bars_33 Q 102 (nI j) m) 102 (nI j) (nI i) (S 1 j i) h' := fun o => by
      have nx : ∀ x, x = nI (gof S j i) → B_X12_bars_86 Q (L_X12_bars_33 Q 102 (nI j) m) 102 (nI j) (nI i) 102 (nI (cod (gof S j) i)) x h' := fun x e => by
        subst e
        refine Z2.pF (by omega) (ms50 _ _ _ _) (fun h3 Z3 => ?_)
        rw [nI_1]
        have yy : ∀ k, k < i + 1 → okp S j k := fun k hk => by
          by_cases e : k = i
          · rw [e]; exact o
          · exact y k (by omega)
        refine K _ _ ⟨rfl, yy, _, Z3, by rw [pk_un (by omega)]; exact y1, ?_⟩
        rw [pk_us, b_or (by omega) (fun t ht => gof_lt w3 (yy t (by omega)))]
      refine m_gI Z2.rep (mg50 _ _ _) ?_
      rw [y2]
      refine ⟨fun q => nx _ ?_, fun q => nx _ ?_⟩
      · obtain ⟨p, hp, e⟩ := okp_post w3 o q
        unfold gof
        rw [if_neg q, e, show nN (nI p) = p from nI_clamp (by omega)]
      · unfold gof
        rw [if_pos q]
        rfl
    refine ⟨fun q => by omega, fun _ => m_placeX Z2 Wm hj (by omega) (by omega) ⟨fun q => fin (Or.inl q), fun q => ⟨Z2.rep.o, m_isP w3 Z2.rep Z2.a9 (fun q2 => rb0 (H3 z ⟨i, hi, fun o => ?_⟩ h' mi1 Z2 y1)) (fun q1 q2 => rb1 (fin (Or.inr ⟨q1, q2⟩)))⟩⟩⟩
    rcases o with o | o
    · exact q o
    · exact q2 o
theorem MX.rmS (Z : MX S h0 u l ma0 h mi ma) (e4 : mi 4 = S 4 0 0) (Wm : LkW S ma0) (T : LkT S ma0) (F : LkF S ma0) (Lg : LkL S ma0) (Kp : LkK S ma0) : RM h S u l := by
  have := Z.rm Wm T F Lg Kp
  rw [e4, up_id] at this
  exact this
/-- a row is no standing, in the model -/
theorem M_no {x : Int32} {P : Prop} {Q : Int32 → AH → Prop} {f : Nat} (hf : f < 6) (hx : x = nI f) (hf0 : 0 < f) (M : RM h S u l) (H : ∀ h1, RM h1 (fnd S f) u l → Mag h h1 → Q (-3) h1) : ((x ≤ 0 → P) ∧ (¬ (x ≤ 0) → isO h 102 12 ∧ f_X12_find 102 x h (fun x11 h12 => Q x11 h12))) := by
  subst hx
  refine ⟨fun q => absurd q ?_, fun _ => ⟨M.o, m_find hf M H⟩⟩
  rw [show (0 : Int32) = nI 0 from rfl, nI_leI (by omega) (by omega)]
  omega
/-- the class's part that both share: from the refusals to the search -/
theorem C_seek {r : Int32} {Q : Int32 → AH → Prop} {F : Int32 → AH → Prop} (R : RC h S u l n) (W : WF S) (h0 : r < 0 ∨ 6 ≤ r → Q (-1) h)
    (h1 : ∀ j, j < 6 → r = nI j → S 0 j 0 < 0 → ∀ h1, RC h1 (fnd S 1) u l n → Cag h h1 → Q (-3) h1)
    (h2 : ∀ j, j < 6 → r = nI j → 0 ≤ S 0 j 0 → ¬ S 0 j 0 = S 8 0 0 → ∀ h1, RC h1 (fnd S 5) u l n → Cag h h1 → Q (-3) h1)
    (h3 : ∀ j, j < 6 → r = nI j → S 0 j 0 = S 8 0 0 → (∃ k, k < sN S ∧ ¬ okp S j k) → ∀ h1, RC h1 (fnd S 3) u l n → Cag h h1 → Q (-3) h1)
    (Hn : ∀ j, j < 6 → r = nI j → S 0 j 0 = S 8 0 0 → (∀ k, k < sN S → okp S j k) → (∀ m, m ≤ 4 → (LKN S (rlN S) (stN S) (gol S j) m).1 = 0) → ∀ h1, RC h1 S u l n → Cag h h1 → F (-9) h1)
    (Hs : ∀ j, j < 6 → r = nI j → S 0 j 0 = S 8 0 0 → (∀ k, k < sN S → okp S j k) → ∀ m, m ≤ 4 → 0 < (LKN S (rlN S) (stN S) (gol S j) m).1 → (∀ i, i < m → (LKN S (rlN S) (stN S) (gol S j) i).1 = 0) → ∀ h1 sr ss sl ex fa li qu re ga dr bg ie, RC h1 S u l n → Cag h h1 → h1.2.2 14 = some (sob sr ss sl ex fa li qu re ga dr (nI (LKN S (rlN S) (stN S) (gol S j) m).1) bg ie) → (1 ≤ m → bg = (LKN S (rlN S) (stN S) (gol S j) m).2.1) → ie = (LKN S (rlN S) (stN S) (gol S j) m).2.2 → F (nI m) h1) :
    isO h 1 11 ∧ f_X11_refuseStanding 1 r h (fun x1 h2 => ((x1 = 0 → gR h2 1 11 7 (fun a3 => gR h2 1 11 8 (fun a4 => gI h2 1 11 9 (fun x5 => gI h2 1 11 10 (fun x6 => isO h2 a3 7 ∧ f_X7_from a3 a4 x5 x6 h2 (fun h7 => gR h7 1 11 7 (fun a8 => gR h7 1 11 0 (fun a9 => lQ h7 a9 2 r (fun a10 => isO h7 1 11 ∧ f_X11_standingOf 1 a10 h7 (fun x11 h12 => isO h12 a8 7 ∧ f_X7_fewestTo a8 x11 h12 F)))))))))) ∧ (¬ (x1 = 0) → Q x1 h2))) := by
  obtain ⟨w1, w2, w3, w4, w5, w6, w7, w8⟩ := id W
  refine ⟨R.o, C_refuse R W (fun q => brm1 (h0 q)) (fun j hj e q h1' r1 a1 => brm3 (h1 j hj e q h1' r1 a1)) (fun j hj e q z h1' r1 a1 => brm3 (h2 j hj e q z h1' r1 a1)) (fun j hj e z b h1' r1 a1 => brm3 (h3 j hj e z b h1' r1 a1)) (fun j hj e z ok => br0 ?_)⟩
  obtain ⟨rd, X, c1, C, xr⟩ := R.road
  have gl := gol_lt w3 ok
  refine gR_of c1 rfl (gR_of c1 rfl (gI_of c1 rfl (gI_of c1 rfl ?_)))
  rw [w4.1, w5.1]
  obtain ⟨_, _, _, _, _, _, _, _, _, _, _, _, _, ho, -⟩ := R.sea
  refine ⟨isO_of ho, c_from R c1 (fun h1 ex fa li qu re ga dr rt bg ie R1 a1 o1 => ?_)⟩
  have c11 : Cmain h1 S u l rd := (a1 1 (by omega)).trans c1
  have C1 : Crod h1 rd S X := C.keep (fun x hx => a1 x (by have := xr x hx; unfold radr at this; omega)) sameR.rf
  have b1 : Cag h h1 := fun x _ _ => a1 x (by omega)
  obtain ⟨f, e', a, Z⟩ := SQ.of R1 o1
  refine gR_of c11 rfl (gR_of c11 rfl ?_)
  subst e
  refine c_rowAt R1.rows hj (by omega) ⟨R1.o, c_standingOf R1 W hj (z.trans w3.2.1) ok ⟨Z.o, q_fewestTo Z w3 C1 xr w4.2 w5.2 gl (fun hn h2 f2 rt2 bg2 ie2 Z2 => Hn j hj rfl z ok hn h2 (Z2.rc R1 c11 o1) (b1.tr Z2.cag)) (fun m hm hp hz h2 f2 bg2 ie2 Z2 y1 y2 => Hs j hj rfl z ok m hm hp hz h2 _ _ _ _ _ _ _ _ _ _ _ _ (Z2.rc R1 c11 o1) (b1.tr Z2.cag) Z2.2.2.2.1 y1 y2)⟩⟩
/-- the model's part that both share -/
theorem M_seek {j : Nat} {Q : Int32 → AH → Prop} {F : Int32 → AH → Prop} (M : RM h S u l) (W : WF S) (hj : j < 6)
    (h1 : S 0 j 0 < 0 → ∀ h1, RM h1 (fnd S 1) u l → Mag h h1 → Q (-3) h1)
    (h2 : 0 ≤ S 0 j 0 → ¬ S 0 j 0 = S 8 0 0 → ∀ h1, RM h1 (fnd S 5) u l → Mag h h1 → Q (-3) h1)
    (h3 : S 0 j 0 = S 8 0 0 → (∃ k, k < sN S ∧ ¬ okp S j k) → ∀ h1, RM h1 (fnd S 3) u l → Mag h h1 → Q (-3) h1)
    (Hn : S 0 j 0 = S 8 0 0 → (∀ k, k < sN S → okp S j k) → (∀ m, m ≤ 4 → (LKN S (rlN S) (stN S) (gol S j) m).1 = 0) → ∀ h1, RM h1 S u l → Mag h h1 → F (-9) h1)
    (Hs : S 0 j 0 = S 8 0 0 → (∀ k, k < sN S → okp S j k) → ∀ m, m ≤ 4 → 0 < (LKN S (rlN S) (stN S) (gol S j) m).1 → (∀ i, i < m → (LKN S (rlN S) (stN S) (gol S j) i).1 = 0) → ∀ h1 mi1 ma1, RepM h1 mi1 u l ma1 → RM h1 S u l → Mag h h1 → mi1 47 = nI (LKN S (rlN S) (stN S) (gol S j) m).1 → (1 ≤ m → mi1 48 = (LKN S (rlN S) (stN S) (gol S j) m).2.1) → mi1 49 = (LKN S (rlN S) (stN S) (gol S j) m).2.2 → F (nI m) h1) :
    f_X12_isRow (nI j) h (fun x1 h2 => ((¬ (x1 = 0) → isO h2 102 12 ∧ f_X12_bars 102 (nI j) h2 (fun x3 h4 => ((x3 ≤ 0 → isO h4 102 12 ∧ f_X12_fewestTo 102 h4 F) ∧ (¬ (x3 ≤ 0) → isO h4 102 12 ∧ f_X12_find 102 x3 h4 (fun x11 h12 => Q x11 h12))))) ∧ (x1 = 0 → Q (-1 : Int32) h2))) := by
  obtain ⟨mi, ma, R, A, Wm, T, Fd, Rd, Lg, Kp⟩ := id M
  refine m_rowJ hj (rb1 ⟨R.o, m_bars M W R A Rd Wm hj (fun q => M_no (x := 1) (f := 1) (by omega) rfl (by omega) M (h1 q)) (fun q z => M_no (x := 5) (f := 5) (by omega) rfl (by omega) M (h2 q z)) (fun z b h' mi' Z y => M_no (x := 3) (f := 3) (by omega) rfl (by omega) (Z.rmS (y.trans A.1) Wm T Fd Lg Kp) (fun h'' r'' a'' => h3 z b h'' r'' (Z.mag.tr a''))) (fun z ok h' mi' Z y1 y2 => ⟨fun _ => ⟨Z.rep.o, ?_⟩, fun q => absurd (by decide) q⟩)⟩)
  have gl := gol_lt W.2.2.1 ok
  refine m_fewestTo W Z gl y2 (fun hn h'' mi'' ma'' Z2 x1 => Hn z ok hn h'' (Z2.rmS ((x1.trans y1).trans A.1) Wm T Fd Lg Kp) Z2.mag) (fun m hm hp hz h'' mi'' ma'' Z2 x1 x2 x3 x4 => Hs z ok m hm hp hz h'' mi'' ma'' Z2.rep (Z2.rmS ((x1.trans y1).trans A.1) Wm T Fd Lg Kp) Z2.mag x2 x3 x4)
theorem first_eq {P : Nat → Nat} {a b : Nat} (ha : 0 < P a) (hb : 0 < P b) (za : ∀ i, i < a → P i = 0) (zb : ∀ i, i < b → P i = 0) : a = b := by
  rcases Nat.lt_trichotomy a b with h | h | h
  · have := zb a h; omega
  · exact h
  · have := za b h; omega
theorem op_moved {r : Int32} (I : Inv h n) : f_X11_moved 1 r h (fun x1 h1 => f_X12_moved 102 r h1 (fun y1 h2 => x1 = y1 ∧ Inv h2 n)) := by
  obtain ⟨S, u, l, R, M, W⟩ := I
  refine C_seek R W (fun q => m_rowB q (rb0 ⟨rfl, S, u, l, R, M, W⟩)) (fun j hj e q h1 r1 a1 => ?_) (fun j hj e q z h1 r1 a1 => ?_) (fun j hj e z b h1 r1 a1 => ?_) (fun j hj e z ok hn h1 r1 a1 => ?_) (fun j hj e z ok m hm hp hz h1 sr ss sl ex fa li qu re ga dr bg ie r1 a1 o1 y1 y2 => ?_)
  · subst e
    exact M_seek (M.keep a1) W hj (fun _ h2 r2 a2 => ⟨rfl, Inv.of r1 r2 a2 (WF_fnd W 1)⟩) (fun q2 => absurd q2 (Int32.not_le.mpr q)) (fun z => absurd (z.trans W.2.2.1.2.1) (fun z => by rw [z] at q; exact nI_n0 (by have := W.2.2.1.2.2.2.2.2.1; omega) q)) (fun z => absurd (z.trans W.2.2.1.2.1) (fun z => by rw [z] at q; exact nI_n0 (by have := W.2.2.1.2.2.2.2.2.1; omega) q)) (fun z => absurd (z.trans W.2.2.1.2.1) (fun z => by rw [z] at q; exact nI_n0 (by have := W.2.2.1.2.2.2.2.2.1; omega) q))
  · subst e
    exact M_seek (M.keep a1) W hj (fun q2 => absurd q (Int32.not_le.mpr q2)) (fun _ _ h2 r2 a2 => ⟨rfl, Inv.of r1 r2 a2 (WF_fnd W 5)⟩) (fun z2 => absurd z2 z) (fun z2 => absurd z2 z) (fun z2 => absurd z2 z)
  · subst e
    obtain ⟨k, hk, nk⟩ := b
    have q0 : ¬ S 0 j 0 < 0 := by rw [z, W.2.2.1.2.1]; exact nI_n0 (by have := W.2.2.1.2.2.2.2.2.1; omega)
    exact M_seek (M.keep a1) W hj (fun q2 => absurd q2 q0) (fun _ z2 => absurd z z2) (fun _ _ h2 r2 a2 => ⟨rfl, Inv.of r1 r2 a2 (WF_fnd W 3)⟩) (fun _ ok => absurd (ok k hk) nk) (fun _ ok => absurd (ok k hk) nk)
  · subst e
    have q0 : ¬ S 0 j 0 < 0 := by rw [z, W.2.2.1.2.1]; exact nI_n0 (by have := W.2.2.1.2.2.2.2.2.1; omega)
    refine ⟨fun _ => M_seek (M.keep a1) W hj (fun q2 => absurd q2 q0) (fun _ z2 => absurd z z2) (fun _ b => ?_) (fun _ _ _ h2 r2 a2 => ⟨fun q => absurd rfl q, fun _ => ?_⟩) (fun _ _ m hm hp => absurd (hn m hm) (by omega)), fun q => absurd (by decide) q⟩
    · obtain ⟨k, hk, nk⟩ := b
      exact absurd (ok k hk) nk
    · obtain ⟨mi, ma, R2, A2, -⟩ := id r2
      refine m_gI R2 (mg4 _ _ _) (m_told r2 (fun h3 r3 a3 => ⟨rfl, Inv.of r1 ?_ (a2.tr a3) W⟩))
      rw [A2.1, up_id] at r3
      exact r3
  · subst e
    have q0 : ¬ S 0 j 0 < 0 := by rw [z, W.2.2.1.2.1]; exact nI_n0 (by have := W.2.2.1.2.2.2.2.2.1; omega)
    refine ⟨fun q => absurd q (nI_n0 (by omega)), fun _ => c_gR r1 (fun _ => rfl) (gI_of o1 rfl (c_told r1 (fun h2 r2 a2 => ?_)))⟩
    refine M_seek (M.keep (a1.tr a2)) W hj (fun q2 => absurd q2 q0) (fun _ z2 => absurd z z2) (fun _ b => ?_) (fun _ _ hn => absurd (hn m hm) (by omega)) (fun _ _ m2 hm2 hp2 hz2 h3 mi3 ma3 R3 r3 a3 x1 x2 x3 => ?_)
    · obtain ⟨k, hk, nk⟩ := b
      exact absurd (ok k hk) nk
    · have em : m = m2 := first_eq (P := fun m => (LKN S (rlN S) (stN S) (gol S j) m).1) hp hp2 hz hz2
      subst em
      refine ⟨fun _ => m_gI R3 (mg47 _ _ _) ?_, fun q => absurd q (nI_nn m (by omega))⟩
      rw [x1]
      exact m_told r3 (fun h4 r4 a4 => ⟨rfl, Inv.of r2 r4 (a3.tr a4) (WF_told W _)⟩)
theorem op_who {r : Int32} (I : Inv h n) : f_X11_who 1 r h (fun x1 h1 => f_X12_who 102 r h1 (fun y1 h2 => x1 = y1 ∧ Inv h2 n)) := by
  obtain ⟨S, u, l, R, M, W⟩ := I
  refine C_seek R W (fun q => m_rowB q (rb0 ⟨rfl, S, u, l, R, M, W⟩)) (fun j hj e q h1 r1 a1 => ?_) (fun j hj e q z h1 r1 a1 => ?_) (fun j hj e z b h1 r1 a1 => ?_) (fun j hj e z ok hn h1 r1 a1 => ?_) (fun j hj e z ok m hm hp hz h1 sr ss sl ex fa li qu re ga dr bg ie r1 a1 o1 y1 y2 => ?_)
  · subst e
    exact M_seek (M.keep a1) W hj (fun _ h2 r2 a2 => ⟨rfl, Inv.of r1 r2 a2 (WF_fnd W 1)⟩) (fun q2 => absurd q2 (Int32.not_le.mpr q)) (fun z => absurd (z.trans W.2.2.1.2.1) (fun z => by rw [z] at q; exact nI_n0 (by have := W.2.2.1.2.2.2.2.2.1; omega) q)) (fun z => absurd (z.trans W.2.2.1.2.1) (fun z => by rw [z] at q; exact nI_n0 (by have := W.2.2.1.2.2.2.2.2.1; omega) q)) (fun z => absurd (z.trans W.2.2.1.2.1) (fun z => by rw [z] at q; exact nI_n0 (by have := W.2.2.1.2.2.2.2.2.1; omega) q))
  · subst e
    exact M_seek (M.keep a1) W hj (fun q2 => absurd q (Int32.not_le.mpr q2)) (fun _ _ h2 r2 a2 => ⟨rfl, Inv.of r1 r2 a2 (WF_fnd W 5)⟩) (fun z2 => absurd z2 z) (fun z2 => absurd z2 z) (fun z2 => absurd z2 z)
  · subst e
    obtain ⟨k, hk, nk⟩ := b
    have q0 : ¬ S 0 j 0 < 0 := by rw [z, W.2.2.1.2.1]; exact nI_n0 (by have := W.2.2.1.2.2.2.2.2.1; omega)
    exact M_seek (M.keep a1) W hj (fun q2 => absurd q2 q0) (fun _ z2 => absurd z z2) (fun _ _ h2 r2 a2 => ⟨rfl, Inv.of r1 r2 a2 (WF_fnd W 3)⟩) (fun _ ok => absurd (ok k hk) nk) (fun _ ok => absurd (ok k hk) nk)
  · subst e
    have q0 : ¬ S 0 j 0 < 0 := by rw [z, W.2.2.1.2.1]; exact nI_n0 (by have := W.2.2.1.2.2.2.2.2.1; omega)
    refine ⟨fun q => absurd q (by decide), fun _ => M_seek (M.keep a1) W hj (fun q2 => absurd q2 q0) (fun _ z2 => absurd z z2) (fun _ b => ?_) (fun _ _ _ h2 r2 a2 => ⟨fun q => absurd q (by decide), fun _ => ⟨rfl, Inv.of r1 r2 a2 W⟩⟩) (fun _ _ m hm hp => absurd (hn m hm) (by omega))⟩
    obtain ⟨k, hk, nk⟩ := b
    exact absurd (ok k hk) nk
  · subst e
    have q0 : ¬ S 0 j 0 < 0 := by rw [z, W.2.2.1.2.1]; exact nI_n0 (by have := W.2.2.1.2.2.2.2.2.1; omega)
    have nb : (∃ k, k < sN S ∧ ¬ okp S j k) → False := fun b => by
      obtain ⟨k, hk, nk⟩ := b
      exact nk (ok k hk)
    refine ⟨fun q => ?_, fun q => ?_⟩
    · have m1 : 1 ≤ m := by
        have := (nI_ltI (a := 0) (b := m) (by omega) (by omega)).mp q
        omega
      refine c_gR r1 (fun _ => rfl) (gI_of o1 rfl (c_told2 r1 (fun h2 r2 a2 b2 => c_gR r2 (fun _ => rfl) (gI_of ((b2 14 (by omega)).trans o1) rfl ?_))))
      refine M_seek (M.keep (a1.tr a2)) W hj (fun q2 => absurd q2 q0) (fun _ z2 => absurd z z2) (fun _ b => (nb b).elim) (fun _ _ hn => absurd (hn m hm) (by omega)) (fun _ _ m2 hm2 hp2 hz2 h3 mi3 ma3 R3 r3 a3 x1 x2 x3 => ?_)
      have em : m = m2 := first_eq (P := fun m => (LKN S (rlN S) (stN S) (gol S j) m).1) hp hp2 hz hz2
      subst em
      refine ⟨fun _ => m_gI R3 (mg49 _ _ _) ?_, fun q => absurd (nI_le (a := 1) (by omega) (by omega)) q⟩
      rw [x3, ← y2]
      obtain ⟨fs, e1, e2, e3⟩ := m_told (v := ie) (K := fun h4 => RM h4 (up S 4 0 0 ie) u l ∧ Mag h3 h4) r3 (fun h4 r a => ⟨r, a⟩)
      refine ⟨fs, e1, e2, ?_⟩
      have : fs = mfs mi3 u l := by
        have := e1.symm.trans R3.1
        simp only [Option.some.injEq, Sum.inr.injEq, Prod.mk.injEq, true_and] at this
        exact this
      subst this
      refine gI_of (aput_s h3 102 _) (mg48 (upd mi3 4 _) u l) ?_
      rw [pk_un (by omega), x2 m1]
      exact ⟨y1 m1, Inv.of r2 e3.1 (a3.tr e3.2) (WF_told W _)⟩
    · have m0 : m = 0 := by
        by_cases z : m = 0
        · exact z
        · exact absurd (nI_lt (a := 0) (by omega) (by omega)) q
      subst m0
      refine M_seek (M.keep a1) W hj (fun q2 => absurd q2 q0) (fun _ z2 => absurd z z2) (fun _ b => (nb b).elim) (fun _ _ hn => absurd (hn 0 hm) (by omega)) (fun _ _ m2 hm2 hp2 hz2 h3 mi3 ma3 R3 r3 a3 x1 x2 x3 => ?_)
      have em : 0 = m2 := first_eq (P := fun m => (LKN S (rlN S) (stN S) (gol S j) m).1) hp hp2 hz hz2
      subst em
      exact ⟨fun q => absurd q (by decide), fun _ => ⟨rfl, Inv.of r1 r3 a3 W⟩⟩
end WHO
