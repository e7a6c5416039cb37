/-! way, in the class -/
section WAY2
variable {h : AH} {S : SS} {u l : Int64} {n rd c law : Nat} {Q : Int32 → AH → Prop}
theorem EXP.adr {S1 : SS} (R : RC h S1 u l n) (E : EXP h S rd c law) : ∃ (fa li qu N : Nat) (ga dr rt bg ie : Int32) (ff fl fq : Nat → Int32), h.2.2 14 = some (sob rd (nI c) (nI law) 1 fa li qu (nI (bfa S law c).1) ga dr rt bg ie) ∧ h.2.2 fa = some (.inl (0, N, .inl ff)) ∧ h.2.2 li = some (.inl (0, N, .inl fl)) ∧ h.2.2 qu = some (.inl (0, N, .inl fq)) ∧ N ≤ 32768 ∧ Bok S law c N (nI (bfa S law c).1) ff fl fq ∧ sadr fa ∧ sadr li ∧ sadr qu := by
  obtain ⟨fa, li, qu, N, ga, dr, rt, bg, ie, ff, fl, fq, e1, e2, e3, e4, e5, b⟩ := E
  obtain ⟨rd0, fa0, li0, qu0, N0, X, d1, d2, d3, d4, d5, d6, d7, d8, ⟨sr0, ss0, sl0, ex0, re0, ga0, dr0, rt0, bg0, ie0, ff0, fl0, fq0, k1, k2, k3, k4, k5, k6, k7, k8, k9, k10, k11, -⟩, -⟩ := R
  have z := e1.symm.trans k1
  simp only [Option.some.injEq, Sum.inr.injEq, Prod.mk.injEq, List.cons.injEq, Value.ref.injEq, Value.int.injEq, true_and, and_true] at z
  obtain ⟨-, -, -, -, z1, z2, z3, -⟩ := z
  subst z1 z2 z3
  exact ⟨fa, li, qu, N, ga, dr, rt, bg, ie, ff, fl, fq, e1, e2, e3, e4, e5, b, k9, k10, k11⟩
theorem EXP.keepX {S1 : SS} {h1 : AH} (R : RC h S1 u l n) (E : EXP h S rd c law) (ha : ∀ a, (a = 14 ∨ sadr a) → h1.2.2 a = h.2.2 a) : EXP h1 S rd c law := by
  obtain ⟨fa, li, qu, N, ga, dr, rt, bg, ie, ff, fl, fq, e1, e2, e3, e4, e5, b, a1, a2, a3⟩ := E.adr R
  exact ⟨fa, li, qu, N, ga, dr, rt, bg, ie, ff, fl, fq, (ha 14 (Or.inl rfl)).trans e1, (ha fa (Or.inr a1)).trans e2, (ha li (Or.inr a2)).trans e3, (ha qu (Or.inr a3)).trans e4, e5, b⟩
theorem C_mk2 {j : Nat} {k v : Int32} {Q : AH → Prop} (R : RC h S u l n) (hj : j < 6) (h0 : 0 ≤ k) (h6 : k ≤ 60) (H : ∀ h1, RC h1 (mkr S 0 j k v) u l n → Cag h h1 → (∀ a, a ≠ 22 + 2 * j → a ≠ 23 + 2 * j → h1.2.2 a = h.2.2 a) → Q h1) : f_X6_begin (22 + 2 * j) k v h Q := by
  have W := R.rows
  refine c_begin (W.2 j hj) (by omega) h0 h6 (fun h1 r1 a1 b1 b2 => H h1 ?_ (fun a x y => a1 a (by omega) (by omega)) (fun a x y => a1 a x (by omega)))
  refine R.keepR (A := 2) (c := 0) (m := 6) (b := 22) (Or.inl ⟨rfl, rfl, rfl, rfl⟩) (fun a ha => a1 a (by omega) (by omega)) b1 b2 (fun c' i j x y => mkr_c x y) (fun r hr => ?_)
  by_cases e : r = j
  · subst e
    rw [mkr_z, show mkr S 0 r k v (0 + 1) r = fun _ => v from funext fun i => mkr_p]
    exact r1
  · rw [mkr_n e, show mkr S 0 j k v (0 + 1) r = S (0 + 1) r from funext fun i => mkr_n e]
    exact (W.2 r hr).keep (a1 _ (by omega) (by omega)) (a1 _ (by omega) (by omega)) (fun _ => rfl)
theorem x_lay {e j : Nat} {Q : AH → Prop} {hb : AH} (W : WFr S) (D : Cd S c) (hj : j < 6) (he : e < (bfa S law c).1) (hL : dp (bfa S law c) e ≤ 60)
    (H : ∀ h1, RC h1 (wyS S j (dp (bfa S law c) e) (fun k => if k < dp (bfa S law c) e then nI (wv (bfa S law c) e k) else 0)) u l n → Cag hb h1 → Q h1) : ∀ (m : Nat) (h : AH), m ≤ dp (bfa S law c) e → RC h (wyS S j (dp (bfa S law c) e) (fun k => if m ≤ k ∧ k < dp (bfa S law c) e then nI (wv (bfa S law c) e k) else 0)) u l n → EXP h S rd c law → Cag hb h → L_X7_layWay_10 Q 14 (22 + 2 * j) (m + 1) (nI (pt (bfa S law c) e m)) (nI m - 1) h := by
  obtain ⟨G, g1, g2⟩ := bg_all (law := law) W D
  have hw5 := W.2.2.2.2.2.2.1
  have s5 := pow8_le W.2.2.2.2.2.1
  intro m
  induction m with
  | zero =>
    intro h _ R E a
    refine ⟨fun _ => H h ?_ a, fun q => absurd (by decide) q⟩
    have e1 : (fun k => if 0 ≤ k ∧ k < dp (bfa S law c) e then nI (wv (bfa S law c) e k) else 0) = (fun k => if k < dp (bfa S law c) e then nI (wv (bfa S law c) e k) else 0) := by
      funext k
      by_cases z : k < dp (bfa S law c) e
      · rw [if_pos ⟨Nat.zero_le _, z⟩, if_pos z]
      · rw [if_neg (fun y => z y.2), if_neg z]
    rw [e1] at R
    exact R
  | succ m ih =>
    intro h hm R E a
    obtain ⟨jj, p, s1, s2, s3, s4, s5', s6, s7, s8, s9, s10⟩ := way_step W G he (n := m) (by omega)
    have Dj := G.2.2.1 jj s1
    have Dp := Cd_lt W (G.2.2.1 p (by omega))
    rw [s4] at Dp
    rw [s3] at Dj
    have Dl := Cd_lt W Dj
    have hd := (G.dpe s1).1
    rw [s3] at hd
    have ei : nI (m + 1) - 1 = nI m := by rw [show (1 : Int32) = nI 1 from rfl, pk_sub (by omega)]; rfl
    rw [ei]
    obtain ⟨fa, li, qu, N, ga, dr, rt, bg, ie, ff, fl, fq, e1, e2, e3, e4, e5, ⟨b1, b2, b3, b4, b5⟩, a1, a2, a3⟩ := E.adr R
    unfold sadr at a1 a2 a3
    have lk : ∀ {h' : AH} {K : Int32 → Prop}, h'.2.2 14 = h.2.2 14 → h'.2.2 li = h.2.2 li → K (nI (pt (bfa S law c) e m * 8 + wv (bfa S law c) e m)) → gR h' 14 7 9 (fun a => lI h' a (nI (pt (bfa S law c) e (m + 1))) K) := fun q1 q2 H => by
      refine gR_of (q1.trans e1) rfl (lI_of (q2.trans e3) (vp_in_nI (by have := Dj.1; omega) (by omega)) ?_)
      rw [nI_clamp (by omega), b5 _ _ hd, s9]
      exact H
    refine ⟨fun q => absurd q (nI_n0 (by omega)), fun _ => ⟨E.o, fun q => absurd q (nI_n0 (by omega)), fun _ => gR_of e1 rfl (aL_of e2 ⟨fun q => absurd q ?_, fun _ => br1 (lk rfl rfl ⟨R.rows.o hj, c_set (R.rows.2 j hj) (by omega) (by rw [wy_z, nI_toInt (by omega)]; omega) (fun q => absurd ⟨nI_pos' (by omega), by rw [wy_z]; exact nI_lt (by omega) (by omega)⟩ q) (fun k' e' k1' k2' ev r5 => ?_)⟩)⟩)⟩⟩
    · rw [nI_leI (by have := Dj.1; omega) (by omega)]; have := Dj.1; omega
    · have ek : m = k' := (nI_eqI (by omega) (by omega)).mp e'
      subst ek
      have R5 := C_wr (A := 2) (c := 0) (m := 6) (b := 22) (Or.inl ⟨rfl, rfl, rfl, rfl⟩) R R.rows hj r5
      have n14 : (aput h (22 + 1 + 2 * j) ev).2.2 14 = h.2.2 14 := aput_n h _ (by omega)
      have nli : (aput h (22 + 1 + 2 * j) ev).2.2 li = h.2.2 li := aput_n h _ (by omega)
      refine lk n14 nli ?_
      rw [pk_andN (by omega) 3 (by decide), show (0 + 1) = 1 from rfl, wy_up] at R5
      rw [pk_shrN (by omega) _ 3 (by decide), show nI m + -1 = nI m - 1 from (Int32.sub_eq_add_neg _ _).symm, show (pt (bfa S law c) e m * 8 + wv (bfa S law c) e m) / 2 ^ 3 = pt (bfa S law c) e m by omega]
      refine ih _ (by omega) ?_ (E.keepX R (fun x hx => aput_n h _ (by unfold sadr at hx; omega))) (a.tr (Cag.put (by omega)))
      have ef : upd (fun k => if m + 1 ≤ k ∧ k < dp (bfa S law c) e then nI (wv (bfa S law c) e k) else 0) m (nI ((pt (bfa S law c) e m * 8 + wv (bfa S law c) e m) % 2 ^ 3)) = (fun k => if m ≤ k ∧ k < dp (bfa S law c) e then nI (wv (bfa S law c) e k) else 0) := by
        funext k
        by_cases q : k = m
        · rw [q, pk_us, if_pos ⟨Nat.le_refl _, by omega⟩]
          congr 1
          omega
        · rw [pk_un q]
          by_cases q2 : m ≤ k ∧ k < dp (bfa S law c) e
          · rw [if_pos q2, if_pos (by omega)]
          · rw [if_neg q2, if_neg (by omega)]
      rw [ef] at R5
      exact R5
theorem C_way {j : Nat} (R : RC h S u l n) (W : WF S) (hj : j < 6) (hp : 1 ≤ pN S)
    (Hn : fwk (bfa S (rlN S) (stN S)) (hmP S) (bfa S (rlN S) (stN S)).1 = none → ∀ h1, RC h1 S u l (n + 1) → Cag h h1 → Q (-9) h1)
    (Hb : ∀ e, fwk (bfa S (rlN S) (stN S)) (hmP S) (bfa S (rlN S) (stN S)).1 = some e → 60 < dp (bfa S (rlN S) (stN S)) e → ∀ h1, RC h1 S u l (n + 1) → Cag h h1 → Q (-6) h1)
    (Hs : ∀ e, fwk (bfa S (rlN S) (stN S)) (hmP S) (bfa S (rlN S) (stN S)).1 = some e → dp (bfa S (rlN S) (stN S)) e ≤ 60 → ∀ h1, RC h1 (wyS S j (dp (bfa S (rlN S) (stN S)) e) (fun k => if k < dp (bfa S (rlN S) (stN S)) e then nI (wv (bfa S (rlN S) (stN S)) e k) else 0)) u l (n + 1) → Cag h h1 → Q (nI (dp (bfa S (rlN S) (stN S)) e)) h1) : f_X11_way 1 (nI j) h Q := by
  obtain ⟨w1, w2, w3, w4, w5, w6, w7, w8⟩ := id W
  have hp7 := w3.2.2.2.1
  obtain ⟨G, g1, g2⟩ := bg_all (law := rlN S) w3 w4.2
  refine c_isBelow (fun q => absurd ⟨nI_pos' (by omega), nI_lt (b := 6) hj (by omega)⟩ q) (fun _ _ => rb1 (c_posts R ⟨fun _ => C_from R W (fun h1 rd ex fa li qu re ga dr rt bg ie R1 a1 c1 o1 => gR_of c1 rfl ⟨isO_of o1, isO_of o1, c_explore R1 w3 c1 o1 w4.2 w5.2 (fun h2 R2 E2 a2 c2 => ?_)⟩), fun q => absurd q ?_⟩))
  · obtain ⟨X2, C2⟩ := R2.rod c2
    refine x_firstHome w3 w4.2 E2 C2 (fun z => ⟨fun q => absurd q (by decide), fun _ => Hn z h2 R2 (a1.tr a2)⟩) (fun e z he => ⟨fun _ => gR_of c2 rfl ⟨E2.o, x_farq w3 w4.2 E2 he ?_⟩, fun q => absurd (nI_pos' (by have := Cd_lt w3 (G.2.2.1 e he); omega)) q⟩)
    have de := (G.dpe he).2
    rw [show (60 : Int32) = nI 60 from rfl, nI_leI (by omega) (by omega)]
    refine ⟨fun q => gR_of c2 rfl (c_rowAt R2.rows hj (by omega) ⟨R2.rows.o hj, C_mk2 R2 hj (nI_pos' (by omega)) (nI_le (b := 60) q (by omega)) (fun h3 r3 a3 b3 => ?_)⟩), fun q => Hb e z (by omega) h2 R2 (a1.tr a2)⟩
    have c3 : h3.2.2 1 = _ := (b3 1 (by omega) (by omega)).trans c2
    have E3 := E2.keepX R2 (h1 := h3) (fun x hx => b3 x (by unfold sadr at hx; omega) (by unfold sadr at hx; omega))
    refine gR_of c3 rfl (gR_of c3 rfl (c_rowAt r3.rows hj (by omega) ⟨E3.o, gI_of (r3.rows.2 j hj).1 rfl ⟨dp (bfa S (rlN S) (stN S)) e + 1, ?_⟩⟩))
    rw [wy_0] at r3 ⊢
    rw [wy_z]
    have := x_lay (Q := fun h22 => Q (nI (dp (bfa S (rlN S) (stN S)) e)) h22) (hb := h) w3 w4.2 hj he q (fun h4 r4 a4 => Hs e z q h4 r4 a4) (dp (bfa S (rlN S) (stN S)) e) h3 (Nat.le_refl _) (by
      have ef : (fun k => if dp (bfa S (rlN S) (stN S)) e ≤ k ∧ k < dp (bfa S (rlN S) (stN S)) e then nI (wv (bfa S (rlN S) (stN S)) e k) else 0) = (fun _ => (0 : Int32)) := by
        funext k
        rw [if_neg (by omega)]
      rw [ef]
      exact r3) E3 ((a1.tr a2).tr a3)
    rw [pt_top] at this
    exact this
  · rw [w3.1]; exact nI_z (by omega) (by omega)
end WAY2
