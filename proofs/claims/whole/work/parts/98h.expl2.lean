/-! the class explores: its rows made wide enough, and what holds then -/
/-- explored from c by a law -/
def EXP (h : AH) (S : SS) (rd c law : Nat) : Prop := ∃ (fa li qu N : Nat) (ga dr rt bg ie : Int32) (ff fl fq : Nat → Int32), h.2.2 14 = some (sob rd (nI c) (nI law) 1 fa li qu (nI (bfa S law c).1) ga dr rt bg ie) ∧ h.2.2 fa = some (.inl (0, N, .inl ff)) ∧ h.2.2 li = some (.inl (0, N, .inl fl)) ∧ h.2.2 qu = some (.inl (0, N, .inl fq)) ∧ N ≤ 32768 ∧ Bok S law c N (nI (bfa S law c).1) ff fl fq
section EXPL2
variable {h : AH} {S : SS} {u l : Int64} {n rd c law : Nat} {Q : AH → Prop}
theorem RC.mono (R : RC h S u l n) {m : Nat} (hm : n ≤ m) : RC h S u l m := by
  obtain ⟨rd, fa, li, qu, N, X, d1, d2, d3, d4, d5, d6, d7, d8, d9, d10, d11, d12, d13, d14⟩ := R
  exact ⟨rd, fa, li, qu, N, X, d1, d2, d3, d4, d5, d6, d7, d8, d9, d10, d11, d12, by omega, by omega⟩
theorem pow8_le {j : Nat} (hj : j ≤ 5) : 8 ^ j ≤ 32768 := Nat.pow_le_pow_right (n := 8) (by omega) hj
theorem pow8_gap {j s : Nat} (h : 8 ^ j < 8 ^ s) : 4 * 8 ^ j ≤ 8 ^ s := by
  have js : j < s := by
    rcases Nat.lt_or_ge j s with q | q
    · exact q
    · have : 8 ^ s ≤ 8 ^ j := Nat.pow_le_pow_right (by omega) q
      omega
  have : 8 ^ (j + 1) ≤ 8 ^ s := Nat.pow_le_pow_right (by omega) js
  rw [Nat.pow_succ] at this
  omega
theorem nA_of {t k : Nat} {K : Nat → AH → Prop} (hk : k ≤ 100000) (H : K h.1 (anew h k (.inl (t, k, .inl (fun _ => 0))))) : nA h t (nI k) K := by
  have e : (nI k).toNatClampNeg = k := nI_clamp (by omega)
  refine ⟨nI_n0 (by omega), by rw [e]; omega, ?_⟩
  rw [e]
  exact H
theorem c_explore {ex re ga dr rt bg ie : Int32} {fa li qu : Nat} (R : RC h S u l n) (W : WFr S) (c1 : Cmain h S u l rd) (ho : h.2.2 14 = some (sob rd (nI c) (nI law) ex fa li qu re ga dr rt bg ie)) (D : Cd S c) (hl : law ≤ 2)
    (H : ∀ h1, RC h1 S u l (n + 1) → EXP h1 S rd c law → Cag h h1 → Cmain h1 S u l rd → Q h1) : f_X7_explore 14 h Q := by
  have hs5 := W.2.2.2.2.2.1
  have clt := Cd_lt W D
  have s5 := pow8_le hs5
  obtain ⟨rd0, fa0, li0, qu0, N, X, d1, d2, d3, d4, d5, d6, d7, d8, ⟨sr0, ss0, sl0, ex0, re0, ga0, dr0, rt0, bg0, ie0, ff, fl, fq, e1, e2, ⟨f15, e3⟩, ⟨f16, e4⟩, ⟨f17, e5⟩, e6, e7, e8, e9, e10, e11, e12, e13, e14, e15, e16, e17, e18, e19, e20, e21⟩, d10, d11, d12, d13, d14⟩ := id R
  have er := Cmain.inj c1 d1
  subst er
  have e := ho.symm.trans e1
  simp only [Option.some.injEq, Sum.inr.injEq, Prod.mk.injEq, List.cons.injEq, Value.ref.injEq, Value.int.injEq, true_and, and_true] at e
  obtain ⟨g1, g2, g3, g4, g5, g6, g7, g8, g9, g10, g11, g12, g13⟩ := e
  subst g1 g2 g3 g4 g5 g6 g7 g8 g9 g10 g11 g12 g13
  have Nle : N ≤ 32768 := by
    rcases e19 with z | ⟨j, j1, j2⟩
    · omega
    · rw [j2]; exact pow8_le j1
  refine gI_of ho rfl ⟨fun z => ?_, fun z => ?_⟩
  · -- to be explored
    have cont : ∀ (h1 : AH) (fa li qu N' : Nat) (ff fl fq : Nat → Int32), (∀ x, x ≠ 14 → x < h.1 → h1.2.2 x = h.2.2 x) → h1.2.2 14 = some (sob rd (nI c) (nI law) ex fa li qu re ga dr rt bg ie) → h1.2.2 fa = some (.inl (0, N', .inl ff)) → h1.2.2 li = some (.inl (0, N', .inl fl)) → h1.2.2 qu = some (.inl (0, N', .inl fq)) → AD fa li qu → fa < h1.1 → li < h1.1 → qu < h1.1 → (∀ a, X a → a ≠ fa ∧ a ≠ li ∧ a ≠ qu) → 8 ^ sN S ≤ N' → (∃ j, j ≤ 5 ∧ N' = 8 ^ j) → h.1 ≤ h1.1 → h1.1 ≤ h.1 + 3 → h1.2.1 ≤ 110000 + 100 * n + 4 * N' → B_X7_clearRoom_42 (fun h2 => pF h2 14 7 7 (.int (1 : Int32)) (fun h3 => pF h3 14 7 11 (.int (0 : Int32)) (fun h4 => gI h4 14 7 5 (fun x5 => isO h4 14 7 ∧ f_X7_reach 14 x5 (0 : Int32) (0 : Int32) h4 (fun h6 => ∃ m, L_X7_explore_34 Q 14 m (0 : Int32) h6))))) 14 h1 := by
      intro h1 fa li qu N' ff fl fq b0 b14 b1 b2 b3 ad b4 b5 b6 b7 b8 b9 b10 b11 b12
      have N5 : N' ≤ 32768 := by
        obtain ⟨j, j1, j2⟩ := b9
        rw [j2]; exact pow8_le j1
      have ad' := ad
      obtain ⟨a1, a2, a3, a4, a5, a6⟩ := ad
      unfold sadr at a1 a2 a3
      refine gR_of b14 rfl (c_fill (n := N') (by omega) b1 (fun g hg => ?_))
      refine pF_of ((aput_n h1 _ (by omega)).trans b14) (Nat.le_of_ble_eq_true rfl) rfl ?_
      refine pF_of (aput_s _ 14 _) (Nat.le_of_ble_eq_true rfl) rfl ?_
      rw [aput_pp]
      have E0 : EB h1 rd c law fa li qu N' ga dr rt bg ie (0, fun _ => c, fun _ => none, fun _ => 0) (aput (aput h1 fa (.inl (0, N', .inl g))) 14 (sob rd (nI c) (nI law) 1 fa li qu (nI 0) ga dr rt bg ie)) := by
        refine ⟨rfl, rfl, fun x x1 x2 x3 x4 x5 => ?_, aput_s _ _ _, ?_, g, fl, fq, ?_, ?_, ?_, fun j hj => absurd hj (Nat.not_lt_zero _), fun x hx => hg x hx, fun x d _ hd => by cases hd⟩
        · rw [aput_n _ _ x1, aput_n _ _ x3]
        · refine e2.keep ?_
          rw [aput_n _ _ (by omega), aput_n _ _ (by omega)]
          exact b0 21 (by omega) (by omega)
        · rw [aput_n _ _ (by omega), aput_s]
        · rw [aput_n _ _ (by omega), aput_n _ _ (by omega)]; exact b2
        · rw [aput_n _ _ (by omega), aput_n _ _ (by omega)]; exact b3
      refine gI_of E0.2.2.2.1 rfl ⟨E0.o, e_reach (d := 0) (k := 0) ad' E0 (by have := D.1; omega) N5 (fun _ => by have := D.1; show 0 < N'; omega) (fun y hy => by cases hy) (fun y hy => by cases hy) (fun _ h3 E3 => ?_)⟩
      have eb : badd ((0, fun _ => c, fun _ => none, fun _ => 0) : BF) c 0 0 = bf0 c := by
        unfold badd bf0
        refine Prod.ext rfl (Prod.ext ?_ (Prod.ext rfl ?_))
        · funext j
          show (if j = 0 then c else c) = c
          split <;> rfl
        · funext x
          show (if x = c then 0 else 0) = 0
          split <;> rfl
      rw [eb] at E3
      have C1 : Crod h1 rd S X := d10.keep (fun a ha => b0 a (by have := (d11 a ha).1; unfold radr at this; omega) (d11 a ha).2.2.2.2) sameR.rf
      refine ⟨32770, e_all ad' W C1 (fun a ha => ⟨(d11 a ha).1, b7 a ha⟩) N5 b8 hl D (fun h4 E4 => ?_) 32769 0 h3 (by omega) E3⟩
      obtain ⟨f1, f2, f3, f4, f5, ff', fl', fq', f6, f7, f8, f9, f10, f11⟩ := id E4
      have ag : ∀ x, x ≠ 14 → x ≠ 21 → x ≠ fa → x ≠ li → x ≠ qu → x < h.1 → h4.2.2 x = h.2.2 x := fun x x1 x2 x3 x4 x5 x6 => (f3 x x1 x2 x3 x4 x5).trans (b0 x x1 x6)
      have bk : Bok S law c N' (nI (bfa S law c).1) ff' fl' fq' := by
        refine ⟨b8, rfl, f9, f10, fun x d hx => f11 x d ?_ hx⟩
        have G := (bg_all (law := law) W D).1
        obtain ⟨j, j1, j2⟩ := G.2.2.2.2.2.1 x d hx
        have := (G.2.2.1 j j1).1
        rw [j2] at this
        omega
      have xx : ∀ a, X a → h4.2.2 a = h.2.2 a := fun a ha => by
        have := b7 a ha
        have r := (d11 a ha).1
        unfold radr at r
        exact ag a (by omega) (by omega) this.1 this.2.1 this.2.2 (d11 a ha).2.2.2.2
      have cm : Cmain h4 S u l rd := (ag 1 (by omega) (by omega) (by omega) (by omega) (by omega) (by omega)).trans c1
      have x0 : X rd := by
        obtain ⟨_, _, _, _, _, _, _, _, _, _, x1, -⟩ := d10
        exact x1
      refine H h4 ⟨rd, fa, li, qu, N', X, cm, d2.keep (fun a _ _ => ag a (by omega) (by omega) (by omega) (by omega) (by omega) (by omega)), d3.keep (fun a _ _ => ag a (by omega) (by omega) (by omega) (by omega) (by omega) (by omega)) (fun _ => rfl) (fun _ _ => rfl), d4.keep (fun a _ _ => ag a (by omega) (by omega) (by omega) (by omega) (by omega) (by omega)) (fun _ => rfl) (fun _ _ => rfl), d5.keep (ag 7 (by omega) (by omega) (by omega) (by omega) (by omega) (by omega)) (fun _ => rfl), d6.keep (ag 5 (by omega) (by omega) (by omega) (by omega) (by omega) (by omega)) (ag 6 (by omega) (by omega) (by omega) (by omega) (by omega) (by omega)) (fun _ => rfl) (fun _ => rfl), d7.keep (fun a _ _ => ag a (by omega) (by omega) (by omega) (by omega) (by omega) (by omega)) rfl (fun _ => rfl) (fun _ => rfl) (fun _ => rfl) (fun _ _ => rfl), d8.keep (ag 13 (by omega) (by omega) (by omega) (by omega) (by omega) (by omega)), ?_, d10.keep (fun a ha => xx a ha) sameR.rf, fun a ha => ⟨(d11 a ha).1, (b7 a ha).1, (b7 a ha).2.1, (b7 a ha).2.2, by have := (d11 a ha).2.2.2.2; omega⟩, by omega, by omega, by omega⟩ ⟨fa, li, qu, N', ga, dr, rt, bg, ie, ff', fl', fq', f4, f6, f7, f8, N5, bk⟩ (fun a x y => ag a (by omega) (by omega) (by omega) (by omega) (by omega) (by omega)) cm
      refine ⟨rd, nI c, nI law, 1, nI (bfa S law c).1, ga, dr, rt, bg, ie, ff', fl', fq', f4, f5, ⟨f15, (ag 15 (by omega) (by omega) (by omega) (by omega) (by omega) (by omega)).trans e3⟩, ⟨f16, (ag 16 (by omega) (by omega) (by omega) (by omega) (by omega) (by omega)).trans e4⟩, ⟨f17, (ag 17 (by omega) (by omega) (by omega) (by omega) (by omega) (by omega)).trans e5⟩, f6, f7, f8, a1, a2, a3, a4, a5, a6, by have := (d11 rd x0).2.2.2.2; omega, by omega, by omega, by omega, Or.inr b9, Or.inr rfl, fun _ _ => ⟨c, law, rfl, rfl, hl, D, bk⟩⟩
    refine ⟨⟨_, ho⟩, gR_of ho rfl ?_⟩
    obtain ⟨nn, hm, wy, fo, fn, fh, fw, ffo, wa, st, x1, x2, x3, x4, x5, k1, -⟩ := id d10
    refine gI_of k1 rfl (gR_of ho rfl (aL_of e6 ?_))
    rw [W.2.1, b_sz hs5, nI_leI (by omega) (by omega)]
    unfold sadr at e9 e10 e11
    refine ⟨fun q => ?_, fun q => ?_⟩
    · refine cont h fa li qu N ff fl fq (fun _ _ _ => rfl) ho e6 e7 e8 ⟨e9, e10, e11, e12, e13, e14⟩ e16 e17 e18 (fun a ha => ⟨(d11 a ha).2.1, (d11 a ha).2.2.1, (d11 a ha).2.2.2.1⟩) q ?_ (Nat.le_refl _) (by omega) d14
      rcases e19 with z | z
      · have : 0 < 8 ^ sN S := Nat.pow_pos (by omega)
        omega
      · exact z
    · have gap : 4 * N ≤ 8 ^ sN S := by
        rcases e19 with z | ⟨j, -, j2⟩
        · omega
        · rw [j2]; exact pow8_gap (by omega)
      refine nA_of (by omega) ?_
      generalize hh1 : anew h (8 ^ sN S) (.inl (0, 8 ^ sN S, .inl (fun _ => 0))) = h1
      have p1 : h1.1 = h.1 + 1 := by rw [← hh1]; rfl
      have s1 : h1.2.1 = h.2.1 + 8 ^ sN S := by rw [← hh1]; rfl
      have r1 : ∀ x, x ≠ h.1 → h1.2.2 x = h.2.2 x := fun x hx => by rw [← hh1]; exact anew_n _ _ _ hx
      have t1 : h1.2.2 h.1 = some (.inl (0, 8 ^ sN S, .inl (fun _ => 0))) := by rw [← hh1]; exact anew_s _ _ _
      refine pF_of ((r1 14 (by omega)).trans ho) (Nat.le_of_ble_eq_true rfl) rfl (nA_of (by omega) ?_)
      generalize hh2 : anew (aput h1 14 _) (8 ^ sN S) (.inl (0, 8 ^ sN S, .inl (fun _ => 0))) = h2
      have p2 : h2.1 = h.1 + 2 := by rw [← hh2]; show h1.1 + 1 = _; omega
      have s2 : h2.2.1 = h.2.1 + 8 ^ sN S + 8 ^ sN S := by rw [← hh2]; show h1.2.1 + _ = _; omega
      have r2 : ∀ x, x ≠ 14 → x ≠ h.1 + 1 → h2.2.2 x = h1.2.2 x := fun x hx hx2 => by rw [← hh2, anew_n _ _ _ (by show x ≠ h1.1; omega), aput_n _ _ hx]
      have o2 : h2.2.2 14 = some (sob rd (nI c) (nI law) ex h.1 li qu re ga dr rt bg ie) := by rw [← hh2, anew_n _ _ _ (by show 14 ≠ h1.1; omega), aput_s]; rfl
      have t2 : h2.2.2 (h.1 + 1) = some (.inl (0, 8 ^ sN S, .inl (fun _ => 0))) := by
        rw [← hh2, show h.1 + 1 = (aput h1 14 (sob rd (nI c) (nI law) ex h.1 li qu re ga dr rt bg ie)).1 from p1.symm]
        exact anew_s _ _ _
      have ea : ∀ e, (aput h1 14 e).1 = h.1 + 1 := fun _ => p1
      rw [ea]
      refine pF_of o2 (Nat.le_of_ble_eq_true rfl) rfl (nA_of (by omega) ?_)
      generalize hh3 : anew (aput h2 14 _) (8 ^ sN S) (.inl (0, 8 ^ sN S, .inl (fun _ => 0))) = h3
      have p3 : h3.1 = h.1 + 3 := by rw [← hh3]; show h2.1 + 1 = _; omega
      have s3 : h3.2.1 = h.2.1 + 8 ^ sN S + 8 ^ sN S + 8 ^ sN S := by rw [← hh3]; show h2.2.1 + _ = _; omega
      have r3 : ∀ x, x ≠ 14 → x ≠ h.1 + 2 → h3.2.2 x = h2.2.2 x := fun x hx hx2 => by rw [← hh3, anew_n _ _ _ (by show x ≠ h2.1; omega), aput_n _ _ hx]
      have o3 : h3.2.2 14 = some (sob rd (nI c) (nI law) ex h.1 (h.1 + 1) qu re ga dr rt bg ie) := by rw [← hh3, anew_n _ _ _ (by show 14 ≠ h2.1; omega), aput_s]; rfl
      have t3 : h3.2.2 (h.1 + 2) = some (.inl (0, 8 ^ sN S, .inl (fun _ => 0))) := by
        rw [← hh3, show h.1 + 2 = (aput h2 14 (sob rd (nI c) (nI law) ex h.1 (h.1 + 1) qu re ga dr rt bg ie)).1 from p2.symm]
        exact anew_s _ _ _
      have eb : ∀ e, (aput h2 14 e).1 = h.1 + 2 := fun _ => p2
      rw [eb]
      refine pF_of o3 (Nat.le_of_ble_eq_true rfl) rfl ?_
      refine cont _ h.1 (h.1 + 1) (h.1 + 2) (8 ^ sN S) (fun _ => 0) (fun _ => 0) (fun _ => 0) (fun x hx hx2 => ?_) (aput_s _ _ _) ?_ ?_ ?_ ⟨by unfold sadr; omega, by unfold sadr; omega, by unfold sadr; omega, by omega, by omega, by omega⟩ (by show h.1 < h3.1; omega) (by show h.1 + 1 < h3.1; omega) (by show h.1 + 2 < h3.1; omega) (fun a ha => by have := (d11 a ha).2.2.2.2; omega) (Nat.le_refl _) ⟨sN S, hs5, rfl⟩ (by show h.1 ≤ h3.1; omega) (by show h3.1 ≤ _; omega) (by show h3.2.1 ≤ _; omega)
      · rw [aput_n _ _ hx, r3 x hx (by omega), r2 x hx (by omega), r1 x (by omega)]
      · rw [aput_n _ _ (by omega), r3 _ (by omega) (by omega), r2 _ (by omega) (by omega)]; exact t1
      · rw [aput_n _ _ (by omega), r3 _ (by omega) (by omega)]; exact t2
      · rw [aput_n _ _ (by omega)]; exact t3
  · have ex1 : ex = 1 := by
      rcases e20 with y | y
      · exact absurd y z
      · exact y
    subst ex1
    obtain ⟨c', law', q1, q2, q3, q4, q5⟩ := e21 rfl rfl
    have ec : c = c' := (nI_eqI (by omega) (by have := Cd_lt W q4; omega)).mp q1
    have el : law = law' := (nI_eqI (by omega) (by omega)).mp q2
    subst ec el
    have er : re = nI (bfa S law c).1 := q5.2.1
    subst er
    exact H h (R.mono (by omega)) ⟨fa, li, qu, N, ga, dr, rt, bg, ie, ff, fl, fq, ho, e6, e7, e8, Nle, q5⟩ Cag.rf c1
end EXPL2
