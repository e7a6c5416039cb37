/-! the class's search: from where; rows tried one behind the other -/
section FROM
variable {h h1 : AH} {S : SS} {u l : Int64} {n : Nat}
theorem RC.keepQ {rd sr sr' : Nat} {ss sl ex re ga dr rt bg ie ss' sl' ex' ga' dr' rt' bg' ie' : Int32} {fa li qu : Nat} (R : RC h S u l n) (c1 : Cmain h S u l rd) (ho : h.2.2 14 = some (sob sr ss sl ex fa li qu re ga dr rt bg ie))
    (ha : ∀ a, ¬ (14 ≤ a ∧ a ≤ 17) → a ≠ 21 → h1.2.2 a = h.2.2 a) (hn : h1.1 = h.1) (hs : h1.2.1 = h.2.1)
    (h14 : h1.2.2 14 = some (sob sr' ss' sl' ex' fa li qu re ga' dr' rt' bg' ie')) (hx : (ex' = 0 ∧ sr' = rd) ∨ (ex' = ex ∧ sr' = sr ∧ ss' = ss ∧ sl' = sl))
    (h21 : Ctri h1 21) (h15 : ∃ f, h1.2.2 15 = some (.inl (0, 4, .inl f))) (h16 : ∃ f, h1.2.2 16 = some (.inl (0, 125, .inl f))) (h17 : ∃ f, h1.2.2 17 = some (.inl (0, 10, .inl f))) : RC h1 S u l n := by
  obtain ⟨rd0, fa0, li0, qu0, N, X, d1, d2, d3, d4, d5, d6, d7, d8, ⟨sr0, ss0, sl0, ex0, re0, ga0, dr0, rt0, bg0, ie0, ff, fl, fq, e1, e2, e3, e4, e5, e6, e7, e8, e9, e10, e11, e12, e13, e14, e15, e16, e17, e18, e19, e20, e21⟩, d10, d11, d12, d13, d14⟩ := R
  have er := Cmain.inj c1 d1
  subst er
  have e := ho.symm.trans e1
  simp only [Option.some.injEq, Sum.inr.injEq, Prod.mk.injEq, List.cons.injEq, Value.ref.injEq, Value.int.injEq, true_and, and_true] at e
  obtain ⟨rfl, rfl, rfl, rfl, rfl, rfl, rfl, rfl, rfl, rfl, rfl, rfl, rfl⟩ := e
  have x0 : X rd := by
    obtain ⟨_, _, _, _, _, _, _, _, _, _, x1, -⟩ := d10
    exact x1
  unfold sadr at e9 e10 e11
  refine ⟨rd, fa, li, qu, N, X, ?_, d2.keep (fun a _ _ => ha a (by omega) (by omega)), d3.keep (fun a _ _ => ha a (by omega) (by omega)) (fun _ => rfl) (fun _ _ => rfl), d4.keep (fun a _ _ => ha a (by omega) (by omega)) (fun _ => rfl) (fun _ _ => rfl), d5.keep (ha 7 (by omega) (by omega)) (fun _ => rfl), d6.keep (ha 5 (by omega) (by omega)) (ha 6 (by omega) (by omega)) (fun _ => rfl) (fun _ => rfl), d7.keep (fun a _ _ => ha a (by omega) (by omega)) rfl (fun _ => rfl) (fun _ => rfl) (fun _ => rfl) (fun _ _ => rfl), d8.keep (ha 13 (by omega) (by omega)), ?_, d10.keep (fun a hq => ?_) sameR.rf, fun a hq => by rw [hn]; exact d11 a hq, by rw [hn]; exact d12, by rw [hn]; exact d13, by rw [hs]; exact d14⟩
  · unfold Cmain
    rw [ha 1 (by omega) (by omega)]
    exact d1
  · refine ⟨sr', ss', sl', ex', re, ga', dr', rt', bg', ie', ff, fl, fq, h14, h21, h15, h16, h17, by rw [ha fa (by omega) (by omega)]; exact e6, by rw [ha li (by omega) (by omega)]; exact e7, by rw [ha qu (by omega) (by omega)]; exact e8, e9, e10, e11, e12, e13, e14, ?_, by rw [hn]; exact e16, by rw [hn]; exact e17, by rw [hn]; exact e18, e19, ?_, fun z1 z2 => ?_⟩
    · rw [hn]
      rcases hx with ⟨-, q⟩ | ⟨-, q, -⟩
      · rw [q]; exact (d11 rd x0).2.2.2.2
      · rw [q]; exact e15
    · rcases hx with ⟨q, -⟩ | ⟨q, -⟩
      · exact Or.inl q
      · rw [q]; exact e20
    · rcases hx with ⟨q, -⟩ | ⟨q1, q2, q3, q4⟩
      · rw [q] at z1; exact absurd z1 (by decide)
      · subst q1 q2 q3 q4
        exact e21 z1 z2
  · have := (d11 a hq).1
    unfold radr at this
    exact ha a (by omega) (by omega)
theorem RC.sea (R : RC h S u l n) : ∃ (sr : Nat) (ss sl ex re ga dr rt bg ie : Int32) (fa li qu : Nat), h.2.2 14 = some (sob sr ss sl ex fa li qu re ga dr rt bg ie) ∧ Ctri h 21 ∧ (∃ f, h.2.2 15 = some (.inl (0, 4, .inl f))) ∧ (∃ f, h.2.2 16 = some (.inl (0, 125, .inl f))) ∧ ∃ f, h.2.2 17 = some (.inl (0, 10, .inl f)) := by
  obtain ⟨rd0, fa0, li0, qu0, N, X, d1, d2, d3, d4, d5, d6, d7, d8, ⟨sr0, ss0, sl0, ex0, re0, ga0, dr0, rt0, bg0, ie0, ff, fl, fq, e1, e2, e3, e4, e5, -⟩, -⟩ := R
  exact ⟨_, _, _, _, _, _, _, _, _, _, _, _, _, e1, e2, e3, e4, e5⟩
theorem c_from {c law rd : Nat} {Q : AH → Prop} (R : RC h S u l n) (c1 : Cmain h S u l rd)
    (H : ∀ (h1 : AH) (ex : Int32) (fa li qu : Nat) (re ga dr rt bg ie : Int32), RC h1 S u l n → (∀ a, a ≠ 14 → h1.2.2 a = h.2.2 a) → h1.2.2 14 = some (sob rd (nI c) (nI law) ex fa li qu re ga dr rt bg ie) → Q h1) : f_X7_from 14 rd (nI c) (nI law) h Q := by
  obtain ⟨sr, ss, sl, ex, re, ga, dr, rt, bg, ie, fa, li, qu, ho, h21, ⟨f15, h15⟩, ⟨f16, h16⟩, ⟨f17, h17⟩⟩ := R.sea
  have B : B_X7_from_24 Q 14 rd (nI c) (nI law) h := by
    refine pF_of ho (Nat.le_of_ble_eq_true rfl) rfl ?_
    refine pF_of (aput_s h 14 _) (Nat.le_of_ble_eq_true rfl) rfl ?_
    rw [aput_pp]
    refine pF_of (aput_s h 14 _) (Nat.le_of_ble_eq_true rfl) rfl ?_
    rw [aput_pp]
    refine pF_of (aput_s h 14 _) (Nat.le_of_ble_eq_true rfl) rfl ?_
    rw [aput_pp]
    refine H _ 0 fa li qu re ga dr rt bg ie ?_ (fun a x => aput_n h _ x) (aput_s h 14 _)
    exact R.keepQ c1 ho (fun a x y => aput_n h _ (by omega)) rfl rfl (aput_s h 14 _) (Or.inl ⟨rfl, rfl⟩) (h21.keep (aput_n h _ (by omega))) ⟨_, (aput_n h _ (by omega)).trans h15⟩ ⟨_, (aput_n h _ (by omega)).trans h16⟩ ⟨_, (aput_n h _ (by omega)).trans h17⟩
  refine gR_of ho rfl ⟨fun _ => B, fun e => gI_of ho rfl ⟨fun _ => B, fun e2 => gI_of ho rfl ⟨fun e3 => ?_, fun _ => B⟩⟩⟩
  subst e e2 e3
  exact H h ex fa li qu re ga dr rt bg ie R (fun _ _ => rfl) ho
end FROM
/-- while rows are tried -/
def SQ (h0 : AH) (rd c law : Nat) (ex : Int32) (fa li qu : Nat) (re ga dr rt bg ie : Int32) (f e a : Nat → Int32) (h : AH) : Prop := h.1 = h0.1 ∧ h.2.1 = h0.2.1 ∧ (∀ x, ¬ (14 ≤ x ∧ x ≤ 17) → x ≠ 21 → h.2.2 x = h0.2.2 x) ∧ h.2.2 14 = some (sob rd (nI c) (nI law) ex fa li qu re ga dr rt bg ie) ∧ Ctri h 21 ∧ h.2.2 15 = some (.inl (0, 4, .inl f)) ∧ h.2.2 16 = some (.inl (0, 125, .inl e)) ∧ h.2.2 17 = some (.inl (0, 10, .inl a))
section SQS
variable {h0 h : AH} {S : SS} {u l : Int64} {n rd c law fa li qu : Nat} {X : Nat → Prop} {ex re ga dr rt bg ie ga' dr' rt' bg' ie' : Int32} {f e a g : Nat → Int32}
theorem SQ.rc (Z : SQ h0 rd c law ex fa li qu re ga dr rt bg ie f e a h) (R : RC h0 S u l n) (c1 : Cmain h0 S u l rd) (ho : h0.2.2 14 = some (sob rd (nI c) (nI law) ex fa li qu re ga' dr' rt' bg' ie')) : RC h S u l n :=
  R.keepQ c1 ho Z.2.2.1 Z.1 Z.2.1 Z.2.2.2.1 (Or.inr ⟨rfl, rfl, rfl, rfl⟩) Z.2.2.2.2.1 ⟨_, Z.2.2.2.2.2.1⟩ ⟨_, Z.2.2.2.2.2.2.1⟩ ⟨_, Z.2.2.2.2.2.2.2⟩
theorem SQ.of (R : RC h S u l n) (ho : h.2.2 14 = some (sob rd (nI c) (nI law) ex fa li qu re ga dr rt bg ie)) : ∃ f e a, SQ h rd c law ex fa li qu re ga dr rt bg ie f e a h := by
  obtain ⟨sr, ss, sl, ex, re, ga, dr, rt, bg, ie, fa, li, qu, -, h21, ⟨f15, h15⟩, ⟨f16, h16⟩, ⟨f17, h17⟩⟩ := R.sea
  exact ⟨f15, f16, f17, rfl, rfl, fun _ _ _ => rfl, ho, h21, h15, h16, h17⟩
theorem SQ.cag (Z : SQ h0 rd c law ex fa li qu re ga dr rt bg ie f e a h) : Cag h0 h := fun x _ _ => Z.2.2.1 x (by omega) (by omega)
theorem SQ.o (Z : SQ h0 rd c law ex fa li qu re ga dr rt bg ie f e a h) : isO h 14 7 := ⟨_, Z.2.2.2.1⟩
theorem SQ.rod (Z : SQ h0 rd c law ex fa li qu re ga dr rt bg ie f e a h) (C : Crod h0 rd S X) (xr : ∀ x, X x → radr x) : Crod h rd S X := C.keep (fun x hx => by
  have := xr x hx
  unfold radr at this
  exact Z.2.2.1 x (by omega) (by omega)) sameR.rf
theorem SQ.p14 (Z : SQ h0 rd c law ex fa li qu re ga dr rt bg ie f e a h) : SQ h0 rd c law ex fa li qu re ga' dr' rt' bg' ie' f e a (aput h 14 (sob rd (nI c) (nI law) ex fa li qu re ga' dr' rt' bg' ie')) := by
  obtain ⟨z1, z2, z3, z4, z5, z6, z7, z8⟩ := Z
  exact ⟨z1, z2, fun x x1 x2 => (aput_n h _ (by omega)).trans (z3 x x1 x2), aput_s h 14 _, z5.keep (aput_n h _ (by omega)), (aput_n h _ (by omega)).trans z6, (aput_n h _ (by omega)).trans z7, (aput_n h _ (by omega)).trans z8⟩
theorem SQ.p15 (Z : SQ h0 rd c law ex fa li qu re ga dr rt bg ie f e a h) : SQ h0 rd c law ex fa li qu re ga dr rt bg ie g e a (aput h 15 (.inl (0, 4, .inl g))) := by
  obtain ⟨z1, z2, z3, z4, z5, z6, z7, z8⟩ := Z
  exact ⟨z1, z2, fun x x1 x2 => (aput_n h _ (by omega)).trans (z3 x x1 x2), (aput_n h _ (by omega)).trans z4, z5.keep (aput_n h _ (by omega)), aput_s h 15 _, (aput_n h _ (by omega)).trans z7, (aput_n h _ (by omega)).trans z8⟩
theorem SQ.p16 (Z : SQ h0 rd c law ex fa li qu re ga dr rt bg ie f e a h) : SQ h0 rd c law ex fa li qu re ga dr rt bg ie f g a (aput h 16 (.inl (0, 125, .inl g))) := by
  obtain ⟨z1, z2, z3, z4, z5, z6, z7, z8⟩ := Z
  exact ⟨z1, z2, fun x x1 x2 => (aput_n h _ (by omega)).trans (z3 x x1 x2), (aput_n h _ (by omega)).trans z4, z5.keep (aput_n h _ (by omega)), (aput_n h _ (by omega)).trans z6, aput_s h 16 _, (aput_n h _ (by omega)).trans z8⟩
theorem SQ.p17 (Z : SQ h0 rd c law ex fa li qu re ga dr rt bg ie f e a h) : SQ h0 rd c law ex fa li qu re ga dr rt bg ie f e g (aput h 17 (.inl (0, 10, .inl g))) := by
  obtain ⟨z1, z2, z3, z4, z5, z6, z7, z8⟩ := Z
  exact ⟨z1, z2, fun x x1 x2 => (aput_n h _ (by omega)).trans (z3 x x1 x2), (aput_n h _ (by omega)).trans z4, z5.keep (aput_n h _ (by omega)), (aput_n h _ (by omega)).trans z6, (aput_n h _ (by omega)).trans z7, aput_s h 17 _⟩
theorem SQ.p21 {r : Nat} {t1 t2 t3 t4 t5 t6 t7 : Int32} (Z : SQ h0 rd c law ex fa li qu re ga dr rt bg ie f e a h) : SQ h0 rd c law ex fa li qu re ga dr rt bg ie f e a (aput h 21 (trip r t1 t2 t3 t4 t5 t6 t7)) := by
  obtain ⟨z1, z2, z3, z4, z5, z6, z7, z8⟩ := Z
  exact ⟨z1, z2, fun x x1 x2 => (aput_n h _ (by omega)).trans (z3 x x1 x2), (aput_n h _ (by omega)).trans z4, ⟨_, _, _, _, _, _, _, _, aput_s h 21 _⟩, (aput_n h _ (by omega)).trans z6, (aput_n h _ (by omega)).trans z7, (aput_n h _ (by omega)).trans z8⟩
theorem q_body {m row : Nat} {Q : AH → Prop} (Z : SQ h0 rd c law ex fa li qu re ga dr rt bg ie f e a h) (W : WFr S) (C : Crod h0 rd S X) (xr : ∀ x, X x → radr x) (D : Cd S c) (hl : law ≤ 2) (hm : m ≤ 4) (hr : row < wN S ^ m) (hd : ∀ k, k < m → f k = nI (rdg (wN S) m row k))
    (H : ∀ h1, SQ h0 rd c law ex fa li qu re ga dr rt bg ie f e a h1 → (∃ t1 t2 t3 t4 t5, h1.2.2 21 = some (trip rd t1 t2 (nI (rww S law c (rdg (wN S) m row) m).1) t3 (nI (rww S law c (rdg (wN S) m row) m).2) t4 t5)) → Q h1) :
    gR h 14 7 0 (fun a2 => gR h 14 7 4 (fun a3 => gI h 14 7 5 (fun x4 => gI h 14 7 6 (fun x5 => isO h a2 9 ∧ f_X9_begin a2 a3 x4 x5 h (fun h6 => gR h6 14 7 0 (fun a7 => gR h6 14 7 1 (fun a8 => isO h6 a7 9 ∧ f_X9_sendRow a7 a8 (nI m) h6 Q))))))) := by
  have x21 : ¬ X 21 := fun z => by have := xr 21 z; unfold radr at this; omega
  have C1 := Z.rod C xr
  obtain ⟨z1, z2, z3, z4, z5, z6, z7, z8⟩ := id Z
  refine gR_of z4 rfl (gR_of z4 rfl (gI_of z4 rfl (gI_of z4 rfl ⟨by obtain ⟨_, _, _, _, _, _, _, _, y⟩ := z5; exact isO_of y, c_tbegin z5 fun by_ => ?_⟩)))
  have Z2 := Z.p21 (r := rd) (t1 := nI law) (t2 := nI c) (t3 := nI c) (t4 := by_) (t5 := 0) (t6 := 0) (t7 := 0)
  refine gR_of Z2.2.2.2.1 rfl (gR_of Z2.2.2.2.1 rfl ⟨isO_of (aput_s h 21 _), c_sendRow (rdg (wN S) m row) W (C1.put x21) x21 (by omega) D hl hm (fun k hk => rdg_lt (wpos hr (by omega))) Z2.2.2.2.2.2.1 hd (aput_s h 21 _) (fun ca mv => ?_)⟩)
  rw [aput_pp]
  exact H _ Z.p21 ⟨_, _, _, _, _, aput_s h 21 _⟩
theorem q_next {m row : Nat} {Q : AH → Prop} (Z : SQ h0 rd c law ex fa li qu re ga dr rt bg ie f e a h) (W : WFr S) (C : Crod h0 rd S X) (xr : ∀ x, X x → radr x) (hm : m ≤ 4) (hr : row < wN S ^ m) (hd : ∀ k, k < m → f k = nI (rdg (wN S) m row k))
    (H : ∀ h1 g, SQ h0 rd c law ex fa li qu re ga dr rt bg ie g e a h1 → (row + 1 < wN S ^ m → ∀ k, k < m → g k = nI (rdg (wN S) m (row + 1) k)) → Q h1) : isO h 14 7 ∧ f_X7_nextRow 14 (nI m) h Q := by
  have x15 : ¬ X 15 := fun z => by have := xr 15 z; unfold radr at this; omega
  exact ⟨Z.o, c_nextRow W (Z.rod C xr) x15 hm hr Z.2.2.2.1 Z.2.2.2.2.2.1 hd (fun g hg => H _ g Z.p15 hg)⟩
/-- how many rows, and the first one -/
theorem q_first {m : Nat} {Q : Int32 → AH → Prop} (Z : SQ h0 rd c law ex fa li qu re ga dr rt bg ie f e a h) (W : WFr S) (C : Crod h0 rd S X) (xr : ∀ x, X x → radr x) (hm : m ≤ 4)
    (H : ∀ h1 g, SQ h0 rd c law ex fa li qu re ga dr rt bg ie g e a h1 → (∀ k, k < m → g k = nI (rdg (wN S) m 0 k)) → Q (nI (wN S ^ m)) h1) : isO h 14 7 ∧ f_X7_rowsOf 14 (nI m) h (fun x2 h3 => isO h3 14 7 ∧ f_X7_firstRow 14 h3 (fun h4 => Q x2 h4)) :=
  ⟨Z.o, c_rowsOf W (Z.rod C xr) hm Z.2.2.2.1 ⟨Z.o, c_firstRow Z.2.2.2.1 Z.2.2.2.2.2.1 (fun g hg => H _ g Z.p15 (fun k hk => by rw [hg k (by omega), rdg_0]; rfl))⟩⟩
end SQS
