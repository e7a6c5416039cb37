section K2
variable {h : AH} {S : SS} {u l : Int64} {n : Nat} {Q : Int32 → AH → Prop}
/-- standing, law and how many walks were done are others -/
def dynS (S : SS) (st lw dn : Int32) : SS := up (up (up S 14 0 0 st) 15 0 0 lw) 16 0 0 dn
theorem dynS_c {st lw dn : Int32} {c i j : Nat} (h : c ≠ 14 ∧ c ≠ 15 ∧ c ≠ 16) : dynS S st lw dn c i j = S c i j := by
  unfold dynS
  rw [up_c _ _ h.2.2, up_c _ _ h.2.1, up_c _ _ h.1]
theorem dynS_14 {st lw dn : Int32} : dynS S st lw dn 14 0 0 = st := by unfold dynS; rw [up_c _ _ (by omega), up_c _ _ (by omega), up_s]
theorem dynS_15 {st lw dn : Int32} : dynS S st lw dn 15 0 0 = lw := by unfold dynS; rw [up_c _ _ (by omega), up_s]
theorem dynS_16 {st lw dn : Int32} : dynS S st lw dn 16 0 0 = dn := by unfold dynS; rw [up_s]
theorem dynS_D {st lw dn : Int32} : sameD S (dynS S st lw dn) := fun c i j hq => dynS_c (by omega)
/-- the class: standing, law, how many are written, fewer walks than there were, or as many -/
theorem RC.dyn {h1 : AH} {st lw dn : Int32} (R : RC h S u l n) (ha : ∀ a, a ≠ 1 → h1.2.2 a = h.2.2 a) (hn : h1.1 = h.1) (hs : h1.2.1 = h.2.1) (h1c : ∀ rd, Cmain h S u l rd → h1.2.2 1 = some (mob rd st lw dn (S 4 0 0) u l (S 5 0 0))) (hd : dn ≤ S 16 0 0) : RC h1 (dynS S st lw dn) u l n := by
  refine R.keepD (fun a x _ _ _ => ha a x) hn hs dynS_D (fun rd c => ?_) (fun c => c.keep (ha 7 (by omega)) (fun r => dynS_c (by omega))) (fun c => c.keep (ha 5 (by omega)) (ha 6 (by omega)) (fun r => dynS_c (by omega)) (fun r => dynS_c (by omega))) (fun c i hi => ?_) (fun c => c.keep (ha 13 (by omega)))
  · unfold Cmain
    rw [dynS_14, dynS_15, dynS_16, dynS_c (by omega), dynS_c (by omega)]
    exact h1c rd c
  · obtain ⟨rd, lw', bf, st', by_, py, ca, mv, c1, c2⟩ := c i hi
    refine ⟨rd, lw', bf, st', by_, py, ca, mv, by rw [ha _ (by omega)]; exact c1, fun q => ?_⟩
    rw [dynS_16] at q
    rw [dynS_c (by omega), dynS_c (by omega), dynS_c (by omega), show dynS S st lw dn 20 i = S 20 i from funext fun k => dynS_c (by omega)]
    exact c2 (by grind)
theorem WF_dynS {c r d : Nat} (W : WF S) (hc : Cd S c) (hr : r ≤ 2) (hd : d ≤ dnN S) : WF (dynS S (nI c) (nI r) (nI d)) := by
  obtain ⟨w1, w2, w3, w4, w5, w6, w7, w8⟩ := id W
  have clt := Cd_lt w3 hc
  have e16 : dnN (dynS S (nI c) (nI r) (nI d)) = d := by unfold dnN; rw [dynS_16]; exact nI_clamp (by omega)
  have e14 : stN (dynS S (nI c) (nI r) (nI d)) = c := by unfold stN; rw [dynS_14]; exact nI_clamp (by omega)
  have e15 : rlN (dynS S (nI c) (nI r) (nI d)) = r := by unfold rlN; rw [dynS_15]; exact nI_clamp (by omega)
  refine WF_dyn W dynS_D ?_ ?_ ?_ (fun i hi => ?_) (fun k hk => ?_)
  · rw [e14, dynS_14]; exact ⟨rfl, hc⟩
  · rw [e15, dynS_15]; exact ⟨rfl, hr⟩
  · rw [e16, dynS_16]; exact ⟨rfl, by omega⟩
  · rw [e16] at hi
    rw [dynS_c (by omega), dynS_c (by omega), dynS_c (by omega)]
    obtain ⟨x1, x2, x3, x4⟩ := w7 i (by omega)
    exact ⟨x1, x2, x3, fun k => by rw [dynS_c (by omega)]; exact x4 k⟩
  · rw [dynS_c (by omega), dynS_c (by omega)]; exact w8 k hk
theorem LkA_dyn {mi : Nat → Int32} {st lw dn : Int32} (A : LkA S mi) : LkA (dynS S st lw dn) (upd (upd (upd mi 17 st) 16 lw) 20 dn) := by
  obtain ⟨a1, a2, a3, a4, a5, a6, a7, a8⟩ := A
  unfold LkA
  rw [dynS_14, dynS_15, dynS_16, dynS_c (by omega), dynS_c (by omega), dynS_c (by omega), dynS_c (by omega), dynS_c (by omega)]
  refine ⟨?_, ?_, ?_, ?_, ?_, ?_, ?_, ?_⟩
  · rw [pk_un (by omega), pk_un (by omega), pk_un (by omega)]; exact a1
  · rw [pk_un (by omega), pk_un (by omega), pk_un (by omega)]; exact a2
  · rw [pk_un (by omega), pk_un (by omega), pk_un (by omega)]; exact a3
  · rw [pk_un (by omega), pk_un (by omega), pk_un (by omega)]; exact a4
  · rw [pk_un (by omega), pk_un (by omega), pk_un (by omega)]; exact a5
  · rw [pk_un (by omega), pk_us]
  · rw [pk_un (by omega), pk_un (by omega), pk_us]
  · rw [pk_us]
theorem op_on {k : Int32} (I : Inv h n) : f_X11_on 1 k h (fun x h1 => f_X12_on 102 k h1 (fun y h2 => x = y ∧ Inv h2 n)) := by
  obtain ⟨S, u, l, R, M, W⟩ := I
  obtain ⟨mi, ma, R1, A, Wm, T, F, Rd, Lg, Kp⟩ := id M
  obtain ⟨_, _, _, _, _, _, -, -, -, -, -, ⟨f, g, hf, hg, hk⟩, -⟩ := id R
  obtain ⟨w1, w2, w3, w4, w5, w6, w7, w8⟩ := id W
  unfold f_X11_on f_X12_on
  refine c_isBelow (fun q => rb0 (m_in (a := 0) (b := 2) (fun _ => rb0 ⟨rfl, S, u, l, R, M, W⟩) (fun q1 q2 => by grind))) (fun q1 q2 => rb1 ?_)
  obtain ⟨j, hj, rfl⟩ := lt_nI (x := k) (m := 3) (by omega) q1 q2
  have inn : ∀ {h : AH} {Q : Int32 → AH → Prop}, Q 1 h → f_X12_in (nI j).toInt64 (0 : Int64) (2 : Int64) h Q := fun H => m_in (a := 0) (b := 2) (fun q => by grind) (fun _ _ => H)
  have v3 : vp_in (nI j) 3 := vp_in_nI hj (by omega)
  refine c_gR R (fun _ => rfl) (lI_of hg v3 ?_)
  rw [nI_clamp (by omega)]
  rcases hk j hj with ⟨e1, e2⟩ | ⟨e1, e2, e3, e4⟩
  · refine ⟨fun c => absurd e2 c, fun _ => ⟨R.o, c_found (f := 1) (by omega) R (fun h1 r1 a1 => ?_)⟩⟩
    have M1 := M.keep a1
    have R1' := R1.keep a1
    refine inn (rb1 (m_gR R1' (mr25 _ _ _) (m_lI R1' (j := 15) rfl rfl rfl v3 ?_)))
    rw [nI_clamp (by omega), (Kp j hj).1, e1]
    exact ⟨fun c => absurd c (by decide), fun _ => ⟨M1.o, m_find (f := 1) (by omega) M1 (fun h2 r2 a2 => ⟨rfl, Inv.of r1 r2 a2 (WF_fnd W 1)⟩)⟩⟩
  · refine ⟨fun _ => ?_, fun c => absurd c e4⟩
    obtain ⟨rd, c1⟩ := R.main
    obtain ⟨cc, rr, y1, y2, y3, y4⟩ : ∃ c r, S 21 j 0 = nI c ∧ Cd S c ∧ S 22 j 0 = nI r ∧ r ≤ 2 := by
      rcases w8 j hj with e | e
      · rw [e] at e1; exact absurd e1 (by decide)
      · exact e
    refine c_gR R (fun _ => rfl) (lI_of hf v3 (pF_of c1 (by show 9 < 16; omega) rfl ?_))
    refine gR_of (aput_s _ _ _) rfl (lI_of ((aput_n _ _ (by omega)).trans hg) v3 (pF_of (aput_s _ _ _) (by show 10 < 16; omega) rfl (pF_of (aput_s _ _ _) (by show 11 < 16; omega) rfl ?_)))
    rw [aput_pp, aput_pp, nI_clamp (by omega), e2, e3, y1, y3]
    generalize hH : aput h 1 (.inr (11, _)) = H1
    have ag : ∀ a, a ≠ 1 → H1.2.2 a = h.2.2 a := fun a x => by rw [← hH, aput_n _ _ x]
    have R2 : RC H1 (dynS S (nI cc) (nI rr) (nI 0)) u l n := R.dyn ag (by rw [← hH]; rfl) (by rw [← hH]; rfl) (fun rd2 c2 => by
      have e := c1.inj c2
      subst e
      rw [← hH, aput_s]
      rfl) (by rw [w6.1]; exact nI_le (by omega) (by omega))
    have R1' := R1.keep (h1 := H1) (fun a x y => ag a (by omega))
    refine inn (rb1 (m_gR R1' (mr25 _ _ _) (m_lI R1' (j := 15) rfl rfl rfl v3 ⟨fun _ => m_gR R1' (mr25 _ _ _) (m_lI R1' (j := 15) rfl rfl rfl v3 (m_pF R1' (by omega) (ms17 _ _ _ _) (fun h2 r2 a2 => m_gR r2 (mr26 _ _ _) (m_lI r2 (j := 16) rfl rfl rfl v3 (m_pF r2 (by omega) (ms16 _ _ _ _) (fun h3 r3 a3 => ⟨r3.o, m_clear r3 (fun h4 g1 g2 r4 a4 z4 => ⟨rfl, Inv.of R2 ?_ ((a2.tr a3).tr a4) (WF_dynS W y2 y4 (by omega))⟩)⟩)))))), fun c => ?_⟩)))
    · rw [nI_clamp (by omega), (Kp j hj).1, (Kp j hj).2 e1, y1, y3] at r4
      refine RM.keepD r4 dynS_D (LkA_dyn A) Wm T (F.keep (fun i => by rw [va_up_ne _ _ (by omega), va_up_ne _ _ (by omega)]) (fun r => dynS_c (by omega))) Rd ⟨fun w hw => ?_, fun k hk => ?_, fun i hi => ?_⟩ (Kp.keep (fun i => by rw [va_up_ne _ _ (by omega), va_up_ne _ _ (by omega)]) (fun i => by rw [va_up_ne _ _ (by omega), va_up_ne _ _ (by omega)]) (fun r => dynS_c (by omega)) (fun r => dynS_c (by omega))) (fun j i x => by rw [va_up_ne _ _ (by omega), va_up_ne _ _ (by omega)])
      · have e16 : dnN (dynS S (nI cc) (nI rr) (nI 0)) = 0 := by unfold dnN; rw [dynS_16]; exact nI_clamp (by omega)
        rw [va_up_ne _ _ (by omega), va_up_self, e16]
        exact (z4 w hw).1
      · have e16 : dnN (dynS S (nI cc) (nI rr) (nI 0)) = 0 := by unfold dnN; rw [dynS_16]; exact nI_clamp (by omega)
        rw [va_up_self, e16]
        exact (z4 k hk).2
      · have e16 : dnN (dynS S (nI cc) (nI rr) (nI 0)) = 0 := by unfold dnN; rw [dynS_16]; exact nI_clamp (by omega)
        rw [e16] at hi
        omega
    · rw [nI_clamp (by omega), (Kp j hj).1] at c
      exact absurd e1 c
end K2
