/-! fewest, best -/
def hmA (B : BF) (P : Nat → Bool) (L : Nat) : Nat → Nat
  | 0 => 0
  | j + 1 => hmA B P L j + (if dp B j = L ∧ P (B.2.1 j) = true then 1 else 0)
theorem hmA_le (B : BF) (P : Nat → Bool) (L : Nat) : ∀ k, hmA B P L k ≤ k
  | 0 => Nat.le_refl _
  | k + 1 => by have := hmA_le B P L k; unfold hmA; split <;> omega
theorem hmA_0 {B : BF} {P : Nat → Bool} {L : Nat} : ∀ {k : Nat}, (∀ j, j < k → P (B.2.1 j) = false) → hmA B P L k = 0
  | 0, _ => rfl
  | k + 1, h => by
    unfold hmA
    rw [hmA_0 (fun j hj => h j (by omega)), if_neg (fun z => by have := h k (by omega); rw [this] at z; exact absurd z.2 (by decide))]
theorem hmA_tail {B : BF} {P : Nat → Bool} {L k : Nat} : ∀ m, (∀ j, k ≤ j → j < k + m → dp B j ≠ L) → hmA B P L (k + m) = hmA B P L k
  | 0, _ => rfl
  | m + 1, h => by
    show hmA B P L (k + m) + (if dp B (k + m) = L ∧ P (B.2.1 (k + m)) = true then 1 else 0) = _
    rw [hmA_tail m (fun j h1 h2 => h j h1 (by omega)), if_neg (fun z => h (k + m) (by omega) (by omega) z.1)]
    rfl
abbrev hmP (S : SS) : Nat → Bool := fun x => allH S x (sN S)
section FEW
variable {h h0 : AH} {S : SS} {u l : Int64} {n rd c law : Nat} {X : Nat → Prop} {mi : Nat → Int32} {ma ma0 : Nat → Nat → Int32}
theorem x_firstHome {Q : Int32 → AH → Prop} (W : WFr S) (D : Cd S c) (E : EXP h S rd c law) (C : Crod h rd S X) (Hn : fwk (bfa S law c) (hmP S) (bfa S law c).1 = none → Q (-1) h) (Hs : ∀ e, fwk (bfa S law c) (hmP S) (bfa S law c).1 = some e → e < (bfa S law c).1 → Q (nI ((bfa S law c).2.1 e)) h) : ∃ m, L_X7_firstHome_6 Q 14 m (0 : Int32) h := by
  obtain ⟨G, g1, g2⟩ := bg_all (law := law) W D
  refine ⟨(bfa S law c).1 + 1, lpG (L := L_X7_firstHome_6 Q 14) (I := fun i b h3 => b = nI i ∧ h3 = h ∧ fwk (bfa S law c) (hmP S) i = none) (bfa S law c).1 (fun m b h3 Y => ?_) (fun i m b h3 hi Y K => ?_) (bfa S law c).1 0 (by omega) 0 h ⟨rfl, rfl, rfl⟩⟩
  · obtain ⟨rfl, rfl, y⟩ := Y
    exact x_out E (Hn y)
  · obtain ⟨rfl, rfl, y⟩ := Y
    refine x_in W D E hi (x_rd E (x_q W D E hi ⟨C.o, c_allHome W C (G.2.2.1 i hi).1 ?_⟩))
    rw [nI_1]
    cases z : allH S ((bfa S law c).2.1 i) (sN S) with
    | false => exact ⟨fun _ => K _ _ ⟨rfl, rfl, fwk_no y z⟩, fun q => absurd rfl q⟩
    | true =>
      refine ⟨fun q => absurd q (by decide), fun _ => x_q W D E hi (Hs i ?_ hi)⟩
      have := fwk_stay (fwk_at (P := hmP S) y z) ((bfa S law c).1 - (i + 1))
      rw [show i + 1 + ((bfa S law c).1 - (i + 1)) = (bfa S law c).1 by omega] at this
      exact this
theorem x_homes {e : Nat} {Q : Int32 → AH → Prop} (W : WFr S) (D : Cd S c) (E : EXP h S rd c law) (C : Crod h rd S X) (he : e < (bfa S law c).1) (H : Q (nI (hmA (bfa S law c) (hmP S) (dp (bfa S law c) e) (bfa S law c).1)) h) : f_X7_homesAsNear 14 (nI ((bfa S law c).2.1 e)) h Q := by
  obtain ⟨G, g1, g2⟩ := bg_all (law := law) W D
  refine lpA (L := L_X7_homesAsNear_4 Q 14 (nI ((bfa S law c).2.1 e))) (fun i => nI (hmA (bfa S law c) (hmP S) (dp (bfa S law c) e) i)) (bfa S law c).1 (fun k => x_out E H) (fun i k hi K => x_in W D E hi (x_q W D E hi ⟨E.o, x_farq W D E hi ⟨E.o, x_farq W D E he ?_⟩⟩))
  have d1 := (G.dpe hi).2
  have d2 := (G.dpe he).2
  rw [nI_eqI (by omega) (by omega), nI_1]
  rw [hmA] at K
  refine ⟨fun q => ?_, fun q => x_rd E (x_q W D E hi ⟨C.o, c_allHome W C (G.2.2.1 i hi).1 ?_⟩)⟩
  · rw [if_neg (fun z => q z.1)] at K; exact K
  · cases z : allH S ((bfa S law c).2.1 i) (sN S) with
    | false =>
      have nz : ¬ (dp (bfa S law c) i = dp (bfa S law c) e ∧ hmP S ((bfa S law c).2.1 i) = true) := fun y => by
        have := y.2
        rw [show hmP S ((bfa S law c).2.1 i) = false from z] at this
        exact absurd this (by decide)
      rw [if_neg nz] at K
      exact ⟨fun _ => K, fun y => absurd rfl y⟩
    | true =>
      rw [if_pos ⟨q, z⟩] at K
      refine ⟨fun y => absurd y (by decide), fun _ => ?_⟩
      rw [nI_1]
      exact K
theorem m_fewestBy {Q : Int32 → AH → Prop} (WS : WF S) (hl : law ≤ 2) (Z : MX S h0 u l ma0 h mi ma)
    (H : ∀ h1 mi1 ma1, MB S h0 u l ma0 (bfa S law (stN S)) h1 mi1 ma1 → mi1 4 = mi 4 → (∀ e, fwk (bfa S law (stN S)) (hmP S) (bfa S law (stN S)).1 = some e → mi1 46 = nI (hmA (bfa S law (stN S)) (hmP S) (dp (bfa S law (stN S)) e) (bfa S law (stN S)).1)) → Q (fwI (bfa S law (stN S)) (hmP S)) h1) : f_X12_fewestBy 102 (nI law) h Q := by
  obtain ⟨w1, w2, w3, w4, w5, w6, w7, w8⟩ := id WS
  obtain ⟨G, g1, g2⟩ := bg_all (law := law) w3 w4.2
  refine ⟨Z.rep.o, m_goesOut WS hl Z (fun h1 mi1 ma1 Z1 y1 => Z1.1.pF (by omega) (ms46 _ _ _ _) (fun h2 X2 => ?_))⟩
  have farq : ∀ {h3 : AH} {mi3 : Nat → Int32} {i : Nat} {K : Int32 → Prop}, MB S h0 u l ma0 (bfa S law (stN S)) h3 mi3 ma1 → i < (bfa S law (stN S)).1 → K (nI (dp (bfa S law (stN S)) i)) → lI h3 129 (nI ((bfa S law (stN S)).2.1 i)) K := fun Z hi H => M_farq w3 w4.2 Z hi H
  generalize hB : bfa S law (stN S) = B at *
  refine ⟨B.1 + 1, lpG (L := fun f (b : Int32 × Int32) h => L_X12_fewestBy_15 Q 102 f b.1 b.2 h) (I := fun k b h3 => b.2 = nI k ∧ ∃ mi3, MB S h0 u l ma0 B h3 mi3 ma1 ∧ mi3 4 = mi 4 ∧ ((fwk B (hmP S) k = none ∧ b.1 = -9 ∧ mi3 46 = 0) ∨ ∃ e, fwk B (hmP S) k = some e ∧ b.1 = nI (dp B e) ∧ mi3 46 = nI (hmA B (hmP S) (dp B e) k))) B.1 (fun m b h3 Y => ?_) (fun k m b h3 hk Y K => ?_) B.1 0 (by omega) ((-9 : Int32), (0 : Int32)) h2 ⟨rfl, _, ⟨X2, by rw [pk_un (by omega)]; exact Z1.2.1, Z1.2.2.1, Z1.2.2.2⟩, by rw [pk_un (by omega)]; exact y1, Or.inl ⟨rfl, rfl, pk_us⟩⟩⟩
  · obtain ⟨b1, b2⟩ := b
    obtain ⟨y2, mi3, Z3, y3, y4⟩ := Y
    dsimp only at y2 y4
    subst y2
    refine m_gI Z3.1.rep (mg45 _ _ _) ?_
    rw [Z3.2.1]
    refine ⟨fun _ => ?_, fun q => absurd (Int32.le_refl _) q⟩
    rcases y4 with ⟨z1, z2, -⟩ | ⟨e, z1, z2, z3⟩
    · have := H h3 mi3 ma1 Z3 y3 (fun e he => by rw [z1] at he; cases he)
      unfold fwI at this
      rw [z1] at this
      show Q b1 h3
      rw [z2]
      exact this
    · have := H h3 mi3 ma1 Z3 y3 (fun e2 he => by
        rw [z1] at he
        have : e = e2 := Option.some.inj he
        subst this
        exact z3)
      unfold fwI at this
      rw [z1] at this
      show Q b1 h3
      rw [z2]
      exact this
  · obtain ⟨b1, b2⟩ := b
    obtain ⟨y2, mi3, Z3, y3, y4⟩ := Y
    dsimp only at y2 y4
    subst y2
    have Dq := Cd_lt w3 (G.2.2.1 k hk)
    have dk := (G.dpe hk).2
    refine m_gI Z3.1.rep (mg45 _ _ _) ?_
    rw [Z3.2.1]
    have b44 : (∀ h4 mi4, MB S h0 u l ma0 B h4 mi4 ma1 → mi4 4 = mi 4 → (allH S (B.2.1 k) (sN S) = false → mi4 46 = mi3 46 → L_X12_fewestBy_15 Q 102 m b1 (nI (k + 1)) h4) ∧ (allH S (B.2.1 k) (sN S) = true → mi4 46 = mi3 46 + 1 → L_X12_fewestBy_15 Q 102 m (nI (dp B k)) (nI (k + 1)) h4)) → B_X12_fewestBy_44 Q (fun a b h => L_X12_fewestBy_15 Q 102 m a b h) 102 b1 (nI k) h3 := fun J => by
      refine m_gR Z3.1.rep (mr42 _ _ _) (Z3.line hk g2 ⟨Z3.1.rep.o, m_isDone w3 Z3.1 Dq ?_⟩)
      rw [nI_1]
      cases z : allH S (B.2.1 k) (sN S) with
      | false => exact ⟨fun _ => (J h3 mi3 Z3 y3).1 z rfl, fun q => absurd rfl q⟩
      | true =>
        refine ⟨fun q => absurd q (by decide), fun _ => m_gR Z3.1.rep (mr43 _ _ _) (m_gR Z3.1.rep (mr42 _ _ _) (Z3.line hk g2 (farq Z3 hk (m_gI Z3.1.rep (mg46 _ _ _) (Z3.1.pF (by omega) (ms46 _ _ _ _) (fun h4 X4 => ?_))))))⟩
        exact (J h4 _ ⟨X4, by rw [pk_un (by omega)]; exact Z3.2.1, Z3.2.2.1, Z3.2.2.2⟩ (by rw [pk_un (by omega)]; exact y3)).2 z pk_us
    refine ⟨fun q => absurd q (by rw [nI_leI (by omega) (by omega)]; omega), fun _ => ?_⟩
    rcases y4 with ⟨z1, z2, z3⟩ | ⟨e, z1, z2, z3⟩
    · refine ⟨fun _ => b44 (fun h4 mi4 Z4 x1 => ⟨fun p1 p2 => K (_, _) _ ⟨rfl, mi4, Z4, x1, Or.inl ⟨fwk_no z1 p1, z2, p2.trans z3⟩⟩, fun p1 p2 => K (_, _) _ ⟨rfl, mi4, Z4, x1, Or.inr ⟨k, fwk_at z1 p1, rfl, ?_⟩⟩⟩), fun q => absurd z2 q⟩
      rw [p2, z3, hmA, hmA_0 (fwk_none z1), if_pos ⟨rfl, p1⟩]
      rfl
    · obtain ⟨e1, e2, e3⟩ := fwk_some z1
      have de := (G.dpe (show e < B.1 by omega)).2
      refine ⟨fun q => absurd (z2.symm.trans q) (nI_nn _ (by omega)), fun _ => m_gR Z3.1.rep (mr43 _ _ _) (m_gR Z3.1.rep (mr42 _ _ _) (Z3.line hk g2 (farq Z3 hk ?_)))⟩
      dsimp only
      rw [z2, nI_eqI (by omega) (by omega)]
      have stay := fwk_stay z1 (B.1 - k)
      rw [show k + (B.1 - k) = B.1 by omega] at stay
      refine ⟨fun q => ?_, fun q => ?_⟩
      · have mono := G.2.2.2.2.2.2.1
        have dek := mono e k (by omega) hk
        have tail := hmA_tail (B := B) (P := hmP S) (L := dp B e) (k := k) (B.1 - k) (fun j j1 j2 => by
          have := mono k j j1 (by omega)
          omega)
        rw [show k + (B.1 - k) = B.1 by omega] at tail
        have := H h3 mi3 ma1 Z3 y3 (fun e2 he => by
          rw [stay] at he
          have : e = e2 := Option.some.inj he
          subst this
          rw [tail]
          exact z3)
        unfold fwI at this
        rw [stay] at this
        exact this
      · have s1 := fwk_stay z1 1
        rw [← z2]
        refine b44 (fun h4 mi4 Z4 x1 => ⟨fun p1 p2 => K (_, _) _ ⟨rfl, mi4, Z4, x1, Or.inr ⟨e, s1, z2, ?_⟩⟩, fun p1 p2 => K (_, _) _ ⟨rfl, mi4, Z4, x1, Or.inr ⟨e, s1, by rw [q]; rfl, ?_⟩⟩⟩)
        · have nz : ¬ (dp B k = dp B e ∧ hmP S (B.2.1 k) = true) := fun y => by
            have := y.2
            rw [show hmP S (B.2.1 k) = false from p1] at this
            exact absurd this (by decide)
          rw [p2, z3, hmA, if_neg nz]
          rfl
        · rw [p2, z3, hmA, if_pos ⟨q, p1⟩, nI_1]
theorem EXP.keep1 {h1 : AH} (E : EXP h S rd c law) (c1 : Cmain h S u l rd) (ha : ∀ a, a ≠ 1 → h1.2.2 a = h.2.2 a) : EXP h1 S rd c law := by
  obtain ⟨fa, li, qu, N, ga, dr, rt, bg, ie, ff, fl, fq, e1, e2, e3, e4, e5, b⟩ := E
  have ne : ∀ {a : Nat} {x}, h.2.2 a = some (.inl x) → a ≠ 1 := fun hx z => by
    rw [z] at hx
    have := c1.symm.trans hx
    simp at this
  exact ⟨fa, li, qu, N, ga, dr, rt, bg, ie, ff, fl, fq, (ha 14 (by omega)).trans e1, (ha fa (ne e2)).trans e2, (ha li (ne e3)).trans e3, (ha qu (ne e4)).trans e4, e5, b⟩
theorem M_fewest {Q : Int32 → AH → Prop} (M : RM h S u l) (W : WF S) (hp : 1 ≤ pN S) (Hn : fwk (bfa S (rlN S) (stN S)) (hmP S) (bfa S (rlN S) (stN S)).1 = none → ∀ h1, RM h1 S u l → Mag h h1 → Q (-9) h1) (Hs : ∀ e, fwk (bfa S (rlN S) (stN S)) (hmP S) (bfa S (rlN S) (stN S)).1 = some e → ∀ h1, RM h1 (up S 4 0 0 (nI (hmA (bfa S (rlN S) (stN S)) (hmP S) (dp (bfa S (rlN S) (stN S)) e) (bfa S (rlN S) (stN S)).1))) u l → Mag h h1 → Q (nI (dp (bfa S (rlN S) (stN S)) e)) h1) : f_X12_fewest 102 h Q := by
  obtain ⟨w1, w2, w3, w4, w5, w6, w7, w8⟩ := id W
  have hp7 := w3.2.2.2.1
  obtain ⟨G, g1, g2⟩ := bg_all (law := rlN S) w3 w4.2
  obtain ⟨mi, ma, R, A, Wm, T, F, Rd, Lg, Kp⟩ := id M
  refine m_gI R (mg9 _ _ _) ⟨fun _ => m_gI R (mg16 _ _ _) ?_, fun q => absurd q ?_⟩
  · rw [A.2.2.2.2.2.1, w5.1]
    refine ⟨R.o, m_fewestBy W w5.2 (MX.of R A Rd) (fun h1 mi1 ma1 Z1 y1 y2 => ?_)⟩
    have M1 := Z1.1.rmS (y1.trans A.1) Wm T F Lg Kp
    unfold fwI
    cases z : fwk (bfa S (rlN S) (stN S)) (hmP S) (bfa S (rlN S) (stN S)).1 with
    | none =>
      refine ⟨fun q => absurd rfl q, fun _ => m_gI Z1.1.rep (mg4 _ _ _) (m_told M1 (fun h2 r2 a2 => Hn z h2 ?_ (Z1.1.mag.tr a2)))⟩
      rw [y1.trans A.1, up_id] at r2
      exact r2
    | some e =>
      obtain ⟨e1, e2, e3⟩ := fwk_some z
      have de := (G.dpe e1).2
      refine ⟨fun _ => m_gI Z1.1.rep (mg46 _ _ _) ?_, fun q => absurd q (nI_nn _ (by omega))⟩
      rw [y2 e z]
      exact m_told M1 (fun h2 r2 a2 => Hs e z h2 r2 (Z1.1.mag.tr a2))
  · rw [A.2.2.1, w3.1]; exact nI_z (by omega) (by omega)
theorem op_fewest (I : Inv h n) : f_X11_fewest 1 h (fun x h1 => f_X12_fewest 102 h1 (fun y h2 => x = y ∧ Inv h2 (n + 3))) := by
  obtain ⟨S, u, l, R, M, W⟩ := I
  obtain ⟨mi, ma, R1, A, -⟩ := id M
  obtain ⟨w1, w2, w3, w4, w5, w6, w7, w8⟩ := id W
  have hp7 := w3.2.2.2.1
  obtain ⟨G, g1, g2⟩ := bg_all (law := rlN S) w3 w4.2
  by_cases p : 1 ≤ pN S
  · refine c_posts R ⟨fun _ => C_from R W (fun h1 rd ex fa li qu re ga dr rt bg ie R1 a1 c1 o1 => gR_of c1 rfl ⟨isO_of o1, isO_of o1, c_explore R1 w3 c1 o1 w4.2 w5.2 (fun h2 R2 E2 a2 c2 => ?_)⟩), fun q => absurd q ?_⟩
    · obtain ⟨X2, C2⟩ := R2.rod c2
      refine x_firstHome w3 w4.2 E2 C2 (fun z => ⟨fun q => absurd q (by decide), fun _ => ?_⟩) (fun e z he => ⟨fun _ => gR_of c2 rfl ⟨E2.o, x_homes w3 w4.2 E2 C2 he (c_told3 R2 c2 (fun h3 r3 a3 z3 c3 => ?_))⟩, fun q => absurd (nI_pos' (by have := Cd_lt w3 (G.2.2.1 e he); omega)) q⟩)
      · exact M_fewest (M.keep (a1.tr a2)) W p (fun _ h3 r3 a3 => ⟨rfl, Inv.of (R2.mono (by omega)) r3 a3 W⟩) (fun e he => by rw [z] at he; cases he)
      · refine gR_of c3 rfl ⟨(E2.keep1 c2 z3).o, x_farq w3 w4.2 (E2.keep1 c2 z3) he ?_⟩
        refine M_fewest (M.keep ((a1.tr a2).tr a3)) W p (fun z2 => by rw [z] at z2; cases z2) (fun e2 he2 h4 r4 a4 => ?_)
        rw [z] at he2
        have : e = e2 := Option.some.inj he2
        subst this
        exact ⟨rfl, Inv.of (r3.mono (by omega)) r4 a4 (WF_told W _)⟩
    · rw [w3.1]; exact nI_z (by omega) (by omega)
  · have e7 : S 7 0 0 = 0 := by rw [w3.1, show pN S = 0 by omega]; rfl
    refine c_posts R ⟨fun z => absurd e7 z, fun _ => m_gI R1 (mg9 _ _ _) ⟨fun z => absurd (A.2.2.1.trans e7) z, fun _ => ⟨rfl, S, u, l, R.mono (by omega), M, W⟩⟩⟩
def bsI (fw : Nat → Int32) : Nat → Int32 × Int32
  | 0 => (0, -9)
  | v + 1 => if fw v = -9 then bsI fw v else if (bsI fw v).2 = -9 then (nI v, fw v) else if (bsI fw v).2 ≤ fw v then bsI fw v else (nI v, fw v)
theorem M_best {Q : Int32 → AH → Prop} (M : RM h S u l) (W : WF S) (hp : 1 ≤ pN S) (H : ∀ h1, RM h1 (up S 4 0 0 (bsI (fun v => fwI (bfa S v (stN S)) (hmP S)) 3).2) u l → Mag h h1 → Q (bsI (fun v => fwI (bfa S v (stN S)) (hmP S)) 3).1 h1) : f_X12_best 102 h Q := by
  obtain ⟨w1, w2, w3, w4, w5, w6, w7, w8⟩ := id W
  have hp7 := w3.2.2.2.1
  obtain ⟨mi, ma, R, A, Wm, T, F, Rd, Lg, Kp⟩ := id M
  refine m_gI R (mg9 _ _ _) ⟨fun _ => ⟨4, lpG (L := fun f (b : Int32 × Int32 × Int32) h => L_X12_best_17 Q 102 f b.1 b.2.1 b.2.2 h) (I := fun v b h3 => b = ((bsI (fun v => fwI (bfa S v (stN S)) (hmP S)) v).1, (bsI (fun v => fwI (bfa S v (stN S)) (hmP S)) v).2, nI v) ∧ ∃ mi3 ma3, MX S h u l ma h3 mi3 ma3) 3 (fun m b h3 Y => ?_) (fun v m b h3 hv Y K => ?_) 3 0 (by omega) ((0 : Int32), (-9 : Int32), (0 : Int32)) h ⟨rfl, mi, ma, MX.of R A Rd⟩⟩, fun q => absurd q ?_⟩
  · obtain ⟨rfl, mi3, ma3, Z3⟩ := Y
    refine ⟨fun _ => Z3.pF (by omega) (ms4 _ _ _ _) (fun h4 Z4 => ?_), fun q => absurd (Int32.le_refl _) q⟩
    have := Z4.rm Wm T F Lg Kp
    rw [pk_us] at this
    exact H h4 this Z4.mag
  · obtain ⟨rfl, mi3, ma3, Z3⟩ := Y
    refine ⟨fun q => absurd q ?_, fun _ => ⟨Z3.rep.o, m_fewestBy W (by omega) Z3 (fun h4 mi4 ma4 Z4 y1 y2 => ?_)⟩⟩
    · rw [show (3 : Int32) = nI 3 from rfl, nI_leI (by omega) (by omega)]; omega
    · dsimp only
      rw [nI_1]
      refine ⟨fun q => K (_, _, _) _ ⟨?_, mi4, ma4, Z4.1⟩, fun q => ⟨fun q2 => ?_, fun q2 => ⟨fun q3 => K (_, _, _) _ ⟨?_, mi4, ma4, Z4.1⟩, fun q3 => ?_⟩⟩⟩
      · rw [bsI, if_pos q]; rfl
      · show L_X12_best_17 Q 102 m (nI v) _ (nI v + 1) h4
        rw [nI_1]
        refine K (_, _, _) _ ⟨?_, mi4, ma4, Z4.1⟩
        rw [bsI, if_neg q, if_pos q2]; rfl
      · rw [bsI, if_neg q, if_neg q2, if_pos q3]; rfl
      · show L_X12_best_17 Q 102 m (nI v) _ (nI v + 1) h4
        rw [nI_1]
        refine K (_, _, _) _ ⟨?_, mi4, ma4, Z4.1⟩
        rw [bsI, if_neg q, if_neg q2, if_neg q3]; rfl
  · rw [A.2.2.1, w3.1]; exact nI_z (by omega) (by omega)
theorem op_best (I : Inv h n) : f_X11_best 1 h (fun x h1 => f_X12_best 102 h1 (fun y h2 => x = y ∧ Inv h2 (n + 3))) := by
  obtain ⟨S, u, l, R, M, W⟩ := I
  obtain ⟨mi, ma, R1, A, -⟩ := id M
  obtain ⟨w1, w2, w3, w4, w5, w6, w7, w8⟩ := id W
  have hp7 := w3.2.2.2.1
  by_cases p : 1 ≤ pN S
  · refine c_posts R ⟨fun _ => ⟨4, lpG (L := fun f (b : Int32 × Int32 × Int32) h => L_X11_best_20 (fun x h1 => f_X12_best 102 h1 (fun y h2 => x = y ∧ Inv h2 (n + 3))) 1 f b.1 b.2.1 b.2.2 h) (I := fun v b h3 => b = ((bsI (fun v => fwI (bfa S v (stN S)) (hmP S)) v).1, (bsI (fun v => fwI (bfa S v (stN S)) (hmP S)) v).2, nI v) ∧ RC h3 S u l (n + v) ∧ Cag h h3) 3 (fun m b h3 Y => ?_) (fun v m b h3 hv Y K => ?_) 3 0 (by omega) ((0 : Int32), (-9 : Int32), (0 : Int32)) h ⟨rfl, R, Cag.rf⟩⟩, fun q => absurd q ?_⟩
    · obtain ⟨rfl, R3, a3⟩ := Y
      refine ⟨fun _ => c_told R3 (fun h4 r4 a4 => ?_), fun q => absurd (Int32.le_refl _) q⟩
      exact M_best (M.keep (a3.tr a4)) W p (fun h5 r5 a5 => ⟨rfl, Inv.of r4 r5 a5 (WF_told W _)⟩)
    · obtain ⟨rfl, R3, a3⟩ := Y
      obtain ⟨G, g1, g2⟩ := bg_all (law := v) w3 w4.2
      obtain ⟨rd, c1⟩ := R3.main
      obtain ⟨_, _, _, _, _, _, _, _, _, _, _, _, _, ho, -⟩ := R3.sea
      have b69 : ∀ h4, RC h4 S u l (n + v + 1) → Cag h h4 → B_X11_best_69 (fun x h1 => f_X12_best 102 h1 (fun y h2 => x = y ∧ Inv h2 (n + 3))) (fun a b c h => L_X11_best_20 (fun x h1 => f_X12_best 102 h1 (fun y h2 => x = y ∧ Inv h2 (n + 3))) 1 m a b c h) 1 (bsI (fun v => fwI (bfa S v (stN S)) (hmP S)) v).1 (bsI (fun v => fwI (bfa S v (stN S)) (hmP S)) v).2 (nI v) (fwI (bfa S v (stN S)) (hmP S)) h4 := fun h4 R4 a4 => by
        unfold B_X11_best_69 B_X11_best_90
        rw [nI_1]
        refine ⟨fun q => K (_, _, _) _ ⟨?_, R4, a4⟩, fun q => ⟨fun q2 => K (_, _, _) _ ⟨?_, R4, a4⟩, fun q2 => ⟨fun q3 => K (_, _, _) _ ⟨?_, R4, a4⟩, fun q3 => K (_, _, _) _ ⟨?_, R4, a4⟩⟩⟩⟩
        · rw [bsI, if_pos q]; rfl
        · rw [bsI, if_neg q, if_pos q2]; rfl
        · rw [bsI, if_neg q, if_neg q2, if_pos q3]; rfl
        · rw [bsI, if_neg q, if_neg q2, if_neg q3]; rfl
      refine ⟨fun q => absurd q ?_, fun _ => gR_of c1 rfl (gR_of c1 rfl (gI_of c1 rfl ?_))⟩
      · rw [show (3 : Int32) = nI 3 from rfl, nI_leI (by omega) (by omega)]; omega
      · rw [w4.1]
        refine ⟨isO_of ho, c_from R3 c1 (fun h5 ex fa li qu re ga dr rt bg ie R5 a5 o5 => ?_)⟩
        have c5 : Cmain h5 S u l rd := (a5 1 (by omega)).trans c1
        refine gR_of c5 rfl ⟨isO_of o5, isO_of o5, c_explore R5 w3 c5 o5 w4.2 (by omega) (fun h2 R2 E2 a2 c2 => ?_)⟩
        obtain ⟨X2, C2⟩ := R2.rod c2
        have ag : Cag h h2 := (a3.tr (fun x _ _ => a5 x (by omega))).tr a2
        have fin := b69 h2 R2 ag
        unfold fwI at fin
        refine x_firstHome w3 w4.2 E2 C2 (fun z => ⟨fun q => absurd q (by decide), fun _ => ?_⟩) (fun e z he => ⟨fun _ => gR_of c2 rfl ⟨E2.o, x_farq w3 w4.2 E2 he ?_⟩, fun q => absurd (nI_pos' (by have := Cd_lt w3 (G.2.2.1 e he); omega)) q⟩)
        · rw [z] at fin; exact fin
        · rw [z] at fin; exact fin
    · rw [w3.1]; exact nI_z (by omega) (by omega)
  · have e7 : S 7 0 0 = 0 := by rw [w3.1, show pN S = 0 by omega]; rfl
    refine c_posts R ⟨fun z => absurd e7 z, fun _ => m_gI R1 (mg9 _ _ _) ⟨fun z => absurd (A.2.2.1.trans e7) z, fun _ => ⟨rfl, S, u, l, R.mono (by omega), M, W⟩⟩⟩
end FEW
