/-! way, both sides -/
section WAY4
variable {h h0 h1 : AH} {S S1 : SS} {u l : Int64} {n law : Nat} {mi mi1 : Nat → Int32} {ma ma0 ma1 : Nat → Nat → Int32} {B : BF}
theorem MX.rmx (Z : MX S h0 u l ma0 h mi ma) (e4 : mi 4 = S 4 0 0) (Wm : LkW S ma0) (T : LkT S ma0) (F : LkF S ma0) (Lg : LkL S ma0) (Kp : LkK S ma0) : RMx h S u l mi ma := by
  obtain ⟨z1, z2, z3, z4, z5⟩ := Z
  rw [e4, up_id] at z3
  exact ⟨z1, z3, Wm.keep (fun i => z5 0 i (by omega)) (fun i => z5 1 i (by omega)) (fun _ => rfl) (fun _ _ => rfl), T.keep (fun i => z5 2 i (by omega)) (fun i => z5 3 i (by omega)) (fun _ => rfl) (fun _ _ => rfl), F.keep (fun i => z5 4 i (by omega)) (fun _ => rfl), z4, Lg.keep (fun j i _ _ => z5 j i (by omega)) (fun _ _ _ _ _ => rfl), Kp.keep (fun i => z5 15 i (by omega)) (fun i => z5 16 i (by omega)) (fun _ => rfl) (fun _ => rfl)⟩
theorem w_makes {j L : Nat} {Q : AH → Prop} (hj : j < 6) (hL : L ≤ 60) (WS : WF S) (X : RMx h S u l mi ma) (H : ∀ h1 ma1, RMx h1 (wyS S j L (fun _ => 0)) u l mi ma1 → Mag h h1 → (∀ t i, 2 ≤ t → ma1 t i = ma t i) → Q h1) : f_X12_makes 102 (nI j) (nI L) h Q := by
  obtain ⟨R1, A, W, T, F, Rd, Lg, K⟩ := id X
  unfold f_X12_makes
  refine m_gR R1 (mr0 _ _ _) (m_sI R1 (j := 0) rfl rfl rfl (vp_in_nI hj (by omega)) (fun h1 r1 a1 => ⟨61, m_makes_L hj 60 0 h1 _ (by omega) r1 (fun h2 g r2 a2 hg => H h2 (va_up (va_up ma 0 (upd (ma 0) (nI j).toNatClampNeg (nI L))) 1 g) ?_ (a1.tr a2) (fun t i ht => by rw [va_up_ne _ _ (by omega), va_up_ne _ _ (by omega)]))⟩))
  refine X.rows (fun c i k hc => wy_c hc) r2 (fun _ _ => rfl) (fun t i h2 _ => by rw [va_up_ne _ _ (by omega), va_up_ne _ _ (by omega)]) ⟨fun r hr => ?_, fun r hr i hi => ?_⟩
  · rw [va_up_ne _ _ (by omega), va_up_self, nI_clamp (by omega), ← wy_0]
    by_cases e : r = j
    · subst e; rw [pk_us, mkr_z]
    · rw [pk_un e, mkr_n e]; exact W.1 r hr
  · rw [va_up_self]
    rw [← wy_0] at hi ⊢
    obtain ⟨g1, g2⟩ := hg (60 * r + i)
    by_cases e : r = j
    · subst e
      rw [mkr_z, nI_toInt (by omega)] at hi
      rw [g1 (by omega)]
      exact mkr_p.symm
    · rw [mkr_n e] at hi
      rw [mkr_n e, g2 ?_, va_up_ne _ _ (by omega)]
      · exact W.2 r hr i hi
      · have := (WS.1 r hr).2
        omega
/-- while the row is laid -/
def P2 (S : SS) (h0 : AH) (u l : Int64) (law : Nat) (B : BF) (L j : Nat) (g : Nat → Int32) (h : AH) (mi : Nat → Int32) (ma : Nat → Nat → Int32) : Prop := RMx h (wyS S j L g) u l mi ma ∧ Mag h0 h ∧ (∀ x, x < 32768 → ma 26 x = farM (B.2.2.1 x)) ∧ ∀ t, t < B.1 → ma 27 (B.2.1 t) = lvI S law B L t
theorem w_pick {e j k : Nat} {g : Nat → Int32} {Q : Int32 → AH → Prop} {K : Int32 → Int32 → AH → Prop} (WS : WF S) (hl : rlN S = law) (G : BG S law B.1 0 B) (g2 : B.1 ≤ 32768) (hj : j < 6) (he : e < B.1) (hp : hmP S (B.2.1 e) = true) (hf : ∀ j, j < e → hmP S (B.2.1 j) = false) (hL : dp B e ≤ 60) (hk : k < dp B e)
    (H : ∀ h1 mi1 ma1, P2 S h0 u l law B (dp B e) j (upd g k (nI (wv B e k))) h1 mi1 ma1 → K (nI (pt B e (k + 1))) (nI (k + 1)) h1) : ∀ (d w : Nat) (h : AH) (mi : Nat → Int32) (ma : Nat → Nat → Int32), w + d = wv B e k → P2 S h0 u l law B (dp B e) j g h mi ma → L_X12_way_232 Q K 102 (nI j) (nI (dp B e)) (nI (pt B e k)) (nI k) (d + 1) (nI w) (nI (nx S law (pt B e k) w)) h := by
  obtain ⟨w1, w2, W, w4, w5, w6, w7, w8⟩ := id WS
  have hw5 := W.2.2.2.2.2.2.1
  obtain ⟨jj, p, s1, s2, s3, s4, s5, s6, s7, s8, s9, s10⟩ := way_step W G he hk
  have Dp := G.2.2.1 p (by omega)
  rw [s4] at Dp
  have compl : ∀ w, w < wN S → ∃ t, t < B.1 ∧ B.2.1 t = nx S law (pt B e k) w := fun w hw => by
    have := G.2.2.2.2.2.2.2.2.2 p w hw (Or.inl (by omega))
    rw [s4] at this
    exact this
  intro d
  induction d with
  | zero =>
    intro w h mi ma hw Z
    obtain ⟨X, a, f, ld⟩ := id Z
    have : w = wv B e k := by omega
    subst this
    rw [s8]
    have Dj := G.2.2.1 jj s1
    rw [s3] at Dj
    have Dl := Cd_lt W Dj
    have dj := (G.dpe s1).1
    rw [s3, s5] at dj
    refine m_gR X.1 (mr43 _ _ _) (m_lI X.1 (j := 26) rfl rfl rfl (vp_in_nI Dl (by omega)) ?_)
    rw [nI_clamp (by omega), f _ Dl, dj]
    refine ⟨fun q => absurd (nI_1 k).symm q, fun _ => m_gR X.1 (mr44 _ _ _) (m_lB X.1 (vp_in_nI Dl (by omega)) ?_)⟩
    have lv := ld jj s1
    rw [s3] at lv
    have l1 : lvB S law B (dp B e) jj = true := by
      unfold lvB
      rw [decide_eq_true (show dp B jj ≤ dp B e by omega), s3, s5, Bool.true_and]
      have := ldn_pt W G he hp (dp B e - (k + 1)) (by omega)
      rw [show dp B e - (dp B e - (k + 1)) = k + 1 by omega] at this
      exact this
    rw [nI_clamp (by omega), lv]
    unfold lvI
    rw [l1]
    refine ⟨fun _ => m_gR X.1 (mr1 _ _ _) ?_, fun q => absurd q (by decide)⟩
    rw [ix60]
    refine m_sI X.1 (j := 1) rfl rfl rfl (vp_in_nI (by omega) (by omega)) (fun h3 r3 a3 => ?_)
    rw [nI_1]
    rw [nI_clamp (by omega)] at r3
    refine H h3 mi (va_up ma 1 (upd (ma 1) (60 * j + k) (nI (wv B e k)))) ⟨?_, a.tr a3, fun x hx => by rw [va_up_ne _ _ (by omega)]; exact f x hx, fun t ht => by rw [va_up_ne _ _ (by omega)]; exact ld t ht⟩
    have WW := WF_wy (j := j) (f := g) hL WS
    rw [← wy_up]
    refine X.rows (fun c i k hc => up_c _ _ (by omega)) r3 (fun _ _ => rfl) (fun t i ht _ => by rw [va_up_ne _ _ (by omega)]) ⟨fun r hr => ?_, fun r hr i hi => ?_⟩
    · rw [va_up_ne _ _ (by omega), up_c _ _ (by omega)]; exact X.2.2.1.1 r hr
    · rw [up_c _ _ (by omega)] at hi
      have h6 := (WW.1 r hr).2
      rw [va_up_self]
      by_cases q : r = j ∧ i = k
      · rw [q.1, q.2, pk_us, up_s]
      · rw [pk_un (by omega), show up (wyS S j (dp B e) g) 1 j k (nI (wv B e k)) 1 r i = wyS S j (dp B e) g 1 r i from if_neg (fun z => q z.2)]
        exact X.2.2.1.2 r hr i hi
  | succ d ih =>
    intro w h mi ma hw Z
    obtain ⟨X, a, f, ld⟩ := id Z
    obtain ⟨x1, x2, x3, x4, x5, x6, x7, x8⟩ := id X
    obtain ⟨t, t1, t2⟩ := compl w (by omega)
    have Dl := Cd_lt W (G.2.2.1 t t1)
    have dt := G.dpe t1
    have lv := ld t t1
    rw [t2] at Dl dt lv
    have Rd : LkR S ma := x6.keep (fun _ _ _ _ => rfl) (fun c i k h1 _ => (wy_c (by omega)).symm)
    have b256 : B_X12_way_256 Q (L_X12_way_232 Q K 102 (nI j) (nI (dp B e)) (nI (pt B e k)) (nI k) (d + 1)) 102 (nI j) (nI (dp B e)) (nI (pt B e k)) (nI k) (nI w) h := by
      refine m_gI x1 (mg16 _ _ _) ?_
      rw [x2.2.2.2.2.2.1, wy_c (by omega), w5.1, hl, nI_1]
      refine ⟨x1.o, m_behind W Rd (x2.2.2.1.trans (wy_c (by omega))) (x2.2.2.2.1.trans (wy_c (by omega))) Dp (by omega) (hl ▸ w5.2) x1 fun h2 M2 => ?_⟩
      obtain ⟨mi2, ma2, R2, g2', m1, m2, -⟩ := M2
      refine ih (w + 1) h2 mi2 ma2 (by omega) ⟨X.rows (fun _ _ _ _ => rfl) R2 m1 (fun t i _ ht => m2 t i (by omega) (by omega)) (x3.keep (fun i => m2 0 i (by omega) (by omega)) (fun i => m2 1 i (by omega) (by omega)) (fun _ => rfl) (fun _ _ => rfl)), a.tr g2', fun x hx => (m2 26 x (by omega) (by omega)).trans (f x hx), fun t ht => (m2 27 _ (by omega) (by omega)).trans (ld t ht)⟩
    refine m_gR x1 (mr43 _ _ _) (m_lI x1 (j := 26) rfl rfl rfl (vp_in_nI Dl (by omega)) ?_)
    rw [nI_clamp (by omega), f _ Dl, dt.1]
    show (¬ (nI (dp B t) = nI k + 1) → _) ∧ (nI (dp B t) = nI k + 1 → _)
    rw [nI_1, nI_eqI (by omega) (by omega)]
    refine ⟨fun _ => b256, fun q => m_gR x1 (mr44 _ _ _) (m_lB x1 (vp_in_nI Dl (by omega)) ?_)⟩
    have l0 : lvB S law B (dp B e) t = false := by
      unfold lvB
      rw [decide_eq_true (show dp B t ≤ dp B e by omega), t2, q, Bool.true_and]
      exact way_less W G he hf hk (by omega) (by rw [dt.1, q])
    rw [nI_clamp (by omega), lv]
    unfold lvI
    rw [l0]
    exact ⟨fun y => absurd rfl y, fun _ => b256⟩
theorem w_walk {e j : Nat} {Q : Int32 → AH → Prop} (WS : WF S) (hl : rlN S = law) (G : BG S law B.1 0 B) (g2 : B.1 ≤ 32768) (hj : j < 6) (he : e < B.1) (hp : hmP S (B.2.1 e) = true) (hf : ∀ j, j < e → hmP S (B.2.1 j) = false) (hL : dp B e ≤ 60)
    (H : ∀ h1, RM h1 (wyS S j (dp B e) (fun k => if k < dp B e then nI (wv B e k) else 0)) u l → Mag h0 h1 → Q (nI (dp B e)) h1) (Z : P2 S h0 u l law B (dp B e) j (fun _ => 0) h mi ma) : ∃ m, L_X12_way_211 Q 102 (nI j) (nI (dp B e)) m (nI (pt B e 0)) (0 : Int32) h := by
  obtain ⟨w1, w2, W, w4, w5, w6, w7, w8⟩ := id WS
  have hw5 := W.2.2.2.2.2.2.1
  refine ⟨dp B e + 1, lpG (L := fun f (b : Int32 × Int32) h => L_X12_way_211 Q 102 (nI j) (nI (dp B e)) f b.1 b.2 h) (I := fun k b h1 => b = (nI (pt B e k), nI k) ∧ ∃ mi1 ma1, P2 S h0 u l law B (dp B e) j (fun i => if i < k then nI (wv B e i) else 0) h1 mi1 ma1) (dp B e) (fun m b h1 Y => ?_) (fun k m b h1 hk Y K => ?_) (dp B e) 0 (by omega) (nI (pt B e 0), (0 : Int32)) h ⟨rfl, mi, ma, ?_⟩⟩
  · obtain ⟨rfl, mi1, ma1, Z1⟩ := Y
    exact ⟨fun _ => H h1 Z1.1.rm Z1.2.1, fun q => absurd (Int32.le_refl _) q⟩
  · obtain ⟨rfl, mi1, ma1, Z1⟩ := Y
    obtain ⟨X, a, f, ld⟩ := id Z1
    obtain ⟨x1, x2, x3, x4, x5, x6, x7, x8⟩ := id X
    obtain ⟨jj, p, s1, s2, s3, s4, s5, s6, s7, s8, s9, s10⟩ := way_step W G he hk
    have Dp := G.2.2.1 p (by omega)
    rw [s4] at Dp
    have Rd : LkR S ma1 := x6.keep (fun _ _ _ _ => rfl) (fun c i k h1 _ => (wy_c (by omega)).symm)
    refine ⟨fun q => absurd q (by rw [nI_leI (by omega) (by omega)]; omega), fun _ => m_gI x1 (mg16 _ _ _) ?_⟩
    rw [x2.2.2.2.2.2.1, wy_c (by omega), w5.1, hl]
    refine ⟨x1.o, m_behind (w := 0) W Rd (x2.2.2.1.trans (wy_c (by omega))) (x2.2.2.2.1.trans (wy_c (by omega))) Dp (by omega) (hl ▸ w5.2) x1 fun h2 M2 => ?_⟩
    obtain ⟨mi2, ma2, R2, g2', m1, m2, -⟩ := M2
    refine ⟨wv B e k + 1, w_pick (k := k) WS hl G g2 hj he hp hf hL hk (fun h3 mi3 ma3 Z3 => K (_, _) _ ⟨rfl, mi3, ma3, ?_⟩) (wv B e k) 0 h2 mi2 ma2 (by omega) ⟨X.rows (fun _ _ _ _ => rfl) R2 m1 (fun t i _ ht => m2 t i (by omega) (by omega)) (x3.keep (fun i => m2 0 i (by omega) (by omega)) (fun i => m2 1 i (by omega) (by omega)) (fun _ => rfl) (fun _ _ => rfl)), a.tr g2', fun x hx => (m2 26 x (by omega) (by omega)).trans (f x hx), fun t ht => (m2 27 _ (by omega) (by omega)).trans (ld t ht)⟩⟩
    have ef : upd (fun i => if i < k then nI (wv B e i) else 0) k (nI (wv B e k)) = (fun i => if i < k + 1 then nI (wv B e i) else 0) := by
      funext i
      by_cases q : i = k
      · rw [q, pk_us, if_pos (by omega)]
      · rw [pk_un q]
        by_cases q2 : i < k
        · rw [if_pos q2, if_pos (by omega)]
        · rw [if_neg q2, if_neg (by omega)]
    rw [ef] at Z3
    exact Z3
  · have ef : (fun i => if i < 0 then nI (wv B e i) else 0) = (fun _ => (0 : Int32)) := by
      funext i
      rw [if_neg (by omega)]
    rw [ef]
    exact Z
theorem M_way {j : Nat} {Q : Int32 → AH → Prop} (M : RM h S u l) (W : WF S) (hj : j < 6) (hp : 1 ≤ pN S)
    (Hn : fwk (bfa S (rlN S) (stN S)) (hmP S) (bfa S (rlN S) (stN S)).1 = none → ∀ h1, RM h1 S u l → Mag h h1 → Q (-9) h1)
    (Hb : ∀ e, fwk (bfa S (rlN S) (stN S)) (hmP S) (bfa S (rlN S) (stN S)).1 = some e → 60 < dp (bfa S (rlN S) (stN S)) e → ∀ h1, RM h1 S u l → Mag h h1 → Q (-6) h1)
    (Hs : ∀ e, fwk (bfa S (rlN S) (stN S)) (hmP S) (bfa S (rlN S) (stN S)).1 = some e → dp (bfa S (rlN S) (stN S)) e ≤ 60 → ∀ h1, RM h1 (wyS S j (dp (bfa S (rlN S) (stN S)) e) (fun k => if k < dp (bfa S (rlN S) (stN S)) e then nI (wv (bfa S (rlN S) (stN S)) e k) else 0)) u l → Mag h h1 → Q (nI (dp (bfa S (rlN S) (stN S)) e)) h1) : f_X12_way 102 (nI j) h Q := by
  obtain ⟨w1, w2, w3, w4, w5, w6, w7, w8⟩ := id W
  have hp7 := w3.2.2.2.1
  obtain ⟨G, g1, g2⟩ := bg_all (law := rlN S) w3 w4.2
  have q0 := bfa_q0 (S := S) (law := rlN S) (c := stN S)
  obtain ⟨mi, ma, R, A, Wm, T, F, Rd, Lg, Kp⟩ := id M
  refine m_rowJ hj (rb1 (m_gI R (mg9 _ _ _) ⟨fun _ => m_gI R (mg16 _ _ _) ?_, fun q => absurd q ?_⟩))
  · rw [A.2.2.2.2.2.1, w5.1]
    refine ⟨R.o, m_fewestBy W w5.2 (MX.of R A Rd) (fun h1 mi1 ma1 Z1 y1 y2 => ?_)⟩
    have e4 := y1.trans A.1
    have M1 := Z1.1.rmS e4 Wm T F Lg Kp
    unfold fwI
    cases z : fwk (bfa S (rlN S) (stN S)) (hmP S) (bfa S (rlN S) (stN S)).1 with
    | none => exact ⟨fun q => absurd rfl q, fun _ => Hn z h1 M1 Z1.1.mag⟩
    | some e =>
      obtain ⟨e1, e2, e3⟩ := fwk_some z
      have de := (G.dpe e1).2
      refine ⟨fun _ => ?_, fun q => absurd q (nI_nn _ (by omega))⟩
      show (nI (dp (bfa S (rlN S) (stN S)) e) ≤ 60 → _) ∧ (¬ (nI (dp (bfa S (rlN S) (stN S)) e) ≤ 60) → _)
      rw [show (60 : Int32) = nI 60 from rfl, nI_leI (by omega) (by omega)]
      refine ⟨fun q => m_gI Z1.1.rep (mg45 _ _ _) ?_, fun q => Hb e z (by omega) h1 M1 Z1.1.mag⟩
      rw [Z1.2.1]
      have H2 := Hs e z q
      have pt0 : pt (bfa S (rlN S) (stN S)) e 0 = stN S := by
        obtain ⟨t, t1, t2, t3⟩ := bkc w3 G e1 (dp (bfa S (rlN S) (stN S)) e) (Nat.le_refl _)
        rw [Nat.sub_self] at t3
        have t0 : t = 0 := by
          rcases Nat.eq_zero_or_pos t with y | y
          · exact y
          · obtain ⟨p, v, p1, p2, p3, p4, p5, p6⟩ := G.2.2.2.2.2.2.2.2.1 t y t1
            omega
        subst t0
        exact t2.symm.trans q0
      generalize hB : bfa S (rlN S) (stN S) = B at *
      refine ⟨B.1 + 1, w_leads (v4 := mi1 4) W rfl G g2 (by omega) (fun h3 mi3 ma3 Z3 x1 x2 => ⟨Z3.1.rep.o, ?_⟩) B.1 h1 mi1 ma1 (Nat.le_refl _) Z1 rfl (fun t t1 t2 => by omega)⟩
      have X3 := Z3.1.rmx (x1.trans e4) Wm T F Lg Kp
      refine w_makes hj q W X3 (fun h4 ma4 X4 a4 k4 => m_gI X4.1 (mg17 _ _ _) ?_)
      rw [X4.2.1.2.2.2.2.2.2.1, wy_c (by omega), w4.1, ← pt0]
      exact w_walk W rfl G g2 hj e1 e2 e3 q H2 ⟨X4, Z3.1.mag.tr a4, fun x hx => (k4 26 x (by omega)).trans (Z3.2.2.2 x hx), fun t ht => (k4 27 _ (by omega)).trans (x2 t ht)⟩
  · rw [A.2.2.1, w3.1]; exact nI_z (by omega) (by omega)
theorem op_way {r : Int32} (I : Inv h n) : f_X11_way 1 r h (fun x h1 => f_X12_way 102 r h1 (fun y h2 => x = y ∧ Inv h2 (n + 3))) := by
  obtain ⟨S, u, l, R, M, W⟩ := I
  obtain ⟨mi, ma, R1, A, -⟩ := id M
  obtain ⟨w1, w2, w3, w4, w5, w6, w7, w8⟩ := id W
  have I3 : Inv h (n + 3) := ⟨S, u, l, R.mono (by omega), M, W⟩
  by_cases q : 0 ≤ r ∧ r < 6
  · obtain ⟨q1, q2⟩ := q
    obtain ⟨j, hj, rfl⟩ := lt_nI (x := r) (m := 6) (by omega) q1 q2
    by_cases p : 1 ≤ pN S
    · refine C_way R W hj p (fun z h1 r1 a1 => ?_) (fun e z b h1 r1 a1 => ?_) (fun e z b h1 r1 a1 => ?_)
      · exact M_way (M.keep a1) W hj p (fun _ h2 r2 a2 => ⟨rfl, Inv.of (r1.mono (by omega)) r2 a2 W⟩) (fun e he => by rw [z] at he; cases he) (fun e he => by rw [z] at he; cases he)
      · refine M_way (M.keep a1) W hj p (fun z2 => by rw [z] at z2; cases z2) (fun _ _ _ h2 r2 a2 => ⟨rfl, Inv.of (r1.mono (by omega)) r2 a2 W⟩) (fun e2 he b2 => ?_)
        rw [z] at he
        have : e = e2 := Option.some.inj he
        subst this
        omega
      · refine M_way (M.keep a1) W hj p (fun z2 => by rw [z] at z2; cases z2) (fun e2 he b2 => ?_) (fun e2 he b2 h2 r2 a2 => ?_)
        · rw [z] at he
          have : e = e2 := Option.some.inj he
          subst this
          omega
        · rw [z] at he
          have : e = e2 := Option.some.inj he
          subst this
          exact ⟨rfl, Inv.of (r1.mono (by omega)) r2 a2 (WF_wy b W)⟩
    · have e7 : S 7 0 0 = 0 := by rw [w3.1, show pN S = 0 by omega]; rfl
      exact c_isBelow (fun z => absurd ⟨q1, q2⟩ z) (fun _ _ => rb1 (c_posts R ⟨fun z => absurd e7 z, fun _ => m_rowJ hj (rb1 (m_gI R1 (mg9 _ _ _) ⟨fun z => absurd (A.2.2.1.trans e7) z, fun _ => ⟨rfl, I3⟩⟩))⟩))
  · exact c_isBelow (fun _ => rb0 (m_rowB (by grind) (rb0 ⟨rfl, I3⟩))) (fun z1 z2 => absurd ⟨z1, z2⟩ q)
end WAY4
