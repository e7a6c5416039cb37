/-! the model goes out -/
def farM (o : Option Nat) : Int32 := match o with
  | none => -1
  | some d => nI d
def MB (S : SS) (h0 : AH) (u l : Int64) (ma0 : Nat → Nat → Int32) (B : BF) (h : AH) (mi : Nat → Int32) (ma : Nat → Nat → Int32) : Prop := MX S h0 u l ma0 h mi ma ∧ mi 45 = nI B.1 ∧ (∀ j, j < B.1 → ma 25 j = nI (B.2.1 j)) ∧ ∀ x, x < 32768 → ma 26 x = farM (B.2.2.1 x)
section GOES
variable {S : SS} {h0 h : AH} {u l : Int64} {ma0 ma : Nat → Nat → Int32} {mi : Nat → Int32} {law : Nat} {B : BF} {Q : AH → Prop}
theorem MB.far {x : Nat} {K : Int32 → Prop} (Z : MB S h0 u l ma0 B h mi ma) (hx : x < 32768) (H : K (farM (B.2.2.1 x))) : lI h 129 (nI x) K := by
  refine m_lI Z.1.rep (j := 26) rfl rfl rfl (vp_in_nI hx (by omega)) ?_
  rw [nI_clamp (by omega), Z.2.2.2 x hx]
  exact H
theorem MB.line {j : Nat} {K : Int32 → Prop} (Z : MB S h0 u l ma0 B h mi ma) (hj : j < B.1) (hB : B.1 ≤ 32768) (H : K (nI (B.2.1 j))) : lI h 128 (nI j) K := by
  refine m_lI Z.1.rep (j := 25) rfl rfl rfl (vp_in_nI (by omega) (by omega)) ?_
  rw [nI_clamp (by omega), Z.2.2.1 j hj]
  exact H
/-- one head: all walkers -/
theorem g_head {i : Nat} {K : Int32 → AH → Prop} (W : WFr S) (hl : law ≤ 2) (G : BG S law i 0 B) (hi : i < B.1) (Z : MB S h0 u l ma0 B h mi ma) 
    (H : ∀ h1 mi1 ma1, MB S h0 u l ma0 (bfw S law i B (wN S)) h1 mi1 ma1 → mi1 4 = mi 4 → K (nI (i + 1)) h1) : ∃ m, L_X12_goesOut_66 Q K 102 (nI law) (nI i) (nI (B.2.1 i)) m (0 : Int32) h := by
  have hw5 := W.2.2.2.2.2.2.1
  have Di := G.2.2.1 i hi
  have Dl := Cd_lt W Di
  refine ⟨wN S + 1, lpG (L := L_X12_goesOut_66 Q K 102 (nI law) (nI i) (nI (B.2.1 i))) (I := fun w b h1 => b = nI w ∧ ∃ mi1 ma1, MB S h0 u l ma0 (bfw S law i B w) h1 mi1 ma1 ∧ mi1 4 = mi 4) (wN S) (fun k b h1 Y => ?_) (fun w k b h1 hw Y K2 => ?_) (wN S) 0 (by omega) 0 h ⟨rfl, mi, ma, Z, rfl⟩⟩
  · obtain ⟨rfl, mi1, ma1, Z1, y⟩ := Y
    refine m_gI Z1.1.rep (mg12 _ _ _) ?_
    rw [Z1.1.a12, W.2.2.1]
    refine ⟨fun _ => ?_, fun q => absurd (Int32.le_refl _) q⟩
    rw [nI_1]
    exact H h1 mi1 ma1 Z1 y
  · obtain ⟨rfl, mi1, ma1, Z1, y⟩ := Y
    have Gw := bg_bfw W G hi w (by omega)
    have nw := bfw_n (S := S) (law := law) (i := i) (B := B) w
    have qi : (bfw S law i B w).2.1 i = B.2.1 i := bfw_q hi w
    have Dn : Cd S (nx S law (B.2.1 i) w) := Cd_nx W Di hw
    have nl := Cd_lt W Dn
    have dpi := Gw.dpe (show i < (bfw S law i B w).1 by omega)
    have hlt := Gw.n
    have s5 := pow8_le W.2.2.2.2.2.1
    refine m_gI Z1.1.rep (mg12 _ _ _) ?_
    rw [Z1.1.a12, W.2.2.1]
    refine ⟨fun q => absurd q ?_, fun _ => ⟨Z1.1.rep.o, m_behind W Z1.1.rd Z1.1.a9 Z1.1.a10 Di hw hl Z1.1.rep fun h2 M2 => ?_⟩⟩
    · rw [nI_leI (by omega) (by omega)]; omega
    · obtain ⟨mi2, ma2, X2, v1, v2, v3⟩ := Z1.1.behind M2
      have Z2 : MB S h0 u l ma0 (bfw S law i B w) h2 mi2 ma2 := ⟨X2, (v2 45 (by omega)).trans Z1.2.1, fun j hj => (v3 25 j (by omega) (by omega)).trans (Z1.2.2.1 j hj), fun x hx => (v3 26 x (by omega) (by omega)).trans (Z1.2.2.2 x hx)⟩
      have y2 : mi2 4 = mi 4 := (v2 4 (by omega)).trans y
      refine m_gR X2.rep (mr43 _ _ _) (Z2.far nl ?_)
      rw [nI_1]
      cases z : (bfw S law i B w).2.2.1 (nx S law (B.2.1 i) w) with
      | some d =>
        have dlt : d < 2 ^ 31 := by
          obtain ⟨j, j1, j2⟩ := Gw.2.2.2.2.2.1 _ _ z
          have d2 := Gw.dpe j1
          rw [j2, z] at d2
          have := Option.some.inj d2.1
          omega
        refine ⟨fun _ => K2 _ _ ⟨rfl, mi2, ma2, ?_, y2⟩, fun q => absurd (nI_pos' dlt) q⟩
        rw [bfw_1, qi, z]
        exact Z2
      | none =>
        have rm := Gw.room W Dn z
        refine ⟨fun q => absurd q (by decide), fun _ => m_gR X2.rep (mr43 _ _ _) (m_gR X2.rep (mr43 _ _ _) (Z2.far Dl ?_))⟩
        rw [← qi, dpi.1]
        show sI h2 129 _ (nI (dp (bfw S law i B w) i) + 1) _
        rw [nI_1, qi]
        refine X2.sI (j := 26) (by omega) rfl rfl rfl (vp_in_nI nl (by omega)) (fun h3 X3 => m_gR X3.rep (mr42 _ _ _) (m_gI X3.rep (mg45 _ _ _) ?_))
        rw [Z2.2.1]
        refine X3.sI (j := 25) (by omega) rfl rfl rfl (vp_in_nI (by omega) (by omega)) (fun h4 X4 => m_gI X4.rep (mg45 _ _ _) (X4.pF (by omega) (ms45 _ _ _ _) (fun h5 X5 => ?_)))
        rw [nI_clamp (by omega), nI_clamp (by omega), Z2.2.1, nI_1] at X5
        generalize hm5 : va_up (va_up ma2 26 _) 25 _ = ma5 at X5
        refine K2 _ _ ⟨rfl, upd mi2 45 (nI ((bfw S law i B w).1 + 1)), ma5, ?_, by rw [pk_un (by omega)]; exact y2⟩
        rw [bfw_1, qi, z]
        refine ⟨X5, pk_us, fun j hj => ?_, fun x hx => ?_⟩ <;> rw [← hm5]
        · have hj : j < (bfw S law i B w).1 + 1 := hj
          rw [va_up_self, va_up_ne _ _ (by omega)]
          show _ = nI (if j = (bfw S law i B w).1 then nx S law (B.2.1 i) w else (bfw S law i B w).2.1 j)
          by_cases q : j = (bfw S law i B w).1
          · rw [if_pos q, q, pk_us]
          · rw [if_neg q, pk_un q, Z2.2.2.1 j (by omega)]
        · rw [va_up_ne _ _ (by omega), va_up_self]
          show _ = farM (if x = nx S law (B.2.1 i) w then some (dp (bfw S law i B w) i + 1) else (bfw S law i B w).2.2.1 x)
          by_cases q : x = nx S law (B.2.1 i) w
          · rw [if_pos q, q, pk_us]; rfl
          · rw [if_neg q, pk_un q, Z2.2.2.2 x hx]
theorem g_all {c : Nat} {v4 : Int32} (W : WFr S) (hl : law ≤ 2) (D : Cd S c)
    (H : ∀ h1 mi1 ma1, MB S h0 u l ma0 (bfa S law c) h1 mi1 ma1 → mi1 4 = v4 → Q h1) : ∀ (k i : Nat) (h : AH) (mi : Nat → Int32) (ma : Nat → Nat → Int32), i + k = 32769 → MB S h0 u l ma0 (bfs S law c i) h mi ma → mi 4 = v4 → L_X12_goesOut_48 Q 102 (nI law) (k + 1) (nI i) h := by
  have s5 := pow8_le W.2.2.2.2.2.1
  intro k
  induction k with
  | zero =>
    intro i h mi ma hi Z y
    have : i = 32769 := by omega
    subst this
    have b := (bg_all (law := law) W D).2.2
    have e : bfs S law c 32769 = bfa S law c := bfa_stop (Nat.le_refl _) (by have := (bfs_n (law := law) W D 32769).2; omega)
    rw [e] at Z
    refine m_gI Z.1.rep (mg45 _ _ _) ?_
    rw [Z.2.1]
    exact ⟨fun _ => H h mi ma Z y, fun q => absurd (nI_le (by omega) (by omega)) q⟩
  | succ k ih =>
    intro i h mi ma hi Z y
    by_cases z : i < (bfs S law c i).1
    · have G : BG S law i 0 (bfs S law c i) := by
        rcases bg_bfs (law := law) W D i with ⟨-, G⟩ | ⟨y, -⟩
        · exact G
        · omega
      have gn := G.n
      refine m_gI Z.1.rep (mg45 _ _ _) ?_
      rw [Z.2.1, nI_leI (by omega) (by omega)]
      refine ⟨fun q => by omega, fun _ => m_gR Z.1.rep (mr42 _ _ _) (Z.line z (by omega) ?_)⟩
      refine g_head W hl G z Z (fun h1 mi1 ma1 Z1 y1 => ih (i + 1) h1 mi1 ma1 (by omega) ?_ (y1.trans y))
      rw [bfs_go z]
      exact Z1
    · have e : bfs S law c i = bfa S law c := bfa_stop (by omega) (by omega)
      have b := (bg_all (law := law) W D).2.2
      rw [e] at Z z
      refine m_gI Z.1.rep (mg45 _ _ _) ?_
      rw [Z.2.1]
      exact ⟨fun _ => H h mi ma Z y, fun q => absurd (nI_le (by omega) (by omega)) q⟩
theorem m_goesOut (WS : WF S) (hl : law ≤ 2) (Z : MX S h0 u l ma0 h mi ma)
    (H : ∀ h1 mi1 ma1, MB S h0 u l ma0 (bfa S law (stN S)) h1 mi1 ma1 → mi1 4 = mi 4 → Q h1) : f_X12_goesOut 102 (nI law) h Q := by
  obtain ⟨w1, w2, w3, w4, w5, w6, w7, w8⟩ := id WS
  have cb := Cd_lt w3 w4.2
  refine ⟨32768 + 1, lpG (L := L_X12_goesOut_2 Q 102 (nI law)) (I := fun i b h1 => b = nI i ∧ ∃ mi1 ma1, MX S h0 u l ma0 h1 mi1 ma1 ∧ mi1 4 = mi 4 ∧ ∀ x, x < i → ma1 26 x = -1) 32768 (fun k b h1 Y => ?_) (fun i k b h1 hi Y K => ?_) 32768 0 (by omega) 0 h ⟨rfl, mi, ma, Z, rfl, fun x hx => absurd hx (Nat.not_lt_zero _)⟩⟩
  · obtain ⟨rfl, mi1, ma1, Z1, y1, y2⟩ := Y
    refine ⟨fun _ => m_gR Z1.rep (mr42 _ _ _) (m_gI Z1.rep (mg17 _ _ _) ?_), fun q => absurd (by decide) q⟩
    rw [Z1.a17, w4.1]
    refine Z1.sI (j := 25) (by omega) rfl rfl rfl (vp_in_nI (n := 0) (by omega) (by omega)) (fun h2 Z2 => m_gR Z2.rep (mr43 _ _ _) (m_gI Z2.rep (mg17 _ _ _) ?_))
    rw [Z2.a17, w4.1]
    refine Z2.sI (j := 26) (by omega) rfl rfl rfl (vp_in_nI cb (by omega)) (fun h3 Z3 => Z3.pF (by omega) (ms45 _ _ _ _) (fun h4 Z4 => ⟨32770, g_all (v4 := mi 4) w3 hl w4.2 H 32769 0 h4 _ _ (by omega) ⟨Z4, pk_us, fun j hj => ?_, fun x hx => ?_⟩ (by rw [pk_un (by omega)]; exact y1)⟩))
    · have hj : j < 1 := hj
      have j0 : j = 0 := by omega
      subst j0
      rw [va_up_ne _ _ (by omega), va_up_self]
      exact pk_us
    · rw [va_up_self, va_up_ne _ _ (by omega), nI_clamp (by omega)]
      show _ = farM (if x = stN S then some 0 else none)
      by_cases q : x = stN S
      · rw [if_pos q, q, pk_us]; rfl
      · rw [if_neg q, pk_un q, y2 x hx]; rfl
  · obtain ⟨rfl, mi1, ma1, Z1, y1, y2⟩ := Y
    refine ⟨fun q => absurd q ?_, fun _ => m_gR Z1.rep (mr43 _ _ _) (Z1.sI (j := 26) (by omega) rfl rfl rfl (vp_in_nI hi (by omega)) (fun h2 Z2 => ?_))⟩
    · rw [show (32768 : Int32) = nI 32768 from rfl, nI_leI (by omega) (by omega)]; omega
    · rw [nI_1]
      refine K _ _ ⟨rfl, mi1, _, Z2, y1, fun x hx => ?_⟩
      rw [va_up_self, nI_clamp (by omega)]
      by_cases q : x = i
      · rw [q, pk_us]
      · rw [pk_un q, y2 x (by omega)]
end GOES
