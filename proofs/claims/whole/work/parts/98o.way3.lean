/-! way, in the model -/
def RMx (h : AH) (S : SS) (u l : Int64) (mi : Nat → Int32) (ma : Nat → Nat → Int32) : Prop := RepM h mi u l ma ∧ LkA S mi ∧ LkW S ma ∧ LkT S ma ∧ LkF S ma ∧ LkR S ma ∧ LkL S ma ∧ LkK S ma
def lvB (S : SS) (law : Nat) (B : BF) (L i : Nat) : Bool := decide (dp B i ≤ L) && ldn S law B L (L - dp B i) (B.2.1 i)
def lvI (S : SS) (law : Nat) (B : BF) (L i : Nat) : Int32 := if lvB S law B L i then 1 else 0
section WAY3
variable {h h0 h1 : AH} {S S1 : SS} {u l : Int64} {law : Nat} {mi mi1 : Nat → Int32} {ma ma0 ma1 : Nat → Nat → Int32} {B : BF}
theorem RMx.rm (X : RMx h S u l mi ma) : RM h S u l := ⟨mi, ma, X⟩
theorem RMx.rows (X : RMx h S u l mi ma) (HS : ∀ c i k, 2 ≤ c → S1 c i k = S c i k) (R1 : RepM h1 mi1 u l ma1) (hi : ∀ j, j ≠ 38 → mi1 j = mi j) (hm : ∀ j i, 2 ≤ j → j ≤ 16 → ma1 j i = ma j i) (W1 : LkW S1 ma1) : RMx h1 S1 u l mi1 ma1 := by
  obtain ⟨x1, x2, x3, x4, x5, x6, x7, x8⟩ := X
  refine ⟨R1, ?_, W1, x4.keep (fun i => hm 2 i (by omega) (by omega)) (fun i => hm 3 i (by omega) (by omega)) (fun r => HS 2 r 0 (by omega)) (fun r i => HS 3 r i (by omega)), x5.keep (fun i => hm 4 i (by omega) (by omega)) (fun r => HS 6 r 0 (by omega)), x6.keep (fun j i _ _ => hm j i (by omega) (by omega)) (fun c i j _ _ => HS c i j (by omega)), x7.keep (fun j i _ _ => hm j i (by omega) (by omega)) (fun c i j _ _ => HS c i j (by omega)), x8.keep (fun i => hm 15 i (by omega) (by omega)) (fun i => hm 16 i (by omega) (by omega)) (fun r => HS 21 r 0 (by omega)) (fun r => HS 22 r 0 (by omega))⟩
  obtain ⟨a1, a2, a3, a4, a5, a6, a7, a8⟩ := x2
  refine ⟨?_, ?_, ?_, ?_, ?_, ?_, ?_, ?_⟩ <;> rw [HS _ _ _ (by omega), hi _ (by omega)] <;> assumption
theorem m_lB {i : Int32} {K : Int32 → Prop} (R : RepM h mi u l ma) (hi : vp_in i 32768) (H : K (ma 27 i.toNatClampNeg)) : lB h 130 i K := ⟨32768, ma 27, R.2 27 32768 rfl, hi, H⟩
theorem m_sB {i x : Int32} {K : AH → Prop} (R : RepM h mi u l ma) (hi : vp_in i 32768) (H : ∀ h1, RepM h1 mi u l (va_up ma 27 (upd (ma 27) i.toNatClampNeg (x &&& 1))) → Mag h h1 → K h1) : sB h 130 i x K := ⟨32768, ma 27, R.2 27 32768 rfl, hi, H _ (R.arr (j := 27) rfl) (Mag.put (by omega))⟩
theorem MB.lead {x : Nat} {v : Int32} {K : AH → Prop} (Z : MB S h0 u l ma0 B h mi ma) (hx : x < 32768) (hv : v &&& 1 = v) (H : ∀ h1, MB S h0 u l ma0 B h1 mi (va_up ma 27 (upd (ma 27) x v)) → K h1) : sB h 130 (nI x) v K := by
  refine m_sB Z.1.rep (vp_in_nI hx (by omega)) (fun h1 R1 a1 => H h1 ?_)
  rw [nI_clamp (by omega), hv] at R1
  exact ⟨Z.1.next R1 a1 (fun _ _ _ => rfl) (fun j i hj => by rw [va_up_ne _ _ (by omega)]), Z.2.1, fun j hj => by rw [va_up_ne _ _ (by omega)]; exact Z.2.2.1 j hj, fun x hx => by rw [va_up_ne _ _ (by omega)]; exact Z.2.2.2 x hx⟩
/-- one standing: does it lead -/
theorem w_one {i L j : Nat} {v4 : Int32} {Q : Int32 → AH → Prop} {K : Int32 → AH → Prop} (WS : WF S) (hl : rlN S = law) (G : BG S law B.1 0 B) (g2 : B.1 ≤ 32768) (hi : i < B.1) (hL : L < 40000) (Z : MB S h0 u l ma0 B h mi ma) (y4 : mi 4 = v4)
    (hb : ma 27 (B.2.1 i) = if dp B i = L ∧ hmP S (B.2.1 i) = true then 1 else 0) (hup : ∀ t, i < t → t < B.1 → ma 27 (B.2.1 t) = lvI S law B L t)
    (H : ∀ h1 mi1 ma1, MB S h0 u l ma0 B h1 mi1 ma1 → mi1 4 = v4 → (∀ t, i ≤ t → t < B.1 → ma1 27 (B.2.1 t) = lvI S law B L t) → K (nI i - 1) h1) : ∃ n, L_X12_way_100 Q K 102 (nI j) (nI L) (nI i) (nI (B.2.1 i)) n (0 : Int32) h := by
  obtain ⟨w1, w2, W, w4, w5, w6, w7, w8⟩ := id WS
  have hw5 := W.2.2.2.2.2.2.1
  have Di := G.2.2.1 i hi
  have Dl := Cd_lt W Di
  have dpi := G.dpe hi
  have e0 : nI i + -1 = nI i - 1 := (Int32.sub_eq_add_neg _ _).symm
  have farq : ∀ {h3 : AH} {mi3 : Nat → Int32} {ma3 : Nat → Nat → Int32} {t : Nat} {K : Int32 → Prop}, MB S h0 u l ma0 B h3 mi3 ma3 → t < B.1 → K (nI (dp B t)) → lI h3 129 (nI (B.2.1 t)) K := fun Z ht H => Z.far (Cd_lt W (G.2.2.1 _ ht)) (by rw [(G.dpe ht).1]; exact H)
  by_cases dl : dp B i < L
  · have r1 : L - dp B i = L - dp B i - 1 + 1 := by omega
    have r2 : L - (L - dp B i - 1) = dp B i + 1 := by omega
    refine ⟨wN S + 1, lpG (L := L_X12_way_100 Q K 102 (nI j) (nI L) (nI i) (nI (B.2.1 i))) (I := fun w b h1 => b = nI w ∧ ∃ mi1 ma1, MB S h0 u l ma0 B h1 mi1 ma1 ∧ mi1 4 = v4 ∧ (ma1 27 (B.2.1 i) = if anyW (fun w => decide (B.2.2.1 (nx S law (B.2.1 i) w) = some (L - (L - dp B i - 1))) && ldn S law B L (L - dp B i - 1) (nx S law (B.2.1 i) w)) w then 1 else 0) ∧ ∀ t, i < t → t < B.1 → ma1 27 (B.2.1 t) = lvI S law B L t) (wN S) (fun k b h1 Y => ?_) (fun w k b h1 hw Y K2 => ?_) (wN S) 0 (by omega) 0 h ⟨rfl, mi, ma, Z, y4, ?_, hup⟩⟩
    · obtain ⟨rfl, mi1, ma1, Z1, y1, y2, y3⟩ := Y
      refine m_gI Z1.1.rep (mg12 _ _ _) ?_
      rw [Z1.1.a12, W.2.2.1]
      refine ⟨fun _ => ?_, fun q => absurd (Int32.le_refl _) q⟩
      rw [e0]
      refine H h1 mi1 ma1 Z1 y1 (fun t t1 t2 => ?_)
      by_cases q : t = i
      · rw [q, y2]
        unfold lvI lvB
        rw [decide_eq_true (show dp B i ≤ L by omega), r1, ldn_1, Bool.true_and]
        rfl
      · exact y3 t (by omega) t2
    · obtain ⟨rfl, mi1, ma1, Z1, y1, y2, y3⟩ := Y
      refine m_gI Z1.1.rep (mg12 _ _ _) ?_
      rw [Z1.1.a12, W.2.2.1]
      refine ⟨fun q => absurd q (by rw [nI_leI (by omega) (by omega)]; omega), fun _ => m_gR Z1.1.rep (mr43 _ _ _) (farq Z1 hi ⟨fun q => absurd q (by rw [nI_leI (by omega) (by omega)]; omega), fun _ => m_gI Z1.1.rep (mg16 _ _ _) ?_⟩)⟩
      rw [Z1.1.a16, w5.1, hl]
      refine ⟨Z1.1.rep.o, m_behind W Z1.1.rd Z1.1.a9 Z1.1.a10 Di hw (hl ▸ w5.2) Z1.1.rep fun h2 M2 => ?_⟩
      obtain ⟨mi2, ma2, X2, v1, v2, v3⟩ := Z1.1.behind M2
      have Z2 : MB S h0 u l ma0 B h2 mi2 ma2 := ⟨X2, (v2 45 (by omega)).trans Z1.2.1, fun j hj => (v3 25 j (by omega) (by omega)).trans (Z1.2.2.1 j hj), fun x hx => (v3 26 x (by omega) (by omega)).trans (Z1.2.2.2 x hx)⟩
      have l2 : ∀ x, ma2 27 x = ma1 27 x := fun x => v3 27 x (by omega) (by omega)
      have yy := (v2 4 (by omega)).trans y1
      obtain ⟨t, t1, t2⟩ := G.2.2.2.2.2.2.2.2.2 i w hw (Or.inl hi)
      have nl : nx S law (B.2.1 i) w < 32768 := by rw [← t2]; exact Cd_lt W (G.2.2.1 t t1)
      have dt := G.dpe t1
      rw [t2] at dt
      have fin : ∀ v : Int32, v &&& 1 = v → (v = if anyW (fun w => decide (B.2.2.1 (nx S law (B.2.1 i) w) = some (L - (L - dp B i - 1))) && ldn S law B L (L - dp B i - 1) (nx S law (B.2.1 i) w)) (w + 1) then 1 else 0) → sB h2 130 (nI (B.2.1 i)) v (fun h14 => L_X12_way_100 Q K 102 (nI j) (nI L) (nI i) (nI (B.2.1 i)) k (nI w + 1) h14) := fun v hv ev => Z2.lead Dl hv (fun h3 Z3 => by
        rw [nI_1]
        refine K2 _ _ ⟨rfl, mi2, _, Z3, yy, ?_, fun s s1 s2 => ?_⟩
        · rw [va_up_self, pk_us]; exact ev
        · rw [va_up_self, pk_un (fun z => absurd (G.idx s2 hi z) (by omega)), l2]
          exact y3 s s1 s2)
      refine m_gR X2.rep (mr44 _ _ _) (m_gR X2.rep (mr44 _ _ _) (m_lB X2.rep (vp_in_nI Dl (by omega)) ?_))
      rw [nI_clamp (by omega), l2, y2]
      have au : anyW (fun w => decide (B.2.2.1 (nx S law (B.2.1 i) w) = some (L - (L - dp B i - 1))) && ldn S law B L (L - dp B i - 1) (nx S law (B.2.1 i) w)) (w + 1) = (anyW (fun w => decide (B.2.2.1 (nx S law (B.2.1 i) w) = some (L - (L - dp B i - 1))) && ldn S law B L (L - dp B i - 1) (nx S law (B.2.1 i) w)) w || (decide (B.2.2.1 (nx S law (B.2.1 i) w) = some (L - (L - dp B i - 1))) && ldn S law B L (L - dp B i - 1) (nx S law (B.2.1 i) w))) := rfl
      rw [au] at fin
      cases g : anyW (fun w => decide (B.2.2.1 (nx S law (B.2.1 i) w) = some (L - (L - dp B i - 1))) && ldn S law B L (L - dp B i - 1) (nx S law (B.2.1 i) w)) w with
      | true =>
        rw [g] at fin
        exact ⟨fun _ => fin 1 (by decide) rfl, fun q => absurd q (by decide)⟩
      | false =>
        rw [g] at fin
        refine ⟨fun q => absurd rfl q, fun _ => m_gR X2.rep (mr43 _ _ _) (Z2.far nl ?_)⟩
        rw [dt.1]
        refine m_gR X2.rep (mr43 _ _ _) (farq Z2 hi ?_)
        show (¬ (nI (dp B t) = nI (dp B i) + 1) → _) ∧ (nI (dp B t) = nI (dp B i) + 1 → _)
        rw [nI_1, nI_eqI (by omega) (by omega)]
        refine ⟨fun q => fin 0 (by decide) ?_, fun q => m_gR X2.rep (mr44 _ _ _) (m_lB X2.rep (vp_in_nI nl (by omega)) ?_)⟩
        · have : decide (B.2.2.1 (nx S law (B.2.1 i) w) = some (L - (L - dp B i - 1))) = false := by
            refine decide_eq_false (fun z => q ?_)
            rw [dt.1, r2] at z
            exact Option.some.inj z
          rw [this]; rfl
        · have ti : i < t := by
            rcases Nat.lt_or_ge i t with z | z
            · exact z
            · have := G.2.2.2.2.2.2.1 t i z hi
              omega
          have tv := y3 t ti t1
          rw [t2] at tv
          rw [nI_clamp (by omega), l2, tv]
          have e1 : decide (B.2.2.1 (nx S law (B.2.1 i) w) = some (L - (L - dp B i - 1))) = true := by
            refine decide_eq_true ?_
            rw [dt.1, r2, q]
          have e2 : lvB S law B L t = ldn S law B L (L - dp B i - 1) (nx S law (B.2.1 i) w) := by
            unfold lvB
            rw [decide_eq_true (show dp B t ≤ L by omega), t2, q, show L - (dp B i + 1) = L - dp B i - 1 by omega, Bool.true_and]
          unfold lvI
          rw [e1, ← e2] at fin
          cases g2 : lvB S law B L t with
          | false => rw [g2] at fin; exact ⟨fun _ => fin 0 (by decide) rfl, fun y => absurd rfl y⟩
          | true => rw [g2] at fin; exact ⟨fun y => absurd y (by decide), fun _ => fin 1 (by decide) rfl⟩
    · rw [hb, if_neg (fun z => by omega)]; rfl
  · have fin : K (nI i + -1) h := by
      rw [e0]
      refine H h mi ma Z y4 (fun t t1 t2 => ?_)
      by_cases q : t = i
      · rw [q, hb]
        unfold lvI lvB
        by_cases z : dp B i = L
        · rw [decide_eq_true (show dp B i ≤ L by omega), z, Nat.sub_self, Bool.true_and]
          show _ = if hmP S (B.2.1 i) = true then 1 else 0
          by_cases z2 : hmP S (B.2.1 i) = true
          · rw [if_pos ⟨rfl, z2⟩, if_pos z2]
          · rw [if_neg (fun y => z2 y.2), if_neg z2]
        · rw [if_neg (fun y => z y.1), decide_eq_false (show ¬ dp B i ≤ L by omega), Bool.false_and]
          rfl
      · exact hup t (by omega) t2
    refine ⟨1, m_gI Z.1.rep (mg12 _ _ _) ⟨fun _ => fin, fun _ => m_gR Z.1.rep (mr43 _ _ _) (farq Z hi ⟨fun _ => fin, fun q => absurd ?_ q⟩)⟩⟩
    exact nI_le (by omega) (by omega)
/-- all standings, the last ones first -/
theorem w_leads {L j : Nat} {v4 : Int32} {Q : Int32 → AH → Prop} (WS : WF S) (hl : rlN S = law) (G : BG S law B.1 0 B) (g2 : B.1 ≤ 32768) (hL : L < 40000)
    (H : ∀ h1 mi1 ma1, MB S h0 u l ma0 B h1 mi1 ma1 → mi1 4 = v4 → (∀ t, t < B.1 → ma1 27 (B.2.1 t) = lvI S law B L t) → isO h1 102 12 ∧ f_X12_makes 102 (nI j) (nI L) h1 (fun h1 => gI h1 102 12 17 (fun x2 => ∃ n, L_X12_way_211 Q 102 (nI j) (nI L) n x2 (0 : Int32) h1))) : ∀ (k : Nat) (h : AH) (mi : Nat → Int32) (ma : Nat → Nat → Int32), k ≤ B.1 → MB S h0 u l ma0 B h mi ma → mi 4 = v4 → (∀ t, k ≤ t → t < B.1 → ma 27 (B.2.1 t) = lvI S law B L t) → L_X12_way_53 Q 102 (nI j) (nI L) (k + 1) (nI k - 1) h := by
  obtain ⟨w1, w2, W, w4, w5, w6, w7, w8⟩ := id WS
  intro k
  induction k with
  | zero =>
    intro h mi ma _ Z y hup
    exact ⟨fun _ => H h mi ma Z y (fun t ht => hup t (by omega) ht), fun q => absurd (by decide) q⟩
  | succ k ih =>
    intro h mi ma hk Z y hup
    have hi : k < B.1 := by omega
    have Dl := Cd_lt W (G.2.2.1 k hi)
    have dpk := G.dpe hi
    have ei : nI (k + 1) - 1 = nI k := by rw [show (1 : Int32) = nI 1 from rfl, pk_sub (by omega)]; rfl
    rw [ei]
    have st : ∀ v : Int32, v &&& 1 = v → (v = if dp B k = L ∧ hmP S (B.2.1 k) = true then 1 else 0) → sB h 130 (nI (B.2.1 k)) v (fun h8 => ∃ n, L_X12_way_100 Q (L_X12_way_53 Q 102 (nI j) (nI L) (k + 1)) 102 (nI j) (nI L) (nI k) (nI (B.2.1 k)) n (0 : Int32) h8) := fun v hv ev => Z.lead Dl hv (fun h3 Z3 => w_one WS hl G g2 hi hL Z3 y (by rw [va_up_self, pk_us]; exact ev) (fun t t1 t2 => by
        rw [va_up_self, pk_un (fun z => absurd (G.idx t2 hi z) (by omega))]
        exact hup t (by omega) t2) (fun h4 mi4 ma4 Z4 y4 u4 => ih h4 mi4 ma4 (by omega) Z4 y4 u4))
    refine ⟨fun q => absurd q (nI_n0 (by omega)), fun _ => m_gR Z.1.rep (mr42 _ _ _) (Z.line hi g2 (m_gR Z.1.rep (mr44 _ _ _) (m_gR Z.1.rep (mr43 _ _ _) (Z.far Dl ?_))))⟩
    rw [dpk.1]
    show (¬ (nI (dp B k) = nI L) → _) ∧ (nI (dp B k) = nI L → _)
    rw [nI_eqI (by omega) (by omega)]
    refine ⟨fun q => st 0 (by decide) (by rw [if_neg (fun z => q z.1)]), fun q => ⟨Z.1.rep.o, m_isDone W Z.1 Dl ?_⟩⟩
    cases z : allH S (B.2.1 k) (sN S) with
    | false =>
      refine ⟨fun _ => st 0 (by decide) ?_, fun y => absurd rfl y⟩
      rw [if_neg (fun y => by
        have := y.2
        rw [show hmP S (B.2.1 k) = false from z] at this
        exact absurd this (by decide))]
    | true =>
      refine ⟨fun y => absurd y (by decide), fun _ => st 1 (by decide) ?_⟩
      rw [if_pos ⟨q, z⟩]
end WAY3
