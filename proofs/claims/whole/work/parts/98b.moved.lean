/-! which rows lead to a standing -/
def bitI (d : Nat) : Int32 := (1 : Int32) <<< (nI d &&& 31)
def wbs (d : Nat → Nat) : Nat → Int32
  | 0 => 0
  | k + 1 => wbs d k ||| bitI (d k)
def lkk (g : Nat → Nat) (dd : Nat → Nat → Nat) (m goal : Nat) : Nat → Nat × Int32 × Int32
  | 0 => (0, 0, 31)
  | r + 1 => if g r = goal then ((lkk g dd m goal r).1 + 1, (lkk g dd m goal r).2.1 ||| bitI (dd r 0), (lkk g dd m goal r).2.2 &&& wbs (dd r) m) else lkk g dd m goal r
theorem lkk_le {g : Nat → Nat} {dd : Nat → Nat → Nat} {m goal : Nat} : ∀ r, (lkk g dd m goal r).1 ≤ r
  | 0 => Nat.le_refl _
  | r + 1 => by
    have := lkk_le (g := g) (dd := dd) (m := m) (goal := goal) r
    unfold lkk
    split
    · show (lkk g dd m goal r).1 + 1 ≤ r + 1; omega
    · omega
theorem bit_fin : ∀ (j : Fin 32) (d : Fin 5), nI j.1 ||| bitI d.1 = nI (j.1 ||| 2 ^ d.1) ∧ j.1 ||| 2 ^ d.1 < 32 := by decide +kernel
theorem and_fin : ∀ j : Fin 32, (31 : Int32) &&& nI j.1 = nI j.1 ∧ (-1 : Int32) &&& nI j.1 = nI j.1 := by decide +kernel
theorem wbs_j {d : Nat → Nat} : ∀ {m : Nat}, (∀ k, k < m → d k < 5) → ∃ j, j < 32 ∧ wbs d m = nI j
  | 0, _ => ⟨0, by omega, rfl⟩
  | m + 1, h => by
    obtain ⟨j, hj, e⟩ := wbs_j (d := d) (m := m) (fun k hk => h k (by omega))
    obtain ⟨b1, b2⟩ := bit_fin ⟨j, hj⟩ ⟨d m, h m (by omega)⟩
    exact ⟨_, b2, by rw [wbs, e]; exact b1⟩
theorem wbs_and {d : Nat → Nat} {m : Nat} (h : ∀ k, k < m → d k < 5) : (31 : Int32) &&& wbs d m = wbs d m ∧ (-1 : Int32) &&& wbs d m = wbs d m := by
  obtain ⟨j, hj, e⟩ := wbs_j h
  rw [e]
  exact and_fin ⟨j, hj⟩
theorem lkk_31 {g : Nat → Nat} {dd : Nat → Nat → Nat} {m goal : Nat} : ∀ r, (lkk g dd m goal r).1 = 0 → (lkk g dd m goal r).2.2 = 31
  | 0, _ => rfl
  | r + 1, h => by
    unfold lkk at h ⊢
    split
    · rename_i e
      rw [if_pos e] at h
      exact absurd h (Nat.succ_ne_zero _)
    · rename_i e
      rw [if_neg e] at h
      exact lkk_31 r h
/-- all rows of m walks that lead to a goal: how many, who begins, who is in every one -/
def LKN (S : SS) (law c goal m : Nat) : Nat × Int32 × Int32 := lkk (gRw S law c m) (rdg (wN S) m) m goal (wN S ^ m)
section MOVED
variable {h0 h : AH} {S : SS} {u l : Int64} {n rd c law fa li qu : Nat} {X : Nat → Prop} {ex re ga dr rt bg ie : Int32} {f e a : Nat → Int32} {ma0 ma : Nat → Nat → Int32} {mi : Nat → Int32}
theorem q_walkers {m : Nat} {d : Nat → Nat} {Q : Int32 → AH → Prop} (Z : SQ h0 rd c law ex fa li qu re ga dr rt bg ie f e a h) (hm : m ≤ 4) (hd : ∀ k, k < m → f k = nI (d k)) (H : Q (wbs d m) h) : f_X7_walkersOf 14 (nI m) h Q := by
  obtain ⟨z1, z2, z3, z4, z5, z6, z7, z8⟩ := id Z
  refine lpA (L := L_X7_walkersOf_4 Q 14 (nI m)) (fun i => wbs d i) m (fun k => ⟨fun _ => H, fun q => absurd (Int32.le_refl _) q⟩) (fun i k hi K => ⟨fun q => absurd q ?_, fun _ => ⟨fun q => absurd q ?_, fun _ => gR_of z4 rfl (lI_of z6 (vp_in_nI (by omega) (by omega)) ?_)⟩⟩)
  · rw [nI_leI (by omega) (by omega)]; omega
  · rw [show (4 : Int32) = nI 4 from rfl, nI_leI (by omega) (by omega)]; omega
  · rw [nI_clamp (by omega), hd i hi, nI_1]
    exact K
theorem q_compare {m goal : Nat} {Q : AH → Prop} (Z : SQ h0 rd c law ex fa li qu re ga dr rt bg ie f e a h) (W : WFr S) (C : Crod h0 rd S X) (xr : ∀ x, X x → radr x) (D : Cd S c) (hl : law ≤ 2) (hm : m ≤ 4) (hg : goal < 32768)
    (H : ∀ h1 f' bg' ie', SQ h0 rd c law ex fa li qu re ga dr (nI (LKN S law c goal m).1) bg' ie' f' e a h1 → (1 ≤ m → bg' = (LKN S law c goal m).2.1) → (0 < (LKN S law c goal m).1 → ie' = (LKN S law c goal m).2.2) → Q h1) : f_X7_compareRowsTo 14 (nI goal) (nI m) h Q := by
  have hw5 := W.2.2.2.2.2.2.1
  have pl := wpow_le hw5 hm
  refine pF_of Z.2.2.2.1 (Nat.le_of_ble_eq_true rfl) rfl ?_
  refine pF_of (aput_s h 14 _) (Nat.le_of_ble_eq_true rfl) rfl ?_
  rw [aput_pp]
  refine pF_of (aput_s h 14 _) (Nat.le_of_ble_eq_true rfl) rfl ?_
  rw [aput_pp]
  have Z1 := Z.p14 (ga' := ga) (dr' := dr) (rt' := nI 0) (bg' := 0) (ie' := -1)
  refine q_first Z1 W C xr hm (Q := fun x2 h4 => ∃ n, L_X7_compareRowsTo_28 Q 14 (nI goal) (nI m) x2 n (0 : Int32) h4) (fun h2 g Z2 hgd => ?_)
  unfold LKN at H
  generalize hE : lkk (gRw S law c m) (rdg (wN S) m) m goal = E at *
  have e0 : E 0 = (0, 0, 31) := by rw [← hE]; rfl
  have e1 : ∀ r, E (r + 1) = if gRw S law c m r = goal then ((E r).1 + 1, (E r).2.1 ||| bitI (rdg (wN S) m r 0), (E r).2.2 &&& wbs (rdg (wN S) m r) m) else E r := fun r => by rw [← hE]; rfl
  have e31 : ∀ r, (E r).1 = 0 → (E r).2.2 = 31 := fun r => by rw [← hE]; exact lkk_31 r
  refine ⟨wN S ^ m + 1, lpG (L := L_X7_compareRowsTo_28 Q 14 (nI goal) (nI m) (nI (wN S ^ m))) (I := fun r b h1 => b = nI r ∧ ∃ f' bg' ie', SQ h0 rd c law ex fa li qu re ga dr (nI (E r).1) bg' ie' f' e a h1 ∧ (r < wN S ^ m → ∀ k, k < m → f' k = nI (rdg (wN S) m r k)) ∧ (1 ≤ m → bg' = (E r).2.1) ∧ ((E r).1 = 0 → ie' = -1) ∧ (0 < (E r).1 → ie' = (E r).2.2)) (wN S ^ m) (fun k b h1 Y => ?_) (fun r k b h1 hr Y K => ?_) (wN S ^ m) 0 (by omega) 0 h2 ⟨rfl, g, 0, -1, by rw [e0]; exact Z2, fun _ => hgd, fun _ => by rw [e0], fun _ => rfl, fun z => by rw [e0] at z; exact absurd z (Nat.lt_irrefl _)⟩⟩
  · obtain ⟨rfl, f', bg', ie', Z3, -, y1, y2, y3⟩ := Y
    exact ⟨fun _ => H h1 f' bg' ie' Z3 y1 y3, fun q => absurd (Int32.le_refl _) q⟩
  · obtain ⟨rfl, f', bg', ie', Z3, yd, y1, y2, y3⟩ := Y
    have hd5 : ∀ k, k < m → rdg (wN S) m r k < 5 := fun k hk => Nat.lt_of_lt_of_le (rdg_lt (wpos hr (by omega))) hw5
    refine ⟨fun q => absurd q ?_, fun _ => q_body Z3 W C xr D hl hm hr (yd hr) (fun h4 Z4 ht => ?_)⟩
    · rw [nI_leI (by omega) (by omega)]; omega
    · obtain ⟨t1, t2, t3, t4, t5, ht⟩ := ht
      have gl := Cd_lt W (gRw_cd (law := law) (m := m) W D hr)
      refine gR_of Z4.2.2.2.1 rfl (gI_of ht rfl ?_)
      rw [show (nI (rww S law c (rdg (wN S) m r) m).1 = nI goal) = (gRw S law c m r = goal) from propext (nI_eqI (a := gRw S law c m r) (by omega) (by omega))]
      refine ⟨fun q => ?_, fun q => gI_of Z4.2.2.2.1 rfl (pF_of Z4.2.2.2.1 (Nat.le_of_ble_eq_true rfl) rfl ?_)⟩
      · refine q_next Z4 W C xr hm hr (yd hr) (fun h6 g6 Z6 yg => ?_)
        rw [nI_1]
        refine K _ _ ⟨rfl, g6, bg', ie', ?_, yg, ?_, ?_, ?_⟩ <;> rw [e1 r, if_neg q]
        · exact Z6
        · exact y1
        · exact y2
        · exact y3
      · have Z5 := Z4.p14 (ga' := ga) (dr' := dr) (rt' := nI (E r).1 + 1) (bg' := bg') (ie' := ie')
        refine gI_of Z5.2.2.2.1 rfl (gR_of Z5.2.2.2.1 rfl (lI_of Z5.2.2.2.2.2.1 (vp_in_nI (n := 0) (by omega) (by omega)) (pF_of Z5.2.2.2.1 (Nat.le_of_ble_eq_true rfl) rfl ?_)))
        have Z6 := Z5.p14 (ga' := ga) (dr' := dr) (rt' := nI (E r).1 + 1) (bg' := bg' ||| ((1 : Int32) <<< (f' (0 : Int32).toNatClampNeg &&& 31))) (ie' := ie')
        refine gI_of Z6.2.2.2.1 rfl ⟨Z6.o, q_walkers Z6 hm (yd hr) (pF_of Z6.2.2.2.1 (Nat.le_of_ble_eq_true rfl) rfl ?_)⟩
        have Z7 := Z6.p14 (ga' := ga) (dr' := dr) (rt' := nI (E r).1 + 1) (bg' := bg' ||| ((1 : Int32) <<< (f' (0 : Int32).toNatClampNeg &&& 31))) (ie' := ie' &&& wbs (rdg (wN S) m r) m)
        refine q_next Z7 W C xr hm hr (yd hr) (fun h8 g8 Z8 yg => ?_)
        rw [nI_1]
        refine K _ _ ⟨rfl, g8, _, _, by rw [e1 r, if_pos q]; rw [nI_1] at Z8; exact Z8, yg, fun m1 => ?_, fun z => ?_, fun _ => ?_⟩
        · rw [e1 r, if_pos q, y1 m1]
          show _ ||| ((1 : Int32) <<< (f' 0 &&& 31)) = _
          rw [yd hr 0 (by omega)]
          rfl
        · rw [e1 r, if_pos q] at z
          exact absurd z (Nat.succ_ne_zero _)
        · rw [e1 r, if_pos q]
          show _ = (E r).2.2 &&& wbs (rdg (wN S) m r) m
          obtain ⟨x1, x2⟩ := wbs_and hd5
          by_cases z : (E r).1 = 0
          · rw [y2 z, e31 r z, x1, x2]
          · rw [y3 (by omega)]
theorem q_fewestTo {goal : Nat} {Q : Int32 → AH → Prop} (Z : SQ h0 rd c law ex fa li qu re ga dr rt bg ie f e a h) (W : WFr S) (C : Crod h0 rd S X) (xr : ∀ x, X x → radr x) (D : Cd S c) (hl : law ≤ 2) (hg : goal < 32768)
    (Hn : (∀ m, m ≤ 4 → (LKN S law c goal m).1 = 0) → ∀ h1 f' rt' bg' ie', SQ h0 rd c law ex fa li qu re ga dr rt' bg' ie' f' e a h1 → Q (-9) h1)
    (Hs : ∀ m, m ≤ 4 → 0 < (LKN S law c goal m).1 → (∀ j, j < m → (LKN S law c goal j).1 = 0) → ∀ h1 f' bg' ie', SQ h0 rd c law ex fa li qu re ga dr (nI (LKN S law c goal m).1) bg' ie' f' e a h1 → (1 ≤ m → bg' = (LKN S law c goal m).2.1) → ie' = (LKN S law c goal m).2.2 → Q (nI m) h1) : f_X7_fewestTo 14 (nI goal) h Q := by
  have hw5 := W.2.2.2.2.2.2.1
  refine ⟨5 + 1, lpG (L := L_X7_fewestTo_2 Q 14 (nI goal)) (I := fun m b h1 => b = nI m ∧ (∃ f' rt' bg' ie', SQ h0 rd c law ex fa li qu re ga dr rt' bg' ie' f' e a h1) ∧ ∀ j, j < m → (LKN S law c goal j).1 = 0) 5 (fun k b h1 Y => ?_) (fun m k b h1 hm Y K => ?_) 5 0 (by omega) 0 h ⟨rfl, ⟨f, rt, bg, ie, Z⟩, fun j hj => absurd hj (Nat.not_lt_zero _)⟩⟩
  · obtain ⟨rfl, ⟨f', rt', bg', ie', Z2⟩, y⟩ := Y
    exact ⟨fun _ => Hn (fun m hm => y m (by omega)) h1 f' rt' bg' ie' Z2, fun q => absurd (by decide) q⟩
  · obtain ⟨rfl, ⟨f', rt', bg', ie', Z2⟩, y⟩ := Y
    refine ⟨fun q => absurd q ?_, fun _ => ⟨Z2.o, q_compare Z2 W C xr D hl (by omega) hg (fun h3 f3 bg3 ie3 Z3 y1 y2 => gI_of Z3.2.2.2.1 rfl ?_)⟩⟩
    · rw [show (4 : Int32) = nI 4 from rfl, nI_ltI (by omega) (by omega)]; omega
    · have lb := lkk_le (g := gRw S law c m) (dd := rdg (wN S) m) (m := m) (goal := goal) (wN S ^ m)
      have pl := wpow_le (n := m) hw5 (by omega)
      have ee : (nI (LKN S law c goal m).1 ≤ 0) = ((LKN S law c goal m).1 ≤ 0) := propext (nI_leI (b := 0) (by unfold LKN; omega) (by omega))
      rw [ee, nI_1]
      refine ⟨fun q => K _ _ ⟨rfl, ⟨_, _, _, _, Z3⟩, fun j hj => ?_⟩, fun q => Hs m (by omega) (by omega) y h3 f3 bg3 ie3 Z3 y1 (y2 (by omega))⟩
      by_cases z : j = m
      · rw [z]; omega
      · exact y j (by omega)
/-- the model's: a row that leads there -/
theorem m_looks_in {m row : Nat} {Q : AH → Prop} {K : Int32 → AH → Prop} {v2 b48 : Int32} (WS : WF S) (Z : MX S h0 u l ma0 h mi ma) (hm : m ≤ 4) (hr : row < wN S ^ m) (e48 : mi 48 = b48)
    (H : ∀ h1 mi1, MX S h0 u l ma0 h1 mi1 ma → (1 ≤ m → mi1 48 = b48 ||| bitI (rdg (wN S) m row 0)) → mi1 49 = mi 49 &&& wbs (rdg (wN S) m row) m → (∀ j, j ≠ 48 → j ≠ 49 → mi1 j = mi j) → K (nI (row + 1)) h1) : ∃ n, L_X12_looks_64 Q K 102 (nI m) v2 (nI (wN S ^ m)) (nI row) n (0 : Int32) (nI (wN S ^ m)) (0 : Int32) h := by
  obtain ⟨w1, w2, W, w4, w5, w6, w7, w8⟩ := id WS
  have hw5 := W.2.2.2.2.2.2.1
  have pl := wpow_le hw5 hm
  refine ⟨m + 1, lpG (L := fun f (a : Int32 × Int32 × Int32) h => L_X12_looks_64 Q K 102 (nI m) v2 (nI (wN S ^ m)) (nI row) f a.1 a.2.1 a.2.2 h) (I := fun k a h1 => a = (wbs (rdg (wN S) m row) k, nI (wN S ^ (m - k)), nI k) ∧ ∃ mi1, MX S h0 u l ma0 h1 mi1 ma ∧ (k = 0 → mi1 48 = b48) ∧ (1 ≤ k → mi1 48 = b48 ||| bitI (rdg (wN S) m row 0)) ∧ ∀ j, j ≠ 48 → mi1 j = mi j) m (fun k a h1 Y => ?_) (fun k k2 a h1 hk Y K2 => ?_) m 0 (by omega) ((0 : Int32), nI (wN S ^ m), (0 : Int32)) h ⟨rfl, mi, Z, fun _ => e48, fun z => absurd z (by omega), fun _ _ => rfl⟩⟩
  · obtain ⟨rfl, mi1, Z1, y0, y1, y2⟩ := Y
    refine ⟨fun _ => m_gI Z1.rep (mg49 _ _ _) (Z1.pF (by omega) (ms49 _ _ _ _) (fun h2 Z2 => ?_)), fun q => absurd (Int32.le_refl _) q⟩
    rw [nI_1]
    refine H h2 _ Z2 (fun z => by rw [pk_un (by omega)]; exact y1 z) (by rw [pk_us, y2 49 (by omega)]) (fun j a b => by rw [pk_un b]; exact y2 j a)
  · obtain ⟨rfl, mi1, Z1, y0, y1, y2⟩ := Y
    have wp := wpos hr (by omega)
    have e1 : wN S ^ (m - k) / wN S = wN S ^ (m - 1 - k) := by
      rw [show m - k = m - 1 - k + 1 by omega, Nat.pow_succ, Nat.mul_div_cancel _ wp]
    have p1 : 0 < wN S ^ (m - 1 - k) := Nat.pow_pos wp
    have p2 := wpow_le (w := wN S) (n := m - 1 - k) hw5 (by omega)
    have p3 := wpow_le (w := wN S) (n := m - k) hw5 (by omega)
    have ql : row / wN S ^ (m - 1 - k) ≤ row := Nat.div_le_self _ _
    refine ⟨fun q => absurd q ?_, fun _ => m_gI Z1.rep (mg12 _ _ _) ?_⟩
    · rw [nI_leI (by omega) (by omega)]; omega
    · rw [Z1.a12, W.2.2.1]
      dsimp only
      rw [pk_div (by omega) (by omega) (by omega), e1]
      refine ⟨nI_z (by omega) (by omega), nI_z p1 (by omega), m_gI Z1.rep (mg12 _ _ _) ?_⟩
      rw [Z1.a12, W.2.2.1]
      refine ⟨nI_z (by omega) (by omega), m_gI Z1.rep (mg48 _ _ _) ?_⟩
      rw [pk_div (by omega) p1 (by omega), pk_rem (by omega) (by omega) (by omega)]
      have ek : (nI k = 0) = (k = 0) := propext (nI_eqI (b := 0) (by omega) (by omega))
      rw [ek]
      have st : ∀ mi2 h2, MX S h0 u l ma0 h2 mi2 ma → (1 ≤ k + 1 → mi2 48 = b48 ||| bitI (rdg (wN S) m row 0)) → (∀ j, j ≠ 48 → mi2 j = mi j) → L_X12_looks_64 Q K 102 (nI m) v2 (nI (wN S ^ m)) (nI row) k2 (wbs (rdg (wN S) m row) k ||| ((1 : Int32) <<< (nI (row / wN S ^ (m - 1 - k) % wN S) &&& 31))) (nI (wN S ^ (m - 1 - k))) (nI k + 1) h2 := fun mi2 h2 Z2 x1 x2 => by
        refine K2 (_, _, _) _ ⟨?_, mi2, Z2, fun z => absurd z (by omega), x1, x2⟩
        rw [nI_1, show m - (k + 1) = m - 1 - k by omega]
        rfl
      refine ⟨fun z => Z1.pF (by omega) (ms48 _ _ _ _) (fun h2 Z2 => st _ _ Z2 (fun _ => ?_) (fun j hj => by rw [pk_un hj]; exact y2 j hj)), fun z => Z1.pF (by omega) (ms48 _ _ _ _) (fun h2 Z2 => st _ _ Z2 (fun _ => ?_) (fun j hj => by rw [pk_un hj]; exact y2 j hj))⟩
      · rw [pk_us, Int32.or_zero, y1 (by omega)]
      · subst z
        rw [pk_us, y0 rfl]
        rfl
theorem m_looks {m goal : Nat} {Q : AH → Prop} (WS : WF S) (Z : MX S h0 u l ma0 h mi ma) (hm : m ≤ 4) (hg : goal < 32768)
    (H : ∀ h1 mi1 ma1, MX S h0 u l ma0 h1 mi1 ma1 → mi1 47 = nI (LKN S (rlN S) (stN S) goal m).1 → (1 ≤ m → mi1 48 = (LKN S (rlN S) (stN S) goal m).2.1) → mi1 49 = (LKN S (rlN S) (stN S) goal m).2.2 → mi1 50 = mi 50 → mi1 4 = mi 4 → Q h1) : f_X12_looks 102 (nI m) (nI goal) h Q := by
  obtain ⟨w1, w2, W, w4, w5, w6, w7, w8⟩ := id WS
  have hw5 := W.2.2.2.2.2.2.1
  have pl := wpow_le hw5 hm
  unfold LKN at H
  generalize hE : lkk (gRw S (rlN S) (stN S) m) (rdg (wN S) m) m goal = E at *
  have e0 : E 0 = (0, 0, 31) := by rw [← hE]; rfl
  have e1 : ∀ r, E (r + 1) = if gRw S (rlN S) (stN S) m r = goal then ((E r).1 + 1, (E r).2.1 ||| bitI (rdg (wN S) m r 0), (E r).2.2 &&& wbs (rdg (wN S) m r) m) else E r := fun r => by rw [← hE]; rfl
  refine Z.pF (by omega) (ms47 _ _ _ _) (fun h1 Z1 => Z1.pF (by omega) (ms48 _ _ _ _) (fun h2 Z2 => Z2.pF (by omega) (ms49 _ _ _ _) (fun h3 Z3 => ⟨Z3.rep.o, m_power W Z3 hm ⟨wN S ^ m + 1, lpG (L := L_X12_looks_25 Q 102 (nI m) (nI goal) (nI (wN S ^ m))) (I := fun r b h4 => b = nI r ∧ ∃ mi1 ma1, MX S h0 u l ma0 h4 mi1 ma1 ∧ mi1 47 = nI (E r).1 ∧ (1 ≤ m → mi1 48 = (E r).2.1) ∧ mi1 49 = (E r).2.2 ∧ mi1 50 = mi 50 ∧ mi1 4 = mi 4) (wN S ^ m) (fun k b h4 Y => ?_) (fun r k b h4 hr Y K => ?_) (wN S ^ m) 0 (by omega) 0 h3 ⟨rfl, _, _, Z3, ?_, fun _ => ?_, ?_, ?_, ?_⟩⟩⟩)))
  · obtain ⟨rfl, mi1, ma1, Z4, y1, y2, y3, y4, y5⟩ := Y
    exact ⟨fun _ => H h4 mi1 ma1 Z4 y1 y2 y3 y4 y5, fun q => absurd (Int32.le_refl _) q⟩
  · obtain ⟨rfl, mi1, ma1, Z4, y1, y2, y3, y4, y5⟩ := Y
    refine ⟨fun q => absurd q ?_, fun _ => ⟨Z4.rep.o, m_behindRow WS Z4 hm hr (fun h5 mi5 ma5 Z5 v1 v2 v3 => ?_)⟩⟩
    · rw [nI_leI (by omega) (by omega)]; omega
    · have gl := Cd_lt W (gRw_cd (law := rlN S) (m := m) W w4.2 hr)
      rw [show (nI (rww S (rlN S) (stN S) (rdg (wN S) m r) m).1 = nI goal) = (gRw S (rlN S) (stN S) m r = goal) from propext (nI_eqI (a := gRw S (rlN S) (stN S) m r) (by omega) (by omega))]
      have k1 : ∀ j, j ≠ 38 → j ≠ 41 → mi5 j = mi1 j := v2
      refine ⟨fun q => m_gI Z5.rep (mg47 _ _ _) (Z5.pF (by omega) (ms47 _ _ _ _) (fun h6 Z6 => m_looks_in WS Z6 hm hr rfl (fun h7 mi7 Z7 x1 x2 x3 => K _ _ ⟨rfl, mi7, ma5, Z7, ?_, fun m1 => ?_, ?_, ?_, ?_⟩))), fun q => ?_⟩
      · rw [x3 47 (by omega) (by omega), pk_us, k1 47 (by omega) (by omega), y1, nI_1, e1 r, if_pos q]
      · rw [x1 m1, pk_un (by omega), k1 48 (by omega) (by omega), y2 m1, e1 r, if_pos q]
      · rw [x2, pk_un (by omega), k1 49 (by omega) (by omega), y3, e1 r, if_pos q]
      · rw [x3 50 (by omega) (by omega), pk_un (by omega), k1 50 (by omega) (by omega), y4]
      · rw [x3 4 (by omega) (by omega), pk_un (by omega), k1 4 (by omega) (by omega), y5]
      · rw [nI_1]
        refine K _ _ ⟨rfl, mi5, ma5, Z5, ?_, fun m1 => ?_, ?_, ?_, ?_⟩
        · rw [k1 47 (by omega) (by omega), y1, e1 r, if_neg q]
        · rw [k1 48 (by omega) (by omega), y2 m1, e1 r, if_neg q]
        · rw [k1 49 (by omega) (by omega), y3, e1 r, if_neg q]
        · rw [k1 50 (by omega) (by omega), y4]
        · rw [k1 4 (by omega) (by omega), y5]
  · rw [pk_un (by omega), pk_un (by omega), pk_us, e0]; rfl
  · rw [pk_un (by omega), pk_us, e0]
  · rw [pk_us, e0]
  · rw [pk_un (by omega), pk_un (by omega), pk_un (by omega)]
  · rw [pk_un (by omega), pk_un (by omega), pk_un (by omega)]
theorem m_fewestTo {goal : Nat} {Q : Int32 → AH → Prop} (WS : WF S) (Z : MX S h0 u l ma0 h mi ma) (hg : goal < 32768) (e50 : mi 50 = nI goal)
    (Hn : (∀ m, m ≤ 4 → (LKN S (rlN S) (stN S) goal m).1 = 0) → ∀ h1 mi1 ma1, MX S h0 u l ma0 h1 mi1 ma1 → mi1 4 = mi 4 → Q (-9) h1)
    (Hs : ∀ m, m ≤ 4 → 0 < (LKN S (rlN S) (stN S) goal m).1 → (∀ j, j < m → (LKN S (rlN S) (stN S) goal j).1 = 0) → ∀ h1 mi1 ma1, MX S h0 u l ma0 h1 mi1 ma1 → mi1 4 = mi 4 → mi1 47 = nI (LKN S (rlN S) (stN S) goal m).1 → (1 ≤ m → mi1 48 = (LKN S (rlN S) (stN S) goal m).2.1) → mi1 49 = (LKN S (rlN S) (stN S) goal m).2.2 → Q (nI m) h1) : f_X12_fewestTo 102 h Q := by
  have hw5 := WS.2.2.1.2.2.2.2.2.2.1
  refine ⟨5 + 1, lpG (L := L_X12_fewestTo_2 Q 102) (I := fun m b h1 => b = nI m ∧ (∃ mi1 ma1, MX S h0 u l ma0 h1 mi1 ma1 ∧ mi1 4 = mi 4 ∧ mi1 50 = nI goal) ∧ ∀ j, j < m → (LKN S (rlN S) (stN S) goal j).1 = 0) 5 (fun k b h1 Y => ?_) (fun m k b h1 hm Y K => ?_) 5 0 (by omega) 0 h ⟨rfl, ⟨mi, ma, Z, rfl, e50⟩, fun j hj => absurd hj (Nat.not_lt_zero _)⟩⟩
  · obtain ⟨rfl, ⟨mi1, ma1, Z1, y1, y2⟩, y⟩ := Y
    exact ⟨fun _ => Hn (fun m hm => y m (by omega)) h1 mi1 ma1 Z1 y1, fun q => absurd (Int32.le_refl _) q⟩
  · obtain ⟨rfl, ⟨mi1, ma1, Z1, y1, y2⟩, y⟩ := Y
    refine ⟨fun q => absurd q ?_, fun _ => m_gI Z1.rep (mg50 _ _ _) ?_⟩
    · rw [show (5 : Int32) = nI 5 from rfl, nI_leI (by omega) (by omega)]; omega
    · rw [y2]
      refine ⟨Z1.rep.o, m_looks WS Z1 (by omega) hg (fun h3 mi3 ma3 Z3 x1 x2 x3 x4 x5 => m_gI Z3.rep (mg47 _ _ _) ?_)⟩
      have lb := lkk_le (g := gRw S (rlN S) (stN S) m) (dd := rdg (wN S) m) (m := m) (goal := goal) (wN S ^ m)
      have pl := wpow_le (n := m) hw5 (by omega)
      have ee : (nI (LKN S (rlN S) (stN S) goal m).1 ≤ 0) = ((LKN S (rlN S) (stN S) goal m).1 ≤ 0) := propext (nI_leI (b := 0) (by unfold LKN; omega) (by omega))
      rw [x1, ee, nI_1]
      refine ⟨fun q => K _ _ ⟨rfl, ⟨mi3, ma3, Z3, x5.trans y1, x4.trans y2⟩, fun j hj => ?_⟩, fun q => Hs m (by omega) (by omega) y h3 mi3 ma3 Z3 (x5.trans y1) x1 x2 x3⟩
      by_cases z : j = m
      · rw [z]; omega
      · exact y j (by omega)
end MOVED
