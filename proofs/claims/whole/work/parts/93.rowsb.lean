/-! rows of walkers in the model -/
/-- behind something that the model reckons: all but its scratch, and what it tells, as at first -/
def MX (S : SS) (h0 : AH) (u l : Int64) (ma0 : Nat → Nat → Int32) (h : AH) (mi : Nat → Int32) (ma : Nat → Nat → Int32) : Prop := RepM h mi u l ma ∧ Mag h0 h ∧ LkA (up S 4 0 0 (mi 4)) mi ∧ LkR S ma ∧ ∀ j i, j ≤ 16 → ma j i = ma0 j i
theorem up_id (S : SS) (c i j : Nat) : up S c i j (S c i j) = S := by
  funext c' i' j'
  unfold up
  by_cases e : c' = c ∧ i' = i ∧ j' = j
  · rw [if_pos e, e.1, e.2.1, e.2.2]
  · rw [if_neg e]
section MX
variable {S : SS} {h0 h h1 : AH} {u l : Int64} {ma0 ma ma1 : Nat → Nat → Int32} {mi mi1 : Nat → Int32}
theorem MX.of (R : RepM h mi u l ma) (A : LkA S mi) (Rd : LkR S ma) : MX S h u l ma h mi ma := by
  refine ⟨R, Mag.rf, ?_, Rd, fun _ _ _ => rfl⟩
  rw [A.1, up_id]
  exact A
theorem MX.rep (Z : MX S h0 u l ma0 h mi ma) : RepM h mi u l ma := Z.1
theorem MX.mag (Z : MX S h0 u l ma0 h mi ma) : Mag h0 h := Z.2.1
theorem MX.rd (Z : MX S h0 u l ma0 h mi ma) : LkR S ma := Z.2.2.2.1
theorem MX.a9 (Z : MX S h0 u l ma0 h mi ma) : mi 9 = S 7 0 0 := Z.2.2.1.2.2.1.trans (up_c _ _ (by omega))
theorem MX.a10 (Z : MX S h0 u l ma0 h mi ma) : mi 10 = S 8 0 0 := Z.2.2.1.2.2.2.1.trans (up_c _ _ (by omega))
theorem MX.a12 (Z : MX S h0 u l ma0 h mi ma) : mi 12 = S 9 0 0 := Z.2.2.1.2.2.2.2.1.trans (up_c _ _ (by omega))
theorem MX.a16 (Z : MX S h0 u l ma0 h mi ma) : mi 16 = S 15 0 0 := Z.2.2.1.2.2.2.2.2.1.trans (up_c _ _ (by omega))
theorem MX.a17 (Z : MX S h0 u l ma0 h mi ma) : mi 17 = S 14 0 0 := Z.2.2.1.2.2.2.2.2.2.1.trans (up_c _ _ (by omega))
theorem MX.next (Z : MX S h0 u l ma0 h mi ma) (R : RepM h1 mi1 u l ma1) (G : Mag h h1) (hi : ∀ j, j ≠ 4 → j < 27 → mi1 j = mi j) (hm : ∀ j i, j ≤ 16 → ma1 j i = ma j i) : MX S h0 u l ma0 h1 mi1 ma1 := by
  obtain ⟨z1, z2, z3, z4, z5⟩ := Z
  refine ⟨R, z2.tr G, ?_, z4.keep (fun j i _ _ => hm j i (by omega)) sameR.rf, fun j i hj => (hm j i hj).trans (z5 j i hj)⟩
  obtain ⟨a1, a2, a3, a4, a5, a6, a7, a8⟩ := z3
  rw [up_c _ _ (by omega)] at a2 a3 a4 a5 a6 a7 a8
  refine ⟨(up_s _ _ _ _ _).symm, ?_, ?_, ?_, ?_, ?_, ?_, ?_⟩ <;> rw [up_c _ _ (by omega), hi _ (by omega) (by omega)] <;> assumption
theorem MX.rm (Z : MX S h0 u l ma0 h mi ma) (Wm : LkW S ma0) (T : LkT S ma0) (F : LkF S ma0) (Lg : LkL S ma0) (Kp : LkK S ma0) : RM h (up S 4 0 0 (mi 4)) u l := by
  obtain ⟨z1, z2, z3, z4, z5⟩ := Z
  have sR : sameR S (up S 4 0 0 (mi 4)) := (sameT_told S (mi 4)).R
  exact ⟨mi, ma, z1, z3, Wm.keep (fun i => z5 0 i (by omega)) (fun i => z5 1 i (by omega)) (fun r => up_c _ _ (by omega)) (fun r i => up_c _ _ (by omega)), T.keep (fun i => z5 2 i (by omega)) (fun i => z5 3 i (by omega)) (fun r => up_c _ _ (by omega)) (fun r i => up_c _ _ (by omega)), F.keep (fun i => z5 4 i (by omega)) (fun r => up_c _ _ (by omega)), z4.keep (fun _ _ _ _ => rfl) sR, Lg.keep (fun j i _ _ => z5 j i (by omega)) (fun c i j _ _ => up_c _ _ (by omega)), Kp.keep (fun i => z5 15 i (by omega)) (fun i => z5 16 i (by omega)) (fun r => up_c _ _ (by omega)) (fun r => up_c _ _ (by omega))⟩
theorem MX.behind {T : TR} (Z : MX S h0 u l ma0 h mi ma) (M : MS S h mi u l ma T h1) : ∃ mi1 ma1, MX S h0 u l ma0 h1 mi1 ma1 ∧ mi1 38 = nI T.2.2 ∧ (∀ j, j ≠ 38 → mi1 j = mi j) ∧ ∀ j i, j ≠ 22 → j ≠ 23 → ma1 j i = ma j i := by
  obtain ⟨mi1, ma1, R, g, m1, m2, m3, m4, m5⟩ := M
  exact ⟨mi1, ma1, Z.next R g (fun j _ hj => m1 j (by omega)) (fun j i hj => m2 j i (by omega) (by omega)), m5, m1, m2⟩
/-- a scratch number is written, what is told is written, a scratch row is written -/
theorem MX.pF {k : Nat} {v : Int32} {K : AH → Prop} (Z : MX S h0 u l ma0 h mi ma) (hk : k = 4 ∨ (27 ≤ k ∧ k < 51)) (hs : (mfs mi u l).set k (.int v) = mfs (upd mi k v) u l) (H : ∀ h1, MX S h0 u l ma0 h1 (upd mi k v) ma → K h1) : pF h 102 12 k (.int v) K :=
  m_pF Z.rep (by omega) hs (fun h1 r1 a1 => H h1 (Z.next r1 a1 (fun j _ _ => pk_un (by omega)) (fun _ _ _ => rfl)))
theorem MX.sI {a j n : Nat} {i x : Int32} {K : AH → Prop} (Z : MX S h0 u l ma0 h mi ma) (hj16 : 17 ≤ j) (ha : a = 103 + j) (hj : mlen[j]? = some n) (ht : mtag j = 0) (hi : vp_in i n) (H : ∀ h1, MX S h0 u l ma0 h1 mi (va_up ma j (upd (ma j) i.toNatClampNeg x)) → K h1) : sI h a i x K :=
  m_sI Z.rep ha hj ht hi (fun h1 r1 a1 => H h1 (Z.next r1 a1 (fun _ _ _ => rfl) (fun j' i' h' => by rw [va_up_ne _ _ (by omega)])))
theorem m_power {n : Nat} {Q : Int32 → AH → Prop} (W : WFr S) (Z : MX S h0 u l ma0 h mi ma) (hn : n ≤ 4) (H : Q (nI (wN S ^ n)) h) : f_X12_power 102 (nI n) h Q := by
  refine lpA (L := L_X12_power_4 Q 102 (nI n)) (fun i => nI (wN S ^ i)) n (fun k => ⟨fun _ => H, fun q => absurd (Int32.le_refl _) q⟩) (fun i k hi K => ⟨fun q => absurd q ?_, fun _ => m_gI Z.rep (mg12 _ _ _) ?_⟩)
  · rw [nI_leI (by omega) (by omega)]; omega
  · rw [Z.a12, W.2.2.1, nI_1, pk_mul]
    exact K
theorem nI_z {k : Nat} (h0 : 0 < k) (hk : k < 2 ^ 31) : ¬ nI k = 0 := fun e => by
  have := (nI_eqI (b := 0) hk (by omega)).mp e
  omega
theorem m_behindRow {n row : Nat} {Q : Int32 → AH → Prop} (WS : WF S) (Z : MX S h0 u l ma0 h mi ma) (hn : n ≤ 4) (hr : row < wN S ^ n)
    (H : ∀ h1 mi1 ma1, MX S h0 u l ma0 h1 mi1 ma1 → mi1 41 = nI (rww S (rlN S) (stN S) (rdg (wN S) n row) n).2 → (∀ j, j ≠ 38 → j ≠ 41 → mi1 j = mi j) → (∀ j i, j ≠ 22 → j ≠ 23 → ma1 j i = ma j i) → Q (nI (rww S (rlN S) (stN S) (rdg (wN S) n row) n).1) h1) : f_X12_behindRow 102 (nI n) (nI row) h Q := by
  obtain ⟨w1, w2, W, w4, w5, w6, w7, w8⟩ := id WS
  have hw5 := W.2.2.2.2.2.2.1
  have pl := wpow_le hw5 hn
  have hd : ∀ k, k < n → rdg (wN S) n row k < wN S := fun k hk => rdg_lt (wpos hr (by omega))
  refine m_gI Z.rep (mg17 _ _ _) ⟨Z.rep.o, m_power W Z hn (Z.pF (by omega) (ms41 _ _ _ _) (fun h4 Z4 => ?_))⟩
  rw [Z.a17, w4.1]
  refine ⟨n + 1, lpG (L := fun f (a : Int32 × Int32 × Int32) h => L_X12_behindRow_20 Q 102 (nI n) (nI row) f a.1 a.2.1 a.2.2 h) (I := fun k a h1 => a = (nI (rww S (rlN S) (stN S) (rdg (wN S) n row) k).1, nI (wN S ^ (n - k)), nI k) ∧ ∃ mi1 ma1, MX S h0 u l ma0 h1 mi1 ma1 ∧ mi1 41 = nI (rww S (rlN S) (stN S) (rdg (wN S) n row) k).2 ∧ (∀ j, j ≠ 38 → j ≠ 41 → mi1 j = mi j) ∧ ∀ j i, j ≠ 22 → j ≠ 23 → ma1 j i = ma j i) n (fun m a h1 Y => ?_) (fun k m a h1 hk Y K => ?_) n 0 (by omega) (nI (stN S), nI (wN S ^ n), (0 : Int32)) h4 ⟨rfl, _, _, Z4, pk_us, fun j _ hj => pk_un hj, fun _ _ _ _ => rfl⟩⟩
  · obtain ⟨rfl, mi1, ma1, Z1, y1, y2, y3⟩ := Y
    exact ⟨fun _ => H h1 mi1 ma1 Z1 y1 y2 y3, fun q => absurd (Int32.le_refl _) q⟩
  · obtain ⟨rfl, mi1, ma1, Z1, y1, y2, y3⟩ := Y
    have wp := wpos hr (by omega)
    have Dk := rww_cd (law := rlN S) W w4.2 k (fun j hj => hd j (by omega))
    have e1 : wN S ^ (n - k) / wN S = wN S ^ (n - 1 - k) := by
      rw [show n - k = n - 1 - k + 1 by omega, Nat.pow_succ, Nat.mul_div_cancel _ wp]
    have p1 : 0 < wN S ^ (n - 1 - k) := Nat.pow_pos wp
    have p2 := wpow_le (w := wN S) (n := n - 1 - k) hw5 (by omega)
    have p3 := wpow_le (w := wN S) (n := n - k) hw5 (by omega)
    refine ⟨fun q => absurd q ?_, fun _ => m_gI Z1.rep (mg12 _ _ _) ?_⟩
    · rw [nI_leI (by omega) (by omega)]; omega
    · rw [Z1.a12, W.2.2.1]
      dsimp only
      rw [pk_div (by omega) (by omega) (by omega), e1]
      refine ⟨nI_z (by omega) (by omega), nI_z p1 (by omega), m_gI Z1.rep (mg12 _ _ _) ?_⟩
      rw [Z1.a12, W.2.2.1]
      refine ⟨nI_z (by omega) (by omega), m_gI Z1.rep (mg16 _ _ _) ?_⟩
      have ql : row / wN S ^ (n - 1 - k) ≤ row := Nat.div_le_self _ _
      rw [Z1.a16, w5.1, pk_div (by omega) p1 (by omega), pk_rem (by omega) (by omega) (by omega)]
      refine ⟨Z1.rep.o, m_behind W Z1.rd Z1.a9 Z1.a10 Dk (hd k hk) w5.2 Z1.rep fun h5 M5 => ?_⟩
      obtain ⟨mi5, ma5, Z5, v1, v2, v3⟩ := Z1.behind M5
      refine m_gI Z5.rep (mg41 _ _ _) (m_gI Z5.rep (mg38 _ _ _) (Z5.pF (by omega) (ms41 _ _ _ _) (fun h6 Z6 => ?_)))
      refine K (_, _, _) h6 ⟨?_, _, _, Z6, ?_, fun j a b => ?_, fun j i a b => (v3 j i a b).trans (y3 j i a b)⟩
      · rw [nI_1, show n - (k + 1) = n - 1 - k by omega]
        rfl
      · rw [pk_us, v2 41 (by omega), y1, v1, nI_add]
        rfl
      · rw [pk_un b, v2 j a, y2 j a b]
end MX
