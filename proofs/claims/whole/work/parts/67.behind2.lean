section MB2
variable {S : SS} {h0 h : AH} {mi0 mi : Nat → Int32} {u l : Int64} {ma0 ma : Nat → Nat → Int32} {T : TR}
theorem TI.bh {c w law : Nat} (W : WFr S) (D : Cd S c) (hw : w < wN S) : TI S (bhd S c w law) := by
  obtain ⟨w1, w2, w3, w4, w5, w6, w7⟩ := W.2.2.2.2.2.2.2.2.2.2 w hw
  have I := TI.zero D
  have hn := nxt_lt w4 w6
  have I1 : TI S (if kd S w = 4 then (match tk S (tr0 c).1 (fr S w) 1 with | none => tr0 c | some k => tput S (tr0 c) k 7) else crr S law (fr S w) (if kd S w = 3 then nxt (fr S w) (to_ S w) else to_ S w) (if kd S w = 1 then 3 else 1) (decide (kd S w = 5)) (tr0 c)) := by
    split
    · split
      · exact I
      · exact I.put (Or.inr rfl)
    · refine I.cr w4 ?_
      split <;> assumption
  unfold bhd
  dsimp only
  split
  · exact I1.cr w6 w4
  · exact I1
theorem Cd_cod {T : TR} (W : WFr S) (I : TI S T) : Cd S (cod T.1 (sN S)) := ⟨(cod_b W I).1, fun k hk => by rw [dig_T W I k hk]; exact I k hk⟩
theorem Cd_nx {c w law : Nat} (W : WFr S) (D : Cd S c) (hw : w < wN S) : Cd S (nx S law c w) := Cd_cod W (TI.bh W D hw)
/-- how much one walk moves and pays at most; nothing of stones that aren't -/
def TB (S : SS) (m : Nat) (T : TR) : Prop := (∀ k, T.2.1 k ≤ m) ∧ T.2.2 ≤ 9 * m ∧ ∀ k, sN S ≤ k → T.2.1 k = 0
theorem TB.le {m m1 : Nat} (B : TB S m T) (hm : m ≤ m1) : TB S m1 T := ⟨fun k => Nat.le_trans (B.1 k) hm, by have := B.2.1; omega, B.2.2⟩
theorem TB.put {m k q : Nat} (W : WFr S) (B : TB S m T) (hk : k < sN S) : TB S (m + 1) (tput S T k q) := by
  have n1 := (W.2.2.2.2.2.2.2.2.1 k hk).2
  unfold tput
  refine ⟨fun j => ?_, ?_, fun j hj => ?_⟩
  · dsimp only
    have := B.1 j
    split <;> omega
  · dsimp only
    have := B.2.1
    omega
  · dsimp only
    rw [if_neg (by omega)]
    exact B.2.2 j hj
theorem TB.mv {law p q : Nat} (W : WFr S) : ∀ {n m : Nat} {T : TR}, TB S m T → TB S (m + n) (tmv S law p q n T)
  | 0, m, T, B => B
  | n + 1, m, T, B => by
    unfold tmv
    split
    · exact (TB.mv W B).le (by omega)
    · rename_i k hk
      have := TB.mv (law := law) (p := p) (q := q) W (n := n) (B.put (q := q) W (tkn_lt hk))
      exact this.le (by omega)
theorem TB.cr {m law a b much : Nat} {far : Bool} (W : WFr S) (B : TB S m T) : TB S (m + much) (crr S law a b much far T) := by
  unfold crr
  dsimp only
  split
  · exact B.le (by omega)
  · exact TB.mv W B
theorem TB.zero {c : Nat} : TB S 0 (tr0 c) := ⟨fun _ => Nat.le_refl _, Nat.zero_le _, fun _ _ => rfl⟩
theorem TB.bh {c w law : Nat} (W : WFr S) : TB S 3 (bhd S c w law) := by
  unfold bhd
  dsimp only
  by_cases e : kd S w = 4
  · rw [if_pos e, if_neg (by omega)]
    split
    · exact TB.zero.le (by omega)
    · rename_i k hk
      exact (TB.zero.put W (tkn_lt hk)).le (by omega)
  · rw [if_neg e]
    by_cases f : kd S w = 1
    · rw [if_neg (by omega), if_pos f]
      exact (TB.zero.cr W).le (by omega)
    · rw [if_neg f]
      split
      · exact ((TB.zero.cr W).cr W).le (by omega)
      · exact (TB.zero.cr W).le (by omega)
theorem m_spread {c : Nat} {Q : AH → Prop} (W : WFr S) (A10 : mi 10 = S 8 0 0) (hc : c < 32768) (R : RepM h mi u l ma) (H : ∀ h1, MS S h mi u l ma (tr0 c) h1 → Q h1) : f_X12_spread 102 (nI c) h Q := by
  have hs5 := W.2.2.2.2.2.1
  have main : ∀ (m i : Nat) (h1 : AH) (ma1 : Nat → Nat → Int32), i + m = 5 → RepM h1 mi u l ma1 → Mag h h1 → (∀ j x, j ≠ 22 → j ≠ 23 → ma1 j x = ma j x) → (∀ k, k < i → k < sN S → ma1 22 k = nI (dig c k)) → (∀ k, k < i → ma1 23 k = 0) → L_X12_spread_2 Q 102 (nI c) (m + 1) (nI i) h1 := by
    intro m
    induction m with
    | zero =>
      intro i h1 ma1 hi r1 a1 b1 b2 b3
      have : i = 5 := by omega
      subst this
      refine ⟨fun _ => m_pF r1 (by omega) (ms38 _ _ _ _) (fun h2 r2 a2 => H h2 ⟨_, _, r2, a1.tr a2, fun j hj => pk_un hj, b1, fun k hk => b2 k (by omega) hk, fun k hk => b3 k hk, pk_us⟩), fun q => absurd (by decide) q⟩
    | succ m ih =>
      intro i h1 ma1 hi r1 a1 b1 b2 b3
      have go : ∀ x : Int32, (i < sN S → x = nI (dig c i)) → B_X12_spread_33 Q (L_X12_spread_2 Q 102 (nI c) (m + 1)) 102 (nI c) (nI i) 125 (nI i) x h1 := by
        intro x hx
        refine m_sI r1 (j := 22) rfl rfl rfl (vp_in_nI (by omega) (by omega)) (fun h2 r2 a2 => m_gR r2 (mr37 _ _ _) (m_sI r2 (j := 23) rfl rfl rfl (vp_in_nI (by omega) (by omega)) (fun h3 r3 a3 => ?_)))
        rw [nI_1]
        rw [nI_clamp (by omega)] at r3
        refine ih (i + 1) h3 _ (by omega) r3 ((a1.tr a2).tr a3) (fun j y e1 e2 => ?_) (fun k hk hs => ?_) (fun k hk => ?_)
        · rw [va_up_ne _ _ e2, va_up_ne _ _ e1, b1 j y e1 e2]
        · rw [va_up_ne _ _ (by omega), va_up_self]
          by_cases e : k = i
          · rw [e, pk_us, hx (by omega)]
          · rw [pk_un e, b2 k (by omega) hs]
        · rw [va_up_self]
          by_cases e : k = i
          · rw [e, pk_us]
          · rw [pk_un e, va_up_ne _ _ (by omega), b3 k (by omega)]
      refine ⟨fun q => absurd q (by rw [show (5 : Int32) = nI 5 from rfl, nI_leI (by omega) (by omega)]; omega), fun _ => m_gR r1 (mr36 _ _ _) (m_gI r1 (mg10 _ _ _) ?_)⟩
      rw [A10, W.2.1, nI_leI (by omega) (by omega)]
      refine ⟨fun q => go _ (fun z => by omega), fun q => go _ (fun z => b_shr (by omega) (by omega))⟩
  exact ⟨6, main 5 0 h ma (by omega) R Mag.rf (fun _ _ _ _ => rfl) (fun k hk => by omega) (fun k hk => by omega)⟩
theorem m_join {Q : Int32 → AH → Prop} (W : WFr S) (A10 : mi0 10 = S 8 0 0) (I : TI S T) (M : MS S h0 mi0 u l ma0 T h) (H : Q (nI (cod T.1 (sN S))) h) : ∃ n, L_X12_behind_169 Q 102 n (0 : Int32) (0 : Int32) h := by
  have hs5 := W.2.2.2.2.2.1
  obtain ⟨mi, ma, R, -, m1, m2, m3, -⟩ := id M
  have main : ∀ (m k : Nat), k + m = sN S → L_X12_behind_169 Q 102 (m + 1) (nI (cod T.1 k)) (nI k) h := by
    intro m
    induction m with
    | zero =>
      intro k hk
      have : k = sN S := by omega
      subst this
      refine m_gI R (mg10 _ _ _) ?_
      rw [m1 10 (by omega), A10, W.2.1]
      exact ⟨fun _ => H, fun q => absurd (Int32.le_refl _) q⟩
    | succ m ih =>
      intro k hk
      refine m_gI R (mg10 _ _ _) ?_
      rw [m1 10 (by omega), A10, W.2.1, nI_leI (by omega) (by omega)]
      refine ⟨fun q => by omega, fun _ => m_gR R (mr36 _ _ _) (m_lI R (j := 22) rfl rfl rfl (vp_in_nI (by omega) (by omega)) ?_)⟩
      rw [nI_clamp (by omega), m3 k (by omega), b_or (by omega) (fun j hj => I.lt W (by omega)), nI_1]
      exact ih (k + 1) (by omega)
  exact ⟨sN S + 1, main (sN S) 0 (by omega)⟩
theorem m_kind {w : Nat} {K : Int32 → Prop} (W : WFr S) (Rd : LkR S ma0) (M : MS S h0 mi0 u l ma0 T h) (hw : w < wN S) (H : K (nI (kd S w))) : gR h 102 12 13 (fun a => lI h a (nI w) K) := by
  obtain ⟨mi, ma, R, -, -, m2, -⟩ := M
  have hs5 := W.2.2.2.2.2.2.1
  refine m_gR R (mr13 _ _ _) (m_lI R (j := 6) rfl rfl rfl (vp_in_nI (by omega) (by omega)) ?_)
  rw [nI_clamp (by omega), m2 6 w (by omega) (by omega), (Rd.2 w hw).1, (W.2.2.2.2.2.2.2.2.2.2 w hw).1]
  exact H
theorem m_from {w : Nat} {K : Int32 → Prop} (W : WFr S) (Rd : LkR S ma0) (M : MS S h0 mi0 u l ma0 T h) (hw : w < wN S) (H : K (nI (fr S w))) : gR h 102 12 14 (fun a => lI h a (nI w) K) := by
  obtain ⟨mi, ma, R, -, -, m2, -⟩ := M
  have hs5 := W.2.2.2.2.2.2.1
  refine m_gR R (mr14 _ _ _) (m_lI R (j := 7) rfl rfl rfl (vp_in_nI (by omega) (by omega)) ?_)
  rw [nI_clamp (by omega), m2 7 w (by omega) (by omega), (Rd.2 w hw).2.1, (W.2.2.2.2.2.2.2.2.2.2 w hw).2.2.1]
  exact H
theorem m_to {w : Nat} {K : Int32 → Prop} (W : WFr S) (Rd : LkR S ma0) (M : MS S h0 mi0 u l ma0 T h) (hw : w < wN S) (H : K (nI (to_ S w))) : gR h 102 12 15 (fun a => lI h a (nI w) K) := by
  obtain ⟨mi, ma, R, -, -, m2, -⟩ := M
  have hs5 := W.2.2.2.2.2.2.1
  refine m_gR R (mr15 _ _ _) (m_lI R (j := 8) rfl rfl rfl (vp_in_nI (by omega) (by omega)) ?_)
  rw [nI_clamp (by omega), m2 8 w (by omega) (by omega), (Rd.2 w hw).2.2, (W.2.2.2.2.2.2.2.2.2.2 w hw).2.2.2.2.1]
  exact H
theorem m_behind {c w law : Nat} {Q : Int32 → AH → Prop} (W : WFr S) (Rd : LkR S ma) (A9 : mi 9 = S 7 0 0) (A10 : mi 10 = S 8 0 0) (D : Cd S c) (hw : w < wN S) (hl : law ≤ 2) (R : RepM h mi u l ma)
    (H : ∀ h1, MS S h mi u l ma (bhd S c w law) h1 → Q (nI (nx S law c w)) h1) : f_X12_behind 102 (nI c) (nI w) (nI law) h Q := by
  obtain ⟨w1, w2, w3, w4, w5, w6, w7⟩ := W.2.2.2.2.2.2.2.2.2.2 w hw
  have hp7 := W.2.2.2.1
  have hs5 := W.2.2.2.2.2.1
  have I := TI.zero D
  have hn := nxt_lt w4 w6
  have k4 : (4 : Int32) = nI 4 := rfl
  refine ⟨R.o, m_spread W A10 (Cd_lt W D) R fun h1 M => m_from W Rd M hw (m_to W Rd M hw ?_)⟩
  -- what comes last
  have last : ∀ (t1 : TR) (h2 : AH), TI S t1 → MS S h mi u l ma t1 h2 → (∀ h3, MS S h mi u l ma (if kd S w = 2 ∨ kd S w = 5 then crr S law (to_ S w) (fr S w) 1 (decide (kd S w = 5)) t1 else t1) h3 → Q (nI (cod (if kd S w = 2 ∨ kd S w = 5 then crr S law (to_ S w) (fr S w) 1 (decide (kd S w = 5)) t1 else t1).1 (sN S))) h3) → B_X12_behind_136 Q 102 (nI w) (nI law) (nI (fr S w)) (nI (to_ S w)) (if decide (kd S w = 5) then 1 else 0) h2 := by
    intro t1 h2 I2 M2 H2
    refine m_kind W Rd M2 hw ?_
    rw [show (2 : Int32) = nI 2 from rfl, nI_eqI (by omega) (by omega)]
    have both : kd S w = 2 ∨ kd S w = 5 → B_X12_behind_151 Q 102 (nI law) (nI (fr S w)) (nI (to_ S w)) (if decide (kd S w = 5) then 1 else 0) h2 := by
      intro z
      rw [if_pos z] at H2
      refine ⟨M2.o, m_carries (much := 1) W Rd A9 A10 w6 w4 hl (by omega) (by omega) I2 M2 fun h3 M3 => m_join W A10 (I2.cr w6 w4) M3 (H2 h3 M3)⟩
    refine ⟨fun q => both (Or.inl q), fun q => ⟨fun z => ?_, fun z => ?_⟩⟩
    · have : ¬ (kd S w = 2 ∨ kd S w = 5) := by
        rintro (y | y)
        · exact q y
        · rw [y] at z; exact absurd z (by decide)
      rw [if_neg this] at H2
      exact m_join W A10 I2 M2 (H2 h2 M2)
    · refine both (Or.inr ?_)
      by_cases y : kd S w = 5
      · exact y
      · rw [decide_eq_false y] at z
        exact absurd rfl z
  unfold nx bhd at H
  dsimp only at H
  have mid : ∀ v6, v6 = nI (nxt (fr S w) (to_ S w)) → B_X12_behind_39 Q 102 (nI w) (nI law) (nI (fr S w)) (nI (to_ S w)) v6 h1 := by
    intro v6 e6
    subst e6
    have go : B_X12_behind_56 Q 102 (nI w) (nI law) (nI (fr S w)) (nI (to_ S w)) (nI (nxt (fr S w) (to_ S w))) (if decide (kd S w = 5) then 1 else 0) h1 := by
      refine m_kind W Rd M hw ?_
      rw [show (4 : Int32) = nI 4 from rfl, nI_eqI (by omega) (by omega)]
      refine ⟨fun q => m_kind W Rd M hw ?_, fun q => ⟨M.o, m_taken (law := 1) W Rd A9 A10 I M (by omega) (by omega) (fun z => ⟨fun _ => ?_, fun y => absurd rfl y⟩) (fun k z hk => ⟨fun y => absurd y (nI_nn k (by omega)), fun _ => ⟨M.o, m_put_ (q := 7) W Rd M hk fun h2 M2 => ?_⟩⟩)⟩⟩
      · rw [if_neg q] at H
        rw [show (3 : Int32) = nI 3 from rfl, nI_eqI (by omega) (by omega)]
        have car : ∀ (b : Nat), b = (if kd S w = 3 then nxt (fr S w) (to_ S w) else to_ S w) → B_X12_behind_115 Q 102 (nI w) (nI law) (nI (fr S w)) (nI (to_ S w)) (if decide (kd S w = 5) then 1 else 0) 102 (nI (fr S w)) (nI b) h1 := by
          intro b hb
          rw [← hb] at H
          have hbp : b < pN S := by rw [hb]; split <;> assumption
          have ld : ∀ much, (1 ≤ much ∧ much ≤ 3) → much = (if kd S w = 1 then 3 else 1) → B_X12_behind_131 Q 102 (nI w) (nI law) (nI (fr S w)) (nI (to_ S w)) (if decide (kd S w = 5) then 1 else 0) 102 (nI (fr S w)) (nI b) (nI law) (nI much) h1 := by
            intro much hm e
            rw [← e] at H
            exact ⟨M.o, m_carries W Rd A9 A10 w4 hbp hl hm.1 hm.2 I M fun h2 M2 => last _ h2 (I.cr w4 hbp) M2 H⟩
          refine m_kind W Rd M hw ?_
          rw [show (1 : Int32) = nI 1 from rfl, nI_eqI (by omega) (by omega)]
          refine ⟨fun y => ld 1 (by omega) (by rw [if_neg y]), fun y => ld 3 (by omega) (by rw [if_pos y])⟩
        refine ⟨fun y => car _ (by rw [if_neg y]), fun y => car _ (by rw [if_pos y])⟩
      · rw [if_pos q, z] at H
        exact last _ h1 I M H
      · rw [if_pos q, z] at H
        exact last _ h2 (I.put (Or.inr rfl)) M2 H
    refine m_kind W Rd M hw ?_
    rw [show (5 : Int32) = nI 5 from rfl, nI_eqI (by omega) (by omega)]
    refine ⟨fun q => ?_, fun q => ?_⟩
    · rw [decide_eq_false q] at go; exact go
    · rw [decide_eq_true q] at go; exact go
  have e1 : (1 : Int32) = nI 1 := rfl
  refine ⟨fun q => mid _ ?_, fun q => mid _ ?_⟩
  · rw [nI_leI (by omega) (by omega)] at q
    unfold nxt
    rw [if_neg (by omega), e1, pk_sub (by omega)]
  · rw [nI_leI (by omega) (by omega)] at q
    unfold nxt
    rw [if_pos (by omega), nI_1]
end MB2
