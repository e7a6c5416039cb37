/-! rows of walkers: by their numbers, and one behind the other -/
def rdg (w n row k : Nat) : Nat := row / w ^ (n - 1 - k) % w
def rww (S : SS) (law c : Nat) (d : Nat → Nat) : Nat → Nat × Nat
  | 0 => (c, 0)
  | k + 1 => (nx S law (rww S law c d k).1 (d k), (rww S law c d k).2 + (bhd S (rww S law c d k).1 (d k) law).2.2)
theorem rww_cd {S : SS} {law c : Nat} {d : Nat → Nat} (W : WFr S) (D : Cd S c) : ∀ m, (∀ k, k < m → d k < wN S) → Cd S (rww S law c d m).1
  | 0, _ => D
  | m + 1, h => Cd_nx W (rww_cd W D m (fun k hk => h k (by omega))) (h m (by omega))
theorem rww_pay {S : SS} {law c : Nat} {d : Nat → Nat} (W : WFr S) : ∀ m, (rww S law c d m).2 ≤ 27 * m
  | 0 => Nat.le_refl _
  | m + 1 => by
    have h1 := rww_pay (law := law) (c := c) (d := d) W m
    have h2 := (TB.bh (c := (rww S law c d m).1) (w := d m) (law := law) W).2.1
    show (rww S law c d m).2 + (bhd S (rww S law c d m).1 (d m) law).2.2 ≤ 27 * (m + 1)
    omega
theorem odo_a {w e t row : Nat} (hw : 1 ≤ w) (hw5 : w ≤ 5) (he : e < 4) (ht : t < 4) (hd : (row + 1) % w ^ e = 0) (hl : row / w ^ e % w + 1 < w) : (row + 1) / w ^ t % w = if e < t then row / w ^ t % w else if t = e then row / w ^ t % w + 1 else 0 := by
  have cw : w = 1 ∨ w = 2 ∨ w = 3 ∨ w = 4 ∨ w = 5 := by omega
  have ce : e = 0 ∨ e = 1 ∨ e = 2 ∨ e = 3 := by omega
  have ct : t = 0 ∨ t = 1 ∨ t = 2 ∨ t = 3 := by omega
  rcases cw with rfl | rfl | rfl | rfl | rfl <;> rcases ce with rfl | rfl | rfl | rfl <;> rcases ct with rfl | rfl | rfl | rfl <;> (simp only [Nat.reducePow] at hd hl ⊢; simp only [Nat.reduceLT, Nat.reduceEqDiff, if_true, if_false]; omega)
theorem odo_b {w e row : Nat} (hw : 1 ≤ w) (hw5 : w ≤ 5) (he : e < 4) (hd : (row + 1) % w ^ e = 0) (hl : w ≤ row / w ^ e % w + 1) : (row + 1) % w ^ (e + 1) = 0 := by
  have cw : w = 1 ∨ w = 2 ∨ w = 3 ∨ w = 4 ∨ w = 5 := by omega
  have ce : e = 0 ∨ e = 1 ∨ e = 2 ∨ e = 3 := by omega
  rcases cw with rfl | rfl | rfl | rfl | rfl <;> rcases ce with rfl | rfl | rfl | rfl <;> (simp only [Nat.reducePow, Nat.reduceAdd] at hd hl ⊢; omega)
theorem wpow_le {w n : Nat} (hw : w ≤ 5) (hn : n ≤ 4) : w ^ n ≤ 625 := Nat.le_trans (Nat.pow_le_pow_left hw n) (Nat.pow_le_pow_right (n := 5) (by omega) hn)
theorem rdg_lt {w n row k : Nat} (hw : 1 ≤ w) : rdg w n row k < w := Nat.mod_lt _ (by omega)
theorem wpos {w n row : Nat} (hr : row < w ^ n) (hn : 0 < n) : 1 ≤ w := by
  rcases Nat.eq_zero_or_pos w with e | e
  · subst e
    rw [Nat.zero_pow hn] at hr
    omega
  · exact e
theorem rdg_0 {w n k : Nat} : rdg w n 0 k = 0 := by
  unfold rdg
  rw [Nat.zero_div, Nat.zero_mod]
section ROWSC
variable {h : AH} {S : SS} {u l : Int64} {rd t : Nat} {X : Nat → Prop} {ss sl ex re ga dr rt bg ie : Int32} {fa li qu : Nat} {f : Nat → Int32}
theorem c_walkersR {K : Int32 → Prop} (W : WFr S) (C : Crod h rd S X) (H : K (nI (wN S))) : gI h rd 5 6 K := by
  obtain ⟨nn, hm, wy, fo, fn, fh, fw, ff, wa, st, x1, x2, x3, x4, x5, c1, -⟩ := C
  refine gI_of c1 rfl ?_
  rw [W.2.2.1]
  exact H
theorem c_rowsOf {n : Nat} {Q : Int32 → AH → Prop} (W : WFr S) (C : Crod h rd S X) (hn : n ≤ 4) (ho : h.2.2 14 = some (sob rd ss sl ex fa li qu re ga dr rt bg ie)) (H : Q (nI (wN S ^ n)) h) : f_X7_rowsOf 14 (nI n) h Q := by
  refine lpA (L := L_X7_rowsOf_4 Q 14 (nI n)) (fun i => nI (wN S ^ i)) n (fun k => ⟨fun _ => H, fun q => absurd (Int32.le_refl _) q⟩) (fun i k hi K => ⟨fun q => absurd q ?_, fun _ => gR_of ho rfl (c_walkersR W C ?_)⟩)
  · rw [nI_leI (by omega) (by omega)]; omega
  · rw [nI_1, pk_mul]
    exact K
theorem c_firstRow {Q : AH → Prop} (ho : h.2.2 14 = some (sob rd ss sl ex fa li qu re ga dr rt bg ie)) (hf : h.2.2 15 = some (.inl (0, 4, .inl f))) (H : ∀ g, (∀ i, i < 4 → g i = 0) → Q (aput h 15 (.inl (0, 4, .inl g)))) : f_X7_firstRow 14 h Q :=
  gR_of ho rfl (c_fill (n := 4) (by omega) hf H)
theorem c_nextRow {n row : Nat} {Q : AH → Prop} (W : WFr S) (C : Crod h rd S X) (x15 : ¬ X 15) (hn : n ≤ 4) (hr : row < wN S ^ n) (ho : h.2.2 14 = some (sob rd ss sl ex fa li qu re ga dr rt bg ie)) (hf : h.2.2 15 = some (.inl (0, 4, .inl f))) (hd : ∀ k, k < n → f k = nI (rdg (wN S) n row k))
    (H : ∀ g, (row + 1 < wN S ^ n → ∀ k, k < n → g k = nI (rdg (wN S) n (row + 1) k)) → Q (aput h 15 (.inl (0, 4, .inl g)))) : f_X7_nextRow 14 (nI n) h Q := by
  have hw5 := W.2.2.2.2.2.2.1
  have main : ∀ (i : Nat) (g : Nat → Int32), i ≤ n → (∀ k, k < i → g k = nI (rdg (wN S) n row k)) → (∀ k, i ≤ k → k < n → g k = 0) → (row + 1) % wN S ^ (n - i) = 0 → L_X7_nextRow_8 Q 14 (i + 1) (nI i - 1) (aput h 15 (.inl (0, 4, .inl g))) := by
    intro i
    induction i with
    | zero =>
      intro g hi h1 h2 h3
      refine ⟨fun _ => H g (fun z => ?_), fun q => absurd (by decide) q⟩
      rw [Nat.sub_zero, Nat.mod_eq_of_lt z] at h3
      omega
    | succ i ih =>
      intro g hi h1 h2 h3
      have wp := wpos hr (by omega)
      have ei : nI (i + 1) - 1 = nI i := by rw [show (1 : Int32) = nI 1 from rfl, pk_sub (by omega)]; rfl
      rw [ei]
      have v4 : vp_in (nI i) 4 := vp_in_nI (by omega) (by omega)
      have o1 : ∀ e, (aput h 15 e).2.2 14 = some (sob rd ss sl ex fa li qu re ga dr rt bg ie) := fun e => (aput_n h e (by omega)).trans ho
      have gi := h1 i (by omega)
      have dl : rdg (wN S) n row i < wN S := rdg_lt wp
      refine ⟨fun q => absurd q (nI_n0 (by omega)), fun _ => gR_of (o1 _) rfl (lI_of (aput_s _ _ _) v4 (sI_of (aput_s _ _ _) v4 ?_))⟩
      rw [aput_pp, nI_clamp (by omega), gi, nI_1]
      refine gR_of (o1 _) rfl (lI_of (aput_s _ _ _) v4 (gR_of (o1 _) rfl (c_walkersR W (C.put x15) ?_)))
      rw [nI_clamp (by omega), pk_us, nI_leI (by omega) (by omega)]
      have ee : n - (i + 1) = n - 1 - i := by omega
      rw [ee] at h3
      refine ⟨fun q => gR_of (o1 _) rfl (sI_of (aput_s _ _ _) v4 ?_), fun q => H _ (fun z k hk => ?_)⟩
      · rw [aput_pp, nI_clamp (by omega), show nI i + -1 = nI i - 1 from (Int32.sub_eq_add_neg _ _).symm]
        refine ih _ (by omega) (fun k hk => ?_) (fun k hk hk2 => ?_) ?_
        · rw [pk_un (by omega), pk_un (by omega)]; exact h1 k (by omega)
        · by_cases e : k = i
          · rw [e, pk_us]
          · rw [pk_un e, pk_un e]; exact h2 k (by omega) hk2
        · have := odo_b wp hw5 (e := n - 1 - i) (by omega) h3 (by unfold rdg at q; exact q)
          rw [show n - i = n - 1 - i + 1 by omega]
          exact this
      · have := odo_a wp hw5 (e := n - 1 - i) (t := n - 1 - k) (by omega) (by omega) h3 (by unfold rdg at q; omega)
        show _ = nI ((row + 1) / wN S ^ (n - 1 - k) % wN S)
        rw [this]
        by_cases e : k = i
        · subst e
          rw [pk_us, if_neg (by omega), if_pos rfl]
          rfl
        · rw [pk_un e]
          by_cases e2 : k < i
          · rw [if_pos (by omega), h1 k (by omega)]
            rfl
          · rw [if_neg (by omega), if_neg (by omega), h2 k (by omega) hk]
            rfl
  have st : ((if (4 : Int32) < nI n then (4 : Int32) else nI n) - (1 : Int32)) = nI n - 1 := by
    rw [if_neg]
    rw [show (4 : Int32) = nI 4 from rfl, nI_ltI (by omega) (by omega)]
    omega
  refine ⟨n + 1, ?_⟩
  rw [st]
  have := main n f (Nat.le_refl _) hd (fun k _ _ => by omega) (by rw [Nat.sub_self, Nat.pow_zero, Nat.mod_one])
  rw [aput_id hf] at this
  exact this
theorem c_sendRow {c n law : Nat} {bf by_ : Int32} {Q : AH → Prop} (d : Nat → Nat) (W : WFr S) (C : Crod h rd S X) (hX : ¬ X t) (t15 : t ≠ 15) (D : Cd S c) (hl : law ≤ 2) (hn : n ≤ 4) (hd : ∀ k, k < n → d k < wN S) (hf : h.2.2 15 = some (.inl (0, 4, .inl f))) (hfd : ∀ k, k < n → f k = nI (d k)) (ho : h.2.2 t = some (trip rd (nI law) bf (nI c) by_ 0 0 0))
    (H : ∀ ca mv, Q (aput h t (trip rd (nI law) bf (nI (rww S law c d n).1) by_ (nI (rww S law c d n).2) ca mv))) : f_X9_sendRow t 15 (nI n) h Q := by
  have hw5 := W.2.2.2.2.2.2.1
  refine ⟨n + 1, lpG (L := L_X9_sendRow_2 Q t 15 (nI n)) (I := fun i a h1 => a = nI i ∧ ∃ ca mv, h1 = aput h t (trip rd (nI law) bf (nI (rww S law c d i).1) by_ (nI (rww S law c d i).2) ca mv)) n (fun m a h1 Z => ?_) (fun i m a h1 hi Z K => ?_) n 0 (by omega) 0 h ⟨rfl, 0, 0, ?_⟩⟩
  · obtain ⟨rfl, ca, mv, rfl⟩ := Z
    exact ⟨fun _ => H ca mv, fun q => absurd (Int32.le_refl _) q⟩
  · obtain ⟨rfl, ca, mv, rfl⟩ := Z
    have f15 : ∀ e, (aput h t e).2.2 15 = some (.inl (0, 4, .inl f)) := fun e => (aput_n h e (Ne.symm t15)).trans hf
    have C2 : ∀ e, Crod (aput h t e) rd S X := fun e => C.put hX
    have Dk := rww_cd (law := law) W D i (fun k hk => hd k (by omega))
    refine ⟨fun q => absurd q ?_, fun _ => aL_of (f15 _) ⟨fun q => absurd q ?_, fun _ => gR_of (aput_s _ _ _) rfl (lI_of (f15 _) (vp_in_nI (by omega) (by omega)) ⟨(C2 _).o, ?_⟩)⟩⟩
    · rw [nI_leI (by omega) (by omega)]; omega
    · rw [nI_leI (by omega) (by omega)]; omega
    · rw [nI_clamp (by omega), hfd i hi]
      refine c_walkerAt W (C2 _) (hd i hi) fun wa xw hwo => ⟨fun q => (by cases q), fun a4 q => ?_⟩
      cases q
      have wt : wa ≠ t := fun z => hX (z ▸ xw)
      have hwo' : h.2.2 wa = some (wob S (d i)) := (aput_n h _ wt).symm.trans hwo
      have := c_goK (bf := bf) (by_ := by_) (py := nI (rww S law c d i).2) (ca := ca) (mv := mv) (Q := fun h7 => L_X9_sendRow_2 Q t 15 (nI n) m (nI i + 1) h7) W C hX Dk hl (hd i hi) hwo' wt ?_
      · rw [ts_0 Dk.1] at this
        exact this
      · rw [nI_1]
        refine K _ _ ⟨rfl, ca + nI (sm (bhd S (rww S law c d i).1 (d i) law).2.1 (sN S)), mv + nI (cod (bhd S (rww S law c d i).1 (d i) law).2.1 (sN S)), ?_⟩
        show aput h t (trip rd (nI law) bf (nI (nx S law (rww S law c d i).1 (d i))) by_ (nI (rww S law c d i).2 + nI (bhd S (rww S law c d i).1 (d i) law).2.2) _ _) = _
        rw [nI_add]
        rfl
  · exact (aput_id ho).symm
end ROWSC
