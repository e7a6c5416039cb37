/-! the class's walkers walk as the spec says -/
theorem fpo_near {S : SS} {sp : Nat → Nat} {law p b : Nat} (hpb : p ≠ b) : fpo S sp law (nxt p b) 8 p = (match tk S sp p law with | none => nxt p b | some _ => p) := by
  have h1 : p ≠ nxt p b := by unfold nxt; split <;> omega
  have h2 : nxt p (nxt p b) = nxt p b := by unfold nxt; split <;> split <;> omega
  show (if p = nxt p b then p else match tk S sp p law with | none => fpo S sp law (nxt p b) 7 (nxt p (nxt p b)) | some _ => p) = _
  rw [if_neg h1, h2]
  cases tk S sp p law with
  | none =>
    show (if nxt p b = nxt p b then nxt p b else _) = nxt p b
    rw [if_pos rfl]
  | some k => rfl
theorem tmv_none {S : SS} {law p q : Nat} {T : TR} (h : tk S T.1 p law = none) : ∀ n, tmv S law p q n T = T
  | 0 => rfl
  | n + 1 => by unfold tmv; rw [h]; exact tmv_none h n
theorem tmv_some {S : SS} {law p q k n : Nat} {T : TR} (h : tk S T.1 p law = some k) : tmv S law p q (n + 1) T = tmv S law p q n (tput S T k q) := by
  show (match tk S T.1 p law with | none => tmv S law p q n T | some k => tmv S law p q n (tput S T k q)) = _
  rw [h]
theorem crr_none {S : SS} {law a b much : Nat} {far : Bool} {T : TR} (h : fpo S T.1 law b 8 a = b) : crr S law a b much far T = T := by
  unfold crr
  dsimp only
  rw [h, if_pos rfl]
theorem crr_some {S : SS} {law a b much p : Nat} {far : Bool} {T : TR} (h : fpo S T.1 law b 8 a = p) (hp : p ≠ b) : crr S law a b much far T = tmv S law p (if far then b else nxt p b) much T := by
  unfold crr
  dsimp only
  rw [h, if_neg hp]
section GO
variable {h : AH} {S : SS} {rd t : Nat} {X : Nat → Prop} {bf by_ py ca mv : Int32}
theorem m1_lt : (-1 : Int32) < 0 := by decide
theorem nI_n0 {k : Nat} (hk : k < 2 ^ 31) : ¬ nI k < 0 := by rw [tl, nI_toInt hk, show (0 : Int32).toInt = 0 from rfl]; omega
theorem c_goal {hh : AH} {wa ci p b : Nat} {fs : List Value} {K : Int32 → AH → Prop} (hw : hh.2.2 wa = some (.inr (ci, fs))) (hci : ci = 0 ∨ ci = 1 ∨ ci = 2 ∨ ci = 3 ∨ ci = 8 ∨ ci = 10) (hp : p < 9) (hb : b < 9) (hpb : p ≠ b) (H : K (nI (if decide (ci = 3) then b else nxt p b)) hh) : v_goalFrom0 wa (nI p) (nI b) hh K := by
  refine ⟨ci, fs, hw, ?_⟩
  rcases hci with e | e | e | e | e | e
  · refine Or.inl ⟨e, c_next hp hb hpb ?_⟩; subst e; exact H
  · refine Or.inr (Or.inl ⟨e, c_next hp hb hpb ?_⟩); subst e; exact H
  · refine Or.inr (Or.inr (Or.inl ⟨e, c_next hp hb hpb ?_⟩)); subst e; exact H
  · refine Or.inr (Or.inr (Or.inr (Or.inl ⟨e, ?_⟩))); subst e; exact H
  · refine Or.inr (Or.inr (Or.inr (Or.inr (Or.inl ⟨e, c_next hp hb hpb ?_⟩)))); subst e; exact H
  · refine Or.inr (Or.inr (Or.inr (Or.inr (Or.inr ⟨e, c_next hp hb hpb ?_⟩)))); subst e; exact H
theorem c_one {T : TR} {law a b wa ci : Nat} {fs : List Value} {Q : AH → Prop} (W : WFr S) (C : Crod h rd S X) (hX : ¬ X t) (I : TI S T) (hl : law ≤ 2) (ha : a < pN S) (hb : b < pN S)
    (hw : h.2.2 wa = some (.inr (ci, fs))) (wt : wa ≠ t) (hci : ci = 0 ∨ ci = 1 ∨ ci = 2 ∨ ci = 3 ∨ ci = 8 ∨ ci = 10)
    (H : Q (aput h t (ts S rd (nI law) bf by_ py ca mv (crr S law a b 1 (decide (ci = 3)) T)))) :
    f_X10_goOneWay wa t (nI a) (nI b) (aput h t (ts S rd (nI law) bf by_ py ca mv T)) Q := by
  have hp7 := W.2.2.2.1
  have hs5 := W.2.2.2.2.2.1
  refine gI_of (aput_s h t _) rfl ⟨isO_of (aput_s h t _), c_firstT W C hX I hl ha hb (fun e => ⟨fun _ => ?_, fun q => absurd m1_lt q⟩) (fun p k e1 e2 e3 e4 e5 e6 => ⟨fun q => absurd q (nI_n0 (by omega)), fun _ => ⟨isO_of (aput_s h t _), gI_of (aput_s h t _) rfl ?_⟩⟩)⟩
  · rw [crr_none e] at H; exact H
  · rw [crr_some e1 e2, tmv_some e4] at H
    unfold f_X5_postOf
    rw [b_post (by have := (cod_b W I).2; omega) (by omega), dig_T W I k e5, e6]
    refine c_goal ((aput_n h _ wt).trans hw) hci (by omega) (by omega) e2 ⟨isO_of (aput_s h t _), c_carry W C hX I e5 ?_ H⟩
    split
    · omega
    · have := nxt_lt e3 hb; omega
theorem gW_of {hh : AH} {a ci k : Nat} {fs : List Value} {x : Int32} {K : Int32 → Prop} (hc : hh.2.2 a = some (.inr (ci, fs))) (hci : ci ∈ wkl) (hk : fs[k]? = some (.int x)) (H : K x) : gW hh a k K := ⟨ci, fs, x, hci, hc, hk, H⟩
theorem c_load {law p b : Nat} {Q : AH → Prop} (W : WFr S) (C : Crod h rd S X) (hX : ¬ X t) (hl : law ≤ 2) (hp : p < pN S) (hb : b < pN S) (hpb : p ≠ b) : ∀ (m i : Nat) (T : TR) (v2 : Int32), i + m = 3 → TI S T →
    ((v2 = -1 ∧ tk S T.1 p law = none) ∨ ∃ k, v2 = nI k ∧ k < sN S ∧ tk S T.1 p law = some k) → Q (aput h t (ts S rd (nI law) bf by_ py ca mv (tmv S law p (nxt p b) m T))) →
    L_X1_go_40 Q t (nI p) (nI (nxt p b)) (m + 1) v2 (nI i) (aput h t (ts S rd (nI law) bf by_ py ca mv T)) := by
  have hp7 := W.2.2.2.1
  have hs5 := W.2.2.2.2.2.1
  have hq := nxt_lt hp hb
  intro m
  induction m with
  | zero =>
    intro i T v2 hi I hv H
    have : i = 3 := by omega
    subst this
    exact ⟨fun _ => H, fun q => absurd (by decide) q⟩
  | succ m ih =>
    intro i T v2 hi I hv H
    refine ⟨fun q => absurd q ?_, fun _ => ?_⟩
    · rw [show (3 : Int32) = nI 3 from rfl, nI_leI (by omega) (by omega)]; omega
    rcases hv with ⟨e, n⟩ | ⟨k, e, hk, n⟩
    · refine ⟨fun _ => ?_, fun q => absurd (by rw [e]; exact m1_lt) q⟩
      rw [tmv_none n] at H
      exact H
    · rw [tmv_some n] at H
      subst e
      refine ⟨fun q => absurd q (nI_n0 (by omega)), fun _ => ⟨isO_of (aput_s h t _), c_carry W C hX I hk (by omega) (gI_of (aput_s h t _) rfl ⟨isO_of (aput_s h t _), c_firstT W C hX (I.put (Or.inl hq)) hl hp hq (fun e => ?_) (fun p2 k2 e1 e2 e3 e4 e5 e6 => ?_)⟩)⟩⟩
      · rw [nI_1]
        refine ih _ _ _ (by omega) (I.put (Or.inl hq)) (Or.inl ⟨rfl, ?_⟩) H
        rw [fpo_near hpb] at e
        cases z : tk S (tput S T k (nxt p b)).1 p law with
        | none => rfl
        | some y =>
          rw [z] at e
          dsimp only at e
          exact absurd e (by unfold nxt; split <;> omega)
      · rw [nI_1]
        refine ih _ _ _ (by omega) (I.put (Or.inl hq)) (Or.inr ⟨k2, rfl, e5, ?_⟩) H
        rw [fpo_near hpb] at e1
        cases z : tk S (tput S T k (nxt p b)).1 p law with
        | none =>
          rw [z] at e1
          exact absurd e1.symm e2
        | some y =>
          rw [z] at e1
          dsimp only at e1
          subst e1
          rw [z] at e4
          exact e4
/-- what a walker's object is -/
abbrev wob (S : SS) (w : Nat) : va_E := .inr (kcl (kd S w), [.int (nI (fr S w)), .int (nI (to_ S w))])
theorem c_goK {c w law wa : Nat} {Q : AH → Prop} (W : WFr S) (C : Crod h rd S X) (hX : ¬ X t) (D : Cd S c) (hl : law ≤ 2) (hw : w < wN S) (ho : h.2.2 wa = some (wob S w)) (wt : wa ≠ t)
    (H : Q (aput h t (ts S rd (nI law) bf by_ py ca mv (bhd S c w law)))) : v_go1 wa t (aput h t (ts S rd (nI law) bf by_ py ca mv (tr0 c))) Q := by
  obtain ⟨w1, w2, w3, w4, w5, w6, w7⟩ := W.2.2.2.2.2.2.2.2.2.2 w hw
  have hp7 := W.2.2.2.1
  have hs5 := W.2.2.2.2.2.1
  have I := TI.zero D
  have hn := nxt_lt w4 w6
  have ho' : ∀ e, (aput h t e).2.2 wa = some (wob S w) := fun e => (aput_n h e wt).trans ho
  unfold bhd at H
  dsimp only at H
  have cs : kd S w = 0 ∨ kd S w = 1 ∨ kd S w = 2 ∨ kd S w = 3 ∨ kd S w = 4 ∨ kd S w = 5 := by omega
  rcases cs with e | e | e | e | e | e
  all_goals
    unfold wob kcl at ho ho'
    rw [e] at ho ho' H
    simp only [Nat.reduceEqDiff, if_true, if_false] at ho ho' H
  · refine ⟨10, _, ho' _, Or.inr (Or.inr (Or.inr (Or.inr (Or.inr ⟨rfl, gW_of (ho' _) (by decide) rfl (gW_of (ho' _) (by decide) rfl ⟨10, _, ho' _, Or.inr (Or.inr (Or.inr (Or.inr (Or.inr ⟨rfl, c_one W C hX I hl w4 w6 ho wt (by omega) ?_⟩))))⟩)⟩))))⟩
    simpa using H
  · refine ⟨1, _, ho' _, Or.inr (Or.inl ⟨rfl, gW_of (ho' _) (by decide) rfl (gW_of (ho' _) (by decide) rfl (gI_of (aput_s h t _) rfl ⟨isO_of (aput_s h t _), c_firstT W C hX I hl w4 w6 (fun e => ⟨isO_of (aput_s h t _), gI_of (aput_s h t _) rfl ?_⟩) (fun p k e1 e2 e3 e4 e5 e6 => ⟨isO_of (aput_s h t _), gI_of (aput_s h t _) rfl ?_⟩)⟩))⟩)⟩
    · rw [crr_none e] at H
      refine gW_of (ho' _) (by decide) rfl ⟨fun _ => ⟨1, ?_⟩, fun _ => ⟨1, ?_⟩⟩ <;> exact ⟨fun q => absurd q (by decide), fun _ => ⟨fun _ => by simpa using H, fun q => absurd m1_lt q⟩⟩
    · rw [if_neg (nI_n0 (by omega))]
      unfold f_X5_postOf
      rw [b_post (by have := (cod_b W I).2; omega) (by omega), dig_T W I k e5, e6]
      refine gW_of (ho' _) (by decide) rfl (c_next (by omega) (by omega) e2 ⟨4, c_load W C hX hl e3 w6 e2 3 0 _ _ rfl I (Or.inr ⟨k, rfl, e5, e4⟩) ?_⟩)
      rw [crr_some e1 e2] at H
      simpa using H
  · refine ⟨0, _, ho' _, Or.inl ⟨rfl, gW_of (ho' _) (by decide) rfl (gW_of (ho' _) (by decide) rfl ⟨0, _, ho' _, Or.inl ⟨rfl, c_one W C hX I hl w4 w6 ho wt (by omega) (gW_of (ho' _) (by decide) rfl (gW_of (ho' _) (by decide) rfl ⟨0, _, ho' _, Or.inl ⟨rfl, c_one W C hX (I.cr w4 w6) hl w6 w4 ho wt (by omega) ?_⟩⟩))⟩⟩)⟩⟩
    simpa using H
  · refine ⟨2, _, ho' _, Or.inr (Or.inr (Or.inl ⟨rfl, gW_of (ho' _) (by decide) rfl (gW_of (ho' _) (by decide) rfl (gW_of (ho' _) (by decide) rfl (c_next (by omega) (by omega) w7 ⟨2, _, ho' _, Or.inl ⟨rfl, c_one W C hX I hl w4 hn ho wt (by omega) ?_⟩⟩)))⟩))⟩
    simpa using H
  · refine ⟨8, _, ho' _, Or.inr (Or.inr (Or.inr (Or.inr (Or.inl ⟨rfl, isO_of (ho' _), gW_of (ho' _) (by decide) rfl (gW_of (ho' _) (by decide) rfl (gW_of (ho' _) (by decide) rfl (c_next (by omega) (by omega) w7 ⟨isO_of (aput_s h t _), c_firstT (law := 1) W C hX I (by omega) w4 hn (fun e => ⟨isO_of (aput_s h t _), ⟨fun _ => ?_, fun q => absurd m1_lt q⟩⟩) (fun p k e1 e2 e3 e4 e5 e6 => ⟨isO_of (aput_s h t _), c_carry (q := 7) W C hX I e5 (by omega) ?_⟩)⟩)))⟩))))⟩
    · rw [fpo_near w7] at e
      cases z : tk S (tr0 c).1 (fr S w) 1 with
      | none =>
        rw [z] at H
        simpa using H
      | some y =>
        rw [z] at e
        dsimp only at e
        exact absurd e (by unfold nxt; split <;> omega)
    · rw [fpo_near w7] at e1
      cases z : tk S (tr0 c).1 (fr S w) 1 with
      | none =>
        rw [z] at e1
        exact absurd e1.symm e2
      | some y =>
        rw [z] at e1 H
        dsimp only at e1
        subst e1
        rw [z] at e4
        have : y = k := Option.some.inj e4
        subst this
        simpa using H
  · refine ⟨3, _, ho' _, Or.inr (Or.inr (Or.inr (Or.inl ⟨rfl, gW_of (ho' _) (by decide) rfl (gW_of (ho' _) (by decide) rfl ⟨3, _, ho' _, Or.inr ⟨rfl, c_one W C hX I hl w4 w6 ho wt (by omega) (gW_of (ho' _) (by decide) rfl (gW_of (ho' _) (by decide) rfl ⟨3, _, ho' _, Or.inr ⟨rfl, c_one W C hX (I.cr w4 w6) hl w6 w4 ho wt (by omega) ?_⟩⟩))⟩⟩)⟩)))⟩
    simpa using H
end GO
