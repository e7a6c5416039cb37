/-! the class's trips follow the spec's -/
def sm (f : Nat → Nat) : Nat → Nat
  | 0 => 0
  | n + 1 => sm f n + f n
theorem sm_inc {f : Nat → Nat} {k : Nat} : ∀ {n : Nat}, k < n → sm (fun j => if j = k then f j + 1 else f j) n = sm f n + 1
  | 0, hk => by omega
  | n + 1, hk => by
    unfold sm
    by_cases e : n = k
    · rw [if_pos e]
      have : sm (fun j => if j = k then f j + 1 else f j) n = sm f n := by
        have gen : ∀ m, m ≤ k → sm (fun j => if j = k then f j + 1 else f j) m = sm f m := by
          intro m
          induction m with
          | zero => intro _; rfl
          | succ m ih => intro hm; unfold sm; rw [ih (by omega), if_neg (by omega)]
        exact gen n (by omega)
      omega
    · rw [if_neg e, sm_inc (by omega)]; omega
theorem cod_inc {f : Nat → Nat} {k : Nat} : ∀ {n : Nat}, k < n → cod (fun j => if j = k then f j + 1 else f j) n = cod f n + 8 ^ k
  | 0, hk => by omega
  | n + 1, hk => by
    unfold cod
    by_cases e : n = k
    · rw [if_pos e, cod_cong (g := f) (fun j hj => if_neg (by omega)), Nat.add_mul, e]; omega
    · rw [if_neg e, cod_inc (by omega)]; omega
theorem tkn_cong {S : SS} {sp sq : Nat → Nat} {p law : Nat} : ∀ {n : Nat}, (∀ k, k < n → sp k = sq k) → tkn S sp p law n = tkn S sq p law n
  | 0, _ => rfl
  | n + 1, h => by unfold tkn; rw [tkn_cong (fun k hk => h k (by omega)), h n (by omega)]
theorem tk_cong {S : SS} {sp sq : Nat → Nat} {p law : Nat} (h : ∀ k, k < sN S → sp k = sq k) : tk S sp p law = tk S sq p law := tkn_cong h
theorem fpo_cong {S : SS} {sp sq : Nat → Nat} {law b : Nat} (h : ∀ k, k < sN S → sp k = sq k) : ∀ n a, fpo S sp law b n a = fpo S sq law b n a
  | 0, a => rfl
  | n + 1, a => by
    unfold fpo
    rw [tk_cong h]
    by_cases e : a = b
    · rw [if_pos e, if_pos e]
    · rw [if_neg e, if_neg e]
      cases tk S sq a law with
      | none => exact fpo_cong h n _
      | some x => rfl
/-- each stone is at a post, or lost -/
def TI (S : SS) (T : TR) : Prop := ∀ k, k < sN S → T.1 k < pN S ∨ T.1 k = 7
theorem TI.lt {S : SS} {T : TR} (W : WFr S) (I : TI S T) {k : Nat} (hk : k < sN S) : T.1 k < 8 := by
  have := W.2.2.2.1
  have := I k hk
  omega
theorem TI.put {S : SS} {T : TR} (I : TI S T) {k q : Nat} (hq : q < pN S ∨ q = 7) : TI S (tput S T k q) := by
  intro j hj
  unfold tput
  dsimp only
  split
  · exact hq
  · exact I j hj
theorem TI.mv {S : SS} {law p q : Nat} (hq : q < pN S ∨ q = 7) : ∀ {n : Nat} {T : TR}, TI S T → TI S (tmv S law p q n T)
  | 0, T, I => I
  | n + 1, T, I => by
    unfold tmv
    cases tk S T.1 p law with
    | none => exact TI.mv hq I
    | some k => exact TI.mv hq (I.put hq)
theorem nxt_lt {n a b : Nat} (ha : a < n) (hb : b < n) : nxt a b < n := by unfold nxt; split <;> omega
theorem fpo_lt {S : SS} {sp : Nat → Nat} {law b : Nat} (hb : b < pN S) : ∀ n a, a < pN S → fpo S sp law b n a < pN S
  | 0, a, ha => ha
  | n + 1, a, ha => by
    unfold fpo
    split
    · exact ha
    · split
      · exact fpo_lt hb n _ (nxt_lt ha hb)
      · exact ha
theorem TI.cr {S : SS} {T : TR} (I : TI S T) {law a b much : Nat} {far : Bool} (ha : a < pN S) (hb : b < pN S) : TI S (crr S law a b much far T) := by
  unfold crr
  dsimp only
  split
  · exact I
  · refine TI.mv (Or.inl ?_) I
    split
    · exact hb
    · exact nxt_lt (fpo_lt hb 8 a ha) hb
theorem TI.zero {S : SS} {c : Nat} (C : Cd S c) : TI S (tr0 c) := C.2
/-- a trip's object -/
abbrev ts (S : SS) (rd : Nat) (lw bf by_ py ca mv : Int32) (T : TR) : va_E := trip rd lw bf (nI (cod T.1 (sN S))) by_ (py + nI T.2.2) (ca + nI (sm T.2.1 (sN S))) (mv + nI (cod T.2.1 (sN S)))
theorem sm_0 : ∀ n, sm (fun _ => 0) n = 0
  | 0 => rfl
  | n + 1 => by unfold sm; rw [sm_0 n]
theorem cod_0 : ∀ n, cod (fun _ => 0) n = 0
  | 0 => rfl
  | n + 1 => by unfold cod; rw [cod_0 n]; omega
theorem i32_add0 (x : Int32) : x + nI 0 = x := Int32.add_zero x
theorem ts_0 {S : SS} {rd c : Nat} {lw bf by_ py ca mv : Int32} (hc : c < 8 ^ sN S) : ts S rd lw bf by_ py ca mv (tr0 c) = trip rd lw bf (nI c) by_ py ca mv := by
  unfold ts tr0
  dsimp only
  rw [cod_dig_lt hc, sm_0, cod_0, i32_add0, i32_add0, i32_add0]
section CARRY
variable {h : AH} {S : SS} {rd t : Nat} {X : Nat → Prop} {lw bf by_ py ca mv : Int32}
theorem Crod.put {e : va_E} (C : Crod h rd S X) (hX : ¬ X t) : Crod (aput h t e) rd S X := C.keep (fun a ha => aput_n h e (fun z => hX (z ▸ ha))) sameR.rf
theorem cod_b {T : TR} (W : WFr S) (I : TI S T) : cod T.1 (sN S) < 8 ^ sN S ∧ cod T.1 (sN S) < 32768 := by
  have h1 := cod_lt (f := T.1) (n := sN S) (fun j hj => I.lt W hj)
  have h2 : 8 ^ sN S ≤ 8 ^ 5 := Nat.pow_le_pow_right (by omega) W.2.2.2.2.2.1
  omega
theorem dig_T {T : TR} (W : WFr S) (I : TI S T) : ∀ k, k < sN S → dig (cod T.1 (sN S)) k = T.1 k := fun _ hk => dig_cod (fun _ hj => I.lt W hj) hk
theorem c_firstT {T : TR} {law a b : Nat} {Q : Int32 → AH → Prop} (W : WFr S) (C : Crod h rd S X) (hX : ¬ X t) (I : TI S T) (hl : law ≤ 2) (ha : a < pN S) (hb : b < pN S)
    (H0 : fpo S T.1 law b 8 a = b → Q (-1) (aput h t (ts S rd lw bf by_ py ca mv T)))
    (H1 : ∀ p k, fpo S T.1 law b 8 a = p → p ≠ b → p < pN S → tk S T.1 p law = some k → k < sN S → T.1 k = p → Q (nI k) (aput h t (ts S rd lw bf by_ py ca mv T))) :
    f_X9_firstOn t (nI a) (nI b) (nI law) (aput h t (ts S rd lw bf by_ py ca mv T)) Q := by
  have dT := dig_T W I
  refine c_first W (C.put hX) (aput_s h t _) (cod_b W I).2 hl ha hb (fun e => H0 ?_) (fun p k e1 e2 e3 e4 e5 e6 _ => H1 p k ?_ e2 e3 ?_ e5 ?_)
  · rw [fpo_cong dT] at e; exact e
  · rw [fpo_cong dT] at e1; exact e1
  · rw [tk_cong dT] at e4; exact e4
  · rw [dT k e5] at e6; exact e6
theorem c_carry {T : TR} {k q : Nat} {Q : AH → Prop} (W : WFr S) (C : Crod h rd S X) (hX : ¬ X t) (I : TI S T) (hk : k < sN S) (hq : q < 8)
    (H : Q (aput h t (ts S rd lw bf by_ py ca mv (tput S T k q)))) : f_X9_carry t (nI k) (nI q) (aput h t (ts S rd lw bf by_ py ca mv T)) Q := by
  have hs5 := W.2.2.2.2.2.1
  have hS8 := W.2.1
  obtain ⟨n0, n1, n2⟩ := W.2.2.2.2.2.2.2.2.1 k hk
  obtain ⟨n, hm, wy, fo, fn, fh, fw, ff, wa, st, x1, x2, x3, x4, x5, c1, c2, -, -, -, c6, -⟩ := id C
  have tr : rd ≠ t := fun z => hX (z ▸ x1)
  have tn : n ≠ t := fun z => hX (z ▸ x2)
  obtain ⟨d1, d2, d3⟩ := c6 k hk
  have cb := cod_b W I
  unfold f_X9_carry
  refine ⟨fun q => absurd q (by rw [tl, nI_toInt (by omega), show (0 : Int32).toInt = 0 from rfl]; omega), fun _ => gR_of (aput_s h t _) rfl (gI_of ((aput_n h _ tr).trans c1) rfl ⟨fun _ => gI_of (aput_s h t _) rfl ?_, fun q => absurd (show nI k < S 8 0 0 by rw [hS8]; exact nI_lt hk (by omega)) q⟩)⟩
  unfold f_X5_withPost
  rw [b_with cb.2 (by omega) hq]
  refine pF_of (aput_s h t _) (Nat.le_of_ble_eq_true rfl) rfl ?_
  rw [aput_pp]
  refine gI_of (aput_s h t _) rfl (gR_of (aput_s h t _) rfl (gR_of ((aput_n h _ tr).trans c1) rfl (lI_of ((aput_n h _ tn).trans c2) (vp_in_nI (by omega) (by omega)) ?_)))
  rw [nI_clamp (by omega), d1, n0]
  refine pF_of (aput_s h t _) (Nat.le_of_ble_eq_true rfl) rfl ?_
  rw [aput_pp]
  refine gI_of (aput_s h t _) rfl (pF_of (aput_s h t _) (Nat.le_of_ble_eq_true rfl) rfl ?_)
  rw [aput_pp]
  refine gI_of (aput_s h t _) rfl (pF_of (aput_s h t _) (Nat.le_of_ble_eq_true rfl) rfl ?_)
  rw [aput_pp]
  have e1 : wp (cod T.1 (sN S)) k q = cod (tput S T k q).1 (sN S) := by
    rw [← wp_cod hs5 cb.1 hk hq]
    refine cod_cong fun j hj => ?_
    unfold tput
    dsimp only
    rw [dig_T W I j hj]
  have e2 : (py + nI T.2.2) + nI (nu S k) = py + nI (tput S T k q).2.2 := by
    rw [Int32.add_assoc, nI_add]; rfl
  have e3 : (ca + nI (sm T.2.1 (sN S))) + 1 = ca + nI (sm (tput S T k q).2.1 (sN S)) := by
    rw [Int32.add_assoc, nI_1]
    unfold tput
    dsimp only
    rw [sm_inc hk]
  have e4 : (mv + nI (cod T.2.1 (sN S))) + ((1 : Int32) <<< (((3 : Int32) * nI k) &&& 31)) = mv + nI (cod (tput S T k q).2.1 (sN S)) := by
    rw [show (1 : Int32) = nI 1 from rfl, b_shl (by omega) (by omega), Int32.add_assoc, nI_add, Nat.one_mul]
    unfold tput
    dsimp only
    rw [cod_inc hk]
  rw [e1, e2, e3, e4]
  exact H
theorem c_next {a b : Nat} {Q : Int32 → AH → Prop} {h : AH} (ha : a < 9) (hb : b < 9) (hab : a ≠ b) (H : Q (nI (nxt a b)) h) : f_X10_nextTo (nI a) (nI b) h Q := by
  refine ⟨fun q => ?_, fun q => ?_⟩
  · rw [nI_leI (by omega) (by omega)] at q
    rw [show (1 : Int32) = nI 1 from rfl, pk_sub (by omega)]
    unfold nxt at H
    rw [if_neg (by omega)] at H
    exact H
  · rw [nI_leI (by omega) (by omega)] at q
    rw [show (1 : Int32) = nI 1 from rfl, nI_add]
    unfold nxt at H
    rw [if_pos (by omega)] at H
    exact H
end CARRY
