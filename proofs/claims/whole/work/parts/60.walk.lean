/-! which stone is taken: the model's way and the class's way are one -/
def tnI (S : SS) (law p k : Nat) : Int := if law = 0 then (nu S k : Int) else if law = 1 then -(nu S k : Int) else (nu S k : Int) - 10 * (if nu S k ≤ pN S then (ds S k p : Int) else 7)
theorem ds_le {S : SS} (W : WFr S) {k p : Nat} (hk : k < sN S) (hp : p ≤ 7) (hh : nu S k ≤ pN S) : ds S k p ≤ 7 ∧ (p < pN S → ds S k p ≤ 6) := by
  have h1 := W.2.2.2.1
  have h2 := (W.2.2.2.2.2.2.2.2.1 k hk).2
  unfold ds
  rw [if_pos hh]
  split <;> omega
theorem ahb_tn {S : SS} (W : WFr S) {law k j p : Nat} (hl : law ≤ 2) (hk : k < sN S) (hj : j < sN S) (hkj : k ≠ j) (hp : p < pN S) : ahb S law k j p = true ↔ tnI S law p k < tnI S law p j := by
  have n1 := (W.2.2.2.2.2.2.2.2.1 k hk).2
  have n2 := (W.2.2.2.2.2.2.2.2.1 j hj).2
  have nd : nu S k ≠ nu S j := by
    rcases Nat.lt_or_ge k j with q | q
    · exact W.2.2.2.2.2.2.2.2.2.1 k j q hj
    · exact Ne.symm (W.2.2.2.2.2.2.2.2.2.1 j k (by omega) hk)
  have d1 : nu S k ≤ pN S → ds S k p ≤ 6 := fun q => (ds_le W hk (by have := W.2.2.2.1; omega) q).2 hp
  have d2 : nu S j ≤ pN S → ds S j p ≤ 6 := fun q => (ds_le W hj (by have := W.2.2.2.1; omega) q).2 hp
  have e1 : ¬ nu S k ≤ pN S → ds S k p = 9 := fun q => by unfold ds; rw [if_neg q]
  have e2 : ¬ nu S j ≤ pN S → ds S j p = 9 := fun q => by unfold ds; rw [if_neg q]
  unfold ahb tnI
  by_cases l1 : law = 1
  · rw [if_pos l1, if_neg (by omega), if_pos l1, if_neg (by omega), if_pos l1]
    simp only [decide_eq_true_eq]
    omega
  · rw [if_neg l1]
    by_cases l0 : law = 0
    · rw [if_neg (by omega), if_pos l0, if_pos l0]
      simp only [decide_eq_true_eq]
      omega
    · rw [if_neg l0, if_neg l1, if_neg l0, if_neg l1]
      have l2 : law = 2 := by omega
      by_cases q : ds S k p ≠ ds S j p
      · rw [if_pos ⟨l2, q⟩]
        simp only [decide_eq_true_eq]
        by_cases a : nu S k ≤ pN S <;> by_cases b : nu S j ≤ pN S
        · have := d1 a; have := d2 b; rw [if_pos a, if_pos b]; omega
        · have := d1 a; have := e2 b; rw [if_pos a, if_neg b]; omega
        · have := e1 a; have := d2 b; rw [if_neg a, if_pos b]; omega
        · have := e1 a; have := e2 b; omega
      · rw [if_neg (fun z => q z.2)]
        simp only [decide_eq_true_eq]
        by_cases a : nu S k ≤ pN S <;> by_cases b : nu S j ≤ pN S
        · rw [if_pos a, if_pos b]; omega
        · have := d1 a; have := e2 b; omega
        · have := e1 a; have := d2 b; omega
        · rw [if_neg a, if_neg b]; omega
theorem tkn_spec {S : SS} (W : WFr S) {sp : Nat → Nat} {p law : Nat} (hl : law ≤ 2) (hp : p < pN S) : ∀ n, n ≤ sN S → (tkn S sp p law n = none ∧ ∀ j, j < n → sp j ≠ p) ∨ ∃ b, tkn S sp p law n = some b ∧ b < n ∧ sp b = p ∧ ∀ j, j < n → sp j = p → j ≠ b → tnI S law p b < tnI S law p j
  | 0, _ => Or.inl ⟨rfl, fun j hj => by omega⟩
  | n + 1, hn => by
    rcases tkn_spec W (sp := sp) hl hp n (by omega) with ⟨h1, h2⟩ | ⟨b, h1, h2, h3, h4⟩
    · by_cases q : sp n = p
      · refine Or.inr ⟨n, by unfold tkn; rw [h1]; dsimp only; rw [if_pos q], by omega, q, fun j hj hs hne => absurd hs (h2 j (by omega))⟩
      · refine Or.inl ⟨by unfold tkn; rw [h1]; dsimp only; rw [if_neg q], fun j hj => ?_⟩
        by_cases e : j = n
        · rw [e]; exact q
        · exact h2 j (by omega)
    · by_cases q : sp n = p ∧ ahb S law n b p = true
      · refine Or.inr ⟨n, by unfold tkn; rw [h1]; dsimp only; rw [if_pos q], by omega, q.1, fun j hj hs hne => ?_⟩
        have lt := (ahb_tn W hl (by omega) (by omega) (by omega) hp).mp q.2
        by_cases e : j = b
        · rw [e]; exact lt
        · have := h4 j (by omega) hs e; omega
      · refine Or.inr ⟨b, by unfold tkn; rw [h1]; dsimp only; rw [if_neg q], by omega, h3, fun j hj hs hne => ?_⟩
        by_cases e : j = n
        · subst e
          have nl : ¬ tnI S law p j < tnI S law p b := fun z => q ⟨hs, (ahb_tn W hl (by omega) (by omega) (by omega) hp).mpr z⟩
          have le : tnI S law p b ≠ tnI S law p j := by
            intro z
            have n1 := (W.2.2.2.2.2.2.2.2.1 j (by omega)).2
            have n2 := (W.2.2.2.2.2.2.2.2.1 b (by omega)).2
            have nd := W.2.2.2.2.2.2.2.2.2.1 b j h2 (by omega)
            unfold tnI at z
            split at z
            · omega
            · split at z
              · omega
              · split at z <;> split at z <;> omega
          omega
        · exact h4 j (by omega) hs hne
/-- how far along the way from a to b a post is -/
def stp (a b p : Nat) : Int := if a < b then (p : Int) - a else (a : Int) - p
def onw (a b p : Nat) : Prop := 0 ≤ stp a b p ∧ stp a b p < (if a < b then (b : Int) - a else (a : Int) - b)
def kyI (S : SS) (sp : Nat → Nat) (law a b k : Nat) : Int := 100 * stp a b (sp k) + tnI S law (sp k) k
theorem tn_rng {S : SS} (W : WFr S) {law k p : Nat} (hk : k < sN S) (hp : p ≤ 7) : -69 ≤ tnI S law p k ∧ tnI S law p k ≤ 9 := by
  have n1 := (W.2.2.2.2.2.2.2.2.1 k hk).2
  have d1 : nu S k ≤ pN S → ds S k p ≤ 7 := fun q => (ds_le W hk hp q).1
  unfold tnI
  split
  · omega
  · split
    · omega
    · split
      · have := d1 (by assumption); omega
      · omega
/-- a stone on the way whose key is least is the one that the spec takes -/
theorem fpo_key {S : SS} (W : WFr S) {sp : Nat → Nat} {law b : Nat} (hl : law ≤ 2) (hb : b < pN S) : ∀ (n a : Nat), a < pN S → (if a < b then b - a else a - b) ≤ n →
    (fpo S sp law b n a = b ∧ ∀ k, k < sN S → ¬ onw a b (sp k)) ∨ ∃ p k, fpo S sp law b n a = p ∧ p ≠ b ∧ p < pN S ∧ tk S sp p law = some k ∧ k < sN S ∧ sp k = p ∧ onw a b p ∧ (a < b ↔ p < b) ∧ ∀ j, j < sN S → onw a b (sp j) → j ≠ k → kyI S sp law a b k < kyI S sp law a b j
  | 0, a, ha, hn => by
    have e : a = b := by split at hn <;> omega
    subst e
    refine Or.inl ⟨rfl, fun k hk q => ?_⟩
    unfold onw at q
    rw [if_neg (by omega)] at q
    omega
  | n + 1, a, ha, hn => by
    by_cases e : a = b
    · subst e
      refine Or.inl ⟨by unfold fpo; rw [if_pos rfl], fun k hk q => ?_⟩
      unfold onw at q
      rw [if_neg (by omega)] at q
      omega
    · rcases tkn_spec W (sp := sp) hl ha (sN S) (Nat.le_refl _) with ⟨h1, h2⟩ | ⟨k, h1, h2, h3, h4⟩
      · have hx : nxt a b < pN S := by unfold nxt; split <;> omega
        have hm : (if nxt a b < b then b - nxt a b else nxt a b - b) ≤ n := by
          unfold nxt
          by_cases q : a < b
          · rw [if_pos q] at hn ⊢; split <;> omega
          · rw [if_neg q] at hn ⊢; split <;> omega
        have hf : fpo S sp law b (n + 1) a = fpo S sp law b n (nxt a b) := by
          show (if a = b then a else match tk S sp a law with | none => fpo S sp law b n (nxt a b) | some _ => a) = _
          rw [if_neg e, show tk S sp a law = none from h1]
        have ow : ∀ q, q ≠ a → (onw a b q ↔ onw (nxt a b) b q) := by
          intro q hq
          unfold onw stp nxt
          by_cases c : a < b
          · simp only [if_pos c]
            by_cases d : a + 1 < b
            · rw [if_pos d, if_pos d]; omega
            · rw [if_neg d, if_neg d]; omega
          · simp only [if_neg c]
            rw [if_neg (by omega), if_neg (by omega)]; omega
        rcases fpo_key W (sp := sp) hl hb n (nxt a b) hx hm with ⟨g1, g2⟩ | ⟨p, k, g1, g2, g3, g4, g5, g6, g7, g8, g9⟩
        · refine Or.inl ⟨hf.trans g1, fun k hk q => g2 k hk ((ow _ (h2 k hk)).mp q)⟩
        · have hpa : p ≠ a := by rw [← g6]; exact h2 k g5
          have hon := (ow p hpa).mpr g7
          have hdir : a < b ↔ p < b := by
            unfold onw stp at hon
            by_cases c : a < b
            · rw [if_pos c, if_pos c] at hon; omega
            · rw [if_neg c, if_neg c] at hon; omega
          refine Or.inr ⟨p, k, hf.trans g1, g2, g3, g4, g5, g6, hon, hdir, fun j hj hoj hne => ?_⟩
          have hja := h2 j hj
          have hoj2 := (ow _ hja).mp hoj
          have := g9 j hj hoj2 hne
          unfold kyI at this ⊢
          have key : ∀ q, q ≠ a → onw a b q → stp a b q = stp (nxt a b) b q + 1 := by
            intro q hq hon2
            unfold onw stp at hon2
            unfold stp nxt
            by_cases c : a < b
            · simp only [if_pos c] at hon2 ⊢
              by_cases d : a + 1 < b
              · rw [if_pos d]; omega
              · omega
            · simp only [if_neg c] at hon2 ⊢
              rw [if_neg (by omega)]; omega
          rw [key _ (h2 k g5) (by rw [g6]; exact hon), key _ hja hoj]
          omega
      · refine Or.inr ⟨a, k, ?_, e, ha, h1, h2, h3, ?_, Iff.rfl, fun j hj hoj hne => ?_⟩
        · show (if a = b then a else match tk S sp a law with | none => fpo S sp law b n (nxt a b) | some _ => a) = _
          rw [if_neg e, show tk S sp a law = some k from h1]
        · unfold onw stp
          split <;> omega
        · by_cases q : sp j = a
          · have := h4 j hj q hne
            unfold kyI
            rw [h3, q]
            omega
          · have hs : 1 ≤ stp a b (sp j) := by
              unfold onw stp at hoj
              unfold stp
              split at hoj
              · rw [if_pos (by assumption)]; omega
              · rw [if_neg (by assumption)]; omega
            have hsk : stp a b (sp k) = 0 := by
              rw [h3]; unfold stp; split <;> omega
            have hj7 : sp j ≤ 7 := by
              have hp7 := W.2.2.2.1
              unfold onw stp at hoj
              split at hoj <;> omega
            have t1 := tn_rng W (law := law) (k := k) (p := sp k) h2 (by have := W.2.2.2.1; omega)
            have t2 := tn_rng W (law := law) hj hj7
            unfold kyI
            omega
