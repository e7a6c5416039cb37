/-! what calls answer and do: rows and texts -/
def mkr (S : SS) (c r : Nat) (z v : Int32) : SS := fun c' i j => if c' = c ∧ i = r ∧ j = 0 then z else if c' = c + 1 ∧ i = r then v else S c' i j
theorem aput_id {h : AH} {a : Nat} {e : va_E} (hc : h.2.2 a = some e) : aput h a e = h := by
  unfold aput
  refine Prod.ext rfl (Prod.ext rfl ?_)
  funext b
  unfold va_up
  by_cases q : b = a
  · show (if b = a then some e else h.2.2 b) = h.2.2 b
    rw [if_pos q, q]; exact hc.symm
  · show (if b = a then some e else h.2.2 b) = h.2.2 b
    rw [if_neg q]
/-- Arrays.fill -/
theorem c_fill_L {h : AH} {p n : Nat} {v : Int32} {Q : AH → Prop} (hn : n < 2 ^ 31) (H : ∀ g, (∀ i, i < n → g i = v) → Q (aput h p (.inl (0, n, .inl g)))) : ∀ (m i : Nat) (g : Nat → Int32), i + m = n → (∀ j, j < i → g j = v) → L_J7_fill_53178_5 Q p v (nI n) (m + 1) (nI i) (aput h p (.inl (0, n, .inl g))) := by
  intro m
  induction m with
  | zero =>
    intro i g hi hg
    show B_J7_fill_53178_5 _ _ _ _ _ _ _
    unfold B_J7_fill_53178_5
    exact pk_le n i (fun q => H g (fun j hj => hg j (by omega))) (fun q => by omega)
  | succ m ih =>
    intro i g hi hg
    show B_J7_fill_53178_5 _ _ _ _ _ _ _
    unfold B_J7_fill_53178_5
    refine pk_le n i (fun q => by omega) (fun q => sI_of (aput_s _ _ _) (vp_in_nI q hn) ?_)
    rw [aput_pp, nI_1, nI_clamp (by omega)]
    refine ih (i + 1) _ (by omega) (fun j hj => ?_)
    by_cases e : j = i
    · rw [e, pk_us]
    · rw [pk_un e]; exact hg j (by omega)
theorem c_fill {h : AH} {p n : Nat} {v : Int32} {f : Nat → Int32} {Q : AH → Prop} (hn : n < 2 ^ 31) (hc : h.2.2 p = some (.inl (0, n, .inl f))) (H : ∀ g, (∀ i, i < n → g i = v) → Q (aput h p (.inl (0, n, .inl g)))) : f_J7_fill_53178 p v h Q := by
  unfold f_J7_fill_53178
  refine aL_of hc ⟨n + 1, ?_⟩
  have := c_fill_L (h := h) (p := p) (v := v) hn H n 0 f (by omega) (fun j hj => by omega)
  rw [aput_id hc] at this
  exact this
theorem c_begin {h : AH} {a p : Nat} {z n v : Int32} {f : Nat → Int32} {Q : AH → Prop} (R : RowAt h a p z f) (hap : a ≠ p) (h0 : 0 ≤ n) (h1 : n ≤ 60) (H : ∀ h1, RowAt h1 a p n (fun _ => v) → (∀ b, b ≠ a → b ≠ p → h1.2.2 b = h.2.2 b) → h1.1 = h.1 → h1.2.1 = h.2.1 → Q h1) : f_X6_begin a n v h Q := by
  unfold f_X6_begin
  obtain ⟨r1, g, r2, r3⟩ := R
  have e1 : (if (60 : Int32) < n then (60 : Int32) else n) = n := if_neg (by grind)
  rw [e1]
  have e2 : (if (0 : Int32) < n then n else 0) = n := by
    by_cases q : (0 : Int32) < n
    · rw [if_pos q]
    · rw [if_neg q]; grind
  rw [e2]
  refine pF_of r1 (by show 1 < 2; omega) rfl ?_
  refine gR_of (aput_s _ _ _) rfl ?_
  refine c_fill (n := 60) (f := g) (by omega) (by rw [aput_n _ _ (Ne.symm hap)]; exact r2) (fun g2 hg2 => ?_)
  refine H _ ⟨?_, g2, aput_s _ _ _, fun i hi => ?_⟩ (fun b b1 b2 => by rw [aput_n _ _ b2, aput_n _ _ b1]) rfl rfl
  · rw [aput_n _ _ hap, aput_s]
    rfl
  · have h2 := Int32.le_iff_toInt_le.mp h1
    have h3 : (60 : Int32).toInt = 60 := rfl
    exact hg2 i (by omega)
theorem mkr_c {S : SS} {c r c' i j : Nat} {z v : Int32} (h1 : c' ≠ c) (h2 : c' ≠ c + 1) : mkr S c r z v c' i j = S c' i j := by
  unfold mkr
  rw [if_neg (by omega), if_neg (by omega)]
theorem mkr_z {S : SS} {c r : Nat} {z v : Int32} : mkr S c r z v c r 0 = z := if_pos ⟨rfl, rfl, rfl⟩
theorem mkr_p {S : SS} {c r i : Nat} {z v : Int32} : mkr S c r z v (c + 1) r i = v := by
  unfold mkr
  rw [if_neg (by omega), if_pos ⟨rfl, rfl⟩]
theorem mkr_n {S : SS} {c r r' c' i : Nat} {z v : Int32} (h : r' ≠ r) : mkr S c r z v c' r' i = S c' r' i := by
  unfold mkr
  rw [if_neg (by omega), if_neg (by omega)]
def smL (f : Nat → Int64) : Nat → Int64
  | 0 => 0
  | n + 1 => smL f n + f n
section C1
variable {h : AH} {S : SS} {u l : Int64} {n : Nat} {r k i v : Int32}
theorem lt_nI {x : Int32} {m : Nat} (hm : m < 2 ^ 31) (h0 : 0 ≤ x) (h1 : x < nI m) : ∃ j, j < m ∧ x = nI j := by
  rcases pk_ix x (n := m) hm with q | q | q
  · exact absurd h0 (Int32.not_le.mpr q)
  · exact absurd h1 (Int32.not_lt.mpr q)
  · exact q
/-- a row or a text made anew -/
theorem C_mk {A c m b j : Nat} {Q : AH → Prop} (hA : (A = 2 ∧ c = 0 ∧ m = 6 ∧ b = 22) ∨ (A = 3 ∧ c = 2 ∧ m = 4 ∧ b = 34)) (R : RC h S u l n) (W : RwAt h S A c m b) (hj : j < m) (h0 : 0 ≤ k) (h6 : k ≤ 60) (H : ∀ h1, RC h1 (mkr S c j k v) u l n → Cag h h1 → Q h1) : f_X6_begin (b + 2 * j) k v h Q := by
  refine c_begin (W.2 j hj) (by omega) h0 h6 (fun h1 r1 a1 b1 b2 => H h1 ?_ (fun a x y => a1 a (by omega) (by omega)))
  refine R.keepR hA (fun a ha => a1 a (by omega) (by omega)) b1 b2 (fun c' i j x y => mkr_c x y) (fun r hr => ?_)
  by_cases e : r = j
  · subst e
    rw [mkr_z, show mkr S c r k v (c + 1) r = fun _ => v from funext fun i => mkr_p]
    exact r1
  · rw [mkr_n e, show mkr S c j k v (c + 1) r = S (c + 1) r from funext fun i => mkr_n e]
    exact (W.2 r hr).keep (a1 _ (by omega) (by omega)) (a1 _ (by omega) (by omega)) (fun _ => rfl)
theorem C_row {Q : Int32 → AH → Prop} (R : RC h S u l n) (h0 : r < 0 ∨ 6 ≤ r → Q (-1) h) (h00 : 60 < k → Q (-1) h) (h1 : ∀ j, j < 6 → r = nI j → k < 0 → ∀ h1, RC h1 (fnd S 5) u l n → Cag h h1 → Q (-3) h1) (h2 : ∀ j, j < 6 → r = nI j → 0 ≤ k → k ≤ 60 → ∀ h1, RC h1 (mkr S 0 j k 0) u l n → Cag h h1 → Q k h1) : f_X11_row 1 r k h Q := by
  unfold f_X11_row
  refine c_isBelow (fun q => ⟨fun _ => h0 (by grind), fun c => absurd rfl c⟩) (fun q1 q2 => ?_)
  obtain ⟨j, hj, rfl⟩ := lt_nI (m := 6) (by omega) q1 q2
  exact ⟨fun c => absurd c (by decide), fun _ => ⟨fun c1 => ⟨fun c2 => c_gR R (fun _ => rfl) (c_rowAt R.rows hj (by omega) ⟨R.rows.o hj, C_mk (Or.inl ⟨rfl, rfl, rfl, rfl⟩) R R.rows hj c2 c1 (h2 j hj rfl c2 c1)⟩), fun c2 => ⟨R.o, c_found (f := 5) (by omega) R (h1 j hj rfl (by grind))⟩⟩, fun c1 => h00 (by grind)⟩⟩
theorem C_text {Q : Int32 → AH → Prop} (R : RC h S u l n) (h0 : r < 0 ∨ 4 ≤ r → Q (-1) h) (h00 : 60 < k → Q (-1) h) (h1 : ∀ j, j < 4 → r = nI j → k < 0 → ∀ h1, RC h1 (fnd S 5) u l n → Cag h h1 → Q (-3) h1) (h2 : ∀ j, j < 4 → r = nI j → 0 ≤ k → k ≤ 60 → ∀ h1, RC h1 (mkr S 2 j k 32) u l n → Cag h h1 → Q k h1) : f_X11_text 1 r k h Q := by
  unfold f_X11_text
  refine c_isBelow (fun q => ⟨fun _ => h0 (by grind), fun c => absurd rfl c⟩) (fun q1 q2 => ?_)
  obtain ⟨j, hj, rfl⟩ := lt_nI (m := 4) (by omega) q1 q2
  exact ⟨fun c => absurd c (by decide), fun _ => ⟨fun c1 => ⟨fun c2 => c_gR R (fun _ => rfl) (c_rowAt R.texts hj (by omega) ⟨R.texts.o hj, C_mk (Or.inr ⟨rfl, rfl, rfl, rfl⟩) R R.texts hj c2 c1 (h2 j hj rfl c2 c1)⟩), fun c2 => ⟨R.o, c_found (f := 5) (by omega) R (h1 j hj rfl (by grind))⟩⟩, fun c1 => h00 (by grind)⟩⟩
/-- a place is written: the state -/
theorem C_wr {A c m b j k : Nat} {e : va_E} (hA : (A = 2 ∧ c = 0 ∧ m = 6 ∧ b = 22) ∨ (A = 3 ∧ c = 2 ∧ m = 4 ∧ b = 34)) (R : RC h S u l n) (W : RwAt h S A c m b) (hj : j < m) (H : RowAt (aput h (b + 1 + 2 * j) e) (b + 2 * j) (b + 1 + 2 * j) (S c j 0) (upd (S (c + 1) j) k v)) : RC (aput h (b + 1 + 2 * j) e) (up S (c + 1) j k v) u l n := by
  refine R.keepR hA (fun a ha => aput_n _ _ (by omega)) rfl rfl (fun c' i j x y => up_c _ _ y) (fun r hr => ?_)
  rw [up_c S v (by omega)]
  by_cases e : r = j
  · subst e
    rw [show up S (c + 1) r k v (c + 1) r = upd (S (c + 1) r) k v from funext fun i => by
      unfold up upd
      by_cases q : i = k
      · rw [if_pos ⟨rfl, rfl, q⟩, if_pos q]
      · rw [if_neg (fun z => q z.2.2), if_neg q]]
    exact H
  · rw [show up S (c + 1) j k v (c + 1) r = S (c + 1) r from funext fun i => up_i _ _ e]
    exact (W.2 r hr).keep (aput_n _ _ (by omega)) (aput_n _ _ (by omega)) (fun _ => rfl)
end C1
