/-- rows (A 2, c 0, six, from 22 on) or texts (A 3, c 2, four, from 34 on) -/
def RwAt (h : AH) (S : SS) (A c m b : Nat) : Prop := (∃ f, h.2.2 A = some (.inl (2, m, .inr (.inr (.inr (.inr f))))) ∧ ∀ i, i < m → f i = some (b + 2 * i)) ∧ ∀ r, r < m → RowAt h (b + 2 * r) (b + 1 + 2 * r) (S c r 0) (S (c + 1) r)
section RW
variable {h : AH} {S : SS} {u l : Int64} {n A c m b : Nat}
theorem RC.rows (R : RC h S u l n) : RwAt h S 2 0 6 22 := by
  obtain ⟨_, _, _, _, _, _, -, c2, c3, -⟩ := R
  exact ⟨c2.1, fun r hr => by rw [show 22 + 1 + 2 * r = 23 + 2 * r by omega]; exact c3 r hr⟩
theorem RC.texts (R : RC h S u l n) : RwAt h S 3 2 4 34 := by
  obtain ⟨_, _, _, _, _, _, -, c2, -, c4, -⟩ := R
  exact ⟨c2.2.1, fun r hr => by rw [show 34 + 1 + 2 * r = 35 + 2 * r by omega]; exact c4 r hr⟩
theorem c_rowAt {j : Nat} {K : Nat → Prop} (W : RwAt h S A c m b) (hj : j < m) (hm : m < 100) (H : K (b + 2 * j)) : lQ h A 2 (nI j) K := by
  obtain ⟨⟨f, h1, h2⟩, -⟩ := W
  exact lQ_of h1 (vp_in_nI hj (by omega)) (by rw [nI_clamp (by omega)]; exact h2 j hj) H
theorem RwAt.o {j : Nat} (W : RwAt h S A c m b) (hj : j < m) : isO h (b + 2 * j) 6 := ⟨_, (W.2 j hj).1⟩
theorem c_rmiss {r : Int32} {Q : Int32 → AH → Prop} (R : RC h S u l n) (W : RwAt h S A c m b) (hm : m < 100) (h0 : r < 0 ∨ nI m ≤ r → Q (-1) h) (h1 : ∀ j, j < m → r = nI j → S c j 0 < 0 → ∀ h1, RC h1 (fnd S 1) u l n → Cag h h1 → Q (-3) h1) (h2 : ∀ j, j < m → r = nI j → 0 ≤ S c j 0 → Q 0 h) : f_X11_refuseMissing 1 A r h Q := by
  unfold f_X11_refuseMissing
  obtain ⟨⟨f, w1, w2⟩, w3⟩ := id W
  refine aL_of w1 (c_isBelow (fun q => ⟨fun c => absurd rfl c, fun _ => h0 (by grind)⟩) (fun q1 q2 => ⟨fun _ => ?_, fun c => absurd c (by decide)⟩))
  obtain ⟨j, hj, rfl⟩ : ∃ j, j < m ∧ r = nI j := by
    rcases pk_ix r (n := m) (by omega) with q | q | q
    · grind
    · grind
    · exact q
  refine c_rowAt W hj hm ⟨W.o hj, c_miss (w3 j hj) (fun q => ⟨fun _ => h2 j hj rfl q, fun c => absurd rfl c⟩) (fun q => ⟨fun c => absurd c (by decide), fun _ => ⟨R.o, c_found (f := 1) (by omega) R (fun h2 r2 a2 => h1 j hj rfl q h2 r2 a2)⟩⟩)⟩
theorem c_rplace {r i : Int32} {Q : Int32 → AH → Prop} (R : RC h S u l n) (W : RwAt h S A c m b) (hm : m < 100) (h0 : r < 0 ∨ nI m ≤ r → Q (-1) h) (h1 : ∀ j, j < m → r = nI j → S c j 0 < 0 → ∀ h1, RC h1 (fnd S 1) u l n → Cag h h1 → Q (-3) h1) (h2 : ∀ j, j < m → r = nI j → 0 ≤ S c j 0 → ¬ (0 ≤ i ∧ i < S c j 0) → ∀ h1, RC h1 (fnd S 2) u l n → Cag h h1 → Q (-3) h1) (h3 : ∀ j, j < m → r = nI j → 0 ≤ i → i < S c j 0 → Q 0 h) : f_X11_refusePlace 1 A r i h Q := by
  unfold f_X11_refusePlace
  refine ⟨R.o, c_rmiss R W hm (fun q => ⟨fun c => absurd c (by decide), fun _ => h0 q⟩) (fun j hj e q h2 r2 a2 => ⟨fun c => absurd c (by decide), fun _ => h1 j hj e q h2 r2 a2⟩) (fun j hj e q => ⟨fun _ => ?_, fun c => absurd rfl c⟩)⟩
  subst e
  exact c_rowAt W hj hm ⟨W.o hj, c_has (W.2 j hj) (fun d => ⟨fun _ => ⟨R.o, c_found (f := 2) (by omega) R (fun h2' r2 a2 => h2 j hj rfl q d h2' r2 a2)⟩, fun c => absurd rfl c⟩) (fun d1 d2 => ⟨fun c => absurd c (by decide), fun _ => h3 j hj rfl d1 d2⟩)⟩
/-- a place below the size, as a number -/
theorem idx_of {i z : Int32} (hz : z.toInt ≤ 60) (h0 : 0 ≤ i) (h1 : i < z) : ∃ k : Nat, i = nI k ∧ k < 60 ∧ (k : Int) < z.toInt := by
  obtain ⟨k, hk, rfl⟩ := nI_of (x := i) (by grind)
  have h2 := Int32.lt_iff_toInt_lt.mp h1
  rw [nI_toInt hk] at h2
  exact ⟨k, rfl, by omega, h2⟩
theorem idx_lt {k : Nat} {z : Int32} (hk : k < 2 ^ 31) : nI k < z ↔ (k : Int) < z.toInt := by
  rw [Int32.lt_iff_toInt_lt, nI_toInt hk]
theorem c_get {a p : Nat} {z i : Int32} {f : Nat → Int32} {Q : Int32 → AH → Prop} (R : RowAt h a p z f) (hz : z.toInt ≤ 60) (h0 : ¬ (0 ≤ i ∧ i < z) → Q 0 h) (h1 : ∀ k : Nat, i = nI k → k < 60 → (k : Int) < z.toInt → Q (f k) h) : f_X6_get a i h Q := by
  unfold f_X6_get
  refine ⟨⟨_, R.1⟩, c_has R (fun q => ⟨fun _ => h0 q, fun c => absurd rfl c⟩) (fun q1 q2 => ⟨fun c => absurd c (by decide), fun _ => ?_⟩)⟩
  obtain ⟨k, rfl, k1, k2⟩ := idx_of hz q1 q2
  obtain ⟨r1, g, r2, r3⟩ := R
  refine gR_of r1 rfl (lI_of r2 (vp_in_nI k1 (by omega)) ?_)
  rw [nI_clamp (by omega), r3 k k2]
  exact h1 k rfl k1 k2
/-- a place is written -/
theorem c_set {a p : Nat} {z i v : Int32} {f : Nat → Int32} {Q : AH → Prop} (R : RowAt h a p z f) (hap : a ≠ p) (hz : z.toInt ≤ 60) (h0 : ¬ (0 ≤ i ∧ i < z) → Q h) (h1 : ∀ k : Nat, i = nI k → k < 60 → (k : Int) < z.toInt → ∀ e, RowAt (aput h p e) a p z (upd f k v) → Q (aput h p e)) : f_X6_set a i v h Q := by
  unfold f_X6_set
  refine ⟨⟨_, R.1⟩, c_has R (fun q => ⟨fun _ => h0 q, fun c => absurd rfl c⟩) (fun q1 q2 => ⟨fun c => absurd c (by decide), fun _ => ?_⟩)⟩
  obtain ⟨k, rfl, k1, k2⟩ := idx_of hz q1 q2
  obtain ⟨r1, g, r2, r3⟩ := R
  refine gR_of r1 rfl (sI_of r2 (vp_in_nI k1 (by omega)) ?_)
  rw [nI_clamp (by omega)]
  refine h1 k rfl k1 k2 _ ⟨by rw [aput_n _ _ hap]; exact r1, _, aput_s _ _ _, fun i hi => ?_⟩
  by_cases e : i = k
  · subst e
    rw [pk_us, pk_us]
  · rw [pk_un e, pk_un e]
    exact r3 i hi
end RW
/-- a heap that differs at rows, or texts, alone -/
theorem RC.keepR {h h1 : AH} {S S1 : SS} {u l : Int64} {n A c m b : Nat} (R : RC h S u l n) (hA : (A = 2 ∧ c = 0 ∧ m = 6 ∧ b = 22) ∨ (A = 3 ∧ c = 2 ∧ m = 4 ∧ b = 34)) (ha : ∀ a, ¬ (b ≤ a ∧ a < b + 2 * m) → h1.2.2 a = h.2.2 a) (hn : h1.1 = h.1) (hs : h1.2.1 = h.2.1) (HS : ∀ c' i j, c' ≠ c → c' ≠ c + 1 → S1 c' i j = S c' i j) (hr : ∀ r, r < m → RowAt h1 (b + 2 * r) (b + 1 + 2 * r) (S1 c r 0) (S1 (c + 1) r)) : RC h1 S1 u l n := by
  obtain ⟨rd, fa, li, qu, N, X, c1, c2, c3, c4, c5, c6, c7, c8, c9, c10, c11, c12, c13, c14⟩ := R
  have hsea : sadr fa ∧ sadr li ∧ sadr qu := by
    obtain ⟨sr, ss, sl, ex, re, ga, dr, rt, bg, ie, ff, fl, fq, -, -, -, -, -, -, -, -, d9, d10, d11, -⟩ := id c9
    exact ⟨d9, d10, d11⟩
  unfold sadr at hsea
  have SR : sameR S S1 := fun c' i j x y => HS c' i j (by omega) (by omega)
  refine ⟨rd, fa, li, qu, N, X, ?_, c2.keep (fun a _ _ => ha a (by omega)), ?_, ?_, c5.keep (ha 7 (by omega)) (fun r => HS 6 r 0 (by omega) (by omega)), c6.keep (ha 5 (by omega)) (ha 6 (by omega)) (fun r => HS 21 r 0 (by omega) (by omega)) (fun r => HS 22 r 0 (by omega) (by omega)), c7.keep (fun a _ _ => ha a (by omega)) (HS 16 0 0 (by omega) (by omega)) (fun i => HS 17 i 0 (by omega) (by omega)) (fun i => HS 18 i 0 (by omega) (by omega)) (fun i => HS 19 i 0 (by omega) (by omega)) (fun i k => HS 20 i k (by omega) (by omega)), c8.keep (ha 13 (by omega)), c9.keep (fun a hq => ha a (by omega)) (by rw [hn]; exact Nat.le_refl _) SR, c10.keep (fun a hq => by
      have := (c11 a hq).1
      unfold radr at this
      exact ha a (by omega)) SR, fun a hq => by rw [hn]; exact c11 a hq, by rw [hn]; exact c12, by rw [hn]; exact c13, by rw [hs]; exact c14⟩
  · unfold Cmain
    rw [ha 1 (by omega), HS 14 0 0 (by omega) (by omega), HS 15 0 0 (by omega) (by omega), HS 16 0 0 (by omega) (by omega), HS 4 0 0 (by omega) (by omega), HS 5 0 0 (by omega) (by omega)]
    exact c1
  · rcases hA with ⟨rfl, rfl, rfl, rfl⟩ | ⟨rfl, rfl, rfl, rfl⟩
    · intro r h2
      rw [show 23 + 2 * r = 22 + 1 + 2 * r by omega]
      exact hr r h2
    · exact c3.keep (fun a _ _ => ha a (by omega)) (fun r => HS 0 r 0 (by omega) (by omega)) (fun r i => HS 1 r i (by omega) (by omega))
  · rcases hA with ⟨rfl, rfl, rfl, rfl⟩ | ⟨rfl, rfl, rfl, rfl⟩
    · exact c4.keep (fun a _ _ => ha a (by omega)) (fun r => HS 2 r 0 (by omega) (by omega)) (fun r i => HS 3 r i (by omega) (by omega))
    · intro r h2
      rw [show 35 + 2 * r = 34 + 1 + 2 * r by omega]
      exact hr r h2
