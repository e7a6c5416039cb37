/-! the mathematics: states, and what the two heaps hold of them -/
theorem aput_s (h : AH) (a : Nat) (e : va_E) : (aput h a e).2.2 a = some e := va_up_self _ _ _
theorem aput_n (h : AH) {a b : Nat} (e : va_E) (hb : b ≠ a) : (aput h a e).2.2 b = h.2.2 b := va_up_ne _ _ hb
theorem aput_1 (h : AH) (a : Nat) (e : va_E) : (aput h a e).1 = h.1 := rfl
theorem aput_2 (h : AH) (a : Nat) (e : va_E) : (aput h a e).2.1 = h.2.1 := rfl
theorem anew_s (h : AH) (k : Nat) (e : va_E) : (anew h k e).2.2 h.1 = some e := va_up_self _ _ _
theorem anew_n (h : AH) (k : Nat) {b : Nat} (e : va_E) (hb : b ≠ h.1) : (anew h k e).2.2 b = h.2.2 b := va_up_ne _ _ hb
theorem aput_pp (h : AH) (a : Nat) (e e2 : va_E) : aput (aput h a e) a e2 = aput h a e2 := by
  unfold aput
  refine Prod.ext rfl (Prod.ext rfl ?_)
  exact bx_uu _ _ _ _
section OF
variable {h : AH} {a ci k : Nat} {fs : List Value}
theorem gI_of {x : Int32} {K : Int32 → Prop} (hc : h.2.2 a = some (.inr (ci, fs))) (hk : fs[k]? = some (.int x)) (H : K x) : gI h a ci k K := ⟨fs, x, hc, hk, H⟩
theorem gL_of {x : Int64} {K : Int64 → Prop} (hc : h.2.2 a = some (.inr (ci, fs))) (hk : fs[k]? = some (.long x)) (H : K x) : gL h a ci k K := ⟨fs, x, hc, hk, H⟩
theorem gR_of {x : Nat} {K : Nat → Prop} (hc : h.2.2 a = some (.inr (ci, fs))) (hk : fs[k]? = some (.ref x)) (H : K x) : gR h a ci k K := ⟨fs, x, hc, hk, H⟩
theorem pF_of {v : Value} {K : AH → Prop} {fs2 : List Value} (hc : h.2.2 a = some (.inr (ci, fs))) (hk : k < fs.length) (h2 : fs.set k v = fs2) (H : K (aput h a (.inr (ci, fs2)))) : pF h a ci k v K := ⟨fs, hc, hk, by rw [h2]; exact H⟩
theorem isO_of (hc : h.2.2 a = some (.inr (ci, fs))) : isO h a ci := ⟨fs, hc⟩
theorem lI_of {n : Nat} {f : Nat → Int32} {i : Int32} {K : Int32 → Prop} (hc : h.2.2 a = some (.inl (0, n, .inl f))) (hi : vp_in i n) (H : K (f i.toNatClampNeg)) : lI h a i K := ⟨n, f, hc, hi, H⟩
theorem sI_of {n : Nat} {f : Nat → Int32} {i x : Int32} {K : AH → Prop} (hc : h.2.2 a = some (.inl (0, n, .inl f))) (hi : vp_in i n) (H : K (aput h a (.inl (0, n, .inl (upd f i.toNatClampNeg x))))) : sI h a i x K := ⟨n, f, hc, hi, H⟩
theorem lQ_of {t n b : Nat} {f : Nat → Option Nat} {i : Int32} {K : Nat → Prop} (hc : h.2.2 a = some (.inl (t, n, .inr (.inr (.inr (.inr f)))))) (hi : vp_in i n) (hb : f i.toNatClampNeg = some b) (H : K b) : lQ h a t i K := ⟨n, f, b, hc, hi, hb, H⟩
theorem aL_of {t n : Nat} {y : (Nat → Int32) ⊕ (Nat → Int64) ⊕ (Nat → UInt32) ⊕ (Nat → UInt64) ⊕ (Nat → Option Nat)} {K : Int32 → Prop} (hc : h.2.2 a = some (.inl (t, n, y))) (H : K (nI n)) : aL h a t K := ⟨(n, y), hc, H⟩
end OF
/-- a state: component, place, place -/
abbrev SS : Type := Nat → Nat → Nat → Int32
def up (S : SS) (c i j : Nat) (v : Int32) : SS := fun c' i' j' => if c' = c ∧ i' = i ∧ j' = j then v else S c' i' j'
/-- a finding -/
def fnd (S : SS) (f : Nat) : SS := up (up S 5 0 0 (nI f)) 6 f 0 (S 6 f 0 + 1)
theorem up_s (S : SS) (c i j : Nat) (v : Int32) : up S c i j v c i j = v := if_pos ⟨rfl, rfl, rfl⟩
theorem up_c (S : SS) {c i j c' i' j' : Nat} (v : Int32) (h : c' ≠ c) : up S c i j v c' i' j' = S c' i' j' := if_neg fun q => h q.1
theorem up_i (S : SS) {c i j c' i' j' : Nat} (v : Int32) (h : i' ≠ i) : up S c i j v c' i' j' = S c' i' j' := if_neg fun q => h q.2.1
theorem up_j (S : SS) {c i j c' i' j' : Nat} (v : Int32) (h : j' ≠ j) : up S c i j v c' i' j' = S c' i' j' := if_neg fun q => h q.2.2
theorem fnd_c (S : SS) {f c i j : Nat} (h5 : c ≠ 5) (h6 : c ≠ 6) : fnd S f c i j = S c i j := by
  unfold fnd
  rw [up_c _ _ h6, up_c _ _ h5]
/-- the class's rows and texts: an object, its places; only those below the size matter -/
def RowAt (h : AH) (a p : Nat) (z : Int32) (f : Nat → Int32) : Prop := h.2.2 a = some (.inr (6, [.ref p, .int z])) ∧ ∃ g, h.2.2 p = some (.inl (0, 60, .inl g)) ∧ ∀ i : Nat, (i : Int) < z.toInt → g i = f i
theorem RowAt.keep {h h1 : AH} {a p : Nat} {z : Int32} {f f1 : Nat → Int32} (H : RowAt h a p z f) (ha : h1.2.2 a = h.2.2 a) (hp : h1.2.2 p = h.2.2 p) (hf : ∀ i, f1 i = f i) : RowAt h1 a p z f1 := by
  obtain ⟨h2, g, h3, h4⟩ := H
  exact ⟨by rw [ha]; exact h2, g, by rw [hp]; exact h3, fun i hi => by rw [hf]; exact h4 i hi⟩
abbrev mob (rd : Nat) (st lw dn td : Int32) (u l : Int64) (lt : Int32) : va_E := .inr (11, [.ref 2, .ref 3, .ref 4, .ref 5, .ref 6, .ref 7, .ref 13, .ref 14, .ref rd, .int st, .int lw, .int dn, .int td, .long u, .long l, .int lt])
def Cmain (h : AH) (S : SS) (u l : Int64) (rd : Nat) : Prop := h.2.2 1 = some (mob rd (S 14 0 0) (S 15 0 0) (S 16 0 0) (S 4 0 0) u l (S 5 0 0))
def Carr (h : AH) : Prop := (∃ f, h.2.2 2 = some (.inl (2, 6, .inr (.inr (.inr (.inr f))))) ∧ ∀ i, i < 6 → f i = some (22 + 2 * i)) ∧ (∃ f, h.2.2 3 = some (.inl (2, 4, .inr (.inr (.inr (.inr f))))) ∧ ∀ i, i < 4 → f i = some (34 + 2 * i)) ∧ (∃ f, h.2.2 4 = some (.inl (3, 60, .inr (.inr (.inr (.inr f))))) ∧ ∀ i, i < 60 → f i = some (42 + i))
def Crow (h : AH) (S : SS) : Prop := ∀ r, r < 6 → RowAt h (22 + 2 * r) (23 + 2 * r) (S 0 r 0) (S 1 r)
def Ctxt (h : AH) (S : SS) : Prop := ∀ r, r < 4 → RowAt h (34 + 2 * r) (35 + 2 * r) (S 2 r 0) (S 3 r)
def Cfnd (h : AH) (S : SS) : Prop := ∃ f, h.2.2 7 = some (.inl (0, 6, .inl f)) ∧ ∀ i, i < 6 → f i = S 6 i 0
def Ckep (h : AH) (S : SS) : Prop := ∃ f g, h.2.2 5 = some (.inl (0, 3, .inl f)) ∧ h.2.2 6 = some (.inl (0, 3, .inl g)) ∧ ∀ k, k < 3 → (S 21 k 0 = -1 ∧ g k = -9) ∨ (0 ≤ S 21 k 0 ∧ f k = S 21 k 0 ∧ g k = S 22 k 0 ∧ g k ≠ -9)
abbrev trip (rd : Nat) (lw bf st by_ py ca mv : Int32) : va_E := .inr (9, [.ref rd, .int lw, .int bf, .int st, .int by_, .int py, .int ca, .int mv])
/-- five numbers below 8 in one -/
def pack5 (f : Nat → Int32) : Int32 := f 0 + f 1 * 8 + f 2 * 64 + f 3 * 512 + f 4 * 4096
def Ctrp (h : AH) (S : SS) : Prop := ∀ i, i < 60 → ∃ rd lw bf st by_ py ca mv, h.2.2 (42 + i) = some (trip rd lw bf st by_ py ca mv) ∧ (nI i < S 16 0 0 → bf = S 18 i 0 ∧ by_ = S 17 i 0 ∧ py = S 19 i 0 ∧ mv = pack5 (S 20 i))
def Ctri (h : AH) (a : Nat) : Prop := ∃ rd lw bf st by_ py ca mv, h.2.2 a = some (trip rd lw bf st by_ py ca mv)
theorem Carr.keep {h h1 : AH} (H : Carr h) (ha : ∀ a, 2 ≤ a → a ≤ 4 → h1.2.2 a = h.2.2 a) : Carr h1 := by
  obtain ⟨⟨f, h1, h2⟩, ⟨f', h1', h2'⟩, ⟨f'', h1'', h2''⟩⟩ := H
  exact ⟨⟨f, by rw [ha 2 (by omega) (by omega)]; exact h1, h2⟩, ⟨f', by rw [ha 3 (by omega) (by omega)]; exact h1', h2'⟩, ⟨f'', by rw [ha 4 (by omega) (by omega)]; exact h1'', h2''⟩⟩
theorem Crow.keep {h h1 : AH} {S S1 : SS} (H : Crow h S) (ha : ∀ a, 22 ≤ a → a ≤ 33 → h1.2.2 a = h.2.2 a) (hz : ∀ r, S1 0 r 0 = S 0 r 0) (hp : ∀ r i, S1 1 r i = S 1 r i) : Crow h1 S1 := fun r hr => by
  rw [hz]
  exact (H r hr).keep (ha _ (by omega) (by omega)) (ha _ (by omega) (by omega)) (hp r)
theorem Ctxt.keep {h h1 : AH} {S S1 : SS} (H : Ctxt h S) (ha : ∀ a, 34 ≤ a → a ≤ 41 → h1.2.2 a = h.2.2 a) (hz : ∀ r, S1 2 r 0 = S 2 r 0) (hp : ∀ r i, S1 3 r i = S 3 r i) : Ctxt h1 S1 := fun r hr => by
  rw [hz]
  exact (H r hr).keep (ha _ (by omega) (by omega)) (ha _ (by omega) (by omega)) (hp r)
theorem Cfnd.keep {h h1 : AH} {S S1 : SS} (H : Cfnd h S) (ha : h1.2.2 7 = h.2.2 7) (hz : ∀ r, S1 6 r 0 = S 6 r 0) : Cfnd h1 S1 := by
  obtain ⟨f, h2, h3⟩ := H
  exact ⟨f, by rw [ha]; exact h2, fun i hi => by rw [hz]; exact h3 i hi⟩
theorem Ckep.keep {h h1 : AH} {S S1 : SS} (H : Ckep h S) (h5 : h1.2.2 5 = h.2.2 5) (h6 : h1.2.2 6 = h.2.2 6) (hz : ∀ r, S1 21 r 0 = S 21 r 0) (hw : ∀ r, S1 22 r 0 = S 22 r 0) : Ckep h1 S1 := by
  obtain ⟨f, g, h2, h3, h4⟩ := H
  exact ⟨f, g, by rw [h5]; exact h2, by rw [h6]; exact h3, fun k hk => by rw [hz, hw]; exact h4 k hk⟩
theorem Ctrp.keep {h h1 : AH} {S S1 : SS} (H : Ctrp h S) (ha : ∀ a, 42 ≤ a → a ≤ 101 → h1.2.2 a = h.2.2 a) (h16 : S1 16 0 0 = S 16 0 0) (h17 : ∀ i, S1 17 i 0 = S 17 i 0) (h18 : ∀ i, S1 18 i 0 = S 18 i 0) (h19 : ∀ i, S1 19 i 0 = S 19 i 0) (h20 : ∀ i k, S1 20 i k = S 20 i k) : Ctrp h1 S1 := fun i hi => by
  obtain ⟨rd, lw, bf, st, by_, py, ca, mv, h2, h3⟩ := H i hi
  refine ⟨rd, lw, bf, st, by_, py, ca, mv, by rw [ha _ (by omega) (by omega)]; exact h2, fun hq => ?_⟩
  rw [h16] at hq
  rw [h17, h18, h19, show S1 20 i = S 20 i from funext (h20 i)]
  exact h3 hq
theorem Ctri.keep {h h1 : AH} {a : Nat} (H : Ctri h a) (ha : h1.2.2 a = h.2.2 a) : Ctri h1 a := by
  obtain ⟨rd, lw, bf, st, by_, py, ca, mv, h2⟩ := H
  exact ⟨rd, lw, bf, st, by_, py, ca, mv, by rw [ha]; exact h2⟩
