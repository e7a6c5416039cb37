/-! what the decompiled methods are made of: each takes what comes behind it -/
def gI (h : AH) (a ci k : Nat) (K : Int32 → Prop) : Prop := ∃ fs x, h.2.2 a = some (.inr (ci, fs)) ∧ fs[k]? = some (.int x) ∧ K x
def gL (h : AH) (a ci k : Nat) (K : Int64 → Prop) : Prop := ∃ fs x, h.2.2 a = some (.inr (ci, fs)) ∧ fs[k]? = some (.long x) ∧ K x
def gR (h : AH) (a ci k : Nat) (K : Nat → Prop) : Prop := ∃ fs x, h.2.2 a = some (.inr (ci, fs)) ∧ fs[k]? = some (.ref x) ∧ K x
def wkl : List Nat := [0, 1, 2, 3, 8, 10]
def gW (h : AH) (a k : Nat) (K : Int32 → Prop) : Prop := ∃ ci fs x, ci ∈ wkl ∧ h.2.2 a = some (.inr (ci, fs)) ∧ fs[k]? = some (.int x) ∧ K x
def pF (h : AH) (a ci k : Nat) (v : Value) (K : AH → Prop) : Prop := ∃ fs, h.2.2 a = some (.inr (ci, fs)) ∧ k < fs.length ∧ K (aput h a (.inr (ci, fs.set k v)))
def pW (h : AH) (a k : Nat) (v : Value) (K : AH → Prop) : Prop := ∃ ci fs, ci ∈ wkl ∧ h.2.2 a = some (.inr (ci, fs)) ∧ k < fs.length ∧ K (aput h a (.inr (ci, fs.set k v)))
def lI (h : AH) (a : Nat) (i : Int32) (K : Int32 → Prop) : Prop := ∃ n f, h.2.2 a = some (.inl (0, n, .inl f)) ∧ vp_in i n ∧ K (f i.toNatClampNeg)
def lX (h : AH) (i : Int32) (K : Int32 → Prop) : Prop := ∃ n f, h.2.2 0 = some (.inl (9, n, .inl f)) ∧ vp_in i n ∧ K (f i.toNatClampNeg)
def lB (h : AH) (a : Nat) (i : Int32) (K : Int32 → Prop) : Prop := ∃ n f, h.2.2 a = some (.inl (1, n, .inl f)) ∧ vp_in i n ∧ K (f i.toNatClampNeg)
def lQ (h : AH) (a t : Nat) (i : Int32) (K : Nat → Prop) : Prop := ∃ n f b, h.2.2 a = some (.inl (t, n, .inr (.inr (.inr (.inr f))))) ∧ vp_in i n ∧ f i.toNatClampNeg = some b ∧ K b
def sI (h : AH) (a : Nat) (i x : Int32) (K : AH → Prop) : Prop := ∃ n f, h.2.2 a = some (.inl (0, n, .inl f)) ∧ vp_in i n ∧ K (aput h a (.inl (0, n, .inl (upd f i.toNatClampNeg x))))
def sB (h : AH) (a : Nat) (i x : Int32) (K : AH → Prop) : Prop := ∃ n f, h.2.2 a = some (.inl (1, n, .inl f)) ∧ vp_in i n ∧ K (aput h a (.inl (1, n, .inl (upd f i.toNatClampNeg (x &&& 1)))))
def aokl (t : Nat) : List Nat := if t = 2 then [6] else if t = 3 then [9] else if t = 4 then wkl else []
def sQ (h : AH) (a t : Nat) (i : Int32) (v : Nat) (K : AH → Prop) : Prop := ∃ n f ci vs, h.2.2 a = some (.inl (t, n, .inr (.inr (.inr (.inr f))))) ∧ h.2.2 v = some (.inr (ci, vs)) ∧ ci ∈ aokl t ∧ vp_in i n ∧ K (aput h a (.inl (t, n, .inr (.inr (.inr (.inr (va_up f i.toNatClampNeg (some v))))))))
def aL (h : AH) (a t : Nat) (K : Int32 → Prop) : Prop := ∃ x : vp_A, h.2.2 a = some (.inl (t, x)) ∧ K (Int32.ofNat x.1)
def aLX (h : AH) (K : Int32 → Prop) : Prop := ∃ n f, h.2.2 0 = some (.inl (9, n, .inl f)) ∧ K (Int32.ofNat n)
def nA (h : AH) (t : Nat) (n : Int32) (K : Nat → AH → Prop) : Prop := ¬ n < 0 ∧ n.toNatClampNeg ≤ 100000 ∧ K h.1 (anew h n.toNatClampNeg (.inl (t, n.toNatClampNeg, .inl (fun _ => 0))))
def nQ (h : AH) (t : Nat) (n : Int32) (K : Nat → AH → Prop) : Prop := ¬ n < 0 ∧ n.toNatClampNeg ≤ 100000 ∧ K h.1 (anew h n.toNatClampNeg (.inl (t, n.toNatClampNeg, .inr (.inr (.inr (.inr (fun _ => none)))))))
def nO (h : AH) (ci N : Nat) (fs : List Value) (K : Nat → AH → Prop) : Prop := K h.1 (anew h N (.inr (ci, fs)))
def isO (h : AH) (a ci : Nat) : Prop := ∃ fs, h.2.2 a = some (.inr (ci, fs))
def anyO (h : AH) (a : Nat) : Prop := ∃ ci fs, ci < 13 ∧ h.2.2 a = some (.inr (ci, fs))
def iB (h : AH) (a : Nat) (K : Int32 → Prop) : Prop := ∃ ci fs, ci ∈ wkl ∧ h.2.2 a = some (.inr (ci, fs)) ∧ K (if ci = 0 ∨ ci = 3 then 1 else 0)
def iLm (h : AH) (a : Nat) (K : Int32 → Prop) : Prop := ∃ ci fs, ci ∈ wkl ∧ h.2.2 a = some (.inr (ci, fs)) ∧ K (if ci = 2 ∨ ci = 8 then 1 else 0)
def cpI (h : AH) (a0 : Nat) (sp : Int32) (a : Nat) (dp n : Int32) (K : AH → Prop) : Prop := ∃ n0 f n1 g, h.2.2 a0 = some (.inl (0, n0, .inl f)) ∧ h.2.2 a = some (.inl (0, n1, .inl g)) ∧ ¬ sp < 0 ∧ ¬ dp < 0 ∧ ¬ n < 0 ∧ sp.toNatClampNeg + n.toNatClampNeg ≤ n0 ∧ dp.toNatClampNeg + n.toNatClampNeg ≤ n1 ∧ K (aput h a (.inl (0, n1, .inl (va_cpy f g sp.toNatClampNeg dp.toNatClampNeg n.toNatClampNeg))))
def bl (x : Int32) : Prop := narrow .boolean (.int x) = .int x
def qI (Q : Int32 → AH → Prop) : Option Value → AH → Prop := fun r h => ∃ x, r = some (.int x) ∧ Q x h
def qL (Q : Int64 → AH → Prop) : Option Value → AH → Prop := fun r h => ∃ x, r = some (.long x) ∧ Q x h
def qO (Q : Option Nat → AH → Prop) : Option Value → AH → Prop := fun r h => ∃ x : Option Nat, r = some (va_rf x) ∧ Q x h
def qV (Q : AH → Prop) : Option Value → AH → Prop := fun r h => r = none ∧ Q h
/-- a field by its place in a pool -/
def Fok (own : String) (idx ci k : Nat) : Prop := ∃ C T N ref, vwCl[ci]? = some (C, T, N) ∧ k < N ∧ (∀ w ∈ u_ws C T N, w ∈ GW) ∧ Cond.fieldLink own idx ref (T k).2.1 (T k).2.2.1 ∈ lw_tbl ∧ (ref = (T k).1 ∨ Cond.sameField ref (T k).1 (T k).2.1 (T k).2.2.1 ∈ lw_tbl)
def Pok (own name : String) (idx ci k : Nat) (ty : FieldType) : Prop := ∃ (C : String) (T : u_T) (N : Nat) (ty0 : Nat → FieldType), vwCl[ci]? = some (C, T, N) ∧ k < N ∧ (∀ w ∈ u_ws C T N, w ∈ GW) ∧ (∀ k, k < N → parseFieldDescriptor (T k).2.2.1 = some (ty0 k)) ∧ (∀ a, a < N → ∀ b, b < N → a ≠ b → (T a).2.1 ≠ (T b).2.1) ∧ Cond.fieldLink own idx (T k).1 (T k).2.1 (T k).2.2.1 ∈ lw_tbl ∧ ((T k).2.2.2 = false ∨ ((T k).2.2.2 = true ∧ name = "<init>" ∧ (T k).1 = own)) ∧ parseFieldDescriptor (T k).2.2.1 = some ty
section RR
variable {o : Om} {κ : Ka} {h : AH} {pc : Nat} {lv : List (Nat × Value)} {st : List Value} {Q : Option Value → AH → Prop}
theorem r_gI {a ci k index : Nat} {K : Int32 → Prop} (F : Fok κ.1.cls index ci k) (hd : decode κ.2.1 pc = .ok (.getfield index, 3)) (H : gI h a ci k K) (kk : ∀ x, K x → AQ o κ h (pc + 3) lv (.int x :: st) Q) : AQ o κ h pc lv (.ref a :: st) Q := by
  obtain ⟨fs, x, h1, h2, h3⟩ := H
  obtain ⟨C, T, N, ref, f1, f2, f3, f4, f5⟩ := F
  exact a_get h1 h2 f1 f2 f3 f4 f5 hd (kk x h3)
theorem r_gL {a ci k index : Nat} {K : Int64 → Prop} (F : Fok κ.1.cls index ci k) (hd : decode κ.2.1 pc = .ok (.getfield index, 3)) (H : gL h a ci k K) (kk : ∀ x, K x → AQ o κ h (pc + 3) lv (.long x :: st) Q) : AQ o κ h pc lv (.ref a :: st) Q := by
  obtain ⟨fs, x, h1, h2, h3⟩ := H
  obtain ⟨C, T, N, ref, f1, f2, f3, f4, f5⟩ := F
  exact a_get h1 h2 f1 f2 f3 f4 f5 hd (kk x h3)
theorem r_gR {a ci k index : Nat} {K : Nat → Prop} (F : Fok κ.1.cls index ci k) (hd : decode κ.2.1 pc = .ok (.getfield index, 3)) (H : gR h a ci k K) (kk : ∀ x, K x → AQ o κ h (pc + 3) lv (.ref x :: st) Q) : AQ o κ h pc lv (.ref a :: st) Q := by
  obtain ⟨fs, x, h1, h2, h3⟩ := H
  obtain ⟨C, T, N, ref, f1, f2, f3, f4, f5⟩ := F
  exact a_get h1 h2 f1 f2 f3 f4 f5 hd (kk x h3)
theorem r_gW {a k index : Nat} {K : Int32 → Prop} (F : ∀ ci ∈ wkl, Fok κ.1.cls index ci k) (hd : decode κ.2.1 pc = .ok (.getfield index, 3)) (H : gW h a k K) (kk : ∀ x, K x → AQ o κ h (pc + 3) lv (.int x :: st) Q) : AQ o κ h pc lv (.ref a :: st) Q := by
  obtain ⟨ci, fs, x, h0, h1, h2, h3⟩ := H
  obtain ⟨C, T, N, ref, f1, f2, f3, f4, f5⟩ := F ci h0
  exact a_get h1 h2 f1 f2 f3 f4 f5 hd (kk x h3)
theorem r_pF {a ci k index : Nat} {v : Value} {ty : FieldType} {K : AH → Prop} (F : Pok κ.1.cls κ.1.name index ci k ty) (hn : ∀ o, narrow ty (asv o v) = asv o v) (hf : ∀ o, fits ty (asv o v) = true) (hd : decode κ.2.1 pc = .ok (.putfield index, 3)) (H : pF h a ci k v K) (kk : ∀ h, K h → AQ o κ h (pc + 3) lv st Q) : AQ o κ h pc lv (v :: .ref a :: st) Q := by
  obtain ⟨fs, h1, h2, h3⟩ := H
  obtain ⟨C, T, N, ty0, f1, f2, f3, f4, f5, f6, f7, f8⟩ := F
  exact a_put h1 h2 f1 f2 f3 f4 f5 f6 rfl f7 f8 hn hf hd (kk _ h3)
theorem r_pW {a k index : Nat} {v : Value} {ty : FieldType} {K : AH → Prop} (F : ∀ ci ∈ wkl, Pok κ.1.cls κ.1.name index ci k ty) (hn : ∀ o, narrow ty (asv o v) = asv o v) (hf : ∀ o, fits ty (asv o v) = true) (hd : decode κ.2.1 pc = .ok (.putfield index, 3)) (H : pW h a k v K) (kk : ∀ h, K h → AQ o κ h (pc + 3) lv st Q) : AQ o κ h pc lv (v :: .ref a :: st) Q := by
  obtain ⟨ci, fs, h0, h1, h2, h3⟩ := H
  obtain ⟨C, T, N, ty0, f1, f2, f3, f4, f5, f6, f7, f8⟩ := F ci h0
  exact a_put h1 h2 f1 f2 f3 f4 f5 f6 rfl f7 f8 hn hf hd (kk _ h3)
theorem r_lI {a : Nat} {i : Int32} {K : Int32 → Prop} (hd : decode κ.2.1 pc = .ok (.iaload, 1)) (H : lI h a i K) (kk : ∀ x, K x → AQ o κ h (pc + 1) lv (.int x :: st) Q) : AQ o κ h pc lv (.int i :: .ref a :: st) Q := by
  obtain ⟨n, f, h1, h2, h3⟩ := H
  exact a_iaload h1 h2 hd (kk _ h3)
theorem r_lX {i : Int32} {K : Int32 → Prop} (hd : decode κ.2.1 pc = .ok (.iaload, 1)) (H : lX h i K) (kk : ∀ x, K x → AQ o κ h (pc + 1) lv (.int x :: st) Q) : AQ o κ h pc lv (.int i :: .ref 0 :: st) Q := by
  obtain ⟨n, f, h1, h2, h3⟩ := H
  exact a_iaload_s h1 h2 hd (kk _ h3)
theorem r_lB {a : Nat} {i : Int32} {K : Int32 → Prop} (hd : decode κ.2.1 pc = .ok (.baload, 1)) (H : lB h a i K) (kk : ∀ x, K x → AQ o κ h (pc + 1) lv (.int x :: st) Q) : AQ o κ h pc lv (.int i :: .ref a :: st) Q := by
  obtain ⟨n, f, h1, h2, h3⟩ := H
  exact a_baload h1 h2 hd (kk _ h3)
theorem r_lQ {a t : Nat} {i : Int32} {K : Nat → Prop} (ht : 2 ≤ t ∧ t < 5) (hd : decode κ.2.1 pc = .ok (.aaload, 1)) (H : lQ h a t i K) (kk : ∀ x, K x → AQ o κ h (pc + 1) lv (.ref x :: st) Q) : AQ o κ h pc lv (.int i :: .ref a :: st) Q := by
  obtain ⟨n, f, b, h1, h2, h3, h4⟩ := H
  exact a_aaload ht h1 h2 h3 hd (kk _ h4)
theorem r_sI {a : Nat} {i x : Int32} {K : AH → Prop} (hd : decode κ.2.1 pc = .ok (.iastore, 1)) (H : sI h a i x K) (kk : ∀ h, K h → AQ o κ h (pc + 1) lv st Q) : AQ o κ h pc lv (.int x :: .int i :: .ref a :: st) Q := by
  obtain ⟨n, f, h1, h2, h3⟩ := H
  exact a_iastore h1 h2 hd (kk _ h3)
theorem r_sB {a : Nat} {i x : Int32} {K : AH → Prop} (hd : decode κ.2.1 pc = .ok (.bastore, 1)) (H : sB h a i x K) (kk : ∀ h, K h → AQ o κ h (pc + 1) lv st Q) : AQ o κ h pc lv (.int x :: .int i :: .ref a :: st) Q := by
  obtain ⟨n, f, h1, h2, h3⟩ := H
  exact a_bastore h1 h2 hd (kk _ h3)
theorem r_sQ {a t v : Nat} {i : Int32} {K : AH → Prop} (ht : 2 ≤ t ∧ t < 5) (hd : decode κ.2.1 pc = .ok (.aastore, 1)) (H : sQ h a t i v K) (kk : ∀ h, K h → AQ o κ h (pc + 1) lv st Q) : AQ o κ h pc lv (.ref v :: .int i :: .ref a :: st) Q := by
  obtain ⟨n, f, ci, vs, h1, h2, h3, h4, h5⟩ := H
  have h6 := kk _ h5
  match t, ht, h1, h3, h6 with
  | 2, _, h1, h3, h6 =>
    have e : ci = 6 := by simpa [aokl] using h3
    subst e
    exact a_aastore (q := (RX6, TX6, 2)) (by decide) (fun _ => rfl) h1 h2 rfl (Or.inl rfl) h4 hd h6
  | 3, _, h1, h3, h6 =>
    have e : ci = 9 := by simpa [aokl] using h3
    subst e
    exact a_aastore (q := (RX9, TX9, 8)) (by decide) (fun _ => rfl) h1 h2 rfl (Or.inl rfl) h4 hd h6
  | 4, _, h1, h3, h6 =>
    have e : ci = 0 ∨ ci = 1 ∨ ci = 2 ∨ ci = 3 ∨ ci = 8 ∨ ci = 10 := by simpa [aokl, wkl] using h3
    rcases e with rfl | rfl | rfl | rfl | rfl | rfl
    · exact a_aastore (q := (RX0, TX0, 2)) (by decide) (fun _ => rfl) h1 h2 rfl (Or.inr (by decide +kernel)) h4 hd h6
    · exact a_aastore (q := (RX1, TX1, 2)) (by decide) (fun _ => rfl) h1 h2 rfl (Or.inr (by decide +kernel)) h4 hd h6
    · exact a_aastore (q := (RX2, TX2, 2)) (by decide) (fun _ => rfl) h1 h2 rfl (Or.inr (by decide +kernel)) h4 hd h6
    · exact a_aastore (q := (RX3, TX3, 2)) (by decide) (fun _ => rfl) h1 h2 rfl (Or.inr (by decide +kernel)) h4 hd h6
    · exact a_aastore (q := (RX8, TX8, 2)) (by decide) (fun _ => rfl) h1 h2 rfl (Or.inr (by decide +kernel)) h4 hd h6
    · exact a_aastore (q := (RX10, TX10, 2)) (by decide) (fun _ => rfl) h1 h2 rfl (Or.inl rfl) h4 hd h6
theorem r_aL {a t : Nat} {K : Int32 → Prop} (ht : t < 5) (hd : decode κ.2.1 pc = .ok (.arraylength, 1)) (H : aL h a t K) (kk : ∀ x, K x → AQ o κ h (pc + 1) lv (.int x :: st) Q) : AQ o κ h pc lv (.ref a :: st) Q := by
  obtain ⟨x, h1, h2⟩ := H
  exact a_alen ht h1 hd (kk _ h2)
theorem r_aLX {K : Int32 → Prop} (hd : decode κ.2.1 pc = .ok (.arraylength, 1)) (H : aLX h K) (kk : ∀ x, K x → AQ o κ h (pc + 1) lv (.int x :: st) Q) : AQ o κ h pc lv (.ref 0 :: st) Q := by
  obtain ⟨n, f, h1, h2⟩ := H
  exact a_alen_s h1 hd (kk _ h2)
theorem r_nA {t : Nat} {n : Int32} {atype : ArrayType} {K : Nat → AH → Prop} (ht : (t = 0 ∧ atype = .int) ∨ (t = 1 ∧ atype = .boolean)) (hd : decode κ.2.1 pc = .ok (.newarray atype, 2)) (H : nA h t n K) (kk : ∀ a h, K a h → AQ o κ h (pc + 2) lv (.ref a :: st) Q) : AQ o κ h pc lv (.int n :: st) Q :=
  a_newa ht H.1 rfl H.2.1 hd (kk _ _ H.2.2)
theorem r_nQ {t index : Nat} {n : Int32} {C : String} {K : Nat → AH → Prop} (hty : ∀ o, (tyl o)[t]? = some (o.2.2.2.1 t, .object C)) (hao : C ∈ aovl) (hcl : Cond.classLink κ.1.cls index C ∈ lw_tbl) (hd : decode κ.2.1 pc = .ok (.anewarray index, 3)) (H : nQ h t n K) (kk : ∀ a h, K a h → AQ o κ h (pc + 3) lv (.ref a :: st) Q) : AQ o κ h pc lv (.int n :: st) Q :=
  a_newq hty hao hcl H.1 rfl H.2.1 hd (kk _ _ H.2.2)
theorem r_nO {index ci N : Nat} {C : String} {T : u_T} {ty : Nat → FieldType} {fs : List Value} {K : Nat → AH → Prop} (hci : vwCl[ci]? = some (C, T, N)) (hin : ∀ w ∈ u_ws C T N, w ∈ GW) (hty : ∀ k, k < N → parseFieldDescriptor (T k).2.2.1 = some (ty k)) (hcl : Cond.classLink κ.1.cls index C ∈ lw_tbl) (hinst : Cond.instantiable C N ∈ lw_tbl) (hini : Cond.initialized C ∈ lw_tbl) (hfs : ∀ o j, j < N → defaultValue (ty j) = vp_V (fs.map (asv o)) j) (hd : decode κ.2.1 pc = .ok (.new index, 3)) (H : nO h ci N fs K) (kk : ∀ a h, K a h → AQ o κ h (pc + 3) lv (.ref a :: st) Q) : AQ o κ h pc lv st Q :=
  a_new hci hin hty hcl hinst hini hfs hd (kk _ _ H)
theorem r_iB {index a : Nat} {K : Int32 → Prop} (hcl : Cond.classLink κ.1.cls index "MilestonesOn$Both" ∈ lw_tbl) (hd : decode κ.2.1 pc = .ok (.instanceof index, 3)) (H : iB h a K) (kk : ∀ x, K x → AQ o κ h (pc + 3) lv (.int x :: st) Q) : AQ o κ h pc lv (.ref a :: st) Q := by
  obtain ⟨ci, fs, h0, h1, h2⟩ := H
  have e : ci = 0 ∨ ci = 1 ∨ ci = 2 ∨ ci = 3 ∨ ci = 8 ∨ ci = 10 := by simpa [wkl] using h0
  rcases e with rfl | rfl | rfl | rfl | rfl | rfl
  · exact a_inst (q := (RX0, TX0, 2)) h1 rfl hcl (Or.inl ⟨rfl, Or.inl rfl⟩) hd (kk 1 h2)
  · exact a_inst (q := (RX1, TX1, 2)) h1 rfl hcl (Or.inr ⟨rfl, by decide +kernel⟩) hd (kk 0 h2)
  · exact a_inst (q := (RX2, TX2, 2)) h1 rfl hcl (Or.inr ⟨rfl, by decide +kernel⟩) hd (kk 0 h2)
  · exact a_inst (q := (RX3, TX3, 2)) h1 rfl hcl (Or.inl ⟨rfl, Or.inr (by decide +kernel)⟩) hd (kk 1 h2)
  · exact a_inst (q := (RX8, TX8, 2)) h1 rfl hcl (Or.inr ⟨rfl, by decide +kernel⟩) hd (kk 0 h2)
  · exact a_inst (q := (RX10, TX10, 2)) h1 rfl hcl (Or.inr ⟨rfl, by decide +kernel⟩) hd (kk 0 h2)
theorem r_iLm {index a : Nat} {K : Int32 → Prop} (hcl : Cond.classLink κ.1.cls index "MilestonesOn$Lame" ∈ lw_tbl) (hd : decode κ.2.1 pc = .ok (.instanceof index, 3)) (H : iLm h a K) (kk : ∀ x, K x → AQ o κ h (pc + 3) lv (.int x :: st) Q) : AQ o κ h pc lv (.ref a :: st) Q := by
  obtain ⟨ci, fs, h0, h1, h2⟩ := H
  have e : ci = 0 ∨ ci = 1 ∨ ci = 2 ∨ ci = 3 ∨ ci = 8 ∨ ci = 10 := by simpa [wkl] using h0
  rcases e with rfl | rfl | rfl | rfl | rfl | rfl
  · exact a_inst (q := (RX0, TX0, 2)) h1 rfl hcl (Or.inr ⟨rfl, by decide +kernel⟩) hd (kk 0 h2)
  · exact a_inst (q := (RX1, TX1, 2)) h1 rfl hcl (Or.inr ⟨rfl, by decide +kernel⟩) hd (kk 0 h2)
  · exact a_inst (q := (RX2, TX2, 2)) h1 rfl hcl (Or.inl ⟨rfl, Or.inl rfl⟩) hd (kk 1 h2)
  · exact a_inst (q := (RX3, TX3, 2)) h1 rfl hcl (Or.inr ⟨rfl, by decide +kernel⟩) hd (kk 0 h2)
  · exact a_inst (q := (RX8, TX8, 2)) h1 rfl hcl (Or.inl ⟨rfl, Or.inr (by decide +kernel)⟩) hd (kk 1 h2)
  · exact a_inst (q := (RX10, TX10, 2)) h1 rfl hcl (Or.inr ⟨rfl, by decide +kernel⟩) hd (kk 0 h2)
theorem r_cp {index a0 a : Nat} {sp dp n : Int32} {K : AH → Prop} (hl : Cond.methodLink κ.1.cls index arraycopyName ∈ lw_tbl) (hnat : Cond.native arraycopyName ∈ lw_tbl) (hstat : Cond.static arraycopyName ∈ lw_tbl) (hini : Cond.initialized "java/lang/System" ∈ lw_tbl) (hf : 1 ≤ κ.2.2.2.2.1 ∧ (st.map fun v => v.category).sum + (nativeFrameWords "java/lang/System" "arraycopy" 5 + 11) ≤ κ.2.2.2.2.2) (hd : decode κ.2.1 pc = .ok (.invokestatic index, 3)) (H : cpI h a0 sp a dp n K) (kk : ∀ h, K h → AQ o κ h (pc + 3) lv st Q) : AQ o κ h pc lv (.int n :: .int dp :: .ref a :: .int sp :: .ref a0 :: st) Q := by
  obtain ⟨n0, f, n1, g, h1, h2, h3, h4, h5, h6, h7, h8⟩ := H
  exact a_copy h1 h2 h3 h4 h5 h6 h7 hl hnat hstat hini hf hd (kk _ h8)
theorem r_reti {x : Int32} {Q : Int32 → AH → Prop} (hr : κ.2.2.2.1 = some .int) (hd : decode κ.2.1 pc = .ok (.ireturn, 1)) (H : Q x h) : AQ o κ h pc lv [.int x] (qI Q) :=
  a_ret (r := some (.int x)) (by rw [hr]; exact ⟨x, rfl, rfl⟩) (by rw [hr]; exact hd) ⟨x, rfl, H⟩
theorem r_retz {x : Int32} {Q : Int32 → AH → Prop} (hr : κ.2.2.2.1 = some .boolean) (hb : bl x) (hd : decode κ.2.1 pc = .ok (.ireturn, 1)) (H : Q x h) : AQ o κ h pc lv [.int x] (qI Q) :=
  a_ret (r := some (.int x)) (by rw [hr]; exact ⟨x, rfl, hb⟩) (by rw [hr]; exact hd) ⟨x, rfl, H⟩
theorem r_retl {x : Int64} {Q : Int64 → AH → Prop} (hr : κ.2.2.2.1 = some .long) (hd : decode κ.2.1 pc = .ok (.lreturn, 1)) (H : Q x h) : AQ o κ h pc lv [.long x] (qL Q) :=
  a_ret (r := some (.long x)) (by rw [hr]; exact ⟨x, rfl⟩) (by rw [hr]; exact hd) ⟨x, rfl, H⟩
theorem r_reto {q : Option Nat} {C : String} {Q : Option Nat → AH → Prop} (hr : κ.2.2.2.1 = some (.object C)) (hd : decode κ.2.1 pc = .ok (.areturn, 1)) (H : Q q h) : AQ o κ h pc lv [va_rf q] (qO Q) :=
  a_ret (r := some (va_rf q)) (by rw [hr]; exact ⟨q, rfl⟩) (by rw [hr]; exact hd) ⟨q, rfl, H⟩
theorem r_retv {Q : AH → Prop} (hr : κ.2.2.2.1 = none) (hd : decode κ.2.1 pc = .ok (.return_, 1)) (H : Q h) : AQ o κ h pc lv [] (qV Q) :=
  a_ret (r := none) (by rw [hr]; exact rfl) (by rw [hr]; exact hd) ⟨rfl, H⟩
theorem r_tab {dflt lo hi : Int} {offs : Array Int} {len : Nat} {x v : Int32} {off : Int} {tgt : Nat} (hd : decode κ.2.1 pc = .ok (.tableswitch dflt lo hi offs, len)) (hx : x = v) (h1 : ¬ v.toInt < lo) (h2 : ¬ hi < v.toInt) (ho : offs[(v.toInt - lo).toNat]? = some off) (ht : (pc : Int) + off = (tgt : Int)) (k : AQ o κ h tgt lv st Q) : AQ o κ h pc lv (.int x :: st) Q := by
  subst hx
  exact a_tableIn hd h1 h2 ho ht k
theorem r_look {dflt : Int} {ps : Array (Int × Int)} {len : Nat} {x v : Int32} {off : Int} {tgt : Nat} (hd : decode κ.2.1 pc = .ok (.lookupswitch dflt ps, len)) (hp : (ps.toList.zip (ps.toList.drop 1)).all (fun (a, next) => a.1 < next.1) = true) (hx : x = v) (ho : Op.lookupswitch.offset ps.toList dflt v.toInt = off) (ht : (pc : Int) + off = (tgt : Int)) (k : AQ o κ h tgt lv st Q) : AQ o κ h pc lv (.int x :: st) Q := by
  subst hx
  exact a_lookup hd hp ho ht k
end RR
theorem lgc_lt (x y : Int64) : lg_cmp x y < 0 ↔ x < y := by
  unfold lg_cmp
  by_cases h1 : x > y
  · rw [if_pos h1]
    exact ⟨fun h => absurd h (by decide), fun h => absurd h (Int64.lt_asymm h1)⟩
  · rw [if_neg h1]
    by_cases h2 : x = y
    · rw [if_pos h2]
      exact ⟨fun h => absurd h (by decide), fun h => absurd (h2 ▸ h) (Int64.lt_irrefl)⟩
    · rw [if_neg h2]
      exact ⟨fun _ => by
        rcases Int64.lt_or_le x y with h | h
        · exact h
        · exact absurd (Int64.lt_of_le_of_ne h (Ne.symm h2)) h1, fun _ => by decide⟩
theorem lgc_gt (x y : Int64) : 0 < lg_cmp x y ↔ y < x := by
  unfold lg_cmp
  by_cases h1 : x > y
  · rw [if_pos h1]
    exact ⟨fun _ => h1, fun _ => by decide⟩
  · rw [if_neg h1]
    by_cases h2 : x = y
    · rw [if_pos h2]
      exact ⟨fun h => absurd h (by decide), fun h => absurd h h1⟩
    · rw [if_neg h2]
      exact ⟨fun h => absurd h (by decide), fun h => absurd h h1⟩
theorem lgc_eq (x y : Int64) : lg_cmp x y = 0 ↔ x = y := by
  unfold lg_cmp
  by_cases h1 : x > y
  · rw [if_pos h1]
    exact ⟨fun h => absurd h (by decide), fun h => absurd (h ▸ h1) (Int64.lt_irrefl)⟩
  · rw [if_neg h1]
    by_cases h2 : x = y
    · rw [if_pos h2]
      exact ⟨fun _ => h2, fun _ => rfl⟩
    · rw [if_neg h2]
      exact ⟨fun h => absurd h (by decide), fun h => absurd h h2⟩
theorem lgc_le (x y : Int64) : lg_cmp x y ≤ 0 ↔ x ≤ y := by
  rw [← Int32.not_lt, ← Int64.not_lt, lgc_gt]
theorem lgc_ge (x y : Int64) : 0 ≤ lg_cmp x y ↔ y ≤ x := by
  rw [← Int32.not_lt, ← Int64.not_lt, lgc_lt]
