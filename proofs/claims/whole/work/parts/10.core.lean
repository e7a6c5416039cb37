/-! An abstract heap, a judgement over it (AQ), a contract over it (MQ): the rest of the proof speaks of these alone. -/
/-- cells made (0 is the script), slots made, what the cells hold -/
abbrev AH : Type := Nat × Nat × (Nat → Option va_E)
/-- launch, the script's address, where new cells begin, the array classes by number, the classes -/
abbrev Om : Type := Launch × Nat × Nat × (Nat → ClassId) × va_G
/-- a method: name, code, locals, what it returns, frames and words that it wants -/
abbrev Ka : Type := MethodName × ByteArray × Nat × Option FieldType × Nat × Nat
def aad (o : Om) (a : Nat) : Nat := if a = 0 then o.2.1 else o.2.2.1 + (a - 1)
def asv (o : Om) : Value → Value
  | .ref a => .ref (aad o a)
  | v => v
def ase (o : Om) : va_E → va_E
  | .inl (t, n, .inr (.inr (.inr (.inr f)))) => .inl (o.2.2.2.1 t, n, .inr (.inr (.inr (.inr (fun i => (f i).map (aad o))))))
  | .inl (t, x) => .inl (o.2.2.2.1 t, x)
  | .inr (c, fs) => .inr (c, fs.map (asv o))
theorem asv_int (o : Om) (x : Int32) : asv o (.int x) = .int x := rfl
theorem asv_long (o : Om) (x : Int64) : asv o (.long x) = .long x := rfl
theorem asv_null (o : Om) : asv o .null = .null := rfl
theorem asv_ref (o : Om) (a : Nat) : asv o (.ref a) = .ref (aad o a) := rfl
theorem asv_cat (o : Om) (v : Value) : (asv o v).category = v.category := by cases v <;> rfl
theorem asv_rf (o : Om) (q : Option Nat) : asv o (va_rf q) = va_rf (q.map (aad o)) := by cases q <;> rfl
theorem ase_i (o : Om) (t n : Nat) (f : Nat → Int32) : ase o (.inl (t, n, .inl f)) = .inl (o.2.2.2.1 t, n, .inl f) := rfl
theorem ase_q (o : Om) (t n : Nat) (f : Nat → Option Nat) : ase o (.inl (t, n, .inr (.inr (.inr (.inr f))))) = .inl (o.2.2.2.1 t, n, .inr (.inr (.inr (.inr (fun i => (f i).map (aad o)))))) := rfl
theorem ase_o (o : Om) (c : Nat) (fs : List Value) : ase o (.inr (c, fs)) = .inr (c, fs.map (asv o)) := rfl
def slv (o : Om) (lv : List (Nat × Value)) : List (Nat × Value) := lv.map (fun q => (q.1, asv o q.2))
def lst1 (lv : List (Nat × Value)) (i : Nat) (v : Value) : List (Nat × Value) := (i, v) :: lv.filter (fun q => !(q.1 == i) && !(q.1 + 1 == i && q.2.category == 2))
def lst2 (lv : List (Nat × Value)) (i : Nat) (v : Value) : List (Nat × Value) := (i, v) :: lv.filter (fun q => !(q.1 == i) && (!(q.1 == i + 1) && !(q.1 + 1 == i && q.2.category == 2)))
theorem slv_lst1 (o : Om) (lv : List (Nat × Value)) (i : Nat) (v : Value) : slv o (lst1 lv i v) = lst1 (slv o lv) i (asv o v) := by
  simp only [slv, lst1, List.map_cons, List.filter_map]
  congr 2
  refine List.filter_congr (fun q _ => ?_)
  simp [Function.comp, asv_cat]
theorem slv_lst2 (o : Om) (lv : List (Nat × Value)) (i : Nat) (v : Value) : slv o (lst2 lv i v) = lst2 (slv o lv) i (asv o v) := by
  simp only [slv, lst2, List.map_cons, List.filter_map]
  congr 2
  refine List.filter_congr (fun q _ => ?_)
  simp [Function.comp, asv_cat]
theorem slv_pick (o : Om) (lv : List (Nat × Value)) (ks : List Nat) : slv o (lv_pick lv ks) = lv_pick (slv o lv) ks := by
  unfold slv lv_pick
  rw [List.map_filterMap]
  congr 1
  funext k
  rw [List.getElem?_map]
theorem slv_at {o : Om} {lv : List (Nat × Value)} {ls : Array Slot} {nL k i : Nat} {v : Value} (h : lv_has ls nL (slv o lv)) (hk : lv[k]? = some (i, v)) : ls[i]? = some (.val (asv o v)) :=
  lv_at h k (by unfold slv; rw [List.getElem?_map, hk]; rfl)
theorem slv_args (o : Om) (av : List Value) : ∀ i, slv o (lv_args i av) = lv_args i (av.map (asv o)) := by
  induction av with
  | nil => intro i; rfl
  | cons v vs ih =>
    intro i
    simp only [lv_args, List.map_cons, asv_cat]
    rw [← ih]
    rfl
theorem lg_sl_len (o : Om) (av : List Value) : (lg_sl (av.map (asv o))).length = (lg_sl av).length := by
  induction av with
  | nil => rfl
  | cons v vs ih =>
    have h1 : ∀ (w : Value) (ws : List Value), (lg_sl (w :: ws)).length = (if w.category = 2 then 2 else 1) + (lg_sl ws).length := by
      intro w ws
      simp only [lg_sl, List.flatMap_cons, List.length_append]
      split <;> rfl
    rw [List.map_cons, h1, h1, ih, asv_cat]
/-- the words that a callee may take over -/
def GW : List Cond := lw_tbl.filter goodWord
def cstl : List (String × String) := [("MilestonesOn$Pilgrim", "MilestonesOn$Both"), ("MilestonesOn$Thief", "MilestonesOn$Lame"), ("MilestonesOn$Cart", "MilestonesOn$Walker"), ("MilestonesOn$Both", "MilestonesOn$Walker"), ("MilestonesOn$Lame", "MilestonesOn$Walker"), ("MilestonesOn$Thief", "MilestonesOn$Walker"), ("MilestonesOn$Pilgrim", "MilestonesOn$Walker")]
def nocl : List (String × String) := [("MilestonesOn$Walker", "MilestonesOn$Both"), ("MilestonesOn$Cart", "MilestonesOn$Both"), ("MilestonesOn$Lame", "MilestonesOn$Both"), ("MilestonesOn$Thief", "MilestonesOn$Both"), ("MilestonesOn$Walker", "MilestonesOn$Lame"), ("MilestonesOn$Cart", "MilestonesOn$Lame"), ("MilestonesOn$Both", "MilestonesOn$Lame"), ("MilestonesOn$Pilgrim", "MilestonesOn$Lame")]
def nstl : List (String × Nat × MethodName × String) := [("MilestonesOn", 59, yX5_init, "MilestonesOn"), ("MilestonesOn", 78, yX6_init, "MilestonesOn"), ("MilestonesOn$Reader", 11, yX5_init, "MilestonesOn")]
def aovl : List String := ["MilestonesOn$Row", "MilestonesOn$Trip", "MilestonesOn$Walker"]
def tyl (o : Om) : List (ClassId × FieldType) := [(o.2.2.2.1 0, .int), (o.2.2.2.1 1, .boolean), (o.2.2.2.1 2, .object "MilestonesOn$Row"), (o.2.2.2.1 3, .object "MilestonesOn$Trip"), (o.2.2.2.1 4, .object "MilestonesOn$Walker")]
/-- what holds of the loaded classes -/
def Vx (o : Om) (s : State) : Prop := va_K o.2.2.2.2 vwCl (tyl o) s ∧ (∀ q ∈ cstl, va_Nw (.castable q.1 q.2) s) ∧ (∀ q ∈ nocl, va_Nc q.1 q.2 s) ∧ (∀ q ∈ nstl, va_Nw (.methodLinkNest q.1 q.2.1 q.2.2.1 q.2.2.2) s) ∧ ∀ C ∈ aovl, va_AO C s
theorem Vx.warm {o : Om} {s U : State} (hW : s.WarmedH U.vm) (h : Vx o s) : Vx o U :=
  ⟨h.1.moved hW.alike, fun q hq => (h.2.1 q hq).warmC hW, fun q hq => (h.2.2.1 q hq).moved hW.alike, fun q hq => (h.2.2.2.1 q hq).warmM hW, fun C hC => (h.2.2.2.2 C hC).moved hW.alike⟩
theorem Vx.same {o : Om} {s U : State} (hv : s.vm = U.vm) (h : Vx o s) : Vx o U :=
  ⟨h.1.moved (by rw [hv]; exact Vm.Alike.refl _), fun q hq => (h.2.1 q hq).same rfl hv, fun q hq => (h.2.2.1 q hq).moved (by rw [hv]; exact Vm.Alike.refl _), fun q hq => (h.2.2.2.1 q hq).same rfl hv, fun C hC => (h.2.2.2.2 C hC).moved (by rw [hv]; exact Vm.Alike.refl _)⟩
/-- the machine's heap holds the abstract one -/
def Rl (o : Om) (h : AH) (s : State) (H : Heap) : Prop := 1 ≤ h.1 ∧ H.size = o.2.2.1 + (h.1 - 1) ∧ o.2.1 < o.2.2.1 ∧ (∀ a e, a ≠ 0 → h.2.2 a = some e → a < h.1 ∧ va_at o.2.2.2.2 vwCl (aad o a, ase o e) H) ∧ ∀ e, h.2.2 0 = some e → ∃ (L : Nat) (xs : Nat → Int32), e = .inl (9, L, .inl xs) ∧ va_X o.2.1 L xs s H
def zA (o : Om) : Nat → Prop := fun q => o.2.2.1 ≤ q
def aput (h : AH) (a : Nat) (e : va_E) : AH := (h.1, h.2.1, va_up h.2.2 a (some e))
def anew (h : AH) (k : Nat) (e : va_E) : AH := (h.1 + 1, h.2.1 + k, va_up h.2.2 h.1 (some e))
theorem Rl.moved {o : Om} {h : AH} {s t : State} {H : Heap} (hv : s.vm.Alike t.vm) (hR : Rl o h s H) : Rl o h t H :=
  ⟨hR.1, hR.2.1, hR.2.2.1, hR.2.2.2.1, fun e he => by
    obtain ⟨L, xs, h1, h2⟩ := hR.2.2.2.2 e he
    exact ⟨L, xs, h1, h2.moved hv⟩⟩
theorem aad_ne {o : Om} {a b : Nat} (hb : o.2.1 < o.2.2.1) (h : a ≠ b) : aad o a ≠ aad o b := by
  unfold aad
  split <;> split <;> omega
theorem Rl.lt {o : Om} {h : AH} {s : State} {H : Heap} (hR : Rl o h s H) {a : Nat} (ha : a < h.1) : aad o a < H.size ∨ a = 0 := by
  rcases Nat.eq_zero_or_pos a with h0 | h0
  · exact Or.inr h0
  · refine Or.inl ?_
    rw [hR.2.1]
    unfold aad
    rw [if_neg (by omega)]
    omega
theorem aad_zA {o : Om} {a : Nat} (h : a ≠ 0) : zA o (aad o a) := by
  unfold zA aad
  rw [if_neg h]
  omega
theorem Rl.put {o : Om} {h : AH} {s : State} {H H1 : Heap} (hR : Rl o h s H) {a : Nat} {e0 e : va_E} (h0 : a ≠ 0) (ha : h.2.2 a = some e0) (z : H1.size = H.size) (oq : ∀ q : Nat, q ≠ aad o a → H1[q]? = H[q]?) (he : va_at o.2.2.2.2 vwCl (aad o a, ase o e) H1) : Rl o (aput h a e) s H1 := by
  obtain ⟨r1, r2, r3, r4, r5⟩ := hR
  refine ⟨r1, z.trans r2, r3, fun b x hb hx => ?_, fun x hx => ?_⟩
  · show b < h.1 ∧ _
    by_cases hab : b = a
    · subst hab
      have e1 : (some e : Option va_E) = some x := by rw [← hx]; exact (va_up_self h.2.2 b (some e)).symm
      cases e1
      exact ⟨(r4 b e0 h0 ha).1, he⟩
    · have e1 : h.2.2 b = some x := by rw [← hx]; exact (va_up_ne h.2.2 (some e) hab).symm
      obtain ⟨q1, q2⟩ := r4 b x hb e1
      exact ⟨q1, q2.kept (oq _ (aad_ne r3 hab))⟩
  · have e1 : h.2.2 0 = some x := by rw [← hx]; exact (va_up_ne h.2.2 (some e) (Ne.symm h0)).symm
    obtain ⟨L, xs, q1, q2⟩ := r5 x e1
    refine ⟨L, xs, q1, q2.kept (oq _ ?_)⟩
    unfold aad
    rw [if_neg h0]
    omega
theorem Rl.push {o : Om} {h : AH} {s : State} {H H1 : Heap} (hR : Rl o h s H) {k : Nat} {e : va_E} (z : H1.size = H.size + 1) (oq : ∀ q : Nat, q < H.size → H1[q]? = H[q]?) (he : va_at o.2.2.2.2 vwCl (H.size, ase o e) H1) : Rl o (anew h k e) s H1 ∧ H.size = aad o h.1 := by
  obtain ⟨r1, r2, r3, r4, r5⟩ := hR
  have ea : H.size = aad o h.1 := by
    unfold aad
    rw [if_neg (by omega), r2]
  refine ⟨⟨by show 1 ≤ h.1 + 1; omega, by show H1.size = _ + (h.1 + 1 - 1); omega, r3, fun b x hb hx => ?_, fun x hx => ?_⟩, ea⟩
  · show b < h.1 + 1 ∧ _
    by_cases hab : b = h.1
    · subst hab
      have e1 : (some e : Option va_E) = some x := by rw [← hx]; exact (va_up_self h.2.2 h.1 (some e)).symm
      cases e1
      exact ⟨by omega, by rw [← ea]; exact he⟩
    · have e1 : h.2.2 b = some x := by rw [← hx]; exact (va_up_ne h.2.2 (some e) hab).symm
      obtain ⟨q1, q2⟩ := r4 b x hb e1
      exact ⟨by omega, q2.kept (oq _ q2.lt)⟩
  · have e1 : h.2.2 0 = some x := by rw [← hx]; exact (va_up_ne h.2.2 (some e) (by omega)).symm
    obtain ⟨L, xs, q1, q2⟩ := r5 x e1
    refine ⟨L, xs, q1, q2.kept (oq _ ?_)⟩
    omega
def retI (r : Option FieldType) : Instr := match r with
  | none => .return_
  | some .long => .lreturn
  | some (.object _) => .areturn
  | _ => .ireturn
def rok (r : Option FieldType) (v : Option Value) : Prop := match r with
  | none => v = none
  | some .long => ∃ x, v = some (.long x)
  | some (.object _) => ∃ q : Option Nat, v = some (va_rf q)
  | some ty => ∃ x, v = some (.int x) ∧ narrow ty (.int x) = .int x
/-- what holds in a method's frame -/
def Cx (o : Om) (κ : Ka) (p : Program) (R : Room) (s : State) (m : MethodId) (args : Array Value) (meth : Method) (c : Code) : Prop :=
  p.tables.exec = Jvm.exec ∧ c.code = κ.2.1 ∧ c.maxLocals = κ.2.2.1 ∧ s.vm.findClass κ.1.cls = some m.cls ∧ (∀ w ∈ lw_tbl, goodWord w = true → w.before args s = true) ∧ meth.locks = false ∧ (κ.1.name = "<init>" → meth.name = "<init>") ∧ meth.sig.returnType = κ.2.2.2.1 ∧ Vx o s ∧ κ.2.2.2.2.1 ≤ R.frames ∧ κ.2.2.2.2.2 ≤ R.locals ∧ o.2.2.1 ≤ s.heap.size
def AW (o : Om) (κ : Ka) (h : AH) (pc : Nat) (lv : List (Nat × Value)) (st : List Value) (r : Option Value) (h' : AH) : Prop :=
  h.1 ≤ h'.1 ∧ h.2.1 ≤ h'.2.1 ∧ rok κ.2.2.2.1 r ∧ ∀ (p : Program) (e : Env) (R : Room) (s : State) (m : MethodId) (args : Array Value) (below : List Frame) (meth : Method) (c : Code) (H : Heap) (locs : List Loc) (cells slots : Nat) (Q : State → Prop) (ls : Array Slot),
    Cx o κ p R s m args meth c → Rl o h s H → va_S (zA o) s.heap H locs → lv_has ls κ.2.2.1 (slv o lv) → cells + (h'.1 - h.1) ≤ R.cells → slots + (h'.2.1 - h.2.1) ≤ R.slots →
    (∀ (H' : Heap) (locs' : List Loc) (pc' : Nat) (ls' : Array Slot), Rl o h' s H' → va_S (zA o) s.heap H' locs' → decode κ.2.1 pc' = .ok (retI κ.2.2.2.1, 1) → W p o.1 e R s m args below meth c H' locs' (cells + (h'.1 - h.1)) (slots + (h'.2.1 - h.2.1)) Q (F0 m pc' ls' (r.map (asv o)).toList)) →
    W p o.1 e R s m args below meth c H locs cells slots Q (F0 m pc ls (st.map (asv o)))
def AQ (o : Om) (κ : Ka) (h : AH) (pc : Nat) (lv : List (Nat × Value)) (st : List Value) (Q : Option Value → AH → Prop) : Prop := ∃ r h', AW o κ h pc lv st r h' ∧ Q r h'
theorem AQ.go {o : Om} {κ : Ka} {h h1 : AH} {pc pc1 : Nat} {lv lv1 : List (Nat × Value)} {st st1 : List Value} {Q : Option Value → AH → Prop} (hm : h.1 ≤ h1.1 ∧ h.2.1 ≤ h1.2.1)
    (f : ∀ (p : Program) (e : Env) (R : Room) (s : State) (m : MethodId) (args : Array Value) (below : List Frame) (meth : Method) (c : Code) (H : Heap) (locs : List Loc) (cells slots : Nat) (Qw : State → Prop) (ls : Array Slot),
      Cx o κ p R s m args meth c → Rl o h s H → va_S (zA o) s.heap H locs → lv_has ls κ.2.2.1 (slv o lv) → cells + (h1.1 - h.1) ≤ R.cells → slots + (h1.2.1 - h.2.1) ≤ R.slots →
      (∀ (H1 : Heap) (locs1 : List Loc) (ls1 : Array Slot), Rl o h1 s H1 → va_S (zA o) s.heap H1 locs1 → lv_has ls1 κ.2.2.1 (slv o lv1) → W p o.1 e R s m args below meth c H1 locs1 (cells + (h1.1 - h.1)) (slots + (h1.2.1 - h.2.1)) Qw (F0 m pc1 ls1 (st1.map (asv o)))) →
      W p o.1 e R s m args below meth c H locs cells slots Qw (F0 m pc ls (st.map (asv o))))
    (k : AQ o κ h1 pc1 lv1 st1 Q) : AQ o κ h pc lv st Q := by
  obtain ⟨r, h', ⟨m1, m2, hr, kw⟩, hq⟩ := k
  refine ⟨r, h', ⟨Nat.le_trans hm.1 m1, Nat.le_trans hm.2 m2, hr, ?_⟩, hq⟩
  intro p e R s m args below meth c H locs cells slots Qw ls hC hR hS hl hc1 hc2 fin
  have hm1 := hm.1
  have hm2 := hm.2
  refine f p e R s m args below meth c H locs cells slots Qw ls hC hR hS hl (by omega) (by omega) ?_
  intro H1 locs1 ls1 hR1 hS1 hl1
  refine kw p e R s m args below meth c H1 locs1 _ _ Qw ls1 hC hR1 hS1 hl1 (by omega) (by omega) ?_
  intro H' locs' pc' ls' a b cd
  rw [show cells + (h1.1 - h.1) + (h'.1 - h1.1) = cells + (h'.1 - h.1) by omega, show slots + (h1.2.1 - h.2.1) + (h'.2.1 - h1.2.1) = slots + (h'.2.1 - h.2.1) by omega]
  exact fin H' locs' pc' ls' a b cd
theorem AQ.pu {o : Om} {κ : Ka} {h : AH} {pc pc1 : Nat} {lv lv1 : List (Nat × Value)} {st st1 : List Value} {Q : Option Value → AH → Prop}
    (f : ∀ (p : Program) (e : Env) (R : Room) (s : State) (m : MethodId) (args : Array Value) (below : List Frame) (meth : Method) (c : Code) (H : Heap) (locs : List Loc) (cells slots : Nat) (Qw : State → Prop) (ls : Array Slot),
      Cx o κ p R s m args meth c → Rl o h s H → va_S (zA o) s.heap H locs → lv_has ls κ.2.2.1 (slv o lv) →
      (∀ (ls1 : Array Slot), lv_has ls1 κ.2.2.1 (slv o lv1) → W p o.1 e R s m args below meth c H locs cells slots Qw (F0 m pc1 ls1 (st1.map (asv o)))) →
      W p o.1 e R s m args below meth c H locs cells slots Qw (F0 m pc ls (st.map (asv o))))
    (k : AQ o κ h pc1 lv1 st1 Q) : AQ o κ h pc lv st Q := by
  refine AQ.go ⟨Nat.le_refl _, Nat.le_refl _⟩ ?_ k
  intro p e R s m args below meth c H locs cells slots Qw ls hC hR hS hl hc1 hc2 kk
  refine f p e R s m args below meth c H locs cells slots Qw ls hC hR hS hl ?_
  intro ls1 hl1
  have := kk H locs ls1 hR hS hl1
  rw [Nat.sub_self, Nat.sub_self] at this
  exact this
theorem AQ.sub {o : Om} {κ : Ka} {h : AH} {pc : Nat} {lv lv1 : List (Nat × Value)} {st : List Value} {Q : Option Value → AH → Prop} (ks : List Nat) (hl : lv_pick lv ks = lv1) (k : AQ o κ h pc lv1 st Q) : AQ o κ h pc lv st Q :=
  AQ.pu (fun _ _ _ _ _ _ _ _ _ _ _ _ _ _ ls _ _ _ hl0 kk => kk ls (lv_sub hl0 ks (by rw [← hl, slv_pick]))) k
