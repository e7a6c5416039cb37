/-- the room of a call that goes from h to h' -/
def rmOf (κ : Ka) (h h' : AH) : Room := { frames := κ.2.2.2.2.1, cells := h'.1 - h.1, slots := h'.2.1 - h.2.1, locals := κ.2.2.2.2.2 }
def PcB (o : Om) (av : List Value) (h : AH) : Array Value → State → Prop := va_Pc (av.map (asv o)) (fun U => Vx o U ∧ Rl o h U U.heap ∧ o.2.2.1 ≤ U.heap.size)
def QcB (o : Om) (r : Option Value) (h' : AH) : Array Value → State → Outcome → State → Prop := fun _ st oc t => oc = .returned (r.map (asv o)) ∧ Rl o h' t t.heap ∧ va_F (zA o) st t
def BS (o : Om) (κ : Ka) (av : List Value) (h : AH) (r : Option Value) (h' : AH) : Prop :=
  h.1 ≤ h'.1 ∧ h.2.1 ≤ h'.2.1 ∧ rok κ.2.2.2.1 r ∧ Met o.1 κ.1 (Cond.code κ.1 κ.2.1 κ.2.2.1 κ.2.2.2.1 :: GW) (rmOf κ h h') (PcB o av h) (QcB o r h') (h'.1 - h.1) (h'.2.1 - h.2.1) (zA o)
def MQ' (o : Om) (κ : Ka) (av : List Value) (h : AH) (Q : Option Value → AH → Prop) : Prop := ∃ r h', BS o κ av h r h' ∧ Q r h'
theorem GW_in {w : Cond} (h : w ∈ lw_tbl) (hg : goodWord w = true) : w ∈ GW := List.mem_filter.mpr ⟨h, hg⟩
theorem MQ'.of {o : Om} {κ : Ka} {av : List Value} {h : AH} {Q : Option Value → AH → Prop} (hy : plainName κ.1.cls = true) (hn : (lg_sl av).length ≤ κ.2.2.1) (k : AQ o κ h 0 (lv_args 0 av) [] Q) : MQ' o κ av h Q := by
  obtain ⟨r, h', ⟨m1, m2, hr, kw⟩, hq⟩ := k
  refine ⟨r, h', ⟨m1, m2, hr, ?_⟩, hq⟩
  refine Met.ofW (cc := κ.2.1) (maxL := κ.2.2.1) (ret := κ.2.2.2.1) hy rfl ?_
  intro p e s m args below meth c s₁ B hml hv
  obtain ⟨rfl, hVx, hR, hz⟩ := hv
  have hts := atoms_spec (ws := Cond.code κ.1 κ.2.1 κ.2.2.1 κ.2.2.2.1 :: GW) B.pre
  have hown : s.vm.findClass κ.1.cls = some m.cls := findClass_of_methodNamed B.named
  have hlocks := B.notSynchronized
  have hC : Cx o κ p (headSpec (Cond.code κ.1 κ.2.1 κ.2.2.1 κ.2.2.2.1 :: GW) (rmOf κ h h')).room s m (av.map (asv o)).toArray meth c :=
    ⟨B.exec, B.bytes, hml, hown, fun w hw hg => hts w (List.mem_cons_of_mem _ (GW_in hw hg)), hlocks, (fun hq => (name_of_methodNamed B.named B.method).1.trans hq), B.returns, hVx, Nat.le_refl _, Nat.le_refl _, hz⟩
  rw [lg_entry_eq]
  have hl := lv_entry (av.map (asv o)) (n := κ.2.2.1) (by rw [lg_sl_len]; exact hn)
  rw [← slv_args] at hl
  refine kw p e _ s m _ below meth c s.heap [] 0 0 _ _ hC hR va_S.rf hl (by rw [Nat.zero_add]; exact Nat.le_refl _) (by rw [Nat.zero_add]; exact Nat.le_refl _) ?_
  intro H' locs' pc' ls' hR' hS' hd
  rw [Nat.zero_add, Nat.zero_add]
  have hQ : ∀ t : State, t.heap = H' → s.WarmedH t.vm → QcB o r h' (av.map (asv o)).toArray s (.returned (r.map (asv o))) t := fun t ht hW => ⟨rfl, by rw [ht]; exact hR'.moved hW.alike, hS'.F ht⟩
  have hx := B.exec
  have hb := B.bytes
  have hret := B.returns
  have hf : ∀ q ∈ locs', zA o q.base := hS'.2.2
  generalize hrt : κ.2.2.2.1 = rt at hr hd hret
  cases rt with
  | none =>
    cases hr
    exact W.vret hx hb hret hQ hf hd hlocks
  | some ty =>
    cases ty with
    | long =>
      obtain ⟨x, rfl⟩ := hr
      exact W.lret hx hb hret hQ hf hd hlocks
    | object n =>
      obtain ⟨q, rfl⟩ := hr
      have e1 : (Option.map (asv o) (some (va_rf q))) = some (va_rf (q.map (aad o))) := by rw [Option.map_some, asv_rf]
      rw [e1] at hQ ⊢
      exact W.aret hx hb hret (Or.inl ⟨_, rfl⟩) (va_rf_or _) hQ hf hd hlocks
    | _ =>
      obtain ⟨x, rfl, hx2⟩ := hr
      exact W.zret hx hb hret hx2 hQ hf hd hlocks
/-- a call, as AQ goes on behind it -/
theorem AQ.run {o : Om} {κ κ' : Ka} {h h1 : AH} {pc : Nat} {lv : List (Nat × Value)} {st rest av : List Value} {r : Option Value} {Q : Option Value → AH → Prop} (hB : BS o κ' av h r h1)
    (hrun : ∀ (p : Program) (e : Env) (R : Room) (s : State) (m : MethodId) (args : Array Value) (below : List Frame) (meth : Method) (c : Code) (H : Heap) (locs : List Loc) (cells slots : Nat) (ls : Array Slot),
      Cx o κ p R s m args meth c → Rl o h s H → va_S (zA o) s.heap H locs → lv_has ls κ.2.2.1 (slv o lv) → cells + (h1.1 - h.1) ≤ R.cells → slots + (h1.2.1 - h.2.1) ≤ R.slots →
      va_Run p o.1 e R s m args below meth c H locs cells slots (h1.1 - h.1) (h1.2.1 - h.2.1) (F0 m pc ls (st.map (asv o))) (rest.map (asv o)) (QcB o r h1 (av.map (asv o)).toArray) (zA o))
    (k : AQ o κ h1 (pc + 3) lv (r.toList ++ rest) Q) : AQ o κ h pc lv st Q := by
  refine AQ.go ⟨hB.1, hB.2.1⟩ ?_ k
  intro p e R s m args below meth c H locs cells slots Qw ls hC hR hS hl hc1 hc2 kk
  intro T hT X
  obtain ⟨v, st₀, t, T', L, h0, X', hL, e1, e2, ⟨hv, hR', hF⟩, stp⟩ := hrun p e R s m args below meth c H locs cells slots ls hC hR hS hl hc1 hc2 T hT X
  have hv2 : v = r.map (asv o) := by injection hv
  subst hv2
  have hal : s.vm.Alike t.vm := by rw [← e2]; exact X'.warmed.alike
  have hz := hF.1
  have hk := hF.2
  rw [h0] at hz hk
  have hR2 : Rl o h1 s T'.heap := by rw [e1]; exact hR'.moved hal.symm
  have hS2 : va_S (zA o) s.heap T'.heap (locs ++ L) := ⟨Nat.le_trans hS.1 (by rw [e1]; exact hz), fun q g1 g2 => by rw [e1, hk q (Nat.lt_of_lt_of_le g1 hS.1) g2]; exact hS.2.1 q g1 g2, fun q hq => by
      rcases List.mem_append.mp hq with g | g
      · exact hS.2.2 q g
      · exact hL q g⟩
  obtain ⟨t2, a1, b1⟩ := kk T'.heap (locs ++ L) ls hR2 hS2 hl T' rfl X'
  refine ⟨t2, stp t2 ?_, b1⟩
  have e3 : (r.map (asv o)).toList ++ rest.map (asv o) = (r.toList ++ rest).map (asv o) := by cases r <;> rfl
  show Steps p.tables e below (T'.setTop (F0 m (pc + 3) ls ((r.map (asv o)).toList ++ rest.map (asv o)))) t2
  rw [e3]
  exact a1
theorem PcB_blind {o : Om} {av : List Value} {h : AH} : FrameBlind (PcB o av h) := by
  intro a U g mk q
  obtain ⟨q1, q2, q3, q4⟩ := q
  exact ⟨q1, q2.same rfl, q3.moved (Vm.Alike.refl _), q4⟩
theorem PcB_pre {o : Om} {κ : Ka} {av : List Value} {h : AH} {p : Program} {R : Room} {s : State} {m : MethodId} {args : Array Value} {meth : Method} {c : Code} {H : Heap} {locs : List Loc} (hC : Cx o κ p R s m args meth c) (hR : Rl o h s H) (hS : va_S (zA o) s.heap H locs) (U : State) (hU : U.heap = H) (hW : s.WarmedH U.vm) : PcB o av h (av.map (asv o)).toArray U :=
  ⟨rfl, hC.2.2.2.2.2.2.2.2.1.warm hW, by rw [hU]; exact hR.moved hW.alike, by rw [hU]; exact Nat.le_trans hC.2.2.2.2.2.2.2.2.2.2.2 hS.1⟩
theorem GW_good {ws : List Cond} {w0 : Cond} (h0 : w0 ∈ lw_tbl) (hg : goodWord w0 = true) (hw : ws = w0 :: GW) : GoodIn GW ws := by
  subst hw
  intro w hw
  rcases List.mem_cons.mp hw with rfl | hw
  · exact ⟨GW_in h0 hg, good_of_word hg⟩
  · exact ⟨hw, good_of_word (List.mem_filter.mp hw).2⟩
theorem GW_hts {o : Om} {κ : Ka} {p : Program} {R : Room} {s : State} {m : MethodId} {args : Array Value} {meth : Method} {c : Code} (hC : Cx o κ p R s m args meth c) : ∀ w ∈ GW, w.before args s = true := fun w hw => hC.2.2.2.2.1 w (List.mem_filter.mp hw).1 (List.mem_filter.mp hw).2
/-- what a callee must show of its name, once for each -/
def Kok (κ : Ka) (n : Nat) : Prop := Cond.code κ.1 κ.2.1 κ.2.2.1 κ.2.2.2.1 ∈ lw_tbl ∧ κ.1.cls ≠ "java/lang/invoke/MethodHandle" ∧ κ.1.cls ≠ "java/lang/invoke/VarHandle" ∧ (parseMethodDescriptor κ.1.desc).map (fun d => d.parameters.length) = some n ∧ Cond.initialized κ.1.cls ∈ lw_tbl
theorem sum_asv (o : Om) (rest : List Value) : ((rest.map (asv o)).map fun v => v.category).sum = (rest.map fun v => v.category).sum := by
  rw [List.map_map]
  congr 1
  refine List.map_congr_left (fun v _ => ?_)
  exact asv_cat o v
theorem cat_room {m : MethodId} {pc : Nat} {ls : Array Slot} {o : Om} {st rest : List Value} (h : (rest.map fun v => v.category).sum ≤ 8) : 2 * (F0 m pc ls st).monitorRoom + ((rest.map (asv o)).map fun v => v.category).sum ≤ 8 := lv_room (by rw [sum_asv]; exact h)
theorem callB_k {o : Om} {κ κ' : Ka} {p : Program} {R : Room} {s : State} {m : MethodId} {args : Array Value} {meth : Method} {c : Code} {h h1 : AH} {n index : Nat} (hC : Cx o κ p R s m args meth c) (hk : Kok κ' n) (hl : Cond.methodLink κ.1.cls index κ'.1 ∈ lw_tbl) (hf : κ'.2.2.2.2.1 + 1 ≤ κ.2.2.2.2.1 ∧ 8 + (κ'.2.2.1 + 11) + κ'.2.2.2.2.2 ≤ κ.2.2.2.2.2) :
    CallB R s args κ.1.cls index κ'.1 κ'.2.1 κ'.2.2.1 κ'.2.2.2.1 (Cond.code κ'.1 κ'.2.1 κ'.2.2.1 κ'.2.2.2.1 :: GW) (rmOf κ' h h1) (h1.1 - h.1) (h1.2.1 - h.2.1) n :=
  callB_of n (GW_hts hC) (GW_good hk.1 rfl rfl) rfl rfl rfl (hC.2.2.2.2.1 _ hk.2.2.2.2 rfl) (hC.2.2.2.2.1 _ hl rfl) ⟨hk.2.1, hk.2.2.1, hk.2.2.2.1⟩ ⟨Nat.le_trans hf.1 hC.2.2.2.2.2.2.2.2.2.1, Nat.le_trans hf.2 hC.2.2.2.2.2.2.2.2.2.2.1⟩
/-- a static method -/
theorem a_callS {o : Om} {κ κ' : Ka} {h : AH} {pc index n : Nat} {lv : List (Nat × Value)} {st rest av : List Value} {Q Q1 : Option Value → AH → Prop} (hst : st = av.reverse ++ rest) (hn : av.length = n) (hk : Kok κ' n) (hl : Cond.methodLink κ.1.cls index κ'.1 ∈ lw_tbl) (hs : Cond.static κ'.1 ∈ lw_tbl) (hf : κ'.2.2.2.2.1 + 1 ≤ κ.2.2.2.2.1 ∧ 8 + (κ'.2.2.1 + 11) + κ'.2.2.2.2.2 ≤ κ.2.2.2.2.2) (hc : (rest.map fun v => v.category).sum ≤ 8) (hd : decode κ.2.1 pc = .ok (.invokestatic index, 3))
    (hM : MQ' o κ' av h Q1) (k : ∀ r h', Q1 r h' → rok κ'.2.2.2.1 r → AQ o κ h' (pc + 3) lv (r.toList ++ rest) Q) : AQ o κ h pc lv st Q := by
  obtain ⟨r, h1, hB, hq⟩ := hM
  refine AQ.run hB ?_ (k r h1 hq hB.2.2.1)
  intro p e R s m args below meth c H locs cells slots ls hC hR hS hl0 hc1 hc2
  have := va_runS (As := av.map (asv o)) (rest := rest.map (asv o)) (g := F0 m pc ls (st.map (asv o))) (H := H) (locs := locs) (below := below) (meth := meth) (e := e) (cells := cells) (slots := slots) ⟨hC.1, hC.2.1, hC.2.2.1, hC.2.2.2.1, GW_hts hC⟩ hB.2.2.2 ⟨callB_k hC hk hl hf, hC.2.2.2.2.1 _ hs rfl⟩ ⟨PcB_blind, PcB_pre hC hR hS⟩ rfl (by rw [List.length_map]; exact hn) hl0.1 (by subst hst; simp) (cat_room hc) hd ⟨hc1, hc2⟩
  exact this
/-- a method of an object whose class is its own -/
theorem a_callV {o : Om} {κ κ' : Ka} {h : AH} {pc index n a ci : Nat} {fs : List Value} {lv : List (Nat × Value)} {st rest av : List Value} {q : vw_C} {Q Q1 : Option Value → AH → Prop} (hst : st = av.reverse ++ .ref a :: rest) (hn : av.length = n) (ha : h.2.2 a = some (.inr (ci, fs))) (hci : vwCl[ci]? = some q) (hq1 : q.1 = κ'.1.cls) (hk : Kok κ' n) (hl : Cond.methodLink κ.1.cls index κ'.1 ∈ lw_tbl) (hi : Cond.instanceMethod κ'.1 ∈ lw_tbl) (hs : Cond.selects κ'.1.cls κ'.1 κ'.1 ∈ lw_tbl) (hf : κ'.2.2.2.2.1 + 1 ≤ κ.2.2.2.2.1 ∧ 8 + (κ'.2.2.1 + 11) + κ'.2.2.2.2.2 ≤ κ.2.2.2.2.2) (hc : (rest.map fun v => v.category).sum ≤ 8) (hd : decode κ.2.1 pc = .ok (.invokevirtual index, 3))
    (hM : MQ' o κ' (.ref a :: av) h Q1) (k : ∀ r h', Q1 r h' → rok κ'.2.2.2.1 r → AQ o κ h' (pc + 3) lv (r.toList ++ rest) Q) : AQ o κ h pc lv st Q := by
  obtain ⟨r, h1, hB, hq⟩ := hM
  refine AQ.run hB ?_ (k r h1 hq hB.2.2.1)
  intro p e R s m args below meth c H locs cells slots ls hC hR hS hl0 hc1 hc2
  have h0 : a ≠ 0 := by
    intro z
    subst z
    obtain ⟨L, xs, e1, -⟩ := hR.2.2.2.2 _ ha
    cases e1
  have hat := (hR.2.2.2.1 a _ h0 ha).2
  have hrec : ∃ cell : Cell, H[aad o a]? = some cell ∧ cell.vm.isStatics = false ∧ s.vm.findClass κ'.1.cls = some cell.cls := by
    have := va_recv (ws := [(aad o a, ase o (.inr (ci, fs)))]) (q0 := 0) (ci := ci) (a := aad o a) (fs := fs.map (asv o)) hC.2.2.2.2.2.2.2.2.1.1 (fun k q hk => by
      have hz : k < 1 := (List.getElem?_eq_some_iff.mp hk).1
      rw [show k = 0 by omega] at hk
      cases hk
      exact hat) hci rfl
    rw [hq1] at this
    exact this
  have := va_runV (As := av.map (asv o)) (rest := rest.map (asv o)) (b := aad o a) (g := F0 m pc ls (st.map (asv o))) (H := H) (locs := locs) (below := below) (meth := meth) (e := e) (cells := cells) (slots := slots) ⟨hC.1, hC.2.1, hC.2.2.1, hC.2.2.2.1, GW_hts hC⟩ hB.2.2.2 ⟨callB_k hC hk hl hf, hC.2.2.2.2.1 _ hi rfl, hC.2.2.2.2.1 _ hs rfl⟩ ⟨PcB_blind, hrec, PcB_pre hC hR hS⟩ rfl (by rw [List.length_map]; exact hn) hl0.1 (by subst hst; simp [asv_ref]) (cat_room hc) hd ⟨hc1, hc2⟩
  exact this
