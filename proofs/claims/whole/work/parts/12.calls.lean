theorem Rl.at {o : Om} {h : AH} {s : State} {H : Heap} (hR : Rl o h s H) {a ci : Nat} {fs : List Value} (ha : h.2.2 a = some (.inr (ci, fs))) : a ≠ 0 ∧ va_at o.2.2.2.2 vwCl (aad o a, .inr (ci, fs.map (asv o))) H := by
  have h0 : a ≠ 0 := by
    intro z
    subst z
    obtain ⟨L, xs, e1, -⟩ := hR.2.2.2.2 _ ha
    cases e1
  exact ⟨h0, (hR.2.2.2.1 a _ h0 ha).2⟩
theorem va_P1 {D : va_G} {q : Nat × va_E} {H : Heap} (h : va_at D vwCl q H) : va_P D vwCl [q] H := fun k x hk => by
  have hz : k < 1 := (List.getElem?_eq_some_iff.mp hk).1
  rw [show k = 0 by omega] at hk
  cases hk
  exact h
theorem Rl.recv {o : Om} {κ : Ka} {h : AH} {p : Program} {R : Room} {s : State} {m : MethodId} {args : Array Value} {meth : Method} {c : Code} {H : Heap} (hC : Cx o κ p R s m args meth c) (hR : Rl o h s H) {a ci : Nat} {fs : List Value} {q : vw_C} (ha : h.2.2 a = some (.inr (ci, fs))) (hci : vwCl[ci]? = some q) : ∃ cell : Cell, H[aad o a]? = some cell ∧ cell.vm.isStatics = false ∧ s.vm.findClass q.1 = some cell.cls :=
  va_recv (q0 := 0) hC.2.2.2.2.2.2.2.2.1.1 (va_P1 (hR.at ha).2) hci rfl
theorem Cx.w {o : Om} {κ : Ka} {p : Program} {R : Room} {s : State} {m : MethodId} {args : Array Value} {meth : Method} {c : Code} (hC : Cx o κ p R s m args meth c) {w : Cond} (h : w ∈ lw_tbl) (hg : goodWord w = true) : w.before args s = true := hC.2.2.2.2.1 w h hg
theorem pay_k {o : Om} {κ κ' : Ka} {p : Program} {R : Room} {s : State} {m : MethodId} {args : Array Value} {meth : Method} {c : Code} {n : Nat} (hC : Cx o κ p R s m args meth c) (hk : Kok κ' n) : ∀ w ∈ (Cond.code κ'.1 κ'.2.1 κ'.2.2.1 κ'.2.2.2.1 :: GW), ∀ (a' : Array Value) (U : State), s.WarmedH U.vm → w.before a' U = true := pay_in (GW_hts hC) (GW_good hk.1 rfl rfl)
theorem len_k {κ' : Ka} {n : Nat} (hk : Kok κ' n) : ∀ sig, parseMethodDescriptor κ'.1.desc = some sig → n = sig.parameters.length := fun sig h => by
  have h2 := hk.2.2.2.1
  rw [h] at h2
  exact (Option.some.inj h2).symm
/-- a constructor -/
theorem a_callI {o : Om} {κ κ' : Ka} {h : AH} {pc index n a : Nat} {lv : List (Nat × Value)} {st rest av : List Value} {Q Q1 : Option Value → AH → Prop} (hst : st = av.reverse ++ .ref a :: rest) (hn : av.length = n) (hk : Kok κ' n) (hl : Cond.methodLink κ.1.cls index κ'.1 ∈ lw_tbl) (hi : Cond.instanceMethod κ'.1 ∈ lw_tbl) (hnm : κ'.1.name = "<init>") (hrt : κ'.2.2.2.1 = none) (hf : κ'.2.2.2.2.1 + 1 ≤ κ.2.2.2.2.1 ∧ 8 + (κ'.2.2.1 + 11) + κ'.2.2.2.2.2 ≤ κ.2.2.2.2.2) (hc : (rest.map fun v => v.category).sum ≤ 8) (hd : decode κ.2.1 pc = .ok (.invokespecial index, 3))
    (hM : MQ' o κ' (.ref a :: av) h Q1) (k : ∀ r h', Q1 r h' → rok κ'.2.2.2.1 r → AQ o κ h' (pc + 3) lv (r.toList ++ rest) Q) : AQ o κ h pc lv st Q := by
  obtain ⟨r, h1, hB, hq⟩ := hM
  refine AQ.run hB ?_ (k r h1 hq hB.2.2.1)
  intro p e R s m args below meth c H locs cells slots ls hC hR hS hl0 hc1 hc2
  have hcb := callB_k (h := h) (h1 := h1) hC hk hl hf
  have hmet := hB.2.2.2
  rw [hrt] at hcb hmet
  have := va_runI (As := av.map (asv o)) (rest := rest.map (asv o)) (b := aad o a) (g := F0 m pc ls (st.map (asv o))) (H := H) (locs := locs) (below := below) (meth := meth) (e := e) (cells := cells) (slots := slots) ⟨hC.1, hC.2.1, hC.2.2.1, hC.2.2.2.1, GW_hts hC⟩ hmet ⟨hcb, hnm, hC.w hi rfl⟩ ⟨PcB_blind, PcB_pre hC hR hS⟩ rfl (by rw [List.length_map]; exact hn) hl0.1 (by subst hst; simp [asv_ref]) (cat_room hc) hd ⟨hc1, hc2⟩
  exact this
/-- a private constructor of a class of the nest -/
theorem a_callIN {o : Om} {κ κ' : Ka} {h : AH} {pc index n a : Nat} {host : String} {lv : List (Nat × Value)} {st rest av : List Value} {Q Q1 : Option Value → AH → Prop} (hst : st = av.reverse ++ .ref a :: rest) (hn : av.length = n) (hk : Kok κ' n) (hl : (κ.1.cls, index, κ'.1, host) ∈ nstl) (hi : Cond.instanceMethod κ'.1 ∈ lw_tbl) (hnm : κ'.1.name = "<init>") (hrt : κ'.2.2.2.1 = none) (hf : κ'.2.2.2.2.1 + 1 ≤ κ.2.2.2.2.1 ∧ 8 + (κ'.2.2.1 + 11) + κ'.2.2.2.2.2 ≤ κ.2.2.2.2.2) (hc : (rest.map fun v => v.category).sum ≤ 8) (hd : decode κ.2.1 pc = .ok (.invokespecial index, 3))
    (hM : MQ' o κ' (.ref a :: av) h Q1) (k : ∀ r h', Q1 r h' → rok κ'.2.2.2.1 r → AQ o κ h' (pc + 3) lv (r.toList ++ rest) Q) : AQ o κ h pc lv st Q := by
  obtain ⟨r, h1, hB, hq⟩ := hM
  refine AQ.run hB ?_ (k r h1 hq hB.2.2.1)
  intro p e R s m args below meth c H locs cells slots ls hC hR hS hl0 hc1 hc2
  have hcn : va_CN R s args κ.1.cls index κ'.1 host κ'.2.1 κ'.2.2.1 κ'.2.2.2.1 (Cond.code κ'.1 κ'.2.1 κ'.2.2.1 κ'.2.2.2.1 :: GW) (rmOf κ' h h1) (h1.1 - h.1) (h1.2.1 - h.2.1) n :=
    va_cnB n (GW_hts hC) (GW_good hk.1 rfl rfl) rfl rfl rfl (hC.2.2.2.2.2.2.2.2.1.2.2.2.1 _ hl) (hC.w hk.2.2.2.2 rfl) ⟨hk.2.1, hk.2.2.1, hk.2.2.2.1⟩ ⟨Nat.le_trans hf.1 hC.2.2.2.2.2.2.2.2.2.1, Nat.le_trans hf.2 hC.2.2.2.2.2.2.2.2.2.2.1⟩
  have hmet := hB.2.2.2
  rw [hrt] at hcn hmet
  have := va_runIN (As := av.map (asv o)) (rest := rest.map (asv o)) (b := aad o a) (g := F0 m pc ls (st.map (asv o))) (H := H) (locs := locs) (below := below) (meth := meth) (e := e) (cells := cells) (slots := slots) ⟨hC.1, hC.2.1, hC.2.2.1, hC.2.2.2.1, GW_hts hC⟩ hmet ⟨hcn, hnm, hC.w hi rfl⟩ ⟨PcB_blind, PcB_pre hC hR hS⟩ rfl (by rw [List.length_map]; exact hn) hl0.1 (by subst hst; simp [asv_ref]) (cat_room hc) hd ⟨hc1, hc2⟩
  exact this
/-- a method by the object's class: inherited, or one that overrides -/
theorem a_callU {o : Om} {κ κ' : Ka} {h : AH} {pc index n a ci : Nat} {fs : List Value} {lv : List (Nat × Value)} {st rest av : List Value} {q : vw_C} {x : MethodName} {owner : String} {b0 : ByteArray} {m0 : Nat} {r0 : Option FieldType} {Q Q1 : Option Value → AH → Prop} (hst : st = av.reverse ++ .ref a :: rest) (hn : av.length = n) (ha : h.2.2 a = some (.inr (ci, fs))) (hci : vwCl[ci]? = some q) (hk : Kok κ' n) (hx : x.desc = κ'.1.desc) (hl : Cond.methodLink κ.1.cls index x ∈ lw_tbl) (hsm : Cond.sameMethod x.cls owner x.name x.desc ∈ lw_tbl) (ho : owner ≠ "java/lang/invoke/MethodHandle" ∧ owner ≠ "java/lang/invoke/VarHandle") (hio : Cond.instanceMethod ⟨owner, x.name, x.desc⟩ ∈ lw_tbl) (hco : Cond.code ⟨owner, x.name, x.desc⟩ b0 m0 r0 ∈ lw_tbl) (hi : Cond.instanceMethod κ'.1 ∈ lw_tbl) (hs : Cond.selects q.1 x κ'.1 ∈ lw_tbl) (hf : κ'.2.2.2.2.1 + 1 ≤ κ.2.2.2.2.1 ∧ 8 + (κ'.2.2.1 + 11) + κ'.2.2.2.2.2 ≤ κ.2.2.2.2.2) (hc : (rest.map fun v => v.category).sum ≤ 8) (hd : decode κ.2.1 pc = .ok (.invokevirtual index, 3))
    (hM : MQ' o κ' (.ref a :: av) h Q1) (k : ∀ r h', Q1 r h' → rok κ'.2.2.2.1 r → AQ o κ h' (pc + 3) lv (r.toList ++ rest) Q) : AQ o κ h pc lv st Q := by
  obtain ⟨r, h1, hB, hq⟩ := hM
  refine AQ.run hB ?_ (k r h1 hq hB.2.2.1)
  intro p e R s m args below meth c H locs cells slots ls hC hR hS hl0 hc1 hc2
  have hcu : va_CU R s args κ.1.cls q.1 owner index x κ'.1 κ'.2.1 κ'.2.2.1 κ'.2.2.2.1 (Cond.code κ'.1 κ'.2.1 κ'.2.2.1 κ'.2.2.2.1 :: GW) (rmOf κ' h h1) (h1.1 - h.1) (h1.2.1 - h.2.1) n :=
    ⟨⟨rfl, rfl, Nat.le_trans hf.1 hC.2.2.2.2.2.2.2.2.2.1, Nat.le_trans hf.2 hC.2.2.2.2.2.2.2.2.2.2.1, pay_k hC hk, List.mem_cons_self⟩, hC.w hk.1 rfl, hC.w hk.2.2.2.2 rfl, ho, by rw [hx]; exact len_k hk, hC.w hl rfl, hC.w hsm rfl, va_Decl.of (hC.w hio rfl) (hC.w hco rfl), hC.w hs rfl, hC.w hi rfl⟩
  have := va_runU (As := av.map (asv o)) (rest := rest.map (asv o)) (b := aad o a) (g := F0 m pc ls (st.map (asv o))) (H := H) (locs := locs) (below := below) (meth := meth) (e := e) (cells := cells) (slots := slots) ⟨hC.1, hC.2.1, hC.2.2.1, hC.2.2.2.1, GW_hts hC⟩ hB.2.2.2 hcu ⟨PcB_blind, Rl.recv hC hR ha hci, PcB_pre hC hR hS⟩ rfl (by rw [List.length_map]; exact hn) hl0.1 (by subst hst; simp [asv_ref]) (cat_room hc) hd ⟨hc1, hc2⟩
  exact this
/-- super.method() -/
theorem a_callSU {o : Om} {κ κ' : Ka} {h : AH} {pc index n a ci : Nat} {fs : List Value} {lv : List (Nat × Value)} {st rest av : List Value} {q : vw_C} {Q Q1 : Option Value → AH → Prop} (hst : st = av.reverse ++ .ref a :: rest) (hn : av.length = n) (ha : h.2.2 a = some (.inr (ci, fs))) (hci : vwCl[ci]? = some q) (hk : Kok κ' n) (hl : Cond.methodLink κ.1.cls index κ'.1 ∈ lw_tbl) (hsm : Cond.sameMethod κ'.1.cls κ'.1.cls κ'.1.name κ'.1.desc ∈ lw_tbl) (hsu : Cond.superclass κ.1.cls κ'.1.cls ∈ lw_tbl) (hi : Cond.instanceMethod κ'.1 ∈ lw_tbl) (hno : κ'.1.name ≠ "<init>") (hf : κ'.2.2.2.2.1 + 1 ≤ κ.2.2.2.2.1 ∧ 8 + (κ'.2.2.1 + 11) + κ'.2.2.2.2.2 ≤ κ.2.2.2.2.2) (hc : (rest.map fun v => v.category).sum ≤ 8) (hd : decode κ.2.1 pc = .ok (.invokespecial index, 3))
    (hM : MQ' o κ' (.ref a :: av) h Q1) (k : ∀ r h', Q1 r h' → rok κ'.2.2.2.1 r → AQ o κ h' (pc + 3) lv (r.toList ++ rest) Q) : AQ o κ h pc lv st Q := by
  obtain ⟨r, h1, hB, hq⟩ := hM
  refine AQ.run hB ?_ (k r h1 hq hB.2.2.1)
  intro p e R s m args below meth c H locs cells slots ls hC hR hS hl0 hc1 hc2
  have hcs : va_CS R s args κ.1.cls index κ'.1 κ'.2.1 κ'.2.2.1 κ'.2.2.2.1 (Cond.code κ'.1 κ'.2.1 κ'.2.2.1 κ'.2.2.2.1 :: GW) (rmOf κ' h h1) (h1.1 - h.1) (h1.2.1 - h.2.1) n :=
    ⟨⟨rfl, rfl, Nat.le_trans hf.1 hC.2.2.2.2.2.2.2.2.2.1, Nat.le_trans hf.2 hC.2.2.2.2.2.2.2.2.2.2.1, pay_k hC hk, List.mem_cons_self⟩, hC.w hl rfl, hC.w hsm rfl, hC.w hsu rfl, hC.w hi rfl, hC.w hk.2.2.2.2 rfl, hC.w hk.1 rfl, hno, len_k hk⟩
  have := va_runSU (As := av.map (asv o)) (rest := rest.map (asv o)) (b := aad o a) (g := F0 m pc ls (st.map (asv o))) (H := H) (locs := locs) (below := below) (meth := meth) (e := e) (cells := cells) (slots := slots) (hC.2.2.2.2.2.2.2.2.1.1.1 ci q hci).2 ⟨hC.1, hC.2.1, hC.2.2.1, hC.2.2.2.1, GW_hts hC⟩ hB.2.2.2 hcs ⟨PcB_blind, Rl.recv hC hR ha hci, PcB_pre hC hR hS⟩ rfl (by rw [List.length_map]; exact hn) hl0.1 (by subst hst; simp [asv_ref]) (cat_room hc) hd ⟨hc1, hc2⟩
  exact this
