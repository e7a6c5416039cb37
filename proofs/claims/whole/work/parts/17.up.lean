section UP
variable {p : Program} {l : Launch} {e : Env} {R : Room} {s : State} {m : MethodId} {args : Array Value} {below : List Frame} {meth : Method} {c : Code} {T : State} {locs : List Loc} {cells slots : Nat}
theorem us_invoke (X : Stand p l e R s m args below meth c T locs cells slots) (hexec : p.tables.exec = Jvm.exec) {own owner : String} {index : Nat} {x : MethodName} (hown : s.vm.findClass own = some m.cls) (hlink : (Cond.methodLink own index x).before args s = true)
    (hsame : (Cond.sameMethod x.cls owner x.name x.desc).before args s = true) (howner : owner ≠ "java/lang/invoke/MethodHandle" ∧ owner ≠ "java/lang/invoke/VarHandle") {my : MethodId} {methy : Method} {ky : Class} (hn : s.methodNamed? ⟨owner, x.name, x.desc⟩ = some my) (hm : s.vm.method? my = some methy) (hstatic : methy.isStatic = true)
    (hk : s.vm.classes[my.cls]? = some ky) (hinit : ky.init = .initialized) {g : JFrame} (hg : g.method = m) {argsL rest : List Value} (hlen : argsL.length = methy.sig.parameters.length) (hstack : g.stack = argsL.reverse ++ rest) (hdg : decode c.code g.pc = .ok (.invokestatic index, 3)) :
    ∃ vm', Stand p l e R s m args below meth c (T.setVm vm') locs cells slots ∧
      ∀ target, (∀ acts, Steps p.tables e below (doInvoke e ((T.setVm vm').setTop { g with stack := rest }) acts my argsL.toArray).1 target) → Steps p.tables e below (T.setTop g) target := by
  have hpl : e.platform.magicAccessors = ({} : Platform).magicAccessors := by rw [X.admits.platform]
  have hpv : e.platform.polymorphicOnlyByInvokevirtual = true := by rw [X.admits.platform]
  obtain ⟨cn, ck, r1, hcn, hck, hni, hf, hn1⟩ := Cond.sameMethod_found hsame
  cases hn.symm.trans hn1
  obtain ⟨ci, hl, hright⟩ := Cond.methodLink_specUp hown hcn hck hni hf hlink e.platform hpl (by rw [X.admits.platform])
  have hE : s.MethodEntryUp e T.vm m.cls index cn my ci := State.methodEntryUp X.warmed hl hright
  obtain ⟨kx, hkx, hnx⟩ := className_of_methodNamed hn
  cases hk.symm.trans hkx
  obtain ⟨dk, cfile, nt, mname, mdesc, cq, _, _, hd, hcf, hcp, hnt, -, -, hcq, -, hnopoly, -⟩ := hl.here
  cases hck.symm.trans hcq
  have alike := hE.warmed.alike
  obtain ⟨dk2, hdk2, hed2⟩ := alike.2.2 _ _ hd
  obtain ⟨k2, hk2, he2⟩ := alike.2.2 _ _ hk
  obtain ⟨ck2, hck2, hec2⟩ := alike.2.2 _ _ hck
  have hnone : (ck.methods.any fun y => y.name == mname && !y.isStatic && signaturePolymorphic ck y) = false := by simp [hnopoly]
  have hnone2 : (ck2.methods.any fun y => y.name == mname && !y.isStatic && signaturePolymorphic ck2 y) = false := by rw [hec2]; exact hnone
  have href : cfile.constantPool[index]? = some (if false then .interfaceMethodref ci nt else .methodref ci nt) := hcp
  refine ⟨T.vm.calledUp m.cls ci index cn my, X.noted hE.warmed, fun target hrest => ?_⟩
  subst hg
  jvm_step X.here [hexec, hdg, us_step (e := e) (s := T) (s₀ := s) (f := g) X.here.top hpv X.warmed hE hd hcf hcp hnt hck hnone,
    invokestatic.wp_ready (e := e) (s := T.setVm (T.vm.calledUp g.method.cls ci index cn my)) (k := k2) (meth := methy) (m := my) (args := argsL) (rest := rest) (f := g)
      X.here.top ⟨ci, mname, mdesc, false, cn, ck2, memberRef_ask_via (e := e) hdk2 (by rw [hed2]; exact hcf) href hnt, hE.classReady, hck2, hnone2⟩ hE.ready hk2
      (by show (T.vm.calledUp g.method.cls ci index cn my).method? my = some methy; rw [alike.method?]; exact hm)
      (by rw [he2]; show signaturePolymorphic ky methy = false; simp [signaturePolymorphic, hnx, howner.1, howner.2]) hstatic (by rw [he2]; exact hinit) hlen hstack]
  exact fun acts => hrest _
theorem us_call (X : Stand p l e R s m args below meth c T locs cells slots) (hexec : p.tables.exec = Jvm.exec) {own owner : String} {index : Nat} {x y : MethodName} {bytes : ByteArray} {maxL : Nat} {ret : Option FieldType} (hy : y = ⟨owner, x.name, x.desc⟩)
    (hown : s.vm.findClass own = some m.cls) (hlink : (Cond.methodLink own index x).before args s = true) (hsame : (Cond.sameMethod x.cls owner x.name x.desc).before args s = true) (hstat : (Cond.static y).before args s = true) (hinit : (Cond.initialized y.cls).before args s = true)
    (hcode : (Cond.code y bytes maxL ret).before args s = true) (howner : owner ≠ "java/lang/invoke/MethodHandle" ∧ owner ≠ "java/lang/invoke/VarHandle")
    {Wn : Nat} {Pre : Pt → Array Value → Prop} {Post : Pt → Array Value → Option Value → Pt → Prop} (hK : Back l R p e below s args y 3 Wn Pre Post)
    {g : JFrame} (hg : g.method = m) (hsize : g.locals.size = c.maxLocals) {argsL rest : List Value} (hlen : ∀ sig, parseMethodDescriptor y.desc = some sig → argsL.length = sig.parameters.length)
    (hstack : g.stack = argsL.reverse ++ rest) (hW : 2 * g.monitorRoom + (rest.map fun v => v.category).sum ≤ Wn) (hdg : decode c.code g.pc = .ok (.invokestatic index, 3))
    (hpre : ∀ vm₁, s.WarmedH vm₁ → Pre ⟨T.setVm vm₁, locs, cells, slots⟩ argsL.toArray) :
    ∃ (v : Option Value) (vm₁ : Vm) (B : Pt), s.WarmedH vm₁ ∧ Stand p l e R s m args below meth c B.U B.locs B.cells B.slots ∧ Post ⟨T.setVm vm₁, locs, cells, slots⟩ argsL.toArray v B ∧
      ∀ target, Steps p.tables e below (B.U.setTop { g with pc := g.pc + 3, stack := v.toList ++ rest }) target → Steps p.tables e below (T.setTop g) target := by
  obtain ⟨mk, hnamed⟩ := Cond.code_named hcode
  obtain ⟨methM, cM, hmethM, -, -, -, -, -, -, hsigM⟩ := Cond.code_spec hnamed hcode
  have hstatic : methM.isStatic = true := Cond.static_spec hnamed hmethM hstat
  obtain ⟨kP, hkP, -⟩ := className_of_methodNamed hnamed
  have hinitP : kP.init = .initialized := Cond.initialized_spec (findClass_of_methodNamed hnamed) hkP hinit
  obtain ⟨vm₁, X₁, hstep₁⟩ := us_invoke X hexec hown hlink hsame howner (by rw [← hy]; exact hnamed) hmethM hstatic hkP hinitP (g := g) hg (argsL := argsL) (rest := rest) (hlen _ hsigM) hstack hdg
  obtain ⟨v, B, X', hpost, hsteps⟩ := hK m meth c ⟨T.setVm vm₁, locs, cells, slots⟩ { g with stack := rest } (.invokestatic index) mk argsL.toArray X₁ hg hsize hdg hW (X₁.named hnamed) (hpre vm₁ X₁.warmed)
  exact ⟨v, vm₁, B, X₁.warmed, X', hpost, fun target h => hstep₁ _ fun acts => by rw [doInvoke_state]; exact hsteps.trans h⟩
end UP
/-- a static method of a class above, named by a class below it -/
theorem a_callSup {o : Om} {κ κ' : Ka} {h : AH} {pc index n : Nat} {x : MethodName} {lv : List (Nat × Value)} {st rest av : List Value} {Q Q1 : Option Value → AH → Prop} (hst : st = av.reverse ++ rest) (hn : av.length = n) (hk : Kok κ' n) (hx : κ'.1 = ⟨κ'.1.cls, x.name, x.desc⟩) (hl : Cond.methodLink κ.1.cls index x ∈ lw_tbl) (hsm : Cond.sameMethod x.cls κ'.1.cls x.name x.desc ∈ lw_tbl) (hs : Cond.static κ'.1 ∈ lw_tbl) (hf : κ'.2.2.2.2.1 + 1 ≤ κ.2.2.2.2.1 ∧ 8 + (κ'.2.2.1 + 11) + κ'.2.2.2.2.2 ≤ κ.2.2.2.2.2) (hc : (rest.map fun v => v.category).sum ≤ 8) (hd : decode κ.2.1 pc = .ok (.invokestatic index, 3))
    (hM : MQ' o κ' av h Q1) (k : ∀ r h', Q1 r h' → rok κ'.2.2.2.1 r → AQ o κ h' (pc + 3) lv (r.toList ++ rest) Q) : AQ o κ h pc lv st Q := by
  obtain ⟨r, h1, hB, hq⟩ := hM
  refine AQ.run hB ?_ (k r h1 hq hB.2.2.1)
  intro p e R s m args below meth c H locs cells slots ls hC hR hS hl0 hc1 hc2
  have hK : Back o.1 R p e below s args κ'.1 3 8 (PreOf R (h1.1 - h.1) (h1.2.1 - h.2.1) (PcB o av h)) (PostOf (QcB o r h1) (h1.1 - h.1) (h1.2.1 - h.2.1) (zA o)) :=
    back_of (bytes := κ'.2.1) (maxL := κ'.2.2.1) (ret := κ'.2.2.2.1) hB.2.2.2 PcB_blind rfl rfl (Nat.le_trans hf.1 hC.2.2.2.2.2.2.2.2.2.1) (Nat.le_trans hf.2 hC.2.2.2.2.2.2.2.2.2.2.1) (pay_k hC hk) List.mem_cons_self (fun a' U hW => word_at hW (Or.inl rfl) (hC.w hk.2.2.2.2 rfl))
  intro T hT X
  obtain ⟨v, vm₁, ⟨U', l2, c2, s2⟩, hW₁, X', ⟨g', mk, t, L, e1, e2, hq, g1, hL, g2, g3⟩, stp⟩ := us_call X hC.1 (bytes := κ'.2.1) (maxL := κ'.2.2.1) (ret := κ'.2.2.2.1) hx hC.2.2.2.1 (hC.w hl rfl) (hC.w hsm rfl) (hC.w hs rfl) (hC.w hk.2.2.2.2 rfl) (hC.w hk.1 rfl) ⟨hk.2.1, hk.2.2.1⟩ hK (g := F0 m pc ls (st.map (asv o))) rfl (hl0.1.trans hC.2.2.1.symm) (argsL := av.map (asv o)) (rest := rest.map (asv o)) (fun sig h => by rw [List.length_map, hn]; exact len_k hk sig h) (by subst hst; simp) (cat_room hc) (by rw [hC.2.1]; exact hd)
    (fun vm₁ hW₁ => ⟨hc1, hc2, PcB_pre hC hR hS (T.setVm vm₁) hT hW₁⟩)
  dsimp only [Pt.U, Pt.locs, Pt.cells, Pt.slots] at X' e1 e2 g1 g2 g3 stp
  subst g1; subst g2; subst g3
  exact ⟨v, (T.setVm vm₁).calling g' mk (av.map (asv o)).toArray, t, U', L, hT, X', hL, e1, e2, hq, stp⟩
