theorem cl_toInt {z : Int32} (hz : ¬ z < 0) : z.toInt = (z.toNatClampNeg : Int) := by
  have hz0 : (0 : Int) ≤ z.toInt := by
    have := Int32.not_lt.mp hz
    simpa using Int32.le_iff_toInt_le.mp this
  show z.toInt = ((z.toInt.toNat : Nat) : Int)
  omega
/-- System.arraycopy of ints -/
theorem a_copy {o : Om} {κ : Ka} {h : AH} {pc index a0 a n0 n1 : Nat} {f g : Nat → Int32} {sp dp n : Int32} {lv : List (Nat × Value)} {st : List Value} {Q : Option Value → AH → Prop}
    (ha0 : h.2.2 a0 = some (.inl (0, n0, .inl f))) (ha1 : h.2.2 a = some (.inl (0, n1, .inl g))) (h1 : ¬ sp < 0) (h2 : ¬ dp < 0) (h3 : ¬ n < 0) (h4 : sp.toNatClampNeg + n.toNatClampNeg ≤ n0) (h5 : dp.toNatClampNeg + n.toNatClampNeg ≤ n1)
    (hl : Cond.methodLink κ.1.cls index arraycopyName ∈ lw_tbl) (hnat : Cond.native arraycopyName ∈ lw_tbl) (hstat : Cond.static arraycopyName ∈ lw_tbl) (hini : Cond.initialized "java/lang/System" ∈ lw_tbl) (hf : 1 ≤ κ.2.2.2.2.1 ∧ (st.map fun v => v.category).sum + (nativeFrameWords "java/lang/System" "arraycopy" 5 + 11) ≤ κ.2.2.2.2.2) (hd : decode κ.2.1 pc = .ok (.invokestatic index, 3))
    (kk : AQ o κ (aput h a (.inl (0, n1, .inl (va_cpy f g sp.toNatClampNeg dp.toNatClampNeg n.toNatClampNeg)))) (pc + 3) lv st Q) : AQ o κ h pc lv (.int n :: .int dp :: .ref a :: .int sp :: .ref a0 :: st) Q := by
  refine AQ.go (h1 := aput h a _) ⟨Nat.le_refl _, Nat.le_refl _⟩ (fun p e R s m args below meth c H locs cells slots Qw ls hC hR hS hl0 hc1 hc2 k2 => ?_) kk
  have hfr := hC.2.2.2.2.2.2.2.2.2.1
  have hlo := hC.2.2.2.2.2.2.2.2.2.2.1
  have hK := hC.2.2.2.2.2.2.2.2.1.1
  have hc0 : H[aad o a0]? = some (vp_cell (o.2.2.2.1 0) (n0, .inl f)) := (hR.arr (by decide) ha0).2
  obtain ⟨hz, hc1'⟩ := hR.arr (by decide) ha1
  have hc1 : H[aad o a]? = some (vp_cell (o.2.2.2.1 0) (n1, .inl g)) := hc1'
  intro T hT X
  obtain ⟨-, k0, hk0, cm0, hkk0⟩ := (hK.2 0 _ rfl).1 n0 (fun j => .int (f j))
  obtain ⟨-, k1, hk1, cm1, hkk1⟩ := (hK.2 0 _ rfl).1 n1 (fun j => .int (g j))
  obtain ⟨vm', X', step⟩ := X.arraycopy hC.1 hC.2.2.2.1 (hC.w hl rfl) (hC.w hnat rfl) (hC.w hstat rfl) (hC.w hini rfl) (src := aad o a0) (dst := aad o a) (cs := vp_cell (o.2.2.2.1 0) (n0, .inl f)) (cd := vp_cell (o.2.2.2.1 0) (n1, .inl g)) (srcPos := sp) (destPos := dp) (n := n) (by rw [hT]; exact hc0) (by rw [hT]; exact hc1)
    (fun _ h => by cases h) (fun _ h => by cases h) (fun h => by cases h) (fun h => by cases h) hk0 hk1 hkk0 hkk1 (by simp [refKind]) h1 h2 h3
    (by rw [cl_toInt h1, cl_toInt h3]; show ¬ _ > ((arrV (o.2.2.2.1 0) n0 (fun j => .int (f j))).slots.size : Int); rw [arrV_size]; omega)
    (by rw [cl_toInt h2, cl_toInt h3]; show ¬ _ > ((arrV (o.2.2.2.1 0) n1 (fun j => .int (g j))).slots.size : Int); rw [arrV_size]; omega)
    (fun vm₁ _ i hi => by
      have e : (vp_cell (o.2.2.2.1 0) (n0, .inl f)).slots.getD (sp.toNatClampNeg + i) .null = .int (f (sp.toNatClampNeg + i)) := by
        show (arrV (o.2.2.2.1 0) n0 (fun j => .int (f j))).slots.getD _ _ = _
        rw [Array.getD_eq_getD_getElem?, arrV_read _ _ (by omega)]
        rfl
      rw [e]
      exact ⟨rfl, trivial⟩)
    (g := F0 m pc ls (.int n :: .int dp :: .ref (aad o a) :: .int sp :: .ref (aad o a0) :: st.map (asv o))) rfl (hl0.1.trans hC.2.2.1.symm) (rest := st.map (asv o)) rfl (by rw [hC.2.1]; exact hd) (by omega) (by show 2 * 0 + _ + _ ≤ _; rw [sum_asv]; omega)
  have e1 : copied (vp_cell (o.2.2.2.1 0) (n0, .inl f)) (vp_cell (o.2.2.2.1 0) (n1, .inl g)) sp dp n = vp_cell (o.2.2.2.1 0) (n1, .inl (va_cpy f g sp.toNatClampNeg dp.toNatClampNeg n.toNatClampNeg)) := va_copied (fun z => .int z) (o.2.2.2.1 0) (o.2.2.2.1 0) f g h4
  rw [e1] at X' step
  have hl : aad o a < H.size := (Array.getElem?_eq_some_iff.mp hc1).1
  have hheap : ((T.setVm vm').setCell (aad o a) (vp_cell (o.2.2.2.1 0) (n1, .inl (va_cpy f g sp.toNatClampNeg dp.toNatClampNeg n.toNatClampNeg)))).heap = H.setIfInBounds (aad o a) (vp_cell (o.2.2.2.1 0) (n1, .inl (va_cpy f g sp.toNatClampNeg dp.toNatClampNeg n.toNatClampNeg))) := by rw [← hT]; rfl
  have oq : ∀ q : Nat, q ≠ aad o a → (H.setIfInBounds (aad o a) (vp_cell (o.2.2.2.1 0) (n1, .inl (va_cpy f g sp.toNatClampNeg dp.toNatClampNeg n.toNatClampNeg))))[q]? = H[q]? := fun q hq => by simp [Array.getElem?_setIfInBounds, Ne.symm hq]
  have hat2 : va_at o.2.2.2.2 vwCl (aad o a, ase o (.inl (0, n1, .inl (va_cpy f g sp.toNatClampNeg dp.toNatClampNeg n.toNatClampNeg)))) (H.setIfInBounds (aad o a) (vp_cell (o.2.2.2.1 0) (n1, .inl (va_cpy f g sp.toNatClampNeg dp.toNatClampNeg n.toNatClampNeg)))) := by
    show (H.setIfInBounds (aad o a) _)[aad o a]? = some _
    simp [Array.getElem?_setIfInBounds, hl]
  have k3 := k2 _ (locs ++ ((vp_cell (o.2.2.2.1 0) (n0, .inl f)).stretch sp.toNatClampNeg n.toNatClampNeg).zipIdx.map (fun q => ⟨aad o a, dp.toNatClampNeg + q.2⟩)) ls (hR.put hz ha1 (by simp) oq hat2) ⟨by simp; exact hS.1, fun q g1 g2 => by
      rw [oq q (fun e => g2 (by rw [e]; exact aad_zA hz))]
      exact hS.2.1 q g1 g2, fun q hq => by
      rcases List.mem_append.mp hq with h | h
      · exact hS.2.2 q h
      · obtain ⟨z, -, hz2⟩ := List.mem_map.mp h
        rw [← hz2]
        exact aad_zA hz⟩ hl0
  have e4 : (aput h a (.inl (0, n1, .inl (va_cpy f g sp.toNatClampNeg dp.toNatClampNeg n.toNatClampNeg)))).1 - h.1 = 0 := Nat.sub_self _
  have e5 : (aput h a (.inl (0, n1, .inl (va_cpy f g sp.toNatClampNeg dp.toNatClampNeg n.toNatClampNeg)))).2.1 - h.2.1 = 0 := Nat.sub_self _
  rw [e4, e5] at k3
  obtain ⟨t, a1, b1⟩ := k3 _ hheap X'
  exact ⟨t, step t a1, b1⟩
/-- the machine at a static call whose method a class above the one that is named declares -/
theorem us_step {Q : Unit → Pre} {E : CtlPost} {e : Env} {d : Bool} {acts : List Action} {s s₀ : State} {f : JFrame} {index ci n c : Nat} {m : MethodId} {dk ck : Class} {cf : ClassFile} {name desc : String} (hs : s.topJava?.isSome) (hp : e.platform.polymorphicOnlyByInvokevirtual = true)
    (hW : s₀.WarmedH s.vm) (hE : s₀.MethodEntryUp e s.vm f.method.cls index c m ci) (h1 : s₀.vm.classes[f.method.cls]? = some dk) (h2 : dk.cf = some cf) (h3 : cf.constantPool[index]? = some (.methodref ci n)) (h4 : cf.constantPool.nameAndType? n = some (name, desc))
    (hck : s₀.vm.classes[c]? = some ck) (hnone : (ck.methods.any fun x => x.name == name && !x.isStatic && signaturePolymorphic ck x) = false) :
    wp (invokestatic.sem index) Q E e d acts (s.setTop f) ↔ wp (invokestatic.sem index) Q E e d acts ((s.setVm (s.vm.calledUp f.method.cls ci index c m)).setTop f) := by
  obtain ⟨hgc, -, hW₁, hgm⟩ := hE.classFirst
  obtain ⟨ka, hka, hea⟩ := hW.alike.2.2 _ _ h1
  obtain ⟨kb, hkb, heb⟩ := hE.warmed.alike.2.2 _ _ h1
  obtain ⟨ca, hca, hfa⟩ := hW₁.alike.2.2 _ _ hck
  obtain ⟨cb, hcb, hfb⟩ := hE.warmed.alike.2.2 _ _ hck
  have href : cf.constantPool[index]? = some (if false then .interfaceMethodref ci n else .methodref ci n) := h3
  have aska := memberRef_ask_via (e := e) hka (by rw [hea]; exact h2) href h4
  have askb := memberRef_ask_via (e := e) hkb (by rw [heb]; exact h2) href h4
  have na : (ca.methods.any fun x => x.name == name && !x.isStatic && signaturePolymorphic ca x) = false := by rw [hfa]; exact hnone
  have nb : (cb.methods.any fun x => x.name == name && !x.isStatic && signaturePolymorphic cb x) = false := by rw [hfb]; exact hnone
  have ta : (s.setVm (s.vm.noted f.method.cls ci (.cls c))).topJava?.isSome := hs
  have tb : (s.setVm (s.vm.calledUp f.method.cls ci index c m)).topJava?.isSome := hs
  have stepC : ∀ {Q' : ClassId → Pre} {d' : Bool} {acts' : List Action}, wp (Jvm.resolveClassAt ci) Q' E e d' acts' (s.setTop f) ↔ Q' c d' acts' ((s.setVm (s.vm.noted f.method.cls ci (.cls c))).setTop f) :=
    W.resolveClassAt_links (t := s.setTop f) (State.method?_setTop f hs) hgc
  have stepM : ∀ {Q' : MethodId → Pre} {d' : Bool} {acts' : List Action}, wp (Jvm.resolveMethodAt index) Q' E e d' acts' ((s.setVm (s.vm.noted f.method.cls ci (.cls c))).setTop f) ↔ Q' m d' acts' ((s.setVm (s.vm.calledUp f.method.cls ci index c m)).setTop f) :=
    W.resolveMethodAt_links (t := (s.setVm (s.vm.noted f.method.cls ci (.cls c))).setTop f) (State.method?_setTop f ta) hgm
  simp [invokestatic.sem, hp, Seam.memberRefOf, State.method?_setTop f hs, State.method?_setTop f tb, aska, askb, stepC, W.resolveClassAt_ready (s := (s.setVm (s.vm.calledUp f.method.cls ci index c m)).setTop f) (State.method?_setTop f tb) hE.classReady,
    hca, hcb, na, nb, stepM, W.resolveMethodAt_ready (s := (s.setVm (s.vm.calledUp f.method.cls ci index c m)).setTop f) (State.method?_setTop f tb) hE.ready, -Array.any_eq_true]
