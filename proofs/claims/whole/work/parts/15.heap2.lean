theorem a_new {o : Om} {κ : Ka} {h : AH} {pc index ci N : Nat} {C : String} {T : u_T} {ty : Nat → FieldType} {fs : List Value} {lv : List (Nat × Value)} {st : List Value} {Q : Option Value → AH → Prop}
    (hci : vwCl[ci]? = some (C, T, N)) (hin : ∀ w ∈ u_ws C T N, w ∈ GW) (hty : ∀ k, k < N → parseFieldDescriptor (T k).2.2.1 = some (ty k)) (hcl : Cond.classLink κ.1.cls index C ∈ lw_tbl) (hinst : Cond.instantiable C N ∈ lw_tbl) (hini : Cond.initialized C ∈ lw_tbl) (hfs : ∀ o j, j < N → defaultValue (ty j) = vp_V (fs.map (asv o)) j) (hd : decode κ.2.1 pc = .ok (.new index, 3))
    (kk : AQ o κ (anew h N (.inr (ci, fs))) (pc + 3) lv (.ref h.1 :: st) Q) : AQ o κ h pc lv st Q := by
  refine AQ.go (h1 := anew h N _) ⟨Nat.le_succ _, Nat.le_add_right _ _⟩ (fun p e R s m args below meth c H locs cells slots Qw ls hC hR hS hl0 hc1 hc2 k2 => ?_) kk
  have hKn := hC.2.2.2.2.2.2.2.2.1.1.1 ci _ hci
  have e4 : (anew h N (.inr (ci, fs))).1 - h.1 = 1 := by show h.1 + 1 - h.1 = 1; omega
  have e5 : (anew h N (.inr (ci, fs))).2.1 - h.2.1 = N := by show h.2.1 + N - h.2.1 = N; omega
  rw [e4] at hc1 k2
  rw [e5] at hc2 k2
  refine W.newcK hC.1 hC.2.1 hC.2.2.2.1 (hC.w hcl rfl) (hC.w hinst rfl) (hC.w hini rfl) rfl hd hc1 hc2 hKn.2.1 rfl fun H1 kC hkC e1 z1 o1 => ?_
  have hat2 : va_at o.2.2.2.2 vwCl (H.size, ase o (.inr (ci, fs))) H1 := ⟨_, hci, (u_born ty (GW_hts hC) hin hKn hkC e1 hty).to (hfs o)⟩
  obtain ⟨hR1, ea⟩ := hR.push (k := N) z1 o1 hat2
  have := k2 H1 locs ls hR1 ⟨Nat.le_trans hS.1 (by omega), fun x h1 h2 => (o1 x (Nat.lt_of_lt_of_le h1 hS.1)).trans (hS.2.1 x h1 h2), hS.2.2⟩ hl0
  rw [List.map_cons, asv_ref, ← ea] at this
  exact this
theorem a_newa {o : Om} {κ : Ka} {h : AH} {pc t N : Nat} {atype : ArrayType} {n : Int32} {lv : List (Nat × Value)} {st : List Value} {Q : Option Value → AH → Prop}
    (ht : (t = 0 ∧ atype = .int) ∨ (t = 1 ∧ atype = .boolean)) (hn : ¬ n < 0) (hN : n.toNatClampNeg = N) (hb : N ≤ 100000) (hd : decode κ.2.1 pc = .ok (.newarray atype, 2))
    (kk : AQ o κ (anew h N (.inl (t, N, .inl (fun _ => 0)))) (pc + 2) lv (.ref h.1 :: st) Q) : AQ o κ h pc lv (.int n :: st) Q := by
  refine AQ.go (h1 := anew h N _) ⟨Nat.le_succ _, Nat.le_add_right _ _⟩ (fun p e R s m args below meth c H locs cells slots Qw ls hC hR hS hl0 hc1 hc2 k2 => ?_) kk
  have e4 : (anew h N (.inl (t, N, .inl (fun _ => 0)))).1 - h.1 = 1 := by show h.1 + 1 - h.1 = 1; omega
  have e5 : (anew h N (.inl (t, N, .inl (fun _ => 0)))).2.1 - h.2.1 = N := by show h.2.1 + N - h.2.1 = N; omega
  rw [e4] at hc1 k2
  rw [e5] at hc2 k2
  have hK := hC.2.2.2.2.2.2.2.2.1.1
  have key : ∀ (H1 : Heap) (cA : ClassId), H1[H.size]? = some (arrV cA N (fun _ => .int 0)) → cA = o.2.2.2.1 t → H1.size = H.size + 1 → (∀ q, q < H.size → H1[q]? = H[q]?) → W p o.1 e R s m args below meth c H1 locs (cells + 1) (slots + N) Qw (F0 m (pc + 2) ls (.ref H.size :: st.map (asv o))) := by
    intro H1 cA e1 eA z1 o1
    subst eA
    have hat2 : va_at o.2.2.2.2 vwCl (H.size, ase o (.inl (t, N, .inl (fun _ => 0)))) H1 := by
      show H1[H.size]? = some (vp_cell _ _)
      rw [e1, vp_cell_i]
    obtain ⟨hR1, ea⟩ := hR.push (k := N) z1 o1 hat2
    have := k2 H1 locs ls hR1 ⟨Nat.le_trans hS.1 (by omega), fun x h1 h2 => (o1 x (Nat.lt_of_lt_of_le h1 hS.1)).trans (hS.2.1 x h1 h2), hS.2.2⟩ hl0
    rw [List.map_cons, asv_ref, ← ea] at this
    exact this
  rcases ht with ⟨rfl, rfl⟩ | ⟨rfl, rfl⟩
  · have hw : (Cond.arrayClass .int) ∈ lw_tbl := by decide +kernel
    refine va_newaK (atype := .int) hC.1 hC.2.1 (hC.w hw rfl) rfl hd rfl hn hN (by show N * 4 ≤ _; omega) hc1 hc2 rfl fun H1 cA e1 z1 o1 hAr hNm => ?_
    exact key H1 cA e1 (Option.some.inj (hNm.symm.trans (hK.2 0 _ rfl).2)) z1 o1
  · have hw : (Cond.arrayClass .boolean) ∈ lw_tbl := by decide +kernel
    refine va_newaK (atype := .boolean) hC.1 hC.2.1 (hC.w hw rfl) rfl hd rfl hn hN (by show N * 1 ≤ _; omega) hc1 hc2 rfl fun H1 cA e1 z1 o1 hAr hNm => ?_
    exact key H1 cA e1 (Option.some.inj (hNm.symm.trans (hK.2 1 _ rfl).2)) z1 o1
theorem a_newq {o : Om} {κ : Ka} {h : AH} {pc t N index : Nat} {C : String} {n : Int32} {lv : List (Nat × Value)} {st : List Value} {Q : Option Value → AH → Prop}
    (hty : ∀ o, (tyl o)[t]? = some (o.2.2.2.1 t, .object C)) (hao : C ∈ aovl) (hcl : Cond.classLink κ.1.cls index C ∈ lw_tbl) (hn : ¬ n < 0) (hN : n.toNatClampNeg = N) (hb : N ≤ 100000) (hd : decode κ.2.1 pc = .ok (.anewarray index, 3))
    (kk : AQ o κ (anew h N (.inl (t, N, .inr (.inr (.inr (.inr (fun _ => none))))))) (pc + 3) lv (.ref h.1 :: st) Q) : AQ o κ h pc lv (.int n :: st) Q := by
  refine AQ.go (h1 := anew h N _) ⟨Nat.le_succ _, Nat.le_add_right _ _⟩ (fun p e R s m args below meth c H locs cells slots Qw ls hC hR hS hl0 hc1 hc2 k2 => ?_) kk
  have e4 : (anew h N (.inl (t, N, .inr (.inr (.inr (.inr (fun _ => none))))))).1 - h.1 = 1 := by show h.1 + 1 - h.1 = 1; omega
  have e5 : (anew h N (.inl (t, N, .inr (.inr (.inr (.inr (fun _ => none))))))).2.1 - h.2.1 = N := by show h.2.1 + N - h.2.1 = N; omega
  rw [e4] at hc1 k2
  rw [e5] at hc2 k2
  have hK := hC.2.2.2.2.2.2.2.2.1.1
  subst hN
  refine W.anew hC.1 hC.2.1 hC.2.2.2.1 (hC.w hcl rfl) (va_AO.use (hC.2.2.2.2.2.2.2.2.1.2.2.2.2 _ hao)) rfl hd rfl hn (by omega) hc1 hc2 fun cA kA comp f1 f2 f3 f4 => ?_
  generalize hH1 : H.push ({ cls := cA, slots := Array.replicate n.toNatClampNeg .null, vm := .none } : Cell) = H1
  have z1 : H1.size = H.size + 1 := by rw [← hH1, Array.size_push]
  have e1 : H1[H.size]? = some (arrV cA n.toNatClampNeg (fun _ => .null)) := by rw [← hH1, Array.getElem?_push_size, ← arrV_new]
  have o1 : ∀ q : Nat, q < H.size → H1[q]? = H[q]? := fun q hq => by rw [← hH1, Array.getElem?_push, if_neg (Nat.ne_of_lt hq)]
  have eA : cA = o.2.2.2.1 t := by
    obtain ⟨_, _, -, -, -, g4⟩ := (hK.2 t _ (hty o)).2
    exact Option.some.inj (f1.symm.trans g4)
  subst eA
  have hat2 : va_at o.2.2.2.2 vwCl (H.size, ase o (.inl (t, n.toNatClampNeg, .inr (.inr (.inr (.inr (fun _ => none))))))) H1 := by
    show H1[H.size]? = some (vp_cell _ _)
    rw [e1, vp_cell_q]
    rfl
  obtain ⟨hR1, ea⟩ := hR.push (k := n.toNatClampNeg) z1 o1 hat2
  have := k2 H1 locs ls hR1 ⟨Nat.le_trans hS.1 (by omega), fun x h1 h2 => (o1 x (Nat.lt_of_lt_of_le h1 hS.1)).trans (hS.2.1 x h1 h2), hS.2.2⟩ hl0
  rw [List.map_cons, asv_ref, ← ea] at this
  exact this
theorem a_inst {o : Om} {κ : Ka} {h : AH} {pc index a ci : Nat} {fs : List Value} {q : vw_C} {nm : String} {b : Int32} {lv : List (Nat × Value)} {st : List Value} {Q : Option Value → AH → Prop}
    (ha : h.2.2 a = some (.inr (ci, fs))) (hci : vwCl[ci]? = some q) (hcl : Cond.classLink κ.1.cls index nm ∈ lw_tbl) (hb : (b = 1 ∧ (q.1 = nm ∨ (q.1, nm) ∈ cstl)) ∨ (b = 0 ∧ (q.1, nm) ∈ nocl)) (hd : decode κ.2.1 pc = .ok (.instanceof index, 3))
    (kk : AQ o κ h (pc + 3) lv (.int b :: st) Q) : AQ o κ h pc lv (.ref a :: st) Q := by
  refine AQ.pu (fun p e R s m args below meth c H locs cells slots Qw ls hC hR hS hl0 k2 => ?_) kk
  have hr := Rl.recv hC hR ha hci
  rcases hb with ⟨rfl, hE | hE⟩ | ⟨rfl, hE⟩
  · rw [hE] at hr
    exact va_instS hC.1 hC.2.1 hC.2.2.2.1 (hC.w hcl rfl) (by rw [← hE]; exact (hC.2.2.2.2.2.2.2.2.1.1.1 ci q hci).2) hr hd (k2 ls hl0)
  · exact va_instY hC.1 hC.2.1 hC.2.2.2.1 (hC.w hcl rfl) (hC.2.2.2.2.2.2.2.2.1.2.1 _ hE) hr hd (k2 ls hl0)
  · exact va_instNo hC.1 hC.2.1 hC.2.2.2.1 (hC.w hcl rfl) (hC.2.2.2.2.2.2.2.2.1.2.2.1 _ hE) hr hd (k2 ls hl0)
theorem a_objInit {o : Om} {κ : Ka} {h : AH} {pc index a : Nat} {lv : List (Nat × Value)} {st : List Value} {Q : Option Value → AH → Prop}
    (hl : Cond.methodLink κ.1.cls index Lib.objectInit ∈ lw_tbl) (hi : Cond.instanceMethod Lib.objectInit ∈ lw_tbl) (hc : Cond.code Lib.objectInit ⟨#[0xb1]⟩ 1 none ∈ lw_tbl) (hf : 1 ≤ κ.2.2.2.2.1 ∧ (st.map fun v => v.category).sum + 12 ≤ κ.2.2.2.2.2) (hd : decode κ.2.1 pc = .ok (.invokespecial index, 3))
    (kk : AQ o κ h (pc + 3) lv st Q) : AQ o κ h pc lv (.ref a :: st) Q := by
  refine AQ.pu (fun p e R s m args below meth c H locs cells slots Qw ls hC hR hS hl0 k2 => ?_) kk
  have h1 := hC.2.2.2.2.2.2.2.2.2.1
  have h2 := hC.2.2.2.2.2.2.2.2.2.2.1
  exact W.objInit hC.1 hC.2.1 hC.2.2.2.1 (hC.w hl rfl) (hC.w hi rfl) (hC.w hc rfl) rfl (hl0.1.trans hC.2.2.1.symm) rfl hd (by omega) (by show 2 * 0 + _ + 12 ≤ _; rw [sum_asv]; omega) (k2 ls hl0)
theorem a_mmax {o : Om} {κ : Ka} {h : AH} {pc index : Nat} {x y : Int32} {lv : List (Nat × Value)} {st : List Value} {Q : Option Value → AH → Prop}
    (hl : Cond.methodLink κ.1.cls index Lib.Math.max.name ∈ lw_tbl) (hs : Cond.static Lib.Math.max.name ∈ lw_tbl) (hi : Cond.initialized "java/lang/Math" ∈ lw_tbl) (hc : Cond.code Lib.Math.max.name Lib.Math.max.code 2 (some .int) ∈ lw_tbl) (hf : 1 ≤ κ.2.2.2.2.1 ∧ (st.map fun v => v.category).sum + 13 ≤ κ.2.2.2.2.2) (hd : decode κ.2.1 pc = .ok (.invokestatic index, 3))
    (kk : AQ o κ h (pc + 3) lv (.int (if x < y then y else x) :: st) Q) : AQ o κ h pc lv (.int y :: .int x :: st) Q := by
  refine AQ.go (h1 := h) ⟨Nat.le_refl _, Nat.le_refl _⟩ (fun p e R s m args below meth c H locs cells slots Qw ls hC hR hS hl0 hc1 hc2 k2 => ?_) kk
  have h1 := hC.2.2.2.2.2.2.2.2.2.1
  have h2 := hC.2.2.2.2.2.2.2.2.2.2.1
  have k3 := k2 H locs ls hR hS hl0
  rw [Nat.sub_self, Nat.sub_self] at k3
  exact va_mmax hC.1 hC.2.1 (hC.2.2.1.trans hl0.1.symm) hC.2.2.2.1 (hC.w hl rfl) (hC.w hs rfl) (hC.w hi rfl) (hC.w hc rfl) (by omega) (by rw [sum_asv]; omega) (by omega) (by omega) hd k3
theorem a_mmin {o : Om} {κ : Ka} {h : AH} {pc index : Nat} {x y : Int32} {lv : List (Nat × Value)} {st : List Value} {Q : Option Value → AH → Prop}
    (hl : Cond.methodLink κ.1.cls index Lib.Math.min.name ∈ lw_tbl) (hs : Cond.static Lib.Math.min.name ∈ lw_tbl) (hi : Cond.initialized "java/lang/Math" ∈ lw_tbl) (hc : Cond.code Lib.Math.min.name Lib.Math.min.code 2 (some .int) ∈ lw_tbl) (hf : 1 ≤ κ.2.2.2.2.1 ∧ (st.map fun v => v.category).sum + 13 ≤ κ.2.2.2.2.2) (hd : decode κ.2.1 pc = .ok (.invokestatic index, 3))
    (kk : AQ o κ h (pc + 3) lv (.int (if y < x then y else x) :: st) Q) : AQ o κ h pc lv (.int y :: .int x :: st) Q := by
  refine AQ.go (h1 := h) ⟨Nat.le_refl _, Nat.le_refl _⟩ (fun p e R s m args below meth c H locs cells slots Qw ls hC hR hS hl0 hc1 hc2 k2 => ?_) kk
  have h1 := hC.2.2.2.2.2.2.2.2.2.1
  have h2 := hC.2.2.2.2.2.2.2.2.2.2.1
  have k3 := k2 H locs ls hR hS hl0
  rw [Nat.sub_self, Nat.sub_self] at k3
  exact va_mmin hC.1 hC.2.1 (hC.2.2.1.trans hl0.1.symm) hC.2.2.2.1 (hC.w hl rfl) (hC.w hs rfl) (hC.w hi rfl) (hC.w hc rfl) (by omega) (by rw [sum_asv]; omega) (by omega) (by omega) hd k3
theorem a_mabs {o : Om} {κ : Ka} {h : AH} {pc index : Nat} {x : Int32} {lv : List (Nat × Value)} {st : List Value} {Q : Option Value → AH → Prop}
    (hl : Cond.methodLink κ.1.cls index Lib.Math.abs.name ∈ lw_tbl) (hs : Cond.static Lib.Math.abs.name ∈ lw_tbl) (hi : Cond.initialized "java/lang/Math" ∈ lw_tbl) (hc : Cond.code Lib.Math.abs.name Lib.Math.abs.code 1 (some .int) ∈ lw_tbl) (hf : 1 ≤ κ.2.2.2.2.1 ∧ (st.map fun v => v.category).sum + 13 ≤ κ.2.2.2.2.2) (hd : decode κ.2.1 pc = .ok (.invokestatic index, 3))
    (kk : AQ o κ h (pc + 3) lv (.int (if 0 ≤ x then x else 0 - x) :: st) Q) : AQ o κ h pc lv (.int x :: st) Q := by
  refine AQ.go (h1 := h) ⟨Nat.le_refl _, Nat.le_refl _⟩ (fun p e R s m args below meth c H locs cells slots Qw ls hC hR hS hl0 hc1 hc2 k2 => ?_) kk
  have h1 := hC.2.2.2.2.2.2.2.2.2.1
  have h2 := hC.2.2.2.2.2.2.2.2.2.2.1
  have k3 := k2 H locs ls hR hS hl0
  rw [Nat.sub_self, Nat.sub_self] at k3
  exact va_mabs hC.1 hC.2.1 (hC.2.2.1.trans hl0.1.symm) hC.2.2.2.1 (hC.w hl rfl) (hC.w hs rfl) (hC.w hi rfl) (hC.w hc rfl) (by omega) (by rw [sum_asv]; omega) (by omega) (by omega) hd k3
