theorem Rl.arr {o : Om} {h : AH} {s : State} {H : Heap} (hR : Rl o h s H) {a t : Nat} {x : vp_A} (ht : t ≠ 9) (ha : h.2.2 a = some (.inl (t, x))) : a ≠ 0 ∧ va_at o.2.2.2.2 vwCl (aad o a, ase o (.inl (t, x))) H := by
  have h0 : a ≠ 0 := by
    intro z
    subst z
    obtain ⟨L, xs, e1, -⟩ := hR.2.2.2.2 _ ha
    cases e1
    exact ht rfl
  exact ⟨h0, (hR.2.2.2.1 a _ h0 ha).2⟩
/-- a field that is read: the words that its place in the pool gives -/
theorem a_get {o : Om} {κ : Ka} {h : AH} {pc index a ci k : Nat} {ref : String} {T : u_T} {C : String} {N : Nat} {fs : List Value} {v : Value} {lv : List (Nat × Value)} {st : List Value} {Q : Option Value → AH → Prop}
    (ha : h.2.2 a = some (.inr (ci, fs))) (hv : fs[k]? = some v) (hci : vwCl[ci]? = some (C, T, N)) (hk : k < N) (hin : ∀ w ∈ u_ws C T N, w ∈ GW) (hl : Cond.fieldLink κ.1.cls index ref (T k).2.1 (T k).2.2.1 ∈ lw_tbl) (hsm : ref = (T k).1 ∨ Cond.sameField ref (T k).1 (T k).2.1 (T k).2.2.1 ∈ lw_tbl) (hd : decode κ.2.1 pc = .ok (.getfield index, 3))
    (kk : AQ o κ h (pc + 3) lv (v :: st) Q) : AQ o κ h pc lv (.ref a :: st) Q := by
  refine AQ.pu (fun p e R s m args below meth c H locs cells slots Qw ls hC hR hS hl0 k2 => ?_) kk
  have hat := (hR.at ha).2
  exact va_get (ci := ci) hC.1 hC.2.1 (GW_hts hC) hin hC.2.2.2.1 hC.2.2.2.2.2.2.2.2.1.1 (va_P1 hat) 0 rfl hci k hk (hC.w hl rfl) (fun x hx => by
    rcases hsm with e1 | hw
    · rw [e1]; exact hx
    · exact u_same (hC.w hw rfl) x hx) (by rw [List.getElem?_map, hv]; rfl) hd (k2 ls hl0)
theorem a_put {o : Om} {κ : Ka} {h : AH} {pc index a ci k : Nat} {ref : String} {T : u_T} {C : String} {N : Nat} {fs : List Value} {v : Value} {ty : FieldType} {ty0 : Nat → FieldType} {lv : List (Nat × Value)} {st : List Value} {Q : Option Value → AH → Prop}
    (ha : h.2.2 a = some (.inr (ci, fs))) (hlen : k < fs.length) (hci : vwCl[ci]? = some (C, T, N)) (hk : k < N) (hin : ∀ w ∈ u_ws C T N, w ∈ GW) (hty : ∀ k, k < N → parseFieldDescriptor (T k).2.2.1 = some (ty0 k)) (hnm : ∀ a, a < N → ∀ b, b < N → a ≠ b → (T a).2.1 ≠ (T b).2.1) (hl : Cond.fieldLink κ.1.cls index ref (T k).2.1 (T k).2.2.1 ∈ lw_tbl) (hsm : ref = (T k).1) (hfin : (T k).2.2.2 = false ∨ ((T k).2.2.2 = true ∧ κ.1.name = "<init>" ∧ (T k).1 = κ.1.cls)) (hd0 : parseFieldDescriptor (T k).2.2.1 = some ty) (hn : ∀ o, narrow ty (asv o v) = asv o v) (hfit : ∀ o, fits ty (asv o v) = true) (hd : decode κ.2.1 pc = .ok (.putfield index, 3))
    (kk : AQ o κ (aput h a (.inr (ci, fs.set k v))) (pc + 3) lv st Q) : AQ o κ h pc lv (v :: .ref a :: st) Q := by
  refine AQ.go (h1 := aput h a _) ⟨Nat.le_refl _, Nat.le_refl _⟩ (fun p e R s m args below meth c H locs cells slots Qw ls hC hR hS hl0 hc1 hc2 k2 => ?_) kk
  obtain ⟨h0, hat⟩ := hR.at ha
  have hK := hC.2.2.2.2.2.2.2.2.1.1
  have hts := GW_hts hC
  have hap := va_apart (own := κ.1.cls) hts hin ty0 hty hnm hK hci
  obtain ⟨r, h1, cell, q1, q2, q3, q4⟩ := hat
  have hr : r = (C, T, N) := Option.some.inj (h1.symm.trans hci)
  subst hr
  obtain ⟨hSl, hfc, kC, hkC, hkind⟩ := hK.1 ci _ hci
  obtain ⟨cf, kf, fi, f, hi, hsl⟩ := hSl k hk
  have hlay := hts _ (hin _ (u_in_lay hk))
  unfold u_lay at hlay
  have hst := (u_facts hfc hkC (u_lays hts hin hk) hi).1
  have hlen' : k < (fs.map (asv o)).length := by rw [List.length_map]; exact hlen
  have fin : ∀ H' : Heap, H'[aad o a]? = some (cell.setSlot f.slot (asv o v)) → H'.size = H.size → (∀ q, q ≠ aad o a → H'[q]? = H[q]?) → W p o.1 e R s m args below meth c H' (locs ++ [⟨aad o a, f.slot⟩]) cells slots Qw (F0 m (pc + 3) ls (st.map (asv o))) := by
    intro H' e1 e2 e3
    rw [hsl] at e1 ⊢
    have hat2 : va_at o.2.2.2.2 vwCl (aad o a, ase o (.inr (ci, fs.set k v))) H' := by
      rw [ase_o, List.map_set]
      exact ⟨_, hci, t_OB.to (V := updV (vp_V (fs.map (asv o))) k (asv o v)) ⟨_, e1, q2, q3, t_set q4 hap hk (asv o v)⟩ (fun j _ => vp_updV_set hlen' (asv o v) j)⟩
    have := k2 H' (locs ++ [⟨aad o a, _⟩]) ls (hR.put h0 ha e2 e3 hat2) (hS.put (k := (o.2.2.2.2.2 ci) k) e2 e3 (aad_zA h0)) hl0
    have e4 : (aput h a (.inr (ci, fs.set k v))).1 - h.1 = 0 := Nat.sub_self _
    have e5 : (aput h a (.inr (ci, fs.set k v))).2.1 - h.2.1 = 0 := Nat.sub_self _
    rw [e4, e5] at this
    exact this
  rcases hfin with hfin | ⟨hfin, hinit, hdecl⟩
  · rw [if_neg (by rw [hfin]; decide)] at hlay
    have h6 := u_store hfc hkC hkind hlay hi hd0 (hn o) (hfit o)
    exact W.putK hC.1 hC.2.1 (f := f) ⟨hC.2.2.2.1, hC.w hl rfl, ⟨_, _, _, by rw [hsm]; exact hi⟩, hst⟩ (by rw [q2]; exact h6) q1 q3 (by rw [hsl]; exact k2_hasslot (q4 k hk)) rfl rfl hd fin
  · rw [if_pos hfin] at hlay
    have hcf : m.cls = cf := by
      obtain ⟨_, _, c', _, _, _, -, -, hf', -, -, -, hown2, -⟩ := Cond.laysFinal_spec hlay
      have e1 : c' = cf := by have := hi.symm.trans hf'; simp at this; exact this.1.symm
      rw [hdecl] at hown2
      rw [← e1]; exact Option.some.inj (hC.2.2.2.1.symm.trans hown2)
    have h6 := u_fits hfc hkC hkind (Or.inr hlay) hi hd0 (hn o) (hfit o)
    exact W.putFinK hC.1 hC.2.1 hC.2.2.2.1 (hC.w hl rfl) (by rw [hsm]; exact hi) hst hcf (hC.2.2.2.2.2.2.1 hinit) (by rw [q2]; exact h6) q1 q3 (by rw [hsl]; exact k2_hasslot (q4 k hk)) rfl rfl hd fin
theorem a_iaload {o : Om} {κ : Ka} {h : AH} {pc a n : Nat} {f : Nat → Int32} {i : Int32} {lv : List (Nat × Value)} {st : List Value} {Q : Option Value → AH → Prop} (ha : h.2.2 a = some (.inl (0, n, .inl f))) (hin : vp_in i n) (hd : decode κ.2.1 pc = .ok (.iaload, 1))
    (kk : AQ o κ h (pc + 1) lv (.int (f i.toNatClampNeg) :: st) Q) : AQ o κ h pc lv (.int i :: .ref a :: st) Q := by
  refine AQ.pu (fun p e R s m args below meth c H locs cells slots Qw ls hC hR hS hl0 k2 => ?_) kk
  exact va_iald hC.1 hC.2.1 hC.2.2.2.2.2.2.2.2.1.1 (va_P1 (hR.arr (by decide) ha).2) 0 0 rfl rfl hin hd (k2 ls hl0)
theorem a_iaload_s {o : Om} {κ : Ka} {h : AH} {pc n : Nat} {f : Nat → Int32} {i : Int32} {lv : List (Nat × Value)} {st : List Value} {Q : Option Value → AH → Prop} (ha : h.2.2 0 = some (.inl (9, n, .inl f))) (hin : vp_in i n) (hd : decode κ.2.1 pc = .ok (.iaload, 1))
    (kk : AQ o κ h (pc + 1) lv (.int (f i.toNatClampNeg) :: st) Q) : AQ o κ h pc lv (.int i :: .ref 0 :: st) Q := by
  refine AQ.pu (fun p e R s m args below meth c H locs cells slots Qw ls hC hR hS hl0 k2 => ?_) kk
  obtain ⟨L, xs, e1, hX⟩ := hR.2.2.2.2 _ ha
  cases e1
  have hb := hR.2.2.1
  have hz := hC.2.2.2.2.2.2.2.2.2.2.2
  have hbl : o.2.1 < s.heap.size := by omega
  have hbA : ¬ zA o o.2.1 := by unfold zA; omega
  exact va_sld hC.1 hC.2.1 (hX.kept (hS.2.1 _ hbl hbA).symm) hbl hbA hS hin hd (k2 ls hl0)
theorem a_alen {o : Om} {κ : Ka} {h : AH} {pc a t : Nat} {x : vp_A} {lv : List (Nat × Value)} {st : List Value} {Q : Option Value → AH → Prop} (ht : t < 5) (ha : h.2.2 a = some (.inl (t, x))) (hd : decode κ.2.1 pc = .ok (.arraylength, 1))
    (kk : AQ o κ h (pc + 1) lv (.int (Int32.ofNat x.1) :: st) Q) : AQ o κ h pc lv (.ref a :: st) Q := by
  refine AQ.pu (fun p e R s m args below meth c H locs cells slots Qw ls hC hR hS hl0 k2 => ?_) kk
  have hat := (hR.arr (by omega) ha).2
  obtain ⟨n, y⟩ := x
  have hx : ∃ x', ase o (.inl (t, n, y)) = .inl (o.2.2.2.1 t, n, x') := by
    rcases y with f | f | f | f | f
    · exact ⟨_, rfl⟩
    · exact ⟨_, rfl⟩
    · exact ⟨_, rfl⟩
    · exact ⟨_, rfl⟩
    · exact ⟨_, rfl⟩
  obtain ⟨x', hx⟩ := hx
  rw [hx] at hat
  have hty : ∃ ty, (tyl o)[t]? = some (o.2.2.2.1 t, ty) := by
    match t, ht with
    | 0, _ => exact ⟨_, rfl⟩
    | 1, _ => exact ⟨_, rfl⟩
    | 2, _ => exact ⟨_, rfl⟩
    | 3, _ => exact ⟨_, rfl⟩
    | 4, _ => exact ⟨_, rfl⟩
  obtain ⟨ty, hty⟩ := hty
  exact va_alen hC.1 hC.2.1 hC.2.2.2.2.2.2.2.2.1.1 (va_P1 hat) 0 t rfl hty rfl hd (k2 ls hl0)
theorem a_alen_s {o : Om} {κ : Ka} {h : AH} {pc n : Nat} {f : Nat → Int32} {lv : List (Nat × Value)} {st : List Value} {Q : Option Value → AH → Prop} (ha : h.2.2 0 = some (.inl (9, n, .inl f))) (hd : decode κ.2.1 pc = .ok (.arraylength, 1))
    (kk : AQ o κ h (pc + 1) lv (.int (Int32.ofNat n) :: st) Q) : AQ o κ h pc lv (.ref 0 :: st) Q := by
  refine AQ.pu (fun p e R s m args below meth c H locs cells slots Qw ls hC hR hS hl0 k2 => ?_) kk
  obtain ⟨L, xs, e1, hX⟩ := hR.2.2.2.2 _ ha
  cases e1
  have hb := hR.2.2.1
  have hz := hC.2.2.2.2.2.2.2.2.2.2.2
  have hbl : o.2.1 < s.heap.size := by omega
  have hbA : ¬ zA o o.2.1 := by unfold zA; omega
  exact va_slen hC.1 hC.2.1 (hX.kept (hS.2.1 _ hbl hbA).symm) hbl hbA hS hd (k2 ls hl0)
theorem a_baload {o : Om} {κ : Ka} {h : AH} {pc a n : Nat} {f : Nat → Int32} {i : Int32} {lv : List (Nat × Value)} {st : List Value} {Q : Option Value → AH → Prop} (ha : h.2.2 a = some (.inl (1, n, .inl f))) (hin : vp_in i n) (hd : decode κ.2.1 pc = .ok (.baload, 1))
    (kk : AQ o κ h (pc + 1) lv (.int (f i.toNatClampNeg) :: st) Q) : AQ o κ h pc lv (.int i :: .ref a :: st) Q := by
  refine AQ.pu (fun p e R s m args below meth c H locs cells slots Qw ls hC hR hS hl0 k2 => ?_) kk
  exact va_zald hC.1 hC.2.1 hC.2.2.2.2.2.2.2.2.1.1 (va_P1 (hR.arr (by decide) ha).2) 0 1 rfl rfl hin hd (k2 ls hl0)
theorem a_aaload {o : Om} {κ : Ka} {h : AH} {pc a n t b : Nat} {f : Nat → Option Nat} {i : Int32} {lv : List (Nat × Value)} {st : List Value} {Q : Option Value → AH → Prop} (ht : 2 ≤ t ∧ t < 5) (ha : h.2.2 a = some (.inl (t, n, .inr (.inr (.inr (.inr f)))))) (hin : vp_in i n) (hb : f i.toNatClampNeg = some b) (hd : decode κ.2.1 pc = .ok (.aaload, 1))
    (kk : AQ o κ h (pc + 1) lv (.ref b :: st) Q) : AQ o κ h pc lv (.int i :: .ref a :: st) Q := by
  refine AQ.pu (fun p e R s m args below meth c H locs cells slots Qw ls hC hR hS hl0 k2 => ?_) kk
  have hat := (hR.arr (by omega) ha).2
  rw [ase_q] at hat
  have hty : ∃ C, (tyl o)[t]? = some (o.2.2.2.1 t, .object C) := by
    match t, ht with
    | 2, _ => exact ⟨_, rfl⟩
    | 3, _ => exact ⟨_, rfl⟩
    | 4, _ => exact ⟨_, rfl⟩
  obtain ⟨C, hty⟩ := hty
  refine va_aldq hC.1 hC.2.1 hC.2.2.2.2.2.2.2.2.1.1 (va_P1 hat) 0 t rfl hty hin hd ?_
  rw [hb]
  exact k2 ls hl0
theorem a_iastore {o : Om} {κ : Ka} {h : AH} {pc a n : Nat} {f : Nat → Int32} {i x : Int32} {lv : List (Nat × Value)} {st : List Value} {Q : Option Value → AH → Prop} (ha : h.2.2 a = some (.inl (0, n, .inl f))) (hin : vp_in i n) (hd : decode κ.2.1 pc = .ok (.iastore, 1))
    (kk : AQ o κ (aput h a (.inl (0, n, .inl (upd f i.toNatClampNeg x)))) (pc + 1) lv st Q) : AQ o κ h pc lv (.int x :: .int i :: .ref a :: st) Q := by
  refine AQ.go (h1 := aput h a _) ⟨Nat.le_refl _, Nat.le_refl _⟩ (fun p e R s m args below meth c H locs cells slots Qw ls hC hR hS hl0 hc1 hc2 k2 => ?_) kk
  obtain ⟨h0, hat⟩ := hR.arr (by decide) ha
  have hat0 : H[aad o a]? = some (vp_cell (o.2.2.2.1 0) (n, .inl f)) := hat
  refine W.iast hC.1 hC.2.1 hat0 ((hC.2.2.2.2.2.2.2.2.1.1.2 0 _ rfl).1 n (fun j => .int (f j))) (fun q => by cases q) (by show ¬ (i < 0 ∨ (arrV _ _ _).slots.size ≤ _); rw [arrV_size]; exact hin) rfl rfl hd fun H1 e z oq => ?_
  have hat2 : va_at o.2.2.2.2 vwCl (aad o a, ase o (.inl (0, n, .inl (upd f i.toNatClampNeg x)))) H1 := by
    show H1[aad o a]? = some (vp_cell _ _)
    rw [e]
    rw [vp_cell_i, vp_cell_i, arrV_store]
    congr 2
    funext q
    by_cases hq : q = i.toNatClampNeg
    · subst hq
      simp [updV, upd]
    · simp [updV, upd, hq]
  have := k2 H1 (locs ++ [⟨aad o a, i.toNatClampNeg⟩]) ls (hR.put h0 ha z oq hat2) (hS.put z oq (aad_zA h0)) hl0
  have e4 : (aput h a (.inl (0, n, .inl (upd f i.toNatClampNeg x)))).1 - h.1 = 0 := Nat.sub_self _
  have e5 : (aput h a (.inl (0, n, .inl (upd f i.toNatClampNeg x)))).2.1 - h.2.1 = 0 := Nat.sub_self _
  rw [e4, e5] at this
  exact this
theorem a_bastore {o : Om} {κ : Ka} {h : AH} {pc a n : Nat} {f : Nat → Int32} {i x : Int32} {lv : List (Nat × Value)} {st : List Value} {Q : Option Value → AH → Prop} (ha : h.2.2 a = some (.inl (1, n, .inl f))) (hin : vp_in i n) (hd : decode κ.2.1 pc = .ok (.bastore, 1))
    (kk : AQ o κ (aput h a (.inl (1, n, .inl (upd f i.toNatClampNeg (x &&& 1))))) (pc + 1) lv st Q) : AQ o κ h pc lv (.int x :: .int i :: .ref a :: st) Q := by
  refine AQ.go (h1 := aput h a _) ⟨Nat.le_refl _, Nat.le_refl _⟩ (fun p e R s m args below meth c H locs cells slots Qw ls hC hR hS hl0 hc1 hc2 k2 => ?_) kk
  obtain ⟨h0, hat⟩ := hR.arr (by decide) ha
  have hat0 : H[aad o a]? = some (vp_cell (o.2.2.2.1 1) (n, .inl f)) := hat
  refine W.zast hC.1 hC.2.1 hat0 ((hC.2.2.2.2.2.2.2.2.1.1.2 1 _ rfl).1 n (fun j => .int (f j))) (fun q => by cases q) (by show ¬ (i < 0 ∨ (arrV _ _ _).slots.size ≤ _); rw [arrV_size]; exact hin) rfl rfl hd fun H1 e z oq => ?_
  have hat2 : va_at o.2.2.2.2 vwCl (aad o a, ase o (.inl (1, n, .inl (upd f i.toNatClampNeg (x &&& 1))))) H1 := by
    show H1[aad o a]? = some (vp_cell _ _)
    rw [e]
    rw [vp_cell_i, vp_cell_i, arrV_store]
    congr 2
    funext q
    by_cases hq : q = i.toNatClampNeg
    · subst hq
      simp [updV, upd, narrow]
    · simp [updV, upd, hq]
  have := k2 H1 (locs ++ [⟨aad o a, i.toNatClampNeg⟩]) ls (hR.put h0 ha z oq hat2) (hS.put z oq (aad_zA h0)) hl0
  have e4 : (aput h a (.inl (1, n, .inl (upd f i.toNatClampNeg (x &&& 1))))).1 - h.1 = 0 := Nat.sub_self _
  have e5 : (aput h a (.inl (1, n, .inl (upd f i.toNatClampNeg (x &&& 1))))).2.1 - h.2.1 = 0 := Nat.sub_self _
  rw [e4, e5] at this
  exact this
theorem asg_self {s : State} {C : String} {cC : ClassId} (h : ClassAt s C cC) : ∀ comp c0 : ClassId, s.vm.findClass C = some comp → s.vm.findClass C = some c0 → s.vm.assignable c0 comp = true := fun comp c0 h1 h2 => by
  cases h1.symm.trans h2
  cases h.1.symm.trans h1
  exact va_assign h
theorem asg_cast {s : State} {C E : String} (h : va_Nw (.castable C E) s) : ∀ comp c0 : ClassId, s.vm.findClass E = some comp → s.vm.findClass C = some c0 → s.vm.assignable c0 comp = true := fun comp c0 h1 h2 => by
  have h3 : (Cond.castable C E).before #[] s = true := h
  simpa [Cond.before, Cond.holds, Cond.value, h1, h2] using h3
/-- an object is laid into a row of E: of class E, or castable to it -/
theorem a_aastore {o : Om} {κ : Ka} {h : AH} {pc a n t v ci : Nat} {E : String} {f : Nat → Option Nat} {i : Int32} {q : vw_C} {vs : List Value} {lv : List (Nat × Value)} {st : List Value} {Q : Option Value → AH → Prop} (ht : t ≠ 9) (hty : ∀ o, (tyl o)[t]? = some (o.2.2.2.1 t, .object E)) (ha : h.2.2 a = some (.inl (t, n, .inr (.inr (.inr (.inr f)))))) (hv : h.2.2 v = some (.inr (ci, vs))) (hci : vwCl[ci]? = some q) (hE : q.1 = E ∨ (q.1, E) ∈ cstl) (hin : vp_in i n) (hd : decode κ.2.1 pc = .ok (.aastore, 1))
    (kk : AQ o κ (aput h a (.inl (t, n, .inr (.inr (.inr (.inr (va_up f i.toNatClampNeg (some v)))))))) (pc + 1) lv st Q) : AQ o κ h pc lv (.ref v :: .int i :: .ref a :: st) Q := by
  refine AQ.go (h1 := aput h a _) ⟨Nat.le_refl _, Nat.le_refl _⟩ (fun p e R s m args below meth c H locs cells slots Qw ls hC hR hS hl0 hc1 hc2 k2 => ?_) kk
  obtain ⟨h0, hat⟩ := hR.arr ht ha
  rw [ase_q] at hat
  have hK := hC.2.2.2.2.2.2.2.2.1.1
  have hr : va_Any E s H (aad o v) := va_rAny (q0 := 0) hK (va_P1 (hR.at hv).2) rfl hci (by
    rcases hE with e1 | hE
    · subst e1
      exact asg_self (hK.1 ci q hci).2
    · exact asg_cast (hC.2.2.2.2.2.2.2.2.1.2.1 _ hE))
  have hlt : i.toNatClampNeg < n := Nat.not_le.mp fun q => hin (Or.inr q)
  have hi0 : ¬ i < 0 := fun q => hin (Or.inl q)
  obtain ⟨cellV, g1, g3, ⟨kC, hkC⟩, hasg⟩ := hr
  obtain ⟨kA, comp, k1, k2', k3, -⟩ := (hK.2 t _ (hty o)).2
  obtain ⟨kE, hkE, -⟩ := Vm.findClass_spec k3
  have hat0 : H[aad o a]? = some (vp_cell (o.2.2.2.1 t) (n, .inr (.inr (.inr (.inr (fun i => (f i).map (aad o))))))) := hat
  refine W.aast hC.1 hC.2.1 hat0 (fun q h => by cases h) (fun h => by cases h) k1 k2' rfl hkE ⟨hi0, by show _ < (arrV _ _ _).slots.size; rw [arrV_size]; exact hlt⟩ g1 (fun q h => by rw [h] at g3; cases g3) hkC (hasg _ k3) rfl rfl hd fun H1 e z oq => ?_
  have hat2 : va_at o.2.2.2.2 vwCl (aad o a, ase o (.inl (t, n, .inr (.inr (.inr (.inr (va_up f i.toNatClampNeg (some v)))))))) H1 := by
    show H1[aad o a]? = some (vp_cell _ _)
    rw [e]
    rw [vp_cell_q, vp_cell_q, arrV_store]
    congr 2
    funext q
    by_cases hq : q = i.toNatClampNeg
    · subst hq
      simp [updV, va_up, va_rf]
    · simp [updV, va_up, hq]
  have := k2 H1 (locs ++ [⟨aad o a, i.toNatClampNeg⟩]) ls (hR.put h0 ha z oq hat2) (hS.put z oq (aad_zA h0)) hl0
  have e4 : (aput h a (.inl (t, n, .inr (.inr (.inr (.inr (va_up f i.toNatClampNeg (some v)))))))).1 - h.1 = 0 := Nat.sub_self _
  have e5 : (aput h a (.inl (t, n, .inr (.inr (.inr (.inr (va_up f i.toNatClampNeg (some v)))))))).2.1 - h.2.1 = 0 := Nat.sub_self _
  rw [e4, e5] at this
  exact this
