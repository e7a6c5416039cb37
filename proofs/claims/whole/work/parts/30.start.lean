/-! THE CLAIM OUT OF ONE WALK OF THE LAW'S BODY. Your part is whole_start (and what it stands on); all else here is the same for every law, but numbers. -/
def R_law : String := "MilestonesOnLaw"
def lw_P (b : Addr) (xs : List Int32) (args : Array Value) (s : State) : Prop := args = #[.ref b] ∧ s.IntsAt b xs ∧ xs.length ≤ 3072 ∧ (Jvm.Cond.and given_1 narrow_1).before args s = true
def lw_Q (_ : Array Value) (s : State) (o : Outcome) (t : State) : Prop := o = .returned (some (.int 1)) ∧ Framed s o t [] 600000 7302250
def lw_Z (below : List Frame) (a : Array Value) (s : State) : State → Prop := fun t => ∃ o, t.status = .running ∧ Ended t below o ∧ lw_Q a s o t
/-- the law's own end, with 1 on the stack, nothing written that was there before, its room as the claim has it -/
theorem lw_ret {p : Program} {l : Launch} {e : Env} {s : State} {m : MethodId} {below : List Frame} {meth : Method} {c : Code} {b : Nat} (hx : p.tables.exec = Jvm.exec) (hb : c.code = code) (hr : meth.sig.returnType = ret) (hlocks : meth.locks = false) {pc : Nat} {H : Heap} {ls : Array Slot} (hdg : decode code pc = .ok (.ireturn, 1)) : W p l e room_1 s m #[Value.ref b] below meth c H [] 600000 7302250 (lw_Z below #[Value.ref b] s) (F0 m pc ls [.int 1]) := by
  intro T hT X
  obtain ⟨fs, hret, hrun, hended, hW, hframe⟩ := X.leave (v := some (.int 1)) (hlocks := hlocks) (fun h => by rw [hr] at h; cases h)
  have hmeth' : T.vm.method? m = some meth := X.method'
  refine ⟨T.setFrames fs, ?_, .returned (some (.int 1)), hrun, hended, rfl, ⟨_, rfl⟩, hW, hframe⟩
  jvm_step X.here [X.here.top, hx, hb, hdg, hmeth', hr, ret, narrow_b1]
  (try refine ⟨rfl, ?_⟩); (try refine ⟨rfl, ?_⟩)
  first | (intro acts; rw [hret _ acts rfl rfl rfl]) | rw [hret _ _ rfl rfl rfl]
  exact Steps.refl _
/-- what holds at the law's entry: the machine, the code, the tables' words (any of lw_tbl by 'hts w (by decide +kernel)'), the script of L ints xs at the cell b, what the Statement gives of the start (any of its parts by flat_of_before) -/
def lw_At (p : Program) (s : State) (m : MethodId) (meth : Method) (c : Code) (b L : Nat) (xs : Nat → Int32) : Prop :=
  p.tables.exec = Jvm.exec ∧ c.code = code ∧ meth.sig.returnType = ret ∧ c.maxLocals = 4 ∧ s.vm.findClass R_law = some m.cls ∧ (∀ w ∈ lw_tbl, w.before #[Value.ref b] s = true) ∧ va_X b L xs s s.heap ∧ b < s.heap.size ∧ meth.locks = false ∧ (Jvm.Cond.and given_1 narrow_1).before #[Value.ref b] s = true
def h_0 (L : Nat) (xs : Nat → Int32) : AH := (1, 0, fun a => if a = 0 then some (.inl (9, L, .inl xs)) else none)
theorem GW_lw {ws : List Cond} (h : ∀ w ∈ ws, w ∈ GW) : ∀ w ∈ ws, w ∈ lw_tbl := fun w hw => (List.mem_filter.mp (h w hw)).1
set_option maxHeartbeats 4000000 in
set_option maxRecDepth 100000 in
theorem Vx_start {s : State} {b : Nat} (hts : ∀ w ∈ lw_tbl, w.before #[Value.ref b] s = true) (hgv : (Jvm.Cond.and given_1 narrow_1).before #[Value.ref b] s = true) (l : Launch) (z : Nat) : ∃ (tc : Nat → ClassId) (D : va_G), Vx (l, b, z, tc, D) s := by
  obtain ⟨c0, i0, hn0⟩ := u_known (C := RX0) (T := TX0) (N := 2) (n := 2) hts (GW_lw inG0) (hts (.instantiable RX0 2) (List.mem_append_right _ (List.mem_of_getElem? (i := 458) (by decide +kernel))))
  obtain ⟨c1, i1, hn1⟩ := u_known (C := RX1) (T := TX1) (N := 2) (n := 2) hts (GW_lw inG1) (hts (.instantiable RX1 2) (List.mem_append_right _ (List.mem_of_getElem? (i := 420) (by decide +kernel))))
  obtain ⟨c2, i2, hn2⟩ := u_known (C := RX2) (T := TX2) (N := 2) (n := 2) hts (GW_lw inG2) (hts (.instantiable RX2 2) (List.mem_append_right _ (List.mem_of_getElem? (i := 467) (by decide +kernel))))
  obtain ⟨c3, i3, hn3⟩ := u_known (C := RX3) (T := TX3) (N := 2) (n := 2) hts (GW_lw inG3) (hts (.instantiable RX3 2) (List.mem_append_right _ (List.mem_of_getElem? (i := 485) (by decide +kernel))))
  obtain ⟨c4, i4, hn4⟩ := u_known (C := RX4) (T := TX4) (N := 3) (n := 3) hts (GW_lw inG4) (hts (.instantiable RX4 3) (List.mem_append_right _ (List.mem_of_getElem? (i := 344) (by decide +kernel))))
  obtain ⟨c5, i5, hn5⟩ := u_known (C := RX5) (T := TX5) (N := 10) (n := 10) hts (GW_lw inG5) (hts (.instantiable RX5 10) (List.mem_append_right _ (List.mem_of_getElem? (i := 30) (by decide +kernel))))
  obtain ⟨c6, i6, hn6⟩ := u_known (C := RX6) (T := TX6) (N := 2) (n := 2) hts (GW_lw inG6) (hts (.instantiable RX6 2) (List.mem_append_right _ (List.mem_of_getElem? (i := 185) (by decide +kernel))))
  obtain ⟨c7, i7, hn7⟩ := u_known (C := RX7) (T := TX7) (N := 17) (n := 17) hts (GW_lw inG7) (hts (.instantiable RX7 17) (List.mem_append_right _ (List.mem_of_getElem? (i := 122) (by decide +kernel))))
  obtain ⟨c8, i8, hn8⟩ := u_known (C := RX8) (T := TX8) (N := 2) (n := 2) hts (GW_lw inG8) (hts (.instantiable RX8 2) (List.mem_append_right _ (List.mem_of_getElem? (i := 476) (by decide +kernel))))
  obtain ⟨c9, i9, hn9⟩ := u_known (C := RX9) (T := TX9) (N := 8) (n := 8) hts (GW_lw inG9) (hts (.instantiable RX9 8) (List.mem_append_right _ (List.mem_of_getElem? (i := 82) (by decide +kernel))))
  obtain ⟨c10, i10, hn10⟩ := u_known (C := RX10) (T := TX10) (N := 2) (n := 2) hts (GW_lw inG10) (hts (.instantiable RX10 2) (List.mem_append_right _ (List.mem_of_getElem? (i := 494) (by decide +kernel))))
  obtain ⟨c11, i11, hn11⟩ := u_known (C := RX11) (T := TX11) (N := 16) (n := 16) hts (GW_lw inG11) (hts (.instantiable RX11 16) (List.mem_append_right _ (List.mem_of_getElem? (i := 18) (by decide +kernel))))
  obtain ⟨c12, i12, hn12⟩ := u_known (C := RX12) (T := TX12) (N := 51) (n := 51) hts (GW_lw inG12) (hts (.instantiable RX12 51) (List.mem_append_right _ (List.mem_of_getElem? (i := 1019) (by decide +kernel))))
  obtain ⟨ai, ki, pi, fi, gi, ei⟩ := Cond.arrayClass_spec (hts (.arrayClass .int) (List.mem_append_right _ (List.mem_of_getElem? (i := 81) (by decide +kernel))))
  obtain ⟨az, kz, pz, fz, gz, ez⟩ := Cond.arrayClass_spec (hts (.arrayClass .boolean) (List.mem_append_right _ (List.mem_of_getElem? (i := 1179) (by decide +kernel))))
  have hovr := hts (.arrayOver (.object "MilestonesOn$Row")) (List.mem_append_right _ (List.mem_of_getElem? (i := 26) (by decide +kernel)))
  obtain ⟨pr, ar, kr, fr, -, gr, er, nr⟩ := Cond.arrayOver_spec hovr
  have hovt := hts (.arrayOver (.object "MilestonesOn$Trip")) (List.mem_append_right _ (List.mem_of_getElem? (i := 28) (by decide +kernel)))
  obtain ⟨pt, at_, kt, ft, -, gt, et, nt⟩ := Cond.arrayOver_spec hovt
  have hovw := hts (.arrayOver (.object "MilestonesOn$Walker")) (List.mem_append_right _ (List.mem_of_getElem? (i := 36) (by decide +kernel)))
  obtain ⟨pw, aw, kw, fw, -, gw, ew, nw⟩ := Cond.arrayOver_spec hovw
  refine ⟨fun t => ([ai, az, ar, at_, aw] : List ClassId).getD t 0, (fun k => ([c0, c1, c2, c3, c4, c5, c6, c7, c8, c9, c10, c11, c12] : List ClassId).getD k 0, fun k => ([i0, i1, i2, i3, i4, i5, i6, i7, i8, i9, i10, i11, i12] : List (Nat → Nat)).getD k (fun _ => 0)), ?_, ?_, ?_, ?_, ?_⟩
  · refine ⟨fun k q hq => ?_, fun k q hq => ?_⟩
    · match k, hq with
      | 0, hq => cases hq; exact hn0
      | 1, hq => cases hq; exact hn1
      | 2, hq => cases hq; exact hn2
      | 3, hq => cases hq; exact hn3
      | 4, hq => cases hq; exact hn4
      | 5, hq => cases hq; exact hn5
      | 6, hq => cases hq; exact hn6
      | 7, hq => cases hq; exact hn7
      | 8, hq => cases hq; exact hn8
      | 9, hq => cases hq; exact hn9
      | 10, hq => cases hq; exact hn10
      | 11, hq => cases hq; exact hn11
      | 12, hq => cases hq; exact hn12
      | n + 13, hq => exact absurd (List.getElem?_eq_some_iff.mp hq).1 (by show ¬ (n + 13 < 13); omega)
    · match k, hq with
      | 0, hq => cases hq; exact ⟨fun N z => ⟨(fun k h => by cases h), ki, gi, pi, ei⟩, fi⟩
      | 1, hq => cases hq; exact ⟨fun N z => ⟨(fun k h => by cases h), kz, gz, pz, ez⟩, fz⟩
      | 2, hq => cases hq; exact ⟨fun N z => ⟨(fun k h => by cases h), kr, gr, pr, er⟩, kr, pr, gr, er, fr, nr⟩
      | 3, hq => cases hq; exact ⟨fun N z => ⟨(fun k h => by cases h), kt, gt, pt, et⟩, kt, pt, gt, et, ft, nt⟩
      | 4, hq => cases hq; exact ⟨fun N z => ⟨(fun k h => by cases h), kw, gw, pw, ew⟩, kw, pw, gw, ew, fw, nw⟩
      | n + 5, hq => exact absurd (List.getElem?_eq_some_iff.mp hq).1 (by show ¬ (n + 5 < 5); omega)
  · intro q hq
    refine va_Nw.of rfl (A := #[Value.ref b]) (hts _ ?_)
    revert q hq
    decide +kernel
  · intro q hq
    have hs := flat_of_before _ hgv
    refine va_Nc.of (args := #[Value.ref b]) (hs _ ?_)
    revert q hq
    decide +kernel
  · intro q hq
    refine va_Nw.of rfl (A := #[Value.ref b]) (hts _ ?_)
    revert q hq
    decide +kernel
  · intro C hC
    refine va_AO.of (A := #[Value.ref b]) (hts _ ?_)
    revert C hC
    decide +kernel
set_option maxHeartbeats 4000000 in
set_option maxRecDepth 100000 in
theorem start_of (hlaw : ∀ (L : Nat) (xs : Nat → Int32), L ≤ 3072 → f_L_law (h_0 L xs) (fun x h => x = 1 ∧ h.1 ≤ 600001 ∧ h.2.1 ≤ 7302250)) {p : Program} {e : Env} {s : State} {m : MethodId} {below : List Frame} {meth : Method} {c : Code} (l : Launch) {b L : Nat} {xs : Nat → Int32} (hL : L ≤ 3072) (C0 : lw_At p s m meth c b L xs) : W p l e room_1 s m #[Value.ref b] below meth c s.heap [] 0 0 (lw_Z below #[Value.ref b] s) (entryFrame m ([Value.ref b] : List Value).toArray 4) := by
  obtain ⟨hx, hb, hr, hml, hown, hts, hX, hbl, hlocks, hgv⟩ := id C0
  obtain ⟨tc, D, hV⟩ := Vx_start hts hgv l s.heap.size
  obtain ⟨r, h', ⟨m1, m2, -, kw⟩, ⟨x0, rfl, hx1, hc1, hc2⟩⟩ := s_L_law (o := (l, b, s.heap.size, tc, D)) (hlaw L xs hL)
  subst hx1
  have hnm : s.vm.findClass kL_law.1.cls = some m.cls := hown
  have hl := lv_entry ([.ref b]) (n := 4) (Nat.le_of_ble_eq_true rfl)
  rw [lg_entry_eq]
  have hC : Cx (l, b, s.heap.size, tc, D) kL_law p room_1 s m #[Value.ref b] meth c := by
    refine ⟨hx, hb, hml, hnm, fun w hw _ => hts w hw, hlocks, fun hq => absurd hq (by decide), hr, hV, Nat.le_refl _, Nat.le_refl _, Nat.le_refl _⟩
  refine kw p e room_1 s m #[Value.ref b] below meth c s.heap [] 0 0 _ _ hC ⟨Nat.le_refl _, rfl, hbl, fun a x ha hx => ?_, fun x hx => ?_⟩ va_S.rf hl ?_ ?_ ?_
  · have e1 : (h_0 L xs).2.2 a = none := if_neg ha
    rw [e1] at hx
    cases hx
  · have e1 : (h_0 L xs).2.2 0 = some (.inl (9, L, .inl xs)) := rfl
    rw [e1] at hx
    cases hx
    exact ⟨L, xs, rfl, hX⟩
  · show 0 + (h'.1 - 1) ≤ 600000
    omega
  · show 0 + (h'.2.1 - 0) ≤ 7302250
    omega
  · intro H' locs' pc' ls' hR' hS' hd
    refine va_forget (fun q hq => hS'.2.2 q hq) ?_
    refine W.widen (k := 600000) (n := 7302250) (by show 0 + (h'.1 - 1) ≤ 600000; omega) (by show 0 + (h'.2.1 - 0) ≤ 7302250; omega) ?_
    exact lw_ret hx hb hr hlocks hd
