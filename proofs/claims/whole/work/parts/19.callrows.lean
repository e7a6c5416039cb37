theorem r_Si {o : Om} {κ κ' : Ka} {h : AH} {pc index n : Nat} {lv : List (Nat × Value)} {st rest av : List Value} {Q : Option Value → AH → Prop}  {F : Int32 → AH → Prop} (hst : st = av.reverse ++ rest) (hn : av.length = n) (hk : Kok κ' n) (hl : Cond.methodLink κ.1.cls index κ'.1 ∈ lw_tbl) (hs : Cond.static κ'.1 ∈ lw_tbl) (hf : κ'.2.2.2.2.1 + 1 ≤ κ.2.2.2.2.1 ∧ 8 + (κ'.2.2.1 + 11) + κ'.2.2.2.2.2 ≤ κ.2.2.2.2.2) (hc : (rest.map fun v => v.category).sum ≤ 8) (hd : decode κ.2.1 pc = .ok (.invokestatic index, 3)) (hM : MQ' o κ' av h (qI F)) (k : ∀ x h, F x h → AQ o κ h (pc + 3) lv (.int x :: rest) Q) : AQ o κ h pc lv st Q :=
  a_callS hst hn hk hl hs hf hc hd hM (fun r h2 q _ => by
    obtain ⟨x, rfl, hq⟩ := q
    exact k x h2 hq)
theorem r_Sv {o : Om} {κ κ' : Ka} {h : AH} {pc index n : Nat} {lv : List (Nat × Value)} {st rest av : List Value} {Q : Option Value → AH → Prop}  {F : AH → Prop} (hst : st = av.reverse ++ rest) (hn : av.length = n) (hk : Kok κ' n) (hl : Cond.methodLink κ.1.cls index κ'.1 ∈ lw_tbl) (hs : Cond.static κ'.1 ∈ lw_tbl) (hf : κ'.2.2.2.2.1 + 1 ≤ κ.2.2.2.2.1 ∧ 8 + (κ'.2.2.1 + 11) + κ'.2.2.2.2.2 ≤ κ.2.2.2.2.2) (hc : (rest.map fun v => v.category).sum ≤ 8) (hd : decode κ.2.1 pc = .ok (.invokestatic index, 3)) (hM : MQ' o κ' av h (qV F)) (k : ∀ h, F h → AQ o κ h (pc + 3) lv rest Q) : AQ o κ h pc lv st Q :=
  a_callS hst hn hk hl hs hf hc hd hM (fun r h2 q _ => by
    obtain ⟨rfl, hq⟩ := q
    exact k h2 hq)
theorem r_Sl {o : Om} {κ κ' : Ka} {h : AH} {pc index n : Nat} {lv : List (Nat × Value)} {st rest av : List Value} {Q : Option Value → AH → Prop}  {F : Int64 → AH → Prop} (hst : st = av.reverse ++ rest) (hn : av.length = n) (hk : Kok κ' n) (hl : Cond.methodLink κ.1.cls index κ'.1 ∈ lw_tbl) (hs : Cond.static κ'.1 ∈ lw_tbl) (hf : κ'.2.2.2.2.1 + 1 ≤ κ.2.2.2.2.1 ∧ 8 + (κ'.2.2.1 + 11) + κ'.2.2.2.2.2 ≤ κ.2.2.2.2.2) (hc : (rest.map fun v => v.category).sum ≤ 8) (hd : decode κ.2.1 pc = .ok (.invokestatic index, 3)) (hM : MQ' o κ' av h (qL F)) (k : ∀ x h, F x h → AQ o κ h (pc + 3) lv (.long x :: rest) Q) : AQ o κ h pc lv st Q :=
  a_callS hst hn hk hl hs hf hc hd hM (fun r h2 q _ => by
    obtain ⟨x, rfl, hq⟩ := q
    exact k x h2 hq)
theorem r_So {o : Om} {κ κ' : Ka} {h : AH} {pc index n : Nat} {lv : List (Nat × Value)} {st rest av : List Value} {Q : Option Value → AH → Prop}  {F : Option Nat → AH → Prop} (hst : st = av.reverse ++ rest) (hn : av.length = n) (hk : Kok κ' n) (hl : Cond.methodLink κ.1.cls index κ'.1 ∈ lw_tbl) (hs : Cond.static κ'.1 ∈ lw_tbl) (hf : κ'.2.2.2.2.1 + 1 ≤ κ.2.2.2.2.1 ∧ 8 + (κ'.2.2.1 + 11) + κ'.2.2.2.2.2 ≤ κ.2.2.2.2.2) (hc : (rest.map fun v => v.category).sum ≤ 8) (hd : decode κ.2.1 pc = .ok (.invokestatic index, 3)) (hM : MQ' o κ' av h (qO F)) (k : ∀ x h, F x h → AQ o κ h (pc + 3) lv (va_rf x :: rest) Q) : AQ o κ h pc lv st Q :=
  a_callS hst hn hk hl hs hf hc hd hM (fun r h2 q _ => by
    obtain ⟨x, rfl, hq⟩ := q
    exact k x h2 hq)
theorem r_Supi {o : Om} {κ κ' : Ka} {h : AH} {pc index n : Nat} {lv : List (Nat × Value)} {st rest av : List Value} {Q : Option Value → AH → Prop} {x : MethodName} {F : Int32 → AH → Prop} (hst : st = av.reverse ++ rest) (hn : av.length = n) (hk : Kok κ' n) (hx : κ'.1 = ⟨κ'.1.cls, x.name, x.desc⟩) (hl : Cond.methodLink κ.1.cls index x ∈ lw_tbl) (hsm : Cond.sameMethod x.cls κ'.1.cls x.name x.desc ∈ lw_tbl) (hs : Cond.static κ'.1 ∈ lw_tbl) (hf : κ'.2.2.2.2.1 + 1 ≤ κ.2.2.2.2.1 ∧ 8 + (κ'.2.2.1 + 11) + κ'.2.2.2.2.2 ≤ κ.2.2.2.2.2) (hc : (rest.map fun v => v.category).sum ≤ 8) (hd : decode κ.2.1 pc = .ok (.invokestatic index, 3)) (hM : MQ' o κ' av h (qI F)) (k : ∀ x h, F x h → AQ o κ h (pc + 3) lv (.int x :: rest) Q) : AQ o κ h pc lv st Q :=
  a_callSup hst hn hk hx hl hsm hs hf hc hd hM (fun r h2 q _ => by
    obtain ⟨x, rfl, hq⟩ := q
    exact k x h2 hq)
theorem r_Vi {o : Om} {κ κ' : Ka} {h : AH} {pc index n : Nat} {lv : List (Nat × Value)} {st rest av : List Value} {Q : Option Value → AH → Prop} {a ci : Nat} {q : vw_C} {F : Int32 → AH → Prop} (hst : st = av.reverse ++ .ref a :: rest) (hn : av.length = n) (hk : Kok κ' n) (ha : isO h a ci) (hci : vwCl[ci]? = some q) (hq1 : q.1 = κ'.1.cls) (hl : Cond.methodLink κ.1.cls index κ'.1 ∈ lw_tbl) (hi : Cond.instanceMethod κ'.1 ∈ lw_tbl) (hs : Cond.selects κ'.1.cls κ'.1 κ'.1 ∈ lw_tbl) (hf : κ'.2.2.2.2.1 + 1 ≤ κ.2.2.2.2.1 ∧ 8 + (κ'.2.2.1 + 11) + κ'.2.2.2.2.2 ≤ κ.2.2.2.2.2) (hc : (rest.map fun v => v.category).sum ≤ 8) (hd : decode κ.2.1 pc = .ok (.invokevirtual index, 3)) (hM : MQ' o κ' (.ref a :: av) h (qI F)) (k : ∀ x h, F x h → AQ o κ h (pc + 3) lv (.int x :: rest) Q) : AQ o κ h pc lv st Q :=
  ha.elim fun fs ha => a_callV hst hn ha hci hq1 hk hl hi hs hf hc hd hM (fun r h2 q _ => by
    obtain ⟨x, rfl, hq⟩ := q
    exact k x h2 hq)
theorem r_Vl {o : Om} {κ κ' : Ka} {h : AH} {pc index n : Nat} {lv : List (Nat × Value)} {st rest av : List Value} {Q : Option Value → AH → Prop} {a ci : Nat} {q : vw_C} {F : Int64 → AH → Prop} (hst : st = av.reverse ++ .ref a :: rest) (hn : av.length = n) (hk : Kok κ' n) (ha : isO h a ci) (hci : vwCl[ci]? = some q) (hq1 : q.1 = κ'.1.cls) (hl : Cond.methodLink κ.1.cls index κ'.1 ∈ lw_tbl) (hi : Cond.instanceMethod κ'.1 ∈ lw_tbl) (hs : Cond.selects κ'.1.cls κ'.1 κ'.1 ∈ lw_tbl) (hf : κ'.2.2.2.2.1 + 1 ≤ κ.2.2.2.2.1 ∧ 8 + (κ'.2.2.1 + 11) + κ'.2.2.2.2.2 ≤ κ.2.2.2.2.2) (hc : (rest.map fun v => v.category).sum ≤ 8) (hd : decode κ.2.1 pc = .ok (.invokevirtual index, 3)) (hM : MQ' o κ' (.ref a :: av) h (qL F)) (k : ∀ x h, F x h → AQ o κ h (pc + 3) lv (.long x :: rest) Q) : AQ o κ h pc lv st Q :=
  ha.elim fun fs ha => a_callV hst hn ha hci hq1 hk hl hi hs hf hc hd hM (fun r h2 q _ => by
    obtain ⟨x, rfl, hq⟩ := q
    exact k x h2 hq)
theorem r_Vo {o : Om} {κ κ' : Ka} {h : AH} {pc index n : Nat} {lv : List (Nat × Value)} {st rest av : List Value} {Q : Option Value → AH → Prop} {a ci : Nat} {q : vw_C} {F : Option Nat → AH → Prop} (hst : st = av.reverse ++ .ref a :: rest) (hn : av.length = n) (hk : Kok κ' n) (ha : isO h a ci) (hci : vwCl[ci]? = some q) (hq1 : q.1 = κ'.1.cls) (hl : Cond.methodLink κ.1.cls index κ'.1 ∈ lw_tbl) (hi : Cond.instanceMethod κ'.1 ∈ lw_tbl) (hs : Cond.selects κ'.1.cls κ'.1 κ'.1 ∈ lw_tbl) (hf : κ'.2.2.2.2.1 + 1 ≤ κ.2.2.2.2.1 ∧ 8 + (κ'.2.2.1 + 11) + κ'.2.2.2.2.2 ≤ κ.2.2.2.2.2) (hc : (rest.map fun v => v.category).sum ≤ 8) (hd : decode κ.2.1 pc = .ok (.invokevirtual index, 3)) (hM : MQ' o κ' (.ref a :: av) h (qO F)) (k : ∀ x h, F x h → AQ o κ h (pc + 3) lv (va_rf x :: rest) Q) : AQ o κ h pc lv st Q :=
  ha.elim fun fs ha => a_callV hst hn ha hci hq1 hk hl hi hs hf hc hd hM (fun r h2 q _ => by
    obtain ⟨x, rfl, hq⟩ := q
    exact k x h2 hq)
theorem r_Vv {o : Om} {κ κ' : Ka} {h : AH} {pc index n : Nat} {lv : List (Nat × Value)} {st rest av : List Value} {Q : Option Value → AH → Prop} {a ci : Nat} {q : vw_C} {F : AH → Prop} (hst : st = av.reverse ++ .ref a :: rest) (hn : av.length = n) (hk : Kok κ' n) (ha : isO h a ci) (hci : vwCl[ci]? = some q) (hq1 : q.1 = κ'.1.cls) (hl : Cond.methodLink κ.1.cls index κ'.1 ∈ lw_tbl) (hi : Cond.instanceMethod κ'.1 ∈ lw_tbl) (hs : Cond.selects κ'.1.cls κ'.1 κ'.1 ∈ lw_tbl) (hf : κ'.2.2.2.2.1 + 1 ≤ κ.2.2.2.2.1 ∧ 8 + (κ'.2.2.1 + 11) + κ'.2.2.2.2.2 ≤ κ.2.2.2.2.2) (hc : (rest.map fun v => v.category).sum ≤ 8) (hd : decode κ.2.1 pc = .ok (.invokevirtual index, 3)) (hM : MQ' o κ' (.ref a :: av) h (qV F)) (k : ∀ h, F h → AQ o κ h (pc + 3) lv rest Q) : AQ o κ h pc lv st Q :=
  ha.elim fun fs ha => a_callV hst hn ha hci hq1 hk hl hi hs hf hc hd hM (fun r h2 q _ => by
    obtain ⟨rfl, hq⟩ := q
    exact k h2 hq)
theorem r_Iv {o : Om} {κ κ' : Ka} {h : AH} {pc index n : Nat} {lv : List (Nat × Value)} {st rest av : List Value} {Q : Option Value → AH → Prop} {a : Nat} {F : AH → Prop} (hst : st = av.reverse ++ .ref a :: rest) (hn : av.length = n) (hk : Kok κ' n) (hl : Cond.methodLink κ.1.cls index κ'.1 ∈ lw_tbl) (hi : Cond.instanceMethod κ'.1 ∈ lw_tbl) (hnm : κ'.1.name = "<init>") (hrt : κ'.2.2.2.1 = none) (hf : κ'.2.2.2.2.1 + 1 ≤ κ.2.2.2.2.1 ∧ 8 + (κ'.2.2.1 + 11) + κ'.2.2.2.2.2 ≤ κ.2.2.2.2.2) (hc : (rest.map fun v => v.category).sum ≤ 8) (hd : decode κ.2.1 pc = .ok (.invokespecial index, 3)) (hM : MQ' o κ' (.ref a :: av) h (qV F)) (k : ∀ h, F h → AQ o κ h (pc + 3) lv rest Q) : AQ o κ h pc lv st Q :=
  a_callI hst hn hk hl hi hnm hrt hf hc hd hM (fun r h2 q _ => by
    obtain ⟨rfl, hq⟩ := q
    exact k h2 hq)
theorem r_INv {o : Om} {κ κ' : Ka} {h : AH} {pc index n : Nat} {lv : List (Nat × Value)} {st rest av : List Value} {Q : Option Value → AH → Prop} {a : Nat} {host : String} {F : AH → Prop} (hst : st = av.reverse ++ .ref a :: rest) (hn : av.length = n) (hk : Kok κ' n) (hl : (κ.1.cls, index, κ'.1, host) ∈ nstl) (hi : Cond.instanceMethod κ'.1 ∈ lw_tbl) (hnm : κ'.1.name = "<init>") (hrt : κ'.2.2.2.1 = none) (hf : κ'.2.2.2.2.1 + 1 ≤ κ.2.2.2.2.1 ∧ 8 + (κ'.2.2.1 + 11) + κ'.2.2.2.2.2 ≤ κ.2.2.2.2.2) (hc : (rest.map fun v => v.category).sum ≤ 8) (hd : decode κ.2.1 pc = .ok (.invokespecial index, 3)) (hM : MQ' o κ' (.ref a :: av) h (qV F)) (k : ∀ h, F h → AQ o κ h (pc + 3) lv rest Q) : AQ o κ h pc lv st Q :=
  a_callIN hst hn hk hl hi hnm hrt hf hc hd hM (fun r h2 q _ => by
    obtain ⟨rfl, hq⟩ := q
    exact k h2 hq)
theorem r_Ui {o : Om} {κ κ' : Ka} {h : AH} {pc index n : Nat} {lv : List (Nat × Value)} {st rest av : List Value} {Q : Option Value → AH → Prop} {a ci : Nat} {fs : List Value} {q : vw_C} {x : MethodName} {owner : String} {b0 : ByteArray} {m0 : Nat} {r0 : Option FieldType} {F : Int32 → AH → Prop} (hst : st = av.reverse ++ .ref a :: rest) (hn : av.length = n) (hk : Kok κ' n) (ha : h.2.2 a = some (.inr (ci, fs))) (hci : vwCl[ci]? = some q) (hx : x.desc = κ'.1.desc) (hl : Cond.methodLink κ.1.cls index x ∈ lw_tbl) (hsm : Cond.sameMethod x.cls owner x.name x.desc ∈ lw_tbl) (ho : owner ≠ "java/lang/invoke/MethodHandle" ∧ owner ≠ "java/lang/invoke/VarHandle") (hio : Cond.instanceMethod ⟨owner, x.name, x.desc⟩ ∈ lw_tbl) (hco : Cond.code ⟨owner, x.name, x.desc⟩ b0 m0 r0 ∈ lw_tbl) (hi : Cond.instanceMethod κ'.1 ∈ lw_tbl) (hs : Cond.selects q.1 x κ'.1 ∈ lw_tbl) (hf : κ'.2.2.2.2.1 + 1 ≤ κ.2.2.2.2.1 ∧ 8 + (κ'.2.2.1 + 11) + κ'.2.2.2.2.2 ≤ κ.2.2.2.2.2) (hc : (rest.map fun v => v.category).sum ≤ 8) (hd : decode κ.2.1 pc = .ok (.invokevirtual index, 3)) (hM : MQ' o κ' (.ref a :: av) h (qI F)) (k : ∀ x h, F x h → AQ o κ h (pc + 3) lv (.int x :: rest) Q) : AQ o κ h pc lv st Q :=
  a_callU hst hn ha hci hk hx hl hsm ho hio hco hi hs hf hc hd hM (fun r h2 q _ => by
    obtain ⟨x, rfl, hq⟩ := q
    exact k x h2 hq)
theorem r_Uv {o : Om} {κ κ' : Ka} {h : AH} {pc index n : Nat} {lv : List (Nat × Value)} {st rest av : List Value} {Q : Option Value → AH → Prop} {a ci : Nat} {fs : List Value} {q : vw_C} {x : MethodName} {owner : String} {b0 : ByteArray} {m0 : Nat} {r0 : Option FieldType} {F : AH → Prop} (hst : st = av.reverse ++ .ref a :: rest) (hn : av.length = n) (hk : Kok κ' n) (ha : h.2.2 a = some (.inr (ci, fs))) (hci : vwCl[ci]? = some q) (hx : x.desc = κ'.1.desc) (hl : Cond.methodLink κ.1.cls index x ∈ lw_tbl) (hsm : Cond.sameMethod x.cls owner x.name x.desc ∈ lw_tbl) (ho : owner ≠ "java/lang/invoke/MethodHandle" ∧ owner ≠ "java/lang/invoke/VarHandle") (hio : Cond.instanceMethod ⟨owner, x.name, x.desc⟩ ∈ lw_tbl) (hco : Cond.code ⟨owner, x.name, x.desc⟩ b0 m0 r0 ∈ lw_tbl) (hi : Cond.instanceMethod κ'.1 ∈ lw_tbl) (hs : Cond.selects q.1 x κ'.1 ∈ lw_tbl) (hf : κ'.2.2.2.2.1 + 1 ≤ κ.2.2.2.2.1 ∧ 8 + (κ'.2.2.1 + 11) + κ'.2.2.2.2.2 ≤ κ.2.2.2.2.2) (hc : (rest.map fun v => v.category).sum ≤ 8) (hd : decode κ.2.1 pc = .ok (.invokevirtual index, 3)) (hM : MQ' o κ' (.ref a :: av) h (qV F)) (k : ∀ h, F h → AQ o κ h (pc + 3) lv rest Q) : AQ o κ h pc lv st Q :=
  a_callU hst hn ha hci hk hx hl hsm ho hio hco hi hs hf hc hd hM (fun r h2 q _ => by
    obtain ⟨rfl, hq⟩ := q
    exact k h2 hq)
theorem r_SUi {o : Om} {κ κ' : Ka} {h : AH} {pc index n : Nat} {lv : List (Nat × Value)} {st rest av : List Value} {Q : Option Value → AH → Prop} {a ci : Nat} {fs : List Value} {q : vw_C} {F : Int32 → AH → Prop} (hst : st = av.reverse ++ .ref a :: rest) (hn : av.length = n) (hk : Kok κ' n) (ha : h.2.2 a = some (.inr (ci, fs))) (hci : vwCl[ci]? = some q) (hl : Cond.methodLink κ.1.cls index κ'.1 ∈ lw_tbl) (hsm : Cond.sameMethod κ'.1.cls κ'.1.cls κ'.1.name κ'.1.desc ∈ lw_tbl) (hsu : Cond.superclass κ.1.cls κ'.1.cls ∈ lw_tbl) (hi : Cond.instanceMethod κ'.1 ∈ lw_tbl) (hno : κ'.1.name ≠ "<init>") (hf : κ'.2.2.2.2.1 + 1 ≤ κ.2.2.2.2.1 ∧ 8 + (κ'.2.2.1 + 11) + κ'.2.2.2.2.2 ≤ κ.2.2.2.2.2) (hc : (rest.map fun v => v.category).sum ≤ 8) (hd : decode κ.2.1 pc = .ok (.invokespecial index, 3)) (hM : MQ' o κ' (.ref a :: av) h (qI F)) (k : ∀ x h, F x h → AQ o κ h (pc + 3) lv (.int x :: rest) Q) : AQ o κ h pc lv st Q :=
  a_callSU hst hn ha hci hk hl hsm hsu hi hno hf hc hd hM (fun r h2 q _ => by
    obtain ⟨x, rfl, hq⟩ := q
    exact k x h2 hq)
section QQ
variable {o : Om} {κ : Ka} {h : AH} {pc : Nat} {lv : List (Nat × Value)} {st : List Value} {Q : Option Value → AH → Prop}
theorem a_aloadQ_n {n : Fin 4} {i : Nat} {q : Option Nat} (j : Nat) (hj : lv[j]? = some (i, va_rf q)) (hi : (n : Nat) = i) (hd : decode κ.2.1 pc = .ok (.aload_n n, 1)) (k : AQ o κ h (pc + 1) lv (va_rf q :: st) Q) : AQ o κ h pc lv st Q := by
  cases q with
  | none => exact a_aload_nN j hj hi hd k
  | some a => exact a_aload_n j hj hi hd k
theorem a_aloadQ {i : Nat} {q : Option Nat} (j : Nat) (hj : lv[j]? = some (i, va_rf q)) (hd : decode κ.2.1 pc = .ok (.aload i, 2)) (k : AQ o κ h (pc + 2) lv (va_rf q :: st) Q) : AQ o κ h pc lv st Q := by
  cases q with
  | none => exact a_aloadN j hj hd k
  | some a => exact a_aload j hj hd k
theorem a_astoreQ_n {lv1 : List (Nat × Value)} {n : Fin 4} {i : Nat} {q : Option Nat} (hi : (n : Nat) = i) (ks : List Nat) (hn : i < κ.2.2.1) (hp : lv_pick (lst1 lv i (va_rf q)) ks = lv1) (hd : decode κ.2.1 pc = .ok (.astore_n n, 1)) (k : AQ o κ h (pc + 1) lv1 st Q) : AQ o κ h pc lv (va_rf q :: st) Q := by
  cases q with
  | none => exact a_astore_nN hi ks hn hp hd k
  | some a => exact a_astore_n hi ks hn hp hd k
theorem a_astoreQ {lv1 : List (Nat × Value)} {i : Nat} {q : Option Nat} (ks : List Nat) (hn : i < κ.2.2.1) (hp : lv_pick (lst1 lv i (va_rf q)) ks = lv1) (hd : decode κ.2.1 pc = .ok (.astore i, 2)) (k : AQ o κ h (pc + 2) lv1 st Q) : AQ o κ h pc lv (va_rf q :: st) Q := by
  cases q with
  | none => exact a_astoreN ks hn hp hd k
  | some a => exact a_astore ks hn hp hd k
end QQ
