/-! what the constructors make -/
/-- an object at b being made, the cells made behind it -/
def OB (h0 : AH) (b ci : Nat) (fs : List Value) (cs : List va_E) (s : Nat) (h : AH) : Prop := h.1 = b + 1 + cs.length ∧ h.2.1 = h0.2.1 + s ∧ (∀ x, x < b → h.2.2 x = h0.2.2 x) ∧ h.2.2 b = some (.inr (ci, fs)) ∧ ∀ i e, cs[i]? = some e → h.2.2 (b + 1 + i) = some e
section OB
variable {h0 h : AH} {b ci s : Nat} {fs : List Value} {cs : List va_E}
theorem OB.new {k : Nat} {e : va_E} (Z : OB h0 b ci fs cs s h) : OB h0 b ci fs (cs ++ [e]) (s + k) (anew h k e) := by
  obtain ⟨z1, z2, z3, z4, z5⟩ := Z
  have ll : (cs ++ [e]).length = cs.length + 1 := by rw [List.length_append]; rfl
  refine ⟨by show h.1 + 1 = _; omega, by show h.2.1 + k = _; omega, fun x hx => (anew_n _ _ _ (by omega)).trans (z3 x hx), (anew_n _ _ _ (by omega)).trans z4, fun i e' hi => ?_⟩
  by_cases hl : i < cs.length
  · rw [List.getElem?_append_left hl] at hi
    exact (anew_n _ _ _ (by omega)).trans (z5 i e' hi)
  · have hb := (List.getElem?_eq_some_iff.mp hi).1
    have ei : i = cs.length := by omega
    subst ei
    rw [List.getElem?_append_right (Nat.le_refl _), Nat.sub_self] at hi
    have ee : e = e' := Option.some.inj hi
    rw [← ee, show b + 1 + cs.length = h.1 from z1.symm]
    exact anew_s _ _ _
theorem OB.put {fs2 : List Value} (Z : OB h0 b ci fs cs s h) : OB h0 b ci fs2 cs s (aput h b (.inr (ci, fs2))) := by
  obtain ⟨z1, z2, z3, z4, z5⟩ := Z
  exact ⟨z1, z2, fun x hx => (aput_n _ _ (by omega)).trans (z3 x hx), aput_s _ _ _, fun i e hi => (aput_n _ _ (by omega)).trans (z5 i e hi)⟩
theorem OB.set {i : Nat} {e : va_E} (Z : OB h0 b ci fs cs s h) : OB h0 b ci fs (cs.set i e) s (aput h (b + 1 + i) e) := by
  obtain ⟨z1, z2, z3, z4, z5⟩ := Z
  refine ⟨by rw [List.length_set]; exact z1, z2, fun x hx => (aput_n _ _ (by omega)).trans (z3 x hx), (aput_n _ _ (by omega)).trans z4, fun j e' hj => ?_⟩
  by_cases ej : j = i
  · subst ej
    have hb := (List.getElem?_eq_some_iff.mp hj).1
    rw [List.length_set] at hb
    rw [List.getElem?_set_self hb] at hj
    have ee : e = e' := Option.some.inj hj
    rw [← ee]
    exact aput_s _ _ _
  · rw [List.getElem?_set_ne (Ne.symm ej)] at hj
    exact (aput_n _ _ (by omega)).trans (z5 j e' hj)
theorem ob_nA {t k : Nat} {K : Nat → AH → Prop} (Z : OB h0 b ci fs cs s h) (hk : k ≤ 100000) (H : ∀ h1, OB h0 b ci fs (cs ++ [.inl (t, k, .inl (fun _ => 0))]) (s + k) h1 → K (b + 1 + cs.length) h1) : nA h t (nI k) K := by
  refine nA_of hk ?_
  rw [Z.1]
  exact H _ Z.new
theorem ob_nQ {t k : Nat} {K : Nat → AH → Prop} (Z : OB h0 b ci fs cs s h) (hk : k ≤ 100000) (H : ∀ h1, OB h0 b ci fs (cs ++ [.inl (t, k, .inr (.inr (.inr (.inr (fun _ => none)))))]) (s + k) h1 → K (b + 1 + cs.length) h1) : nQ h t (nI k) K := by
  unfold nQ
  rw [nI_clamp (by omega), Z.1]
  exact ⟨nI_n0 (by omega), hk, H _ Z.new⟩
theorem ob_nO {c N : Nat} {f : List Value} {K : Nat → AH → Prop} (Z : OB h0 b ci fs cs s h) (H : ∀ h1, OB h0 b ci fs (cs ++ [.inr (c, f)]) (s + N) h1 → K (b + 1 + cs.length) h1) : nO h c N f K := by
  unfold nO
  rw [Z.1]
  exact H _ Z.new
theorem ob_pF {k : Nat} {v : Value} {K : AH → Prop} (Z : OB h0 b ci fs cs s h) (hk : k < fs.length) (H : ∀ h1, OB h0 b ci (fs.set k v) cs s h1 → K h1) : pF h b ci k v K := pF_of Z.2.2.2.1 hk rfl (H _ Z.put)
theorem ob_pC {a i c k : Nat} {f : List Value} {v : Value} {K : AH → Prop} (Z : OB h0 b ci fs cs s h) (ha : a = b + 1 + i) (hi : cs[i]? = some (.inr (c, f))) (hk : k < f.length) (H : ∀ h1, OB h0 b ci fs (cs.set i (.inr (c, f.set k v))) s h1 → K h1) : pF h a c k v K := by
  subst ha
  exact pF_of (Z.2.2.2.2 i _ hi) hk rfl (H _ Z.set)
theorem ob_gR {k x : Nat} {K : Nat → Prop} (Z : OB h0 b ci fs cs s h) (hf : fs[k]? = some (.ref x)) (H : K x) : gR h b ci k K := gR_of Z.2.2.2.1 hf H
end OB
section MADE
variable {L0 : Nat} {xs0 : Nat → Int32}
/-- behind the straight part of the class's constructor -/
def MD1 (L0 : Nat) (xs0 : Nat → Int32) (h : AH) : Prop := h.1 = 22 ∧ h.2.1 = 335 ∧ h.2.2 0 = some (.inl (9, L0, .inl xs0)) ∧ h.2.2 1 = some (mob 8 0 0 0 0 0 1 0) ∧ h.2.2 2 = some (.inl (2, 6, .inr (.inr (.inr (.inr (fun _ => none)))))) ∧ h.2.2 3 = some (.inl (2, 4, .inr (.inr (.inr (.inr (fun _ => none)))))) ∧ h.2.2 4 = some (.inl (3, 60, .inr (.inr (.inr (.inr (fun _ => none)))))) ∧ h.2.2 5 = some (.inl (0, 3, .inl (fun _ => 0))) ∧ h.2.2 6 = some (.inl (0, 3, .inl (fun _ => 0))) ∧ h.2.2 7 = some (.inl (0, 6, .inl (fun _ => 0))) ∧ h.2.2 8 = some (rob 8 0 0 0 0 0 0) ∧ h.2.2 9 = some (.inl (0, 5, .inl (fun _ => 0))) ∧ h.2.2 10 = some (.inl (0, 5, .inl (fun _ => 0))) ∧ h.2.2 11 = some (.inl (0, 40, .inl (fun _ => 0))) ∧ h.2.2 12 = some (.inl (4, 5, .inr (.inr (.inr (.inr (fun _ => none)))))) ∧ h.2.2 13 = some (trip 8 0 0 0 0 0 0 0) ∧ h.2.2 14 = some (sob 8 0 0 0 18 19 20 0 0 0 0 0 0) ∧ h.2.2 15 = some (.inl (0, 4, .inl (fun _ => 0))) ∧ h.2.2 16 = some (.inl (0, 125, .inl (fun _ => 0))) ∧ h.2.2 17 = some (.inl (0, 10, .inl (fun _ => 0))) ∧ h.2.2 18 = some (.inl (0, 0, .inl (fun _ => 0))) ∧ h.2.2 19 = some (.inl (0, 0, .inl (fun _ => 0))) ∧ h.2.2 20 = some (.inl (0, 0, .inl (fun _ => 0))) ∧ h.2.2 21 = some (trip 8 0 0 0 0 0 0 0)
set_option maxRecDepth 100000 in
set_option maxHeartbeats 4000000 in
theorem made1 {Q : AH → Prop} (H : ∀ h, MD1 L0 xs0 h → ∃ n, L_X11_init_130 Q 1 n (0 : Int32) h) : f_X11_init 1 (anew (h_0 L0 xs0) 16 (.inr (11, dfX11))) Q := by
  have Z0 : OB (h_0 L0 xs0) 1 11 dfX11 [] 16 (anew (h_0 L0 xs0) 16 (.inr (11, dfX11))) := ⟨rfl, rfl, fun x hx => anew_n _ _ _ (Nat.ne_of_lt hx), anew_s _ _ _, fun i e hi => by cases hi⟩
  unfold f_X11_init
  refine ob_nQ (t := 2) (k := 6) Z0 (Nat.le_of_ble_eq_true rfl) (fun h1 Z1 => ?_)
  refine ob_pF (k := 0) Z1 (Nat.le_of_ble_eq_true rfl) (fun h2 Z2 => ?_)
  refine ob_nQ (t := 2) (k := 4) Z2 (Nat.le_of_ble_eq_true rfl) (fun h3 Z3 => ?_)
  refine ob_pF (k := 1) Z3 (Nat.le_of_ble_eq_true rfl) (fun h4 Z4 => ?_)
  refine ob_nQ (t := 3) (k := 60) Z4 (Nat.le_of_ble_eq_true rfl) (fun h5 Z5 => ?_)
  refine ob_pF (k := 2) Z5 (Nat.le_of_ble_eq_true rfl) (fun h6 Z6 => ?_)
  refine ob_nA (t := 0) (k := 3) Z6 (Nat.le_of_ble_eq_true rfl) (fun h7 Z7 => ?_)
  refine ob_pF (k := 3) Z7 (Nat.le_of_ble_eq_true rfl) (fun h8 Z8 => ?_)
  refine ob_nA (t := 0) (k := 3) Z8 (Nat.le_of_ble_eq_true rfl) (fun h9 Z9 => ?_)
  refine ob_pF (k := 4) Z9 (Nat.le_of_ble_eq_true rfl) (fun h10 Z10 => ?_)
  refine ob_nA (t := 0) (k := 6) Z10 (Nat.le_of_ble_eq_true rfl) (fun h11 Z11 => ?_)
  refine ob_pF (k := 5) Z11 (Nat.le_of_ble_eq_true rfl) (fun h12 Z12 => ?_)
  refine ob_pF (k := 9) Z12 (Nat.le_of_ble_eq_true rfl) (fun h13 Z13 => ?_)
  refine ob_pF (k := 10) Z13 (Nat.le_of_ble_eq_true rfl) (fun h14 Z14 => ?_)
  refine ob_pF (k := 11) Z14 (Nat.le_of_ble_eq_true rfl) (fun h15 Z15 => ?_)
  refine ob_pF (k := 12) Z15 (Nat.le_of_ble_eq_true rfl) (fun h16 Z16 => ?_)
  refine ob_pF (k := 13) Z16 (Nat.le_of_ble_eq_true rfl) (fun h17 Z17 => ?_)
  refine ob_pF (k := 14) Z17 (Nat.le_of_ble_eq_true rfl) (fun h18 Z18 => ?_)
  refine ob_pF (k := 15) Z18 (Nat.le_of_ble_eq_true rfl) (fun h19 Z19 => ?_)
  refine ob_nO Z19 (fun h20 Z20 => ?_)
  unfold f_X5_init
  refine ob_nA (t := 0) (k := 5) Z20 (Nat.le_of_ble_eq_true rfl) (fun h21 Z21 => ?_)
  refine ob_pC (i := 6) (k := 0) Z21 rfl rfl (Nat.le_of_ble_eq_true rfl) (fun h22 Z22 => ?_)
  refine ob_nA (t := 0) (k := 5) Z22 (Nat.le_of_ble_eq_true rfl) (fun h23 Z23 => ?_)
  refine ob_pC (i := 6) (k := 1) Z23 rfl rfl (Nat.le_of_ble_eq_true rfl) (fun h24 Z24 => ?_)
  refine ob_nA (t := 0) (k := 40) Z24 (Nat.le_of_ble_eq_true rfl) (fun h25 Z25 => ?_)
  refine ob_pC (i := 6) (k := 2) Z25 rfl rfl (Nat.le_of_ble_eq_true rfl) (fun h26 Z26 => ?_)
  refine ob_nQ (t := 4) (k := 5) Z26 (Nat.le_of_ble_eq_true rfl) (fun h27 Z27 => ?_)
  refine ob_pC (i := 6) (k := 3) Z27 rfl rfl (Nat.le_of_ble_eq_true rfl) (fun h28 Z28 => ?_)
  refine ob_pC (i := 6) (k := 4) Z28 rfl rfl (Nat.le_of_ble_eq_true rfl) (fun h29 Z29 => ?_)
  refine ob_pC (i := 6) (k := 5) Z29 rfl rfl (Nat.le_of_ble_eq_true rfl) (fun h30 Z30 => ?_)
  refine ob_pC (i := 6) (k := 6) Z30 rfl rfl (Nat.le_of_ble_eq_true rfl) (fun h31 Z31 => ?_)
  refine ob_pC (i := 6) (k := 7) Z31 rfl rfl (Nat.le_of_ble_eq_true rfl) (fun h32 Z32 => ?_)
  refine ob_pC (i := 6) (k := 8) Z32 rfl rfl (Nat.le_of_ble_eq_true rfl) (fun h33 Z33 => ?_)
  refine ob_pC (i := 6) (k := 9) Z33 rfl rfl (Nat.le_of_ble_eq_true rfl) (fun h34 Z34 => ?_)
  refine ob_pF (k := 8) Z34 (Nat.le_of_ble_eq_true rfl) (fun h35 Z35 => ?_)
  refine ob_nO Z35 (fun h36 Z36 => ?_)
  refine ob_gR Z36 rfl ?_
  unfold f_X9_init
  refine ob_pC (i := 11) (k := 1) Z36 rfl rfl (Nat.le_of_ble_eq_true rfl) (fun h37 Z37 => ?_)
  refine ob_pC (i := 11) (k := 2) Z37 rfl rfl (Nat.le_of_ble_eq_true rfl) (fun h38 Z38 => ?_)
  refine ob_pC (i := 11) (k := 3) Z38 rfl rfl (Nat.le_of_ble_eq_true rfl) (fun h39 Z39 => ?_)
  refine ob_pC (i := 11) (k := 4) Z39 rfl rfl (Nat.le_of_ble_eq_true rfl) (fun h40 Z40 => ?_)
  refine ob_pC (i := 11) (k := 5) Z40 rfl rfl (Nat.le_of_ble_eq_true rfl) (fun h41 Z41 => ?_)
  refine ob_pC (i := 11) (k := 6) Z41 rfl rfl (Nat.le_of_ble_eq_true rfl) (fun h42 Z42 => ?_)
  refine ob_pC (i := 11) (k := 7) Z42 rfl rfl (Nat.le_of_ble_eq_true rfl) (fun h43 Z43 => ?_)
  refine ob_pC (i := 11) (k := 0) Z43 rfl rfl (Nat.le_of_ble_eq_true rfl) (fun h44 Z44 => ?_)
  refine ob_pF (k := 6) Z44 (Nat.le_of_ble_eq_true rfl) (fun h45 Z45 => ?_)
  refine ob_nO Z45 (fun h46 Z46 => ?_)
  refine ob_gR Z46 rfl ?_
  unfold f_X7_init
  refine ob_nA (t := 0) (k := 4) Z46 (Nat.le_of_ble_eq_true rfl) (fun h47 Z47 => ?_)
  refine ob_pC (i := 12) (k := 1) Z47 rfl rfl (Nat.le_of_ble_eq_true rfl) (fun h48 Z48 => ?_)
  refine ob_nA (t := 0) (k := 125) Z48 (Nat.le_of_ble_eq_true rfl) (fun h49 Z49 => ?_)
  refine ob_pC (i := 12) (k := 2) Z49 rfl rfl (Nat.le_of_ble_eq_true rfl) (fun h50 Z50 => ?_)
  refine ob_nA (t := 0) (k := 10) Z50 (Nat.le_of_ble_eq_true rfl) (fun h51 Z51 => ?_)
  refine ob_pC (i := 12) (k := 3) Z51 rfl rfl (Nat.le_of_ble_eq_true rfl) (fun h52 Z52 => ?_)
  refine ob_pC (i := 12) (k := 5) Z52 rfl rfl (Nat.le_of_ble_eq_true rfl) (fun h53 Z53 => ?_)
  refine ob_pC (i := 12) (k := 6) Z53 rfl rfl (Nat.le_of_ble_eq_true rfl) (fun h54 Z54 => ?_)
  refine ob_pC (i := 12) (k := 7) Z54 rfl rfl (Nat.le_of_ble_eq_true rfl) (fun h55 Z55 => ?_)
  refine ob_nA (t := 0) (k := 0) Z55 (Nat.le_of_ble_eq_true rfl) (fun h56 Z56 => ?_)
  refine ob_pC (i := 12) (k := 8) Z56 rfl rfl (Nat.le_of_ble_eq_true rfl) (fun h57 Z57 => ?_)
  refine ob_nA (t := 0) (k := 0) Z57 (Nat.le_of_ble_eq_true rfl) (fun h58 Z58 => ?_)
  refine ob_pC (i := 12) (k := 9) Z58 rfl rfl (Nat.le_of_ble_eq_true rfl) (fun h59 Z59 => ?_)
  refine ob_nA (t := 0) (k := 0) Z59 (Nat.le_of_ble_eq_true rfl) (fun h60 Z60 => ?_)
  refine ob_pC (i := 12) (k := 10) Z60 rfl rfl (Nat.le_of_ble_eq_true rfl) (fun h61 Z61 => ?_)
  refine ob_pC (i := 12) (k := 11) Z61 rfl rfl (Nat.le_of_ble_eq_true rfl) (fun h62 Z62 => ?_)
  refine ob_pC (i := 12) (k := 12) Z62 rfl rfl (Nat.le_of_ble_eq_true rfl) (fun h63 Z63 => ?_)
  refine ob_pC (i := 12) (k := 13) Z63 rfl rfl (Nat.le_of_ble_eq_true rfl) (fun h64 Z64 => ?_)
  refine ob_pC (i := 12) (k := 14) Z64 rfl rfl (Nat.le_of_ble_eq_true rfl) (fun h65 Z65 => ?_)
  refine ob_pC (i := 12) (k := 15) Z65 rfl rfl (Nat.le_of_ble_eq_true rfl) (fun h66 Z66 => ?_)
  refine ob_pC (i := 12) (k := 16) Z66 rfl rfl (Nat.le_of_ble_eq_true rfl) (fun h67 Z67 => ?_)
  refine ob_pC (i := 12) (k := 4) Z67 rfl rfl (Nat.le_of_ble_eq_true rfl) (fun h68 Z68 => ?_)
  refine ob_nO Z68 (fun h69 Z69 => ?_)
  unfold f_X9_init
  refine ob_pC (i := 19) (k := 1) Z69 rfl rfl (Nat.le_of_ble_eq_true rfl) (fun h70 Z70 => ?_)
  refine ob_pC (i := 19) (k := 2) Z70 rfl rfl (Nat.le_of_ble_eq_true rfl) (fun h71 Z71 => ?_)
  refine ob_pC (i := 19) (k := 3) Z71 rfl rfl (Nat.le_of_ble_eq_true rfl) (fun h72 Z72 => ?_)
  refine ob_pC (i := 19) (k := 4) Z72 rfl rfl (Nat.le_of_ble_eq_true rfl) (fun h73 Z73 => ?_)
  refine ob_pC (i := 19) (k := 5) Z73 rfl rfl (Nat.le_of_ble_eq_true rfl) (fun h74 Z74 => ?_)
  refine ob_pC (i := 19) (k := 6) Z74 rfl rfl (Nat.le_of_ble_eq_true rfl) (fun h75 Z75 => ?_)
  refine ob_pC (i := 19) (k := 7) Z75 rfl rfl (Nat.le_of_ble_eq_true rfl) (fun h76 Z76 => ?_)
  refine ob_pC (i := 19) (k := 0) Z76 rfl rfl (Nat.le_of_ble_eq_true rfl) (fun h77 Z77 => ?_)
  refine ob_pC (i := 12) (k := 0) Z77 rfl rfl (Nat.le_of_ble_eq_true rfl) (fun h78 Z78 => ?_)
  refine ob_pF (k := 7) Z78 (Nat.le_of_ble_eq_true rfl) (fun h79 Z79 => ?_)
  refine H _ ⟨Z79.1.trans rfl, Z79.2.1.trans rfl, Z79.2.2.1 0 (by omega), Z79.2.2.2.1.trans rfl, Z79.2.2.2.2 0 _ rfl, Z79.2.2.2.2 1 _ rfl, Z79.2.2.2.2 2 _ rfl, Z79.2.2.2.2 3 _ rfl, Z79.2.2.2.2 4 _ rfl, Z79.2.2.2.2 5 _ rfl, Z79.2.2.2.2 6 _ rfl, Z79.2.2.2.2 7 _ rfl, Z79.2.2.2.2 8 _ rfl, Z79.2.2.2.2 9 _ rfl, Z79.2.2.2.2 10 _ rfl, Z79.2.2.2.2 11 _ rfl, Z79.2.2.2.2 12 _ rfl, Z79.2.2.2.2 13 _ rfl, Z79.2.2.2.2 14 _ rfl, Z79.2.2.2.2 15 _ rfl, Z79.2.2.2.2 16 _ rfl, Z79.2.2.2.2 17 _ rfl, Z79.2.2.2.2 18 _ rfl, Z79.2.2.2.2 19 _ rfl⟩
set_option maxRecDepth 100000 in
set_option maxHeartbeats 4000000 in
theorem made2 {h0 : AH} {Q : AH → Prop} (h102 : h0.1 = 102) (H : ∀ h, RepM h (fun _ => 0) 0 1 (fun _ _ => 0) → h.1 = 131 → h.2.1 = h0.2.1 + 99647 → (∀ x, x < 102 → h.2.2 x = h0.2.2 x) → ∃ n, L_X12_init_222 Q 102 n (0 : Int32) h) : f_X12_init 102 (anew h0 51 (.inr (12, dfX12))) Q := by
  have Z0 : OB h0 102 12 dfX12 [] 51 (anew h0 51 (.inr (12, dfX12))) := ⟨by show h0.1 + 1 = _; rw [h102]; rfl, rfl, fun x hx => anew_n _ _ _ (by omega), by rw [← h102]; exact anew_s _ _ _, fun i e hi => by cases hi⟩
  unfold f_X12_init
  refine ob_nA (t := 0) (k := 6) Z0 (Nat.le_of_ble_eq_true rfl) (fun h1 Z1 => ?_)
  refine ob_pF (k := 0) Z1 (Nat.le_of_ble_eq_true rfl) (fun h2 Z2 => ?_)
  refine ob_nA (t := 0) (k := 360) Z2 (Nat.le_of_ble_eq_true rfl) (fun h3 Z3 => ?_)
  refine ob_pF (k := 1) Z3 (Nat.le_of_ble_eq_true rfl) (fun h4 Z4 => ?_)
  refine ob_nA (t := 0) (k := 4) Z4 (Nat.le_of_ble_eq_true rfl) (fun h5 Z5 => ?_)
  refine ob_pF (k := 2) Z5 (Nat.le_of_ble_eq_true rfl) (fun h6 Z6 => ?_)
  refine ob_nA (t := 0) (k := 240) Z6 (Nat.le_of_ble_eq_true rfl) (fun h7 Z7 => ?_)
  refine ob_pF (k := 3) Z7 (Nat.le_of_ble_eq_true rfl) (fun h8 Z8 => ?_)
  refine ob_pF (k := 6) Z8 (Nat.le_of_ble_eq_true rfl) (fun h9 Z9 => ?_)
  refine ob_nA (t := 0) (k := 6) Z9 (Nat.le_of_ble_eq_true rfl) (fun h10 Z10 => ?_)
  refine ob_pF (k := 8) Z10 (Nat.le_of_ble_eq_true rfl) (fun h11 Z11 => ?_)
  refine ob_nA (t := 0) (k := 5) Z11 (Nat.le_of_ble_eq_true rfl) (fun h12 Z12 => ?_)
  refine ob_pF (k := 11) Z12 (Nat.le_of_ble_eq_true rfl) (fun h13 Z13 => ?_)
  refine ob_nA (t := 0) (k := 5) Z13 (Nat.le_of_ble_eq_true rfl) (fun h14 Z14 => ?_)
  refine ob_pF (k := 13) Z14 (Nat.le_of_ble_eq_true rfl) (fun h15 Z15 => ?_)
  refine ob_nA (t := 0) (k := 5) Z15 (Nat.le_of_ble_eq_true rfl) (fun h16 Z16 => ?_)
  refine ob_pF (k := 14) Z16 (Nat.le_of_ble_eq_true rfl) (fun h17 Z17 => ?_)
  refine ob_nA (t := 0) (k := 5) Z17 (Nat.le_of_ble_eq_true rfl) (fun h18 Z18 => ?_)
  refine ob_pF (k := 15) Z18 (Nat.le_of_ble_eq_true rfl) (fun h19 Z19 => ?_)
  refine ob_nA (t := 0) (k := 5) Z19 (Nat.le_of_ble_eq_true rfl) (fun h20 Z20 => ?_)
  refine ob_pF (k := 18) Z20 (Nat.le_of_ble_eq_true rfl) (fun h21 Z21 => ?_)
  refine ob_nA (t := 0) (k := 5) Z21 (Nat.le_of_ble_eq_true rfl) (fun h22 Z22 => ?_)
  refine ob_pF (k := 19) Z22 (Nat.le_of_ble_eq_true rfl) (fun h23 Z23 => ?_)
  refine ob_nA (t := 0) (k := 60) Z23 (Nat.le_of_ble_eq_true rfl) (fun h24 Z24 => ?_)
  refine ob_pF (k := 21) Z24 (Nat.le_of_ble_eq_true rfl) (fun h25 Z25 => ?_)
  refine ob_nA (t := 0) (k := 60) Z25 (Nat.le_of_ble_eq_true rfl) (fun h26 Z26 => ?_)
  refine ob_pF (k := 22) Z26 (Nat.le_of_ble_eq_true rfl) (fun h27 Z27 => ?_)
  refine ob_nA (t := 0) (k := 60) Z27 (Nat.le_of_ble_eq_true rfl) (fun h28 Z28 => ?_)
  refine ob_pF (k := 23) Z28 (Nat.le_of_ble_eq_true rfl) (fun h29 Z29 => ?_)
  refine ob_nA (t := 0) (k := 300) Z29 (Nat.le_of_ble_eq_true rfl) (fun h30 Z30 => ?_)
  refine ob_pF (k := 24) Z30 (Nat.le_of_ble_eq_true rfl) (fun h31 Z31 => ?_)
  refine ob_nA (t := 0) (k := 3) Z31 (Nat.le_of_ble_eq_true rfl) (fun h32 Z32 => ?_)
  refine ob_pF (k := 25) Z32 (Nat.le_of_ble_eq_true rfl) (fun h33 Z33 => ?_)
  refine ob_nA (t := 0) (k := 3) Z33 (Nat.le_of_ble_eq_true rfl) (fun h34 Z34 => ?_)
  refine ob_pF (k := 26) Z34 (Nat.le_of_ble_eq_true rfl) (fun h35 Z35 => ?_)
  refine ob_nA (t := 0) (k := 5) Z35 (Nat.le_of_ble_eq_true rfl) (fun h36 Z36 => ?_)
  refine ob_pF (k := 31) Z36 (Nat.le_of_ble_eq_true rfl) (fun h37 Z37 => ?_)
  refine ob_nA (t := 0) (k := 5) Z37 (Nat.le_of_ble_eq_true rfl) (fun h38 Z38 => ?_)
  refine ob_pF (k := 32) Z38 (Nat.le_of_ble_eq_true rfl) (fun h39 Z39 => ?_)
  refine ob_nA (t := 0) (k := 5) Z39 (Nat.le_of_ble_eq_true rfl) (fun h40 Z40 => ?_)
  refine ob_pF (k := 33) Z40 (Nat.le_of_ble_eq_true rfl) (fun h41 Z41 => ?_)
  refine ob_nA (t := 0) (k := 5) Z41 (Nat.le_of_ble_eq_true rfl) (fun h42 Z42 => ?_)
  refine ob_pF (k := 34) Z42 (Nat.le_of_ble_eq_true rfl) (fun h43 Z43 => ?_)
  refine ob_nA (t := 0) (k := 5) Z43 (Nat.le_of_ble_eq_true rfl) (fun h44 Z44 => ?_)
  refine ob_pF (k := 35) Z44 (Nat.le_of_ble_eq_true rfl) (fun h45 Z45 => ?_)
  refine ob_nA (t := 0) (k := 5) Z45 (Nat.le_of_ble_eq_true rfl) (fun h46 Z46 => ?_)
  refine ob_pF (k := 36) Z46 (Nat.le_of_ble_eq_true rfl) (fun h47 Z47 => ?_)
  refine ob_nA (t := 0) (k := 5) Z47 (Nat.le_of_ble_eq_true rfl) (fun h48 Z48 => ?_)
  refine ob_pF (k := 37) Z48 (Nat.le_of_ble_eq_true rfl) (fun h49 Z49 => ?_)
  refine ob_nA (t := 0) (k := 125) Z49 (Nat.le_of_ble_eq_true rfl) (fun h50 Z50 => ?_)
  refine ob_pF (k := 40) Z50 (Nat.le_of_ble_eq_true rfl) (fun h51 Z51 => ?_)
  refine ob_nA (t := 0) (k := 32768) Z51 (Nat.le_of_ble_eq_true rfl) (fun h52 Z52 => ?_)
  refine ob_pF (k := 42) Z52 (Nat.le_of_ble_eq_true rfl) (fun h53 Z53 => ?_)
  refine ob_nA (t := 0) (k := 32768) Z53 (Nat.le_of_ble_eq_true rfl) (fun h54 Z54 => ?_)
  refine ob_pF (k := 43) Z54 (Nat.le_of_ble_eq_true rfl) (fun h55 Z55 => ?_)
  refine ob_nA (t := 1) (k := 32768) Z55 (Nat.le_of_ble_eq_true rfl) (fun h56 Z56 => ?_)
  refine ob_pF (k := 44) Z56 (Nat.le_of_ble_eq_true rfl) (fun h57 Z57 => ?_)
  refine H _ ⟨Z57.2.2.2.1.trans rfl, fun j n hj => ?_⟩ (Z57.1.trans rfl) (Z57.2.1.trans rfl) Z57.2.2.1
  match j, hj with
  | 0, hj => cases hj; exact Z57.2.2.2.2 0 _ rfl
  | 1, hj => cases hj; exact Z57.2.2.2.2 1 _ rfl
  | 2, hj => cases hj; exact Z57.2.2.2.2 2 _ rfl
  | 3, hj => cases hj; exact Z57.2.2.2.2 3 _ rfl
  | 4, hj => cases hj; exact Z57.2.2.2.2 4 _ rfl
  | 5, hj => cases hj; exact Z57.2.2.2.2 5 _ rfl
  | 6, hj => cases hj; exact Z57.2.2.2.2 6 _ rfl
  | 7, hj => cases hj; exact Z57.2.2.2.2 7 _ rfl
  | 8, hj => cases hj; exact Z57.2.2.2.2 8 _ rfl
  | 9, hj => cases hj; exact Z57.2.2.2.2 9 _ rfl
  | 10, hj => cases hj; exact Z57.2.2.2.2 10 _ rfl
  | 11, hj => cases hj; exact Z57.2.2.2.2 11 _ rfl
  | 12, hj => cases hj; exact Z57.2.2.2.2 12 _ rfl
  | 13, hj => cases hj; exact Z57.2.2.2.2 13 _ rfl
  | 14, hj => cases hj; exact Z57.2.2.2.2 14 _ rfl
  | 15, hj => cases hj; exact Z57.2.2.2.2 15 _ rfl
  | 16, hj => cases hj; exact Z57.2.2.2.2 16 _ rfl
  | 17, hj => cases hj; exact Z57.2.2.2.2 17 _ rfl
  | 18, hj => cases hj; exact Z57.2.2.2.2 18 _ rfl
  | 19, hj => cases hj; exact Z57.2.2.2.2 19 _ rfl
  | 20, hj => cases hj; exact Z57.2.2.2.2 20 _ rfl
  | 21, hj => cases hj; exact Z57.2.2.2.2 21 _ rfl
  | 22, hj => cases hj; exact Z57.2.2.2.2 22 _ rfl
  | 23, hj => cases hj; exact Z57.2.2.2.2 23 _ rfl
  | 24, hj => cases hj; exact Z57.2.2.2.2 24 _ rfl
  | 25, hj => cases hj; exact Z57.2.2.2.2 25 _ rfl
  | 26, hj => cases hj; exact Z57.2.2.2.2 26 _ rfl
  | 27, hj => cases hj; exact Z57.2.2.2.2 27 _ rfl
  | j + 28, hj => exact absurd (List.getElem?_eq_some_iff.mp hj).1 (by show ¬ (j + 28 < 28); omega)
end MADE
