/-! what the constructors make: rows, texts, trips; both hold one state -/
def S0 : SS := fun c _ _ => if c = 0 ∨ c = 2 ∨ c = 21 then -1 else 0
section MADE2
variable {L0 : Nat} {xs0 : Nat → Int32} {h h0 : AH}
theorem ob_start {N c : Nat} {fs : List Value} : OB h h.1 c fs [] N (anew h N (.inr (c, fs))) := ⟨rfl, rfl, fun x hx => anew_n _ _ _ (Nat.ne_of_lt hx), anew_s _ _ _, fun i e hi => by cases hi⟩
theorem i_row {A m i : Nat} {f : Nat → Option Nat} {K : AH → Prop} (hA : A < h.1) (hc : h.2.2 A = some (.inl (2, m, .inr (.inr (.inr (.inr f)))))) (hi : i < m) (hm : m < 100)
    (H : ∀ h1, h1.1 = h.1 + 2 → h1.2.1 = h.2.1 + 62 → (∀ x, x < h.1 → x ≠ A → h1.2.2 x = h.2.2 x) → h1.2.2 A = some (.inl (2, m, .inr (.inr (.inr (.inr (va_up f i (some h.1))))))) → h1.2.2 h.1 = some (.inr (6, [.ref (h.1 + 1), .int (-1)])) → h1.2.2 (h.1 + 1) = some (.inl (0, 60, .inl (fun _ => 0))) → K h1) : nO h 6 2 dfX6 (fun a2 h3 => f_X6_init a2 h3 (fun h4 => sQ h4 A 2 (nI i) a2 K)) := by
  have Z0 : OB h h.1 6 dfX6 [] 2 (anew h 2 (.inr (6, dfX6))) := ob_start
  unfold nO
  dsimp only
  unfold f_X6_init
  refine ob_nA (t := 0) (k := 60) Z0 (Nat.le_of_ble_eq_true rfl) (fun h1 Z1 => ?_)
  refine ob_pF (k := 0) Z1 (Nat.le_of_ble_eq_true rfl) (fun h2 Z2 => ?_)
  refine ob_pF (k := 1) Z2 (Nat.le_of_ble_eq_true rfl) (fun h3 Z3 => ?_)
  refine ⟨m, f, 6, _, (Z3.2.2.1 A hA).trans hc, Z3.2.2.2.1, by decide, vp_in_nI hi (by omega), ?_⟩
  rw [nI_clamp (by omega)]
  exact H _ (Z3.1.trans rfl) (Z3.2.1.trans rfl) (fun x hx hxA => (aput_n _ _ hxA).trans (Z3.2.2.1 x hx)) (aput_s _ _ _) ((aput_n _ _ (by omega)).trans (Z3.2.2.2.1.trans rfl)) ((aput_n _ _ (by omega)).trans (Z3.2.2.2.2 0 _ rfl))
theorem i_trip {A m i : Nat} {f : Nat → Option Nat} {K : AH → Prop} (h1o : h.2.2 1 = some (mob 8 0 0 0 0 0 1 0)) (h1l : 1 < h.1) (hA : A < h.1) (hc : h.2.2 A = some (.inl (3, m, .inr (.inr (.inr (.inr f)))))) (hi : i < m) (hm : m < 100)
    (H : ∀ h1, h1.1 = h.1 + 1 → h1.2.1 = h.2.1 + 8 → (∀ x, x < h.1 → x ≠ A → h1.2.2 x = h.2.2 x) → h1.2.2 A = some (.inl (3, m, .inr (.inr (.inr (.inr (va_up f i (some h.1))))))) → h1.2.2 h.1 = some (trip 8 0 0 0 0 0 0 0) → K h1) : nO h 9 8 dfX9 (fun a4 h5 => gR h5 1 11 8 (fun a6 => f_X9_init a4 a6 h5 (fun h7 => sQ h7 A 3 (nI i) a4 K))) := by
  have Z0 : OB h h.1 9 dfX9 [] 8 (anew h 8 (.inr (9, dfX9))) := ob_start
  unfold nO
  dsimp only
  refine gR_of ((anew_n _ _ _ (Nat.ne_of_lt h1l)).trans h1o) rfl ?_
  unfold f_X9_init
  refine ob_pF (k := 1) Z0 (Nat.le_of_ble_eq_true rfl) (fun h1 Z1 => ?_)
  refine ob_pF (k := 2) Z1 (Nat.le_of_ble_eq_true rfl) (fun h2 Z2 => ?_)
  refine ob_pF (k := 3) Z2 (Nat.le_of_ble_eq_true rfl) (fun h3 Z3 => ?_)
  refine ob_pF (k := 4) Z3 (Nat.le_of_ble_eq_true rfl) (fun h4 Z4 => ?_)
  refine ob_pF (k := 5) Z4 (Nat.le_of_ble_eq_true rfl) (fun h5 Z5 => ?_)
  refine ob_pF (k := 6) Z5 (Nat.le_of_ble_eq_true rfl) (fun h6 Z6 => ?_)
  refine ob_pF (k := 7) Z6 (Nat.le_of_ble_eq_true rfl) (fun h7 Z7 => ?_)
  refine ob_pF (k := 0) Z7 (Nat.le_of_ble_eq_true rfl) (fun h8 Z8 => ?_)
  refine ⟨m, f, 9, _, (Z8.2.2.1 A hA).trans hc, Z8.2.2.2.1, by decide, vp_in_nI hi (by omega), ?_⟩
  rw [nI_clamp (by omega)]
  exact H _ (Z8.1.trans rfl) (Z8.2.1.trans rfl) (fun x hx hxA => (aput_n _ _ hxA).trans (Z8.2.2.1 x hx)) (aput_s _ _ _) ((aput_n _ _ (by omega)).trans (Z8.2.2.2.1.trans rfl))
/-- so many rows or texts are made, from b on -/
def RWS (h0 : AH) (A m b i : Nat) (h : AH) : Prop := h.1 = b + 2 * i ∧ h.2.1 = h0.2.1 + 62 * i ∧ (∀ x, x < b → x ≠ A → h.2.2 x = h0.2.2 x) ∧ (∃ f, h.2.2 A = some (.inl (2, m, .inr (.inr (.inr (.inr f))))) ∧ ∀ j, j < i → f j = some (b + 2 * j)) ∧ ∀ j, j < i → h.2.2 (b + 2 * j) = some (.inr (6, [.ref (b + 1 + 2 * j), .int (-1)])) ∧ h.2.2 (b + 1 + 2 * j) = some (.inl (0, 60, .inl (fun _ => 0)))
theorem RWS.next {A m b i : Nat} {K : AH → Prop} (Z : RWS h0 A m b i h) (hA : A < b) (hi : i < m) (hm : m < 100) (H : ∀ h1, RWS h0 A m b (i + 1) h1 → K h1) : nO h 6 2 dfX6 (fun a2 h3 => f_X6_init a2 h3 (fun h4 => sQ h4 A 2 (nI i) a2 K)) := by
  obtain ⟨z1, z2, z3, ⟨f, z4, z5⟩, z6⟩ := Z
  refine i_row (by omega) z4 hi hm (fun h1 e1 e2 e3 e4 e5 e6 => H h1 ⟨by omega, by omega, fun x hx hxA => (e3 x (by omega) hxA).trans (z3 x hx hxA), ⟨_, e4, fun j hj => ?_⟩, fun j hj => ?_⟩)
  · by_cases e : j = i
    · rw [e, va_up_self, z1]
    · rw [va_up_ne _ _ e]; exact z5 j (by omega)
  · by_cases e : j = i
    · rw [e, show b + 1 + 2 * i = h.1 + 1 by omega, ← z1]
      exact ⟨e5, e6⟩
    · obtain ⟨y1, y2⟩ := z6 j (by omega)
      exact ⟨(e3 _ (by omega) (by omega)).trans y1, (e3 _ (by omega) (by omega)).trans y2⟩
def TRS (h0 : AH) (i : Nat) (h : AH) : Prop := h.1 = 42 + i ∧ h.2.1 = h0.2.1 + 8 * i ∧ (∀ x, x < 42 → x ≠ 4 → h.2.2 x = h0.2.2 x) ∧ (∃ f, h.2.2 4 = some (.inl (3, 60, .inr (.inr (.inr (.inr f))))) ∧ ∀ j, j < i → f j = some (42 + j)) ∧ ∀ j, j < i → h.2.2 (42 + j) = some (trip 8 0 0 0 0 0 0 0)
theorem TRS.next {i : Nat} {K : AH → Prop} (Z : TRS h0 i h) (h1o : h0.2.2 1 = some (mob 8 0 0 0 0 0 1 0)) (hi : i < 60) (H : ∀ h1, TRS h0 (i + 1) h1 → K h1) : nO h 9 8 dfX9 (fun a4 h5 => gR h5 1 11 8 (fun a6 => f_X9_init a4 a6 h5 (fun h7 => sQ h7 4 3 (nI i) a4 K))) := by
  obtain ⟨z1, z2, z3, ⟨f, z4, z5⟩, z6⟩ := Z
  refine i_trip ((z3 1 (by omega) (by omega)).trans h1o) (by omega) (by omega) z4 hi (by omega) (fun h1 e1 e2 e3 e4 e5 => H h1 ⟨by omega, by omega, fun x hx hxA => (e3 x (by omega) hxA).trans (z3 x hx hxA), ⟨_, e4, fun j hj => ?_⟩, fun j hj => ?_⟩)
  · by_cases e : j = i
    · rw [e, va_up_self, z1]
    · rw [va_up_ne _ _ e]; exact z5 j (by omega)
  · by_cases e : j = i
    · rw [e, ← z1]
      exact e5
    · exact (e3 _ (by omega) (by omega)).trans (z6 j (by omega))
theorem WF_0 : WF S0 := by
  refine ⟨fun r _ => ⟨by show -1 ≤ (-1 : Int32).toInt; decide, by show (-1 : Int32).toInt ≤ 60; decide⟩, fun r _ => ⟨by show -1 ≤ (-1 : Int32).toInt; decide, by show (-1 : Int32).toInt ≤ 60; decide⟩, ⟨rfl, rfl, rfl, by decide, by decide, by decide, by decide, fun _ => ⟨rfl, rfl⟩, fun k hk => absurd hk (Nat.not_lt_zero _), fun k j _ hj => absurd hj (Nat.not_lt_zero _), fun w hw => absurd hw (Nat.not_lt_zero _)⟩, ⟨rfl, by show (0 : Nat) < 8 ^ 0; decide, fun k hk => absurd hk (Nat.not_lt_zero _)⟩, ⟨rfl, by decide⟩, ⟨rfl, by decide⟩, fun i hi => absurd hi (Nat.not_lt_zero _), fun k hk => Or.inl rfl⟩
theorem made3 {Q : AH → Prop} (H : ∀ h, h.1 = 102 → h.2.1 = 1435 → h.2.2 0 = some (.inl (9, L0, .inl xs0)) → (∀ h1 : AH, (∀ x, x < 102 → h1.2.2 x = h.2.2 x) → h1.1 = 131 → h1.2.1 ≤ 110000 → RC h1 S0 0 1 0) → Q h) : f_X11_init 1 (anew (h_0 L0 xs0) 16 (.inr (11, dfX11))) Q := by
  refine made1 (fun h0 D => ?_)
  obtain ⟨m1, m2, c0, c1, c2, c3, c4, c5, c6, c7, c8, c9, c10, c11, c12, c13, c14, c15, c16, c17, c18, c19, c20, c21⟩ := D
  have r0 : RWS h0 2 6 22 0 h0 := ⟨m1, rfl, fun _ _ _ => rfl, ⟨_, c2, fun j hj => absurd hj (Nat.not_lt_zero _)⟩, fun j hj => absurd hj (Nat.not_lt_zero _)⟩
  refine ⟨6 + 1, lpG (L := L_X11_init_130 Q 1) (I := fun i x h => x = nI i ∧ RWS h0 2 6 22 i h) 6 (fun m x h1 Y => ?_) (fun i m x h1 hi Y K => ?_) 6 0 (by omega) 0 h0 ⟨rfl, r0⟩⟩
  rotate_left
  · obtain ⟨rfl, Z⟩ := Y
    refine ⟨fun q => absurd q ?_, fun _ => gR_of ((Z.2.2.1 1 (by omega) (by omega)).trans c1) rfl (Z.next (by omega) hi (by omega) (fun h2 Z2 => ?_))⟩
    · rw [show (6 : Int32) = nI 6 from rfl, nI_leI (by omega) (by omega)]; omega
    · rw [nI_1]
      exact K _ _ ⟨rfl, Z2⟩
  obtain ⟨rfl, R1⟩ := Y
  refine ⟨fun _ => ?_, fun z => absurd (by decide) z⟩
  have k1 : ∀ x, x < 22 → x ≠ 2 → h1.2.2 x = h0.2.2 x := R1.2.2.1
  have r1 : RWS h1 3 4 34 0 h1 := ⟨R1.1, rfl, fun _ _ _ => rfl, ⟨_, (k1 3 (by omega) (by omega)).trans c3, fun j hj => absurd hj (Nat.not_lt_zero _)⟩, fun j hj => absurd hj (Nat.not_lt_zero _)⟩
  refine ⟨4 + 1, lpG (L := L_X11_init_157 Q 1) (I := fun i x h => x = nI i ∧ RWS h1 3 4 34 i h) 4 (fun m x h2 Y => ?_) (fun i m x h2 hi Y K => ?_) 4 0 (by omega) 0 h1 ⟨rfl, r1⟩⟩
  rotate_left
  · obtain ⟨rfl, Z⟩ := Y
    refine ⟨fun q => absurd q ?_, fun _ => gR_of (((Z.2.2.1 1 (by omega) (by omega)).trans (k1 1 (by omega) (by omega))).trans c1) rfl (Z.next (by omega) hi (by omega) (fun h2 Z2 => ?_))⟩
    · rw [show (4 : Int32) = nI 4 from rfl, nI_leI (by omega) (by omega)]; omega
    · rw [nI_1]
      exact K _ _ ⟨rfl, Z2⟩
  obtain ⟨rfl, R2⟩ := Y
  refine ⟨fun _ => ?_, fun z => absurd (by decide) z⟩
  have k2 : ∀ x, x < 34 → x ≠ 3 → h2.2.2 x = h1.2.2 x := R2.2.2.1
  have k12 : ∀ x, x < 22 → x ≠ 2 → x ≠ 3 → h2.2.2 x = h0.2.2 x := fun x x1 x2 x3 => (k2 x (by omega) x3).trans (k1 x x1 x2)
  have r2 : TRS h2 0 h2 := ⟨R2.1, rfl, fun _ _ _ => rfl, ⟨_, (k12 4 (by omega) (by omega) (by omega)).trans c4, fun j hj => absurd hj (Nat.not_lt_zero _)⟩, fun j hj => absurd hj (Nat.not_lt_zero _)⟩
  have c1' := (k12 1 (by omega) (by omega) (by omega)).trans c1
  refine ⟨60 + 1, lpG (L := L_X11_init_183 Q 1) (I := fun i x h => x = nI i ∧ TRS h2 i h) 60 (fun m x h3 Y => ?_) (fun i m x h3 hi Y K => ?_) 60 0 (by omega) 0 h2 ⟨rfl, r2⟩⟩
  rotate_left
  · obtain ⟨rfl, Z⟩ := Y
    refine ⟨fun q => absurd q ?_, fun _ => gR_of ((Z.2.2.1 1 (by omega) (by omega)).trans c1') rfl (Z.next c1' hi (fun h2 Z2 => ?_))⟩
    · rw [show (60 : Int32) = nI 60 from rfl, nI_leI (by omega) (by omega)]; omega
    · rw [nI_1]
      exact K _ _ ⟨rfl, Z2⟩
  obtain ⟨rfl, R3⟩ := Y
  refine ⟨fun _ => ?_, fun z => absurd (by decide) z⟩
  have k3 : ∀ x, x < 42 → x ≠ 4 → h3.2.2 x = h2.2.2 x := R3.2.2.1
  have k123 : ∀ x, x < 22 → x ≠ 2 → x ≠ 3 → x ≠ 4 → h3.2.2 x = h0.2.2 x := fun x x1 x2 x3 x4 => (k3 x (by omega) x4).trans (k12 x x1 x2 x3)
  refine gR_of ((k3 1 (by omega) (by omega)).trans c1') rfl (c_fill (n := 3) (by omega) ((k123 6 (by omega) (by omega) (by omega) (by omega)).trans c6) (fun g hg => ?_))
  obtain ⟨a1, a2, a3, ⟨f1, a4, a5⟩, a6⟩ := R1
  obtain ⟨b1, b2, b3, ⟨f2, b4, b5⟩, b6⟩ := R2
  obtain ⟨d1, d2, d3, ⟨f3, d4, d5⟩, d6⟩ := R3
  refine H _ d1 (by show h3.2.1 = 1435; omega) ((aput_n _ _ (by omega)).trans ((k123 0 (by omega) (by omega) (by omega) (by omega)).trans c0)) (fun h4 hk e1 e2 => ?_)
  have q : ∀ x, x < 102 → x ≠ 6 → h4.2.2 x = h3.2.2 x := fun x x1 x2 => (hk x x1).trans (aput_n _ _ x2)
  have q0 : ∀ x, x < 22 → x ≠ 2 → x ≠ 3 → x ≠ 4 → x ≠ 6 → h4.2.2 x = h0.2.2 x := fun x x1 x2 x3 x4 x5 => (q x (by omega) x5).trans (k123 x x1 x2 x3 x4)
  have q' : ∀ x e, h0.2.2 x = some e → x < 22 ∧ x ≠ 2 ∧ x ≠ 3 ∧ x ≠ 4 ∧ x ≠ 6 → h4.2.2 x = some e := fun x e he w => (q0 x w.1 w.2.1 w.2.2.1 w.2.2.2.1 w.2.2.2.2).trans he
  have neg : ∀ i : Nat, ¬ ((i : Int) < (-1 : Int32).toInt) := fun i z => by
    rw [show (-1 : Int32).toInt = -1 from rfl] at z
    omega
  refine ⟨8, 18, 19, 20, 0, fun x => 8 ≤ x ∧ x ≤ 12, q' 1 _ c1 (by omega), ⟨⟨f1, ?_, a5⟩, ⟨f2, ?_, b5⟩, ⟨f3, (q 4 (by omega) (by omega)).trans d4, d5⟩⟩, fun r hr => ?_, fun r hr => ?_, ⟨_, q' 7 _ c7 (by omega), fun _ _ => rfl⟩, ⟨_, g, q' 5 _ c5 (by omega), (hk 6 (by omega)).trans (aput_s _ _ _), fun k hk => Or.inl ⟨rfl, hg k hk⟩⟩, fun i hi => ⟨8, 0, 0, 0, 0, 0, 0, 0, (q _ (by omega) (by omega)).trans (d6 i hi), fun z => absurd z (nI_n0 (by omega))⟩, ⟨8, 0, 0, 0, 0, 0, 0, 0, q' 13 _ c13 (by omega)⟩, ?_, ?_, fun a ha => ⟨Or.inl ha, by omega, by omega, by omega, by omega⟩, by omega, by omega, by omega⟩
  · exact (((q 2 (by omega) (by omega)).trans (k3 2 (by omega) (by omega))).trans (k2 2 (by omega) (by omega))).trans a4
  · exact ((q 3 (by omega) (by omega)).trans (k3 3 (by omega) (by omega))).trans b4
  · obtain ⟨y1, y2⟩ := a6 r hr
    exact ⟨(((q _ (by omega) (by omega)).trans (k3 _ (by omega) (by omega))).trans (k2 _ (by omega) (by omega))).trans y1, _, (((q _ (by omega) (by omega)).trans (k3 _ (by omega) (by omega))).trans (k2 _ (by omega) (by omega))).trans y2, fun i hi => absurd hi (neg i)⟩
  · obtain ⟨y1, y2⟩ := b6 r hr
    exact ⟨((q _ (by omega) (by omega)).trans (k3 _ (by omega) (by omega))).trans y1, _, ((q _ (by omega) (by omega)).trans (k3 _ (by omega) (by omega))).trans y2, fun i hi => absurd hi (neg i)⟩
  · exact ⟨8, 0, 0, 0, 0, 0, 0, 0, 0, 0, _, _, _, q' 14 _ c14 (by omega), ⟨8, 0, 0, 0, 0, 0, 0, 0, q' 21 _ c21 (by omega)⟩, ⟨_, q' 15 _ c15 (by omega)⟩, ⟨_, q' 16 _ c16 (by omega)⟩, ⟨_, q' 17 _ c17 (by omega)⟩, q' 18 _ c18 (by omega), q' 19 _ c19 (by omega), q' 20 _ c20 (by omega), Or.inl (by omega), Or.inl (by omega), Or.inl (by omega), by omega, by omega, by omega, by omega, by omega, by omega, by omega, Or.inl rfl, Or.inl rfl, fun z => absurd z (by decide)⟩
  · exact ⟨9, 10, 11, 12, _, _, _, _, fun _ => 0, 0, by omega, by omega, by omega, by omega, by omega, q' 8 _ c8 (by omega), q' 9 _ c9 (by omega), q' 10 _ c10 (by omega), q' 11 _ c11 (by omega), q' 12 _ c12 (by omega), fun k hk => absurd hk (Nat.not_lt_zero _), fun w hw => absurd hw (Nat.not_lt_zero _)⟩
theorem m_m1 {j k : Nat} {mi : Nat → Int32} {u l : Int64} {L : Nat → Int32 → AH → Prop} {R : (Nat → Nat → Int32) → AH → Prop} (hj : mlen[j]? = some k) (ht : mtag j = 0) (hk : k < 100)
    (he : ∀ m h ma, R ma h → (∀ x, x < k → ma j x = -1) → L (m + 1) (nI k) h) (hs : ∀ i m h ma, i < k → R ma h → (∀ h1, R (va_up ma j (upd (ma j) i (-1))) h1 → L m (nI (i + 1)) h1) → L (m + 1) (nI i) h) (ma : Nat → Nat → Int32) (hR : R ma h) : L (k + 1) 0 h :=
  lpG (L := L) (I := fun i x h => x = nI i ∧ ∃ ma, R ma h ∧ ∀ x, x < i → ma j x = -1) k (fun m x h ⟨e, ma, r, y⟩ => by rw [e]; exact he m h ma r y) (fun i m x h hi ⟨e, ma, r, y⟩ K => by
    rw [e]
    refine hs i m h ma hi r (fun h1 r1 => K _ _ ⟨rfl, _, r1, fun x hx => ?_⟩)
    rw [va_up_self]
    by_cases z : x = i
    · rw [z, pk_us]
    · rw [pk_un z]; exact y x (by omega)) k 0 (by omega) 0 h ⟨rfl, ma, hR, fun x hx => absurd hx (Nat.not_lt_zero _)⟩
theorem law_ok (L : Nat) (xs : Nat → Int32) (hL : L ≤ 3072) : f_L_law (h_0 L xs) (fun x h => x = 1 ∧ h.1 ≤ 600001 ∧ h.2.1 ≤ 7302250) := by
  unfold f_L_law nO
  dsimp only
  refine made3 (L0 := L) (xs0 := xs) (fun hc e1 e2 e0 RCk => ?_)
  have go : ∀ (Q : AH → Prop), (∀ h1, Inv h1 0 → ZZ L xs h1 → Q h1) → f_X12_init 102 (anew hc 51 (.inr (12, dfX12))) Q := fun Q H => by
    refine made2 e1 (fun h r5 s1 s2 sx => ?_)
    have lp : ∀ {i c : Nat}, c < 100 → i < c → ¬ (nI c ≤ nI i) := fun hc hi z => by
      rw [nI_leI (by omega) (by omega)] at z; omega
    -- its three rows of -1
    refine ⟨6 + 1, m_m1 (L := L_X12_init_222 Q 102) (R := fun ma h1 => RepM h1 (fun _ => 0) 0 1 ma ∧ Mag h h1 ∧ ∀ j x, j ≠ 0 → ma j x = 0) (j := 0) (k := 6) (mi := fun _ => 0) (u := 0) (l := 0) rfl rfl (by omega) (fun m h1 ma R1 y1 => ?_) (fun i m h1 ma hi R1 K => ⟨fun z => absurd z (lp (c := 6) (by omega) hi), fun _ => m_gR R1.1 (mr0 _ _ _) (m_sI R1.1 (j := 0) rfl rfl rfl (vp_in_nI hi (by omega)) (fun h2 r2 a2 => ?_))⟩) (fun _ _ => 0) ⟨r5, Mag.rf, fun _ _ _ => rfl⟩⟩
    rotate_left
    · rw [nI_clamp (by omega)] at r2
      rw [nI_1]
      exact K h2 ⟨r2, R1.2.1.tr a2, fun j x hj => by rw [va_up_ne _ _ hj]; exact R1.2.2 j x hj⟩
    refine ⟨fun _ => ⟨4 + 1, m_m1 (L := L_X12_init_243 Q 102) (R := fun ma h1 => RepM h1 (fun _ => 0) 0 1 ma ∧ Mag h h1 ∧ (∀ j x, j ≠ 0 → j ≠ 2 → ma j x = 0) ∧ ∀ x, x < 6 → ma 0 x = -1) (j := 2) (k := 4) (mi := fun _ => 0) (u := 0) (l := 0) rfl rfl (by omega) (fun m h1 ma R1 y2 => ?_) (fun i m h1 ma hi R1 K => ⟨fun z => absurd z (lp (c := 4) (by omega) hi), fun _ => m_gR R1.1 (mr2 _ _ _) (m_sI R1.1 (j := 2) rfl rfl rfl (vp_in_nI hi (by omega)) (fun h2 r2 a2 => ?_))⟩) ma ⟨R1.1, R1.2.1, fun j x h1 _ => R1.2.2 j x h1, y1⟩⟩, fun z => absurd (by decide) z⟩
    rotate_left
    · rw [nI_clamp (by omega)] at r2
      rw [nI_1]
      exact K h2 ⟨r2, R1.2.1.tr a2, fun j x hj hj2 => by rw [va_up_ne _ _ hj2]; exact R1.2.2.1 j x hj hj2, fun x hx => by rw [va_up_ne _ _ (by omega)]; exact R1.2.2.2 x hx⟩
    refine ⟨fun _ => ⟨3 + 1, m_m1 (L := L_X12_init_263 Q 102) (R := fun ma h1 => RepM h1 (fun _ => 0) 0 1 ma ∧ Mag h h1 ∧ (∀ j x, j ≠ 0 → j ≠ 2 → j ≠ 15 → ma j x = 0) ∧ (∀ x, x < 6 → ma 0 x = -1) ∧ ∀ x, x < 4 → ma 2 x = -1) (j := 15) (k := 3) (mi := fun _ => 0) (u := 0) (l := 0) rfl rfl (by omega) (fun m h1 ma R1 y3 => ?_) (fun i m h1 ma hi R1 K => ⟨fun z => absurd z (lp (c := 3) (by omega) hi), fun _ => m_gR R1.1 (mr25 _ _ _) (m_sI R1.1 (j := 15) rfl rfl rfl (vp_in_nI hi (by omega)) (fun h2 r2 a2 => ?_))⟩) ma ⟨R1.1, R1.2.1, fun j x h1 h2 _ => R1.2.2.1 j x h1 h2, R1.2.2.2, y2⟩⟩, fun z => absurd (by decide) z⟩
    rotate_left
    · rw [nI_clamp (by omega)] at r2
      rw [nI_1]
      exact K h2 ⟨r2, R1.2.1.tr a2, fun j x hj hj2 hj3 => by rw [va_up_ne _ _ hj3]; exact R1.2.2.1 j x hj hj2 hj3, fun x hx => by rw [va_up_ne _ _ (by omega)]; exact R1.2.2.2.1 x hx, fun x hx => by rw [va_up_ne _ _ (by omega)]; exact R1.2.2.2.2 x hx⟩
    refine ⟨fun _ => ?_, fun z => absurd (by decide) z⟩
    obtain ⟨p1, p2, p3, p4, p5⟩ := R1
    have neg : ∀ i : Nat, ¬ ((i : Int) < (-1 : Int32).toInt) := fun i z => by
      rw [show (-1 : Int32).toInt = -1 from rfl] at z
      omega
    have cells : ∀ x, x < 102 → h1.2.2 x = hc.2.2 x := fun x hx => (p2.2.2 x (by omega)).trans (sx x hx)
    have C1 : RC h1 S0 0 1 0 := RCk h1 cells (p2.1.trans s1) (by rw [p2.2.1, s2, e2]; decide)
    refine H h1 ⟨S0, 0, 1, C1, ⟨_, ma, p1, ⟨rfl, rfl, rfl, rfl, rfl, rfl, rfl, rfl⟩, ⟨fun r hr => p4 r hr, fun r hr i hi => absurd hi (neg i)⟩, ⟨fun r hr => p5 r hr, fun r hr i hi => absurd hi (neg i)⟩, fun i hi => p3 4 i (by omega) (by omega) (by omega), ⟨fun k hk => absurd hk (Nat.not_lt_zero _), fun w hw => absurd hw (Nat.not_lt_zero _)⟩, ⟨fun w hw => p3 9 w (by omega) (by omega) (by omega), fun k hk => p3 10 k (by omega) (by omega) (by omega), fun i hi => absurd hi (Nat.not_lt_zero _)⟩, fun k hk => ⟨y3 k hk, fun z => absurd z (by show ¬ (0 : Int32) ≤ -1; decide)⟩⟩, WF_0⟩ ⟨(cells 0 (by omega)).trans e0, by rw [p2.1, s1]; decide, C1.o, p1.o⟩
  show f_X12_init hc.1 (anew hc 51 (.inr (12, dfX12))) _
  rw [e1]
  refine go _ (fun h1 I z => ⟨512 + 1, law_L hL (fun h n hn I => ⟨rfl, ?_, ?_⟩) 512 0 h1 (by omega) I z⟩)
  · have := I.bnd
    omega
  · have := I.bnd
    omega
end MADE2
