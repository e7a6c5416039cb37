/-! count -/
def thr (f : Nat → Int32) : Nat → Nat
  | 0 => 0
  | k + 1 => thr f k + (if 0 ≤ f k then 1 else 0)
def iofB (k v : Nat) : Bool := decide (k = v ∨ (k = 4 ∧ v = 3) ∨ (k = 5 ∧ v = 2))
def knd (S : SS) (v : Nat) : Nat → Nat
  | 0 => 0
  | k + 1 => knd S v k + (if iofB (kd S k) v then 1 else 0)
def cntI (S : SS) (v : Nat) : Int32 := if v = 0 then S 7 0 0 else if v = 1 then S 8 0 0 else if v = 2 then nI (hpA S (stN S) 7 (sN S)) else if v = 3 then S 9 0 0 else if v = 4 then S 16 0 0 else if v = 5 then nI (knd S 2 (wN S)) else if v = 6 then nI (thr (fun r => S 0 r 0) 6) else if v = 7 then nI (thr (fun r => S 2 r 0) 4) else nI (knd S 3 (wN S))
section COUNT
variable {h : AH} {S : SS} {u l : Int64} {n : Nat} {mi : Nat → Int32} {ma : Nat → Nat → Int32}
theorem c_there {A c m b : Nat} {Q : Int32 → AH → Prop} (W : RwAt h S A c m b) (hm : m < 100) (H : Q (nI (thr (fun r => S c r 0) m)) h) : f_X11_thereOf A h Q := by
  obtain ⟨⟨f, g1, g2⟩, g3⟩ := id W
  refine lpA (L := L_X11_thereOf_4 Q A) (fun i => nI (thr (fun r => S c r 0) i)) m (fun k => ?_) (fun i k hi K => ?_)
  · show B_X11_thereOf_4 _ _ _ _ _ _
    unfold B_X11_thereOf_4
    exact aL_of g1 ⟨fun _ => H, fun q => absurd (Int32.le_refl _) q⟩
  show B_X11_thereOf_4 _ _ _ _ _ _
  unfold B_X11_thereOf_4
  refine aL_of g1 ⟨fun q => absurd q ?_, fun _ => c_rowAt W hi hm ⟨W.o hi, c_miss (g3 i hi) (fun q => rb0 ?_) (fun q => rb1 ?_)⟩⟩
  · rw [nI_leI (by omega) (by omega)]; omega
  · rw [nI_1, nI_1]
    rw [thr, if_pos q] at K
    exact K
  · rw [nI_1]
    rw [thr, if_neg (Int32.not_le.mpr q)] at K
    exact K
theorem m_there {j m : Nat} {f : Nat → Int32} {Q : Int32 → AH → Prop} (R : RepM h mi u l ma) (hj : mlen[j]? = some m) (h0 : mtag j = 0) (hm : m < 100) (hf : ∀ r, r < m → ma j r = f r) (H : Q (nI (thr f m)) h) : f_X12_there (103 + j) (nI m) h Q := by
  refine lpA (L := L_X12_there_4 Q (103 + j) (nI m)) (fun i => nI (thr f i)) m (fun k => ⟨fun _ => H, fun q => absurd (Int32.le_refl _) q⟩) (fun i k hi K => ⟨fun q => absurd q ?_, fun _ => m_lI R rfl hj h0 (vp_in_nI hi (by omega)) ?_⟩)
  · rw [nI_leI (by omega) (by omega)]; omega
  · rw [nI_clamp (by omega), hf i hi]
    rw [thr] at K
    refine ⟨fun q => ?_, fun q => ?_⟩
    · rw [if_pos q] at K; rw [nI_1, nI_1]; exact K
    · rw [if_neg q] at K; rw [Int32.add_zero, nI_1]; exact K
theorem c_both {rd : Nat} {X : Nat → Prop} {Q : Int32 → AH → Prop} (W : WFr S) (C : Crod h rd S X) (H : Q (nI (knd S 2 (wN S))) h) : f_X5_bothWays rd h Q := by
  have hw5 := W.2.2.2.2.2.2.1
  obtain ⟨nn, hm, wy, fo, fn, fh, fw, ff, wa, st, x1, x2, x3, x4, x5, c1, c2, c3, c4, c5, c6, c7⟩ := C
  refine lpA (L := L_X5_bothWays_4 Q rd) (fun i => nI (knd S 2 i)) (wN S) (fun k => gI_of c1 rfl ⟨fun _ => H, fun q => absurd (by rw [W.2.2.1]; exact Int32.le_refl _) q⟩) (fun i k hi K => gI_of c1 rfl ⟨fun q => absurd q ?_, fun _ => ?_⟩)
  · rw [W.2.2.1, nI_leI (by omega) (by omega)]; omega
  · obtain ⟨d1, d2, d3⟩ := c7 i hi
    obtain ⟨w1, w2, -⟩ := W.2.2.2.2.2.2.2.2.2.2 i hi
    refine gR_of c1 rfl (lQ_of c5 (vp_in_nI (by omega) (by omega)) (by rw [nI_clamp (by omega)]; exact d1) ⟨_, _, kcl_wk w2, d3, ?_⟩)
    rw [nI_1, nI_1]
    rw [knd] at K
    have cs : kd S i = 0 ∨ kd S i = 1 ∨ kd S i = 2 ∨ kd S i = 3 ∨ kd S i = 4 ∨ kd S i = 5 := by omega
    rcases cs with e | e | e | e | e | e <;> rw [e] at K ⊢
    · exact ⟨fun _ => K, fun q => absurd rfl q⟩
    · exact ⟨fun _ => K, fun q => absurd rfl q⟩
    · exact ⟨fun q => absurd q (by decide), fun _ => K⟩
    · exact ⟨fun _ => K, fun q => absurd rfl q⟩
    · exact ⟨fun _ => K, fun q => absurd rfl q⟩
    · exact ⟨fun q => absurd q (by decide), fun _ => K⟩
theorem c_lame {rd : Nat} {X : Nat → Prop} {Q : Int32 → AH → Prop} (W : WFr S) (C : Crod h rd S X) (H : Q (nI (knd S 3 (wN S))) h) : f_X5_lameOnes rd h Q := by
  have hw5 := W.2.2.2.2.2.2.1
  obtain ⟨nn, hm, wy, fo, fn, fh, fw, ff, wa, st, x1, x2, x3, x4, x5, c1, c2, c3, c4, c5, c6, c7⟩ := C
  refine lpA (L := L_X5_lameOnes_4 Q rd) (fun i => nI (knd S 3 i)) (wN S) (fun k => gI_of c1 rfl ⟨fun _ => H, fun q => absurd (by rw [W.2.2.1]; exact Int32.le_refl _) q⟩) (fun i k hi K => gI_of c1 rfl ⟨fun q => absurd q ?_, fun _ => ?_⟩)
  · rw [W.2.2.1, nI_leI (by omega) (by omega)]; omega
  · obtain ⟨d1, d2, d3⟩ := c7 i hi
    obtain ⟨w1, w2, -⟩ := W.2.2.2.2.2.2.2.2.2.2 i hi
    refine gR_of c1 rfl (lQ_of c5 (vp_in_nI (by omega) (by omega)) (by rw [nI_clamp (by omega)]; exact d1) ⟨_, _, kcl_wk w2, d3, ?_⟩)
    rw [nI_1, nI_1]
    rw [knd] at K
    have cs : kd S i = 0 ∨ kd S i = 1 ∨ kd S i = 2 ∨ kd S i = 3 ∨ kd S i = 4 ∨ kd S i = 5 := by omega
    rcases cs with e | e | e | e | e | e <;> rw [e] at K ⊢
    · exact ⟨fun _ => K, fun q => absurd rfl q⟩
    · exact ⟨fun _ => K, fun q => absurd rfl q⟩
    · exact ⟨fun _ => K, fun q => absurd rfl q⟩
    · exact ⟨fun q => absurd q (by decide), fun _ => K⟩
    · exact ⟨fun q => absurd q (by decide), fun _ => K⟩
    · exact ⟨fun _ => K, fun q => absurd rfl q⟩
theorem m_isOf {k v : Nat} {Q : Int32 → AH → Prop} (hk : k < 9) (hv : v < 9) (H : Q (if iofB k v then 1 else 0) h) : f_X12_isOf (nI k) (nI v) h Q := by
  unfold f_X12_isOf B_X12_isOf_15 B_X12_isOf_25
  have e5 : (nI k = (5 : Int32)) = (k = 5) := propext (nI_eqI (b := 5) (by omega) (by omega))
  have e4 : (nI k = (4 : Int32)) = (k = 4) := propext (nI_eqI (b := 4) (by omega) (by omega))
  have e3 : (nI v = (3 : Int32)) = (v = 3) := propext (nI_eqI (b := 3) (by omega) (by omega))
  have e2 : (nI v = (2 : Int32)) = (v = 2) := propext (nI_eqI (b := 2) (by omega) (by omega))
  rw [e5, e4, e3, e2, nI_eqI (by omega) (by omega)]
  have yes : (k = v ∨ (k = 4 ∧ v = 3) ∨ (k = 5 ∧ v = 2)) → Q 1 h := fun z => by
    unfold iofB at H
    rw [decide_eq_true z] at H
    exact H
  have no : ¬ (k = v ∨ (k = 4 ∧ v = 3) ∨ (k = 5 ∧ v = 2)) → Q 0 h := fun z => by
    unfold iofB at H
    rw [decide_eq_false z] at H
    exact H
  refine ⟨fun z => yes (by omega), fun z => ⟨fun z4 => ⟨fun z5 => no (by omega), fun z5 => ⟨fun z2 => no (by omega), fun z2 => yes (by omega)⟩⟩, fun z4 => ⟨fun z3 => yes (by omega), fun z3 => ⟨fun z5 => no (by omega), fun z5 => by omega⟩⟩⟩⟩
theorem m_ofKind {v : Nat} {Q : Int32 → AH → Prop} (W : WFr S) (Rd : LkR S ma) (A12 : mi 12 = S 9 0 0) (R : RepM h mi u l ma) (hv : v < 9) (H : Q (nI (knd S v (wN S))) h) : f_X12_ofKind 102 (nI v) h Q := by
  have hw5 := W.2.2.2.2.2.2.1
  refine lpA (L := L_X12_ofKind_4 Q 102 (nI v)) (fun i => nI (knd S v i)) (wN S) (fun k => m_gI R (mg12 _ _ _) ⟨fun _ => H, fun q => absurd (by rw [A12, W.2.2.1]; exact Int32.le_refl _) q⟩) (fun i k hi K => m_gI R (mg12 _ _ _) ⟨fun q => absurd q ?_, fun _ => m_kind W Rd (MS.any R) hi ?_⟩)
  · rw [A12, W.2.2.1, nI_leI (by omega) (by omega)]; omega
  · obtain ⟨w1, w2, -⟩ := W.2.2.2.2.2.2.2.2.2.2 i hi
    refine m_isOf (by omega) hv ?_
    rw [nI_1]
    rw [knd] at K
    cases e : iofB (kd S i) v with
    | false => rw [e] at K; exact ⟨fun _ => by rw [Int32.add_zero]; exact K, fun q => absurd rfl q⟩
    | true => rw [e] at K; exact ⟨fun q => absurd q (by decide), fun _ => by rw [nI_1]; exact K⟩
theorem m_lost {c : Nat} {Q : Int32 → AH → Prop} (W : WFr S) (A10 : mi 10 = S 8 0 0) (A17 : mi 17 = nI c) (hc : c < 32768) (R : RepM h mi u l ma) (H : Q (nI (hpA S c 7 (sN S))) h) : ∃ n, L_X12_count_66 Q 102 n (0 : Int32) (0 : Int32) h := by
  have hs5 := W.2.2.2.2.2.1
  refine lpA (L := L_X12_count_66 Q 102) (fun i => nI (hpA S c 7 i)) (sN S) (fun k => m_gI R (mg10 _ _ _) ⟨fun _ => H, fun q => absurd (by rw [A10, W.2.1]; exact Int32.le_refl _) q⟩) (fun i k hi K => m_gI R (mg10 _ _ _) ⟨fun q => absurd q ?_, fun _ => m_gI R (mg17 _ _ _) ?_⟩)
  · rw [A10, W.2.1, nI_leI (by omega) (by omega)]; omega
  · have hd := dig_lt c i
    rw [A17]
    refine m_spot hc (by omega) ?_
    rw [show (7 : Int32) = nI 7 from rfl, nI_eqI (by omega) (by omega), nI_1]
    rw [hpA] at K
    refine ⟨fun q => ?_, fun q => ?_⟩
    · rw [if_neg q] at K; rw [Int32.add_zero]; exact K
    · rw [if_pos q] at K; rw [nI_1]; exact K
theorem c_count {v : Int32} {Q : Int32 → AH → Prop} (R : RC h S u l n) (W : WF S) (H : ∀ k : Nat, k < 9 → v = nI k → Q (cntI S k) h) (H0 : (∀ k : Nat, k < 9 → v ≠ nI k) → Q (-1) h) : f_X11_count 1 v h Q := by
  obtain ⟨w1, w2, w3, w4, w5, w6, w7, w8⟩ := id W
  have cb := Cd_lt w3 w4.2
  obtain ⟨rd, X, c1, C, xr⟩ := R.road
  refine ⟨fun z => c_posts R (H 0 (by omega) z), fun z => c_stones R (H 1 (by omega) z), fun z => gR_of c1 rfl (gI_of c1 rfl ⟨C.o, C.o, ?_⟩), fun z => c_walkers R (H 3 (by omega) z), fun z => c_gI R (fun _ => rfl) (H 4 (by omega) z), fun z => gR_of c1 rfl ⟨C.o, c_both w3 C (H 5 (by omega) z)⟩, fun z => c_gR R (fun _ => rfl) (c_there R.rows (by omega) (H 6 (by omega) z)), fun z => c_gR R (fun _ => rfl) (c_there R.texts (by omega) (H 7 (by omega) z)), fun z => gR_of c1 rfl ⟨C.o, c_lame w3 C (H 8 (by omega) z)⟩, fun z0 z1 z2 z3 z4 z5 z6 z7 z8 => H0 fun k hk e => ?_⟩
  · rw [w4.1]
    exact c_heap (p := 7) w3 C cb (by omega) (H 2 (by omega) z)
  · have cs : k = 0 ∨ k = 1 ∨ k = 2 ∨ k = 3 ∨ k = 4 ∨ k = 5 ∨ k = 6 ∨ k = 7 ∨ k = 8 := by omega
    rcases cs with y | y | y | y | y | y | y | y | y <;> subst y
    · exact z0 e
    · exact z1 e
    · exact z2 e
    · exact z3 e
    · exact z4 e
    · exact z5 e
    · exact z6 e
    · exact z7 e
    · exact z8 e
theorem m_count {v : Int32} {Q : Int32 → AH → Prop} (M : RM h S u l) (W : WF S) (H : ∀ k : Nat, k < 9 → v = nI k → Q (cntI S k) h) (H0 : (∀ k : Nat, k < 9 → v ≠ nI k) → Q (-1) h) : f_X12_count 102 v h Q := by
  obtain ⟨w1, w2, w3, w4, w5, w6, w7, w8⟩ := id W
  have cb := Cd_lt w3 w4.2
  obtain ⟨mi, ma, R, A, Wm, T, F, Rd, Lg, Kp⟩ := id M
  obtain ⟨a1, a2, a3, a4, a5, a6, a7, a8⟩ := id A
  refine ⟨fun z => m_gI R (mg9 _ _ _) (by rw [a3]; exact H 0 (by omega) z), fun z => m_gI R (mg10 _ _ _) (by rw [a4]; exact H 1 (by omega) z), fun z => m_lost w3 a4 (a7.trans w4.1) cb R (H 2 (by omega) z), fun z => m_gI R (mg12 _ _ _) (by rw [a5]; exact H 3 (by omega) z), fun z => m_gI R (mg20 _ _ _) (by rw [a8]; exact H 4 (by omega) z), fun z => ⟨R.o, m_ofKind (v := 2) w3 Rd a5 R (by omega) (H 5 (by omega) z)⟩, fun z => m_gR R (mr0 _ _ _) (m_there (j := 0) (m := 6) R rfl rfl (by omega) (fun r hr => Wm.1 r hr) (H 6 (by omega) z)), fun z => m_gR R (mr2 _ _ _) (m_there (j := 2) (m := 4) R rfl rfl (by omega) (fun r hr => T.1 r hr) (H 7 (by omega) z)), fun z => ⟨R.o, m_ofKind (v := 3) w3 Rd a5 R (by omega) (H 8 (by omega) z)⟩, fun z0 z1 z2 z3 z4 z5 z6 z7 z8 => H0 fun k hk e => ?_⟩
  have cs : k = 0 ∨ k = 1 ∨ k = 2 ∨ k = 3 ∨ k = 4 ∨ k = 5 ∨ k = 6 ∨ k = 7 ∨ k = 8 := by omega
  rcases cs with y | y | y | y | y | y | y | y | y <;> subst y
  · exact z0 e
  · exact z1 e
  · exact z2 e
  · exact z3 e
  · exact z4 e
  · exact z5 e
  · exact z6 e
  · exact z7 e
  · exact z8 e
theorem op_count {v : Int32} (I : Inv h n) : f_X11_count 1 v h (fun x h1 => f_X12_count 102 v h1 (fun y h2 => x = y ∧ Inv h2 n)) := by
  obtain ⟨S, u, l, R, M, W⟩ := I
  refine c_count R W (fun k hk e => m_count M W (fun k2 hk2 e2 => ?_) (fun z => absurd e (z k hk))) (fun z => m_count M W (fun k2 hk2 e2 => absurd e2 (z k2 hk2)) (fun _ => ⟨rfl, S, u, l, R, M, W⟩))
  have : k = k2 := (nI_eqI (by omega) (by omega)).mp (e.symm.trans e2)
  subst this
  exact ⟨rfl, S, u, l, R, M, W⟩
end COUNT
