/-! digest -/
def dgL (f : Nat → Int32) (x : Int64) : Nat → Int64
  | 0 => x
  | i + 1 => 31 * dgL f x i + (f i).toInt64
def dgS (S : SS) (x : Int64) : Nat → Int64
  | 0 => x
  | k + 1 => dgL (snI S k) (dgS S x k) 4
def dgW (S : SS) (x : Int64) : Nat → Int64
  | 0 => x
  | k + 1 => dgL (wkI S k) (dgW S x k) 4
def dgK (S : SS) (x : Int64) : Nat → Int64
  | 0 => x
  | i + 1 => if S 21 i 0 = -1 then 31 * dgK S x i + (-1 : Int32).toInt64 else 31 * dgL (fun k => tpI (dig (nN (S 21 i 0)) k)) (dgK S x i) (sN S) + (S 22 i 0).toInt64
def dgR (z : Nat → Int32) (f : Nat → Nat → Int32) (x : Int64) : Nat → Int64
  | 0 => x
  | r + 1 => dgL (f r) (31 * dgR z f x r + (z r).toInt64) (nN (z r))
def dgAll (S : SS) : Int64 := dgR (fun r => S 2 r 0) (fun r => S 3 r) (dgR (fun r => S 0 r 0) (fun r => S 1 r) (dgK S (dgL (fun i => S 17 i 0) (dgW S (dgS S (31 * dgL (cntI S) 17 9 + (S 15 0 0).toInt64) (sN S)) (wN S)) (dnN S)) 3) 6) 4
theorem nN_toInt (x : Int32) : nN x = x.toInt.toNat := rfl
theorem nN_le {x : Int32} (h1 : x.toInt ≤ 60) : x ≤ nI (nN x) := by
  rw [tle, nI_toInt (by rw [nN_toInt]; omega), nN_toInt]
  omega
theorem nN_lt {x : Int32} (h1 : x.toInt ≤ 60) {i : Nat} (hi : i < nN x) : (i : Int) < x.toInt ∧ i < 60 := by
  rw [nN_toInt] at hi
  omega
section DIGEST
variable {h : AH} {S : SS} {u l : Int64} {n : Nat} {Q : Int64 → AH → Prop}
theorem c_dgR {A c m b : Nat} {x : Int64} (W : RwAt h S A c m b) (hm : m < 100) (h60 : ∀ r, r < m → (S c r 0).toInt ≤ 60) (H : Q (dgR (fun r => S c r 0) (fun r => S (c + 1) r) x m) h) : f_X11_digestRows x A h Q := by
  obtain ⟨⟨f, g1, g2⟩, g3⟩ := id W
  refine lpA (L := L_X11_digestRows_5 Q A) (fun i => dgR (fun r => S c r 0) (fun r => S (c + 1) r) x i) m (fun k => ?_) (fun i k hi K => ?_)
  · show B_X11_digestRows_5 _ _ _ _ _ _
    unfold B_X11_digestRows_5
    exact aL_of g1 ⟨fun _ => H, fun q => absurd (Int32.le_refl _) q⟩
  show B_X11_digestRows_5 _ _ _ _ _ _
  unfold B_X11_digestRows_5
  refine aL_of g1 ⟨fun q => absurd q ?_, fun _ => c_rowAt W hi hm (gI_of (g3 i hi).1 rfl ?_)⟩
  · rw [nI_leI (by omega) (by omega)]; omega
  · have b60 := h60 i hi
    refine lpA (L := L_X11_digestRows_30 Q (L_X11_digestRows_5 Q A k) A (nI i)) (fun v => dgL (S (c + 1) i) (31 * dgR (fun r => S c r 0) (fun r => S (c + 1) r) x i + (S c i 0).toInt64) v) (nN (S c i 0)) (fun k2 => c_rowAt W hi hm (gI_of (g3 i hi).1 rfl ⟨fun _ => by rw [nI_1]; exact K, fun q => absurd (nN_le b60) q⟩)) (fun v k2 hv K2 => c_rowAt W hi hm (gI_of (g3 i hi).1 rfl ⟨fun q => absurd q ?_, fun _ => c_rowAt W hi hm ⟨W.o hi, c_get (g3 i hi) b60 (fun q => absurd ⟨nI_pos' (by have := nN_lt b60 hv; omega), ?_⟩ q) (fun y e y1 y2 => ?_)⟩⟩))
    · have := nN_lt b60 hv
      rw [tle, nI_toInt (by omega)]; omega
    · have := nN_lt b60 hv
      have e2 : v = y := (nI_eqI (by omega) (by omega)).mp e
      subst e2
      rw [nI_1]
      exact K2
    · have := nN_lt b60 hv
      rw [tl, nI_toInt (by omega)]; omega
theorem c_dgK {x : Int64} (R : RC h S u l n) (W : WF S) (H : Q (dgK S x 3) h) : f_X11_digestKept 1 x h Q := by
  obtain ⟨w1, w2, w3, w4, w5, w6, w7, w8⟩ := id W
  have hs5 := w3.2.2.2.2.2.1
  obtain ⟨_, _, _, _, _, _, -, -, -, -, -, ⟨f, g, hf, hg, hk⟩, -⟩ := id R
  refine lpA (L := L_X11_digestKept_5 Q 1) (fun i => dgK S x i) 3 (fun k => ⟨fun _ => H, fun q => absurd (Int32.le_refl _) q⟩) (fun i k hi K => ⟨fun q => absurd q ?_, fun _ => c_gR R (fun _ => rfl) (lI_of hg (vp_in_nI hi (by omega)) ?_)⟩)
  · rw [show (3 : Int32) = nI 3 from rfl, nI_leI (by omega) (by omega)]; omega
  · rw [nI_clamp (by omega)]
    rcases hk i hi with ⟨e1, e2⟩ | ⟨e1, e2, e3, e4⟩
    · refine ⟨fun q => absurd e2 q, fun _ => ?_⟩
      rw [dgK, if_pos e1] at K
      rw [nI_1, Int64.sub_eq_add_neg]
      exact K
    · have ne : ¬ S 21 i 0 = -1 := fun z => by rw [z] at e1; exact absurd e1 (by decide)
      rw [dgK, if_neg ne] at K
      obtain ⟨cc, rr, y1, y2, y3, y4⟩ : ∃ c r, S 21 i 0 = nI c ∧ Cd S c ∧ S 22 i 0 = nI r ∧ r ≤ 2 := by
        rcases w8 i hi with e | e
        · exact absurd e ne
        · exact e
      have clt := Cd_lt w3 y2
      have en : nN (S 21 i 0) = cc := by rw [y1]; exact nI_clamp (by omega)
      rw [en] at K
      refine ⟨fun _ => ?_, fun q => absurd q e4⟩
      refine lpA (L := L_X11_digestKept_37 Q (L_X11_digestKept_5 Q 1 k) 1 (nI i)) (fun v => dgL (fun k => tpI (dig cc k)) (dgK S x i) v) (sN S) (fun k2 => c_stones R ⟨fun _ => c_gR R (fun _ => rfl) (lI_of hg (vp_in_nI hi (by omega)) ?_), fun q => absurd (by rw [w3.2.1]; exact Int32.le_refl _) q⟩) (fun v k2 hv K2 => c_stones R ⟨fun q => absurd q ?_, fun _ => c_gR R (fun _ => rfl) (lI_of hf (vp_in_nI hi (by omega)) ?_)⟩)
      · rw [nI_clamp (by omega), e3, nI_1]
        exact K
      · rw [w3.2.1, nI_leI (by omega) (by omega)]; omega
      · rw [nI_clamp (by omega), e2, y1, nI_1]
        exact c_tell clt (by omega) K2
theorem c_digest (R : RC h S u l n) (W : WF S) (H : Q (dgAll S) h) : f_X11_digest 1 h Q := by
  obtain ⟨w1, w2, w3, w4, w5, w6, w7, w8⟩ := id W
  have hs5 := w3.2.2.2.2.2.1
  have hw5 := w3.2.2.2.2.2.2.1
  obtain ⟨⟨f4, g4, g5⟩, C7⟩ := R.trp
  have p5 : ∀ x, Q (dgR (fun r => S 2 r 0) (fun r => S 3 r) (dgR (fun r => S 0 r 0) (fun r => S 1 r) (dgK S x 3) 6) 4) h → B_X11_digest_180 Q 1 x h := fun x z => ⟨R.o, c_dgK R W (c_gR R (fun _ => rfl) (c_dgR R.rows (by omega) (fun r hr => (w1 r hr).2) (c_gR R (fun _ => rfl) (c_dgR R.texts (by omega) (fun r hr => (w2 r hr).2) z))))⟩
  have p4 : ∀ x, B_X11_digest_180 Q 1 (dgL (fun i => S 17 i 0) x (dnN S)) h → ∃ n, L_X11_digest_143 Q 1 n x (0 : Int32) h := fun x z => by
    refine lpA (L := L_X11_digest_143 Q 1) (fun i => dgL (fun i => S 17 i 0) x i) (dnN S) (fun k => c_gI R (fun _ => rfl) ⟨fun _ => z, fun q => absurd (by rw [w6.1]; exact Int32.le_refl _) q⟩) (fun i k hi K => c_gI R (fun _ => rfl) ⟨fun q => absurd q ?_, fun _ => ⟨fun q => absurd q ?_, fun _ => c_gR R (fun _ => rfl) (lQ_of g4 (vp_in_nI (by omega) (by omega)) (by rw [nI_clamp (by omega)]; exact g5 i (by omega)) ?_)⟩⟩)
    · rw [w6.1, nI_leI (by omega) (by omega)]; omega
    · rw [show (60 : Int32) = nI 60 from rfl, nI_leI (by omega) (by omega)]; omega
    · obtain ⟨a1, a2, a3, a4, a5, a6, a7, a8, z, zz⟩ := C7 i (by omega)
      obtain ⟨b1, b2, b3, b4⟩ := zz (by rw [w6.1]; exact nI_lt (by omega) (by omega))
      refine gI_of z rfl ?_
      rw [b2, nI_1]
      exact K
  have p3 : ∀ x, (∃ n, L_X11_digest_143 Q 1 n (dgW S x (wN S)) (0 : Int32) h) → ∃ n, L_X11_digest_94 Q 1 n x (0 : Int32) h := fun x z => by
    refine lpA (L := L_X11_digest_94 Q 1) (fun i => dgW S x i) (wN S) (fun k => c_walkers R ⟨fun _ => z, fun q => absurd (by rw [w3.2.2.1]; exact Int32.le_refl _) q⟩) (fun i k hi K => c_walkers R ⟨fun q => absurd q ?_, fun _ => lpA (L := L_X11_digest_108 Q (L_X11_digest_94 Q 1 k) 1 (nI i)) (fun v => dgL (wkI S i) (dgW S x i) v) 4 (fun k2 => ⟨fun _ => by rw [nI_1]; exact K, fun q => absurd (Int32.le_refl _) q⟩) (fun v k2 hv K2 => ⟨fun q => absurd q ?_, fun _ => ⟨R.o, c_ofWalker R W hi hv (by rw [nI_1]; exact K2)⟩⟩)⟩)
    · rw [w3.2.2.1, nI_leI (by omega) (by omega)]; omega
    · rw [show (4 : Int32) = nI 4 from rfl, nI_leI (by omega) (by omega)]; omega
  have p2 : ∀ x, (∃ n, L_X11_digest_94 Q 1 n (dgS S x (sN S)) (0 : Int32) h) → ∃ n, L_X11_digest_45 Q 1 n x (0 : Int32) h := fun x z => by
    refine lpA (L := L_X11_digest_45 Q 1) (fun i => dgS S x i) (sN S) (fun k => c_stones R ⟨fun _ => z, fun q => absurd (by rw [w3.2.1]; exact Int32.le_refl _) q⟩) (fun i k hi K => c_stones R ⟨fun q => absurd q ?_, fun _ => lpA (L := L_X11_digest_59 Q (L_X11_digest_45 Q 1 k) 1 (nI i)) (fun v => dgL (snI S i) (dgS S x i) v) 4 (fun k2 => ⟨fun _ => by rw [nI_1]; exact K, fun q => absurd (Int32.le_refl _) q⟩) (fun v k2 hv K2 => ⟨fun q => absurd q ?_, fun _ => ⟨R.o, c_ofStone R W hi hv (by rw [nI_1]; exact K2)⟩⟩)⟩)
    · rw [w3.2.1, nI_leI (by omega) (by omega)]; omega
    · rw [show (4 : Int32) = nI 4 from rfl, nI_leI (by omega) (by omega)]; omega
  refine lpA (L := L_X11_digest_6 Q 1) (fun i => dgL (cntI S) 17 i) 9 (fun k => ⟨fun _ => c_gI R (fun _ => rfl) (p2 _ (p3 _ (p4 _ (p5 _ H)))), fun q => absurd (by decide) q⟩) (fun i k hi K => ⟨fun q => absurd q ?_, fun _ => ⟨R.o, c_count R W (fun k2 hk2 e2 => ?_) (fun z => absurd rfl (z i hi))⟩⟩)
  · rw [show (8 : Int32) = nI 8 from rfl, nI_ltI (by omega) (by omega)]; omega
  · have : i = k2 := (nI_eqI (by omega) (by omega)).mp e2
    subst this
    rw [nI_1]
    exact K
theorem m_digest (M : RM h S u l) (W : WF S) (H : Q (dgAll S) h) : f_X12_digest 102 h Q := by
  obtain ⟨w1, w2, w3, w4, w5, w6, w7, w8⟩ := id W
  have hs5 := w3.2.2.2.2.2.1
  have hw5 := w3.2.2.2.2.2.2.1
  have cb := Cd_lt w3 w4.2
  obtain ⟨mi, ma, R, A, Wm, T, F, Rd, Lg, Kp⟩ := id M
  obtain ⟨a1, a2, a3, a4, a5, a6, a7, a8⟩ := id A
  have any := MS.any (S := S) R
  have p7 : ∀ x, Q (dgR (fun r => S 2 r 0) (fun r => S 3 r) x 4) h → ∃ n, L_X12_digest_368 Q 102 n x (0 : Int32) h := fun x z => by
    refine lpA (L := L_X12_digest_368 Q 102) (fun i => dgR (fun r => S 2 r 0) (fun r => S 3 r) x i) 4 (fun k => ⟨fun _ => z, fun q => absurd (Int32.le_refl _) q⟩) (fun i k hi K => ⟨fun q => absurd q ?_, fun _ => m_tsize hi M ?_⟩)
    · rw [show (4 : Int32) = nI 4 from rfl, nI_leI (by omega) (by omega)]; omega
    · have b60 := (w2 i hi).2
      refine lpA (L := L_X12_digest_390 Q (L_X12_digest_368 Q 102 k) 102 (nI i)) (fun v => dgL (S 3 i) (31 * dgR (fun r => S 2 r 0) (fun r => S 3 r) x i + (S 2 i 0).toInt64) v) (nN (S 2 i 0)) (fun k2 => m_tsize hi M ⟨fun _ => by rw [nI_1]; exact K, fun q => absurd (nN_le b60) q⟩) (fun v k2 hv K2 => m_tsize hi M ⟨fun q => absurd q ?_, fun _ => m_tplace hi (nN_lt b60 hv).2 (nN_lt b60 hv).1 M (by rw [nI_1]; exact K2)⟩)
      have := nN_lt b60 hv
      rw [tle, nI_toInt (by omega)]; omega
  have p6 : ∀ x, (∃ n, L_X12_digest_368 Q 102 n (dgR (fun r => S 0 r 0) (fun r => S 1 r) x 6) (0 : Int32) h) → ∃ n, L_X12_digest_300 Q 102 n x (0 : Int32) h := fun x z => by
    refine lpA (L := L_X12_digest_300 Q 102) (fun i => dgR (fun r => S 0 r 0) (fun r => S 1 r) x i) 6 (fun k => ⟨fun _ => z, fun q => absurd (Int32.le_refl _) q⟩) (fun i k hi K => ⟨fun q => absurd q ?_, fun _ => m_size hi M ?_⟩)
    · rw [show (6 : Int32) = nI 6 from rfl, nI_leI (by omega) (by omega)]; omega
    · have b60 := (w1 i hi).2
      refine lpA (L := L_X12_digest_323 Q (L_X12_digest_300 Q 102 k) 102 (nI i)) (fun v => dgL (S 1 i) (31 * dgR (fun r => S 0 r 0) (fun r => S 1 r) x i + (S 0 i 0).toInt64) v) (nN (S 0 i 0)) (fun k2 => m_size hi M ⟨fun _ => by rw [nI_1]; exact K, fun q => absurd (nN_le b60) q⟩) (fun v k2 hv K2 => m_size hi M ⟨fun q => absurd q ?_, fun _ => m_place hi (nN_lt b60 hv).2 (nN_lt b60 hv).1 M (by rw [nI_1]; exact K2)⟩)
      have := nN_lt b60 hv
      rw [tle, nI_toInt (by omega)]; omega
  have p5 : ∀ x, (∃ n, L_X12_digest_300 Q 102 n (dgK S x 3) (0 : Int32) h) → ∃ n, L_X12_digest_211 Q 102 n x (0 : Int32) h := fun x z => by
    refine lpA (L := L_X12_digest_211 Q 102) (fun i => dgK S x i) 3 (fun k => ⟨fun _ => z, fun q => absurd (Int32.le_refl _) q⟩) (fun i k hi K => ⟨fun q => absurd q ?_, fun _ => ?_⟩)
    · rw [show (3 : Int32) = nI 3 from rfl, nI_leI (by omega) (by omega)]; omega
    · have kp : ∀ K : Int32 → Prop, K (S 21 i 0) → gR h 102 12 25 (fun a => lI h a (nI i) K) := fun K z => m_gR R (mr25 _ _ _) (m_lI R (j := 15) rfl rfl rfl (vp_in_nI hi (by omega)) (by rw [nI_clamp (by omega), (Kp i hi).1]; exact z))
      rcases w8 i hi with e | ⟨cc, rr, y1, y2, y3, y4⟩
      · have fin : B_X12_digest_265 Q (L_X12_digest_211 Q 102 k) 102 (dgK S x i) (nI i) h := by
          refine kp _ ?_
          rw [e]
          refine ⟨fun q => absurd q (by decide), fun _ => ?_⟩
          rw [dgK, if_pos e] at K
          rw [nI_1]
          exact K
        refine ⟨1, m_gI R (mg10 _ _ _) ⟨fun _ => fin, fun _ => kp _ ⟨fun _ => fin, fun q => absurd (by rw [e]; decide) q⟩⟩⟩
      · have clt := Cd_lt w3 y2
        have pos : 0 ≤ S 21 i 0 := by rw [y1]; exact nI_pos' (by omega)
        have ne : ¬ S 21 i 0 = -1 := fun z => by rw [z] at pos; exact absurd pos (by decide)
        have en : nN (S 21 i 0) = cc := by rw [y1]; exact nI_clamp (by omega)
        rw [dgK, if_neg ne, en] at K
        refine lpA (L := L_X12_digest_219 Q (L_X12_digest_211 Q 102 k) 102 (nI i)) (fun v => dgL (fun k => tpI (dig cc k)) (dgK S x i) v) (sN S) (fun k2 => m_gI R (mg10 _ _ _) ⟨fun _ => kp _ ⟨fun _ => m_gR R (mr26 _ _ _) (m_lI R (j := 16) rfl rfl rfl (vp_in_nI hi (by omega)) ?_), fun q => absurd pos q⟩, fun q => absurd (by rw [a4, w3.2.1]; exact Int32.le_refl _) q⟩) (fun v k2 hv K2 => m_gI R (mg10 _ _ _) ⟨fun q => absurd q ?_, fun _ => kp _ ⟨fun q => absurd pos (Int32.not_le.mpr q), fun _ => kp _ ?_⟩⟩)
        · rw [nI_clamp (by omega), (Kp i hi).2 pos, nI_1]
          exact K
        · rw [a4, w3.2.1, nI_leI (by omega) (by omega)]; omega
        · rw [y1]
          exact m_spot clt (by omega) (m_tellP (dig_lt cc v) (by rw [nI_1]; exact K2))
  have p4 : ∀ x, (∃ n, L_X12_digest_211 Q 102 n (dgL (fun i => S 17 i 0) x (dnN S)) (0 : Int32) h) → ∃ n, L_X12_digest_181 Q 102 n x (0 : Int32) h := fun x z => by
    refine lpA (L := L_X12_digest_181 Q 102) (fun i => dgL (fun i => S 17 i 0) x i) (dnN S) (fun k => m_gI R (mg20 _ _ _) ⟨fun _ => z, fun q => absurd (by rw [a8, w6.1]; exact Int32.le_refl _) q⟩) (fun i k hi K => m_gI R (mg20 _ _ _) ⟨fun q => absurd q ?_, fun _ => m_gR R (mr21 _ _ _) (m_lI R (j := 11) rfl rfl rfl (vp_in_nI (by omega) (by omega)) ?_)⟩)
    · rw [a8, w6.1, nI_leI (by omega) (by omega)]; omega
    · rw [nI_clamp (by omega), (Lg.2.2 i hi).1, nI_1]
      exact K
  have p3 : ∀ x, (∃ n, L_X12_digest_181 Q 102 n (dgW S x (wN S)) (0 : Int32) h) → ∃ n, L_X12_digest_115 Q 102 n x (0 : Int32) h := fun x z => by
    refine lpA (L := L_X12_digest_115 Q 102) (fun i => dgW S x i) (wN S) (fun k => m_gI R (mg12 _ _ _) ⟨fun _ => z, fun q => absurd (by rw [a5, w3.2.2.1]; exact Int32.le_refl _) q⟩) (fun i k hi K => m_gI R (mg12 _ _ _) ⟨fun q => absurd q ?_, fun _ => m_kind w3 Rd any hi (m_from w3 Rd any hi (m_to w3 Rd any hi (m_gR R (mr18 _ _ _) (m_lI R (j := 9) rfl rfl rfl (vp_in_nI (by omega) (by omega)) ?_))))⟩)
    · rw [a5, w3.2.2.1, nI_leI (by omega) (by omega)]; omega
    · rw [nI_clamp (by omega), Lg.1 i (by omega), nI_1]
      exact K
  have p2 : ∀ x, (∃ n, L_X12_digest_115 Q 102 n (dgS S x (sN S)) (0 : Int32) h) → ∃ n, L_X12_digest_45 Q 102 n x (0 : Int32) h := fun x z => by
    refine lpA (L := L_X12_digest_45 Q 102) (fun i => dgS S x i) (sN S) (fun k => m_gI R (mg10 _ _ _) ⟨fun _ => z, fun q => absurd (by rw [a4, w3.2.1]; exact Int32.le_refl _) q⟩) (fun i k hi K => m_gI R (mg10 _ _ _) ⟨fun q => absurd q ?_, fun _ => m_num w3 Rd any hi (m_gI R (mg17 _ _ _) ?_)⟩)
    · rw [a4, w3.2.1, nI_leI (by omega) (by omega)]; omega
    · rw [a7, w4.1]
      refine m_spot cb (by omega) (m_tellP (dig_lt _ _) ⟨R.o, m_home w3 Rd a3 any hi (m_gR R (mr19 _ _ _) (m_lI R (j := 10) rfl rfl rfl (vp_in_nI (by omega) (by omega)) ?_))⟩)
      rw [nI_clamp (by omega), Lg.2.1 i (by omega), nI_1]
      exact K
  refine lpA (L := L_X12_digest_6 Q 102) (fun i => dgL (cntI S) 17 i) 9 (fun k => ⟨fun _ => m_gI R (mg16 _ _ _) (by rw [a6]; exact p2 _ (p3 _ (p4 _ (p5 _ (p6 _ (p7 _ H)))))), fun q => absurd (by decide) q⟩) (fun i k hi K => ⟨fun q => absurd q ?_, fun _ => ⟨R.o, m_count M W (fun k2 hk2 e2 => ?_) (fun z => absurd rfl (z i hi))⟩⟩)
  · rw [show (9 : Int32) = nI 9 from rfl, nI_leI (by omega) (by omega)]; omega
  · have : i = k2 := (nI_eqI (by omega) (by omega)).mp e2
    subst this
    rw [nI_1]
    exact K
end DIGEST
theorem op_digest {h : AH} {n : Nat} (I : Inv h n) : f_X11_digest 1 h (fun x h1 => f_X12_digest 102 h1 (fun y h2 => x = y ∧ Inv h2 n)) := by
  obtain ⟨S, u, l, R, M, W⟩ := I
  exact c_digest R W (m_digest M W ⟨rfl, S, u, l, R, M, W⟩)
