/-! the class explores -/
def AD (fa li qu : Nat) : Prop := sadr fa ∧ sadr li ∧ sadr qu ∧ fa ≠ li ∧ fa ≠ qu ∧ li ≠ qu
def EB (h0 : AH) (rd c law fa li qu N : Nat) (ga dr rt bg ie : Int32) (B : BF) (h : AH) : Prop := h.1 = h0.1 ∧ h.2.1 = h0.2.1 ∧ (∀ x, x ≠ 14 → x ≠ 21 → x ≠ fa → x ≠ li → x ≠ qu → h.2.2 x = h0.2.2 x) ∧ h.2.2 14 = some (sob rd (nI c) (nI law) 1 fa li qu (nI B.1) ga dr rt bg ie) ∧ Ctri h 21 ∧ ∃ ff fl fq : Nat → Int32, h.2.2 fa = some (.inl (0, N, .inl ff)) ∧ h.2.2 li = some (.inl (0, N, .inl fl)) ∧ h.2.2 qu = some (.inl (0, N, .inl fq)) ∧ (∀ j, j < B.1 → fq j = nI (B.2.1 j)) ∧ (∀ x, x < N → ff x = farI (B.2.2.1 x)) ∧ ∀ x d, x < N → B.2.2.1 x = some d → fl x = nI (B.2.2.2 x)
theorem b_link {x w : Nat} (hx : x < 32768) (hw : w < 8) : (nI x <<< ((3 : Int32) &&& 31)) ||| nI w = nI (x * 8 + w) := by
  rw [pk_shlN _ 3 (by decide) (by omega)]
  refine Int32.toBitVec_inj.mp (BitVec.eq_of_toNat_eq ?_)
  rw [Int32.toBitVec_or, BitVec.toNat_or, pk_tn (by omega), pk_tn (by omega), pk_tn (by omega), show x * 2 ^ 3 = 2 ^ 3 * x by omega, ← Nat.two_pow_add_eq_or_of_lt (show w < 2 ^ 3 by omega)]
theorem b_sz {s : Nat} (hs : s ≤ 5) : (1 : Int32) <<< (((3 : Int32) * nI s) &&& 31) = nI (8 ^ s) := by
  have cs : s = 0 ∨ s = 1 ∨ s = 2 ∨ s = 3 ∨ s = 4 ∨ s = 5 := by omega
  rcases cs with e | e | e | e | e | e <;> subst e <;> decide
theorem farI_ne {d : Nat} (hd : d < 2 ^ 31) : farI (some d) ≠ -9 := nI_nn d hd
section EXPL
variable {h0 h : AH} {S : SS} {u l : Int64} {n rd c law fa li qu N : Nat} {X : Nat → Prop} {ga dr rt bg ie : Int32} {B : BF} {Q : AH → Prop}
theorem EB.o (E : EB h0 rd c law fa li qu N ga dr rt bg ie B h) : isO h 14 7 := ⟨_, E.2.2.2.1⟩
theorem e_isIn {x : Nat} {Q : Int32 → AH → Prop} (E : EB h0 rd c law fa li qu N ga dr rt bg ie B h) (hx : x < N) (hN : N ≤ 32768) (H : Q 1 h) : f_X7_isIn 14 (nI x) h Q := by
  obtain ⟨e1, e2, e3, e4, e5, ff, fl, fq, e6, e7, e8, e9, e10, e11⟩ := E
  refine ⟨fun q => absurd q (nI_n0 (by omega)), fun _ => gR_of e4 rfl (aL_of e6 ⟨fun q => absurd q ?_, fun _ => H⟩)⟩
  rw [nI_leI (by omega) (by omega)]; omega
theorem e_farTo {x : Nat} {Q : Int32 → AH → Prop} (E : EB h0 rd c law fa li qu N ga dr rt bg ie B h) (hx : x < N) (hN : N ≤ 32768) (H : Q (farI (B.2.2.1 x)) h) : f_X7_farTo 14 (nI x) h Q := by
  obtain ⟨e1, e2, e3, e4, e5, ff, fl, fq, e6, e7, e8, e9, e10, e11⟩ := id E
  refine ⟨E.o, e_isIn E hx hN (br1 (gR_of e4 rfl (lI_of e6 (vp_in_nI hx (by omega)) ?_)))⟩
  rw [nI_clamp (by omega), e10 x hx]
  exact H
theorem e_reach {x d k : Nat} (A : AD fa li qu) (E : EB h0 rd c law fa li qu N ga dr rt bg ie B h) (hx : x < N) (hN : N ≤ 32768) (hr : B.2.2.1 x = none → B.1 < N) (hd : ∀ y, B.2.2.1 x = some y → y < 2 ^ 31)
    (Hs : ∀ y, B.2.2.1 x = some y → Q h) (Hn : B.2.2.1 x = none → ∀ h1, EB h0 rd c law fa li qu N ga dr rt bg ie (badd B x d k) h1 → Q h1) : f_X7_reach 14 (nI x) (nI d) (nI k) h Q := by
  obtain ⟨e1, e2, e3, e4, e5, ff, fl, fq, e6, e7, e8, e9, e10, e11⟩ := id E
  obtain ⟨a1, a2, a3, a4, a5, a6⟩ := A
  unfold sadr at a1 a2 a3
  have vx : vp_in (nI x) N := vp_in_nI hx (by omega)
  refine ⟨E.o, e_isIn E hx hN (br1 (gR_of e4 rfl (lI_of e6 vx ?_)))⟩
  rw [nI_clamp (by omega), e10 x hx]
  cases z : B.2.2.1 x with
  | some y => exact ⟨fun _ => Hs y z, fun q => absurd q (farI_ne (hd y z))⟩
  | none =>
    have hB := hr z
    have vB : vp_in (nI B.1) N := vp_in_nI hB (by omega)
    refine ⟨fun q => absurd rfl q, fun _ => gI_of e4 rfl (gR_of e4 rfl (aL_of e8 ⟨fun q => absurd q ?_, fun _ => gR_of e4 rfl (sI_of e6 vx ?_)⟩))⟩
    · rw [nI_leI (by omega) (by omega)]; omega
    · rw [nI_clamp (by omega)]
      refine gR_of ((aput_n h _ (by omega)).trans e4) rfl (sI_of ((aput_n h _ (by omega)).trans e7) vx ?_)
      rw [nI_clamp (by omega)]
      have o14 : ∀ a b, (aput (aput h fa a) li b).2.2 14 = some (sob rd (nI c) (nI law) 1 fa li qu (nI B.1) ga dr rt bg ie) := fun a b => ((aput_n _ _ (by omega)).trans (aput_n h _ (by omega))).trans e4
      refine gR_of (o14 _ _) rfl (gI_of (o14 _ _) rfl (sI_of (((aput_n _ _ (by omega)).trans (aput_n h _ (by omega))).trans e8) vB ?_))
      rw [nI_clamp (by omega)]
      refine gI_of ((aput_n _ _ (by omega)).trans (o14 _ _)) rfl (pF_of ((aput_n _ _ (by omega)).trans (o14 _ _)) (Nat.le_of_ble_eq_true rfl) rfl ?_)
      rw [nI_1]
      refine Hn z _ ⟨e1, e2, fun y y1 y2 y3 y4 y5 => ?_, aput_s _ _ _, e5.keep ?_, upd ff x (nI d), upd fl x (nI k), upd fq B.1 (nI x), ?_, ?_, ?_, fun j hj => ?_, fun y hy => ?_, fun y dd hy hdd => ?_⟩
      · rw [aput_n _ _ y1, aput_n _ _ y5, aput_n _ _ y4, aput_n _ _ y3]
        exact e3 y y1 y2 y3 y4 y5
      · rw [aput_n _ _ (by omega), aput_n _ _ (by omega), aput_n _ _ (by omega), aput_n _ _ (by omega)]
      · rw [aput_n _ _ (by omega), aput_n _ _ (by omega), aput_n _ _ (by omega), aput_s]
      · rw [aput_n _ _ (by omega), aput_n _ _ (by omega), aput_s]
      · rw [aput_n _ _ (by omega), aput_s]
      · have hj : j < B.1 + 1 := hj
        show upd fq B.1 (nI x) j = nI (if j = B.1 then x else B.2.1 j)
        by_cases q : j = B.1
        · rw [if_pos q, q, pk_us]
        · rw [if_neg q, pk_un q, e9 j (by omega)]
      · show upd ff x (nI d) y = farI (if y = x then some d else B.2.2.1 y)
        by_cases q : y = x
        · rw [if_pos q, q, pk_us]; rfl
        · rw [if_neg q, pk_un q, e10 y hy]
      · have hdd : (if y = x then some d else B.2.2.1 y) = some dd := hdd
        show upd fl x (nI k) y = nI (if y = x then k else B.2.2.2 y)
        by_cases q : y = x
        · rw [if_pos q, q, pk_us]
        · rw [if_neg q] at hdd
          rw [if_neg q, pk_un q, e11 y dd hy hdd]
theorem EB.rod (A : AD fa li qu) (E : EB h0 rd c law fa li qu N ga dr rt bg ie B h) (C : Crod h0 rd S X) (xr : ∀ a, X a → radr a ∧ a ≠ fa ∧ a ≠ li ∧ a ≠ qu) : Crod h rd S X := C.keep (fun a ha => by
  have := xr a ha
  have r := this.1
  unfold radr at r
  exact E.2.2.1 a (by omega) (by omega) this.2.1 this.2.2.1 this.2.2.2) sameR.rf
theorem EB.p21 {r : Nat} {t1 t2 t3 t4 t5 t6 t7 : Int32} (A : AD fa li qu) (E : EB h0 rd c law fa li qu N ga dr rt bg ie B h) : EB h0 rd c law fa li qu N ga dr rt bg ie B (aput h 21 (trip r t1 t2 t3 t4 t5 t6 t7)) := by
  obtain ⟨e1, e2, e3, e4, e5, ff, fl, fq, e6, e7, e8, e9, e10, e11⟩ := E
  obtain ⟨a1, a2, a3, a4, a5, a6⟩ := A
  unfold sadr at a1 a2 a3
  exact ⟨e1, e2, fun y y1 y2 y3 y4 y5 => (aput_n h _ y2).trans (e3 y y1 y2 y3 y4 y5), (aput_n h _ (by omega)).trans e4, ⟨_, _, _, _, _, _, _, _, aput_s h 21 _⟩, ff, fl, fq, (aput_n h _ (by omega)).trans e6, (aput_n h _ (by omega)).trans e7, (aput_n h _ (by omega)).trans e8, e9, e10, e11⟩
/-- one head: all walkers -/
theorem e_head {i : Nat} {K : Int32 → AH → Prop} (A : AD fa li qu) (W : WFr S) (C : Crod h0 rd S X) (xr : ∀ a, X a → radr a ∧ a ≠ fa ∧ a ≠ li ∧ a ≠ qu) (hN : N ≤ 32768) (h8 : 8 ^ sN S ≤ N) (hl : law ≤ 2) (G : BG S law i 0 B) (hi : i < B.1) (E : EB h0 rd c law fa li qu N ga dr rt bg ie B h)
    (H : ∀ h1, EB h0 rd c law fa li qu N ga dr rt bg ie (bfw S law i B (wN S)) h1 → K (nI (i + 1)) h1) : ∃ m, L_X7_explore_60 Q K 14 (nI i) (nI (B.2.1 i)) m (0 : Int32) h := by
  have hw5 := W.2.2.2.2.2.2.1
  have x21 : ¬ X 21 := fun z => by have := (xr 21 z).1; unfold radr at this; omega
  have Di := G.2.2.1 i hi
  have Dl := Cd_lt W Di
  refine ⟨wN S + 1, lpG (L := L_X7_explore_60 Q K 14 (nI i) (nI (B.2.1 i))) (I := fun w b h1 => b = nI w ∧ EB h0 rd c law fa li qu N ga dr rt bg ie (bfw S law i B w) h1) (wN S) (fun k b h1 Y => ?_) (fun w k b h1 hw Y K2 => ?_) (wN S) 0 (by omega) 0 h ⟨rfl, E⟩⟩
  · obtain ⟨rfl, E1⟩ := Y
    refine gR_of E1.2.2.2.1 rfl (c_walkersR W (E1.rod A C xr) ⟨fun _ => ?_, fun q => absurd (Int32.le_refl _) q⟩)
    rw [nI_1]
    exact H h1 E1
  · obtain ⟨rfl, E1⟩ := Y
    have Gw := bg_bfw W G hi w (by omega)
    have nw := bfw_n (S := S) (law := law) (i := i) (B := B) w
    have qi : (bfw S law i B w).2.1 i = B.2.1 i := bfw_q hi w
    have Dn : Cd S (nx S law (B.2.1 i) w) := Cd_nx W Di hw
    have dpi := Gw.dpe (show i < (bfw S law i B w).1 by omega)
    refine gR_of E1.2.2.2.1 rfl (c_walkersR W (E1.rod A C xr) ⟨fun q => absurd q ?_, fun _ => gR_of E1.2.2.2.1 rfl (gR_of E1.2.2.2.1 rfl (gI_of E1.2.2.2.1 rfl ⟨by obtain ⟨_, _, _, _, _, _, _, _, y⟩ := E1.2.2.2.2.1; exact isO_of y, c_tbegin E1.2.2.2.2.1 fun by_ => ?_⟩))⟩)
    · rw [nI_leI (by omega) (by omega)]; omega
    · have E2 := E1.p21 (r := rd) (t1 := nI law) (t2 := nI (B.2.1 i)) (t3 := nI (B.2.1 i)) (t4 := by_) (t5 := 0) (t6 := 0) (t7 := 0) A
      refine gR_of E2.2.2.2.1 rfl ⟨isO_of (aput_s h1 21 _), c_send W ((E1.rod A C xr).put x21) x21 Di hl hw (aput_s h1 21 _) ?_⟩
      rw [aput_pp]
      have E3 : EB h0 rd c law fa li qu N ga dr rt bg ie (bfw S law i B w) (aput h1 21 (ts S rd (nI law) (nI (B.2.1 i)) (nI w) 0 0 0 (bhd S (B.2.1 i) w law))) := E1.p21 A
      refine gR_of E3.2.2.2.1 rfl (gI_of (aput_s h1 21 _) rfl ⟨E3.o, e_farTo E3 (by have := Di.1; omega) hN ⟨E3.o, ?_⟩⟩)
      rw [b_link Dl (by omega), ← qi, dpi.1]
      show f_X7_reach 14 (nI (nx S law ((bfw S law i B w).2.1 i) w)) (nI (dp (bfw S law i B w) i) + 1) _ _ _
      rw [nI_1, qi, nI_1]
      have hlt := Gw.n
      refine e_reach A E3 (by have := Dn.1; omega) hN (fun z => by have := Gw.room W Dn z; omega) (fun y z => ?_) (fun y z => ?_) (fun z h4 E4 => ?_)
      · obtain ⟨j, j1, j2⟩ := Gw.2.2.2.2.2.1 _ _ z
        have d2 := Gw.dpe j1
        rw [j2, z] at d2
        have := Option.some.inj d2.1
        omega
      · refine K2 _ _ ⟨rfl, ?_⟩
        rw [bfw_1, qi, z]
        exact E3
      · refine K2 _ _ ⟨rfl, ?_⟩
        rw [bfw_1, qi, z]
        exact E4
theorem e_all (A : AD fa li qu) (W : WFr S) (C : Crod h0 rd S X) (xr : ∀ a, X a → radr a ∧ a ≠ fa ∧ a ≠ li ∧ a ≠ qu) (hN : N ≤ 32768) (h8 : 8 ^ sN S ≤ N) (hl : law ≤ 2) (D : Cd S c)
    (H : ∀ h1, EB h0 rd c law fa li qu N ga dr rt bg ie (bfa S law c) h1 → Q h1) : ∀ (k i : Nat) (h : AH), i + k = 32769 → EB h0 rd c law fa li qu N ga dr rt bg ie (bfs S law c i) h → L_X7_explore_34 Q 14 (k + 1) (nI i) h := by
  intro k
  induction k with
  | zero =>
    intro i h hi E
    have : i = 32769 := by omega
    subst this
    have b := (bg_all (law := law) W D).2.2
    have e : bfs S law c 32769 = bfa S law c := bfa_stop (Nat.le_refl _) (by have := (bfs_n (law := law) W D 32769).2; omega)
    rw [e] at E
    refine gI_of E.2.2.2.1 rfl ⟨fun _ => H h E, fun q => absurd ?_ q⟩
    exact nI_le (by omega) (by omega)
  | succ k ih =>
    intro i h hi E
    obtain ⟨e1, e2, e3, e4, e5, ff, fl, fq, e6, e7, e8, e9, e10, e11⟩ := id E
    by_cases z : i < (bfs S law c i).1
    · have G : BG S law i 0 (bfs S law c i) := by
        rcases bg_bfs (law := law) W D i with ⟨-, G⟩ | ⟨y, -⟩
        · exact G
        · omega
      have gn := G.n
      refine gI_of e4 rfl ⟨fun q => absurd q ?_, fun _ => gR_of e4 rfl (aL_of e8 ⟨fun q => absurd q ?_, fun _ => gR_of e4 rfl (lI_of e8 (vp_in_nI (by omega) (by omega)) ?_)⟩)⟩
      · rw [nI_leI (by omega) (by omega)]; omega
      · rw [nI_leI (by omega) (by omega)]; omega
      · rw [nI_clamp (by omega), e9 i z]
        refine e_head A W C xr hN h8 hl G z E (fun h1 E1 => ih (i + 1) h1 (by omega) ?_)
        rw [bfs_go z]
        exact E1
    · have e : bfs S law c i = bfa S law c := bfa_stop (by omega) (by omega)
      have b := (bg_all (law := law) W D).2.2
      rw [e] at E z
      refine gI_of E.2.2.2.1 rfl ⟨fun _ => H h E, fun q => absurd ?_ q⟩
      exact nI_le (by omega) (by omega)
end EXPL
