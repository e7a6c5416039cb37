def kcl (k : Nat) : Nat := if k = 0 then 10 else if k = 1 then 1 else if k = 2 then 0 else if k = 3 then 2 else if k = 4 then 8 else 3
def homI (S : SS) (k : Nat) : Int32 := if nu S k ≤ pN S then nI (nu S k - 1) else -9
def wayI (S : SS) (k p : Nat) : Int32 := if nu S k ≤ pN S then nI (ds S k p) else 7
/-- a road's object, its rows, its walkers, all at addresses of X -/
def Crod (h : AH) (rd : Nat) (S : SS) (X : Nat → Prop) : Prop := ∃ (n hm wy fo : Nat) (fn fh fw : Nat → Int32) (ff : Nat → Option Nat) (wa : Nat → Nat) (st : Int32), X rd ∧ X n ∧ X hm ∧ X wy ∧ X fo ∧
  h.2.2 rd = some (.inr (5, [.ref n, .ref hm, .ref wy, .ref fo, .int (S 7 0 0), .int (S 8 0 0), .int (S 9 0 0), .int st, .int (nI (cod (fun k => if nu S k ≤ pN S then 7 else 0) (sN S))), .int (nI (cod (fun k => if nu S k ≤ pN S then nu S k - 1 else 0) (sN S)))])) ∧
  h.2.2 n = some (.inl (0, 5, .inl fn)) ∧ h.2.2 hm = some (.inl (0, 5, .inl fh)) ∧ h.2.2 wy = some (.inl (0, 40, .inl fw)) ∧ h.2.2 fo = some (.inl (4, 5, .inr (.inr (.inr (.inr ff))))) ∧
  (∀ k, k < sN S → fn k = S 10 k 0 ∧ fh k = homI S k ∧ ∀ p, p < 8 → fw (8 * k + p) = wayI S k p) ∧
  ∀ w, w < wN S → ff w = some (wa w) ∧ X (wa w) ∧ h.2.2 (wa w) = some (.inr (kcl (kd S w), [.int (S 12 w 0), .int (S 13 w 0)]))
/-- of two states: the same road -/
def sameR (S S1 : SS) : Prop := ∀ c i j, 7 ≤ c → c ≤ 13 → S1 c i j = S c i j
theorem sameR.rf {S : SS} : sameR S S := fun _ _ _ _ _ => rfl
section SR
variable {S S1 : SS} (H : sameR S S1)
theorem sr_p (H : sameR S S1) : pN S1 = pN S := by unfold pN; rw [H 7 0 0 (by omega) (by omega)]
theorem sr_s (H : sameR S S1) : sN S1 = sN S := by unfold sN; rw [H 8 0 0 (by omega) (by omega)]
theorem sr_w (H : sameR S S1) : wN S1 = wN S := by unfold wN; rw [H 9 0 0 (by omega) (by omega)]
theorem sr_nu (H : sameR S S1) : nu S1 = nu S := by funext k; unfold nu; rw [H 10 k 0 (by omega) (by omega)]
theorem sr_kd (H : sameR S S1) : kd S1 = kd S := by funext k; unfold kd; rw [H 11 k 0 (by omega) (by omega)]
theorem sr_fr (H : sameR S S1) : fr S1 = fr S := by funext k; unfold fr; rw [H 12 k 0 (by omega) (by omega)]
theorem sr_to (H : sameR S S1) : to_ S1 = to_ S := by funext k; unfold to_; rw [H 13 k 0 (by omega) (by omega)]
theorem sr_ds (H : sameR S S1) : ds S1 = ds S := by funext k p; unfold ds; rw [sr_nu H, sr_p H]
theorem sr_ahb (H : sameR S S1) : ahb S1 = ahb S := by funext l k j p; unfold ahb; rw [sr_nu H, sr_ds H]
theorem sr_tkn (H : sameR S S1) (sp : Nat → Nat) (p law : Nat) : ∀ n, tkn S1 sp p law n = tkn S sp p law n
  | 0 => rfl
  | n + 1 => by unfold tkn; rw [sr_tkn H sp p law n, sr_ahb H]
theorem sr_tk (H : sameR S S1) : tk S1 = tk S := by funext sp p law; unfold tk; rw [sr_s H, sr_tkn H]
theorem sr_fpo (H : sameR S S1) (sp : Nat → Nat) (law b : Nat) : ∀ n a, fpo S1 sp law b n a = fpo S sp law b n a
  | 0, a => rfl
  | n + 1, a => by
    unfold fpo
    rw [sr_tk H]
    by_cases h : a = b
    · rw [if_pos h, if_pos h]
    · rw [if_neg h, if_neg h]
      cases tk S sp a law with
      | none => exact sr_fpo H sp law b n (nxt a b)
      | some x => rfl
theorem sr_tput (H : sameR S S1) : tput S1 = tput S := by funext t k q; unfold tput; rw [sr_nu H]
theorem sr_tmv (H : sameR S S1) (law p q : Nat) : ∀ n t, tmv S1 law p q n t = tmv S law p q n t
  | 0, t => rfl
  | n + 1, t => by
    unfold tmv
    rw [sr_tk H, sr_tput H]
    cases tk S t.1 p law with
    | none => exact sr_tmv H law p q n t
    | some k => exact sr_tmv H law p q n _
theorem sr_crr (H : sameR S S1) : crr S1 = crr S := by
  funext law a b much far t
  unfold crr
  rw [sr_fpo H]
  dsimp only
  rw [sr_tmv H]
theorem sr_bhd (H : sameR S S1) : bhd S1 = bhd S := by
  funext c w law
  unfold bhd
  rw [sr_kd H, sr_fr H, sr_to H, sr_crr H, sr_tk H, sr_tput H]
theorem sr_nx (H : sameR S S1) : nx S1 = nx S := by funext law c w; unfold nx; rw [sr_bhd H, sr_s H]
theorem sr_bfw (H : sameR S S1) (law i : Nat) (B : BF) : ∀ w, bfw S1 law i B w = bfw S law i B w
  | 0 => rfl
  | w + 1 => by unfold bfw; rw [sr_bfw H law i B w, sr_nx H]
theorem sr_bfs (H : sameR S S1) (law c : Nat) : ∀ i, bfs S1 law c i = bfs S law c i
  | 0 => rfl
  | i + 1 => by unfold bfs; rw [sr_bfs H law c i, sr_w H, sr_bfw H]
theorem sr_bfa (H : sameR S S1) : bfa S1 = bfa S := by funext law c; unfold bfa; rw [sr_bfs H, sr_s H]
theorem sr_Cd (H : sameR S S1) : Cd S1 = Cd S := by funext c; unfold Cd; rw [sr_s H, sr_p H]
theorem sr_homI (H : sameR S S1) : homI S1 = homI S := by funext k; unfold homI; rw [sr_nu H, sr_p H]
theorem sr_wayI (H : sameR S S1) : wayI S1 = wayI S := by funext k p; unfold wayI; rw [sr_nu H, sr_p H, sr_ds H]
theorem sr_WFr (H : sameR S S1) (W : WFr S) : WFr S1 := by
  unfold WFr
  rw [sr_p H, sr_s H, sr_w H, sr_nu H, sr_kd H, sr_fr H, sr_to H, H 7 0 0 (by omega) (by omega), H 8 0 0 (by omega) (by omega), H 9 0 0 (by omega) (by omega)]
  obtain ⟨w1, w2, w3, w4, w5, w6, w7, w8, w9, w10, w11⟩ := W
  refine ⟨w1, w2, w3, w4, w5, w6, w7, w8, fun k hk => ?_, w10, fun w hw => ?_⟩
  · rw [H 10 k 0 (by omega) (by omega)]
    exact w9 k hk
  · rw [H 11 w 0 (by omega) (by omega), H 12 w 0 (by omega) (by omega), H 13 w 0 (by omega) (by omega)]
    exact w11 w hw
end SR
theorem Crod.keep {h h1 : AH} {rd : Nat} {S S1 : SS} {X : Nat → Prop} (C : Crod h rd S X) (ha : ∀ a, X a → h1.2.2 a = h.2.2 a) (H : sameR S S1) : Crod h1 rd S1 X := by
  obtain ⟨n, hm, wy, fo, fn, fh, fw, ff, wa, st, x1, x2, x3, x4, x5, c1, c2, c3, c4, c5, c6, c7⟩ := C
  refine ⟨n, hm, wy, fo, fn, fh, fw, ff, wa, st, x1, x2, x3, x4, x5, ?_, by rw [ha _ x2]; exact c2, by rw [ha _ x3]; exact c3, by rw [ha _ x4]; exact c4, by rw [ha _ x5]; exact c5, fun k hk => ?_, fun w hw => ?_⟩
  · rw [ha _ x1, sr_nu H, sr_p H, sr_s H, H 7 0 0 (by omega) (by omega), H 8 0 0 (by omega) (by omega), H 9 0 0 (by omega) (by omega)]
    exact c1
  · rw [sr_s H] at hk
    rw [sr_homI H, sr_wayI H, H 10 k 0 (by omega) (by omega)]
    exact c6 k hk
  · rw [sr_w H] at hw
    obtain ⟨d1, d2, d3⟩ := c7 w hw
    refine ⟨d1, d2, ?_⟩
    rw [ha _ d2, sr_kd H, H 12 w 0 (by omega) (by omega), H 13 w 0 (by omega) (by omega)]
    exact d3
def farI (o : Option Nat) : Int32 := match o with
  | none => -9
  | some d => nI d
/-- what the class keeps of a search -/
def Bok (S : SS) (law c N : Nat) (re : Int32) (ff fl fq : Nat → Int32) : Prop := 8 ^ sN S ≤ N ∧ re = nI (bfa S law c).1 ∧ (∀ i, i < (bfa S law c).1 → fq i = nI ((bfa S law c).2.1 i)) ∧ (∀ x, x < N → ff x = farI ((bfa S law c).2.2.1 x)) ∧ ∀ x d, (bfa S law c).2.2.1 x = some d → fl x = nI ((bfa S law c).2.2.2 x)
theorem sr_Bok {S S1 : SS} (H : sameR S S1) : Bok S1 = Bok S := by
  funext law c N re ff fl fq
  unfold Bok
  rw [sr_bfa H, sr_s H]
abbrev sob (sr : Nat) (ss sl ex : Int32) (fa li qu : Nat) (re ga dr rt bg ie : Int32) : va_E := .inr (7, [.ref 21, .ref 15, .ref 16, .ref 17, .ref sr, .int ss, .int sl, .int ex, .ref fa, .ref li, .ref qu, .int re, .int ga, .int dr, .int rt, .int bg, .int ie])
/-- addresses of the search's three long rows -/
def sadr (a : Nat) : Prop := (18 ≤ a ∧ a ≤ 20) ∨ 131 ≤ a
/-- the class's search; its three long rows have N places -/
def Csea (h : AH) (rd : Nat) (S : SS) (fa li qu N : Nat) : Prop := ∃ (sr : Nat) (ss sl ex re ga dr rt bg ie : Int32) (ff fl fq : Nat → Int32),
  h.2.2 14 = some (sob sr ss sl ex fa li qu re ga dr rt bg ie) ∧ Ctri h 21 ∧ (∃ f, h.2.2 15 = some (.inl (0, 4, .inl f))) ∧ (∃ f, h.2.2 16 = some (.inl (0, 125, .inl f))) ∧ (∃ f, h.2.2 17 = some (.inl (0, 10, .inl f))) ∧
  h.2.2 fa = some (.inl (0, N, .inl ff)) ∧ h.2.2 li = some (.inl (0, N, .inl fl)) ∧ h.2.2 qu = some (.inl (0, N, .inl fq)) ∧ sadr fa ∧ sadr li ∧ sadr qu ∧ fa ≠ li ∧ fa ≠ qu ∧ li ≠ qu ∧ sr < h.1 ∧ fa < h.1 ∧ li < h.1 ∧ qu < h.1 ∧ (N = 0 ∨ ∃ j, j ≤ 5 ∧ N = 8 ^ j) ∧ (ex = 0 ∨ ex = 1) ∧
  (ex = 1 → sr = rd → ∃ c law, ss = nI c ∧ sl = nI law ∧ law ≤ 2 ∧ Cd S c ∧ Bok S law c N re ff fl fq)
theorem Csea.keep {h h1 : AH} {rd : Nat} {S S1 : SS} {fa li qu N : Nat} (C : Csea h rd S fa li qu N) (ha : ∀ a, (14 ≤ a ∧ a ≤ 21) ∨ a = fa ∨ a = li ∨ a = qu → h1.2.2 a = h.2.2 a) (hn : h.1 ≤ h1.1) (H : sameR S S1) : Csea h1 rd S1 fa li qu N := by
  obtain ⟨sr, ss, sl, ex, re, ga, dr, rt, bg, ie, ff, fl, fq, c1, c2, ⟨f3, c3⟩, ⟨f4, c4⟩, ⟨f5, c5⟩, c6, c7, c8, c9, c10, c11, c12, c13, c14, c15, c16, c17, c18, c19, c20, c21⟩ := C
  refine ⟨sr, ss, sl, ex, re, ga, dr, rt, bg, ie, ff, fl, fq, by rw [ha 14 (by omega)]; exact c1, c2.keep (ha 21 (by omega)), ⟨f3, by rw [ha 15 (by omega)]; exact c3⟩, ⟨f4, by rw [ha 16 (by omega)]; exact c4⟩, ⟨f5, by rw [ha 17 (by omega)]; exact c5⟩, by rw [ha fa (by omega)]; exact c6, by rw [ha li (by omega)]; exact c7, by rw [ha qu (by omega)]; exact c8, c9, c10, c11, c12, c13, c14, by omega, by omega, by omega, by omega, c19, c20, fun e1 e2 => ?_⟩
  rw [sr_Cd H, sr_Bok H]
  exact c21 e1 e2
/-- addresses of roads -/
def radr (a : Nat) : Prop := (8 ≤ a ∧ a ≤ 12) ∨ 131 ≤ a
/-- the class's heap holds the state S, behind n calls -/
def RC (h : AH) (S : SS) (u l : Int64) (n : Nat) : Prop := ∃ (rd fa li qu N : Nat) (X : Nat → Prop), Cmain h S u l rd ∧ Carr h ∧ Crow h S ∧ Ctxt h S ∧ Cfnd h S ∧ Ckep h S ∧ Ctrp h S ∧ Ctri h 13 ∧ Csea h rd S fa li qu N ∧ Crod h rd S X ∧ (∀ a, X a → radr a ∧ a ≠ fa ∧ a ≠ li ∧ a ≠ qu ∧ a < h.1) ∧ 131 ≤ h.1 ∧ h.1 ≤ 131 + 20 * n ∧ h.2.1 ≤ 110000 + 100 * n + 4 * N
