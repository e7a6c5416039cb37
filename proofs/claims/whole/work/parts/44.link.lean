def smI (f : Nat → Int32) : Nat → Int32
  | 0 => 0
  | n + 1 => smI f n + f n
theorem smI_cong {f g : Nat → Int32} : ∀ {n : Nat}, (∀ i, i < n → f i = g i) → smI f n = smI g n
  | 0, _ => rfl
  | n + 1, h => by rw [smI, smI, smI_cong (fun i hi => h i (by omega)), h n (by omega)]
def dnN (S : SS) : Nat := nN (S 16 0 0)
def stN (S : SS) : Nat := nN (S 14 0 0)
def rlN (S : SS) : Nat := nN (S 15 0 0)
/-- what the model's numbers and rows are -/
def LkA (S : SS) (mi : Nat → Int32) : Prop := mi 4 = S 4 0 0 ∧ mi 7 = S 5 0 0 ∧ mi 9 = S 7 0 0 ∧ mi 10 = S 8 0 0 ∧ mi 12 = S 9 0 0 ∧ mi 16 = S 15 0 0 ∧ mi 17 = S 14 0 0 ∧ mi 20 = S 16 0 0
def LkW (S : SS) (ma : Nat → Nat → Int32) : Prop := (∀ r, r < 6 → ma 0 r = S 0 r 0) ∧ ∀ r, r < 6 → ∀ i : Nat, (i : Int) < (S 0 r 0).toInt → ma 1 (60 * r + i) = S 1 r i
def LkT (S : SS) (ma : Nat → Nat → Int32) : Prop := (∀ r, r < 4 → ma 2 r = S 2 r 0) ∧ ∀ r, r < 4 → ∀ i : Nat, (i : Int) < (S 2 r 0).toInt → ma 3 (60 * r + i) = S 3 r i
def LkF (S : SS) (ma : Nat → Nat → Int32) : Prop := ∀ i, i < 6 → ma 4 i = S 6 i 0
def LkR (S : SS) (ma : Nat → Nat → Int32) : Prop := (∀ k, k < sN S → ma 5 k = S 10 k 0) ∧ ∀ w, w < wN S → ma 6 w = S 11 w 0 ∧ ma 7 w = S 12 w 0 ∧ ma 8 w = S 13 w 0
def LkL (S : SS) (ma : Nat → Nat → Int32) : Prop := (∀ w, w < 5 → ma 9 w = smI (fun i => if S 17 i 0 = nI w then S 19 i 0 else 0) (dnN S)) ∧ (∀ k, k < 5 → ma 10 k = smI (fun i => S 20 i k) (dnN S)) ∧ ∀ i, i < dnN S → ma 11 i = S 17 i 0 ∧ ma 12 i = S 18 i 0 ∧ ma 13 i = S 19 i 0 ∧ ∀ k, k < 5 → ma 14 (5 * i + k) = S 20 i k
def LkK (S : SS) (ma : Nat → Nat → Int32) : Prop := ∀ k, k < 3 → ma 15 k = S 21 k 0 ∧ (0 ≤ S 21 k 0 → ma 16 k = S 22 k 0)
def RM (h : AH) (S : SS) (u l : Int64) : Prop := ∃ mi ma, RepM h mi u l ma ∧ LkA S mi ∧ LkW S ma ∧ LkT S ma ∧ LkF S ma ∧ LkR S ma ∧ LkL S ma ∧ LkK S ma
def WF (S : SS) : Prop := (∀ r, r < 6 → -1 ≤ (S 0 r 0).toInt ∧ (S 0 r 0).toInt ≤ 60) ∧ (∀ r, r < 4 → -1 ≤ (S 2 r 0).toInt ∧ (S 2 r 0).toInt ≤ 60) ∧ WFr S ∧ (S 14 0 0 = nI (stN S) ∧ Cd S (stN S)) ∧ (S 15 0 0 = nI (rlN S) ∧ rlN S ≤ 2) ∧ (S 16 0 0 = nI (dnN S) ∧ dnN S ≤ 60) ∧
  (∀ i, i < dnN S → (∃ b, S 17 i 0 = nI b ∧ b < wN S) ∧ (∃ c, S 18 i 0 = nI c ∧ Cd S c) ∧ (∃ p, S 19 i 0 = nI p ∧ p ≤ 100) ∧ ∀ k, ∃ m, S 20 i k = nI m ∧ m ≤ 3) ∧
  ∀ k, k < 3 → S 21 k 0 = -1 ∨ ∃ c r, S 21 k 0 = nI c ∧ Cd S c ∧ S 22 k 0 = nI r ∧ r ≤ 2
section LK
variable {S S1 : SS} {ma ma1 : Nat → Nat → Int32}
theorem LkW.keep (H : LkW S ma) (h0 : ∀ i, ma1 0 i = ma 0 i) (h1 : ∀ i, ma1 1 i = ma 1 i) (s0 : ∀ r, S1 0 r 0 = S 0 r 0) (s1 : ∀ r i, S1 1 r i = S 1 r i) : LkW S1 ma1 := ⟨fun r hr => by rw [h0, s0]; exact H.1 r hr, fun r hr i hi => by rw [h1, s1]; rw [s0] at hi; exact H.2 r hr i hi⟩
theorem LkT.keep (H : LkT S ma) (h0 : ∀ i, ma1 2 i = ma 2 i) (h1 : ∀ i, ma1 3 i = ma 3 i) (s0 : ∀ r, S1 2 r 0 = S 2 r 0) (s1 : ∀ r i, S1 3 r i = S 3 r i) : LkT S1 ma1 := ⟨fun r hr => by rw [h0, s0]; exact H.1 r hr, fun r hr i hi => by rw [h1, s1]; rw [s0] at hi; exact H.2 r hr i hi⟩
theorem LkF.keep (H : LkF S ma) (h0 : ∀ i, ma1 4 i = ma 4 i) (s0 : ∀ r, S1 6 r 0 = S 6 r 0) : LkF S1 ma1 := fun r hr => by rw [h0, s0]; exact H r hr
theorem LkR.keep (H : LkR S ma) (h0 : ∀ j i, 5 ≤ j → j ≤ 8 → ma1 j i = ma j i) (s0 : sameR S S1) : LkR S1 ma1 := by
  refine ⟨fun k hk => ?_, fun w hw => ?_⟩
  · rw [sr_s s0] at hk
    rw [h0 5 k (by omega) (by omega), s0 10 k 0 (by omega) (by omega)]
    exact H.1 k hk
  · rw [sr_w s0] at hw
    rw [h0 6 w (by omega) (by omega), h0 7 w (by omega) (by omega), h0 8 w (by omega) (by omega), s0 11 w 0 (by omega) (by omega), s0 12 w 0 (by omega) (by omega), s0 13 w 0 (by omega) (by omega)]
    exact H.2 w hw
theorem LkL.keep (H : LkL S ma) (h0 : ∀ j i, 9 ≤ j → j ≤ 14 → ma1 j i = ma j i) (s0 : ∀ c i j, 16 ≤ c → c ≤ 20 → S1 c i j = S c i j) : LkL S1 ma1 := by
  have e1 : dnN S1 = dnN S := by unfold dnN; rw [s0 16 0 0 (by omega) (by omega)]
  refine ⟨fun w hw => ?_, fun k hk => ?_, fun i hi => ?_⟩
  · rw [h0 9 w (by omega) (by omega), H.1 w hw, e1]
    exact smI_cong fun i _ => by rw [s0 17 i 0 (by omega) (by omega), s0 19 i 0 (by omega) (by omega)]
  · rw [h0 10 k (by omega) (by omega), H.2.1 k hk, e1]
    exact smI_cong fun i _ => by rw [s0 20 i k (by omega) (by omega)]
  · rw [e1] at hi
    obtain ⟨a1, a2, a3, a4⟩ := H.2.2 i hi
    rw [h0 11 i (by omega) (by omega), h0 12 i (by omega) (by omega), h0 13 i (by omega) (by omega), s0 17 i 0 (by omega) (by omega), s0 18 i 0 (by omega) (by omega), s0 19 i 0 (by omega) (by omega)]
    exact ⟨a1, a2, a3, fun k hk => by rw [h0 14 _ (by omega) (by omega), s0 20 i k (by omega) (by omega)]; exact a4 k hk⟩
theorem LkK.keep (H : LkK S ma) (h0 : ∀ i, ma1 15 i = ma 15 i) (h1 : ∀ i, ma1 16 i = ma 16 i) (s0 : ∀ r, S1 21 r 0 = S 21 r 0) (s1 : ∀ r, S1 22 r 0 = S 22 r 0) : LkK S1 ma1 := fun k hk => by rw [h0, h1, s0, s1]; exact H k hk
end LK
/-- states that differ in what was told or found alone -/
def sameT (S S1 : SS) : Prop := ∀ c i j, c ≠ 4 → c ≠ 5 → c ≠ 6 → S1 c i j = S c i j
theorem sameT.R {S S1 : SS} (H : sameT S S1) : sameR S S1 := fun c i j h1 h2 => H c i j (by omega) (by omega) (by omega)
theorem sameT.WF {S S1 : SS} (H : sameT S S1) (W : WF S) : WF S1 := by
  have e14 : S1 14 0 0 = S 14 0 0 := H 14 0 0 (by omega) (by omega) (by omega)
  have e15 : S1 15 0 0 = S 15 0 0 := H 15 0 0 (by omega) (by omega) (by omega)
  have e16 : S1 16 0 0 = S 16 0 0 := H 16 0 0 (by omega) (by omega) (by omega)
  have d1 : dnN S1 = dnN S := by unfold dnN; rw [e16]
  have d2 : stN S1 = stN S := by unfold stN; rw [e14]
  have d3 : rlN S1 = rlN S := by unfold rlN; rw [e15]
  obtain ⟨w1, w2, w3, w4, w5, w6, w7, w8⟩ := W
  refine ⟨fun r hr => ?_, fun r hr => ?_, sr_WFr H.R w3, ?_, ?_, ?_, fun i hi => ?_, fun k hk => ?_⟩
  · rw [H 0 r 0 (by omega) (by omega) (by omega)]; exact w1 r hr
  · rw [H 2 r 0 (by omega) (by omega) (by omega)]; exact w2 r hr
  · rw [e14, d2, sr_Cd H.R]; exact w4
  · rw [e15, d3]; exact w5
  · rw [e16, d1]; exact w6
  · rw [d1] at hi
    rw [H 17 i 0 (by omega) (by omega) (by omega), H 18 i 0 (by omega) (by omega) (by omega), H 19 i 0 (by omega) (by omega) (by omega), sr_w H.R, sr_Cd H.R]
    obtain ⟨a1, a2, a3, a4⟩ := w7 i hi
    exact ⟨a1, a2, a3, fun k => by rw [H 20 i k (by omega) (by omega) (by omega)]; exact a4 k⟩
  · rw [H 21 k 0 (by omega) (by omega) (by omega), H 22 k 0 (by omega) (by omega) (by omega), sr_Cd H.R]
    exact w8 k hk
theorem sameT_told (S : SS) (v : Int32) : sameT S (up S 4 0 0 v) := fun c i j h _ _ => up_c S v h
theorem sameT_fnd (S : SS) (f : Nat) : sameT S (fnd S f) := fun c i j _ h5 h6 => fnd_c S h5 h6
/-- what was told, what was found, in the model -/
theorem RM.keepT {h h1 : AH} {S S1 : SS} {u l u1 l1 : Int64} {mi mi1 : Nat → Int32} {ma ma1 : Nat → Nat → Int32} (R1 : RepM h1 mi1 u1 l1 ma1) (A : LkA S1 mi1) (HT : sameT S S1) (W : LkW S ma) (T : LkT S ma) (F : LkF S1 ma1) (R : LkR S ma) (Lg : LkL S ma) (K : LkK S ma) (hm : ∀ j i, j ≤ 16 → j ≠ 4 → ma1 j i = ma j i) : RM h1 S1 u1 l1 :=
  ⟨mi1, ma1, R1, A, W.keep (fun i => hm 0 i (by omega) (by omega)) (fun i => hm 1 i (by omega) (by omega)) (fun r => HT 0 r 0 (by omega) (by omega) (by omega)) (fun r i => HT 1 r i (by omega) (by omega) (by omega)), T.keep (fun i => hm 2 i (by omega) (by omega)) (fun i => hm 3 i (by omega) (by omega)) (fun r => HT 2 r 0 (by omega) (by omega) (by omega)) (fun r i => HT 3 r i (by omega) (by omega) (by omega)), F, R.keep (fun j i h1 h2 => hm j i (by omega) (by omega)) HT.R, Lg.keep (fun j i h1 h2 => hm j i (by omega) (by omega)) (fun c i j h1 h2 => HT c i j (by omega) (by omega) (by omega)), K.keep (fun i => hm 15 i (by omega) (by omega)) (fun i => hm 16 i (by omega) (by omega)) (fun r => HT 21 r 0 (by omega) (by omega) (by omega)) (fun r => HT 22 r 0 (by omega) (by omega) (by omega))⟩
