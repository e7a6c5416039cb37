/-! the line of standings: what holds of it -/
theorem php : ∀ (M N : Nat) (f : Nat → Nat), (∀ i, i < N → f i < M) → (∀ i j, i < j → j < N → f i ≠ f j) → N ≤ M
  | 0, N, f, h, _ => by
    rcases Nat.eq_zero_or_pos N with z | z
    · omega
    · exact absurd (h 0 z) (Nat.not_lt_zero _)
  | M + 1, N, f, h1, h2 => by
    by_cases e : ∃ i, i < N ∧ f i = M
    · obtain ⟨i, hi, ei⟩ := e
      have := php M (N - 1) (fun j => if j < i then f j else f (j + 1)) (fun j hj => by
        split
        · have a := h1 j (by omega)
          have b := h2 j i (by omega) hi
          omega
        · have a := h1 (j + 1) (by omega)
          have b := h2 i (j + 1) (by omega) (by omega)
          omega) (fun j k hjk hk => by
        split
        · split
          · exact h2 j k hjk (by omega)
          · exact h2 j (k + 1) (by omega) (by omega)
        · split
          · omega
          · exact h2 (j + 1) (k + 1) (by omega) (by omega))
      omega
    · have := php M N f (fun i hi => by
        have a := h1 i hi
        have b : f i ≠ M := fun z => e ⟨i, hi, z⟩
        omega) h2
      omega
def dp (B : BF) (j : Nat) : Nat := (B.2.2.1 (B.2.1 j)).getD 0
def badd (B : BF) (y d k : Nat) : BF := (B.1 + 1, fun j => if j = B.1 then y else B.2.1 j, fun x => if x = y then some d else B.2.2.1 x, fun x => if x = y then k else B.2.2.2 x)
/-- heads below i are through; of head i the walkers below w -/
def BG (S : SS) (law i w : Nat) (B : BF) : Prop := 1 ≤ B.1 ∧ i ≤ B.1 ∧ (∀ j, j < B.1 → Cd S (B.2.1 j)) ∧ (∀ j k, j < k → k < B.1 → B.2.1 j ≠ B.2.1 k) ∧ (∀ j, j < B.1 → ∃ d, B.2.2.1 (B.2.1 j) = some d ∧ d ≤ j) ∧ (∀ x d, B.2.2.1 x = some d → ∃ j, j < B.1 ∧ B.2.1 j = x) ∧ (∀ j k, j ≤ k → k < B.1 → dp B j ≤ dp B k) ∧ (i < B.1 → ∀ j, j < B.1 → dp B j ≤ dp B i + 1) ∧
  (∀ j, 1 ≤ j → j < B.1 → ∃ p v, p < j ∧ v < wN S ∧ nx S law (B.2.1 p) v = B.2.1 j ∧ B.2.2.2 (B.2.1 j) = B.2.1 p * 8 + v ∧ dp B j = dp B p + 1 ∧ ∀ p' v', v' < wN S → (p' < p ∨ (p' = p ∧ v' < v)) → ∃ t, t < j ∧ B.2.1 t = nx S law (B.2.1 p') v') ∧
  (∀ p v, v < wN S → (p < i ∨ (p = i ∧ i < B.1 ∧ v < w)) → ∃ t, t < B.1 ∧ B.2.1 t = nx S law (B.2.1 p) v)
section BFS
variable {S : SS} {law i w c : Nat} {B : BF}
theorem BG.n (G : BG S law i w B) : B.1 ≤ 8 ^ sN S := php _ _ B.2.1 (fun j hj => (G.2.2.1 j hj).1) G.2.2.2.1
theorem BG.room (W : WFr S) (G : BG S law i w B) {y : Nat} (hy : Cd S y) (hn : B.2.2.1 y = none) : B.1 < 8 ^ sN S := by
  have := php (8 ^ sN S) (B.1 + 1) (fun j => if j = B.1 then y else B.2.1 j) (fun j hj => by
    split
    · exact hy.1
    · exact (G.2.2.1 j (by omega)).1) (fun j k hjk hk => by
    rw [if_neg (show j ≠ B.1 by omega)]
    split
    · intro z
      obtain ⟨d, hd, -⟩ := G.2.2.2.2.1 j (by omega)
      rw [z, hn] at hd
      cases hd
    · exact G.2.2.2.1 j k hjk (by omega))
  omega
theorem BG.dpe (G : BG S law i w B) {j : Nat} (hj : j < B.1) : B.2.2.1 (B.2.1 j) = some (dp B j) ∧ dp B j ≤ j := by
  obtain ⟨d, hd, hl⟩ := G.2.2.2.2.1 j hj
  unfold dp
  rw [hd]
  exact ⟨rfl, hl⟩
theorem BG.idx (G : BG S law i w B) {j k : Nat} (hj : j < B.1) (hk : k < B.1) (e : B.2.1 j = B.2.1 k) : j = k := by
  rcases Nat.lt_trichotomy j k with h | h | h
  · exact absurd e (G.2.2.2.1 j k h hk)
  · exact h
  · exact absurd e.symm (G.2.2.2.1 k j h hj)
theorem BG.old (G : BG S law i w B) (hi : i < B.1) (hw : w < wN S) {d : Nat} (hy : B.2.2.1 (nx S law (B.2.1 i) w) = some d) : BG S law i (w + 1) B := by
  obtain ⟨g0, g1, g2, g3, g4, g5, g6, g7, g8, g9⟩ := G
  refine ⟨g0, g1, g2, g3, g4, g5, g6, g7, g8, fun p v hv hp => ?_⟩
  rcases hp with hp | ⟨rfl, -, hp⟩
  · exact g9 p v hv (Or.inl hp)
  · by_cases e : v = w
    · subst e
      obtain ⟨t, t1, t2⟩ := g5 _ _ hy
      exact ⟨t, t1, t2⟩
    · exact g9 p v hv (Or.inr ⟨rfl, hi, by omega⟩)
theorem BG.add (W : WFr S) (G : BG S law i w B) (hi : i < B.1) (hw : w < wN S) (hy : B.2.2.1 (nx S law (B.2.1 i) w) = none) : BG S law i (w + 1) (badd B (nx S law (B.2.1 i) w) (dp B i + 1) (B.2.1 i * 8 + w)) := by
  have D := G.dpe hi
  obtain ⟨g0, g1, g2, g3, g4, g5, g6, g7, g8, g9⟩ := id G
  generalize hyy : nx S law (B.2.1 i) w = y at *
  have q' : ∀ j, j < B.1 → (badd B y (dp B i + 1) (B.2.1 i * 8 + w)).2.1 j = B.2.1 j := fun j hj => if_neg (by omega)
  have qn : (badd B y (dp B i + 1) (B.2.1 i * 8 + w)).2.1 B.1 = y := if_pos rfl
  have ne : ∀ j, j < B.1 → B.2.1 j ≠ y := fun j hj z => by
    obtain ⟨d, hd, -⟩ := g4 j hj
    rw [z, hy] at hd
    cases hd
  have f' : ∀ j, j < B.1 → (badd B y (dp B i + 1) (B.2.1 i * 8 + w)).2.2.1 (B.2.1 j) = B.2.2.1 (B.2.1 j) := fun j hj => if_neg (ne j hj)
  have fn : (badd B y (dp B i + 1) (B.2.1 i * 8 + w)).2.2.1 y = some (dp B i + 1) := if_pos rfl
  have d' : ∀ j, j < B.1 → dp (badd B y (dp B i + 1) (B.2.1 i * 8 + w)) j = dp B j := fun j hj => by
    show ((badd B y (dp B i + 1) (B.2.1 i * 8 + w)).2.2.1 ((badd B y (dp B i + 1) (B.2.1 i * 8 + w)).2.1 j)).getD 0 = _
    rw [q' j hj, f' j hj]; rfl
  have dn : dp (badd B y (dp B i + 1) (B.2.1 i * 8 + w)) B.1 = dp B i + 1 := by
    show ((badd B y (dp B i + 1) (B.2.1 i * 8 + w)).2.2.1 ((badd B y (dp B i + 1) (B.2.1 i * 8 + w)).2.1 B.1)).getD 0 = _
    rw [qn, fn]; rfl
  have nn : (badd B y (dp B i + 1) (B.2.1 i * 8 + w)).1 = B.1 + 1 := rfl
  generalize hB : badd B y (dp B i + 1) (B.2.1 i * 8 + w) = B' at *
  have l' : ∀ x, x ≠ y → B'.2.2.2 x = B.2.2.2 x := fun x hx => by rw [← hB]; exact if_neg hx
  have ln : B'.2.2.2 y = B.2.1 i * 8 + w := by rw [← hB]; exact if_pos rfl
  have ff : ∀ x, x ≠ y → B'.2.2.1 x = B.2.2.1 x := fun x hx => by rw [← hB]; exact if_neg hx
  have Cy : Cd S y := by rw [← hyy]; exact Cd_nx W (g2 i hi) hw
  refine ⟨by omega, by omega, fun j hj => ?_, fun j k hjk hk => ?_, fun j hj => ?_, fun x d hx => ?_, fun j k hjk hk => ?_, fun _ j hj => ?_, fun j j1 hj => ?_, fun p v hv hp => ?_⟩
  · by_cases e : j = B.1
    · subst e; rw [qn]; exact Cy
    · rw [q' j (by omega)]; exact g2 j (by omega)
  · rw [q' j (by omega)]
    by_cases e : k = B.1
    · subst e; rw [qn]; exact ne j (by omega)
    · rw [q' k (by omega)]; exact g3 j k hjk (by omega)
  · by_cases e : j = B.1
    · subst e; rw [qn]; exact ⟨_, fn, by omega⟩
    · rw [q' j (by omega), f' j (by omega)]; exact g4 j (by omega)
  · by_cases e : x = y
    · subst e; exact ⟨B.1, by omega, qn⟩
    · rw [ff x e] at hx
      obtain ⟨j, j1, j2⟩ := g5 x d hx
      exact ⟨j, by omega, by rw [q' j j1]; exact j2⟩
  · by_cases e : k = B.1
    · by_cases e2 : j = B.1
      · rw [e, e2]; omega
      · rw [e, dn, d' j (by omega)]; exact g7 hi j (by omega)
    · rw [d' k (by omega), d' j (by omega)]; exact g6 j k hjk (by omega)
  · rw [d' i hi]
    by_cases e : j = B.1
    · rw [e, dn]; omega
    · rw [d' j (by omega)]; exact g7 hi j (by omega)
  · by_cases e : j = B.1
    · subst e
      refine ⟨i, w, hi, hw, by rw [q' i hi, qn]; exact hyy, by rw [qn, ln, q' i hi], by rw [dn, d' i hi], fun p' v' hv' hp' => ?_⟩
      obtain ⟨t, t1, t2⟩ := g9 p' v' hv' (by rcases hp' with z | ⟨z1, z2⟩; exact Or.inl z; exact Or.inr ⟨z1, hi, z2⟩)
      refine ⟨t, t1, ?_⟩
      rw [q' t t1, q' p' (by omega)]
      exact t2
    · obtain ⟨p, v, p1, p2, p3, p4, p5, p6⟩ := g8 j j1 (by omega)
      refine ⟨p, v, p1, p2, by rw [q' p (by omega), q' j (by omega)]; exact p3, by rw [q' j (by omega), l' _ (ne j (by omega)), q' p (by omega)]; exact p4, by rw [d' j (by omega), d' p (by omega)]; exact p5, fun p' v' hv' hp' => ?_⟩
      obtain ⟨t, t1, t2⟩ := p6 p' v' hv' hp'
      refine ⟨t, t1, ?_⟩
      rw [q' t (by omega), q' p' (by omega)]
      exact t2
  · by_cases e : p = i ∧ v = w
    · obtain ⟨rfl, rfl⟩ := e
      exact ⟨B.1, by omega, by rw [qn, q' p hi]; exact hyy.symm⟩
    · obtain ⟨t, t1, t2⟩ := g9 p v hv (by
        rcases hp with z | ⟨z1, z2, z3⟩
        · exact Or.inl z
        · exact Or.inr ⟨z1, hi, by omega⟩)
      refine ⟨t, by omega, ?_⟩
      rw [q' t t1, q' p (by omega)]
      exact t2
theorem bfw_1 (w : Nat) : bfw S law i B (w + 1) = match (bfw S law i B w).2.2.1 (nx S law ((bfw S law i B w).2.1 i) w) with
    | some _ => bfw S law i B w
    | none => badd (bfw S law i B w) (nx S law ((bfw S law i B w).2.1 i) w) (dp (bfw S law i B w) i + 1) ((bfw S law i B w).2.1 i * 8 + w) := rfl
theorem bfw_n (w : Nat) : B.1 ≤ (bfw S law i B w).1 := by
  induction w with
  | zero => exact Nat.le_refl _
  | succ w ih =>
    rw [bfw_1]
    split
    · exact ih
    · show B.1 ≤ (bfw S law i B w).1 + 1; omega
theorem bfw_q {j : Nat} (hj : j < B.1) (w : Nat) : (bfw S law i B w).2.1 j = B.2.1 j := by
  induction w with
  | zero => rfl
  | succ w h1 =>
    have h2 := bfw_n (S := S) (law := law) (i := i) (B := B) w
    rw [bfw_1]
    split
    · exact h1
    · show (if j = (bfw S law i B w).1 then _ else (bfw S law i B w).2.1 j) = _
      rw [if_neg (by omega)]; exact h1
theorem bg_bfw (W : WFr S) (G : BG S law i 0 B) (hi : i < B.1) (w : Nat) (hw : w ≤ wN S) : BG S law i w (bfw S law i B w) := by
  induction w with
  | zero => exact G
  | succ w ih =>
    have ih := ih (by omega)
    have h2 := bfw_n (S := S) (law := law) (i := i) (B := B) w
    rw [bfw_1]
    split
    · rename_i d hd
      exact ih.old (by omega) (by omega) hd
    · rename_i hd
      exact ih.add W (by omega) (by omega) hd
theorem BG.next (G : BG S law i (wN S) B) (hi : i < B.1) : BG S law (i + 1) 0 B := by
  obtain ⟨g0, g1, g2, g3, g4, g5, g6, g7, g8, g9⟩ := G
  refine ⟨g0, by omega, g2, g3, g4, g5, g6, fun h j hj => ?_, g8, fun p v hv hp => ?_⟩
  · have := g7 hi j hj
    have := g6 i (i + 1) (by omega) h
    omega
  · rcases hp with z | ⟨-, -, z⟩
    · by_cases e : p = i
      · exact g9 p v hv (Or.inr ⟨e, hi, hv⟩)
      · exact g9 p v hv (Or.inl (by omega))
    · omega
theorem BG.one (D : Cd S c) : BG S law 0 0 (bf0 c) := by
  have d0 : ∀ j, dp (bf0 c) j = 0 := fun j => by
    show ((if c = c then some 0 else none : Option Nat)).getD 0 = 0
    rw [if_pos rfl]; rfl
  refine ⟨Nat.le_refl _, Nat.zero_le _, fun j _ => D, fun j k h1 h2 => ?_, fun j hj => ⟨0, if_pos rfl, Nat.zero_le _⟩, fun x d hx => ?_, fun j k _ _ => by rw [d0, d0]; omega, fun _ j _ => by rw [d0]; omega, fun j h1 h2 => ?_, fun p v _ hp => ?_⟩
  · have : k < 1 := h2; omega
  · refine ⟨0, Nat.zero_lt_one, ?_⟩
    have hx : (if x = c then some 0 else none) = some d := hx
    split at hx
    · rename_i e; exact e.symm
    · cases hx
  · have : j < 1 := h2; omega
  · rcases hp with z | ⟨-, -, z⟩ <;> omega
theorem bfs_stop {n : Nat} (h : (bfs S law c n).1 ≤ n) (m : Nat) : bfs S law c (n + m) = bfs S law c n := by
  induction m with
  | zero => rfl
  | succ m ih =>
    show (if n + m < (bfs S law c (n + m)).1 then _ else bfs S law c (n + m)) = _
    rw [ih, if_neg (by omega)]
theorem bfs_go {n : Nat} (h : n < (bfs S law c n).1) : bfs S law c (n + 1) = bfw S law n (bfs S law c n) (wN S) := by
  show (if n < (bfs S law c n).1 then _ else _) = _
  rw [if_pos h]
theorem bg_bfs (W : WFr S) (D : Cd S c) (n : Nat) : (n ≤ (bfs S law c n).1 ∧ BG S law n 0 (bfs S law c n)) ∨ ((bfs S law c n).1 ≤ n ∧ BG S law (bfs S law c n).1 0 (bfs S law c n)) := by
  induction n with
  | zero => exact Or.inl ⟨Nat.zero_le _, BG.one D⟩
  | succ n ih =>
    by_cases h : n < (bfs S law c n).1
    · rcases ih with ⟨-, G⟩ | ⟨h2, -⟩
      · rw [bfs_go h]
        have G2 := bg_bfw W G h (wN S) (Nat.le_refl _)
        have h3 := bfw_n (S := S) (law := law) (i := n) (B := bfs S law c n) (wN S)
        exact Or.inl ⟨by omega, G2.next (by omega)⟩
      · omega
    · have e : bfs S law c (n + 1) = bfs S law c n := bfs_stop (by omega) 1
      rw [e]
      rcases ih with ⟨h1, G⟩ | ⟨h2, G⟩
      · have e2 : (bfs S law c n).1 = n := by omega
        refine Or.inr ⟨by omega, ?_⟩
        rw [e2]
        exact G
      · exact Or.inr ⟨by omega, G⟩
theorem bfs_n (W : WFr S) (D : Cd S c) (n : Nat) : (bfs S law c n).1 ≤ 8 ^ sN S ∧ (bfs S law c n).1 ≤ 32768 := by
  have h5 : 8 ^ sN S ≤ 8 ^ 5 := Nat.pow_le_pow_right (by omega) W.2.2.2.2.2.1
  rcases bg_bfs (law := law) W D n with ⟨-, G⟩ | ⟨-, G⟩
  · have := G.n
    omega
  · have := G.n
    omega
/-- the whole line -/
theorem bg_all (W : WFr S) (D : Cd S c) : BG S law (bfa S law c).1 0 (bfa S law c) ∧ (bfa S law c).1 ≤ 8 ^ sN S ∧ (bfa S law c).1 ≤ 32768 := by
  unfold bfa
  have b := bfs_n (law := law) W D (32769 + sN S)
  rcases bg_bfs (law := law) W D (32769 + sN S) with ⟨h1, G⟩ | ⟨h2, G⟩
  · omega
  · exact ⟨G, b⟩
/-- a head at which it stops is the end -/
theorem bfa_stop {n : Nat} (hn : n ≤ 32769) (h : (bfs S law c n).1 ≤ n) : bfs S law c n = bfa S law c := by
  have := bfs_stop h (32769 + sN S - n)
  rw [show n + (32769 + sN S - n) = 32769 + sN S by omega] at this
  exact this.symm
theorem bfs_q0 (n : Nat) : (bfs S law c n).2.1 0 = c ∧ 1 ≤ (bfs S law c n).1 := by
  induction n with
  | zero => exact ⟨rfl, Nat.le_refl _⟩
  | succ n ih =>
    by_cases h : n < (bfs S law c n).1
    · have h3 := bfw_n (S := S) (law := law) (i := n) (B := bfs S law c n) (wN S)
      rw [bfs_go h]
      exact ⟨(bfw_q (by omega) _).trans ih.1, by omega⟩
    · have e : bfs S law c (n + 1) = bfs S law c n := bfs_stop (by omega) 1
      rw [e]
      exact ih
theorem bfa_q0 : (bfa S law c).2.1 0 = c := by
  unfold bfa
  exact (bfs_q0 _).1
end BFS
