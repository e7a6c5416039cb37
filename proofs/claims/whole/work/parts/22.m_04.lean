def f_X12_put_ (v0 : Nat) (v1 : Int32) (v2 : Int32) (h : AH) (Q : AH → Prop) : Prop :=
  gR h v0 12 36 (fun a1 => sI h a1 v1 v2 (fun h2 => gR h2 v0 12 37 (fun a3 => lI h2 a3 v1 (fun x4 => sI h2 a3 v1 (x4 + (1 : Int32)) (fun h5 => gI h5 v0 12 38 (fun x6 => gR h5 v0 12 11 (fun a7 => lI h5 a7 v1 (fun x8 => pF h5 v0 12 38 (.int (x6 + x8)) (fun h9 => Q h9)))))))))
set_option maxRecDepth 100000 in
set_option maxHeartbeats 4000000 in
theorem s_X12_put_ {o : Om} {v0 : Nat} {v1 : Int32} {v2 : Int32} {h : AH} {Q : AH → Prop} (H : f_X12_put_ v0 v1 v2 h Q) : MQ' o kX12_put_ [.ref v0, .int v1, .int v2] h (qV Q) := by
  refine MQ'.of (by decide +kernel) (Nat.le_of_ble_eq_true rfl) ?_
  show AQ o kX12_put_ h 0 [(0, .ref v0), (1, .int v1), (2, .int v2)] [] (qV Q)
  refine a_aload_n 0 rfl rfl dX12_put__0 ?_
  refine r_gR fo_RX12_80_12 dX12_put__1 H (fun a1 H => ?_)
  refine a_iload_n 1 rfl rfl dX12_put__4 ?_
  refine a_iload_n 2 rfl rfl dX12_put__5 ?_
  refine r_sI dX12_put__6 H (fun h2 H => ?_)
  refine a_aload_n 0 rfl rfl dX12_put__7 ?_
  refine r_gR fo_RX12_83_12 dX12_put__8 H (fun a3 H => ?_)
  refine a_iload_n 1 rfl rfl dX12_put__11 ?_
  refine a_dup2 rfl rfl dX12_put__12 ?_
  refine r_lI dX12_put__13 H (fun x4 H => ?_)
  refine a_iconst (v := (1 : Int32)) (by decide) dX12_put__14 ?_
  refine a_iadd dX12_put__15 ?_
  refine r_sI dX12_put__16 H (fun h5 H => ?_)
  refine a_aload_n 0 rfl rfl dX12_put__17 ?_
  refine a_dup rfl dX12_put__18 ?_
  refine r_gI fo_RX12_203_12 dX12_put__19 H (fun x6 H => ?_)
  refine a_aload_n 0 rfl rfl dX12_put__22 ?_
  refine r_gR fo_RX12_29_12 dX12_put__23 H (fun a7 H => ?_)
  refine a_iload_n 1 rfl rfl dX12_put__26 ?_
  refine r_lI dX12_put__27 H (fun x8 H => ?_)
  refine a_iadd dX12_put__28 ?_
  refine r_pF (po_RX12_203_12 _) (fun _ => rfl) (fun _ => rfl) dX12_put__29 H (fun h9 H => ?_)
  exact r_retv rfl dX12_put__32 H
def B_X12_carries_92 (Q : AH → Prop) (K46 : Int32 → AH → Prop) (v0 : Nat) (v2 : Int32) (v3 : Int32) (v4 : Int32) (v5 : Int32) (v6 : Int32) (v7 : Int32) (v8 : Int32) (t0 : Nat) (t1 : Int32) (t2 : Int32) (h : AH) : Prop :=
  isO h t0 12 ∧ f_X12_put_ t0 t1 t2 h (fun h1 => K46 (v8 + 1) h1)
set_option maxRecDepth 100000 in
set_option maxHeartbeats 4000000 in
theorem b_X12_carries_92 {o : Om} {Q : AH → Prop} {K46 : Int32 → AH → Prop} {v0 : Nat} {v2 : Int32} {v3 : Int32} {v4 : Int32} {v5 : Int32} {v6 : Int32} {v7 : Int32} {v8 : Int32} {t0 : Nat} {t1 : Int32} {t2 : Int32} {h : AH} (hK46 : ∀ w8 h, K46 w8 h → AQ o kX12_carries h 46 [(0, .ref v0), (2, .int v2), (3, .int v3), (4, .int v4), (5, .int v5), (6, .int v6), (7, .int v7), (8, .int w8)] [] (qV Q)) (H : B_X12_carries_92 Q K46 v0 v2 v3 v4 v5 v6 v7 v8 t0 t1 t2 h) : AQ o kX12_carries h 92 [(0, .ref v0), (2, .int v2), (3, .int v3), (4, .int v4), (5, .int v5), (6, .int v6), (7, .int v7), (8, .int v8)] [.int t2, .int t1, .ref t0] (qV Q) := by
  refine r_Vv (q := (RX12, TX12, 51)) (av := [.int t1, .int t2]) (rest := []) rfl rfl okX12_put_ H.1 rfl rfl wd1330 wd1332 wp49 ⟨Nat.le_of_ble_eq_true rfl, Nat.le_of_ble_eq_true rfl⟩ (Nat.le_of_ble_eq_true rfl) dX12_carries_92 (s_X12_put_ H.2) (fun h1 H => ?_)
  refine a_iinc (v := v8 + 1) (lv1 := [(0, .ref v0), (2, .int v2), (3, .int v3), (4, .int v4), (5, .int v5), (6, .int v6), (7, .int v7), (8, .int (v8 + 1))]) [1, 2, 3, 4, 5, 6, 7, 0] 7 rfl (by decide) rfl rfl dX12_carries_95 ?_
  refine a_goto (tgt := 46) dX12_carries_98 (by decide) ?_
  exact hK46 _ _ H
def B_X12_carries_46 (Q : AH → Prop) (K46 : Int32 → AH → Prop) (v0 : Nat) (v2 : Int32) (v3 : Int32) (v4 : Int32) (v5 : Int32) (v6 : Int32) (v7 : Int32) (v8 : Int32) (h : AH) : Prop :=
  ((v4 ≤ v8 → Q h) ∧ (¬ (v4 ≤ v8) → ((v7 = v2 → Q h) ∧ (¬ (v7 = v2) → isO h v0 12 ∧ f_X12_taken v0 v7 v3 h (fun x1 h2 => ((x1 = (-9 : Int32) → K46 (v8 + 1) h2) ∧ (¬ (x1 = (-9 : Int32)) → ((v5 = 0 → B_X12_carries_92 Q K46 v0 v2 v3 v4 v5 v6 v7 v8 v0 x1 (v7 + v6) h2) ∧ (¬ (v5 = 0) → B_X12_carries_92 Q K46 v0 v2 v3 v4 v5 v6 v7 v8 v0 x1 v2 h2)))))))))
set_option maxRecDepth 100000 in
set_option maxHeartbeats 4000000 in
theorem b_X12_carries_46 {o : Om} {Q : AH → Prop} {K46 : Int32 → AH → Prop} {v0 : Nat} {v2 : Int32} {v3 : Int32} {v4 : Int32} {v5 : Int32} {v6 : Int32} {v7 : Int32} {v8 : Int32} {h : AH} (hK46 : ∀ w8 h, K46 w8 h → AQ o kX12_carries h 46 [(0, .ref v0), (2, .int v2), (3, .int v3), (4, .int v4), (5, .int v5), (6, .int v6), (7, .int v7), (8, .int w8)] [] (qV Q)) (H : B_X12_carries_46 Q K46 v0 v2 v3 v4 v5 v6 v7 v8 h) : AQ o kX12_carries h 46 [(0, .ref v0), (2, .int v2), (3, .int v3), (4, .int v4), (5, .int v5), (6, .int v6), (7, .int v7), (8, .int v8)] [] (qV Q) := by
  refine a_iload 7 rfl dX12_carries_46 ?_
  refine a_iload 3 rfl dX12_carries_48 ?_
  refine a_icmp_ge (tgt := 101) dX12_carries_50 (by decide) (fun c => ?_) (fun c => ?_)
  · have H := H.1 (c)
    exact r_retv rfl dX12_carries_101 H
  · have H := H.2 (c)
    refine a_iload 6 rfl dX12_carries_53 ?_
    refine a_iload_n 1 rfl rfl dX12_carries_55 ?_
    refine a_icmp_eq (tgt := 101) dX12_carries_56 (by decide) (fun c => ?_) (fun c => ?_)
    · have H := H.1 (c)
      exact r_retv rfl dX12_carries_101 H
    · have H := H.2 (c)
      refine a_aload_n 0 rfl rfl dX12_carries_59 ?_
      refine a_iload 6 rfl dX12_carries_60 ?_
      refine a_iload_n 2 rfl rfl dX12_carries_62 ?_
      refine r_Vi (q := (RX12, TX12, 51)) (av := [.int v7, .int v3]) (rest := []) rfl rfl okX12_taken H.1 rfl rfl wd1319 wd1321 wp47 ⟨Nat.le_of_ble_eq_true rfl, Nat.le_of_ble_eq_true rfl⟩ (Nat.le_of_ble_eq_true rfl) dX12_carries_63 (s_X12_taken H.2) (fun x1 h2 H => ?_)
      refine a_istore (lv1 := [(0, .ref v0), (2, .int v2), (3, .int v3), (4, .int v4), (5, .int v5), (6, .int v6), (7, .int v7), (8, .int v8), (9, .int x1)]) [1, 2, 3, 4, 5, 6, 7, 8, 0] (by decide) rfl dX12_carries_66 ?_
      refine a_iload 8 rfl dX12_carries_68 ?_
      refine a_bipush (v := (-9 : Int32)) (by decide) dX12_carries_70 ?_
      refine a_icmp_eq (tgt := 95) dX12_carries_72 (by decide) (fun c => ?_) (fun c => ?_)
      · have H := H.1 (c)
        refine a_iinc (v := v8 + 1) (lv1 := [(0, .ref v0), (2, .int v2), (3, .int v3), (4, .int v4), (5, .int v5), (6, .int v6), (7, .int v7), (8, .int (v8 + 1)), (9, .int x1)]) [1, 2, 3, 4, 5, 6, 7, 0, 8] 7 rfl (by decide) rfl rfl dX12_carries_95 ?_
        refine a_goto (tgt := 46) dX12_carries_98 (by decide) ?_
        refine AQ.sub (lv1 := [(0, .ref v0), (2, .int v2), (3, .int v3), (4, .int v4), (5, .int v5), (6, .int v6), (7, .int v7), (8, .int (v8 + 1))]) [0, 1, 2, 3, 4, 5, 6, 7] rfl ?_
        exact hK46 _ _ H
      · have H := H.2 (c)
        refine a_aload_n 0 rfl rfl dX12_carries_75 ?_
        refine a_iload 8 rfl dX12_carries_76 ?_
        refine a_iload 4 rfl dX12_carries_78 ?_
        refine a_if_eq (tgt := 87) dX12_carries_80 (by decide) (fun c => ?_) (fun c => ?_)
        · have H := H.1 (c)
          refine a_iload 6 rfl dX12_carries_87 ?_
          refine a_iload 5 rfl dX12_carries_89 ?_
          refine a_iadd dX12_carries_91 ?_
          refine AQ.sub (lv1 := [(0, .ref v0), (2, .int v2), (3, .int v3), (4, .int v4), (5, .int v5), (6, .int v6), (7, .int v7), (8, .int v8)]) [0, 1, 2, 3, 4, 5, 6, 7] rfl ?_
          exact b_X12_carries_92 hK46 H
        · have H := H.2 (c)
          refine a_iload_n 1 rfl rfl dX12_carries_83 ?_
          refine a_goto (tgt := 92) dX12_carries_84 (by decide) ?_
          refine AQ.sub (lv1 := [(0, .ref v0), (2, .int v2), (3, .int v3), (4, .int v4), (5, .int v5), (6, .int v6), (7, .int v7), (8, .int v8)]) [0, 1, 2, 3, 4, 5, 6, 7] rfl ?_
          exact b_X12_carries_92 hK46 H
def L_X12_carries_46 (Q : AH → Prop)  (v0 : Nat) (v2 : Int32) (v3 : Int32) (v4 : Int32) (v5 : Int32) (v6 : Int32) (v7 : Int32) : Nat → Int32 → AH → Prop
  | 0, _, _ => False
  | n + 1, v8, h => B_X12_carries_46 Q (L_X12_carries_46 Q  v0 v2 v3 v4 v5 v6 v7 n) v0 v2 v3 v4 v5 v6 v7 v8 h
theorem l_X12_carries_46 {o : Om} {Q : AH → Prop}  {v0 : Nat} {v2 : Int32} {v3 : Int32} {v4 : Int32} {v5 : Int32} {v6 : Int32} {v7 : Int32}  : ∀ (n : Nat) (v8 : Int32) (h : AH), L_X12_carries_46 Q  v0 v2 v3 v4 v5 v6 v7 n v8 h → AQ o kX12_carries h 46 [(0, .ref v0), (2, .int v2), (3, .int v3), (4, .int v4), (5, .int v5), (6, .int v6), (7, .int v7), (8, .int v8)] [] (qV Q) := by
  intro n
  induction n with
  | zero => intro v8 h H; exact H.elim
  | succ n ih => intro v8 h H; exact b_X12_carries_46 ih H
def B_X12_carries_15 (Q : AH → Prop) (K15 : Int32 → AH → Prop) (v0 : Nat) (v2 : Int32) (v3 : Int32) (v4 : Int32) (v5 : Int32) (v6 : Int32) (v7 : Int32) (h : AH) : Prop :=
  ((v7 = v2 → ∃ n, L_X12_carries_46 Q  v0 v2 v3 v4 v5 v6 v7 n (0 : Int32) h) ∧ (¬ (v7 = v2) → isO h v0 12 ∧ f_X12_taken v0 v7 v3 h (fun x1 h2 => ((¬ (x1 = (-9 : Int32)) → ∃ n, L_X12_carries_46 Q  v0 v2 v3 v4 v5 v6 v7 n (0 : Int32) h2) ∧ (x1 = (-9 : Int32) → K15 (v7 + v6) h2)))))
set_option maxRecDepth 100000 in
set_option maxHeartbeats 4000000 in
theorem b_X12_carries_15 {o : Om} {Q : AH → Prop} {K15 : Int32 → AH → Prop} {v0 : Nat} {v2 : Int32} {v3 : Int32} {v4 : Int32} {v5 : Int32} {v6 : Int32} {v7 : Int32} {h : AH} (hK15 : ∀ w7 h, K15 w7 h → AQ o kX12_carries h 15 [(0, .ref v0), (2, .int v2), (3, .int v3), (4, .int v4), (5, .int v5), (6, .int v6), (7, .int w7)] [] (qV Q)) (H : B_X12_carries_15 Q K15 v0 v2 v3 v4 v5 v6 v7 h) : AQ o kX12_carries h 15 [(0, .ref v0), (2, .int v2), (3, .int v3), (4, .int v4), (5, .int v5), (6, .int v6), (7, .int v7)] [] (qV Q) := by
  refine a_iload 6 rfl dX12_carries_15 ?_
  refine a_iload_n 1 rfl rfl dX12_carries_17 ?_
  refine a_icmp_eq (tgt := 43) dX12_carries_18 (by decide) (fun c => ?_) (fun c => ?_)
  · have H := H.1 (c)
    refine a_iconst (v := (0 : Int32)) (by decide) dX12_carries_43 ?_
    refine a_istore (lv1 := [(0, .ref v0), (2, .int v2), (3, .int v3), (4, .int v4), (5, .int v5), (6, .int v6), (7, .int v7), (8, .int (0 : Int32))]) [1, 2, 3, 4, 5, 6, 7, 0] (by decide) rfl dX12_carries_44 ?_
    obtain ⟨n, H⟩ := H
    exact l_X12_carries_46  n _ _ H
  · have H := H.2 (c)
    refine a_aload_n 0 rfl rfl dX12_carries_21 ?_
    refine a_iload 6 rfl dX12_carries_22 ?_
    refine a_iload_n 2 rfl rfl dX12_carries_24 ?_
    refine r_Vi (q := (RX12, TX12, 51)) (av := [.int v7, .int v3]) (rest := []) rfl rfl okX12_taken H.1 rfl rfl wd1319 wd1321 wp47 ⟨Nat.le_of_ble_eq_true rfl, Nat.le_of_ble_eq_true rfl⟩ (Nat.le_of_ble_eq_true rfl) dX12_carries_25 (s_X12_taken H.2) (fun x1 h2 H => ?_)
    refine a_bipush (v := (-9 : Int32)) (by decide) dX12_carries_28 ?_
    refine a_icmp_ne (tgt := 43) dX12_carries_30 (by decide) (fun c => ?_) (fun c => ?_)
    · have H := H.1 (c)
      refine a_iconst (v := (0 : Int32)) (by decide) dX12_carries_43 ?_
      refine a_istore (lv1 := [(0, .ref v0), (2, .int v2), (3, .int v3), (4, .int v4), (5, .int v5), (6, .int v6), (7, .int v7), (8, .int (0 : Int32))]) [1, 2, 3, 4, 5, 6, 7, 0] (by decide) rfl dX12_carries_44 ?_
      obtain ⟨n, H⟩ := H
      exact l_X12_carries_46  n _ _ H
    · have H := H.2 (c)
      refine a_iload 6 rfl dX12_carries_33 ?_
      refine a_iload 5 rfl dX12_carries_35 ?_
      refine a_iadd dX12_carries_37 ?_
      refine a_istore (lv1 := [(0, .ref v0), (2, .int v2), (3, .int v3), (4, .int v4), (5, .int v5), (6, .int v6), (7, .int (v7 + v6))]) [1, 2, 3, 4, 5, 6, 0] (by decide) rfl dX12_carries_38 ?_
      refine a_goto (tgt := 15) dX12_carries_40 (by decide) ?_
      exact hK15 _ _ H
def L_X12_carries_15 (Q : AH → Prop)  (v0 : Nat) (v2 : Int32) (v3 : Int32) (v4 : Int32) (v5 : Int32) (v6 : Int32) : Nat → Int32 → AH → Prop
  | 0, _, _ => False
  | n + 1, v7, h => B_X12_carries_15 Q (L_X12_carries_15 Q  v0 v2 v3 v4 v5 v6 n) v0 v2 v3 v4 v5 v6 v7 h
theorem l_X12_carries_15 {o : Om} {Q : AH → Prop}  {v0 : Nat} {v2 : Int32} {v3 : Int32} {v4 : Int32} {v5 : Int32} {v6 : Int32}  : ∀ (n : Nat) (v7 : Int32) (h : AH), L_X12_carries_15 Q  v0 v2 v3 v4 v5 v6 n v7 h → AQ o kX12_carries h 15 [(0, .ref v0), (2, .int v2), (3, .int v3), (4, .int v4), (5, .int v5), (6, .int v6), (7, .int v7)] [] (qV Q) := by
  intro n
  induction n with
  | zero => intro v7 h H; exact H.elim
  | succ n ih => intro v7 h H; exact b_X12_carries_15 ih H
def f_X12_carries (v0 : Nat) (v1 : Int32) (v2 : Int32) (v3 : Int32) (v4 : Int32) (v5 : Int32) (h : AH) (Q : AH → Prop) : Prop :=
  ((v2 ≤ v1 → ∃ n, L_X12_carries_15 Q  v0 v2 v3 v4 v5 (-1 : Int32) n v1 h) ∧ (¬ (v2 ≤ v1) → ∃ n, L_X12_carries_15 Q  v0 v2 v3 v4 v5 (1 : Int32) n v1 h))
set_option maxRecDepth 100000 in
set_option maxHeartbeats 4000000 in
theorem s_X12_carries {o : Om} {v0 : Nat} {v1 : Int32} {v2 : Int32} {v3 : Int32} {v4 : Int32} {v5 : Int32} {h : AH} {Q : AH → Prop} (H : f_X12_carries v0 v1 v2 v3 v4 v5 h Q) : MQ' o kX12_carries [.ref v0, .int v1, .int v2, .int v3, .int v4, .int v5] h (qV Q) := by
  refine MQ'.of (by decide +kernel) (Nat.le_of_ble_eq_true rfl) ?_
  show AQ o kX12_carries h 0 [(0, .ref v0), (1, .int v1), (2, .int v2), (3, .int v3), (4, .int v4), (5, .int v5)] [] (qV Q)
  refine a_iload_n 1 rfl rfl dX12_carries_0 ?_
  refine a_iload_n 2 rfl rfl dX12_carries_1 ?_
  refine a_icmp_ge (tgt := 9) dX12_carries_2 (by decide) (fun c => ?_) (fun c => ?_)
  · have H := H.1 (c)
    refine a_iconst (v := (-1 : Int32)) (by decide) dX12_carries_9 ?_
    refine a_istore (lv1 := [(0, .ref v0), (1, .int v1), (2, .int v2), (3, .int v3), (4, .int v4), (5, .int v5), (6, .int (-1 : Int32))]) [1, 2, 3, 4, 5, 6, 0] (by decide) rfl dX12_carries_10 ?_
    refine a_iload_n 1 rfl rfl dX12_carries_12 ?_
    refine a_istore (lv1 := [(0, .ref v0), (1, .int v1), (2, .int v2), (3, .int v3), (4, .int v4), (5, .int v5), (6, .int (-1 : Int32)), (7, .int v1)]) [1, 2, 3, 4, 5, 6, 7, 0] (by decide) rfl dX12_carries_13 ?_
    refine AQ.sub (lv1 := [(0, .ref v0), (2, .int v2), (3, .int v3), (4, .int v4), (5, .int v5), (6, .int (-1 : Int32)), (7, .int v1)]) [0, 2, 3, 4, 5, 6, 7] rfl ?_
    obtain ⟨n, H⟩ := H
    exact l_X12_carries_15  n _ _ H
  · have H := H.2 (c)
    refine a_iconst (v := (1 : Int32)) (by decide) dX12_carries_5 ?_
    refine a_goto (tgt := 10) dX12_carries_6 (by decide) ?_
    refine a_istore (lv1 := [(0, .ref v0), (1, .int v1), (2, .int v2), (3, .int v3), (4, .int v4), (5, .int v5), (6, .int (1 : Int32))]) [1, 2, 3, 4, 5, 6, 0] (by decide) rfl dX12_carries_10 ?_
    refine a_iload_n 1 rfl rfl dX12_carries_12 ?_
    refine a_istore (lv1 := [(0, .ref v0), (1, .int v1), (2, .int v2), (3, .int v3), (4, .int v4), (5, .int v5), (6, .int (1 : Int32)), (7, .int v1)]) [1, 2, 3, 4, 5, 6, 7, 0] (by decide) rfl dX12_carries_13 ?_
    refine AQ.sub (lv1 := [(0, .ref v0), (2, .int v2), (3, .int v3), (4, .int v4), (5, .int v5), (6, .int (1 : Int32)), (7, .int v1)]) [0, 2, 3, 4, 5, 6, 7] rfl ?_
    obtain ⟨n, H⟩ := H
    exact l_X12_carries_15  n _ _ H
def B_X12_behind_169 (Q : Int32 → AH → Prop) (K169 : Int32 → Int32 → AH → Prop) (v0 : Nat) (v8 : Int32) (v9 : Int32) (h : AH) : Prop :=
  gI h v0 12 10 (fun x1 => ((x1 ≤ v9 → Q v8 h) ∧ (¬ (x1 ≤ v9) → gR h v0 12 36 (fun a2 => lI h a2 v9 (fun x3 => K169 (v8 ||| (x3 <<< (((3 : Int32) * v9) &&& 31))) (v9 + 1) h)))))
set_option maxRecDepth 100000 in
set_option maxHeartbeats 4000000 in
theorem b_X12_behind_169 {o : Om} {Q : Int32 → AH → Prop} {K169 : Int32 → Int32 → AH → Prop} {v0 : Nat} {v8 : Int32} {v9 : Int32} {h : AH} (hK169 : ∀ w8 w9 h, K169 w8 w9 h → AQ o kX12_behind h 169 [(0, .ref v0), (8, .int w8), (9, .int w9)] [] (qI Q)) (H : B_X12_behind_169 Q K169 v0 v8 v9 h) : AQ o kX12_behind h 169 [(0, .ref v0), (8, .int v8), (9, .int v9)] [] (qI Q) := by
  refine a_iload 2 rfl dX12_behind_169 ?_
  refine a_aload_n 0 rfl rfl dX12_behind_171 ?_
  refine r_gI fo_RX12_178_12 dX12_behind_172 H (fun x1 H => ?_)
  refine a_icmp_ge (tgt := 201) dX12_behind_175 (by decide) (fun c => ?_) (fun c => ?_)
  · have H := H.1 (c)
    refine a_iload 1 rfl dX12_behind_201 ?_
    exact r_reti rfl dX12_behind_203 H
  · have H := H.2 (c)
    refine a_iload 1 rfl dX12_behind_178 ?_
    refine a_aload_n 0 rfl rfl dX12_behind_180 ?_
    refine r_gR fo_RX12_80_12 dX12_behind_181 H (fun a2 H => ?_)
    refine a_iload 2 rfl dX12_behind_184 ?_
    refine r_lI dX12_behind_186 H (fun x3 H => ?_)
    refine a_iconst (v := (3 : Int32)) (by decide) dX12_behind_187 ?_
    refine a_iload 2 rfl dX12_behind_188 ?_
    refine a_imul dX12_behind_190 ?_
    refine a_ishl dX12_behind_191 ?_
    refine a_ior dX12_behind_192 ?_
    refine a_istore (lv1 := [(0, .ref v0), (8, .int (v8 ||| (x3 <<< (((3 : Int32) * v9) &&& 31)))), (9, .int v9)]) [1, 0, 2] (by decide) rfl dX12_behind_193 ?_
    refine a_iinc (v := v9 + 1) (lv1 := [(0, .ref v0), (8, .int (v8 ||| (x3 <<< (((3 : Int32) * v9) &&& 31)))), (9, .int (v9 + 1))]) [1, 2, 0] 2 rfl (by decide) rfl rfl dX12_behind_195 ?_
    refine a_goto (tgt := 169) dX12_behind_198 (by decide) ?_
    exact hK169 _ _ _ H
def L_X12_behind_169 (Q : Int32 → AH → Prop)  (v0 : Nat) : Nat → Int32 → Int32 → AH → Prop
  | 0, _, _, _ => False
  | n + 1, v8, v9, h => B_X12_behind_169 Q (L_X12_behind_169 Q  v0 n) v0 v8 v9 h
theorem l_X12_behind_169 {o : Om} {Q : Int32 → AH → Prop}  {v0 : Nat}  : ∀ (n : Nat) (v8 : Int32) (v9 : Int32) (h : AH), L_X12_behind_169 Q  v0 n v8 v9 h → AQ o kX12_behind h 169 [(0, .ref v0), (8, .int v8), (9, .int v9)] [] (qI Q) := by
  intro n
  induction n with
  | zero => intro v8 v9 h H; exact H.elim
  | succ n ih => intro v8 v9 h H; exact b_X12_behind_169 ih H
def B_X12_behind_151 (Q : Int32 → AH → Prop)  (v0 : Nat) (v3 : Int32) (v4 : Int32) (v5 : Int32) (v7 : Int32) (h : AH) : Prop :=
  isO h v0 12 ∧ f_X12_carries v0 v5 v4 v3 (1 : Int32) v7 h (fun h1 => ∃ n, L_X12_behind_169 Q  v0 n (0 : Int32) (0 : Int32) h1)
set_option maxRecDepth 100000 in
set_option maxHeartbeats 4000000 in
theorem b_X12_behind_151 {o : Om} {Q : Int32 → AH → Prop}  {v0 : Nat} {v3 : Int32} {v4 : Int32} {v5 : Int32} {v7 : Int32} {h : AH}  (H : B_X12_behind_151 Q  v0 v3 v4 v5 v7 h) : AQ o kX12_behind h 151 [(0, .ref v0), (3, .int v3), (4, .int v4), (5, .int v5), (7, .int v7)] [] (qI Q) := by
  refine a_aload_n 0 rfl rfl dX12_behind_151 ?_
  refine a_iload 3 rfl dX12_behind_152 ?_
  refine a_iload 2 rfl dX12_behind_154 ?_
  refine a_iload_n 1 rfl rfl dX12_behind_156 ?_
  refine a_iconst (v := (1 : Int32)) (by decide) dX12_behind_157 ?_
  refine a_iload 4 rfl dX12_behind_158 ?_
  refine r_Vv (q := (RX12, TX12, 51)) (av := [.int v5, .int v4, .int v3, .int (1 : Int32), .int v7]) (rest := []) rfl rfl okX12_carries H.1 rfl rfl wd1334 wd1336 wp50 ⟨Nat.le_of_ble_eq_true rfl, Nat.le_of_ble_eq_true rfl⟩ (Nat.le_of_ble_eq_true rfl) dX12_behind_160 (s_X12_carries H.2) (fun h1 H => ?_)
  refine a_iconst (v := (0 : Int32)) (by decide) dX12_behind_163 ?_
  refine a_istore (lv1 := [(0, .ref v0), (3, .int v3), (4, .int v4), (5, .int v5), (7, .int v7), (8, .int (0 : Int32))]) [1, 2, 3, 4, 5, 0] (by decide) rfl dX12_behind_164 ?_
  refine a_iconst (v := (0 : Int32)) (by decide) dX12_behind_166 ?_
  refine a_istore (lv1 := [(0, .ref v0), (3, .int v3), (4, .int v4), (5, .int v5), (7, .int v7), (8, .int (0 : Int32)), (9, .int (0 : Int32))]) [1, 2, 3, 4, 5, 6, 0] (by decide) rfl dX12_behind_167 ?_
  refine AQ.sub (lv1 := [(0, .ref v0), (8, .int (0 : Int32)), (9, .int (0 : Int32))]) [0, 5, 6] rfl ?_
  obtain ⟨n, H⟩ := H
  exact l_X12_behind_169  n _ _ _ H
def B_X12_behind_136 (Q : Int32 → AH → Prop)  (v0 : Nat) (v2 : Int32) (v3 : Int32) (v4 : Int32) (v5 : Int32) (v7 : Int32) (h : AH) : Prop :=
  gR h v0 12 13 (fun a1 => lI h a1 v2 (fun x2 => ((x2 = (2 : Int32) → B_X12_behind_151 Q  v0 v3 v4 v5 v7 h) ∧ (¬ (x2 = (2 : Int32)) → ((v7 = 0 → ∃ n, L_X12_behind_169 Q  v0 n (0 : Int32) (0 : Int32) h) ∧ (¬ (v7 = 0) → B_X12_behind_151 Q  v0 v3 v4 v5 v7 h))))))
set_option maxRecDepth 100000 in
set_option maxHeartbeats 4000000 in
theorem b_X12_behind_136 {o : Om} {Q : Int32 → AH → Prop}  {v0 : Nat} {v2 : Int32} {v3 : Int32} {v4 : Int32} {v5 : Int32} {v7 : Int32} {h : AH}  (H : B_X12_behind_136 Q  v0 v2 v3 v4 v5 v7 h) : AQ o kX12_behind h 136 [(0, .ref v0), (2, .int v2), (3, .int v3), (4, .int v4), (5, .int v5), (7, .int v7)] [] (qI Q) := by
  refine a_aload_n 0 rfl rfl dX12_behind_136 ?_
  refine r_gR fo_RX12_32_12 dX12_behind_137 H (fun a1 H => ?_)
  refine a_iload_n 1 rfl rfl dX12_behind_140 ?_
  refine r_lI dX12_behind_141 H (fun x2 H => ?_)
  refine a_iconst (v := (2 : Int32)) (by decide) dX12_behind_142 ?_
  refine a_icmp_eq (tgt := 151) dX12_behind_143 (by decide) (fun c => ?_) (fun c => ?_)
  · have H := H.1 (c)
    refine AQ.sub (lv1 := [(0, .ref v0), (3, .int v3), (4, .int v4), (5, .int v5), (7, .int v7)]) [0, 2, 3, 4, 5] rfl ?_
    exact b_X12_behind_151  H
  · have H := H.2 (c)
    refine a_iload 5 rfl dX12_behind_146 ?_
    refine a_if_eq (tgt := 163) dX12_behind_148 (by decide) (fun c => ?_) (fun c => ?_)
    · have H := H.1 (c)
      refine a_iconst (v := (0 : Int32)) (by decide) dX12_behind_163 ?_
      refine a_istore (lv1 := [(0, .ref v0), (2, .int v2), (3, .int v3), (4, .int v4), (5, .int v5), (7, .int v7), (8, .int (0 : Int32))]) [1, 2, 3, 4, 5, 6, 0] (by decide) rfl dX12_behind_164 ?_
      refine a_iconst (v := (0 : Int32)) (by decide) dX12_behind_166 ?_
      refine a_istore (lv1 := [(0, .ref v0), (2, .int v2), (3, .int v3), (4, .int v4), (5, .int v5), (7, .int v7), (8, .int (0 : Int32)), (9, .int (0 : Int32))]) [1, 2, 3, 4, 5, 6, 7, 0] (by decide) rfl dX12_behind_167 ?_
      refine AQ.sub (lv1 := [(0, .ref v0), (8, .int (0 : Int32)), (9, .int (0 : Int32))]) [0, 6, 7] rfl ?_
      obtain ⟨n, H⟩ := H
      exact l_X12_behind_169  n _ _ _ H
    · have H := H.2 (c)
      refine AQ.sub (lv1 := [(0, .ref v0), (3, .int v3), (4, .int v4), (5, .int v5), (7, .int v7)]) [0, 2, 3, 4, 5] rfl ?_
      exact b_X12_behind_151  H
def B_X12_behind_131 (Q : Int32 → AH → Prop)  (v0 : Nat) (v2 : Int32) (v3 : Int32) (v4 : Int32) (v5 : Int32) (v7 : Int32) (t0 : Nat) (t1 : Int32) (t2 : Int32) (t3 : Int32) (t4 : Int32) (h : AH) : Prop :=
  isO h t0 12 ∧ f_X12_carries t0 t1 t2 t3 t4 v7 h (fun h1 => B_X12_behind_136 Q  v0 v2 v3 v4 v5 v7 h1)
set_option maxRecDepth 100000 in
set_option maxHeartbeats 4000000 in
theorem b_X12_behind_131 {o : Om} {Q : Int32 → AH → Prop}  {v0 : Nat} {v2 : Int32} {v3 : Int32} {v4 : Int32} {v5 : Int32} {v7 : Int32} {t0 : Nat} {t1 : Int32} {t2 : Int32} {t3 : Int32} {t4 : Int32} {h : AH}  (H : B_X12_behind_131 Q  v0 v2 v3 v4 v5 v7 t0 t1 t2 t3 t4 h) : AQ o kX12_behind h 131 [(0, .ref v0), (2, .int v2), (3, .int v3), (4, .int v4), (5, .int v5), (7, .int v7)] [.int t4, .int t3, .int t2, .int t1, .ref t0] (qI Q) := by
  refine a_iload 5 rfl dX12_behind_131 ?_
  refine r_Vv (q := (RX12, TX12, 51)) (av := [.int t1, .int t2, .int t3, .int t4, .int v7]) (rest := []) rfl rfl okX12_carries H.1 rfl rfl wd1334 wd1336 wp50 ⟨Nat.le_of_ble_eq_true rfl, Nat.le_of_ble_eq_true rfl⟩ (Nat.le_of_ble_eq_true rfl) dX12_behind_133 (s_X12_carries H.2) (fun h1 H => ?_)
  exact b_X12_behind_136  H
def B_X12_behind_115 (Q : Int32 → AH → Prop)  (v0 : Nat) (v2 : Int32) (v3 : Int32) (v4 : Int32) (v5 : Int32) (v7 : Int32) (t0 : Nat) (t1 : Int32) (t2 : Int32) (h : AH) : Prop :=
  gR h v0 12 13 (fun a1 => lI h a1 v2 (fun x2 => ((¬ (x2 = (1 : Int32)) → B_X12_behind_131 Q  v0 v2 v3 v4 v5 v7 t0 t1 t2 v3 (1 : Int32) h) ∧ (x2 = (1 : Int32) → B_X12_behind_131 Q  v0 v2 v3 v4 v5 v7 t0 t1 t2 v3 (3 : Int32) h))))
set_option maxRecDepth 100000 in
set_option maxHeartbeats 4000000 in
theorem b_X12_behind_115 {o : Om} {Q : Int32 → AH → Prop}  {v0 : Nat} {v2 : Int32} {v3 : Int32} {v4 : Int32} {v5 : Int32} {v7 : Int32} {t0 : Nat} {t1 : Int32} {t2 : Int32} {h : AH}  (H : B_X12_behind_115 Q  v0 v2 v3 v4 v5 v7 t0 t1 t2 h) : AQ o kX12_behind h 115 [(0, .ref v0), (2, .int v2), (3, .int v3), (4, .int v4), (5, .int v5), (7, .int v7)] [.int t2, .int t1, .ref t0] (qI Q) := by
  refine a_iload_n 2 rfl rfl dX12_behind_115 ?_
  refine a_aload_n 0 rfl rfl dX12_behind_116 ?_
  refine r_gR fo_RX12_32_12 dX12_behind_117 H (fun a1 H => ?_)
  refine a_iload_n 1 rfl rfl dX12_behind_120 ?_
  refine r_lI dX12_behind_121 H (fun x2 H => ?_)
  refine a_iconst (v := (1 : Int32)) (by decide) dX12_behind_122 ?_
  refine a_icmp_ne (tgt := 130) dX12_behind_123 (by decide) (fun c => ?_) (fun c => ?_)
  · have H := H.1 (c)
    refine a_iconst (v := (1 : Int32)) (by decide) dX12_behind_130 ?_
    exact b_X12_behind_131  H
  · have H := H.2 (c)
    refine a_iconst (v := (3 : Int32)) (by decide) dX12_behind_126 ?_
    refine a_goto (tgt := 131) dX12_behind_127 (by decide) ?_
    exact b_X12_behind_131  H
def B_X12_behind_56 (Q : Int32 → AH → Prop)  (v0 : Nat) (v2 : Int32) (v3 : Int32) (v4 : Int32) (v5 : Int32) (v6 : Int32) (t0 : Int32) (h : AH) : Prop :=
  gR h v0 12 13 (fun a1 => lI h a1 v2 (fun x2 => ((¬ (x2 = (4 : Int32)) → gR h v0 12 13 (fun a3 => lI h a3 v2 (fun x4 => ((¬ (x4 = (3 : Int32)) → B_X12_behind_115 Q  v0 v2 v3 v4 v5 t0 v0 v4 v5 h) ∧ (x4 = (3 : Int32) → B_X12_behind_115 Q  v0 v2 v3 v4 v5 t0 v0 v4 v6 h))))) ∧ (x2 = (4 : Int32) → isO h v0 12 ∧ f_X12_taken v0 v4 (1 : Int32) h (fun x5 h6 => ((x5 = (-9 : Int32) → B_X12_behind_136 Q  v0 v2 v3 v4 v5 t0 h6) ∧ (¬ (x5 = (-9 : Int32)) → isO h6 v0 12 ∧ f_X12_put_ v0 x5 (7 : Int32) h6 (fun h7 => B_X12_behind_136 Q  v0 v2 v3 v4 v5 t0 h7))))))))
set_option maxRecDepth 100000 in
set_option maxHeartbeats 4000000 in
theorem b_X12_behind_56 {o : Om} {Q : Int32 → AH → Prop}  {v0 : Nat} {v2 : Int32} {v3 : Int32} {v4 : Int32} {v5 : Int32} {v6 : Int32} {t0 : Int32} {h : AH}  (H : B_X12_behind_56 Q  v0 v2 v3 v4 v5 v6 t0 h) : AQ o kX12_behind h 56 [(0, .ref v0), (2, .int v2), (3, .int v3), (4, .int v4), (5, .int v5), (6, .int v6)] [.int t0] (qI Q) := by
  refine a_istore (lv1 := [(0, .ref v0), (2, .int v2), (3, .int v3), (4, .int v4), (5, .int v5), (6, .int v6), (7, .int t0)]) [1, 2, 3, 4, 5, 6, 0] (by decide) rfl dX12_behind_56 ?_
  refine a_aload_n 0 rfl rfl dX12_behind_58 ?_
  refine r_gR fo_RX12_32_12 dX12_behind_59 H (fun a1 H => ?_)
  refine a_iload_n 1 rfl rfl dX12_behind_62 ?_
  refine r_lI dX12_behind_63 H (fun x2 H => ?_)
  refine a_iconst (v := (4 : Int32)) (by decide) dX12_behind_64 ?_
  refine a_icmp_ne (tgt := 95) dX12_behind_65 (by decide) (fun c => ?_) (fun c => ?_)
  · have H := H.1 (c)
    refine a_aload_n 0 rfl rfl dX12_behind_95 ?_
    refine a_iload 3 rfl dX12_behind_96 ?_
    refine a_aload_n 0 rfl rfl dX12_behind_98 ?_
    refine r_gR fo_RX12_32_12 dX12_behind_99 H (fun a3 H => ?_)
    refine a_iload_n 1 rfl rfl dX12_behind_102 ?_
    refine r_lI dX12_behind_103 H (fun x4 H => ?_)
    refine a_iconst (v := (3 : Int32)) (by decide) dX12_behind_104 ?_
    refine a_icmp_ne (tgt := 113) dX12_behind_105 (by decide) (fun c => ?_) (fun c => ?_)
    · have H := H.1 (c)
      refine a_iload 4 rfl dX12_behind_113 ?_
      refine AQ.sub (lv1 := [(0, .ref v0), (2, .int v2), (3, .int v3), (4, .int v4), (5, .int v5), (7, .int t0)]) [0, 1, 2, 3, 4, 6] rfl ?_
      exact b_X12_behind_115  H
    · have H := H.2 (c)
      refine a_iload 5 rfl dX12_behind_108 ?_
      refine a_goto (tgt := 115) dX12_behind_110 (by decide) ?_
      refine AQ.sub (lv1 := [(0, .ref v0), (2, .int v2), (3, .int v3), (4, .int v4), (5, .int v5), (7, .int t0)]) [0, 1, 2, 3, 4, 6] rfl ?_
      exact b_X12_behind_115  H
  · have H := H.2 (c)
    refine a_aload_n 0 rfl rfl dX12_behind_68 ?_
    refine a_iload 3 rfl dX12_behind_69 ?_
    refine a_iconst (v := (1 : Int32)) (by decide) dX12_behind_71 ?_
    refine r_Vi (q := (RX12, TX12, 51)) (av := [.int v4, .int (1 : Int32)]) (rest := []) rfl rfl okX12_taken H.1 rfl rfl wd1319 wd1321 wp47 ⟨Nat.le_of_ble_eq_true rfl, Nat.le_of_ble_eq_true rfl⟩ (Nat.le_of_ble_eq_true rfl) dX12_behind_72 (s_X12_taken H.2) (fun x5 h6 H => ?_)
    refine a_istore (lv1 := [(0, .ref v0), (2, .int v2), (3, .int v3), (4, .int v4), (5, .int v5), (6, .int v6), (7, .int t0), (8, .int x5)]) [1, 2, 3, 4, 5, 6, 7, 0] (by decide) rfl dX12_behind_75 ?_
    refine a_iload 7 rfl dX12_behind_77 ?_
    refine a_bipush (v := (-9 : Int32)) (by decide) dX12_behind_79 ?_
    refine a_icmp_eq (tgt := 92) dX12_behind_81 (by decide) (fun c => ?_) (fun c => ?_)
    · have H := H.1 (c)
      refine a_goto (tgt := 136) dX12_behind_92 (by decide) ?_
      refine AQ.sub (lv1 := [(0, .ref v0), (2, .int v2), (3, .int v3), (4, .int v4), (5, .int v5), (7, .int t0)]) [0, 1, 2, 3, 4, 6] rfl ?_
      exact b_X12_behind_136  H
    · have H := H.2 (c)
      refine a_aload_n 0 rfl rfl dX12_behind_84 ?_
      refine a_iload 7 rfl dX12_behind_85 ?_
      refine a_bipush (v := (7 : Int32)) (by decide) dX12_behind_87 ?_
      refine r_Vv (q := (RX12, TX12, 51)) (av := [.int x5, .int (7 : Int32)]) (rest := []) rfl rfl okX12_put_ H.1 rfl rfl wd1330 wd1332 wp49 ⟨Nat.le_of_ble_eq_true rfl, Nat.le_of_ble_eq_true rfl⟩ (Nat.le_of_ble_eq_true rfl) dX12_behind_89 (s_X12_put_ H.2) (fun h7 H => ?_)
      refine a_goto (tgt := 136) dX12_behind_92 (by decide) ?_
      refine AQ.sub (lv1 := [(0, .ref v0), (2, .int v2), (3, .int v3), (4, .int v4), (5, .int v5), (7, .int t0)]) [0, 1, 2, 3, 4, 6] rfl ?_
      exact b_X12_behind_136  H
def B_X12_behind_39 (Q : Int32 → AH → Prop)  (v0 : Nat) (v2 : Int32) (v3 : Int32) (v4 : Int32) (v5 : Int32) (t0 : Int32) (h : AH) : Prop :=
  gR h v0 12 13 (fun a1 => lI h a1 v2 (fun x2 => ((¬ (x2 = (5 : Int32)) → B_X12_behind_56 Q  v0 v2 v3 v4 v5 t0 (0 : Int32) h) ∧ (x2 = (5 : Int32) → B_X12_behind_56 Q  v0 v2 v3 v4 v5 t0 (1 : Int32) h))))
set_option maxRecDepth 100000 in
set_option maxHeartbeats 4000000 in
theorem b_X12_behind_39 {o : Om} {Q : Int32 → AH → Prop}  {v0 : Nat} {v2 : Int32} {v3 : Int32} {v4 : Int32} {v5 : Int32} {t0 : Int32} {h : AH}  (H : B_X12_behind_39 Q  v0 v2 v3 v4 v5 t0 h) : AQ o kX12_behind h 39 [(0, .ref v0), (2, .int v2), (3, .int v3), (4, .int v4), (5, .int v5)] [.int t0] (qI Q) := by
  refine a_istore (lv1 := [(0, .ref v0), (2, .int v2), (3, .int v3), (4, .int v4), (5, .int v5), (6, .int t0)]) [1, 2, 3, 4, 5, 0] (by decide) rfl dX12_behind_39 ?_
  refine a_aload_n 0 rfl rfl dX12_behind_41 ?_
  refine r_gR fo_RX12_32_12 dX12_behind_42 H (fun a1 H => ?_)
  refine a_iload_n 1 rfl rfl dX12_behind_45 ?_
  refine r_lI dX12_behind_46 H (fun x2 H => ?_)
  refine a_iconst (v := (5 : Int32)) (by decide) dX12_behind_47 ?_
  refine a_icmp_ne (tgt := 55) dX12_behind_48 (by decide) (fun c => ?_) (fun c => ?_)
  · have H := H.1 (c)
    refine a_iconst (v := (0 : Int32)) (by decide) dX12_behind_55 ?_
    exact b_X12_behind_56  H
  · have H := H.2 (c)
    refine a_iconst (v := (1 : Int32)) (by decide) dX12_behind_51 ?_
    refine a_goto (tgt := 56) dX12_behind_52 (by decide) ?_
    exact b_X12_behind_56  H
def f_X12_behind (v0 : Nat) (v1 : Int32) (v2 : Int32) (v3 : Int32) (h : AH) (Q : Int32 → AH → Prop) : Prop :=
  isO h v0 12 ∧ f_X12_spread v0 v1 h (fun h1 => gR h1 v0 12 14 (fun a2 => lI h1 a2 v2 (fun x3 => gR h1 v0 12 15 (fun a4 => lI h1 a4 v2 (fun x5 => ((x5 ≤ x3 → B_X12_behind_39 Q  v0 v2 v3 x3 x5 (x3 - (1 : Int32)) h1) ∧ (¬ (x5 ≤ x3) → B_X12_behind_39 Q  v0 v2 v3 x3 x5 (x3 + (1 : Int32)) h1)))))))
set_option maxRecDepth 100000 in
set_option maxHeartbeats 4000000 in
theorem s_X12_behind {o : Om} {v0 : Nat} {v1 : Int32} {v2 : Int32} {v3 : Int32} {h : AH} {Q : Int32 → AH → Prop} (H : f_X12_behind v0 v1 v2 v3 h Q) : MQ' o kX12_behind [.ref v0, .int v1, .int v2, .int v3] h (qI Q) := by
  refine MQ'.of (by decide +kernel) (Nat.le_of_ble_eq_true rfl) ?_
  show AQ o kX12_behind h 0 [(0, .ref v0), (1, .int v1), (2, .int v2), (3, .int v3)] [] (qI Q)
  refine a_aload_n 0 rfl rfl dX12_behind_0 ?_
  refine a_iload_n 1 rfl rfl dX12_behind_1 ?_
  refine r_Vv (q := (RX12, TX12, 51)) (av := [.int v1]) (rest := []) rfl rfl okX12_spread H.1 rfl rfl wd1315 wd1317 wp46 ⟨Nat.le_of_ble_eq_true rfl, Nat.le_of_ble_eq_true rfl⟩ (Nat.le_of_ble_eq_true rfl) dX12_behind_2 (s_X12_spread H.2) (fun h1 H => ?_)
  refine a_aload_n 0 rfl rfl dX12_behind_5 ?_
  refine r_gR fo_RX12_35_12 dX12_behind_6 H (fun a2 H => ?_)
  refine a_iload_n 2 rfl rfl dX12_behind_9 ?_
  refine r_lI dX12_behind_10 H (fun x3 H => ?_)
  refine a_istore (lv1 := [(0, .ref v0), (1, .int v1), (2, .int v2), (3, .int v3), (4, .int x3)]) [1, 2, 3, 4, 0] (by decide) rfl dX12_behind_11 ?_
  refine a_aload_n 0 rfl rfl dX12_behind_13 ?_
  refine r_gR fo_RX12_38_12 dX12_behind_14 H (fun a4 H => ?_)
  refine a_iload_n 2 rfl rfl dX12_behind_17 ?_
  refine r_lI dX12_behind_18 H (fun x5 H => ?_)
  refine a_istore (lv1 := [(0, .ref v0), (1, .int v1), (2, .int v2), (3, .int v3), (4, .int x3), (5, .int x5)]) [1, 2, 3, 4, 5, 0] (by decide) rfl dX12_behind_19 ?_
  refine a_iload 4 rfl dX12_behind_21 ?_
  refine a_iload 5 rfl dX12_behind_23 ?_
  refine a_icmp_ge (tgt := 35) dX12_behind_25 (by decide) (fun c => ?_) (fun c => ?_)
  · have H := H.1 (c)
    refine a_iload 4 rfl dX12_behind_35 ?_
    refine a_iconst (v := (1 : Int32)) (by decide) dX12_behind_37 ?_
    refine a_isub dX12_behind_38 ?_
    refine AQ.sub (lv1 := [(0, .ref v0), (2, .int v2), (3, .int v3), (4, .int x3), (5, .int x5)]) [0, 2, 3, 4, 5] rfl ?_
    exact b_X12_behind_39  H
  · have H := H.2 (c)
    refine a_iload 4 rfl dX12_behind_28 ?_
    refine a_iconst (v := (1 : Int32)) (by decide) dX12_behind_30 ?_
    refine a_iadd dX12_behind_31 ?_
    refine a_goto (tgt := 39) dX12_behind_32 (by decide) ?_
    refine AQ.sub (lv1 := [(0, .ref v0), (2, .int v2), (3, .int v3), (4, .int x3), (5, .int x5)]) [0, 2, 3, 4, 5] rfl ?_
    exact b_X12_behind_39  H
def B_X12_mark_129 (Q : Int32 → AH → Prop) (K129 : Int32 → Int32 → AH → Prop) (v0 : Nat) (v3 : Int32) (v4 : Int32) (v5 : Int32) (h : AH) : Prop :=
  gI h v0 12 10 (fun x1 => ((x1 ≤ v5 → Q v4 h) ∧ (¬ (x1 ≤ v5) → f_X12_spotOf v3 v5 h (fun x2 h3 => gI h3 v0 12 17 (fun x4 => f_X12_spotOf x4 v5 h3 (fun x5 h6 => ((¬ (x2 = x5) → K129 (v4 + (0 : Int32)) (v5 + 1) h6) ∧ (x2 = x5 → K129 (v4 + (1 : Int32)) (v5 + 1) h6))))))))
set_option maxRecDepth 100000 in
set_option maxHeartbeats 4000000 in
theorem b_X12_mark_129 {o : Om} {Q : Int32 → AH → Prop} {K129 : Int32 → Int32 → AH → Prop} {v0 : Nat} {v3 : Int32} {v4 : Int32} {v5 : Int32} {h : AH} (hK129 : ∀ w4 w5 h, K129 w4 w5 h → AQ o kX12_mark h 129 [(0, .ref v0), (3, .int v3), (4, .int w4), (5, .int w5)] [] (qI Q)) (H : B_X12_mark_129 Q K129 v0 v3 v4 v5 h) : AQ o kX12_mark h 129 [(0, .ref v0), (3, .int v3), (4, .int v4), (5, .int v5)] [] (qI Q) := by
  refine a_iload 3 rfl dX12_mark_129 ?_
  refine a_aload_n 0 rfl rfl dX12_mark_131 ?_
  refine r_gI fo_RX12_178_12 dX12_mark_132 H (fun x1 H => ?_)
  refine a_icmp_ge (tgt := 172) dX12_mark_135 (by decide) (fun c => ?_) (fun c => ?_)
  · have H := H.1 (c)
    refine a_iload 2 rfl dX12_mark_172 ?_
    exact r_reti rfl dX12_mark_174 H
  · have H := H.2 (c)
    refine a_iload 2 rfl dX12_mark_138 ?_
    refine a_iload_n 1 rfl rfl dX12_mark_140 ?_
    refine a_iload 3 rfl dX12_mark_141 ?_
    refine r_Si (av := [.int v3, .int v5]) (rest := [.int v4]) rfl rfl okX12_spotOf wd1286 wd1287 ⟨Nat.le_of_ble_eq_true rfl, Nat.le_of_ble_eq_true rfl⟩ (Nat.le_of_ble_eq_true rfl) dX12_mark_143 (s_X12_spotOf H) (fun x2 h3 H => ?_)
    refine a_aload_n 0 rfl rfl dX12_mark_146 ?_
    refine r_gI fo_RX12_184_12 dX12_mark_147 H (fun x4 H => ?_)
    refine a_iload 3 rfl dX12_mark_150 ?_
    refine r_Si (av := [.int x4, .int v5]) (rest := [.int x2, .int v4]) rfl rfl okX12_spotOf wd1286 wd1287 ⟨Nat.le_of_ble_eq_true rfl, Nat.le_of_ble_eq_true rfl⟩ (Nat.le_of_ble_eq_true rfl) dX12_mark_152 (s_X12_spotOf H) (fun x5 h6 H => ?_)
    refine a_icmp_ne (tgt := 162) dX12_mark_155 (by decide) (fun c => ?_) (fun c => ?_)
    · have H := H.1 (c)
      refine a_iconst (v := (0 : Int32)) (by decide) dX12_mark_162 ?_
      refine a_iadd dX12_mark_163 ?_
      refine a_istore (lv1 := [(0, .ref v0), (3, .int v3), (4, .int (v4 + (0 : Int32))), (5, .int v5)]) [1, 2, 0, 3] (by decide) rfl dX12_mark_164 ?_
      refine a_iinc (v := v5 + 1) (lv1 := [(0, .ref v0), (3, .int v3), (4, .int (v4 + (0 : Int32))), (5, .int (v5 + 1))]) [1, 2, 3, 0] 3 rfl (by decide) rfl rfl dX12_mark_166 ?_
      refine a_goto (tgt := 129) dX12_mark_169 (by decide) ?_
      exact hK129 _ _ _ H
    · have H := H.2 (c)
      refine a_iconst (v := (1 : Int32)) (by decide) dX12_mark_158 ?_
      refine a_goto (tgt := 163) dX12_mark_159 (by decide) ?_
      refine a_iadd dX12_mark_163 ?_
      refine a_istore (lv1 := [(0, .ref v0), (3, .int v3), (4, .int (v4 + (1 : Int32))), (5, .int v5)]) [1, 2, 0, 3] (by decide) rfl dX12_mark_164 ?_
      refine a_iinc (v := v5 + 1) (lv1 := [(0, .ref v0), (3, .int v3), (4, .int (v4 + (1 : Int32))), (5, .int (v5 + 1))]) [1, 2, 3, 0] 3 rfl (by decide) rfl rfl dX12_mark_166 ?_
      refine a_goto (tgt := 129) dX12_mark_169 (by decide) ?_
      exact hK129 _ _ _ H
def L_X12_mark_129 (Q : Int32 → AH → Prop)  (v0 : Nat) (v3 : Int32) : Nat → Int32 → Int32 → AH → Prop
  | 0, _, _, _ => False
  | n + 1, v4, v5, h => B_X12_mark_129 Q (L_X12_mark_129 Q  v0 v3 n) v0 v3 v4 v5 h
theorem l_X12_mark_129 {o : Om} {Q : Int32 → AH → Prop}  {v0 : Nat} {v3 : Int32}  : ∀ (n : Nat) (v4 : Int32) (v5 : Int32) (h : AH), L_X12_mark_129 Q  v0 v3 n v4 v5 h → AQ o kX12_mark h 129 [(0, .ref v0), (3, .int v3), (4, .int v4), (5, .int v5)] [] (qI Q) := by
  intro n
  induction n with
  | zero => intro v4 v5 h H; exact H.elim
  | succ n ih => intro v4 v5 h H; exact b_X12_mark_129 ih H
def f_X12_mark (v0 : Nat) (v1 : Int32) (v2 : Int32) (h : AH) (Q : Int32 → AH → Prop) : Prop :=
  isO h v0 12 ∧ f_X12_isWalker v0 v1 h (fun x1 h2 => ((x1 = 0 → Q (-1 : Int32) h2) ∧ (¬ (x1 = 0) → f_X12_in v2.toInt64 (1 : Int64) (5 : Int64) h2 (fun x3 h4 => ((¬ (x3 = 0) → gR h4 v0 12 13 (fun a5 => lI h4 a5 v1 (fun x6 => f_X12_isOf x6 v2 h4 (fun x7 h8 => ((¬ (x7 = 0) → gI h8 v0 12 17 (fun x9 => gI h8 v0 12 16 (fun x10 => isO h8 v0 12 ∧ f_X12_behind v0 x9 v1 x10 h8 (fun x11 h12 => ((v2 = 1 → gR h12 v0 12 37 (fun a13 => lI h12 a13 (0 : Int32) (fun x14 => gR h12 v0 12 37 (fun a15 => lI h12 a15 (1 : Int32) (fun x16 => gR h12 v0 12 37 (fun a17 => lI h12 a17 (2 : Int32) (fun x18 => gR h12 v0 12 37 (fun a19 => lI h12 a19 (3 : Int32) (fun x20 => gR h12 v0 12 37 (fun a21 => lI h12 a21 (4 : Int32) (fun x22 => Q ((((x14 + x16) + x18) + x20) + x22) h12))))))))))) ∧ (v2 = 2 → ∃ n, L_X12_mark_129 Q  v0 x11 n (0 : Int32) (0 : Int32) h12) ∧ (v2 = 3 → gR h12 v0 12 14 (fun a23 => lI h12 a23 v1 (fun x24 => gR h12 v0 12 15 (fun a25 => lI h12 a25 v1 (fun x26 => ((x26 ≤ x24 → gR h12 v0 12 14 (fun a27 => lI h12 a27 v1 (fun x28 => Q (x28 - (1 : Int32)) h12))) ∧ (¬ (x26 ≤ x24) → gR h12 v0 12 14 (fun a29 => lI h12 a29 v1 (fun x30 => Q (x30 + (1 : Int32)) h12))))))))) ∧ (v2 = 4 → gI h12 v0 12 38 (fun x31 => ((¬ (x31 = 0) → gI h12 v0 12 38 (fun x32 => Q x32 h12)) ∧ (x31 = 0 → Q (-9 : Int32) h12)))) ∧ (¬ v2 = 1 → ¬ v2 = 2 → ¬ v2 = 3 → ¬ v2 = 4 → gR h12 v0 12 14 (fun a33 => lI h12 a33 v1 (fun x34 => gR h12 v0 12 15 (fun a35 => lI h12 a35 v1 (fun x36 => f_X12_size (x34 - x36) h12 (fun x37 h38 => Q ((2 : Int32) * x37) h38))))))))))) ∧ (x7 = 0 → isO h8 v0 12 ∧ f_X12_find v0 (3 : Int32) h8 (fun x39 h40 => Q x39 h40))))))) ∧ (x3 = 0 → Q (-1 : Int32) h4))))))
set_option maxRecDepth 100000 in
set_option maxHeartbeats 4000000 in
theorem s_X12_mark {o : Om} {v0 : Nat} {v1 : Int32} {v2 : Int32} {h : AH} {Q : Int32 → AH → Prop} (H : f_X12_mark v0 v1 v2 h Q) : MQ' o kX12_mark [.ref v0, .int v1, .int v2] h (qI Q) := by
  refine MQ'.of (by decide +kernel) (Nat.le_of_ble_eq_true rfl) ?_
  show AQ o kX12_mark h 0 [(0, .ref v0), (1, .int v1), (2, .int v2)] [] (qI Q)
  refine a_aload_n 0 rfl rfl dX12_mark_0 ?_
  refine a_iload_n 1 rfl rfl dX12_mark_1 ?_
  refine r_Vi (q := (RX12, TX12, 51)) (av := [.int v1]) (rest := []) rfl rfl okX12_isWalker H.1 rfl rfl wd1300 wd1302 wp44 ⟨Nat.le_of_ble_eq_true rfl, Nat.le_of_ble_eq_true rfl⟩ (Nat.le_of_ble_eq_true rfl) dX12_mark_2 (s_X12_isWalker H.2) (fun x1 h2 H => ?_)
  refine a_if_eq (tgt := 20) dX12_mark_5 (by decide) (fun c => ?_) (fun c => ?_)
  · have H := H.1 (c)
    refine a_iconst (v := (-1 : Int32)) (by decide) dX12_mark_20 ?_
    exact r_reti rfl dX12_mark_21 H
  · have H := H.2 (c)
    refine a_iload_n 2 rfl rfl dX12_mark_8 ?_
    refine a_i2l dX12_mark_9 ?_
    refine a_lconst (v := (1 : Int64)) (by decide) dX12_mark_10 ?_
    refine a_ldc2 (v := (5 : Int64)) wd1187 dX12_mark_11 ?_
    refine r_Si (av := [.long v2.toInt64, .long (1 : Int64), .long (5 : Int64)]) (rest := []) rfl rfl okX12_in wd1188 wd1189 ⟨Nat.le_of_ble_eq_true rfl, Nat.le_of_ble_eq_true rfl⟩ (Nat.le_of_ble_eq_true rfl) dX12_mark_14 (s_X12_in H) (fun x3 h4 H => ?_)
    refine a_if_ne (tgt := 22) dX12_mark_17 (by decide) (fun c => ?_) (fun c => ?_)
    · have H := H.1 (c)
      refine a_aload_n 0 rfl rfl dX12_mark_22 ?_
      refine r_gR fo_RX12_32_12 dX12_mark_23 H (fun a5 H => ?_)
      refine a_iload_n 1 rfl rfl dX12_mark_26 ?_
      refine r_lI dX12_mark_27 H (fun x6 H => ?_)
      refine a_iload_n 2 rfl rfl dX12_mark_28 ?_
      refine r_Si (av := [.int x6, .int v2]) (rest := []) rfl rfl okX12_isOf wd1308 wd1309 ⟨Nat.le_of_ble_eq_true rfl, Nat.le_of_ble_eq_true rfl⟩ (Nat.le_of_ble_eq_true rfl) dX12_mark_29 (s_X12_isOf H) (fun x7 h8 H => ?_)
      refine a_if_ne (tgt := 41) dX12_mark_32 (by decide) (fun c => ?_) (fun c => ?_)
      · have H := H.1 (c)
        refine a_aload_n 0 rfl rfl dX12_mark_41 ?_
        refine a_aload_n 0 rfl rfl dX12_mark_42 ?_
        refine r_gI fo_RX12_184_12 dX12_mark_43 H (fun x9 H => ?_)
        refine a_iload_n 1 rfl rfl dX12_mark_46 ?_
        refine a_aload_n 0 rfl rfl dX12_mark_47 ?_
        refine r_gI fo_RX12_187_12 dX12_mark_48 H (fun x10 H => ?_)
        refine r_Vi (q := (RX12, TX12, 51)) (av := [.int x9, .int v1, .int x10]) (rest := []) rfl rfl okX12_behind H.1 rfl rfl wd1311 wd1313 wp45 ⟨Nat.le_of_ble_eq_true rfl, Nat.le_of_ble_eq_true rfl⟩ (Nat.le_of_ble_eq_true rfl) dX12_mark_51 (s_X12_behind H.2) (fun x11 h12 H => ?_)
        refine a_istore_n (lv1 := [(0, .ref v0), (1, .int v1), (2, .int v2), (3, .int x11)]) rfl [1, 2, 3, 0] (by decide) rfl dX12_mark_54 ?_
        refine a_iload_n 2 rfl rfl dX12_mark_55 ?_
        by_cases c0 : v2 = 1
        · have H := H.1 c0
          refine r_tab (off := 32) (tgt := 88) dX12_mark_56 c0 (by decide) (by decide) rfl (by decide) ?_
          refine a_aload_n 0 rfl rfl dX12_mark_88 ?_
          refine r_gR fo_RX12_83_12 dX12_mark_89 H (fun a13 H => ?_)
          refine a_iconst (v := (0 : Int32)) (by decide) dX12_mark_92 ?_
          refine r_lI dX12_mark_93 H (fun x14 H => ?_)
          refine a_aload_n 0 rfl rfl dX12_mark_94 ?_
          refine r_gR fo_RX12_83_12 dX12_mark_95 H (fun a15 H => ?_)
          refine a_iconst (v := (1 : Int32)) (by decide) dX12_mark_98 ?_
          refine r_lI dX12_mark_99 H (fun x16 H => ?_)
          refine a_iadd dX12_mark_100 ?_
          refine a_aload_n 0 rfl rfl dX12_mark_101 ?_
          refine r_gR fo_RX12_83_12 dX12_mark_102 H (fun a17 H => ?_)
          refine a_iconst (v := (2 : Int32)) (by decide) dX12_mark_105 ?_
          refine r_lI dX12_mark_106 H (fun x18 H => ?_)
          refine a_iadd dX12_mark_107 ?_
          refine a_aload_n 0 rfl rfl dX12_mark_108 ?_
          refine r_gR fo_RX12_83_12 dX12_mark_109 H (fun a19 H => ?_)
          refine a_iconst (v := (3 : Int32)) (by decide) dX12_mark_112 ?_
          refine r_lI dX12_mark_113 H (fun x20 H => ?_)
          refine a_iadd dX12_mark_114 ?_
          refine a_aload_n 0 rfl rfl dX12_mark_115 ?_
          refine r_gR fo_RX12_83_12 dX12_mark_116 H (fun a21 H => ?_)
          refine a_iconst (v := (4 : Int32)) (by decide) dX12_mark_119 ?_
          refine r_lI dX12_mark_120 H (fun x22 H => ?_)
          refine a_iadd dX12_mark_121 ?_
          exact r_reti rfl dX12_mark_122 H
        by_cases c1 : v2 = 2
        · have H := H.2.1 c1
          refine r_tab (off := 67) (tgt := 123) dX12_mark_56 c1 (by decide) (by decide) rfl (by decide) ?_
          refine a_iconst (v := (0 : Int32)) (by decide) dX12_mark_123 ?_
          refine a_istore (lv1 := [(0, .ref v0), (1, .int v1), (2, .int v2), (3, .int x11), (4, .int (0 : Int32))]) [1, 2, 3, 4, 0] (by decide) rfl dX12_mark_124 ?_
          refine a_iconst (v := (0 : Int32)) (by decide) dX12_mark_126 ?_
          refine a_istore (lv1 := [(0, .ref v0), (1, .int v1), (2, .int v2), (3, .int x11), (4, .int (0 : Int32)), (5, .int (0 : Int32))]) [1, 2, 3, 4, 5, 0] (by decide) rfl dX12_mark_127 ?_
          refine AQ.sub (lv1 := [(0, .ref v0), (3, .int x11), (4, .int (0 : Int32)), (5, .int (0 : Int32))]) [0, 3, 4, 5] rfl ?_
          obtain ⟨n, H⟩ := H
          exact l_X12_mark_129  n _ _ _ H
        by_cases c2 : v2 = 3
        · have H := H.2.2.1 c2
          refine r_tab (off := 119) (tgt := 175) dX12_mark_56 c2 (by decide) (by decide) rfl (by decide) ?_
          refine a_aload_n 0 rfl rfl dX12_mark_175 ?_
          refine r_gR fo_RX12_35_12 dX12_mark_176 H (fun a23 H => ?_)
          refine a_iload_n 1 rfl rfl dX12_mark_179 ?_
          refine r_lI dX12_mark_180 H (fun x24 H => ?_)
          refine a_aload_n 0 rfl rfl dX12_mark_181 ?_
          refine r_gR fo_RX12_38_12 dX12_mark_182 H (fun a25 H => ?_)
          refine a_iload_n 1 rfl rfl dX12_mark_185 ?_
          refine r_lI dX12_mark_186 H (fun x26 H => ?_)
          refine a_icmp_ge (tgt := 201) dX12_mark_187 (by decide) (fun c => ?_) (fun c => ?_)
          · have H := H.1 (c)
            refine a_aload_n 0 rfl rfl dX12_mark_201 ?_
            refine r_gR fo_RX12_35_12 dX12_mark_202 H (fun a27 H => ?_)
            refine a_iload_n 1 rfl rfl dX12_mark_205 ?_
            refine r_lI dX12_mark_206 H (fun x28 H => ?_)
            refine a_iconst (v := (1 : Int32)) (by decide) dX12_mark_207 ?_
            refine a_isub dX12_mark_208 ?_
            exact r_reti rfl dX12_mark_209 H
          · have H := H.2 (c)
            refine a_aload_n 0 rfl rfl dX12_mark_190 ?_
            refine r_gR fo_RX12_35_12 dX12_mark_191 H (fun a29 H => ?_)
            refine a_iload_n 1 rfl rfl dX12_mark_194 ?_
            refine r_lI dX12_mark_195 H (fun x30 H => ?_)
            refine a_iconst (v := (1 : Int32)) (by decide) dX12_mark_196 ?_
            refine a_iadd dX12_mark_197 ?_
            refine a_goto (tgt := 209) dX12_mark_198 (by decide) ?_
            exact r_reti rfl dX12_mark_209 H
        by_cases c3 : v2 = 4
        · have H := H.2.2.2.1 c3
          refine r_tab (off := 154) (tgt := 210) dX12_mark_56 c3 (by decide) (by decide) rfl (by decide) ?_
          refine a_aload_n 0 rfl rfl dX12_mark_210 ?_
          refine r_gI fo_RX12_203_12 dX12_mark_211 H (fun x31 H => ?_)
          refine a_if_ne (tgt := 222) dX12_mark_214 (by decide) (fun c => ?_) (fun c => ?_)
          · have H := H.1 (c)
            refine a_aload_n 0 rfl rfl dX12_mark_222 ?_
            refine r_gI fo_RX12_203_12 dX12_mark_223 H (fun x32 H => ?_)
            exact r_reti rfl dX12_mark_226 H
          · have H := H.2 (c)
            refine a_bipush (v := (-9 : Int32)) (by decide) dX12_mark_217 ?_
            refine a_goto (tgt := 226) dX12_mark_219 (by decide) ?_
            exact r_reti rfl dX12_mark_226 H
        have H := H.2.2.2.2 c0 c1 c2 c3
        have e0 := lv_neT (a := 1) c0 (by decide)
        have e1 := lv_neT (a := 2) c1 (by decide)
        have e2 := lv_neT (a := 3) c2 (by decide)
        have e3 := lv_neT (a := 4) c3 (by decide)
        refine a_tableOut (tgt := 227) dX12_mark_56 (by omega) (by decide) ?_
        refine a_iconst (v := (2 : Int32)) (by decide) dX12_mark_227 ?_
        refine a_aload_n 0 rfl rfl dX12_mark_228 ?_
        refine r_gR fo_RX12_35_12 dX12_mark_229 H (fun a33 H => ?_)
        refine a_iload_n 1 rfl rfl dX12_mark_232 ?_
        refine r_lI dX12_mark_233 H (fun x34 H => ?_)
        refine a_aload_n 0 rfl rfl dX12_mark_234 ?_
        refine r_gR fo_RX12_38_12 dX12_mark_235 H (fun a35 H => ?_)
        refine a_iload_n 1 rfl rfl dX12_mark_238 ?_
        refine r_lI dX12_mark_239 H (fun x36 H => ?_)
        refine a_isub dX12_mark_240 ?_
        refine r_Si (av := [.int (x34 - x36)]) (rest := [.int (2 : Int32)]) rfl rfl okX12_size wd1327 wd1328 ⟨Nat.le_of_ble_eq_true rfl, Nat.le_of_ble_eq_true rfl⟩ (Nat.le_of_ble_eq_true rfl) dX12_mark_241 (s_X12_size H) (fun x37 h38 H => ?_)
        refine a_imul dX12_mark_244 ?_
        exact r_reti rfl dX12_mark_245 H
      · have H := H.2 (c)
        refine a_aload_n 0 rfl rfl dX12_mark_35 ?_
        refine a_iconst (v := (3 : Int32)) (by decide) dX12_mark_36 ?_
        refine r_Vi (q := (RX12, TX12, 51)) (av := [.int (3 : Int32)]) (rest := []) rfl rfl okX12_find H.1 rfl rfl wd1191 wd1193 wp31 ⟨Nat.le_of_ble_eq_true rfl, Nat.le_of_ble_eq_true rfl⟩ (Nat.le_of_ble_eq_true rfl) dX12_mark_37 (s_X12_find H.2) (fun x39 h40 H => ?_)
        exact r_reti rfl dX12_mark_40 H
    · have H := H.2 (c)
      refine a_iconst (v := (-1 : Int32)) (by decide) dX12_mark_20 ?_
      exact r_reti rfl dX12_mark_21 H
def f_X11_law (v0 : Nat) (v1 : Int32) (h : AH) (Q : Int32 → AH → Prop) : Prop :=
  f_X11_isBelow v1 (3 : Int32) h (fun x1 h2 => ((¬ (x1 = 0) → gI h2 v0 11 10 (fun x3 => pF h2 v0 11 10 (.int v1) (fun h4 => Q x3 h4))) ∧ (x1 = 0 → Q (-1 : Int32) h2)))
set_option maxRecDepth 100000 in
set_option maxHeartbeats 4000000 in
theorem s_X11_law {o : Om} {v0 : Nat} {v1 : Int32} {h : AH} {Q : Int32 → AH → Prop} (H : f_X11_law v0 v1 h Q) : MQ' o kX11_law [.ref v0, .int v1] h (qI Q) := by
  refine MQ'.of (by decide +kernel) (Nat.le_of_ble_eq_true rfl) ?_
  show AQ o kX11_law h 0 [(0, .ref v0), (1, .int v1)] [] (qI Q)
  refine a_iload_n 1 rfl rfl dX11_law_0 ?_
  refine a_iconst (v := (3 : Int32)) (by decide) dX11_law_1 ?_
  refine r_Si (av := [.int v1, .int (3 : Int32)]) (rest := []) rfl rfl okX11_isBelow wd257 wd258 ⟨Nat.le_of_ble_eq_true rfl, Nat.le_of_ble_eq_true rfl⟩ (Nat.le_of_ble_eq_true rfl) dX11_law_2 (s_X11_isBelow H) (fun x1 h2 H => ?_)
  refine a_if_ne (tgt := 10) dX11_law_5 (by decide) (fun c => ?_) (fun c => ?_)
  · have H := H.1 (c)
    refine a_aload_n 0 rfl rfl dX11_law_10 ?_
    refine r_gI fo_RX11_38_11 dX11_law_11 H (fun x3 H => ?_)
    refine a_istore_n (lv1 := [(0, .ref v0), (1, .int v1), (2, .int x3)]) rfl [1, 2, 0] (by decide) rfl dX11_law_14 ?_
    refine a_aload_n 0 rfl rfl dX11_law_15 ?_
    refine a_iload_n 1 rfl rfl dX11_law_16 ?_
    refine r_pF (po_RX11_38_11 _) (fun _ => rfl) (fun _ => rfl) dX11_law_17 H (fun h4 H => ?_)
    refine a_iload_n 2 rfl rfl dX11_law_20 ?_
    exact r_reti rfl dX11_law_21 H
  · have H := H.2 (c)
    refine a_iconst (v := (-1 : Int32)) (by decide) dX11_law_8 ?_
    exact r_reti rfl dX11_law_9 H
def f_X12_law (v0 : Nat) (v1 : Int32) (h : AH) (Q : Int32 → AH → Prop) : Prop :=
  f_X12_in v1.toInt64 (0 : Int64) (2 : Int64) h (fun x1 h2 => ((¬ (x1 = 0) → gI h2 v0 12 16 (fun x3 => pF h2 v0 12 16 (.int v1) (fun h4 => Q x3 h4))) ∧ (x1 = 0 → Q (-1 : Int32) h2)))
set_option maxRecDepth 100000 in
set_option maxHeartbeats 4000000 in
theorem s_X12_law {o : Om} {v0 : Nat} {v1 : Int32} {h : AH} {Q : Int32 → AH → Prop} (H : f_X12_law v0 v1 h Q) : MQ' o kX12_law [.ref v0, .int v1] h (qI Q) := by
  refine MQ'.of (by decide +kernel) (Nat.le_of_ble_eq_true rfl) ?_
  show AQ o kX12_law h 0 [(0, .ref v0), (1, .int v1)] [] (qI Q)
  refine a_iload_n 1 rfl rfl dX12_law_0 ?_
  refine a_i2l dX12_law_1 ?_
  refine a_lconst (v := (0 : Int64)) (by decide) dX12_law_2 ?_
  refine a_ldc2 (v := (2 : Int64)) wd1342 dX12_law_3 ?_
  refine r_Si (av := [.long v1.toInt64, .long (0 : Int64), .long (2 : Int64)]) (rest := []) rfl rfl okX12_in wd1188 wd1189 ⟨Nat.le_of_ble_eq_true rfl, Nat.le_of_ble_eq_true rfl⟩ (Nat.le_of_ble_eq_true rfl) dX12_law_6 (s_X12_in H) (fun x1 h2 H => ?_)
  refine a_if_ne (tgt := 14) dX12_law_9 (by decide) (fun c => ?_) (fun c => ?_)
  · have H := H.1 (c)
    refine a_aload_n 0 rfl rfl dX12_law_14 ?_
    refine r_gI fo_RX12_187_12 dX12_law_15 H (fun x3 H => ?_)
    refine a_istore_n (lv1 := [(0, .ref v0), (1, .int v1), (2, .int x3)]) rfl [1, 2, 0] (by decide) rfl dX12_law_18 ?_
    refine a_aload_n 0 rfl rfl dX12_law_19 ?_
    refine a_iload_n 1 rfl rfl dX12_law_20 ?_
    refine r_pF (po_RX12_187_12 _) (fun _ => rfl) (fun _ => rfl) dX12_law_21 H (fun h4 H => ?_)
    refine a_iload_n 2 rfl rfl dX12_law_24 ?_
    exact r_reti rfl dX12_law_25 H
  · have H := H.2 (c)
    refine a_iconst (v := (-1 : Int32)) (by decide) dX12_law_12 ?_
    exact r_reti rfl dX12_law_13 H
theorem vs_X2_go_17 {o : Om} {h : AH} {lv : List (Nat × Value)} {rest : List Value} {Q : Option Value → AH → Prop} {a : Nat} {u0 : Nat} {u1 : Int32} {u2 : Int32} {F : AH → Prop} (hd : decode kX2_go.2.1 17 = .ok (.invokevirtual 20, 3)) (H : v_goOneWay1 a u0 u1 u2 h F) (k : ∀ h, F h → AQ o kX2_go h (17 + 3) lv rest Q) (hc : (rest.map fun v => v.category).sum ≤ 8 := by exact Nat.le_of_ble_eq_true rfl) : AQ o kX2_go h 17 lv (.int u2 :: .int u1 :: .ref u0 :: .ref a :: rest) Q := by
  obtain ⟨ci, fs, hO, H⟩ := H
  rcases H with ⟨rfl, H⟩ | ⟨rfl, H⟩
  · exact r_Uv (q := (RX2, TX2, 2)) (x := ⟨"MilestonesOn$Lame", "goOneWay", "(LMilestonesOn$Trip;II)V"⟩) (owner := "MilestonesOn$Walker") (av := [.ref u0, .int u1, .int u2]) (rest := rest) rfl rfl okX10_goOneWay hO rfl rfl wd699 wd700 (by decide +kernel) wd593 wd594 wd593 wd701 ⟨Nat.le_of_ble_eq_true rfl, Nat.le_of_ble_eq_true rfl⟩ hc hd (s_X10_goOneWay H) k
  · exact r_Uv (q := (RX8, TX8, 2)) (x := ⟨"MilestonesOn$Lame", "goOneWay", "(LMilestonesOn$Trip;II)V"⟩) (owner := "MilestonesOn$Walker") (av := [.ref u0, .int u1, .int u2]) (rest := rest) rfl rfl okX10_goOneWay hO rfl rfl wd699 wd700 (by decide +kernel) wd593 wd594 wd593 wd702 ⟨Nat.le_of_ble_eq_true rfl, Nat.le_of_ble_eq_true rfl⟩ hc hd (s_X10_goOneWay H) k
def f_X2_go (v0 : Nat) (v1 : Nat) (h : AH) (Q : AH → Prop) : Prop :=
  gW h v0 0 (fun x1 => gW h v0 0 (fun x2 => gW h v0 1 (fun x3 => f_X10_nextTo x2 x3 h (fun x4 h5 => v_goOneWay1 v0 v1 x1 x4 h5 (fun h6 => Q h6)))))
set_option maxRecDepth 100000 in
set_option maxHeartbeats 4000000 in
theorem s_X2_go {o : Om} {v0 : Nat} {v1 : Nat} {h : AH} {Q : AH → Prop} (H : f_X2_go v0 v1 h Q) : MQ' o kX2_go [.ref v0, .ref v1] h (qV Q) := by
  refine MQ'.of (by decide +kernel) (Nat.le_of_ble_eq_true rfl) ?_
  show AQ o kX2_go h 0 [(0, .ref v0), (1, .ref v1)] [] (qV Q)
  refine a_aload_n 0 rfl rfl dX2_go_0 ?_
  refine a_aload_n 1 rfl rfl dX2_go_1 ?_
  refine a_aload_n 0 rfl rfl dX2_go_2 ?_
  refine r_gW fw_RX2_7 dX2_go_3 H (fun x1 H => ?_)
  refine a_aload_n 0 rfl rfl dX2_go_6 ?_
  refine r_gW fw_RX2_7 dX2_go_7 H (fun x2 H => ?_)
  refine a_aload_n 0 rfl rfl dX2_go_10 ?_
  refine r_gW fw_RX2_13 dX2_go_11 H (fun x3 H => ?_)
  refine r_Supi (x := ⟨"MilestonesOn$Lame", "nextTo", "(II)I"⟩) (av := [.int x2, .int x3]) (rest := [.int x1, .ref v1, .ref v0]) rfl rfl okX10_nextTo rfl wd649 wd650 wd621 ⟨Nat.le_of_ble_eq_true rfl, Nat.le_of_ble_eq_true rfl⟩ (Nat.le_of_ble_eq_true rfl) dX2_go_14 (s_X10_nextTo H) (fun x4 h5 H => ?_)
  refine vs_X2_go_17 dX2_go_17 H (fun h6 H => ?_)
  exact r_retv rfl dX2_go_20 H
def f_X8_go (v0 : Nat) (v1 : Nat) (h : AH) (Q : AH → Prop) : Prop :=
  isO h v0 8 ∧ f_X8_chosen v0 v1 h (fun x1 h2 => isO h2 v1 9 ∧ f_X9_carry v1 x1 (7 : Int32) h2 (fun h3 => Q h3))
set_option maxRecDepth 100000 in
set_option maxHeartbeats 4000000 in
theorem s_X8_go {o : Om} {v0 : Nat} {v1 : Nat} {h : AH} {Q : AH → Prop} (H : f_X8_go v0 v1 h Q) : MQ' o kX8_go [.ref v0, .ref v1] h (qV Q) := by
  refine MQ'.of (by decide +kernel) (Nat.le_of_ble_eq_true rfl) ?_
  show AQ o kX8_go h 0 [(0, .ref v0), (1, .ref v1)] [] (qV Q)
  refine a_aload_n 1 rfl rfl dX8_go_0 ?_
  refine a_aload_n 0 rfl rfl dX8_go_1 ?_
  refine a_aload_n 1 rfl rfl dX8_go_2 ?_
  refine r_Vi (q := (RX8, TX8, 2)) (av := [.ref v1]) (rest := [.ref v1]) rfl rfl okX8_chosen H.1 rfl rfl wd660 wd662 wp14 ⟨Nat.le_of_ble_eq_true rfl, Nat.le_of_ble_eq_true rfl⟩ (Nat.le_of_ble_eq_true rfl) dX8_go_3 (s_X8_chosen H.2) (fun x1 h2 H => ?_)
  refine a_bipush (v := (7 : Int32)) (by decide) dX8_go_6 ?_
  refine r_Vv (q := (RX9, TX9, 8)) (av := [.int x1, .int (7 : Int32)]) (rest := []) rfl rfl okX9_carry H.1 rfl rfl wd707 wd624 wd625 ⟨Nat.le_of_ble_eq_true rfl, Nat.le_of_ble_eq_true rfl⟩ (Nat.le_of_ble_eq_true rfl) dX8_go_8 (s_X9_carry H.2) (fun h3 H => ?_)
  exact r_retv rfl dX8_go_11 H
theorem vs_X10_go_10 {o : Om} {h : AH} {lv : List (Nat × Value)} {rest : List Value} {Q : Option Value → AH → Prop} {a : Nat} {u0 : Nat} {u1 : Int32} {u2 : Int32} {F : AH → Prop} (hd : decode kX10_go.2.1 10 = .ok (.invokevirtual 16, 3)) (H : v_goOneWay2 a u0 u1 u2 h F) (k : ∀ h, F h → AQ o kX10_go h (10 + 3) lv rest Q) (hc : (rest.map fun v => v.category).sum ≤ 8 := by exact Nat.le_of_ble_eq_true rfl) : AQ o kX10_go h 10 lv (.int u2 :: .int u1 :: .ref u0 :: .ref a :: rest) Q := by
  obtain ⟨ci, fs, hO, H⟩ := H
  rcases H with ⟨rfl, H⟩ | ⟨rfl, H⟩ | ⟨rfl, H⟩ | ⟨rfl, H⟩ | ⟨rfl, H⟩ | ⟨rfl, H⟩
  · exact r_Uv (q := (RX0, TX0, 2)) (x := ⟨"MilestonesOn$Walker", "goOneWay", "(LMilestonesOn$Trip;II)V"⟩) (owner := "MilestonesOn$Walker") (av := [.ref u0, .int u1, .int u2]) (rest := rest) rfl rfl okX10_goOneWay hO rfl rfl wd709 wd1537 (by decide +kernel) wd593 wd594 wd593 wd1538 ⟨Nat.le_of_ble_eq_true rfl, Nat.le_of_ble_eq_true rfl⟩ hc hd (s_X10_goOneWay H) k
  · exact r_Uv (q := (RX1, TX1, 2)) (x := ⟨"MilestonesOn$Walker", "goOneWay", "(LMilestonesOn$Trip;II)V"⟩) (owner := "MilestonesOn$Walker") (av := [.ref u0, .int u1, .int u2]) (rest := rest) rfl rfl okX10_goOneWay hO rfl rfl wd709 wd1537 (by decide +kernel) wd593 wd594 wd593 wd1539 ⟨Nat.le_of_ble_eq_true rfl, Nat.le_of_ble_eq_true rfl⟩ hc hd (s_X10_goOneWay H) k
  · exact r_Uv (q := (RX2, TX2, 2)) (x := ⟨"MilestonesOn$Walker", "goOneWay", "(LMilestonesOn$Trip;II)V"⟩) (owner := "MilestonesOn$Walker") (av := [.ref u0, .int u1, .int u2]) (rest := rest) rfl rfl okX10_goOneWay hO rfl rfl wd709 wd1537 (by decide +kernel) wd593 wd594 wd593 wd1540 ⟨Nat.le_of_ble_eq_true rfl, Nat.le_of_ble_eq_true rfl⟩ hc hd (s_X10_goOneWay H) k
  · exact r_Uv (q := (RX3, TX3, 2)) (x := ⟨"MilestonesOn$Walker", "goOneWay", "(LMilestonesOn$Trip;II)V"⟩) (owner := "MilestonesOn$Walker") (av := [.ref u0, .int u1, .int u2]) (rest := rest) rfl rfl okX10_goOneWay hO rfl rfl wd709 wd1537 (by decide +kernel) wd593 wd594 wd593 wd1541 ⟨Nat.le_of_ble_eq_true rfl, Nat.le_of_ble_eq_true rfl⟩ hc hd (s_X10_goOneWay H) k
  · exact r_Uv (q := (RX8, TX8, 2)) (x := ⟨"MilestonesOn$Walker", "goOneWay", "(LMilestonesOn$Trip;II)V"⟩) (owner := "MilestonesOn$Walker") (av := [.ref u0, .int u1, .int u2]) (rest := rest) rfl rfl okX10_goOneWay hO rfl rfl wd709 wd1537 (by decide +kernel) wd593 wd594 wd593 wd1542 ⟨Nat.le_of_ble_eq_true rfl, Nat.le_of_ble_eq_true rfl⟩ hc hd (s_X10_goOneWay H) k
  · exact r_Uv (q := (RX10, TX10, 2)) (x := ⟨"MilestonesOn$Walker", "goOneWay", "(LMilestonesOn$Trip;II)V"⟩) (owner := "MilestonesOn$Walker") (av := [.ref u0, .int u1, .int u2]) (rest := rest) rfl rfl okX10_goOneWay hO rfl rfl wd709 wd1537 (by decide +kernel) wd593 wd594 wd593 wd1543 ⟨Nat.le_of_ble_eq_true rfl, Nat.le_of_ble_eq_true rfl⟩ hc hd (s_X10_goOneWay H) k
def f_X10_go (v0 : Nat) (v1 : Nat) (h : AH) (Q : AH → Prop) : Prop :=
  gW h v0 0 (fun x1 => gW h v0 1 (fun x2 => v_goOneWay2 v0 v1 x1 x2 h (fun h3 => Q h3)))
set_option maxRecDepth 100000 in
set_option maxHeartbeats 4000000 in
theorem s_X10_go {o : Om} {v0 : Nat} {v1 : Nat} {h : AH} {Q : AH → Prop} (H : f_X10_go v0 v1 h Q) : MQ' o kX10_go [.ref v0, .ref v1] h (qV Q) := by
  refine MQ'.of (by decide +kernel) (Nat.le_of_ble_eq_true rfl) ?_
  show AQ o kX10_go h 0 [(0, .ref v0), (1, .ref v1)] [] (qV Q)
  refine a_aload_n 0 rfl rfl dX10_go_0 ?_
  refine a_aload_n 1 rfl rfl dX10_go_1 ?_
  refine a_aload_n 0 rfl rfl dX10_go_2 ?_
  refine r_gW fw_RX10_7 dX10_go_3 H (fun x1 H => ?_)
  refine a_aload_n 0 rfl rfl dX10_go_6 ?_
  refine r_gW fw_RX10_13 dX10_go_7 H (fun x2 H => ?_)
  refine vs_X10_go_10 dX10_go_10 H (fun h3 H => ?_)
  exact r_retv rfl dX10_go_13 H
def v_go1 (a : Nat) (u0 : Nat) (h : AH) (Q : AH → Prop) : Prop := ∃ ci fs, h.2.2 a = some (.inr (ci, fs)) ∧ ((ci = 0 ∧ f_X0_go a u0 h Q) ∨ (ci = 1 ∧ f_X1_go a u0 h Q) ∨ (ci = 2 ∧ f_X2_go a u0 h Q) ∨ (ci = 3 ∧ f_X0_go a u0 h Q) ∨ (ci = 8 ∧ f_X8_go a u0 h Q) ∨ (ci = 10 ∧ f_X10_go a u0 h Q))
theorem vs_X9_send_20 {o : Om} {h : AH} {lv : List (Nat × Value)} {rest : List Value} {Q : Option Value → AH → Prop} {a : Nat} {u0 : Nat} {F : AH → Prop} (hd : decode kX9_send.2.1 20 = .ok (.invokevirtual 43, 3)) (H : v_go1 a u0 h F) (k : ∀ h, F h → AQ o kX9_send h (20 + 3) lv rest Q) (hc : (rest.map fun v => v.category).sum ≤ 8 := by exact Nat.le_of_ble_eq_true rfl) : AQ o kX9_send h 20 lv (.ref u0 :: .ref a :: rest) Q := by
  obtain ⟨ci, fs, hO, H⟩ := H
  rcases H with ⟨rfl, H⟩ | ⟨rfl, H⟩ | ⟨rfl, H⟩ | ⟨rfl, H⟩ | ⟨rfl, H⟩ | ⟨rfl, H⟩
  · exact r_Uv (q := (RX0, TX0, 2)) (x := ⟨"MilestonesOn$Walker", "go", "(LMilestonesOn$Trip;)V"⟩) (owner := "MilestonesOn$Walker") (av := [.ref u0]) (rest := rest) rfl rfl okX0_go hO rfl rfl wd690 wd693 (by decide +kernel) wd691 wd708 wd583 wd694 ⟨Nat.le_of_ble_eq_true rfl, Nat.le_of_ble_eq_true rfl⟩ hc hd (s_X0_go H) k
  · exact r_Uv (q := (RX1, TX1, 2)) (x := ⟨"MilestonesOn$Walker", "go", "(LMilestonesOn$Trip;)V"⟩) (owner := "MilestonesOn$Walker") (av := [.ref u0]) (rest := rest) rfl rfl okX1_go hO rfl rfl wd690 wd693 (by decide +kernel) wd691 wd708 wd637 wd695 ⟨Nat.le_of_ble_eq_true rfl, Nat.le_of_ble_eq_true rfl⟩ hc hd (s_X1_go H) k
  · exact r_Uv (q := (RX2, TX2, 2)) (x := ⟨"MilestonesOn$Walker", "go", "(LMilestonesOn$Trip;)V"⟩) (owner := "MilestonesOn$Walker") (av := [.ref u0]) (rest := rest) rfl rfl okX2_go hO rfl rfl wd690 wd693 (by decide +kernel) wd691 wd708 wd697 wd696 ⟨Nat.le_of_ble_eq_true rfl, Nat.le_of_ble_eq_true rfl⟩ hc hd (s_X2_go H) k
  · exact r_Uv (q := (RX3, TX3, 2)) (x := ⟨"MilestonesOn$Walker", "go", "(LMilestonesOn$Trip;)V"⟩) (owner := "MilestonesOn$Walker") (av := [.ref u0]) (rest := rest) rfl rfl okX0_go hO rfl rfl wd690 wd693 (by decide +kernel) wd691 wd708 wd583 wd703 ⟨Nat.le_of_ble_eq_true rfl, Nat.le_of_ble_eq_true rfl⟩ hc hd (s_X0_go H) k
  · exact r_Uv (q := (RX8, TX8, 2)) (x := ⟨"MilestonesOn$Walker", "go", "(LMilestonesOn$Trip;)V"⟩) (owner := "MilestonesOn$Walker") (av := [.ref u0]) (rest := rest) rfl rfl okX8_go hO rfl rfl wd690 wd693 (by decide +kernel) wd691 wd708 wd705 wd704 ⟨Nat.le_of_ble_eq_true rfl, Nat.le_of_ble_eq_true rfl⟩ hc hd (s_X8_go H) k
  · exact r_Uv (q := (RX10, TX10, 2)) (x := ⟨"MilestonesOn$Walker", "go", "(LMilestonesOn$Trip;)V"⟩) (owner := "MilestonesOn$Walker") (av := [.ref u0]) (rest := rest) rfl rfl okX10_go hO rfl rfl wd690 wd693 (by decide +kernel) wd691 wd708 wd691 wd692 ⟨Nat.le_of_ble_eq_true rfl, Nat.le_of_ble_eq_true rfl⟩ hc hd (s_X10_go H) k
def f_X9_send (v0 : Nat) (v1 : Int32) (h : AH) (Q : AH → Prop) : Prop :=
  gR h v0 9 0 (fun a1 => isO h a1 5 ∧ f_X5_walkerAt a1 v1 h (fun q2 h3 => ((q2 = none → Q h3) ∧ (∀ a4, q2 = some a4 → pF h3 v0 9 4 (.int v1) (fun h5 => v_go1 a4 v0 h5 (fun h6 => Q h6))))))
set_option maxRecDepth 100000 in
set_option maxHeartbeats 4000000 in
theorem s_X9_send {o : Om} {v0 : Nat} {v1 : Int32} {h : AH} {Q : AH → Prop} (H : f_X9_send v0 v1 h Q) : MQ' o kX9_send [.ref v0, .int v1] h (qV Q) := by
  refine MQ'.of (by decide +kernel) (Nat.le_of_ble_eq_true rfl) ?_
  show AQ o kX9_send h 0 [(0, .ref v0), (1, .int v1)] [] (qV Q)
  refine a_aload_n 0 rfl rfl dX9_send_0 ?_
  refine r_gR fo_RX9_33_9 dX9_send_1 H (fun a1 H => ?_)
  refine a_iload_n 1 rfl rfl dX9_send_4 ?_
  refine r_Vo (q := (RX5, TX5, 10)) (av := [.int v1]) (rest := []) rfl rfl okX5_walkerAt H.1 rfl rfl wd689 wd539 wd540 ⟨Nat.le_of_ble_eq_true rfl, Nat.le_of_ble_eq_true rfl⟩ (Nat.le_of_ble_eq_true rfl) dX9_send_5 (s_X5_walkerAt H.2) (fun q2 h3 H => ?_)
  refine a_astoreQ_n (lv1 := [(0, .ref v0), (1, .int v1), (2, va_rf q2)]) rfl [1, 2, 0] (by decide) rfl dX9_send_8 ?_
  refine a_aloadQ_n 2 rfl rfl dX9_send_9 ?_
  cases q2 with
  | none =>
    have H := H.1 rfl
    refine a_ifnull_n (tgt := 23) dX9_send_10 (by decide) ?_
    show AQ o kX9_send h3 23 [(0, .ref v0), (1, .int v1), (2, .null)] [] _
    exact r_retv rfl dX9_send_23 H
  | some a4 =>
    have H := H.2 a4 rfl
    refine a_ifnull_r dX9_send_10 ?_
    show AQ o kX9_send h3 13 [(0, .ref v0), (1, .int v1), (2, .ref a4)] [] _
    refine a_aload_n 0 rfl rfl dX9_send_13 ?_
    refine a_iload_n 1 rfl rfl dX9_send_14 ?_
    refine r_pF (po_RX9_21_9 _) (fun _ => rfl) (fun _ => rfl) dX9_send_15 H (fun h5 H => ?_)
    refine a_aload_n 2 rfl rfl dX9_send_18 ?_
    refine a_aload_n 0 rfl rfl dX9_send_19 ?_
    refine vs_X9_send_20 dX9_send_20 H (fun h6 H => ?_)
    exact r_retv rfl dX9_send_23 H
def f_X11_doWalk (v0 : Nat) (v1 : Int32) (h : AH) (Q : Int32 → AH → Prop) : Prop :=
  gI h v0 11 11 (fun x1 => f_X11_isBelow x1 (60 : Int32) h (fun x2 h3 => ((¬ (x2 = 0) → gR h3 v0 11 2 (fun a4 => gI h3 v0 11 11 (fun x5 => lQ h3 a4 3 x5 (fun a6 => gR h3 v0 11 8 (fun a7 => gI h3 v0 11 9 (fun x8 => gI h3 v0 11 10 (fun x9 => isO h3 a6 9 ∧ f_X9_begin a6 a7 x8 x9 h3 (fun h10 => isO h10 a6 9 ∧ f_X9_send a6 v1 h10 (fun h11 => gI h11 a6 9 3 (fun x12 => pF h11 v0 11 9 (.int x12) (fun h13 => gI h13 v0 11 11 (fun x14 => pF h13 v0 11 11 (.int (x14 + (1 : Int32))) (fun h15 => gI h15 a6 9 5 (fun x16 => Q x16 h15)))))))))))))) ∧ (x2 = 0 → Q (0 : Int32) h3))))
set_option maxRecDepth 100000 in
set_option maxHeartbeats 4000000 in
theorem s_X11_doWalk {o : Om} {v0 : Nat} {v1 : Int32} {h : AH} {Q : Int32 → AH → Prop} (H : f_X11_doWalk v0 v1 h Q) : MQ' o kX11_doWalk [.ref v0, .int v1] h (qI Q) := by
  refine MQ'.of (by decide +kernel) (Nat.le_of_ble_eq_true rfl) ?_
  show AQ o kX11_doWalk h 0 [(0, .ref v0), (1, .int v1)] [] (qI Q)
  refine a_aload_n 0 rfl rfl dX11_doWalk_0 ?_
  refine r_gI fo_RX11_41_11 dX11_doWalk_1 H (fun x1 H => ?_)
  refine a_bipush (v := (60 : Int32)) (by decide) dX11_doWalk_4 ?_
  refine r_Si (av := [.int x1, .int (60 : Int32)]) (rest := []) rfl rfl okX11_isBelow wd257 wd258 ⟨Nat.le_of_ble_eq_true rfl, Nat.le_of_ble_eq_true rfl⟩ (Nat.le_of_ble_eq_true rfl) dX11_doWalk_6 (s_X11_isBelow H) (fun x2 h3 H => ?_)
  refine a_if_ne (tgt := 14) dX11_doWalk_9 (by decide) (fun c => ?_) (fun c => ?_)
  · have H := H.1 (c)
    refine a_aload_n 0 rfl rfl dX11_doWalk_14 ?_
    refine r_gR fo_RX11_20_11 dX11_doWalk_15 H (fun a4 H => ?_)
    refine a_aload_n 0 rfl rfl dX11_doWalk_18 ?_
    refine r_gI fo_RX11_41_11 dX11_doWalk_19 H (fun x5 H => ?_)
    refine r_lQ (by decide) dX11_doWalk_22 H (fun a6 H => ?_)
    refine a_astore_n (lv1 := [(0, .ref v0), (1, .int v1), (2, .ref a6)]) rfl [1, 2, 0] (by decide) rfl dX11_doWalk_23 ?_
    refine a_aload_n 2 rfl rfl dX11_doWalk_24 ?_
    refine a_aload_n 0 rfl rfl dX11_doWalk_25 ?_
    refine r_gR fo_RX11_60_11 dX11_doWalk_26 H (fun a7 H => ?_)
    refine a_aload_n 0 rfl rfl dX11_doWalk_29 ?_
    refine r_gI fo_RX11_34_11 dX11_doWalk_30 H (fun x8 H => ?_)
    refine a_aload_n 0 rfl rfl dX11_doWalk_33 ?_
    refine r_gI fo_RX11_38_11 dX11_doWalk_34 H (fun x9 H => ?_)
    refine r_Vv (q := (RX9, TX9, 8)) (av := [.ref a7, .int x8, .int x9]) (rest := []) rfl rfl okX9_begin H.1 rfl rfl wd570 wd571 wd572 ⟨Nat.le_of_ble_eq_true rfl, Nat.le_of_ble_eq_true rfl⟩ (Nat.le_of_ble_eq_true rfl) dX11_doWalk_37 (s_X9_begin H.2) (fun h10 H => ?_)
    refine a_aload_n 2 rfl rfl dX11_doWalk_40 ?_
    refine a_iload_n 1 rfl rfl dX11_doWalk_41 ?_
    refine r_Vv (q := (RX9, TX9, 8)) (av := [.int v1]) (rest := []) rfl rfl okX9_send H.1 rfl rfl wd685 wd686 wd687 ⟨Nat.le_of_ble_eq_true rfl, Nat.le_of_ble_eq_true rfl⟩ (Nat.le_of_ble_eq_true rfl) dX11_doWalk_42 (s_X9_send H.2) (fun h11 H => ?_)
    refine a_aload_n 0 rfl rfl dX11_doWalk_45 ?_
    refine a_aload_n 2 rfl rfl dX11_doWalk_46 ?_
    refine r_gI fo_RX11_179_9 dX11_doWalk_47 H (fun x12 H => ?_)
    refine r_pF (po_RX11_34_11 _) (fun _ => rfl) (fun _ => rfl) dX11_doWalk_50 H (fun h13 H => ?_)
    refine a_aload_n 0 rfl rfl dX11_doWalk_53 ?_
    refine a_dup rfl dX11_doWalk_54 ?_
    refine r_gI fo_RX11_41_11 dX11_doWalk_55 H (fun x14 H => ?_)
    refine a_iconst (v := (1 : Int32)) (by decide) dX11_doWalk_58 ?_
    refine a_iadd dX11_doWalk_59 ?_
    refine r_pF (po_RX11_41_11 _) (fun _ => rfl) (fun _ => rfl) dX11_doWalk_60 H (fun h15 H => ?_)
    refine a_aload_n 2 rfl rfl dX11_doWalk_63 ?_
    refine r_gI fo_RX11_183_9 dX11_doWalk_64 H (fun x16 H => ?_)
    exact r_reti rfl dX11_doWalk_67 H
  · have H := H.2 (c)
    refine a_iconst (v := (0 : Int32)) (by decide) dX11_doWalk_12 ?_
    exact r_reti rfl dX11_doWalk_13 H
def f_X11_walk (v0 : Nat) (v1 : Int32) (h : AH) (Q : Int32 → AH → Prop) : Prop :=
  gR h v0 11 8 (fun a1 => gI h a1 5 6 (fun x2 => f_X11_isBelow v1 x2 h (fun x3 h4 => ((¬ (x3 = 0) → gI h4 v0 11 11 (fun x5 => ((x5 < (60 : Int32) → isO h4 v0 11 ∧ f_X11_doWalk v0 v1 h4 (fun x6 h7 => Q x6 h7)) ∧ (¬ (x5 < (60 : Int32)) → Q (-2 : Int32) h4)))) ∧ (x3 = 0 → Q (-1 : Int32) h4)))))
set_option maxRecDepth 100000 in
set_option maxHeartbeats 4000000 in
theorem s_X11_walk {o : Om} {v0 : Nat} {v1 : Int32} {h : AH} {Q : Int32 → AH → Prop} (H : f_X11_walk v0 v1 h Q) : MQ' o kX11_walk [.ref v0, .int v1] h (qI Q) := by
  refine MQ'.of (by decide +kernel) (Nat.le_of_ble_eq_true rfl) ?_
  show AQ o kX11_walk h 0 [(0, .ref v0), (1, .int v1)] [] (qI Q)
  refine a_iload_n 1 rfl rfl dX11_walk_0 ?_
  refine a_aload_n 0 rfl rfl dX11_walk_1 ?_
  refine r_gR fo_RX11_60_11 dX11_walk_2 H (fun a1 H => ?_)
  refine r_gI fo_RX11_153_5 dX11_walk_5 H (fun x2 H => ?_)
  refine r_Si (av := [.int v1, .int x2]) (rest := []) rfl rfl okX11_isBelow wd257 wd258 ⟨Nat.le_of_ble_eq_true rfl, Nat.le_of_ble_eq_true rfl⟩ (Nat.le_of_ble_eq_true rfl) dX11_walk_8 (s_X11_isBelow H) (fun x3 h4 H => ?_)
  refine a_if_ne (tgt := 16) dX11_walk_11 (by decide) (fun c => ?_) (fun c => ?_)
  · have H := H.1 (c)
    refine a_aload_n 0 rfl rfl dX11_walk_16 ?_
    refine r_gI fo_RX11_41_11 dX11_walk_17 H (fun x5 H => ?_)
    refine a_bipush (v := (60 : Int32)) (by decide) dX11_walk_20 ?_
    refine a_icmp_lt (tgt := 28) dX11_walk_22 (by decide) (fun c => ?_) (fun c => ?_)
    · have H := H.1 (c)
      refine a_aload_n 0 rfl rfl dX11_walk_28 ?_
      refine a_iload_n 1 rfl rfl dX11_walk_29 ?_
      refine r_Vi (q := (RX11, TX11, 16)) (av := [.int v1]) (rest := []) rfl rfl okX11_doWalk H.1 rfl rfl wd681 wd683 wp15 ⟨Nat.le_of_ble_eq_true rfl, Nat.le_of_ble_eq_true rfl⟩ (Nat.le_of_ble_eq_true rfl) dX11_walk_30 (s_X11_doWalk H.2) (fun x6 h7 H => ?_)
      exact r_reti rfl dX11_walk_33 H
    · have H := H.2 (c)
      refine a_bipush (v := (-2 : Int32)) (by decide) dX11_walk_25 ?_
      exact r_reti rfl dX11_walk_27 H
  · have H := H.2 (c)
    refine a_iconst (v := (-1 : Int32)) (by decide) dX11_walk_14 ?_
    exact r_reti rfl dX11_walk_15 H
def B_X12_walks1_68 (Q : Int32 → AH → Prop) (K68 : Int32 → AH → Prop) (v0 : Nat) (v2 : Int32) (h : AH) : Prop :=
  (((5 : Int32) ≤ v2 → gI h v0 12 20 (fun x1 => pF h v0 12 20 (.int (x1 + (1 : Int32))) (fun h2 => gI h2 v0 12 38 (fun x3 => Q x3 h2)))) ∧ (¬ ((5 : Int32) ≤ v2) → gR h v0 12 24 (fun a4 => gI h v0 12 20 (fun x5 => gR h v0 12 37 (fun a6 => lI h a6 v2 (fun x7 => sI h a4 (((5 : Int32) * x5) + v2) x7 (fun h8 => gR h8 v0 12 19 (fun a9 => lI h8 a9 v2 (fun x10 => gR h8 v0 12 37 (fun a11 => lI h8 a11 v2 (fun x12 => sI h8 a9 v2 (x10 + x12) (fun h13 => K68 (v2 + 1) h13))))))))))))
set_option maxRecDepth 100000 in
set_option maxHeartbeats 4000000 in
theorem b_X12_walks1_68 {o : Om} {Q : Int32 → AH → Prop} {K68 : Int32 → AH → Prop} {v0 : Nat} {v2 : Int32} {h : AH} (hK68 : ∀ w2 h, K68 w2 h → AQ o kX12_walks1 h 68 [(0, .ref v0), (2, .int w2)] [] (qI Q)) (H : B_X12_walks1_68 Q K68 v0 v2 h) : AQ o kX12_walks1 h 68 [(0, .ref v0), (2, .int v2)] [] (qI Q) := by
  refine a_iload_n 1 rfl rfl dX12_walks1_68 ?_
  refine a_iconst (v := (5 : Int32)) (by decide) dX12_walks1_69 ?_
  refine a_icmp_ge (tgt := 113) dX12_walks1_70 (by decide) (fun c => ?_) (fun c => ?_)
  · have H := H.1 (c)
    refine a_aload_n 0 rfl rfl dX12_walks1_113 ?_
    refine a_dup rfl dX12_walks1_114 ?_
    refine r_gI fo_RX12_172_12 dX12_walks1_115 H (fun x1 H => ?_)
    refine a_iconst (v := (1 : Int32)) (by decide) dX12_walks1_118 ?_
    refine a_iadd dX12_walks1_119 ?_
    refine r_pF (po_RX12_172_12 _) (fun _ => rfl) (fun _ => rfl) dX12_walks1_120 H (fun h2 H => ?_)
    refine a_aload_n 0 rfl rfl dX12_walks1_123 ?_
    refine r_gI fo_RX12_203_12 dX12_walks1_124 H (fun x3 H => ?_)
    exact r_reti rfl dX12_walks1_127 H
  · have H := H.2 (c)
    refine a_aload_n 0 rfl rfl dX12_walks1_73 ?_
    refine r_gR fo_RX12_56_12 dX12_walks1_74 H (fun a4 H => ?_)
    refine a_iconst (v := (5 : Int32)) (by decide) dX12_walks1_77 ?_
    refine a_aload_n 0 rfl rfl dX12_walks1_78 ?_
    refine r_gI fo_RX12_172_12 dX12_walks1_79 H (fun x5 H => ?_)
    refine a_imul dX12_walks1_82 ?_
    refine a_iload_n 1 rfl rfl dX12_walks1_83 ?_
    refine a_iadd dX12_walks1_84 ?_
    refine a_aload_n 0 rfl rfl dX12_walks1_85 ?_
    refine r_gR fo_RX12_83_12 dX12_walks1_86 H (fun a6 H => ?_)
    refine a_iload_n 1 rfl rfl dX12_walks1_89 ?_
    refine r_lI dX12_walks1_90 H (fun x7 H => ?_)
    refine r_sI dX12_walks1_91 H (fun h8 H => ?_)
    refine a_aload_n 0 rfl rfl dX12_walks1_92 ?_
    refine r_gR fo_RX12_44_12 dX12_walks1_93 H (fun a9 H => ?_)
    refine a_iload_n 1 rfl rfl dX12_walks1_96 ?_
    refine a_dup2 rfl rfl dX12_walks1_97 ?_
    refine r_lI dX12_walks1_98 H (fun x10 H => ?_)
    refine a_aload_n 0 rfl rfl dX12_walks1_99 ?_
    refine r_gR fo_RX12_83_12 dX12_walks1_100 H (fun a11 H => ?_)
    refine a_iload_n 1 rfl rfl dX12_walks1_103 ?_
    refine r_lI dX12_walks1_104 H (fun x12 H => ?_)
    refine a_iadd dX12_walks1_105 ?_
    refine r_sI dX12_walks1_106 H (fun h13 H => ?_)
    refine a_iinc (v := v2 + 1) (lv1 := [(0, .ref v0), (2, .int (v2 + 1))]) [1, 0] 1 rfl (by decide) rfl rfl dX12_walks1_107 ?_
    refine a_goto (tgt := 68) dX12_walks1_110 (by decide) ?_
    exact hK68 _ _ H
def L_X12_walks1_68 (Q : Int32 → AH → Prop)  (v0 : Nat) : Nat → Int32 → AH → Prop
  | 0, _, _ => False
  | n + 1, v2, h => B_X12_walks1_68 Q (L_X12_walks1_68 Q  v0 n) v0 v2 h
theorem l_X12_walks1_68 {o : Om} {Q : Int32 → AH → Prop}  {v0 : Nat}  : ∀ (n : Nat) (v2 : Int32) (h : AH), L_X12_walks1_68 Q  v0 n v2 h → AQ o kX12_walks1 h 68 [(0, .ref v0), (2, .int v2)] [] (qI Q) := by
  intro n
  induction n with
  | zero => intro v2 h H; exact H.elim
  | succ n ih => intro v2 h H; exact b_X12_walks1_68 ih H
def f_X12_walks1 (v0 : Nat) (v1 : Int32) (h : AH) (Q : Int32 → AH → Prop) : Prop :=
  gR h v0 12 21 (fun a1 => gI h v0 12 20 (fun x2 => sI h a1 x2 v1 (fun h3 => gR h3 v0 12 22 (fun a4 => gI h3 v0 12 20 (fun x5 => gI h3 v0 12 17 (fun x6 => sI h3 a4 x5 x6 (fun h7 => gI h7 v0 12 17 (fun x8 => gI h7 v0 12 16 (fun x9 => isO h7 v0 12 ∧ f_X12_behind v0 x8 v1 x9 h7 (fun x10 h11 => pF h11 v0 12 17 (.int x10) (fun h12 => gR h12 v0 12 23 (fun a13 => gI h12 v0 12 20 (fun x14 => gI h12 v0 12 38 (fun x15 => sI h12 a13 x14 x15 (fun h16 => gR h16 v0 12 18 (fun a17 => lI h16 a17 v1 (fun x18 => gI h16 v0 12 38 (fun x19 => sI h16 a17 v1 (x18 + x19) (fun h20 => ∃ n, L_X12_walks1_68 Q  v0 n (0 : Int32) h20)))))))))))))))))))
set_option maxRecDepth 100000 in
set_option maxHeartbeats 4000000 in
theorem s_X12_walks1 {o : Om} {v0 : Nat} {v1 : Int32} {h : AH} {Q : Int32 → AH → Prop} (H : f_X12_walks1 v0 v1 h Q) : MQ' o kX12_walks1 [.ref v0, .int v1] h (qI Q) := by
  refine MQ'.of (by decide +kernel) (Nat.le_of_ble_eq_true rfl) ?_
  show AQ o kX12_walks1 h 0 [(0, .ref v0), (1, .int v1)] [] (qI Q)
  refine a_aload_n 0 rfl rfl dX12_walks1_0 ?_
  refine r_gR fo_RX12_47_12 dX12_walks1_1 H (fun a1 H => ?_)
  refine a_aload_n 0 rfl rfl dX12_walks1_4 ?_
  refine r_gI fo_RX12_172_12 dX12_walks1_5 H (fun x2 H => ?_)
  refine a_iload_n 1 rfl rfl dX12_walks1_8 ?_
  refine r_sI dX12_walks1_9 H (fun h3 H => ?_)
  refine a_aload_n 0 rfl rfl dX12_walks1_10 ?_
  refine r_gR fo_RX12_50_12 dX12_walks1_11 H (fun a4 H => ?_)
  refine a_aload_n 0 rfl rfl dX12_walks1_14 ?_
  refine r_gI fo_RX12_172_12 dX12_walks1_15 H (fun x5 H => ?_)
  refine a_aload_n 0 rfl rfl dX12_walks1_18 ?_
  refine r_gI fo_RX12_184_12 dX12_walks1_19 H (fun x6 H => ?_)
  refine r_sI dX12_walks1_22 H (fun h7 H => ?_)
  refine a_aload_n 0 rfl rfl dX12_walks1_23 ?_
  refine a_aload_n 0 rfl rfl dX12_walks1_24 ?_
  refine a_aload_n 0 rfl rfl dX12_walks1_25 ?_
  refine r_gI fo_RX12_184_12 dX12_walks1_26 H (fun x8 H => ?_)
  refine a_iload_n 1 rfl rfl dX12_walks1_29 ?_
  refine a_aload_n 0 rfl rfl dX12_walks1_30 ?_
  refine r_gI fo_RX12_187_12 dX12_walks1_31 H (fun x9 H => ?_)
  refine r_Vi (q := (RX12, TX12, 51)) (av := [.int x8, .int v1, .int x9]) (rest := [.ref v0]) rfl rfl okX12_behind H.1 rfl rfl wd1311 wd1313 wp45 ⟨Nat.le_of_ble_eq_true rfl, Nat.le_of_ble_eq_true rfl⟩ (Nat.le_of_ble_eq_true rfl) dX12_walks1_34 (s_X12_behind H.2) (fun x10 h11 H => ?_)
  refine r_pF (po_RX12_184_12 _) (fun _ => rfl) (fun _ => rfl) dX12_walks1_37 H (fun h12 H => ?_)
  refine a_aload_n 0 rfl rfl dX12_walks1_40 ?_
  refine r_gR fo_RX12_53_12 dX12_walks1_41 H (fun a13 H => ?_)
  refine a_aload_n 0 rfl rfl dX12_walks1_44 ?_
  refine r_gI fo_RX12_172_12 dX12_walks1_45 H (fun x14 H => ?_)
  refine a_aload_n 0 rfl rfl dX12_walks1_48 ?_
  refine r_gI fo_RX12_203_12 dX12_walks1_49 H (fun x15 H => ?_)
  refine r_sI dX12_walks1_52 H (fun h16 H => ?_)
  refine a_aload_n 0 rfl rfl dX12_walks1_53 ?_
  refine r_gR fo_RX12_41_12 dX12_walks1_54 H (fun a17 H => ?_)
  refine a_iload_n 1 rfl rfl dX12_walks1_57 ?_
  refine a_dup2 rfl rfl dX12_walks1_58 ?_
  refine r_lI dX12_walks1_59 H (fun x18 H => ?_)
  refine a_aload_n 0 rfl rfl dX12_walks1_60 ?_
  refine r_gI fo_RX12_203_12 dX12_walks1_61 H (fun x19 H => ?_)
  refine a_iadd dX12_walks1_64 ?_
  refine r_sI dX12_walks1_65 H (fun h20 H => ?_)
  refine a_iconst (v := (0 : Int32)) (by decide) dX12_walks1_66 ?_
  refine a_istore_n (lv1 := [(0, .ref v0), (1, .int v1), (2, .int (0 : Int32))]) rfl [1, 2, 0] (by decide) rfl dX12_walks1_67 ?_
  refine AQ.sub (lv1 := [(0, .ref v0), (2, .int (0 : Int32))]) [0, 2] rfl ?_
  obtain ⟨n, H⟩ := H
  exact l_X12_walks1_68  n _ _ H
def f_X12_walk (v0 : Nat) (v1 : Int32) (h : AH) (Q : Int32 → AH → Prop) : Prop :=
  isO h v0 12 ∧ f_X12_isWalker v0 v1 h (fun x1 h2 => ((¬ (x1 = 0) → gI h2 v0 12 20 (fun x3 => ((¬ (x3 = (60 : Int32)) → isO h2 v0 12 ∧ f_X12_walks1 v0 v1 h2 (fun x4 h5 => Q x4 h5)) ∧ (x3 = (60 : Int32) → Q (-2 : Int32) h2)))) ∧ (x1 = 0 → Q (-1 : Int32) h2)))
set_option maxRecDepth 100000 in
set_option maxHeartbeats 4000000 in
theorem s_X12_walk {o : Om} {v0 : Nat} {v1 : Int32} {h : AH} {Q : Int32 → AH → Prop} (H : f_X12_walk v0 v1 h Q) : MQ' o kX12_walk [.ref v0, .int v1] h (qI Q) := by
  refine MQ'.of (by decide +kernel) (Nat.le_of_ble_eq_true rfl) ?_
  show AQ o kX12_walk h 0 [(0, .ref v0), (1, .int v1)] [] (qI Q)
  refine a_aload_n 0 rfl rfl dX12_walk_0 ?_
  refine a_iload_n 1 rfl rfl dX12_walk_1 ?_
  refine r_Vi (q := (RX12, TX12, 51)) (av := [.int v1]) (rest := []) rfl rfl okX12_isWalker H.1 rfl rfl wd1300 wd1302 wp44 ⟨Nat.le_of_ble_eq_true rfl, Nat.le_of_ble_eq_true rfl⟩ (Nat.le_of_ble_eq_true rfl) dX12_walk_2 (s_X12_isWalker H.2) (fun x1 h2 H => ?_)
  refine a_if_ne (tgt := 10) dX12_walk_5 (by decide) (fun c => ?_) (fun c => ?_)
  · have H := H.1 (c)
    refine a_aload_n 0 rfl rfl dX12_walk_10 ?_
    refine r_gI fo_RX12_172_12 dX12_walk_11 H (fun x3 H => ?_)
    refine a_bipush (v := (60 : Int32)) (by decide) dX12_walk_14 ?_
    refine a_icmp_ne (tgt := 24) dX12_walk_16 (by decide) (fun c => ?_) (fun c => ?_)
    · have H := H.1 (c)
      refine a_aload_n 0 rfl rfl dX12_walk_24 ?_
      refine a_iload_n 1 rfl rfl dX12_walk_25 ?_
      refine r_Vi (q := (RX12, TX12, 51)) (av := [.int v1]) (rest := []) rfl rfl okX12_walks1 H.1 rfl rfl wd1347 wd1349 wp51 ⟨Nat.le_of_ble_eq_true rfl, Nat.le_of_ble_eq_true rfl⟩ (Nat.le_of_ble_eq_true rfl) dX12_walk_26 (s_X12_walks1 H.2) (fun x4 h5 H => ?_)
      exact r_reti rfl dX12_walk_29 H
    · have H := H.2 (c)
      refine a_bipush (v := (-2 : Int32)) (by decide) dX12_walk_19 ?_
      refine a_goto (tgt := 29) dX12_walk_21 (by decide) ?_
      exact r_reti rfl dX12_walk_29 H
  · have H := H.2 (c)
    refine a_iconst (v := (-1 : Int32)) (by decide) dX12_walk_8 ?_
    exact r_reti rfl dX12_walk_9 H
def B_X5_farFromHome_4 (Q : Int32 → AH → Prop) (K4 : Int32 → Int32 → AH → Prop) (v0 : Nat) (v1 : Int32) (v2 : Int32) (v3 : Int32) (h : AH) : Prop :=
  gI h v0 5 5 (fun x1 => ((x1 ≤ v3 → Q v2 h) ∧ (¬ (x1 ≤ v3) → f_X5_postOf v1 v3 h (fun x2 h3 => ((¬ (x2 = (7 : Int32)) → gR h3 v0 5 1 (fun a4 => lI h3 a4 v3 (fun x5 => ((x5 = (-9 : Int32) → K4 v2 (v3 + 1) h3) ∧ (¬ (x5 = (-9 : Int32)) → gR h3 v0 5 2 (fun a6 => lI h3 a6 (((8 : Int32) * v3) + x2) (fun x7 => K4 (v2 + x7) (v3 + 1) h3))))))) ∧ (x2 = (7 : Int32) → K4 (v2 + 10) (v3 + 1) h3))))))
set_option maxRecDepth 100000 in
set_option maxHeartbeats 4000000 in
theorem b_X5_farFromHome_4 {o : Om} {Q : Int32 → AH → Prop} {K4 : Int32 → Int32 → AH → Prop} {v0 : Nat} {v1 : Int32} {v2 : Int32} {v3 : Int32} {h : AH} (hK4 : ∀ w2 w3 h, K4 w2 w3 h → AQ o kX5_farFromHome h 4 [(0, .ref v0), (1, .int v1), (2, .int w2), (3, .int w3)] [] (qI Q)) (H : B_X5_farFromHome_4 Q K4 v0 v1 v2 v3 h) : AQ o kX5_farFromHome h 4 [(0, .ref v0), (1, .int v1), (2, .int v2), (3, .int v3)] [] (qI Q) := by
  refine a_iload_n 3 rfl rfl dX5_farFromHome_4 ?_
  refine a_aload_n 0 rfl rfl dX5_farFromHome_5 ?_
  refine r_gI fo_RX5_31_5 dX5_farFromHome_6 H (fun x1 H => ?_)
  refine a_icmp_ge (tgt := 64) dX5_farFromHome_9 (by decide) (fun c => ?_) (fun c => ?_)
  · have H := H.1 (c)
    refine a_iload_n 2 rfl rfl dX5_farFromHome_64 ?_
    exact r_reti rfl dX5_farFromHome_65 H
  · have H := H.2 (c)
    refine a_iload_n 1 rfl rfl dX5_farFromHome_12 ?_
    refine a_iload_n 3 rfl rfl dX5_farFromHome_13 ?_
    refine r_Si (av := [.int v1, .int v3]) (rest := []) rfl rfl okX5_postOf wd518 wd519 ⟨Nat.le_of_ble_eq_true rfl, Nat.le_of_ble_eq_true rfl⟩ (Nat.le_of_ble_eq_true rfl) dX5_farFromHome_14 (s_X5_postOf H) (fun x2 h3 H => ?_)
    refine a_istore (lv1 := [(0, .ref v0), (1, .int v1), (2, .int v2), (3, .int v3), (4, .int x2)]) [1, 2, 3, 4, 0] (by decide) rfl dX5_farFromHome_17 ?_
    refine a_iload 4 rfl dX5_farFromHome_19 ?_
    refine a_bipush (v := (7 : Int32)) (by decide) dX5_farFromHome_21 ?_
    refine a_icmp_ne (tgt := 32) dX5_farFromHome_23 (by decide) (fun c => ?_) (fun c => ?_)
    · have H := H.1 (c)
      refine a_aload_n 0 rfl rfl dX5_farFromHome_32 ?_
      refine r_gR fo_RX5_15_5 dX5_farFromHome_33 H (fun a4 H => ?_)
      refine a_iload_n 3 rfl rfl dX5_farFromHome_36 ?_
      refine r_lI dX5_farFromHome_37 H (fun x5 H => ?_)
      refine a_bipush (v := (-9 : Int32)) (by decide) dX5_farFromHome_38 ?_
      refine a_icmp_eq (tgt := 58) dX5_farFromHome_40 (by decide) (fun c => ?_) (fun c => ?_)
      · have H := H.1 (c)
        refine a_iinc (v := v3 + 1) (lv1 := [(0, .ref v0), (1, .int v1), (2, .int v2), (3, .int (v3 + 1)), (4, .int x2)]) [1, 2, 3, 0, 4] 3 rfl (by decide) rfl rfl dX5_farFromHome_58 ?_
        refine a_goto (tgt := 4) dX5_farFromHome_61 (by decide) ?_
        refine AQ.sub (lv1 := [(0, .ref v0), (1, .int v1), (2, .int v2), (3, .int (v3 + 1))]) [0, 1, 2, 3] rfl ?_
        exact hK4 _ _ _ H
      · have H := H.2 (c)
        refine a_iload_n 2 rfl rfl dX5_farFromHome_43 ?_
        refine a_aload_n 0 rfl rfl dX5_farFromHome_44 ?_
        refine r_gR fo_RX5_18_5 dX5_farFromHome_45 H (fun a6 H => ?_)
        refine a_bipush (v := (8 : Int32)) (by decide) dX5_farFromHome_48 ?_
        refine a_iload_n 3 rfl rfl dX5_farFromHome_50 ?_
        refine a_imul dX5_farFromHome_51 ?_
        refine a_iload 4 rfl dX5_farFromHome_52 ?_
        refine a_iadd dX5_farFromHome_54 ?_
        refine r_lI dX5_farFromHome_55 H (fun x7 H => ?_)
        refine a_iadd dX5_farFromHome_56 ?_
        refine a_istore_n (lv1 := [(0, .ref v0), (1, .int v1), (2, .int (v2 + x7)), (3, .int v3), (4, .int x2)]) rfl [1, 2, 0, 3, 4] (by decide) rfl dX5_farFromHome_57 ?_
        refine a_iinc (v := v3 + 1) (lv1 := [(0, .ref v0), (1, .int v1), (2, .int (v2 + x7)), (3, .int (v3 + 1)), (4, .int x2)]) [1, 2, 3, 0, 4] 3 rfl (by decide) rfl rfl dX5_farFromHome_58 ?_
        refine a_goto (tgt := 4) dX5_farFromHome_61 (by decide) ?_
        refine AQ.sub (lv1 := [(0, .ref v0), (1, .int v1), (2, .int (v2 + x7)), (3, .int (v3 + 1))]) [0, 1, 2, 3] rfl ?_
        exact hK4 _ _ _ H
    · have H := H.2 (c)
      refine a_iinc (v := v2 + 10) (lv1 := [(0, .ref v0), (1, .int v1), (2, .int (v2 + 10)), (3, .int v3), (4, .int x2)]) [1, 2, 0, 3, 4] 2 rfl (by decide) rfl rfl dX5_farFromHome_26 ?_
      refine a_goto (tgt := 58) dX5_farFromHome_29 (by decide) ?_
      refine a_iinc (v := v3 + 1) (lv1 := [(0, .ref v0), (1, .int v1), (2, .int (v2 + 10)), (3, .int (v3 + 1)), (4, .int x2)]) [1, 2, 3, 0, 4] 3 rfl (by decide) rfl rfl dX5_farFromHome_58 ?_
      refine a_goto (tgt := 4) dX5_farFromHome_61 (by decide) ?_
      refine AQ.sub (lv1 := [(0, .ref v0), (1, .int v1), (2, .int (v2 + 10)), (3, .int (v3 + 1))]) [0, 1, 2, 3] rfl ?_
      exact hK4 _ _ _ H
def L_X5_farFromHome_4 (Q : Int32 → AH → Prop)  (v0 : Nat) (v1 : Int32) : Nat → Int32 → Int32 → AH → Prop
  | 0, _, _, _ => False
  | n + 1, v2, v3, h => B_X5_farFromHome_4 Q (L_X5_farFromHome_4 Q  v0 v1 n) v0 v1 v2 v3 h
theorem l_X5_farFromHome_4 {o : Om} {Q : Int32 → AH → Prop}  {v0 : Nat} {v1 : Int32}  : ∀ (n : Nat) (v2 : Int32) (v3 : Int32) (h : AH), L_X5_farFromHome_4 Q  v0 v1 n v2 v3 h → AQ o kX5_farFromHome h 4 [(0, .ref v0), (1, .int v1), (2, .int v2), (3, .int v3)] [] (qI Q) := by
  intro n
  induction n with
  | zero => intro v2 v3 h H; exact H.elim
  | succ n ih => intro v2 v3 h H; exact b_X5_farFromHome_4 ih H
def f_X5_farFromHome (v0 : Nat) (v1 : Int32) (h : AH) (Q : Int32 → AH → Prop) : Prop :=
  ∃ n, L_X5_farFromHome_4 Q  v0 v1 n (0 : Int32) (0 : Int32) h
set_option maxRecDepth 100000 in
set_option maxHeartbeats 4000000 in
theorem s_X5_farFromHome {o : Om} {v0 : Nat} {v1 : Int32} {h : AH} {Q : Int32 → AH → Prop} (H : f_X5_farFromHome v0 v1 h Q) : MQ' o kX5_farFromHome [.ref v0, .int v1] h (qI Q) := by
  refine MQ'.of (by decide +kernel) (Nat.le_of_ble_eq_true rfl) ?_
  show AQ o kX5_farFromHome h 0 [(0, .ref v0), (1, .int v1)] [] (qI Q)
  refine a_iconst (v := (0 : Int32)) (by decide) dX5_farFromHome_0 ?_
  refine a_istore_n (lv1 := [(0, .ref v0), (1, .int v1), (2, .int (0 : Int32))]) rfl [1, 2, 0] (by decide) rfl dX5_farFromHome_1 ?_
  refine a_iconst (v := (0 : Int32)) (by decide) dX5_farFromHome_2 ?_
  refine a_istore_n (lv1 := [(0, .ref v0), (1, .int v1), (2, .int (0 : Int32)), (3, .int (0 : Int32))]) rfl [1, 2, 3, 0] (by decide) rfl dX5_farFromHome_3 ?_
  obtain ⟨n, H⟩ := H
  exact l_X5_farFromHome_4  n _ _ _ H
def f_X11_pays (v0 : Nat) (v1 : Int32) (h : AH) (Q : Int32 → AH → Prop) : Prop :=
  gR h v0 11 8 (fun a1 => gI h a1 5 6 (fun x2 => f_X11_isBelow v1 x2 h (fun x3 h4 => ((¬ (x3 = 0) → gR h4 v0 11 6 (fun a5 => gR h4 v0 11 8 (fun a6 => gI h4 v0 11 9 (fun x7 => gI h4 v0 11 10 (fun x8 => isO h4 a5 9 ∧ f_X9_begin a5 a6 x7 x8 h4 (fun h9 => gR h9 v0 11 6 (fun a10 => isO h9 a10 9 ∧ f_X9_send a10 v1 h9 (fun h11 => gR h11 v0 11 8 (fun a12 => gR h11 v0 11 6 (fun a13 => gI h11 a13 9 3 (fun x14 => isO h11 a12 5 ∧ f_X5_farFromHome a12 x14 h11 (fun x15 h16 => pF h16 v0 11 12 (.int x15) (fun h17 => gR h17 v0 11 6 (fun a18 => gI h17 a18 9 5 (fun x19 => Q x19 h17))))))))))))))) ∧ (x3 = 0 → Q (-1 : Int32) h4)))))
set_option maxRecDepth 100000 in
set_option maxHeartbeats 4000000 in
theorem s_X11_pays {o : Om} {v0 : Nat} {v1 : Int32} {h : AH} {Q : Int32 → AH → Prop} (H : f_X11_pays v0 v1 h Q) : MQ' o kX11_pays [.ref v0, .int v1] h (qI Q) := by
  refine MQ'.of (by decide +kernel) (Nat.le_of_ble_eq_true rfl) ?_
  show AQ o kX11_pays h 0 [(0, .ref v0), (1, .int v1)] [] (qI Q)
  refine a_iload_n 1 rfl rfl dX11_pays_0 ?_
  refine a_aload_n 0 rfl rfl dX11_pays_1 ?_
  refine r_gR fo_RX11_60_11 dX11_pays_2 H (fun a1 H => ?_)
  refine r_gI fo_RX11_153_5 dX11_pays_5 H (fun x2 H => ?_)
  refine r_Si (av := [.int v1, .int x2]) (rest := []) rfl rfl okX11_isBelow wd257 wd258 ⟨Nat.le_of_ble_eq_true rfl, Nat.le_of_ble_eq_true rfl⟩ (Nat.le_of_ble_eq_true rfl) dX11_pays_8 (s_X11_isBelow H) (fun x3 h4 H => ?_)
  refine a_if_ne (tgt := 16) dX11_pays_11 (by decide) (fun c => ?_) (fun c => ?_)
  · have H := H.1 (c)
    refine a_aload_n 0 rfl rfl dX11_pays_16 ?_
    refine r_gR fo_RX11_67_11 dX11_pays_17 H (fun a5 H => ?_)
    refine a_aload_n 0 rfl rfl dX11_pays_20 ?_
    refine r_gR fo_RX11_60_11 dX11_pays_21 H (fun a6 H => ?_)
    refine a_aload_n 0 rfl rfl dX11_pays_24 ?_
    refine r_gI fo_RX11_34_11 dX11_pays_25 H (fun x7 H => ?_)
    refine a_aload_n 0 rfl rfl dX11_pays_28 ?_
    refine r_gI fo_RX11_38_11 dX11_pays_29 H (fun x8 H => ?_)
    refine r_Vv (q := (RX9, TX9, 8)) (av := [.ref a6, .int x7, .int x8]) (rest := []) rfl rfl okX9_begin H.1 rfl rfl wd570 wd571 wd572 ⟨Nat.le_of_ble_eq_true rfl, Nat.le_of_ble_eq_true rfl⟩ (Nat.le_of_ble_eq_true rfl) dX11_pays_32 (s_X9_begin H.2) (fun h9 H => ?_)
    refine a_aload_n 0 rfl rfl dX11_pays_35 ?_
    refine r_gR fo_RX11_67_11 dX11_pays_36 H (fun a10 H => ?_)
    refine a_iload_n 1 rfl rfl dX11_pays_39 ?_
    refine r_Vv (q := (RX9, TX9, 8)) (av := [.int v1]) (rest := []) rfl rfl okX9_send H.1 rfl rfl wd685 wd686 wd687 ⟨Nat.le_of_ble_eq_true rfl, Nat.le_of_ble_eq_true rfl⟩ (Nat.le_of_ble_eq_true rfl) dX11_pays_40 (s_X9_send H.2) (fun h11 H => ?_)
    refine a_aload_n 0 rfl rfl dX11_pays_43 ?_
    refine a_aload_n 0 rfl rfl dX11_pays_44 ?_
    refine r_gR fo_RX11_60_11 dX11_pays_45 H (fun a12 H => ?_)
    refine a_aload_n 0 rfl rfl dX11_pays_48 ?_
    refine r_gR fo_RX11_67_11 dX11_pays_49 H (fun a13 H => ?_)
    refine r_gI fo_RX11_179_9 dX11_pays_52 H (fun x14 H => ?_)
    refine r_Vi (q := (RX5, TX5, 10)) (av := [.int x14]) (rest := [.ref v0]) rfl rfl okX5_farFromHome H.1 rfl rfl wd714 wd715 wd716 ⟨Nat.le_of_ble_eq_true rfl, Nat.le_of_ble_eq_true rfl⟩ (Nat.le_of_ble_eq_true rfl) dX11_pays_55 (s_X5_farFromHome H.2) (fun x15 h16 H => ?_)
    refine r_pF (po_RX11_44_11 _) (fun _ => rfl) (fun _ => rfl) dX11_pays_58 H (fun h17 H => ?_)
    refine a_aload_n 0 rfl rfl dX11_pays_61 ?_
    refine r_gR fo_RX11_67_11 dX11_pays_62 H (fun a18 H => ?_)
    refine r_gI fo_RX11_183_9 dX11_pays_65 H (fun x19 H => ?_)
    exact r_reti rfl dX11_pays_68 H
  · have H := H.2 (c)
    refine a_iconst (v := (-1 : Int32)) (by decide) dX11_pays_14 ?_
    exact r_reti rfl dX11_pays_15 H
def B_X12_apartOf_4 (Q : Int32 → AH → Prop) (K4 : Int32 → Int32 → AH → Prop) (v0 : Nat) (v1 : Int32) (v2 : Int32) (v3 : Int32) (h : AH) : Prop :=
  gI h v0 12 10 (fun x1 => ((x1 ≤ v3 → Q v2 h) ∧ (¬ (x1 ≤ v3) → f_X12_spotOf v1 v3 h (fun x2 h3 => ((¬ (x2 = (7 : Int32)) → isO h3 v0 12 ∧ f_X12_home v0 v3 h3 (fun x4 h5 => ((0 ≤ x4 → isO h5 v0 12 ∧ f_X12_home v0 v3 h5 (fun x6 h7 => f_X12_size (x2 - x6) h7 (fun x8 h9 => K4 (v2 + x8) (v3 + 1) h9))) ∧ (¬ (0 ≤ x4) → K4 (v2 + (0 : Int32)) (v3 + 1) h5)))) ∧ (x2 = (7 : Int32) → K4 (v2 + (10 : Int32)) (v3 + 1) h3))))))
set_option maxRecDepth 100000 in
set_option maxHeartbeats 4000000 in
theorem b_X12_apartOf_4 {o : Om} {Q : Int32 → AH → Prop} {K4 : Int32 → Int32 → AH → Prop} {v0 : Nat} {v1 : Int32} {v2 : Int32} {v3 : Int32} {h : AH} (hK4 : ∀ w2 w3 h, K4 w2 w3 h → AQ o kX12_apartOf h 4 [(0, .ref v0), (1, .int v1), (2, .int w2), (3, .int w3)] [] (qI Q)) (H : B_X12_apartOf_4 Q K4 v0 v1 v2 v3 h) : AQ o kX12_apartOf h 4 [(0, .ref v0), (1, .int v1), (2, .int v2), (3, .int v3)] [] (qI Q) := by
  refine a_iload_n 3 rfl rfl dX12_apartOf_4 ?_
  refine a_aload_n 0 rfl rfl dX12_apartOf_5 ?_
  refine r_gI fo_RX12_178_12 dX12_apartOf_6 H (fun x1 H => ?_)
  refine a_icmp_ge (tgt := 63) dX12_apartOf_9 (by decide) (fun c => ?_) (fun c => ?_)
  · have H := H.1 (c)
    refine a_iload_n 2 rfl rfl dX12_apartOf_63 ?_
    exact r_reti rfl dX12_apartOf_64 H
  · have H := H.2 (c)
    refine a_iload_n 1 rfl rfl dX12_apartOf_12 ?_
    refine a_iload_n 3 rfl rfl dX12_apartOf_13 ?_
    refine r_Si (av := [.int v1, .int v3]) (rest := []) rfl rfl okX12_spotOf wd1286 wd1287 ⟨Nat.le_of_ble_eq_true rfl, Nat.le_of_ble_eq_true rfl⟩ (Nat.le_of_ble_eq_true rfl) dX12_apartOf_14 (s_X12_spotOf H) (fun x2 h3 H => ?_)
    refine a_istore (lv1 := [(0, .ref v0), (1, .int v1), (2, .int v2), (3, .int v3), (4, .int x2)]) [1, 2, 3, 4, 0] (by decide) rfl dX12_apartOf_17 ?_
    refine a_iload_n 2 rfl rfl dX12_apartOf_19 ?_
    refine a_iload 4 rfl dX12_apartOf_20 ?_
    refine a_bipush (v := (7 : Int32)) (by decide) dX12_apartOf_22 ?_
    refine a_icmp_ne (tgt := 32) dX12_apartOf_24 (by decide) (fun c => ?_) (fun c => ?_)
    · have H := H.1 (c)
      refine a_aload_n 0 rfl rfl dX12_apartOf_32 ?_
      refine a_iload_n 3 rfl rfl dX12_apartOf_33 ?_
      refine r_Vi (q := (RX12, TX12, 51)) (av := [.int v3]) (rest := [.int v2]) rfl rfl okX12_home H.1 rfl rfl wd1292 wd1294 wp43 ⟨Nat.le_of_ble_eq_true rfl, Nat.le_of_ble_eq_true rfl⟩ (Nat.le_of_ble_eq_true rfl) dX12_apartOf_34 (s_X12_home H.2) (fun x4 h5 H => ?_)
      refine a_if_ge (tgt := 44) dX12_apartOf_37 (by decide) (fun c => ?_) (fun c => ?_)
      · have H := H.1 (c)
        refine a_iload 4 rfl dX12_apartOf_44 ?_
        refine a_aload_n 0 rfl rfl dX12_apartOf_46 ?_
        refine a_iload_n 3 rfl rfl dX12_apartOf_47 ?_
        refine r_Vi (q := (RX12, TX12, 51)) (av := [.int v3]) (rest := [.int x2, .int v2]) rfl rfl okX12_home H.1 rfl rfl wd1292 wd1294 wp43 ⟨Nat.le_of_ble_eq_true rfl, Nat.le_of_ble_eq_true rfl⟩ (Nat.le_of_ble_eq_true rfl) dX12_apartOf_48 (s_X12_home H.2) (fun x6 h7 H => ?_)
        refine a_isub dX12_apartOf_51 ?_
        refine r_Si (av := [.int (x2 - x6)]) (rest := [.int v2]) rfl rfl okX12_size wd1327 wd1328 ⟨Nat.le_of_ble_eq_true rfl, Nat.le_of_ble_eq_true rfl⟩ (Nat.le_of_ble_eq_true rfl) dX12_apartOf_52 (s_X12_size H) (fun x8 h9 H => ?_)
        refine a_iadd dX12_apartOf_55 ?_
        refine a_istore_n (lv1 := [(0, .ref v0), (1, .int v1), (2, .int (v2 + x8)), (3, .int v3), (4, .int x2)]) rfl [1, 2, 0, 3, 4] (by decide) rfl dX12_apartOf_56 ?_
        refine a_iinc (v := v3 + 1) (lv1 := [(0, .ref v0), (1, .int v1), (2, .int (v2 + x8)), (3, .int (v3 + 1)), (4, .int x2)]) [1, 2, 3, 0, 4] 3 rfl (by decide) rfl rfl dX12_apartOf_57 ?_
        refine a_goto (tgt := 4) dX12_apartOf_60 (by decide) ?_
        refine AQ.sub (lv1 := [(0, .ref v0), (1, .int v1), (2, .int (v2 + x8)), (3, .int (v3 + 1))]) [0, 1, 2, 3] rfl ?_
        exact hK4 _ _ _ H
      · have H := H.2 (c)
        refine a_iconst (v := (0 : Int32)) (by decide) dX12_apartOf_40 ?_
        refine a_goto (tgt := 55) dX12_apartOf_41 (by decide) ?_
        refine a_iadd dX12_apartOf_55 ?_
        refine a_istore_n (lv1 := [(0, .ref v0), (1, .int v1), (2, .int (v2 + (0 : Int32))), (3, .int v3), (4, .int x2)]) rfl [1, 2, 0, 3, 4] (by decide) rfl dX12_apartOf_56 ?_
        refine a_iinc (v := v3 + 1) (lv1 := [(0, .ref v0), (1, .int v1), (2, .int (v2 + (0 : Int32))), (3, .int (v3 + 1)), (4, .int x2)]) [1, 2, 3, 0, 4] 3 rfl (by decide) rfl rfl dX12_apartOf_57 ?_
        refine a_goto (tgt := 4) dX12_apartOf_60 (by decide) ?_
        refine AQ.sub (lv1 := [(0, .ref v0), (1, .int v1), (2, .int (v2 + (0 : Int32))), (3, .int (v3 + 1))]) [0, 1, 2, 3] rfl ?_
        exact hK4 _ _ _ H
    · have H := H.2 (c)
      refine a_bipush (v := (10 : Int32)) (by decide) dX12_apartOf_27 ?_
      refine a_goto (tgt := 55) dX12_apartOf_29 (by decide) ?_
      refine a_iadd dX12_apartOf_55 ?_
      refine a_istore_n (lv1 := [(0, .ref v0), (1, .int v1), (2, .int (v2 + (10 : Int32))), (3, .int v3), (4, .int x2)]) rfl [1, 2, 0, 3, 4] (by decide) rfl dX12_apartOf_56 ?_
      refine a_iinc (v := v3 + 1) (lv1 := [(0, .ref v0), (1, .int v1), (2, .int (v2 + (10 : Int32))), (3, .int (v3 + 1)), (4, .int x2)]) [1, 2, 3, 0, 4] 3 rfl (by decide) rfl rfl dX12_apartOf_57 ?_
      refine a_goto (tgt := 4) dX12_apartOf_60 (by decide) ?_
      refine AQ.sub (lv1 := [(0, .ref v0), (1, .int v1), (2, .int (v2 + (10 : Int32))), (3, .int (v3 + 1))]) [0, 1, 2, 3] rfl ?_
      exact hK4 _ _ _ H
def L_X12_apartOf_4 (Q : Int32 → AH → Prop)  (v0 : Nat) (v1 : Int32) : Nat → Int32 → Int32 → AH → Prop
  | 0, _, _, _ => False
  | n + 1, v2, v3, h => B_X12_apartOf_4 Q (L_X12_apartOf_4 Q  v0 v1 n) v0 v1 v2 v3 h
theorem l_X12_apartOf_4 {o : Om} {Q : Int32 → AH → Prop}  {v0 : Nat} {v1 : Int32}  : ∀ (n : Nat) (v2 : Int32) (v3 : Int32) (h : AH), L_X12_apartOf_4 Q  v0 v1 n v2 v3 h → AQ o kX12_apartOf h 4 [(0, .ref v0), (1, .int v1), (2, .int v2), (3, .int v3)] [] (qI Q) := by
  intro n
  induction n with
  | zero => intro v2 v3 h H; exact H.elim
  | succ n ih => intro v2 v3 h H; exact b_X12_apartOf_4 ih H
def f_X12_apartOf (v0 : Nat) (v1 : Int32) (h : AH) (Q : Int32 → AH → Prop) : Prop :=
  ∃ n, L_X12_apartOf_4 Q  v0 v1 n (0 : Int32) (0 : Int32) h
set_option maxRecDepth 100000 in
set_option maxHeartbeats 4000000 in
theorem s_X12_apartOf {o : Om} {v0 : Nat} {v1 : Int32} {h : AH} {Q : Int32 → AH → Prop} (H : f_X12_apartOf v0 v1 h Q) : MQ' o kX12_apartOf [.ref v0, .int v1] h (qI Q) := by
  refine MQ'.of (by decide +kernel) (Nat.le_of_ble_eq_true rfl) ?_
  show AQ o kX12_apartOf h 0 [(0, .ref v0), (1, .int v1)] [] (qI Q)
  refine a_iconst (v := (0 : Int32)) (by decide) dX12_apartOf_0 ?_
  refine a_istore_n (lv1 := [(0, .ref v0), (1, .int v1), (2, .int (0 : Int32))]) rfl [1, 2, 0] (by decide) rfl dX12_apartOf_1 ?_
  refine a_iconst (v := (0 : Int32)) (by decide) dX12_apartOf_2 ?_
  refine a_istore_n (lv1 := [(0, .ref v0), (1, .int v1), (2, .int (0 : Int32)), (3, .int (0 : Int32))]) rfl [1, 2, 3, 0] (by decide) rfl dX12_apartOf_3 ?_
  obtain ⟨n, H⟩ := H
  exact l_X12_apartOf_4  n _ _ _ H
def f_X12_pays (v0 : Nat) (v1 : Int32) (h : AH) (Q : Int32 → AH → Prop) : Prop :=
  isO h v0 12 ∧ f_X12_isWalker v0 v1 h (fun x1 h2 => ((¬ (x1 = 0) → gI h2 v0 12 17 (fun x3 => gI h2 v0 12 16 (fun x4 => isO h2 v0 12 ∧ f_X12_behind v0 x3 v1 x4 h2 (fun x5 h6 => isO h6 v0 12 ∧ f_X12_apartOf v0 x5 h6 (fun x7 h8 => pF h8 v0 12 4 (.int x7) (fun h9 => gI h9 v0 12 38 (fun x10 => Q x10 h9))))))) ∧ (x1 = 0 → Q (-1 : Int32) h2)))
set_option maxRecDepth 100000 in
set_option maxHeartbeats 4000000 in
theorem s_X12_pays {o : Om} {v0 : Nat} {v1 : Int32} {h : AH} {Q : Int32 → AH → Prop} (H : f_X12_pays v0 v1 h Q) : MQ' o kX12_pays [.ref v0, .int v1] h (qI Q) := by
  refine MQ'.of (by decide +kernel) (Nat.le_of_ble_eq_true rfl) ?_
  show AQ o kX12_pays h 0 [(0, .ref v0), (1, .int v1)] [] (qI Q)
  refine a_aload_n 0 rfl rfl dX12_pays_0 ?_
  refine a_iload_n 1 rfl rfl dX12_pays_1 ?_
  refine r_Vi (q := (RX12, TX12, 51)) (av := [.int v1]) (rest := []) rfl rfl okX12_isWalker H.1 rfl rfl wd1300 wd1302 wp44 ⟨Nat.le_of_ble_eq_true rfl, Nat.le_of_ble_eq_true rfl⟩ (Nat.le_of_ble_eq_true rfl) dX12_pays_2 (s_X12_isWalker H.2) (fun x1 h2 H => ?_)
  refine a_if_ne (tgt := 10) dX12_pays_5 (by decide) (fun c => ?_) (fun c => ?_)
  · have H := H.1 (c)
    refine a_aload_n 0 rfl rfl dX12_pays_10 ?_
    refine a_aload_n 0 rfl rfl dX12_pays_11 ?_
    refine a_aload_n 0 rfl rfl dX12_pays_12 ?_
    refine a_aload_n 0 rfl rfl dX12_pays_13 ?_
    refine r_gI fo_RX12_184_12 dX12_pays_14 H (fun x3 H => ?_)
    refine a_iload_n 1 rfl rfl dX12_pays_17 ?_
    refine a_aload_n 0 rfl rfl dX12_pays_18 ?_
    refine r_gI fo_RX12_187_12 dX12_pays_19 H (fun x4 H => ?_)
    refine r_Vi (q := (RX12, TX12, 51)) (av := [.int x3, .int v1, .int x4]) (rest := [.ref v0, .ref v0]) rfl rfl okX12_behind H.1 rfl rfl wd1311 wd1313 wp45 ⟨Nat.le_of_ble_eq_true rfl, Nat.le_of_ble_eq_true rfl⟩ (Nat.le_of_ble_eq_true rfl) dX12_pays_22 (s_X12_behind H.2) (fun x5 h6 H => ?_)
    refine r_Vi (q := (RX12, TX12, 51)) (av := [.int x5]) (rest := [.ref v0]) rfl rfl okX12_apartOf H.1 rfl rfl wd1355 wd1357 wp52 ⟨Nat.le_of_ble_eq_true rfl, Nat.le_of_ble_eq_true rfl⟩ (Nat.le_of_ble_eq_true rfl) dX12_pays_25 (s_X12_apartOf H.2) (fun x7 h8 H => ?_)
    refine r_pF (po_RX12_104_12 _) (fun _ => rfl) (fun _ => rfl) dX12_pays_28 H (fun h9 H => ?_)
    refine a_aload_n 0 rfl rfl dX12_pays_31 ?_
    refine r_gI fo_RX12_203_12 dX12_pays_32 H (fun x10 H => ?_)
    exact r_reti rfl dX12_pays_35 H
  · have H := H.2 (c)
    refine a_iconst (v := (-1 : Int32)) (by decide) dX12_pays_8 ?_
    exact r_reti rfl dX12_pays_9 H
def f_X11_undo (v0 : Nat) (v1 : Int32) (h : AH) (Q : Int32 → AH → Prop) : Prop :=
  ((v1 < 0 → Q (-1 : Int32) h) ∧ (¬ (v1 < 0) → gI h v0 11 11 (fun x1 => ((v1 ≤ x1 → gI h v0 11 11 (fun x2 => gI h v0 11 11 (fun x3 => f_X11_isBelow v1 x3 h (fun x4 h5 => ((x4 = 0 → pF h5 v0 11 11 (.int v1) (fun h6 => Q (x2 - v1) h6)) ∧ (¬ (x4 = 0) → gR h5 v0 11 2 (fun a7 => lQ h5 a7 3 v1 (fun a8 => gI h5 a8 9 2 (fun x9 => pF h5 v0 11 9 (.int x9) (fun h10 => pF h10 v0 11 11 (.int v1) (fun h11 => Q (x2 - v1) h11))))))))))) ∧ (¬ (v1 ≤ x1) → Q (-1 : Int32) h)))))
set_option maxRecDepth 100000 in
set_option maxHeartbeats 4000000 in
theorem s_X11_undo {o : Om} {v0 : Nat} {v1 : Int32} {h : AH} {Q : Int32 → AH → Prop} (H : f_X11_undo v0 v1 h Q) : MQ' o kX11_undo [.ref v0, .int v1] h (qI Q) := by
  refine MQ'.of (by decide +kernel) (Nat.le_of_ble_eq_true rfl) ?_
  show AQ o kX11_undo h 0 [(0, .ref v0), (1, .int v1)] [] (qI Q)
  refine a_iload_n 1 rfl rfl dX11_undo_0 ?_
  refine a_if_lt (tgt := 12) dX11_undo_1 (by decide) (fun c => ?_) (fun c => ?_)
  · have H := H.1 (c)
    refine a_iconst (v := (-1 : Int32)) (by decide) dX11_undo_12 ?_
    exact r_reti rfl dX11_undo_13 H
  · have H := H.2 (c)
    refine a_iload_n 1 rfl rfl dX11_undo_4 ?_
    refine a_aload_n 0 rfl rfl dX11_undo_5 ?_
    refine r_gI fo_RX11_41_11 dX11_undo_6 H (fun x1 H => ?_)
    refine a_icmp_le (tgt := 14) dX11_undo_9 (by decide) (fun c => ?_) (fun c => ?_)
    · have H := H.1 (c)
      refine a_aload_n 0 rfl rfl dX11_undo_14 ?_
      refine r_gI fo_RX11_41_11 dX11_undo_15 H (fun x2 H => ?_)
      refine a_iload_n 1 rfl rfl dX11_undo_18 ?_
      refine a_isub dX11_undo_19 ?_
      refine a_istore_n (lv1 := [(0, .ref v0), (1, .int v1), (2, .int (x2 - v1))]) rfl [1, 2, 0] (by decide) rfl dX11_undo_20 ?_
      refine a_iload_n 1 rfl rfl dX11_undo_21 ?_
      refine a_aload_n 0 rfl rfl dX11_undo_22 ?_
      refine r_gI fo_RX11_41_11 dX11_undo_23 H (fun x3 H => ?_)
      refine r_Si (av := [.int v1, .int x3]) (rest := []) rfl rfl okX11_isBelow wd257 wd258 ⟨Nat.le_of_ble_eq_true rfl, Nat.le_of_ble_eq_true rfl⟩ (Nat.le_of_ble_eq_true rfl) dX11_undo_26 (s_X11_isBelow H) (fun x4 h5 H => ?_)
      refine a_if_eq (tgt := 45) dX11_undo_29 (by decide) (fun c => ?_) (fun c => ?_)
      · have H := H.1 (c)
        refine a_aload_n 0 rfl rfl dX11_undo_45 ?_
        refine a_iload_n 1 rfl rfl dX11_undo_46 ?_
        refine r_pF (po_RX11_41_11 _) (fun _ => rfl) (fun _ => rfl) dX11_undo_47 H (fun h6 H => ?_)
        refine a_iload_n 2 rfl rfl dX11_undo_50 ?_
        exact r_reti rfl dX11_undo_51 H
      · have H := H.2 (c)
        refine a_aload_n 0 rfl rfl dX11_undo_32 ?_
        refine a_aload_n 0 rfl rfl dX11_undo_33 ?_
        refine r_gR fo_RX11_20_11 dX11_undo_34 H (fun a7 H => ?_)
        refine a_iload_n 1 rfl rfl dX11_undo_37 ?_
        refine r_lQ (by decide) dX11_undo_38 H (fun a8 H => ?_)
        refine r_gI fo_RX11_186_9 dX11_undo_39 H (fun x9 H => ?_)
        refine r_pF (po_RX11_34_11 _) (fun _ => rfl) (fun _ => rfl) dX11_undo_42 H (fun h10 H => ?_)
        refine a_aload_n 0 rfl rfl dX11_undo_45 ?_
        refine a_iload_n 1 rfl rfl dX11_undo_46 ?_
        refine r_pF (po_RX11_41_11 _) (fun _ => rfl) (fun _ => rfl) dX11_undo_47 H (fun h11 H => ?_)
        refine a_iload_n 2 rfl rfl dX11_undo_50 ?_
        exact r_reti rfl dX11_undo_51 H
    · have H := H.2 (c)
      refine a_iconst (v := (-1 : Int32)) (by decide) dX11_undo_12 ?_
      exact r_reti rfl dX11_undo_13 H
