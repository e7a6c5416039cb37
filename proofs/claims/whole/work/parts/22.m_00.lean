def f_X5_init (v0 : Nat) (h : AH) (Q : AH → Prop) : Prop :=
  nA h 0 (5 : Int32) (fun a1 h2 => pF h2 v0 5 0 (.ref a1) (fun h3 => nA h3 0 (5 : Int32) (fun a4 h5 => pF h5 v0 5 1 (.ref a4) (fun h6 => nA h6 0 (40 : Int32) (fun a7 h8 => pF h8 v0 5 2 (.ref a7) (fun h9 => nQ h9 4 (5 : Int32) (fun a10 h11 => pF h11 v0 5 3 (.ref a10) (fun h12 => pF h12 v0 5 4 (.int (0 : Int32)) (fun h13 => pF h13 v0 5 5 (.int (0 : Int32)) (fun h14 => pF h14 v0 5 6 (.int (0 : Int32)) (fun h15 => pF h15 v0 5 7 (.int (0 : Int32)) (fun h16 => pF h16 v0 5 8 (.int (0 : Int32)) (fun h17 => pF h17 v0 5 9 (.int (0 : Int32)) (fun h18 => Q h18))))))))))))))
set_option maxRecDepth 100000 in
set_option maxHeartbeats 4000000 in
theorem s_X5_init {o : Om} {v0 : Nat} {h : AH} {Q : AH → Prop} (H : f_X5_init v0 h Q) : MQ' o kX5_init [.ref v0] h (qV Q) := by
  refine MQ'.of (by decide +kernel) (Nat.le_of_ble_eq_true rfl) ?_
  show AQ o kX5_init h 0 [(0, .ref v0)] [] (qV Q)
  refine a_aload_n 0 rfl rfl dX5_init_0 ?_
  refine a_objInit wd34 wd23 wd24 ⟨Nat.le_of_ble_eq_true rfl, Nat.le_of_ble_eq_true rfl⟩ dX5_init_1 ?_
  refine a_aload_n 0 rfl rfl dX5_init_4 ?_
  refine a_iconst (v := (5 : Int32)) (by decide) dX5_init_5 ?_
  refine r_nA (t := 0) (Or.inl ⟨rfl, rfl⟩) dX5_init_6 H (fun a1 h2 H => ?_)
  refine r_pF po_RX5_11_5i (fun _ => rfl) (fun _ => rfl) dX5_init_8 H (fun h3 H => ?_)
  refine a_aload_n 0 rfl rfl dX5_init_11 ?_
  refine a_iconst (v := (5 : Int32)) (by decide) dX5_init_12 ?_
  refine r_nA (t := 0) (Or.inl ⟨rfl, rfl⟩) dX5_init_13 H (fun a4 h5 H => ?_)
  refine r_pF po_RX5_15_5i (fun _ => rfl) (fun _ => rfl) dX5_init_15 H (fun h6 H => ?_)
  refine a_aload_n 0 rfl rfl dX5_init_18 ?_
  refine a_bipush (v := (40 : Int32)) (by decide) dX5_init_19 ?_
  refine r_nA (t := 0) (Or.inl ⟨rfl, rfl⟩) dX5_init_21 H (fun a7 h8 H => ?_)
  refine r_pF po_RX5_18_5i (fun _ => rfl) (fun _ => rfl) dX5_init_23 H (fun h9 H => ?_)
  refine a_aload_n 0 rfl rfl dX5_init_26 ?_
  refine a_iconst (v := (5 : Int32)) (by decide) dX5_init_27 ?_
  refine r_nQ (t := 4) (C := "MilestonesOn$Walker") (fun _ => rfl) (by decide +kernel) wd35 dX5_init_28 H (fun a10 h11 H => ?_)
  refine r_pF po_RX5_23_5i (fun _ => rfl) (fun _ => rfl) dX5_init_31 H (fun h12 H => ?_)
  refine a_aload_n 0 rfl rfl dX5_init_34 ?_
  refine a_iconst (v := (0 : Int32)) (by decide) dX5_init_35 ?_
  refine r_pF po_RX5_27_5i (fun _ => rfl) (fun _ => rfl) dX5_init_36 H (fun h13 H => ?_)
  refine a_aload_n 0 rfl rfl dX5_init_39 ?_
  refine a_iconst (v := (0 : Int32)) (by decide) dX5_init_40 ?_
  refine r_pF po_RX5_31_5i (fun _ => rfl) (fun _ => rfl) dX5_init_41 H (fun h14 H => ?_)
  refine a_aload_n 0 rfl rfl dX5_init_44 ?_
  refine a_iconst (v := (0 : Int32)) (by decide) dX5_init_45 ?_
  refine r_pF po_RX5_34_5i (fun _ => rfl) (fun _ => rfl) dX5_init_46 H (fun h15 H => ?_)
  refine a_aload_n 0 rfl rfl dX5_init_49 ?_
  refine a_iconst (v := (0 : Int32)) (by decide) dX5_init_50 ?_
  refine r_pF po_RX5_37_5i (fun _ => rfl) (fun _ => rfl) dX5_init_51 H (fun h16 H => ?_)
  refine a_aload_n 0 rfl rfl dX5_init_54 ?_
  refine a_iconst (v := (0 : Int32)) (by decide) dX5_init_55 ?_
  refine r_pF po_RX5_40_5i (fun _ => rfl) (fun _ => rfl) dX5_init_56 H (fun h17 H => ?_)
  refine a_aload_n 0 rfl rfl dX5_init_59 ?_
  refine a_iconst (v := (0 : Int32)) (by decide) dX5_init_60 ?_
  refine r_pF po_RX5_43_5i (fun _ => rfl) (fun _ => rfl) dX5_init_61 H (fun h18 H => ?_)
  exact r_retv rfl dX5_init_64 H
def f_X9_init (v0 : Nat) (v1 : Nat) (h : AH) (Q : AH → Prop) : Prop :=
  pF h v0 9 1 (.int (0 : Int32)) (fun h1 => pF h1 v0 9 2 (.int (0 : Int32)) (fun h2 => pF h2 v0 9 3 (.int (0 : Int32)) (fun h3 => pF h3 v0 9 4 (.int (0 : Int32)) (fun h4 => pF h4 v0 9 5 (.int (0 : Int32)) (fun h5 => pF h5 v0 9 6 (.int (0 : Int32)) (fun h6 => pF h6 v0 9 7 (.int (0 : Int32)) (fun h7 => pF h7 v0 9 0 (.ref v1) (fun h8 => Q h8))))))))
set_option maxRecDepth 100000 in
set_option maxHeartbeats 4000000 in
theorem s_X9_init {o : Om} {v0 : Nat} {v1 : Nat} {h : AH} {Q : AH → Prop} (H : f_X9_init v0 v1 h Q) : MQ' o kX9_init [.ref v0, .ref v1] h (qV Q) := by
  refine MQ'.of (by decide +kernel) (Nat.le_of_ble_eq_true rfl) ?_
  show AQ o kX9_init h 0 [(0, .ref v0), (1, .ref v1)] [] (qV Q)
  refine a_aload_n 0 rfl rfl dX9_init_0 ?_
  refine a_objInit wd86 wd23 wd24 ⟨Nat.le_of_ble_eq_true rfl, Nat.le_of_ble_eq_true rfl⟩ dX9_init_1 ?_
  refine a_aload_n 0 rfl rfl dX9_init_4 ?_
  refine a_iconst (v := (0 : Int32)) (by decide) dX9_init_5 ?_
  refine r_pF po_RX9_9_9i (fun _ => rfl) (fun _ => rfl) dX9_init_6 H (fun h1 H => ?_)
  refine a_aload_n 0 rfl rfl dX9_init_9 ?_
  refine a_iconst (v := (0 : Int32)) (by decide) dX9_init_10 ?_
  refine r_pF po_RX9_15_9i (fun _ => rfl) (fun _ => rfl) dX9_init_11 H (fun h2 H => ?_)
  refine a_aload_n 0 rfl rfl dX9_init_14 ?_
  refine a_iconst (v := (0 : Int32)) (by decide) dX9_init_15 ?_
  refine r_pF po_RX9_18_9i (fun _ => rfl) (fun _ => rfl) dX9_init_16 H (fun h3 H => ?_)
  refine a_aload_n 0 rfl rfl dX9_init_19 ?_
  refine a_iconst (v := (0 : Int32)) (by decide) dX9_init_20 ?_
  refine r_pF po_RX9_21_9i (fun _ => rfl) (fun _ => rfl) dX9_init_21 H (fun h4 H => ?_)
  refine a_aload_n 0 rfl rfl dX9_init_24 ?_
  refine a_iconst (v := (0 : Int32)) (by decide) dX9_init_25 ?_
  refine r_pF po_RX9_24_9i (fun _ => rfl) (fun _ => rfl) dX9_init_26 H (fun h5 H => ?_)
  refine a_aload_n 0 rfl rfl dX9_init_29 ?_
  refine a_iconst (v := (0 : Int32)) (by decide) dX9_init_30 ?_
  refine r_pF po_RX9_27_9i (fun _ => rfl) (fun _ => rfl) dX9_init_31 H (fun h6 H => ?_)
  refine a_aload_n 0 rfl rfl dX9_init_34 ?_
  refine a_iconst (v := (0 : Int32)) (by decide) dX9_init_35 ?_
  refine r_pF po_RX9_30_9i (fun _ => rfl) (fun _ => rfl) dX9_init_36 H (fun h7 H => ?_)
  refine a_aload_n 0 rfl rfl dX9_init_39 ?_
  refine a_aload_n 1 rfl rfl dX9_init_40 ?_
  refine r_pF po_RX9_33_9i (fun _ => rfl) (fun _ => rfl) dX9_init_41 H (fun h8 H => ?_)
  exact r_retv rfl dX9_init_44 H
def f_X7_init (v0 : Nat) (v1 : Nat) (h : AH) (Q : AH → Prop) : Prop :=
  nA h 0 (4 : Int32) (fun a1 h2 => pF h2 v0 7 1 (.ref a1) (fun h3 => nA h3 0 (125 : Int32) (fun a4 h5 => pF h5 v0 7 2 (.ref a4) (fun h6 => nA h6 0 (10 : Int32) (fun a7 h8 => pF h8 v0 7 3 (.ref a7) (fun h9 => pF h9 v0 7 5 (.int (0 : Int32)) (fun h10 => pF h10 v0 7 6 (.int (0 : Int32)) (fun h11 => pF h11 v0 7 7 (.int (0 : Int32)) (fun h12 => nA h12 0 (0 : Int32) (fun a13 h14 => pF h14 v0 7 8 (.ref a13) (fun h15 => nA h15 0 (0 : Int32) (fun a16 h17 => pF h17 v0 7 9 (.ref a16) (fun h18 => nA h18 0 (0 : Int32) (fun a19 h20 => pF h20 v0 7 10 (.ref a19) (fun h21 => pF h21 v0 7 11 (.int (0 : Int32)) (fun h22 => pF h22 v0 7 12 (.int (0 : Int32)) (fun h23 => pF h23 v0 7 13 (.int (0 : Int32)) (fun h24 => pF h24 v0 7 14 (.int (0 : Int32)) (fun h25 => pF h25 v0 7 15 (.int (0 : Int32)) (fun h26 => pF h26 v0 7 16 (.int (0 : Int32)) (fun h27 => pF h27 v0 7 4 (.ref v1) (fun h28 => nO h28 9 8 dfX9 (fun a29 h30 => f_X9_init a29 v1 h30 (fun h31 => pF h31 v0 7 0 (.ref a29) (fun h32 => Q h32)))))))))))))))))))))))))
set_option maxRecDepth 100000 in
set_option maxHeartbeats 4000000 in
theorem s_X7_init {o : Om} {v0 : Nat} {v1 : Nat} {h : AH} {Q : AH → Prop} (H : f_X7_init v0 v1 h Q) : MQ' o kX7_init [.ref v0, .ref v1] h (qV Q) := by
  refine MQ'.of (by decide +kernel) (Nat.le_of_ble_eq_true rfl) ?_
  show AQ o kX7_init h 0 [(0, .ref v0), (1, .ref v1)] [] (qV Q)
  refine a_aload_n 0 rfl rfl dX7_init_0 ?_
  refine a_objInit wd126 wd23 wd24 ⟨Nat.le_of_ble_eq_true rfl, Nat.le_of_ble_eq_true rfl⟩ dX7_init_1 ?_
  refine a_aload_n 0 rfl rfl dX7_init_4 ?_
  refine a_iconst (v := (4 : Int32)) (by decide) dX7_init_5 ?_
  refine r_nA (t := 0) (Or.inl ⟨rfl, rfl⟩) dX7_init_6 H (fun a1 h2 H => ?_)
  refine r_pF po_RX7_11_7i (fun _ => rfl) (fun _ => rfl) dX7_init_8 H (fun h3 H => ?_)
  refine a_aload_n 0 rfl rfl dX7_init_11 ?_
  refine a_bipush (v := (125 : Int32)) (by decide) dX7_init_12 ?_
  refine r_nA (t := 0) (Or.inl ⟨rfl, rfl⟩) dX7_init_14 H (fun a4 h5 H => ?_)
  refine r_pF po_RX7_15_7i (fun _ => rfl) (fun _ => rfl) dX7_init_16 H (fun h6 H => ?_)
  refine a_aload_n 0 rfl rfl dX7_init_19 ?_
  refine a_bipush (v := (10 : Int32)) (by decide) dX7_init_20 ?_
  refine r_nA (t := 0) (Or.inl ⟨rfl, rfl⟩) dX7_init_22 H (fun a7 h8 H => ?_)
  refine r_pF po_RX7_18_7i (fun _ => rfl) (fun _ => rfl) dX7_init_24 H (fun h9 H => ?_)
  refine a_aload_n 0 rfl rfl dX7_init_27 ?_
  refine a_iconst (v := (0 : Int32)) (by decide) dX7_init_28 ?_
  refine r_pF po_RX7_21_7i (fun _ => rfl) (fun _ => rfl) dX7_init_29 H (fun h10 H => ?_)
  refine a_aload_n 0 rfl rfl dX7_init_32 ?_
  refine a_iconst (v := (0 : Int32)) (by decide) dX7_init_33 ?_
  refine r_pF po_RX7_25_7i (fun _ => rfl) (fun _ => rfl) dX7_init_34 H (fun h11 H => ?_)
  refine a_aload_n 0 rfl rfl dX7_init_37 ?_
  refine a_iconst (v := (0 : Int32)) (by decide) dX7_init_38 ?_
  refine r_pF po_RX7_28_7i (fun _ => rfl) (fun _ => rfl) dX7_init_39 H (fun h12 H => ?_)
  refine a_aload_n 0 rfl rfl dX7_init_42 ?_
  refine a_iconst (v := (0 : Int32)) (by decide) dX7_init_43 ?_
  refine r_nA (t := 0) (Or.inl ⟨rfl, rfl⟩) dX7_init_44 H (fun a13 h14 H => ?_)
  refine r_pF po_RX7_32_7i (fun _ => rfl) (fun _ => rfl) dX7_init_46 H (fun h15 H => ?_)
  refine a_aload_n 0 rfl rfl dX7_init_49 ?_
  refine a_iconst (v := (0 : Int32)) (by decide) dX7_init_50 ?_
  refine r_nA (t := 0) (Or.inl ⟨rfl, rfl⟩) dX7_init_51 H (fun a16 h17 H => ?_)
  refine r_pF po_RX7_35_7i (fun _ => rfl) (fun _ => rfl) dX7_init_53 H (fun h18 H => ?_)
  refine a_aload_n 0 rfl rfl dX7_init_56 ?_
  refine a_iconst (v := (0 : Int32)) (by decide) dX7_init_57 ?_
  refine r_nA (t := 0) (Or.inl ⟨rfl, rfl⟩) dX7_init_58 H (fun a19 h20 H => ?_)
  refine r_pF po_RX7_38_7i (fun _ => rfl) (fun _ => rfl) dX7_init_60 H (fun h21 H => ?_)
  refine a_aload_n 0 rfl rfl dX7_init_63 ?_
  refine a_iconst (v := (0 : Int32)) (by decide) dX7_init_64 ?_
  refine r_pF po_RX7_41_7i (fun _ => rfl) (fun _ => rfl) dX7_init_65 H (fun h22 H => ?_)
  refine a_aload_n 0 rfl rfl dX7_init_68 ?_
  refine a_iconst (v := (0 : Int32)) (by decide) dX7_init_69 ?_
  refine r_pF po_RX7_44_7i (fun _ => rfl) (fun _ => rfl) dX7_init_70 H (fun h23 H => ?_)
  refine a_aload_n 0 rfl rfl dX7_init_73 ?_
  refine a_iconst (v := (0 : Int32)) (by decide) dX7_init_74 ?_
  refine r_pF po_RX7_47_7i (fun _ => rfl) (fun _ => rfl) dX7_init_75 H (fun h24 H => ?_)
  refine a_aload_n 0 rfl rfl dX7_init_78 ?_
  refine a_iconst (v := (0 : Int32)) (by decide) dX7_init_79 ?_
  refine r_pF po_RX7_50_7i (fun _ => rfl) (fun _ => rfl) dX7_init_80 H (fun h25 H => ?_)
  refine a_aload_n 0 rfl rfl dX7_init_83 ?_
  refine a_iconst (v := (0 : Int32)) (by decide) dX7_init_84 ?_
  refine r_pF po_RX7_53_7i (fun _ => rfl) (fun _ => rfl) dX7_init_85 H (fun h26 H => ?_)
  refine a_aload_n 0 rfl rfl dX7_init_88 ?_
  refine a_iconst (v := (0 : Int32)) (by decide) dX7_init_89 ?_
  refine r_pF po_RX7_56_7i (fun _ => rfl) (fun _ => rfl) dX7_init_90 H (fun h27 H => ?_)
  refine a_aload_n 0 rfl rfl dX7_init_93 ?_
  refine a_aload_n 1 rfl rfl dX7_init_94 ?_
  refine r_pF po_RX7_59_7i (fun _ => rfl) (fun _ => rfl) dX7_init_95 H (fun h28 H => ?_)
  refine a_aload_n 0 rfl rfl dX7_init_98 ?_
  refine r_nO (C := RX9) (T := TX9) (N := 8) (ty := tyX9) rfl inG9 tyX9_ok wd127 wd82 wd3 dfX9_ok dX7_init_99 H (fun a29 h30 H => ?_)
  refine a_dup rfl dX7_init_102 ?_
  refine a_aload_n 1 rfl rfl dX7_init_103 ?_
  refine r_Iv (av := [.ref v1]) (rest := [.ref a29, .ref v0]) rfl rfl okX9_init wd128 wd84 rfl rfl ⟨Nat.le_of_ble_eq_true rfl, Nat.le_of_ble_eq_true rfl⟩ (Nat.le_of_ble_eq_true rfl) dX7_init_104 (s_X9_init H) (fun h31 H => ?_)
  refine r_pF po_RX7_68_7i (fun _ => rfl) (fun _ => rfl) dX7_init_107 H (fun h32 H => ?_)
  exact r_retv rfl dX7_init_110 H
def f_X6_init (v0 : Nat) (h : AH) (Q : AH → Prop) : Prop :=
  nA h 0 (60 : Int32) (fun a1 h2 => pF h2 v0 6 0 (.ref a1) (fun h3 => pF h3 v0 6 1 (.int (-1 : Int32)) (fun h4 => Q h4)))
set_option maxRecDepth 100000 in
set_option maxHeartbeats 4000000 in
theorem s_X6_init {o : Om} {v0 : Nat} {h : AH} {Q : AH → Prop} (H : f_X6_init v0 h Q) : MQ' o kX6_init [.ref v0] h (qV Q) := by
  refine MQ'.of (by decide +kernel) (Nat.le_of_ble_eq_true rfl) ?_
  show AQ o kX6_init h 0 [(0, .ref v0)] [] (qV Q)
  refine a_aload_n 0 rfl rfl dX6_init_0 ?_
  refine a_objInit wd189 wd23 wd24 ⟨Nat.le_of_ble_eq_true rfl, Nat.le_of_ble_eq_true rfl⟩ dX6_init_1 ?_
  refine a_aload_n 0 rfl rfl dX6_init_4 ?_
  refine a_bipush (v := (60 : Int32)) (by decide) dX6_init_5 ?_
  refine r_nA (t := 0) (Or.inl ⟨rfl, rfl⟩) dX6_init_7 H (fun a1 h2 H => ?_)
  refine r_pF po_RX6_9_6i (fun _ => rfl) (fun _ => rfl) dX6_init_9 H (fun h3 H => ?_)
  refine a_aload_n 0 rfl rfl dX6_init_12 ?_
  refine a_iconst (v := (-1 : Int32)) (by decide) dX6_init_13 ?_
  refine r_pF po_RX6_15_6i (fun _ => rfl) (fun _ => rfl) dX6_init_14 H (fun h4 H => ?_)
  exact r_retv rfl dX6_init_17 H
def B_J7_fill_53178_5 (Q : AH → Prop) (K5 : Int32 → AH → Prop) (v0 : Nat) (v1 : Int32) (v3 : Int32) (v2 : Int32) (h : AH) : Prop :=
  ((v3 ≤ v2 → Q h) ∧ (¬ (v3 ≤ v2) → sI h v0 v2 v1 (fun h1 => K5 (v2 + 1) h1)))
set_option maxRecDepth 100000 in
set_option maxHeartbeats 4000000 in
theorem b_J7_fill_53178_5 {o : Om} {Q : AH → Prop} {K5 : Int32 → AH → Prop} {v0 : Nat} {v1 : Int32} {v3 : Int32} {v2 : Int32} {h : AH} (hK5 : ∀ w2 h, K5 w2 h → AQ o kJ7_fill_53178 h 5 [(0, .ref v0), (1, .int v1), (2, .int w2), (3, .int v3)] [] (qV Q)) (H : B_J7_fill_53178_5 Q K5 v0 v1 v3 v2 h) : AQ o kJ7_fill_53178 h 5 [(0, .ref v0), (1, .int v1), (2, .int v2), (3, .int v3)] [] (qV Q) := by
  refine a_iload_n 2 rfl rfl dJ7_fill_53178_5 ?_
  refine a_iload_n 3 rfl rfl dJ7_fill_53178_6 ?_
  refine a_icmp_ge (tgt := 20) dJ7_fill_53178_7 (by decide) (fun c => ?_) (fun c => ?_)
  · have H := H.1 (c)
    exact r_retv rfl dJ7_fill_53178_20 H
  · have H := H.2 (c)
    refine a_aload_n 0 rfl rfl dJ7_fill_53178_10 ?_
    refine a_iload_n 2 rfl rfl dJ7_fill_53178_11 ?_
    refine a_iload_n 1 rfl rfl dJ7_fill_53178_12 ?_
    refine r_sI dJ7_fill_53178_13 H (fun h1 H => ?_)
    refine a_iinc (v := v2 + 1) (lv1 := [(0, .ref v0), (1, .int v1), (2, .int (v2 + 1)), (3, .int v3)]) [1, 2, 0, 3] 2 rfl (by decide) rfl rfl dJ7_fill_53178_14 ?_
    refine a_goto (tgt := 5) dJ7_fill_53178_17 (by decide) ?_
    exact hK5 _ _ H
def L_J7_fill_53178_5 (Q : AH → Prop)  (v0 : Nat) (v1 : Int32) (v3 : Int32) : Nat → Int32 → AH → Prop
  | 0, _, _ => False
  | n + 1, v2, h => B_J7_fill_53178_5 Q (L_J7_fill_53178_5 Q  v0 v1 v3 n) v0 v1 v3 v2 h
theorem l_J7_fill_53178_5 {o : Om} {Q : AH → Prop}  {v0 : Nat} {v1 : Int32} {v3 : Int32}  : ∀ (n : Nat) (v2 : Int32) (h : AH), L_J7_fill_53178_5 Q  v0 v1 v3 n v2 h → AQ o kJ7_fill_53178 h 5 [(0, .ref v0), (1, .int v1), (2, .int v2), (3, .int v3)] [] (qV Q) := by
  intro n
  induction n with
  | zero => intro v2 h H; exact H.elim
  | succ n ih => intro v2 h H; exact b_J7_fill_53178_5 ih H
def f_J7_fill_53178 (v0 : Nat) (v1 : Int32) (h : AH) (Q : AH → Prop) : Prop :=
  aL h v0 0 (fun x1 => ∃ n, L_J7_fill_53178_5 Q  v0 v1 x1 n (0 : Int32) h)
set_option maxRecDepth 100000 in
set_option maxHeartbeats 4000000 in
theorem s_J7_fill_53178 {o : Om} {v0 : Nat} {v1 : Int32} {h : AH} {Q : AH → Prop} (H : f_J7_fill_53178 v0 v1 h Q) : MQ' o kJ7_fill_53178 [.ref v0, .int v1] h (qV Q) := by
  refine MQ'.of (by decide +kernel) (Nat.le_of_ble_eq_true rfl) ?_
  show AQ o kJ7_fill_53178 h 0 [(0, .ref v0), (1, .int v1)] [] (qV Q)
  refine a_iconst (v := (0 : Int32)) (by decide) dJ7_fill_53178_0 ?_
  refine a_istore_n (lv1 := [(0, .ref v0), (1, .int v1), (2, .int (0 : Int32))]) rfl [1, 2, 0] (by decide) rfl dJ7_fill_53178_1 ?_
  refine a_aload_n 0 rfl rfl dJ7_fill_53178_2 ?_
  refine r_aL (by decide) dJ7_fill_53178_3 H (fun x1 H => ?_)
  refine a_istore_n (lv1 := [(0, .ref v0), (1, .int v1), (2, .int (0 : Int32)), (3, .int x1)]) rfl [1, 2, 3, 0] (by decide) rfl dJ7_fill_53178_4 ?_
  obtain ⟨n, H⟩ := H
  exact l_J7_fill_53178_5  n _ _ H
def B_X11_init_183 (Q : AH → Prop) (K183 : Int32 → AH → Prop) (v0 : Nat) (v1 : Int32) (h : AH) : Prop :=
  (((60 : Int32) ≤ v1 → gR h v0 11 4 (fun a1 => f_J7_fill_53178 a1 (-9 : Int32) h (fun h2 => Q h2))) ∧ (¬ ((60 : Int32) ≤ v1) → gR h v0 11 2 (fun a3 => nO h 9 8 dfX9 (fun a4 h5 => gR h5 v0 11 8 (fun a6 => f_X9_init a4 a6 h5 (fun h7 => sQ h7 a3 3 v1 a4 (fun h8 => K183 (v1 + 1) h8)))))))
set_option maxRecDepth 100000 in
set_option maxHeartbeats 4000000 in
theorem b_X11_init_183 {o : Om} {Q : AH → Prop} {K183 : Int32 → AH → Prop} {v0 : Nat} {v1 : Int32} {h : AH} (hK183 : ∀ w1 h, K183 w1 h → AQ o kX11_init h 183 [(0, .ref v0), (1, .int w1)] [] (qV Q)) (H : B_X11_init_183 Q K183 v0 v1 h) : AQ o kX11_init h 183 [(0, .ref v0), (1, .int v1)] [] (qV Q) := by
  refine a_iload_n 1 rfl rfl dX11_init_183 ?_
  refine a_bipush (v := (60 : Int32)) (by decide) dX11_init_184 ?_
  refine a_icmp_ge (tgt := 212) dX11_init_186 (by decide) (fun c => ?_) (fun c => ?_)
  · have H := H.1 (c)
    refine a_aload_n 0 rfl rfl dX11_init_212 ?_
    refine r_gR fo_RX11_28_11 dX11_init_213 H (fun a1 H => ?_)
    refine a_bipush (v := (-9 : Int32)) (by decide) dX11_init_216 ?_
    refine r_Sv (av := [.ref a1, .int (-9 : Int32)]) (rest := []) rfl rfl okJ7_fill_53178 wd201 wd202 ⟨Nat.le_of_ble_eq_true rfl, Nat.le_of_ble_eq_true rfl⟩ (Nat.le_of_ble_eq_true rfl) dX11_init_218 (s_J7_fill_53178 H) (fun h2 H => ?_)
    exact r_retv rfl dX11_init_221 H
  · have H := H.2 (c)
    refine a_aload_n 0 rfl rfl dX11_init_189 ?_
    refine r_gR fo_RX11_20_11 dX11_init_190 H (fun a3 H => ?_)
    refine a_iload_n 1 rfl rfl dX11_init_193 ?_
    refine r_nO (C := RX9) (T := TX9) (N := 8) (ty := tyX9) rfl inG9 tyX9_ok wd27 wd82 wd3 dfX9_ok dX11_init_194 H (fun a4 h5 H => ?_)
    refine a_dup rfl dX11_init_197 ?_
    refine a_aload_n 0 rfl rfl dX11_init_198 ?_
    refine r_gR fo_RX11_60_11 dX11_init_199 H (fun a6 H => ?_)
    refine r_Iv (av := [.ref a6]) (rest := [.ref a4, .int v1, .ref a3]) rfl rfl okX9_init wd83 wd84 rfl rfl ⟨Nat.le_of_ble_eq_true rfl, Nat.le_of_ble_eq_true rfl⟩ (Nat.le_of_ble_eq_true rfl) dX11_init_202 (s_X9_init H) (fun h7 H => ?_)
    refine r_sQ (by decide) dX11_init_205 H (fun h8 H => ?_)
    refine a_iinc (v := v1 + 1) (lv1 := [(0, .ref v0), (1, .int (v1 + 1))]) [1, 0] 1 rfl (by decide) rfl rfl dX11_init_206 ?_
    refine a_goto (tgt := 183) dX11_init_209 (by decide) ?_
    exact hK183 _ _ H
def L_X11_init_183 (Q : AH → Prop)  (v0 : Nat) : Nat → Int32 → AH → Prop
  | 0, _, _ => False
  | n + 1, v1, h => B_X11_init_183 Q (L_X11_init_183 Q  v0 n) v0 v1 h
theorem l_X11_init_183 {o : Om} {Q : AH → Prop}  {v0 : Nat}  : ∀ (n : Nat) (v1 : Int32) (h : AH), L_X11_init_183 Q  v0 n v1 h → AQ o kX11_init h 183 [(0, .ref v0), (1, .int v1)] [] (qV Q) := by
  intro n
  induction n with
  | zero => intro v1 h H; exact H.elim
  | succ n ih => intro v1 h H; exact b_X11_init_183 ih H
def B_X11_init_157 (Q : AH → Prop) (K157 : Int32 → AH → Prop) (v0 : Nat) (v1 : Int32) (h : AH) : Prop :=
  (((4 : Int32) ≤ v1 → ∃ n, L_X11_init_183 Q  v0 n (0 : Int32) h) ∧ (¬ ((4 : Int32) ≤ v1) → gR h v0 11 1 (fun a1 => nO h 6 2 dfX6 (fun a2 h3 => f_X6_init a2  h3 (fun h4 => sQ h4 a1 2 v1 a2 (fun h5 => K157 (v1 + 1) h5))))))
set_option maxRecDepth 100000 in
set_option maxHeartbeats 4000000 in
theorem b_X11_init_157 {o : Om} {Q : AH → Prop} {K157 : Int32 → AH → Prop} {v0 : Nat} {v1 : Int32} {h : AH} (hK157 : ∀ w1 h, K157 w1 h → AQ o kX11_init h 157 [(0, .ref v0), (1, .int w1)] [] (qV Q)) (H : B_X11_init_157 Q K157 v0 v1 h) : AQ o kX11_init h 157 [(0, .ref v0), (1, .int v1)] [] (qV Q) := by
  refine a_iload_n 1 rfl rfl dX11_init_157 ?_
  refine a_iconst (v := (4 : Int32)) (by decide) dX11_init_158 ?_
  refine a_icmp_ge (tgt := 181) dX11_init_159 (by decide) (fun c => ?_) (fun c => ?_)
  · have H := H.1 (c)
    refine a_iconst (v := (0 : Int32)) (by decide) dX11_init_181 ?_
    refine a_istore_n (lv1 := [(0, .ref v0), (1, .int (0 : Int32))]) rfl [1, 0] (by decide) rfl dX11_init_182 ?_
    obtain ⟨n, H⟩ := H
    exact l_X11_init_183  n _ _ H
  · have H := H.2 (c)
    refine a_aload_n 0 rfl rfl dX11_init_162 ?_
    refine r_gR fo_RX11_15_11 dX11_init_163 H (fun a1 H => ?_)
    refine a_iload_n 1 rfl rfl dX11_init_166 ?_
    refine r_nO (C := RX6) (T := TX6) (N := 2) (ty := tyX6) rfl inG6 tyX6_ok wd25 wd185 wd5 dfX6_ok dX11_init_167 H (fun a2 h3 H => ?_)
    refine a_dup rfl dX11_init_170 ?_
    refine r_INv (host := "MilestonesOn") (av := []) (rest := [.ref a2, .int v1, .ref a1]) rfl rfl okX6_init (by decide +kernel) wd187 rfl rfl ⟨Nat.le_of_ble_eq_true rfl, Nat.le_of_ble_eq_true rfl⟩ (Nat.le_of_ble_eq_true rfl) dX11_init_171 (s_X6_init H) (fun h4 H => ?_)
    refine r_sQ (by decide) dX11_init_174 H (fun h5 H => ?_)
    refine a_iinc (v := v1 + 1) (lv1 := [(0, .ref v0), (1, .int (v1 + 1))]) [1, 0] 1 rfl (by decide) rfl rfl dX11_init_175 ?_
    refine a_goto (tgt := 157) dX11_init_178 (by decide) ?_
    exact hK157 _ _ H
def L_X11_init_157 (Q : AH → Prop)  (v0 : Nat) : Nat → Int32 → AH → Prop
  | 0, _, _ => False
  | n + 1, v1, h => B_X11_init_157 Q (L_X11_init_157 Q  v0 n) v0 v1 h
theorem l_X11_init_157 {o : Om} {Q : AH → Prop}  {v0 : Nat}  : ∀ (n : Nat) (v1 : Int32) (h : AH), L_X11_init_157 Q  v0 n v1 h → AQ o kX11_init h 157 [(0, .ref v0), (1, .int v1)] [] (qV Q) := by
  intro n
  induction n with
  | zero => intro v1 h H; exact H.elim
  | succ n ih => intro v1 h H; exact b_X11_init_157 ih H
def B_X11_init_130 (Q : AH → Prop) (K130 : Int32 → AH → Prop) (v0 : Nat) (v1 : Int32) (h : AH) : Prop :=
  (((6 : Int32) ≤ v1 → ∃ n, L_X11_init_157 Q  v0 n (0 : Int32) h) ∧ (¬ ((6 : Int32) ≤ v1) → gR h v0 11 0 (fun a1 => nO h 6 2 dfX6 (fun a2 h3 => f_X6_init a2  h3 (fun h4 => sQ h4 a1 2 v1 a2 (fun h5 => K130 (v1 + 1) h5))))))
set_option maxRecDepth 100000 in
set_option maxHeartbeats 4000000 in
theorem b_X11_init_130 {o : Om} {Q : AH → Prop} {K130 : Int32 → AH → Prop} {v0 : Nat} {v1 : Int32} {h : AH} (hK130 : ∀ w1 h, K130 w1 h → AQ o kX11_init h 130 [(0, .ref v0), (1, .int w1)] [] (qV Q)) (H : B_X11_init_130 Q K130 v0 v1 h) : AQ o kX11_init h 130 [(0, .ref v0), (1, .int v1)] [] (qV Q) := by
  refine a_iload_n 1 rfl rfl dX11_init_130 ?_
  refine a_bipush (v := (6 : Int32)) (by decide) dX11_init_131 ?_
  refine a_icmp_ge (tgt := 155) dX11_init_133 (by decide) (fun c => ?_) (fun c => ?_)
  · have H := H.1 (c)
    refine a_iconst (v := (0 : Int32)) (by decide) dX11_init_155 ?_
    refine a_istore_n (lv1 := [(0, .ref v0), (1, .int (0 : Int32))]) rfl [1, 0] (by decide) rfl dX11_init_156 ?_
    obtain ⟨n, H⟩ := H
    exact l_X11_init_157  n _ _ H
  · have H := H.2 (c)
    refine a_aload_n 0 rfl rfl dX11_init_136 ?_
    refine r_gR fo_RX11_11_11 dX11_init_137 H (fun a1 H => ?_)
    refine a_iload_n 1 rfl rfl dX11_init_140 ?_
    refine r_nO (C := RX6) (T := TX6) (N := 2) (ty := tyX6) rfl inG6 tyX6_ok wd25 wd185 wd5 dfX6_ok dX11_init_141 H (fun a2 h3 H => ?_)
    refine a_dup rfl dX11_init_144 ?_
    refine r_INv (host := "MilestonesOn") (av := []) (rest := [.ref a2, .int v1, .ref a1]) rfl rfl okX6_init (by decide +kernel) wd187 rfl rfl ⟨Nat.le_of_ble_eq_true rfl, Nat.le_of_ble_eq_true rfl⟩ (Nat.le_of_ble_eq_true rfl) dX11_init_145 (s_X6_init H) (fun h4 H => ?_)
    refine r_sQ (by decide) dX11_init_148 H (fun h5 H => ?_)
    refine a_iinc (v := v1 + 1) (lv1 := [(0, .ref v0), (1, .int (v1 + 1))]) [1, 0] 1 rfl (by decide) rfl rfl dX11_init_149 ?_
    refine a_goto (tgt := 130) dX11_init_152 (by decide) ?_
    exact hK130 _ _ H
def L_X11_init_130 (Q : AH → Prop)  (v0 : Nat) : Nat → Int32 → AH → Prop
  | 0, _, _ => False
  | n + 1, v1, h => B_X11_init_130 Q (L_X11_init_130 Q  v0 n) v0 v1 h
theorem l_X11_init_130 {o : Om} {Q : AH → Prop}  {v0 : Nat}  : ∀ (n : Nat) (v1 : Int32) (h : AH), L_X11_init_130 Q  v0 n v1 h → AQ o kX11_init h 130 [(0, .ref v0), (1, .int v1)] [] (qV Q) := by
  intro n
  induction n with
  | zero => intro v1 h H; exact H.elim
  | succ n ih => intro v1 h H; exact b_X11_init_130 ih H
def f_X11_init (v0 : Nat) (h : AH) (Q : AH → Prop) : Prop :=
  nQ h 2 (6 : Int32) (fun a1 h2 => pF h2 v0 11 0 (.ref a1) (fun h3 => nQ h3 2 (4 : Int32) (fun a4 h5 => pF h5 v0 11 1 (.ref a4) (fun h6 => nQ h6 3 (60 : Int32) (fun a7 h8 => pF h8 v0 11 2 (.ref a7) (fun h9 => nA h9 0 (3 : Int32) (fun a10 h11 => pF h11 v0 11 3 (.ref a10) (fun h12 => nA h12 0 (3 : Int32) (fun a13 h14 => pF h14 v0 11 4 (.ref a13) (fun h15 => nA h15 0 (6 : Int32) (fun a16 h17 => pF h17 v0 11 5 (.ref a16) (fun h18 => pF h18 v0 11 9 (.int (0 : Int32)) (fun h19 => pF h19 v0 11 10 (.int (0 : Int32)) (fun h20 => pF h20 v0 11 11 (.int (0 : Int32)) (fun h21 => pF h21 v0 11 12 (.int (0 : Int32)) (fun h22 => pF h22 v0 11 13 (.long (0 : Int64)) (fun h23 => pF h23 v0 11 14 (.long (1 : Int64)) (fun h24 => pF h24 v0 11 15 (.int (0 : Int32)) (fun h25 => nO h25 5 10 dfX5 (fun a26 h27 => f_X5_init a26  h27 (fun h28 => pF h28 v0 11 8 (.ref a26) (fun h29 => nO h29 9 8 dfX9 (fun a30 h31 => gR h31 v0 11 8 (fun a32 => f_X9_init a30 a32 h31 (fun h33 => pF h33 v0 11 6 (.ref a30) (fun h34 => nO h34 7 17 dfX7 (fun a35 h36 => gR h36 v0 11 8 (fun a37 => f_X7_init a35 a37 h36 (fun h38 => pF h38 v0 11 7 (.ref a35) (fun h39 => ∃ n, L_X11_init_130 Q  v0 n (0 : Int32) h39))))))))))))))))))))))))))))))
set_option maxRecDepth 100000 in
set_option maxHeartbeats 4000000 in
theorem s_X11_init {o : Om} {v0 : Nat} {h : AH} {Q : AH → Prop} (H : f_X11_init v0 h Q) : MQ' o kX11_init [.ref v0] h (qV Q) := by
  refine MQ'.of (by decide +kernel) (Nat.le_of_ble_eq_true rfl) ?_
  show AQ o kX11_init h 0 [(0, .ref v0)] [] (qV Q)
  refine a_aload_n 0 rfl rfl dX11_init_0 ?_
  refine a_objInit wd22 wd23 wd24 ⟨Nat.le_of_ble_eq_true rfl, Nat.le_of_ble_eq_true rfl⟩ dX11_init_1 ?_
  refine a_aload_n 0 rfl rfl dX11_init_4 ?_
  refine a_bipush (v := (6 : Int32)) (by decide) dX11_init_5 ?_
  refine r_nQ (t := 2) (C := "MilestonesOn$Row") (fun _ => rfl) (by decide +kernel) wd25 dX11_init_7 H (fun a1 h2 H => ?_)
  refine r_pF po_RX11_11_11i (fun _ => rfl) (fun _ => rfl) dX11_init_10 H (fun h3 H => ?_)
  refine a_aload_n 0 rfl rfl dX11_init_13 ?_
  refine a_iconst (v := (4 : Int32)) (by decide) dX11_init_14 ?_
  refine r_nQ (t := 2) (C := "MilestonesOn$Row") (fun _ => rfl) (by decide +kernel) wd25 dX11_init_15 H (fun a4 h5 H => ?_)
  refine r_pF po_RX11_15_11i (fun _ => rfl) (fun _ => rfl) dX11_init_18 H (fun h6 H => ?_)
  refine a_aload_n 0 rfl rfl dX11_init_21 ?_
  refine a_bipush (v := (60 : Int32)) (by decide) dX11_init_22 ?_
  refine r_nQ (t := 3) (C := "MilestonesOn$Trip") (fun _ => rfl) (by decide +kernel) wd27 dX11_init_24 H (fun a7 h8 H => ?_)
  refine r_pF po_RX11_20_11i (fun _ => rfl) (fun _ => rfl) dX11_init_27 H (fun h9 H => ?_)
  refine a_aload_n 0 rfl rfl dX11_init_30 ?_
  refine a_iconst (v := (3 : Int32)) (by decide) dX11_init_31 ?_
  refine r_nA (t := 0) (Or.inl ⟨rfl, rfl⟩) dX11_init_32 H (fun a10 h11 H => ?_)
  refine r_pF po_RX11_24_11i (fun _ => rfl) (fun _ => rfl) dX11_init_34 H (fun h12 H => ?_)
  refine a_aload_n 0 rfl rfl dX11_init_37 ?_
  refine a_iconst (v := (3 : Int32)) (by decide) dX11_init_38 ?_
  refine r_nA (t := 0) (Or.inl ⟨rfl, rfl⟩) dX11_init_39 H (fun a13 h14 H => ?_)
  refine r_pF po_RX11_28_11i (fun _ => rfl) (fun _ => rfl) dX11_init_41 H (fun h15 H => ?_)
  refine a_aload_n 0 rfl rfl dX11_init_44 ?_
  refine a_bipush (v := (6 : Int32)) (by decide) dX11_init_45 ?_
  refine r_nA (t := 0) (Or.inl ⟨rfl, rfl⟩) dX11_init_47 H (fun a16 h17 H => ?_)
  refine r_pF po_RX11_31_11i (fun _ => rfl) (fun _ => rfl) dX11_init_49 H (fun h18 H => ?_)
  refine a_aload_n 0 rfl rfl dX11_init_52 ?_
  refine a_iconst (v := (0 : Int32)) (by decide) dX11_init_53 ?_
  refine r_pF po_RX11_34_11i (fun _ => rfl) (fun _ => rfl) dX11_init_54 H (fun h19 H => ?_)
  refine a_aload_n 0 rfl rfl dX11_init_57 ?_
  refine a_iconst (v := (0 : Int32)) (by decide) dX11_init_58 ?_
  refine r_pF po_RX11_38_11i (fun _ => rfl) (fun _ => rfl) dX11_init_59 H (fun h20 H => ?_)
  refine a_aload_n 0 rfl rfl dX11_init_62 ?_
  refine a_iconst (v := (0 : Int32)) (by decide) dX11_init_63 ?_
  refine r_pF po_RX11_41_11i (fun _ => rfl) (fun _ => rfl) dX11_init_64 H (fun h21 H => ?_)
  refine a_aload_n 0 rfl rfl dX11_init_67 ?_
  refine a_iconst (v := (0 : Int32)) (by decide) dX11_init_68 ?_
  refine r_pF po_RX11_44_11i (fun _ => rfl) (fun _ => rfl) dX11_init_69 H (fun h22 H => ?_)
  refine a_aload_n 0 rfl rfl dX11_init_72 ?_
  refine a_lconst (v := (0 : Int64)) (by decide) dX11_init_73 ?_
  refine r_pF po_RX11_47_11i (fun _ => rfl) (fun _ => rfl) dX11_init_74 H (fun h23 H => ?_)
  refine a_aload_n 0 rfl rfl dX11_init_77 ?_
  refine a_lconst (v := (1 : Int64)) (by decide) dX11_init_78 ?_
  refine r_pF po_RX11_51_11i (fun _ => rfl) (fun _ => rfl) dX11_init_79 H (fun h24 H => ?_)
  refine a_aload_n 0 rfl rfl dX11_init_82 ?_
  refine a_iconst (v := (0 : Int32)) (by decide) dX11_init_83 ?_
  refine r_pF po_RX11_54_11i (fun _ => rfl) (fun _ => rfl) dX11_init_84 H (fun h25 H => ?_)
  refine a_aload_n 0 rfl rfl dX11_init_87 ?_
  refine r_nO (C := RX5) (T := TX5) (N := 10) (ty := tyX5) rfl inG5 tyX5_ok wd29 wd30 wd2 dfX5_ok dX11_init_88 H (fun a26 h27 H => ?_)
  refine a_dup rfl dX11_init_91 ?_
  refine r_INv (host := "MilestonesOn") (av := []) (rest := [.ref a26, .ref v0]) rfl rfl okX5_init (by decide +kernel) wd32 rfl rfl ⟨Nat.le_of_ble_eq_true rfl, Nat.le_of_ble_eq_true rfl⟩ (Nat.le_of_ble_eq_true rfl) dX11_init_92 (s_X5_init H) (fun h28 H => ?_)
  refine r_pF po_RX11_60_11i (fun _ => rfl) (fun _ => rfl) dX11_init_95 H (fun h29 H => ?_)
  refine a_aload_n 0 rfl rfl dX11_init_98 ?_
  refine r_nO (C := RX9) (T := TX9) (N := 8) (ty := tyX9) rfl inG9 tyX9_ok wd27 wd82 wd3 dfX9_ok dX11_init_99 H (fun a30 h31 H => ?_)
  refine a_dup rfl dX11_init_102 ?_
  refine a_aload_n 0 rfl rfl dX11_init_103 ?_
  refine r_gR fo_RX11_60_11 dX11_init_104 H (fun a32 H => ?_)
  refine r_Iv (av := [.ref a32]) (rest := [.ref a30, .ref v0]) rfl rfl okX9_init wd83 wd84 rfl rfl ⟨Nat.le_of_ble_eq_true rfl, Nat.le_of_ble_eq_true rfl⟩ (Nat.le_of_ble_eq_true rfl) dX11_init_107 (s_X9_init H) (fun h33 H => ?_)
  refine r_pF po_RX11_67_11i (fun _ => rfl) (fun _ => rfl) dX11_init_110 H (fun h34 H => ?_)
  refine a_aload_n 0 rfl rfl dX11_init_113 ?_
  refine r_nO (C := RX7) (T := TX7) (N := 17) (ty := tyX7) rfl inG7 tyX7_ok wd121 wd122 wd4 dfX7_ok dX11_init_114 H (fun a35 h36 H => ?_)
  refine a_dup rfl dX11_init_117 ?_
  refine a_aload_n 0 rfl rfl dX11_init_118 ?_
  refine r_gR fo_RX11_60_11 dX11_init_119 H (fun a37 H => ?_)
  refine r_Iv (av := [.ref a37]) (rest := [.ref a35, .ref v0]) rfl rfl okX7_init wd123 wd124 rfl rfl ⟨Nat.le_of_ble_eq_true rfl, Nat.le_of_ble_eq_true rfl⟩ (Nat.le_of_ble_eq_true rfl) dX11_init_122 (s_X7_init H) (fun h38 H => ?_)
  refine r_pF po_RX11_74_11i (fun _ => rfl) (fun _ => rfl) dX11_init_125 H (fun h39 H => ?_)
  refine a_iconst (v := (0 : Int32)) (by decide) dX11_init_128 ?_
  refine a_istore_n (lv1 := [(0, .ref v0), (1, .int (0 : Int32))]) rfl [1, 0] (by decide) rfl dX11_init_129 ?_
  obtain ⟨n, H⟩ := H
  exact l_X11_init_130  n _ _ H
def B_X12_init_263 (Q : AH → Prop) (K263 : Int32 → AH → Prop) (v0 : Nat) (v1 : Int32) (h : AH) : Prop :=
  (((3 : Int32) ≤ v1 → Q h) ∧ (¬ ((3 : Int32) ≤ v1) → gR h v0 12 25 (fun a1 => sI h a1 v1 (-1 : Int32) (fun h2 => K263 (v1 + 1) h2))))
set_option maxRecDepth 100000 in
set_option maxHeartbeats 4000000 in
theorem b_X12_init_263 {o : Om} {Q : AH → Prop} {K263 : Int32 → AH → Prop} {v0 : Nat} {v1 : Int32} {h : AH} (hK263 : ∀ w1 h, K263 w1 h → AQ o kX12_init h 263 [(0, .ref v0), (1, .int w1)] [] (qV Q)) (H : B_X12_init_263 Q K263 v0 v1 h) : AQ o kX12_init h 263 [(0, .ref v0), (1, .int v1)] [] (qV Q) := by
  refine a_iload_n 1 rfl rfl dX12_init_263 ?_
  refine a_iconst (v := (3 : Int32)) (by decide) dX12_init_264 ?_
  refine a_icmp_ge (tgt := 281) dX12_init_265 (by decide) (fun c => ?_) (fun c => ?_)
  · have H := H.1 (c)
    exact r_retv rfl dX12_init_281 H
  · have H := H.2 (c)
    refine a_aload_n 0 rfl rfl dX12_init_268 ?_
    refine r_gR fo_RX12_59_12 dX12_init_269 H (fun a1 H => ?_)
    refine a_iload_n 1 rfl rfl dX12_init_272 ?_
    refine a_iconst (v := (-1 : Int32)) (by decide) dX12_init_273 ?_
    refine r_sI dX12_init_274 H (fun h2 H => ?_)
    refine a_iinc (v := v1 + 1) (lv1 := [(0, .ref v0), (1, .int (v1 + 1))]) [1, 0] 1 rfl (by decide) rfl rfl dX12_init_275 ?_
    refine a_goto (tgt := 263) dX12_init_278 (by decide) ?_
    exact hK263 _ _ H
def L_X12_init_263 (Q : AH → Prop)  (v0 : Nat) : Nat → Int32 → AH → Prop
  | 0, _, _ => False
  | n + 1, v1, h => B_X12_init_263 Q (L_X12_init_263 Q  v0 n) v0 v1 h
theorem l_X12_init_263 {o : Om} {Q : AH → Prop}  {v0 : Nat}  : ∀ (n : Nat) (v1 : Int32) (h : AH), L_X12_init_263 Q  v0 n v1 h → AQ o kX12_init h 263 [(0, .ref v0), (1, .int v1)] [] (qV Q) := by
  intro n
  induction n with
  | zero => intro v1 h H; exact H.elim
  | succ n ih => intro v1 h H; exact b_X12_init_263 ih H
def B_X12_init_243 (Q : AH → Prop) (K243 : Int32 → AH → Prop) (v0 : Nat) (v1 : Int32) (h : AH) : Prop :=
  (((4 : Int32) ≤ v1 → ∃ n, L_X12_init_263 Q  v0 n (0 : Int32) h) ∧ (¬ ((4 : Int32) ≤ v1) → gR h v0 12 2 (fun a1 => sI h a1 v1 (-1 : Int32) (fun h2 => K243 (v1 + 1) h2))))
set_option maxRecDepth 100000 in
set_option maxHeartbeats 4000000 in
theorem b_X12_init_243 {o : Om} {Q : AH → Prop} {K243 : Int32 → AH → Prop} {v0 : Nat} {v1 : Int32} {h : AH} (hK243 : ∀ w1 h, K243 w1 h → AQ o kX12_init h 243 [(0, .ref v0), (1, .int w1)] [] (qV Q)) (H : B_X12_init_243 Q K243 v0 v1 h) : AQ o kX12_init h 243 [(0, .ref v0), (1, .int v1)] [] (qV Q) := by
  refine a_iload_n 1 rfl rfl dX12_init_243 ?_
  refine a_iconst (v := (4 : Int32)) (by decide) dX12_init_244 ?_
  refine a_icmp_ge (tgt := 261) dX12_init_245 (by decide) (fun c => ?_) (fun c => ?_)
  · have H := H.1 (c)
    refine a_iconst (v := (0 : Int32)) (by decide) dX12_init_261 ?_
    refine a_istore_n (lv1 := [(0, .ref v0), (1, .int (0 : Int32))]) rfl [1, 0] (by decide) rfl dX12_init_262 ?_
    obtain ⟨n, H⟩ := H
    exact l_X12_init_263  n _ _ H
  · have H := H.2 (c)
    refine a_aload_n 0 rfl rfl dX12_init_248 ?_
    refine r_gR fo_RX12_16_12 dX12_init_249 H (fun a1 H => ?_)
    refine a_iload_n 1 rfl rfl dX12_init_252 ?_
    refine a_iconst (v := (-1 : Int32)) (by decide) dX12_init_253 ?_
    refine r_sI dX12_init_254 H (fun h2 H => ?_)
    refine a_iinc (v := v1 + 1) (lv1 := [(0, .ref v0), (1, .int (v1 + 1))]) [1, 0] 1 rfl (by decide) rfl rfl dX12_init_255 ?_
    refine a_goto (tgt := 243) dX12_init_258 (by decide) ?_
    exact hK243 _ _ H
def L_X12_init_243 (Q : AH → Prop)  (v0 : Nat) : Nat → Int32 → AH → Prop
  | 0, _, _ => False
  | n + 1, v1, h => B_X12_init_243 Q (L_X12_init_243 Q  v0 n) v0 v1 h
theorem l_X12_init_243 {o : Om} {Q : AH → Prop}  {v0 : Nat}  : ∀ (n : Nat) (v1 : Int32) (h : AH), L_X12_init_243 Q  v0 n v1 h → AQ o kX12_init h 243 [(0, .ref v0), (1, .int v1)] [] (qV Q) := by
  intro n
  induction n with
  | zero => intro v1 h H; exact H.elim
  | succ n ih => intro v1 h H; exact b_X12_init_243 ih H
def B_X12_init_222 (Q : AH → Prop) (K222 : Int32 → AH → Prop) (v0 : Nat) (v1 : Int32) (h : AH) : Prop :=
  (((6 : Int32) ≤ v1 → ∃ n, L_X12_init_243 Q  v0 n (0 : Int32) h) ∧ (¬ ((6 : Int32) ≤ v1) → gR h v0 12 0 (fun a1 => sI h a1 v1 (-1 : Int32) (fun h2 => K222 (v1 + 1) h2))))
set_option maxRecDepth 100000 in
set_option maxHeartbeats 4000000 in
theorem b_X12_init_222 {o : Om} {Q : AH → Prop} {K222 : Int32 → AH → Prop} {v0 : Nat} {v1 : Int32} {h : AH} (hK222 : ∀ w1 h, K222 w1 h → AQ o kX12_init h 222 [(0, .ref v0), (1, .int w1)] [] (qV Q)) (H : B_X12_init_222 Q K222 v0 v1 h) : AQ o kX12_init h 222 [(0, .ref v0), (1, .int v1)] [] (qV Q) := by
  refine a_iload_n 1 rfl rfl dX12_init_222 ?_
  refine a_bipush (v := (6 : Int32)) (by decide) dX12_init_223 ?_
  refine a_icmp_ge (tgt := 241) dX12_init_225 (by decide) (fun c => ?_) (fun c => ?_)
  · have H := H.1 (c)
    refine a_iconst (v := (0 : Int32)) (by decide) dX12_init_241 ?_
    refine a_istore_n (lv1 := [(0, .ref v0), (1, .int (0 : Int32))]) rfl [1, 0] (by decide) rfl dX12_init_242 ?_
    obtain ⟨n, H⟩ := H
    exact l_X12_init_243  n _ _ H
  · have H := H.2 (c)
    refine a_aload_n 0 rfl rfl dX12_init_228 ?_
    refine r_gR fo_RX12_7_12 dX12_init_229 H (fun a1 H => ?_)
    refine a_iload_n 1 rfl rfl dX12_init_232 ?_
    refine a_iconst (v := (-1 : Int32)) (by decide) dX12_init_233 ?_
    refine r_sI dX12_init_234 H (fun h2 H => ?_)
    refine a_iinc (v := v1 + 1) (lv1 := [(0, .ref v0), (1, .int (v1 + 1))]) [1, 0] 1 rfl (by decide) rfl rfl dX12_init_235 ?_
    refine a_goto (tgt := 222) dX12_init_238 (by decide) ?_
    exact hK222 _ _ H
def L_X12_init_222 (Q : AH → Prop)  (v0 : Nat) : Nat → Int32 → AH → Prop
  | 0, _, _ => False
  | n + 1, v1, h => B_X12_init_222 Q (L_X12_init_222 Q  v0 n) v0 v1 h
theorem l_X12_init_222 {o : Om} {Q : AH → Prop}  {v0 : Nat}  : ∀ (n : Nat) (v1 : Int32) (h : AH), L_X12_init_222 Q  v0 n v1 h → AQ o kX12_init h 222 [(0, .ref v0), (1, .int v1)] [] (qV Q) := by
  intro n
  induction n with
  | zero => intro v1 h H; exact H.elim
  | succ n ih => intro v1 h H; exact b_X12_init_222 ih H
def f_X12_init (v0 : Nat) (h : AH) (Q : AH → Prop) : Prop :=
  nA h 0 (6 : Int32) (fun a1 h2 => pF h2 v0 12 0 (.ref a1) (fun h3 => nA h3 0 (360 : Int32) (fun a4 h5 => pF h5 v0 12 1 (.ref a4) (fun h6 => nA h6 0 (4 : Int32) (fun a7 h8 => pF h8 v0 12 2 (.ref a7) (fun h9 => nA h9 0 (240 : Int32) (fun a10 h11 => pF h11 v0 12 3 (.ref a10) (fun h12 => pF h12 v0 12 6 (.long (1 : Int64)) (fun h13 => nA h13 0 (6 : Int32) (fun a14 h15 => pF h15 v0 12 8 (.ref a14) (fun h16 => nA h16 0 (5 : Int32) (fun a17 h18 => pF h18 v0 12 11 (.ref a17) (fun h19 => nA h19 0 (5 : Int32) (fun a20 h21 => pF h21 v0 12 13 (.ref a20) (fun h22 => nA h22 0 (5 : Int32) (fun a23 h24 => pF h24 v0 12 14 (.ref a23) (fun h25 => nA h25 0 (5 : Int32) (fun a26 h27 => pF h27 v0 12 15 (.ref a26) (fun h28 => nA h28 0 (5 : Int32) (fun a29 h30 => pF h30 v0 12 18 (.ref a29) (fun h31 => nA h31 0 (5 : Int32) (fun a32 h33 => pF h33 v0 12 19 (.ref a32) (fun h34 => nA h34 0 (60 : Int32) (fun a35 h36 => pF h36 v0 12 21 (.ref a35) (fun h37 => nA h37 0 (60 : Int32) (fun a38 h39 => pF h39 v0 12 22 (.ref a38) (fun h40 => nA h40 0 (60 : Int32) (fun a41 h42 => pF h42 v0 12 23 (.ref a41) (fun h43 => nA h43 0 (300 : Int32) (fun a44 h45 => pF h45 v0 12 24 (.ref a44) (fun h46 => nA h46 0 (3 : Int32) (fun a47 h48 => pF h48 v0 12 25 (.ref a47) (fun h49 => nA h49 0 (3 : Int32) (fun a50 h51 => pF h51 v0 12 26 (.ref a50) (fun h52 => nA h52 0 (5 : Int32) (fun a53 h54 => pF h54 v0 12 31 (.ref a53) (fun h55 => nA h55 0 (5 : Int32) (fun a56 h57 => pF h57 v0 12 32 (.ref a56) (fun h58 => nA h58 0 (5 : Int32) (fun a59 h60 => pF h60 v0 12 33 (.ref a59) (fun h61 => nA h61 0 (5 : Int32) (fun a62 h63 => pF h63 v0 12 34 (.ref a62) (fun h64 => nA h64 0 (5 : Int32) (fun a65 h66 => pF h66 v0 12 35 (.ref a65) (fun h67 => nA h67 0 (5 : Int32) (fun a68 h69 => pF h69 v0 12 36 (.ref a68) (fun h70 => nA h70 0 (5 : Int32) (fun a71 h72 => pF h72 v0 12 37 (.ref a71) (fun h73 => nA h73 0 (125 : Int32) (fun a74 h75 => pF h75 v0 12 40 (.ref a74) (fun h76 => nA h76 0 (32768 : Int32) (fun a77 h78 => pF h78 v0 12 42 (.ref a77) (fun h79 => nA h79 0 (32768 : Int32) (fun a80 h81 => pF h81 v0 12 43 (.ref a80) (fun h82 => nA h82 1 (32768 : Int32) (fun a83 h84 => pF h84 v0 12 44 (.ref a83) (fun h85 => ∃ n, L_X12_init_222 Q  v0 n (0 : Int32) h85)))))))))))))))))))))))))))))))))))))))))))))))))))))))))
set_option maxRecDepth 100000 in
set_option maxHeartbeats 4000000 in
theorem s_X12_init {o : Om} {v0 : Nat} {h : AH} {Q : AH → Prop} (H : f_X12_init v0 h Q) : MQ' o kX12_init [.ref v0] h (qV Q) := by
  refine MQ'.of (by decide +kernel) (Nat.le_of_ble_eq_true rfl) ?_
  show AQ o kX12_init h 0 [(0, .ref v0)] [] (qV Q)
  refine a_aload_n 0 rfl rfl dX12_init_0 ?_
  refine a_objInit wd1023 wd23 wd24 ⟨Nat.le_of_ble_eq_true rfl, Nat.le_of_ble_eq_true rfl⟩ dX12_init_1 ?_
  refine a_aload_n 0 rfl rfl dX12_init_4 ?_
  refine a_bipush (v := (6 : Int32)) (by decide) dX12_init_5 ?_
  refine r_nA (t := 0) (Or.inl ⟨rfl, rfl⟩) dX12_init_7 H (fun a1 h2 H => ?_)
  refine r_pF po_RX12_7_12i (fun _ => rfl) (fun _ => rfl) dX12_init_9 H (fun h3 H => ?_)
  refine a_aload_n 0 rfl rfl dX12_init_12 ?_
  refine a_sipush (v := (360 : Int32)) (by decide) dX12_init_13 ?_
  refine r_nA (t := 0) (Or.inl ⟨rfl, rfl⟩) dX12_init_16 H (fun a4 h5 H => ?_)
  refine r_pF po_RX12_13_12i (fun _ => rfl) (fun _ => rfl) dX12_init_18 H (fun h6 H => ?_)
  refine a_aload_n 0 rfl rfl dX12_init_21 ?_
  refine a_iconst (v := (4 : Int32)) (by decide) dX12_init_22 ?_
  refine r_nA (t := 0) (Or.inl ⟨rfl, rfl⟩) dX12_init_23 H (fun a7 h8 H => ?_)
  refine r_pF po_RX12_16_12i (fun _ => rfl) (fun _ => rfl) dX12_init_25 H (fun h9 H => ?_)
  refine a_aload_n 0 rfl rfl dX12_init_28 ?_
  refine a_sipush (v := (240 : Int32)) (by decide) dX12_init_29 ?_
  refine r_nA (t := 0) (Or.inl ⟨rfl, rfl⟩) dX12_init_32 H (fun a10 h11 H => ?_)
  refine r_pF po_RX12_19_12i (fun _ => rfl) (fun _ => rfl) dX12_init_34 H (fun h12 H => ?_)
  refine a_aload_n 0 rfl rfl dX12_init_37 ?_
  refine a_lconst (v := (1 : Int64)) (by decide) dX12_init_38 ?_
  refine r_pF po_RX12_22_12i (fun _ => rfl) (fun _ => rfl) dX12_init_39 H (fun h13 H => ?_)
  refine a_aload_n 0 rfl rfl dX12_init_42 ?_
  refine a_bipush (v := (6 : Int32)) (by decide) dX12_init_43 ?_
  refine r_nA (t := 0) (Or.inl ⟨rfl, rfl⟩) dX12_init_45 H (fun a14 h15 H => ?_)
  refine r_pF po_RX12_26_12i (fun _ => rfl) (fun _ => rfl) dX12_init_47 H (fun h16 H => ?_)
  refine a_aload_n 0 rfl rfl dX12_init_50 ?_
  refine a_iconst (v := (5 : Int32)) (by decide) dX12_init_51 ?_
  refine r_nA (t := 0) (Or.inl ⟨rfl, rfl⟩) dX12_init_52 H (fun a17 h18 H => ?_)
  refine r_pF po_RX12_29_12i (fun _ => rfl) (fun _ => rfl) dX12_init_54 H (fun h19 H => ?_)
  refine a_aload_n 0 rfl rfl dX12_init_57 ?_
  refine a_iconst (v := (5 : Int32)) (by decide) dX12_init_58 ?_
  refine r_nA (t := 0) (Or.inl ⟨rfl, rfl⟩) dX12_init_59 H (fun a20 h21 H => ?_)
  refine r_pF po_RX12_32_12i (fun _ => rfl) (fun _ => rfl) dX12_init_61 H (fun h22 H => ?_)
  refine a_aload_n 0 rfl rfl dX12_init_64 ?_
  refine a_iconst (v := (5 : Int32)) (by decide) dX12_init_65 ?_
  refine r_nA (t := 0) (Or.inl ⟨rfl, rfl⟩) dX12_init_66 H (fun a23 h24 H => ?_)
  refine r_pF po_RX12_35_12i (fun _ => rfl) (fun _ => rfl) dX12_init_68 H (fun h25 H => ?_)
  refine a_aload_n 0 rfl rfl dX12_init_71 ?_
  refine a_iconst (v := (5 : Int32)) (by decide) dX12_init_72 ?_
  refine r_nA (t := 0) (Or.inl ⟨rfl, rfl⟩) dX12_init_73 H (fun a26 h27 H => ?_)
  refine r_pF po_RX12_38_12i (fun _ => rfl) (fun _ => rfl) dX12_init_75 H (fun h28 H => ?_)
  refine a_aload_n 0 rfl rfl dX12_init_78 ?_
  refine a_iconst (v := (5 : Int32)) (by decide) dX12_init_79 ?_
  refine r_nA (t := 0) (Or.inl ⟨rfl, rfl⟩) dX12_init_80 H (fun a29 h30 H => ?_)
  refine r_pF po_RX12_41_12i (fun _ => rfl) (fun _ => rfl) dX12_init_82 H (fun h31 H => ?_)
  refine a_aload_n 0 rfl rfl dX12_init_85 ?_
  refine a_iconst (v := (5 : Int32)) (by decide) dX12_init_86 ?_
  refine r_nA (t := 0) (Or.inl ⟨rfl, rfl⟩) dX12_init_87 H (fun a32 h33 H => ?_)
  refine r_pF po_RX12_44_12i (fun _ => rfl) (fun _ => rfl) dX12_init_89 H (fun h34 H => ?_)
  refine a_aload_n 0 rfl rfl dX12_init_92 ?_
  refine a_bipush (v := (60 : Int32)) (by decide) dX12_init_93 ?_
  refine r_nA (t := 0) (Or.inl ⟨rfl, rfl⟩) dX12_init_95 H (fun a35 h36 H => ?_)
  refine r_pF po_RX12_47_12i (fun _ => rfl) (fun _ => rfl) dX12_init_97 H (fun h37 H => ?_)
  refine a_aload_n 0 rfl rfl dX12_init_100 ?_
  refine a_bipush (v := (60 : Int32)) (by decide) dX12_init_101 ?_
  refine r_nA (t := 0) (Or.inl ⟨rfl, rfl⟩) dX12_init_103 H (fun a38 h39 H => ?_)
  refine r_pF po_RX12_50_12i (fun _ => rfl) (fun _ => rfl) dX12_init_105 H (fun h40 H => ?_)
  refine a_aload_n 0 rfl rfl dX12_init_108 ?_
  refine a_bipush (v := (60 : Int32)) (by decide) dX12_init_109 ?_
  refine r_nA (t := 0) (Or.inl ⟨rfl, rfl⟩) dX12_init_111 H (fun a41 h42 H => ?_)
  refine r_pF po_RX12_53_12i (fun _ => rfl) (fun _ => rfl) dX12_init_113 H (fun h43 H => ?_)
  refine a_aload_n 0 rfl rfl dX12_init_116 ?_
  refine a_sipush (v := (300 : Int32)) (by decide) dX12_init_117 ?_
  refine r_nA (t := 0) (Or.inl ⟨rfl, rfl⟩) dX12_init_120 H (fun a44 h45 H => ?_)
  refine r_pF po_RX12_56_12i (fun _ => rfl) (fun _ => rfl) dX12_init_122 H (fun h46 H => ?_)
  refine a_aload_n 0 rfl rfl dX12_init_125 ?_
  refine a_iconst (v := (3 : Int32)) (by decide) dX12_init_126 ?_
  refine r_nA (t := 0) (Or.inl ⟨rfl, rfl⟩) dX12_init_127 H (fun a47 h48 H => ?_)
  refine r_pF po_RX12_59_12i (fun _ => rfl) (fun _ => rfl) dX12_init_129 H (fun h49 H => ?_)
  refine a_aload_n 0 rfl rfl dX12_init_132 ?_
  refine a_iconst (v := (3 : Int32)) (by decide) dX12_init_133 ?_
  refine r_nA (t := 0) (Or.inl ⟨rfl, rfl⟩) dX12_init_134 H (fun a50 h51 H => ?_)
  refine r_pF po_RX12_62_12i (fun _ => rfl) (fun _ => rfl) dX12_init_136 H (fun h52 H => ?_)
  refine a_aload_n 0 rfl rfl dX12_init_139 ?_
  refine a_iconst (v := (5 : Int32)) (by decide) dX12_init_140 ?_
  refine r_nA (t := 0) (Or.inl ⟨rfl, rfl⟩) dX12_init_141 H (fun a53 h54 H => ?_)
  refine r_pF po_RX12_65_12i (fun _ => rfl) (fun _ => rfl) dX12_init_143 H (fun h55 H => ?_)
  refine a_aload_n 0 rfl rfl dX12_init_146 ?_
  refine a_iconst (v := (5 : Int32)) (by decide) dX12_init_147 ?_
  refine r_nA (t := 0) (Or.inl ⟨rfl, rfl⟩) dX12_init_148 H (fun a56 h57 H => ?_)
  refine r_pF po_RX12_68_12i (fun _ => rfl) (fun _ => rfl) dX12_init_150 H (fun h58 H => ?_)
  refine a_aload_n 0 rfl rfl dX12_init_153 ?_
  refine a_iconst (v := (5 : Int32)) (by decide) dX12_init_154 ?_
  refine r_nA (t := 0) (Or.inl ⟨rfl, rfl⟩) dX12_init_155 H (fun a59 h60 H => ?_)
  refine r_pF po_RX12_71_12i (fun _ => rfl) (fun _ => rfl) dX12_init_157 H (fun h61 H => ?_)
  refine a_aload_n 0 rfl rfl dX12_init_160 ?_
  refine a_iconst (v := (5 : Int32)) (by decide) dX12_init_161 ?_
  refine r_nA (t := 0) (Or.inl ⟨rfl, rfl⟩) dX12_init_162 H (fun a62 h63 H => ?_)
  refine r_pF po_RX12_74_12i (fun _ => rfl) (fun _ => rfl) dX12_init_164 H (fun h64 H => ?_)
  refine a_aload_n 0 rfl rfl dX12_init_167 ?_
  refine a_iconst (v := (5 : Int32)) (by decide) dX12_init_168 ?_
  refine r_nA (t := 0) (Or.inl ⟨rfl, rfl⟩) dX12_init_169 H (fun a65 h66 H => ?_)
  refine r_pF po_RX12_77_12i (fun _ => rfl) (fun _ => rfl) dX12_init_171 H (fun h67 H => ?_)
  refine a_aload_n 0 rfl rfl dX12_init_174 ?_
  refine a_iconst (v := (5 : Int32)) (by decide) dX12_init_175 ?_
  refine r_nA (t := 0) (Or.inl ⟨rfl, rfl⟩) dX12_init_176 H (fun a68 h69 H => ?_)
  refine r_pF po_RX12_80_12i (fun _ => rfl) (fun _ => rfl) dX12_init_178 H (fun h70 H => ?_)
  refine a_aload_n 0 rfl rfl dX12_init_181 ?_
  refine a_iconst (v := (5 : Int32)) (by decide) dX12_init_182 ?_
  refine r_nA (t := 0) (Or.inl ⟨rfl, rfl⟩) dX12_init_183 H (fun a71 h72 H => ?_)
  refine r_pF po_RX12_83_12i (fun _ => rfl) (fun _ => rfl) dX12_init_185 H (fun h73 H => ?_)
  refine a_aload_n 0 rfl rfl dX12_init_188 ?_
  refine a_bipush (v := (125 : Int32)) (by decide) dX12_init_189 ?_
  refine r_nA (t := 0) (Or.inl ⟨rfl, rfl⟩) dX12_init_191 H (fun a74 h75 H => ?_)
  refine r_pF po_RX12_86_12i (fun _ => rfl) (fun _ => rfl) dX12_init_193 H (fun h76 H => ?_)
  refine a_aload_n 0 rfl rfl dX12_init_196 ?_
  refine a_ldc (v := (32768 : Int32)) wd1024 dX12_init_197 ?_
  refine r_nA (t := 0) (Or.inl ⟨rfl, rfl⟩) dX12_init_199 H (fun a77 h78 H => ?_)
  refine r_pF po_RX12_90_12i (fun _ => rfl) (fun _ => rfl) dX12_init_201 H (fun h79 H => ?_)
  refine a_aload_n 0 rfl rfl dX12_init_204 ?_
  refine a_ldc (v := (32768 : Int32)) wd1024 dX12_init_205 ?_
  refine r_nA (t := 0) (Or.inl ⟨rfl, rfl⟩) dX12_init_207 H (fun a80 h81 H => ?_)
  refine r_pF po_RX12_93_12i (fun _ => rfl) (fun _ => rfl) dX12_init_209 H (fun h82 H => ?_)
  refine a_aload_n 0 rfl rfl dX12_init_212 ?_
  refine a_ldc (v := (32768 : Int32)) wd1024 dX12_init_213 ?_
  refine r_nA (t := 1) (Or.inr ⟨rfl, rfl⟩) dX12_init_215 H (fun a83 h84 H => ?_)
  refine r_pF po_RX12_96_12i (fun _ => rfl) (fun _ => rfl) dX12_init_217 H (fun h85 H => ?_)
  refine a_iconst (v := (0 : Int32)) (by decide) dX12_init_220 ?_
  refine a_istore_n (lv1 := [(0, .ref v0), (1, .int (0 : Int32))]) rfl [1, 0] (by decide) rfl dX12_init_221 ?_
  obtain ⟨n, H⟩ := H
  exact l_X12_init_222  n _ _ H
def f_X11_isBelow (v0 : Int32) (v1 : Int32) (h : AH) (Q : Int32 → AH → Prop) : Prop :=
  ((v0 < 0 → Q (0 : Int32) h) ∧ (¬ (v0 < 0) → ((v1 ≤ v0 → Q (0 : Int32) h) ∧ (¬ (v1 ≤ v0) → Q (1 : Int32) h))))
set_option maxRecDepth 100000 in
set_option maxHeartbeats 4000000 in
theorem s_X11_isBelow {o : Om} {v0 : Int32} {v1 : Int32} {h : AH} {Q : Int32 → AH → Prop} (H : f_X11_isBelow v0 v1 h Q) : MQ' o kX11_isBelow [.int v0, .int v1] h (qI Q) := by
  refine MQ'.of (by decide +kernel) (Nat.le_of_ble_eq_true rfl) ?_
  show AQ o kX11_isBelow h 0 [(0, .int v0), (1, .int v1)] [] (qI Q)
  refine a_iload_n 0 rfl rfl dX11_isBelow_0 ?_
  refine a_if_lt (tgt := 13) dX11_isBelow_1 (by decide) (fun c => ?_) (fun c => ?_)
  · have H := H.1 (c)
    refine a_iconst (v := (0 : Int32)) (by decide) dX11_isBelow_13 ?_
    exact r_retz rfl bl_0 dX11_isBelow_14 H
  · have H := H.2 (c)
    refine a_iload_n 0 rfl rfl dX11_isBelow_4 ?_
    refine a_iload_n 1 rfl rfl dX11_isBelow_5 ?_
    refine a_icmp_ge (tgt := 13) dX11_isBelow_6 (by decide) (fun c => ?_) (fun c => ?_)
    · have H := H.1 (c)
      refine a_iconst (v := (0 : Int32)) (by decide) dX11_isBelow_13 ?_
      exact r_retz rfl bl_0 dX11_isBelow_14 H
    · have H := H.2 (c)
      refine a_iconst (v := (1 : Int32)) (by decide) dX11_isBelow_9 ?_
      refine a_goto (tgt := 14) dX11_isBelow_10 (by decide) ?_
      exact r_retz rfl bl_1 dX11_isBelow_14 H
def f_X11_found (v0 : Nat) (v1 : Int32) (h : AH) (Q : Int32 → AH → Prop) : Prop :=
  pF h v0 11 15 (.int v1) (fun h1 => gR h1 v0 11 5 (fun a2 => lI h1 a2 v1 (fun x3 => sI h1 a2 v1 (x3 + (1 : Int32)) (fun h4 => Q (-3 : Int32) h4))))
set_option maxRecDepth 100000 in
set_option maxHeartbeats 4000000 in
theorem s_X11_found {o : Om} {v0 : Nat} {v1 : Int32} {h : AH} {Q : Int32 → AH → Prop} (H : f_X11_found v0 v1 h Q) : MQ' o kX11_found [.ref v0, .int v1] h (qI Q) := by
  refine MQ'.of (by decide +kernel) (Nat.le_of_ble_eq_true rfl) ?_
  show AQ o kX11_found h 0 [(0, .ref v0), (1, .int v1)] [] (qI Q)
  refine a_aload_n 0 rfl rfl dX11_found_0 ?_
  refine a_iload_n 1 rfl rfl dX11_found_1 ?_
  refine r_pF (po_RX11_54_11 _) (fun _ => rfl) (fun _ => rfl) dX11_found_2 H (fun h1 H => ?_)
  refine a_aload_n 0 rfl rfl dX11_found_5 ?_
  refine r_gR fo_RX11_31_11 dX11_found_6 H (fun a2 H => ?_)
  refine a_iload_n 1 rfl rfl dX11_found_9 ?_
  refine a_dup2 rfl rfl dX11_found_10 ?_
  refine r_lI dX11_found_11 H (fun x3 H => ?_)
  refine a_iconst (v := (1 : Int32)) (by decide) dX11_found_12 ?_
  refine a_iadd dX11_found_13 ?_
  refine r_sI dX11_found_14 H (fun h4 H => ?_)
  refine a_bipush (v := (-3 : Int32)) (by decide) dX11_found_15 ?_
  exact r_reti rfl dX11_found_17 H
def f_X6_begin (v0 : Nat) (v1 : Int32) (v2 : Int32) (h : AH) (Q : AH → Prop) : Prop :=
  pF h v0 6 1 (.int (if (0 : Int32) < (if (60 : Int32) < v1 then (60 : Int32) else v1) then (if (60 : Int32) < v1 then (60 : Int32) else v1) else (0 : Int32))) (fun h3 => gR h3 v0 6 0 (fun a4 => f_J7_fill_53178 a4 v2 h3 (fun h5 => Q h5)))
set_option maxRecDepth 100000 in
set_option maxHeartbeats 4000000 in
theorem s_X6_begin {o : Om} {v0 : Nat} {v1 : Int32} {v2 : Int32} {h : AH} {Q : AH → Prop} (H : f_X6_begin v0 v1 v2 h Q) : MQ' o kX6_begin [.ref v0, .int v1, .int v2] h (qV Q) := by
  refine MQ'.of (by decide +kernel) (Nat.le_of_ble_eq_true rfl) ?_
  show AQ o kX6_begin h 0 [(0, .ref v0), (1, .int v1), (2, .int v2)] [] (qV Q)
  refine a_aload_n 0 rfl rfl dX6_begin_0 ?_
  refine a_iconst (v := (0 : Int32)) (by decide) dX6_begin_1 ?_
  refine a_iload_n 1 rfl rfl dX6_begin_2 ?_
  refine a_bipush (v := (60 : Int32)) (by decide) dX6_begin_3 ?_
  refine a_mmin wd268 wd269 wd8 wd270 ⟨Nat.le_of_ble_eq_true rfl, Nat.le_of_ble_eq_true rfl⟩ dX6_begin_5 ?_
  refine a_mmax wd271 wd272 wd8 wd273 ⟨Nat.le_of_ble_eq_true rfl, Nat.le_of_ble_eq_true rfl⟩ dX6_begin_8 ?_
  refine r_pF (po_RX6_15_6 _) (fun _ => rfl) (fun _ => rfl) dX6_begin_11 H (fun h3 H => ?_)
  refine a_aload_n 0 rfl rfl dX6_begin_14 ?_
  refine r_gR fo_RX6_9_6 dX6_begin_15 H (fun a4 H => ?_)
  refine a_iload_n 2 rfl rfl dX6_begin_18 ?_
  refine r_Sv (av := [.ref a4, .int v2]) (rest := []) rfl rfl okJ7_fill_53178 wd274 wd202 ⟨Nat.le_of_ble_eq_true rfl, Nat.le_of_ble_eq_true rfl⟩ (Nat.le_of_ble_eq_true rfl) dX6_begin_19 (s_J7_fill_53178 H) (fun h5 H => ?_)
  exact r_retv rfl dX6_begin_22 H
def f_X11_row (v0 : Nat) (v1 : Int32) (v2 : Int32) (h : AH) (Q : Int32 → AH → Prop) : Prop :=
  f_X11_isBelow v1 (6 : Int32) h (fun x1 h2 => ((x1 = 0 → Q (-1 : Int32) h2) ∧ (¬ (x1 = 0) → ((v2 ≤ (60 : Int32) → ((0 ≤ v2 → gR h2 v0 11 0 (fun a3 => lQ h2 a3 2 v1 (fun a4 => isO h2 a4 6 ∧ f_X6_begin a4 v2 (0 : Int32) h2 (fun h5 => Q v2 h5)))) ∧ (¬ (0 ≤ v2) → isO h2 v0 11 ∧ f_X11_found v0 (5 : Int32) h2 (fun x6 h7 => Q x6 h7)))) ∧ (¬ (v2 ≤ (60 : Int32)) → Q (-1 : Int32) h2)))))
set_option maxRecDepth 100000 in
set_option maxHeartbeats 4000000 in
theorem s_X11_row {o : Om} {v0 : Nat} {v1 : Int32} {v2 : Int32} {h : AH} {Q : Int32 → AH → Prop} (H : f_X11_row v0 v1 v2 h Q) : MQ' o kX11_row [.ref v0, .int v1, .int v2] h (qI Q) := by
  refine MQ'.of (by decide +kernel) (Nat.le_of_ble_eq_true rfl) ?_
  show AQ o kX11_row h 0 [(0, .ref v0), (1, .int v1), (2, .int v2)] [] (qI Q)
  refine a_iload_n 1 rfl rfl dX11_row_0 ?_
  refine a_bipush (v := (6 : Int32)) (by decide) dX11_row_1 ?_
  refine r_Si (av := [.int v1, .int (6 : Int32)]) (rest := []) rfl rfl okX11_isBelow wd257 wd258 ⟨Nat.le_of_ble_eq_true rfl, Nat.le_of_ble_eq_true rfl⟩ (Nat.le_of_ble_eq_true rfl) dX11_row_3 (s_X11_isBelow H) (fun x1 h2 H => ?_)
  refine a_if_eq (tgt := 15) dX11_row_6 (by decide) (fun c => ?_) (fun c => ?_)
  · have H := H.1 (c)
    refine a_iconst (v := (-1 : Int32)) (by decide) dX11_row_15 ?_
    exact r_reti rfl dX11_row_16 H
  · have H := H.2 (c)
    refine a_iload_n 2 rfl rfl dX11_row_9 ?_
    refine a_bipush (v := (60 : Int32)) (by decide) dX11_row_10 ?_
    refine a_icmp_le (tgt := 17) dX11_row_12 (by decide) (fun c => ?_) (fun c => ?_)
    · have H := H.1 (c)
      refine a_iload_n 2 rfl rfl dX11_row_17 ?_
      refine a_if_ge (tgt := 27) dX11_row_18 (by decide) (fun c => ?_) (fun c => ?_)
      · have H := H.1 (c)
        refine a_aload_n 0 rfl rfl dX11_row_27 ?_
        refine r_gR fo_RX11_11_11 dX11_row_28 H (fun a3 H => ?_)
        refine a_iload_n 1 rfl rfl dX11_row_31 ?_
        refine r_lQ (by decide) dX11_row_32 H (fun a4 H => ?_)
        refine a_iload_n 2 rfl rfl dX11_row_33 ?_
        refine a_iconst (v := (0 : Int32)) (by decide) dX11_row_34 ?_
        refine r_Vv (q := (RX6, TX6, 2)) (av := [.int v2, .int (0 : Int32)]) (rest := []) rfl rfl okX6_begin H.1 rfl rfl wd264 wd265 wd266 ⟨Nat.le_of_ble_eq_true rfl, Nat.le_of_ble_eq_true rfl⟩ (Nat.le_of_ble_eq_true rfl) dX11_row_35 (s_X6_begin H.2) (fun h5 H => ?_)
        refine a_iload_n 2 rfl rfl dX11_row_38 ?_
        exact r_reti rfl dX11_row_39 H
      · have H := H.2 (c)
        refine a_aload_n 0 rfl rfl dX11_row_21 ?_
        refine a_iconst (v := (5 : Int32)) (by decide) dX11_row_22 ?_
        refine r_Vi (q := (RX11, TX11, 16)) (av := [.int (5 : Int32)]) (rest := []) rfl rfl okX11_found H.1 rfl rfl wd260 wd262 wp0 ⟨Nat.le_of_ble_eq_true rfl, Nat.le_of_ble_eq_true rfl⟩ (Nat.le_of_ble_eq_true rfl) dX11_row_23 (s_X11_found H.2) (fun x6 h7 H => ?_)
        exact r_reti rfl dX11_row_26 H
    · have H := H.2 (c)
      refine a_iconst (v := (-1 : Int32)) (by decide) dX11_row_15 ?_
      exact r_reti rfl dX11_row_16 H
def f_X12_in (v0 : Int64) (v2 : Int64) (v4 : Int64) (h : AH) (Q : Int32 → AH → Prop) : Prop :=
  ((v0 < v2 → Q (0 : Int32) h) ∧ (¬ (v0 < v2) → ((v4 < v0 → Q (0 : Int32) h) ∧ (¬ (v4 < v0) → Q (1 : Int32) h))))
set_option maxRecDepth 100000 in
set_option maxHeartbeats 4000000 in
theorem s_X12_in {o : Om} {v0 : Int64} {v2 : Int64} {v4 : Int64} {h : AH} {Q : Int32 → AH → Prop} (H : f_X12_in v0 v2 v4 h Q) : MQ' o kX12_in [.long v0, .long v2, .long v4] h (qI Q) := by
  refine MQ'.of (by decide +kernel) (Nat.le_of_ble_eq_true rfl) ?_
  show AQ o kX12_in h 0 [(0, .long v0), (2, .long v2), (4, .long v4)] [] (qI Q)
  refine a_lload_n 0 rfl rfl dX12_in_0 ?_
  refine a_lload_n 1 rfl rfl dX12_in_1 ?_
  refine a_lcmp dX12_in_2 ?_
  refine a_if_lt (tgt := 17) dX12_in_3 (by decide) (fun c => ?_) (fun c => ?_)
  · have H := H.1 ((lgc_lt _ _).mp c)
    refine a_iconst (v := (0 : Int32)) (by decide) dX12_in_17 ?_
    exact r_retz rfl bl_0 dX12_in_18 H
  · have H := H.2 (fun q => c ((lgc_lt _ _).mpr q))
    refine a_lload_n 0 rfl rfl dX12_in_6 ?_
    refine a_lload 2 rfl dX12_in_7 ?_
    refine a_lcmp dX12_in_9 ?_
    refine a_if_gt (tgt := 17) dX12_in_10 (by decide) (fun c => ?_) (fun c => ?_)
    · have H := H.1 ((lgc_gt _ _).mp c)
      refine a_iconst (v := (0 : Int32)) (by decide) dX12_in_17 ?_
      exact r_retz rfl bl_0 dX12_in_18 H
    · have H := H.2 (fun q => c ((lgc_gt _ _).mpr q))
      refine a_iconst (v := (1 : Int32)) (by decide) dX12_in_13 ?_
      refine a_goto (tgt := 18) dX12_in_14 (by decide) ?_
      exact r_retz rfl bl_1 dX12_in_18 H
def f_X12_isRow (v0 : Int32) (h : AH) (Q : Int32 → AH → Prop) : Prop :=
  f_X12_in v0.toInt64 (0 : Int64) (5 : Int64) h (fun x1 h2 => (bl x1 ∧ Q x1 h2))
set_option maxRecDepth 100000 in
set_option maxHeartbeats 4000000 in
theorem s_X12_isRow {o : Om} {v0 : Int32} {h : AH} {Q : Int32 → AH → Prop} (H : f_X12_isRow v0 h Q) : MQ' o kX12_isRow [.int v0] h (qI Q) := by
  refine MQ'.of (by decide +kernel) (Nat.le_of_ble_eq_true rfl) ?_
  show AQ o kX12_isRow h 0 [(0, .int v0)] [] (qI Q)
  refine a_iload_n 0 rfl rfl dX12_isRow_0 ?_
  refine a_i2l dX12_isRow_1 ?_
  refine a_lconst (v := (0 : Int64)) (by decide) dX12_isRow_2 ?_
  refine a_ldc2 (v := (5 : Int64)) wd1187 dX12_isRow_3 ?_
  refine r_Si (av := [.long v0.toInt64, .long (0 : Int64), .long (5 : Int64)]) (rest := []) rfl rfl okX12_in wd1188 wd1189 ⟨Nat.le_of_ble_eq_true rfl, Nat.le_of_ble_eq_true rfl⟩ (Nat.le_of_ble_eq_true rfl) dX12_isRow_6 (s_X12_in H) (fun x1 h2 H => ?_)
  exact r_retz rfl H.1 dX12_isRow_9 H.2
def f_X12_find (v0 : Nat) (v1 : Int32) (h : AH) (Q : Int32 → AH → Prop) : Prop :=
  pF h v0 12 7 (.int v1) (fun h1 => gR h1 v0 12 8 (fun a2 => lI h1 a2 v1 (fun x3 => sI h1 a2 v1 (x3 + (1 : Int32)) (fun h4 => Q (-3 : Int32) h4))))
set_option maxRecDepth 100000 in
set_option maxHeartbeats 4000000 in
theorem s_X12_find {o : Om} {v0 : Nat} {v1 : Int32} {h : AH} {Q : Int32 → AH → Prop} (H : f_X12_find v0 v1 h Q) : MQ' o kX12_find [.ref v0, .int v1] h (qI Q) := by
  refine MQ'.of (by decide +kernel) (Nat.le_of_ble_eq_true rfl) ?_
  show AQ o kX12_find h 0 [(0, .ref v0), (1, .int v1)] [] (qI Q)
  refine a_aload_n 0 rfl rfl dX12_find_0 ?_
  refine a_iload_n 1 rfl rfl dX12_find_1 ?_
  refine r_pF (po_RX12_100_12 _) (fun _ => rfl) (fun _ => rfl) dX12_find_2 H (fun h1 H => ?_)
  refine a_aload_n 0 rfl rfl dX12_find_5 ?_
  refine r_gR fo_RX12_26_12 dX12_find_6 H (fun a2 H => ?_)
  refine a_iload_n 1 rfl rfl dX12_find_9 ?_
  refine a_dup2 rfl rfl dX12_find_10 ?_
  refine r_lI dX12_find_11 H (fun x3 H => ?_)
  refine a_iconst (v := (1 : Int32)) (by decide) dX12_find_12 ?_
  refine a_iadd dX12_find_13 ?_
  refine r_sI dX12_find_14 H (fun h4 H => ?_)
  refine a_bipush (v := (-3 : Int32)) (by decide) dX12_find_15 ?_
  exact r_reti rfl dX12_find_17 H
def B_X12_makes_9 (Q : AH → Prop) (K9 : Int32 → AH → Prop) (v0 : Nat) (v1 : Int32) (v3 : Int32) (h : AH) : Prop :=
  (((60 : Int32) ≤ v3 → Q h) ∧ (¬ ((60 : Int32) ≤ v3) → gR h v0 12 1 (fun a1 => sI h a1 (((60 : Int32) * v1) + v3) (0 : Int32) (fun h2 => K9 (v3 + 1) h2))))
set_option maxRecDepth 100000 in
set_option maxHeartbeats 4000000 in
theorem b_X12_makes_9 {o : Om} {Q : AH → Prop} {K9 : Int32 → AH → Prop} {v0 : Nat} {v1 : Int32} {v3 : Int32} {h : AH} (hK9 : ∀ w3 h, K9 w3 h → AQ o kX12_makes h 9 [(0, .ref v0), (1, .int v1), (3, .int w3)] [] (qV Q)) (H : B_X12_makes_9 Q K9 v0 v1 v3 h) : AQ o kX12_makes h 9 [(0, .ref v0), (1, .int v1), (3, .int v3)] [] (qV Q) := by
  refine a_iload_n 2 rfl rfl dX12_makes_9 ?_
  refine a_bipush (v := (60 : Int32)) (by decide) dX12_makes_10 ?_
  refine a_icmp_ge (tgt := 33) dX12_makes_12 (by decide) (fun c => ?_) (fun c => ?_)
  · have H := H.1 (c)
    exact r_retv rfl dX12_makes_33 H
  · have H := H.2 (c)
    refine a_aload_n 0 rfl rfl dX12_makes_15 ?_
    refine r_gR fo_RX12_13_12 dX12_makes_16 H (fun a1 H => ?_)
    refine a_bipush (v := (60 : Int32)) (by decide) dX12_makes_19 ?_
    refine a_iload_n 1 rfl rfl dX12_makes_21 ?_
    refine a_imul dX12_makes_22 ?_
    refine a_iload_n 2 rfl rfl dX12_makes_23 ?_
    refine a_iadd dX12_makes_24 ?_
    refine a_iconst (v := (0 : Int32)) (by decide) dX12_makes_25 ?_
    refine r_sI dX12_makes_26 H (fun h2 H => ?_)
    refine a_iinc (v := v3 + 1) (lv1 := [(0, .ref v0), (1, .int v1), (3, .int (v3 + 1))]) [1, 2, 0] 2 rfl (by decide) rfl rfl dX12_makes_27 ?_
    refine a_goto (tgt := 9) dX12_makes_30 (by decide) ?_
    exact hK9 _ _ H
def L_X12_makes_9 (Q : AH → Prop)  (v0 : Nat) (v1 : Int32) : Nat → Int32 → AH → Prop
  | 0, _, _ => False
  | n + 1, v3, h => B_X12_makes_9 Q (L_X12_makes_9 Q  v0 v1 n) v0 v1 v3 h
theorem l_X12_makes_9 {o : Om} {Q : AH → Prop}  {v0 : Nat} {v1 : Int32}  : ∀ (n : Nat) (v3 : Int32) (h : AH), L_X12_makes_9 Q  v0 v1 n v3 h → AQ o kX12_makes h 9 [(0, .ref v0), (1, .int v1), (3, .int v3)] [] (qV Q) := by
  intro n
  induction n with
  | zero => intro v3 h H; exact H.elim
  | succ n ih => intro v3 h H; exact b_X12_makes_9 ih H
def f_X12_makes (v0 : Nat) (v1 : Int32) (v2 : Int32) (h : AH) (Q : AH → Prop) : Prop :=
  gR h v0 12 0 (fun a1 => sI h a1 v1 v2 (fun h2 => ∃ n, L_X12_makes_9 Q  v0 v1 n (0 : Int32) h2))
set_option maxRecDepth 100000 in
set_option maxHeartbeats 4000000 in
theorem s_X12_makes {o : Om} {v0 : Nat} {v1 : Int32} {v2 : Int32} {h : AH} {Q : AH → Prop} (H : f_X12_makes v0 v1 v2 h Q) : MQ' o kX12_makes [.ref v0, .int v1, .int v2] h (qV Q) := by
  refine MQ'.of (by decide +kernel) (Nat.le_of_ble_eq_true rfl) ?_
  show AQ o kX12_makes h 0 [(0, .ref v0), (1, .int v1), (2, .int v2)] [] (qV Q)
  refine a_aload_n 0 rfl rfl dX12_makes_0 ?_
  refine r_gR fo_RX12_7_12 dX12_makes_1 H (fun a1 H => ?_)
  refine a_iload_n 1 rfl rfl dX12_makes_4 ?_
  refine a_iload_n 2 rfl rfl dX12_makes_5 ?_
  refine r_sI dX12_makes_6 H (fun h2 H => ?_)
  refine a_iconst (v := (0 : Int32)) (by decide) dX12_makes_7 ?_
  refine a_istore_n (lv1 := [(0, .ref v0), (1, .int v1), (2, .int v2), (3, .int (0 : Int32))]) rfl [1, 2, 3, 0] (by decide) rfl dX12_makes_8 ?_
  refine AQ.sub (lv1 := [(0, .ref v0), (1, .int v1), (3, .int (0 : Int32))]) [0, 1, 3] rfl ?_
  obtain ⟨n, H⟩ := H
  exact l_X12_makes_9  n _ _ H
def f_X12_row (v0 : Nat) (v1 : Int32) (v2 : Int32) (h : AH) (Q : Int32 → AH → Prop) : Prop :=
  f_X12_isRow v1 h (fun x1 h2 => ((x1 = 0 → Q (-1 : Int32) h2) ∧ (¬ (x1 = 0) → ((v2 ≤ (60 : Int32) → ((0 ≤ v2 → isO h2 v0 12 ∧ f_X12_makes v0 v1 v2 h2 (fun h3 => Q v2 h3)) ∧ (¬ (0 ≤ v2) → isO h2 v0 12 ∧ f_X12_find v0 (5 : Int32) h2 (fun x4 h5 => Q x4 h5)))) ∧ (¬ (v2 ≤ (60 : Int32)) → Q (-1 : Int32) h2)))))
set_option maxRecDepth 100000 in
set_option maxHeartbeats 4000000 in
theorem s_X12_row {o : Om} {v0 : Nat} {v1 : Int32} {v2 : Int32} {h : AH} {Q : Int32 → AH → Prop} (H : f_X12_row v0 v1 v2 h Q) : MQ' o kX12_row [.ref v0, .int v1, .int v2] h (qI Q) := by
  refine MQ'.of (by decide +kernel) (Nat.le_of_ble_eq_true rfl) ?_
  show AQ o kX12_row h 0 [(0, .ref v0), (1, .int v1), (2, .int v2)] [] (qI Q)
  refine a_iload_n 1 rfl rfl dX12_row_0 ?_
  refine r_Si (av := [.int v1]) (rest := []) rfl rfl okX12_isRow wd1184 wd1185 ⟨Nat.le_of_ble_eq_true rfl, Nat.le_of_ble_eq_true rfl⟩ (Nat.le_of_ble_eq_true rfl) dX12_row_1 (s_X12_isRow H) (fun x1 h2 H => ?_)
  refine a_if_eq (tgt := 13) dX12_row_4 (by decide) (fun c => ?_) (fun c => ?_)
  · have H := H.1 (c)
    refine a_iconst (v := (-1 : Int32)) (by decide) dX12_row_13 ?_
    exact r_reti rfl dX12_row_14 H
  · have H := H.2 (c)
    refine a_iload_n 2 rfl rfl dX12_row_7 ?_
    refine a_bipush (v := (60 : Int32)) (by decide) dX12_row_8 ?_
    refine a_icmp_le (tgt := 15) dX12_row_10 (by decide) (fun c => ?_) (fun c => ?_)
    · have H := H.1 (c)
      refine a_iload_n 2 rfl rfl dX12_row_15 ?_
      refine a_if_ge (tgt := 25) dX12_row_16 (by decide) (fun c => ?_) (fun c => ?_)
      · have H := H.1 (c)
        refine a_aload_n 0 rfl rfl dX12_row_25 ?_
        refine a_iload_n 1 rfl rfl dX12_row_26 ?_
        refine a_iload_n 2 rfl rfl dX12_row_27 ?_
        refine r_Vv (q := (RX12, TX12, 51)) (av := [.int v1, .int v2]) (rest := []) rfl rfl okX12_makes H.1 rfl rfl wd1195 wd1197 wp32 ⟨Nat.le_of_ble_eq_true rfl, Nat.le_of_ble_eq_true rfl⟩ (Nat.le_of_ble_eq_true rfl) dX12_row_28 (s_X12_makes H.2) (fun h3 H => ?_)
        refine a_iload_n 2 rfl rfl dX12_row_31 ?_
        exact r_reti rfl dX12_row_32 H
      · have H := H.2 (c)
        refine a_aload_n 0 rfl rfl dX12_row_19 ?_
        refine a_iconst (v := (5 : Int32)) (by decide) dX12_row_20 ?_
        refine r_Vi (q := (RX12, TX12, 51)) (av := [.int (5 : Int32)]) (rest := []) rfl rfl okX12_find H.1 rfl rfl wd1191 wd1193 wp31 ⟨Nat.le_of_ble_eq_true rfl, Nat.le_of_ble_eq_true rfl⟩ (Nat.le_of_ble_eq_true rfl) dX12_row_21 (s_X12_find H.2) (fun x4 h5 H => ?_)
        exact r_reti rfl dX12_row_24 H
    · have H := H.2 (c)
      refine a_iconst (v := (-1 : Int32)) (by decide) dX12_row_13 ?_
      exact r_reti rfl dX12_row_14 H
def f_X6_isMissing (v0 : Nat) (h : AH) (Q : Int32 → AH → Prop) : Prop :=
  gI h v0 6 1 (fun x1 => ((0 ≤ x1 → Q (0 : Int32) h) ∧ (¬ (0 ≤ x1) → Q (1 : Int32) h)))
set_option maxRecDepth 100000 in
set_option maxHeartbeats 4000000 in
theorem s_X6_isMissing {o : Om} {v0 : Nat} {h : AH} {Q : Int32 → AH → Prop} (H : f_X6_isMissing v0 h Q) : MQ' o kX6_isMissing [.ref v0] h (qI Q) := by
  refine MQ'.of (by decide +kernel) (Nat.le_of_ble_eq_true rfl) ?_
  show AQ o kX6_isMissing h 0 [(0, .ref v0)] [] (qI Q)
  refine a_aload_n 0 rfl rfl dX6_isMissing_0 ?_
  refine r_gI fo_RX6_15_6 dX6_isMissing_1 H (fun x1 H => ?_)
  refine a_if_ge (tgt := 11) dX6_isMissing_4 (by decide) (fun c => ?_) (fun c => ?_)
  · have H := H.1 (c)
    refine a_iconst (v := (0 : Int32)) (by decide) dX6_isMissing_11 ?_
    exact r_retz rfl bl_0 dX6_isMissing_12 H
  · have H := H.2 (c)
    refine a_iconst (v := (1 : Int32)) (by decide) dX6_isMissing_7 ?_
    refine a_goto (tgt := 12) dX6_isMissing_8 (by decide) ?_
    exact r_retz rfl bl_1 dX6_isMissing_12 H
def f_X11_refuseMissing (v0 : Nat) (v1 : Nat) (v2 : Int32) (h : AH) (Q : Int32 → AH → Prop) : Prop :=
  aL h v1 2 (fun x1 => f_X11_isBelow v2 x1 h (fun x2 h3 => ((¬ (x2 = 0) → lQ h3 v1 2 v2 (fun a4 => isO h3 a4 6 ∧ f_X6_isMissing a4  h3 (fun x5 h6 => ((x5 = 0 → Q (0 : Int32) h6) ∧ (¬ (x5 = 0) → isO h6 v0 11 ∧ f_X11_found v0 (1 : Int32) h6 (fun x7 h8 => Q x7 h8)))))) ∧ (x2 = 0 → Q (-1 : Int32) h3))))
set_option maxRecDepth 100000 in
set_option maxHeartbeats 4000000 in
theorem s_X11_refuseMissing {o : Om} {v0 : Nat} {v1 : Nat} {v2 : Int32} {h : AH} {Q : Int32 → AH → Prop} (H : f_X11_refuseMissing v0 v1 v2 h Q) : MQ' o kX11_refuseMissing [.ref v0, .ref v1, .int v2] h (qI Q) := by
  refine MQ'.of (by decide +kernel) (Nat.le_of_ble_eq_true rfl) ?_
  show AQ o kX11_refuseMissing h 0 [(0, .ref v0), (1, .ref v1), (2, .int v2)] [] (qI Q)
  refine a_iload_n 2 rfl rfl dX11_refuseMissing_0 ?_
  refine a_aload_n 1 rfl rfl dX11_refuseMissing_1 ?_
  refine r_aL (by decide) dX11_refuseMissing_2 H (fun x1 H => ?_)
  refine r_Si (av := [.int v2, .int x1]) (rest := []) rfl rfl okX11_isBelow wd257 wd258 ⟨Nat.le_of_ble_eq_true rfl, Nat.le_of_ble_eq_true rfl⟩ (Nat.le_of_ble_eq_true rfl) dX11_refuseMissing_3 (s_X11_isBelow H) (fun x2 h3 H => ?_)
  refine a_if_ne (tgt := 11) dX11_refuseMissing_6 (by decide) (fun c => ?_) (fun c => ?_)
  · have H := H.1 (c)
    refine a_aload_n 1 rfl rfl dX11_refuseMissing_11 ?_
    refine a_iload_n 2 rfl rfl dX11_refuseMissing_12 ?_
    refine r_lQ (by decide) dX11_refuseMissing_13 H (fun a4 H => ?_)
    refine r_Vi (q := (RX6, TX6, 2)) (av := []) (rest := []) rfl rfl okX6_isMissing H.1 rfl rfl wd287 wd288 wd289 ⟨Nat.le_of_ble_eq_true rfl, Nat.le_of_ble_eq_true rfl⟩ (Nat.le_of_ble_eq_true rfl) dX11_refuseMissing_14 (s_X6_isMissing H.2) (fun x5 h6 H => ?_)
    refine a_if_eq (tgt := 28) dX11_refuseMissing_17 (by decide) (fun c => ?_) (fun c => ?_)
    · have H := H.1 (c)
      refine a_iconst (v := (0 : Int32)) (by decide) dX11_refuseMissing_28 ?_
      exact r_reti rfl dX11_refuseMissing_29 H
    · have H := H.2 (c)
      refine a_aload_n 0 rfl rfl dX11_refuseMissing_20 ?_
      refine a_iconst (v := (1 : Int32)) (by decide) dX11_refuseMissing_21 ?_
      refine r_Vi (q := (RX11, TX11, 16)) (av := [.int (1 : Int32)]) (rest := []) rfl rfl okX11_found H.1 rfl rfl wd260 wd262 wp0 ⟨Nat.le_of_ble_eq_true rfl, Nat.le_of_ble_eq_true rfl⟩ (Nat.le_of_ble_eq_true rfl) dX11_refuseMissing_22 (s_X11_found H.2) (fun x7 h8 H => ?_)
      refine a_goto (tgt := 29) dX11_refuseMissing_25 (by decide) ?_
      exact r_reti rfl dX11_refuseMissing_29 H
  · have H := H.2 (c)
    refine a_iconst (v := (-1 : Int32)) (by decide) dX11_refuseMissing_9 ?_
    exact r_reti rfl dX11_refuseMissing_10 H
def f_X6_has (v0 : Nat) (v1 : Int32) (h : AH) (Q : Int32 → AH → Prop) : Prop :=
  ((v1 < 0 → Q (0 : Int32) h) ∧ (¬ (v1 < 0) → gI h v0 6 1 (fun x1 => ((x1 ≤ v1 → Q (0 : Int32) h) ∧ (¬ (x1 ≤ v1) → Q (1 : Int32) h)))))
set_option maxRecDepth 100000 in
set_option maxHeartbeats 4000000 in
theorem s_X6_has {o : Om} {v0 : Nat} {v1 : Int32} {h : AH} {Q : Int32 → AH → Prop} (H : f_X6_has v0 v1 h Q) : MQ' o kX6_has [.ref v0, .int v1] h (qI Q) := by
  refine MQ'.of (by decide +kernel) (Nat.le_of_ble_eq_true rfl) ?_
  show AQ o kX6_has h 0 [(0, .ref v0), (1, .int v1)] [] (qI Q)
  refine a_iload_n 1 rfl rfl dX6_has_0 ?_
  refine a_if_lt (tgt := 16) dX6_has_1 (by decide) (fun c => ?_) (fun c => ?_)
  · have H := H.1 (c)
    refine a_iconst (v := (0 : Int32)) (by decide) dX6_has_16 ?_
    exact r_retz rfl bl_0 dX6_has_17 H
  · have H := H.2 (c)
    refine a_iload_n 1 rfl rfl dX6_has_4 ?_
    refine a_aload_n 0 rfl rfl dX6_has_5 ?_
    refine r_gI fo_RX6_15_6 dX6_has_6 H (fun x1 H => ?_)
    refine a_icmp_ge (tgt := 16) dX6_has_9 (by decide) (fun c => ?_) (fun c => ?_)
    · have H := H.1 (c)
      refine a_iconst (v := (0 : Int32)) (by decide) dX6_has_16 ?_
      exact r_retz rfl bl_0 dX6_has_17 H
    · have H := H.2 (c)
      refine a_iconst (v := (1 : Int32)) (by decide) dX6_has_12 ?_
      refine a_goto (tgt := 17) dX6_has_13 (by decide) ?_
      exact r_retz rfl bl_1 dX6_has_17 H
def f_X11_refusePlace (v0 : Nat) (v1 : Nat) (v2 : Int32) (v3 : Int32) (h : AH) (Q : Int32 → AH → Prop) : Prop :=
  isO h v0 11 ∧ f_X11_refuseMissing v0 v1 v2 h (fun x1 h2 => ((x1 = 0 → lQ h2 v1 2 v2 (fun a3 => isO h2 a3 6 ∧ f_X6_has a3 v3 h2 (fun x4 h5 => ((x4 = 0 → isO h5 v0 11 ∧ f_X11_found v0 (2 : Int32) h5 (fun x6 h7 => Q x6 h7)) ∧ (¬ (x4 = 0) → Q (0 : Int32) h5))))) ∧ (¬ (x1 = 0) → Q x1 h2)))
set_option maxRecDepth 100000 in
set_option maxHeartbeats 4000000 in
theorem s_X11_refusePlace {o : Om} {v0 : Nat} {v1 : Nat} {v2 : Int32} {v3 : Int32} {h : AH} {Q : Int32 → AH → Prop} (H : f_X11_refusePlace v0 v1 v2 v3 h Q) : MQ' o kX11_refusePlace [.ref v0, .ref v1, .int v2, .int v3] h (qI Q) := by
  refine MQ'.of (by decide +kernel) (Nat.le_of_ble_eq_true rfl) ?_
  show AQ o kX11_refusePlace h 0 [(0, .ref v0), (1, .ref v1), (2, .int v2), (3, .int v3)] [] (qI Q)
  refine a_aload_n 0 rfl rfl dX11_refusePlace_0 ?_
  refine a_aload_n 1 rfl rfl dX11_refusePlace_1 ?_
  refine a_iload_n 2 rfl rfl dX11_refusePlace_2 ?_
  refine r_Vi (q := (RX11, TX11, 16)) (av := [.ref v1, .int v2]) (rest := []) rfl rfl okX11_refuseMissing H.1 rfl rfl wd283 wd285 wp2 ⟨Nat.le_of_ble_eq_true rfl, Nat.le_of_ble_eq_true rfl⟩ (Nat.le_of_ble_eq_true rfl) dX11_refusePlace_3 (s_X11_refuseMissing H.2) (fun x1 h2 H => ?_)
  refine a_istore (lv1 := [(0, .ref v0), (1, .ref v1), (2, .int v2), (3, .int v3), (4, .int x1)]) [1, 2, 3, 4, 0] (by decide) rfl dX11_refusePlace_6 ?_
  refine a_iload 4 rfl dX11_refusePlace_8 ?_
  refine a_if_eq (tgt := 16) dX11_refusePlace_10 (by decide) (fun c => ?_) (fun c => ?_)
  · have H := H.1 (c)
    refine a_aload_n 1 rfl rfl dX11_refusePlace_16 ?_
    refine a_iload_n 2 rfl rfl dX11_refusePlace_17 ?_
    refine r_lQ (by decide) dX11_refusePlace_18 H (fun a3 H => ?_)
    refine a_iload_n 3 rfl rfl dX11_refusePlace_19 ?_
    refine r_Vi (q := (RX6, TX6, 2)) (av := [.int v3]) (rest := []) rfl rfl okX6_has H.1 rfl rfl wd291 wd292 wd293 ⟨Nat.le_of_ble_eq_true rfl, Nat.le_of_ble_eq_true rfl⟩ (Nat.le_of_ble_eq_true rfl) dX11_refusePlace_20 (s_X6_has H.2) (fun x4 h5 H => ?_)
    refine a_if_eq (tgt := 30) dX11_refusePlace_23 (by decide) (fun c => ?_) (fun c => ?_)
    · have H := H.1 (c)
      refine a_aload_n 0 rfl rfl dX11_refusePlace_30 ?_
      refine a_iconst (v := (2 : Int32)) (by decide) dX11_refusePlace_31 ?_
      refine r_Vi (q := (RX11, TX11, 16)) (av := [.int (2 : Int32)]) (rest := []) rfl rfl okX11_found H.1 rfl rfl wd260 wd262 wp0 ⟨Nat.le_of_ble_eq_true rfl, Nat.le_of_ble_eq_true rfl⟩ (Nat.le_of_ble_eq_true rfl) dX11_refusePlace_32 (s_X11_found H.2) (fun x6 h7 H => ?_)
      exact r_reti rfl dX11_refusePlace_35 H
    · have H := H.2 (c)
      refine a_iconst (v := (0 : Int32)) (by decide) dX11_refusePlace_26 ?_
      refine a_goto (tgt := 35) dX11_refusePlace_27 (by decide) ?_
      exact r_reti rfl dX11_refusePlace_35 H
  · have H := H.2 (c)
    refine a_iload 4 rfl dX11_refusePlace_13 ?_
    exact r_reti rfl dX11_refusePlace_15 H
def f_X6_get (v0 : Nat) (v1 : Int32) (h : AH) (Q : Int32 → AH → Prop) : Prop :=
  isO h v0 6 ∧ f_X6_has v0 v1 h (fun x1 h2 => ((x1 = 0 → Q (0 : Int32) h2) ∧ (¬ (x1 = 0) → gR h2 v0 6 0 (fun a3 => lI h2 a3 v1 (fun x4 => Q x4 h2)))))
set_option maxRecDepth 100000 in
set_option maxHeartbeats 4000000 in
theorem s_X6_get {o : Om} {v0 : Nat} {v1 : Int32} {h : AH} {Q : Int32 → AH → Prop} (H : f_X6_get v0 v1 h Q) : MQ' o kX6_get [.ref v0, .int v1] h (qI Q) := by
  refine MQ'.of (by decide +kernel) (Nat.le_of_ble_eq_true rfl) ?_
  show AQ o kX6_get h 0 [(0, .ref v0), (1, .int v1)] [] (qI Q)
  refine a_aload_n 0 rfl rfl dX6_get_0 ?_
  refine a_iload_n 1 rfl rfl dX6_get_1 ?_
  refine r_Vi (q := (RX6, TX6, 2)) (av := [.int v1]) (rest := []) rfl rfl okX6_has H.1 rfl rfl wd299 wd292 wd293 ⟨Nat.le_of_ble_eq_true rfl, Nat.le_of_ble_eq_true rfl⟩ (Nat.le_of_ble_eq_true rfl) dX6_get_2 (s_X6_has H.2) (fun x1 h2 H => ?_)
  refine a_if_eq (tgt := 17) dX6_get_5 (by decide) (fun c => ?_) (fun c => ?_)
  · have H := H.1 (c)
    refine a_iconst (v := (0 : Int32)) (by decide) dX6_get_17 ?_
    exact r_reti rfl dX6_get_18 H
  · have H := H.2 (c)
    refine a_aload_n 0 rfl rfl dX6_get_8 ?_
    refine r_gR fo_RX6_9_6 dX6_get_9 H (fun a3 H => ?_)
    refine a_iload_n 1 rfl rfl dX6_get_12 ?_
    refine r_lI dX6_get_13 H (fun x4 H => ?_)
    refine a_goto (tgt := 18) dX6_get_14 (by decide) ?_
    exact r_reti rfl dX6_get_18 H
def f_X6_set (v0 : Nat) (v1 : Int32) (v2 : Int32) (h : AH) (Q : AH → Prop) : Prop :=
  isO h v0 6 ∧ f_X6_has v0 v1 h (fun x1 h2 => ((x1 = 0 → Q h2) ∧ (¬ (x1 = 0) → gR h2 v0 6 0 (fun a3 => sI h2 a3 v1 v2 (fun h4 => Q h4)))))
set_option maxRecDepth 100000 in
set_option maxHeartbeats 4000000 in
theorem s_X6_set {o : Om} {v0 : Nat} {v1 : Int32} {v2 : Int32} {h : AH} {Q : AH → Prop} (H : f_X6_set v0 v1 v2 h Q) : MQ' o kX6_set [.ref v0, .int v1, .int v2] h (qV Q) := by
  refine MQ'.of (by decide +kernel) (Nat.le_of_ble_eq_true rfl) ?_
  show AQ o kX6_set h 0 [(0, .ref v0), (1, .int v1), (2, .int v2)] [] (qV Q)
  refine a_aload_n 0 rfl rfl dX6_set_0 ?_
  refine a_iload_n 1 rfl rfl dX6_set_1 ?_
  refine r_Vi (q := (RX6, TX6, 2)) (av := [.int v1]) (rest := []) rfl rfl okX6_has H.1 rfl rfl wd299 wd292 wd293 ⟨Nat.le_of_ble_eq_true rfl, Nat.le_of_ble_eq_true rfl⟩ (Nat.le_of_ble_eq_true rfl) dX6_set_2 (s_X6_has H.2) (fun x1 h2 H => ?_)
  refine a_if_eq (tgt := 15) dX6_set_5 (by decide) (fun c => ?_) (fun c => ?_)
  · have H := H.1 (c)
    exact r_retv rfl dX6_set_15 H
  · have H := H.2 (c)
    refine a_aload_n 0 rfl rfl dX6_set_8 ?_
    refine r_gR fo_RX6_9_6 dX6_set_9 H (fun a3 H => ?_)
    refine a_iload_n 1 rfl rfl dX6_set_12 ?_
    refine a_iload_n 2 rfl rfl dX6_set_13 ?_
    refine r_sI dX6_set_14 H (fun h4 H => ?_)
    exact r_retv rfl dX6_set_15 H
def f_X11_lay (v0 : Nat) (v1 : Int32) (v2 : Int32) (v3 : Int32) (h : AH) (Q : Int32 → AH → Prop) : Prop :=
  gR h v0 11 0 (fun a1 => isO h v0 11 ∧ f_X11_refusePlace v0 a1 v1 v2 h (fun x2 h3 => ((x2 = 0 → gR h3 v0 11 0 (fun a4 => lQ h3 a4 2 v1 (fun a5 => isO h3 a5 6 ∧ f_X6_get a5 v2 h3 (fun x6 h7 => pF h7 v0 11 12 (.int x6) (fun h8 => gR h8 v0 11 0 (fun a9 => lQ h8 a9 2 v1 (fun a10 => isO h8 a10 6 ∧ f_X6_set a10 v2 v3 h8 (fun h11 => Q (1 : Int32) h11)))))))) ∧ (¬ (x2 = 0) → Q x2 h3))))
set_option maxRecDepth 100000 in
set_option maxHeartbeats 4000000 in
theorem s_X11_lay {o : Om} {v0 : Nat} {v1 : Int32} {v2 : Int32} {v3 : Int32} {h : AH} {Q : Int32 → AH → Prop} (H : f_X11_lay v0 v1 v2 v3 h Q) : MQ' o kX11_lay [.ref v0, .int v1, .int v2, .int v3] h (qI Q) := by
  refine MQ'.of (by decide +kernel) (Nat.le_of_ble_eq_true rfl) ?_
  show AQ o kX11_lay h 0 [(0, .ref v0), (1, .int v1), (2, .int v2), (3, .int v3)] [] (qI Q)
  refine a_aload_n 0 rfl rfl dX11_lay_0 ?_
  refine a_aload_n 0 rfl rfl dX11_lay_1 ?_
  refine r_gR fo_RX11_11_11 dX11_lay_2 H (fun a1 H => ?_)
  refine a_iload_n 1 rfl rfl dX11_lay_5 ?_
  refine a_iload_n 2 rfl rfl dX11_lay_6 ?_
  refine r_Vi (q := (RX11, TX11, 16)) (av := [.ref a1, .int v1, .int v2]) (rest := []) rfl rfl okX11_refusePlace H.1 rfl rfl wd279 wd281 wp1 ⟨Nat.le_of_ble_eq_true rfl, Nat.le_of_ble_eq_true rfl⟩ (Nat.le_of_ble_eq_true rfl) dX11_lay_7 (s_X11_refusePlace H.2) (fun x2 h3 H => ?_)
  refine a_istore (lv1 := [(0, .ref v0), (1, .int v1), (2, .int v2), (3, .int v3), (4, .int x2)]) [1, 2, 3, 4, 0] (by decide) rfl dX11_lay_10 ?_
  refine a_iload 4 rfl dX11_lay_12 ?_
  refine a_if_eq (tgt := 20) dX11_lay_14 (by decide) (fun c => ?_) (fun c => ?_)
  · have H := H.1 (c)
    refine a_aload_n 0 rfl rfl dX11_lay_20 ?_
    refine a_aload_n 0 rfl rfl dX11_lay_21 ?_
    refine r_gR fo_RX11_11_11 dX11_lay_22 H (fun a4 H => ?_)
    refine a_iload_n 1 rfl rfl dX11_lay_25 ?_
    refine r_lQ (by decide) dX11_lay_26 H (fun a5 H => ?_)
    refine a_iload_n 2 rfl rfl dX11_lay_27 ?_
    refine r_Vi (q := (RX6, TX6, 2)) (av := [.int v2]) (rest := [.ref v0]) rfl rfl okX6_get H.1 rfl rfl wd295 wd296 wd297 ⟨Nat.le_of_ble_eq_true rfl, Nat.le_of_ble_eq_true rfl⟩ (Nat.le_of_ble_eq_true rfl) dX11_lay_28 (s_X6_get H.2) (fun x6 h7 H => ?_)
    refine r_pF (po_RX11_44_11 _) (fun _ => rfl) (fun _ => rfl) dX11_lay_31 H (fun h8 H => ?_)
    refine a_aload_n 0 rfl rfl dX11_lay_34 ?_
    refine r_gR fo_RX11_11_11 dX11_lay_35 H (fun a9 H => ?_)
    refine a_iload_n 1 rfl rfl dX11_lay_38 ?_
    refine r_lQ (by decide) dX11_lay_39 H (fun a10 H => ?_)
    refine a_iload_n 2 rfl rfl dX11_lay_40 ?_
    refine a_iload_n 3 rfl rfl dX11_lay_41 ?_
    refine r_Vv (q := (RX6, TX6, 2)) (av := [.int v2, .int v3]) (rest := []) rfl rfl okX6_set H.1 rfl rfl wd300 wd301 wd302 ⟨Nat.le_of_ble_eq_true rfl, Nat.le_of_ble_eq_true rfl⟩ (Nat.le_of_ble_eq_true rfl) dX11_lay_42 (s_X6_set H.2) (fun h11 H => ?_)
    refine a_iconst (v := (1 : Int32)) (by decide) dX11_lay_45 ?_
    exact r_reti rfl dX11_lay_46 H
  · have H := H.2 (c)
    refine a_iload 4 rfl dX11_lay_17 ?_
    exact r_reti rfl dX11_lay_19 H
def f_X12_lacks (v0 : Nat) (v1 : Int32) (v2 : Int32) (h : AH) (Q : Int32 → AH → Prop) : Prop :=
  gR h v0 12 0 (fun a1 => lI h a1 v1 (fun x2 => ((0 ≤ x2 → gR h v0 12 0 (fun a3 => lI h a3 v1 (fun x4 => f_X12_in v2.toInt64 (0 : Int64) ((x4 - (1 : Int32)).toInt64) h (fun x5 h6 => ((x5 = 0 → Q (2 : Int32) h6) ∧ (¬ (x5 = 0) → Q (0 : Int32) h6)))))) ∧ (¬ (0 ≤ x2) → Q (1 : Int32) h))))
set_option maxRecDepth 100000 in
set_option maxHeartbeats 4000000 in
theorem s_X12_lacks {o : Om} {v0 : Nat} {v1 : Int32} {v2 : Int32} {h : AH} {Q : Int32 → AH → Prop} (H : f_X12_lacks v0 v1 v2 h Q) : MQ' o kX12_lacks [.ref v0, .int v1, .int v2] h (qI Q) := by
  refine MQ'.of (by decide +kernel) (Nat.le_of_ble_eq_true rfl) ?_
  show AQ o kX12_lacks h 0 [(0, .ref v0), (1, .int v1), (2, .int v2)] [] (qI Q)
  refine a_aload_n 0 rfl rfl dX12_lacks_0 ?_
  refine r_gR fo_RX12_7_12 dX12_lacks_1 H (fun a1 H => ?_)
  refine a_iload_n 1 rfl rfl dX12_lacks_4 ?_
  refine r_lI dX12_lacks_5 H (fun x2 H => ?_)
  refine a_if_ge (tgt := 13) dX12_lacks_6 (by decide) (fun c => ?_) (fun c => ?_)
  · have H := H.1 (c)
    refine a_iload_n 2 rfl rfl dX12_lacks_13 ?_
    refine a_i2l dX12_lacks_14 ?_
    refine a_lconst (v := (0 : Int64)) (by decide) dX12_lacks_15 ?_
    refine a_aload_n 0 rfl rfl dX12_lacks_16 ?_
    refine r_gR fo_RX12_7_12 dX12_lacks_17 H (fun a3 H => ?_)
    refine a_iload_n 1 rfl rfl dX12_lacks_20 ?_
    refine r_lI dX12_lacks_21 H (fun x4 H => ?_)
    refine a_iconst (v := (1 : Int32)) (by decide) dX12_lacks_22 ?_
    refine a_isub dX12_lacks_23 ?_
    refine a_i2l dX12_lacks_24 ?_
    refine r_Si (av := [.long v2.toInt64, .long (0 : Int64), .long ((x4 - (1 : Int32)).toInt64)]) (rest := []) rfl rfl okX12_in wd1188 wd1189 ⟨Nat.le_of_ble_eq_true rfl, Nat.le_of_ble_eq_true rfl⟩ (Nat.le_of_ble_eq_true rfl) dX12_lacks_25 (s_X12_in H) (fun x5 h6 H => ?_)
    refine a_if_eq (tgt := 35) dX12_lacks_28 (by decide) (fun c => ?_) (fun c => ?_)
    · have H := H.1 (c)
      refine a_iconst (v := (2 : Int32)) (by decide) dX12_lacks_35 ?_
      exact r_reti rfl dX12_lacks_36 H
    · have H := H.2 (c)
      refine a_iconst (v := (0 : Int32)) (by decide) dX12_lacks_31 ?_
      refine a_goto (tgt := 36) dX12_lacks_32 (by decide) ?_
      exact r_reti rfl dX12_lacks_36 H
  · have H := H.2 (c)
    refine a_iconst (v := (1 : Int32)) (by decide) dX12_lacks_9 ?_
    refine a_goto (tgt := 36) dX12_lacks_10 (by decide) ?_
    exact r_reti rfl dX12_lacks_36 H
def f_X12_lay (v0 : Nat) (v1 : Int32) (v2 : Int32) (v3 : Int32) (h : AH) (Q : Int32 → AH → Prop) : Prop :=
  f_X12_isRow v1 h (fun x1 h2 => ((¬ (x1 = 0) → isO h2 v0 12 ∧ f_X12_lacks v0 v1 v2 h2 (fun x3 h4 => ((x3 ≤ 0 → gR h4 v0 12 1 (fun a5 => lI h4 a5 (((60 : Int32) * v1) + v2) (fun x6 => pF h4 v0 12 4 (.int x6) (fun h7 => gR h7 v0 12 1 (fun a8 => sI h7 a8 (((60 : Int32) * v1) + v2) v3 (fun h9 => Q (1 : Int32) h9)))))) ∧ (¬ (x3 ≤ 0) → isO h4 v0 12 ∧ f_X12_find v0 x3 h4 (fun x10 h11 => Q x10 h11))))) ∧ (x1 = 0 → Q (-1 : Int32) h2)))
set_option maxRecDepth 100000 in
set_option maxHeartbeats 4000000 in
theorem s_X12_lay {o : Om} {v0 : Nat} {v1 : Int32} {v2 : Int32} {v3 : Int32} {h : AH} {Q : Int32 → AH → Prop} (H : f_X12_lay v0 v1 v2 v3 h Q) : MQ' o kX12_lay [.ref v0, .int v1, .int v2, .int v3] h (qI Q) := by
  refine MQ'.of (by decide +kernel) (Nat.le_of_ble_eq_true rfl) ?_
  show AQ o kX12_lay h 0 [(0, .ref v0), (1, .int v1), (2, .int v2), (3, .int v3)] [] (qI Q)
  refine a_iload_n 1 rfl rfl dX12_lay_0 ?_
  refine r_Si (av := [.int v1]) (rest := []) rfl rfl okX12_isRow wd1184 wd1185 ⟨Nat.le_of_ble_eq_true rfl, Nat.le_of_ble_eq_true rfl⟩ (Nat.le_of_ble_eq_true rfl) dX12_lay_1 (s_X12_isRow H) (fun x1 h2 H => ?_)
  refine a_if_ne (tgt := 9) dX12_lay_4 (by decide) (fun c => ?_) (fun c => ?_)
  · have H := H.1 (c)
    refine a_aload_n 0 rfl rfl dX12_lay_9 ?_
    refine a_iload_n 1 rfl rfl dX12_lay_10 ?_
    refine a_iload_n 2 rfl rfl dX12_lay_11 ?_
    refine r_Vi (q := (RX12, TX12, 51)) (av := [.int v1, .int v2]) (rest := []) rfl rfl okX12_lacks H.1 rfl rfl wd1203 wd1205 wp33 ⟨Nat.le_of_ble_eq_true rfl, Nat.le_of_ble_eq_true rfl⟩ (Nat.le_of_ble_eq_true rfl) dX12_lay_12 (s_X12_lacks H.2) (fun x3 h4 H => ?_)
    refine a_istore (lv1 := [(0, .ref v0), (1, .int v1), (2, .int v2), (3, .int v3), (4, .int x3)]) [1, 2, 3, 4, 0] (by decide) rfl dX12_lay_15 ?_
    refine a_iload 4 rfl dX12_lay_17 ?_
    refine a_if_le (tgt := 29) dX12_lay_19 (by decide) (fun c => ?_) (fun c => ?_)
    · have H := H.1 (c)
      refine a_aload_n 0 rfl rfl dX12_lay_29 ?_
      refine a_aload_n 0 rfl rfl dX12_lay_30 ?_
      refine r_gR fo_RX12_13_12 dX12_lay_31 H (fun a5 H => ?_)
      refine a_bipush (v := (60 : Int32)) (by decide) dX12_lay_34 ?_
      refine a_iload_n 1 rfl rfl dX12_lay_36 ?_
      refine a_imul dX12_lay_37 ?_
      refine a_iload_n 2 rfl rfl dX12_lay_38 ?_
      refine a_iadd dX12_lay_39 ?_
      refine r_lI dX12_lay_40 H (fun x6 H => ?_)
      refine r_pF (po_RX12_104_12 _) (fun _ => rfl) (fun _ => rfl) dX12_lay_41 H (fun h7 H => ?_)
      refine a_aload_n 0 rfl rfl dX12_lay_44 ?_
      refine r_gR fo_RX12_13_12 dX12_lay_45 H (fun a8 H => ?_)
      refine a_bipush (v := (60 : Int32)) (by decide) dX12_lay_48 ?_
      refine a_iload_n 1 rfl rfl dX12_lay_50 ?_
      refine a_imul dX12_lay_51 ?_
      refine a_iload_n 2 rfl rfl dX12_lay_52 ?_
      refine a_iadd dX12_lay_53 ?_
      refine a_iload_n 3 rfl rfl dX12_lay_54 ?_
      refine r_sI dX12_lay_55 H (fun h9 H => ?_)
      refine a_iconst (v := (1 : Int32)) (by decide) dX12_lay_56 ?_
      exact r_reti rfl dX12_lay_57 H
    · have H := H.2 (c)
      refine a_aload_n 0 rfl rfl dX12_lay_22 ?_
      refine a_iload 4 rfl dX12_lay_23 ?_
      refine r_Vi (q := (RX12, TX12, 51)) (av := [.int x3]) (rest := []) rfl rfl okX12_find H.1 rfl rfl wd1191 wd1193 wp31 ⟨Nat.le_of_ble_eq_true rfl, Nat.le_of_ble_eq_true rfl⟩ (Nat.le_of_ble_eq_true rfl) dX12_lay_25 (s_X12_find H.2) (fun x10 h11 H => ?_)
      exact r_reti rfl dX12_lay_28 H
  · have H := H.2 (c)
    refine a_iconst (v := (-1 : Int32)) (by decide) dX12_lay_7 ?_
    exact r_reti rfl dX12_lay_8 H
def f_X11_at (v0 : Nat) (v1 : Int32) (v2 : Int32) (h : AH) (Q : Int32 → AH → Prop) : Prop :=
  gR h v0 11 0 (fun a1 => isO h v0 11 ∧ f_X11_refusePlace v0 a1 v1 v2 h (fun x2 h3 => ((x2 = 0 → gR h3 v0 11 0 (fun a4 => lQ h3 a4 2 v1 (fun a5 => isO h3 a5 6 ∧ f_X6_get a5 v2 h3 (fun x6 h7 => pF h7 v0 11 12 (.int x6) (fun h8 => Q (1 : Int32) h8))))) ∧ (¬ (x2 = 0) → Q x2 h3))))
set_option maxRecDepth 100000 in
set_option maxHeartbeats 4000000 in
theorem s_X11_at {o : Om} {v0 : Nat} {v1 : Int32} {v2 : Int32} {h : AH} {Q : Int32 → AH → Prop} (H : f_X11_at v0 v1 v2 h Q) : MQ' o kX11_at [.ref v0, .int v1, .int v2] h (qI Q) := by
  refine MQ'.of (by decide +kernel) (Nat.le_of_ble_eq_true rfl) ?_
  show AQ o kX11_at h 0 [(0, .ref v0), (1, .int v1), (2, .int v2)] [] (qI Q)
  refine a_aload_n 0 rfl rfl dX11_at_0 ?_
  refine a_aload_n 0 rfl rfl dX11_at_1 ?_
  refine r_gR fo_RX11_11_11 dX11_at_2 H (fun a1 H => ?_)
  refine a_iload_n 1 rfl rfl dX11_at_5 ?_
  refine a_iload_n 2 rfl rfl dX11_at_6 ?_
  refine r_Vi (q := (RX11, TX11, 16)) (av := [.ref a1, .int v1, .int v2]) (rest := []) rfl rfl okX11_refusePlace H.1 rfl rfl wd279 wd281 wp1 ⟨Nat.le_of_ble_eq_true rfl, Nat.le_of_ble_eq_true rfl⟩ (Nat.le_of_ble_eq_true rfl) dX11_at_7 (s_X11_refusePlace H.2) (fun x2 h3 H => ?_)
  refine a_istore_n (lv1 := [(0, .ref v0), (1, .int v1), (2, .int v2), (3, .int x2)]) rfl [1, 2, 3, 0] (by decide) rfl dX11_at_10 ?_
  refine a_iload_n 3 rfl rfl dX11_at_11 ?_
  refine a_if_eq (tgt := 17) dX11_at_12 (by decide) (fun c => ?_) (fun c => ?_)
  · have H := H.1 (c)
    refine a_aload_n 0 rfl rfl dX11_at_17 ?_
    refine a_aload_n 0 rfl rfl dX11_at_18 ?_
    refine r_gR fo_RX11_11_11 dX11_at_19 H (fun a4 H => ?_)
    refine a_iload_n 1 rfl rfl dX11_at_22 ?_
    refine r_lQ (by decide) dX11_at_23 H (fun a5 H => ?_)
    refine a_iload_n 2 rfl rfl dX11_at_24 ?_
    refine r_Vi (q := (RX6, TX6, 2)) (av := [.int v2]) (rest := [.ref v0]) rfl rfl okX6_get H.1 rfl rfl wd295 wd296 wd297 ⟨Nat.le_of_ble_eq_true rfl, Nat.le_of_ble_eq_true rfl⟩ (Nat.le_of_ble_eq_true rfl) dX11_at_25 (s_X6_get H.2) (fun x6 h7 H => ?_)
    refine r_pF (po_RX11_44_11 _) (fun _ => rfl) (fun _ => rfl) dX11_at_28 H (fun h8 H => ?_)
    refine a_iconst (v := (1 : Int32)) (by decide) dX11_at_31 ?_
    exact r_reti rfl dX11_at_32 H
  · have H := H.2 (c)
    refine a_iload_n 3 rfl rfl dX11_at_15 ?_
    exact r_reti rfl dX11_at_16 H
def f_X12_tells (v0 : Nat) (v1 : Int32) (h : AH) (Q : Int32 → AH → Prop) : Prop :=
  pF h v0 12 4 (.int v1) (fun h1 => Q (1 : Int32) h1)
set_option maxRecDepth 100000 in
set_option maxHeartbeats 4000000 in
theorem s_X12_tells {o : Om} {v0 : Nat} {v1 : Int32} {h : AH} {Q : Int32 → AH → Prop} (H : f_X12_tells v0 v1 h Q) : MQ' o kX12_tells [.ref v0, .int v1] h (qI Q) := by
  refine MQ'.of (by decide +kernel) (Nat.le_of_ble_eq_true rfl) ?_
  show AQ o kX12_tells h 0 [(0, .ref v0), (1, .int v1)] [] (qI Q)
  refine a_aload_n 0 rfl rfl dX12_tells_0 ?_
  refine a_iload_n 1 rfl rfl dX12_tells_1 ?_
  refine r_pF (po_RX12_104_12 _) (fun _ => rfl) (fun _ => rfl) dX12_tells_2 H (fun h1 H => ?_)
  refine a_iconst (v := (1 : Int32)) (by decide) dX12_tells_5 ?_
  exact r_reti rfl dX12_tells_6 H
def f_X12_at (v0 : Nat) (v1 : Int32) (v2 : Int32) (h : AH) (Q : Int32 → AH → Prop) : Prop :=
  f_X12_isRow v1 h (fun x1 h2 => ((¬ (x1 = 0) → isO h2 v0 12 ∧ f_X12_lacks v0 v1 v2 h2 (fun x3 h4 => ((x3 ≤ 0 → gR h4 v0 12 1 (fun a5 => lI h4 a5 (((60 : Int32) * v1) + v2) (fun x6 => isO h4 v0 12 ∧ f_X12_tells v0 x6 h4 (fun x7 h8 => Q x7 h8)))) ∧ (¬ (x3 ≤ 0) → isO h4 v0 12 ∧ f_X12_find v0 x3 h4 (fun x9 h10 => Q x9 h10))))) ∧ (x1 = 0 → Q (-1 : Int32) h2)))
set_option maxRecDepth 100000 in
set_option maxHeartbeats 4000000 in
theorem s_X12_at {o : Om} {v0 : Nat} {v1 : Int32} {v2 : Int32} {h : AH} {Q : Int32 → AH → Prop} (H : f_X12_at v0 v1 v2 h Q) : MQ' o kX12_at [.ref v0, .int v1, .int v2] h (qI Q) := by
  refine MQ'.of (by decide +kernel) (Nat.le_of_ble_eq_true rfl) ?_
  show AQ o kX12_at h 0 [(0, .ref v0), (1, .int v1), (2, .int v2)] [] (qI Q)
  refine a_iload_n 1 rfl rfl dX12_at_0 ?_
  refine r_Si (av := [.int v1]) (rest := []) rfl rfl okX12_isRow wd1184 wd1185 ⟨Nat.le_of_ble_eq_true rfl, Nat.le_of_ble_eq_true rfl⟩ (Nat.le_of_ble_eq_true rfl) dX12_at_1 (s_X12_isRow H) (fun x1 h2 H => ?_)
  refine a_if_ne (tgt := 9) dX12_at_4 (by decide) (fun c => ?_) (fun c => ?_)
  · have H := H.1 (c)
    refine a_aload_n 0 rfl rfl dX12_at_9 ?_
    refine a_iload_n 1 rfl rfl dX12_at_10 ?_
    refine a_iload_n 2 rfl rfl dX12_at_11 ?_
    refine r_Vi (q := (RX12, TX12, 51)) (av := [.int v1, .int v2]) (rest := []) rfl rfl okX12_lacks H.1 rfl rfl wd1203 wd1205 wp33 ⟨Nat.le_of_ble_eq_true rfl, Nat.le_of_ble_eq_true rfl⟩ (Nat.le_of_ble_eq_true rfl) dX12_at_12 (s_X12_lacks H.2) (fun x3 h4 H => ?_)
    refine a_istore_n (lv1 := [(0, .ref v0), (1, .int v1), (2, .int v2), (3, .int x3)]) rfl [1, 2, 3, 0] (by decide) rfl dX12_at_15 ?_
    refine a_iload_n 3 rfl rfl dX12_at_16 ?_
    refine a_if_le (tgt := 28) dX12_at_17 (by decide) (fun c => ?_) (fun c => ?_)
    · have H := H.1 (c)
      refine a_aload_n 0 rfl rfl dX12_at_28 ?_
      refine a_aload_n 0 rfl rfl dX12_at_29 ?_
      refine r_gR fo_RX12_13_12 dX12_at_30 H (fun a5 H => ?_)
      refine a_bipush (v := (60 : Int32)) (by decide) dX12_at_33 ?_
      refine a_iload_n 1 rfl rfl dX12_at_35 ?_
      refine a_imul dX12_at_36 ?_
      refine a_iload_n 2 rfl rfl dX12_at_37 ?_
      refine a_iadd dX12_at_38 ?_
      refine r_lI dX12_at_39 H (fun x6 H => ?_)
      refine r_Vi (q := (RX12, TX12, 51)) (av := [.int x6]) (rest := []) rfl rfl okX12_tells H.1 rfl rfl wd1211 wd1213 wp34 ⟨Nat.le_of_ble_eq_true rfl, Nat.le_of_ble_eq_true rfl⟩ (Nat.le_of_ble_eq_true rfl) dX12_at_40 (s_X12_tells H.2) (fun x7 h8 H => ?_)
      exact r_reti rfl dX12_at_43 H
    · have H := H.2 (c)
      refine a_aload_n 0 rfl rfl dX12_at_20 ?_
      refine a_iload_n 3 rfl rfl dX12_at_21 ?_
      refine r_Vi (q := (RX12, TX12, 51)) (av := [.int x3]) (rest := []) rfl rfl okX12_find H.1 rfl rfl wd1191 wd1193 wp31 ⟨Nat.le_of_ble_eq_true rfl, Nat.le_of_ble_eq_true rfl⟩ (Nat.le_of_ble_eq_true rfl) dX12_at_22 (s_X12_find H.2) (fun x9 h10 H => ?_)
      refine a_goto (tgt := 43) dX12_at_25 (by decide) ?_
      exact r_reti rfl dX12_at_43 H
  · have H := H.2 (c)
    refine a_iconst (v := (-1 : Int32)) (by decide) dX12_at_7 ?_
    exact r_reti rfl dX12_at_8 H
def f_X6_remove (v0 : Nat) (h : AH) (Q : AH → Prop) : Prop :=
  pF h v0 6 1 (.int (-1 : Int32)) (fun h1 => Q h1)
set_option maxRecDepth 100000 in
set_option maxHeartbeats 4000000 in
theorem s_X6_remove {o : Om} {v0 : Nat} {h : AH} {Q : AH → Prop} (H : f_X6_remove v0 h Q) : MQ' o kX6_remove [.ref v0] h (qV Q) := by
  refine MQ'.of (by decide +kernel) (Nat.le_of_ble_eq_true rfl) ?_
  show AQ o kX6_remove h 0 [(0, .ref v0)] [] (qV Q)
  refine a_aload_n 0 rfl rfl dX6_remove_0 ?_
  refine a_iconst (v := (-1 : Int32)) (by decide) dX6_remove_1 ?_
  refine r_pF (po_RX6_15_6 _) (fun _ => rfl) (fun _ => rfl) dX6_remove_2 H (fun h1 H => ?_)
  exact r_retv rfl dX6_remove_5 H
def f_X11_tear (v0 : Nat) (v1 : Int32) (h : AH) (Q : Int32 → AH → Prop) : Prop :=
  gR h v0 11 0 (fun a1 => isO h v0 11 ∧ f_X11_refuseMissing v0 a1 v1 h (fun x2 h3 => ((x2 = 0 → gR h3 v0 11 0 (fun a4 => lQ h3 a4 2 v1 (fun a5 => isO h3 a5 6 ∧ f_X6_remove a5  h3 (fun h6 => Q (1 : Int32) h6)))) ∧ (¬ (x2 = 0) → Q x2 h3))))
set_option maxRecDepth 100000 in
set_option maxHeartbeats 4000000 in
theorem s_X11_tear {o : Om} {v0 : Nat} {v1 : Int32} {h : AH} {Q : Int32 → AH → Prop} (H : f_X11_tear v0 v1 h Q) : MQ' o kX11_tear [.ref v0, .int v1] h (qI Q) := by
  refine MQ'.of (by decide +kernel) (Nat.le_of_ble_eq_true rfl) ?_
  show AQ o kX11_tear h 0 [(0, .ref v0), (1, .int v1)] [] (qI Q)
  refine a_aload_n 0 rfl rfl dX11_tear_0 ?_
  refine a_aload_n 0 rfl rfl dX11_tear_1 ?_
  refine r_gR fo_RX11_11_11 dX11_tear_2 H (fun a1 H => ?_)
  refine a_iload_n 1 rfl rfl dX11_tear_5 ?_
  refine r_Vi (q := (RX11, TX11, 16)) (av := [.ref a1, .int v1]) (rest := []) rfl rfl okX11_refuseMissing H.1 rfl rfl wd283 wd285 wp2 ⟨Nat.le_of_ble_eq_true rfl, Nat.le_of_ble_eq_true rfl⟩ (Nat.le_of_ble_eq_true rfl) dX11_tear_6 (s_X11_refuseMissing H.2) (fun x2 h3 H => ?_)
  refine a_istore_n (lv1 := [(0, .ref v0), (1, .int v1), (2, .int x2)]) rfl [1, 2, 0] (by decide) rfl dX11_tear_9 ?_
  refine a_iload_n 2 rfl rfl dX11_tear_10 ?_
  refine a_if_eq (tgt := 16) dX11_tear_11 (by decide) (fun c => ?_) (fun c => ?_)
  · have H := H.1 (c)
    refine a_aload_n 0 rfl rfl dX11_tear_16 ?_
    refine r_gR fo_RX11_11_11 dX11_tear_17 H (fun a4 H => ?_)
    refine a_iload_n 1 rfl rfl dX11_tear_20 ?_
    refine r_lQ (by decide) dX11_tear_21 H (fun a5 H => ?_)
    refine r_Vv (q := (RX6, TX6, 2)) (av := []) (rest := []) rfl rfl okX6_remove H.1 rfl rfl wd312 wd313 wd314 ⟨Nat.le_of_ble_eq_true rfl, Nat.le_of_ble_eq_true rfl⟩ (Nat.le_of_ble_eq_true rfl) dX11_tear_22 (s_X6_remove H.2) (fun h6 H => ?_)
    refine a_iconst (v := (1 : Int32)) (by decide) dX11_tear_25 ?_
    exact r_reti rfl dX11_tear_26 H
  · have H := H.2 (c)
    refine a_iload_n 2 rfl rfl dX11_tear_14 ?_
    exact r_reti rfl dX11_tear_15 H
def f_X12_tear (v0 : Nat) (v1 : Int32) (h : AH) (Q : Int32 → AH → Prop) : Prop :=
  f_X12_isRow v1 h (fun x1 h2 => ((¬ (x1 = 0) → gR h2 v0 12 0 (fun a3 => lI h2 a3 v1 (fun x4 => ((0 ≤ x4 → gR h2 v0 12 0 (fun a5 => sI h2 a5 v1 (-1 : Int32) (fun h6 => Q (1 : Int32) h6))) ∧ (¬ (0 ≤ x4) → isO h2 v0 12 ∧ f_X12_find v0 (1 : Int32) h2 (fun x7 h8 => Q x7 h8)))))) ∧ (x1 = 0 → Q (-1 : Int32) h2)))
set_option maxRecDepth 100000 in
set_option maxHeartbeats 4000000 in
theorem s_X12_tear {o : Om} {v0 : Nat} {v1 : Int32} {h : AH} {Q : Int32 → AH → Prop} (H : f_X12_tear v0 v1 h Q) : MQ' o kX12_tear [.ref v0, .int v1] h (qI Q) := by
  refine MQ'.of (by decide +kernel) (Nat.le_of_ble_eq_true rfl) ?_
  show AQ o kX12_tear h 0 [(0, .ref v0), (1, .int v1)] [] (qI Q)
  refine a_iload_n 1 rfl rfl dX12_tear_0 ?_
  refine r_Si (av := [.int v1]) (rest := []) rfl rfl okX12_isRow wd1184 wd1185 ⟨Nat.le_of_ble_eq_true rfl, Nat.le_of_ble_eq_true rfl⟩ (Nat.le_of_ble_eq_true rfl) dX12_tear_1 (s_X12_isRow H) (fun x1 h2 H => ?_)
  refine a_if_ne (tgt := 9) dX12_tear_4 (by decide) (fun c => ?_) (fun c => ?_)
  · have H := H.1 (c)
    refine a_aload_n 0 rfl rfl dX12_tear_9 ?_
    refine r_gR fo_RX12_7_12 dX12_tear_10 H (fun a3 H => ?_)
    refine a_iload_n 1 rfl rfl dX12_tear_13 ?_
    refine r_lI dX12_tear_14 H (fun x4 H => ?_)
    refine a_if_ge (tgt := 24) dX12_tear_15 (by decide) (fun c => ?_) (fun c => ?_)
    · have H := H.1 (c)
      refine a_aload_n 0 rfl rfl dX12_tear_24 ?_
      refine r_gR fo_RX12_7_12 dX12_tear_25 H (fun a5 H => ?_)
      refine a_iload_n 1 rfl rfl dX12_tear_28 ?_
      refine a_iconst (v := (-1 : Int32)) (by decide) dX12_tear_29 ?_
      refine r_sI dX12_tear_30 H (fun h6 H => ?_)
      refine a_iconst (v := (1 : Int32)) (by decide) dX12_tear_31 ?_
      exact r_reti rfl dX12_tear_32 H
    · have H := H.2 (c)
      refine a_aload_n 0 rfl rfl dX12_tear_18 ?_
      refine a_iconst (v := (1 : Int32)) (by decide) dX12_tear_19 ?_
      refine r_Vi (q := (RX12, TX12, 51)) (av := [.int (1 : Int32)]) (rest := []) rfl rfl okX12_find H.1 rfl rfl wd1191 wd1193 wp31 ⟨Nat.le_of_ble_eq_true rfl, Nat.le_of_ble_eq_true rfl⟩ (Nat.le_of_ble_eq_true rfl) dX12_tear_20 (s_X12_find H.2) (fun x7 h8 H => ?_)
      exact r_reti rfl dX12_tear_23 H
  · have H := H.2 (c)
    refine a_iconst (v := (-1 : Int32)) (by decide) dX12_tear_7 ?_
    exact r_reti rfl dX12_tear_8 H
def f_X6_hasPart (v0 : Nat) (v1 : Int32) (v2 : Int32) (h : AH) (Q : Int32 → AH → Prop) : Prop :=
  ((v1 < 0 → Q (0 : Int32) h) ∧ (¬ (v1 < 0) → ((v2 < 0 → Q (0 : Int32) h) ∧ (¬ (v2 < 0) → gI h v0 6 1 (fun x1 => ((x1 < v1 → Q (0 : Int32) h) ∧ (¬ (x1 < v1) → gI h v0 6 1 (fun x2 => (((x2 - v1) < v2 → Q (0 : Int32) h) ∧ (¬ ((x2 - v1) < v2) → Q (1 : Int32) h))))))))))
set_option maxRecDepth 100000 in
set_option maxHeartbeats 4000000 in
theorem s_X6_hasPart {o : Om} {v0 : Nat} {v1 : Int32} {v2 : Int32} {h : AH} {Q : Int32 → AH → Prop} (H : f_X6_hasPart v0 v1 v2 h Q) : MQ' o kX6_hasPart [.ref v0, .int v1, .int v2] h (qI Q) := by
  refine MQ'.of (by decide +kernel) (Nat.le_of_ble_eq_true rfl) ?_
  show AQ o kX6_hasPart h 0 [(0, .ref v0), (1, .int v1), (2, .int v2)] [] (qI Q)
  refine a_iload_n 1 rfl rfl dX6_hasPart_0 ?_
  refine a_if_lt (tgt := 30) dX6_hasPart_1 (by decide) (fun c => ?_) (fun c => ?_)
  · have H := H.1 (c)
    refine a_iconst (v := (0 : Int32)) (by decide) dX6_hasPart_30 ?_
    exact r_retz rfl bl_0 dX6_hasPart_31 H
  · have H := H.2 (c)
    refine a_iload_n 2 rfl rfl dX6_hasPart_4 ?_
    refine a_if_lt (tgt := 30) dX6_hasPart_5 (by decide) (fun c => ?_) (fun c => ?_)
    · have H := H.1 (c)
      refine a_iconst (v := (0 : Int32)) (by decide) dX6_hasPart_30 ?_
      exact r_retz rfl bl_0 dX6_hasPart_31 H
    · have H := H.2 (c)
      refine a_iload_n 1 rfl rfl dX6_hasPart_8 ?_
      refine a_aload_n 0 rfl rfl dX6_hasPart_9 ?_
      refine r_gI fo_RX6_15_6 dX6_hasPart_10 H (fun x1 H => ?_)
      refine a_icmp_gt (tgt := 30) dX6_hasPart_13 (by decide) (fun c => ?_) (fun c => ?_)
      · have H := H.1 (c)
        refine a_iconst (v := (0 : Int32)) (by decide) dX6_hasPart_30 ?_
        exact r_retz rfl bl_0 dX6_hasPart_31 H
      · have H := H.2 (c)
        refine a_iload_n 2 rfl rfl dX6_hasPart_16 ?_
        refine a_aload_n 0 rfl rfl dX6_hasPart_17 ?_
        refine r_gI fo_RX6_15_6 dX6_hasPart_18 H (fun x2 H => ?_)
        refine a_iload_n 1 rfl rfl dX6_hasPart_21 ?_
        refine a_isub dX6_hasPart_22 ?_
        refine a_icmp_gt (tgt := 30) dX6_hasPart_23 (by decide) (fun c => ?_) (fun c => ?_)
        · have H := H.1 (c)
          refine a_iconst (v := (0 : Int32)) (by decide) dX6_hasPart_30 ?_
          exact r_retz rfl bl_0 dX6_hasPart_31 H
        · have H := H.2 (c)
          refine a_iconst (v := (1 : Int32)) (by decide) dX6_hasPart_26 ?_
          refine a_goto (tgt := 31) dX6_hasPart_27 (by decide) ?_
          exact r_retz rfl bl_1 dX6_hasPart_31 H
def B_X11_copy_92 (Q : Int32 → AH → Prop)  (v0 : Nat) (h : AH) : Prop :=
  isO h v0 11 ∧ f_X11_found v0 (2 : Int32) h (fun x1 h2 => Q x1 h2)
set_option maxRecDepth 100000 in
set_option maxHeartbeats 4000000 in
theorem b_X11_copy_92 {o : Om} {Q : Int32 → AH → Prop}  {v0 : Nat} {h : AH}  (H : B_X11_copy_92 Q  v0 h) : AQ o kX11_copy h 92 [(0, .ref v0)] [] (qI Q) := by
  refine a_aload_n 0 rfl rfl dX11_copy_92 ?_
  refine a_iconst (v := (2 : Int32)) (by decide) dX11_copy_93 ?_
  refine r_Vi (q := (RX11, TX11, 16)) (av := [.int (2 : Int32)]) (rest := []) rfl rfl okX11_found H.1 rfl rfl wd260 wd262 wp0 ⟨Nat.le_of_ble_eq_true rfl, Nat.le_of_ble_eq_true rfl⟩ (Nat.le_of_ble_eq_true rfl) dX11_copy_94 (s_X11_found H.2) (fun x1 h2 H => ?_)
  exact r_reti rfl dX11_copy_97 H
def B_X11_copy_55 (Q : Int32 → AH → Prop)  (v0 : Nat) (h : AH) : Prop :=
  isO h v0 11 ∧ f_X11_found v0 (1 : Int32) h (fun x1 h2 => Q x1 h2)
set_option maxRecDepth 100000 in
set_option maxHeartbeats 4000000 in
theorem b_X11_copy_55 {o : Om} {Q : Int32 → AH → Prop}  {v0 : Nat} {h : AH}  (H : B_X11_copy_55 Q  v0 h) : AQ o kX11_copy h 55 [(0, .ref v0)] [] (qI Q) := by
  refine a_aload_n 0 rfl rfl dX11_copy_55 ?_
  refine a_iconst (v := (1 : Int32)) (by decide) dX11_copy_56 ?_
  refine r_Vi (q := (RX11, TX11, 16)) (av := [.int (1 : Int32)]) (rest := []) rfl rfl okX11_found H.1 rfl rfl wd260 wd262 wp0 ⟨Nat.le_of_ble_eq_true rfl, Nat.le_of_ble_eq_true rfl⟩ (Nat.le_of_ble_eq_true rfl) dX11_copy_57 (s_X11_found H.2) (fun x1 h2 H => ?_)
  exact r_reti rfl dX11_copy_60 H
def f_X11_copy (v0 : Nat) (v1 : Int32) (v2 : Int32) (v3 : Int32) (v4 : Int32) (v5 : Int32) (h : AH) (Q : Int32 → AH → Prop) : Prop :=
  f_X11_isBelow v1 (6 : Int32) h (fun x1 h2 => ((x1 = 0 → Q (-1 : Int32) h2) ∧ (¬ (x1 = 0) → f_X11_isBelow v3 (6 : Int32) h2 (fun x3 h4 => ((¬ (x3 = 0) → ((0 ≤ v5 → gR h4 v0 11 0 (fun a5 => lQ h4 a5 2 v1 (fun a6 => isO h4 a6 6 ∧ f_X6_isMissing a6  h4 (fun x7 h8 => ((¬ (x7 = 0) → B_X11_copy_55 Q  v0 h8) ∧ (x7 = 0 → gR h8 v0 11 0 (fun a9 => lQ h8 a9 2 v3 (fun a10 => isO h8 a10 6 ∧ f_X6_isMissing a10  h8 (fun x11 h12 => ((x11 = 0 → gR h12 v0 11 0 (fun a13 => lQ h12 a13 2 v1 (fun a14 => isO h12 a14 6 ∧ f_X6_hasPart a14 v2 v5 h12 (fun x15 h16 => ((x15 = 0 → B_X11_copy_92 Q  v0 h16) ∧ (¬ (x15 = 0) → gR h16 v0 11 0 (fun a17 => lQ h16 a17 2 v3 (fun a18 => isO h16 a18 6 ∧ f_X6_hasPart a18 v4 v5 h16 (fun x19 h20 => ((¬ (x19 = 0) → gR h20 v0 11 0 (fun a21 => lQ h20 a21 2 v1 (fun a22 => gR h20 a22 6 0 (fun a23 => gR h20 v0 11 0 (fun a24 => lQ h20 a24 2 v3 (fun a25 => gR h20 a25 6 0 (fun a26 => cpI h20 a23 v2 a26 v4 v5 (fun h27 => Q (1 : Int32) h27)))))))) ∧ (x19 = 0 → B_X11_copy_92 Q  v0 h20))))))))))) ∧ (¬ (x11 = 0) → B_X11_copy_55 Q  v0 h12))))))))))) ∧ (¬ (0 ≤ v5) → isO h4 v0 11 ∧ f_X11_found v0 (5 : Int32) h4 (fun x28 h29 => Q x28 h29)))) ∧ (x3 = 0 → Q (-1 : Int32) h4))))))
set_option maxRecDepth 100000 in
set_option maxHeartbeats 4000000 in
theorem s_X11_copy {o : Om} {v0 : Nat} {v1 : Int32} {v2 : Int32} {v3 : Int32} {v4 : Int32} {v5 : Int32} {h : AH} {Q : Int32 → AH → Prop} (H : f_X11_copy v0 v1 v2 v3 v4 v5 h Q) : MQ' o kX11_copy [.ref v0, .int v1, .int v2, .int v3, .int v4, .int v5] h (qI Q) := by
  refine MQ'.of (by decide +kernel) (Nat.le_of_ble_eq_true rfl) ?_
  show AQ o kX11_copy h 0 [(0, .ref v0), (1, .int v1), (2, .int v2), (3, .int v3), (4, .int v4), (5, .int v5)] [] (qI Q)
  refine a_iload_n 1 rfl rfl dX11_copy_0 ?_
  refine a_bipush (v := (6 : Int32)) (by decide) dX11_copy_1 ?_
  refine r_Si (av := [.int v1, .int (6 : Int32)]) (rest := []) rfl rfl okX11_isBelow wd257 wd258 ⟨Nat.le_of_ble_eq_true rfl, Nat.le_of_ble_eq_true rfl⟩ (Nat.le_of_ble_eq_true rfl) dX11_copy_3 (s_X11_isBelow H) (fun x1 h2 H => ?_)
  refine a_if_eq (tgt := 18) dX11_copy_6 (by decide) (fun c => ?_) (fun c => ?_)
  · have H := H.1 (c)
    refine a_iconst (v := (-1 : Int32)) (by decide) dX11_copy_18 ?_
    exact r_reti rfl dX11_copy_19 H
  · have H := H.2 (c)
    refine a_iload_n 3 rfl rfl dX11_copy_9 ?_
    refine a_bipush (v := (6 : Int32)) (by decide) dX11_copy_10 ?_
    refine r_Si (av := [.int v3, .int (6 : Int32)]) (rest := []) rfl rfl okX11_isBelow wd257 wd258 ⟨Nat.le_of_ble_eq_true rfl, Nat.le_of_ble_eq_true rfl⟩ (Nat.le_of_ble_eq_true rfl) dX11_copy_12 (s_X11_isBelow H) (fun x3 h4 H => ?_)
    refine a_if_ne (tgt := 20) dX11_copy_15 (by decide) (fun c => ?_) (fun c => ?_)
    · have H := H.1 (c)
      refine a_iload 5 rfl dX11_copy_20 ?_
      refine a_if_ge (tgt := 31) dX11_copy_22 (by decide) (fun c => ?_) (fun c => ?_)
      · have H := H.1 (c)
        refine a_aload_n 0 rfl rfl dX11_copy_31 ?_
        refine r_gR fo_RX11_11_11 dX11_copy_32 H (fun a5 H => ?_)
        refine a_iload_n 1 rfl rfl dX11_copy_35 ?_
        refine r_lQ (by decide) dX11_copy_36 H (fun a6 H => ?_)
        refine r_Vi (q := (RX6, TX6, 2)) (av := []) (rest := []) rfl rfl okX6_isMissing H.1 rfl rfl wd287 wd288 wd289 ⟨Nat.le_of_ble_eq_true rfl, Nat.le_of_ble_eq_true rfl⟩ (Nat.le_of_ble_eq_true rfl) dX11_copy_37 (s_X6_isMissing H.2) (fun x7 h8 H => ?_)
        refine a_if_ne (tgt := 55) dX11_copy_40 (by decide) (fun c => ?_) (fun c => ?_)
        · have H := H.1 (c)
          refine AQ.sub (lv1 := [(0, .ref v0)]) [0] rfl ?_
          exact b_X11_copy_55  H
        · have H := H.2 (c)
          refine a_aload_n 0 rfl rfl dX11_copy_43 ?_
          refine r_gR fo_RX11_11_11 dX11_copy_44 H (fun a9 H => ?_)
          refine a_iload_n 3 rfl rfl dX11_copy_47 ?_
          refine r_lQ (by decide) dX11_copy_48 H (fun a10 H => ?_)
          refine r_Vi (q := (RX6, TX6, 2)) (av := []) (rest := []) rfl rfl okX6_isMissing H.1 rfl rfl wd287 wd288 wd289 ⟨Nat.le_of_ble_eq_true rfl, Nat.le_of_ble_eq_true rfl⟩ (Nat.le_of_ble_eq_true rfl) dX11_copy_49 (s_X6_isMissing H.2) (fun x11 h12 H => ?_)
          refine a_if_eq (tgt := 61) dX11_copy_52 (by decide) (fun c => ?_) (fun c => ?_)
          · have H := H.1 (c)
            refine a_aload_n 0 rfl rfl dX11_copy_61 ?_
            refine r_gR fo_RX11_11_11 dX11_copy_62 H (fun a13 H => ?_)
            refine a_iload_n 1 rfl rfl dX11_copy_65 ?_
            refine r_lQ (by decide) dX11_copy_66 H (fun a14 H => ?_)
            refine a_iload_n 2 rfl rfl dX11_copy_67 ?_
            refine a_iload 5 rfl dX11_copy_68 ?_
            refine r_Vi (q := (RX6, TX6, 2)) (av := [.int v2, .int v5]) (rest := []) rfl rfl okX6_hasPart H.1 rfl rfl wd320 wd321 wd322 ⟨Nat.le_of_ble_eq_true rfl, Nat.le_of_ble_eq_true rfl⟩ (Nat.le_of_ble_eq_true rfl) dX11_copy_70 (s_X6_hasPart H.2) (fun x15 h16 H => ?_)
            refine a_if_eq (tgt := 92) dX11_copy_73 (by decide) (fun c => ?_) (fun c => ?_)
            · have H := H.1 (c)
              refine AQ.sub (lv1 := [(0, .ref v0)]) [0] rfl ?_
              exact b_X11_copy_92  H
            · have H := H.2 (c)
              refine a_aload_n 0 rfl rfl dX11_copy_76 ?_
              refine r_gR fo_RX11_11_11 dX11_copy_77 H (fun a17 H => ?_)
              refine a_iload_n 3 rfl rfl dX11_copy_80 ?_
              refine r_lQ (by decide) dX11_copy_81 H (fun a18 H => ?_)
              refine a_iload 4 rfl dX11_copy_82 ?_
              refine a_iload 5 rfl dX11_copy_84 ?_
              refine r_Vi (q := (RX6, TX6, 2)) (av := [.int v4, .int v5]) (rest := []) rfl rfl okX6_hasPart H.1 rfl rfl wd320 wd321 wd322 ⟨Nat.le_of_ble_eq_true rfl, Nat.le_of_ble_eq_true rfl⟩ (Nat.le_of_ble_eq_true rfl) dX11_copy_86 (s_X6_hasPart H.2) (fun x19 h20 H => ?_)
              refine a_if_ne (tgt := 98) dX11_copy_89 (by decide) (fun c => ?_) (fun c => ?_)
              · have H := H.1 (c)
                refine a_aload_n 0 rfl rfl dX11_copy_98 ?_
                refine r_gR fo_RX11_11_11 dX11_copy_99 H (fun a21 H => ?_)
                refine a_iload_n 1 rfl rfl dX11_copy_102 ?_
                refine r_lQ (by decide) dX11_copy_103 H (fun a22 H => ?_)
                refine r_gR fo_RX11_121_6 dX11_copy_104 H (fun a23 H => ?_)
                refine a_iload_n 2 rfl rfl dX11_copy_107 ?_
                refine a_aload_n 0 rfl rfl dX11_copy_108 ?_
                refine r_gR fo_RX11_11_11 dX11_copy_109 H (fun a24 H => ?_)
                refine a_iload_n 3 rfl rfl dX11_copy_112 ?_
                refine r_lQ (by decide) dX11_copy_113 H (fun a25 H => ?_)
                refine r_gR fo_RX11_121_6 dX11_copy_114 H (fun a26 H => ?_)
                refine a_iload 4 rfl dX11_copy_117 ?_
                refine a_iload 5 rfl dX11_copy_119 ?_
                refine r_cp wd324 wd326 wd325 wd9 ⟨Nat.le_of_ble_eq_true rfl, Nat.le_of_ble_eq_true rfl⟩ dX11_copy_121 H (fun h27 H => ?_)
                refine a_iconst (v := (1 : Int32)) (by decide) dX11_copy_124 ?_
                exact r_reti rfl dX11_copy_125 H
              · have H := H.2 (c)
                refine AQ.sub (lv1 := [(0, .ref v0)]) [0] rfl ?_
                exact b_X11_copy_92  H
          · have H := H.2 (c)
            refine AQ.sub (lv1 := [(0, .ref v0)]) [0] rfl ?_
            exact b_X11_copy_55  H
      · have H := H.2 (c)
        refine a_aload_n 0 rfl rfl dX11_copy_25 ?_
        refine a_iconst (v := (5 : Int32)) (by decide) dX11_copy_26 ?_
        refine r_Vi (q := (RX11, TX11, 16)) (av := [.int (5 : Int32)]) (rest := []) rfl rfl okX11_found H.1 rfl rfl wd260 wd262 wp0 ⟨Nat.le_of_ble_eq_true rfl, Nat.le_of_ble_eq_true rfl⟩ (Nat.le_of_ble_eq_true rfl) dX11_copy_27 (s_X11_found H.2) (fun x28 h29 H => ?_)
        exact r_reti rfl dX11_copy_30 H
    · have H := H.2 (c)
      refine a_iconst (v := (-1 : Int32)) (by decide) dX11_copy_18 ?_
      exact r_reti rfl dX11_copy_19 H
