def B_X12_earn_74 (Q : Int32 → AH → Prop) (K35 : Int32 → Int32 → AH → Prop) (K74 : Int32 → Int32 → AH → Prop) (v0 : Nat) (v1 : Int32) (v2 : Int32) (v3 : Int32) (v4 : Int32) (v6 : Int32) (v7 : Int32) (h : AH) : Prop :=
  ((v1 ≤ v7 → K35 v2 (v4 + 1) h) ∧ (¬ (v1 ≤ v7) → gI h v0 12 12 (fun x1 => (¬ x1 = 0) ∧ (gI h v0 12 4 (fun x2 => (¬ (v6 / x1) = 0) ∧ (gI h v0 12 12 (fun x3 => (¬ x3 = 0) ∧ (pF h v0 12 4 (.int (((5 : Int32) * x2) + ((v4 / (v6 / x1)) - (v4 / (v6 / x1)) / x3 * x3))) (fun h4 => K74 (v6 / x1) (v7 + 1) h4)))))))))
set_option maxRecDepth 100000 in
set_option maxHeartbeats 4000000 in
theorem b_X12_earn_74 {o : Om} {Q : Int32 → AH → Prop} {K35 : Int32 → Int32 → AH → Prop} {K74 : Int32 → Int32 → AH → Prop} {v0 : Nat} {v1 : Int32} {v2 : Int32} {v3 : Int32} {v4 : Int32} {v6 : Int32} {v7 : Int32} {h : AH} (hK35 : ∀ w2 w4 h, K35 w2 w4 h → AQ o kX12_earn h 35 [(0, .ref v0), (1, .int v1), (2, .int w2), (3, .int v3), (4, .int w4)] [] (qI Q)) (hK74 : ∀ w6 w7 h, K74 w6 w7 h → AQ o kX12_earn h 74 [(0, .ref v0), (1, .int v1), (2, .int v2), (3, .int v3), (4, .int v4), (6, .int w6), (7, .int w7)] [] (qI Q)) (H : B_X12_earn_74 Q K35 K74 v0 v1 v2 v3 v4 v6 v7 h) : AQ o kX12_earn h 74 [(0, .ref v0), (1, .int v1), (2, .int v2), (3, .int v3), (4, .int v4), (6, .int v6), (7, .int v7)] [] (qI Q) := by
  refine a_iload 6 rfl dX12_earn_74 ?_
  refine a_iload_n 1 rfl rfl dX12_earn_76 ?_
  refine a_icmp_ge (tgt := 116) dX12_earn_77 (by decide) (fun c => ?_) (fun c => ?_)
  · have H := H.1 (c)
    refine a_iinc (v := v4 + 1) (lv1 := [(0, .ref v0), (1, .int v1), (2, .int v2), (3, .int v3), (4, .int (v4 + 1)), (6, .int v6), (7, .int v7)]) [1, 2, 3, 4, 0, 5, 6] 4 rfl (by decide) rfl rfl dX12_earn_116 ?_
    refine a_goto (tgt := 35) dX12_earn_119 (by decide) ?_
    refine AQ.sub (lv1 := [(0, .ref v0), (1, .int v1), (2, .int v2), (3, .int v3), (4, .int (v4 + 1))]) [0, 1, 2, 3, 4] rfl ?_
    exact hK35 _ _ _ H
  · have H := H.2 (c)
    refine a_iload 5 rfl dX12_earn_80 ?_
    refine a_aload_n 0 rfl rfl dX12_earn_82 ?_
    refine r_gI fo_RX12_181_12 dX12_earn_83 H (fun x1 H => ?_)
    refine a_idiv H.1 dX12_earn_86 ?_
    have H := H.2
    refine a_istore (lv1 := [(0, .ref v0), (1, .int v1), (2, .int v2), (3, .int v3), (4, .int v4), (6, .int (v6 / x1)), (7, .int v7)]) [1, 2, 3, 4, 5, 0, 6] (by decide) rfl dX12_earn_87 ?_
    refine a_aload_n 0 rfl rfl dX12_earn_89 ?_
    refine a_iconst (v := (5 : Int32)) (by decide) dX12_earn_90 ?_
    refine a_aload_n 0 rfl rfl dX12_earn_91 ?_
    refine r_gI fo_RX12_104_12 dX12_earn_92 H (fun x2 H => ?_)
    refine a_imul dX12_earn_95 ?_
    refine a_iload 4 rfl dX12_earn_96 ?_
    refine a_iload 5 rfl dX12_earn_98 ?_
    refine a_idiv H.1 dX12_earn_100 ?_
    have H := H.2
    refine a_aload_n 0 rfl rfl dX12_earn_101 ?_
    refine r_gI fo_RX12_181_12 dX12_earn_102 H (fun x3 H => ?_)
    refine a_irem H.1 dX12_earn_105 ?_
    have H := H.2
    refine a_iadd dX12_earn_106 ?_
    refine r_pF (po_RX12_104_12 _) (fun _ => rfl) (fun _ => rfl) dX12_earn_107 H (fun h4 H => ?_)
    refine a_iinc (v := v7 + 1) (lv1 := [(0, .ref v0), (1, .int v1), (2, .int v2), (3, .int v3), (4, .int v4), (6, .int (v6 / x1)), (7, .int (v7 + 1))]) [1, 2, 3, 4, 5, 6, 0] 6 rfl (by decide) rfl rfl dX12_earn_110 ?_
    refine a_goto (tgt := 74) dX12_earn_113 (by decide) ?_
    exact hK74 _ _ _ H
def L_X12_earn_74 (Q : Int32 → AH → Prop) (K35 : Int32 → Int32 → AH → Prop) (v0 : Nat) (v1 : Int32) (v2 : Int32) (v3 : Int32) (v4 : Int32) : Nat → Int32 → Int32 → AH → Prop
  | 0, _, _, _ => False
  | n + 1, v6, v7, h => B_X12_earn_74 Q K35 (L_X12_earn_74 Q K35 v0 v1 v2 v3 v4 n) v0 v1 v2 v3 v4 v6 v7 h
theorem l_X12_earn_74 {o : Om} {Q : Int32 → AH → Prop} {K35 : Int32 → Int32 → AH → Prop} {v0 : Nat} {v1 : Int32} {v2 : Int32} {v3 : Int32} {v4 : Int32} (hK35 : ∀ w2 w4 h, K35 w2 w4 h → AQ o kX12_earn h 35 [(0, .ref v0), (1, .int v1), (2, .int w2), (3, .int v3), (4, .int w4)] [] (qI Q)) : ∀ (n : Nat) (v6 : Int32) (v7 : Int32) (h : AH), L_X12_earn_74 Q K35 v0 v1 v2 v3 v4 n v6 v7 h → AQ o kX12_earn h 74 [(0, .ref v0), (1, .int v1), (2, .int v2), (3, .int v3), (4, .int v4), (6, .int v6), (7, .int v7)] [] (qI Q) := by
  intro n
  induction n with
  | zero => intro v6 v7 h H; exact H.elim
  | succ n ih => intro v6 v7 h H; exact b_X12_earn_74 hK35 ih H
def B_X12_earn_35 (Q : Int32 → AH → Prop) (K35 : Int32 → Int32 → AH → Prop) (v0 : Nat) (v1 : Int32) (v3 : Int32) (v2 : Int32) (v4 : Int32) (h : AH) : Prop :=
  ((v3 ≤ v4 → Q v2 h) ∧ (¬ (v3 ≤ v4) → isO h v0 12 ∧ f_X12_behindRow v0 v1 v4 h (fun x1 h2 => gI h2 v0 12 41 (fun x3 => ((x3 ≤ v2 → K35 v2 (v4 + 1) h2) ∧ (¬ (x3 ≤ v2) → gI h2 v0 12 41 (fun x4 => pF h2 v0 12 4 (.int (0 : Int32)) (fun h5 => ∃ n, L_X12_earn_74 Q K35 v0 v1 x4 v3 v4 n v3 (0 : Int32) h5))))))))
set_option maxRecDepth 100000 in
set_option maxHeartbeats 4000000 in
theorem b_X12_earn_35 {o : Om} {Q : Int32 → AH → Prop} {K35 : Int32 → Int32 → AH → Prop} {v0 : Nat} {v1 : Int32} {v3 : Int32} {v2 : Int32} {v4 : Int32} {h : AH} (hK35 : ∀ w2 w4 h, K35 w2 w4 h → AQ o kX12_earn h 35 [(0, .ref v0), (1, .int v1), (2, .int w2), (3, .int v3), (4, .int w4)] [] (qI Q)) (H : B_X12_earn_35 Q K35 v0 v1 v3 v2 v4 h) : AQ o kX12_earn h 35 [(0, .ref v0), (1, .int v1), (2, .int v2), (3, .int v3), (4, .int v4)] [] (qI Q) := by
  refine a_iload 4 rfl dX12_earn_35 ?_
  refine a_iload_n 3 rfl rfl dX12_earn_37 ?_
  refine a_icmp_ge (tgt := 122) dX12_earn_38 (by decide) (fun c => ?_) (fun c => ?_)
  · have H := H.1 (c)
    refine a_iload_n 2 rfl rfl dX12_earn_122 ?_
    exact r_reti rfl dX12_earn_123 H
  · have H := H.2 (c)
    refine a_aload_n 0 rfl rfl dX12_earn_41 ?_
    refine a_iload_n 1 rfl rfl dX12_earn_42 ?_
    refine a_iload 4 rfl dX12_earn_43 ?_
    refine r_Vi (q := (RX12, TX12, 51)) (av := [.int v1, .int v4]) (rest := []) rfl rfl okX12_behindRow H.1 rfl rfl wd1416 wd1418 wp58 ⟨Nat.le_of_ble_eq_true rfl, Nat.le_of_ble_eq_true rfl⟩ (Nat.le_of_ble_eq_true rfl) dX12_earn_45 (s_X12_behindRow H.2) (fun x1 h2 H => ?_)
    refine a_istore (lv1 := [(0, .ref v0), (1, .int v1), (2, .int v2), (3, .int v3), (4, .int v4), (5, .int x1)]) [1, 2, 3, 4, 5, 0] (by decide) rfl dX12_earn_48 ?_
    refine a_aload_n 0 rfl rfl dX12_earn_50 ?_
    refine r_gI fo_RX12_261_12 dX12_earn_51 H (fun x3 H => ?_)
    refine a_iload_n 2 rfl rfl dX12_earn_54 ?_
    refine a_icmp_le (tgt := 116) dX12_earn_55 (by decide) (fun c => ?_) (fun c => ?_)
    · have H := H.1 (c)
      refine a_iinc (v := v4 + 1) (lv1 := [(0, .ref v0), (1, .int v1), (2, .int v2), (3, .int v3), (4, .int (v4 + 1)), (5, .int x1)]) [1, 2, 3, 4, 0, 5] 4 rfl (by decide) rfl rfl dX12_earn_116 ?_
      refine a_goto (tgt := 35) dX12_earn_119 (by decide) ?_
      refine AQ.sub (lv1 := [(0, .ref v0), (1, .int v1), (2, .int v2), (3, .int v3), (4, .int (v4 + 1))]) [0, 1, 2, 3, 4] rfl ?_
      exact hK35 _ _ _ H
    · have H := H.2 (c)
      refine a_aload_n 0 rfl rfl dX12_earn_58 ?_
      refine r_gI fo_RX12_261_12 dX12_earn_59 H (fun x4 H => ?_)
      refine a_istore_n (lv1 := [(0, .ref v0), (1, .int v1), (2, .int x4), (3, .int v3), (4, .int v4), (5, .int x1)]) rfl [1, 2, 0, 3, 4, 5] (by decide) rfl dX12_earn_62 ?_
      refine a_aload_n 0 rfl rfl dX12_earn_63 ?_
      refine a_iconst (v := (0 : Int32)) (by decide) dX12_earn_64 ?_
      refine r_pF (po_RX12_104_12 _) (fun _ => rfl) (fun _ => rfl) dX12_earn_65 H (fun h5 H => ?_)
      refine a_iload_n 3 rfl rfl dX12_earn_68 ?_
      refine a_istore (lv1 := [(0, .ref v0), (1, .int v1), (2, .int x4), (3, .int v3), (4, .int v4), (5, .int x1), (6, .int v3)]) [1, 2, 3, 4, 5, 6, 0] (by decide) rfl dX12_earn_69 ?_
      refine a_iconst (v := (0 : Int32)) (by decide) dX12_earn_71 ?_
      refine a_istore (lv1 := [(0, .ref v0), (1, .int v1), (2, .int x4), (3, .int v3), (4, .int v4), (5, .int x1), (6, .int v3), (7, .int (0 : Int32))]) [1, 2, 3, 4, 5, 6, 7, 0] (by decide) rfl dX12_earn_72 ?_
      refine AQ.sub (lv1 := [(0, .ref v0), (1, .int v1), (2, .int x4), (3, .int v3), (4, .int v4), (6, .int v3), (7, .int (0 : Int32))]) [0, 1, 2, 3, 4, 6, 7] rfl ?_
      obtain ⟨n, H⟩ := H
      exact l_X12_earn_74 hK35 n _ _ _ H
def L_X12_earn_35 (Q : Int32 → AH → Prop)  (v0 : Nat) (v1 : Int32) (v3 : Int32) : Nat → Int32 → Int32 → AH → Prop
  | 0, _, _, _ => False
  | n + 1, v2, v4, h => B_X12_earn_35 Q (L_X12_earn_35 Q  v0 v1 v3 n) v0 v1 v3 v2 v4 h
theorem l_X12_earn_35 {o : Om} {Q : Int32 → AH → Prop}  {v0 : Nat} {v1 : Int32} {v3 : Int32}  : ∀ (n : Nat) (v2 : Int32) (v4 : Int32) (h : AH), L_X12_earn_35 Q  v0 v1 v3 n v2 v4 h → AQ o kX12_earn h 35 [(0, .ref v0), (1, .int v1), (2, .int v2), (3, .int v3), (4, .int v4)] [] (qI Q) := by
  intro n
  induction n with
  | zero => intro v2 v4 h H; exact H.elim
  | succ n ih => intro v2 v4 h H; exact b_X12_earn_35 ih H
def f_X12_earn (v0 : Nat) (v1 : Int32) (h : AH) (Q : Int32 → AH → Prop) : Prop :=
  f_X12_in v1.toInt64 (1 : Int64) (4 : Int64) h (fun x1 h2 => ((¬ (x1 = 0) → gI h2 v0 12 12 (fun x3 => ((¬ (x3 = 0) → isO h2 v0 12 ∧ f_X12_power v0 v1 h2 (fun x4 h5 => ∃ n, L_X12_earn_35 Q  v0 v1 x4 n (-1 : Int32) (0 : Int32) h5)) ∧ (x3 = 0 → Q (-4 : Int32) h2)))) ∧ (x1 = 0 → Q (-1 : Int32) h2)))
set_option maxRecDepth 100000 in
set_option maxHeartbeats 4000000 in
theorem s_X12_earn {o : Om} {v0 : Nat} {v1 : Int32} {h : AH} {Q : Int32 → AH → Prop} (H : f_X12_earn v0 v1 h Q) : MQ' o kX12_earn [.ref v0, .int v1] h (qI Q) := by
  refine MQ'.of (by decide +kernel) (Nat.le_of_ble_eq_true rfl) ?_
  show AQ o kX12_earn h 0 [(0, .ref v0), (1, .int v1)] [] (qI Q)
  refine a_iload_n 1 rfl rfl dX12_earn_0 ?_
  refine a_i2l dX12_earn_1 ?_
  refine a_lconst (v := (1 : Int64)) (by decide) dX12_earn_2 ?_
  refine a_ldc2 (v := (4 : Int64)) wd1464 dX12_earn_3 ?_
  refine r_Si (av := [.long v1.toInt64, .long (1 : Int64), .long (4 : Int64)]) (rest := []) rfl rfl okX12_in wd1188 wd1189 ⟨Nat.le_of_ble_eq_true rfl, Nat.le_of_ble_eq_true rfl⟩ (Nat.le_of_ble_eq_true rfl) dX12_earn_6 (s_X12_in H) (fun x1 h2 H => ?_)
  refine a_if_ne (tgt := 14) dX12_earn_9 (by decide) (fun c => ?_) (fun c => ?_)
  · have H := H.1 (c)
    refine a_aload_n 0 rfl rfl dX12_earn_14 ?_
    refine r_gI fo_RX12_181_12 dX12_earn_15 H (fun x3 H => ?_)
    refine a_if_ne (tgt := 24) dX12_earn_18 (by decide) (fun c => ?_) (fun c => ?_)
    · have H := H.1 (c)
      refine a_iconst (v := (-1 : Int32)) (by decide) dX12_earn_24 ?_
      refine a_istore_n (lv1 := [(0, .ref v0), (1, .int v1), (2, .int (-1 : Int32))]) rfl [1, 2, 0] (by decide) rfl dX12_earn_25 ?_
      refine a_aload_n 0 rfl rfl dX12_earn_26 ?_
      refine a_iload_n 1 rfl rfl dX12_earn_27 ?_
      refine r_Vi (q := (RX12, TX12, 51)) (av := [.int v1]) (rest := []) rfl rfl okX12_power H.1 rfl rfl wd1412 wd1414 wp57 ⟨Nat.le_of_ble_eq_true rfl, Nat.le_of_ble_eq_true rfl⟩ (Nat.le_of_ble_eq_true rfl) dX12_earn_28 (s_X12_power H.2) (fun x4 h5 H => ?_)
      refine a_istore_n (lv1 := [(0, .ref v0), (1, .int v1), (2, .int (-1 : Int32)), (3, .int x4)]) rfl [1, 2, 3, 0] (by decide) rfl dX12_earn_31 ?_
      refine a_iconst (v := (0 : Int32)) (by decide) dX12_earn_32 ?_
      refine a_istore (lv1 := [(0, .ref v0), (1, .int v1), (2, .int (-1 : Int32)), (3, .int x4), (4, .int (0 : Int32))]) [1, 2, 3, 4, 0] (by decide) rfl dX12_earn_33 ?_
      obtain ⟨n, H⟩ := H
      exact l_X12_earn_35  n _ _ _ H
    · have H := H.2 (c)
      refine a_bipush (v := (-4 : Int32)) (by decide) dX12_earn_21 ?_
      exact r_reti rfl dX12_earn_23 H
  · have H := H.2 (c)
    refine a_iconst (v := (-1 : Int32)) (by decide) dX12_earn_12 ?_
    exact r_reti rfl dX12_earn_13 H
def B_X11_refuseStanding_46 (Q : Int32 → AH → Prop) (K46 : Int32 → AH → Prop) (v0 : Nat) (v3 : Nat) (v4 : Int32) (h : AH) : Prop :=
  gI h v3 6 1 (fun x1 => ((x1 ≤ v4 → Q (0 : Int32) h) ∧ (¬ (x1 ≤ v4) → isO h v3 6 ∧ f_X6_get v3 v4 h (fun x2 h3 => ((x2 = (-9 : Int32) → K46 (v4 + 1) h3) ∧ (¬ (x2 = (-9 : Int32)) → isO h3 v3 6 ∧ f_X6_get v3 v4 h3 (fun x4 h5 => gR h5 v0 11 8 (fun a6 => gI h5 a6 5 4 (fun x7 => f_X11_isBelow x4 x7 h5 (fun x8 h9 => ((¬ (x8 = 0) → K46 (v4 + 1) h9) ∧ (x8 = 0 → isO h9 v0 11 ∧ f_X11_found v0 (3 : Int32) h9 (fun x10 h11 => Q x10 h11)))))))))))))
set_option maxRecDepth 100000 in
set_option maxHeartbeats 4000000 in
theorem b_X11_refuseStanding_46 {o : Om} {Q : Int32 → AH → Prop} {K46 : Int32 → AH → Prop} {v0 : Nat} {v3 : Nat} {v4 : Int32} {h : AH} (hK46 : ∀ w4 h, K46 w4 h → AQ o kX11_refuseStanding h 46 [(0, .ref v0), (3, .ref v3), (4, .int w4)] [] (qI Q)) (H : B_X11_refuseStanding_46 Q K46 v0 v3 v4 h) : AQ o kX11_refuseStanding h 46 [(0, .ref v0), (3, .ref v3), (4, .int v4)] [] (qI Q) := by
  refine a_iload 2 rfl dX11_refuseStanding_46 ?_
  refine a_aload_n 1 rfl rfl dX11_refuseStanding_48 ?_
  refine r_gI fo_RX11_130_6 dX11_refuseStanding_49 H (fun x1 H => ?_)
  refine a_icmp_ge (tgt := 97) dX11_refuseStanding_52 (by decide) (fun c => ?_) (fun c => ?_)
  · have H := H.1 (c)
    refine a_iconst (v := (0 : Int32)) (by decide) dX11_refuseStanding_97 ?_
    exact r_reti rfl dX11_refuseStanding_98 H
  · have H := H.2 (c)
    refine a_aload_n 1 rfl rfl dX11_refuseStanding_55 ?_
    refine a_iload 2 rfl dX11_refuseStanding_56 ?_
    refine r_Vi (q := (RX6, TX6, 2)) (av := [.int v4]) (rest := []) rfl rfl okX6_get H.1 rfl rfl wd295 wd296 wd297 ⟨Nat.le_of_ble_eq_true rfl, Nat.le_of_ble_eq_true rfl⟩ (Nat.le_of_ble_eq_true rfl) dX11_refuseStanding_58 (s_X6_get H.2) (fun x2 h3 H => ?_)
    refine a_bipush (v := (-9 : Int32)) (by decide) dX11_refuseStanding_61 ?_
    refine a_icmp_eq (tgt := 91) dX11_refuseStanding_63 (by decide) (fun c => ?_) (fun c => ?_)
    · have H := H.1 (c)
      refine a_iinc (v := v4 + 1) (lv1 := [(0, .ref v0), (3, .ref v3), (4, .int (v4 + 1))]) [1, 2, 0] 2 rfl (by decide) rfl rfl dX11_refuseStanding_91 ?_
      refine a_goto (tgt := 46) dX11_refuseStanding_94 (by decide) ?_
      exact hK46 _ _ H
    · have H := H.2 (c)
      refine a_aload_n 1 rfl rfl dX11_refuseStanding_66 ?_
      refine a_iload 2 rfl dX11_refuseStanding_67 ?_
      refine r_Vi (q := (RX6, TX6, 2)) (av := [.int v4]) (rest := []) rfl rfl okX6_get H.1 rfl rfl wd295 wd296 wd297 ⟨Nat.le_of_ble_eq_true rfl, Nat.le_of_ble_eq_true rfl⟩ (Nat.le_of_ble_eq_true rfl) dX11_refuseStanding_69 (s_X6_get H.2) (fun x4 h5 H => ?_)
      refine a_aload_n 0 rfl rfl dX11_refuseStanding_72 ?_
      refine r_gR fo_RX11_60_11 dX11_refuseStanding_73 H (fun a6 H => ?_)
      refine r_gI fo_RX11_198_5 dX11_refuseStanding_76 H (fun x7 H => ?_)
      refine r_Si (av := [.int x4, .int x7]) (rest := []) rfl rfl okX11_isBelow wd257 wd258 ⟨Nat.le_of_ble_eq_true rfl, Nat.le_of_ble_eq_true rfl⟩ (Nat.le_of_ble_eq_true rfl) dX11_refuseStanding_79 (s_X11_isBelow H) (fun x8 h9 H => ?_)
      refine a_if_ne (tgt := 91) dX11_refuseStanding_82 (by decide) (fun c => ?_) (fun c => ?_)
      · have H := H.1 (c)
        refine a_iinc (v := v4 + 1) (lv1 := [(0, .ref v0), (3, .ref v3), (4, .int (v4 + 1))]) [1, 2, 0] 2 rfl (by decide) rfl rfl dX11_refuseStanding_91 ?_
        refine a_goto (tgt := 46) dX11_refuseStanding_94 (by decide) ?_
        exact hK46 _ _ H
      · have H := H.2 (c)
        refine a_aload_n 0 rfl rfl dX11_refuseStanding_85 ?_
        refine a_iconst (v := (3 : Int32)) (by decide) dX11_refuseStanding_86 ?_
        refine r_Vi (q := (RX11, TX11, 16)) (av := [.int (3 : Int32)]) (rest := []) rfl rfl okX11_found H.1 rfl rfl wd260 wd262 wp0 ⟨Nat.le_of_ble_eq_true rfl, Nat.le_of_ble_eq_true rfl⟩ (Nat.le_of_ble_eq_true rfl) dX11_refuseStanding_87 (s_X11_found H.2) (fun x10 h11 H => ?_)
        exact r_reti rfl dX11_refuseStanding_90 H
def L_X11_refuseStanding_46 (Q : Int32 → AH → Prop)  (v0 : Nat) (v3 : Nat) : Nat → Int32 → AH → Prop
  | 0, _, _ => False
  | n + 1, v4, h => B_X11_refuseStanding_46 Q (L_X11_refuseStanding_46 Q  v0 v3 n) v0 v3 v4 h
theorem l_X11_refuseStanding_46 {o : Om} {Q : Int32 → AH → Prop}  {v0 : Nat} {v3 : Nat}  : ∀ (n : Nat) (v4 : Int32) (h : AH), L_X11_refuseStanding_46 Q  v0 v3 n v4 h → AQ o kX11_refuseStanding h 46 [(0, .ref v0), (3, .ref v3), (4, .int v4)] [] (qI Q) := by
  intro n
  induction n with
  | zero => intro v4 h H; exact H.elim
  | succ n ih => intro v4 h H; exact b_X11_refuseStanding_46 ih H
def f_X11_refuseStanding (v0 : Nat) (v1 : Int32) (h : AH) (Q : Int32 → AH → Prop) : Prop :=
  gR h v0 11 0 (fun a1 => isO h v0 11 ∧ f_X11_refuseMissing v0 a1 v1 h (fun x2 h3 => ((x2 = 0 → gR h3 v0 11 0 (fun a4 => lQ h3 a4 2 v1 (fun a5 => gI h3 a5 6 1 (fun x6 => gR h3 v0 11 8 (fun a7 => gI h3 a7 5 5 (fun x8 => ((x6 = x8 → ∃ n, L_X11_refuseStanding_46 Q  v0 a5 n (0 : Int32) h3) ∧ (¬ (x6 = x8) → isO h3 v0 11 ∧ f_X11_found v0 (5 : Int32) h3 (fun x9 h10 => Q x9 h10))))))))) ∧ (¬ (x2 = 0) → Q x2 h3))))
set_option maxRecDepth 100000 in
set_option maxHeartbeats 4000000 in
theorem s_X11_refuseStanding {o : Om} {v0 : Nat} {v1 : Int32} {h : AH} {Q : Int32 → AH → Prop} (H : f_X11_refuseStanding v0 v1 h Q) : MQ' o kX11_refuseStanding [.ref v0, .int v1] h (qI Q) := by
  refine MQ'.of (by decide +kernel) (Nat.le_of_ble_eq_true rfl) ?_
  show AQ o kX11_refuseStanding h 0 [(0, .ref v0), (1, .int v1)] [] (qI Q)
  refine a_aload_n 0 rfl rfl dX11_refuseStanding_0 ?_
  refine a_aload_n 0 rfl rfl dX11_refuseStanding_1 ?_
  refine r_gR fo_RX11_11_11 dX11_refuseStanding_2 H (fun a1 H => ?_)
  refine a_iload_n 1 rfl rfl dX11_refuseStanding_5 ?_
  refine r_Vi (q := (RX11, TX11, 16)) (av := [.ref a1, .int v1]) (rest := []) rfl rfl okX11_refuseMissing H.1 rfl rfl wd283 wd285 wp2 ⟨Nat.le_of_ble_eq_true rfl, Nat.le_of_ble_eq_true rfl⟩ (Nat.le_of_ble_eq_true rfl) dX11_refuseStanding_6 (s_X11_refuseMissing H.2) (fun x2 h3 H => ?_)
  refine a_istore_n (lv1 := [(0, .ref v0), (1, .int v1), (2, .int x2)]) rfl [1, 2, 0] (by decide) rfl dX11_refuseStanding_9 ?_
  refine a_iload_n 2 rfl rfl dX11_refuseStanding_10 ?_
  refine a_if_eq (tgt := 16) dX11_refuseStanding_11 (by decide) (fun c => ?_) (fun c => ?_)
  · have H := H.1 (c)
    refine a_aload_n 0 rfl rfl dX11_refuseStanding_16 ?_
    refine r_gR fo_RX11_11_11 dX11_refuseStanding_17 H (fun a4 H => ?_)
    refine a_iload_n 1 rfl rfl dX11_refuseStanding_20 ?_
    refine r_lQ (by decide) dX11_refuseStanding_21 H (fun a5 H => ?_)
    refine a_astore_n (lv1 := [(0, .ref v0), (1, .int v1), (2, .int x2), (3, .ref a5)]) rfl [1, 2, 3, 0] (by decide) rfl dX11_refuseStanding_22 ?_
    refine a_aload_n 3 rfl rfl dX11_refuseStanding_23 ?_
    refine r_gI fo_RX11_130_6 dX11_refuseStanding_24 H (fun x6 H => ?_)
    refine a_aload_n 0 rfl rfl dX11_refuseStanding_27 ?_
    refine r_gR fo_RX11_60_11 dX11_refuseStanding_28 H (fun a7 H => ?_)
    refine r_gI fo_RX11_146_5 dX11_refuseStanding_31 H (fun x8 H => ?_)
    refine a_icmp_eq (tgt := 43) dX11_refuseStanding_34 (by decide) (fun c => ?_) (fun c => ?_)
    · have H := H.1 (c)
      refine a_iconst (v := (0 : Int32)) (by decide) dX11_refuseStanding_43 ?_
      refine a_istore (lv1 := [(0, .ref v0), (1, .int v1), (2, .int x2), (3, .ref a5), (4, .int (0 : Int32))]) [1, 2, 3, 4, 0] (by decide) rfl dX11_refuseStanding_44 ?_
      refine AQ.sub (lv1 := [(0, .ref v0), (3, .ref a5), (4, .int (0 : Int32))]) [0, 3, 4] rfl ?_
      obtain ⟨n, H⟩ := H
      exact l_X11_refuseStanding_46  n _ _ H
    · have H := H.2 (c)
      refine a_aload_n 0 rfl rfl dX11_refuseStanding_37 ?_
      refine a_iconst (v := (5 : Int32)) (by decide) dX11_refuseStanding_38 ?_
      refine r_Vi (q := (RX11, TX11, 16)) (av := [.int (5 : Int32)]) (rest := []) rfl rfl okX11_found H.1 rfl rfl wd260 wd262 wp0 ⟨Nat.le_of_ble_eq_true rfl, Nat.le_of_ble_eq_true rfl⟩ (Nat.le_of_ble_eq_true rfl) dX11_refuseStanding_39 (s_X11_found H.2) (fun x9 h10 H => ?_)
      exact r_reti rfl dX11_refuseStanding_42 H
  · have H := H.2 (c)
    refine a_iload_n 2 rfl rfl dX11_refuseStanding_14 ?_
    exact r_reti rfl dX11_refuseStanding_15 H
def B_X11_standingOf_37 (Q : Int32 → AH → Prop) (K4 : Int32 → Int32 → AH → Prop) (v0 : Nat) (v1 : Nat) (v3 : Int32) (t0 : Int32) (t1 : Int32) (t2 : Int32) (h : AH) : Prop :=
  f_X5_withPost t0 t1 t2 h (fun x1 h2 => K4 x1 (v3 + 1) h2)
set_option maxRecDepth 100000 in
set_option maxHeartbeats 4000000 in
theorem b_X11_standingOf_37 {o : Om} {Q : Int32 → AH → Prop} {K4 : Int32 → Int32 → AH → Prop} {v0 : Nat} {v1 : Nat} {v3 : Int32} {t0 : Int32} {t1 : Int32} {t2 : Int32} {h : AH} (hK4 : ∀ w2 w3 h, K4 w2 w3 h → AQ o kX11_standingOf h 4 [(0, .ref v0), (1, .ref v1), (2, .int w2), (3, .int w3)] [] (qI Q)) (H : B_X11_standingOf_37 Q K4 v0 v1 v3 t0 t1 t2 h) : AQ o kX11_standingOf h 37 [(0, .ref v0), (1, .ref v1), (3, .int v3)] [.int t2, .int t1, .int t0] (qI Q) := by
  refine r_Si (av := [.int t0, .int t1, .int t2]) (rest := []) rfl rfl okX5_withPost wd926 wd401 ⟨Nat.le_of_ble_eq_true rfl, Nat.le_of_ble_eq_true rfl⟩ (Nat.le_of_ble_eq_true rfl) dX11_standingOf_37 (s_X5_withPost H) (fun x1 h2 H => ?_)
  refine a_istore_n (lv1 := [(0, .ref v0), (1, .ref v1), (2, .int x1), (3, .int v3)]) rfl [1, 2, 0, 3] (by decide) rfl dX11_standingOf_40 ?_
  refine a_iinc (v := v3 + 1) (lv1 := [(0, .ref v0), (1, .ref v1), (2, .int x1), (3, .int (v3 + 1))]) [1, 2, 3, 0] 3 rfl (by decide) rfl rfl dX11_standingOf_41 ?_
  refine a_goto (tgt := 4) dX11_standingOf_44 (by decide) ?_
  exact hK4 _ _ _ H
def B_X11_standingOf_4 (Q : Int32 → AH → Prop) (K4 : Int32 → Int32 → AH → Prop) (v0 : Nat) (v1 : Nat) (v2 : Int32) (v3 : Int32) (h : AH) : Prop :=
  gR h v0 11 8 (fun a1 => gI h a1 5 5 (fun x2 => ((x2 ≤ v3 → Q v2 h) ∧ (¬ (x2 ≤ v3) → isO h v1 6 ∧ f_X6_get v1 v3 h (fun x3 h4 => ((¬ (x3 = (-9 : Int32)) → isO h4 v1 6 ∧ f_X6_get v1 v3 h4 (fun x5 h6 => B_X11_standingOf_37 Q K4 v0 v1 v3 v2 v3 x5 h6)) ∧ (x3 = (-9 : Int32) → B_X11_standingOf_37 Q K4 v0 v1 v3 v2 v3 (7 : Int32) h4)))))))
set_option maxRecDepth 100000 in
set_option maxHeartbeats 4000000 in
theorem b_X11_standingOf_4 {o : Om} {Q : Int32 → AH → Prop} {K4 : Int32 → Int32 → AH → Prop} {v0 : Nat} {v1 : Nat} {v2 : Int32} {v3 : Int32} {h : AH} (hK4 : ∀ w2 w3 h, K4 w2 w3 h → AQ o kX11_standingOf h 4 [(0, .ref v0), (1, .ref v1), (2, .int w2), (3, .int w3)] [] (qI Q)) (H : B_X11_standingOf_4 Q K4 v0 v1 v2 v3 h) : AQ o kX11_standingOf h 4 [(0, .ref v0), (1, .ref v1), (2, .int v2), (3, .int v3)] [] (qI Q) := by
  refine a_iload_n 3 rfl rfl dX11_standingOf_4 ?_
  refine a_aload_n 0 rfl rfl dX11_standingOf_5 ?_
  refine r_gR fo_RX11_60_11 dX11_standingOf_6 H (fun a1 H => ?_)
  refine r_gI fo_RX11_146_5 dX11_standingOf_9 H (fun x2 H => ?_)
  refine a_icmp_ge (tgt := 47) dX11_standingOf_12 (by decide) (fun c => ?_) (fun c => ?_)
  · have H := H.1 (c)
    refine a_iload_n 2 rfl rfl dX11_standingOf_47 ?_
    exact r_reti rfl dX11_standingOf_48 H
  · have H := H.2 (c)
    refine a_iload_n 2 rfl rfl dX11_standingOf_15 ?_
    refine a_iload_n 3 rfl rfl dX11_standingOf_16 ?_
    refine a_aload_n 1 rfl rfl dX11_standingOf_17 ?_
    refine a_iload_n 3 rfl rfl dX11_standingOf_18 ?_
    refine r_Vi (q := (RX6, TX6, 2)) (av := [.int v3]) (rest := [.int v3, .int v2]) rfl rfl okX6_get H.1 rfl rfl wd295 wd296 wd297 ⟨Nat.le_of_ble_eq_true rfl, Nat.le_of_ble_eq_true rfl⟩ (Nat.le_of_ble_eq_true rfl) dX11_standingOf_19 (s_X6_get H.2) (fun x3 h4 H => ?_)
    refine a_bipush (v := (-9 : Int32)) (by decide) dX11_standingOf_22 ?_
    refine a_icmp_ne (tgt := 32) dX11_standingOf_24 (by decide) (fun c => ?_) (fun c => ?_)
    · have H := H.1 (c)
      refine a_aload_n 1 rfl rfl dX11_standingOf_32 ?_
      refine a_iload_n 3 rfl rfl dX11_standingOf_33 ?_
      refine r_Vi (q := (RX6, TX6, 2)) (av := [.int v3]) (rest := [.int v3, .int v2]) rfl rfl okX6_get H.1 rfl rfl wd295 wd296 wd297 ⟨Nat.le_of_ble_eq_true rfl, Nat.le_of_ble_eq_true rfl⟩ (Nat.le_of_ble_eq_true rfl) dX11_standingOf_34 (s_X6_get H.2) (fun x5 h6 H => ?_)
      refine AQ.sub (lv1 := [(0, .ref v0), (1, .ref v1), (3, .int v3)]) [0, 1, 3] rfl ?_
      exact b_X11_standingOf_37 hK4 H
    · have H := H.2 (c)
      refine a_bipush (v := (7 : Int32)) (by decide) dX11_standingOf_27 ?_
      refine a_goto (tgt := 37) dX11_standingOf_29 (by decide) ?_
      refine AQ.sub (lv1 := [(0, .ref v0), (1, .ref v1), (3, .int v3)]) [0, 1, 3] rfl ?_
      exact b_X11_standingOf_37 hK4 H
def L_X11_standingOf_4 (Q : Int32 → AH → Prop)  (v0 : Nat) (v1 : Nat) : Nat → Int32 → Int32 → AH → Prop
  | 0, _, _, _ => False
  | n + 1, v2, v3, h => B_X11_standingOf_4 Q (L_X11_standingOf_4 Q  v0 v1 n) v0 v1 v2 v3 h
theorem l_X11_standingOf_4 {o : Om} {Q : Int32 → AH → Prop}  {v0 : Nat} {v1 : Nat}  : ∀ (n : Nat) (v2 : Int32) (v3 : Int32) (h : AH), L_X11_standingOf_4 Q  v0 v1 n v2 v3 h → AQ o kX11_standingOf h 4 [(0, .ref v0), (1, .ref v1), (2, .int v2), (3, .int v3)] [] (qI Q) := by
  intro n
  induction n with
  | zero => intro v2 v3 h H; exact H.elim
  | succ n ih => intro v2 v3 h H; exact b_X11_standingOf_4 ih H
def f_X11_standingOf (v0 : Nat) (v1 : Nat) (h : AH) (Q : Int32 → AH → Prop) : Prop :=
  ∃ n, L_X11_standingOf_4 Q  v0 v1 n (0 : Int32) (0 : Int32) h
set_option maxRecDepth 100000 in
set_option maxHeartbeats 4000000 in
theorem s_X11_standingOf {o : Om} {v0 : Nat} {v1 : Nat} {h : AH} {Q : Int32 → AH → Prop} (H : f_X11_standingOf v0 v1 h Q) : MQ' o kX11_standingOf [.ref v0, .ref v1] h (qI Q) := by
  refine MQ'.of (by decide +kernel) (Nat.le_of_ble_eq_true rfl) ?_
  show AQ o kX11_standingOf h 0 [(0, .ref v0), (1, .ref v1)] [] (qI Q)
  refine a_iconst (v := (0 : Int32)) (by decide) dX11_standingOf_0 ?_
  refine a_istore_n (lv1 := [(0, .ref v0), (1, .ref v1), (2, .int (0 : Int32))]) rfl [1, 2, 0] (by decide) rfl dX11_standingOf_1 ?_
  refine a_iconst (v := (0 : Int32)) (by decide) dX11_standingOf_2 ?_
  refine a_istore_n (lv1 := [(0, .ref v0), (1, .ref v1), (2, .int (0 : Int32)), (3, .int (0 : Int32))]) rfl [1, 2, 3, 0] (by decide) rfl dX11_standingOf_3 ?_
  obtain ⟨n, H⟩ := H
  exact l_X11_standingOf_4  n _ _ _ H
def B_X7_walkersOf_4 (Q : Int32 → AH → Prop) (K4 : Int32 → Int32 → AH → Prop) (v0 : Nat) (v1 : Int32) (v2 : Int32) (v3 : Int32) (h : AH) : Prop :=
  ((v1 ≤ v3 → Q v2 h) ∧ (¬ (v1 ≤ v3) → (((4 : Int32) ≤ v3 → Q v2 h) ∧ (¬ ((4 : Int32) ≤ v3) → gR h v0 7 1 (fun a1 => lI h a1 v3 (fun x2 => K4 (v2 ||| ((1 : Int32) <<< (x2 &&& 31))) (v3 + 1) h))))))
set_option maxRecDepth 100000 in
set_option maxHeartbeats 4000000 in
theorem b_X7_walkersOf_4 {o : Om} {Q : Int32 → AH → Prop} {K4 : Int32 → Int32 → AH → Prop} {v0 : Nat} {v1 : Int32} {v2 : Int32} {v3 : Int32} {h : AH} (hK4 : ∀ w2 w3 h, K4 w2 w3 h → AQ o kX7_walkersOf h 4 [(0, .ref v0), (1, .int v1), (2, .int w2), (3, .int w3)] [] (qI Q)) (H : B_X7_walkersOf_4 Q K4 v0 v1 v2 v3 h) : AQ o kX7_walkersOf h 4 [(0, .ref v0), (1, .int v1), (2, .int v2), (3, .int v3)] [] (qI Q) := by
  refine a_iload_n 3 rfl rfl dX7_walkersOf_4 ?_
  refine a_iload_n 1 rfl rfl dX7_walkersOf_5 ?_
  refine a_icmp_ge (tgt := 31) dX7_walkersOf_6 (by decide) (fun c => ?_) (fun c => ?_)
  · have H := H.1 (c)
    refine a_iload_n 2 rfl rfl dX7_walkersOf_31 ?_
    exact r_reti rfl dX7_walkersOf_32 H
  · have H := H.2 (c)
    refine a_iload_n 3 rfl rfl dX7_walkersOf_9 ?_
    refine a_iconst (v := (4 : Int32)) (by decide) dX7_walkersOf_10 ?_
    refine a_icmp_ge (tgt := 31) dX7_walkersOf_11 (by decide) (fun c => ?_) (fun c => ?_)
    · have H := H.1 (c)
      refine a_iload_n 2 rfl rfl dX7_walkersOf_31 ?_
      exact r_reti rfl dX7_walkersOf_32 H
    · have H := H.2 (c)
      refine a_iload_n 2 rfl rfl dX7_walkersOf_14 ?_
      refine a_iconst (v := (1 : Int32)) (by decide) dX7_walkersOf_15 ?_
      refine a_aload_n 0 rfl rfl dX7_walkersOf_16 ?_
      refine r_gR fo_RX7_11_7 dX7_walkersOf_17 H (fun a1 H => ?_)
      refine a_iload_n 3 rfl rfl dX7_walkersOf_20 ?_
      refine r_lI dX7_walkersOf_21 H (fun x2 H => ?_)
      refine a_ishl dX7_walkersOf_22 ?_
      refine a_ior dX7_walkersOf_23 ?_
      refine a_istore_n (lv1 := [(0, .ref v0), (1, .int v1), (2, .int (v2 ||| ((1 : Int32) <<< (x2 &&& 31)))), (3, .int v3)]) rfl [1, 2, 0, 3] (by decide) rfl dX7_walkersOf_24 ?_
      refine a_iinc (v := v3 + 1) (lv1 := [(0, .ref v0), (1, .int v1), (2, .int (v2 ||| ((1 : Int32) <<< (x2 &&& 31)))), (3, .int (v3 + 1))]) [1, 2, 3, 0] 3 rfl (by decide) rfl rfl dX7_walkersOf_25 ?_
      refine a_goto (tgt := 4) dX7_walkersOf_28 (by decide) ?_
      exact hK4 _ _ _ H
def L_X7_walkersOf_4 (Q : Int32 → AH → Prop)  (v0 : Nat) (v1 : Int32) : Nat → Int32 → Int32 → AH → Prop
  | 0, _, _, _ => False
  | n + 1, v2, v3, h => B_X7_walkersOf_4 Q (L_X7_walkersOf_4 Q  v0 v1 n) v0 v1 v2 v3 h
theorem l_X7_walkersOf_4 {o : Om} {Q : Int32 → AH → Prop}  {v0 : Nat} {v1 : Int32}  : ∀ (n : Nat) (v2 : Int32) (v3 : Int32) (h : AH), L_X7_walkersOf_4 Q  v0 v1 n v2 v3 h → AQ o kX7_walkersOf h 4 [(0, .ref v0), (1, .int v1), (2, .int v2), (3, .int v3)] [] (qI Q) := by
  intro n
  induction n with
  | zero => intro v2 v3 h H; exact H.elim
  | succ n ih => intro v2 v3 h H; exact b_X7_walkersOf_4 ih H
def f_X7_walkersOf (v0 : Nat) (v1 : Int32) (h : AH) (Q : Int32 → AH → Prop) : Prop :=
  ∃ n, L_X7_walkersOf_4 Q  v0 v1 n (0 : Int32) (0 : Int32) h
set_option maxRecDepth 100000 in
set_option maxHeartbeats 4000000 in
theorem s_X7_walkersOf {o : Om} {v0 : Nat} {v1 : Int32} {h : AH} {Q : Int32 → AH → Prop} (H : f_X7_walkersOf v0 v1 h Q) : MQ' o kX7_walkersOf [.ref v0, .int v1] h (qI Q) := by
  refine MQ'.of (by decide +kernel) (Nat.le_of_ble_eq_true rfl) ?_
  show AQ o kX7_walkersOf h 0 [(0, .ref v0), (1, .int v1)] [] (qI Q)
  refine a_iconst (v := (0 : Int32)) (by decide) dX7_walkersOf_0 ?_
  refine a_istore_n (lv1 := [(0, .ref v0), (1, .int v1), (2, .int (0 : Int32))]) rfl [1, 2, 0] (by decide) rfl dX7_walkersOf_1 ?_
  refine a_iconst (v := (0 : Int32)) (by decide) dX7_walkersOf_2 ?_
  refine a_istore_n (lv1 := [(0, .ref v0), (1, .int v1), (2, .int (0 : Int32)), (3, .int (0 : Int32))]) rfl [1, 2, 3, 0] (by decide) rfl dX7_walkersOf_3 ?_
  obtain ⟨n, H⟩ := H
  exact l_X7_walkersOf_4  n _ _ _ H
def B_X7_compareRowsTo_117 (Q : AH → Prop) (K28 : Int32 → AH → Prop) (v0 : Nat) (v1 : Int32) (v2 : Int32) (v3 : Int32) (v4 : Int32) (h : AH) : Prop :=
  isO h v0 7 ∧ f_X7_nextRow v0 v2 h (fun h1 => K28 (v4 + 1) h1)
set_option maxRecDepth 100000 in
set_option maxHeartbeats 4000000 in
theorem b_X7_compareRowsTo_117 {o : Om} {Q : AH → Prop} {K28 : Int32 → AH → Prop} {v0 : Nat} {v1 : Int32} {v2 : Int32} {v3 : Int32} {v4 : Int32} {h : AH} (hK28 : ∀ w4 h, K28 w4 h → AQ o kX7_compareRowsTo h 28 [(0, .ref v0), (1, .int v1), (2, .int v2), (3, .int v3), (4, .int w4)] [] (qV Q)) (H : B_X7_compareRowsTo_117 Q K28 v0 v1 v2 v3 v4 h) : AQ o kX7_compareRowsTo h 117 [(0, .ref v0), (1, .int v1), (2, .int v2), (3, .int v3), (4, .int v4)] [] (qV Q) := by
  refine a_aload_n 0 rfl rfl dX7_compareRowsTo_117 ?_
  refine a_iload_n 2 rfl rfl dX7_compareRowsTo_118 ?_
  refine r_Vv (q := (RX7, TX7, 17)) (av := [.int v2]) (rest := []) rfl rfl okX7_nextRow H.1 rfl rfl wd801 wd803 wp19 ⟨Nat.le_of_ble_eq_true rfl, Nat.le_of_ble_eq_true rfl⟩ (Nat.le_of_ble_eq_true rfl) dX7_compareRowsTo_119 (s_X7_nextRow H.2) (fun h1 H => ?_)
  refine a_iinc (v := v4 + 1) (lv1 := [(0, .ref v0), (1, .int v1), (2, .int v2), (3, .int v3), (4, .int (v4 + 1))]) [1, 2, 3, 4, 0] 4 rfl (by decide) rfl rfl dX7_compareRowsTo_122 ?_
  refine a_goto (tgt := 28) dX7_compareRowsTo_125 (by decide) ?_
  exact hK28 _ _ H
def B_X7_compareRowsTo_28 (Q : AH → Prop) (K28 : Int32 → AH → Prop) (v0 : Nat) (v1 : Int32) (v2 : Int32) (v3 : Int32) (v4 : Int32) (h : AH) : Prop :=
  ((v3 ≤ v4 → Q h) ∧ (¬ (v3 ≤ v4) → gR h v0 7 0 (fun a1 => gR h v0 7 4 (fun a2 => gI h v0 7 5 (fun x3 => gI h v0 7 6 (fun x4 => isO h a1 9 ∧ f_X9_begin a1 a2 x3 x4 h (fun h5 => gR h5 v0 7 0 (fun a6 => gR h5 v0 7 1 (fun a7 => isO h5 a6 9 ∧ f_X9_sendRow a6 a7 v2 h5 (fun h8 => gR h8 v0 7 0 (fun a9 => gI h8 a9 9 3 (fun x10 => ((¬ (x10 = v1) → B_X7_compareRowsTo_117 Q K28 v0 v1 v2 v3 v4 h8) ∧ (x10 = v1 → gI h8 v0 7 14 (fun x11 => pF h8 v0 7 14 (.int (x11 + (1 : Int32))) (fun h12 => gI h12 v0 7 15 (fun x13 => gR h12 v0 7 1 (fun a14 => lI h12 a14 (0 : Int32) (fun x15 => pF h12 v0 7 15 (.int (x13 ||| ((1 : Int32) <<< (x15 &&& 31)))) (fun h16 => gI h16 v0 7 16 (fun x17 => isO h16 v0 7 ∧ f_X7_walkersOf v0 v2 h16 (fun x18 h19 => pF h19 v0 7 16 (.int (x17 &&& x18)) (fun h20 => B_X7_compareRowsTo_117 Q K28 v0 v1 v2 v3 v4 h20)))))))))))))))))))))))
set_option maxRecDepth 100000 in
set_option maxHeartbeats 4000000 in
theorem b_X7_compareRowsTo_28 {o : Om} {Q : AH → Prop} {K28 : Int32 → AH → Prop} {v0 : Nat} {v1 : Int32} {v2 : Int32} {v3 : Int32} {v4 : Int32} {h : AH} (hK28 : ∀ w4 h, K28 w4 h → AQ o kX7_compareRowsTo h 28 [(0, .ref v0), (1, .int v1), (2, .int v2), (3, .int v3), (4, .int w4)] [] (qV Q)) (H : B_X7_compareRowsTo_28 Q K28 v0 v1 v2 v3 v4 h) : AQ o kX7_compareRowsTo h 28 [(0, .ref v0), (1, .int v1), (2, .int v2), (3, .int v3), (4, .int v4)] [] (qV Q) := by
  refine a_iload 4 rfl dX7_compareRowsTo_28 ?_
  refine a_iload_n 3 rfl rfl dX7_compareRowsTo_30 ?_
  refine a_icmp_ge (tgt := 128) dX7_compareRowsTo_31 (by decide) (fun c => ?_) (fun c => ?_)
  · have H := H.1 (c)
    exact r_retv rfl dX7_compareRowsTo_128 H
  · have H := H.2 (c)
    refine a_aload_n 0 rfl rfl dX7_compareRowsTo_34 ?_
    refine r_gR fo_RX7_68_7 dX7_compareRowsTo_35 H (fun a1 H => ?_)
    refine a_aload_n 0 rfl rfl dX7_compareRowsTo_38 ?_
    refine r_gR fo_RX7_59_7 dX7_compareRowsTo_39 H (fun a2 H => ?_)
    refine a_aload_n 0 rfl rfl dX7_compareRowsTo_42 ?_
    refine r_gI fo_RX7_21_7 dX7_compareRowsTo_43 H (fun x3 H => ?_)
    refine a_aload_n 0 rfl rfl dX7_compareRowsTo_46 ?_
    refine r_gI fo_RX7_25_7 dX7_compareRowsTo_47 H (fun x4 H => ?_)
    refine r_Vv (q := (RX9, TX9, 8)) (av := [.ref a2, .int x3, .int x4]) (rest := []) rfl rfl okX9_begin H.1 rfl rfl wd792 wd571 wd572 ⟨Nat.le_of_ble_eq_true rfl, Nat.le_of_ble_eq_true rfl⟩ (Nat.le_of_ble_eq_true rfl) dX7_compareRowsTo_50 (s_X9_begin H.2) (fun h5 H => ?_)
    refine a_aload_n 0 rfl rfl dX7_compareRowsTo_53 ?_
    refine r_gR fo_RX7_68_7 dX7_compareRowsTo_54 H (fun a6 H => ?_)
    refine a_aload_n 0 rfl rfl dX7_compareRowsTo_57 ?_
    refine r_gR fo_RX7_11_7 dX7_compareRowsTo_58 H (fun a7 H => ?_)
    refine a_iload_n 2 rfl rfl dX7_compareRowsTo_61 ?_
    refine r_Vv (q := (RX9, TX9, 8)) (av := [.ref a7, .int v2]) (rest := []) rfl rfl okX9_sendRow H.1 rfl rfl wd793 wd794 wd795 ⟨Nat.le_of_ble_eq_true rfl, Nat.le_of_ble_eq_true rfl⟩ (Nat.le_of_ble_eq_true rfl) dX7_compareRowsTo_62 (s_X9_sendRow H.2) (fun h8 H => ?_)
    refine a_aload_n 0 rfl rfl dX7_compareRowsTo_65 ?_
    refine r_gR fo_RX7_68_7 dX7_compareRowsTo_66 H (fun a9 H => ?_)
    refine r_gI fo_RX7_92_9 dX7_compareRowsTo_69 H (fun x10 H => ?_)
    refine a_iload_n 1 rfl rfl dX7_compareRowsTo_72 ?_
    refine a_icmp_ne (tgt := 117) dX7_compareRowsTo_73 (by decide) (fun c => ?_) (fun c => ?_)
    · have H := H.1 (c)
      exact b_X7_compareRowsTo_117 hK28 H
    · have H := H.2 (c)
      refine a_aload_n 0 rfl rfl dX7_compareRowsTo_76 ?_
      refine a_dup rfl dX7_compareRowsTo_77 ?_
      refine r_gI fo_RX7_50_7 dX7_compareRowsTo_78 H (fun x11 H => ?_)
      refine a_iconst (v := (1 : Int32)) (by decide) dX7_compareRowsTo_81 ?_
      refine a_iadd dX7_compareRowsTo_82 ?_
      refine r_pF (po_RX7_50_7 _) (fun _ => rfl) (fun _ => rfl) dX7_compareRowsTo_83 H (fun h12 H => ?_)
      refine a_aload_n 0 rfl rfl dX7_compareRowsTo_86 ?_
      refine a_dup rfl dX7_compareRowsTo_87 ?_
      refine r_gI fo_RX7_53_7 dX7_compareRowsTo_88 H (fun x13 H => ?_)
      refine a_iconst (v := (1 : Int32)) (by decide) dX7_compareRowsTo_91 ?_
      refine a_aload_n 0 rfl rfl dX7_compareRowsTo_92 ?_
      refine r_gR fo_RX7_11_7 dX7_compareRowsTo_93 H (fun a14 H => ?_)
      refine a_iconst (v := (0 : Int32)) (by decide) dX7_compareRowsTo_96 ?_
      refine r_lI dX7_compareRowsTo_97 H (fun x15 H => ?_)
      refine a_ishl dX7_compareRowsTo_98 ?_
      refine a_ior dX7_compareRowsTo_99 ?_
      refine r_pF (po_RX7_53_7 _) (fun _ => rfl) (fun _ => rfl) dX7_compareRowsTo_100 H (fun h16 H => ?_)
      refine a_aload_n 0 rfl rfl dX7_compareRowsTo_103 ?_
      refine a_dup rfl dX7_compareRowsTo_104 ?_
      refine r_gI fo_RX7_56_7 dX7_compareRowsTo_105 H (fun x17 H => ?_)
      refine a_aload_n 0 rfl rfl dX7_compareRowsTo_108 ?_
      refine a_iload_n 2 rfl rfl dX7_compareRowsTo_109 ?_
      refine r_Vi (q := (RX7, TX7, 17)) (av := [.int v2]) (rest := [.int x17, .ref v0]) rfl rfl okX7_walkersOf H.1 rfl rfl wd935 wd937 wp28 ⟨Nat.le_of_ble_eq_true rfl, Nat.le_of_ble_eq_true rfl⟩ (Nat.le_of_ble_eq_true rfl) dX7_compareRowsTo_110 (s_X7_walkersOf H.2) (fun x18 h19 H => ?_)
      refine a_iand dX7_compareRowsTo_113 ?_
      refine r_pF (po_RX7_56_7 _) (fun _ => rfl) (fun _ => rfl) dX7_compareRowsTo_114 H (fun h20 H => ?_)
      exact b_X7_compareRowsTo_117 hK28 H
def L_X7_compareRowsTo_28 (Q : AH → Prop)  (v0 : Nat) (v1 : Int32) (v2 : Int32) (v3 : Int32) : Nat → Int32 → AH → Prop
  | 0, _, _ => False
  | n + 1, v4, h => B_X7_compareRowsTo_28 Q (L_X7_compareRowsTo_28 Q  v0 v1 v2 v3 n) v0 v1 v2 v3 v4 h
theorem l_X7_compareRowsTo_28 {o : Om} {Q : AH → Prop}  {v0 : Nat} {v1 : Int32} {v2 : Int32} {v3 : Int32}  : ∀ (n : Nat) (v4 : Int32) (h : AH), L_X7_compareRowsTo_28 Q  v0 v1 v2 v3 n v4 h → AQ o kX7_compareRowsTo h 28 [(0, .ref v0), (1, .int v1), (2, .int v2), (3, .int v3), (4, .int v4)] [] (qV Q) := by
  intro n
  induction n with
  | zero => intro v4 h H; exact H.elim
  | succ n ih => intro v4 h H; exact b_X7_compareRowsTo_28 ih H
def f_X7_compareRowsTo (v0 : Nat) (v1 : Int32) (v2 : Int32) (h : AH) (Q : AH → Prop) : Prop :=
  pF h v0 7 14 (.int (0 : Int32)) (fun h1 => pF h1 v0 7 15 (.int (0 : Int32)) (fun h2 => pF h2 v0 7 16 (.int (-1 : Int32)) (fun h3 => isO h3 v0 7 ∧ f_X7_rowsOf v0 v2 h3 (fun x4 h5 => isO h5 v0 7 ∧ f_X7_firstRow v0  h5 (fun h6 => ∃ n, L_X7_compareRowsTo_28 Q  v0 v1 v2 x4 n (0 : Int32) h6)))))
set_option maxRecDepth 100000 in
set_option maxHeartbeats 4000000 in
theorem s_X7_compareRowsTo {o : Om} {v0 : Nat} {v1 : Int32} {v2 : Int32} {h : AH} {Q : AH → Prop} (H : f_X7_compareRowsTo v0 v1 v2 h Q) : MQ' o kX7_compareRowsTo [.ref v0, .int v1, .int v2] h (qV Q) := by
  refine MQ'.of (by decide +kernel) (Nat.le_of_ble_eq_true rfl) ?_
  show AQ o kX7_compareRowsTo h 0 [(0, .ref v0), (1, .int v1), (2, .int v2)] [] (qV Q)
  refine a_aload_n 0 rfl rfl dX7_compareRowsTo_0 ?_
  refine a_iconst (v := (0 : Int32)) (by decide) dX7_compareRowsTo_1 ?_
  refine r_pF (po_RX7_50_7 _) (fun _ => rfl) (fun _ => rfl) dX7_compareRowsTo_2 H (fun h1 H => ?_)
  refine a_aload_n 0 rfl rfl dX7_compareRowsTo_5 ?_
  refine a_iconst (v := (0 : Int32)) (by decide) dX7_compareRowsTo_6 ?_
  refine r_pF (po_RX7_53_7 _) (fun _ => rfl) (fun _ => rfl) dX7_compareRowsTo_7 H (fun h2 H => ?_)
  refine a_aload_n 0 rfl rfl dX7_compareRowsTo_10 ?_
  refine a_iconst (v := (-1 : Int32)) (by decide) dX7_compareRowsTo_11 ?_
  refine r_pF (po_RX7_56_7 _) (fun _ => rfl) (fun _ => rfl) dX7_compareRowsTo_12 H (fun h3 H => ?_)
  refine a_aload_n 0 rfl rfl dX7_compareRowsTo_15 ?_
  refine a_iload_n 2 rfl rfl dX7_compareRowsTo_16 ?_
  refine r_Vi (q := (RX7, TX7, 17)) (av := [.int v2]) (rest := []) rfl rfl okX7_rowsOf H.1 rfl rfl wd783 wd784 wd785 ⟨Nat.le_of_ble_eq_true rfl, Nat.le_of_ble_eq_true rfl⟩ (Nat.le_of_ble_eq_true rfl) dX7_compareRowsTo_17 (s_X7_rowsOf H.2) (fun x4 h5 H => ?_)
  refine a_istore_n (lv1 := [(0, .ref v0), (1, .int v1), (2, .int v2), (3, .int x4)]) rfl [1, 2, 3, 0] (by decide) rfl dX7_compareRowsTo_20 ?_
  refine a_aload_n 0 rfl rfl dX7_compareRowsTo_21 ?_
  refine r_Vv (q := (RX7, TX7, 17)) (av := []) (rest := []) rfl rfl okX7_firstRow H.1 rfl rfl wd787 wd789 wp17 ⟨Nat.le_of_ble_eq_true rfl, Nat.le_of_ble_eq_true rfl⟩ (Nat.le_of_ble_eq_true rfl) dX7_compareRowsTo_22 (s_X7_firstRow H.2) (fun h6 H => ?_)
  refine a_iconst (v := (0 : Int32)) (by decide) dX7_compareRowsTo_25 ?_
  refine a_istore (lv1 := [(0, .ref v0), (1, .int v1), (2, .int v2), (3, .int x4), (4, .int (0 : Int32))]) [1, 2, 3, 4, 0] (by decide) rfl dX7_compareRowsTo_26 ?_
  obtain ⟨n, H⟩ := H
  exact l_X7_compareRowsTo_28  n _ _ H
def B_X7_fewestTo_2 (Q : Int32 → AH → Prop) (K2 : Int32 → AH → Prop) (v0 : Nat) (v1 : Int32) (v2 : Int32) (h : AH) : Prop :=
  (((4 : Int32) < v2 → Q (-9 : Int32) h) ∧ (¬ ((4 : Int32) < v2) → isO h v0 7 ∧ f_X7_compareRowsTo v0 v1 v2 h (fun h1 => gI h1 v0 7 14 (fun x2 => ((x2 ≤ 0 → K2 (v2 + 1) h1) ∧ (¬ (x2 ≤ 0) → Q v2 h1))))))
set_option maxRecDepth 100000 in
set_option maxHeartbeats 4000000 in
theorem b_X7_fewestTo_2 {o : Om} {Q : Int32 → AH → Prop} {K2 : Int32 → AH → Prop} {v0 : Nat} {v1 : Int32} {v2 : Int32} {h : AH} (hK2 : ∀ w2 h, K2 w2 h → AQ o kX7_fewestTo h 2 [(0, .ref v0), (1, .int v1), (2, .int w2)] [] (qI Q)) (H : B_X7_fewestTo_2 Q K2 v0 v1 v2 h) : AQ o kX7_fewestTo h 2 [(0, .ref v0), (1, .int v1), (2, .int v2)] [] (qI Q) := by
  refine a_iload_n 2 rfl rfl dX7_fewestTo_2 ?_
  refine a_iconst (v := (4 : Int32)) (by decide) dX7_fewestTo_3 ?_
  refine a_icmp_gt (tgt := 28) dX7_fewestTo_4 (by decide) (fun c => ?_) (fun c => ?_)
  · have H := H.1 (c)
    refine a_bipush (v := (-9 : Int32)) (by decide) dX7_fewestTo_28 ?_
    exact r_reti rfl dX7_fewestTo_30 H
  · have H := H.2 (c)
    refine a_aload_n 0 rfl rfl dX7_fewestTo_7 ?_
    refine a_iload_n 1 rfl rfl dX7_fewestTo_8 ?_
    refine a_iload_n 2 rfl rfl dX7_fewestTo_9 ?_
    refine r_Vv (q := (RX7, TX7, 17)) (av := [.int v1, .int v2]) (rest := []) rfl rfl okX7_compareRowsTo H.1 rfl rfl wd931 wd933 wp27 ⟨Nat.le_of_ble_eq_true rfl, Nat.le_of_ble_eq_true rfl⟩ (Nat.le_of_ble_eq_true rfl) dX7_fewestTo_10 (s_X7_compareRowsTo H.2) (fun h1 H => ?_)
    refine a_aload_n 0 rfl rfl dX7_fewestTo_13 ?_
    refine r_gI fo_RX7_50_7 dX7_fewestTo_14 H (fun x2 H => ?_)
    refine a_if_le (tgt := 22) dX7_fewestTo_17 (by decide) (fun c => ?_) (fun c => ?_)
    · have H := H.1 (c)
      refine a_iinc (v := v2 + 1) (lv1 := [(0, .ref v0), (1, .int v1), (2, .int (v2 + 1))]) [1, 2, 0] 2 rfl (by decide) rfl rfl dX7_fewestTo_22 ?_
      refine a_goto (tgt := 2) dX7_fewestTo_25 (by decide) ?_
      exact hK2 _ _ H
    · have H := H.2 (c)
      refine a_iload_n 2 rfl rfl dX7_fewestTo_20 ?_
      exact r_reti rfl dX7_fewestTo_21 H
def L_X7_fewestTo_2 (Q : Int32 → AH → Prop)  (v0 : Nat) (v1 : Int32) : Nat → Int32 → AH → Prop
  | 0, _, _ => False
  | n + 1, v2, h => B_X7_fewestTo_2 Q (L_X7_fewestTo_2 Q  v0 v1 n) v0 v1 v2 h
theorem l_X7_fewestTo_2 {o : Om} {Q : Int32 → AH → Prop}  {v0 : Nat} {v1 : Int32}  : ∀ (n : Nat) (v2 : Int32) (h : AH), L_X7_fewestTo_2 Q  v0 v1 n v2 h → AQ o kX7_fewestTo h 2 [(0, .ref v0), (1, .int v1), (2, .int v2)] [] (qI Q) := by
  intro n
  induction n with
  | zero => intro v2 h H; exact H.elim
  | succ n ih => intro v2 h H; exact b_X7_fewestTo_2 ih H
def f_X7_fewestTo (v0 : Nat) (v1 : Int32) (h : AH) (Q : Int32 → AH → Prop) : Prop :=
  ∃ n, L_X7_fewestTo_2 Q  v0 v1 n (0 : Int32) h
set_option maxRecDepth 100000 in
set_option maxHeartbeats 4000000 in
theorem s_X7_fewestTo {o : Om} {v0 : Nat} {v1 : Int32} {h : AH} {Q : Int32 → AH → Prop} (H : f_X7_fewestTo v0 v1 h Q) : MQ' o kX7_fewestTo [.ref v0, .int v1] h (qI Q) := by
  refine MQ'.of (by decide +kernel) (Nat.le_of_ble_eq_true rfl) ?_
  show AQ o kX7_fewestTo h 0 [(0, .ref v0), (1, .int v1)] [] (qI Q)
  refine a_iconst (v := (0 : Int32)) (by decide) dX7_fewestTo_0 ?_
  refine a_istore_n (lv1 := [(0, .ref v0), (1, .int v1), (2, .int (0 : Int32))]) rfl [1, 2, 0] (by decide) rfl dX7_fewestTo_1 ?_
  obtain ⟨n, H⟩ := H
  exact l_X7_fewestTo_2  n _ _ H
def f_X11_moved (v0 : Nat) (v1 : Int32) (h : AH) (Q : Int32 → AH → Prop) : Prop :=
  isO h v0 11 ∧ f_X11_refuseStanding v0 v1 h (fun x1 h2 => ((x1 = 0 → gR h2 v0 11 7 (fun a3 => gR h2 v0 11 8 (fun a4 => gI h2 v0 11 9 (fun x5 => gI h2 v0 11 10 (fun x6 => isO h2 a3 7 ∧ f_X7_from a3 a4 x5 x6 h2 (fun h7 => gR h7 v0 11 7 (fun a8 => gR h7 v0 11 0 (fun a9 => lQ h7 a9 2 v1 (fun a10 => isO h7 v0 11 ∧ f_X11_standingOf v0 a10 h7 (fun x11 h12 => isO h12 a8 7 ∧ f_X7_fewestTo a8 x11 h12 (fun x13 h14 => ((x13 < 0 → Q x13 h14) ∧ (¬ (x13 < 0) → gR h14 v0 11 7 (fun a15 => gI h14 a15 7 14 (fun x16 => pF h14 v0 11 12 (.int x16) (fun h17 => Q x13 h17)))))))))))))))) ∧ (¬ (x1 = 0) → Q x1 h2)))
set_option maxRecDepth 100000 in
set_option maxHeartbeats 4000000 in
theorem s_X11_moved {o : Om} {v0 : Nat} {v1 : Int32} {h : AH} {Q : Int32 → AH → Prop} (H : f_X11_moved v0 v1 h Q) : MQ' o kX11_moved [.ref v0, .int v1] h (qI Q) := by
  refine MQ'.of (by decide +kernel) (Nat.le_of_ble_eq_true rfl) ?_
  show AQ o kX11_moved h 0 [(0, .ref v0), (1, .int v1)] [] (qI Q)
  refine a_aload_n 0 rfl rfl dX11_moved_0 ?_
  refine a_iload_n 1 rfl rfl dX11_moved_1 ?_
  refine r_Vi (q := (RX11, TX11, 16)) (av := [.int v1]) (rest := []) rfl rfl okX11_refuseStanding H.1 rfl rfl wd918 wd920 wp25 ⟨Nat.le_of_ble_eq_true rfl, Nat.le_of_ble_eq_true rfl⟩ (Nat.le_of_ble_eq_true rfl) dX11_moved_2 (s_X11_refuseStanding H.2) (fun x1 h2 H => ?_)
  refine a_istore_n (lv1 := [(0, .ref v0), (1, .int v1), (2, .int x1)]) rfl [1, 2, 0] (by decide) rfl dX11_moved_5 ?_
  refine a_iload_n 2 rfl rfl dX11_moved_6 ?_
  refine a_if_eq (tgt := 12) dX11_moved_7 (by decide) (fun c => ?_) (fun c => ?_)
  · have H := H.1 (c)
    refine a_aload_n 0 rfl rfl dX11_moved_12 ?_
    refine r_gR fo_RX11_74_11 dX11_moved_13 H (fun a3 H => ?_)
    refine a_aload_n 0 rfl rfl dX11_moved_16 ?_
    refine r_gR fo_RX11_60_11 dX11_moved_17 H (fun a4 H => ?_)
    refine a_aload_n 0 rfl rfl dX11_moved_20 ?_
    refine r_gI fo_RX11_34_11 dX11_moved_21 H (fun x5 H => ?_)
    refine a_aload_n 0 rfl rfl dX11_moved_24 ?_
    refine r_gI fo_RX11_38_11 dX11_moved_25 H (fun x6 H => ?_)
    refine r_Vv (q := (RX7, TX7, 17)) (av := [.ref a4, .int x5, .int x6]) (rest := []) rfl rfl okX7_from H.1 rfl rfl wd775 wd776 wd777 ⟨Nat.le_of_ble_eq_true rfl, Nat.le_of_ble_eq_true rfl⟩ (Nat.le_of_ble_eq_true rfl) dX11_moved_28 (s_X7_from H.2) (fun h7 H => ?_)
    refine a_aload_n 0 rfl rfl dX11_moved_31 ?_
    refine r_gR fo_RX11_74_11 dX11_moved_32 H (fun a8 H => ?_)
    refine a_aload_n 0 rfl rfl dX11_moved_35 ?_
    refine a_aload_n 0 rfl rfl dX11_moved_36 ?_
    refine r_gR fo_RX11_11_11 dX11_moved_37 H (fun a9 H => ?_)
    refine a_iload_n 1 rfl rfl dX11_moved_40 ?_
    refine r_lQ (by decide) dX11_moved_41 H (fun a10 H => ?_)
    refine r_Vi (q := (RX11, TX11, 16)) (av := [.ref a10]) (rest := [.ref a8]) rfl rfl okX11_standingOf H.1 rfl rfl wd922 wd924 wp26 ⟨Nat.le_of_ble_eq_true rfl, Nat.le_of_ble_eq_true rfl⟩ (Nat.le_of_ble_eq_true rfl) dX11_moved_42 (s_X11_standingOf H.2) (fun x11 h12 H => ?_)
    refine r_Vi (q := (RX7, TX7, 17)) (av := [.int x11]) (rest := []) rfl rfl okX7_fewestTo H.1 rfl rfl wd927 wd928 wd929 ⟨Nat.le_of_ble_eq_true rfl, Nat.le_of_ble_eq_true rfl⟩ (Nat.le_of_ble_eq_true rfl) dX11_moved_45 (s_X7_fewestTo H.2) (fun x13 h14 H => ?_)
    refine a_istore_n (lv1 := [(0, .ref v0), (1, .int v1), (2, .int x1), (3, .int x13)]) rfl [1, 2, 3, 0] (by decide) rfl dX11_moved_48 ?_
    refine a_iload_n 3 rfl rfl dX11_moved_49 ?_
    refine a_if_lt (tgt := 64) dX11_moved_50 (by decide) (fun c => ?_) (fun c => ?_)
    · have H := H.1 (c)
      refine a_iload_n 3 rfl rfl dX11_moved_64 ?_
      exact r_reti rfl dX11_moved_65 H
    · have H := H.2 (c)
      refine a_aload_n 0 rfl rfl dX11_moved_53 ?_
      refine a_aload_n 0 rfl rfl dX11_moved_54 ?_
      refine r_gR fo_RX11_74_11 dX11_moved_55 H (fun a15 H => ?_)
      refine r_gI fo_RX11_264_7 dX11_moved_58 H (fun x16 H => ?_)
      refine r_pF (po_RX11_44_11 _) (fun _ => rfl) (fun _ => rfl) dX11_moved_61 H (fun h17 H => ?_)
      refine a_iload_n 3 rfl rfl dX11_moved_64 ?_
      exact r_reti rfl dX11_moved_65 H
  · have H := H.2 (c)
    refine a_iload_n 2 rfl rfl dX11_moved_10 ?_
    exact r_reti rfl dX11_moved_11 H
def B_X12_bars_86 (Q : Int32 → AH → Prop) (K33 : Int32 → AH → Prop) (v0 : Nat) (v1 : Int32) (v2 : Int32) (t0 : Nat) (t1 : Int32) (t2 : Int32) (h : AH) : Prop :=
  pF h t0 12 50 (.int (t1 ||| (t2 <<< (((3 : Int32) * v2) &&& 31)))) (fun h1 => K33 (v2 + 1) h1)
set_option maxRecDepth 100000 in
set_option maxHeartbeats 4000000 in
theorem b_X12_bars_86 {o : Om} {Q : Int32 → AH → Prop} {K33 : Int32 → AH → Prop} {v0 : Nat} {v1 : Int32} {v2 : Int32} {t0 : Nat} {t1 : Int32} {t2 : Int32} {h : AH} (hK33 : ∀ w2 h, K33 w2 h → AQ o kX12_bars h 33 [(0, .ref v0), (1, .int v1), (2, .int w2)] [] (qI Q)) (H : B_X12_bars_86 Q K33 v0 v1 v2 t0 t1 t2 h) : AQ o kX12_bars h 86 [(0, .ref v0), (1, .int v1), (2, .int v2)] [.int t2, .int t1, .ref t0] (qI Q) := by
  refine a_iconst (v := (3 : Int32)) (by decide) dX12_bars_86 ?_
  refine a_iload_n 2 rfl rfl dX12_bars_87 ?_
  refine a_imul dX12_bars_88 ?_
  refine a_ishl dX12_bars_89 ?_
  refine a_ior dX12_bars_90 ?_
  refine r_pF (po_RX12_299_12 _) (fun _ => rfl) (fun _ => rfl) dX12_bars_91 H (fun h1 H => ?_)
  refine a_iinc (v := v2 + 1) (lv1 := [(0, .ref v0), (1, .int v1), (2, .int (v2 + 1))]) [1, 2, 0] 2 rfl (by decide) rfl rfl dX12_bars_94 ?_
  refine a_goto (tgt := 33) dX12_bars_97 (by decide) ?_
  exact hK33 _ _ H
def B_X12_bars_69 (Q : Int32 → AH → Prop) (K33 : Int32 → AH → Prop) (v0 : Nat) (v1 : Int32) (v2 : Int32) (v3 : Int32) (h : AH) : Prop :=
  gI h v0 12 50 (fun x1 => ((¬ (v3 = (-9 : Int32)) → B_X12_bars_86 Q K33 v0 v1 v2 v0 x1 v3 h) ∧ (v3 = (-9 : Int32) → B_X12_bars_86 Q K33 v0 v1 v2 v0 x1 (7 : Int32) h)))
set_option maxRecDepth 100000 in
set_option maxHeartbeats 4000000 in
theorem b_X12_bars_69 {o : Om} {Q : Int32 → AH → Prop} {K33 : Int32 → AH → Prop} {v0 : Nat} {v1 : Int32} {v2 : Int32} {v3 : Int32} {h : AH} (hK33 : ∀ w2 h, K33 w2 h → AQ o kX12_bars h 33 [(0, .ref v0), (1, .int v1), (2, .int w2)] [] (qI Q)) (H : B_X12_bars_69 Q K33 v0 v1 v2 v3 h) : AQ o kX12_bars h 69 [(0, .ref v0), (1, .int v1), (2, .int v2), (3, .int v3)] [] (qI Q) := by
  refine a_aload_n 0 rfl rfl dX12_bars_69 ?_
  refine a_dup rfl dX12_bars_70 ?_
  refine r_gI fo_RX12_299_12 dX12_bars_71 H (fun x1 H => ?_)
  refine a_iload_n 3 rfl rfl dX12_bars_74 ?_
  refine a_bipush (v := (-9 : Int32)) (by decide) dX12_bars_75 ?_
  refine a_icmp_ne (tgt := 85) dX12_bars_77 (by decide) (fun c => ?_) (fun c => ?_)
  · have H := H.1 (c)
    refine a_iload_n 3 rfl rfl dX12_bars_85 ?_
    refine AQ.sub (lv1 := [(0, .ref v0), (1, .int v1), (2, .int v2)]) [0, 1, 2] rfl ?_
    exact b_X12_bars_86 hK33 H
  · have H := H.2 (c)
    refine a_bipush (v := (7 : Int32)) (by decide) dX12_bars_80 ?_
    refine a_goto (tgt := 86) dX12_bars_82 (by decide) ?_
    refine AQ.sub (lv1 := [(0, .ref v0), (1, .int v1), (2, .int v2)]) [0, 1, 2] rfl ?_
    exact b_X12_bars_86 hK33 H
def B_X12_bars_33 (Q : Int32 → AH → Prop) (K33 : Int32 → AH → Prop) (v0 : Nat) (v1 : Int32) (v2 : Int32) (h : AH) : Prop :=
  gI h v0 12 10 (fun x1 => ((x1 ≤ v2 → Q (0 : Int32) h) ∧ (¬ (x1 ≤ v2) → gR h v0 12 1 (fun a2 => lI h a2 (((60 : Int32) * v1) + v2) (fun x3 => ((x3 = (-9 : Int32) → B_X12_bars_69 Q K33 v0 v1 v2 x3 h) ∧ (¬ (x3 = (-9 : Int32)) → isO h v0 12 ∧ f_X12_isPost v0 x3 h (fun x4 h5 => ((¬ (x4 = 0) → B_X12_bars_69 Q K33 v0 v1 v2 x3 h5) ∧ (x4 = 0 → Q (3 : Int32) h5))))))))))
set_option maxRecDepth 100000 in
set_option maxHeartbeats 4000000 in
theorem b_X12_bars_33 {o : Om} {Q : Int32 → AH → Prop} {K33 : Int32 → AH → Prop} {v0 : Nat} {v1 : Int32} {v2 : Int32} {h : AH} (hK33 : ∀ w2 h, K33 w2 h → AQ o kX12_bars h 33 [(0, .ref v0), (1, .int v1), (2, .int w2)] [] (qI Q)) (H : B_X12_bars_33 Q K33 v0 v1 v2 h) : AQ o kX12_bars h 33 [(0, .ref v0), (1, .int v1), (2, .int v2)] [] (qI Q) := by
  refine a_iload_n 2 rfl rfl dX12_bars_33 ?_
  refine a_aload_n 0 rfl rfl dX12_bars_34 ?_
  refine r_gI fo_RX12_178_12 dX12_bars_35 H (fun x1 H => ?_)
  refine a_icmp_ge (tgt := 100) dX12_bars_38 (by decide) (fun c => ?_) (fun c => ?_)
  · have H := H.1 (c)
    refine a_iconst (v := (0 : Int32)) (by decide) dX12_bars_100 ?_
    exact r_reti rfl dX12_bars_101 H
  · have H := H.2 (c)
    refine a_aload_n 0 rfl rfl dX12_bars_41 ?_
    refine r_gR fo_RX12_13_12 dX12_bars_42 H (fun a2 H => ?_)
    refine a_bipush (v := (60 : Int32)) (by decide) dX12_bars_45 ?_
    refine a_iload_n 1 rfl rfl dX12_bars_47 ?_
    refine a_imul dX12_bars_48 ?_
    refine a_iload_n 2 rfl rfl dX12_bars_49 ?_
    refine a_iadd dX12_bars_50 ?_
    refine r_lI dX12_bars_51 H (fun x3 H => ?_)
    refine a_istore_n (lv1 := [(0, .ref v0), (1, .int v1), (2, .int v2), (3, .int x3)]) rfl [1, 2, 3, 0] (by decide) rfl dX12_bars_52 ?_
    refine a_iload_n 3 rfl rfl dX12_bars_53 ?_
    refine a_bipush (v := (-9 : Int32)) (by decide) dX12_bars_54 ?_
    refine a_icmp_eq (tgt := 69) dX12_bars_56 (by decide) (fun c => ?_) (fun c => ?_)
    · have H := H.1 (c)
      exact b_X12_bars_69 hK33 H
    · have H := H.2 (c)
      refine a_aload_n 0 rfl rfl dX12_bars_59 ?_
      refine a_iload_n 3 rfl rfl dX12_bars_60 ?_
      refine r_Vi (q := (RX12, TX12, 51)) (av := [.int x3]) (rest := []) rfl rfl okX12_isPost H.1 rfl rfl wd1391 wd1393 wp54 ⟨Nat.le_of_ble_eq_true rfl, Nat.le_of_ble_eq_true rfl⟩ (Nat.le_of_ble_eq_true rfl) dX12_bars_61 (s_X12_isPost H.2) (fun x4 h5 H => ?_)
      refine a_if_ne (tgt := 69) dX12_bars_64 (by decide) (fun c => ?_) (fun c => ?_)
      · have H := H.1 (c)
        exact b_X12_bars_69 hK33 H
      · have H := H.2 (c)
        refine a_iconst (v := (3 : Int32)) (by decide) dX12_bars_67 ?_
        exact r_reti rfl dX12_bars_68 H
def L_X12_bars_33 (Q : Int32 → AH → Prop)  (v0 : Nat) (v1 : Int32) : Nat → Int32 → AH → Prop
  | 0, _, _ => False
  | n + 1, v2, h => B_X12_bars_33 Q (L_X12_bars_33 Q  v0 v1 n) v0 v1 v2 h
theorem l_X12_bars_33 {o : Om} {Q : Int32 → AH → Prop}  {v0 : Nat} {v1 : Int32}  : ∀ (n : Nat) (v2 : Int32) (h : AH), L_X12_bars_33 Q  v0 v1 n v2 h → AQ o kX12_bars h 33 [(0, .ref v0), (1, .int v1), (2, .int v2)] [] (qI Q) := by
  intro n
  induction n with
  | zero => intro v2 h H; exact H.elim
  | succ n ih => intro v2 h H; exact b_X12_bars_33 ih H
def f_X12_bars (v0 : Nat) (v1 : Int32) (h : AH) (Q : Int32 → AH → Prop) : Prop :=
  gR h v0 12 0 (fun a1 => lI h a1 v1 (fun x2 => ((0 ≤ x2 → gR h v0 12 0 (fun a3 => lI h a3 v1 (fun x4 => gI h v0 12 10 (fun x5 => ((x4 = x5 → pF h v0 12 50 (.int (0 : Int32)) (fun h6 => ∃ n, L_X12_bars_33 Q  v0 v1 n (0 : Int32) h6)) ∧ (¬ (x4 = x5) → Q (5 : Int32) h)))))) ∧ (¬ (0 ≤ x2) → Q (1 : Int32) h))))
set_option maxRecDepth 100000 in
set_option maxHeartbeats 4000000 in
theorem s_X12_bars {o : Om} {v0 : Nat} {v1 : Int32} {h : AH} {Q : Int32 → AH → Prop} (H : f_X12_bars v0 v1 h Q) : MQ' o kX12_bars [.ref v0, .int v1] h (qI Q) := by
  refine MQ'.of (by decide +kernel) (Nat.le_of_ble_eq_true rfl) ?_
  show AQ o kX12_bars h 0 [(0, .ref v0), (1, .int v1)] [] (qI Q)
  refine a_aload_n 0 rfl rfl dX12_bars_0 ?_
  refine r_gR fo_RX12_7_12 dX12_bars_1 H (fun a1 H => ?_)
  refine a_iload_n 1 rfl rfl dX12_bars_4 ?_
  refine r_lI dX12_bars_5 H (fun x2 H => ?_)
  refine a_if_ge (tgt := 11) dX12_bars_6 (by decide) (fun c => ?_) (fun c => ?_)
  · have H := H.1 (c)
    refine a_aload_n 0 rfl rfl dX12_bars_11 ?_
    refine r_gR fo_RX12_7_12 dX12_bars_12 H (fun a3 H => ?_)
    refine a_iload_n 1 rfl rfl dX12_bars_15 ?_
    refine r_lI dX12_bars_16 H (fun x4 H => ?_)
    refine a_aload_n 0 rfl rfl dX12_bars_17 ?_
    refine r_gI fo_RX12_178_12 dX12_bars_18 H (fun x5 H => ?_)
    refine a_icmp_eq (tgt := 26) dX12_bars_21 (by decide) (fun c => ?_) (fun c => ?_)
    · have H := H.1 (c)
      refine a_aload_n 0 rfl rfl dX12_bars_26 ?_
      refine a_iconst (v := (0 : Int32)) (by decide) dX12_bars_27 ?_
      refine r_pF (po_RX12_299_12 _) (fun _ => rfl) (fun _ => rfl) dX12_bars_28 H (fun h6 H => ?_)
      refine a_iconst (v := (0 : Int32)) (by decide) dX12_bars_31 ?_
      refine a_istore_n (lv1 := [(0, .ref v0), (1, .int v1), (2, .int (0 : Int32))]) rfl [1, 2, 0] (by decide) rfl dX12_bars_32 ?_
      obtain ⟨n, H⟩ := H
      exact l_X12_bars_33  n _ _ H
    · have H := H.2 (c)
      refine a_iconst (v := (5 : Int32)) (by decide) dX12_bars_24 ?_
      exact r_reti rfl dX12_bars_25 H
  · have H := H.2 (c)
    refine a_iconst (v := (1 : Int32)) (by decide) dX12_bars_9 ?_
    exact r_reti rfl dX12_bars_10 H
def B_X12_looks_64 (Q : AH → Prop) (K25 : Int32 → AH → Prop) (K64 : Int32 → Int32 → Int32 → AH → Prop) (v0 : Nat) (v1 : Int32) (v2 : Int32) (v3 : Int32) (v4 : Int32) (v5 : Int32) (v6 : Int32) (v7 : Int32) (h : AH) : Prop :=
  ((v1 ≤ v7 → gI h v0 12 49 (fun x1 => pF h v0 12 49 (.int (x1 &&& v5)) (fun h2 => K25 (v4 + 1) h2))) ∧ (¬ (v1 ≤ v7) → gI h v0 12 12 (fun x3 => (¬ x3 = 0) ∧ ((¬ (v6 / x3) = 0) ∧ (gI h v0 12 12 (fun x4 => (¬ x4 = 0) ∧ (gI h v0 12 48 (fun x5 => ((¬ (v7 = 0) → pF h v0 12 48 (.int (x5 ||| (0 : Int32))) (fun h6 => K64 (v5 ||| ((1 : Int32) <<< (((v4 / (v6 / x3)) - (v4 / (v6 / x3)) / x4 * x4) &&& 31))) (v6 / x3) (v7 + 1) h6)) ∧ (v7 = 0 → pF h v0 12 48 (.int (x5 ||| ((1 : Int32) <<< (((v4 / (v6 / x3)) - (v4 / (v6 / x3)) / x4 * x4) &&& 31)))) (fun h7 => K64 (v5 ||| ((1 : Int32) <<< (((v4 / (v6 / x3)) - (v4 / (v6 / x3)) / x4 * x4) &&& 31))) (v6 / x3) (v7 + 1) h7)))))))))))
set_option maxRecDepth 100000 in
set_option maxHeartbeats 4000000 in
theorem b_X12_looks_64 {o : Om} {Q : AH → Prop} {K25 : Int32 → AH → Prop} {K64 : Int32 → Int32 → Int32 → AH → Prop} {v0 : Nat} {v1 : Int32} {v2 : Int32} {v3 : Int32} {v4 : Int32} {v5 : Int32} {v6 : Int32} {v7 : Int32} {h : AH} (hK25 : ∀ w4 h, K25 w4 h → AQ o kX12_looks h 25 [(0, .ref v0), (1, .int v1), (2, .int v2), (3, .int v3), (4, .int w4)] [] (qV Q)) (hK64 : ∀ w5 w6 w7 h, K64 w5 w6 w7 h → AQ o kX12_looks h 64 [(0, .ref v0), (1, .int v1), (2, .int v2), (3, .int v3), (4, .int v4), (5, .int w5), (6, .int w6), (7, .int w7)] [] (qV Q)) (H : B_X12_looks_64 Q K25 K64 v0 v1 v2 v3 v4 v5 v6 v7 h) : AQ o kX12_looks h 64 [(0, .ref v0), (1, .int v1), (2, .int v2), (3, .int v3), (4, .int v4), (5, .int v5), (6, .int v6), (7, .int v7)] [] (qV Q) := by
  refine a_iload 7 rfl dX12_looks_64 ?_
  refine a_iload_n 1 rfl rfl dX12_looks_66 ?_
  refine a_icmp_ge (tgt := 128) dX12_looks_67 (by decide) (fun c => ?_) (fun c => ?_)
  · have H := H.1 (c)
    refine a_aload_n 0 rfl rfl dX12_looks_128 ?_
    refine a_dup rfl dX12_looks_129 ?_
    refine r_gI fo_RX12_296_12 dX12_looks_130 H (fun x1 H => ?_)
    refine a_iload 5 rfl dX12_looks_133 ?_
    refine a_iand dX12_looks_135 ?_
    refine r_pF (po_RX12_296_12 _) (fun _ => rfl) (fun _ => rfl) dX12_looks_136 H (fun h2 H => ?_)
    refine a_iinc (v := v4 + 1) (lv1 := [(0, .ref v0), (1, .int v1), (2, .int v2), (3, .int v3), (4, .int (v4 + 1)), (5, .int v5), (6, .int v6), (7, .int v7)]) [1, 2, 3, 4, 0, 5, 6, 7] 4 rfl (by decide) rfl rfl dX12_looks_139 ?_
    refine a_goto (tgt := 25) dX12_looks_142 (by decide) ?_
    refine AQ.sub (lv1 := [(0, .ref v0), (1, .int v1), (2, .int v2), (3, .int v3), (4, .int (v4 + 1))]) [0, 1, 2, 3, 4] rfl ?_
    exact hK25 _ _ H
  · have H := H.2 (c)
    refine a_iload 6 rfl dX12_looks_70 ?_
    refine a_aload_n 0 rfl rfl dX12_looks_72 ?_
    refine r_gI fo_RX12_181_12 dX12_looks_73 H (fun x3 H => ?_)
    refine a_idiv H.1 dX12_looks_76 ?_
    have H := H.2
    refine a_istore (lv1 := [(0, .ref v0), (1, .int v1), (2, .int v2), (3, .int v3), (4, .int v4), (5, .int v5), (6, .int (v6 / x3)), (7, .int v7)]) [1, 2, 3, 4, 5, 6, 0, 7] (by decide) rfl dX12_looks_77 ?_
    refine a_iload 4 rfl dX12_looks_79 ?_
    refine a_iload 6 rfl dX12_looks_81 ?_
    refine a_idiv H.1 dX12_looks_83 ?_
    have H := H.2
    refine a_aload_n 0 rfl rfl dX12_looks_84 ?_
    refine r_gI fo_RX12_181_12 dX12_looks_85 H (fun x4 H => ?_)
    refine a_irem H.1 dX12_looks_88 ?_
    have H := H.2
    refine a_istore (lv1 := [(0, .ref v0), (1, .int v1), (2, .int v2), (3, .int v3), (4, .int v4), (5, .int v5), (6, .int (v6 / x3)), (7, .int v7), (8, .int ((v4 / (v6 / x3)) - (v4 / (v6 / x3)) / x4 * x4))]) [1, 2, 3, 4, 5, 6, 7, 8, 0] (by decide) rfl dX12_looks_89 ?_
    refine a_iload 5 rfl dX12_looks_91 ?_
    refine a_iconst (v := (1 : Int32)) (by decide) dX12_looks_93 ?_
    refine a_iload 8 rfl dX12_looks_94 ?_
    refine a_ishl dX12_looks_96 ?_
    refine a_ior dX12_looks_97 ?_
    refine a_istore (lv1 := [(0, .ref v0), (1, .int v1), (2, .int v2), (3, .int v3), (4, .int v4), (5, .int (v5 ||| ((1 : Int32) <<< (((v4 / (v6 / x3)) - (v4 / (v6 / x3)) / x4 * x4) &&& 31)))), (6, .int (v6 / x3)), (7, .int v7), (8, .int ((v4 / (v6 / x3)) - (v4 / (v6 / x3)) / x4 * x4))]) [1, 2, 3, 4, 5, 0, 6, 7, 8] (by decide) rfl dX12_looks_98 ?_
    refine a_aload_n 0 rfl rfl dX12_looks_100 ?_
    refine a_dup rfl dX12_looks_101 ?_
    refine r_gI fo_RX12_293_12 dX12_looks_102 H (fun x5 H => ?_)
    refine a_iload 7 rfl dX12_looks_105 ?_
    refine a_if_ne (tgt := 117) dX12_looks_107 (by decide) (fun c => ?_) (fun c => ?_)
    · have H := H.1 (c)
      refine a_iconst (v := (0 : Int32)) (by decide) dX12_looks_117 ?_
      refine a_ior dX12_looks_118 ?_
      refine r_pF (po_RX12_293_12 _) (fun _ => rfl) (fun _ => rfl) dX12_looks_119 H (fun h6 H => ?_)
      refine a_iinc (v := v7 + 1) (lv1 := [(0, .ref v0), (1, .int v1), (2, .int v2), (3, .int v3), (4, .int v4), (5, .int (v5 ||| ((1 : Int32) <<< (((v4 / (v6 / x3)) - (v4 / (v6 / x3)) / x4 * x4) &&& 31)))), (6, .int (v6 / x3)), (7, .int (v7 + 1)), (8, .int ((v4 / (v6 / x3)) - (v4 / (v6 / x3)) / x4 * x4))]) [1, 2, 3, 4, 5, 6, 7, 0, 8] 7 rfl (by decide) rfl rfl dX12_looks_122 ?_
      refine a_goto (tgt := 64) dX12_looks_125 (by decide) ?_
      refine AQ.sub (lv1 := [(0, .ref v0), (1, .int v1), (2, .int v2), (3, .int v3), (4, .int v4), (5, .int (v5 ||| ((1 : Int32) <<< (((v4 / (v6 / x3)) - (v4 / (v6 / x3)) / x4 * x4) &&& 31)))), (6, .int (v6 / x3)), (7, .int (v7 + 1))]) [0, 1, 2, 3, 4, 5, 6, 7] rfl ?_
      exact hK64 _ _ _ _ H
    · have H := H.2 (c)
      refine a_iconst (v := (1 : Int32)) (by decide) dX12_looks_110 ?_
      refine a_iload 8 rfl dX12_looks_111 ?_
      refine a_ishl dX12_looks_113 ?_
      refine a_goto (tgt := 118) dX12_looks_114 (by decide) ?_
      refine a_ior dX12_looks_118 ?_
      refine r_pF (po_RX12_293_12 _) (fun _ => rfl) (fun _ => rfl) dX12_looks_119 H (fun h7 H => ?_)
      refine a_iinc (v := v7 + 1) (lv1 := [(0, .ref v0), (1, .int v1), (2, .int v2), (3, .int v3), (4, .int v4), (5, .int (v5 ||| ((1 : Int32) <<< (((v4 / (v6 / x3)) - (v4 / (v6 / x3)) / x4 * x4) &&& 31)))), (6, .int (v6 / x3)), (7, .int (v7 + 1)), (8, .int ((v4 / (v6 / x3)) - (v4 / (v6 / x3)) / x4 * x4))]) [1, 2, 3, 4, 5, 6, 7, 0, 8] 7 rfl (by decide) rfl rfl dX12_looks_122 ?_
      refine a_goto (tgt := 64) dX12_looks_125 (by decide) ?_
      refine AQ.sub (lv1 := [(0, .ref v0), (1, .int v1), (2, .int v2), (3, .int v3), (4, .int v4), (5, .int (v5 ||| ((1 : Int32) <<< (((v4 / (v6 / x3)) - (v4 / (v6 / x3)) / x4 * x4) &&& 31)))), (6, .int (v6 / x3)), (7, .int (v7 + 1))]) [0, 1, 2, 3, 4, 5, 6, 7] rfl ?_
      exact hK64 _ _ _ _ H
def L_X12_looks_64 (Q : AH → Prop) (K25 : Int32 → AH → Prop) (v0 : Nat) (v1 : Int32) (v2 : Int32) (v3 : Int32) (v4 : Int32) : Nat → Int32 → Int32 → Int32 → AH → Prop
  | 0, _, _, _, _ => False
  | n + 1, v5, v6, v7, h => B_X12_looks_64 Q K25 (L_X12_looks_64 Q K25 v0 v1 v2 v3 v4 n) v0 v1 v2 v3 v4 v5 v6 v7 h
theorem l_X12_looks_64 {o : Om} {Q : AH → Prop} {K25 : Int32 → AH → Prop} {v0 : Nat} {v1 : Int32} {v2 : Int32} {v3 : Int32} {v4 : Int32} (hK25 : ∀ w4 h, K25 w4 h → AQ o kX12_looks h 25 [(0, .ref v0), (1, .int v1), (2, .int v2), (3, .int v3), (4, .int w4)] [] (qV Q)) : ∀ (n : Nat) (v5 : Int32) (v6 : Int32) (v7 : Int32) (h : AH), L_X12_looks_64 Q K25 v0 v1 v2 v3 v4 n v5 v6 v7 h → AQ o kX12_looks h 64 [(0, .ref v0), (1, .int v1), (2, .int v2), (3, .int v3), (4, .int v4), (5, .int v5), (6, .int v6), (7, .int v7)] [] (qV Q) := by
  intro n
  induction n with
  | zero => intro v5 v6 v7 h H; exact H.elim
  | succ n ih => intro v5 v6 v7 h H; exact b_X12_looks_64 hK25 ih H
def B_X12_looks_25 (Q : AH → Prop) (K25 : Int32 → AH → Prop) (v0 : Nat) (v1 : Int32) (v2 : Int32) (v3 : Int32) (v4 : Int32) (h : AH) : Prop :=
  ((v3 ≤ v4 → Q h) ∧ (¬ (v3 ≤ v4) → isO h v0 12 ∧ f_X12_behindRow v0 v1 v4 h (fun x1 h2 => ((x1 = v2 → gI h2 v0 12 47 (fun x3 => pF h2 v0 12 47 (.int (x3 + (1 : Int32))) (fun h4 => ∃ n, L_X12_looks_64 Q K25 v0 v1 v2 v3 v4 n (0 : Int32) v3 (0 : Int32) h4))) ∧ (¬ (x1 = v2) → K25 (v4 + 1) h2)))))
set_option maxRecDepth 100000 in
set_option maxHeartbeats 4000000 in
theorem b_X12_looks_25 {o : Om} {Q : AH → Prop} {K25 : Int32 → AH → Prop} {v0 : Nat} {v1 : Int32} {v2 : Int32} {v3 : Int32} {v4 : Int32} {h : AH} (hK25 : ∀ w4 h, K25 w4 h → AQ o kX12_looks h 25 [(0, .ref v0), (1, .int v1), (2, .int v2), (3, .int v3), (4, .int w4)] [] (qV Q)) (H : B_X12_looks_25 Q K25 v0 v1 v2 v3 v4 h) : AQ o kX12_looks h 25 [(0, .ref v0), (1, .int v1), (2, .int v2), (3, .int v3), (4, .int v4)] [] (qV Q) := by
  refine a_iload 4 rfl dX12_looks_25 ?_
  refine a_iload_n 3 rfl rfl dX12_looks_27 ?_
  refine a_icmp_ge (tgt := 145) dX12_looks_28 (by decide) (fun c => ?_) (fun c => ?_)
  · have H := H.1 (c)
    exact r_retv rfl dX12_looks_145 H
  · have H := H.2 (c)
    refine a_aload_n 0 rfl rfl dX12_looks_31 ?_
    refine a_iload_n 1 rfl rfl dX12_looks_32 ?_
    refine a_iload 4 rfl dX12_looks_33 ?_
    refine r_Vi (q := (RX12, TX12, 51)) (av := [.int v1, .int v4]) (rest := []) rfl rfl okX12_behindRow H.1 rfl rfl wd1416 wd1418 wp58 ⟨Nat.le_of_ble_eq_true rfl, Nat.le_of_ble_eq_true rfl⟩ (Nat.le_of_ble_eq_true rfl) dX12_looks_35 (s_X12_behindRow H.2) (fun x1 h2 H => ?_)
    refine a_iload_n 2 rfl rfl dX12_looks_38 ?_
    refine a_icmp_eq (tgt := 45) dX12_looks_39 (by decide) (fun c => ?_) (fun c => ?_)
    · have H := H.1 (c)
      refine a_aload_n 0 rfl rfl dX12_looks_45 ?_
      refine a_dup rfl dX12_looks_46 ?_
      refine r_gI fo_RX12_290_12 dX12_looks_47 H (fun x3 H => ?_)
      refine a_iconst (v := (1 : Int32)) (by decide) dX12_looks_50 ?_
      refine a_iadd dX12_looks_51 ?_
      refine r_pF (po_RX12_290_12 _) (fun _ => rfl) (fun _ => rfl) dX12_looks_52 H (fun h4 H => ?_)
      refine a_iconst (v := (0 : Int32)) (by decide) dX12_looks_55 ?_
      refine a_istore (lv1 := [(0, .ref v0), (1, .int v1), (2, .int v2), (3, .int v3), (4, .int v4), (5, .int (0 : Int32))]) [1, 2, 3, 4, 5, 0] (by decide) rfl dX12_looks_56 ?_
      refine a_iload_n 3 rfl rfl dX12_looks_58 ?_
      refine a_istore (lv1 := [(0, .ref v0), (1, .int v1), (2, .int v2), (3, .int v3), (4, .int v4), (5, .int (0 : Int32)), (6, .int v3)]) [1, 2, 3, 4, 5, 6, 0] (by decide) rfl dX12_looks_59 ?_
      refine a_iconst (v := (0 : Int32)) (by decide) dX12_looks_61 ?_
      refine a_istore (lv1 := [(0, .ref v0), (1, .int v1), (2, .int v2), (3, .int v3), (4, .int v4), (5, .int (0 : Int32)), (6, .int v3), (7, .int (0 : Int32))]) [1, 2, 3, 4, 5, 6, 7, 0] (by decide) rfl dX12_looks_62 ?_
      obtain ⟨n, H⟩ := H
      exact l_X12_looks_64 hK25 n _ _ _ _ H
    · have H := H.2 (c)
      refine a_goto (tgt := 139) dX12_looks_42 (by decide) ?_
      refine a_iinc (v := v4 + 1) (lv1 := [(0, .ref v0), (1, .int v1), (2, .int v2), (3, .int v3), (4, .int (v4 + 1))]) [1, 2, 3, 4, 0] 4 rfl (by decide) rfl rfl dX12_looks_139 ?_
      refine a_goto (tgt := 25) dX12_looks_142 (by decide) ?_
      exact hK25 _ _ H
def L_X12_looks_25 (Q : AH → Prop)  (v0 : Nat) (v1 : Int32) (v2 : Int32) (v3 : Int32) : Nat → Int32 → AH → Prop
  | 0, _, _ => False
  | n + 1, v4, h => B_X12_looks_25 Q (L_X12_looks_25 Q  v0 v1 v2 v3 n) v0 v1 v2 v3 v4 h
theorem l_X12_looks_25 {o : Om} {Q : AH → Prop}  {v0 : Nat} {v1 : Int32} {v2 : Int32} {v3 : Int32}  : ∀ (n : Nat) (v4 : Int32) (h : AH), L_X12_looks_25 Q  v0 v1 v2 v3 n v4 h → AQ o kX12_looks h 25 [(0, .ref v0), (1, .int v1), (2, .int v2), (3, .int v3), (4, .int v4)] [] (qV Q) := by
  intro n
  induction n with
  | zero => intro v4 h H; exact H.elim
  | succ n ih => intro v4 h H; exact b_X12_looks_25 ih H
def f_X12_looks (v0 : Nat) (v1 : Int32) (v2 : Int32) (h : AH) (Q : AH → Prop) : Prop :=
  pF h v0 12 47 (.int (0 : Int32)) (fun h1 => pF h1 v0 12 48 (.int (0 : Int32)) (fun h2 => pF h2 v0 12 49 (.int (31 : Int32)) (fun h3 => isO h3 v0 12 ∧ f_X12_power v0 v1 h3 (fun x4 h5 => ∃ n, L_X12_looks_25 Q  v0 v1 v2 x4 n (0 : Int32) h5))))
set_option maxRecDepth 100000 in
set_option maxHeartbeats 4000000 in
theorem s_X12_looks {o : Om} {v0 : Nat} {v1 : Int32} {v2 : Int32} {h : AH} {Q : AH → Prop} (H : f_X12_looks v0 v1 v2 h Q) : MQ' o kX12_looks [.ref v0, .int v1, .int v2] h (qV Q) := by
  refine MQ'.of (by decide +kernel) (Nat.le_of_ble_eq_true rfl) ?_
  show AQ o kX12_looks h 0 [(0, .ref v0), (1, .int v1), (2, .int v2)] [] (qV Q)
  refine a_aload_n 0 rfl rfl dX12_looks_0 ?_
  refine a_iconst (v := (0 : Int32)) (by decide) dX12_looks_1 ?_
  refine r_pF (po_RX12_290_12 _) (fun _ => rfl) (fun _ => rfl) dX12_looks_2 H (fun h1 H => ?_)
  refine a_aload_n 0 rfl rfl dX12_looks_5 ?_
  refine a_iconst (v := (0 : Int32)) (by decide) dX12_looks_6 ?_
  refine r_pF (po_RX12_293_12 _) (fun _ => rfl) (fun _ => rfl) dX12_looks_7 H (fun h2 H => ?_)
  refine a_aload_n 0 rfl rfl dX12_looks_10 ?_
  refine a_bipush (v := (31 : Int32)) (by decide) dX12_looks_11 ?_
  refine r_pF (po_RX12_296_12 _) (fun _ => rfl) (fun _ => rfl) dX12_looks_13 H (fun h3 H => ?_)
  refine a_aload_n 0 rfl rfl dX12_looks_16 ?_
  refine a_iload_n 1 rfl rfl dX12_looks_17 ?_
  refine r_Vi (q := (RX12, TX12, 51)) (av := [.int v1]) (rest := []) rfl rfl okX12_power H.1 rfl rfl wd1412 wd1414 wp57 ⟨Nat.le_of_ble_eq_true rfl, Nat.le_of_ble_eq_true rfl⟩ (Nat.le_of_ble_eq_true rfl) dX12_looks_18 (s_X12_power H.2) (fun x4 h5 H => ?_)
  refine a_istore_n (lv1 := [(0, .ref v0), (1, .int v1), (2, .int v2), (3, .int x4)]) rfl [1, 2, 3, 0] (by decide) rfl dX12_looks_21 ?_
  refine a_iconst (v := (0 : Int32)) (by decide) dX12_looks_22 ?_
  refine a_istore (lv1 := [(0, .ref v0), (1, .int v1), (2, .int v2), (3, .int x4), (4, .int (0 : Int32))]) [1, 2, 3, 4, 0] (by decide) rfl dX12_looks_23 ?_
  obtain ⟨n, H⟩ := H
  exact l_X12_looks_25  n _ _ H
def B_X12_fewestTo_2 (Q : Int32 → AH → Prop) (K2 : Int32 → AH → Prop) (v0 : Nat) (v1 : Int32) (h : AH) : Prop :=
  (((5 : Int32) ≤ v1 → Q (-9 : Int32) h) ∧ (¬ ((5 : Int32) ≤ v1) → gI h v0 12 50 (fun x1 => isO h v0 12 ∧ f_X12_looks v0 v1 x1 h (fun h2 => gI h2 v0 12 47 (fun x3 => ((x3 ≤ 0 → K2 (v1 + 1) h2) ∧ (¬ (x3 ≤ 0) → Q v1 h2)))))))
set_option maxRecDepth 100000 in
set_option maxHeartbeats 4000000 in
theorem b_X12_fewestTo_2 {o : Om} {Q : Int32 → AH → Prop} {K2 : Int32 → AH → Prop} {v0 : Nat} {v1 : Int32} {h : AH} (hK2 : ∀ w1 h, K2 w1 h → AQ o kX12_fewestTo h 2 [(0, .ref v0), (1, .int w1)] [] (qI Q)) (H : B_X12_fewestTo_2 Q K2 v0 v1 h) : AQ o kX12_fewestTo h 2 [(0, .ref v0), (1, .int v1)] [] (qI Q) := by
  refine a_iload_n 1 rfl rfl dX12_fewestTo_2 ?_
  refine a_iconst (v := (5 : Int32)) (by decide) dX12_fewestTo_3 ?_
  refine a_icmp_ge (tgt := 31) dX12_fewestTo_4 (by decide) (fun c => ?_) (fun c => ?_)
  · have H := H.1 (c)
    refine a_bipush (v := (-9 : Int32)) (by decide) dX12_fewestTo_31 ?_
    exact r_reti rfl dX12_fewestTo_33 H
  · have H := H.2 (c)
    refine a_aload_n 0 rfl rfl dX12_fewestTo_7 ?_
    refine a_iload_n 1 rfl rfl dX12_fewestTo_8 ?_
    refine a_aload_n 0 rfl rfl dX12_fewestTo_9 ?_
    refine r_gI fo_RX12_299_12 dX12_fewestTo_10 H (fun x1 H => ?_)
    refine r_Vv (q := (RX12, TX12, 51)) (av := [.int v1, .int x1]) (rest := []) rfl rfl okX12_looks H.1 rfl rfl wd1477 wd1479 wp64 ⟨Nat.le_of_ble_eq_true rfl, Nat.le_of_ble_eq_true rfl⟩ (Nat.le_of_ble_eq_true rfl) dX12_fewestTo_13 (s_X12_looks H.2) (fun h2 H => ?_)
    refine a_aload_n 0 rfl rfl dX12_fewestTo_16 ?_
    refine r_gI fo_RX12_290_12 dX12_fewestTo_17 H (fun x3 H => ?_)
    refine a_if_le (tgt := 25) dX12_fewestTo_20 (by decide) (fun c => ?_) (fun c => ?_)
    · have H := H.1 (c)
      refine a_iinc (v := v1 + 1) (lv1 := [(0, .ref v0), (1, .int (v1 + 1))]) [1, 0] 1 rfl (by decide) rfl rfl dX12_fewestTo_25 ?_
      refine a_goto (tgt := 2) dX12_fewestTo_28 (by decide) ?_
      exact hK2 _ _ H
    · have H := H.2 (c)
      refine a_iload_n 1 rfl rfl dX12_fewestTo_23 ?_
      exact r_reti rfl dX12_fewestTo_24 H
def L_X12_fewestTo_2 (Q : Int32 → AH → Prop)  (v0 : Nat) : Nat → Int32 → AH → Prop
  | 0, _, _ => False
  | n + 1, v1, h => B_X12_fewestTo_2 Q (L_X12_fewestTo_2 Q  v0 n) v0 v1 h
theorem l_X12_fewestTo_2 {o : Om} {Q : Int32 → AH → Prop}  {v0 : Nat}  : ∀ (n : Nat) (v1 : Int32) (h : AH), L_X12_fewestTo_2 Q  v0 n v1 h → AQ o kX12_fewestTo h 2 [(0, .ref v0), (1, .int v1)] [] (qI Q) := by
  intro n
  induction n with
  | zero => intro v1 h H; exact H.elim
  | succ n ih => intro v1 h H; exact b_X12_fewestTo_2 ih H
def f_X12_fewestTo (v0 : Nat) (h : AH) (Q : Int32 → AH → Prop) : Prop :=
  ∃ n, L_X12_fewestTo_2 Q  v0 n (0 : Int32) h
set_option maxRecDepth 100000 in
set_option maxHeartbeats 4000000 in
theorem s_X12_fewestTo {o : Om} {v0 : Nat} {h : AH} {Q : Int32 → AH → Prop} (H : f_X12_fewestTo v0 h Q) : MQ' o kX12_fewestTo [.ref v0] h (qI Q) := by
  refine MQ'.of (by decide +kernel) (Nat.le_of_ble_eq_true rfl) ?_
  show AQ o kX12_fewestTo h 0 [(0, .ref v0)] [] (qI Q)
  refine a_iconst (v := (0 : Int32)) (by decide) dX12_fewestTo_0 ?_
  refine a_istore_n (lv1 := [(0, .ref v0), (1, .int (0 : Int32))]) rfl [1, 0] (by decide) rfl dX12_fewestTo_1 ?_
  obtain ⟨n, H⟩ := H
  exact l_X12_fewestTo_2  n _ _ H
def f_X12_moved (v0 : Nat) (v1 : Int32) (h : AH) (Q : Int32 → AH → Prop) : Prop :=
  f_X12_isRow v1 h (fun x1 h2 => ((¬ (x1 = 0) → isO h2 v0 12 ∧ f_X12_bars v0 v1 h2 (fun x3 h4 => ((x3 ≤ 0 → isO h4 v0 12 ∧ f_X12_fewestTo v0  h4 (fun x5 h6 => ((¬ (x5 = (-9 : Int32)) → gI h6 v0 12 47 (fun x7 => pF h6 v0 12 4 (.int x7) (fun h8 => Q x5 h8))) ∧ (x5 = (-9 : Int32) → gI h6 v0 12 4 (fun x9 => pF h6 v0 12 4 (.int x9) (fun h10 => Q x5 h10)))))) ∧ (¬ (x3 ≤ 0) → isO h4 v0 12 ∧ f_X12_find v0 x3 h4 (fun x11 h12 => Q x11 h12))))) ∧ (x1 = 0 → Q (-1 : Int32) h2)))
set_option maxRecDepth 100000 in
set_option maxHeartbeats 4000000 in
theorem s_X12_moved {o : Om} {v0 : Nat} {v1 : Int32} {h : AH} {Q : Int32 → AH → Prop} (H : f_X12_moved v0 v1 h Q) : MQ' o kX12_moved [.ref v0, .int v1] h (qI Q) := by
  refine MQ'.of (by decide +kernel) (Nat.le_of_ble_eq_true rfl) ?_
  show AQ o kX12_moved h 0 [(0, .ref v0), (1, .int v1)] [] (qI Q)
  refine a_iload_n 1 rfl rfl dX12_moved_0 ?_
  refine r_Si (av := [.int v1]) (rest := []) rfl rfl okX12_isRow wd1184 wd1185 ⟨Nat.le_of_ble_eq_true rfl, Nat.le_of_ble_eq_true rfl⟩ (Nat.le_of_ble_eq_true rfl) dX12_moved_1 (s_X12_isRow H) (fun x1 h2 H => ?_)
  refine a_if_ne (tgt := 9) dX12_moved_4 (by decide) (fun c => ?_) (fun c => ?_)
  · have H := H.1 (c)
    refine a_aload_n 0 rfl rfl dX12_moved_9 ?_
    refine a_iload_n 1 rfl rfl dX12_moved_10 ?_
    refine r_Vi (q := (RX12, TX12, 51)) (av := [.int v1]) (rest := []) rfl rfl okX12_bars H.1 rfl rfl wd1469 wd1471 wp62 ⟨Nat.le_of_ble_eq_true rfl, Nat.le_of_ble_eq_true rfl⟩ (Nat.le_of_ble_eq_true rfl) dX12_moved_11 (s_X12_bars H.2) (fun x3 h4 H => ?_)
    refine a_istore_n (lv1 := [(0, .ref v0), (1, .int v1), (2, .int x3)]) rfl [1, 2, 0] (by decide) rfl dX12_moved_14 ?_
    refine a_iload_n 2 rfl rfl dX12_moved_15 ?_
    refine a_if_le (tgt := 25) dX12_moved_16 (by decide) (fun c => ?_) (fun c => ?_)
    · have H := H.1 (c)
      refine a_aload_n 0 rfl rfl dX12_moved_25 ?_
      refine r_Vi (q := (RX12, TX12, 51)) (av := []) (rest := []) rfl rfl okX12_fewestTo H.1 rfl rfl wd1473 wd1475 wp63 ⟨Nat.le_of_ble_eq_true rfl, Nat.le_of_ble_eq_true rfl⟩ (Nat.le_of_ble_eq_true rfl) dX12_moved_26 (s_X12_fewestTo H.2) (fun x5 h6 H => ?_)
      refine a_istore_n (lv1 := [(0, .ref v0), (1, .int v1), (2, .int x3), (3, .int x5)]) rfl [1, 2, 3, 0] (by decide) rfl dX12_moved_29 ?_
      refine a_aload_n 0 rfl rfl dX12_moved_30 ?_
      refine a_iload_n 3 rfl rfl dX12_moved_31 ?_
      refine a_bipush (v := (-9 : Int32)) (by decide) dX12_moved_32 ?_
      refine a_icmp_ne (tgt := 44) dX12_moved_34 (by decide) (fun c => ?_) (fun c => ?_)
      · have H := H.1 (c)
        refine a_aload_n 0 rfl rfl dX12_moved_44 ?_
        refine r_gI fo_RX12_290_12 dX12_moved_45 H (fun x7 H => ?_)
        refine r_pF (po_RX12_104_12 _) (fun _ => rfl) (fun _ => rfl) dX12_moved_48 H (fun h8 H => ?_)
        refine a_iload_n 3 rfl rfl dX12_moved_51 ?_
        exact r_reti rfl dX12_moved_52 H
      · have H := H.2 (c)
        refine a_aload_n 0 rfl rfl dX12_moved_37 ?_
        refine r_gI fo_RX12_104_12 dX12_moved_38 H (fun x9 H => ?_)
        refine a_goto (tgt := 48) dX12_moved_41 (by decide) ?_
        refine r_pF (po_RX12_104_12 _) (fun _ => rfl) (fun _ => rfl) dX12_moved_48 H (fun h10 H => ?_)
        refine a_iload_n 3 rfl rfl dX12_moved_51 ?_
        exact r_reti rfl dX12_moved_52 H
    · have H := H.2 (c)
      refine a_aload_n 0 rfl rfl dX12_moved_19 ?_
      refine a_iload_n 2 rfl rfl dX12_moved_20 ?_
      refine r_Vi (q := (RX12, TX12, 51)) (av := [.int x3]) (rest := []) rfl rfl okX12_find H.1 rfl rfl wd1191 wd1193 wp31 ⟨Nat.le_of_ble_eq_true rfl, Nat.le_of_ble_eq_true rfl⟩ (Nat.le_of_ble_eq_true rfl) dX12_moved_21 (s_X12_find H.2) (fun x11 h12 H => ?_)
      exact r_reti rfl dX12_moved_24 H
  · have H := H.2 (c)
    refine a_iconst (v := (-1 : Int32)) (by decide) dX12_moved_7 ?_
    exact r_reti rfl dX12_moved_8 H
def f_X11_who (v0 : Nat) (v1 : Int32) (h : AH) (Q : Int32 → AH → Prop) : Prop :=
  isO h v0 11 ∧ f_X11_refuseStanding v0 v1 h (fun x1 h2 => ((x1 = 0 → gR h2 v0 11 7 (fun a3 => gR h2 v0 11 8 (fun a4 => gI h2 v0 11 9 (fun x5 => gI h2 v0 11 10 (fun x6 => isO h2 a3 7 ∧ f_X7_from a3 a4 x5 x6 h2 (fun h7 => gR h7 v0 11 7 (fun a8 => gR h7 v0 11 0 (fun a9 => lQ h7 a9 2 v1 (fun a10 => isO h7 v0 11 ∧ f_X11_standingOf v0 a10 h7 (fun x11 h12 => isO h12 a8 7 ∧ f_X7_fewestTo a8 x11 h12 (fun x13 h14 => ((0 < x13 → gR h14 v0 11 7 (fun a15 => gI h14 a15 7 16 (fun x16 => pF h14 v0 11 12 (.int x16) (fun h17 => gR h17 v0 11 7 (fun a18 => gI h17 a18 7 15 (fun x19 => Q x19 h17)))))) ∧ (¬ (0 < x13) → Q (-9 : Int32) h14))))))))))))) ∧ (¬ (x1 = 0) → Q x1 h2)))
set_option maxRecDepth 100000 in
set_option maxHeartbeats 4000000 in
theorem s_X11_who {o : Om} {v0 : Nat} {v1 : Int32} {h : AH} {Q : Int32 → AH → Prop} (H : f_X11_who v0 v1 h Q) : MQ' o kX11_who [.ref v0, .int v1] h (qI Q) := by
  refine MQ'.of (by decide +kernel) (Nat.le_of_ble_eq_true rfl) ?_
  show AQ o kX11_who h 0 [(0, .ref v0), (1, .int v1)] [] (qI Q)
  refine a_aload_n 0 rfl rfl dX11_who_0 ?_
  refine a_iload_n 1 rfl rfl dX11_who_1 ?_
  refine r_Vi (q := (RX11, TX11, 16)) (av := [.int v1]) (rest := []) rfl rfl okX11_refuseStanding H.1 rfl rfl wd918 wd920 wp25 ⟨Nat.le_of_ble_eq_true rfl, Nat.le_of_ble_eq_true rfl⟩ (Nat.le_of_ble_eq_true rfl) dX11_who_2 (s_X11_refuseStanding H.2) (fun x1 h2 H => ?_)
  refine a_istore_n (lv1 := [(0, .ref v0), (1, .int v1), (2, .int x1)]) rfl [1, 2, 0] (by decide) rfl dX11_who_5 ?_
  refine a_iload_n 2 rfl rfl dX11_who_6 ?_
  refine a_if_eq (tgt := 12) dX11_who_7 (by decide) (fun c => ?_) (fun c => ?_)
  · have H := H.1 (c)
    refine a_aload_n 0 rfl rfl dX11_who_12 ?_
    refine r_gR fo_RX11_74_11 dX11_who_13 H (fun a3 H => ?_)
    refine a_aload_n 0 rfl rfl dX11_who_16 ?_
    refine r_gR fo_RX11_60_11 dX11_who_17 H (fun a4 H => ?_)
    refine a_aload_n 0 rfl rfl dX11_who_20 ?_
    refine r_gI fo_RX11_34_11 dX11_who_21 H (fun x5 H => ?_)
    refine a_aload_n 0 rfl rfl dX11_who_24 ?_
    refine r_gI fo_RX11_38_11 dX11_who_25 H (fun x6 H => ?_)
    refine r_Vv (q := (RX7, TX7, 17)) (av := [.ref a4, .int x5, .int x6]) (rest := []) rfl rfl okX7_from H.1 rfl rfl wd775 wd776 wd777 ⟨Nat.le_of_ble_eq_true rfl, Nat.le_of_ble_eq_true rfl⟩ (Nat.le_of_ble_eq_true rfl) dX11_who_28 (s_X7_from H.2) (fun h7 H => ?_)
    refine a_aload_n 0 rfl rfl dX11_who_31 ?_
    refine r_gR fo_RX11_74_11 dX11_who_32 H (fun a8 H => ?_)
    refine a_aload_n 0 rfl rfl dX11_who_35 ?_
    refine a_aload_n 0 rfl rfl dX11_who_36 ?_
    refine r_gR fo_RX11_11_11 dX11_who_37 H (fun a9 H => ?_)
    refine a_iload_n 1 rfl rfl dX11_who_40 ?_
    refine r_lQ (by decide) dX11_who_41 H (fun a10 H => ?_)
    refine r_Vi (q := (RX11, TX11, 16)) (av := [.ref a10]) (rest := [.ref a8]) rfl rfl okX11_standingOf H.1 rfl rfl wd922 wd924 wp26 ⟨Nat.le_of_ble_eq_true rfl, Nat.le_of_ble_eq_true rfl⟩ (Nat.le_of_ble_eq_true rfl) dX11_who_42 (s_X11_standingOf H.2) (fun x11 h12 H => ?_)
    refine r_Vi (q := (RX7, TX7, 17)) (av := [.int x11]) (rest := []) rfl rfl okX7_fewestTo H.1 rfl rfl wd927 wd928 wd929 ⟨Nat.le_of_ble_eq_true rfl, Nat.le_of_ble_eq_true rfl⟩ (Nat.le_of_ble_eq_true rfl) dX11_who_45 (s_X7_fewestTo H.2) (fun x13 h14 H => ?_)
    refine a_istore_n (lv1 := [(0, .ref v0), (1, .int v1), (2, .int x1), (3, .int x13)]) rfl [1, 2, 3, 0] (by decide) rfl dX11_who_48 ?_
    refine a_iload_n 3 rfl rfl dX11_who_49 ?_
    refine a_if_gt (tgt := 56) dX11_who_50 (by decide) (fun c => ?_) (fun c => ?_)
    · have H := H.1 (c)
      refine a_aload_n 0 rfl rfl dX11_who_56 ?_
      refine a_aload_n 0 rfl rfl dX11_who_57 ?_
      refine r_gR fo_RX11_74_11 dX11_who_58 H (fun a15 H => ?_)
      refine r_gI fo_RX11_267_7 dX11_who_61 H (fun x16 H => ?_)
      refine r_pF (po_RX11_44_11 _) (fun _ => rfl) (fun _ => rfl) dX11_who_64 H (fun h17 H => ?_)
      refine a_aload_n 0 rfl rfl dX11_who_67 ?_
      refine r_gR fo_RX11_74_11 dX11_who_68 H (fun a18 H => ?_)
      refine r_gI fo_RX11_270_7 dX11_who_71 H (fun x19 H => ?_)
      exact r_reti rfl dX11_who_74 H
    · have H := H.2 (c)
      refine a_bipush (v := (-9 : Int32)) (by decide) dX11_who_53 ?_
      exact r_reti rfl dX11_who_55 H
  · have H := H.2 (c)
    refine a_iload_n 2 rfl rfl dX11_who_10 ?_
    exact r_reti rfl dX11_who_11 H
def f_X12_who (v0 : Nat) (v1 : Int32) (h : AH) (Q : Int32 → AH → Prop) : Prop :=
  f_X12_isRow v1 h (fun x1 h2 => ((¬ (x1 = 0) → isO h2 v0 12 ∧ f_X12_bars v0 v1 h2 (fun x3 h4 => ((x3 ≤ 0 → isO h4 v0 12 ∧ f_X12_fewestTo v0  h4 (fun x5 h6 => (((1 : Int32) ≤ x5 → gI h6 v0 12 49 (fun x7 => pF h6 v0 12 4 (.int x7) (fun h8 => gI h8 v0 12 48 (fun x9 => Q x9 h8)))) ∧ (¬ ((1 : Int32) ≤ x5) → Q (-9 : Int32) h6)))) ∧ (¬ (x3 ≤ 0) → isO h4 v0 12 ∧ f_X12_find v0 x3 h4 (fun x10 h11 => Q x10 h11))))) ∧ (x1 = 0 → Q (-1 : Int32) h2)))
set_option maxRecDepth 100000 in
set_option maxHeartbeats 4000000 in
theorem s_X12_who {o : Om} {v0 : Nat} {v1 : Int32} {h : AH} {Q : Int32 → AH → Prop} (H : f_X12_who v0 v1 h Q) : MQ' o kX12_who [.ref v0, .int v1] h (qI Q) := by
  refine MQ'.of (by decide +kernel) (Nat.le_of_ble_eq_true rfl) ?_
  show AQ o kX12_who h 0 [(0, .ref v0), (1, .int v1)] [] (qI Q)
  refine a_iload_n 1 rfl rfl dX12_who_0 ?_
  refine r_Si (av := [.int v1]) (rest := []) rfl rfl okX12_isRow wd1184 wd1185 ⟨Nat.le_of_ble_eq_true rfl, Nat.le_of_ble_eq_true rfl⟩ (Nat.le_of_ble_eq_true rfl) dX12_who_1 (s_X12_isRow H) (fun x1 h2 H => ?_)
  refine a_if_ne (tgt := 9) dX12_who_4 (by decide) (fun c => ?_) (fun c => ?_)
  · have H := H.1 (c)
    refine a_aload_n 0 rfl rfl dX12_who_9 ?_
    refine a_iload_n 1 rfl rfl dX12_who_10 ?_
    refine r_Vi (q := (RX12, TX12, 51)) (av := [.int v1]) (rest := []) rfl rfl okX12_bars H.1 rfl rfl wd1469 wd1471 wp62 ⟨Nat.le_of_ble_eq_true rfl, Nat.le_of_ble_eq_true rfl⟩ (Nat.le_of_ble_eq_true rfl) dX12_who_11 (s_X12_bars H.2) (fun x3 h4 H => ?_)
    refine a_istore_n (lv1 := [(0, .ref v0), (1, .int v1), (2, .int x3)]) rfl [1, 2, 0] (by decide) rfl dX12_who_14 ?_
    refine a_iload_n 2 rfl rfl dX12_who_15 ?_
    refine a_if_le (tgt := 25) dX12_who_16 (by decide) (fun c => ?_) (fun c => ?_)
    · have H := H.1 (c)
      refine a_aload_n 0 rfl rfl dX12_who_25 ?_
      refine r_Vi (q := (RX12, TX12, 51)) (av := []) (rest := []) rfl rfl okX12_fewestTo H.1 rfl rfl wd1473 wd1475 wp63 ⟨Nat.le_of_ble_eq_true rfl, Nat.le_of_ble_eq_true rfl⟩ (Nat.le_of_ble_eq_true rfl) dX12_who_26 (s_X12_fewestTo H.2) (fun x5 h6 H => ?_)
      refine a_istore_n (lv1 := [(0, .ref v0), (1, .int v1), (2, .int x3), (3, .int x5)]) rfl [1, 2, 3, 0] (by decide) rfl dX12_who_29 ?_
      refine a_iload_n 3 rfl rfl dX12_who_30 ?_
      refine a_iconst (v := (1 : Int32)) (by decide) dX12_who_31 ?_
      refine a_icmp_ge (tgt := 38) dX12_who_32 (by decide) (fun c => ?_) (fun c => ?_)
      · have H := H.1 (c)
        refine a_aload_n 0 rfl rfl dX12_who_38 ?_
        refine a_aload_n 0 rfl rfl dX12_who_39 ?_
        refine r_gI fo_RX12_296_12 dX12_who_40 H (fun x7 H => ?_)
        refine r_pF (po_RX12_104_12 _) (fun _ => rfl) (fun _ => rfl) dX12_who_43 H (fun h8 H => ?_)
        refine a_aload_n 0 rfl rfl dX12_who_46 ?_
        refine r_gI fo_RX12_293_12 dX12_who_47 H (fun x9 H => ?_)
        exact r_reti rfl dX12_who_50 H
      · have H := H.2 (c)
        refine a_bipush (v := (-9 : Int32)) (by decide) dX12_who_35 ?_
        exact r_reti rfl dX12_who_37 H
    · have H := H.2 (c)
      refine a_aload_n 0 rfl rfl dX12_who_19 ?_
      refine a_iload_n 2 rfl rfl dX12_who_20 ?_
      refine r_Vi (q := (RX12, TX12, 51)) (av := [.int x3]) (rest := []) rfl rfl okX12_find H.1 rfl rfl wd1191 wd1193 wp31 ⟨Nat.le_of_ble_eq_true rfl, Nat.le_of_ble_eq_true rfl⟩ (Nat.le_of_ble_eq_true rfl) dX12_who_21 (s_X12_find H.2) (fun x10 h11 H => ?_)
      exact r_reti rfl dX12_who_24 H
  · have H := H.2 (c)
    refine a_iconst (v := (-1 : Int32)) (by decide) dX12_who_7 ?_
    exact r_reti rfl dX12_who_8 H
def B_X7_rowsWith_73 (Q : Int32 → AH → Prop) (K17 : Int32 → Int32 → AH → Prop) (v0 : Nat) (v1 : Int32) (v2 : Int32) (v3 : Int32) (v4 : Int32) (v5 : Int32) (v6 : Int32) (h : AH) : Prop :=
  isO h v0 7 ∧ f_X7_nextRow v0 v3 h (fun h1 => K17 v4 (v6 + 1) h1)
set_option maxRecDepth 100000 in
set_option maxHeartbeats 4000000 in
theorem b_X7_rowsWith_73 {o : Om} {Q : Int32 → AH → Prop} {K17 : Int32 → Int32 → AH → Prop} {v0 : Nat} {v1 : Int32} {v2 : Int32} {v3 : Int32} {v4 : Int32} {v5 : Int32} {v6 : Int32} {h : AH} (hK17 : ∀ w4 w6 h, K17 w4 w6 h → AQ o kX7_rowsWith h 17 [(0, .ref v0), (1, .int v1), (2, .int v2), (3, .int v3), (4, .int w4), (5, .int v5), (6, .int w6)] [] (qI Q)) (H : B_X7_rowsWith_73 Q K17 v0 v1 v2 v3 v4 v5 v6 h) : AQ o kX7_rowsWith h 73 [(0, .ref v0), (1, .int v1), (2, .int v2), (3, .int v3), (4, .int v4), (5, .int v5), (6, .int v6)] [] (qI Q) := by
  refine a_aload_n 0 rfl rfl dX7_rowsWith_73 ?_
  refine a_iload_n 3 rfl rfl dX7_rowsWith_74 ?_
  refine r_Vv (q := (RX7, TX7, 17)) (av := [.int v3]) (rest := []) rfl rfl okX7_nextRow H.1 rfl rfl wd801 wd803 wp19 ⟨Nat.le_of_ble_eq_true rfl, Nat.le_of_ble_eq_true rfl⟩ (Nat.le_of_ble_eq_true rfl) dX7_rowsWith_75 (s_X7_nextRow H.2) (fun h1 H => ?_)
  refine a_iinc (v := v6 + 1) (lv1 := [(0, .ref v0), (1, .int v1), (2, .int v2), (3, .int v3), (4, .int v4), (5, .int v5), (6, .int (v6 + 1))]) [1, 2, 3, 4, 5, 6, 0] 6 rfl (by decide) rfl rfl dX7_rowsWith_78 ?_
  refine a_goto (tgt := 17) dX7_rowsWith_81 (by decide) ?_
  exact hK17 _ _ _ H
def B_X7_rowsWith_17 (Q : Int32 → AH → Prop) (K17 : Int32 → Int32 → AH → Prop) (v0 : Nat) (v1 : Int32) (v2 : Int32) (v3 : Int32) (v5 : Int32) (v4 : Int32) (v6 : Int32) (h : AH) : Prop :=
  ((v5 ≤ v6 → Q v4 h) ∧ (¬ (v5 ≤ v6) → gR h v0 7 0 (fun a1 => gR h v0 7 4 (fun a2 => gI h v0 7 5 (fun x3 => gI h v0 7 6 (fun x4 => isO h a1 9 ∧ f_X9_begin a1 a2 x3 x4 h (fun h5 => gR h5 v0 7 0 (fun a6 => gR h5 v0 7 1 (fun a7 => isO h5 a6 9 ∧ f_X9_sendRow a6 a7 v3 h5 (fun h8 => gR h8 v0 7 0 (fun a9 => gI h8 a9 9 3 (fun x10 => f_X5_tellPost x10 v1 h8 (fun x11 h12 => ((¬ (x11 = v2) → B_X7_rowsWith_73 Q K17 v0 v1 v2 v3 v4 v5 v6 h12) ∧ (x11 = v2 → B_X7_rowsWith_73 Q K17 v0 v1 v2 v3 (v4 + 1) v5 v6 h12)))))))))))))))
set_option maxRecDepth 100000 in
set_option maxHeartbeats 4000000 in
theorem b_X7_rowsWith_17 {o : Om} {Q : Int32 → AH → Prop} {K17 : Int32 → Int32 → AH → Prop} {v0 : Nat} {v1 : Int32} {v2 : Int32} {v3 : Int32} {v5 : Int32} {v4 : Int32} {v6 : Int32} {h : AH} (hK17 : ∀ w4 w6 h, K17 w4 w6 h → AQ o kX7_rowsWith h 17 [(0, .ref v0), (1, .int v1), (2, .int v2), (3, .int v3), (4, .int w4), (5, .int v5), (6, .int w6)] [] (qI Q)) (H : B_X7_rowsWith_17 Q K17 v0 v1 v2 v3 v5 v4 v6 h) : AQ o kX7_rowsWith h 17 [(0, .ref v0), (1, .int v1), (2, .int v2), (3, .int v3), (4, .int v4), (5, .int v5), (6, .int v6)] [] (qI Q) := by
  refine a_iload 6 rfl dX7_rowsWith_17 ?_
  refine a_iload 5 rfl dX7_rowsWith_19 ?_
  refine a_icmp_ge (tgt := 84) dX7_rowsWith_21 (by decide) (fun c => ?_) (fun c => ?_)
  · have H := H.1 (c)
    refine a_iload 4 rfl dX7_rowsWith_84 ?_
    exact r_reti rfl dX7_rowsWith_86 H
  · have H := H.2 (c)
    refine a_aload_n 0 rfl rfl dX7_rowsWith_24 ?_
    refine r_gR fo_RX7_68_7 dX7_rowsWith_25 H (fun a1 H => ?_)
    refine a_aload_n 0 rfl rfl dX7_rowsWith_28 ?_
    refine r_gR fo_RX7_59_7 dX7_rowsWith_29 H (fun a2 H => ?_)
    refine a_aload_n 0 rfl rfl dX7_rowsWith_32 ?_
    refine r_gI fo_RX7_21_7 dX7_rowsWith_33 H (fun x3 H => ?_)
    refine a_aload_n 0 rfl rfl dX7_rowsWith_36 ?_
    refine r_gI fo_RX7_25_7 dX7_rowsWith_37 H (fun x4 H => ?_)
    refine r_Vv (q := (RX9, TX9, 8)) (av := [.ref a2, .int x3, .int x4]) (rest := []) rfl rfl okX9_begin H.1 rfl rfl wd792 wd571 wd572 ⟨Nat.le_of_ble_eq_true rfl, Nat.le_of_ble_eq_true rfl⟩ (Nat.le_of_ble_eq_true rfl) dX7_rowsWith_40 (s_X9_begin H.2) (fun h5 H => ?_)
    refine a_aload_n 0 rfl rfl dX7_rowsWith_43 ?_
    refine r_gR fo_RX7_68_7 dX7_rowsWith_44 H (fun a6 H => ?_)
    refine a_aload_n 0 rfl rfl dX7_rowsWith_47 ?_
    refine r_gR fo_RX7_11_7 dX7_rowsWith_48 H (fun a7 H => ?_)
    refine a_iload_n 3 rfl rfl dX7_rowsWith_51 ?_
    refine r_Vv (q := (RX9, TX9, 8)) (av := [.ref a7, .int v3]) (rest := []) rfl rfl okX9_sendRow H.1 rfl rfl wd793 wd794 wd795 ⟨Nat.le_of_ble_eq_true rfl, Nat.le_of_ble_eq_true rfl⟩ (Nat.le_of_ble_eq_true rfl) dX7_rowsWith_52 (s_X9_sendRow H.2) (fun h8 H => ?_)
    refine a_aload_n 0 rfl rfl dX7_rowsWith_55 ?_
    refine r_gR fo_RX7_68_7 dX7_rowsWith_56 H (fun a9 H => ?_)
    refine r_gI fo_RX7_92_9 dX7_rowsWith_59 H (fun x10 H => ?_)
    refine a_iload_n 1 rfl rfl dX7_rowsWith_62 ?_
    refine r_Si (av := [.int x10, .int v1]) (rest := []) rfl rfl okX5_tellPost wd951 wd516 ⟨Nat.le_of_ble_eq_true rfl, Nat.le_of_ble_eq_true rfl⟩ (Nat.le_of_ble_eq_true rfl) dX7_rowsWith_63 (s_X5_tellPost H) (fun x11 h12 H => ?_)
    refine a_iload_n 2 rfl rfl dX7_rowsWith_66 ?_
    refine a_icmp_ne (tgt := 73) dX7_rowsWith_67 (by decide) (fun c => ?_) (fun c => ?_)
    · have H := H.1 (c)
      exact b_X7_rowsWith_73 hK17 H
    · have H := H.2 (c)
      refine a_iinc (v := v4 + 1) (lv1 := [(0, .ref v0), (1, .int v1), (2, .int v2), (3, .int v3), (4, .int (v4 + 1)), (5, .int v5), (6, .int v6)]) [1, 2, 3, 4, 0, 5, 6] 4 rfl (by decide) rfl rfl dX7_rowsWith_70 ?_
      exact b_X7_rowsWith_73 hK17 H
def L_X7_rowsWith_17 (Q : Int32 → AH → Prop)  (v0 : Nat) (v1 : Int32) (v2 : Int32) (v3 : Int32) (v5 : Int32) : Nat → Int32 → Int32 → AH → Prop
  | 0, _, _, _ => False
  | n + 1, v4, v6, h => B_X7_rowsWith_17 Q (L_X7_rowsWith_17 Q  v0 v1 v2 v3 v5 n) v0 v1 v2 v3 v5 v4 v6 h
theorem l_X7_rowsWith_17 {o : Om} {Q : Int32 → AH → Prop}  {v0 : Nat} {v1 : Int32} {v2 : Int32} {v3 : Int32} {v5 : Int32}  : ∀ (n : Nat) (v4 : Int32) (v6 : Int32) (h : AH), L_X7_rowsWith_17 Q  v0 v1 v2 v3 v5 n v4 v6 h → AQ o kX7_rowsWith h 17 [(0, .ref v0), (1, .int v1), (2, .int v2), (3, .int v3), (4, .int v4), (5, .int v5), (6, .int v6)] [] (qI Q) := by
  intro n
  induction n with
  | zero => intro v4 v6 h H; exact H.elim
  | succ n ih => intro v4 v6 h H; exact b_X7_rowsWith_17 ih H
def f_X7_rowsWith (v0 : Nat) (v1 : Int32) (v2 : Int32) (v3 : Int32) (h : AH) (Q : Int32 → AH → Prop) : Prop :=
  isO h v0 7 ∧ f_X7_rowsOf v0 v3 h (fun x1 h2 => isO h2 v0 7 ∧ f_X7_firstRow v0  h2 (fun h3 => ∃ n, L_X7_rowsWith_17 Q  v0 v1 v2 v3 x1 n (0 : Int32) (0 : Int32) h3))
set_option maxRecDepth 100000 in
set_option maxHeartbeats 4000000 in
theorem s_X7_rowsWith {o : Om} {v0 : Nat} {v1 : Int32} {v2 : Int32} {v3 : Int32} {h : AH} {Q : Int32 → AH → Prop} (H : f_X7_rowsWith v0 v1 v2 v3 h Q) : MQ' o kX7_rowsWith [.ref v0, .int v1, .int v2, .int v3] h (qI Q) := by
  refine MQ'.of (by decide +kernel) (Nat.le_of_ble_eq_true rfl) ?_
  show AQ o kX7_rowsWith h 0 [(0, .ref v0), (1, .int v1), (2, .int v2), (3, .int v3)] [] (qI Q)
  refine a_iconst (v := (0 : Int32)) (by decide) dX7_rowsWith_0 ?_
  refine a_istore (lv1 := [(0, .ref v0), (1, .int v1), (2, .int v2), (3, .int v3), (4, .int (0 : Int32))]) [1, 2, 3, 4, 0] (by decide) rfl dX7_rowsWith_1 ?_
  refine a_aload_n 0 rfl rfl dX7_rowsWith_3 ?_
  refine a_iload_n 3 rfl rfl dX7_rowsWith_4 ?_
  refine r_Vi (q := (RX7, TX7, 17)) (av := [.int v3]) (rest := []) rfl rfl okX7_rowsOf H.1 rfl rfl wd783 wd784 wd785 ⟨Nat.le_of_ble_eq_true rfl, Nat.le_of_ble_eq_true rfl⟩ (Nat.le_of_ble_eq_true rfl) dX7_rowsWith_5 (s_X7_rowsOf H.2) (fun x1 h2 H => ?_)
  refine a_istore (lv1 := [(0, .ref v0), (1, .int v1), (2, .int v2), (3, .int v3), (4, .int (0 : Int32)), (5, .int x1)]) [1, 2, 3, 4, 5, 0] (by decide) rfl dX7_rowsWith_8 ?_
  refine a_aload_n 0 rfl rfl dX7_rowsWith_10 ?_
  refine r_Vv (q := (RX7, TX7, 17)) (av := []) (rest := []) rfl rfl okX7_firstRow H.1 rfl rfl wd787 wd789 wp17 ⟨Nat.le_of_ble_eq_true rfl, Nat.le_of_ble_eq_true rfl⟩ (Nat.le_of_ble_eq_true rfl) dX7_rowsWith_11 (s_X7_firstRow H.2) (fun h3 H => ?_)
  refine a_iconst (v := (0 : Int32)) (by decide) dX7_rowsWith_14 ?_
  refine a_istore (lv1 := [(0, .ref v0), (1, .int v1), (2, .int v2), (3, .int v3), (4, .int (0 : Int32)), (5, .int x1), (6, .int (0 : Int32))]) [1, 2, 3, 4, 5, 6, 0] (by decide) rfl dX7_rowsWith_15 ?_
  obtain ⟨n, H⟩ := H
  exact l_X7_rowsWith_17  n _ _ _ H
def B_X11_tellFraction_39 (Q : AH → Prop)  (v0 : Nat) (v1 : Int32) (v2 : Int32) (v3 : Int32) (h : AH) : Prop :=
  ((v3 ≤ 0 → Q h) ∧ (¬ (v3 ≤ 0) → (¬ v3 = 0) ∧ (pF h v0 11 13 (.long ((v1 / v3).toInt64)) (fun h1 => (¬ v3 = 0) ∧ (pF h1 v0 11 14 (.long ((v2 / v3).toInt64)) (fun h2 => Q h2))))))
set_option maxRecDepth 100000 in
set_option maxHeartbeats 4000000 in
theorem b_X11_tellFraction_39 {o : Om} {Q : AH → Prop}  {v0 : Nat} {v1 : Int32} {v2 : Int32} {v3 : Int32} {h : AH}  (H : B_X11_tellFraction_39 Q  v0 v1 v2 v3 h) : AQ o kX11_tellFraction h 39 [(0, .ref v0), (1, .int v1), (2, .int v2), (3, .int v3)] [] (qV Q) := by
  refine a_iload_n 3 rfl rfl dX11_tellFraction_39 ?_
  refine a_if_le (tgt := 59) dX11_tellFraction_40 (by decide) (fun c => ?_) (fun c => ?_)
  · have H := H.1 (c)
    exact r_retv rfl dX11_tellFraction_59 H
  · have H := H.2 (c)
    refine a_aload_n 0 rfl rfl dX11_tellFraction_43 ?_
    refine a_iload_n 1 rfl rfl dX11_tellFraction_44 ?_
    refine a_iload_n 3 rfl rfl dX11_tellFraction_45 ?_
    refine a_idiv H.1 dX11_tellFraction_46 ?_
    have H := H.2
    refine a_i2l dX11_tellFraction_47 ?_
    refine r_pF (po_RX11_47_11 _) (fun _ => rfl) (fun _ => rfl) dX11_tellFraction_48 H (fun h1 H => ?_)
    refine a_aload_n 0 rfl rfl dX11_tellFraction_51 ?_
    refine a_iload_n 2 rfl rfl dX11_tellFraction_52 ?_
    refine a_iload_n 3 rfl rfl dX11_tellFraction_53 ?_
    refine a_idiv H.1 dX11_tellFraction_54 ?_
    have H := H.2
    refine a_i2l dX11_tellFraction_55 ?_
    refine r_pF (po_RX11_51_11 _) (fun _ => rfl) (fun _ => rfl) dX11_tellFraction_56 H (fun h2 H => ?_)
    exact r_retv rfl dX11_tellFraction_59 H
def B_X11_tellFraction_8 (Q : AH → Prop) (K8 : Int32 → Int32 → Int32 → AH → Prop) (v0 : Nat) (v1 : Int32) (v2 : Int32) (v3 : Int32) (v4 : Int32) (v5 : Int32) (h : AH) : Prop :=
  ((v4 = 0 → B_X11_tellFraction_39 Q  v0 v1 v2 v3 h) ∧ (¬ (v4 = 0) → (((100 : Int32) ≤ v5 → B_X11_tellFraction_39 Q  v0 v1 v2 v3 h) ∧ (¬ ((100 : Int32) ≤ v5) → (¬ v4 = 0) ∧ (K8 v4 (v3 - v3 / v4 * v4) (v5 + 1) h)))))
set_option maxRecDepth 100000 in
set_option maxHeartbeats 4000000 in
theorem b_X11_tellFraction_8 {o : Om} {Q : AH → Prop} {K8 : Int32 → Int32 → Int32 → AH → Prop} {v0 : Nat} {v1 : Int32} {v2 : Int32} {v3 : Int32} {v4 : Int32} {v5 : Int32} {h : AH} (hK8 : ∀ w3 w4 w5 h, K8 w3 w4 w5 h → AQ o kX11_tellFraction h 8 [(0, .ref v0), (1, .int v1), (2, .int v2), (3, .int w3), (4, .int w4), (5, .int w5)] [] (qV Q)) (H : B_X11_tellFraction_8 Q K8 v0 v1 v2 v3 v4 v5 h) : AQ o kX11_tellFraction h 8 [(0, .ref v0), (1, .int v1), (2, .int v2), (3, .int v3), (4, .int v4), (5, .int v5)] [] (qV Q) := by
  refine a_iload 4 rfl dX11_tellFraction_8 ?_
  refine a_if_eq (tgt := 39) dX11_tellFraction_10 (by decide) (fun c => ?_) (fun c => ?_)
  · have H := H.1 (c)
    refine AQ.sub (lv1 := [(0, .ref v0), (1, .int v1), (2, .int v2), (3, .int v3)]) [0, 1, 2, 3] rfl ?_
    exact b_X11_tellFraction_39  H
  · have H := H.2 (c)
    refine a_iload 5 rfl dX11_tellFraction_13 ?_
    refine a_bipush (v := (100 : Int32)) (by decide) dX11_tellFraction_15 ?_
    refine a_icmp_ge (tgt := 39) dX11_tellFraction_17 (by decide) (fun c => ?_) (fun c => ?_)
    · have H := H.1 (c)
      refine AQ.sub (lv1 := [(0, .ref v0), (1, .int v1), (2, .int v2), (3, .int v3)]) [0, 1, 2, 3] rfl ?_
      exact b_X11_tellFraction_39  H
    · have H := H.2 (c)
      refine a_iload_n 3 rfl rfl dX11_tellFraction_20 ?_
      refine a_iload 4 rfl dX11_tellFraction_21 ?_
      refine a_irem H.1 dX11_tellFraction_23 ?_
      have H := H.2
      refine a_istore (lv1 := [(0, .ref v0), (1, .int v1), (2, .int v2), (3, .int v3), (4, .int v4), (5, .int v5), (6, .int (v3 - v3 / v4 * v4))]) [1, 2, 3, 4, 5, 6, 0] (by decide) rfl dX11_tellFraction_24 ?_
      refine a_iload 4 rfl dX11_tellFraction_26 ?_
      refine a_istore_n (lv1 := [(0, .ref v0), (1, .int v1), (2, .int v2), (3, .int v4), (4, .int v4), (5, .int v5), (6, .int (v3 - v3 / v4 * v4))]) rfl [1, 2, 3, 0, 4, 5, 6] (by decide) rfl dX11_tellFraction_28 ?_
      refine a_iload 6 rfl dX11_tellFraction_29 ?_
      refine a_istore (lv1 := [(0, .ref v0), (1, .int v1), (2, .int v2), (3, .int v4), (4, .int (v3 - v3 / v4 * v4)), (5, .int v5), (6, .int (v3 - v3 / v4 * v4))]) [1, 2, 3, 4, 0, 5, 6] (by decide) rfl dX11_tellFraction_31 ?_
      refine a_iinc (v := v5 + 1) (lv1 := [(0, .ref v0), (1, .int v1), (2, .int v2), (3, .int v4), (4, .int (v3 - v3 / v4 * v4)), (5, .int (v5 + 1)), (6, .int (v3 - v3 / v4 * v4))]) [1, 2, 3, 4, 5, 0, 6] 5 rfl (by decide) rfl rfl dX11_tellFraction_33 ?_
      refine a_goto (tgt := 8) dX11_tellFraction_36 (by decide) ?_
      refine AQ.sub (lv1 := [(0, .ref v0), (1, .int v1), (2, .int v2), (3, .int v4), (4, .int (v3 - v3 / v4 * v4)), (5, .int (v5 + 1))]) [0, 1, 2, 3, 4, 5] rfl ?_
      exact hK8 _ _ _ _ H
def L_X11_tellFraction_8 (Q : AH → Prop)  (v0 : Nat) (v1 : Int32) (v2 : Int32) : Nat → Int32 → Int32 → Int32 → AH → Prop
  | 0, _, _, _, _ => False
  | n + 1, v3, v4, v5, h => B_X11_tellFraction_8 Q (L_X11_tellFraction_8 Q  v0 v1 v2 n) v0 v1 v2 v3 v4 v5 h
theorem l_X11_tellFraction_8 {o : Om} {Q : AH → Prop}  {v0 : Nat} {v1 : Int32} {v2 : Int32}  : ∀ (n : Nat) (v3 : Int32) (v4 : Int32) (v5 : Int32) (h : AH), L_X11_tellFraction_8 Q  v0 v1 v2 n v3 v4 v5 h → AQ o kX11_tellFraction h 8 [(0, .ref v0), (1, .int v1), (2, .int v2), (3, .int v3), (4, .int v4), (5, .int v5)] [] (qV Q) := by
  intro n
  induction n with
  | zero => intro v3 v4 v5 h H; exact H.elim
  | succ n ih => intro v3 v4 v5 h H; exact b_X11_tellFraction_8 ih H
def f_X11_tellFraction (v0 : Nat) (v1 : Int32) (v2 : Int32) (h : AH) (Q : AH → Prop) : Prop :=
  ∃ n, L_X11_tellFraction_8 Q  v0 v1 v2 n v1 v2 (0 : Int32) h
set_option maxRecDepth 100000 in
set_option maxHeartbeats 4000000 in
theorem s_X11_tellFraction {o : Om} {v0 : Nat} {v1 : Int32} {v2 : Int32} {h : AH} {Q : AH → Prop} (H : f_X11_tellFraction v0 v1 v2 h Q) : MQ' o kX11_tellFraction [.ref v0, .int v1, .int v2] h (qV Q) := by
  refine MQ'.of (by decide +kernel) (Nat.le_of_ble_eq_true rfl) ?_
  show AQ o kX11_tellFraction h 0 [(0, .ref v0), (1, .int v1), (2, .int v2)] [] (qV Q)
  refine a_iload_n 1 rfl rfl dX11_tellFraction_0 ?_
  refine a_istore_n (lv1 := [(0, .ref v0), (1, .int v1), (2, .int v2), (3, .int v1)]) rfl [1, 2, 3, 0] (by decide) rfl dX11_tellFraction_1 ?_
  refine a_iload_n 2 rfl rfl dX11_tellFraction_2 ?_
  refine a_istore (lv1 := [(0, .ref v0), (1, .int v1), (2, .int v2), (3, .int v1), (4, .int v2)]) [1, 2, 3, 4, 0] (by decide) rfl dX11_tellFraction_3 ?_
  refine a_iconst (v := (0 : Int32)) (by decide) dX11_tellFraction_5 ?_
  refine a_istore (lv1 := [(0, .ref v0), (1, .int v1), (2, .int v2), (3, .int v1), (4, .int v2), (5, .int (0 : Int32))]) [1, 2, 3, 4, 5, 0] (by decide) rfl dX11_tellFraction_6 ?_
  obtain ⟨n, H⟩ := H
  exact l_X11_tellFraction_8  n _ _ _ _ H
def B_X11_odds_65 (Q : Int32 → AH → Prop)  (v0 : Nat) (v1 : Int32) (v2 : Int32) (v3 : Int32) (h : AH) : Prop :=
  gR h v0 11 7 (fun a1 => gR h v0 11 8 (fun a2 => gI h v0 11 9 (fun x3 => gI h v0 11 10 (fun x4 => isO h a1 7 ∧ f_X7_from a1 a2 x3 x4 h (fun h5 => gR h5 v0 11 7 (fun a6 => isO h5 a6 7 ∧ f_X7_rowsWith a6 v1 v2 v3 h5 (fun x7 h8 => gR h8 v0 11 7 (fun a9 => isO h8 a9 7 ∧ f_X7_rowsOf a9 v3 h8 (fun x10 h11 => isO h11 v0 11 ∧ f_X11_tellFraction v0 x7 x10 h11 (fun h12 => Q (1 : Int32) h12))))))))))
set_option maxRecDepth 100000 in
set_option maxHeartbeats 4000000 in
theorem b_X11_odds_65 {o : Om} {Q : Int32 → AH → Prop}  {v0 : Nat} {v1 : Int32} {v2 : Int32} {v3 : Int32} {h : AH}  (H : B_X11_odds_65 Q  v0 v1 v2 v3 h) : AQ o kX11_odds h 65 [(0, .ref v0), (1, .int v1), (2, .int v2), (3, .int v3)] [] (qI Q) := by
  refine a_aload_n 0 rfl rfl dX11_odds_65 ?_
  refine r_gR fo_RX11_74_11 dX11_odds_66 H (fun a1 H => ?_)
  refine a_aload_n 0 rfl rfl dX11_odds_69 ?_
  refine r_gR fo_RX11_60_11 dX11_odds_70 H (fun a2 H => ?_)
  refine a_aload_n 0 rfl rfl dX11_odds_73 ?_
  refine r_gI fo_RX11_34_11 dX11_odds_74 H (fun x3 H => ?_)
  refine a_aload_n 0 rfl rfl dX11_odds_77 ?_
  refine r_gI fo_RX11_38_11 dX11_odds_78 H (fun x4 H => ?_)
  refine r_Vv (q := (RX7, TX7, 17)) (av := [.ref a2, .int x3, .int x4]) (rest := []) rfl rfl okX7_from H.1 rfl rfl wd775 wd776 wd777 ⟨Nat.le_of_ble_eq_true rfl, Nat.le_of_ble_eq_true rfl⟩ (Nat.le_of_ble_eq_true rfl) dX11_odds_81 (s_X7_from H.2) (fun h5 H => ?_)
  refine a_aload_n 0 rfl rfl dX11_odds_84 ?_
  refine r_gR fo_RX11_74_11 dX11_odds_85 H (fun a6 H => ?_)
  refine a_iload_n 1 rfl rfl dX11_odds_88 ?_
  refine a_iload_n 2 rfl rfl dX11_odds_89 ?_
  refine a_iload_n 3 rfl rfl dX11_odds_90 ?_
  refine r_Vi (q := (RX7, TX7, 17)) (av := [.int v1, .int v2, .int v3]) (rest := []) rfl rfl okX7_rowsWith H.1 rfl rfl wd947 wd948 wd949 ⟨Nat.le_of_ble_eq_true rfl, Nat.le_of_ble_eq_true rfl⟩ (Nat.le_of_ble_eq_true rfl) dX11_odds_91 (s_X7_rowsWith H.2) (fun x7 h8 H => ?_)
  refine a_istore (lv1 := [(0, .ref v0), (1, .int v1), (2, .int v2), (3, .int v3), (4, .int x7)]) [1, 2, 3, 4, 0] (by decide) rfl dX11_odds_94 ?_
  refine a_aload_n 0 rfl rfl dX11_odds_96 ?_
  refine a_iload 4 rfl dX11_odds_97 ?_
  refine a_aload_n 0 rfl rfl dX11_odds_99 ?_
  refine r_gR fo_RX11_74_11 dX11_odds_100 H (fun a9 H => ?_)
  refine a_iload_n 3 rfl rfl dX11_odds_103 ?_
  refine r_Vi (q := (RX7, TX7, 17)) (av := [.int v3]) (rest := [.int x7, .ref v0]) rfl rfl okX7_rowsOf H.1 rfl rfl wd952 wd784 wd785 ⟨Nat.le_of_ble_eq_true rfl, Nat.le_of_ble_eq_true rfl⟩ (Nat.le_of_ble_eq_true rfl) dX11_odds_104 (s_X7_rowsOf H.2) (fun x10 h11 H => ?_)
  refine r_Vv (q := (RX11, TX11, 16)) (av := [.int x7, .int x10]) (rest := []) rfl rfl okX11_tellFraction H.1 rfl rfl wd953 wd955 wp29 ⟨Nat.le_of_ble_eq_true rfl, Nat.le_of_ble_eq_true rfl⟩ (Nat.le_of_ble_eq_true rfl) dX11_odds_107 (s_X11_tellFraction H.2) (fun h12 H => ?_)
  refine a_iconst (v := (1 : Int32)) (by decide) dX11_odds_110 ?_
  exact r_reti rfl dX11_odds_111 H
def B_X11_odds_45 (Q : Int32 → AH → Prop)  (v0 : Nat) (v1 : Int32) (v2 : Int32) (v3 : Int32) (h : AH) : Prop :=
  gR h v0 11 8 (fun a1 => gI h a1 5 6 (fun x2 => ((¬ (x2 = 0) → B_X11_odds_65 Q  v0 v1 v2 v3 h) ∧ (x2 = 0 → ((v3 ≤ 0 → B_X11_odds_65 Q  v0 v1 v2 v3 h) ∧ (¬ (v3 ≤ 0) → isO h v0 11 ∧ f_X11_found v0 (4 : Int32) h (fun x3 h4 => Q x3 h4)))))))
set_option maxRecDepth 100000 in
set_option maxHeartbeats 4000000 in
theorem b_X11_odds_45 {o : Om} {Q : Int32 → AH → Prop}  {v0 : Nat} {v1 : Int32} {v2 : Int32} {v3 : Int32} {h : AH}  (H : B_X11_odds_45 Q  v0 v1 v2 v3 h) : AQ o kX11_odds h 45 [(0, .ref v0), (1, .int v1), (2, .int v2), (3, .int v3)] [] (qI Q) := by
  refine a_aload_n 0 rfl rfl dX11_odds_45 ?_
  refine r_gR fo_RX11_60_11 dX11_odds_46 H (fun a1 H => ?_)
  refine r_gI fo_RX11_153_5 dX11_odds_49 H (fun x2 H => ?_)
  refine a_if_ne (tgt := 65) dX11_odds_52 (by decide) (fun c => ?_) (fun c => ?_)
  · have H := H.1 (c)
    exact b_X11_odds_65  H
  · have H := H.2 (c)
    refine a_iload_n 3 rfl rfl dX11_odds_55 ?_
    refine a_if_le (tgt := 65) dX11_odds_56 (by decide) (fun c => ?_) (fun c => ?_)
    · have H := H.1 (c)
      exact b_X11_odds_65  H
    · have H := H.2 (c)
      refine a_aload_n 0 rfl rfl dX11_odds_59 ?_
      refine a_iconst (v := (4 : Int32)) (by decide) dX11_odds_60 ?_
      refine r_Vi (q := (RX11, TX11, 16)) (av := [.int (4 : Int32)]) (rest := []) rfl rfl okX11_found H.1 rfl rfl wd260 wd262 wp0 ⟨Nat.le_of_ble_eq_true rfl, Nat.le_of_ble_eq_true rfl⟩ (Nat.le_of_ble_eq_true rfl) dX11_odds_61 (s_X11_found H.2) (fun x3 h4 H => ?_)
      exact r_reti rfl dX11_odds_64 H
def f_X11_odds (v0 : Nat) (v1 : Int32) (v2 : Int32) (v3 : Int32) (h : AH) (Q : Int32 → AH → Prop) : Prop :=
  gR h v0 11 8 (fun a1 => gI h a1 5 5 (fun x2 => f_X11_isBelow v1 x2 h (fun x3 h4 => ((x3 = 0 → Q (-1 : Int32) h4) ∧ (¬ (x3 = 0) → ((v3 < 0 → Q (-1 : Int32) h4) ∧ (¬ (v3 < 0) → (((4 : Int32) < v3 → Q (-1 : Int32) h4) ∧ (¬ ((4 : Int32) < v3) → ((v2 = (-9 : Int32) → B_X11_odds_45 Q  v0 v1 v2 v3 h4) ∧ (¬ (v2 = (-9 : Int32)) → gR h4 v0 11 8 (fun a5 => gI h4 a5 5 4 (fun x6 => f_X11_isBelow v2 x6 h4 (fun x7 h8 => ((¬ (x7 = 0) → B_X11_odds_45 Q  v0 v1 v2 v3 h8) ∧ (x7 = 0 → Q (-1 : Int32) h8))))))))))))))))
set_option maxRecDepth 100000 in
set_option maxHeartbeats 4000000 in
theorem s_X11_odds {o : Om} {v0 : Nat} {v1 : Int32} {v2 : Int32} {v3 : Int32} {h : AH} {Q : Int32 → AH → Prop} (H : f_X11_odds v0 v1 v2 v3 h Q) : MQ' o kX11_odds [.ref v0, .int v1, .int v2, .int v3] h (qI Q) := by
  refine MQ'.of (by decide +kernel) (Nat.le_of_ble_eq_true rfl) ?_
  show AQ o kX11_odds h 0 [(0, .ref v0), (1, .int v1), (2, .int v2), (3, .int v3)] [] (qI Q)
  refine a_iload_n 1 rfl rfl dX11_odds_0 ?_
  refine a_aload_n 0 rfl rfl dX11_odds_1 ?_
  refine r_gR fo_RX11_60_11 dX11_odds_2 H (fun a1 H => ?_)
  refine r_gI fo_RX11_146_5 dX11_odds_5 H (fun x2 H => ?_)
  refine r_Si (av := [.int v1, .int x2]) (rest := []) rfl rfl okX11_isBelow wd257 wd258 ⟨Nat.le_of_ble_eq_true rfl, Nat.le_of_ble_eq_true rfl⟩ (Nat.le_of_ble_eq_true rfl) dX11_odds_8 (s_X11_isBelow H) (fun x3 h4 H => ?_)
  refine a_if_eq (tgt := 43) dX11_odds_11 (by decide) (fun c => ?_) (fun c => ?_)
  · have H := H.1 (c)
    refine a_iconst (v := (-1 : Int32)) (by decide) dX11_odds_43 ?_
    exact r_reti rfl dX11_odds_44 H
  · have H := H.2 (c)
    refine a_iload_n 3 rfl rfl dX11_odds_14 ?_
    refine a_if_lt (tgt := 43) dX11_odds_15 (by decide) (fun c => ?_) (fun c => ?_)
    · have H := H.1 (c)
      refine a_iconst (v := (-1 : Int32)) (by decide) dX11_odds_43 ?_
      exact r_reti rfl dX11_odds_44 H
    · have H := H.2 (c)
      refine a_iload_n 3 rfl rfl dX11_odds_18 ?_
      refine a_iconst (v := (4 : Int32)) (by decide) dX11_odds_19 ?_
      refine a_icmp_gt (tgt := 43) dX11_odds_20 (by decide) (fun c => ?_) (fun c => ?_)
      · have H := H.1 (c)
        refine a_iconst (v := (-1 : Int32)) (by decide) dX11_odds_43 ?_
        exact r_reti rfl dX11_odds_44 H
      · have H := H.2 (c)
        refine a_iload_n 2 rfl rfl dX11_odds_23 ?_
        refine a_bipush (v := (-9 : Int32)) (by decide) dX11_odds_24 ?_
        refine a_icmp_eq (tgt := 45) dX11_odds_26 (by decide) (fun c => ?_) (fun c => ?_)
        · have H := H.1 (c)
          exact b_X11_odds_45  H
        · have H := H.2 (c)
          refine a_iload_n 2 rfl rfl dX11_odds_29 ?_
          refine a_aload_n 0 rfl rfl dX11_odds_30 ?_
          refine r_gR fo_RX11_60_11 dX11_odds_31 H (fun a5 H => ?_)
          refine r_gI fo_RX11_198_5 dX11_odds_34 H (fun x6 H => ?_)
          refine r_Si (av := [.int v2, .int x6]) (rest := []) rfl rfl okX11_isBelow wd257 wd258 ⟨Nat.le_of_ble_eq_true rfl, Nat.le_of_ble_eq_true rfl⟩ (Nat.le_of_ble_eq_true rfl) dX11_odds_37 (s_X11_isBelow H) (fun x7 h8 H => ?_)
          refine a_if_ne (tgt := 45) dX11_odds_40 (by decide) (fun c => ?_) (fun c => ?_)
          · have H := H.1 (c)
            exact b_X11_odds_45  H
          · have H := H.2 (c)
            refine a_iconst (v := (-1 : Int32)) (by decide) dX11_odds_43 ?_
            exact r_reti rfl dX11_odds_44 H
