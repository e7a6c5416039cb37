def B_X12_undo_82 (Q : Int32 → AH → Prop) (K23 : AH → Prop) (K82 : Int32 → AH → Prop) (v0 : Nat) (v1 : Int32) (v2 : Int32) (v3 : Int32) (h : AH) : Prop :=
  (((5 : Int32) ≤ v3 → K23  h) ∧ (¬ ((5 : Int32) ≤ v3) → gR h v0 12 19 (fun a1 => lI h a1 v3 (fun x2 => gR h v0 12 24 (fun a3 => gI h v0 12 20 (fun x4 => lI h a3 (((5 : Int32) * x4) + v3) (fun x5 => sI h a1 v3 (x2 - x5) (fun h6 => K82 (v3 + 1) h6))))))))
set_option maxRecDepth 100000 in
set_option maxHeartbeats 4000000 in
theorem b_X12_undo_82 {o : Om} {Q : Int32 → AH → Prop} {K23 : AH → Prop} {K82 : Int32 → AH → Prop} {v0 : Nat} {v1 : Int32} {v2 : Int32} {v3 : Int32} {h : AH} (hK23 : ∀  h, K23  h → AQ o kX12_undo h 23 [(0, .ref v0), (1, .int v1), (2, .int v2)] [] (qI Q)) (hK82 : ∀ w3 h, K82 w3 h → AQ o kX12_undo h 82 [(0, .ref v0), (1, .int v1), (2, .int v2), (3, .int w3)] [] (qI Q)) (H : B_X12_undo_82 Q K23 K82 v0 v1 v2 v3 h) : AQ o kX12_undo h 82 [(0, .ref v0), (1, .int v1), (2, .int v2), (3, .int v3)] [] (qI Q) := by
  refine a_iload_n 3 rfl rfl dX12_undo_82 ?_
  refine a_iconst (v := (5 : Int32)) (by decide) dX12_undo_83 ?_
  refine a_icmp_ge (tgt := 115) dX12_undo_84 (by decide) (fun c => ?_) (fun c => ?_)
  · have H := H.1 (c)
    refine a_goto (tgt := 23) dX12_undo_115 (by decide) ?_
    refine AQ.sub (lv1 := [(0, .ref v0), (1, .int v1), (2, .int v2)]) [0, 1, 2] rfl ?_
    exact hK23  _ H
  · have H := H.2 (c)
    refine a_aload_n 0 rfl rfl dX12_undo_87 ?_
    refine r_gR fo_RX12_44_12 dX12_undo_88 H (fun a1 H => ?_)
    refine a_iload_n 3 rfl rfl dX12_undo_91 ?_
    refine a_dup2 rfl rfl dX12_undo_92 ?_
    refine r_lI dX12_undo_93 H (fun x2 H => ?_)
    refine a_aload_n 0 rfl rfl dX12_undo_94 ?_
    refine r_gR fo_RX12_56_12 dX12_undo_95 H (fun a3 H => ?_)
    refine a_iconst (v := (5 : Int32)) (by decide) dX12_undo_98 ?_
    refine a_aload_n 0 rfl rfl dX12_undo_99 ?_
    refine r_gI fo_RX12_172_12 dX12_undo_100 H (fun x4 H => ?_)
    refine a_imul dX12_undo_103 ?_
    refine a_iload_n 3 rfl rfl dX12_undo_104 ?_
    refine a_iadd dX12_undo_105 ?_
    refine r_lI dX12_undo_106 H (fun x5 H => ?_)
    refine a_isub dX12_undo_107 ?_
    refine r_sI dX12_undo_108 H (fun h6 H => ?_)
    refine a_iinc (v := v3 + 1) (lv1 := [(0, .ref v0), (1, .int v1), (2, .int v2), (3, .int (v3 + 1))]) [1, 2, 3, 0] 3 rfl (by decide) rfl rfl dX12_undo_109 ?_
    refine a_goto (tgt := 82) dX12_undo_112 (by decide) ?_
    exact hK82 _ _ H
def L_X12_undo_82 (Q : Int32 → AH → Prop) (K23 : AH → Prop) (v0 : Nat) (v1 : Int32) (v2 : Int32) : Nat → Int32 → AH → Prop
  | 0, _, _ => False
  | n + 1, v3, h => B_X12_undo_82 Q K23 (L_X12_undo_82 Q K23 v0 v1 v2 n) v0 v1 v2 v3 h
theorem l_X12_undo_82 {o : Om} {Q : Int32 → AH → Prop} {K23 : AH → Prop} {v0 : Nat} {v1 : Int32} {v2 : Int32} (hK23 : ∀  h, K23  h → AQ o kX12_undo h 23 [(0, .ref v0), (1, .int v1), (2, .int v2)] [] (qI Q)) : ∀ (n : Nat) (v3 : Int32) (h : AH), L_X12_undo_82 Q K23 v0 v1 v2 n v3 h → AQ o kX12_undo h 82 [(0, .ref v0), (1, .int v1), (2, .int v2), (3, .int v3)] [] (qI Q) := by
  intro n
  induction n with
  | zero => intro v3 h H; exact H.elim
  | succ n ih => intro v3 h H; exact b_X12_undo_82 hK23 ih H
def B_X12_undo_23 (Q : Int32 → AH → Prop) (K23 : AH → Prop) (v0 : Nat) (v1 : Int32) (v2 : Int32) (h : AH) : Prop :=
  gI h v0 12 20 (fun x1 => ((x1 ≤ v1 → Q v2 h) ∧ (¬ (x1 ≤ v1) → gI h v0 12 20 (fun x2 => pF h v0 12 20 (.int (x2 - (1 : Int32))) (fun h3 => gR h3 v0 12 22 (fun a4 => gI h3 v0 12 20 (fun x5 => lI h3 a4 x5 (fun x6 => pF h3 v0 12 17 (.int x6) (fun h7 => gR h7 v0 12 18 (fun a8 => gR h7 v0 12 21 (fun a9 => gI h7 v0 12 20 (fun x10 => lI h7 a9 x10 (fun x11 => lI h7 a8 x11 (fun x12 => gR h7 v0 12 23 (fun a13 => gI h7 v0 12 20 (fun x14 => lI h7 a13 x14 (fun x15 => sI h7 a8 x11 (x12 - x15) (fun h16 => ∃ n, L_X12_undo_82 Q K23 v0 v1 v2 n (0 : Int32) h16))))))))))))))))))
set_option maxRecDepth 100000 in
set_option maxHeartbeats 4000000 in
theorem b_X12_undo_23 {o : Om} {Q : Int32 → AH → Prop} {K23 : AH → Prop} {v0 : Nat} {v1 : Int32} {v2 : Int32} {h : AH} (hK23 : ∀  h, K23  h → AQ o kX12_undo h 23 [(0, .ref v0), (1, .int v1), (2, .int v2)] [] (qI Q)) (H : B_X12_undo_23 Q K23 v0 v1 v2 h) : AQ o kX12_undo h 23 [(0, .ref v0), (1, .int v1), (2, .int v2)] [] (qI Q) := by
  refine a_aload_n 0 rfl rfl dX12_undo_23 ?_
  refine r_gI fo_RX12_172_12 dX12_undo_24 H (fun x1 H => ?_)
  refine a_iload_n 1 rfl rfl dX12_undo_27 ?_
  refine a_icmp_le (tgt := 118) dX12_undo_28 (by decide) (fun c => ?_) (fun c => ?_)
  · have H := H.1 (c)
    refine a_iload_n 2 rfl rfl dX12_undo_118 ?_
    exact r_reti rfl dX12_undo_119 H
  · have H := H.2 (c)
    refine a_aload_n 0 rfl rfl dX12_undo_31 ?_
    refine a_dup rfl dX12_undo_32 ?_
    refine r_gI fo_RX12_172_12 dX12_undo_33 H (fun x2 H => ?_)
    refine a_iconst (v := (1 : Int32)) (by decide) dX12_undo_36 ?_
    refine a_isub dX12_undo_37 ?_
    refine r_pF (po_RX12_172_12 _) (fun _ => rfl) (fun _ => rfl) dX12_undo_38 H (fun h3 H => ?_)
    refine a_aload_n 0 rfl rfl dX12_undo_41 ?_
    refine a_aload_n 0 rfl rfl dX12_undo_42 ?_
    refine r_gR fo_RX12_50_12 dX12_undo_43 H (fun a4 H => ?_)
    refine a_aload_n 0 rfl rfl dX12_undo_46 ?_
    refine r_gI fo_RX12_172_12 dX12_undo_47 H (fun x5 H => ?_)
    refine r_lI dX12_undo_50 H (fun x6 H => ?_)
    refine r_pF (po_RX12_184_12 _) (fun _ => rfl) (fun _ => rfl) dX12_undo_51 H (fun h7 H => ?_)
    refine a_aload_n 0 rfl rfl dX12_undo_54 ?_
    refine r_gR fo_RX12_41_12 dX12_undo_55 H (fun a8 H => ?_)
    refine a_aload_n 0 rfl rfl dX12_undo_58 ?_
    refine r_gR fo_RX12_47_12 dX12_undo_59 H (fun a9 H => ?_)
    refine a_aload_n 0 rfl rfl dX12_undo_62 ?_
    refine r_gI fo_RX12_172_12 dX12_undo_63 H (fun x10 H => ?_)
    refine r_lI dX12_undo_66 H (fun x11 H => ?_)
    refine a_dup2 rfl rfl dX12_undo_67 ?_
    refine r_lI dX12_undo_68 H (fun x12 H => ?_)
    refine a_aload_n 0 rfl rfl dX12_undo_69 ?_
    refine r_gR fo_RX12_53_12 dX12_undo_70 H (fun a13 H => ?_)
    refine a_aload_n 0 rfl rfl dX12_undo_73 ?_
    refine r_gI fo_RX12_172_12 dX12_undo_74 H (fun x14 H => ?_)
    refine r_lI dX12_undo_77 H (fun x15 H => ?_)
    refine a_isub dX12_undo_78 ?_
    refine r_sI dX12_undo_79 H (fun h16 H => ?_)
    refine a_iconst (v := (0 : Int32)) (by decide) dX12_undo_80 ?_
    refine a_istore_n (lv1 := [(0, .ref v0), (1, .int v1), (2, .int v2), (3, .int (0 : Int32))]) rfl [1, 2, 3, 0] (by decide) rfl dX12_undo_81 ?_
    obtain ⟨n, H⟩ := H
    exact l_X12_undo_82 hK23 n _ _ H
def L_X12_undo_23 (Q : Int32 → AH → Prop)  (v0 : Nat) (v1 : Int32) (v2 : Int32) : Nat → AH → Prop
  | 0, _ => False
  | n + 1, h => B_X12_undo_23 Q (L_X12_undo_23 Q  v0 v1 v2 n) v0 v1 v2  h
theorem l_X12_undo_23 {o : Om} {Q : Int32 → AH → Prop}  {v0 : Nat} {v1 : Int32} {v2 : Int32}  : ∀ (n : Nat)  (h : AH), L_X12_undo_23 Q  v0 v1 v2 n  h → AQ o kX12_undo h 23 [(0, .ref v0), (1, .int v1), (2, .int v2)] [] (qI Q) := by
  intro n
  induction n with
  | zero => intro  h H; exact H.elim
  | succ n ih => intro  h H; exact b_X12_undo_23 ih H
def f_X12_undo (v0 : Nat) (v1 : Int32) (h : AH) (Q : Int32 → AH → Prop) : Prop :=
  gI h v0 12 20 (fun x1 => f_X12_in v1.toInt64 (0 : Int64) x1.toInt64 h (fun x2 h3 => ((¬ (x2 = 0) → gI h3 v0 12 20 (fun x4 => ∃ n, L_X12_undo_23 Q  v0 v1 (x4 - v1) n  h3)) ∧ (x2 = 0 → Q (-1 : Int32) h3))))
set_option maxRecDepth 100000 in
set_option maxHeartbeats 4000000 in
theorem s_X12_undo {o : Om} {v0 : Nat} {v1 : Int32} {h : AH} {Q : Int32 → AH → Prop} (H : f_X12_undo v0 v1 h Q) : MQ' o kX12_undo [.ref v0, .int v1] h (qI Q) := by
  refine MQ'.of (by decide +kernel) (Nat.le_of_ble_eq_true rfl) ?_
  show AQ o kX12_undo h 0 [(0, .ref v0), (1, .int v1)] [] (qI Q)
  refine a_iload_n 1 rfl rfl dX12_undo_0 ?_
  refine a_i2l dX12_undo_1 ?_
  refine a_lconst (v := (0 : Int64)) (by decide) dX12_undo_2 ?_
  refine a_aload_n 0 rfl rfl dX12_undo_3 ?_
  refine r_gI fo_RX12_172_12 dX12_undo_4 H (fun x1 H => ?_)
  refine a_i2l dX12_undo_7 ?_
  refine r_Si (av := [.long v1.toInt64, .long (0 : Int64), .long x1.toInt64]) (rest := []) rfl rfl okX12_in wd1188 wd1189 ⟨Nat.le_of_ble_eq_true rfl, Nat.le_of_ble_eq_true rfl⟩ (Nat.le_of_ble_eq_true rfl) dX12_undo_8 (s_X12_in H) (fun x2 h3 H => ?_)
  refine a_if_ne (tgt := 16) dX12_undo_11 (by decide) (fun c => ?_) (fun c => ?_)
  · have H := H.1 (c)
    refine a_aload_n 0 rfl rfl dX12_undo_16 ?_
    refine r_gI fo_RX12_172_12 dX12_undo_17 H (fun x4 H => ?_)
    refine a_iload_n 1 rfl rfl dX12_undo_20 ?_
    refine a_isub dX12_undo_21 ?_
    refine a_istore_n (lv1 := [(0, .ref v0), (1, .int v1), (2, .int (x4 - v1))]) rfl [1, 2, 0] (by decide) rfl dX12_undo_22 ?_
    obtain ⟨n, H⟩ := H
    exact l_X12_undo_23  n  _ H
  · have H := H.2 (c)
    refine a_iconst (v := (-1 : Int32)) (by decide) dX12_undo_14 ?_
    exact r_reti rfl dX12_undo_15 H
def B_X11_walks_89 (Q : Int32 → AH → Prop) (K89 : Int32 → Int32 → AH → Prop) (v0 : Nat) (v3 : Nat) (v4 : Int32) (v5 : Int32) (h : AH) : Prop :=
  gI h v3 6 1 (fun x1 => ((x1 ≤ v5 → Q v4 h) ∧ (¬ (x1 ≤ v5) → isO h v3 6 ∧ f_X6_get v3 v5 h (fun x2 h3 => isO h3 v0 11 ∧ f_X11_doWalk v0 x2 h3 (fun x4 h5 => K89 (v4 + x4) (v5 + 1) h5)))))
set_option maxRecDepth 100000 in
set_option maxHeartbeats 4000000 in
theorem b_X11_walks_89 {o : Om} {Q : Int32 → AH → Prop} {K89 : Int32 → Int32 → AH → Prop} {v0 : Nat} {v3 : Nat} {v4 : Int32} {v5 : Int32} {h : AH} (hK89 : ∀ w4 w5 h, K89 w4 w5 h → AQ o kX11_walks h 89 [(0, .ref v0), (3, .ref v3), (4, .int w4), (5, .int w5)] [] (qI Q)) (H : B_X11_walks_89 Q K89 v0 v3 v4 v5 h) : AQ o kX11_walks h 89 [(0, .ref v0), (3, .ref v3), (4, .int v4), (5, .int v5)] [] (qI Q) := by
  refine a_iload 3 rfl dX11_walks_89 ?_
  refine a_aload_n 1 rfl rfl dX11_walks_91 ?_
  refine r_gI fo_RX11_130_6 dX11_walks_92 H (fun x1 H => ?_)
  refine a_icmp_ge (tgt := 119) dX11_walks_95 (by decide) (fun c => ?_) (fun c => ?_)
  · have H := H.1 (c)
    refine a_iload 2 rfl dX11_walks_119 ?_
    exact r_reti rfl dX11_walks_121 H
  · have H := H.2 (c)
    refine a_iload 2 rfl dX11_walks_98 ?_
    refine a_aload_n 0 rfl rfl dX11_walks_100 ?_
    refine a_aload_n 1 rfl rfl dX11_walks_101 ?_
    refine a_iload 3 rfl dX11_walks_102 ?_
    refine r_Vi (q := (RX6, TX6, 2)) (av := [.int v5]) (rest := [.ref v0, .int v4]) rfl rfl okX6_get H.1 rfl rfl wd295 wd296 wd297 ⟨Nat.le_of_ble_eq_true rfl, Nat.le_of_ble_eq_true rfl⟩ (Nat.le_of_ble_eq_true rfl) dX11_walks_104 (s_X6_get H.2) (fun x2 h3 H => ?_)
    refine r_Vi (q := (RX11, TX11, 16)) (av := [.int x2]) (rest := [.int v4]) rfl rfl okX11_doWalk H.1 rfl rfl wd681 wd683 wp15 ⟨Nat.le_of_ble_eq_true rfl, Nat.le_of_ble_eq_true rfl⟩ (Nat.le_of_ble_eq_true rfl) dX11_walks_107 (s_X11_doWalk H.2) (fun x4 h5 H => ?_)
    refine a_iadd dX11_walks_110 ?_
    refine a_istore (lv1 := [(0, .ref v0), (3, .ref v3), (4, .int (v4 + x4)), (5, .int v5)]) [1, 2, 0, 3] (by decide) rfl dX11_walks_111 ?_
    refine a_iinc (v := v5 + 1) (lv1 := [(0, .ref v0), (3, .ref v3), (4, .int (v4 + x4)), (5, .int (v5 + 1))]) [1, 2, 3, 0] 3 rfl (by decide) rfl rfl dX11_walks_113 ?_
    refine a_goto (tgt := 89) dX11_walks_116 (by decide) ?_
    exact hK89 _ _ _ H
def L_X11_walks_89 (Q : Int32 → AH → Prop)  (v0 : Nat) (v3 : Nat) : Nat → Int32 → Int32 → AH → Prop
  | 0, _, _, _ => False
  | n + 1, v4, v5, h => B_X11_walks_89 Q (L_X11_walks_89 Q  v0 v3 n) v0 v3 v4 v5 h
theorem l_X11_walks_89 {o : Om} {Q : Int32 → AH → Prop}  {v0 : Nat} {v3 : Nat}  : ∀ (n : Nat) (v4 : Int32) (v5 : Int32) (h : AH), L_X11_walks_89 Q  v0 v3 n v4 v5 h → AQ o kX11_walks h 89 [(0, .ref v0), (3, .ref v3), (4, .int v4), (5, .int v5)] [] (qI Q) := by
  intro n
  induction n with
  | zero => intro v4 v5 h H; exact H.elim
  | succ n ih => intro v4 v5 h H; exact b_X11_walks_89 ih H
def B_X11_walks_26 (Q : Int32 → AH → Prop) (K26 : Int32 → AH → Prop) (v0 : Nat) (v3 : Nat) (v4 : Int32) (h : AH) : Prop :=
  gI h v3 6 1 (fun x1 => ((x1 ≤ v4 → gI h v0 11 11 (fun x2 => gI h v3 6 1 (fun x3 => (((x2 + x3) ≤ (60 : Int32) → ∃ n, L_X11_walks_89 Q  v0 v3 n (0 : Int32) (0 : Int32) h) ∧ (¬ ((x2 + x3) ≤ (60 : Int32)) → Q (-2 : Int32) h))))) ∧ (¬ (x1 ≤ v4) → isO h v3 6 ∧ f_X6_get v3 v4 h (fun x4 h5 => gR h5 v0 11 8 (fun a6 => gI h5 a6 5 6 (fun x7 => f_X11_isBelow x4 x7 h5 (fun x8 h9 => ((¬ (x8 = 0) → K26 (v4 + 1) h9) ∧ (x8 = 0 → isO h9 v0 11 ∧ f_X11_found v0 (3 : Int32) h9 (fun x10 h11 => Q x10 h11))))))))))
set_option maxRecDepth 100000 in
set_option maxHeartbeats 4000000 in
theorem b_X11_walks_26 {o : Om} {Q : Int32 → AH → Prop} {K26 : Int32 → AH → Prop} {v0 : Nat} {v3 : Nat} {v4 : Int32} {h : AH} (hK26 : ∀ w4 h, K26 w4 h → AQ o kX11_walks h 26 [(0, .ref v0), (3, .ref v3), (4, .int w4)] [] (qI Q)) (H : B_X11_walks_26 Q K26 v0 v3 v4 h) : AQ o kX11_walks h 26 [(0, .ref v0), (3, .ref v3), (4, .int v4)] [] (qI Q) := by
  refine a_iload 2 rfl dX11_walks_26 ?_
  refine a_aload_n 1 rfl rfl dX11_walks_28 ?_
  refine r_gI fo_RX11_130_6 dX11_walks_29 H (fun x1 H => ?_)
  refine a_icmp_ge (tgt := 66) dX11_walks_32 (by decide) (fun c => ?_) (fun c => ?_)
  · have H := H.1 (c)
    refine a_aload_n 0 rfl rfl dX11_walks_66 ?_
    refine r_gI fo_RX11_41_11 dX11_walks_67 H (fun x2 H => ?_)
    refine a_aload_n 1 rfl rfl dX11_walks_70 ?_
    refine r_gI fo_RX11_130_6 dX11_walks_71 H (fun x3 H => ?_)
    refine a_iadd dX11_walks_74 ?_
    refine a_bipush (v := (60 : Int32)) (by decide) dX11_walks_75 ?_
    refine a_icmp_le (tgt := 83) dX11_walks_77 (by decide) (fun c => ?_) (fun c => ?_)
    · have H := H.1 (c)
      refine a_iconst (v := (0 : Int32)) (by decide) dX11_walks_83 ?_
      refine a_istore (lv1 := [(0, .ref v0), (3, .ref v3), (4, .int (0 : Int32))]) [1, 2, 0] (by decide) rfl dX11_walks_84 ?_
      refine a_iconst (v := (0 : Int32)) (by decide) dX11_walks_86 ?_
      refine a_istore (lv1 := [(0, .ref v0), (3, .ref v3), (4, .int (0 : Int32)), (5, .int (0 : Int32))]) [1, 2, 3, 0] (by decide) rfl dX11_walks_87 ?_
      obtain ⟨n, H⟩ := H
      exact l_X11_walks_89  n _ _ _ H
    · have H := H.2 (c)
      refine a_bipush (v := (-2 : Int32)) (by decide) dX11_walks_80 ?_
      exact r_reti rfl dX11_walks_82 H
  · have H := H.2 (c)
    refine a_aload_n 1 rfl rfl dX11_walks_35 ?_
    refine a_iload 2 rfl dX11_walks_36 ?_
    refine r_Vi (q := (RX6, TX6, 2)) (av := [.int v4]) (rest := []) rfl rfl okX6_get H.1 rfl rfl wd295 wd296 wd297 ⟨Nat.le_of_ble_eq_true rfl, Nat.le_of_ble_eq_true rfl⟩ (Nat.le_of_ble_eq_true rfl) dX11_walks_38 (s_X6_get H.2) (fun x4 h5 H => ?_)
    refine a_aload_n 0 rfl rfl dX11_walks_41 ?_
    refine r_gR fo_RX11_60_11 dX11_walks_42 H (fun a6 H => ?_)
    refine r_gI fo_RX11_153_5 dX11_walks_45 H (fun x7 H => ?_)
    refine r_Si (av := [.int x4, .int x7]) (rest := []) rfl rfl okX11_isBelow wd257 wd258 ⟨Nat.le_of_ble_eq_true rfl, Nat.le_of_ble_eq_true rfl⟩ (Nat.le_of_ble_eq_true rfl) dX11_walks_48 (s_X11_isBelow H) (fun x8 h9 H => ?_)
    refine a_if_ne (tgt := 60) dX11_walks_51 (by decide) (fun c => ?_) (fun c => ?_)
    · have H := H.1 (c)
      refine a_iinc (v := v4 + 1) (lv1 := [(0, .ref v0), (3, .ref v3), (4, .int (v4 + 1))]) [1, 2, 0] 2 rfl (by decide) rfl rfl dX11_walks_60 ?_
      refine a_goto (tgt := 26) dX11_walks_63 (by decide) ?_
      exact hK26 _ _ H
    · have H := H.2 (c)
      refine a_aload_n 0 rfl rfl dX11_walks_54 ?_
      refine a_iconst (v := (3 : Int32)) (by decide) dX11_walks_55 ?_
      refine r_Vi (q := (RX11, TX11, 16)) (av := [.int (3 : Int32)]) (rest := []) rfl rfl okX11_found H.1 rfl rfl wd260 wd262 wp0 ⟨Nat.le_of_ble_eq_true rfl, Nat.le_of_ble_eq_true rfl⟩ (Nat.le_of_ble_eq_true rfl) dX11_walks_56 (s_X11_found H.2) (fun x10 h11 H => ?_)
      exact r_reti rfl dX11_walks_59 H
def L_X11_walks_26 (Q : Int32 → AH → Prop)  (v0 : Nat) (v3 : Nat) : Nat → Int32 → AH → Prop
  | 0, _, _ => False
  | n + 1, v4, h => B_X11_walks_26 Q (L_X11_walks_26 Q  v0 v3 n) v0 v3 v4 h
theorem l_X11_walks_26 {o : Om} {Q : Int32 → AH → Prop}  {v0 : Nat} {v3 : Nat}  : ∀ (n : Nat) (v4 : Int32) (h : AH), L_X11_walks_26 Q  v0 v3 n v4 h → AQ o kX11_walks h 26 [(0, .ref v0), (3, .ref v3), (4, .int v4)] [] (qI Q) := by
  intro n
  induction n with
  | zero => intro v4 h H; exact H.elim
  | succ n ih => intro v4 h H; exact b_X11_walks_26 ih H
def f_X11_walks (v0 : Nat) (v1 : Int32) (h : AH) (Q : Int32 → AH → Prop) : Prop :=
  gR h v0 11 0 (fun a1 => isO h v0 11 ∧ f_X11_refuseMissing v0 a1 v1 h (fun x2 h3 => ((x2 = 0 → gR h3 v0 11 0 (fun a4 => lQ h3 a4 2 v1 (fun a5 => ∃ n, L_X11_walks_26 Q  v0 a5 n (0 : Int32) h3))) ∧ (¬ (x2 = 0) → Q x2 h3))))
set_option maxRecDepth 100000 in
set_option maxHeartbeats 4000000 in
theorem s_X11_walks {o : Om} {v0 : Nat} {v1 : Int32} {h : AH} {Q : Int32 → AH → Prop} (H : f_X11_walks v0 v1 h Q) : MQ' o kX11_walks [.ref v0, .int v1] h (qI Q) := by
  refine MQ'.of (by decide +kernel) (Nat.le_of_ble_eq_true rfl) ?_
  show AQ o kX11_walks h 0 [(0, .ref v0), (1, .int v1)] [] (qI Q)
  refine a_aload_n 0 rfl rfl dX11_walks_0 ?_
  refine a_aload_n 0 rfl rfl dX11_walks_1 ?_
  refine r_gR fo_RX11_11_11 dX11_walks_2 H (fun a1 H => ?_)
  refine a_iload_n 1 rfl rfl dX11_walks_5 ?_
  refine r_Vi (q := (RX11, TX11, 16)) (av := [.ref a1, .int v1]) (rest := []) rfl rfl okX11_refuseMissing H.1 rfl rfl wd283 wd285 wp2 ⟨Nat.le_of_ble_eq_true rfl, Nat.le_of_ble_eq_true rfl⟩ (Nat.le_of_ble_eq_true rfl) dX11_walks_6 (s_X11_refuseMissing H.2) (fun x2 h3 H => ?_)
  refine a_istore_n (lv1 := [(0, .ref v0), (1, .int v1), (2, .int x2)]) rfl [1, 2, 0] (by decide) rfl dX11_walks_9 ?_
  refine a_iload_n 2 rfl rfl dX11_walks_10 ?_
  refine a_if_eq (tgt := 16) dX11_walks_11 (by decide) (fun c => ?_) (fun c => ?_)
  · have H := H.1 (c)
    refine a_aload_n 0 rfl rfl dX11_walks_16 ?_
    refine r_gR fo_RX11_11_11 dX11_walks_17 H (fun a4 H => ?_)
    refine a_iload_n 1 rfl rfl dX11_walks_20 ?_
    refine r_lQ (by decide) dX11_walks_21 H (fun a5 H => ?_)
    refine a_astore_n (lv1 := [(0, .ref v0), (1, .int v1), (2, .int x2), (3, .ref a5)]) rfl [1, 2, 3, 0] (by decide) rfl dX11_walks_22 ?_
    refine a_iconst (v := (0 : Int32)) (by decide) dX11_walks_23 ?_
    refine a_istore (lv1 := [(0, .ref v0), (1, .int v1), (2, .int x2), (3, .ref a5), (4, .int (0 : Int32))]) [1, 2, 3, 4, 0] (by decide) rfl dX11_walks_24 ?_
    refine AQ.sub (lv1 := [(0, .ref v0), (3, .ref a5), (4, .int (0 : Int32))]) [0, 3, 4] rfl ?_
    obtain ⟨n, H⟩ := H
    exact l_X11_walks_26  n _ _ H
  · have H := H.2 (c)
    refine a_iload_n 2 rfl rfl dX11_walks_14 ?_
    exact r_reti rfl dX11_walks_15 H
def B_X12_walks_89 (Q : Int32 → AH → Prop) (K89 : Int32 → Int32 → AH → Prop) (v0 : Nat) (v1 : Int32) (v2 : Int32) (v3 : Int32) (h : AH) : Prop :=
  gR h v0 12 0 (fun a1 => lI h a1 v1 (fun x2 => ((x2 ≤ v3 → Q v2 h) ∧ (¬ (x2 ≤ v3) → gR h v0 12 1 (fun a3 => lI h a3 (((60 : Int32) * v1) + v3) (fun x4 => isO h v0 12 ∧ f_X12_walks1 v0 x4 h (fun x5 h6 => K89 (v2 + x5) (v3 + 1) h6)))))))
set_option maxRecDepth 100000 in
set_option maxHeartbeats 4000000 in
theorem b_X12_walks_89 {o : Om} {Q : Int32 → AH → Prop} {K89 : Int32 → Int32 → AH → Prop} {v0 : Nat} {v1 : Int32} {v2 : Int32} {v3 : Int32} {h : AH} (hK89 : ∀ w2 w3 h, K89 w2 w3 h → AQ o kX12_walks h 89 [(0, .ref v0), (1, .int v1), (2, .int w2), (3, .int w3)] [] (qI Q)) (H : B_X12_walks_89 Q K89 v0 v1 v2 v3 h) : AQ o kX12_walks h 89 [(0, .ref v0), (1, .int v1), (2, .int v2), (3, .int v3)] [] (qI Q) := by
  refine a_iload_n 3 rfl rfl dX12_walks_89 ?_
  refine a_aload_n 0 rfl rfl dX12_walks_90 ?_
  refine r_gR fo_RX12_7_12 dX12_walks_91 H (fun a1 H => ?_)
  refine a_iload_n 1 rfl rfl dX12_walks_94 ?_
  refine r_lI dX12_walks_95 H (fun x2 H => ?_)
  refine a_icmp_ge (tgt := 123) dX12_walks_96 (by decide) (fun c => ?_) (fun c => ?_)
  · have H := H.1 (c)
    refine a_iload_n 2 rfl rfl dX12_walks_123 ?_
    exact r_reti rfl dX12_walks_124 H
  · have H := H.2 (c)
    refine a_iload_n 2 rfl rfl dX12_walks_99 ?_
    refine a_aload_n 0 rfl rfl dX12_walks_100 ?_
    refine a_aload_n 0 rfl rfl dX12_walks_101 ?_
    refine r_gR fo_RX12_13_12 dX12_walks_102 H (fun a3 H => ?_)
    refine a_bipush (v := (60 : Int32)) (by decide) dX12_walks_105 ?_
    refine a_iload_n 1 rfl rfl dX12_walks_107 ?_
    refine a_imul dX12_walks_108 ?_
    refine a_iload_n 3 rfl rfl dX12_walks_109 ?_
    refine a_iadd dX12_walks_110 ?_
    refine r_lI dX12_walks_111 H (fun x4 H => ?_)
    refine r_Vi (q := (RX12, TX12, 51)) (av := [.int x4]) (rest := [.int v2]) rfl rfl okX12_walks1 H.1 rfl rfl wd1347 wd1349 wp51 ⟨Nat.le_of_ble_eq_true rfl, Nat.le_of_ble_eq_true rfl⟩ (Nat.le_of_ble_eq_true rfl) dX12_walks_112 (s_X12_walks1 H.2) (fun x5 h6 H => ?_)
    refine a_iadd dX12_walks_115 ?_
    refine a_istore_n (lv1 := [(0, .ref v0), (1, .int v1), (2, .int (v2 + x5)), (3, .int v3)]) rfl [1, 2, 0, 3] (by decide) rfl dX12_walks_116 ?_
    refine a_iinc (v := v3 + 1) (lv1 := [(0, .ref v0), (1, .int v1), (2, .int (v2 + x5)), (3, .int (v3 + 1))]) [1, 2, 3, 0] 3 rfl (by decide) rfl rfl dX12_walks_117 ?_
    refine a_goto (tgt := 89) dX12_walks_120 (by decide) ?_
    exact hK89 _ _ _ H
def L_X12_walks_89 (Q : Int32 → AH → Prop)  (v0 : Nat) (v1 : Int32) : Nat → Int32 → Int32 → AH → Prop
  | 0, _, _, _ => False
  | n + 1, v2, v3, h => B_X12_walks_89 Q (L_X12_walks_89 Q  v0 v1 n) v0 v1 v2 v3 h
theorem l_X12_walks_89 {o : Om} {Q : Int32 → AH → Prop}  {v0 : Nat} {v1 : Int32}  : ∀ (n : Nat) (v2 : Int32) (v3 : Int32) (h : AH), L_X12_walks_89 Q  v0 v1 n v2 v3 h → AQ o kX12_walks h 89 [(0, .ref v0), (1, .int v1), (2, .int v2), (3, .int v3)] [] (qI Q) := by
  intro n
  induction n with
  | zero => intro v2 v3 h H; exact H.elim
  | succ n ih => intro v2 v3 h H; exact b_X12_walks_89 ih H
def B_X12_walks_26 (Q : Int32 → AH → Prop) (K26 : Int32 → AH → Prop) (v0 : Nat) (v1 : Int32) (v2 : Int32) (h : AH) : Prop :=
  gR h v0 12 0 (fun a1 => lI h a1 v1 (fun x2 => ((x2 ≤ v2 → gI h v0 12 20 (fun x3 => gR h v0 12 0 (fun a4 => lI h a4 v1 (fun x5 => (((x3 + x5) ≤ (60 : Int32) → ∃ n, L_X12_walks_89 Q  v0 v1 n (0 : Int32) (0 : Int32) h) ∧ (¬ ((x3 + x5) ≤ (60 : Int32)) → Q (-2 : Int32) h)))))) ∧ (¬ (x2 ≤ v2) → gR h v0 12 1 (fun a6 => lI h a6 (((60 : Int32) * v1) + v2) (fun x7 => isO h v0 12 ∧ f_X12_isWalker v0 x7 h (fun x8 h9 => ((¬ (x8 = 0) → K26 (v2 + 1) h9) ∧ (x8 = 0 → isO h9 v0 12 ∧ f_X12_find v0 (3 : Int32) h9 (fun x10 h11 => Q x10 h11))))))))))
set_option maxRecDepth 100000 in
set_option maxHeartbeats 4000000 in
theorem b_X12_walks_26 {o : Om} {Q : Int32 → AH → Prop} {K26 : Int32 → AH → Prop} {v0 : Nat} {v1 : Int32} {v2 : Int32} {h : AH} (hK26 : ∀ w2 h, K26 w2 h → AQ o kX12_walks h 26 [(0, .ref v0), (1, .int v1), (2, .int w2)] [] (qI Q)) (H : B_X12_walks_26 Q K26 v0 v1 v2 h) : AQ o kX12_walks h 26 [(0, .ref v0), (1, .int v1), (2, .int v2)] [] (qI Q) := by
  refine a_iload_n 2 rfl rfl dX12_walks_26 ?_
  refine a_aload_n 0 rfl rfl dX12_walks_27 ?_
  refine r_gR fo_RX12_7_12 dX12_walks_28 H (fun a1 H => ?_)
  refine a_iload_n 1 rfl rfl dX12_walks_31 ?_
  refine r_lI dX12_walks_32 H (fun x2 H => ?_)
  refine a_icmp_ge (tgt := 66) dX12_walks_33 (by decide) (fun c => ?_) (fun c => ?_)
  · have H := H.1 (c)
    refine a_aload_n 0 rfl rfl dX12_walks_66 ?_
    refine r_gI fo_RX12_172_12 dX12_walks_67 H (fun x3 H => ?_)
    refine a_aload_n 0 rfl rfl dX12_walks_70 ?_
    refine r_gR fo_RX12_7_12 dX12_walks_71 H (fun a4 H => ?_)
    refine a_iload_n 1 rfl rfl dX12_walks_74 ?_
    refine r_lI dX12_walks_75 H (fun x5 H => ?_)
    refine a_iadd dX12_walks_76 ?_
    refine a_bipush (v := (60 : Int32)) (by decide) dX12_walks_77 ?_
    refine a_icmp_le (tgt := 85) dX12_walks_79 (by decide) (fun c => ?_) (fun c => ?_)
    · have H := H.1 (c)
      refine a_iconst (v := (0 : Int32)) (by decide) dX12_walks_85 ?_
      refine a_istore_n (lv1 := [(0, .ref v0), (1, .int v1), (2, .int (0 : Int32))]) rfl [1, 2, 0] (by decide) rfl dX12_walks_86 ?_
      refine a_iconst (v := (0 : Int32)) (by decide) dX12_walks_87 ?_
      refine a_istore_n (lv1 := [(0, .ref v0), (1, .int v1), (2, .int (0 : Int32)), (3, .int (0 : Int32))]) rfl [1, 2, 3, 0] (by decide) rfl dX12_walks_88 ?_
      obtain ⟨n, H⟩ := H
      exact l_X12_walks_89  n _ _ _ H
    · have H := H.2 (c)
      refine a_bipush (v := (-2 : Int32)) (by decide) dX12_walks_82 ?_
      exact r_reti rfl dX12_walks_84 H
  · have H := H.2 (c)
    refine a_aload_n 0 rfl rfl dX12_walks_36 ?_
    refine a_aload_n 0 rfl rfl dX12_walks_37 ?_
    refine r_gR fo_RX12_13_12 dX12_walks_38 H (fun a6 H => ?_)
    refine a_bipush (v := (60 : Int32)) (by decide) dX12_walks_41 ?_
    refine a_iload_n 1 rfl rfl dX12_walks_43 ?_
    refine a_imul dX12_walks_44 ?_
    refine a_iload_n 2 rfl rfl dX12_walks_45 ?_
    refine a_iadd dX12_walks_46 ?_
    refine r_lI dX12_walks_47 H (fun x7 H => ?_)
    refine r_Vi (q := (RX12, TX12, 51)) (av := [.int x7]) (rest := []) rfl rfl okX12_isWalker H.1 rfl rfl wd1300 wd1302 wp44 ⟨Nat.le_of_ble_eq_true rfl, Nat.le_of_ble_eq_true rfl⟩ (Nat.le_of_ble_eq_true rfl) dX12_walks_48 (s_X12_isWalker H.2) (fun x8 h9 H => ?_)
    refine a_if_ne (tgt := 60) dX12_walks_51 (by decide) (fun c => ?_) (fun c => ?_)
    · have H := H.1 (c)
      refine a_iinc (v := v2 + 1) (lv1 := [(0, .ref v0), (1, .int v1), (2, .int (v2 + 1))]) [1, 2, 0] 2 rfl (by decide) rfl rfl dX12_walks_60 ?_
      refine a_goto (tgt := 26) dX12_walks_63 (by decide) ?_
      exact hK26 _ _ H
    · have H := H.2 (c)
      refine a_aload_n 0 rfl rfl dX12_walks_54 ?_
      refine a_iconst (v := (3 : Int32)) (by decide) dX12_walks_55 ?_
      refine r_Vi (q := (RX12, TX12, 51)) (av := [.int (3 : Int32)]) (rest := []) rfl rfl okX12_find H.1 rfl rfl wd1191 wd1193 wp31 ⟨Nat.le_of_ble_eq_true rfl, Nat.le_of_ble_eq_true rfl⟩ (Nat.le_of_ble_eq_true rfl) dX12_walks_56 (s_X12_find H.2) (fun x10 h11 H => ?_)
      exact r_reti rfl dX12_walks_59 H
def L_X12_walks_26 (Q : Int32 → AH → Prop)  (v0 : Nat) (v1 : Int32) : Nat → Int32 → AH → Prop
  | 0, _, _ => False
  | n + 1, v2, h => B_X12_walks_26 Q (L_X12_walks_26 Q  v0 v1 n) v0 v1 v2 h
theorem l_X12_walks_26 {o : Om} {Q : Int32 → AH → Prop}  {v0 : Nat} {v1 : Int32}  : ∀ (n : Nat) (v2 : Int32) (h : AH), L_X12_walks_26 Q  v0 v1 n v2 h → AQ o kX12_walks h 26 [(0, .ref v0), (1, .int v1), (2, .int v2)] [] (qI Q) := by
  intro n
  induction n with
  | zero => intro v2 h H; exact H.elim
  | succ n ih => intro v2 h H; exact b_X12_walks_26 ih H
def f_X12_walks (v0 : Nat) (v1 : Int32) (h : AH) (Q : Int32 → AH → Prop) : Prop :=
  f_X12_isRow v1 h (fun x1 h2 => ((¬ (x1 = 0) → gR h2 v0 12 0 (fun a3 => lI h2 a3 v1 (fun x4 => ((0 ≤ x4 → ∃ n, L_X12_walks_26 Q  v0 v1 n (0 : Int32) h2) ∧ (¬ (0 ≤ x4) → isO h2 v0 12 ∧ f_X12_find v0 (1 : Int32) h2 (fun x5 h6 => Q x5 h6)))))) ∧ (x1 = 0 → Q (-1 : Int32) h2)))
set_option maxRecDepth 100000 in
set_option maxHeartbeats 4000000 in
theorem s_X12_walks {o : Om} {v0 : Nat} {v1 : Int32} {h : AH} {Q : Int32 → AH → Prop} (H : f_X12_walks v0 v1 h Q) : MQ' o kX12_walks [.ref v0, .int v1] h (qI Q) := by
  refine MQ'.of (by decide +kernel) (Nat.le_of_ble_eq_true rfl) ?_
  show AQ o kX12_walks h 0 [(0, .ref v0), (1, .int v1)] [] (qI Q)
  refine a_iload_n 1 rfl rfl dX12_walks_0 ?_
  refine r_Si (av := [.int v1]) (rest := []) rfl rfl okX12_isRow wd1184 wd1185 ⟨Nat.le_of_ble_eq_true rfl, Nat.le_of_ble_eq_true rfl⟩ (Nat.le_of_ble_eq_true rfl) dX12_walks_1 (s_X12_isRow H) (fun x1 h2 H => ?_)
  refine a_if_ne (tgt := 9) dX12_walks_4 (by decide) (fun c => ?_) (fun c => ?_)
  · have H := H.1 (c)
    refine a_aload_n 0 rfl rfl dX12_walks_9 ?_
    refine r_gR fo_RX12_7_12 dX12_walks_10 H (fun a3 H => ?_)
    refine a_iload_n 1 rfl rfl dX12_walks_13 ?_
    refine r_lI dX12_walks_14 H (fun x4 H => ?_)
    refine a_if_ge (tgt := 24) dX12_walks_15 (by decide) (fun c => ?_) (fun c => ?_)
    · have H := H.1 (c)
      refine a_iconst (v := (0 : Int32)) (by decide) dX12_walks_24 ?_
      refine a_istore_n (lv1 := [(0, .ref v0), (1, .int v1), (2, .int (0 : Int32))]) rfl [1, 2, 0] (by decide) rfl dX12_walks_25 ?_
      obtain ⟨n, H⟩ := H
      exact l_X12_walks_26  n _ _ H
    · have H := H.2 (c)
      refine a_aload_n 0 rfl rfl dX12_walks_18 ?_
      refine a_iconst (v := (1 : Int32)) (by decide) dX12_walks_19 ?_
      refine r_Vi (q := (RX12, TX12, 51)) (av := [.int (1 : Int32)]) (rest := []) rfl rfl okX12_find H.1 rfl rfl wd1191 wd1193 wp31 ⟨Nat.le_of_ble_eq_true rfl, Nat.le_of_ble_eq_true rfl⟩ (Nat.le_of_ble_eq_true rfl) dX12_walks_20 (s_X12_find H.2) (fun x5 h6 H => ?_)
      exact r_reti rfl dX12_walks_23 H
  · have H := H.2 (c)
    refine a_iconst (v := (-1 : Int32)) (by decide) dX12_walks_7 ?_
    exact r_reti rfl dX12_walks_8 H
def B_X5_heapAt_5 (Q : Int32 → AH → Prop) (K5 : Int32 → Int32 → AH → Prop) (v0 : Nat) (v1 : Int32) (v2 : Int32) (v3 : Int32) (v4 : Int32) (h : AH) : Prop :=
  gI h v0 5 5 (fun x1 => ((x1 ≤ v4 → Q v3 h) ∧ (¬ (x1 ≤ v4) → f_X5_postOf v1 v4 h (fun x2 h3 => ((¬ (x2 = v2) → K5 v3 (v4 + 1) h3) ∧ (x2 = v2 → K5 (v3 + 1) (v4 + 1) h3))))))
set_option maxRecDepth 100000 in
set_option maxHeartbeats 4000000 in
theorem b_X5_heapAt_5 {o : Om} {Q : Int32 → AH → Prop} {K5 : Int32 → Int32 → AH → Prop} {v0 : Nat} {v1 : Int32} {v2 : Int32} {v3 : Int32} {v4 : Int32} {h : AH} (hK5 : ∀ w3 w4 h, K5 w3 w4 h → AQ o kX5_heapAt h 5 [(0, .ref v0), (1, .int v1), (2, .int v2), (3, .int w3), (4, .int w4)] [] (qI Q)) (H : B_X5_heapAt_5 Q K5 v0 v1 v2 v3 v4 h) : AQ o kX5_heapAt h 5 [(0, .ref v0), (1, .int v1), (2, .int v2), (3, .int v3), (4, .int v4)] [] (qI Q) := by
  refine a_iload 4 rfl dX5_heapAt_5 ?_
  refine a_aload_n 0 rfl rfl dX5_heapAt_7 ?_
  refine r_gI fo_RX5_31_5 dX5_heapAt_8 H (fun x1 H => ?_)
  refine a_icmp_ge (tgt := 33) dX5_heapAt_11 (by decide) (fun c => ?_) (fun c => ?_)
  · have H := H.1 (c)
    refine a_iload_n 3 rfl rfl dX5_heapAt_33 ?_
    exact r_reti rfl dX5_heapAt_34 H
  · have H := H.2 (c)
    refine a_iload_n 1 rfl rfl dX5_heapAt_14 ?_
    refine a_iload 4 rfl dX5_heapAt_15 ?_
    refine r_Si (av := [.int v1, .int v4]) (rest := []) rfl rfl okX5_postOf wd518 wd519 ⟨Nat.le_of_ble_eq_true rfl, Nat.le_of_ble_eq_true rfl⟩ (Nat.le_of_ble_eq_true rfl) dX5_heapAt_17 (s_X5_postOf H) (fun x2 h3 H => ?_)
    refine a_iload_n 2 rfl rfl dX5_heapAt_20 ?_
    refine a_icmp_ne (tgt := 27) dX5_heapAt_21 (by decide) (fun c => ?_) (fun c => ?_)
    · have H := H.1 (c)
      refine a_iinc (v := v4 + 1) (lv1 := [(0, .ref v0), (1, .int v1), (2, .int v2), (3, .int v3), (4, .int (v4 + 1))]) [1, 2, 3, 4, 0] 4 rfl (by decide) rfl rfl dX5_heapAt_27 ?_
      refine a_goto (tgt := 5) dX5_heapAt_30 (by decide) ?_
      exact hK5 _ _ _ H
    · have H := H.2 (c)
      refine a_iinc (v := v3 + 1) (lv1 := [(0, .ref v0), (1, .int v1), (2, .int v2), (3, .int (v3 + 1)), (4, .int v4)]) [1, 2, 3, 0, 4] 3 rfl (by decide) rfl rfl dX5_heapAt_24 ?_
      refine a_iinc (v := v4 + 1) (lv1 := [(0, .ref v0), (1, .int v1), (2, .int v2), (3, .int (v3 + 1)), (4, .int (v4 + 1))]) [1, 2, 3, 4, 0] 4 rfl (by decide) rfl rfl dX5_heapAt_27 ?_
      refine a_goto (tgt := 5) dX5_heapAt_30 (by decide) ?_
      exact hK5 _ _ _ H
def L_X5_heapAt_5 (Q : Int32 → AH → Prop)  (v0 : Nat) (v1 : Int32) (v2 : Int32) : Nat → Int32 → Int32 → AH → Prop
  | 0, _, _, _ => False
  | n + 1, v3, v4, h => B_X5_heapAt_5 Q (L_X5_heapAt_5 Q  v0 v1 v2 n) v0 v1 v2 v3 v4 h
theorem l_X5_heapAt_5 {o : Om} {Q : Int32 → AH → Prop}  {v0 : Nat} {v1 : Int32} {v2 : Int32}  : ∀ (n : Nat) (v3 : Int32) (v4 : Int32) (h : AH), L_X5_heapAt_5 Q  v0 v1 v2 n v3 v4 h → AQ o kX5_heapAt h 5 [(0, .ref v0), (1, .int v1), (2, .int v2), (3, .int v3), (4, .int v4)] [] (qI Q) := by
  intro n
  induction n with
  | zero => intro v3 v4 h H; exact H.elim
  | succ n ih => intro v3 v4 h H; exact b_X5_heapAt_5 ih H
def f_X5_heapAt (v0 : Nat) (v1 : Int32) (v2 : Int32) (h : AH) (Q : Int32 → AH → Prop) : Prop :=
  ∃ n, L_X5_heapAt_5 Q  v0 v1 v2 n (0 : Int32) (0 : Int32) h
set_option maxRecDepth 100000 in
set_option maxHeartbeats 4000000 in
theorem s_X5_heapAt {o : Om} {v0 : Nat} {v1 : Int32} {v2 : Int32} {h : AH} {Q : Int32 → AH → Prop} (H : f_X5_heapAt v0 v1 v2 h Q) : MQ' o kX5_heapAt [.ref v0, .int v1, .int v2] h (qI Q) := by
  refine MQ'.of (by decide +kernel) (Nat.le_of_ble_eq_true rfl) ?_
  show AQ o kX5_heapAt h 0 [(0, .ref v0), (1, .int v1), (2, .int v2)] [] (qI Q)
  refine a_iconst (v := (0 : Int32)) (by decide) dX5_heapAt_0 ?_
  refine a_istore_n (lv1 := [(0, .ref v0), (1, .int v1), (2, .int v2), (3, .int (0 : Int32))]) rfl [1, 2, 3, 0] (by decide) rfl dX5_heapAt_1 ?_
  refine a_iconst (v := (0 : Int32)) (by decide) dX5_heapAt_2 ?_
  refine a_istore (lv1 := [(0, .ref v0), (1, .int v1), (2, .int v2), (3, .int (0 : Int32)), (4, .int (0 : Int32))]) [1, 2, 3, 4, 0] (by decide) rfl dX5_heapAt_3 ?_
  obtain ⟨n, H⟩ := H
  exact l_X5_heapAt_5  n _ _ _ H
def f_X5_lostOf (v0 : Nat) (v1 : Int32) (h : AH) (Q : Int32 → AH → Prop) : Prop :=
  isO h v0 5 ∧ f_X5_heapAt v0 v1 (7 : Int32) h (fun x1 h2 => Q x1 h2)
set_option maxRecDepth 100000 in
set_option maxHeartbeats 4000000 in
theorem s_X5_lostOf {o : Om} {v0 : Nat} {v1 : Int32} {h : AH} {Q : Int32 → AH → Prop} (H : f_X5_lostOf v0 v1 h Q) : MQ' o kX5_lostOf [.ref v0, .int v1] h (qI Q) := by
  refine MQ'.of (by decide +kernel) (Nat.le_of_ble_eq_true rfl) ?_
  show AQ o kX5_lostOf h 0 [(0, .ref v0), (1, .int v1)] [] (qI Q)
  refine a_aload_n 0 rfl rfl dX5_lostOf_0 ?_
  refine a_iload_n 1 rfl rfl dX5_lostOf_1 ?_
  refine a_bipush (v := (7 : Int32)) (by decide) dX5_lostOf_2 ?_
  refine r_Vi (q := (RX5, TX5, 10)) (av := [.int v1, .int (7 : Int32)]) (rest := []) rfl rfl okX5_heapAt H.1 rfl rfl wd734 wd735 wd736 ⟨Nat.le_of_ble_eq_true rfl, Nat.le_of_ble_eq_true rfl⟩ (Nat.le_of_ble_eq_true rfl) dX5_lostOf_4 (s_X5_heapAt H.2) (fun x1 h2 H => ?_)
  exact r_reti rfl dX5_lostOf_7 H
def B_X11_where_30 (Q : Int32 → AH → Prop) (K30 : Int32 → AH → Prop) (v0 : Nat) (v1 : Int32) (v2 : Int32) (h : AH) : Prop :=
  gR h v0 11 8 (fun a1 => gI h a1 5 5 (fun x2 => ((x2 ≤ v2 → gR h v0 11 8 (fun a3 => gI h v0 11 9 (fun x4 => isO h a3 5 ∧ f_X5_lostOf a3 x4 h (fun x5 h6 => Q x5 h6)))) ∧ (¬ (x2 ≤ v2) → gR h v0 11 0 (fun a7 => lQ h a7 2 v1 (fun a8 => gI h v0 11 9 (fun x9 => f_X5_tellPost x9 v2 h (fun x10 h11 => isO h11 a8 6 ∧ f_X6_set a8 v2 x10 h11 (fun h12 => K30 (v2 + 1) h12)))))))))
set_option maxRecDepth 100000 in
set_option maxHeartbeats 4000000 in
theorem b_X11_where_30 {o : Om} {Q : Int32 → AH → Prop} {K30 : Int32 → AH → Prop} {v0 : Nat} {v1 : Int32} {v2 : Int32} {h : AH} (hK30 : ∀ w2 h, K30 w2 h → AQ o kX11_where h 30 [(0, .ref v0), (1, .int v1), (2, .int w2)] [] (qI Q)) (H : B_X11_where_30 Q K30 v0 v1 v2 h) : AQ o kX11_where h 30 [(0, .ref v0), (1, .int v1), (2, .int v2)] [] (qI Q) := by
  refine a_iload_n 2 rfl rfl dX11_where_30 ?_
  refine a_aload_n 0 rfl rfl dX11_where_31 ?_
  refine r_gR fo_RX11_60_11 dX11_where_32 H (fun a1 H => ?_)
  refine r_gI fo_RX11_146_5 dX11_where_35 H (fun x2 H => ?_)
  refine a_icmp_ge (tgt := 65) dX11_where_38 (by decide) (fun c => ?_) (fun c => ?_)
  · have H := H.1 (c)
    refine a_aload_n 0 rfl rfl dX11_where_65 ?_
    refine r_gR fo_RX11_60_11 dX11_where_66 H (fun a3 H => ?_)
    refine a_aload_n 0 rfl rfl dX11_where_69 ?_
    refine r_gI fo_RX11_34_11 dX11_where_70 H (fun x4 H => ?_)
    refine r_Vi (q := (RX5, TX5, 10)) (av := [.int x4]) (rest := []) rfl rfl okX5_lostOf H.1 rfl rfl wd730 wd731 wd732 ⟨Nat.le_of_ble_eq_true rfl, Nat.le_of_ble_eq_true rfl⟩ (Nat.le_of_ble_eq_true rfl) dX11_where_73 (s_X5_lostOf H.2) (fun x5 h6 H => ?_)
    exact r_reti rfl dX11_where_76 H
  · have H := H.2 (c)
    refine a_aload_n 0 rfl rfl dX11_where_41 ?_
    refine r_gR fo_RX11_11_11 dX11_where_42 H (fun a7 H => ?_)
    refine a_iload_n 1 rfl rfl dX11_where_45 ?_
    refine r_lQ (by decide) dX11_where_46 H (fun a8 H => ?_)
    refine a_iload_n 2 rfl rfl dX11_where_47 ?_
    refine a_aload_n 0 rfl rfl dX11_where_48 ?_
    refine r_gI fo_RX11_34_11 dX11_where_49 H (fun x9 H => ?_)
    refine a_iload_n 2 rfl rfl dX11_where_52 ?_
    refine r_Si (av := [.int x9, .int v2]) (rest := [.int v2, .ref a8]) rfl rfl okX5_tellPost wd515 wd516 ⟨Nat.le_of_ble_eq_true rfl, Nat.le_of_ble_eq_true rfl⟩ (Nat.le_of_ble_eq_true rfl) dX11_where_53 (s_X5_tellPost H) (fun x10 h11 H => ?_)
    refine r_Vv (q := (RX6, TX6, 2)) (av := [.int v2, .int x10]) (rest := []) rfl rfl okX6_set H.1 rfl rfl wd300 wd301 wd302 ⟨Nat.le_of_ble_eq_true rfl, Nat.le_of_ble_eq_true rfl⟩ (Nat.le_of_ble_eq_true rfl) dX11_where_56 (s_X6_set H.2) (fun h12 H => ?_)
    refine a_iinc (v := v2 + 1) (lv1 := [(0, .ref v0), (1, .int v1), (2, .int (v2 + 1))]) [1, 2, 0] 2 rfl (by decide) rfl rfl dX11_where_59 ?_
    refine a_goto (tgt := 30) dX11_where_62 (by decide) ?_
    exact hK30 _ _ H
def L_X11_where_30 (Q : Int32 → AH → Prop)  (v0 : Nat) (v1 : Int32) : Nat → Int32 → AH → Prop
  | 0, _, _ => False
  | n + 1, v2, h => B_X11_where_30 Q (L_X11_where_30 Q  v0 v1 n) v0 v1 v2 h
theorem l_X11_where_30 {o : Om} {Q : Int32 → AH → Prop}  {v0 : Nat} {v1 : Int32}  : ∀ (n : Nat) (v2 : Int32) (h : AH), L_X11_where_30 Q  v0 v1 n v2 h → AQ o kX11_where h 30 [(0, .ref v0), (1, .int v1), (2, .int v2)] [] (qI Q) := by
  intro n
  induction n with
  | zero => intro v2 h H; exact H.elim
  | succ n ih => intro v2 h H; exact b_X11_where_30 ih H
def f_X11_where (v0 : Nat) (v1 : Int32) (h : AH) (Q : Int32 → AH → Prop) : Prop :=
  f_X11_isBelow v1 (6 : Int32) h (fun x1 h2 => ((¬ (x1 = 0) → gR h2 v0 11 0 (fun a3 => lQ h2 a3 2 v1 (fun a4 => gR h2 v0 11 8 (fun a5 => gI h2 a5 5 5 (fun x6 => isO h2 a4 6 ∧ f_X6_begin a4 x6 (0 : Int32) h2 (fun h7 => ∃ n, L_X11_where_30 Q  v0 v1 n (0 : Int32) h7)))))) ∧ (x1 = 0 → Q (-1 : Int32) h2)))
set_option maxRecDepth 100000 in
set_option maxHeartbeats 4000000 in
theorem s_X11_where {o : Om} {v0 : Nat} {v1 : Int32} {h : AH} {Q : Int32 → AH → Prop} (H : f_X11_where v0 v1 h Q) : MQ' o kX11_where [.ref v0, .int v1] h (qI Q) := by
  refine MQ'.of (by decide +kernel) (Nat.le_of_ble_eq_true rfl) ?_
  show AQ o kX11_where h 0 [(0, .ref v0), (1, .int v1)] [] (qI Q)
  refine a_iload_n 1 rfl rfl dX11_where_0 ?_
  refine a_bipush (v := (6 : Int32)) (by decide) dX11_where_1 ?_
  refine r_Si (av := [.int v1, .int (6 : Int32)]) (rest := []) rfl rfl okX11_isBelow wd257 wd258 ⟨Nat.le_of_ble_eq_true rfl, Nat.le_of_ble_eq_true rfl⟩ (Nat.le_of_ble_eq_true rfl) dX11_where_3 (s_X11_isBelow H) (fun x1 h2 H => ?_)
  refine a_if_ne (tgt := 11) dX11_where_6 (by decide) (fun c => ?_) (fun c => ?_)
  · have H := H.1 (c)
    refine a_aload_n 0 rfl rfl dX11_where_11 ?_
    refine r_gR fo_RX11_11_11 dX11_where_12 H (fun a3 H => ?_)
    refine a_iload_n 1 rfl rfl dX11_where_15 ?_
    refine r_lQ (by decide) dX11_where_16 H (fun a4 H => ?_)
    refine a_aload_n 0 rfl rfl dX11_where_17 ?_
    refine r_gR fo_RX11_60_11 dX11_where_18 H (fun a5 H => ?_)
    refine r_gI fo_RX11_146_5 dX11_where_21 H (fun x6 H => ?_)
    refine a_iconst (v := (0 : Int32)) (by decide) dX11_where_24 ?_
    refine r_Vv (q := (RX6, TX6, 2)) (av := [.int x6, .int (0 : Int32)]) (rest := []) rfl rfl okX6_begin H.1 rfl rfl wd264 wd265 wd266 ⟨Nat.le_of_ble_eq_true rfl, Nat.le_of_ble_eq_true rfl⟩ (Nat.le_of_ble_eq_true rfl) dX11_where_25 (s_X6_begin H.2) (fun h7 H => ?_)
    refine a_iconst (v := (0 : Int32)) (by decide) dX11_where_28 ?_
    refine a_istore_n (lv1 := [(0, .ref v0), (1, .int v1), (2, .int (0 : Int32))]) rfl [1, 2, 0] (by decide) rfl dX11_where_29 ?_
    obtain ⟨n, H⟩ := H
    exact l_X11_where_30  n _ _ H
  · have H := H.2 (c)
    refine a_iconst (v := (-1 : Int32)) (by decide) dX11_where_9 ?_
    exact r_reti rfl dX11_where_10 H
def B_X12_where_22 (Q : Int32 → AH → Prop) (K22 : Int32 → Int32 → AH → Prop) (v0 : Nat) (v1 : Int32) (v2 : Int32) (v3 : Int32) (h : AH) : Prop :=
  gI h v0 12 10 (fun x1 => ((x1 ≤ v3 → Q v2 h) ∧ (¬ (x1 ≤ v3) → gR h v0 12 1 (fun a2 => gI h v0 12 17 (fun x3 => f_X12_spotOf x3 v3 h (fun x4 h5 => f_X12_told x4 h5 (fun x6 h7 => sI h7 a2 (((60 : Int32) * v1) + v3) x6 (fun h8 => gI h8 v0 12 17 (fun x9 => f_X12_spotOf x9 v3 h8 (fun x10 h11 => ((¬ (x10 = (7 : Int32)) → K22 (v2 + (0 : Int32)) (v3 + 1) h11) ∧ (x10 = (7 : Int32) → K22 (v2 + (1 : Int32)) (v3 + 1) h11))))))))))))
set_option maxRecDepth 100000 in
set_option maxHeartbeats 4000000 in
theorem b_X12_where_22 {o : Om} {Q : Int32 → AH → Prop} {K22 : Int32 → Int32 → AH → Prop} {v0 : Nat} {v1 : Int32} {v2 : Int32} {v3 : Int32} {h : AH} (hK22 : ∀ w2 w3 h, K22 w2 w3 h → AQ o kX12_where h 22 [(0, .ref v0), (1, .int v1), (2, .int w2), (3, .int w3)] [] (qI Q)) (H : B_X12_where_22 Q K22 v0 v1 v2 v3 h) : AQ o kX12_where h 22 [(0, .ref v0), (1, .int v1), (2, .int v2), (3, .int v3)] [] (qI Q) := by
  refine a_iload_n 3 rfl rfl dX12_where_22 ?_
  refine a_aload_n 0 rfl rfl dX12_where_23 ?_
  refine r_gI fo_RX12_178_12 dX12_where_24 H (fun x1 H => ?_)
  refine a_icmp_ge (tgt := 79) dX12_where_27 (by decide) (fun c => ?_) (fun c => ?_)
  · have H := H.1 (c)
    refine a_iload_n 2 rfl rfl dX12_where_79 ?_
    exact r_reti rfl dX12_where_80 H
  · have H := H.2 (c)
    refine a_aload_n 0 rfl rfl dX12_where_30 ?_
    refine r_gR fo_RX12_13_12 dX12_where_31 H (fun a2 H => ?_)
    refine a_bipush (v := (60 : Int32)) (by decide) dX12_where_34 ?_
    refine a_iload_n 1 rfl rfl dX12_where_36 ?_
    refine a_imul dX12_where_37 ?_
    refine a_iload_n 3 rfl rfl dX12_where_38 ?_
    refine a_iadd dX12_where_39 ?_
    refine a_aload_n 0 rfl rfl dX12_where_40 ?_
    refine r_gI fo_RX12_184_12 dX12_where_41 H (fun x3 H => ?_)
    refine a_iload_n 3 rfl rfl dX12_where_44 ?_
    refine r_Si (av := [.int x3, .int v3]) (rest := [.int (((60 : Int32) * v1) + v3), .ref a2]) rfl rfl okX12_spotOf wd1286 wd1287 ⟨Nat.le_of_ble_eq_true rfl, Nat.le_of_ble_eq_true rfl⟩ (Nat.le_of_ble_eq_true rfl) dX12_where_45 (s_X12_spotOf H) (fun x4 h5 H => ?_)
    refine r_Si (av := [.int x4]) (rest := [.int (((60 : Int32) * v1) + v3), .ref a2]) rfl rfl okX12_told wd1289 wd1290 ⟨Nat.le_of_ble_eq_true rfl, Nat.le_of_ble_eq_true rfl⟩ (Nat.le_of_ble_eq_true rfl) dX12_where_48 (s_X12_told H) (fun x6 h7 H => ?_)
    refine r_sI dX12_where_51 H (fun h8 H => ?_)
    refine a_iload_n 2 rfl rfl dX12_where_52 ?_
    refine a_aload_n 0 rfl rfl dX12_where_53 ?_
    refine r_gI fo_RX12_184_12 dX12_where_54 H (fun x9 H => ?_)
    refine a_iload_n 3 rfl rfl dX12_where_57 ?_
    refine r_Si (av := [.int x9, .int v3]) (rest := [.int v2]) rfl rfl okX12_spotOf wd1286 wd1287 ⟨Nat.le_of_ble_eq_true rfl, Nat.le_of_ble_eq_true rfl⟩ (Nat.le_of_ble_eq_true rfl) dX12_where_58 (s_X12_spotOf H) (fun x10 h11 H => ?_)
    refine a_bipush (v := (7 : Int32)) (by decide) dX12_where_61 ?_
    refine a_icmp_ne (tgt := 70) dX12_where_63 (by decide) (fun c => ?_) (fun c => ?_)
    · have H := H.1 (c)
      refine a_iconst (v := (0 : Int32)) (by decide) dX12_where_70 ?_
      refine a_iadd dX12_where_71 ?_
      refine a_istore_n (lv1 := [(0, .ref v0), (1, .int v1), (2, .int (v2 + (0 : Int32))), (3, .int v3)]) rfl [1, 2, 0, 3] (by decide) rfl dX12_where_72 ?_
      refine a_iinc (v := v3 + 1) (lv1 := [(0, .ref v0), (1, .int v1), (2, .int (v2 + (0 : Int32))), (3, .int (v3 + 1))]) [1, 2, 3, 0] 3 rfl (by decide) rfl rfl dX12_where_73 ?_
      refine a_goto (tgt := 22) dX12_where_76 (by decide) ?_
      exact hK22 _ _ _ H
    · have H := H.2 (c)
      refine a_iconst (v := (1 : Int32)) (by decide) dX12_where_66 ?_
      refine a_goto (tgt := 71) dX12_where_67 (by decide) ?_
      refine a_iadd dX12_where_71 ?_
      refine a_istore_n (lv1 := [(0, .ref v0), (1, .int v1), (2, .int (v2 + (1 : Int32))), (3, .int v3)]) rfl [1, 2, 0, 3] (by decide) rfl dX12_where_72 ?_
      refine a_iinc (v := v3 + 1) (lv1 := [(0, .ref v0), (1, .int v1), (2, .int (v2 + (1 : Int32))), (3, .int (v3 + 1))]) [1, 2, 3, 0] 3 rfl (by decide) rfl rfl dX12_where_73 ?_
      refine a_goto (tgt := 22) dX12_where_76 (by decide) ?_
      exact hK22 _ _ _ H
def L_X12_where_22 (Q : Int32 → AH → Prop)  (v0 : Nat) (v1 : Int32) : Nat → Int32 → Int32 → AH → Prop
  | 0, _, _, _ => False
  | n + 1, v2, v3, h => B_X12_where_22 Q (L_X12_where_22 Q  v0 v1 n) v0 v1 v2 v3 h
theorem l_X12_where_22 {o : Om} {Q : Int32 → AH → Prop}  {v0 : Nat} {v1 : Int32}  : ∀ (n : Nat) (v2 : Int32) (v3 : Int32) (h : AH), L_X12_where_22 Q  v0 v1 n v2 v3 h → AQ o kX12_where h 22 [(0, .ref v0), (1, .int v1), (2, .int v2), (3, .int v3)] [] (qI Q) := by
  intro n
  induction n with
  | zero => intro v2 v3 h H; exact H.elim
  | succ n ih => intro v2 v3 h H; exact b_X12_where_22 ih H
def f_X12_where (v0 : Nat) (v1 : Int32) (h : AH) (Q : Int32 → AH → Prop) : Prop :=
  f_X12_isRow v1 h (fun x1 h2 => ((¬ (x1 = 0) → gI h2 v0 12 10 (fun x3 => isO h2 v0 12 ∧ f_X12_makes v0 v1 x3 h2 (fun h4 => ∃ n, L_X12_where_22 Q  v0 v1 n (0 : Int32) (0 : Int32) h4))) ∧ (x1 = 0 → Q (-1 : Int32) h2)))
set_option maxRecDepth 100000 in
set_option maxHeartbeats 4000000 in
theorem s_X12_where {o : Om} {v0 : Nat} {v1 : Int32} {h : AH} {Q : Int32 → AH → Prop} (H : f_X12_where v0 v1 h Q) : MQ' o kX12_where [.ref v0, .int v1] h (qI Q) := by
  refine MQ'.of (by decide +kernel) (Nat.le_of_ble_eq_true rfl) ?_
  show AQ o kX12_where h 0 [(0, .ref v0), (1, .int v1)] [] (qI Q)
  refine a_iload_n 1 rfl rfl dX12_where_0 ?_
  refine r_Si (av := [.int v1]) (rest := []) rfl rfl okX12_isRow wd1184 wd1185 ⟨Nat.le_of_ble_eq_true rfl, Nat.le_of_ble_eq_true rfl⟩ (Nat.le_of_ble_eq_true rfl) dX12_where_1 (s_X12_isRow H) (fun x1 h2 H => ?_)
  refine a_if_ne (tgt := 9) dX12_where_4 (by decide) (fun c => ?_) (fun c => ?_)
  · have H := H.1 (c)
    refine a_aload_n 0 rfl rfl dX12_where_9 ?_
    refine a_iload_n 1 rfl rfl dX12_where_10 ?_
    refine a_aload_n 0 rfl rfl dX12_where_11 ?_
    refine r_gI fo_RX12_178_12 dX12_where_12 H (fun x3 H => ?_)
    refine r_Vv (q := (RX12, TX12, 51)) (av := [.int v1, .int x3]) (rest := []) rfl rfl okX12_makes H.1 rfl rfl wd1195 wd1197 wp32 ⟨Nat.le_of_ble_eq_true rfl, Nat.le_of_ble_eq_true rfl⟩ (Nat.le_of_ble_eq_true rfl) dX12_where_15 (s_X12_makes H.2) (fun h4 H => ?_)
    refine a_iconst (v := (0 : Int32)) (by decide) dX12_where_18 ?_
    refine a_istore_n (lv1 := [(0, .ref v0), (1, .int v1), (2, .int (0 : Int32))]) rfl [1, 2, 0] (by decide) rfl dX12_where_19 ?_
    refine a_iconst (v := (0 : Int32)) (by decide) dX12_where_20 ?_
    refine a_istore_n (lv1 := [(0, .ref v0), (1, .int v1), (2, .int (0 : Int32)), (3, .int (0 : Int32))]) rfl [1, 2, 3, 0] (by decide) rfl dX12_where_21 ?_
    obtain ⟨n, H⟩ := H
    exact l_X12_where_22  n _ _ _ H
  · have H := H.2 (c)
    refine a_iconst (v := (-1 : Int32)) (by decide) dX12_where_7 ?_
    exact r_reti rfl dX12_where_8 H
def B_X5_homeOf_4 (Q : Int32 → AH → Prop) (K4 : Int32 → Int32 → AH → Prop) (v0 : Nat) (v1 : Int32) (v2 : Int32) (v3 : Int32) (h : AH) : Prop :=
  gI h v0 5 5 (fun x1 => ((x1 ≤ v3 → Q v2 h) ∧ (¬ (x1 ≤ v3) → f_X5_postOf v1 v3 h (fun x2 h3 => gR h3 v0 5 1 (fun a4 => lI h3 a4 v3 (fun x5 => ((¬ (x2 = x5) → K4 v2 (v3 + 1) h3) ∧ (x2 = x5 → K4 (v2 + 1) (v3 + 1) h3))))))))
set_option maxRecDepth 100000 in
set_option maxHeartbeats 4000000 in
theorem b_X5_homeOf_4 {o : Om} {Q : Int32 → AH → Prop} {K4 : Int32 → Int32 → AH → Prop} {v0 : Nat} {v1 : Int32} {v2 : Int32} {v3 : Int32} {h : AH} (hK4 : ∀ w2 w3 h, K4 w2 w3 h → AQ o kX5_homeOf h 4 [(0, .ref v0), (1, .int v1), (2, .int w2), (3, .int w3)] [] (qI Q)) (H : B_X5_homeOf_4 Q K4 v0 v1 v2 v3 h) : AQ o kX5_homeOf h 4 [(0, .ref v0), (1, .int v1), (2, .int v2), (3, .int v3)] [] (qI Q) := by
  refine a_iload_n 3 rfl rfl dX5_homeOf_4 ?_
  refine a_aload_n 0 rfl rfl dX5_homeOf_5 ?_
  refine r_gI fo_RX5_31_5 dX5_homeOf_6 H (fun x1 H => ?_)
  refine a_icmp_ge (tgt := 35) dX5_homeOf_9 (by decide) (fun c => ?_) (fun c => ?_)
  · have H := H.1 (c)
    refine a_iload_n 2 rfl rfl dX5_homeOf_35 ?_
    exact r_reti rfl dX5_homeOf_36 H
  · have H := H.2 (c)
    refine a_iload_n 1 rfl rfl dX5_homeOf_12 ?_
    refine a_iload_n 3 rfl rfl dX5_homeOf_13 ?_
    refine r_Si (av := [.int v1, .int v3]) (rest := []) rfl rfl okX5_postOf wd518 wd519 ⟨Nat.le_of_ble_eq_true rfl, Nat.le_of_ble_eq_true rfl⟩ (Nat.le_of_ble_eq_true rfl) dX5_homeOf_14 (s_X5_postOf H) (fun x2 h3 H => ?_)
    refine a_aload_n 0 rfl rfl dX5_homeOf_17 ?_
    refine r_gR fo_RX5_15_5 dX5_homeOf_18 H (fun a4 H => ?_)
    refine a_iload_n 3 rfl rfl dX5_homeOf_21 ?_
    refine r_lI dX5_homeOf_22 H (fun x5 H => ?_)
    refine a_icmp_ne (tgt := 29) dX5_homeOf_23 (by decide) (fun c => ?_) (fun c => ?_)
    · have H := H.1 (c)
      refine a_iinc (v := v3 + 1) (lv1 := [(0, .ref v0), (1, .int v1), (2, .int v2), (3, .int (v3 + 1))]) [1, 2, 3, 0] 3 rfl (by decide) rfl rfl dX5_homeOf_29 ?_
      refine a_goto (tgt := 4) dX5_homeOf_32 (by decide) ?_
      exact hK4 _ _ _ H
    · have H := H.2 (c)
      refine a_iinc (v := v2 + 1) (lv1 := [(0, .ref v0), (1, .int v1), (2, .int (v2 + 1)), (3, .int v3)]) [1, 2, 0, 3] 2 rfl (by decide) rfl rfl dX5_homeOf_26 ?_
      refine a_iinc (v := v3 + 1) (lv1 := [(0, .ref v0), (1, .int v1), (2, .int (v2 + 1)), (3, .int (v3 + 1))]) [1, 2, 3, 0] 3 rfl (by decide) rfl rfl dX5_homeOf_29 ?_
      refine a_goto (tgt := 4) dX5_homeOf_32 (by decide) ?_
      exact hK4 _ _ _ H
def L_X5_homeOf_4 (Q : Int32 → AH → Prop)  (v0 : Nat) (v1 : Int32) : Nat → Int32 → Int32 → AH → Prop
  | 0, _, _, _ => False
  | n + 1, v2, v3, h => B_X5_homeOf_4 Q (L_X5_homeOf_4 Q  v0 v1 n) v0 v1 v2 v3 h
theorem l_X5_homeOf_4 {o : Om} {Q : Int32 → AH → Prop}  {v0 : Nat} {v1 : Int32}  : ∀ (n : Nat) (v2 : Int32) (v3 : Int32) (h : AH), L_X5_homeOf_4 Q  v0 v1 n v2 v3 h → AQ o kX5_homeOf h 4 [(0, .ref v0), (1, .int v1), (2, .int v2), (3, .int v3)] [] (qI Q) := by
  intro n
  induction n with
  | zero => intro v2 v3 h H; exact H.elim
  | succ n ih => intro v2 v3 h H; exact b_X5_homeOf_4 ih H
def f_X5_homeOf (v0 : Nat) (v1 : Int32) (h : AH) (Q : Int32 → AH → Prop) : Prop :=
  ∃ n, L_X5_homeOf_4 Q  v0 v1 n (0 : Int32) (0 : Int32) h
set_option maxRecDepth 100000 in
set_option maxHeartbeats 4000000 in
theorem s_X5_homeOf {o : Om} {v0 : Nat} {v1 : Int32} {h : AH} {Q : Int32 → AH → Prop} (H : f_X5_homeOf v0 v1 h Q) : MQ' o kX5_homeOf [.ref v0, .int v1] h (qI Q) := by
  refine MQ'.of (by decide +kernel) (Nat.le_of_ble_eq_true rfl) ?_
  show AQ o kX5_homeOf h 0 [(0, .ref v0), (1, .int v1)] [] (qI Q)
  refine a_iconst (v := (0 : Int32)) (by decide) dX5_homeOf_0 ?_
  refine a_istore_n (lv1 := [(0, .ref v0), (1, .int v1), (2, .int (0 : Int32))]) rfl [1, 2, 0] (by decide) rfl dX5_homeOf_1 ?_
  refine a_iconst (v := (0 : Int32)) (by decide) dX5_homeOf_2 ?_
  refine a_istore_n (lv1 := [(0, .ref v0), (1, .int v1), (2, .int (0 : Int32)), (3, .int (0 : Int32))]) rfl [1, 2, 3, 0] (by decide) rfl dX5_homeOf_3 ?_
  obtain ⟨n, H⟩ := H
  exact l_X5_homeOf_4  n _ _ _ H
def f_X11_apart (v0 : Nat) (h : AH) (Q : Int32 → AH → Prop) : Prop :=
  gR h v0 11 8 (fun a1 => gI h v0 11 9 (fun x2 => isO h a1 5 ∧ f_X5_homeOf a1 x2 h (fun x3 h4 => pF h4 v0 11 12 (.int x3) (fun h5 => gR h5 v0 11 8 (fun a6 => gI h5 v0 11 9 (fun x7 => isO h5 a6 5 ∧ f_X5_farFromHome a6 x7 h5 (fun x8 h9 => Q x8 h9)))))))
set_option maxRecDepth 100000 in
set_option maxHeartbeats 4000000 in
theorem s_X11_apart {o : Om} {v0 : Nat} {h : AH} {Q : Int32 → AH → Prop} (H : f_X11_apart v0 h Q) : MQ' o kX11_apart [.ref v0] h (qI Q) := by
  refine MQ'.of (by decide +kernel) (Nat.le_of_ble_eq_true rfl) ?_
  show AQ o kX11_apart h 0 [(0, .ref v0)] [] (qI Q)
  refine a_aload_n 0 rfl rfl dX11_apart_0 ?_
  refine a_aload_n 0 rfl rfl dX11_apart_1 ?_
  refine r_gR fo_RX11_60_11 dX11_apart_2 H (fun a1 H => ?_)
  refine a_aload_n 0 rfl rfl dX11_apart_5 ?_
  refine r_gI fo_RX11_34_11 dX11_apart_6 H (fun x2 H => ?_)
  refine r_Vi (q := (RX5, TX5, 10)) (av := [.int x2]) (rest := [.ref v0]) rfl rfl okX5_homeOf H.1 rfl rfl wd742 wd743 wd744 ⟨Nat.le_of_ble_eq_true rfl, Nat.le_of_ble_eq_true rfl⟩ (Nat.le_of_ble_eq_true rfl) dX11_apart_9 (s_X5_homeOf H.2) (fun x3 h4 H => ?_)
  refine r_pF (po_RX11_44_11 _) (fun _ => rfl) (fun _ => rfl) dX11_apart_12 H (fun h5 H => ?_)
  refine a_aload_n 0 rfl rfl dX11_apart_15 ?_
  refine r_gR fo_RX11_60_11 dX11_apart_16 H (fun a6 H => ?_)
  refine a_aload_n 0 rfl rfl dX11_apart_19 ?_
  refine r_gI fo_RX11_34_11 dX11_apart_20 H (fun x7 H => ?_)
  refine r_Vi (q := (RX5, TX5, 10)) (av := [.int x7]) (rest := []) rfl rfl okX5_farFromHome H.1 rfl rfl wd714 wd715 wd716 ⟨Nat.le_of_ble_eq_true rfl, Nat.le_of_ble_eq_true rfl⟩ (Nat.le_of_ble_eq_true rfl) dX11_apart_23 (s_X5_farFromHome H.2) (fun x8 h9 H => ?_)
  exact r_reti rfl dX11_apart_26 H
def f_X12_isHome (v0 : Nat) (v1 : Int32) (v2 : Int32) (h : AH) (Q : Int32 → AH → Prop) : Prop :=
  isO h v0 12 ∧ f_X12_home v0 v2 h (fun x1 h2 => ((x1 < 0 → Q (0 : Int32) h2) ∧ (¬ (x1 < 0) → f_X12_spotOf v1 v2 h2 (fun x3 h4 => isO h4 v0 12 ∧ f_X12_home v0 v2 h4 (fun x5 h6 => ((¬ (x3 = x5) → Q (0 : Int32) h6) ∧ (x3 = x5 → Q (1 : Int32) h6)))))))
set_option maxRecDepth 100000 in
set_option maxHeartbeats 4000000 in
theorem s_X12_isHome {o : Om} {v0 : Nat} {v1 : Int32} {v2 : Int32} {h : AH} {Q : Int32 → AH → Prop} (H : f_X12_isHome v0 v1 v2 h Q) : MQ' o kX12_isHome [.ref v0, .int v1, .int v2] h (qI Q) := by
  refine MQ'.of (by decide +kernel) (Nat.le_of_ble_eq_true rfl) ?_
  show AQ o kX12_isHome h 0 [(0, .ref v0), (1, .int v1), (2, .int v2)] [] (qI Q)
  refine a_aload_n 0 rfl rfl dX12_isHome_0 ?_
  refine a_iload_n 2 rfl rfl dX12_isHome_1 ?_
  refine r_Vi (q := (RX12, TX12, 51)) (av := [.int v2]) (rest := []) rfl rfl okX12_home H.1 rfl rfl wd1292 wd1294 wp43 ⟨Nat.le_of_ble_eq_true rfl, Nat.le_of_ble_eq_true rfl⟩ (Nat.le_of_ble_eq_true rfl) dX12_isHome_2 (s_X12_home H.2) (fun x1 h2 H => ?_)
  refine a_if_lt (tgt := 25) dX12_isHome_5 (by decide) (fun c => ?_) (fun c => ?_)
  · have H := H.1 (c)
    refine a_iconst (v := (0 : Int32)) (by decide) dX12_isHome_25 ?_
    exact r_retz rfl bl_0 dX12_isHome_26 H
  · have H := H.2 (c)
    refine a_iload_n 1 rfl rfl dX12_isHome_8 ?_
    refine a_iload_n 2 rfl rfl dX12_isHome_9 ?_
    refine r_Si (av := [.int v1, .int v2]) (rest := []) rfl rfl okX12_spotOf wd1286 wd1287 ⟨Nat.le_of_ble_eq_true rfl, Nat.le_of_ble_eq_true rfl⟩ (Nat.le_of_ble_eq_true rfl) dX12_isHome_10 (s_X12_spotOf H) (fun x3 h4 H => ?_)
    refine a_aload_n 0 rfl rfl dX12_isHome_13 ?_
    refine a_iload_n 2 rfl rfl dX12_isHome_14 ?_
    refine r_Vi (q := (RX12, TX12, 51)) (av := [.int v2]) (rest := [.int x3]) rfl rfl okX12_home H.1 rfl rfl wd1292 wd1294 wp43 ⟨Nat.le_of_ble_eq_true rfl, Nat.le_of_ble_eq_true rfl⟩ (Nat.le_of_ble_eq_true rfl) dX12_isHome_15 (s_X12_home H.2) (fun x5 h6 H => ?_)
    refine a_icmp_ne (tgt := 25) dX12_isHome_18 (by decide) (fun c => ?_) (fun c => ?_)
    · have H := H.1 (c)
      refine a_iconst (v := (0 : Int32)) (by decide) dX12_isHome_25 ?_
      exact r_retz rfl bl_0 dX12_isHome_26 H
    · have H := H.2 (c)
      refine a_iconst (v := (1 : Int32)) (by decide) dX12_isHome_21 ?_
      refine a_goto (tgt := 26) dX12_isHome_22 (by decide) ?_
      exact r_retz rfl bl_1 dX12_isHome_26 H
def B_X12_apart_7 (Q : Int32 → AH → Prop) (K7 : Int32 → AH → Prop) (v0 : Nat) (v1 : Int32) (h : AH) : Prop :=
  gI h v0 12 10 (fun x1 => ((x1 ≤ v1 → gI h v0 12 17 (fun x2 => isO h v0 12 ∧ f_X12_apartOf v0 x2 h (fun x3 h4 => Q x3 h4))) ∧ (¬ (x1 ≤ v1) → gI h v0 12 4 (fun x5 => gI h v0 12 17 (fun x6 => isO h v0 12 ∧ f_X12_isHome v0 x6 v1 h (fun x7 h8 => ((x7 = 0 → pF h8 v0 12 4 (.int (x5 + (0 : Int32))) (fun h9 => K7 (v1 + 1) h9)) ∧ (¬ (x7 = 0) → pF h8 v0 12 4 (.int (x5 + (1 : Int32))) (fun h10 => K7 (v1 + 1) h10)))))))))
set_option maxRecDepth 100000 in
set_option maxHeartbeats 4000000 in
theorem b_X12_apart_7 {o : Om} {Q : Int32 → AH → Prop} {K7 : Int32 → AH → Prop} {v0 : Nat} {v1 : Int32} {h : AH} (hK7 : ∀ w1 h, K7 w1 h → AQ o kX12_apart h 7 [(0, .ref v0), (1, .int w1)] [] (qI Q)) (H : B_X12_apart_7 Q K7 v0 v1 h) : AQ o kX12_apart h 7 [(0, .ref v0), (1, .int v1)] [] (qI Q) := by
  refine a_iload_n 1 rfl rfl dX12_apart_7 ?_
  refine a_aload_n 0 rfl rfl dX12_apart_8 ?_
  refine r_gI fo_RX12_178_12 dX12_apart_9 H (fun x1 H => ?_)
  refine a_icmp_ge (tgt := 47) dX12_apart_12 (by decide) (fun c => ?_) (fun c => ?_)
  · have H := H.1 (c)
    refine a_aload_n 0 rfl rfl dX12_apart_47 ?_
    refine a_aload_n 0 rfl rfl dX12_apart_48 ?_
    refine r_gI fo_RX12_184_12 dX12_apart_49 H (fun x2 H => ?_)
    refine r_Vi (q := (RX12, TX12, 51)) (av := [.int x2]) (rest := []) rfl rfl okX12_apartOf H.1 rfl rfl wd1355 wd1357 wp52 ⟨Nat.le_of_ble_eq_true rfl, Nat.le_of_ble_eq_true rfl⟩ (Nat.le_of_ble_eq_true rfl) dX12_apart_52 (s_X12_apartOf H.2) (fun x3 h4 H => ?_)
    exact r_reti rfl dX12_apart_55 H
  · have H := H.2 (c)
    refine a_aload_n 0 rfl rfl dX12_apart_15 ?_
    refine a_dup rfl dX12_apart_16 ?_
    refine r_gI fo_RX12_104_12 dX12_apart_17 H (fun x5 H => ?_)
    refine a_aload_n 0 rfl rfl dX12_apart_20 ?_
    refine a_aload_n 0 rfl rfl dX12_apart_21 ?_
    refine r_gI fo_RX12_184_12 dX12_apart_22 H (fun x6 H => ?_)
    refine a_iload_n 1 rfl rfl dX12_apart_25 ?_
    refine r_Vi (q := (RX12, TX12, 51)) (av := [.int x6, .int v1]) (rest := [.int x5, .ref v0]) rfl rfl okX12_isHome H.1 rfl rfl wd1375 wd1377 wp53 ⟨Nat.le_of_ble_eq_true rfl, Nat.le_of_ble_eq_true rfl⟩ (Nat.le_of_ble_eq_true rfl) dX12_apart_26 (s_X12_isHome H.2) (fun x7 h8 H => ?_)
    refine a_if_eq (tgt := 36) dX12_apart_29 (by decide) (fun c => ?_) (fun c => ?_)
    · have H := H.1 (c)
      refine a_iconst (v := (0 : Int32)) (by decide) dX12_apart_36 ?_
      refine a_iadd dX12_apart_37 ?_
      refine r_pF (po_RX12_104_12 _) (fun _ => rfl) (fun _ => rfl) dX12_apart_38 H (fun h9 H => ?_)
      refine a_iinc (v := v1 + 1) (lv1 := [(0, .ref v0), (1, .int (v1 + 1))]) [1, 0] 1 rfl (by decide) rfl rfl dX12_apart_41 ?_
      refine a_goto (tgt := 7) dX12_apart_44 (by decide) ?_
      exact hK7 _ _ H
    · have H := H.2 (c)
      refine a_iconst (v := (1 : Int32)) (by decide) dX12_apart_32 ?_
      refine a_goto (tgt := 37) dX12_apart_33 (by decide) ?_
      refine a_iadd dX12_apart_37 ?_
      refine r_pF (po_RX12_104_12 _) (fun _ => rfl) (fun _ => rfl) dX12_apart_38 H (fun h10 H => ?_)
      refine a_iinc (v := v1 + 1) (lv1 := [(0, .ref v0), (1, .int (v1 + 1))]) [1, 0] 1 rfl (by decide) rfl rfl dX12_apart_41 ?_
      refine a_goto (tgt := 7) dX12_apart_44 (by decide) ?_
      exact hK7 _ _ H
def L_X12_apart_7 (Q : Int32 → AH → Prop)  (v0 : Nat) : Nat → Int32 → AH → Prop
  | 0, _, _ => False
  | n + 1, v1, h => B_X12_apart_7 Q (L_X12_apart_7 Q  v0 n) v0 v1 h
theorem l_X12_apart_7 {o : Om} {Q : Int32 → AH → Prop}  {v0 : Nat}  : ∀ (n : Nat) (v1 : Int32) (h : AH), L_X12_apart_7 Q  v0 n v1 h → AQ o kX12_apart h 7 [(0, .ref v0), (1, .int v1)] [] (qI Q) := by
  intro n
  induction n with
  | zero => intro v1 h H; exact H.elim
  | succ n ih => intro v1 h H; exact b_X12_apart_7 ih H
def f_X12_apart (v0 : Nat) (h : AH) (Q : Int32 → AH → Prop) : Prop :=
  pF h v0 12 4 (.int (0 : Int32)) (fun h1 => ∃ n, L_X12_apart_7 Q  v0 n (0 : Int32) h1)
set_option maxRecDepth 100000 in
set_option maxHeartbeats 4000000 in
theorem s_X12_apart {o : Om} {v0 : Nat} {h : AH} {Q : Int32 → AH → Prop} (H : f_X12_apart v0 h Q) : MQ' o kX12_apart [.ref v0] h (qI Q) := by
  refine MQ'.of (by decide +kernel) (Nat.le_of_ble_eq_true rfl) ?_
  show AQ o kX12_apart h 0 [(0, .ref v0)] [] (qI Q)
  refine a_aload_n 0 rfl rfl dX12_apart_0 ?_
  refine a_iconst (v := (0 : Int32)) (by decide) dX12_apart_1 ?_
  refine r_pF (po_RX12_104_12 _) (fun _ => rfl) (fun _ => rfl) dX12_apart_2 H (fun h1 H => ?_)
  refine a_iconst (v := (0 : Int32)) (by decide) dX12_apart_5 ?_
  refine a_istore_n (lv1 := [(0, .ref v0), (1, .int (0 : Int32))]) rfl [1, 0] (by decide) rfl dX12_apart_6 ?_
  obtain ⟨n, H⟩ := H
  exact l_X12_apart_7  n _ _ H
def f_X11_keep (v0 : Nat) (v1 : Int32) (h : AH) (Q : Int32 → AH → Prop) : Prop :=
  f_X11_isBelow v1 (3 : Int32) h (fun x1 h2 => ((¬ (x1 = 0) → gR h2 v0 11 8 (fun a3 => gI h2 a3 5 4 (fun x4 => ((¬ (x4 = 0) → gR h2 v0 11 3 (fun a5 => gI h2 v0 11 9 (fun x6 => sI h2 a5 v1 x6 (fun h7 => gR h7 v0 11 4 (fun a8 => gI h7 v0 11 10 (fun x9 => sI h7 a8 v1 x9 (fun h10 => gI h10 v0 11 11 (fun x11 => Q x11 h10)))))))) ∧ (x4 = 0 → Q (-4 : Int32) h2))))) ∧ (x1 = 0 → Q (-1 : Int32) h2)))
set_option maxRecDepth 100000 in
set_option maxHeartbeats 4000000 in
theorem s_X11_keep {o : Om} {v0 : Nat} {v1 : Int32} {h : AH} {Q : Int32 → AH → Prop} (H : f_X11_keep v0 v1 h Q) : MQ' o kX11_keep [.ref v0, .int v1] h (qI Q) := by
  refine MQ'.of (by decide +kernel) (Nat.le_of_ble_eq_true rfl) ?_
  show AQ o kX11_keep h 0 [(0, .ref v0), (1, .int v1)] [] (qI Q)
  refine a_iload_n 1 rfl rfl dX11_keep_0 ?_
  refine a_iconst (v := (3 : Int32)) (by decide) dX11_keep_1 ?_
  refine r_Si (av := [.int v1, .int (3 : Int32)]) (rest := []) rfl rfl okX11_isBelow wd257 wd258 ⟨Nat.le_of_ble_eq_true rfl, Nat.le_of_ble_eq_true rfl⟩ (Nat.le_of_ble_eq_true rfl) dX11_keep_2 (s_X11_isBelow H) (fun x1 h2 H => ?_)
  refine a_if_ne (tgt := 10) dX11_keep_5 (by decide) (fun c => ?_) (fun c => ?_)
  · have H := H.1 (c)
    refine a_aload_n 0 rfl rfl dX11_keep_10 ?_
    refine r_gR fo_RX11_60_11 dX11_keep_11 H (fun a3 H => ?_)
    refine r_gI fo_RX11_198_5 dX11_keep_14 H (fun x4 H => ?_)
    refine a_if_ne (tgt := 23) dX11_keep_17 (by decide) (fun c => ?_) (fun c => ?_)
    · have H := H.1 (c)
      refine a_aload_n 0 rfl rfl dX11_keep_23 ?_
      refine r_gR fo_RX11_24_11 dX11_keep_24 H (fun a5 H => ?_)
      refine a_iload_n 1 rfl rfl dX11_keep_27 ?_
      refine a_aload_n 0 rfl rfl dX11_keep_28 ?_
      refine r_gI fo_RX11_34_11 dX11_keep_29 H (fun x6 H => ?_)
      refine r_sI dX11_keep_32 H (fun h7 H => ?_)
      refine a_aload_n 0 rfl rfl dX11_keep_33 ?_
      refine r_gR fo_RX11_28_11 dX11_keep_34 H (fun a8 H => ?_)
      refine a_iload_n 1 rfl rfl dX11_keep_37 ?_
      refine a_aload_n 0 rfl rfl dX11_keep_38 ?_
      refine r_gI fo_RX11_38_11 dX11_keep_39 H (fun x9 H => ?_)
      refine r_sI dX11_keep_42 H (fun h10 H => ?_)
      refine a_aload_n 0 rfl rfl dX11_keep_43 ?_
      refine r_gI fo_RX11_41_11 dX11_keep_44 H (fun x11 H => ?_)
      exact r_reti rfl dX11_keep_47 H
    · have H := H.2 (c)
      refine a_bipush (v := (-4 : Int32)) (by decide) dX11_keep_20 ?_
      exact r_reti rfl dX11_keep_22 H
  · have H := H.2 (c)
    refine a_iconst (v := (-1 : Int32)) (by decide) dX11_keep_8 ?_
    exact r_reti rfl dX11_keep_9 H
def f_X12_keep (v0 : Nat) (v1 : Int32) (h : AH) (Q : Int32 → AH → Prop) : Prop :=
  f_X12_in v1.toInt64 (0 : Int64) (2 : Int64) h (fun x1 h2 => ((¬ (x1 = 0) → gI h2 v0 12 9 (fun x3 => ((¬ (x3 = 0) → gR h2 v0 12 25 (fun a4 => gI h2 v0 12 17 (fun x5 => sI h2 a4 v1 x5 (fun h6 => gR h6 v0 12 26 (fun a7 => gI h6 v0 12 16 (fun x8 => sI h6 a7 v1 x8 (fun h9 => gI h9 v0 12 20 (fun x10 => Q x10 h9)))))))) ∧ (x3 = 0 → Q (-4 : Int32) h2)))) ∧ (x1 = 0 → Q (-1 : Int32) h2)))
set_option maxRecDepth 100000 in
set_option maxHeartbeats 4000000 in
theorem s_X12_keep {o : Om} {v0 : Nat} {v1 : Int32} {h : AH} {Q : Int32 → AH → Prop} (H : f_X12_keep v0 v1 h Q) : MQ' o kX12_keep [.ref v0, .int v1] h (qI Q) := by
  refine MQ'.of (by decide +kernel) (Nat.le_of_ble_eq_true rfl) ?_
  show AQ o kX12_keep h 0 [(0, .ref v0), (1, .int v1)] [] (qI Q)
  refine a_iload_n 1 rfl rfl dX12_keep_0 ?_
  refine a_i2l dX12_keep_1 ?_
  refine a_lconst (v := (0 : Int64)) (by decide) dX12_keep_2 ?_
  refine a_ldc2 (v := (2 : Int64)) wd1342 dX12_keep_3 ?_
  refine r_Si (av := [.long v1.toInt64, .long (0 : Int64), .long (2 : Int64)]) (rest := []) rfl rfl okX12_in wd1188 wd1189 ⟨Nat.le_of_ble_eq_true rfl, Nat.le_of_ble_eq_true rfl⟩ (Nat.le_of_ble_eq_true rfl) dX12_keep_6 (s_X12_in H) (fun x1 h2 H => ?_)
  refine a_if_ne (tgt := 14) dX12_keep_9 (by decide) (fun c => ?_) (fun c => ?_)
  · have H := H.1 (c)
    refine a_aload_n 0 rfl rfl dX12_keep_14 ?_
    refine r_gI fo_RX12_175_12 dX12_keep_15 H (fun x3 H => ?_)
    refine a_if_ne (tgt := 24) dX12_keep_18 (by decide) (fun c => ?_) (fun c => ?_)
    · have H := H.1 (c)
      refine a_aload_n 0 rfl rfl dX12_keep_24 ?_
      refine r_gR fo_RX12_59_12 dX12_keep_25 H (fun a4 H => ?_)
      refine a_iload_n 1 rfl rfl dX12_keep_28 ?_
      refine a_aload_n 0 rfl rfl dX12_keep_29 ?_
      refine r_gI fo_RX12_184_12 dX12_keep_30 H (fun x5 H => ?_)
      refine r_sI dX12_keep_33 H (fun h6 H => ?_)
      refine a_aload_n 0 rfl rfl dX12_keep_34 ?_
      refine r_gR fo_RX12_62_12 dX12_keep_35 H (fun a7 H => ?_)
      refine a_iload_n 1 rfl rfl dX12_keep_38 ?_
      refine a_aload_n 0 rfl rfl dX12_keep_39 ?_
      refine r_gI fo_RX12_187_12 dX12_keep_40 H (fun x8 H => ?_)
      refine r_sI dX12_keep_43 H (fun h9 H => ?_)
      refine a_aload_n 0 rfl rfl dX12_keep_44 ?_
      refine r_gI fo_RX12_172_12 dX12_keep_45 H (fun x10 H => ?_)
      exact r_reti rfl dX12_keep_48 H
    · have H := H.2 (c)
      refine a_bipush (v := (-4 : Int32)) (by decide) dX12_keep_21 ?_
      exact r_reti rfl dX12_keep_23 H
  · have H := H.2 (c)
    refine a_iconst (v := (-1 : Int32)) (by decide) dX12_keep_12 ?_
    exact r_reti rfl dX12_keep_13 H
def f_X11_on (v0 : Nat) (v1 : Int32) (h : AH) (Q : Int32 → AH → Prop) : Prop :=
  f_X11_isBelow v1 (3 : Int32) h (fun x1 h2 => ((¬ (x1 = 0) → gR h2 v0 11 4 (fun a3 => lI h2 a3 v1 (fun x4 => ((¬ (x4 = (-9 : Int32)) → gR h2 v0 11 3 (fun a5 => lI h2 a5 v1 (fun x6 => pF h2 v0 11 9 (.int x6) (fun h7 => gR h7 v0 11 4 (fun a8 => lI h7 a8 v1 (fun x9 => pF h7 v0 11 10 (.int x9) (fun h10 => pF h10 v0 11 11 (.int (0 : Int32)) (fun h11 => Q (1 : Int32) h11)))))))) ∧ (x4 = (-9 : Int32) → isO h2 v0 11 ∧ f_X11_found v0 (1 : Int32) h2 (fun x12 h13 => Q x12 h13)))))) ∧ (x1 = 0 → Q (-1 : Int32) h2)))
set_option maxRecDepth 100000 in
set_option maxHeartbeats 4000000 in
theorem s_X11_on {o : Om} {v0 : Nat} {v1 : Int32} {h : AH} {Q : Int32 → AH → Prop} (H : f_X11_on v0 v1 h Q) : MQ' o kX11_on [.ref v0, .int v1] h (qI Q) := by
  refine MQ'.of (by decide +kernel) (Nat.le_of_ble_eq_true rfl) ?_
  show AQ o kX11_on h 0 [(0, .ref v0), (1, .int v1)] [] (qI Q)
  refine a_iload_n 1 rfl rfl dX11_on_0 ?_
  refine a_iconst (v := (3 : Int32)) (by decide) dX11_on_1 ?_
  refine r_Si (av := [.int v1, .int (3 : Int32)]) (rest := []) rfl rfl okX11_isBelow wd257 wd258 ⟨Nat.le_of_ble_eq_true rfl, Nat.le_of_ble_eq_true rfl⟩ (Nat.le_of_ble_eq_true rfl) dX11_on_2 (s_X11_isBelow H) (fun x1 h2 H => ?_)
  refine a_if_ne (tgt := 10) dX11_on_5 (by decide) (fun c => ?_) (fun c => ?_)
  · have H := H.1 (c)
    refine a_aload_n 0 rfl rfl dX11_on_10 ?_
    refine r_gR fo_RX11_28_11 dX11_on_11 H (fun a3 H => ?_)
    refine a_iload_n 1 rfl rfl dX11_on_14 ?_
    refine r_lI dX11_on_15 H (fun x4 H => ?_)
    refine a_bipush (v := (-9 : Int32)) (by decide) dX11_on_16 ?_
    refine a_icmp_ne (tgt := 27) dX11_on_18 (by decide) (fun c => ?_) (fun c => ?_)
    · have H := H.1 (c)
      refine a_aload_n 0 rfl rfl dX11_on_27 ?_
      refine a_aload_n 0 rfl rfl dX11_on_28 ?_
      refine r_gR fo_RX11_24_11 dX11_on_29 H (fun a5 H => ?_)
      refine a_iload_n 1 rfl rfl dX11_on_32 ?_
      refine r_lI dX11_on_33 H (fun x6 H => ?_)
      refine r_pF (po_RX11_34_11 _) (fun _ => rfl) (fun _ => rfl) dX11_on_34 H (fun h7 H => ?_)
      refine a_aload_n 0 rfl rfl dX11_on_37 ?_
      refine a_aload_n 0 rfl rfl dX11_on_38 ?_
      refine r_gR fo_RX11_28_11 dX11_on_39 H (fun a8 H => ?_)
      refine a_iload_n 1 rfl rfl dX11_on_42 ?_
      refine r_lI dX11_on_43 H (fun x9 H => ?_)
      refine r_pF (po_RX11_38_11 _) (fun _ => rfl) (fun _ => rfl) dX11_on_44 H (fun h10 H => ?_)
      refine a_aload_n 0 rfl rfl dX11_on_47 ?_
      refine a_iconst (v := (0 : Int32)) (by decide) dX11_on_48 ?_
      refine r_pF (po_RX11_41_11 _) (fun _ => rfl) (fun _ => rfl) dX11_on_49 H (fun h11 H => ?_)
      refine a_iconst (v := (1 : Int32)) (by decide) dX11_on_52 ?_
      exact r_reti rfl dX11_on_53 H
    · have H := H.2 (c)
      refine a_aload_n 0 rfl rfl dX11_on_21 ?_
      refine a_iconst (v := (1 : Int32)) (by decide) dX11_on_22 ?_
      refine r_Vi (q := (RX11, TX11, 16)) (av := [.int (1 : Int32)]) (rest := []) rfl rfl okX11_found H.1 rfl rfl wd260 wd262 wp0 ⟨Nat.le_of_ble_eq_true rfl, Nat.le_of_ble_eq_true rfl⟩ (Nat.le_of_ble_eq_true rfl) dX11_on_23 (s_X11_found H.2) (fun x12 h13 H => ?_)
      exact r_reti rfl dX11_on_26 H
  · have H := H.2 (c)
    refine a_iconst (v := (-1 : Int32)) (by decide) dX11_on_8 ?_
    exact r_reti rfl dX11_on_9 H
def f_X12_on (v0 : Nat) (v1 : Int32) (h : AH) (Q : Int32 → AH → Prop) : Prop :=
  f_X12_in v1.toInt64 (0 : Int64) (2 : Int64) h (fun x1 h2 => ((¬ (x1 = 0) → gR h2 v0 12 25 (fun a3 => lI h2 a3 v1 (fun x4 => ((0 ≤ x4 → gR h2 v0 12 25 (fun a5 => lI h2 a5 v1 (fun x6 => pF h2 v0 12 17 (.int x6) (fun h7 => gR h7 v0 12 26 (fun a8 => lI h7 a8 v1 (fun x9 => pF h7 v0 12 16 (.int x9) (fun h10 => isO h10 v0 12 ∧ f_X12_clear v0  h10 (fun h11 => Q (1 : Int32) h11)))))))) ∧ (¬ (0 ≤ x4) → isO h2 v0 12 ∧ f_X12_find v0 (1 : Int32) h2 (fun x12 h13 => Q x12 h13)))))) ∧ (x1 = 0 → Q (-1 : Int32) h2)))
set_option maxRecDepth 100000 in
set_option maxHeartbeats 4000000 in
theorem s_X12_on {o : Om} {v0 : Nat} {v1 : Int32} {h : AH} {Q : Int32 → AH → Prop} (H : f_X12_on v0 v1 h Q) : MQ' o kX12_on [.ref v0, .int v1] h (qI Q) := by
  refine MQ'.of (by decide +kernel) (Nat.le_of_ble_eq_true rfl) ?_
  show AQ o kX12_on h 0 [(0, .ref v0), (1, .int v1)] [] (qI Q)
  refine a_iload_n 1 rfl rfl dX12_on_0 ?_
  refine a_i2l dX12_on_1 ?_
  refine a_lconst (v := (0 : Int64)) (by decide) dX12_on_2 ?_
  refine a_ldc2 (v := (2 : Int64)) wd1342 dX12_on_3 ?_
  refine r_Si (av := [.long v1.toInt64, .long (0 : Int64), .long (2 : Int64)]) (rest := []) rfl rfl okX12_in wd1188 wd1189 ⟨Nat.le_of_ble_eq_true rfl, Nat.le_of_ble_eq_true rfl⟩ (Nat.le_of_ble_eq_true rfl) dX12_on_6 (s_X12_in H) (fun x1 h2 H => ?_)
  refine a_if_ne (tgt := 14) dX12_on_9 (by decide) (fun c => ?_) (fun c => ?_)
  · have H := H.1 (c)
    refine a_aload_n 0 rfl rfl dX12_on_14 ?_
    refine r_gR fo_RX12_59_12 dX12_on_15 H (fun a3 H => ?_)
    refine a_iload_n 1 rfl rfl dX12_on_18 ?_
    refine r_lI dX12_on_19 H (fun x4 H => ?_)
    refine a_if_ge (tgt := 29) dX12_on_20 (by decide) (fun c => ?_) (fun c => ?_)
    · have H := H.1 (c)
      refine a_aload_n 0 rfl rfl dX12_on_29 ?_
      refine a_aload_n 0 rfl rfl dX12_on_30 ?_
      refine r_gR fo_RX12_59_12 dX12_on_31 H (fun a5 H => ?_)
      refine a_iload_n 1 rfl rfl dX12_on_34 ?_
      refine r_lI dX12_on_35 H (fun x6 H => ?_)
      refine r_pF (po_RX12_184_12 _) (fun _ => rfl) (fun _ => rfl) dX12_on_36 H (fun h7 H => ?_)
      refine a_aload_n 0 rfl rfl dX12_on_39 ?_
      refine a_aload_n 0 rfl rfl dX12_on_40 ?_
      refine r_gR fo_RX12_62_12 dX12_on_41 H (fun a8 H => ?_)
      refine a_iload_n 1 rfl rfl dX12_on_44 ?_
      refine r_lI dX12_on_45 H (fun x9 H => ?_)
      refine r_pF (po_RX12_187_12 _) (fun _ => rfl) (fun _ => rfl) dX12_on_46 H (fun h10 H => ?_)
      refine a_aload_n 0 rfl rfl dX12_on_49 ?_
      refine r_Vv (q := (RX12, TX12, 51)) (av := []) (rest := []) rfl rfl okX12_clear H.1 rfl rfl wd1274 wd1276 wp41 ⟨Nat.le_of_ble_eq_true rfl, Nat.le_of_ble_eq_true rfl⟩ (Nat.le_of_ble_eq_true rfl) dX12_on_50 (s_X12_clear H.2) (fun h11 H => ?_)
      refine a_iconst (v := (1 : Int32)) (by decide) dX12_on_53 ?_
      exact r_reti rfl dX12_on_54 H
    · have H := H.2 (c)
      refine a_aload_n 0 rfl rfl dX12_on_23 ?_
      refine a_iconst (v := (1 : Int32)) (by decide) dX12_on_24 ?_
      refine r_Vi (q := (RX12, TX12, 51)) (av := [.int (1 : Int32)]) (rest := []) rfl rfl okX12_find H.1 rfl rfl wd1191 wd1193 wp31 ⟨Nat.le_of_ble_eq_true rfl, Nat.le_of_ble_eq_true rfl⟩ (Nat.le_of_ble_eq_true rfl) dX12_on_25 (s_X12_find H.2) (fun x12 h13 H => ?_)
      exact r_reti rfl dX12_on_28 H
  · have H := H.2 (c)
    refine a_iconst (v := (-1 : Int32)) (by decide) dX12_on_12 ?_
    exact r_reti rfl dX12_on_13 H
def B_X5_leastAt_39 (Q : Int32 → AH → Prop) (K5 : Int32 → Int32 → AH → Prop) (v0 : Nat) (v1 : Int32) (v2 : Int32) (v4 : Int32) (h : AH) : Prop :=
  gR h v0 5 0 (fun a1 => lI h a1 v4 (fun x2 => K5 x2 (v4 + 1) h))
set_option maxRecDepth 100000 in
set_option maxHeartbeats 4000000 in
theorem b_X5_leastAt_39 {o : Om} {Q : Int32 → AH → Prop} {K5 : Int32 → Int32 → AH → Prop} {v0 : Nat} {v1 : Int32} {v2 : Int32} {v4 : Int32} {h : AH} (hK5 : ∀ w3 w4 h, K5 w3 w4 h → AQ o kX5_leastAt h 5 [(0, .ref v0), (1, .int v1), (2, .int v2), (3, .int w3), (4, .int w4)] [] (qI Q)) (H : B_X5_leastAt_39 Q K5 v0 v1 v2 v4 h) : AQ o kX5_leastAt h 39 [(0, .ref v0), (1, .int v1), (2, .int v2), (4, .int v4)] [] (qI Q) := by
  refine a_aload_n 0 rfl rfl dX5_leastAt_39 ?_
  refine r_gR fo_RX5_11_5 dX5_leastAt_40 H (fun a1 H => ?_)
  refine a_iload 3 rfl dX5_leastAt_43 ?_
  refine r_lI dX5_leastAt_45 H (fun x2 H => ?_)
  refine a_istore_n (lv1 := [(0, .ref v0), (1, .int v1), (2, .int v2), (3, .int x2), (4, .int v4)]) rfl [1, 2, 3, 0, 4] (by decide) rfl dX5_leastAt_46 ?_
  refine a_iinc (v := v4 + 1) (lv1 := [(0, .ref v0), (1, .int v1), (2, .int v2), (3, .int x2), (4, .int (v4 + 1))]) [1, 2, 3, 4, 0] 4 rfl (by decide) rfl rfl dX5_leastAt_47 ?_
  refine a_goto (tgt := 5) dX5_leastAt_50 (by decide) ?_
  exact hK5 _ _ _ H
def B_X5_leastAt_5 (Q : Int32 → AH → Prop) (K5 : Int32 → Int32 → AH → Prop) (v0 : Nat) (v1 : Int32) (v2 : Int32) (v3 : Int32) (v4 : Int32) (h : AH) : Prop :=
  gI h v0 5 5 (fun x1 => ((x1 ≤ v4 → Q v3 h) ∧ (¬ (x1 ≤ v4) → f_X5_postOf v1 v4 h (fun x2 h3 => ((¬ (x2 = v2) → K5 v3 (v4 + 1) h3) ∧ (x2 = v2 → ((v3 = 0 → B_X5_leastAt_39 Q K5 v0 v1 v2 v4 h3) ∧ (¬ (v3 = 0) → gR h3 v0 5 0 (fun a4 => lI h3 a4 v4 (fun x5 => ((v3 ≤ x5 → K5 v3 (v4 + 1) h3) ∧ (¬ (v3 ≤ x5) → B_X5_leastAt_39 Q K5 v0 v1 v2 v4 h3))))))))))))
set_option maxRecDepth 100000 in
set_option maxHeartbeats 4000000 in
theorem b_X5_leastAt_5 {o : Om} {Q : Int32 → AH → Prop} {K5 : Int32 → Int32 → AH → Prop} {v0 : Nat} {v1 : Int32} {v2 : Int32} {v3 : Int32} {v4 : Int32} {h : AH} (hK5 : ∀ w3 w4 h, K5 w3 w4 h → AQ o kX5_leastAt h 5 [(0, .ref v0), (1, .int v1), (2, .int v2), (3, .int w3), (4, .int w4)] [] (qI Q)) (H : B_X5_leastAt_5 Q K5 v0 v1 v2 v3 v4 h) : AQ o kX5_leastAt h 5 [(0, .ref v0), (1, .int v1), (2, .int v2), (3, .int v3), (4, .int v4)] [] (qI Q) := by
  refine a_iload 4 rfl dX5_leastAt_5 ?_
  refine a_aload_n 0 rfl rfl dX5_leastAt_7 ?_
  refine r_gI fo_RX5_31_5 dX5_leastAt_8 H (fun x1 H => ?_)
  refine a_icmp_ge (tgt := 53) dX5_leastAt_11 (by decide) (fun c => ?_) (fun c => ?_)
  · have H := H.1 (c)
    refine a_iload_n 3 rfl rfl dX5_leastAt_53 ?_
    exact r_reti rfl dX5_leastAt_54 H
  · have H := H.2 (c)
    refine a_iload_n 1 rfl rfl dX5_leastAt_14 ?_
    refine a_iload 4 rfl dX5_leastAt_15 ?_
    refine r_Si (av := [.int v1, .int v4]) (rest := []) rfl rfl okX5_postOf wd518 wd519 ⟨Nat.le_of_ble_eq_true rfl, Nat.le_of_ble_eq_true rfl⟩ (Nat.le_of_ble_eq_true rfl) dX5_leastAt_17 (s_X5_postOf H) (fun x2 h3 H => ?_)
    refine a_iload_n 2 rfl rfl dX5_leastAt_20 ?_
    refine a_icmp_ne (tgt := 47) dX5_leastAt_21 (by decide) (fun c => ?_) (fun c => ?_)
    · have H := H.1 (c)
      refine a_iinc (v := v4 + 1) (lv1 := [(0, .ref v0), (1, .int v1), (2, .int v2), (3, .int v3), (4, .int (v4 + 1))]) [1, 2, 3, 4, 0] 4 rfl (by decide) rfl rfl dX5_leastAt_47 ?_
      refine a_goto (tgt := 5) dX5_leastAt_50 (by decide) ?_
      exact hK5 _ _ _ H
    · have H := H.2 (c)
      refine a_iload_n 3 rfl rfl dX5_leastAt_24 ?_
      refine a_if_eq (tgt := 39) dX5_leastAt_25 (by decide) (fun c => ?_) (fun c => ?_)
      · have H := H.1 (c)
        refine AQ.sub (lv1 := [(0, .ref v0), (1, .int v1), (2, .int v2), (4, .int v4)]) [0, 1, 2, 4] rfl ?_
        exact b_X5_leastAt_39 hK5 H
      · have H := H.2 (c)
        refine a_aload_n 0 rfl rfl dX5_leastAt_28 ?_
        refine r_gR fo_RX5_11_5 dX5_leastAt_29 H (fun a4 H => ?_)
        refine a_iload 4 rfl dX5_leastAt_32 ?_
        refine r_lI dX5_leastAt_34 H (fun x5 H => ?_)
        refine a_iload_n 3 rfl rfl dX5_leastAt_35 ?_
        refine a_icmp_ge (tgt := 47) dX5_leastAt_36 (by decide) (fun c => ?_) (fun c => ?_)
        · have H := H.1 (c)
          refine a_iinc (v := v4 + 1) (lv1 := [(0, .ref v0), (1, .int v1), (2, .int v2), (3, .int v3), (4, .int (v4 + 1))]) [1, 2, 3, 4, 0] 4 rfl (by decide) rfl rfl dX5_leastAt_47 ?_
          refine a_goto (tgt := 5) dX5_leastAt_50 (by decide) ?_
          exact hK5 _ _ _ H
        · have H := H.2 (c)
          refine AQ.sub (lv1 := [(0, .ref v0), (1, .int v1), (2, .int v2), (4, .int v4)]) [0, 1, 2, 4] rfl ?_
          exact b_X5_leastAt_39 hK5 H
def L_X5_leastAt_5 (Q : Int32 → AH → Prop)  (v0 : Nat) (v1 : Int32) (v2 : Int32) : Nat → Int32 → Int32 → AH → Prop
  | 0, _, _, _ => False
  | n + 1, v3, v4, h => B_X5_leastAt_5 Q (L_X5_leastAt_5 Q  v0 v1 v2 n) v0 v1 v2 v3 v4 h
theorem l_X5_leastAt_5 {o : Om} {Q : Int32 → AH → Prop}  {v0 : Nat} {v1 : Int32} {v2 : Int32}  : ∀ (n : Nat) (v3 : Int32) (v4 : Int32) (h : AH), L_X5_leastAt_5 Q  v0 v1 v2 n v3 v4 h → AQ o kX5_leastAt h 5 [(0, .ref v0), (1, .int v1), (2, .int v2), (3, .int v3), (4, .int v4)] [] (qI Q) := by
  intro n
  induction n with
  | zero => intro v3 v4 h H; exact H.elim
  | succ n ih => intro v3 v4 h H; exact b_X5_leastAt_5 ih H
def f_X5_leastAt (v0 : Nat) (v1 : Int32) (v2 : Int32) (h : AH) (Q : Int32 → AH → Prop) : Prop :=
  ∃ n, L_X5_leastAt_5 Q  v0 v1 v2 n (0 : Int32) (0 : Int32) h
set_option maxRecDepth 100000 in
set_option maxHeartbeats 4000000 in
theorem s_X5_leastAt {o : Om} {v0 : Nat} {v1 : Int32} {v2 : Int32} {h : AH} {Q : Int32 → AH → Prop} (H : f_X5_leastAt v0 v1 v2 h Q) : MQ' o kX5_leastAt [.ref v0, .int v1, .int v2] h (qI Q) := by
  refine MQ'.of (by decide +kernel) (Nat.le_of_ble_eq_true rfl) ?_
  show AQ o kX5_leastAt h 0 [(0, .ref v0), (1, .int v1), (2, .int v2)] [] (qI Q)
  refine a_iconst (v := (0 : Int32)) (by decide) dX5_leastAt_0 ?_
  refine a_istore_n (lv1 := [(0, .ref v0), (1, .int v1), (2, .int v2), (3, .int (0 : Int32))]) rfl [1, 2, 3, 0] (by decide) rfl dX5_leastAt_1 ?_
  refine a_iconst (v := (0 : Int32)) (by decide) dX5_leastAt_2 ?_
  refine a_istore (lv1 := [(0, .ref v0), (1, .int v1), (2, .int v2), (3, .int (0 : Int32)), (4, .int (0 : Int32))]) [1, 2, 3, 4, 0] (by decide) rfl dX5_leastAt_3 ?_
  obtain ⟨n, H⟩ := H
  exact l_X5_leastAt_5  n _ _ _ H
def f_X11_sees (v0 : Nat) (v1 : Int32) (h : AH) (Q : Int32 → AH → Prop) : Prop :=
  gR h v0 11 8 (fun a1 => gI h a1 5 4 (fun x2 => f_X11_isBelow v1 x2 h (fun x3 h4 => ((¬ (x3 = 0) → gR h4 v0 11 8 (fun a5 => gI h4 v0 11 9 (fun x6 => isO h4 a5 5 ∧ f_X5_heapAt a5 x6 v1 h4 (fun x7 h8 => pF h8 v0 11 12 (.int x7) (fun h9 => gR h9 v0 11 8 (fun a10 => gI h9 v0 11 9 (fun x11 => isO h9 a10 5 ∧ f_X5_leastAt a10 x11 v1 h9 (fun x12 h13 => Q x12 h13)))))))) ∧ (x3 = 0 → Q (-1 : Int32) h4)))))
set_option maxRecDepth 100000 in
set_option maxHeartbeats 4000000 in
theorem s_X11_sees {o : Om} {v0 : Nat} {v1 : Int32} {h : AH} {Q : Int32 → AH → Prop} (H : f_X11_sees v0 v1 h Q) : MQ' o kX11_sees [.ref v0, .int v1] h (qI Q) := by
  refine MQ'.of (by decide +kernel) (Nat.le_of_ble_eq_true rfl) ?_
  show AQ o kX11_sees h 0 [(0, .ref v0), (1, .int v1)] [] (qI Q)
  refine a_iload_n 1 rfl rfl dX11_sees_0 ?_
  refine a_aload_n 0 rfl rfl dX11_sees_1 ?_
  refine r_gR fo_RX11_60_11 dX11_sees_2 H (fun a1 H => ?_)
  refine r_gI fo_RX11_198_5 dX11_sees_5 H (fun x2 H => ?_)
  refine r_Si (av := [.int v1, .int x2]) (rest := []) rfl rfl okX11_isBelow wd257 wd258 ⟨Nat.le_of_ble_eq_true rfl, Nat.le_of_ble_eq_true rfl⟩ (Nat.le_of_ble_eq_true rfl) dX11_sees_8 (s_X11_isBelow H) (fun x3 h4 H => ?_)
  refine a_if_ne (tgt := 16) dX11_sees_11 (by decide) (fun c => ?_) (fun c => ?_)
  · have H := H.1 (c)
    refine a_aload_n 0 rfl rfl dX11_sees_16 ?_
    refine a_aload_n 0 rfl rfl dX11_sees_17 ?_
    refine r_gR fo_RX11_60_11 dX11_sees_18 H (fun a5 H => ?_)
    refine a_aload_n 0 rfl rfl dX11_sees_21 ?_
    refine r_gI fo_RX11_34_11 dX11_sees_22 H (fun x6 H => ?_)
    refine a_iload_n 1 rfl rfl dX11_sees_25 ?_
    refine r_Vi (q := (RX5, TX5, 10)) (av := [.int x6, .int v1]) (rest := [.ref v0]) rfl rfl okX5_heapAt H.1 rfl rfl wd758 wd735 wd736 ⟨Nat.le_of_ble_eq_true rfl, Nat.le_of_ble_eq_true rfl⟩ (Nat.le_of_ble_eq_true rfl) dX11_sees_26 (s_X5_heapAt H.2) (fun x7 h8 H => ?_)
    refine r_pF (po_RX11_44_11 _) (fun _ => rfl) (fun _ => rfl) dX11_sees_29 H (fun h9 H => ?_)
    refine a_aload_n 0 rfl rfl dX11_sees_32 ?_
    refine r_gR fo_RX11_60_11 dX11_sees_33 H (fun a10 H => ?_)
    refine a_aload_n 0 rfl rfl dX11_sees_36 ?_
    refine r_gI fo_RX11_34_11 dX11_sees_37 H (fun x11 H => ?_)
    refine a_iload_n 1 rfl rfl dX11_sees_40 ?_
    refine r_Vi (q := (RX5, TX5, 10)) (av := [.int x11, .int v1]) (rest := []) rfl rfl okX5_leastAt H.1 rfl rfl wd759 wd760 wd761 ⟨Nat.le_of_ble_eq_true rfl, Nat.le_of_ble_eq_true rfl⟩ (Nat.le_of_ble_eq_true rfl) dX11_sees_41 (s_X5_leastAt H.2) (fun x12 h13 H => ?_)
    exact r_reti rfl dX11_sees_44 H
  · have H := H.2 (c)
    refine a_iconst (v := (-1 : Int32)) (by decide) dX11_sees_14 ?_
    exact r_reti rfl dX11_sees_15 H
def f_X12_isPost (v0 : Nat) (v1 : Int32) (h : AH) (Q : Int32 → AH → Prop) : Prop :=
  gI h v0 12 9 (fun x1 => f_X12_in v1.toInt64 (0 : Int64) ((x1 - (1 : Int32)).toInt64) h (fun x2 h3 => (bl x2 ∧ Q x2 h3)))
set_option maxRecDepth 100000 in
set_option maxHeartbeats 4000000 in
theorem s_X12_isPost {o : Om} {v0 : Nat} {v1 : Int32} {h : AH} {Q : Int32 → AH → Prop} (H : f_X12_isPost v0 v1 h Q) : MQ' o kX12_isPost [.ref v0, .int v1] h (qI Q) := by
  refine MQ'.of (by decide +kernel) (Nat.le_of_ble_eq_true rfl) ?_
  show AQ o kX12_isPost h 0 [(0, .ref v0), (1, .int v1)] [] (qI Q)
  refine a_iload_n 1 rfl rfl dX12_isPost_0 ?_
  refine a_i2l dX12_isPost_1 ?_
  refine a_lconst (v := (0 : Int64)) (by decide) dX12_isPost_2 ?_
  refine a_aload_n 0 rfl rfl dX12_isPost_3 ?_
  refine r_gI fo_RX12_175_12 dX12_isPost_4 H (fun x1 H => ?_)
  refine a_iconst (v := (1 : Int32)) (by decide) dX12_isPost_7 ?_
  refine a_isub dX12_isPost_8 ?_
  refine a_i2l dX12_isPost_9 ?_
  refine r_Si (av := [.long v1.toInt64, .long (0 : Int64), .long ((x1 - (1 : Int32)).toInt64)]) (rest := []) rfl rfl okX12_in wd1188 wd1189 ⟨Nat.le_of_ble_eq_true rfl, Nat.le_of_ble_eq_true rfl⟩ (Nat.le_of_ble_eq_true rfl) dX12_isPost_10 (s_X12_in H) (fun x2 h3 H => ?_)
  exact r_retz rfl H.1 dX12_isPost_13 H.2
def B_X12_seen_39 (Q : Int32 → AH → Prop) (K5 : Int32 → Int32 → AH → Prop) (v0 : Nat) (v1 : Int32) (v2 : Int32) (v4 : Int32) (h : AH) : Prop :=
  gR h v0 12 11 (fun a1 => lI h a1 v4 (fun x2 => K5 x2 (v4 + 1) h))
set_option maxRecDepth 100000 in
set_option maxHeartbeats 4000000 in
theorem b_X12_seen_39 {o : Om} {Q : Int32 → AH → Prop} {K5 : Int32 → Int32 → AH → Prop} {v0 : Nat} {v1 : Int32} {v2 : Int32} {v4 : Int32} {h : AH} (hK5 : ∀ w3 w4 h, K5 w3 w4 h → AQ o kX12_seen h 5 [(0, .ref v0), (1, .int v1), (2, .int v2), (3, .int w3), (4, .int w4)] [] (qI Q)) (H : B_X12_seen_39 Q K5 v0 v1 v2 v4 h) : AQ o kX12_seen h 39 [(0, .ref v0), (1, .int v1), (2, .int v2), (4, .int v4)] [] (qI Q) := by
  refine a_aload_n 0 rfl rfl dX12_seen_39 ?_
  refine r_gR fo_RX12_29_12 dX12_seen_40 H (fun a1 H => ?_)
  refine a_iload 3 rfl dX12_seen_43 ?_
  refine r_lI dX12_seen_45 H (fun x2 H => ?_)
  refine a_istore_n (lv1 := [(0, .ref v0), (1, .int v1), (2, .int v2), (3, .int x2), (4, .int v4)]) rfl [1, 2, 3, 0, 4] (by decide) rfl dX12_seen_46 ?_
  refine a_iinc (v := v4 + 1) (lv1 := [(0, .ref v0), (1, .int v1), (2, .int v2), (3, .int x2), (4, .int (v4 + 1))]) [1, 2, 3, 4, 0] 4 rfl (by decide) rfl rfl dX12_seen_47 ?_
  refine a_goto (tgt := 5) dX12_seen_50 (by decide) ?_
  exact hK5 _ _ _ H
def B_X12_seen_5 (Q : Int32 → AH → Prop) (K5 : Int32 → Int32 → AH → Prop) (v0 : Nat) (v1 : Int32) (v2 : Int32) (v3 : Int32) (v4 : Int32) (h : AH) : Prop :=
  gI h v0 12 10 (fun x1 => ((x1 ≤ v4 → Q v3 h) ∧ (¬ (x1 ≤ v4) → f_X12_spotOf v1 v4 h (fun x2 h3 => ((¬ (x2 = v2) → K5 v3 (v4 + 1) h3) ∧ (x2 = v2 → ((v3 = 0 → B_X12_seen_39 Q K5 v0 v1 v2 v4 h3) ∧ (¬ (v3 = 0) → gR h3 v0 12 11 (fun a4 => lI h3 a4 v4 (fun x5 => ((v3 ≤ x5 → K5 v3 (v4 + 1) h3) ∧ (¬ (v3 ≤ x5) → B_X12_seen_39 Q K5 v0 v1 v2 v4 h3))))))))))))
set_option maxRecDepth 100000 in
set_option maxHeartbeats 4000000 in
theorem b_X12_seen_5 {o : Om} {Q : Int32 → AH → Prop} {K5 : Int32 → Int32 → AH → Prop} {v0 : Nat} {v1 : Int32} {v2 : Int32} {v3 : Int32} {v4 : Int32} {h : AH} (hK5 : ∀ w3 w4 h, K5 w3 w4 h → AQ o kX12_seen h 5 [(0, .ref v0), (1, .int v1), (2, .int v2), (3, .int w3), (4, .int w4)] [] (qI Q)) (H : B_X12_seen_5 Q K5 v0 v1 v2 v3 v4 h) : AQ o kX12_seen h 5 [(0, .ref v0), (1, .int v1), (2, .int v2), (3, .int v3), (4, .int v4)] [] (qI Q) := by
  refine a_iload 4 rfl dX12_seen_5 ?_
  refine a_aload_n 0 rfl rfl dX12_seen_7 ?_
  refine r_gI fo_RX12_178_12 dX12_seen_8 H (fun x1 H => ?_)
  refine a_icmp_ge (tgt := 53) dX12_seen_11 (by decide) (fun c => ?_) (fun c => ?_)
  · have H := H.1 (c)
    refine a_iload_n 3 rfl rfl dX12_seen_53 ?_
    exact r_reti rfl dX12_seen_54 H
  · have H := H.2 (c)
    refine a_iload_n 1 rfl rfl dX12_seen_14 ?_
    refine a_iload 4 rfl dX12_seen_15 ?_
    refine r_Si (av := [.int v1, .int v4]) (rest := []) rfl rfl okX12_spotOf wd1286 wd1287 ⟨Nat.le_of_ble_eq_true rfl, Nat.le_of_ble_eq_true rfl⟩ (Nat.le_of_ble_eq_true rfl) dX12_seen_17 (s_X12_spotOf H) (fun x2 h3 H => ?_)
    refine a_iload_n 2 rfl rfl dX12_seen_20 ?_
    refine a_icmp_ne (tgt := 47) dX12_seen_21 (by decide) (fun c => ?_) (fun c => ?_)
    · have H := H.1 (c)
      refine a_iinc (v := v4 + 1) (lv1 := [(0, .ref v0), (1, .int v1), (2, .int v2), (3, .int v3), (4, .int (v4 + 1))]) [1, 2, 3, 4, 0] 4 rfl (by decide) rfl rfl dX12_seen_47 ?_
      refine a_goto (tgt := 5) dX12_seen_50 (by decide) ?_
      exact hK5 _ _ _ H
    · have H := H.2 (c)
      refine a_iload_n 3 rfl rfl dX12_seen_24 ?_
      refine a_if_eq (tgt := 39) dX12_seen_25 (by decide) (fun c => ?_) (fun c => ?_)
      · have H := H.1 (c)
        refine AQ.sub (lv1 := [(0, .ref v0), (1, .int v1), (2, .int v2), (4, .int v4)]) [0, 1, 2, 4] rfl ?_
        exact b_X12_seen_39 hK5 H
      · have H := H.2 (c)
        refine a_aload_n 0 rfl rfl dX12_seen_28 ?_
        refine r_gR fo_RX12_29_12 dX12_seen_29 H (fun a4 H => ?_)
        refine a_iload 4 rfl dX12_seen_32 ?_
        refine r_lI dX12_seen_34 H (fun x5 H => ?_)
        refine a_iload_n 3 rfl rfl dX12_seen_35 ?_
        refine a_icmp_ge (tgt := 47) dX12_seen_36 (by decide) (fun c => ?_) (fun c => ?_)
        · have H := H.1 (c)
          refine a_iinc (v := v4 + 1) (lv1 := [(0, .ref v0), (1, .int v1), (2, .int v2), (3, .int v3), (4, .int (v4 + 1))]) [1, 2, 3, 4, 0] 4 rfl (by decide) rfl rfl dX12_seen_47 ?_
          refine a_goto (tgt := 5) dX12_seen_50 (by decide) ?_
          exact hK5 _ _ _ H
        · have H := H.2 (c)
          refine AQ.sub (lv1 := [(0, .ref v0), (1, .int v1), (2, .int v2), (4, .int v4)]) [0, 1, 2, 4] rfl ?_
          exact b_X12_seen_39 hK5 H
def L_X12_seen_5 (Q : Int32 → AH → Prop)  (v0 : Nat) (v1 : Int32) (v2 : Int32) : Nat → Int32 → Int32 → AH → Prop
  | 0, _, _, _ => False
  | n + 1, v3, v4, h => B_X12_seen_5 Q (L_X12_seen_5 Q  v0 v1 v2 n) v0 v1 v2 v3 v4 h
theorem l_X12_seen_5 {o : Om} {Q : Int32 → AH → Prop}  {v0 : Nat} {v1 : Int32} {v2 : Int32}  : ∀ (n : Nat) (v3 : Int32) (v4 : Int32) (h : AH), L_X12_seen_5 Q  v0 v1 v2 n v3 v4 h → AQ o kX12_seen h 5 [(0, .ref v0), (1, .int v1), (2, .int v2), (3, .int v3), (4, .int v4)] [] (qI Q) := by
  intro n
  induction n with
  | zero => intro v3 v4 h H; exact H.elim
  | succ n ih => intro v3 v4 h H; exact b_X12_seen_5 ih H
def f_X12_seen (v0 : Nat) (v1 : Int32) (v2 : Int32) (h : AH) (Q : Int32 → AH → Prop) : Prop :=
  ∃ n, L_X12_seen_5 Q  v0 v1 v2 n (0 : Int32) (0 : Int32) h
set_option maxRecDepth 100000 in
set_option maxHeartbeats 4000000 in
theorem s_X12_seen {o : Om} {v0 : Nat} {v1 : Int32} {v2 : Int32} {h : AH} {Q : Int32 → AH → Prop} (H : f_X12_seen v0 v1 v2 h Q) : MQ' o kX12_seen [.ref v0, .int v1, .int v2] h (qI Q) := by
  refine MQ'.of (by decide +kernel) (Nat.le_of_ble_eq_true rfl) ?_
  show AQ o kX12_seen h 0 [(0, .ref v0), (1, .int v1), (2, .int v2)] [] (qI Q)
  refine a_iconst (v := (0 : Int32)) (by decide) dX12_seen_0 ?_
  refine a_istore_n (lv1 := [(0, .ref v0), (1, .int v1), (2, .int v2), (3, .int (0 : Int32))]) rfl [1, 2, 3, 0] (by decide) rfl dX12_seen_1 ?_
  refine a_iconst (v := (0 : Int32)) (by decide) dX12_seen_2 ?_
  refine a_istore (lv1 := [(0, .ref v0), (1, .int v1), (2, .int v2), (3, .int (0 : Int32)), (4, .int (0 : Int32))]) [1, 2, 3, 4, 0] (by decide) rfl dX12_seen_3 ?_
  obtain ⟨n, H⟩ := H
  exact l_X12_seen_5  n _ _ _ H
def B_X12_sees_17 (Q : Int32 → AH → Prop) (K17 : Int32 → AH → Prop) (v0 : Nat) (v1 : Int32) (v2 : Int32) (h : AH) : Prop :=
  gI h v0 12 10 (fun x1 => ((x1 ≤ v2 → gI h v0 12 17 (fun x2 => isO h v0 12 ∧ f_X12_seen v0 x2 v1 h (fun x3 h4 => Q x3 h4))) ∧ (¬ (x1 ≤ v2) → gI h v0 12 4 (fun x5 => gI h v0 12 17 (fun x6 => f_X12_spotOf x6 v2 h (fun x7 h8 => ((¬ (x7 = v1) → pF h8 v0 12 4 (.int (x5 + (0 : Int32))) (fun h9 => K17 (v2 + 1) h9)) ∧ (x7 = v1 → pF h8 v0 12 4 (.int (x5 + (1 : Int32))) (fun h10 => K17 (v2 + 1) h10)))))))))
set_option maxRecDepth 100000 in
set_option maxHeartbeats 4000000 in
theorem b_X12_sees_17 {o : Om} {Q : Int32 → AH → Prop} {K17 : Int32 → AH → Prop} {v0 : Nat} {v1 : Int32} {v2 : Int32} {h : AH} (hK17 : ∀ w2 h, K17 w2 h → AQ o kX12_sees h 17 [(0, .ref v0), (1, .int v1), (2, .int w2)] [] (qI Q)) (H : B_X12_sees_17 Q K17 v0 v1 v2 h) : AQ o kX12_sees h 17 [(0, .ref v0), (1, .int v1), (2, .int v2)] [] (qI Q) := by
  refine a_iload_n 2 rfl rfl dX12_sees_17 ?_
  refine a_aload_n 0 rfl rfl dX12_sees_18 ?_
  refine r_gI fo_RX12_178_12 dX12_sees_19 H (fun x1 H => ?_)
  refine a_icmp_ge (tgt := 57) dX12_sees_22 (by decide) (fun c => ?_) (fun c => ?_)
  · have H := H.1 (c)
    refine a_aload_n 0 rfl rfl dX12_sees_57 ?_
    refine a_aload_n 0 rfl rfl dX12_sees_58 ?_
    refine r_gI fo_RX12_184_12 dX12_sees_59 H (fun x2 H => ?_)
    refine a_iload_n 1 rfl rfl dX12_sees_62 ?_
    refine r_Vi (q := (RX12, TX12, 51)) (av := [.int x2, .int v1]) (rest := []) rfl rfl okX12_seen H.1 rfl rfl wd1395 wd1397 wp55 ⟨Nat.le_of_ble_eq_true rfl, Nat.le_of_ble_eq_true rfl⟩ (Nat.le_of_ble_eq_true rfl) dX12_sees_63 (s_X12_seen H.2) (fun x3 h4 H => ?_)
    exact r_reti rfl dX12_sees_66 H
  · have H := H.2 (c)
    refine a_aload_n 0 rfl rfl dX12_sees_25 ?_
    refine a_dup rfl dX12_sees_26 ?_
    refine r_gI fo_RX12_104_12 dX12_sees_27 H (fun x5 H => ?_)
    refine a_aload_n 0 rfl rfl dX12_sees_30 ?_
    refine r_gI fo_RX12_184_12 dX12_sees_31 H (fun x6 H => ?_)
    refine a_iload_n 2 rfl rfl dX12_sees_34 ?_
    refine r_Si (av := [.int x6, .int v2]) (rest := [.int x5, .ref v0]) rfl rfl okX12_spotOf wd1286 wd1287 ⟨Nat.le_of_ble_eq_true rfl, Nat.le_of_ble_eq_true rfl⟩ (Nat.le_of_ble_eq_true rfl) dX12_sees_35 (s_X12_spotOf H) (fun x7 h8 H => ?_)
    refine a_iload_n 1 rfl rfl dX12_sees_38 ?_
    refine a_icmp_ne (tgt := 46) dX12_sees_39 (by decide) (fun c => ?_) (fun c => ?_)
    · have H := H.1 (c)
      refine a_iconst (v := (0 : Int32)) (by decide) dX12_sees_46 ?_
      refine a_iadd dX12_sees_47 ?_
      refine r_pF (po_RX12_104_12 _) (fun _ => rfl) (fun _ => rfl) dX12_sees_48 H (fun h9 H => ?_)
      refine a_iinc (v := v2 + 1) (lv1 := [(0, .ref v0), (1, .int v1), (2, .int (v2 + 1))]) [1, 2, 0] 2 rfl (by decide) rfl rfl dX12_sees_51 ?_
      refine a_goto (tgt := 17) dX12_sees_54 (by decide) ?_
      exact hK17 _ _ H
    · have H := H.2 (c)
      refine a_iconst (v := (1 : Int32)) (by decide) dX12_sees_42 ?_
      refine a_goto (tgt := 47) dX12_sees_43 (by decide) ?_
      refine a_iadd dX12_sees_47 ?_
      refine r_pF (po_RX12_104_12 _) (fun _ => rfl) (fun _ => rfl) dX12_sees_48 H (fun h10 H => ?_)
      refine a_iinc (v := v2 + 1) (lv1 := [(0, .ref v0), (1, .int v1), (2, .int (v2 + 1))]) [1, 2, 0] 2 rfl (by decide) rfl rfl dX12_sees_51 ?_
      refine a_goto (tgt := 17) dX12_sees_54 (by decide) ?_
      exact hK17 _ _ H
def L_X12_sees_17 (Q : Int32 → AH → Prop)  (v0 : Nat) (v1 : Int32) : Nat → Int32 → AH → Prop
  | 0, _, _ => False
  | n + 1, v2, h => B_X12_sees_17 Q (L_X12_sees_17 Q  v0 v1 n) v0 v1 v2 h
theorem l_X12_sees_17 {o : Om} {Q : Int32 → AH → Prop}  {v0 : Nat} {v1 : Int32}  : ∀ (n : Nat) (v2 : Int32) (h : AH), L_X12_sees_17 Q  v0 v1 n v2 h → AQ o kX12_sees h 17 [(0, .ref v0), (1, .int v1), (2, .int v2)] [] (qI Q) := by
  intro n
  induction n with
  | zero => intro v2 h H; exact H.elim
  | succ n ih => intro v2 h H; exact b_X12_sees_17 ih H
def f_X12_sees (v0 : Nat) (v1 : Int32) (h : AH) (Q : Int32 → AH → Prop) : Prop :=
  isO h v0 12 ∧ f_X12_isPost v0 v1 h (fun x1 h2 => ((¬ (x1 = 0) → pF h2 v0 12 4 (.int (0 : Int32)) (fun h3 => ∃ n, L_X12_sees_17 Q  v0 v1 n (0 : Int32) h3)) ∧ (x1 = 0 → Q (-1 : Int32) h2)))
set_option maxRecDepth 100000 in
set_option maxHeartbeats 4000000 in
theorem s_X12_sees {o : Om} {v0 : Nat} {v1 : Int32} {h : AH} {Q : Int32 → AH → Prop} (H : f_X12_sees v0 v1 h Q) : MQ' o kX12_sees [.ref v0, .int v1] h (qI Q) := by
  refine MQ'.of (by decide +kernel) (Nat.le_of_ble_eq_true rfl) ?_
  show AQ o kX12_sees h 0 [(0, .ref v0), (1, .int v1)] [] (qI Q)
  refine a_aload_n 0 rfl rfl dX12_sees_0 ?_
  refine a_iload_n 1 rfl rfl dX12_sees_1 ?_
  refine r_Vi (q := (RX12, TX12, 51)) (av := [.int v1]) (rest := []) rfl rfl okX12_isPost H.1 rfl rfl wd1391 wd1393 wp54 ⟨Nat.le_of_ble_eq_true rfl, Nat.le_of_ble_eq_true rfl⟩ (Nat.le_of_ble_eq_true rfl) dX12_sees_2 (s_X12_isPost H.2) (fun x1 h2 H => ?_)
  refine a_if_ne (tgt := 10) dX12_sees_5 (by decide) (fun c => ?_) (fun c => ?_)
  · have H := H.1 (c)
    refine a_aload_n 0 rfl rfl dX12_sees_10 ?_
    refine a_iconst (v := (0 : Int32)) (by decide) dX12_sees_11 ?_
    refine r_pF (po_RX12_104_12 _) (fun _ => rfl) (fun _ => rfl) dX12_sees_12 H (fun h3 H => ?_)
    refine a_iconst (v := (0 : Int32)) (by decide) dX12_sees_15 ?_
    refine a_istore_n (lv1 := [(0, .ref v0), (1, .int v1), (2, .int (0 : Int32))]) rfl [1, 2, 0] (by decide) rfl dX12_sees_16 ?_
    obtain ⟨n, H⟩ := H
    exact l_X12_sees_17  n _ _ H
  · have H := H.2 (c)
    refine a_iconst (v := (-1 : Int32)) (by decide) dX12_sees_8 ?_
    exact r_reti rfl dX12_sees_9 H
def B_X11_isSeenFrom_2 (Q : Int32 → AH → Prop) (K2 : Int32 → AH → Prop) (v0 : Nat) (v1 : Nat) (v2 : Int32) (v3 : Int32) (h : AH) : Prop :=
  gI h v1 6 1 (fun x1 => ((x1 ≤ v3 → Q (1 : Int32) h) ∧ (¬ (x1 ≤ v3) → gR h v0 11 8 (fun a2 => gI h v0 11 9 (fun x3 => isO h a2 5 ∧ f_X5_leastAt a2 x3 (v2 + v3) h (fun x4 h5 => isO h5 v1 6 ∧ f_X6_get v1 v3 h5 (fun x6 h7 => ((x4 = x6 → K2 (v3 + 1) h7) ∧ (¬ (x4 = x6) → Q (0 : Int32) h7)))))))))
set_option maxRecDepth 100000 in
set_option maxHeartbeats 4000000 in
theorem b_X11_isSeenFrom_2 {o : Om} {Q : Int32 → AH → Prop} {K2 : Int32 → AH → Prop} {v0 : Nat} {v1 : Nat} {v2 : Int32} {v3 : Int32} {h : AH} (hK2 : ∀ w3 h, K2 w3 h → AQ o kX11_isSeenFrom h 2 [(0, .ref v0), (1, .ref v1), (2, .int v2), (3, .int w3)] [] (qI Q)) (H : B_X11_isSeenFrom_2 Q K2 v0 v1 v2 v3 h) : AQ o kX11_isSeenFrom h 2 [(0, .ref v0), (1, .ref v1), (2, .int v2), (3, .int v3)] [] (qI Q) := by
  refine a_iload_n 3 rfl rfl dX11_isSeenFrom_2 ?_
  refine a_aload_n 1 rfl rfl dX11_isSeenFrom_3 ?_
  refine r_gI fo_RX11_130_6 dX11_isSeenFrom_4 H (fun x1 H => ?_)
  refine a_icmp_ge (tgt := 40) dX11_isSeenFrom_7 (by decide) (fun c => ?_) (fun c => ?_)
  · have H := H.1 (c)
    refine a_iconst (v := (1 : Int32)) (by decide) dX11_isSeenFrom_40 ?_
    exact r_retz rfl bl_1 dX11_isSeenFrom_41 H
  · have H := H.2 (c)
    refine a_aload_n 0 rfl rfl dX11_isSeenFrom_10 ?_
    refine r_gR fo_RX11_60_11 dX11_isSeenFrom_11 H (fun a2 H => ?_)
    refine a_aload_n 0 rfl rfl dX11_isSeenFrom_14 ?_
    refine r_gI fo_RX11_34_11 dX11_isSeenFrom_15 H (fun x3 H => ?_)
    refine a_iload_n 2 rfl rfl dX11_isSeenFrom_18 ?_
    refine a_iload_n 3 rfl rfl dX11_isSeenFrom_19 ?_
    refine a_iadd dX11_isSeenFrom_20 ?_
    refine r_Vi (q := (RX5, TX5, 10)) (av := [.int x3, .int (v2 + v3)]) (rest := []) rfl rfl okX5_leastAt H.1 rfl rfl wd759 wd760 wd761 ⟨Nat.le_of_ble_eq_true rfl, Nat.le_of_ble_eq_true rfl⟩ (Nat.le_of_ble_eq_true rfl) dX11_isSeenFrom_21 (s_X5_leastAt H.2) (fun x4 h5 H => ?_)
    refine a_aload_n 1 rfl rfl dX11_isSeenFrom_24 ?_
    refine a_iload_n 3 rfl rfl dX11_isSeenFrom_25 ?_
    refine r_Vi (q := (RX6, TX6, 2)) (av := [.int v3]) (rest := [.int x4]) rfl rfl okX6_get H.1 rfl rfl wd295 wd296 wd297 ⟨Nat.le_of_ble_eq_true rfl, Nat.le_of_ble_eq_true rfl⟩ (Nat.le_of_ble_eq_true rfl) dX11_isSeenFrom_26 (s_X6_get H.2) (fun x6 h7 H => ?_)
    refine a_icmp_eq (tgt := 34) dX11_isSeenFrom_29 (by decide) (fun c => ?_) (fun c => ?_)
    · have H := H.1 (c)
      refine a_iinc (v := v3 + 1) (lv1 := [(0, .ref v0), (1, .ref v1), (2, .int v2), (3, .int (v3 + 1))]) [1, 2, 3, 0] 3 rfl (by decide) rfl rfl dX11_isSeenFrom_34 ?_
      refine a_goto (tgt := 2) dX11_isSeenFrom_37 (by decide) ?_
      exact hK2 _ _ H
    · have H := H.2 (c)
      refine a_iconst (v := (0 : Int32)) (by decide) dX11_isSeenFrom_32 ?_
      exact r_retz rfl bl_0 dX11_isSeenFrom_33 H
def L_X11_isSeenFrom_2 (Q : Int32 → AH → Prop)  (v0 : Nat) (v1 : Nat) (v2 : Int32) : Nat → Int32 → AH → Prop
  | 0, _, _ => False
  | n + 1, v3, h => B_X11_isSeenFrom_2 Q (L_X11_isSeenFrom_2 Q  v0 v1 v2 n) v0 v1 v2 v3 h
theorem l_X11_isSeenFrom_2 {o : Om} {Q : Int32 → AH → Prop}  {v0 : Nat} {v1 : Nat} {v2 : Int32}  : ∀ (n : Nat) (v3 : Int32) (h : AH), L_X11_isSeenFrom_2 Q  v0 v1 v2 n v3 h → AQ o kX11_isSeenFrom h 2 [(0, .ref v0), (1, .ref v1), (2, .int v2), (3, .int v3)] [] (qI Q) := by
  intro n
  induction n with
  | zero => intro v3 h H; exact H.elim
  | succ n ih => intro v3 h H; exact b_X11_isSeenFrom_2 ih H
def f_X11_isSeenFrom (v0 : Nat) (v1 : Nat) (v2 : Int32) (h : AH) (Q : Int32 → AH → Prop) : Prop :=
  ∃ n, L_X11_isSeenFrom_2 Q  v0 v1 v2 n (0 : Int32) h
set_option maxRecDepth 100000 in
set_option maxHeartbeats 4000000 in
theorem s_X11_isSeenFrom {o : Om} {v0 : Nat} {v1 : Nat} {v2 : Int32} {h : AH} {Q : Int32 → AH → Prop} (H : f_X11_isSeenFrom v0 v1 v2 h Q) : MQ' o kX11_isSeenFrom [.ref v0, .ref v1, .int v2] h (qI Q) := by
  refine MQ'.of (by decide +kernel) (Nat.le_of_ble_eq_true rfl) ?_
  show AQ o kX11_isSeenFrom h 0 [(0, .ref v0), (1, .ref v1), (2, .int v2)] [] (qI Q)
  refine a_iconst (v := (0 : Int32)) (by decide) dX11_isSeenFrom_0 ?_
  refine a_istore_n (lv1 := [(0, .ref v0), (1, .ref v1), (2, .int v2), (3, .int (0 : Int32))]) rfl [1, 2, 3, 0] (by decide) rfl dX11_isSeenFrom_1 ?_
  obtain ⟨n, H⟩ := H
  exact l_X11_isSeenFrom_2  n _ _ H
def B_X11_may_44 (Q : Int32 → AH → Prop)  (v0 : Nat) (h : AH) : Prop :=
  isO h v0 11 ∧ f_X11_found v0 (5 : Int32) h (fun x1 h2 => Q x1 h2)
set_option maxRecDepth 100000 in
set_option maxHeartbeats 4000000 in
theorem b_X11_may_44 {o : Om} {Q : Int32 → AH → Prop}  {v0 : Nat} {h : AH}  (H : B_X11_may_44 Q  v0 h) : AQ o kX11_may h 44 [(0, .ref v0)] [] (qI Q) := by
  refine a_aload_n 0 rfl rfl dX11_may_44 ?_
  refine a_iconst (v := (5 : Int32)) (by decide) dX11_may_45 ?_
  refine r_Vi (q := (RX11, TX11, 16)) (av := [.int (5 : Int32)]) (rest := []) rfl rfl okX11_found H.1 rfl rfl wd260 wd262 wp0 ⟨Nat.le_of_ble_eq_true rfl, Nat.le_of_ble_eq_true rfl⟩ (Nat.le_of_ble_eq_true rfl) dX11_may_46 (s_X11_found H.2) (fun x1 h2 H => ?_)
  exact r_reti rfl dX11_may_49 H
def B_X11_may_94 (Q : Int32 → AH → Prop) (K94 : Int32 → Int32 → AH → Prop) (v0 : Nat) (v3 : Nat) (v4 : Int32) (v5 : Int32) (h : AH) : Prop :=
  gI h v3 6 1 (fun x1 => gR h v0 11 8 (fun a2 => gI h a2 5 4 (fun x3 => ((x3 < (v5 + x1) → Q v4 h) ∧ (¬ (x3 < (v5 + x1)) → isO h v0 11 ∧ f_X11_isSeenFrom v0 v3 v5 h (fun x4 h5 => ((x4 = 0 → K94 v4 (v5 + 1) h5) ∧ (¬ (x4 = 0) → K94 (v4 ||| ((1 : Int32) <<< (v5 &&& 31))) (v5 + 1) h5))))))))
set_option maxRecDepth 100000 in
set_option maxHeartbeats 4000000 in
theorem b_X11_may_94 {o : Om} {Q : Int32 → AH → Prop} {K94 : Int32 → Int32 → AH → Prop} {v0 : Nat} {v3 : Nat} {v4 : Int32} {v5 : Int32} {h : AH} (hK94 : ∀ w4 w5 h, K94 w4 w5 h → AQ o kX11_may h 94 [(0, .ref v0), (3, .ref v3), (4, .int w4), (5, .int w5)] [] (qI Q)) (H : B_X11_may_94 Q K94 v0 v3 v4 v5 h) : AQ o kX11_may h 94 [(0, .ref v0), (3, .ref v3), (4, .int v4), (5, .int v5)] [] (qI Q) := by
  refine a_iload 3 rfl dX11_may_94 ?_
  refine a_aload_n 1 rfl rfl dX11_may_96 ?_
  refine r_gI fo_RX11_130_6 dX11_may_97 H (fun x1 H => ?_)
  refine a_iadd dX11_may_100 ?_
  refine a_aload_n 0 rfl rfl dX11_may_101 ?_
  refine r_gR fo_RX11_60_11 dX11_may_102 H (fun a2 H => ?_)
  refine r_gI fo_RX11_198_5 dX11_may_105 H (fun x3 H => ?_)
  refine a_icmp_gt (tgt := 136) dX11_may_108 (by decide) (fun c => ?_) (fun c => ?_)
  · have H := H.1 (c)
    refine a_iload 2 rfl dX11_may_136 ?_
    exact r_reti rfl dX11_may_138 H
  · have H := H.2 (c)
    refine a_aload_n 0 rfl rfl dX11_may_111 ?_
    refine a_aload_n 1 rfl rfl dX11_may_112 ?_
    refine a_iload 3 rfl dX11_may_113 ?_
    refine r_Vi (q := (RX11, TX11, 16)) (av := [.ref v3, .int v5]) (rest := []) rfl rfl okX11_isSeenFrom H.1 rfl rfl wd767 wd769 wp16 ⟨Nat.le_of_ble_eq_true rfl, Nat.le_of_ble_eq_true rfl⟩ (Nat.le_of_ble_eq_true rfl) dX11_may_115 (s_X11_isSeenFrom H.2) (fun x4 h5 H => ?_)
    refine a_if_eq (tgt := 130) dX11_may_118 (by decide) (fun c => ?_) (fun c => ?_)
    · have H := H.1 (c)
      refine a_iinc (v := v5 + 1) (lv1 := [(0, .ref v0), (3, .ref v3), (4, .int v4), (5, .int (v5 + 1))]) [1, 2, 3, 0] 3 rfl (by decide) rfl rfl dX11_may_130 ?_
      refine a_goto (tgt := 94) dX11_may_133 (by decide) ?_
      exact hK94 _ _ _ H
    · have H := H.2 (c)
      refine a_iload 2 rfl dX11_may_121 ?_
      refine a_iconst (v := (1 : Int32)) (by decide) dX11_may_123 ?_
      refine a_iload 3 rfl dX11_may_124 ?_
      refine a_ishl dX11_may_126 ?_
      refine a_ior dX11_may_127 ?_
      refine a_istore (lv1 := [(0, .ref v0), (3, .ref v3), (4, .int (v4 ||| ((1 : Int32) <<< (v5 &&& 31)))), (5, .int v5)]) [1, 2, 0, 3] (by decide) rfl dX11_may_128 ?_
      refine a_iinc (v := v5 + 1) (lv1 := [(0, .ref v0), (3, .ref v3), (4, .int (v4 ||| ((1 : Int32) <<< (v5 &&& 31)))), (5, .int (v5 + 1))]) [1, 2, 3, 0] 3 rfl (by decide) rfl rfl dX11_may_130 ?_
      refine a_goto (tgt := 94) dX11_may_133 (by decide) ?_
      exact hK94 _ _ _ H
def L_X11_may_94 (Q : Int32 → AH → Prop)  (v0 : Nat) (v3 : Nat) : Nat → Int32 → Int32 → AH → Prop
  | 0, _, _, _ => False
  | n + 1, v4, v5, h => B_X11_may_94 Q (L_X11_may_94 Q  v0 v3 n) v0 v3 v4 v5 h
theorem l_X11_may_94 {o : Om} {Q : Int32 → AH → Prop}  {v0 : Nat} {v3 : Nat}  : ∀ (n : Nat) (v4 : Int32) (v5 : Int32) (h : AH), L_X11_may_94 Q  v0 v3 n v4 v5 h → AQ o kX11_may h 94 [(0, .ref v0), (3, .ref v3), (4, .int v4), (5, .int v5)] [] (qI Q) := by
  intro n
  induction n with
  | zero => intro v4 v5 h H; exact H.elim
  | succ n ih => intro v4 v5 h H; exact b_X11_may_94 ih H
def B_X11_may_53 (Q : Int32 → AH → Prop) (K53 : Int32 → AH → Prop) (v0 : Nat) (v3 : Nat) (v4 : Int32) (h : AH) : Prop :=
  gI h v3 6 1 (fun x1 => ((x1 ≤ v4 → ∃ n, L_X11_may_94 Q  v0 v3 n (0 : Int32) (0 : Int32) h) ∧ (¬ (x1 ≤ v4) → isO h v3 6 ∧ f_X6_get v3 v4 h (fun x2 h3 => f_X11_isBelow x2 (10 : Int32) h3 (fun x4 h5 => ((¬ (x4 = 0) → K53 (v4 + 1) h5) ∧ (x4 = 0 → isO h5 v0 11 ∧ f_X11_found v0 (3 : Int32) h5 (fun x6 h7 => Q x6 h7))))))))
set_option maxRecDepth 100000 in
set_option maxHeartbeats 4000000 in
theorem b_X11_may_53 {o : Om} {Q : Int32 → AH → Prop} {K53 : Int32 → AH → Prop} {v0 : Nat} {v3 : Nat} {v4 : Int32} {h : AH} (hK53 : ∀ w4 h, K53 w4 h → AQ o kX11_may h 53 [(0, .ref v0), (3, .ref v3), (4, .int w4)] [] (qI Q)) (H : B_X11_may_53 Q K53 v0 v3 v4 h) : AQ o kX11_may h 53 [(0, .ref v0), (3, .ref v3), (4, .int v4)] [] (qI Q) := by
  refine a_iload 2 rfl dX11_may_53 ?_
  refine a_aload_n 1 rfl rfl dX11_may_55 ?_
  refine r_gI fo_RX11_130_6 dX11_may_56 H (fun x1 H => ?_)
  refine a_icmp_ge (tgt := 88) dX11_may_59 (by decide) (fun c => ?_) (fun c => ?_)
  · have H := H.1 (c)
    refine a_iconst (v := (0 : Int32)) (by decide) dX11_may_88 ?_
    refine a_istore (lv1 := [(0, .ref v0), (3, .ref v3), (4, .int (0 : Int32))]) [1, 2, 0] (by decide) rfl dX11_may_89 ?_
    refine a_iconst (v := (0 : Int32)) (by decide) dX11_may_91 ?_
    refine a_istore (lv1 := [(0, .ref v0), (3, .ref v3), (4, .int (0 : Int32)), (5, .int (0 : Int32))]) [1, 2, 3, 0] (by decide) rfl dX11_may_92 ?_
    obtain ⟨n, H⟩ := H
    exact l_X11_may_94  n _ _ _ H
  · have H := H.2 (c)
    refine a_aload_n 1 rfl rfl dX11_may_62 ?_
    refine a_iload 2 rfl dX11_may_63 ?_
    refine r_Vi (q := (RX6, TX6, 2)) (av := [.int v4]) (rest := []) rfl rfl okX6_get H.1 rfl rfl wd295 wd296 wd297 ⟨Nat.le_of_ble_eq_true rfl, Nat.le_of_ble_eq_true rfl⟩ (Nat.le_of_ble_eq_true rfl) dX11_may_65 (s_X6_get H.2) (fun x2 h3 H => ?_)
    refine a_bipush (v := (10 : Int32)) (by decide) dX11_may_68 ?_
    refine r_Si (av := [.int x2, .int (10 : Int32)]) (rest := []) rfl rfl okX11_isBelow wd257 wd258 ⟨Nat.le_of_ble_eq_true rfl, Nat.le_of_ble_eq_true rfl⟩ (Nat.le_of_ble_eq_true rfl) dX11_may_70 (s_X11_isBelow H) (fun x4 h5 H => ?_)
    refine a_if_ne (tgt := 82) dX11_may_73 (by decide) (fun c => ?_) (fun c => ?_)
    · have H := H.1 (c)
      refine a_iinc (v := v4 + 1) (lv1 := [(0, .ref v0), (3, .ref v3), (4, .int (v4 + 1))]) [1, 2, 0] 2 rfl (by decide) rfl rfl dX11_may_82 ?_
      refine a_goto (tgt := 53) dX11_may_85 (by decide) ?_
      exact hK53 _ _ H
    · have H := H.2 (c)
      refine a_aload_n 0 rfl rfl dX11_may_76 ?_
      refine a_iconst (v := (3 : Int32)) (by decide) dX11_may_77 ?_
      refine r_Vi (q := (RX11, TX11, 16)) (av := [.int (3 : Int32)]) (rest := []) rfl rfl okX11_found H.1 rfl rfl wd260 wd262 wp0 ⟨Nat.le_of_ble_eq_true rfl, Nat.le_of_ble_eq_true rfl⟩ (Nat.le_of_ble_eq_true rfl) dX11_may_78 (s_X11_found H.2) (fun x6 h7 H => ?_)
      exact r_reti rfl dX11_may_81 H
def L_X11_may_53 (Q : Int32 → AH → Prop)  (v0 : Nat) (v3 : Nat) : Nat → Int32 → AH → Prop
  | 0, _, _ => False
  | n + 1, v4, h => B_X11_may_53 Q (L_X11_may_53 Q  v0 v3 n) v0 v3 v4 h
theorem l_X11_may_53 {o : Om} {Q : Int32 → AH → Prop}  {v0 : Nat} {v3 : Nat}  : ∀ (n : Nat) (v4 : Int32) (h : AH), L_X11_may_53 Q  v0 v3 n v4 h → AQ o kX11_may h 53 [(0, .ref v0), (3, .ref v3), (4, .int v4)] [] (qI Q) := by
  intro n
  induction n with
  | zero => intro v4 h H; exact H.elim
  | succ n ih => intro v4 h H; exact b_X11_may_53 ih H
def f_X11_may (v0 : Nat) (v1 : Int32) (h : AH) (Q : Int32 → AH → Prop) : Prop :=
  gR h v0 11 0 (fun a1 => isO h v0 11 ∧ f_X11_refuseMissing v0 a1 v1 h (fun x2 h3 => ((x2 = 0 → gR h3 v0 11 0 (fun a4 => lQ h3 a4 2 v1 (fun a5 => gI h3 a5 6 1 (fun x6 => ((x6 = 0 → B_X11_may_44 Q  v0 h3) ∧ (¬ (x6 = 0) → gI h3 a5 6 1 (fun x7 => gR h3 v0 11 8 (fun a8 => gI h3 a8 5 4 (fun x9 => ((x7 ≤ x9 → ∃ n, L_X11_may_53 Q  v0 a5 n (0 : Int32) h3) ∧ (¬ (x7 ≤ x9) → B_X11_may_44 Q  v0 h3))))))))))) ∧ (¬ (x2 = 0) → Q x2 h3))))
set_option maxRecDepth 100000 in
set_option maxHeartbeats 4000000 in
theorem s_X11_may {o : Om} {v0 : Nat} {v1 : Int32} {h : AH} {Q : Int32 → AH → Prop} (H : f_X11_may v0 v1 h Q) : MQ' o kX11_may [.ref v0, .int v1] h (qI Q) := by
  refine MQ'.of (by decide +kernel) (Nat.le_of_ble_eq_true rfl) ?_
  show AQ o kX11_may h 0 [(0, .ref v0), (1, .int v1)] [] (qI Q)
  refine a_aload_n 0 rfl rfl dX11_may_0 ?_
  refine a_aload_n 0 rfl rfl dX11_may_1 ?_
  refine r_gR fo_RX11_11_11 dX11_may_2 H (fun a1 H => ?_)
  refine a_iload_n 1 rfl rfl dX11_may_5 ?_
  refine r_Vi (q := (RX11, TX11, 16)) (av := [.ref a1, .int v1]) (rest := []) rfl rfl okX11_refuseMissing H.1 rfl rfl wd283 wd285 wp2 ⟨Nat.le_of_ble_eq_true rfl, Nat.le_of_ble_eq_true rfl⟩ (Nat.le_of_ble_eq_true rfl) dX11_may_6 (s_X11_refuseMissing H.2) (fun x2 h3 H => ?_)
  refine a_istore_n (lv1 := [(0, .ref v0), (1, .int v1), (2, .int x2)]) rfl [1, 2, 0] (by decide) rfl dX11_may_9 ?_
  refine a_iload_n 2 rfl rfl dX11_may_10 ?_
  refine a_if_eq (tgt := 16) dX11_may_11 (by decide) (fun c => ?_) (fun c => ?_)
  · have H := H.1 (c)
    refine a_aload_n 0 rfl rfl dX11_may_16 ?_
    refine r_gR fo_RX11_11_11 dX11_may_17 H (fun a4 H => ?_)
    refine a_iload_n 1 rfl rfl dX11_may_20 ?_
    refine r_lQ (by decide) dX11_may_21 H (fun a5 H => ?_)
    refine a_astore_n (lv1 := [(0, .ref v0), (1, .int v1), (2, .int x2), (3, .ref a5)]) rfl [1, 2, 3, 0] (by decide) rfl dX11_may_22 ?_
    refine a_aload_n 3 rfl rfl dX11_may_23 ?_
    refine r_gI fo_RX11_130_6 dX11_may_24 H (fun x6 H => ?_)
    refine a_if_eq (tgt := 44) dX11_may_27 (by decide) (fun c => ?_) (fun c => ?_)
    · have H := H.1 (c)
      refine AQ.sub (lv1 := [(0, .ref v0)]) [0] rfl ?_
      exact b_X11_may_44  H
    · have H := H.2 (c)
      refine a_aload_n 3 rfl rfl dX11_may_30 ?_
      refine r_gI fo_RX11_130_6 dX11_may_31 H (fun x7 H => ?_)
      refine a_aload_n 0 rfl rfl dX11_may_34 ?_
      refine r_gR fo_RX11_60_11 dX11_may_35 H (fun a8 H => ?_)
      refine r_gI fo_RX11_198_5 dX11_may_38 H (fun x9 H => ?_)
      refine a_icmp_le (tgt := 50) dX11_may_41 (by decide) (fun c => ?_) (fun c => ?_)
      · have H := H.1 (c)
        refine a_iconst (v := (0 : Int32)) (by decide) dX11_may_50 ?_
        refine a_istore (lv1 := [(0, .ref v0), (1, .int v1), (2, .int x2), (3, .ref a5), (4, .int (0 : Int32))]) [1, 2, 3, 4, 0] (by decide) rfl dX11_may_51 ?_
        refine AQ.sub (lv1 := [(0, .ref v0), (3, .ref a5), (4, .int (0 : Int32))]) [0, 3, 4] rfl ?_
        obtain ⟨n, H⟩ := H
        exact l_X11_may_53  n _ _ H
      · have H := H.2 (c)
        refine AQ.sub (lv1 := [(0, .ref v0)]) [0] rfl ?_
        exact b_X11_may_44  H
  · have H := H.2 (c)
    refine a_iload_n 2 rfl rfl dX11_may_14 ?_
    exact r_reti rfl dX11_may_15 H
