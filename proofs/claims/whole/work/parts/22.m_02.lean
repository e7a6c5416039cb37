def B_X4_read_58 (Q : Int32 → AH → Prop) (K22 : Int32 → AH → Prop) (v0 : Nat) (v1 : Int32) (t0 : Int32) (h : AH) : Prop :=
  ((¬ (t0 = 0) → isO h v0 4 ∧ f_X4_skipBlanks v0  h (fun h1 => K22 (v1 + 1) h1)) ∧ (t0 = 0 → gI h v0 4 2 (fun x2 => Q x2 h)))
set_option maxRecDepth 100000 in
set_option maxHeartbeats 4000000 in
theorem b_X4_read_58 {o : Om} {Q : Int32 → AH → Prop} {K22 : Int32 → AH → Prop} {v0 : Nat} {v1 : Int32} {t0 : Int32} {h : AH} (hK22 : ∀ w1 h, K22 w1 h → AQ o kX4_read h 22 [(0, .ref v0), (1, .int w1)] [] (qI Q)) (H : B_X4_read_58 Q K22 v0 v1 t0 h) : AQ o kX4_read h 58 [(0, .ref v0), (1, .int v1)] [.int t0] (qI Q) := by
  refine a_istore_n (lv1 := [(0, .ref v0), (1, .int v1), (2, .int t0)]) rfl [1, 2, 0] (by decide) rfl dX4_read_58 ?_
  refine a_iload_n 2 rfl rfl dX4_read_59 ?_
  refine a_if_ne (tgt := 68) dX4_read_60 (by decide) (fun c => ?_) (fun c => ?_)
  · have H := H.1 (c)
    refine a_aload_n 0 rfl rfl dX4_read_68 ?_
    refine r_Vv (q := (RX4, TX4, 3)) (av := []) (rest := []) rfl rfl okX4_skipBlanks H.1 rfl rfl wd366 wd368 wp3 ⟨Nat.le_of_ble_eq_true rfl, Nat.le_of_ble_eq_true rfl⟩ (Nat.le_of_ble_eq_true rfl) dX4_read_69 (s_X4_skipBlanks H.2) (fun h1 H => ?_)
    refine a_iinc (v := v1 + 1) (lv1 := [(0, .ref v0), (1, .int (v1 + 1)), (2, .int t0)]) [1, 0, 2] 1 rfl (by decide) rfl rfl dX4_read_72 ?_
    refine a_goto (tgt := 22) dX4_read_75 (by decide) ?_
    refine AQ.sub (lv1 := [(0, .ref v0), (1, .int (v1 + 1))]) [0, 1] rfl ?_
    exact hK22 _ _ H
  · have H := H.2 (c)
    refine a_aload_n 0 rfl rfl dX4_read_63 ?_
    refine r_gI fo_RX4_18_4 dX4_read_64 H (fun x2 H => ?_)
    exact r_reti rfl dX4_read_67 H
def B_X4_read_22 (Q : Int32 → AH → Prop) (K22 : Int32 → AH → Prop) (v0 : Nat) (v1 : Int32) (h : AH) : Prop :=
  isO h v0 4 ∧ f_X4_sign v0  h (fun x1 h2 => ((x1 = (256 : Int32) → Q (-9 : Int32) h2) ∧ (¬ (x1 = (256 : Int32)) → (((60 : Int32) ≤ v1 → Q (-9 : Int32) h2) ∧ (¬ ((60 : Int32) ≤ v1) → isO h2 v0 4 ∧ f_X4_sign v0  h2 (fun x3 h4 => ((¬ (x3 = (109 : Int32)) → isO h4 v0 4 ∧ f_X4_readWalker v0  h4 (fun x5 h6 => B_X4_read_58 Q K22 v0 v1 x5 h6)) ∧ (x3 = (109 : Int32) → isO h4 v0 4 ∧ f_X4_readStone v0  h4 (fun x7 h8 => B_X4_read_58 Q K22 v0 v1 x7 h8)))))))))
set_option maxRecDepth 100000 in
set_option maxHeartbeats 4000000 in
theorem b_X4_read_22 {o : Om} {Q : Int32 → AH → Prop} {K22 : Int32 → AH → Prop} {v0 : Nat} {v1 : Int32} {h : AH} (hK22 : ∀ w1 h, K22 w1 h → AQ o kX4_read h 22 [(0, .ref v0), (1, .int w1)] [] (qI Q)) (H : B_X4_read_22 Q K22 v0 v1 h) : AQ o kX4_read h 22 [(0, .ref v0), (1, .int v1)] [] (qI Q) := by
  refine a_aload_n 0 rfl rfl dX4_read_22 ?_
  refine r_Vi (q := (RX4, TX4, 3)) (av := []) (rest := []) rfl rfl okX4_sign H.1 rfl rfl wd375 wd377 wp5 ⟨Nat.le_of_ble_eq_true rfl, Nat.le_of_ble_eq_true rfl⟩ (Nat.le_of_ble_eq_true rfl) dX4_read_23 (s_X4_sign H.2) (fun x1 h2 H => ?_)
  refine a_sipush (v := (256 : Int32)) (by decide) dX4_read_26 ?_
  refine a_icmp_eq (tgt := 78) dX4_read_29 (by decide) (fun c => ?_) (fun c => ?_)
  · have H := H.1 (c)
    refine a_bipush (v := (-9 : Int32)) (by decide) dX4_read_78 ?_
    exact r_reti rfl dX4_read_80 H
  · have H := H.2 (c)
    refine a_iload_n 1 rfl rfl dX4_read_32 ?_
    refine a_bipush (v := (60 : Int32)) (by decide) dX4_read_33 ?_
    refine a_icmp_ge (tgt := 78) dX4_read_35 (by decide) (fun c => ?_) (fun c => ?_)
    · have H := H.1 (c)
      refine a_bipush (v := (-9 : Int32)) (by decide) dX4_read_78 ?_
      exact r_reti rfl dX4_read_80 H
    · have H := H.2 (c)
      refine a_aload_n 0 rfl rfl dX4_read_38 ?_
      refine r_Vi (q := (RX4, TX4, 3)) (av := []) (rest := []) rfl rfl okX4_sign H.1 rfl rfl wd375 wd377 wp5 ⟨Nat.le_of_ble_eq_true rfl, Nat.le_of_ble_eq_true rfl⟩ (Nat.le_of_ble_eq_true rfl) dX4_read_39 (s_X4_sign H.2) (fun x3 h4 H => ?_)
      refine a_bipush (v := (109 : Int32)) (by decide) dX4_read_42 ?_
      refine a_icmp_ne (tgt := 54) dX4_read_44 (by decide) (fun c => ?_) (fun c => ?_)
      · have H := H.1 (c)
        refine a_aload_n 0 rfl rfl dX4_read_54 ?_
        refine r_Vi (q := (RX4, TX4, 3)) (av := []) (rest := []) rfl rfl okX4_readWalker H.1 rfl rfl wd409 wd411 wp9 ⟨Nat.le_of_ble_eq_true rfl, Nat.le_of_ble_eq_true rfl⟩ (Nat.le_of_ble_eq_true rfl) dX4_read_55 (s_X4_readWalker H.2) (fun x5 h6 H => ?_)
        exact b_X4_read_58 hK22 H
      · have H := H.2 (c)
        refine a_aload_n 0 rfl rfl dX4_read_47 ?_
        refine r_Vi (q := (RX4, TX4, 3)) (av := []) (rest := []) rfl rfl okX4_readStone H.1 rfl rfl wd388 wd390 wp8 ⟨Nat.le_of_ble_eq_true rfl, Nat.le_of_ble_eq_true rfl⟩ (Nat.le_of_ble_eq_true rfl) dX4_read_48 (s_X4_readStone H.2) (fun x7 h8 H => ?_)
        refine a_goto (tgt := 58) dX4_read_51 (by decide) ?_
        exact b_X4_read_58 hK22 H
def L_X4_read_22 (Q : Int32 → AH → Prop)  (v0 : Nat) : Nat → Int32 → AH → Prop
  | 0, _, _ => False
  | n + 1, v1, h => B_X4_read_22 Q (L_X4_read_22 Q  v0 n) v0 v1 h
theorem l_X4_read_22 {o : Om} {Q : Int32 → AH → Prop}  {v0 : Nat}  : ∀ (n : Nat) (v1 : Int32) (h : AH), L_X4_read_22 Q  v0 n v1 h → AQ o kX4_read h 22 [(0, .ref v0), (1, .int v1)] [] (qI Q) := by
  intro n
  induction n with
  | zero => intro v1 h H; exact H.elim
  | succ n ih => intro v1 h H; exact b_X4_read_22 ih H
def f_X4_read (v0 : Nat) (h : AH) (Q : Int32 → AH → Prop) : Prop :=
  isO h v0 4 ∧ f_X4_skipBlanks v0  h (fun h1 => isO h1 v0 4 ∧ f_X4_readPosts v0  h1 (fun x2 h3 => ((¬ (x2 = 0) → isO h3 v0 4 ∧ f_X4_skipBlanks v0  h3 (fun h4 => ∃ n, L_X4_read_22 Q  v0 n (0 : Int32) h4)) ∧ (x2 = 0 → gI h3 v0 4 2 (fun x5 => Q x5 h3)))))
set_option maxRecDepth 100000 in
set_option maxHeartbeats 4000000 in
theorem s_X4_read {o : Om} {v0 : Nat} {h : AH} {Q : Int32 → AH → Prop} (H : f_X4_read v0 h Q) : MQ' o kX4_read [.ref v0] h (qI Q) := by
  refine MQ'.of (by decide +kernel) (Nat.le_of_ble_eq_true rfl) ?_
  show AQ o kX4_read h 0 [(0, .ref v0)] [] (qI Q)
  refine a_aload_n 0 rfl rfl dX4_read_0 ?_
  refine r_Vv (q := (RX4, TX4, 3)) (av := []) (rest := []) rfl rfl okX4_skipBlanks H.1 rfl rfl wd366 wd368 wp3 ⟨Nat.le_of_ble_eq_true rfl, Nat.le_of_ble_eq_true rfl⟩ (Nat.le_of_ble_eq_true rfl) dX4_read_1 (s_X4_skipBlanks H.2) (fun h1 H => ?_)
  refine a_aload_n 0 rfl rfl dX4_read_4 ?_
  refine r_Vi (q := (RX4, TX4, 3)) (av := []) (rest := []) rfl rfl okX4_readPosts H.1 rfl rfl wd371 wd373 wp4 ⟨Nat.le_of_ble_eq_true rfl, Nat.le_of_ble_eq_true rfl⟩ (Nat.le_of_ble_eq_true rfl) dX4_read_5 (s_X4_readPosts H.2) (fun x2 h3 H => ?_)
  refine a_if_ne (tgt := 16) dX4_read_8 (by decide) (fun c => ?_) (fun c => ?_)
  · have H := H.1 (c)
    refine a_aload_n 0 rfl rfl dX4_read_16 ?_
    refine r_Vv (q := (RX4, TX4, 3)) (av := []) (rest := []) rfl rfl okX4_skipBlanks H.1 rfl rfl wd366 wd368 wp3 ⟨Nat.le_of_ble_eq_true rfl, Nat.le_of_ble_eq_true rfl⟩ (Nat.le_of_ble_eq_true rfl) dX4_read_17 (s_X4_skipBlanks H.2) (fun h4 H => ?_)
    refine a_iconst (v := (0 : Int32)) (by decide) dX4_read_20 ?_
    refine a_istore_n (lv1 := [(0, .ref v0), (1, .int (0 : Int32))]) rfl [1, 0] (by decide) rfl dX4_read_21 ?_
    obtain ⟨n, H⟩ := H
    exact l_X4_read_22  n _ _ H
  · have H := H.2 (c)
    refine a_aload_n 0 rfl rfl dX4_read_11 ?_
    refine r_gI fo_RX4_18_4 dX4_read_12 H (fun x5 H => ?_)
    exact r_reti rfl dX4_read_15 H
def f_X11_fault (v0 : Nat) (v1 : Int32) (h : AH) (Q : Int32 → AH → Prop) : Prop :=
  gR h v0 11 1 (fun a1 => isO h v0 11 ∧ f_X11_refuseMissing v0 a1 v1 h (fun x2 h3 => ((x2 = 0 → nO h3 4 3 dfX4 (fun a4 h5 => gR h5 v0 11 1 (fun a6 => lQ h5 a6 2 v1 (fun a7 => f_X4_init a4 a7 h5 (fun h8 => isO h8 a4 4 ∧ f_X4_read a4  h8 (fun x9 h10 => Q x9 h10)))))) ∧ (¬ (x2 = 0) → Q x2 h3))))
set_option maxRecDepth 100000 in
set_option maxHeartbeats 4000000 in
theorem s_X11_fault {o : Om} {v0 : Nat} {v1 : Int32} {h : AH} {Q : Int32 → AH → Prop} (H : f_X11_fault v0 v1 h Q) : MQ' o kX11_fault [.ref v0, .int v1] h (qI Q) := by
  refine MQ'.of (by decide +kernel) (Nat.le_of_ble_eq_true rfl) ?_
  show AQ o kX11_fault h 0 [(0, .ref v0), (1, .int v1)] [] (qI Q)
  refine a_aload_n 0 rfl rfl dX11_fault_0 ?_
  refine a_aload_n 0 rfl rfl dX11_fault_1 ?_
  refine r_gR fo_RX11_15_11 dX11_fault_2 H (fun a1 H => ?_)
  refine a_iload_n 1 rfl rfl dX11_fault_5 ?_
  refine r_Vi (q := (RX11, TX11, 16)) (av := [.ref a1, .int v1]) (rest := []) rfl rfl okX11_refuseMissing H.1 rfl rfl wd283 wd285 wp2 ⟨Nat.le_of_ble_eq_true rfl, Nat.le_of_ble_eq_true rfl⟩ (Nat.le_of_ble_eq_true rfl) dX11_fault_6 (s_X11_refuseMissing H.2) (fun x2 h3 H => ?_)
  refine a_istore_n (lv1 := [(0, .ref v0), (1, .int v1), (2, .int x2)]) rfl [1, 2, 0] (by decide) rfl dX11_fault_9 ?_
  refine a_iload_n 2 rfl rfl dX11_fault_10 ?_
  refine a_if_eq (tgt := 16) dX11_fault_11 (by decide) (fun c => ?_) (fun c => ?_)
  · have H := H.1 (c)
    refine r_nO (C := RX4) (T := TX4) (N := 3) (ty := tyX4) rfl inG4 tyX4_ok wd343 wd344 wd10 dfX4_ok dX11_fault_16 H (fun a4 h5 H => ?_)
    refine a_dup rfl dX11_fault_19 ?_
    refine a_aload_n 0 rfl rfl dX11_fault_20 ?_
    refine r_gR fo_RX11_15_11 dX11_fault_21 H (fun a6 H => ?_)
    refine a_iload_n 1 rfl rfl dX11_fault_24 ?_
    refine r_lQ (by decide) dX11_fault_25 H (fun a7 H => ?_)
    refine r_Iv (av := [.ref a7]) (rest := [.ref a4]) rfl rfl okX4_init wd345 wd346 rfl rfl ⟨Nat.le_of_ble_eq_true rfl, Nat.le_of_ble_eq_true rfl⟩ (Nat.le_of_ble_eq_true rfl) dX11_fault_26 (s_X4_init H) (fun h8 H => ?_)
    refine r_Vi (q := (RX4, TX4, 3)) (av := []) (rest := []) rfl rfl okX4_read H.1 rfl rfl wd362 wd363 wd364 ⟨Nat.le_of_ble_eq_true rfl, Nat.le_of_ble_eq_true rfl⟩ (Nat.le_of_ble_eq_true rfl) dX11_fault_29 (s_X4_read H.2) (fun x9 h10 H => ?_)
    exact r_reti rfl dX11_fault_32 H
  · have H := H.2 (c)
    refine a_iload_n 2 rfl rfl dX11_fault_14 ?_
    exact r_reti rfl dX11_fault_15 H
def f_X12_here (v0 : Nat) (v1 : Int32) (h : AH) (Q : Int32 → AH → Prop) : Prop :=
  gI h v0 12 27 (fun x1 => gR h v0 12 2 (fun a2 => lI h a2 v1 (fun x3 => ((x3 ≤ x1 → Q (256 : Int32) h) ∧ (¬ (x3 ≤ x1) → gR h v0 12 3 (fun a4 => gI h v0 12 27 (fun x5 => lI h a4 (((60 : Int32) * v1) + x5) (fun x6 => Q x6 h))))))))
set_option maxRecDepth 100000 in
set_option maxHeartbeats 4000000 in
theorem s_X12_here {o : Om} {v0 : Nat} {v1 : Int32} {h : AH} {Q : Int32 → AH → Prop} (H : f_X12_here v0 v1 h Q) : MQ' o kX12_here [.ref v0, .int v1] h (qI Q) := by
  refine MQ'.of (by decide +kernel) (Nat.le_of_ble_eq_true rfl) ?_
  show AQ o kX12_here h 0 [(0, .ref v0), (1, .int v1)] [] (qI Q)
  refine a_aload_n 0 rfl rfl dX12_here_0 ?_
  refine r_gI fo_RX12_137_12 dX12_here_1 H (fun x1 H => ?_)
  refine a_aload_n 0 rfl rfl dX12_here_4 ?_
  refine r_gR fo_RX12_16_12 dX12_here_5 H (fun a2 H => ?_)
  refine a_iload_n 1 rfl rfl dX12_here_8 ?_
  refine r_lI dX12_here_9 H (fun x3 H => ?_)
  refine a_icmp_ge (tgt := 30) dX12_here_10 (by decide) (fun c => ?_) (fun c => ?_)
  · have H := H.1 (c)
    refine a_sipush (v := (256 : Int32)) (by decide) dX12_here_30 ?_
    exact r_reti rfl dX12_here_33 H
  · have H := H.2 (c)
    refine a_aload_n 0 rfl rfl dX12_here_13 ?_
    refine r_gR fo_RX12_19_12 dX12_here_14 H (fun a4 H => ?_)
    refine a_bipush (v := (60 : Int32)) (by decide) dX12_here_17 ?_
    refine a_iload_n 1 rfl rfl dX12_here_19 ?_
    refine a_imul dX12_here_20 ?_
    refine a_aload_n 0 rfl rfl dX12_here_21 ?_
    refine r_gI fo_RX12_137_12 dX12_here_22 H (fun x5 H => ?_)
    refine a_iadd dX12_here_25 ?_
    refine r_lI dX12_here_26 H (fun x6 H => ?_)
    refine a_goto (tgt := 33) dX12_here_27 (by decide) ?_
    exact r_reti rfl dX12_here_33 H
def B_X12_skip_0 (Q : AH → Prop) (K0 : AH → Prop) (v0 : Nat) (v1 : Int32) (h : AH) : Prop :=
  isO h v0 12 ∧ f_X12_here v0 v1 h (fun x1 h2 => ((¬ (x1 = (32 : Int32)) → Q h2) ∧ (x1 = (32 : Int32) → gI h2 v0 12 27 (fun x3 => pF h2 v0 12 27 (.int (x3 + (1 : Int32))) (fun h4 => K0  h4)))))
set_option maxRecDepth 100000 in
set_option maxHeartbeats 4000000 in
theorem b_X12_skip_0 {o : Om} {Q : AH → Prop} {K0 : AH → Prop} {v0 : Nat} {v1 : Int32} {h : AH} (hK0 : ∀  h, K0  h → AQ o kX12_skip h 0 [(0, .ref v0), (1, .int v1)] [] (qV Q)) (H : B_X12_skip_0 Q K0 v0 v1 h) : AQ o kX12_skip h 0 [(0, .ref v0), (1, .int v1)] [] (qV Q) := by
  refine a_aload_n 0 rfl rfl dX12_skip_0 ?_
  refine a_iload_n 1 rfl rfl dX12_skip_1 ?_
  refine r_Vi (q := (RX12, TX12, 51)) (av := [.int v1]) (rest := []) rfl rfl okX12_here H.1 rfl rfl wd1251 wd1253 wp37 ⟨Nat.le_of_ble_eq_true rfl, Nat.le_of_ble_eq_true rfl⟩ (Nat.le_of_ble_eq_true rfl) dX12_skip_2 (s_X12_here H.2) (fun x1 h2 H => ?_)
  refine a_bipush (v := (32 : Int32)) (by decide) dX12_skip_5 ?_
  refine a_icmp_ne (tgt := 23) dX12_skip_7 (by decide) (fun c => ?_) (fun c => ?_)
  · have H := H.1 (c)
    exact r_retv rfl dX12_skip_23 H
  · have H := H.2 (c)
    refine a_aload_n 0 rfl rfl dX12_skip_10 ?_
    refine a_dup rfl dX12_skip_11 ?_
    refine r_gI fo_RX12_137_12 dX12_skip_12 H (fun x3 H => ?_)
    refine a_iconst (v := (1 : Int32)) (by decide) dX12_skip_15 ?_
    refine a_iadd dX12_skip_16 ?_
    refine r_pF (po_RX12_137_12 _) (fun _ => rfl) (fun _ => rfl) dX12_skip_17 H (fun h4 H => ?_)
    refine a_goto (tgt := 0) dX12_skip_20 (by decide) ?_
    exact hK0  _ H
def L_X12_skip_0 (Q : AH → Prop)  (v0 : Nat) (v1 : Int32) : Nat → AH → Prop
  | 0, _ => False
  | n + 1, h => B_X12_skip_0 Q (L_X12_skip_0 Q  v0 v1 n) v0 v1  h
theorem l_X12_skip_0 {o : Om} {Q : AH → Prop}  {v0 : Nat} {v1 : Int32}  : ∀ (n : Nat)  (h : AH), L_X12_skip_0 Q  v0 v1 n  h → AQ o kX12_skip h 0 [(0, .ref v0), (1, .int v1)] [] (qV Q) := by
  intro n
  induction n with
  | zero => intro  h H; exact H.elim
  | succ n ih => intro  h H; exact b_X12_skip_0 ih H
def f_X12_skip (v0 : Nat) (v1 : Int32) (h : AH) (Q : AH → Prop) : Prop :=
  ∃ n, L_X12_skip_0 Q  v0 v1 n  h
set_option maxRecDepth 100000 in
set_option maxHeartbeats 4000000 in
theorem s_X12_skip {o : Om} {v0 : Nat} {v1 : Int32} {h : AH} {Q : AH → Prop} (H : f_X12_skip v0 v1 h Q) : MQ' o kX12_skip [.ref v0, .int v1] h (qV Q) := by
  refine MQ'.of (by decide +kernel) (Nat.le_of_ble_eq_true rfl) ?_
  show AQ o kX12_skip h 0 [(0, .ref v0), (1, .int v1)] [] (qV Q)
  obtain ⟨n, H⟩ := H
  exact l_X12_skip_0  n  _ H
def f_X12_figure (v0 : Nat) (v1 : Int32) (v2 : Int32) (v3 : Int32) (v4 : Int32) (h : AH) (Q : Int32 → AH → Prop) : Prop :=
  isO h v0 12 ∧ f_X12_here v0 v1 h (fun x1 h2 => f_X12_in ((x1 - (48 : Int32)).toInt64) v2.toInt64 v3.toInt64 h2 (fun x3 h4 => ((x3 = 0 → Q (-1 : Int32) h4) ∧ (¬ (x3 = 0) → ((¬ ((x1 - (48 : Int32)) = v4) → gI h4 v0 12 27 (fun x5 => pF h4 v0 12 27 (.int (x5 + (1 : Int32))) (fun h6 => Q (x1 - (48 : Int32)) h6))) ∧ ((x1 - (48 : Int32)) = v4 → Q (-1 : Int32) h4))))))
set_option maxRecDepth 100000 in
set_option maxHeartbeats 4000000 in
theorem s_X12_figure {o : Om} {v0 : Nat} {v1 : Int32} {v2 : Int32} {v3 : Int32} {v4 : Int32} {h : AH} {Q : Int32 → AH → Prop} (H : f_X12_figure v0 v1 v2 v3 v4 h Q) : MQ' o kX12_figure [.ref v0, .int v1, .int v2, .int v3, .int v4] h (qI Q) := by
  refine MQ'.of (by decide +kernel) (Nat.le_of_ble_eq_true rfl) ?_
  show AQ o kX12_figure h 0 [(0, .ref v0), (1, .int v1), (2, .int v2), (3, .int v3), (4, .int v4)] [] (qI Q)
  refine a_aload_n 0 rfl rfl dX12_figure_0 ?_
  refine a_iload_n 1 rfl rfl dX12_figure_1 ?_
  refine r_Vi (q := (RX12, TX12, 51)) (av := [.int v1]) (rest := []) rfl rfl okX12_here H.1 rfl rfl wd1251 wd1253 wp37 ⟨Nat.le_of_ble_eq_true rfl, Nat.le_of_ble_eq_true rfl⟩ (Nat.le_of_ble_eq_true rfl) dX12_figure_2 (s_X12_here H.2) (fun x1 h2 H => ?_)
  refine a_bipush (v := (48 : Int32)) (by decide) dX12_figure_5 ?_
  refine a_isub dX12_figure_7 ?_
  refine a_istore (lv1 := [(0, .ref v0), (1, .int v1), (2, .int v2), (3, .int v3), (4, .int v4), (5, .int (x1 - (48 : Int32)))]) [1, 2, 3, 4, 5, 0] (by decide) rfl dX12_figure_8 ?_
  refine a_iload 5 rfl dX12_figure_10 ?_
  refine a_i2l dX12_figure_12 ?_
  refine a_iload_n 2 rfl rfl dX12_figure_13 ?_
  refine a_i2l dX12_figure_14 ?_
  refine a_iload_n 3 rfl rfl dX12_figure_15 ?_
  refine a_i2l dX12_figure_16 ?_
  refine r_Si (av := [.long ((x1 - (48 : Int32)).toInt64), .long v2.toInt64, .long v3.toInt64]) (rest := []) rfl rfl okX12_in wd1188 wd1189 ⟨Nat.le_of_ble_eq_true rfl, Nat.le_of_ble_eq_true rfl⟩ (Nat.le_of_ble_eq_true rfl) dX12_figure_17 (s_X12_in H) (fun x3 h4 H => ?_)
  refine a_if_eq (tgt := 30) dX12_figure_20 (by decide) (fun c => ?_) (fun c => ?_)
  · have H := H.1 (c)
    refine a_iconst (v := (-1 : Int32)) (by decide) dX12_figure_30 ?_
    exact r_reti rfl dX12_figure_31 H
  · have H := H.2 (c)
    refine a_iload 5 rfl dX12_figure_23 ?_
    refine a_iload 4 rfl dX12_figure_25 ?_
    refine a_icmp_ne (tgt := 32) dX12_figure_27 (by decide) (fun c => ?_) (fun c => ?_)
    · have H := H.1 (c)
      refine a_aload_n 0 rfl rfl dX12_figure_32 ?_
      refine a_dup rfl dX12_figure_33 ?_
      refine r_gI fo_RX12_137_12 dX12_figure_34 H (fun x5 H => ?_)
      refine a_iconst (v := (1 : Int32)) (by decide) dX12_figure_37 ?_
      refine a_iadd dX12_figure_38 ?_
      refine r_pF (po_RX12_137_12 _) (fun _ => rfl) (fun _ => rfl) dX12_figure_39 H (fun h6 H => ?_)
      refine a_iload 5 rfl dX12_figure_42 ?_
      exact r_reti rfl dX12_figure_44 H
    · have H := H.2 (c)
      refine a_iconst (v := (-1 : Int32)) (by decide) dX12_figure_30 ?_
      exact r_reti rfl dX12_figure_31 H
def B_X12_takesStone_38 (Q : Int32 → AH → Prop) (K38 : Int32 → AH → Prop) (v0 : Nat) (v1 : Int32) (v2 : Int32) (v3 : Int32) (h : AH) : Prop :=
  gI h v0 12 29 (fun x1 => ((x1 ≤ v3 → gR h v0 12 31 (fun a2 => gI h v0 12 29 (fun x3 => isO h v0 12 ∧ f_X12_figure v0 v1 (1 : Int32) (9 : Int32) (-1 : Int32) h (fun x4 h5 => sI h5 a2 x3 x4 (fun h6 => gR h6 v0 12 31 (fun a7 => gI h6 v0 12 29 (fun x8 => lI h6 a7 x8 (fun x9 => ((0 ≤ x9 → gR h6 v0 12 32 (fun a10 => gI h6 v0 12 29 (fun x11 => gI h6 v0 12 28 (fun x12 => isO h6 v0 12 ∧ f_X12_figure v0 v1 (0 : Int32) (x12 - (1 : Int32)) (-1 : Int32) h6 (fun x13 h14 => sI h14 a10 x11 x13 (fun h15 => gI h15 v0 12 29 (fun x16 => pF h15 v0 12 29 (.int (x16 + (1 : Int32))) (fun h17 => gR h17 v0 12 32 (fun a18 => gI h17 v0 12 29 (fun x19 => lI h17 a18 (x19 - (1 : Int32)) (fun x20 => ((x20 < 0 → Q (0 : Int32) h17) ∧ (¬ (x20 < 0) → Q (1 : Int32) h17))))))))))))) ∧ (¬ (0 ≤ x9) → Q (0 : Int32) h6)))))))))) ∧ (¬ (x1 ≤ v3) → gR h v0 12 31 (fun a21 => lI h a21 v3 (fun x22 => ((¬ (x22 = v2) → K38 (v3 + 1) h) ∧ (x22 = v2 → Q (0 : Int32) h)))))))
set_option maxRecDepth 100000 in
set_option maxHeartbeats 4000000 in
theorem b_X12_takesStone_38 {o : Om} {Q : Int32 → AH → Prop} {K38 : Int32 → AH → Prop} {v0 : Nat} {v1 : Int32} {v2 : Int32} {v3 : Int32} {h : AH} (hK38 : ∀ w3 h, K38 w3 h → AQ o kX12_takesStone h 38 [(0, .ref v0), (1, .int v1), (2, .int v2), (3, .int w3)] [] (qI Q)) (H : B_X12_takesStone_38 Q K38 v0 v1 v2 v3 h) : AQ o kX12_takesStone h 38 [(0, .ref v0), (1, .int v1), (2, .int v2), (3, .int v3)] [] (qI Q) := by
  refine a_iload_n 3 rfl rfl dX12_takesStone_38 ?_
  refine a_aload_n 0 rfl rfl dX12_takesStone_39 ?_
  refine r_gI fo_RX12_143_12 dX12_takesStone_40 H (fun x1 H => ?_)
  refine a_icmp_ge (tgt := 64) dX12_takesStone_43 (by decide) (fun c => ?_) (fun c => ?_)
  · have H := H.1 (c)
    refine a_aload_n 0 rfl rfl dX12_takesStone_64 ?_
    refine r_gR fo_RX12_65_12 dX12_takesStone_65 H (fun a2 H => ?_)
    refine a_aload_n 0 rfl rfl dX12_takesStone_68 ?_
    refine r_gI fo_RX12_143_12 dX12_takesStone_69 H (fun x3 H => ?_)
    refine a_aload_n 0 rfl rfl dX12_takesStone_72 ?_
    refine a_iload_n 1 rfl rfl dX12_takesStone_73 ?_
    refine a_iconst (v := (1 : Int32)) (by decide) dX12_takesStone_74 ?_
    refine a_bipush (v := (9 : Int32)) (by decide) dX12_takesStone_75 ?_
    refine a_iconst (v := (-1 : Int32)) (by decide) dX12_takesStone_77 ?_
    refine r_Vi (q := (RX12, TX12, 51)) (av := [.int v1, .int (1 : Int32), .int (9 : Int32), .int (-1 : Int32)]) (rest := [.int x3, .ref a2]) rfl rfl okX12_figure H.1 rfl rfl wd1255 wd1257 wp38 ⟨Nat.le_of_ble_eq_true rfl, Nat.le_of_ble_eq_true rfl⟩ (Nat.le_of_ble_eq_true rfl) dX12_takesStone_78 (s_X12_figure H.2) (fun x4 h5 H => ?_)
    refine r_sI dX12_takesStone_81 H (fun h6 H => ?_)
    refine a_aload_n 0 rfl rfl dX12_takesStone_82 ?_
    refine r_gR fo_RX12_65_12 dX12_takesStone_83 H (fun a7 H => ?_)
    refine a_aload_n 0 rfl rfl dX12_takesStone_86 ?_
    refine r_gI fo_RX12_143_12 dX12_takesStone_87 H (fun x8 H => ?_)
    refine r_lI dX12_takesStone_90 H (fun x9 H => ?_)
    refine a_if_ge (tgt := 96) dX12_takesStone_91 (by decide) (fun c => ?_) (fun c => ?_)
    · have H := H.1 (c)
      refine a_aload_n 0 rfl rfl dX12_takesStone_96 ?_
      refine r_gR fo_RX12_68_12 dX12_takesStone_97 H (fun a10 H => ?_)
      refine a_aload_n 0 rfl rfl dX12_takesStone_100 ?_
      refine r_gI fo_RX12_143_12 dX12_takesStone_101 H (fun x11 H => ?_)
      refine a_aload_n 0 rfl rfl dX12_takesStone_104 ?_
      refine a_iload_n 1 rfl rfl dX12_takesStone_105 ?_
      refine a_iconst (v := (0 : Int32)) (by decide) dX12_takesStone_106 ?_
      refine a_aload_n 0 rfl rfl dX12_takesStone_107 ?_
      refine r_gI fo_RX12_153_12 dX12_takesStone_108 H (fun x12 H => ?_)
      refine a_iconst (v := (1 : Int32)) (by decide) dX12_takesStone_111 ?_
      refine a_isub dX12_takesStone_112 ?_
      refine a_iconst (v := (-1 : Int32)) (by decide) dX12_takesStone_113 ?_
      refine r_Vi (q := (RX12, TX12, 51)) (av := [.int v1, .int (0 : Int32), .int (x12 - (1 : Int32)), .int (-1 : Int32)]) (rest := [.int x11, .ref a10]) rfl rfl okX12_figure H.1 rfl rfl wd1255 wd1257 wp38 ⟨Nat.le_of_ble_eq_true rfl, Nat.le_of_ble_eq_true rfl⟩ (Nat.le_of_ble_eq_true rfl) dX12_takesStone_114 (s_X12_figure H.2) (fun x13 h14 H => ?_)
      refine r_sI dX12_takesStone_117 H (fun h15 H => ?_)
      refine a_aload_n 0 rfl rfl dX12_takesStone_118 ?_
      refine a_dup rfl dX12_takesStone_119 ?_
      refine r_gI fo_RX12_143_12 dX12_takesStone_120 H (fun x16 H => ?_)
      refine a_iconst (v := (1 : Int32)) (by decide) dX12_takesStone_123 ?_
      refine a_iadd dX12_takesStone_124 ?_
      refine r_pF (po_RX12_143_12 _) (fun _ => rfl) (fun _ => rfl) dX12_takesStone_125 H (fun h17 H => ?_)
      refine a_aload_n 0 rfl rfl dX12_takesStone_128 ?_
      refine r_gR fo_RX12_68_12 dX12_takesStone_129 H (fun a18 H => ?_)
      refine a_aload_n 0 rfl rfl dX12_takesStone_132 ?_
      refine r_gI fo_RX12_143_12 dX12_takesStone_133 H (fun x19 H => ?_)
      refine a_iconst (v := (1 : Int32)) (by decide) dX12_takesStone_136 ?_
      refine a_isub dX12_takesStone_137 ?_
      refine r_lI dX12_takesStone_138 H (fun x20 H => ?_)
      refine a_if_lt (tgt := 146) dX12_takesStone_139 (by decide) (fun c => ?_) (fun c => ?_)
      · have H := H.1 (c)
        refine a_iconst (v := (0 : Int32)) (by decide) dX12_takesStone_146 ?_
        exact r_retz rfl bl_0 dX12_takesStone_147 H
      · have H := H.2 (c)
        refine a_iconst (v := (1 : Int32)) (by decide) dX12_takesStone_142 ?_
        refine a_goto (tgt := 147) dX12_takesStone_143 (by decide) ?_
        exact r_retz rfl bl_1 dX12_takesStone_147 H
    · have H := H.2 (c)
      refine a_iconst (v := (0 : Int32)) (by decide) dX12_takesStone_94 ?_
      exact r_retz rfl bl_0 dX12_takesStone_95 H
  · have H := H.2 (c)
    refine a_aload_n 0 rfl rfl dX12_takesStone_46 ?_
    refine r_gR fo_RX12_65_12 dX12_takesStone_47 H (fun a21 H => ?_)
    refine a_iload_n 3 rfl rfl dX12_takesStone_50 ?_
    refine r_lI dX12_takesStone_51 H (fun x22 H => ?_)
    refine a_iload_n 2 rfl rfl dX12_takesStone_52 ?_
    refine a_icmp_ne (tgt := 58) dX12_takesStone_53 (by decide) (fun c => ?_) (fun c => ?_)
    · have H := H.1 (c)
      refine a_iinc (v := v3 + 1) (lv1 := [(0, .ref v0), (1, .int v1), (2, .int v2), (3, .int (v3 + 1))]) [1, 2, 3, 0] 3 rfl (by decide) rfl rfl dX12_takesStone_58 ?_
      refine a_goto (tgt := 38) dX12_takesStone_61 (by decide) ?_
      exact hK38 _ _ H
    · have H := H.2 (c)
      refine a_iconst (v := (0 : Int32)) (by decide) dX12_takesStone_56 ?_
      exact r_retz rfl bl_0 dX12_takesStone_57 H
def L_X12_takesStone_38 (Q : Int32 → AH → Prop)  (v0 : Nat) (v1 : Int32) (v2 : Int32) : Nat → Int32 → AH → Prop
  | 0, _, _ => False
  | n + 1, v3, h => B_X12_takesStone_38 Q (L_X12_takesStone_38 Q  v0 v1 v2 n) v0 v1 v2 v3 h
theorem l_X12_takesStone_38 {o : Om} {Q : Int32 → AH → Prop}  {v0 : Nat} {v1 : Int32} {v2 : Int32}  : ∀ (n : Nat) (v3 : Int32) (h : AH), L_X12_takesStone_38 Q  v0 v1 v2 n v3 h → AQ o kX12_takesStone h 38 [(0, .ref v0), (1, .int v1), (2, .int v2), (3, .int v3)] [] (qI Q) := by
  intro n
  induction n with
  | zero => intro v3 h H; exact H.elim
  | succ n ih => intro v3 h H; exact b_X12_takesStone_38 ih H
def f_X12_takesStone (v0 : Nat) (v1 : Int32) (h : AH) (Q : Int32 → AH → Prop) : Prop :=
  gI h v0 12 29 (fun x1 => ((x1 = (5 : Int32) → Q (0 : Int32) h) ∧ (¬ (x1 = (5 : Int32)) → gI h v0 12 30 (fun x2 => ((x2 ≤ 0 → gI h v0 12 27 (fun x3 => pF h v0 12 27 (.int (x3 + (1 : Int32))) (fun h4 => isO h4 v0 12 ∧ f_X12_here v0 v1 h4 (fun x5 h6 => ∃ n, L_X12_takesStone_38 Q  v0 v1 (x5 - (48 : Int32)) n (0 : Int32) h6)))) ∧ (¬ (x2 ≤ 0) → Q (0 : Int32) h))))))
set_option maxRecDepth 100000 in
set_option maxHeartbeats 4000000 in
theorem s_X12_takesStone {o : Om} {v0 : Nat} {v1 : Int32} {h : AH} {Q : Int32 → AH → Prop} (H : f_X12_takesStone v0 v1 h Q) : MQ' o kX12_takesStone [.ref v0, .int v1] h (qI Q) := by
  refine MQ'.of (by decide +kernel) (Nat.le_of_ble_eq_true rfl) ?_
  show AQ o kX12_takesStone h 0 [(0, .ref v0), (1, .int v1)] [] (qI Q)
  refine a_aload_n 0 rfl rfl dX12_takesStone_0 ?_
  refine r_gI fo_RX12_143_12 dX12_takesStone_1 H (fun x1 H => ?_)
  refine a_iconst (v := (5 : Int32)) (by decide) dX12_takesStone_4 ?_
  refine a_icmp_eq (tgt := 15) dX12_takesStone_5 (by decide) (fun c => ?_) (fun c => ?_)
  · have H := H.1 (c)
    refine a_iconst (v := (0 : Int32)) (by decide) dX12_takesStone_15 ?_
    exact r_retz rfl bl_0 dX12_takesStone_16 H
  · have H := H.2 (c)
    refine a_aload_n 0 rfl rfl dX12_takesStone_8 ?_
    refine r_gI fo_RX12_146_12 dX12_takesStone_9 H (fun x2 H => ?_)
    refine a_if_le (tgt := 17) dX12_takesStone_12 (by decide) (fun c => ?_) (fun c => ?_)
    · have H := H.1 (c)
      refine a_aload_n 0 rfl rfl dX12_takesStone_17 ?_
      refine a_dup rfl dX12_takesStone_18 ?_
      refine r_gI fo_RX12_137_12 dX12_takesStone_19 H (fun x3 H => ?_)
      refine a_iconst (v := (1 : Int32)) (by decide) dX12_takesStone_22 ?_
      refine a_iadd dX12_takesStone_23 ?_
      refine r_pF (po_RX12_137_12 _) (fun _ => rfl) (fun _ => rfl) dX12_takesStone_24 H (fun h4 H => ?_)
      refine a_aload_n 0 rfl rfl dX12_takesStone_27 ?_
      refine a_iload_n 1 rfl rfl dX12_takesStone_28 ?_
      refine r_Vi (q := (RX12, TX12, 51)) (av := [.int v1]) (rest := []) rfl rfl okX12_here H.1 rfl rfl wd1251 wd1253 wp37 ⟨Nat.le_of_ble_eq_true rfl, Nat.le_of_ble_eq_true rfl⟩ (Nat.le_of_ble_eq_true rfl) dX12_takesStone_29 (s_X12_here H.2) (fun x5 h6 H => ?_)
      refine a_bipush (v := (48 : Int32)) (by decide) dX12_takesStone_32 ?_
      refine a_isub dX12_takesStone_34 ?_
      refine a_istore_n (lv1 := [(0, .ref v0), (1, .int v1), (2, .int (x5 - (48 : Int32)))]) rfl [1, 2, 0] (by decide) rfl dX12_takesStone_35 ?_
      refine a_iconst (v := (0 : Int32)) (by decide) dX12_takesStone_36 ?_
      refine a_istore_n (lv1 := [(0, .ref v0), (1, .int v1), (2, .int (x5 - (48 : Int32))), (3, .int (0 : Int32))]) rfl [1, 2, 3, 0] (by decide) rfl dX12_takesStone_37 ?_
      obtain ⟨n, H⟩ := H
      exact l_X12_takesStone_38  n _ _ H
    · have H := H.2 (c)
      refine a_iconst (v := (0 : Int32)) (by decide) dX12_takesStone_15 ?_
      exact r_retz rfl bl_0 dX12_takesStone_16 H
def f_X12_kindOf (v0 : Int32) (h : AH) (Q : Int32 → AH → Prop) : Prop :=
  ((v0 = 98 → Q (2 : Int32) h) ∧ (v0 = 99 → Q (1 : Int32) h) ∧ (v0 = 108 → Q (3 : Int32) h) ∧ (v0 = 112 → Q (5 : Int32) h) ∧ (v0 = 116 → Q (4 : Int32) h) ∧ (v0 = 119 → Q (0 : Int32) h) ∧ (¬ v0 = 98 → ¬ v0 = 99 → ¬ v0 = 108 → ¬ v0 = 112 → ¬ v0 = 116 → ¬ v0 = 119 → Q (-1 : Int32) h))
set_option maxRecDepth 100000 in
set_option maxHeartbeats 4000000 in
theorem s_X12_kindOf {o : Om} {v0 : Int32} {h : AH} {Q : Int32 → AH → Prop} (H : f_X12_kindOf v0 h Q) : MQ' o kX12_kindOf [.int v0] h (qI Q) := by
  refine MQ'.of (by decide +kernel) (Nat.le_of_ble_eq_true rfl) ?_
  show AQ o kX12_kindOf h 0 [(0, .int v0)] [] (qI Q)
  refine a_iload_n 0 rfl rfl dX12_kindOf_0 ?_
  by_cases c0 : v0 = 98
  · have H := H.1 c0
    refine r_look (off := 63) (tgt := 64) dX12_kindOf_1 (by decide) c0 (by decide) (by decide) ?_
    refine a_iconst (v := (2 : Int32)) (by decide) dX12_kindOf_64 ?_
    exact r_reti rfl dX12_kindOf_65 H
  by_cases c1 : v0 = 99
  · have H := H.2.1 c1
    refine r_look (off := 61) (tgt := 62) dX12_kindOf_1 (by decide) c1 (by decide) (by decide) ?_
    refine a_iconst (v := (1 : Int32)) (by decide) dX12_kindOf_62 ?_
    exact r_reti rfl dX12_kindOf_63 H
  by_cases c2 : v0 = 108
  · have H := H.2.2.1 c2
    refine r_look (off := 65) (tgt := 66) dX12_kindOf_1 (by decide) c2 (by decide) (by decide) ?_
    refine a_iconst (v := (3 : Int32)) (by decide) dX12_kindOf_66 ?_
    exact r_reti rfl dX12_kindOf_67 H
  by_cases c3 : v0 = 112
  · have H := H.2.2.2.1 c3
    refine r_look (off := 69) (tgt := 70) dX12_kindOf_1 (by decide) c3 (by decide) (by decide) ?_
    refine a_iconst (v := (5 : Int32)) (by decide) dX12_kindOf_70 ?_
    exact r_reti rfl dX12_kindOf_71 H
  by_cases c4 : v0 = 116
  · have H := H.2.2.2.2.1 c4
    refine r_look (off := 67) (tgt := 68) dX12_kindOf_1 (by decide) c4 (by decide) (by decide) ?_
    refine a_iconst (v := (4 : Int32)) (by decide) dX12_kindOf_68 ?_
    exact r_reti rfl dX12_kindOf_69 H
  by_cases c5 : v0 = 119
  · have H := H.2.2.2.2.2.1 c5
    refine r_look (off := 59) (tgt := 60) dX12_kindOf_1 (by decide) c5 (by decide) (by decide) ?_
    refine a_iconst (v := (0 : Int32)) (by decide) dX12_kindOf_60 ?_
    exact r_reti rfl dX12_kindOf_61 H
  have H := H.2.2.2.2.2.2 c0 c1 c2 c3 c4 c5
  refine a_lookup (tgt := 72) (off := 71) dX12_kindOf_1 (by decide) (by rw [lv_osw c0 (by decide)]; rw [lv_osw c1 (by decide)]; rw [lv_osw c2 (by decide)]; rw [lv_osw c3 (by decide)]; rw [lv_osw c4 (by decide)]; rw [lv_osw c5 (by decide)]; rfl) (by decide) ?_
  refine a_iconst (v := (-1 : Int32)) (by decide) dX12_kindOf_72 ?_
  exact r_reti rfl dX12_kindOf_73 H
def f_X12_takesWalker (v0 : Nat) (v1 : Int32) (h : AH) (Q : Int32 → AH → Prop) : Prop :=
  isO h v0 12 ∧ f_X12_here v0 v1 h (fun x1 h2 => f_X12_kindOf x1 h2 (fun x3 h4 => ((x3 < 0 → Q (0 : Int32) h4) ∧ (¬ (x3 < 0) → gI h4 v0 12 30 (fun x5 => ((¬ (x5 = (5 : Int32)) → gI h4 v0 12 27 (fun x6 => pF h4 v0 12 27 (.int (x6 + (1 : Int32))) (fun h7 => gI h7 v0 12 30 (fun x8 => gR h7 v0 12 33 (fun a9 => sI h7 a9 x8 x3 (fun h10 => gR h10 v0 12 34 (fun a11 => gI h10 v0 12 28 (fun x12 => isO h10 v0 12 ∧ f_X12_figure v0 v1 (0 : Int32) (x12 - (1 : Int32)) (-1 : Int32) h10 (fun x13 h14 => sI h14 a11 x8 x13 (fun h15 => gR h15 v0 12 34 (fun a16 => lI h15 a16 x8 (fun x17 => ((0 ≤ x17 → gR h15 v0 12 35 (fun a18 => gI h15 v0 12 28 (fun x19 => gR h15 v0 12 34 (fun a20 => lI h15 a20 x8 (fun x21 => isO h15 v0 12 ∧ f_X12_figure v0 v1 (0 : Int32) (x19 - (1 : Int32)) x21 h15 (fun x22 h23 => sI h23 a18 x8 x22 (fun h24 => gI h24 v0 12 30 (fun x25 => pF h24 v0 12 30 (.int (x25 + (1 : Int32))) (fun h26 => gR h26 v0 12 35 (fun a27 => lI h26 a27 x8 (fun x28 => ((x28 < 0 → Q (0 : Int32) h26) ∧ (¬ (x28 < 0) → Q (1 : Int32) h26))))))))))))) ∧ (¬ (0 ≤ x17) → Q (0 : Int32) h15)))))))))))))) ∧ (x5 = (5 : Int32) → Q (0 : Int32) h4)))))))
set_option maxRecDepth 100000 in
set_option maxHeartbeats 4000000 in
theorem s_X12_takesWalker {o : Om} {v0 : Nat} {v1 : Int32} {h : AH} {Q : Int32 → AH → Prop} (H : f_X12_takesWalker v0 v1 h Q) : MQ' o kX12_takesWalker [.ref v0, .int v1] h (qI Q) := by
  refine MQ'.of (by decide +kernel) (Nat.le_of_ble_eq_true rfl) ?_
  show AQ o kX12_takesWalker h 0 [(0, .ref v0), (1, .int v1)] [] (qI Q)
  refine a_aload_n 0 rfl rfl dX12_takesWalker_0 ?_
  refine a_iload_n 1 rfl rfl dX12_takesWalker_1 ?_
  refine r_Vi (q := (RX12, TX12, 51)) (av := [.int v1]) (rest := []) rfl rfl okX12_here H.1 rfl rfl wd1251 wd1253 wp37 ⟨Nat.le_of_ble_eq_true rfl, Nat.le_of_ble_eq_true rfl⟩ (Nat.le_of_ble_eq_true rfl) dX12_takesWalker_2 (s_X12_here H.2) (fun x1 h2 H => ?_)
  refine r_Si (av := [.int x1]) (rest := []) rfl rfl okX12_kindOf wd1267 wd1268 ⟨Nat.le_of_ble_eq_true rfl, Nat.le_of_ble_eq_true rfl⟩ (Nat.le_of_ble_eq_true rfl) dX12_takesWalker_5 (s_X12_kindOf H) (fun x3 h4 H => ?_)
  refine a_istore_n (lv1 := [(0, .ref v0), (1, .int v1), (2, .int x3)]) rfl [1, 2, 0] (by decide) rfl dX12_takesWalker_8 ?_
  refine a_iload_n 2 rfl rfl dX12_takesWalker_9 ?_
  refine a_if_lt (tgt := 21) dX12_takesWalker_10 (by decide) (fun c => ?_) (fun c => ?_)
  · have H := H.1 (c)
    refine a_iconst (v := (0 : Int32)) (by decide) dX12_takesWalker_21 ?_
    exact r_retz rfl bl_0 dX12_takesWalker_22 H
  · have H := H.2 (c)
    refine a_aload_n 0 rfl rfl dX12_takesWalker_13 ?_
    refine r_gI fo_RX12_146_12 dX12_takesWalker_14 H (fun x5 H => ?_)
    refine a_iconst (v := (5 : Int32)) (by decide) dX12_takesWalker_17 ?_
    refine a_icmp_ne (tgt := 23) dX12_takesWalker_18 (by decide) (fun c => ?_) (fun c => ?_)
    · have H := H.1 (c)
      refine a_aload_n 0 rfl rfl dX12_takesWalker_23 ?_
      refine a_dup rfl dX12_takesWalker_24 ?_
      refine r_gI fo_RX12_137_12 dX12_takesWalker_25 H (fun x6 H => ?_)
      refine a_iconst (v := (1 : Int32)) (by decide) dX12_takesWalker_28 ?_
      refine a_iadd dX12_takesWalker_29 ?_
      refine r_pF (po_RX12_137_12 _) (fun _ => rfl) (fun _ => rfl) dX12_takesWalker_30 H (fun h7 H => ?_)
      refine a_aload_n 0 rfl rfl dX12_takesWalker_33 ?_
      refine r_gI fo_RX12_146_12 dX12_takesWalker_34 H (fun x8 H => ?_)
      refine a_istore_n (lv1 := [(0, .ref v0), (1, .int v1), (2, .int x3), (3, .int x8)]) rfl [1, 2, 3, 0] (by decide) rfl dX12_takesWalker_37 ?_
      refine a_aload_n 0 rfl rfl dX12_takesWalker_38 ?_
      refine r_gR fo_RX12_71_12 dX12_takesWalker_39 H (fun a9 H => ?_)
      refine a_iload_n 3 rfl rfl dX12_takesWalker_42 ?_
      refine a_iload_n 2 rfl rfl dX12_takesWalker_43 ?_
      refine r_sI dX12_takesWalker_44 H (fun h10 H => ?_)
      refine a_aload_n 0 rfl rfl dX12_takesWalker_45 ?_
      refine r_gR fo_RX12_74_12 dX12_takesWalker_46 H (fun a11 H => ?_)
      refine a_iload_n 3 rfl rfl dX12_takesWalker_49 ?_
      refine a_aload_n 0 rfl rfl dX12_takesWalker_50 ?_
      refine a_iload_n 1 rfl rfl dX12_takesWalker_51 ?_
      refine a_iconst (v := (0 : Int32)) (by decide) dX12_takesWalker_52 ?_
      refine a_aload_n 0 rfl rfl dX12_takesWalker_53 ?_
      refine r_gI fo_RX12_153_12 dX12_takesWalker_54 H (fun x12 H => ?_)
      refine a_iconst (v := (1 : Int32)) (by decide) dX12_takesWalker_57 ?_
      refine a_isub dX12_takesWalker_58 ?_
      refine a_iconst (v := (-1 : Int32)) (by decide) dX12_takesWalker_59 ?_
      refine r_Vi (q := (RX12, TX12, 51)) (av := [.int v1, .int (0 : Int32), .int (x12 - (1 : Int32)), .int (-1 : Int32)]) (rest := [.int x8, .ref a11]) rfl rfl okX12_figure H.1 rfl rfl wd1255 wd1257 wp38 ⟨Nat.le_of_ble_eq_true rfl, Nat.le_of_ble_eq_true rfl⟩ (Nat.le_of_ble_eq_true rfl) dX12_takesWalker_60 (s_X12_figure H.2) (fun x13 h14 H => ?_)
      refine r_sI dX12_takesWalker_63 H (fun h15 H => ?_)
      refine a_aload_n 0 rfl rfl dX12_takesWalker_64 ?_
      refine r_gR fo_RX12_74_12 dX12_takesWalker_65 H (fun a16 H => ?_)
      refine a_iload_n 3 rfl rfl dX12_takesWalker_68 ?_
      refine r_lI dX12_takesWalker_69 H (fun x17 H => ?_)
      refine a_if_ge (tgt := 75) dX12_takesWalker_70 (by decide) (fun c => ?_) (fun c => ?_)
      · have H := H.1 (c)
        refine a_aload_n 0 rfl rfl dX12_takesWalker_75 ?_
        refine r_gR fo_RX12_77_12 dX12_takesWalker_76 H (fun a18 H => ?_)
        refine a_iload_n 3 rfl rfl dX12_takesWalker_79 ?_
        refine a_aload_n 0 rfl rfl dX12_takesWalker_80 ?_
        refine a_iload_n 1 rfl rfl dX12_takesWalker_81 ?_
        refine a_iconst (v := (0 : Int32)) (by decide) dX12_takesWalker_82 ?_
        refine a_aload_n 0 rfl rfl dX12_takesWalker_83 ?_
        refine r_gI fo_RX12_153_12 dX12_takesWalker_84 H (fun x19 H => ?_)
        refine a_iconst (v := (1 : Int32)) (by decide) dX12_takesWalker_87 ?_
        refine a_isub dX12_takesWalker_88 ?_
        refine a_aload_n 0 rfl rfl dX12_takesWalker_89 ?_
        refine r_gR fo_RX12_74_12 dX12_takesWalker_90 H (fun a20 H => ?_)
        refine a_iload_n 3 rfl rfl dX12_takesWalker_93 ?_
        refine r_lI dX12_takesWalker_94 H (fun x21 H => ?_)
        refine r_Vi (q := (RX12, TX12, 51)) (av := [.int v1, .int (0 : Int32), .int (x19 - (1 : Int32)), .int x21]) (rest := [.int x8, .ref a18]) rfl rfl okX12_figure H.1 rfl rfl wd1255 wd1257 wp38 ⟨Nat.le_of_ble_eq_true rfl, Nat.le_of_ble_eq_true rfl⟩ (Nat.le_of_ble_eq_true rfl) dX12_takesWalker_95 (s_X12_figure H.2) (fun x22 h23 H => ?_)
        refine r_sI dX12_takesWalker_98 H (fun h24 H => ?_)
        refine a_aload_n 0 rfl rfl dX12_takesWalker_99 ?_
        refine a_dup rfl dX12_takesWalker_100 ?_
        refine r_gI fo_RX12_146_12 dX12_takesWalker_101 H (fun x25 H => ?_)
        refine a_iconst (v := (1 : Int32)) (by decide) dX12_takesWalker_104 ?_
        refine a_iadd dX12_takesWalker_105 ?_
        refine r_pF (po_RX12_146_12 _) (fun _ => rfl) (fun _ => rfl) dX12_takesWalker_106 H (fun h26 H => ?_)
        refine a_aload_n 0 rfl rfl dX12_takesWalker_109 ?_
        refine r_gR fo_RX12_77_12 dX12_takesWalker_110 H (fun a27 H => ?_)
        refine a_iload_n 3 rfl rfl dX12_takesWalker_113 ?_
        refine r_lI dX12_takesWalker_114 H (fun x28 H => ?_)
        refine a_if_lt (tgt := 122) dX12_takesWalker_115 (by decide) (fun c => ?_) (fun c => ?_)
        · have H := H.1 (c)
          refine a_iconst (v := (0 : Int32)) (by decide) dX12_takesWalker_122 ?_
          exact r_retz rfl bl_0 dX12_takesWalker_123 H
        · have H := H.2 (c)
          refine a_iconst (v := (1 : Int32)) (by decide) dX12_takesWalker_118 ?_
          refine a_goto (tgt := 123) dX12_takesWalker_119 (by decide) ?_
          exact r_retz rfl bl_1 dX12_takesWalker_123 H
      · have H := H.2 (c)
        refine a_iconst (v := (0 : Int32)) (by decide) dX12_takesWalker_73 ?_
        exact r_retz rfl bl_0 dX12_takesWalker_74 H
    · have H := H.2 (c)
      refine a_iconst (v := (0 : Int32)) (by decide) dX12_takesWalker_21 ?_
      exact r_retz rfl bl_0 dX12_takesWalker_22 H
def B_X12_reads_68 (Q : Int32 → AH → Prop) (K68 : Int32 → AH → Prop) (v0 : Nat) (v1 : Int32) (v2 : Int32) (h : AH) : Prop :=
  ((v2 = 0 → Q (0 : Int32) h) ∧ (¬ (v2 = 0) → isO h v0 12 ∧ f_X12_skip v0 v1 h (fun h1 => isO h1 v0 12 ∧ f_X12_here v0 v1 h1 (fun x2 h3 => ((¬ (x2 = (256 : Int32)) → isO h3 v0 12 ∧ f_X12_here v0 v1 h3 (fun x4 h5 => ((¬ (x4 = (109 : Int32)) → isO h5 v0 12 ∧ f_X12_takesWalker v0 v1 h5 (fun x6 h7 => K68 x6 h7)) ∧ (x4 = (109 : Int32) → isO h5 v0 12 ∧ f_X12_takesStone v0 v1 h5 (fun x8 h9 => K68 x8 h9))))) ∧ (x2 = (256 : Int32) → Q (1 : Int32) h3))))))
set_option maxRecDepth 100000 in
set_option maxHeartbeats 4000000 in
theorem b_X12_reads_68 {o : Om} {Q : Int32 → AH → Prop} {K68 : Int32 → AH → Prop} {v0 : Nat} {v1 : Int32} {v2 : Int32} {h : AH} (hK68 : ∀ w2 h, K68 w2 h → AQ o kX12_reads h 68 [(0, .ref v0), (1, .int v1), (2, .int w2)] [] (qI Q)) (H : B_X12_reads_68 Q K68 v0 v1 v2 h) : AQ o kX12_reads h 68 [(0, .ref v0), (1, .int v1), (2, .int v2)] [] (qI Q) := by
  refine a_iload_n 2 rfl rfl dX12_reads_68 ?_
  refine a_if_eq (tgt := 117) dX12_reads_69 (by decide) (fun c => ?_) (fun c => ?_)
  · have H := H.1 (c)
    refine a_iconst (v := (0 : Int32)) (by decide) dX12_reads_117 ?_
    exact r_retz rfl bl_0 dX12_reads_118 H
  · have H := H.2 (c)
    refine a_aload_n 0 rfl rfl dX12_reads_72 ?_
    refine a_iload_n 1 rfl rfl dX12_reads_73 ?_
    refine r_Vv (q := (RX12, TX12, 51)) (av := [.int v1]) (rest := []) rfl rfl okX12_skip H.1 rfl rfl wd1247 wd1249 wp36 ⟨Nat.le_of_ble_eq_true rfl, Nat.le_of_ble_eq_true rfl⟩ (Nat.le_of_ble_eq_true rfl) dX12_reads_74 (s_X12_skip H.2) (fun h1 H => ?_)
    refine a_aload_n 0 rfl rfl dX12_reads_77 ?_
    refine a_iload_n 1 rfl rfl dX12_reads_78 ?_
    refine r_Vi (q := (RX12, TX12, 51)) (av := [.int v1]) (rest := []) rfl rfl okX12_here H.1 rfl rfl wd1251 wd1253 wp37 ⟨Nat.le_of_ble_eq_true rfl, Nat.le_of_ble_eq_true rfl⟩ (Nat.le_of_ble_eq_true rfl) dX12_reads_79 (s_X12_here H.2) (fun x2 h3 H => ?_)
    refine a_sipush (v := (256 : Int32)) (by decide) dX12_reads_82 ?_
    refine a_icmp_ne (tgt := 90) dX12_reads_85 (by decide) (fun c => ?_) (fun c => ?_)
    · have H := H.1 (c)
      refine a_aload_n 0 rfl rfl dX12_reads_90 ?_
      refine a_iload_n 1 rfl rfl dX12_reads_91 ?_
      refine r_Vi (q := (RX12, TX12, 51)) (av := [.int v1]) (rest := []) rfl rfl okX12_here H.1 rfl rfl wd1251 wd1253 wp37 ⟨Nat.le_of_ble_eq_true rfl, Nat.le_of_ble_eq_true rfl⟩ (Nat.le_of_ble_eq_true rfl) dX12_reads_92 (s_X12_here H.2) (fun x4 h5 H => ?_)
      refine a_bipush (v := (109 : Int32)) (by decide) dX12_reads_95 ?_
      refine a_icmp_ne (tgt := 108) dX12_reads_97 (by decide) (fun c => ?_) (fun c => ?_)
      · have H := H.1 (c)
        refine a_aload_n 0 rfl rfl dX12_reads_108 ?_
        refine a_iload_n 1 rfl rfl dX12_reads_109 ?_
        refine r_Vi (q := (RX12, TX12, 51)) (av := [.int v1]) (rest := []) rfl rfl okX12_takesWalker H.1 rfl rfl wd1263 wd1265 wp40 ⟨Nat.le_of_ble_eq_true rfl, Nat.le_of_ble_eq_true rfl⟩ (Nat.le_of_ble_eq_true rfl) dX12_reads_110 (s_X12_takesWalker H.2) (fun x6 h7 H => ?_)
        refine a_istore_n (lv1 := [(0, .ref v0), (1, .int v1), (2, .int x6)]) rfl [1, 2, 0] (by decide) rfl dX12_reads_113 ?_
        refine a_goto (tgt := 68) dX12_reads_114 (by decide) ?_
        exact hK68 _ _ H
      · have H := H.2 (c)
        refine a_aload_n 0 rfl rfl dX12_reads_100 ?_
        refine a_iload_n 1 rfl rfl dX12_reads_101 ?_
        refine r_Vi (q := (RX12, TX12, 51)) (av := [.int v1]) (rest := []) rfl rfl okX12_takesStone H.1 rfl rfl wd1259 wd1261 wp39 ⟨Nat.le_of_ble_eq_true rfl, Nat.le_of_ble_eq_true rfl⟩ (Nat.le_of_ble_eq_true rfl) dX12_reads_102 (s_X12_takesStone H.2) (fun x8 h9 H => ?_)
        refine a_goto (tgt := 113) dX12_reads_105 (by decide) ?_
        refine a_istore_n (lv1 := [(0, .ref v0), (1, .int v1), (2, .int x8)]) rfl [1, 2, 0] (by decide) rfl dX12_reads_113 ?_
        refine a_goto (tgt := 68) dX12_reads_114 (by decide) ?_
        exact hK68 _ _ H
    · have H := H.2 (c)
      refine a_iconst (v := (1 : Int32)) (by decide) dX12_reads_88 ?_
      exact r_retz rfl bl_1 dX12_reads_89 H
def L_X12_reads_68 (Q : Int32 → AH → Prop)  (v0 : Nat) (v1 : Int32) : Nat → Int32 → AH → Prop
  | 0, _, _ => False
  | n + 1, v2, h => B_X12_reads_68 Q (L_X12_reads_68 Q  v0 v1 n) v0 v1 v2 h
theorem l_X12_reads_68 {o : Om} {Q : Int32 → AH → Prop}  {v0 : Nat} {v1 : Int32}  : ∀ (n : Nat) (v2 : Int32) (h : AH), L_X12_reads_68 Q  v0 v1 n v2 h → AQ o kX12_reads h 68 [(0, .ref v0), (1, .int v1), (2, .int v2)] [] (qI Q) := by
  intro n
  induction n with
  | zero => intro v2 h H; exact H.elim
  | succ n ih => intro v2 h H; exact b_X12_reads_68 ih H
def f_X12_reads (v0 : Nat) (v1 : Int32) (h : AH) (Q : Int32 → AH → Prop) : Prop :=
  pF h v0 12 27 (.int (0 : Int32)) (fun h1 => pF h1 v0 12 29 (.int (0 : Int32)) (fun h2 => pF h2 v0 12 30 (.int (0 : Int32)) (fun h3 => isO h3 v0 12 ∧ f_X12_skip v0 v1 h3 (fun h4 => isO h4 v0 12 ∧ f_X12_here v0 v1 h4 (fun x5 h6 => ((x5 = (114 : Int32) → gI h6 v0 12 27 (fun x7 => pF h6 v0 12 27 (.int (x7 + (1 : Int32))) (fun h8 => isO h8 v0 12 ∧ f_X12_figure v0 v1 (2 : Int32) (7 : Int32) (-1 : Int32) h8 (fun x9 h10 => pF h10 v0 12 28 (.int x9) (fun h11 => gI h11 v0 12 28 (fun x12 => ((x12 ≤ 0 → ∃ n, L_X12_reads_68 Q  v0 v1 n (0 : Int32) h11) ∧ (¬ (x12 ≤ 0) → ∃ n, L_X12_reads_68 Q  v0 v1 n (1 : Int32) h11)))))))) ∧ (¬ (x5 = (114 : Int32)) → Q (0 : Int32) h6)))))))
set_option maxRecDepth 100000 in
set_option maxHeartbeats 4000000 in
theorem s_X12_reads {o : Om} {v0 : Nat} {v1 : Int32} {h : AH} {Q : Int32 → AH → Prop} (H : f_X12_reads v0 v1 h Q) : MQ' o kX12_reads [.ref v0, .int v1] h (qI Q) := by
  refine MQ'.of (by decide +kernel) (Nat.le_of_ble_eq_true rfl) ?_
  show AQ o kX12_reads h 0 [(0, .ref v0), (1, .int v1)] [] (qI Q)
  refine a_aload_n 0 rfl rfl dX12_reads_0 ?_
  refine a_iconst (v := (0 : Int32)) (by decide) dX12_reads_1 ?_
  refine r_pF (po_RX12_137_12 _) (fun _ => rfl) (fun _ => rfl) dX12_reads_2 H (fun h1 H => ?_)
  refine a_aload_n 0 rfl rfl dX12_reads_5 ?_
  refine a_iconst (v := (0 : Int32)) (by decide) dX12_reads_6 ?_
  refine r_pF (po_RX12_143_12 _) (fun _ => rfl) (fun _ => rfl) dX12_reads_7 H (fun h2 H => ?_)
  refine a_aload_n 0 rfl rfl dX12_reads_10 ?_
  refine a_iconst (v := (0 : Int32)) (by decide) dX12_reads_11 ?_
  refine r_pF (po_RX12_146_12 _) (fun _ => rfl) (fun _ => rfl) dX12_reads_12 H (fun h3 H => ?_)
  refine a_aload_n 0 rfl rfl dX12_reads_15 ?_
  refine a_iload_n 1 rfl rfl dX12_reads_16 ?_
  refine r_Vv (q := (RX12, TX12, 51)) (av := [.int v1]) (rest := []) rfl rfl okX12_skip H.1 rfl rfl wd1247 wd1249 wp36 ⟨Nat.le_of_ble_eq_true rfl, Nat.le_of_ble_eq_true rfl⟩ (Nat.le_of_ble_eq_true rfl) dX12_reads_17 (s_X12_skip H.2) (fun h4 H => ?_)
  refine a_aload_n 0 rfl rfl dX12_reads_20 ?_
  refine a_iload_n 1 rfl rfl dX12_reads_21 ?_
  refine r_Vi (q := (RX12, TX12, 51)) (av := [.int v1]) (rest := []) rfl rfl okX12_here H.1 rfl rfl wd1251 wd1253 wp37 ⟨Nat.le_of_ble_eq_true rfl, Nat.le_of_ble_eq_true rfl⟩ (Nat.le_of_ble_eq_true rfl) dX12_reads_22 (s_X12_here H.2) (fun x5 h6 H => ?_)
  refine a_bipush (v := (114 : Int32)) (by decide) dX12_reads_25 ?_
  refine a_icmp_eq (tgt := 32) dX12_reads_27 (by decide) (fun c => ?_) (fun c => ?_)
  · have H := H.1 (c)
    refine a_aload_n 0 rfl rfl dX12_reads_32 ?_
    refine a_dup rfl dX12_reads_33 ?_
    refine r_gI fo_RX12_137_12 dX12_reads_34 H (fun x7 H => ?_)
    refine a_iconst (v := (1 : Int32)) (by decide) dX12_reads_37 ?_
    refine a_iadd dX12_reads_38 ?_
    refine r_pF (po_RX12_137_12 _) (fun _ => rfl) (fun _ => rfl) dX12_reads_39 H (fun h8 H => ?_)
    refine a_aload_n 0 rfl rfl dX12_reads_42 ?_
    refine a_aload_n 0 rfl rfl dX12_reads_43 ?_
    refine a_iload_n 1 rfl rfl dX12_reads_44 ?_
    refine a_iconst (v := (2 : Int32)) (by decide) dX12_reads_45 ?_
    refine a_bipush (v := (7 : Int32)) (by decide) dX12_reads_46 ?_
    refine a_iconst (v := (-1 : Int32)) (by decide) dX12_reads_48 ?_
    refine r_Vi (q := (RX12, TX12, 51)) (av := [.int v1, .int (2 : Int32), .int (7 : Int32), .int (-1 : Int32)]) (rest := [.ref v0]) rfl rfl okX12_figure H.1 rfl rfl wd1255 wd1257 wp38 ⟨Nat.le_of_ble_eq_true rfl, Nat.le_of_ble_eq_true rfl⟩ (Nat.le_of_ble_eq_true rfl) dX12_reads_49 (s_X12_figure H.2) (fun x9 h10 H => ?_)
    refine r_pF (po_RX12_153_12 _) (fun _ => rfl) (fun _ => rfl) dX12_reads_52 H (fun h11 H => ?_)
    refine a_aload_n 0 rfl rfl dX12_reads_55 ?_
    refine r_gI fo_RX12_153_12 dX12_reads_56 H (fun x12 H => ?_)
    refine a_if_le (tgt := 66) dX12_reads_59 (by decide) (fun c => ?_) (fun c => ?_)
    · have H := H.1 (c)
      refine a_iconst (v := (0 : Int32)) (by decide) dX12_reads_66 ?_
      refine a_istore_n (lv1 := [(0, .ref v0), (1, .int v1), (2, .int (0 : Int32))]) rfl [1, 2, 0] (by decide) rfl dX12_reads_67 ?_
      obtain ⟨n, H⟩ := H
      exact l_X12_reads_68  n _ _ H
    · have H := H.2 (c)
      refine a_iconst (v := (1 : Int32)) (by decide) dX12_reads_62 ?_
      refine a_goto (tgt := 67) dX12_reads_63 (by decide) ?_
      refine a_istore_n (lv1 := [(0, .ref v0), (1, .int v1), (2, .int (1 : Int32))]) rfl [1, 2, 0] (by decide) rfl dX12_reads_67 ?_
      obtain ⟨n, H⟩ := H
      exact l_X12_reads_68  n _ _ H
  · have H := H.2 (c)
    refine a_iconst (v := (0 : Int32)) (by decide) dX12_reads_30 ?_
    exact r_retz rfl bl_0 dX12_reads_31 H
def f_X12_fault (v0 : Nat) (v1 : Int32) (h : AH) (Q : Int32 → AH → Prop) : Prop :=
  f_X12_isText v1 h (fun x1 h2 => ((¬ (x1 = 0) → gR h2 v0 12 2 (fun a3 => lI h2 a3 v1 (fun x4 => ((0 ≤ x4 → isO h2 v0 12 ∧ f_X12_reads v0 v1 h2 (fun x5 h6 => ((x5 = 0 → gI h6 v0 12 27 (fun x7 => Q x7 h6)) ∧ (¬ (x5 = 0) → Q (-9 : Int32) h6)))) ∧ (¬ (0 ≤ x4) → isO h2 v0 12 ∧ f_X12_find v0 (1 : Int32) h2 (fun x8 h9 => Q x8 h9)))))) ∧ (x1 = 0 → Q (-1 : Int32) h2)))
set_option maxRecDepth 100000 in
set_option maxHeartbeats 4000000 in
theorem s_X12_fault {o : Om} {v0 : Nat} {v1 : Int32} {h : AH} {Q : Int32 → AH → Prop} (H : f_X12_fault v0 v1 h Q) : MQ' o kX12_fault [.ref v0, .int v1] h (qI Q) := by
  refine MQ'.of (by decide +kernel) (Nat.le_of_ble_eq_true rfl) ?_
  show AQ o kX12_fault h 0 [(0, .ref v0), (1, .int v1)] [] (qI Q)
  refine a_iload_n 1 rfl rfl dX12_fault_0 ?_
  refine r_Si (av := [.int v1]) (rest := []) rfl rfl okX12_isText wd1231 wd1232 ⟨Nat.le_of_ble_eq_true rfl, Nat.le_of_ble_eq_true rfl⟩ (Nat.le_of_ble_eq_true rfl) dX12_fault_1 (s_X12_isText H) (fun x1 h2 H => ?_)
  refine a_if_ne (tgt := 9) dX12_fault_4 (by decide) (fun c => ?_) (fun c => ?_)
  · have H := H.1 (c)
    refine a_aload_n 0 rfl rfl dX12_fault_9 ?_
    refine r_gR fo_RX12_16_12 dX12_fault_10 H (fun a3 H => ?_)
    refine a_iload_n 1 rfl rfl dX12_fault_13 ?_
    refine r_lI dX12_fault_14 H (fun x4 H => ?_)
    refine a_if_ge (tgt := 24) dX12_fault_15 (by decide) (fun c => ?_) (fun c => ?_)
    · have H := H.1 (c)
      refine a_aload_n 0 rfl rfl dX12_fault_24 ?_
      refine a_iload_n 1 rfl rfl dX12_fault_25 ?_
      refine r_Vi (q := (RX12, TX12, 51)) (av := [.int v1]) (rest := []) rfl rfl okX12_reads H.1 rfl rfl wd1243 wd1245 wp35 ⟨Nat.le_of_ble_eq_true rfl, Nat.le_of_ble_eq_true rfl⟩ (Nat.le_of_ble_eq_true rfl) dX12_fault_26 (s_X12_reads H.2) (fun x5 h6 H => ?_)
      refine a_if_eq (tgt := 37) dX12_fault_29 (by decide) (fun c => ?_) (fun c => ?_)
      · have H := H.1 (c)
        refine a_aload_n 0 rfl rfl dX12_fault_37 ?_
        refine r_gI fo_RX12_137_12 dX12_fault_38 H (fun x7 H => ?_)
        exact r_reti rfl dX12_fault_41 H
      · have H := H.2 (c)
        refine a_bipush (v := (-9 : Int32)) (by decide) dX12_fault_32 ?_
        refine a_goto (tgt := 41) dX12_fault_34 (by decide) ?_
        exact r_reti rfl dX12_fault_41 H
    · have H := H.2 (c)
      refine a_aload_n 0 rfl rfl dX12_fault_18 ?_
      refine a_iconst (v := (1 : Int32)) (by decide) dX12_fault_19 ?_
      refine r_Vi (q := (RX12, TX12, 51)) (av := [.int (1 : Int32)]) (rest := []) rfl rfl okX12_find H.1 rfl rfl wd1191 wd1193 wp31 ⟨Nat.le_of_ble_eq_true rfl, Nat.le_of_ble_eq_true rfl⟩ (Nat.le_of_ble_eq_true rfl) dX12_fault_20 (s_X12_find H.2) (fun x8 h9 H => ?_)
      exact r_reti rfl dX12_fault_23 H
  · have H := H.2 (c)
    refine a_iconst (v := (-1 : Int32)) (by decide) dX12_fault_7 ?_
    exact r_reti rfl dX12_fault_8 H
def f_X11_road (v0 : Nat) (v1 : Int32) (h : AH) (Q : Int32 → AH → Prop) : Prop :=
  gR h v0 11 1 (fun a1 => isO h v0 11 ∧ f_X11_refuseMissing v0 a1 v1 h (fun x2 h3 => ((x2 = 0 → nO h3 4 3 dfX4 (fun a4 h5 => gR h5 v0 11 1 (fun a6 => lQ h5 a6 2 v1 (fun a7 => f_X4_init a4 a7 h5 (fun h8 => isO h8 a4 4 ∧ f_X4_read a4  h8 (fun x9 h10 => ((x9 = (-9 : Int32) → gR h10 a4 4 0 (fun a11 => pF h10 v0 11 8 (.ref a11) (fun h12 => gR h12 v0 11 8 (fun a13 => gI h12 a13 5 7 (fun x14 => pF h12 v0 11 9 (.int x14) (fun h15 => pF h15 v0 11 10 (.int (0 : Int32)) (fun h16 => pF h16 v0 11 11 (.int (0 : Int32)) (fun h17 => gR h17 v0 11 4 (fun a18 => f_J7_fill_53178 a18 (-9 : Int32) h17 (fun h19 => gR h19 v0 11 8 (fun a20 => gI h19 a20 5 5 (fun x21 => Q x21 h19)))))))))))) ∧ (¬ (x9 = (-9 : Int32)) → Q (-4 : Int32) h10)))))))) ∧ (¬ (x2 = 0) → Q x2 h3))))
set_option maxRecDepth 100000 in
set_option maxHeartbeats 4000000 in
theorem s_X11_road {o : Om} {v0 : Nat} {v1 : Int32} {h : AH} {Q : Int32 → AH → Prop} (H : f_X11_road v0 v1 h Q) : MQ' o kX11_road [.ref v0, .int v1] h (qI Q) := by
  refine MQ'.of (by decide +kernel) (Nat.le_of_ble_eq_true rfl) ?_
  show AQ o kX11_road h 0 [(0, .ref v0), (1, .int v1)] [] (qI Q)
  refine a_aload_n 0 rfl rfl dX11_road_0 ?_
  refine a_aload_n 0 rfl rfl dX11_road_1 ?_
  refine r_gR fo_RX11_15_11 dX11_road_2 H (fun a1 H => ?_)
  refine a_iload_n 1 rfl rfl dX11_road_5 ?_
  refine r_Vi (q := (RX11, TX11, 16)) (av := [.ref a1, .int v1]) (rest := []) rfl rfl okX11_refuseMissing H.1 rfl rfl wd283 wd285 wp2 ⟨Nat.le_of_ble_eq_true rfl, Nat.le_of_ble_eq_true rfl⟩ (Nat.le_of_ble_eq_true rfl) dX11_road_6 (s_X11_refuseMissing H.2) (fun x2 h3 H => ?_)
  refine a_istore_n (lv1 := [(0, .ref v0), (1, .int v1), (2, .int x2)]) rfl [1, 2, 0] (by decide) rfl dX11_road_9 ?_
  refine a_iload_n 2 rfl rfl dX11_road_10 ?_
  refine a_if_eq (tgt := 16) dX11_road_11 (by decide) (fun c => ?_) (fun c => ?_)
  · have H := H.1 (c)
    refine r_nO (C := RX4) (T := TX4) (N := 3) (ty := tyX4) rfl inG4 tyX4_ok wd343 wd344 wd10 dfX4_ok dX11_road_16 H (fun a4 h5 H => ?_)
    refine a_dup rfl dX11_road_19 ?_
    refine a_aload_n 0 rfl rfl dX11_road_20 ?_
    refine r_gR fo_RX11_15_11 dX11_road_21 H (fun a6 H => ?_)
    refine a_iload_n 1 rfl rfl dX11_road_24 ?_
    refine r_lQ (by decide) dX11_road_25 H (fun a7 H => ?_)
    refine r_Iv (av := [.ref a7]) (rest := [.ref a4]) rfl rfl okX4_init wd345 wd346 rfl rfl ⟨Nat.le_of_ble_eq_true rfl, Nat.le_of_ble_eq_true rfl⟩ (Nat.le_of_ble_eq_true rfl) dX11_road_26 (s_X4_init H) (fun h8 H => ?_)
    refine a_astore_n (lv1 := [(0, .ref v0), (1, .int v1), (2, .int x2), (3, .ref a4)]) rfl [1, 2, 3, 0] (by decide) rfl dX11_road_29 ?_
    refine a_aload_n 3 rfl rfl dX11_road_30 ?_
    refine r_Vi (q := (RX4, TX4, 3)) (av := []) (rest := []) rfl rfl okX4_read H.1 rfl rfl wd362 wd363 wd364 ⟨Nat.le_of_ble_eq_true rfl, Nat.le_of_ble_eq_true rfl⟩ (Nat.le_of_ble_eq_true rfl) dX11_road_31 (s_X4_read H.2) (fun x9 h10 H => ?_)
    refine a_bipush (v := (-9 : Int32)) (by decide) dX11_road_34 ?_
    refine a_icmp_eq (tgt := 42) dX11_road_36 (by decide) (fun c => ?_) (fun c => ?_)
    · have H := H.1 (c)
      refine a_aload_n 0 rfl rfl dX11_road_42 ?_
      refine a_aload_n 3 rfl rfl dX11_road_43 ?_
      refine r_gR fo_RX11_142_4 dX11_road_44 H (fun a11 H => ?_)
      refine r_pF (po_RX11_60_11 _) (fun _ => rfl) (fun _ => rfl) dX11_road_47 H (fun h12 H => ?_)
      refine a_aload_n 0 rfl rfl dX11_road_50 ?_
      refine a_aload_n 0 rfl rfl dX11_road_51 ?_
      refine r_gR fo_RX11_60_11 dX11_road_52 H (fun a13 H => ?_)
      refine r_gI fo_RX11_143_5 dX11_road_55 H (fun x14 H => ?_)
      refine r_pF (po_RX11_34_11 _) (fun _ => rfl) (fun _ => rfl) dX11_road_58 H (fun h15 H => ?_)
      refine a_aload_n 0 rfl rfl dX11_road_61 ?_
      refine a_iconst (v := (0 : Int32)) (by decide) dX11_road_62 ?_
      refine r_pF (po_RX11_38_11 _) (fun _ => rfl) (fun _ => rfl) dX11_road_63 H (fun h16 H => ?_)
      refine a_aload_n 0 rfl rfl dX11_road_66 ?_
      refine a_iconst (v := (0 : Int32)) (by decide) dX11_road_67 ?_
      refine r_pF (po_RX11_41_11 _) (fun _ => rfl) (fun _ => rfl) dX11_road_68 H (fun h17 H => ?_)
      refine a_aload_n 0 rfl rfl dX11_road_71 ?_
      refine r_gR fo_RX11_28_11 dX11_road_72 H (fun a18 H => ?_)
      refine a_bipush (v := (-9 : Int32)) (by decide) dX11_road_75 ?_
      refine r_Sv (av := [.ref a18, .int (-9 : Int32)]) (rest := []) rfl rfl okJ7_fill_53178 wd201 wd202 ⟨Nat.le_of_ble_eq_true rfl, Nat.le_of_ble_eq_true rfl⟩ (Nat.le_of_ble_eq_true rfl) dX11_road_77 (s_J7_fill_53178 H) (fun h19 H => ?_)
      refine a_aload_n 0 rfl rfl dX11_road_80 ?_
      refine r_gR fo_RX11_60_11 dX11_road_81 H (fun a20 H => ?_)
      refine r_gI fo_RX11_146_5 dX11_road_84 H (fun x21 H => ?_)
      exact r_reti rfl dX11_road_87 H
    · have H := H.2 (c)
      refine a_bipush (v := (-4 : Int32)) (by decide) dX11_road_39 ?_
      exact r_reti rfl dX11_road_41 H
  · have H := H.2 (c)
    refine a_iload_n 2 rfl rfl dX11_road_14 ?_
    exact r_reti rfl dX11_road_15 H
def B_X12_clear_7 (Q : AH → Prop) (K7 : Int32 → AH → Prop) (v0 : Nat) (v1 : Int32) (h : AH) : Prop :=
  (((5 : Int32) ≤ v1 → Q h) ∧ (¬ ((5 : Int32) ≤ v1) → gR h v0 12 18 (fun a1 => sI h a1 v1 (0 : Int32) (fun h2 => gR h2 v0 12 19 (fun a3 => sI h2 a3 v1 (0 : Int32) (fun h4 => K7 (v1 + 1) h4))))))
set_option maxRecDepth 100000 in
set_option maxHeartbeats 4000000 in
theorem b_X12_clear_7 {o : Om} {Q : AH → Prop} {K7 : Int32 → AH → Prop} {v0 : Nat} {v1 : Int32} {h : AH} (hK7 : ∀ w1 h, K7 w1 h → AQ o kX12_clear h 7 [(0, .ref v0), (1, .int w1)] [] (qV Q)) (H : B_X12_clear_7 Q K7 v0 v1 h) : AQ o kX12_clear h 7 [(0, .ref v0), (1, .int v1)] [] (qV Q) := by
  refine a_iload_n 1 rfl rfl dX12_clear_7 ?_
  refine a_iconst (v := (5 : Int32)) (by decide) dX12_clear_8 ?_
  refine a_icmp_ge (tgt := 32) dX12_clear_9 (by decide) (fun c => ?_) (fun c => ?_)
  · have H := H.1 (c)
    exact r_retv rfl dX12_clear_32 H
  · have H := H.2 (c)
    refine a_aload_n 0 rfl rfl dX12_clear_12 ?_
    refine r_gR fo_RX12_41_12 dX12_clear_13 H (fun a1 H => ?_)
    refine a_iload_n 1 rfl rfl dX12_clear_16 ?_
    refine a_iconst (v := (0 : Int32)) (by decide) dX12_clear_17 ?_
    refine r_sI dX12_clear_18 H (fun h2 H => ?_)
    refine a_aload_n 0 rfl rfl dX12_clear_19 ?_
    refine r_gR fo_RX12_44_12 dX12_clear_20 H (fun a3 H => ?_)
    refine a_iload_n 1 rfl rfl dX12_clear_23 ?_
    refine a_iconst (v := (0 : Int32)) (by decide) dX12_clear_24 ?_
    refine r_sI dX12_clear_25 H (fun h4 H => ?_)
    refine a_iinc (v := v1 + 1) (lv1 := [(0, .ref v0), (1, .int (v1 + 1))]) [1, 0] 1 rfl (by decide) rfl rfl dX12_clear_26 ?_
    refine a_goto (tgt := 7) dX12_clear_29 (by decide) ?_
    exact hK7 _ _ H
def L_X12_clear_7 (Q : AH → Prop)  (v0 : Nat) : Nat → Int32 → AH → Prop
  | 0, _, _ => False
  | n + 1, v1, h => B_X12_clear_7 Q (L_X12_clear_7 Q  v0 n) v0 v1 h
theorem l_X12_clear_7 {o : Om} {Q : AH → Prop}  {v0 : Nat}  : ∀ (n : Nat) (v1 : Int32) (h : AH), L_X12_clear_7 Q  v0 n v1 h → AQ o kX12_clear h 7 [(0, .ref v0), (1, .int v1)] [] (qV Q) := by
  intro n
  induction n with
  | zero => intro v1 h H; exact H.elim
  | succ n ih => intro v1 h H; exact b_X12_clear_7 ih H
def f_X12_clear (v0 : Nat) (h : AH) (Q : AH → Prop) : Prop :=
  pF h v0 12 20 (.int (0 : Int32)) (fun h1 => ∃ n, L_X12_clear_7 Q  v0 n (0 : Int32) h1)
set_option maxRecDepth 100000 in
set_option maxHeartbeats 4000000 in
theorem s_X12_clear {o : Om} {v0 : Nat} {h : AH} {Q : AH → Prop} (H : f_X12_clear v0 h Q) : MQ' o kX12_clear [.ref v0] h (qV Q) := by
  refine MQ'.of (by decide +kernel) (Nat.le_of_ble_eq_true rfl) ?_
  show AQ o kX12_clear h 0 [(0, .ref v0)] [] (qV Q)
  refine a_aload_n 0 rfl rfl dX12_clear_0 ?_
  refine a_iconst (v := (0 : Int32)) (by decide) dX12_clear_1 ?_
  refine r_pF (po_RX12_172_12 _) (fun _ => rfl) (fun _ => rfl) dX12_clear_2 H (fun h1 H => ?_)
  refine a_iconst (v := (0 : Int32)) (by decide) dX12_clear_5 ?_
  refine a_istore_n (lv1 := [(0, .ref v0), (1, .int (0 : Int32))]) rfl [1, 0] (by decide) rfl dX12_clear_6 ?_
  obtain ⟨n, H⟩ := H
  exact l_X12_clear_7  n _ _ H
def B_X12_road_110 (Q : Int32 → AH → Prop) (K66 : Int32 → AH → Prop) (v0 : Nat) (v2 : Int32) (t0 : Nat) (t1 : Int32) (t2 : Int32) (h : AH) : Prop :=
  pF h t0 12 17 (.int (t1 ||| t2)) (fun h1 => gR h1 v0 12 13 (fun a2 => gR h1 v0 12 33 (fun a3 => lI h1 a3 v2 (fun x4 => sI h1 a2 v2 x4 (fun h5 => gR h5 v0 12 14 (fun a6 => gR h5 v0 12 34 (fun a7 => lI h5 a7 v2 (fun x8 => sI h5 a6 v2 x8 (fun h9 => gR h9 v0 12 15 (fun a10 => gR h9 v0 12 35 (fun a11 => lI h9 a11 v2 (fun x12 => sI h9 a10 v2 x12 (fun h13 => K66 (v2 + 1) h13)))))))))))))
set_option maxRecDepth 100000 in
set_option maxHeartbeats 4000000 in
theorem b_X12_road_110 {o : Om} {Q : Int32 → AH → Prop} {K66 : Int32 → AH → Prop} {v0 : Nat} {v2 : Int32} {t0 : Nat} {t1 : Int32} {t2 : Int32} {h : AH} (hK66 : ∀ w2 h, K66 w2 h → AQ o kX12_road h 66 [(0, .ref v0), (2, .int w2)] [] (qI Q)) (H : B_X12_road_110 Q K66 v0 v2 t0 t1 t2 h) : AQ o kX12_road h 110 [(0, .ref v0), (2, .int v2)] [.int t2, .int t1, .ref t0] (qI Q) := by
  refine a_ior dX12_road_110 ?_
  refine r_pF (po_RX12_184_12 _) (fun _ => rfl) (fun _ => rfl) dX12_road_111 H (fun h1 H => ?_)
  refine a_aload_n 0 rfl rfl dX12_road_114 ?_
  refine r_gR fo_RX12_32_12 dX12_road_115 H (fun a2 H => ?_)
  refine a_iload_n 1 rfl rfl dX12_road_118 ?_
  refine a_aload_n 0 rfl rfl dX12_road_119 ?_
  refine r_gR fo_RX12_71_12 dX12_road_120 H (fun a3 H => ?_)
  refine a_iload_n 1 rfl rfl dX12_road_123 ?_
  refine r_lI dX12_road_124 H (fun x4 H => ?_)
  refine r_sI dX12_road_125 H (fun h5 H => ?_)
  refine a_aload_n 0 rfl rfl dX12_road_126 ?_
  refine r_gR fo_RX12_35_12 dX12_road_127 H (fun a6 H => ?_)
  refine a_iload_n 1 rfl rfl dX12_road_130 ?_
  refine a_aload_n 0 rfl rfl dX12_road_131 ?_
  refine r_gR fo_RX12_74_12 dX12_road_132 H (fun a7 H => ?_)
  refine a_iload_n 1 rfl rfl dX12_road_135 ?_
  refine r_lI dX12_road_136 H (fun x8 H => ?_)
  refine r_sI dX12_road_137 H (fun h9 H => ?_)
  refine a_aload_n 0 rfl rfl dX12_road_138 ?_
  refine r_gR fo_RX12_38_12 dX12_road_139 H (fun a10 H => ?_)
  refine a_iload_n 1 rfl rfl dX12_road_142 ?_
  refine a_aload_n 0 rfl rfl dX12_road_143 ?_
  refine r_gR fo_RX12_77_12 dX12_road_144 H (fun a11 H => ?_)
  refine a_iload_n 1 rfl rfl dX12_road_147 ?_
  refine r_lI dX12_road_148 H (fun x12 H => ?_)
  refine r_sI dX12_road_149 H (fun h13 H => ?_)
  refine a_iinc (v := v2 + 1) (lv1 := [(0, .ref v0), (2, .int (v2 + 1))]) [1, 0] 1 rfl (by decide) rfl rfl dX12_road_150 ?_
  refine a_goto (tgt := 66) dX12_road_153 (by decide) ?_
  exact hK66 _ _ H
def B_X12_road_163 (Q : Int32 → AH → Prop) (K163 : Int32 → AH → Prop) (v0 : Nat) (v2 : Int32) (h : AH) : Prop :=
  (((3 : Int32) ≤ v2 → isO h v0 12 ∧ f_X12_clear v0  h (fun h1 => gI h1 v0 12 10 (fun x2 => Q x2 h1))) ∧ (¬ ((3 : Int32) ≤ v2) → gR h v0 12 25 (fun a3 => sI h a3 v2 (-1 : Int32) (fun h4 => K163 (v2 + 1) h4))))
set_option maxRecDepth 100000 in
set_option maxHeartbeats 4000000 in
theorem b_X12_road_163 {o : Om} {Q : Int32 → AH → Prop} {K163 : Int32 → AH → Prop} {v0 : Nat} {v2 : Int32} {h : AH} (hK163 : ∀ w2 h, K163 w2 h → AQ o kX12_road h 163 [(0, .ref v0), (2, .int w2)] [] (qI Q)) (H : B_X12_road_163 Q K163 v0 v2 h) : AQ o kX12_road h 163 [(0, .ref v0), (2, .int v2)] [] (qI Q) := by
  refine a_iload_n 1 rfl rfl dX12_road_163 ?_
  refine a_iconst (v := (3 : Int32)) (by decide) dX12_road_164 ?_
  refine a_icmp_ge (tgt := 181) dX12_road_165 (by decide) (fun c => ?_) (fun c => ?_)
  · have H := H.1 (c)
    refine a_aload_n 0 rfl rfl dX12_road_181 ?_
    refine r_Vv (q := (RX12, TX12, 51)) (av := []) (rest := []) rfl rfl okX12_clear H.1 rfl rfl wd1274 wd1276 wp41 ⟨Nat.le_of_ble_eq_true rfl, Nat.le_of_ble_eq_true rfl⟩ (Nat.le_of_ble_eq_true rfl) dX12_road_182 (s_X12_clear H.2) (fun h1 H => ?_)
    refine a_aload_n 0 rfl rfl dX12_road_185 ?_
    refine r_gI fo_RX12_178_12 dX12_road_186 H (fun x2 H => ?_)
    exact r_reti rfl dX12_road_189 H
  · have H := H.2 (c)
    refine a_aload_n 0 rfl rfl dX12_road_168 ?_
    refine r_gR fo_RX12_59_12 dX12_road_169 H (fun a3 H => ?_)
    refine a_iload_n 1 rfl rfl dX12_road_172 ?_
    refine a_iconst (v := (-1 : Int32)) (by decide) dX12_road_173 ?_
    refine r_sI dX12_road_174 H (fun h4 H => ?_)
    refine a_iinc (v := v2 + 1) (lv1 := [(0, .ref v0), (2, .int (v2 + 1))]) [1, 0] 1 rfl (by decide) rfl rfl dX12_road_175 ?_
    refine a_goto (tgt := 163) dX12_road_178 (by decide) ?_
    exact hK163 _ _ H
def L_X12_road_163 (Q : Int32 → AH → Prop)  (v0 : Nat) : Nat → Int32 → AH → Prop
  | 0, _, _ => False
  | n + 1, v2, h => B_X12_road_163 Q (L_X12_road_163 Q  v0 n) v0 v2 h
theorem l_X12_road_163 {o : Om} {Q : Int32 → AH → Prop}  {v0 : Nat}  : ∀ (n : Nat) (v2 : Int32) (h : AH), L_X12_road_163 Q  v0 n v2 h → AQ o kX12_road h 163 [(0, .ref v0), (2, .int v2)] [] (qI Q) := by
  intro n
  induction n with
  | zero => intro v2 h H; exact H.elim
  | succ n ih => intro v2 h H; exact b_X12_road_163 ih H
def B_X12_road_66 (Q : Int32 → AH → Prop) (K66 : Int32 → AH → Prop) (v0 : Nat) (v2 : Int32) (h : AH) : Prop :=
  (((5 : Int32) ≤ v2 → pF h v0 12 16 (.int (0 : Int32)) (fun h1 => ∃ n, L_X12_road_163 Q  v0 n (0 : Int32) h1)) ∧ (¬ ((5 : Int32) ≤ v2) → gR h v0 12 11 (fun a2 => gR h v0 12 31 (fun a3 => lI h a3 v2 (fun x4 => sI h a2 v2 x4 (fun h5 => gI h5 v0 12 17 (fun x6 => gI h5 v0 12 10 (fun x7 => ((x7 ≤ v2 → B_X12_road_110 Q K66 v0 v2 v0 x6 (0 : Int32) h5) ∧ (¬ (x7 ≤ v2) → gR h5 v0 12 32 (fun a8 => lI h5 a8 v2 (fun x9 => B_X12_road_110 Q K66 v0 v2 v0 x6 (x9 <<< (((3 : Int32) * v2) &&& 31)) h5))))))))))))
set_option maxRecDepth 100000 in
set_option maxHeartbeats 4000000 in
theorem b_X12_road_66 {o : Om} {Q : Int32 → AH → Prop} {K66 : Int32 → AH → Prop} {v0 : Nat} {v2 : Int32} {h : AH} (hK66 : ∀ w2 h, K66 w2 h → AQ o kX12_road h 66 [(0, .ref v0), (2, .int w2)] [] (qI Q)) (H : B_X12_road_66 Q K66 v0 v2 h) : AQ o kX12_road h 66 [(0, .ref v0), (2, .int v2)] [] (qI Q) := by
  refine a_iload_n 1 rfl rfl dX12_road_66 ?_
  refine a_iconst (v := (5 : Int32)) (by decide) dX12_road_67 ?_
  refine a_icmp_ge (tgt := 156) dX12_road_68 (by decide) (fun c => ?_) (fun c => ?_)
  · have H := H.1 (c)
    refine a_aload_n 0 rfl rfl dX12_road_156 ?_
    refine a_iconst (v := (0 : Int32)) (by decide) dX12_road_157 ?_
    refine r_pF (po_RX12_187_12 _) (fun _ => rfl) (fun _ => rfl) dX12_road_158 H (fun h1 H => ?_)
    refine a_iconst (v := (0 : Int32)) (by decide) dX12_road_161 ?_
    refine a_istore_n (lv1 := [(0, .ref v0), (2, .int (0 : Int32))]) rfl [1, 0] (by decide) rfl dX12_road_162 ?_
    obtain ⟨n, H⟩ := H
    exact l_X12_road_163  n _ _ H
  · have H := H.2 (c)
    refine a_aload_n 0 rfl rfl dX12_road_71 ?_
    refine r_gR fo_RX12_29_12 dX12_road_72 H (fun a2 H => ?_)
    refine a_iload_n 1 rfl rfl dX12_road_75 ?_
    refine a_aload_n 0 rfl rfl dX12_road_76 ?_
    refine r_gR fo_RX12_65_12 dX12_road_77 H (fun a3 H => ?_)
    refine a_iload_n 1 rfl rfl dX12_road_80 ?_
    refine r_lI dX12_road_81 H (fun x4 H => ?_)
    refine r_sI dX12_road_82 H (fun h5 H => ?_)
    refine a_aload_n 0 rfl rfl dX12_road_83 ?_
    refine a_dup rfl dX12_road_84 ?_
    refine r_gI fo_RX12_184_12 dX12_road_85 H (fun x6 H => ?_)
    refine a_iload_n 1 rfl rfl dX12_road_88 ?_
    refine a_aload_n 0 rfl rfl dX12_road_89 ?_
    refine r_gI fo_RX12_178_12 dX12_road_90 H (fun x7 H => ?_)
    refine a_icmp_ge (tgt := 109) dX12_road_93 (by decide) (fun c => ?_) (fun c => ?_)
    · have H := H.1 (c)
      refine a_iconst (v := (0 : Int32)) (by decide) dX12_road_109 ?_
      exact b_X12_road_110 hK66 H
    · have H := H.2 (c)
      refine a_aload_n 0 rfl rfl dX12_road_96 ?_
      refine r_gR fo_RX12_68_12 dX12_road_97 H (fun a8 H => ?_)
      refine a_iload_n 1 rfl rfl dX12_road_100 ?_
      refine r_lI dX12_road_101 H (fun x9 H => ?_)
      refine a_iconst (v := (3 : Int32)) (by decide) dX12_road_102 ?_
      refine a_iload_n 1 rfl rfl dX12_road_103 ?_
      refine a_imul dX12_road_104 ?_
      refine a_ishl dX12_road_105 ?_
      refine a_goto (tgt := 110) dX12_road_106 (by decide) ?_
      exact b_X12_road_110 hK66 H
def L_X12_road_66 (Q : Int32 → AH → Prop)  (v0 : Nat) : Nat → Int32 → AH → Prop
  | 0, _, _ => False
  | n + 1, v2, h => B_X12_road_66 Q (L_X12_road_66 Q  v0 n) v0 v2 h
theorem l_X12_road_66 {o : Om} {Q : Int32 → AH → Prop}  {v0 : Nat}  : ∀ (n : Nat) (v2 : Int32) (h : AH), L_X12_road_66 Q  v0 n v2 h → AQ o kX12_road h 66 [(0, .ref v0), (2, .int v2)] [] (qI Q) := by
  intro n
  induction n with
  | zero => intro v2 h H; exact H.elim
  | succ n ih => intro v2 h H; exact b_X12_road_66 ih H
def f_X12_road (v0 : Nat) (v1 : Int32) (h : AH) (Q : Int32 → AH → Prop) : Prop :=
  f_X12_isText v1 h (fun x1 h2 => ((¬ (x1 = 0) → gR h2 v0 12 2 (fun a3 => lI h2 a3 v1 (fun x4 => ((0 ≤ x4 → isO h2 v0 12 ∧ f_X12_reads v0 v1 h2 (fun x5 h6 => ((¬ (x5 = 0) → gI h6 v0 12 28 (fun x7 => pF h6 v0 12 9 (.int x7) (fun h8 => gI h8 v0 12 29 (fun x9 => pF h8 v0 12 10 (.int x9) (fun h10 => gI h10 v0 12 30 (fun x11 => pF h10 v0 12 12 (.int x11) (fun h12 => pF h12 v0 12 17 (.int (0 : Int32)) (fun h13 => ∃ n, L_X12_road_66 Q  v0 n (0 : Int32) h13)))))))) ∧ (x5 = 0 → Q (-4 : Int32) h6)))) ∧ (¬ (0 ≤ x4) → isO h2 v0 12 ∧ f_X12_find v0 (1 : Int32) h2 (fun x14 h15 => Q x14 h15)))))) ∧ (x1 = 0 → Q (-1 : Int32) h2)))
set_option maxRecDepth 100000 in
set_option maxHeartbeats 4000000 in
theorem s_X12_road {o : Om} {v0 : Nat} {v1 : Int32} {h : AH} {Q : Int32 → AH → Prop} (H : f_X12_road v0 v1 h Q) : MQ' o kX12_road [.ref v0, .int v1] h (qI Q) := by
  refine MQ'.of (by decide +kernel) (Nat.le_of_ble_eq_true rfl) ?_
  show AQ o kX12_road h 0 [(0, .ref v0), (1, .int v1)] [] (qI Q)
  refine a_iload_n 1 rfl rfl dX12_road_0 ?_
  refine r_Si (av := [.int v1]) (rest := []) rfl rfl okX12_isText wd1231 wd1232 ⟨Nat.le_of_ble_eq_true rfl, Nat.le_of_ble_eq_true rfl⟩ (Nat.le_of_ble_eq_true rfl) dX12_road_1 (s_X12_isText H) (fun x1 h2 H => ?_)
  refine a_if_ne (tgt := 9) dX12_road_4 (by decide) (fun c => ?_) (fun c => ?_)
  · have H := H.1 (c)
    refine a_aload_n 0 rfl rfl dX12_road_9 ?_
    refine r_gR fo_RX12_16_12 dX12_road_10 H (fun a3 H => ?_)
    refine a_iload_n 1 rfl rfl dX12_road_13 ?_
    refine r_lI dX12_road_14 H (fun x4 H => ?_)
    refine a_if_ge (tgt := 24) dX12_road_15 (by decide) (fun c => ?_) (fun c => ?_)
    · have H := H.1 (c)
      refine a_aload_n 0 rfl rfl dX12_road_24 ?_
      refine a_iload_n 1 rfl rfl dX12_road_25 ?_
      refine r_Vi (q := (RX12, TX12, 51)) (av := [.int v1]) (rest := []) rfl rfl okX12_reads H.1 rfl rfl wd1243 wd1245 wp35 ⟨Nat.le_of_ble_eq_true rfl, Nat.le_of_ble_eq_true rfl⟩ (Nat.le_of_ble_eq_true rfl) dX12_road_26 (s_X12_reads H.2) (fun x5 h6 H => ?_)
      refine a_if_ne (tgt := 35) dX12_road_29 (by decide) (fun c => ?_) (fun c => ?_)
      · have H := H.1 (c)
        refine a_aload_n 0 rfl rfl dX12_road_35 ?_
        refine a_aload_n 0 rfl rfl dX12_road_36 ?_
        refine r_gI fo_RX12_153_12 dX12_road_37 H (fun x7 H => ?_)
        refine r_pF (po_RX12_175_12 _) (fun _ => rfl) (fun _ => rfl) dX12_road_40 H (fun h8 H => ?_)
        refine a_aload_n 0 rfl rfl dX12_road_43 ?_
        refine a_aload_n 0 rfl rfl dX12_road_44 ?_
        refine r_gI fo_RX12_143_12 dX12_road_45 H (fun x9 H => ?_)
        refine r_pF (po_RX12_178_12 _) (fun _ => rfl) (fun _ => rfl) dX12_road_48 H (fun h10 H => ?_)
        refine a_aload_n 0 rfl rfl dX12_road_51 ?_
        refine a_aload_n 0 rfl rfl dX12_road_52 ?_
        refine r_gI fo_RX12_146_12 dX12_road_53 H (fun x11 H => ?_)
        refine r_pF (po_RX12_181_12 _) (fun _ => rfl) (fun _ => rfl) dX12_road_56 H (fun h12 H => ?_)
        refine a_aload_n 0 rfl rfl dX12_road_59 ?_
        refine a_iconst (v := (0 : Int32)) (by decide) dX12_road_60 ?_
        refine r_pF (po_RX12_184_12 _) (fun _ => rfl) (fun _ => rfl) dX12_road_61 H (fun h13 H => ?_)
        refine a_iconst (v := (0 : Int32)) (by decide) dX12_road_64 ?_
        refine a_istore_n (lv1 := [(0, .ref v0), (1, .int v1), (2, .int (0 : Int32))]) rfl [1, 2, 0] (by decide) rfl dX12_road_65 ?_
        refine AQ.sub (lv1 := [(0, .ref v0), (2, .int (0 : Int32))]) [0, 2] rfl ?_
        obtain ⟨n, H⟩ := H
        exact l_X12_road_66  n _ _ H
      · have H := H.2 (c)
        refine a_bipush (v := (-4 : Int32)) (by decide) dX12_road_32 ?_
        exact r_reti rfl dX12_road_34 H
    · have H := H.2 (c)
      refine a_aload_n 0 rfl rfl dX12_road_18 ?_
      refine a_iconst (v := (1 : Int32)) (by decide) dX12_road_19 ?_
      refine r_Vi (q := (RX12, TX12, 51)) (av := [.int (1 : Int32)]) (rest := []) rfl rfl okX12_find H.1 rfl rfl wd1191 wd1193 wp31 ⟨Nat.le_of_ble_eq_true rfl, Nat.le_of_ble_eq_true rfl⟩ (Nat.le_of_ble_eq_true rfl) dX12_road_20 (s_X12_find H.2) (fun x14 h15 H => ?_)
      exact r_reti rfl dX12_road_23 H
  · have H := H.2 (c)
    refine a_iconst (v := (-1 : Int32)) (by decide) dX12_road_7 ?_
    exact r_reti rfl dX12_road_8 H
def f_X5_postOf (v0 : Int32) (v1 : Int32) (h : AH) (Q : Int32 → AH → Prop) : Prop :=
  Q (((v0.toUInt32 >>> (((3 : Int32) * v1).toUInt32 &&& Int32.toUInt32 31)).toInt32) &&& (7 : Int32)) h
set_option maxRecDepth 100000 in
set_option maxHeartbeats 4000000 in
theorem s_X5_postOf {o : Om} {v0 : Int32} {v1 : Int32} {h : AH} {Q : Int32 → AH → Prop} (H : f_X5_postOf v0 v1 h Q) : MQ' o kX5_postOf [.int v0, .int v1] h (qI Q) := by
  refine MQ'.of (by decide +kernel) (Nat.le_of_ble_eq_true rfl) ?_
  show AQ o kX5_postOf h 0 [(0, .int v0), (1, .int v1)] [] (qI Q)
  refine a_iload_n 0 rfl rfl dX5_postOf_0 ?_
  refine a_iconst (v := (3 : Int32)) (by decide) dX5_postOf_1 ?_
  refine a_iload_n 1 rfl rfl dX5_postOf_2 ?_
  refine a_imul dX5_postOf_3 ?_
  refine a_iushr dX5_postOf_4 ?_
  refine a_bipush (v := (7 : Int32)) (by decide) dX5_postOf_5 ?_
  refine a_iand dX5_postOf_7 ?_
  exact r_reti rfl dX5_postOf_8 H
def f_X5_tellPost (v0 : Int32) (v1 : Int32) (h : AH) (Q : Int32 → AH → Prop) : Prop :=
  f_X5_postOf v0 v1 h (fun x1 h2 => ((¬ (x1 = (7 : Int32)) → Q x1 h2) ∧ (x1 = (7 : Int32) → Q (-9 : Int32) h2)))
set_option maxRecDepth 100000 in
set_option maxHeartbeats 4000000 in
theorem s_X5_tellPost {o : Om} {v0 : Int32} {v1 : Int32} {h : AH} {Q : Int32 → AH → Prop} (H : f_X5_tellPost v0 v1 h Q) : MQ' o kX5_tellPost [.int v0, .int v1] h (qI Q) := by
  refine MQ'.of (by decide +kernel) (Nat.le_of_ble_eq_true rfl) ?_
  show AQ o kX5_tellPost h 0 [(0, .int v0), (1, .int v1)] [] (qI Q)
  refine a_iload_n 0 rfl rfl dX5_tellPost_0 ?_
  refine a_iload_n 1 rfl rfl dX5_tellPost_1 ?_
  refine r_Si (av := [.int v0, .int v1]) (rest := []) rfl rfl okX5_postOf wd518 wd519 ⟨Nat.le_of_ble_eq_true rfl, Nat.le_of_ble_eq_true rfl⟩ (Nat.le_of_ble_eq_true rfl) dX5_tellPost_2 (s_X5_postOf H) (fun x1 h2 H => ?_)
  refine a_istore_n (lv1 := [(0, .int v0), (1, .int v1), (2, .int x1)]) rfl [1, 2, 0] (by decide) rfl dX5_tellPost_5 ?_
  refine a_iload_n 2 rfl rfl dX5_tellPost_6 ?_
  refine a_bipush (v := (7 : Int32)) (by decide) dX5_tellPost_7 ?_
  refine a_icmp_ne (tgt := 17) dX5_tellPost_9 (by decide) (fun c => ?_) (fun c => ?_)
  · have H := H.1 (c)
    refine a_iload_n 2 rfl rfl dX5_tellPost_17 ?_
    exact r_reti rfl dX5_tellPost_18 H
  · have H := H.2 (c)
    refine a_bipush (v := (-9 : Int32)) (by decide) dX5_tellPost_12 ?_
    refine a_goto (tgt := 18) dX5_tellPost_14 (by decide) ?_
    exact r_reti rfl dX5_tellPost_18 H
def f_X9_timesMoved (v0 : Nat) (v1 : Int32) (h : AH) (Q : Int32 → AH → Prop) : Prop :=
  gI h v0 9 7 (fun x1 => f_X5_postOf x1 v1 h (fun x2 h3 => Q x2 h3))
set_option maxRecDepth 100000 in
set_option maxHeartbeats 4000000 in
theorem s_X9_timesMoved {o : Om} {v0 : Nat} {v1 : Int32} {h : AH} {Q : Int32 → AH → Prop} (H : f_X9_timesMoved v0 v1 h Q) : MQ' o kX9_timesMoved [.ref v0, .int v1] h (qI Q) := by
  refine MQ'.of (by decide +kernel) (Nat.le_of_ble_eq_true rfl) ?_
  show AQ o kX9_timesMoved h 0 [(0, .ref v0), (1, .int v1)] [] (qI Q)
  refine a_aload_n 0 rfl rfl dX9_timesMoved_0 ?_
  refine r_gI fo_RX9_30_9 dX9_timesMoved_1 H (fun x1 H => ?_)
  refine a_iload_n 1 rfl rfl dX9_timesMoved_4 ?_
  refine r_Si (av := [.int x1, .int v1]) (rest := []) rfl rfl okX5_postOf wd529 wd519 ⟨Nat.le_of_ble_eq_true rfl, Nat.le_of_ble_eq_true rfl⟩ (Nat.le_of_ble_eq_true rfl) dX9_timesMoved_5 (s_X5_postOf H) (fun x2 h3 H => ?_)
  exact r_reti rfl dX9_timesMoved_8 H
def B_X11_allMoves_4 (Q : Int32 → AH → Prop) (K4 : Int32 → Int32 → AH → Prop) (v0 : Nat) (v1 : Int32) (v2 : Int32) (v3 : Int32) (h : AH) : Prop :=
  gI h v0 11 11 (fun x1 => ((x1 ≤ v3 → Q v2 h) ∧ (¬ (x1 ≤ v3) → (((60 : Int32) ≤ v3 → Q v2 h) ∧ (¬ ((60 : Int32) ≤ v3) → gR h v0 11 2 (fun a2 => lQ h a2 3 v3 (fun a3 => isO h a3 9 ∧ f_X9_timesMoved a3 v1 h (fun x4 h5 => K4 (v2 + x4) (v3 + 1) h5))))))))
set_option maxRecDepth 100000 in
set_option maxHeartbeats 4000000 in
theorem b_X11_allMoves_4 {o : Om} {Q : Int32 → AH → Prop} {K4 : Int32 → Int32 → AH → Prop} {v0 : Nat} {v1 : Int32} {v2 : Int32} {v3 : Int32} {h : AH} (hK4 : ∀ w2 w3 h, K4 w2 w3 h → AQ o kX11_allMoves h 4 [(0, .ref v0), (1, .int v1), (2, .int w2), (3, .int w3)] [] (qI Q)) (H : B_X11_allMoves_4 Q K4 v0 v1 v2 v3 h) : AQ o kX11_allMoves h 4 [(0, .ref v0), (1, .int v1), (2, .int v2), (3, .int v3)] [] (qI Q) := by
  refine a_iload_n 3 rfl rfl dX11_allMoves_4 ?_
  refine a_aload_n 0 rfl rfl dX11_allMoves_5 ?_
  refine r_gI fo_RX11_41_11 dX11_allMoves_6 H (fun x1 H => ?_)
  refine a_icmp_ge (tgt := 37) dX11_allMoves_9 (by decide) (fun c => ?_) (fun c => ?_)
  · have H := H.1 (c)
    refine a_iload_n 2 rfl rfl dX11_allMoves_37 ?_
    exact r_reti rfl dX11_allMoves_38 H
  · have H := H.2 (c)
    refine a_iload_n 3 rfl rfl dX11_allMoves_12 ?_
    refine a_bipush (v := (60 : Int32)) (by decide) dX11_allMoves_13 ?_
    refine a_icmp_ge (tgt := 37) dX11_allMoves_15 (by decide) (fun c => ?_) (fun c => ?_)
    · have H := H.1 (c)
      refine a_iload_n 2 rfl rfl dX11_allMoves_37 ?_
      exact r_reti rfl dX11_allMoves_38 H
    · have H := H.2 (c)
      refine a_iload_n 2 rfl rfl dX11_allMoves_18 ?_
      refine a_aload_n 0 rfl rfl dX11_allMoves_19 ?_
      refine r_gR fo_RX11_20_11 dX11_allMoves_20 H (fun a2 H => ?_)
      refine a_iload_n 3 rfl rfl dX11_allMoves_23 ?_
      refine r_lQ (by decide) dX11_allMoves_24 H (fun a3 H => ?_)
      refine a_iload_n 1 rfl rfl dX11_allMoves_25 ?_
      refine r_Vi (q := (RX9, TX9, 8)) (av := [.int v1]) (rest := [.int v2]) rfl rfl okX9_timesMoved H.1 rfl rfl wd525 wd526 wd527 ⟨Nat.le_of_ble_eq_true rfl, Nat.le_of_ble_eq_true rfl⟩ (Nat.le_of_ble_eq_true rfl) dX11_allMoves_26 (s_X9_timesMoved H.2) (fun x4 h5 H => ?_)
      refine a_iadd dX11_allMoves_29 ?_
      refine a_istore_n (lv1 := [(0, .ref v0), (1, .int v1), (2, .int (v2 + x4)), (3, .int v3)]) rfl [1, 2, 0, 3] (by decide) rfl dX11_allMoves_30 ?_
      refine a_iinc (v := v3 + 1) (lv1 := [(0, .ref v0), (1, .int v1), (2, .int (v2 + x4)), (3, .int (v3 + 1))]) [1, 2, 3, 0] 3 rfl (by decide) rfl rfl dX11_allMoves_31 ?_
      refine a_goto (tgt := 4) dX11_allMoves_34 (by decide) ?_
      exact hK4 _ _ _ H
def L_X11_allMoves_4 (Q : Int32 → AH → Prop)  (v0 : Nat) (v1 : Int32) : Nat → Int32 → Int32 → AH → Prop
  | 0, _, _, _ => False
  | n + 1, v2, v3, h => B_X11_allMoves_4 Q (L_X11_allMoves_4 Q  v0 v1 n) v0 v1 v2 v3 h
theorem l_X11_allMoves_4 {o : Om} {Q : Int32 → AH → Prop}  {v0 : Nat} {v1 : Int32}  : ∀ (n : Nat) (v2 : Int32) (v3 : Int32) (h : AH), L_X11_allMoves_4 Q  v0 v1 n v2 v3 h → AQ o kX11_allMoves h 4 [(0, .ref v0), (1, .int v1), (2, .int v2), (3, .int v3)] [] (qI Q) := by
  intro n
  induction n with
  | zero => intro v2 v3 h H; exact H.elim
  | succ n ih => intro v2 v3 h H; exact b_X11_allMoves_4 ih H
def f_X11_allMoves (v0 : Nat) (v1 : Int32) (h : AH) (Q : Int32 → AH → Prop) : Prop :=
  ∃ n, L_X11_allMoves_4 Q  v0 v1 n (0 : Int32) (0 : Int32) h
set_option maxRecDepth 100000 in
set_option maxHeartbeats 4000000 in
theorem s_X11_allMoves {o : Om} {v0 : Nat} {v1 : Int32} {h : AH} {Q : Int32 → AH → Prop} (H : f_X11_allMoves v0 v1 h Q) : MQ' o kX11_allMoves [.ref v0, .int v1] h (qI Q) := by
  refine MQ'.of (by decide +kernel) (Nat.le_of_ble_eq_true rfl) ?_
  show AQ o kX11_allMoves h 0 [(0, .ref v0), (1, .int v1)] [] (qI Q)
  refine a_iconst (v := (0 : Int32)) (by decide) dX11_allMoves_0 ?_
  refine a_istore_n (lv1 := [(0, .ref v0), (1, .int v1), (2, .int (0 : Int32))]) rfl [1, 2, 0] (by decide) rfl dX11_allMoves_1 ?_
  refine a_iconst (v := (0 : Int32)) (by decide) dX11_allMoves_2 ?_
  refine a_istore_n (lv1 := [(0, .ref v0), (1, .int v1), (2, .int (0 : Int32)), (3, .int (0 : Int32))]) rfl [1, 2, 3, 0] (by decide) rfl dX11_allMoves_3 ?_
  obtain ⟨n, H⟩ := H
  exact l_X11_allMoves_4  n _ _ _ H
def f_X11_ofStone (v0 : Nat) (v1 : Int32) (v2 : Int32) (h : AH) (Q : Int32 → AH → Prop) : Prop :=
  ((v2 = 0 → gR h v0 11 8 (fun a1 => gR h a1 5 0 (fun a2 => lI h a2 v1 (fun x3 => Q x3 h)))) ∧ (v2 = 1 → gI h v0 11 9 (fun x4 => f_X5_tellPost x4 v1 h (fun x5 h6 => Q x5 h6))) ∧ (v2 = 2 → gR h v0 11 8 (fun a7 => gR h a7 5 1 (fun a8 => lI h a8 v1 (fun x9 => Q x9 h)))) ∧ (¬ v2 = 0 → ¬ v2 = 1 → ¬ v2 = 2 → isO h v0 11 ∧ f_X11_allMoves v0 v1 h (fun x10 h11 => Q x10 h11)))
set_option maxRecDepth 100000 in
set_option maxHeartbeats 4000000 in
theorem s_X11_ofStone {o : Om} {v0 : Nat} {v1 : Int32} {v2 : Int32} {h : AH} {Q : Int32 → AH → Prop} (H : f_X11_ofStone v0 v1 v2 h Q) : MQ' o kX11_ofStone [.ref v0, .int v1, .int v2] h (qI Q) := by
  refine MQ'.of (by decide +kernel) (Nat.le_of_ble_eq_true rfl) ?_
  show AQ o kX11_ofStone h 0 [(0, .ref v0), (1, .int v1), (2, .int v2)] [] (qI Q)
  refine a_iload_n 2 rfl rfl dX11_ofStone_0 ?_
  by_cases c0 : v2 = 0
  · have H := H.1 c0
    refine r_tab (off := 27) (tgt := 28) dX11_ofStone_1 c0 (by decide) (by decide) rfl (by decide) ?_
    refine a_aload_n 0 rfl rfl dX11_ofStone_28 ?_
    refine r_gR fo_RX11_60_11 dX11_ofStone_29 H (fun a1 H => ?_)
    refine r_gR fo_RX11_318_5 dX11_ofStone_32 H (fun a2 H => ?_)
    refine a_iload_n 1 rfl rfl dX11_ofStone_35 ?_
    refine r_lI dX11_ofStone_36 H (fun x3 H => ?_)
    exact r_reti rfl dX11_ofStone_37 H
  by_cases c1 : v2 = 1
  · have H := H.2.1 c1
    refine r_tab (off := 37) (tgt := 38) dX11_ofStone_1 c1 (by decide) (by decide) rfl (by decide) ?_
    refine a_aload_n 0 rfl rfl dX11_ofStone_38 ?_
    refine r_gI fo_RX11_34_11 dX11_ofStone_39 H (fun x4 H => ?_)
    refine a_iload_n 1 rfl rfl dX11_ofStone_42 ?_
    refine r_Si (av := [.int x4, .int v1]) (rest := []) rfl rfl okX5_tellPost wd515 wd516 ⟨Nat.le_of_ble_eq_true rfl, Nat.le_of_ble_eq_true rfl⟩ (Nat.le_of_ble_eq_true rfl) dX11_ofStone_43 (s_X5_tellPost H) (fun x5 h6 H => ?_)
    exact r_reti rfl dX11_ofStone_46 H
  by_cases c2 : v2 = 2
  · have H := H.2.2.1 c2
    refine r_tab (off := 46) (tgt := 47) dX11_ofStone_1 c2 (by decide) (by decide) rfl (by decide) ?_
    refine a_aload_n 0 rfl rfl dX11_ofStone_47 ?_
    refine r_gR fo_RX11_60_11 dX11_ofStone_48 H (fun a7 H => ?_)
    refine r_gR fo_RX11_321_5 dX11_ofStone_51 H (fun a8 H => ?_)
    refine a_iload_n 1 rfl rfl dX11_ofStone_54 ?_
    refine r_lI dX11_ofStone_55 H (fun x9 H => ?_)
    exact r_reti rfl dX11_ofStone_56 H
  have H := H.2.2.2 c0 c1 c2
  have e0 := lv_neT (a := 0) c0 (by decide)
  have e1 := lv_neT (a := 1) c1 (by decide)
  have e2 := lv_neT (a := 2) c2 (by decide)
  refine a_tableOut (tgt := 57) dX11_ofStone_1 (by omega) (by decide) ?_
  refine a_aload_n 0 rfl rfl dX11_ofStone_57 ?_
  refine a_iload_n 1 rfl rfl dX11_ofStone_58 ?_
  refine r_Vi (q := (RX11, TX11, 16)) (av := [.int v1]) (rest := []) rfl rfl okX11_allMoves H.1 rfl rfl wd521 wd523 wp11 ⟨Nat.le_of_ble_eq_true rfl, Nat.le_of_ble_eq_true rfl⟩ (Nat.le_of_ble_eq_true rfl) dX11_ofStone_59 (s_X11_allMoves H.2) (fun x10 h11 H => ?_)
  exact r_reti rfl dX11_ofStone_62 H
def f_X11_stone (v0 : Nat) (v1 : Int32) (v2 : Int32) (h : AH) (Q : Int32 → AH → Prop) : Prop :=
  gR h v0 11 8 (fun a1 => gI h a1 5 5 (fun x2 => f_X11_isBelow v1 x2 h (fun x3 h4 => ((x3 = 0 → Q (-1 : Int32) h4) ∧ (¬ (x3 = 0) → f_X11_isBelow v2 (4 : Int32) h4 (fun x5 h6 => ((¬ (x5 = 0) → isO h6 v0 11 ∧ f_X11_ofStone v0 v1 v2 h6 (fun x7 h8 => pF h8 v0 11 12 (.int x7) (fun h9 => Q (1 : Int32) h9))) ∧ (x5 = 0 → Q (-1 : Int32) h6))))))))
set_option maxRecDepth 100000 in
set_option maxHeartbeats 4000000 in
theorem s_X11_stone {o : Om} {v0 : Nat} {v1 : Int32} {v2 : Int32} {h : AH} {Q : Int32 → AH → Prop} (H : f_X11_stone v0 v1 v2 h Q) : MQ' o kX11_stone [.ref v0, .int v1, .int v2] h (qI Q) := by
  refine MQ'.of (by decide +kernel) (Nat.le_of_ble_eq_true rfl) ?_
  show AQ o kX11_stone h 0 [(0, .ref v0), (1, .int v1), (2, .int v2)] [] (qI Q)
  refine a_iload_n 1 rfl rfl dX11_stone_0 ?_
  refine a_aload_n 0 rfl rfl dX11_stone_1 ?_
  refine r_gR fo_RX11_60_11 dX11_stone_2 H (fun a1 H => ?_)
  refine r_gI fo_RX11_146_5 dX11_stone_5 H (fun x2 H => ?_)
  refine r_Si (av := [.int v1, .int x2]) (rest := []) rfl rfl okX11_isBelow wd257 wd258 ⟨Nat.le_of_ble_eq_true rfl, Nat.le_of_ble_eq_true rfl⟩ (Nat.le_of_ble_eq_true rfl) dX11_stone_8 (s_X11_isBelow H) (fun x3 h4 H => ?_)
  refine a_if_eq (tgt := 22) dX11_stone_11 (by decide) (fun c => ?_) (fun c => ?_)
  · have H := H.1 (c)
    refine a_iconst (v := (-1 : Int32)) (by decide) dX11_stone_22 ?_
    exact r_reti rfl dX11_stone_23 H
  · have H := H.2 (c)
    refine a_iload_n 2 rfl rfl dX11_stone_14 ?_
    refine a_iconst (v := (4 : Int32)) (by decide) dX11_stone_15 ?_
    refine r_Si (av := [.int v2, .int (4 : Int32)]) (rest := []) rfl rfl okX11_isBelow wd257 wd258 ⟨Nat.le_of_ble_eq_true rfl, Nat.le_of_ble_eq_true rfl⟩ (Nat.le_of_ble_eq_true rfl) dX11_stone_16 (s_X11_isBelow H) (fun x5 h6 H => ?_)
    refine a_if_ne (tgt := 24) dX11_stone_19 (by decide) (fun c => ?_) (fun c => ?_)
    · have H := H.1 (c)
      refine a_aload_n 0 rfl rfl dX11_stone_24 ?_
      refine a_aload_n 0 rfl rfl dX11_stone_25 ?_
      refine a_iload_n 1 rfl rfl dX11_stone_26 ?_
      refine a_iload_n 2 rfl rfl dX11_stone_27 ?_
      refine r_Vi (q := (RX11, TX11, 16)) (av := [.int v1, .int v2]) (rest := [.ref v0]) rfl rfl okX11_ofStone H.1 rfl rfl wd511 wd513 wp10 ⟨Nat.le_of_ble_eq_true rfl, Nat.le_of_ble_eq_true rfl⟩ (Nat.le_of_ble_eq_true rfl) dX11_stone_28 (s_X11_ofStone H.2) (fun x7 h8 H => ?_)
      refine r_pF (po_RX11_44_11 _) (fun _ => rfl) (fun _ => rfl) dX11_stone_31 H (fun h9 H => ?_)
      refine a_iconst (v := (1 : Int32)) (by decide) dX11_stone_34 ?_
      exact r_reti rfl dX11_stone_35 H
    · have H := H.2 (c)
      refine a_iconst (v := (-1 : Int32)) (by decide) dX11_stone_22 ?_
      exact r_reti rfl dX11_stone_23 H
def f_X12_isStone (v0 : Nat) (v1 : Int32) (h : AH) (Q : Int32 → AH → Prop) : Prop :=
  gI h v0 12 10 (fun x1 => f_X12_in v1.toInt64 (0 : Int64) ((x1 - (1 : Int32)).toInt64) h (fun x2 h3 => (bl x2 ∧ Q x2 h3)))
set_option maxRecDepth 100000 in
set_option maxHeartbeats 4000000 in
theorem s_X12_isStone {o : Om} {v0 : Nat} {v1 : Int32} {h : AH} {Q : Int32 → AH → Prop} (H : f_X12_isStone v0 v1 h Q) : MQ' o kX12_isStone [.ref v0, .int v1] h (qI Q) := by
  refine MQ'.of (by decide +kernel) (Nat.le_of_ble_eq_true rfl) ?_
  show AQ o kX12_isStone h 0 [(0, .ref v0), (1, .int v1)] [] (qI Q)
  refine a_iload_n 1 rfl rfl dX12_isStone_0 ?_
  refine a_i2l dX12_isStone_1 ?_
  refine a_lconst (v := (0 : Int64)) (by decide) dX12_isStone_2 ?_
  refine a_aload_n 0 rfl rfl dX12_isStone_3 ?_
  refine r_gI fo_RX12_178_12 dX12_isStone_4 H (fun x1 H => ?_)
  refine a_iconst (v := (1 : Int32)) (by decide) dX12_isStone_7 ?_
  refine a_isub dX12_isStone_8 ?_
  refine a_i2l dX12_isStone_9 ?_
  refine r_Si (av := [.long v1.toInt64, .long (0 : Int64), .long ((x1 - (1 : Int32)).toInt64)]) (rest := []) rfl rfl okX12_in wd1188 wd1189 ⟨Nat.le_of_ble_eq_true rfl, Nat.le_of_ble_eq_true rfl⟩ (Nat.le_of_ble_eq_true rfl) dX12_isStone_10 (s_X12_in H) (fun x2 h3 H => ?_)
  exact r_retz rfl H.1 dX12_isStone_13 H.2
def f_X12_spotOf (v0 : Int32) (v1 : Int32) (h : AH) (Q : Int32 → AH → Prop) : Prop :=
  Q ((v0 >>> (((3 : Int32) * v1) &&& 31)) &&& (7 : Int32)) h
set_option maxRecDepth 100000 in
set_option maxHeartbeats 4000000 in
theorem s_X12_spotOf {o : Om} {v0 : Int32} {v1 : Int32} {h : AH} {Q : Int32 → AH → Prop} (H : f_X12_spotOf v0 v1 h Q) : MQ' o kX12_spotOf [.int v0, .int v1] h (qI Q) := by
  refine MQ'.of (by decide +kernel) (Nat.le_of_ble_eq_true rfl) ?_
  show AQ o kX12_spotOf h 0 [(0, .int v0), (1, .int v1)] [] (qI Q)
  refine a_iload_n 0 rfl rfl dX12_spotOf_0 ?_
  refine a_iconst (v := (3 : Int32)) (by decide) dX12_spotOf_1 ?_
  refine a_iload_n 1 rfl rfl dX12_spotOf_2 ?_
  refine a_imul dX12_spotOf_3 ?_
  refine a_ishr dX12_spotOf_4 ?_
  refine a_bipush (v := (7 : Int32)) (by decide) dX12_spotOf_5 ?_
  refine a_iand dX12_spotOf_7 ?_
  exact r_reti rfl dX12_spotOf_8 H
def f_X12_told (v0 : Int32) (h : AH) (Q : Int32 → AH → Prop) : Prop :=
  ((¬ (v0 = (7 : Int32)) → Q v0 h) ∧ (v0 = (7 : Int32) → Q (-9 : Int32) h))
set_option maxRecDepth 100000 in
set_option maxHeartbeats 4000000 in
theorem s_X12_told {o : Om} {v0 : Int32} {h : AH} {Q : Int32 → AH → Prop} (H : f_X12_told v0 h Q) : MQ' o kX12_told [.int v0] h (qI Q) := by
  refine MQ'.of (by decide +kernel) (Nat.le_of_ble_eq_true rfl) ?_
  show AQ o kX12_told h 0 [(0, .int v0)] [] (qI Q)
  refine a_iload_n 0 rfl rfl dX12_told_0 ?_
  refine a_bipush (v := (7 : Int32)) (by decide) dX12_told_1 ?_
  refine a_icmp_ne (tgt := 11) dX12_told_3 (by decide) (fun c => ?_) (fun c => ?_)
  · have H := H.1 (c)
    refine a_iload_n 0 rfl rfl dX12_told_11 ?_
    exact r_reti rfl dX12_told_12 H
  · have H := H.2 (c)
    refine a_bipush (v := (-9 : Int32)) (by decide) dX12_told_6 ?_
    refine a_goto (tgt := 12) dX12_told_8 (by decide) ?_
    exact r_reti rfl dX12_told_12 H
def f_X12_home (v0 : Nat) (v1 : Int32) (h : AH) (Q : Int32 → AH → Prop) : Prop :=
  gR h v0 12 11 (fun a1 => lI h a1 v1 (fun x2 => gI h v0 12 9 (fun x3 => ((x3 < x2 → Q (-9 : Int32) h) ∧ (¬ (x3 < x2) → gR h v0 12 11 (fun a4 => lI h a4 v1 (fun x5 => Q (x5 - (1 : Int32)) h)))))))
set_option maxRecDepth 100000 in
set_option maxHeartbeats 4000000 in
theorem s_X12_home {o : Om} {v0 : Nat} {v1 : Int32} {h : AH} {Q : Int32 → AH → Prop} (H : f_X12_home v0 v1 h Q) : MQ' o kX12_home [.ref v0, .int v1] h (qI Q) := by
  refine MQ'.of (by decide +kernel) (Nat.le_of_ble_eq_true rfl) ?_
  show AQ o kX12_home h 0 [(0, .ref v0), (1, .int v1)] [] (qI Q)
  refine a_aload_n 0 rfl rfl dX12_home_0 ?_
  refine r_gR fo_RX12_29_12 dX12_home_1 H (fun a1 H => ?_)
  refine a_iload_n 1 rfl rfl dX12_home_4 ?_
  refine r_lI dX12_home_5 H (fun x2 H => ?_)
  refine a_aload_n 0 rfl rfl dX12_home_6 ?_
  refine r_gI fo_RX12_175_12 dX12_home_7 H (fun x3 H => ?_)
  refine a_icmp_gt (tgt := 24) dX12_home_10 (by decide) (fun c => ?_) (fun c => ?_)
  · have H := H.1 (c)
    refine a_bipush (v := (-9 : Int32)) (by decide) dX12_home_24 ?_
    exact r_reti rfl dX12_home_26 H
  · have H := H.2 (c)
    refine a_aload_n 0 rfl rfl dX12_home_13 ?_
    refine r_gR fo_RX12_29_12 dX12_home_14 H (fun a4 H => ?_)
    refine a_iload_n 1 rfl rfl dX12_home_17 ?_
    refine r_lI dX12_home_18 H (fun x5 H => ?_)
    refine a_iconst (v := (1 : Int32)) (by decide) dX12_home_19 ?_
    refine a_isub dX12_home_20 ?_
    refine a_goto (tgt := 26) dX12_home_21 (by decide) ?_
    exact r_reti rfl dX12_home_26 H
def B_X12_stone_74 (Q : Int32 → AH → Prop)  (t0 : Nat) (t1 : Int32) (h : AH) : Prop :=
  isO h t0 12 ∧ f_X12_tells t0 t1 h (fun x1 h2 => Q x1 h2)
set_option maxRecDepth 100000 in
set_option maxHeartbeats 4000000 in
theorem b_X12_stone_74 {o : Om} {Q : Int32 → AH → Prop}  {t0 : Nat} {t1 : Int32} {h : AH}  (H : B_X12_stone_74 Q  t0 t1 h) : AQ o kX12_stone h 74 [] [.int t1, .ref t0] (qI Q) := by
  refine r_Vi (q := (RX12, TX12, 51)) (av := [.int t1]) (rest := []) rfl rfl okX12_tells H.1 rfl rfl wd1211 wd1213 wp34 ⟨Nat.le_of_ble_eq_true rfl, Nat.le_of_ble_eq_true rfl⟩ (Nat.le_of_ble_eq_true rfl) dX12_stone_74 (s_X12_tells H.2) (fun x1 h2 H => ?_)
  exact r_reti rfl dX12_stone_77 H
def f_X12_stone (v0 : Nat) (v1 : Int32) (v2 : Int32) (h : AH) (Q : Int32 → AH → Prop) : Prop :=
  isO h v0 12 ∧ f_X12_isStone v0 v1 h (fun x1 h2 => ((x1 = 0 → Q (-1 : Int32) h2) ∧ (¬ (x1 = 0) → f_X12_in v2.toInt64 (0 : Int64) (3 : Int64) h2 (fun x3 h4 => ((¬ (x3 = 0) → ((¬ (v2 = 0) → ((¬ (v2 = (1 : Int32)) → ((¬ (v2 = (2 : Int32)) → gR h4 v0 12 19 (fun a5 => lI h4 a5 v1 (fun x6 => B_X12_stone_74 Q  v0 x6 h4))) ∧ (v2 = (2 : Int32) → isO h4 v0 12 ∧ f_X12_home v0 v1 h4 (fun x7 h8 => B_X12_stone_74 Q  v0 x7 h8)))) ∧ (v2 = (1 : Int32) → gI h4 v0 12 17 (fun x9 => f_X12_spotOf x9 v1 h4 (fun x10 h11 => f_X12_told x10 h11 (fun x12 h13 => B_X12_stone_74 Q  v0 x12 h13)))))) ∧ (v2 = 0 → gR h4 v0 12 11 (fun a14 => lI h4 a14 v1 (fun x15 => B_X12_stone_74 Q  v0 x15 h4))))) ∧ (x3 = 0 → Q (-1 : Int32) h4))))))
set_option maxRecDepth 100000 in
set_option maxHeartbeats 4000000 in
theorem s_X12_stone {o : Om} {v0 : Nat} {v1 : Int32} {v2 : Int32} {h : AH} {Q : Int32 → AH → Prop} (H : f_X12_stone v0 v1 v2 h Q) : MQ' o kX12_stone [.ref v0, .int v1, .int v2] h (qI Q) := by
  refine MQ'.of (by decide +kernel) (Nat.le_of_ble_eq_true rfl) ?_
  show AQ o kX12_stone h 0 [(0, .ref v0), (1, .int v1), (2, .int v2)] [] (qI Q)
  refine a_aload_n 0 rfl rfl dX12_stone_0 ?_
  refine a_iload_n 1 rfl rfl dX12_stone_1 ?_
  refine r_Vi (q := (RX12, TX12, 51)) (av := [.int v1]) (rest := []) rfl rfl okX12_isStone H.1 rfl rfl wd1282 wd1284 wp42 ⟨Nat.le_of_ble_eq_true rfl, Nat.le_of_ble_eq_true rfl⟩ (Nat.le_of_ble_eq_true rfl) dX12_stone_2 (s_X12_isStone H.2) (fun x1 h2 H => ?_)
  refine a_if_eq (tgt := 20) dX12_stone_5 (by decide) (fun c => ?_) (fun c => ?_)
  · have H := H.1 (c)
    refine a_iconst (v := (-1 : Int32)) (by decide) dX12_stone_20 ?_
    exact r_reti rfl dX12_stone_21 H
  · have H := H.2 (c)
    refine a_iload_n 2 rfl rfl dX12_stone_8 ?_
    refine a_i2l dX12_stone_9 ?_
    refine a_lconst (v := (0 : Int64)) (by decide) dX12_stone_10 ?_
    refine a_ldc2 (v := (3 : Int64)) wd1234 dX12_stone_11 ?_
    refine r_Si (av := [.long v2.toInt64, .long (0 : Int64), .long (3 : Int64)]) (rest := []) rfl rfl okX12_in wd1188 wd1189 ⟨Nat.le_of_ble_eq_true rfl, Nat.le_of_ble_eq_true rfl⟩ (Nat.le_of_ble_eq_true rfl) dX12_stone_14 (s_X12_in H) (fun x3 h4 H => ?_)
    refine a_if_ne (tgt := 22) dX12_stone_17 (by decide) (fun c => ?_) (fun c => ?_)
    · have H := H.1 (c)
      refine a_aload_n 0 rfl rfl dX12_stone_22 ?_
      refine a_iload_n 2 rfl rfl dX12_stone_23 ?_
      refine a_if_ne (tgt := 36) dX12_stone_24 (by decide) (fun c => ?_) (fun c => ?_)
      · have H := H.1 (c)
        refine a_iload_n 2 rfl rfl dX12_stone_36 ?_
        refine a_iconst (v := (1 : Int32)) (by decide) dX12_stone_37 ?_
        refine a_icmp_ne (tgt := 55) dX12_stone_38 (by decide) (fun c => ?_) (fun c => ?_)
        · have H := H.1 (c)
          refine a_iload_n 2 rfl rfl dX12_stone_55 ?_
          refine a_iconst (v := (2 : Int32)) (by decide) dX12_stone_56 ?_
          refine a_icmp_ne (tgt := 68) dX12_stone_57 (by decide) (fun c => ?_) (fun c => ?_)
          · have H := H.1 (c)
            refine a_aload_n 0 rfl rfl dX12_stone_68 ?_
            refine r_gR fo_RX12_44_12 dX12_stone_69 H (fun a5 H => ?_)
            refine a_iload_n 1 rfl rfl dX12_stone_72 ?_
            refine r_lI dX12_stone_73 H (fun x6 H => ?_)
            refine AQ.sub (lv1 := []) [] rfl ?_
            exact b_X12_stone_74  H
          · have H := H.2 (c)
            refine a_aload_n 0 rfl rfl dX12_stone_60 ?_
            refine a_iload_n 1 rfl rfl dX12_stone_61 ?_
            refine r_Vi (q := (RX12, TX12, 51)) (av := [.int v1]) (rest := [.ref v0]) rfl rfl okX12_home H.1 rfl rfl wd1292 wd1294 wp43 ⟨Nat.le_of_ble_eq_true rfl, Nat.le_of_ble_eq_true rfl⟩ (Nat.le_of_ble_eq_true rfl) dX12_stone_62 (s_X12_home H.2) (fun x7 h8 H => ?_)
            refine a_goto (tgt := 74) dX12_stone_65 (by decide) ?_
            refine AQ.sub (lv1 := []) [] rfl ?_
            exact b_X12_stone_74  H
        · have H := H.2 (c)
          refine a_aload_n 0 rfl rfl dX12_stone_41 ?_
          refine r_gI fo_RX12_184_12 dX12_stone_42 H (fun x9 H => ?_)
          refine a_iload_n 1 rfl rfl dX12_stone_45 ?_
          refine r_Si (av := [.int x9, .int v1]) (rest := [.ref v0]) rfl rfl okX12_spotOf wd1286 wd1287 ⟨Nat.le_of_ble_eq_true rfl, Nat.le_of_ble_eq_true rfl⟩ (Nat.le_of_ble_eq_true rfl) dX12_stone_46 (s_X12_spotOf H) (fun x10 h11 H => ?_)
          refine r_Si (av := [.int x10]) (rest := [.ref v0]) rfl rfl okX12_told wd1289 wd1290 ⟨Nat.le_of_ble_eq_true rfl, Nat.le_of_ble_eq_true rfl⟩ (Nat.le_of_ble_eq_true rfl) dX12_stone_49 (s_X12_told H) (fun x12 h13 H => ?_)
          refine a_goto (tgt := 74) dX12_stone_52 (by decide) ?_
          refine AQ.sub (lv1 := []) [] rfl ?_
          exact b_X12_stone_74  H
      · have H := H.2 (c)
        refine a_aload_n 0 rfl rfl dX12_stone_27 ?_
        refine r_gR fo_RX12_29_12 dX12_stone_28 H (fun a14 H => ?_)
        refine a_iload_n 1 rfl rfl dX12_stone_31 ?_
        refine r_lI dX12_stone_32 H (fun x15 H => ?_)
        refine a_goto (tgt := 74) dX12_stone_33 (by decide) ?_
        refine AQ.sub (lv1 := []) [] rfl ?_
        exact b_X12_stone_74  H
    · have H := H.2 (c)
      refine a_iconst (v := (-1 : Int32)) (by decide) dX12_stone_20 ?_
      exact r_reti rfl dX12_stone_21 H
def f_X5_walkerAt (v0 : Nat) (v1 : Int32) (h : AH) (Q : Option Nat → AH → Prop) : Prop :=
  ((v1 < 0 → Q none h) ∧ (¬ (v1 < 0) → gI h v0 5 6 (fun x1 => ((x1 ≤ v1 → Q none h) ∧ (¬ (x1 ≤ v1) → gR h v0 5 3 (fun a2 => lQ h a2 4 v1 (fun a3 => Q (some a3) h)))))))
set_option maxRecDepth 100000 in
set_option maxHeartbeats 4000000 in
theorem s_X5_walkerAt {o : Om} {v0 : Nat} {v1 : Int32} {h : AH} {Q : Option Nat → AH → Prop} (H : f_X5_walkerAt v0 v1 h Q) : MQ' o kX5_walkerAt [.ref v0, .int v1] h (qO Q) := by
  refine MQ'.of (by decide +kernel) (Nat.le_of_ble_eq_true rfl) ?_
  show AQ o kX5_walkerAt h 0 [(0, .ref v0), (1, .int v1)] [] (qO Q)
  refine a_iload_n 1 rfl rfl dX5_walkerAt_0 ?_
  refine a_if_lt (tgt := 21) dX5_walkerAt_1 (by decide) (fun c => ?_) (fun c => ?_)
  · have H := H.1 (c)
    refine a_null dX5_walkerAt_21 ?_
    exact r_reto (q := none) rfl dX5_walkerAt_22 H
  · have H := H.2 (c)
    refine a_iload_n 1 rfl rfl dX5_walkerAt_4 ?_
    refine a_aload_n 0 rfl rfl dX5_walkerAt_5 ?_
    refine r_gI fo_RX5_34_5 dX5_walkerAt_6 H (fun x1 H => ?_)
    refine a_icmp_ge (tgt := 21) dX5_walkerAt_9 (by decide) (fun c => ?_) (fun c => ?_)
    · have H := H.1 (c)
      refine a_null dX5_walkerAt_21 ?_
      exact r_reto (q := none) rfl dX5_walkerAt_22 H
    · have H := H.2 (c)
      refine a_aload_n 0 rfl rfl dX5_walkerAt_12 ?_
      refine r_gR fo_RX5_23_5 dX5_walkerAt_13 H (fun a2 H => ?_)
      refine a_iload_n 1 rfl rfl dX5_walkerAt_16 ?_
      refine r_lQ (by decide) dX5_walkerAt_17 H (fun a3 H => ?_)
      refine a_goto (tgt := 22) dX5_walkerAt_18 (by decide) ?_
      exact r_reto (q := (some a3)) rfl dX5_walkerAt_22 H
def f_X0_kind (v0 : Nat) (h : AH) (Q : Int32 → AH → Prop) : Prop :=
  Q (2 : Int32) h
set_option maxRecDepth 100000 in
set_option maxHeartbeats 4000000 in
theorem s_X0_kind {o : Om} {v0 : Nat} {h : AH} {Q : Int32 → AH → Prop} (H : f_X0_kind v0 h Q) : MQ' o kX0_kind [.ref v0] h (qI Q) := by
  refine MQ'.of (by decide +kernel) (Nat.le_of_ble_eq_true rfl) ?_
  show AQ o kX0_kind h 0 [(0, .ref v0)] [] (qI Q)
  refine a_iconst (v := (2 : Int32)) (by decide) dX0_kind_0 ?_
  exact r_reti rfl dX0_kind_1 H
def f_X1_kind (v0 : Nat) (h : AH) (Q : Int32 → AH → Prop) : Prop :=
  Q (1 : Int32) h
set_option maxRecDepth 100000 in
set_option maxHeartbeats 4000000 in
theorem s_X1_kind {o : Om} {v0 : Nat} {h : AH} {Q : Int32 → AH → Prop} (H : f_X1_kind v0 h Q) : MQ' o kX1_kind [.ref v0] h (qI Q) := by
  refine MQ'.of (by decide +kernel) (Nat.le_of_ble_eq_true rfl) ?_
  show AQ o kX1_kind h 0 [(0, .ref v0)] [] (qI Q)
  refine a_iconst (v := (1 : Int32)) (by decide) dX1_kind_0 ?_
  exact r_reti rfl dX1_kind_1 H
def f_X2_kind (v0 : Nat) (h : AH) (Q : Int32 → AH → Prop) : Prop :=
  Q (3 : Int32) h
set_option maxRecDepth 100000 in
set_option maxHeartbeats 4000000 in
theorem s_X2_kind {o : Om} {v0 : Nat} {h : AH} {Q : Int32 → AH → Prop} (H : f_X2_kind v0 h Q) : MQ' o kX2_kind [.ref v0] h (qI Q) := by
  refine MQ'.of (by decide +kernel) (Nat.le_of_ble_eq_true rfl) ?_
  show AQ o kX2_kind h 0 [(0, .ref v0)] [] (qI Q)
  refine a_iconst (v := (3 : Int32)) (by decide) dX2_kind_0 ?_
  exact r_reti rfl dX2_kind_1 H
def f_X3_kind (v0 : Nat) (h : AH) (Q : Int32 → AH → Prop) : Prop :=
  Q (5 : Int32) h
set_option maxRecDepth 100000 in
set_option maxHeartbeats 4000000 in
theorem s_X3_kind {o : Om} {v0 : Nat} {h : AH} {Q : Int32 → AH → Prop} (H : f_X3_kind v0 h Q) : MQ' o kX3_kind [.ref v0] h (qI Q) := by
  refine MQ'.of (by decide +kernel) (Nat.le_of_ble_eq_true rfl) ?_
  show AQ o kX3_kind h 0 [(0, .ref v0)] [] (qI Q)
  refine a_iconst (v := (5 : Int32)) (by decide) dX3_kind_0 ?_
  exact r_reti rfl dX3_kind_1 H
def f_X8_kind (v0 : Nat) (h : AH) (Q : Int32 → AH → Prop) : Prop :=
  Q (4 : Int32) h
set_option maxRecDepth 100000 in
set_option maxHeartbeats 4000000 in
theorem s_X8_kind {o : Om} {v0 : Nat} {h : AH} {Q : Int32 → AH → Prop} (H : f_X8_kind v0 h Q) : MQ' o kX8_kind [.ref v0] h (qI Q) := by
  refine MQ'.of (by decide +kernel) (Nat.le_of_ble_eq_true rfl) ?_
  show AQ o kX8_kind h 0 [(0, .ref v0)] [] (qI Q)
  refine a_iconst (v := (4 : Int32)) (by decide) dX8_kind_0 ?_
  exact r_reti rfl dX8_kind_1 H
def f_X10_kind (v0 : Nat) (h : AH) (Q : Int32 → AH → Prop) : Prop :=
  Q (0 : Int32) h
set_option maxRecDepth 100000 in
set_option maxHeartbeats 4000000 in
theorem s_X10_kind {o : Om} {v0 : Nat} {h : AH} {Q : Int32 → AH → Prop} (H : f_X10_kind v0 h Q) : MQ' o kX10_kind [.ref v0] h (qI Q) := by
  refine MQ'.of (by decide +kernel) (Nat.le_of_ble_eq_true rfl) ?_
  show AQ o kX10_kind h 0 [(0, .ref v0)] [] (qI Q)
  refine a_iconst (v := (0 : Int32)) (by decide) dX10_kind_0 ?_
  exact r_reti rfl dX10_kind_1 H
def v_kind0 (a : Nat)  (h : AH) (Q : Int32 → AH → Prop) : Prop := ∃ ci fs, h.2.2 a = some (.inr (ci, fs)) ∧ ((ci = 0 ∧ f_X0_kind a  h Q) ∨ (ci = 1 ∧ f_X1_kind a  h Q) ∨ (ci = 2 ∧ f_X2_kind a  h Q) ∨ (ci = 3 ∧ f_X3_kind a  h Q) ∨ (ci = 8 ∧ f_X8_kind a  h Q) ∨ (ci = 10 ∧ f_X10_kind a  h Q))
def B_X11_allPay_4 (Q : Int32 → AH → Prop) (K4 : Int32 → Int32 → AH → Prop) (v0 : Nat) (v1 : Int32) (v2 : Int32) (v3 : Int32) (h : AH) : Prop :=
  gI h v0 11 11 (fun x1 => ((x1 ≤ v3 → Q v2 h) ∧ (¬ (x1 ≤ v3) → (((60 : Int32) ≤ v3 → Q v2 h) ∧ (¬ ((60 : Int32) ≤ v3) → gR h v0 11 2 (fun a2 => lQ h a2 3 v3 (fun a3 => gI h a3 9 4 (fun x4 => ((¬ (x4 = v1) → K4 v2 (v3 + 1) h) ∧ (x4 = v1 → gR h v0 11 2 (fun a5 => lQ h a5 3 v3 (fun a6 => gI h a6 9 5 (fun x7 => K4 (v2 + x7) (v3 + 1) h)))))))))))))
set_option maxRecDepth 100000 in
set_option maxHeartbeats 4000000 in
theorem b_X11_allPay_4 {o : Om} {Q : Int32 → AH → Prop} {K4 : Int32 → Int32 → AH → Prop} {v0 : Nat} {v1 : Int32} {v2 : Int32} {v3 : Int32} {h : AH} (hK4 : ∀ w2 w3 h, K4 w2 w3 h → AQ o kX11_allPay h 4 [(0, .ref v0), (1, .int v1), (2, .int w2), (3, .int w3)] [] (qI Q)) (H : B_X11_allPay_4 Q K4 v0 v1 v2 v3 h) : AQ o kX11_allPay h 4 [(0, .ref v0), (1, .int v1), (2, .int v2), (3, .int v3)] [] (qI Q) := by
  refine a_iload_n 3 rfl rfl dX11_allPay_4 ?_
  refine a_aload_n 0 rfl rfl dX11_allPay_5 ?_
  refine r_gI fo_RX11_41_11 dX11_allPay_6 H (fun x1 H => ?_)
  refine a_icmp_ge (tgt := 49) dX11_allPay_9 (by decide) (fun c => ?_) (fun c => ?_)
  · have H := H.1 (c)
    refine a_iload_n 2 rfl rfl dX11_allPay_49 ?_
    exact r_reti rfl dX11_allPay_50 H
  · have H := H.2 (c)
    refine a_iload_n 3 rfl rfl dX11_allPay_12 ?_
    refine a_bipush (v := (60 : Int32)) (by decide) dX11_allPay_13 ?_
    refine a_icmp_ge (tgt := 49) dX11_allPay_15 (by decide) (fun c => ?_) (fun c => ?_)
    · have H := H.1 (c)
      refine a_iload_n 2 rfl rfl dX11_allPay_49 ?_
      exact r_reti rfl dX11_allPay_50 H
    · have H := H.2 (c)
      refine a_aload_n 0 rfl rfl dX11_allPay_18 ?_
      refine r_gR fo_RX11_20_11 dX11_allPay_19 H (fun a2 H => ?_)
      refine a_iload_n 3 rfl rfl dX11_allPay_22 ?_
      refine r_lQ (by decide) dX11_allPay_23 H (fun a3 H => ?_)
      refine r_gI fo_RX11_307_9 dX11_allPay_24 H (fun x4 H => ?_)
      refine a_iload_n 1 rfl rfl dX11_allPay_27 ?_
      refine a_icmp_ne (tgt := 43) dX11_allPay_28 (by decide) (fun c => ?_) (fun c => ?_)
      · have H := H.1 (c)
        refine a_iinc (v := v3 + 1) (lv1 := [(0, .ref v0), (1, .int v1), (2, .int v2), (3, .int (v3 + 1))]) [1, 2, 3, 0] 3 rfl (by decide) rfl rfl dX11_allPay_43 ?_
        refine a_goto (tgt := 4) dX11_allPay_46 (by decide) ?_
        exact hK4 _ _ _ H
      · have H := H.2 (c)
        refine a_iload_n 2 rfl rfl dX11_allPay_31 ?_
        refine a_aload_n 0 rfl rfl dX11_allPay_32 ?_
        refine r_gR fo_RX11_20_11 dX11_allPay_33 H (fun a5 H => ?_)
        refine a_iload_n 3 rfl rfl dX11_allPay_36 ?_
        refine r_lQ (by decide) dX11_allPay_37 H (fun a6 H => ?_)
        refine r_gI fo_RX11_183_9 dX11_allPay_38 H (fun x7 H => ?_)
        refine a_iadd dX11_allPay_41 ?_
        refine a_istore_n (lv1 := [(0, .ref v0), (1, .int v1), (2, .int (v2 + x7)), (3, .int v3)]) rfl [1, 2, 0, 3] (by decide) rfl dX11_allPay_42 ?_
        refine a_iinc (v := v3 + 1) (lv1 := [(0, .ref v0), (1, .int v1), (2, .int (v2 + x7)), (3, .int (v3 + 1))]) [1, 2, 3, 0] 3 rfl (by decide) rfl rfl dX11_allPay_43 ?_
        refine a_goto (tgt := 4) dX11_allPay_46 (by decide) ?_
        exact hK4 _ _ _ H
def L_X11_allPay_4 (Q : Int32 → AH → Prop)  (v0 : Nat) (v1 : Int32) : Nat → Int32 → Int32 → AH → Prop
  | 0, _, _, _ => False
  | n + 1, v2, v3, h => B_X11_allPay_4 Q (L_X11_allPay_4 Q  v0 v1 n) v0 v1 v2 v3 h
theorem l_X11_allPay_4 {o : Om} {Q : Int32 → AH → Prop}  {v0 : Nat} {v1 : Int32}  : ∀ (n : Nat) (v2 : Int32) (v3 : Int32) (h : AH), L_X11_allPay_4 Q  v0 v1 n v2 v3 h → AQ o kX11_allPay h 4 [(0, .ref v0), (1, .int v1), (2, .int v2), (3, .int v3)] [] (qI Q) := by
  intro n
  induction n with
  | zero => intro v2 v3 h H; exact H.elim
  | succ n ih => intro v2 v3 h H; exact b_X11_allPay_4 ih H
def f_X11_allPay (v0 : Nat) (v1 : Int32) (h : AH) (Q : Int32 → AH → Prop) : Prop :=
  ∃ n, L_X11_allPay_4 Q  v0 v1 n (0 : Int32) (0 : Int32) h
set_option maxRecDepth 100000 in
set_option maxHeartbeats 4000000 in
theorem s_X11_allPay {o : Om} {v0 : Nat} {v1 : Int32} {h : AH} {Q : Int32 → AH → Prop} (H : f_X11_allPay v0 v1 h Q) : MQ' o kX11_allPay [.ref v0, .int v1] h (qI Q) := by
  refine MQ'.of (by decide +kernel) (Nat.le_of_ble_eq_true rfl) ?_
  show AQ o kX11_allPay h 0 [(0, .ref v0), (1, .int v1)] [] (qI Q)
  refine a_iconst (v := (0 : Int32)) (by decide) dX11_allPay_0 ?_
  refine a_istore_n (lv1 := [(0, .ref v0), (1, .int v1), (2, .int (0 : Int32))]) rfl [1, 2, 0] (by decide) rfl dX11_allPay_1 ?_
  refine a_iconst (v := (0 : Int32)) (by decide) dX11_allPay_2 ?_
  refine a_istore_n (lv1 := [(0, .ref v0), (1, .int v1), (2, .int (0 : Int32)), (3, .int (0 : Int32))]) rfl [1, 2, 3, 0] (by decide) rfl dX11_allPay_3 ?_
  obtain ⟨n, H⟩ := H
  exact l_X11_allPay_4  n _ _ _ H
