def B_X12_look_65 (Q : Int32 → AH → Prop) (K52 : Int32 → Int32 → AH → Prop) (K65 : Int32 → Int32 → AH → Prop) (v0 : Nat) (v2 : Int32) (v3 : Int32) (v4 : Int32) (v5 : Int32) (v6 : Int32) (v7 : Int32) (v8 : Int32) (h : AH) : Prop :=
  gI h v0 12 39 (fun x1 => ((x1 ≤ v8 → ((v7 ≤ v5 → K52 v5 (v6 + 1) h) ∧ (¬ (v7 ≤ v5) → K52 v7 (v6 + 1) h))) ∧ (¬ (x1 ≤ v8) → gR h v0 12 40 (fun a2 => lI h a2 v8 (fun x3 => isO h v0 12 ∧ f_X12_seen v0 x3 v4 h (fun x4 h5 => ((¬ (x4 = v6) → K65 (v7 + (0 : Int32)) (v8 + 1) h5) ∧ (x4 = v6 → K65 (v7 + (1 : Int32)) (v8 + 1) h5))))))))
set_option maxRecDepth 100000 in
set_option maxHeartbeats 4000000 in
theorem b_X12_look_65 {o : Om} {Q : Int32 → AH → Prop} {K52 : Int32 → Int32 → AH → Prop} {K65 : Int32 → Int32 → AH → Prop} {v0 : Nat} {v2 : Int32} {v3 : Int32} {v4 : Int32} {v5 : Int32} {v6 : Int32} {v7 : Int32} {v8 : Int32} {h : AH} (hK52 : ∀ w5 w6 h, K52 w5 w6 h → AQ o kX12_look h 52 [(0, .ref v0), (2, .int v2), (3, .int v3), (4, .int v4), (5, .int w5), (6, .int w6)] [] (qI Q)) (hK65 : ∀ w7 w8 h, K65 w7 w8 h → AQ o kX12_look h 65 [(0, .ref v0), (2, .int v2), (3, .int v3), (4, .int v4), (5, .int v5), (6, .int v6), (7, .int w7), (8, .int w8)] [] (qI Q)) (H : B_X12_look_65 Q K52 K65 v0 v2 v3 v4 v5 v6 v7 v8 h) : AQ o kX12_look h 65 [(0, .ref v0), (2, .int v2), (3, .int v3), (4, .int v4), (5, .int v5), (6, .int v6), (7, .int v7), (8, .int v8)] [] (qI Q) := by
  refine a_iload 7 rfl dX12_look_65 ?_
  refine a_aload_n 0 rfl rfl dX12_look_67 ?_
  refine r_gI fo_RX12_264_12 dX12_look_68 H (fun x1 H => ?_)
  refine a_icmp_ge (tgt := 108) dX12_look_71 (by decide) (fun c => ?_) (fun c => ?_)
  · have H := H.1 (c)
    refine a_iload 6 rfl dX12_look_108 ?_
    refine a_iload 4 rfl dX12_look_110 ?_
    refine a_icmp_le (tgt := 120) dX12_look_112 (by decide) (fun c => ?_) (fun c => ?_)
    · have H := H.1 (c)
      refine a_iload 4 rfl dX12_look_120 ?_
      refine a_istore (lv1 := [(0, .ref v0), (2, .int v2), (3, .int v3), (4, .int v4), (5, .int v5), (6, .int v6), (7, .int v7), (8, .int v8)]) [1, 2, 3, 4, 0, 5, 6, 7] (by decide) rfl dX12_look_122 ?_
      refine a_iinc (v := v6 + 1) (lv1 := [(0, .ref v0), (2, .int v2), (3, .int v3), (4, .int v4), (5, .int v5), (6, .int (v6 + 1)), (7, .int v7), (8, .int v8)]) [1, 2, 3, 4, 5, 0, 6, 7] 5 rfl (by decide) rfl rfl dX12_look_124 ?_
      refine a_goto (tgt := 52) dX12_look_127 (by decide) ?_
      refine AQ.sub (lv1 := [(0, .ref v0), (2, .int v2), (3, .int v3), (4, .int v4), (5, .int v5), (6, .int (v6 + 1))]) [0, 1, 2, 3, 4, 5] rfl ?_
      exact hK52 _ _ _ H
    · have H := H.2 (c)
      refine a_iload 6 rfl dX12_look_115 ?_
      refine a_goto (tgt := 122) dX12_look_117 (by decide) ?_
      refine a_istore (lv1 := [(0, .ref v0), (2, .int v2), (3, .int v3), (4, .int v4), (5, .int v7), (6, .int v6), (7, .int v7), (8, .int v8)]) [1, 2, 3, 4, 0, 5, 6, 7] (by decide) rfl dX12_look_122 ?_
      refine a_iinc (v := v6 + 1) (lv1 := [(0, .ref v0), (2, .int v2), (3, .int v3), (4, .int v4), (5, .int v7), (6, .int (v6 + 1)), (7, .int v7), (8, .int v8)]) [1, 2, 3, 4, 5, 0, 6, 7] 5 rfl (by decide) rfl rfl dX12_look_124 ?_
      refine a_goto (tgt := 52) dX12_look_127 (by decide) ?_
      refine AQ.sub (lv1 := [(0, .ref v0), (2, .int v2), (3, .int v3), (4, .int v4), (5, .int v7), (6, .int (v6 + 1))]) [0, 1, 2, 3, 4, 5] rfl ?_
      exact hK52 _ _ _ H
  · have H := H.2 (c)
    refine a_iload 6 rfl dX12_look_74 ?_
    refine a_aload_n 0 rfl rfl dX12_look_76 ?_
    refine a_aload_n 0 rfl rfl dX12_look_77 ?_
    refine r_gR fo_RX12_86_12 dX12_look_78 H (fun a2 H => ?_)
    refine a_iload 7 rfl dX12_look_81 ?_
    refine r_lI dX12_look_83 H (fun x3 H => ?_)
    refine a_iload 3 rfl dX12_look_84 ?_
    refine r_Vi (q := (RX12, TX12, 51)) (av := [.int x3, .int v4]) (rest := [.int v7]) rfl rfl okX12_seen H.1 rfl rfl wd1395 wd1397 wp55 ⟨Nat.le_of_ble_eq_true rfl, Nat.le_of_ble_eq_true rfl⟩ (Nat.le_of_ble_eq_true rfl) dX12_look_86 (s_X12_seen H.2) (fun x4 h5 H => ?_)
    refine a_iload 5 rfl dX12_look_89 ?_
    refine a_icmp_ne (tgt := 98) dX12_look_91 (by decide) (fun c => ?_) (fun c => ?_)
    · have H := H.1 (c)
      refine a_iconst (v := (0 : Int32)) (by decide) dX12_look_98 ?_
      refine a_iadd dX12_look_99 ?_
      refine a_istore (lv1 := [(0, .ref v0), (2, .int v2), (3, .int v3), (4, .int v4), (5, .int v5), (6, .int v6), (7, .int (v7 + (0 : Int32))), (8, .int v8)]) [1, 2, 3, 4, 5, 6, 0, 7] (by decide) rfl dX12_look_100 ?_
      refine a_iinc (v := v8 + 1) (lv1 := [(0, .ref v0), (2, .int v2), (3, .int v3), (4, .int v4), (5, .int v5), (6, .int v6), (7, .int (v7 + (0 : Int32))), (8, .int (v8 + 1))]) [1, 2, 3, 4, 5, 6, 7, 0] 7 rfl (by decide) rfl rfl dX12_look_102 ?_
      refine a_goto (tgt := 65) dX12_look_105 (by decide) ?_
      exact hK65 _ _ _ H
    · have H := H.2 (c)
      refine a_iconst (v := (1 : Int32)) (by decide) dX12_look_94 ?_
      refine a_goto (tgt := 99) dX12_look_95 (by decide) ?_
      refine a_iadd dX12_look_99 ?_
      refine a_istore (lv1 := [(0, .ref v0), (2, .int v2), (3, .int v3), (4, .int v4), (5, .int v5), (6, .int v6), (7, .int (v7 + (1 : Int32))), (8, .int v8)]) [1, 2, 3, 4, 5, 6, 0, 7] (by decide) rfl dX12_look_100 ?_
      refine a_iinc (v := v8 + 1) (lv1 := [(0, .ref v0), (2, .int v2), (3, .int v3), (4, .int v4), (5, .int v5), (6, .int v6), (7, .int (v7 + (1 : Int32))), (8, .int (v8 + 1))]) [1, 2, 3, 4, 5, 6, 7, 0] 7 rfl (by decide) rfl rfl dX12_look_102 ?_
      refine a_goto (tgt := 65) dX12_look_105 (by decide) ?_
      exact hK65 _ _ _ H
def L_X12_look_65 (Q : Int32 → AH → Prop) (K52 : Int32 → Int32 → AH → Prop) (v0 : Nat) (v2 : Int32) (v3 : Int32) (v4 : Int32) (v5 : Int32) (v6 : Int32) : Nat → Int32 → Int32 → AH → Prop
  | 0, _, _, _ => False
  | n + 1, v7, v8, h => B_X12_look_65 Q K52 (L_X12_look_65 Q K52 v0 v2 v3 v4 v5 v6 n) v0 v2 v3 v4 v5 v6 v7 v8 h
theorem l_X12_look_65 {o : Om} {Q : Int32 → AH → Prop} {K52 : Int32 → Int32 → AH → Prop} {v0 : Nat} {v2 : Int32} {v3 : Int32} {v4 : Int32} {v5 : Int32} {v6 : Int32} (hK52 : ∀ w5 w6 h, K52 w5 w6 h → AQ o kX12_look h 52 [(0, .ref v0), (2, .int v2), (3, .int v3), (4, .int v4), (5, .int w5), (6, .int w6)] [] (qI Q)) : ∀ (n : Nat) (v7 : Int32) (v8 : Int32) (h : AH), L_X12_look_65 Q K52 v0 v2 v3 v4 v5 v6 n v7 v8 h → AQ o kX12_look h 65 [(0, .ref v0), (2, .int v2), (3, .int v3), (4, .int v4), (5, .int v5), (6, .int v6), (7, .int v7), (8, .int v8)] [] (qI Q) := by
  intro n
  induction n with
  | zero => intro v7 v8 h H; exact H.elim
  | succ n ih => intro v7 v8 h H; exact b_X12_look_65 hK52 ih H
def B_X12_look_142 (Q : Int32 → AH → Prop) (K37 : Int32 → Int32 → Int32 → AH → Prop) (v0 : Nat) (v4 : Int32) (v5 : Int32) (h : AH) : Prop :=
  K37 v4 v5 (v4 + 1) h
set_option maxRecDepth 100000 in
set_option maxHeartbeats 4000000 in
theorem b_X12_look_142 {o : Om} {Q : Int32 → AH → Prop} {K37 : Int32 → Int32 → Int32 → AH → Prop} {v0 : Nat} {v4 : Int32} {v5 : Int32} {h : AH} (hK37 : ∀ w2 w3 w4 h, K37 w2 w3 w4 h → AQ o kX12_look h 37 [(0, .ref v0), (2, .int w2), (3, .int w3), (4, .int w4)] [] (qI Q)) (H : B_X12_look_142 Q K37 v0 v4 v5 h) : AQ o kX12_look h 142 [(0, .ref v0), (4, .int v4), (5, .int v5)] [] (qI Q) := by
  refine a_iload 1 rfl dX12_look_142 ?_
  refine a_istore_n (lv1 := [(0, .ref v0), (2, .int v4), (4, .int v4), (5, .int v5)]) rfl [1, 0, 2, 3] (by decide) rfl dX12_look_144 ?_
  refine a_iload 3 rfl dX12_look_145 ?_
  refine a_istore_n (lv1 := [(0, .ref v0), (2, .int v4), (3, .int v5), (4, .int v4), (5, .int v5)]) rfl [1, 2, 0, 3, 4] (by decide) rfl dX12_look_147 ?_
  refine a_iinc (v := v4 + 1) (lv1 := [(0, .ref v0), (2, .int v4), (3, .int v5), (4, .int (v4 + 1)), (5, .int v5)]) [1, 2, 3, 0, 4] 3 rfl (by decide) rfl rfl dX12_look_148 ?_
  refine a_goto (tgt := 37) dX12_look_151 (by decide) ?_
  refine AQ.sub (lv1 := [(0, .ref v0), (2, .int v4), (3, .int v5), (4, .int (v4 + 1))]) [0, 1, 2, 3] rfl ?_
  exact hK37 _ _ _ _ H
def B_X12_look_52 (Q : Int32 → AH → Prop) (K37 : Int32 → Int32 → Int32 → AH → Prop) (K52 : Int32 → Int32 → AH → Prop) (v0 : Nat) (v2 : Int32) (v3 : Int32) (v4 : Int32) (v5 : Int32) (v6 : Int32) (h : AH) : Prop :=
  (((10 : Int32) ≤ v6 → ((v2 = (-9 : Int32) → B_X12_look_142 Q K37 v0 v4 v5 h) ∧ (¬ (v2 = (-9 : Int32)) → ((v3 ≤ v5 → K37 v2 v3 (v4 + 1) h) ∧ (¬ (v3 ≤ v5) → B_X12_look_142 Q K37 v0 v4 v5 h))))) ∧ (¬ ((10 : Int32) ≤ v6) → ∃ n, L_X12_look_65 Q K52 v0 v2 v3 v4 v5 v6 n (0 : Int32) (0 : Int32) h))
set_option maxRecDepth 100000 in
set_option maxHeartbeats 4000000 in
theorem b_X12_look_52 {o : Om} {Q : Int32 → AH → Prop} {K37 : Int32 → Int32 → Int32 → AH → Prop} {K52 : Int32 → Int32 → AH → Prop} {v0 : Nat} {v2 : Int32} {v3 : Int32} {v4 : Int32} {v5 : Int32} {v6 : Int32} {h : AH} (hK37 : ∀ w2 w3 w4 h, K37 w2 w3 w4 h → AQ o kX12_look h 37 [(0, .ref v0), (2, .int w2), (3, .int w3), (4, .int w4)] [] (qI Q)) (hK52 : ∀ w5 w6 h, K52 w5 w6 h → AQ o kX12_look h 52 [(0, .ref v0), (2, .int v2), (3, .int v3), (4, .int v4), (5, .int w5), (6, .int w6)] [] (qI Q)) (H : B_X12_look_52 Q K37 K52 v0 v2 v3 v4 v5 v6 h) : AQ o kX12_look h 52 [(0, .ref v0), (2, .int v2), (3, .int v3), (4, .int v4), (5, .int v5), (6, .int v6)] [] (qI Q) := by
  refine a_iload 5 rfl dX12_look_52 ?_
  refine a_bipush (v := (10 : Int32)) (by decide) dX12_look_54 ?_
  refine a_icmp_ge (tgt := 130) dX12_look_56 (by decide) (fun c => ?_) (fun c => ?_)
  · have H := H.1 (c)
    refine a_iload_n 1 rfl rfl dX12_look_130 ?_
    refine a_bipush (v := (-9 : Int32)) (by decide) dX12_look_131 ?_
    refine a_icmp_eq (tgt := 142) dX12_look_133 (by decide) (fun c => ?_) (fun c => ?_)
    · have H := H.1 (c)
      refine AQ.sub (lv1 := [(0, .ref v0), (4, .int v4), (5, .int v5)]) [0, 3, 4] rfl ?_
      exact b_X12_look_142 hK37 H
    · have H := H.2 (c)
      refine a_iload 4 rfl dX12_look_136 ?_
      refine a_iload_n 2 rfl rfl dX12_look_138 ?_
      refine a_icmp_ge (tgt := 148) dX12_look_139 (by decide) (fun c => ?_) (fun c => ?_)
      · have H := H.1 (c)
        refine a_iinc (v := v4 + 1) (lv1 := [(0, .ref v0), (2, .int v2), (3, .int v3), (4, .int (v4 + 1)), (5, .int v5), (6, .int v6)]) [1, 2, 3, 0, 4, 5] 3 rfl (by decide) rfl rfl dX12_look_148 ?_
        refine a_goto (tgt := 37) dX12_look_151 (by decide) ?_
        refine AQ.sub (lv1 := [(0, .ref v0), (2, .int v2), (3, .int v3), (4, .int (v4 + 1))]) [0, 1, 2, 3] rfl ?_
        exact hK37 _ _ _ _ H
      · have H := H.2 (c)
        refine AQ.sub (lv1 := [(0, .ref v0), (4, .int v4), (5, .int v5)]) [0, 3, 4] rfl ?_
        exact b_X12_look_142 hK37 H
  · have H := H.2 (c)
    refine a_iconst (v := (0 : Int32)) (by decide) dX12_look_59 ?_
    refine a_istore (lv1 := [(0, .ref v0), (2, .int v2), (3, .int v3), (4, .int v4), (5, .int v5), (6, .int v6), (7, .int (0 : Int32))]) [1, 2, 3, 4, 5, 6, 0] (by decide) rfl dX12_look_60 ?_
    refine a_iconst (v := (0 : Int32)) (by decide) dX12_look_62 ?_
    refine a_istore (lv1 := [(0, .ref v0), (2, .int v2), (3, .int v3), (4, .int v4), (5, .int v5), (6, .int v6), (7, .int (0 : Int32)), (8, .int (0 : Int32))]) [1, 2, 3, 4, 5, 6, 7, 0] (by decide) rfl dX12_look_63 ?_
    obtain ⟨n, H⟩ := H
    exact l_X12_look_65 hK52 n _ _ _ H
def L_X12_look_52 (Q : Int32 → AH → Prop) (K37 : Int32 → Int32 → Int32 → AH → Prop) (v0 : Nat) (v2 : Int32) (v3 : Int32) (v4 : Int32) : Nat → Int32 → Int32 → AH → Prop
  | 0, _, _, _ => False
  | n + 1, v5, v6, h => B_X12_look_52 Q K37 (L_X12_look_52 Q K37 v0 v2 v3 v4 n) v0 v2 v3 v4 v5 v6 h
theorem l_X12_look_52 {o : Om} {Q : Int32 → AH → Prop} {K37 : Int32 → Int32 → Int32 → AH → Prop} {v0 : Nat} {v2 : Int32} {v3 : Int32} {v4 : Int32} (hK37 : ∀ w2 w3 w4 h, K37 w2 w3 w4 h → AQ o kX12_look h 37 [(0, .ref v0), (2, .int w2), (3, .int w3), (4, .int w4)] [] (qI Q)) : ∀ (n : Nat) (v5 : Int32) (v6 : Int32) (h : AH), L_X12_look_52 Q K37 v0 v2 v3 v4 n v5 v6 h → AQ o kX12_look h 52 [(0, .ref v0), (2, .int v2), (3, .int v3), (4, .int v4), (5, .int v5), (6, .int v6)] [] (qI Q) := by
  intro n
  induction n with
  | zero => intro v5 v6 h H; exact H.elim
  | succ n ih => intro v5 v6 h H; exact b_X12_look_52 hK37 ih H
def B_X12_look_37 (Q : Int32 → AH → Prop) (K37 : Int32 → Int32 → Int32 → AH → Prop) (v0 : Nat) (v2 : Int32) (v3 : Int32) (v4 : Int32) (h : AH) : Prop :=
  gI h v0 12 9 (fun x1 => ((x1 ≤ v4 → pF h v0 12 4 (.int v3) (fun h2 => Q v2 h2)) ∧ (¬ (x1 ≤ v4) → ∃ n, L_X12_look_52 Q K37 v0 v2 v3 v4 n (0 : Int32) (0 : Int32) h)))
set_option maxRecDepth 100000 in
set_option maxHeartbeats 4000000 in
theorem b_X12_look_37 {o : Om} {Q : Int32 → AH → Prop} {K37 : Int32 → Int32 → Int32 → AH → Prop} {v0 : Nat} {v2 : Int32} {v3 : Int32} {v4 : Int32} {h : AH} (hK37 : ∀ w2 w3 w4 h, K37 w2 w3 w4 h → AQ o kX12_look h 37 [(0, .ref v0), (2, .int w2), (3, .int w3), (4, .int w4)] [] (qI Q)) (H : B_X12_look_37 Q K37 v0 v2 v3 v4 h) : AQ o kX12_look h 37 [(0, .ref v0), (2, .int v2), (3, .int v3), (4, .int v4)] [] (qI Q) := by
  refine a_iload 3 rfl dX12_look_37 ?_
  refine a_aload_n 0 rfl rfl dX12_look_39 ?_
  refine r_gI fo_RX12_175_12 dX12_look_40 H (fun x1 H => ?_)
  refine a_icmp_ge (tgt := 154) dX12_look_43 (by decide) (fun c => ?_) (fun c => ?_)
  · have H := H.1 (c)
    refine a_aload_n 0 rfl rfl dX12_look_154 ?_
    refine a_iload_n 2 rfl rfl dX12_look_155 ?_
    refine r_pF (po_RX12_104_12 _) (fun _ => rfl) (fun _ => rfl) dX12_look_156 H (fun h2 H => ?_)
    refine a_iload_n 1 rfl rfl dX12_look_159 ?_
    exact r_reti rfl dX12_look_160 H
  · have H := H.2 (c)
    refine a_iconst (v := (0 : Int32)) (by decide) dX12_look_46 ?_
    refine a_istore (lv1 := [(0, .ref v0), (2, .int v2), (3, .int v3), (4, .int v4), (5, .int (0 : Int32))]) [1, 2, 3, 4, 0] (by decide) rfl dX12_look_47 ?_
    refine a_iconst (v := (0 : Int32)) (by decide) dX12_look_49 ?_
    refine a_istore (lv1 := [(0, .ref v0), (2, .int v2), (3, .int v3), (4, .int v4), (5, .int (0 : Int32)), (6, .int (0 : Int32))]) [1, 2, 3, 4, 5, 0] (by decide) rfl dX12_look_50 ?_
    obtain ⟨n, H⟩ := H
    exact l_X12_look_52 hK37 n _ _ _ H
def L_X12_look_37 (Q : Int32 → AH → Prop)  (v0 : Nat) : Nat → Int32 → Int32 → Int32 → AH → Prop
  | 0, _, _, _, _ => False
  | n + 1, v2, v3, v4, h => B_X12_look_37 Q (L_X12_look_37 Q  v0 n) v0 v2 v3 v4 h
theorem l_X12_look_37 {o : Om} {Q : Int32 → AH → Prop}  {v0 : Nat}  : ∀ (n : Nat) (v2 : Int32) (v3 : Int32) (v4 : Int32) (h : AH), L_X12_look_37 Q  v0 n v2 v3 v4 h → AQ o kX12_look h 37 [(0, .ref v0), (2, .int v2), (3, .int v3), (4, .int v4)] [] (qI Q) := by
  intro n
  induction n with
  | zero => intro v2 v3 v4 h H; exact H.elim
  | succ n ih => intro v2 v3 v4 h H; exact b_X12_look_37 ih H
def f_X12_look (v0 : Nat) (v1 : Int32) (h : AH) (Q : Int32 → AH → Prop) : Prop :=
  f_X12_in v1.toInt64 (0 : Int64) (3 : Int64) h (fun x1 h2 => ((¬ (x1 = 0) → gI h2 v0 12 9 (fun x3 => ((¬ (x3 = 0) → isO h2 v0 12 ∧ f_X12_meets v0 v1 h2 (fun h4 => ∃ n, L_X12_look_37 Q  v0 n (-9 : Int32) (0 : Int32) (0 : Int32) h4)) ∧ (x3 = 0 → Q (-4 : Int32) h2)))) ∧ (x1 = 0 → Q (-1 : Int32) h2)))
set_option maxRecDepth 100000 in
set_option maxHeartbeats 4000000 in
theorem s_X12_look {o : Om} {v0 : Nat} {v1 : Int32} {h : AH} {Q : Int32 → AH → Prop} (H : f_X12_look v0 v1 h Q) : MQ' o kX12_look [.ref v0, .int v1] h (qI Q) := by
  refine MQ'.of (by decide +kernel) (Nat.le_of_ble_eq_true rfl) ?_
  show AQ o kX12_look h 0 [(0, .ref v0), (1, .int v1)] [] (qI Q)
  refine a_iload_n 1 rfl rfl dX12_look_0 ?_
  refine a_i2l dX12_look_1 ?_
  refine a_lconst (v := (0 : Int64)) (by decide) dX12_look_2 ?_
  refine a_ldc2 (v := (3 : Int64)) wd1234 dX12_look_3 ?_
  refine r_Si (av := [.long v1.toInt64, .long (0 : Int64), .long (3 : Int64)]) (rest := []) rfl rfl okX12_in wd1188 wd1189 ⟨Nat.le_of_ble_eq_true rfl, Nat.le_of_ble_eq_true rfl⟩ (Nat.le_of_ble_eq_true rfl) dX12_look_6 (s_X12_in H) (fun x1 h2 H => ?_)
  refine a_if_ne (tgt := 14) dX12_look_9 (by decide) (fun c => ?_) (fun c => ?_)
  · have H := H.1 (c)
    refine a_aload_n 0 rfl rfl dX12_look_14 ?_
    refine r_gI fo_RX12_175_12 dX12_look_15 H (fun x3 H => ?_)
    refine a_if_ne (tgt := 24) dX12_look_18 (by decide) (fun c => ?_) (fun c => ?_)
    · have H := H.1 (c)
      refine a_aload_n 0 rfl rfl dX12_look_24 ?_
      refine a_iload_n 1 rfl rfl dX12_look_25 ?_
      refine r_Vv (q := (RX12, TX12, 51)) (av := [.int v1]) (rest := []) rfl rfl okX12_meets H.1 rfl rfl wd1408 wd1410 wp56 ⟨Nat.le_of_ble_eq_true rfl, Nat.le_of_ble_eq_true rfl⟩ (Nat.le_of_ble_eq_true rfl) dX12_look_26 (s_X12_meets H.2) (fun h4 H => ?_)
      refine a_bipush (v := (-9 : Int32)) (by decide) dX12_look_29 ?_
      refine a_istore_n (lv1 := [(0, .ref v0), (1, .int v1), (2, .int (-9 : Int32))]) rfl [1, 2, 0] (by decide) rfl dX12_look_31 ?_
      refine a_iconst (v := (0 : Int32)) (by decide) dX12_look_32 ?_
      refine a_istore_n (lv1 := [(0, .ref v0), (1, .int v1), (2, .int (-9 : Int32)), (3, .int (0 : Int32))]) rfl [1, 2, 3, 0] (by decide) rfl dX12_look_33 ?_
      refine a_iconst (v := (0 : Int32)) (by decide) dX12_look_34 ?_
      refine a_istore (lv1 := [(0, .ref v0), (1, .int v1), (2, .int (-9 : Int32)), (3, .int (0 : Int32)), (4, .int (0 : Int32))]) [1, 2, 3, 4, 0] (by decide) rfl dX12_look_35 ?_
      refine AQ.sub (lv1 := [(0, .ref v0), (2, .int (-9 : Int32)), (3, .int (0 : Int32)), (4, .int (0 : Int32))]) [0, 2, 3, 4] rfl ?_
      obtain ⟨n, H⟩ := H
      exact l_X12_look_37  n _ _ _ _ H
    · have H := H.2 (c)
      refine a_bipush (v := (-4 : Int32)) (by decide) dX12_look_21 ?_
      exact r_reti rfl dX12_look_23 H
  · have H := H.2 (c)
    refine a_iconst (v := (-1 : Int32)) (by decide) dX12_look_12 ?_
    exact r_reti rfl dX12_look_13 H
def B_X7_clearRoom_42 (Q : AH → Prop)  (v0 : Nat) (h : AH) : Prop :=
  gR h v0 7 8 (fun a1 => f_J7_fill_53178 a1 (-9 : Int32) h (fun h2 => Q h2))
set_option maxRecDepth 100000 in
set_option maxHeartbeats 4000000 in
theorem b_X7_clearRoom_42 {o : Om} {Q : AH → Prop}  {v0 : Nat} {h : AH}  (H : B_X7_clearRoom_42 Q  v0 h) : AQ o kX7_clearRoom h 42 [(0, .ref v0)] [] (qV Q) := by
  refine a_aload_n 0 rfl rfl dX7_clearRoom_42 ?_
  refine r_gR fo_RX7_32_7 dX7_clearRoom_43 H (fun a1 H => ?_)
  refine a_bipush (v := (-9 : Int32)) (by decide) dX7_clearRoom_46 ?_
  refine r_Sv (av := [.ref a1, .int (-9 : Int32)]) (rest := []) rfl rfl okJ7_fill_53178 wd791 wd202 ⟨Nat.le_of_ble_eq_true rfl, Nat.le_of_ble_eq_true rfl⟩ (Nat.le_of_ble_eq_true rfl) dX7_clearRoom_48 (s_J7_fill_53178 H) (fun h2 H => ?_)
  exact r_retv rfl dX7_clearRoom_51 H
def f_X7_clearRoom (v0 : Nat) (h : AH) (Q : AH → Prop) : Prop :=
  gR h v0 7 4 (fun a1 => gI h a1 5 5 (fun x2 => gR h v0 7 8 (fun a3 => aL h a3 0 (fun x4 => ((((1 : Int32) <<< (((3 : Int32) * x2) &&& 31)) ≤ x4 → B_X7_clearRoom_42 Q  v0 h) ∧ (¬ (((1 : Int32) <<< (((3 : Int32) * x2) &&& 31)) ≤ x4) → nA h 0 ((1 : Int32) <<< (((3 : Int32) * x2) &&& 31)) (fun a5 h6 => pF h6 v0 7 8 (.ref a5) (fun h7 => nA h7 0 ((1 : Int32) <<< (((3 : Int32) * x2) &&& 31)) (fun a8 h9 => pF h9 v0 7 9 (.ref a8) (fun h10 => nA h10 0 ((1 : Int32) <<< (((3 : Int32) * x2) &&& 31)) (fun a11 h12 => pF h12 v0 7 10 (.ref a11) (fun h13 => B_X7_clearRoom_42 Q  v0 h13))))))))))))
set_option maxRecDepth 100000 in
set_option maxHeartbeats 4000000 in
theorem s_X7_clearRoom {o : Om} {v0 : Nat} {h : AH} {Q : AH → Prop} (H : f_X7_clearRoom v0 h Q) : MQ' o kX7_clearRoom [.ref v0] h (qV Q) := by
  refine MQ'.of (by decide +kernel) (Nat.le_of_ble_eq_true rfl) ?_
  show AQ o kX7_clearRoom h 0 [(0, .ref v0)] [] (qV Q)
  refine a_iconst (v := (1 : Int32)) (by decide) dX7_clearRoom_0 ?_
  refine a_iconst (v := (3 : Int32)) (by decide) dX7_clearRoom_1 ?_
  refine a_aload_n 0 rfl rfl dX7_clearRoom_2 ?_
  refine r_gR fo_RX7_59_7 dX7_clearRoom_3 H (fun a1 H => ?_)
  refine r_gI fo_RX7_99_5 dX7_clearRoom_6 H (fun x2 H => ?_)
  refine a_imul dX7_clearRoom_9 ?_
  refine a_ishl dX7_clearRoom_10 ?_
  refine a_istore_n (lv1 := [(0, .ref v0), (1, .int ((1 : Int32) <<< (((3 : Int32) * x2) &&& 31)))]) rfl [1, 0] (by decide) rfl dX7_clearRoom_11 ?_
  refine a_aload_n 0 rfl rfl dX7_clearRoom_12 ?_
  refine r_gR fo_RX7_32_7 dX7_clearRoom_13 H (fun a3 H => ?_)
  refine r_aL (by decide) dX7_clearRoom_16 H (fun x4 H => ?_)
  refine a_iload_n 1 rfl rfl dX7_clearRoom_17 ?_
  refine a_icmp_ge (tgt := 42) dX7_clearRoom_18 (by decide) (fun c => ?_) (fun c => ?_)
  · have H := H.1 (c)
    refine AQ.sub (lv1 := [(0, .ref v0)]) [0] rfl ?_
    exact b_X7_clearRoom_42  H
  · have H := H.2 (c)
    refine a_aload_n 0 rfl rfl dX7_clearRoom_21 ?_
    refine a_iload_n 1 rfl rfl dX7_clearRoom_22 ?_
    refine r_nA (t := 0) (Or.inl ⟨rfl, rfl⟩) dX7_clearRoom_23 H (fun a5 h6 H => ?_)
    refine r_pF (po_RX7_32_7 _) (fun _ => rfl) (fun _ => rfl) dX7_clearRoom_25 H (fun h7 H => ?_)
    refine a_aload_n 0 rfl rfl dX7_clearRoom_28 ?_
    refine a_iload_n 1 rfl rfl dX7_clearRoom_29 ?_
    refine r_nA (t := 0) (Or.inl ⟨rfl, rfl⟩) dX7_clearRoom_30 H (fun a8 h9 H => ?_)
    refine r_pF (po_RX7_35_7 _) (fun _ => rfl) (fun _ => rfl) dX7_clearRoom_32 H (fun h10 H => ?_)
    refine a_aload_n 0 rfl rfl dX7_clearRoom_35 ?_
    refine a_iload_n 1 rfl rfl dX7_clearRoom_36 ?_
    refine r_nA (t := 0) (Or.inl ⟨rfl, rfl⟩) dX7_clearRoom_37 H (fun a11 h12 H => ?_)
    refine r_pF (po_RX7_38_7 _) (fun _ => rfl) (fun _ => rfl) dX7_clearRoom_39 H (fun h13 H => ?_)
    refine AQ.sub (lv1 := [(0, .ref v0)]) [0] rfl ?_
    exact b_X7_clearRoom_42  H
def f_X7_isIn (v0 : Nat) (v1 : Int32) (h : AH) (Q : Int32 → AH → Prop) : Prop :=
  ((v1 < 0 → Q (0 : Int32) h) ∧ (¬ (v1 < 0) → gR h v0 7 8 (fun a1 => aL h a1 0 (fun x2 => ((x2 ≤ v1 → Q (0 : Int32) h) ∧ (¬ (x2 ≤ v1) → Q (1 : Int32) h))))))
set_option maxRecDepth 100000 in
set_option maxHeartbeats 4000000 in
theorem s_X7_isIn {o : Om} {v0 : Nat} {v1 : Int32} {h : AH} {Q : Int32 → AH → Prop} (H : f_X7_isIn v0 v1 h Q) : MQ' o kX7_isIn [.ref v0, .int v1] h (qI Q) := by
  refine MQ'.of (by decide +kernel) (Nat.le_of_ble_eq_true rfl) ?_
  show AQ o kX7_isIn h 0 [(0, .ref v0), (1, .int v1)] [] (qI Q)
  refine a_iload_n 1 rfl rfl dX7_isIn_0 ?_
  refine a_if_lt (tgt := 17) dX7_isIn_1 (by decide) (fun c => ?_) (fun c => ?_)
  · have H := H.1 (c)
    refine a_iconst (v := (0 : Int32)) (by decide) dX7_isIn_17 ?_
    exact r_retz rfl bl_0 dX7_isIn_18 H
  · have H := H.2 (c)
    refine a_iload_n 1 rfl rfl dX7_isIn_4 ?_
    refine a_aload_n 0 rfl rfl dX7_isIn_5 ?_
    refine r_gR fo_RX7_32_7 dX7_isIn_6 H (fun a1 H => ?_)
    refine r_aL (by decide) dX7_isIn_9 H (fun x2 H => ?_)
    refine a_icmp_ge (tgt := 17) dX7_isIn_10 (by decide) (fun c => ?_) (fun c => ?_)
    · have H := H.1 (c)
      refine a_iconst (v := (0 : Int32)) (by decide) dX7_isIn_17 ?_
      exact r_retz rfl bl_0 dX7_isIn_18 H
    · have H := H.2 (c)
      refine a_iconst (v := (1 : Int32)) (by decide) dX7_isIn_13 ?_
      refine a_goto (tgt := 18) dX7_isIn_14 (by decide) ?_
      exact r_retz rfl bl_1 dX7_isIn_18 H
def f_X7_reach (v0 : Nat) (v1 : Int32) (v2 : Int32) (v3 : Int32) (h : AH) (Q : AH → Prop) : Prop :=
  isO h v0 7 ∧ f_X7_isIn v0 v1 h (fun x1 h2 => ((x1 = 0 → Q h2) ∧ (¬ (x1 = 0) → gR h2 v0 7 8 (fun a3 => lI h2 a3 v1 (fun x4 => ((¬ (x4 = (-9 : Int32)) → Q h2) ∧ (x4 = (-9 : Int32) → gI h2 v0 7 11 (fun x5 => gR h2 v0 7 10 (fun a6 => aL h2 a6 0 (fun x7 => ((x7 ≤ x5 → Q h2) ∧ (¬ (x7 ≤ x5) → gR h2 v0 7 8 (fun a8 => sI h2 a8 v1 v2 (fun h9 => gR h9 v0 7 9 (fun a10 => sI h9 a10 v1 v3 (fun h11 => gR h11 v0 7 10 (fun a12 => gI h11 v0 7 11 (fun x13 => sI h11 a12 x13 v1 (fun h14 => gI h14 v0 7 11 (fun x15 => pF h14 v0 7 11 (.int (x15 + (1 : Int32))) (fun h16 => Q h16)))))))))))))))))))))
set_option maxRecDepth 100000 in
set_option maxHeartbeats 4000000 in
theorem s_X7_reach {o : Om} {v0 : Nat} {v1 : Int32} {v2 : Int32} {v3 : Int32} {h : AH} {Q : AH → Prop} (H : f_X7_reach v0 v1 v2 v3 h Q) : MQ' o kX7_reach [.ref v0, .int v1, .int v2, .int v3] h (qV Q) := by
  refine MQ'.of (by decide +kernel) (Nat.le_of_ble_eq_true rfl) ?_
  show AQ o kX7_reach h 0 [(0, .ref v0), (1, .int v1), (2, .int v2), (3, .int v3)] [] (qV Q)
  refine a_aload_n 0 rfl rfl dX7_reach_0 ?_
  refine a_iload_n 1 rfl rfl dX7_reach_1 ?_
  refine r_Vi (q := (RX7, TX7, 17)) (av := [.int v1]) (rest := []) rfl rfl okX7_isIn H.1 rfl rfl wd841 wd843 wp23 ⟨Nat.le_of_ble_eq_true rfl, Nat.le_of_ble_eq_true rfl⟩ (Nat.le_of_ble_eq_true rfl) dX7_reach_2 (s_X7_isIn H.2) (fun x1 h2 H => ?_)
  refine a_if_eq (tgt := 65) dX7_reach_5 (by decide) (fun c => ?_) (fun c => ?_)
  · have H := H.1 (c)
    exact r_retv rfl dX7_reach_65 H
  · have H := H.2 (c)
    refine a_aload_n 0 rfl rfl dX7_reach_8 ?_
    refine r_gR fo_RX7_32_7 dX7_reach_9 H (fun a3 H => ?_)
    refine a_iload_n 1 rfl rfl dX7_reach_12 ?_
    refine r_lI dX7_reach_13 H (fun x4 H => ?_)
    refine a_bipush (v := (-9 : Int32)) (by decide) dX7_reach_14 ?_
    refine a_icmp_ne (tgt := 65) dX7_reach_16 (by decide) (fun c => ?_) (fun c => ?_)
    · have H := H.1 (c)
      exact r_retv rfl dX7_reach_65 H
    · have H := H.2 (c)
      refine a_aload_n 0 rfl rfl dX7_reach_19 ?_
      refine r_gI fo_RX7_41_7 dX7_reach_20 H (fun x5 H => ?_)
      refine a_aload_n 0 rfl rfl dX7_reach_23 ?_
      refine r_gR fo_RX7_38_7 dX7_reach_24 H (fun a6 H => ?_)
      refine r_aL (by decide) dX7_reach_27 H (fun x7 H => ?_)
      refine a_icmp_ge (tgt := 65) dX7_reach_28 (by decide) (fun c => ?_) (fun c => ?_)
      · have H := H.1 (c)
        exact r_retv rfl dX7_reach_65 H
      · have H := H.2 (c)
        refine a_aload_n 0 rfl rfl dX7_reach_31 ?_
        refine r_gR fo_RX7_32_7 dX7_reach_32 H (fun a8 H => ?_)
        refine a_iload_n 1 rfl rfl dX7_reach_35 ?_
        refine a_iload_n 2 rfl rfl dX7_reach_36 ?_
        refine r_sI dX7_reach_37 H (fun h9 H => ?_)
        refine a_aload_n 0 rfl rfl dX7_reach_38 ?_
        refine r_gR fo_RX7_35_7 dX7_reach_39 H (fun a10 H => ?_)
        refine a_iload_n 1 rfl rfl dX7_reach_42 ?_
        refine a_iload_n 3 rfl rfl dX7_reach_43 ?_
        refine r_sI dX7_reach_44 H (fun h11 H => ?_)
        refine a_aload_n 0 rfl rfl dX7_reach_45 ?_
        refine r_gR fo_RX7_38_7 dX7_reach_46 H (fun a12 H => ?_)
        refine a_aload_n 0 rfl rfl dX7_reach_49 ?_
        refine r_gI fo_RX7_41_7 dX7_reach_50 H (fun x13 H => ?_)
        refine a_iload_n 1 rfl rfl dX7_reach_53 ?_
        refine r_sI dX7_reach_54 H (fun h14 H => ?_)
        refine a_aload_n 0 rfl rfl dX7_reach_55 ?_
        refine a_dup rfl dX7_reach_56 ?_
        refine r_gI fo_RX7_41_7 dX7_reach_57 H (fun x15 H => ?_)
        refine a_iconst (v := (1 : Int32)) (by decide) dX7_reach_60 ?_
        refine a_iadd dX7_reach_61 ?_
        refine r_pF (po_RX7_41_7 _) (fun _ => rfl) (fun _ => rfl) dX7_reach_62 H (fun h16 H => ?_)
        exact r_retv rfl dX7_reach_65 H
def f_X7_farTo (v0 : Nat) (v1 : Int32) (h : AH) (Q : Int32 → AH → Prop) : Prop :=
  isO h v0 7 ∧ f_X7_isIn v0 v1 h (fun x1 h2 => ((x1 = 0 → Q (-9 : Int32) h2) ∧ (¬ (x1 = 0) → gR h2 v0 7 8 (fun a3 => lI h2 a3 v1 (fun x4 => Q x4 h2)))))
set_option maxRecDepth 100000 in
set_option maxHeartbeats 4000000 in
theorem s_X7_farTo {o : Om} {v0 : Nat} {v1 : Int32} {h : AH} {Q : Int32 → AH → Prop} (H : f_X7_farTo v0 v1 h Q) : MQ' o kX7_farTo [.ref v0, .int v1] h (qI Q) := by
  refine MQ'.of (by decide +kernel) (Nat.le_of_ble_eq_true rfl) ?_
  show AQ o kX7_farTo h 0 [(0, .ref v0), (1, .int v1)] [] (qI Q)
  refine a_aload_n 0 rfl rfl dX7_farTo_0 ?_
  refine a_iload_n 1 rfl rfl dX7_farTo_1 ?_
  refine r_Vi (q := (RX7, TX7, 17)) (av := [.int v1]) (rest := []) rfl rfl okX7_isIn H.1 rfl rfl wd841 wd843 wp23 ⟨Nat.le_of_ble_eq_true rfl, Nat.le_of_ble_eq_true rfl⟩ (Nat.le_of_ble_eq_true rfl) dX7_farTo_2 (s_X7_isIn H.2) (fun x1 h2 H => ?_)
  refine a_if_eq (tgt := 17) dX7_farTo_5 (by decide) (fun c => ?_) (fun c => ?_)
  · have H := H.1 (c)
    refine a_bipush (v := (-9 : Int32)) (by decide) dX7_farTo_17 ?_
    exact r_reti rfl dX7_farTo_19 H
  · have H := H.2 (c)
    refine a_aload_n 0 rfl rfl dX7_farTo_8 ?_
    refine r_gR fo_RX7_32_7 dX7_farTo_9 H (fun a3 H => ?_)
    refine a_iload_n 1 rfl rfl dX7_farTo_12 ?_
    refine r_lI dX7_farTo_13 H (fun x4 H => ?_)
    refine a_goto (tgt := 19) dX7_farTo_14 (by decide) ?_
    exact r_reti rfl dX7_farTo_19 H
def B_X7_explore_60 (Q : AH → Prop) (K34 : Int32 → AH → Prop) (K60 : Int32 → AH → Prop) (v0 : Nat) (v1 : Int32) (v2 : Int32) (v3 : Int32) (h : AH) : Prop :=
  gR h v0 7 4 (fun a1 => gI h a1 5 6 (fun x2 => ((x2 ≤ v3 → K34 (v1 + 1) h) ∧ (¬ (x2 ≤ v3) → gR h v0 7 0 (fun a3 => gR h v0 7 4 (fun a4 => gI h v0 7 6 (fun x5 => isO h a3 9 ∧ f_X9_begin a3 a4 v2 x5 h (fun h6 => gR h6 v0 7 0 (fun a7 => isO h6 a7 9 ∧ f_X9_send a7 v3 h6 (fun h8 => gR h8 v0 7 0 (fun a9 => gI h8 a9 9 3 (fun x10 => isO h8 v0 7 ∧ f_X7_farTo v0 v2 h8 (fun x11 h12 => isO h12 v0 7 ∧ f_X7_reach v0 x10 (x11 + (1 : Int32)) ((v2 <<< ((3 : Int32) &&& 31)) ||| v3) h12 (fun h13 => K60 (v3 + 1) h13))))))))))))))
set_option maxRecDepth 100000 in
set_option maxHeartbeats 4000000 in
theorem b_X7_explore_60 {o : Om} {Q : AH → Prop} {K34 : Int32 → AH → Prop} {K60 : Int32 → AH → Prop} {v0 : Nat} {v1 : Int32} {v2 : Int32} {v3 : Int32} {h : AH} (hK34 : ∀ w1 h, K34 w1 h → AQ o kX7_explore h 34 [(0, .ref v0), (1, .int w1)] [] (qV Q)) (hK60 : ∀ w3 h, K60 w3 h → AQ o kX7_explore h 60 [(0, .ref v0), (1, .int v1), (2, .int v2), (3, .int w3)] [] (qV Q)) (H : B_X7_explore_60 Q K34 K60 v0 v1 v2 v3 h) : AQ o kX7_explore h 60 [(0, .ref v0), (1, .int v1), (2, .int v2), (3, .int v3)] [] (qV Q) := by
  refine a_iload_n 3 rfl rfl dX7_explore_60 ?_
  refine a_aload_n 0 rfl rfl dX7_explore_61 ?_
  refine r_gR fo_RX7_59_7 dX7_explore_62 H (fun a1 H => ?_)
  refine r_gI fo_RX7_79_5 dX7_explore_65 H (fun x2 H => ?_)
  refine a_icmp_ge (tgt := 124) dX7_explore_68 (by decide) (fun c => ?_) (fun c => ?_)
  · have H := H.1 (c)
    refine a_iinc (v := v1 + 1) (lv1 := [(0, .ref v0), (1, .int (v1 + 1)), (2, .int v2), (3, .int v3)]) [1, 0, 2, 3] 1 rfl (by decide) rfl rfl dX7_explore_124 ?_
    refine a_goto (tgt := 34) dX7_explore_127 (by decide) ?_
    refine AQ.sub (lv1 := [(0, .ref v0), (1, .int (v1 + 1))]) [0, 1] rfl ?_
    exact hK34 _ _ H
  · have H := H.2 (c)
    refine a_aload_n 0 rfl rfl dX7_explore_71 ?_
    refine r_gR fo_RX7_68_7 dX7_explore_72 H (fun a3 H => ?_)
    refine a_aload_n 0 rfl rfl dX7_explore_75 ?_
    refine r_gR fo_RX7_59_7 dX7_explore_76 H (fun a4 H => ?_)
    refine a_iload_n 2 rfl rfl dX7_explore_79 ?_
    refine a_aload_n 0 rfl rfl dX7_explore_80 ?_
    refine r_gI fo_RX7_25_7 dX7_explore_81 H (fun x5 H => ?_)
    refine r_Vv (q := (RX9, TX9, 8)) (av := [.ref a4, .int v2, .int x5]) (rest := []) rfl rfl okX9_begin H.1 rfl rfl wd792 wd571 wd572 ⟨Nat.le_of_ble_eq_true rfl, Nat.le_of_ble_eq_true rfl⟩ (Nat.le_of_ble_eq_true rfl) dX7_explore_84 (s_X9_begin H.2) (fun h6 H => ?_)
    refine a_aload_n 0 rfl rfl dX7_explore_87 ?_
    refine r_gR fo_RX7_68_7 dX7_explore_88 H (fun a7 H => ?_)
    refine a_iload_n 3 rfl rfl dX7_explore_91 ?_
    refine r_Vv (q := (RX9, TX9, 8)) (av := [.int v3]) (rest := []) rfl rfl okX9_send H.1 rfl rfl wd845 wd686 wd687 ⟨Nat.le_of_ble_eq_true rfl, Nat.le_of_ble_eq_true rfl⟩ (Nat.le_of_ble_eq_true rfl) dX7_explore_92 (s_X9_send H.2) (fun h8 H => ?_)
    refine a_aload_n 0 rfl rfl dX7_explore_95 ?_
    refine a_aload_n 0 rfl rfl dX7_explore_96 ?_
    refine r_gR fo_RX7_68_7 dX7_explore_97 H (fun a9 H => ?_)
    refine r_gI fo_RX7_92_9 dX7_explore_100 H (fun x10 H => ?_)
    refine a_aload_n 0 rfl rfl dX7_explore_103 ?_
    refine a_iload_n 2 rfl rfl dX7_explore_104 ?_
    refine r_Vi (q := (RX7, TX7, 17)) (av := [.int v2]) (rest := [.int x10, .ref v0]) rfl rfl okX7_farTo H.1 rfl rfl wd846 wd847 wd848 ⟨Nat.le_of_ble_eq_true rfl, Nat.le_of_ble_eq_true rfl⟩ (Nat.le_of_ble_eq_true rfl) dX7_explore_105 (s_X7_farTo H.2) (fun x11 h12 H => ?_)
    refine a_iconst (v := (1 : Int32)) (by decide) dX7_explore_108 ?_
    refine a_iadd dX7_explore_109 ?_
    refine a_iload_n 2 rfl rfl dX7_explore_110 ?_
    refine a_iconst (v := (3 : Int32)) (by decide) dX7_explore_111 ?_
    refine a_ishl dX7_explore_112 ?_
    refine a_iload_n 3 rfl rfl dX7_explore_113 ?_
    refine a_ior dX7_explore_114 ?_
    refine r_Vv (q := (RX7, TX7, 17)) (av := [.int x10, .int (x11 + (1 : Int32)), .int ((v2 <<< ((3 : Int32) &&& 31)) ||| v3)]) (rest := []) rfl rfl okX7_reach H.1 rfl rfl wd837 wd839 wp22 ⟨Nat.le_of_ble_eq_true rfl, Nat.le_of_ble_eq_true rfl⟩ (Nat.le_of_ble_eq_true rfl) dX7_explore_115 (s_X7_reach H.2) (fun h13 H => ?_)
    refine a_iinc (v := v3 + 1) (lv1 := [(0, .ref v0), (1, .int v1), (2, .int v2), (3, .int (v3 + 1))]) [1, 2, 3, 0] 3 rfl (by decide) rfl rfl dX7_explore_118 ?_
    refine a_goto (tgt := 60) dX7_explore_121 (by decide) ?_
    exact hK60 _ _ H
def L_X7_explore_60 (Q : AH → Prop) (K34 : Int32 → AH → Prop) (v0 : Nat) (v1 : Int32) (v2 : Int32) : Nat → Int32 → AH → Prop
  | 0, _, _ => False
  | n + 1, v3, h => B_X7_explore_60 Q K34 (L_X7_explore_60 Q K34 v0 v1 v2 n) v0 v1 v2 v3 h
theorem l_X7_explore_60 {o : Om} {Q : AH → Prop} {K34 : Int32 → AH → Prop} {v0 : Nat} {v1 : Int32} {v2 : Int32} (hK34 : ∀ w1 h, K34 w1 h → AQ o kX7_explore h 34 [(0, .ref v0), (1, .int w1)] [] (qV Q)) : ∀ (n : Nat) (v3 : Int32) (h : AH), L_X7_explore_60 Q K34 v0 v1 v2 n v3 h → AQ o kX7_explore h 60 [(0, .ref v0), (1, .int v1), (2, .int v2), (3, .int v3)] [] (qV Q) := by
  intro n
  induction n with
  | zero => intro v3 h H; exact H.elim
  | succ n ih => intro v3 h H; exact b_X7_explore_60 hK34 ih H
def B_X7_explore_34 (Q : AH → Prop) (K34 : Int32 → AH → Prop) (v0 : Nat) (v1 : Int32) (h : AH) : Prop :=
  gI h v0 7 11 (fun x1 => ((x1 ≤ v1 → Q h) ∧ (¬ (x1 ≤ v1) → gR h v0 7 10 (fun a2 => aL h a2 0 (fun x3 => ((x3 ≤ v1 → Q h) ∧ (¬ (x3 ≤ v1) → gR h v0 7 10 (fun a4 => lI h a4 v1 (fun x5 => ∃ n, L_X7_explore_60 Q K34 v0 v1 x5 n (0 : Int32) h)))))))))
set_option maxRecDepth 100000 in
set_option maxHeartbeats 4000000 in
theorem b_X7_explore_34 {o : Om} {Q : AH → Prop} {K34 : Int32 → AH → Prop} {v0 : Nat} {v1 : Int32} {h : AH} (hK34 : ∀ w1 h, K34 w1 h → AQ o kX7_explore h 34 [(0, .ref v0), (1, .int w1)] [] (qV Q)) (H : B_X7_explore_34 Q K34 v0 v1 h) : AQ o kX7_explore h 34 [(0, .ref v0), (1, .int v1)] [] (qV Q) := by
  refine a_iload_n 1 rfl rfl dX7_explore_34 ?_
  refine a_aload_n 0 rfl rfl dX7_explore_35 ?_
  refine r_gI fo_RX7_41_7 dX7_explore_36 H (fun x1 H => ?_)
  refine a_icmp_ge (tgt := 130) dX7_explore_39 (by decide) (fun c => ?_) (fun c => ?_)
  · have H := H.1 (c)
    exact r_retv rfl dX7_explore_130 H
  · have H := H.2 (c)
    refine a_iload_n 1 rfl rfl dX7_explore_42 ?_
    refine a_aload_n 0 rfl rfl dX7_explore_43 ?_
    refine r_gR fo_RX7_38_7 dX7_explore_44 H (fun a2 H => ?_)
    refine r_aL (by decide) dX7_explore_47 H (fun x3 H => ?_)
    refine a_icmp_ge (tgt := 130) dX7_explore_48 (by decide) (fun c => ?_) (fun c => ?_)
    · have H := H.1 (c)
      exact r_retv rfl dX7_explore_130 H
    · have H := H.2 (c)
      refine a_aload_n 0 rfl rfl dX7_explore_51 ?_
      refine r_gR fo_RX7_38_7 dX7_explore_52 H (fun a4 H => ?_)
      refine a_iload_n 1 rfl rfl dX7_explore_55 ?_
      refine r_lI dX7_explore_56 H (fun x5 H => ?_)
      refine a_istore_n (lv1 := [(0, .ref v0), (1, .int v1), (2, .int x5)]) rfl [1, 2, 0] (by decide) rfl dX7_explore_57 ?_
      refine a_iconst (v := (0 : Int32)) (by decide) dX7_explore_58 ?_
      refine a_istore_n (lv1 := [(0, .ref v0), (1, .int v1), (2, .int x5), (3, .int (0 : Int32))]) rfl [1, 2, 3, 0] (by decide) rfl dX7_explore_59 ?_
      obtain ⟨n, H⟩ := H
      exact l_X7_explore_60 hK34 n _ _ H
def L_X7_explore_34 (Q : AH → Prop)  (v0 : Nat) : Nat → Int32 → AH → Prop
  | 0, _, _ => False
  | n + 1, v1, h => B_X7_explore_34 Q (L_X7_explore_34 Q  v0 n) v0 v1 h
theorem l_X7_explore_34 {o : Om} {Q : AH → Prop}  {v0 : Nat}  : ∀ (n : Nat) (v1 : Int32) (h : AH), L_X7_explore_34 Q  v0 n v1 h → AQ o kX7_explore h 34 [(0, .ref v0), (1, .int v1)] [] (qV Q) := by
  intro n
  induction n with
  | zero => intro v1 h H; exact H.elim
  | succ n ih => intro v1 h H; exact b_X7_explore_34 ih H
def f_X7_explore (v0 : Nat) (h : AH) (Q : AH → Prop) : Prop :=
  gI h v0 7 7 (fun x1 => ((x1 = 0 → isO h v0 7 ∧ f_X7_clearRoom v0  h (fun h2 => pF h2 v0 7 7 (.int (1 : Int32)) (fun h3 => pF h3 v0 7 11 (.int (0 : Int32)) (fun h4 => gI h4 v0 7 5 (fun x5 => isO h4 v0 7 ∧ f_X7_reach v0 x5 (0 : Int32) (0 : Int32) h4 (fun h6 => ∃ n, L_X7_explore_34 Q  v0 n (0 : Int32) h6)))))) ∧ (¬ (x1 = 0) → Q h)))
set_option maxRecDepth 100000 in
set_option maxHeartbeats 4000000 in
theorem s_X7_explore {o : Om} {v0 : Nat} {h : AH} {Q : AH → Prop} (H : f_X7_explore v0 h Q) : MQ' o kX7_explore [.ref v0] h (qV Q) := by
  refine MQ'.of (by decide +kernel) (Nat.le_of_ble_eq_true rfl) ?_
  show AQ o kX7_explore h 0 [(0, .ref v0)] [] (qV Q)
  refine a_aload_n 0 rfl rfl dX7_explore_0 ?_
  refine r_gI fo_RX7_28_7 dX7_explore_1 H (fun x1 H => ?_)
  refine a_if_eq (tgt := 8) dX7_explore_4 (by decide) (fun c => ?_) (fun c => ?_)
  · have H := H.1 (c)
    refine a_aload_n 0 rfl rfl dX7_explore_8 ?_
    refine r_Vv (q := (RX7, TX7, 17)) (av := []) (rest := []) rfl rfl okX7_clearRoom H.1 rfl rfl wd833 wd835 wp21 ⟨Nat.le_of_ble_eq_true rfl, Nat.le_of_ble_eq_true rfl⟩ (Nat.le_of_ble_eq_true rfl) dX7_explore_9 (s_X7_clearRoom H.2) (fun h2 H => ?_)
    refine a_aload_n 0 rfl rfl dX7_explore_12 ?_
    refine a_iconst (v := (1 : Int32)) (by decide) dX7_explore_13 ?_
    refine r_pF (po_RX7_28_7 _) (fun _ => rfl) (fun _ => rfl) dX7_explore_14 H (fun h3 H => ?_)
    refine a_aload_n 0 rfl rfl dX7_explore_17 ?_
    refine a_iconst (v := (0 : Int32)) (by decide) dX7_explore_18 ?_
    refine r_pF (po_RX7_41_7 _) (fun _ => rfl) (fun _ => rfl) dX7_explore_19 H (fun h4 H => ?_)
    refine a_aload_n 0 rfl rfl dX7_explore_22 ?_
    refine a_aload_n 0 rfl rfl dX7_explore_23 ?_
    refine r_gI fo_RX7_21_7 dX7_explore_24 H (fun x5 H => ?_)
    refine a_iconst (v := (0 : Int32)) (by decide) dX7_explore_27 ?_
    refine a_iconst (v := (0 : Int32)) (by decide) dX7_explore_28 ?_
    refine r_Vv (q := (RX7, TX7, 17)) (av := [.int x5, .int (0 : Int32), .int (0 : Int32)]) (rest := []) rfl rfl okX7_reach H.1 rfl rfl wd837 wd839 wp22 ⟨Nat.le_of_ble_eq_true rfl, Nat.le_of_ble_eq_true rfl⟩ (Nat.le_of_ble_eq_true rfl) dX7_explore_29 (s_X7_reach H.2) (fun h6 H => ?_)
    refine a_iconst (v := (0 : Int32)) (by decide) dX7_explore_32 ?_
    refine a_istore_n (lv1 := [(0, .ref v0), (1, .int (0 : Int32))]) rfl [1, 0] (by decide) rfl dX7_explore_33 ?_
    obtain ⟨n, H⟩ := H
    exact l_X7_explore_34  n _ _ H
  · have H := H.2 (c)
    exact r_retv rfl dX7_explore_7 H
def f_X5_isAllHome (v0 : Nat) (v1 : Int32) (h : AH) (Q : Int32 → AH → Prop) : Prop :=
  gI h v0 5 8 (fun x1 => gI h v0 5 9 (fun x2 => ((¬ ((v1 &&& x1) = x2) → Q (0 : Int32) h) ∧ ((v1 &&& x1) = x2 → Q (1 : Int32) h))))
set_option maxRecDepth 100000 in
set_option maxHeartbeats 4000000 in
theorem s_X5_isAllHome {o : Om} {v0 : Nat} {v1 : Int32} {h : AH} {Q : Int32 → AH → Prop} (H : f_X5_isAllHome v0 v1 h Q) : MQ' o kX5_isAllHome [.ref v0, .int v1] h (qI Q) := by
  refine MQ'.of (by decide +kernel) (Nat.le_of_ble_eq_true rfl) ?_
  show AQ o kX5_isAllHome h 0 [(0, .ref v0), (1, .int v1)] [] (qI Q)
  refine a_iload_n 1 rfl rfl dX5_isAllHome_0 ?_
  refine a_aload_n 0 rfl rfl dX5_isAllHome_1 ?_
  refine r_gI fo_RX5_40_5 dX5_isAllHome_2 H (fun x1 H => ?_)
  refine a_iand dX5_isAllHome_5 ?_
  refine a_aload_n 0 rfl rfl dX5_isAllHome_6 ?_
  refine r_gI fo_RX5_43_5 dX5_isAllHome_7 H (fun x2 H => ?_)
  refine a_icmp_ne (tgt := 17) dX5_isAllHome_10 (by decide) (fun c => ?_) (fun c => ?_)
  · have H := H.1 (c)
    refine a_iconst (v := (0 : Int32)) (by decide) dX5_isAllHome_17 ?_
    exact r_retz rfl bl_0 dX5_isAllHome_18 H
  · have H := H.2 (c)
    refine a_iconst (v := (1 : Int32)) (by decide) dX5_isAllHome_13 ?_
    refine a_goto (tgt := 18) dX5_isAllHome_14 (by decide) ?_
    exact r_retz rfl bl_1 dX5_isAllHome_18 H
def B_X7_firstHome_6 (Q : Int32 → AH → Prop) (K6 : Int32 → AH → Prop) (v0 : Nat) (v1 : Int32) (h : AH) : Prop :=
  gI h v0 7 11 (fun x1 => ((x1 ≤ v1 → Q (-1 : Int32) h) ∧ (¬ (x1 ≤ v1) → gR h v0 7 10 (fun a2 => aL h a2 0 (fun x3 => ((x3 ≤ v1 → Q (-1 : Int32) h) ∧ (¬ (x3 ≤ v1) → gR h v0 7 4 (fun a4 => gR h v0 7 10 (fun a5 => lI h a5 v1 (fun x6 => isO h a4 5 ∧ f_X5_isAllHome a4 x6 h (fun x7 h8 => ((x7 = 0 → K6 (v1 + 1) h8) ∧ (¬ (x7 = 0) → gR h8 v0 7 10 (fun a9 => lI h8 a9 v1 (fun x10 => Q x10 h8)))))))))))))))
set_option maxRecDepth 100000 in
set_option maxHeartbeats 4000000 in
theorem b_X7_firstHome_6 {o : Om} {Q : Int32 → AH → Prop} {K6 : Int32 → AH → Prop} {v0 : Nat} {v1 : Int32} {h : AH} (hK6 : ∀ w1 h, K6 w1 h → AQ o kX7_firstHome h 6 [(0, .ref v0), (1, .int w1)] [] (qI Q)) (H : B_X7_firstHome_6 Q K6 v0 v1 h) : AQ o kX7_firstHome h 6 [(0, .ref v0), (1, .int v1)] [] (qI Q) := by
  refine a_iload_n 1 rfl rfl dX7_firstHome_6 ?_
  refine a_aload_n 0 rfl rfl dX7_firstHome_7 ?_
  refine r_gI fo_RX7_41_7 dX7_firstHome_8 H (fun x1 H => ?_)
  refine a_icmp_ge (tgt := 52) dX7_firstHome_11 (by decide) (fun c => ?_) (fun c => ?_)
  · have H := H.1 (c)
    refine a_iconst (v := (-1 : Int32)) (by decide) dX7_firstHome_52 ?_
    exact r_reti rfl dX7_firstHome_53 H
  · have H := H.2 (c)
    refine a_iload_n 1 rfl rfl dX7_firstHome_14 ?_
    refine a_aload_n 0 rfl rfl dX7_firstHome_15 ?_
    refine r_gR fo_RX7_38_7 dX7_firstHome_16 H (fun a2 H => ?_)
    refine r_aL (by decide) dX7_firstHome_19 H (fun x3 H => ?_)
    refine a_icmp_ge (tgt := 52) dX7_firstHome_20 (by decide) (fun c => ?_) (fun c => ?_)
    · have H := H.1 (c)
      refine a_iconst (v := (-1 : Int32)) (by decide) dX7_firstHome_52 ?_
      exact r_reti rfl dX7_firstHome_53 H
    · have H := H.2 (c)
      refine a_aload_n 0 rfl rfl dX7_firstHome_23 ?_
      refine r_gR fo_RX7_59_7 dX7_firstHome_24 H (fun a4 H => ?_)
      refine a_aload_n 0 rfl rfl dX7_firstHome_27 ?_
      refine r_gR fo_RX7_38_7 dX7_firstHome_28 H (fun a5 H => ?_)
      refine a_iload_n 1 rfl rfl dX7_firstHome_31 ?_
      refine r_lI dX7_firstHome_32 H (fun x6 H => ?_)
      refine r_Vi (q := (RX5, TX5, 10)) (av := [.int x6]) (rest := []) rfl rfl okX5_isAllHome H.1 rfl rfl wd850 wd851 wd852 ⟨Nat.le_of_ble_eq_true rfl, Nat.le_of_ble_eq_true rfl⟩ (Nat.le_of_ble_eq_true rfl) dX7_firstHome_33 (s_X5_isAllHome H.2) (fun x7 h8 H => ?_)
      refine a_if_eq (tgt := 46) dX7_firstHome_36 (by decide) (fun c => ?_) (fun c => ?_)
      · have H := H.1 (c)
        refine a_iinc (v := v1 + 1) (lv1 := [(0, .ref v0), (1, .int (v1 + 1))]) [1, 0] 1 rfl (by decide) rfl rfl dX7_firstHome_46 ?_
        refine a_goto (tgt := 6) dX7_firstHome_49 (by decide) ?_
        exact hK6 _ _ H
      · have H := H.2 (c)
        refine a_aload_n 0 rfl rfl dX7_firstHome_39 ?_
        refine r_gR fo_RX7_38_7 dX7_firstHome_40 H (fun a9 H => ?_)
        refine a_iload_n 1 rfl rfl dX7_firstHome_43 ?_
        refine r_lI dX7_firstHome_44 H (fun x10 H => ?_)
        exact r_reti rfl dX7_firstHome_45 H
def L_X7_firstHome_6 (Q : Int32 → AH → Prop)  (v0 : Nat) : Nat → Int32 → AH → Prop
  | 0, _, _ => False
  | n + 1, v1, h => B_X7_firstHome_6 Q (L_X7_firstHome_6 Q  v0 n) v0 v1 h
theorem l_X7_firstHome_6 {o : Om} {Q : Int32 → AH → Prop}  {v0 : Nat}  : ∀ (n : Nat) (v1 : Int32) (h : AH), L_X7_firstHome_6 Q  v0 n v1 h → AQ o kX7_firstHome h 6 [(0, .ref v0), (1, .int v1)] [] (qI Q) := by
  intro n
  induction n with
  | zero => intro v1 h H; exact H.elim
  | succ n ih => intro v1 h H; exact b_X7_firstHome_6 ih H
def f_X7_firstHome (v0 : Nat) (h : AH) (Q : Int32 → AH → Prop) : Prop :=
  isO h v0 7 ∧ f_X7_explore v0  h (fun h1 => ∃ n, L_X7_firstHome_6 Q  v0 n (0 : Int32) h1)
set_option maxRecDepth 100000 in
set_option maxHeartbeats 4000000 in
theorem s_X7_firstHome {o : Om} {v0 : Nat} {h : AH} {Q : Int32 → AH → Prop} (H : f_X7_firstHome v0 h Q) : MQ' o kX7_firstHome [.ref v0] h (qI Q) := by
  refine MQ'.of (by decide +kernel) (Nat.le_of_ble_eq_true rfl) ?_
  show AQ o kX7_firstHome h 0 [(0, .ref v0)] [] (qI Q)
  refine a_aload_n 0 rfl rfl dX7_firstHome_0 ?_
  refine r_Vv (q := (RX7, TX7, 17)) (av := []) (rest := []) rfl rfl okX7_explore H.1 rfl rfl wd829 wd831 wp20 ⟨Nat.le_of_ble_eq_true rfl, Nat.le_of_ble_eq_true rfl⟩ (Nat.le_of_ble_eq_true rfl) dX7_firstHome_1 (s_X7_explore H.2) (fun h1 H => ?_)
  refine a_iconst (v := (0 : Int32)) (by decide) dX7_firstHome_4 ?_
  refine a_istore_n (lv1 := [(0, .ref v0), (1, .int (0 : Int32))]) rfl [1, 0] (by decide) rfl dX7_firstHome_5 ?_
  obtain ⟨n, H⟩ := H
  exact l_X7_firstHome_6  n _ _ H
def B_X7_homesAsNear_4 (Q : Int32 → AH → Prop) (K4 : Int32 → Int32 → AH → Prop) (v0 : Nat) (v1 : Int32) (v2 : Int32) (v3 : Int32) (h : AH) : Prop :=
  gI h v0 7 11 (fun x1 => ((x1 ≤ v3 → Q v2 h) ∧ (¬ (x1 ≤ v3) → gR h v0 7 10 (fun a2 => aL h a2 0 (fun x3 => ((x3 ≤ v3 → Q v2 h) ∧ (¬ (x3 ≤ v3) → gR h v0 7 10 (fun a4 => lI h a4 v3 (fun x5 => isO h v0 7 ∧ f_X7_farTo v0 x5 h (fun x6 h7 => isO h7 v0 7 ∧ f_X7_farTo v0 v1 h7 (fun x8 h9 => ((¬ (x6 = x8) → K4 v2 (v3 + 1) h9) ∧ (x6 = x8 → gR h9 v0 7 4 (fun a10 => gR h9 v0 7 10 (fun a11 => lI h9 a11 v3 (fun x12 => isO h9 a10 5 ∧ f_X5_isAllHome a10 x12 h9 (fun x13 h14 => ((x13 = 0 → K4 v2 (v3 + 1) h14) ∧ (¬ (x13 = 0) → K4 (v2 + 1) (v3 + 1) h14)))))))))))))))))))
set_option maxRecDepth 100000 in
set_option maxHeartbeats 4000000 in
theorem b_X7_homesAsNear_4 {o : Om} {Q : Int32 → AH → Prop} {K4 : Int32 → Int32 → AH → Prop} {v0 : Nat} {v1 : Int32} {v2 : Int32} {v3 : Int32} {h : AH} (hK4 : ∀ w2 w3 h, K4 w2 w3 h → AQ o kX7_homesAsNear h 4 [(0, .ref v0), (1, .int v1), (2, .int w2), (3, .int w3)] [] (qI Q)) (H : B_X7_homesAsNear_4 Q K4 v0 v1 v2 v3 h) : AQ o kX7_homesAsNear h 4 [(0, .ref v0), (1, .int v1), (2, .int v2), (3, .int v3)] [] (qI Q) := by
  refine a_iload_n 3 rfl rfl dX7_homesAsNear_4 ?_
  refine a_aload_n 0 rfl rfl dX7_homesAsNear_5 ?_
  refine r_gI fo_RX7_41_7 dX7_homesAsNear_6 H (fun x1 H => ?_)
  refine a_icmp_ge (tgt := 64) dX7_homesAsNear_9 (by decide) (fun c => ?_) (fun c => ?_)
  · have H := H.1 (c)
    refine a_iload_n 2 rfl rfl dX7_homesAsNear_64 ?_
    exact r_reti rfl dX7_homesAsNear_65 H
  · have H := H.2 (c)
    refine a_iload_n 3 rfl rfl dX7_homesAsNear_12 ?_
    refine a_aload_n 0 rfl rfl dX7_homesAsNear_13 ?_
    refine r_gR fo_RX7_38_7 dX7_homesAsNear_14 H (fun a2 H => ?_)
    refine r_aL (by decide) dX7_homesAsNear_17 H (fun x3 H => ?_)
    refine a_icmp_ge (tgt := 64) dX7_homesAsNear_18 (by decide) (fun c => ?_) (fun c => ?_)
    · have H := H.1 (c)
      refine a_iload_n 2 rfl rfl dX7_homesAsNear_64 ?_
      exact r_reti rfl dX7_homesAsNear_65 H
    · have H := H.2 (c)
      refine a_aload_n 0 rfl rfl dX7_homesAsNear_21 ?_
      refine a_aload_n 0 rfl rfl dX7_homesAsNear_22 ?_
      refine r_gR fo_RX7_38_7 dX7_homesAsNear_23 H (fun a4 H => ?_)
      refine a_iload_n 3 rfl rfl dX7_homesAsNear_26 ?_
      refine r_lI dX7_homesAsNear_27 H (fun x5 H => ?_)
      refine r_Vi (q := (RX7, TX7, 17)) (av := [.int x5]) (rest := []) rfl rfl okX7_farTo H.1 rfl rfl wd846 wd847 wd848 ⟨Nat.le_of_ble_eq_true rfl, Nat.le_of_ble_eq_true rfl⟩ (Nat.le_of_ble_eq_true rfl) dX7_homesAsNear_28 (s_X7_farTo H.2) (fun x6 h7 H => ?_)
      refine a_aload_n 0 rfl rfl dX7_homesAsNear_31 ?_
      refine a_iload_n 1 rfl rfl dX7_homesAsNear_32 ?_
      refine r_Vi (q := (RX7, TX7, 17)) (av := [.int v1]) (rest := [.int x6]) rfl rfl okX7_farTo H.1 rfl rfl wd846 wd847 wd848 ⟨Nat.le_of_ble_eq_true rfl, Nat.le_of_ble_eq_true rfl⟩ (Nat.le_of_ble_eq_true rfl) dX7_homesAsNear_33 (s_X7_farTo H.2) (fun x8 h9 H => ?_)
      refine a_icmp_ne (tgt := 58) dX7_homesAsNear_36 (by decide) (fun c => ?_) (fun c => ?_)
      · have H := H.1 (c)
        refine a_iinc (v := v3 + 1) (lv1 := [(0, .ref v0), (1, .int v1), (2, .int v2), (3, .int (v3 + 1))]) [1, 2, 3, 0] 3 rfl (by decide) rfl rfl dX7_homesAsNear_58 ?_
        refine a_goto (tgt := 4) dX7_homesAsNear_61 (by decide) ?_
        exact hK4 _ _ _ H
      · have H := H.2 (c)
        refine a_aload_n 0 rfl rfl dX7_homesAsNear_39 ?_
        refine r_gR fo_RX7_59_7 dX7_homesAsNear_40 H (fun a10 H => ?_)
        refine a_aload_n 0 rfl rfl dX7_homesAsNear_43 ?_
        refine r_gR fo_RX7_38_7 dX7_homesAsNear_44 H (fun a11 H => ?_)
        refine a_iload_n 3 rfl rfl dX7_homesAsNear_47 ?_
        refine r_lI dX7_homesAsNear_48 H (fun x12 H => ?_)
        refine r_Vi (q := (RX5, TX5, 10)) (av := [.int x12]) (rest := []) rfl rfl okX5_isAllHome H.1 rfl rfl wd850 wd851 wd852 ⟨Nat.le_of_ble_eq_true rfl, Nat.le_of_ble_eq_true rfl⟩ (Nat.le_of_ble_eq_true rfl) dX7_homesAsNear_49 (s_X5_isAllHome H.2) (fun x13 h14 H => ?_)
        refine a_if_eq (tgt := 58) dX7_homesAsNear_52 (by decide) (fun c => ?_) (fun c => ?_)
        · have H := H.1 (c)
          refine a_iinc (v := v3 + 1) (lv1 := [(0, .ref v0), (1, .int v1), (2, .int v2), (3, .int (v3 + 1))]) [1, 2, 3, 0] 3 rfl (by decide) rfl rfl dX7_homesAsNear_58 ?_
          refine a_goto (tgt := 4) dX7_homesAsNear_61 (by decide) ?_
          exact hK4 _ _ _ H
        · have H := H.2 (c)
          refine a_iinc (v := v2 + 1) (lv1 := [(0, .ref v0), (1, .int v1), (2, .int (v2 + 1)), (3, .int v3)]) [1, 2, 0, 3] 2 rfl (by decide) rfl rfl dX7_homesAsNear_55 ?_
          refine a_iinc (v := v3 + 1) (lv1 := [(0, .ref v0), (1, .int v1), (2, .int (v2 + 1)), (3, .int (v3 + 1))]) [1, 2, 3, 0] 3 rfl (by decide) rfl rfl dX7_homesAsNear_58 ?_
          refine a_goto (tgt := 4) dX7_homesAsNear_61 (by decide) ?_
          exact hK4 _ _ _ H
def L_X7_homesAsNear_4 (Q : Int32 → AH → Prop)  (v0 : Nat) (v1 : Int32) : Nat → Int32 → Int32 → AH → Prop
  | 0, _, _, _ => False
  | n + 1, v2, v3, h => B_X7_homesAsNear_4 Q (L_X7_homesAsNear_4 Q  v0 v1 n) v0 v1 v2 v3 h
theorem l_X7_homesAsNear_4 {o : Om} {Q : Int32 → AH → Prop}  {v0 : Nat} {v1 : Int32}  : ∀ (n : Nat) (v2 : Int32) (v3 : Int32) (h : AH), L_X7_homesAsNear_4 Q  v0 v1 n v2 v3 h → AQ o kX7_homesAsNear h 4 [(0, .ref v0), (1, .int v1), (2, .int v2), (3, .int v3)] [] (qI Q) := by
  intro n
  induction n with
  | zero => intro v2 v3 h H; exact H.elim
  | succ n ih => intro v2 v3 h H; exact b_X7_homesAsNear_4 ih H
def f_X7_homesAsNear (v0 : Nat) (v1 : Int32) (h : AH) (Q : Int32 → AH → Prop) : Prop :=
  ∃ n, L_X7_homesAsNear_4 Q  v0 v1 n (0 : Int32) (0 : Int32) h
set_option maxRecDepth 100000 in
set_option maxHeartbeats 4000000 in
theorem s_X7_homesAsNear {o : Om} {v0 : Nat} {v1 : Int32} {h : AH} {Q : Int32 → AH → Prop} (H : f_X7_homesAsNear v0 v1 h Q) : MQ' o kX7_homesAsNear [.ref v0, .int v1] h (qI Q) := by
  refine MQ'.of (by decide +kernel) (Nat.le_of_ble_eq_true rfl) ?_
  show AQ o kX7_homesAsNear h 0 [(0, .ref v0), (1, .int v1)] [] (qI Q)
  refine a_iconst (v := (0 : Int32)) (by decide) dX7_homesAsNear_0 ?_
  refine a_istore_n (lv1 := [(0, .ref v0), (1, .int v1), (2, .int (0 : Int32))]) rfl [1, 2, 0] (by decide) rfl dX7_homesAsNear_1 ?_
  refine a_iconst (v := (0 : Int32)) (by decide) dX7_homesAsNear_2 ?_
  refine a_istore_n (lv1 := [(0, .ref v0), (1, .int v1), (2, .int (0 : Int32)), (3, .int (0 : Int32))]) rfl [1, 2, 3, 0] (by decide) rfl dX7_homesAsNear_3 ?_
  obtain ⟨n, H⟩ := H
  exact l_X7_homesAsNear_4  n _ _ _ H
def f_X11_fewest (v0 : Nat) (h : AH) (Q : Int32 → AH → Prop) : Prop :=
  gR h v0 11 8 (fun a1 => gI h a1 5 4 (fun x2 => ((¬ (x2 = 0) → gR h v0 11 7 (fun a3 => gR h v0 11 8 (fun a4 => gI h v0 11 9 (fun x5 => gI h v0 11 10 (fun x6 => isO h a3 7 ∧ f_X7_from a3 a4 x5 x6 h (fun h7 => gR h7 v0 11 7 (fun a8 => isO h7 a8 7 ∧ f_X7_firstHome a8  h7 (fun x9 h10 => ((0 ≤ x9 → gR h10 v0 11 7 (fun a11 => isO h10 a11 7 ∧ f_X7_homesAsNear a11 x9 h10 (fun x12 h13 => pF h13 v0 11 12 (.int x12) (fun h14 => gR h14 v0 11 7 (fun a15 => isO h14 a15 7 ∧ f_X7_farTo a15 x9 h14 (fun x16 h17 => Q x16 h17)))))) ∧ (¬ (0 ≤ x9) → Q (-9 : Int32) h10)))))))))) ∧ (x2 = 0 → Q (-4 : Int32) h))))
set_option maxRecDepth 100000 in
set_option maxHeartbeats 4000000 in
theorem s_X11_fewest {o : Om} {v0 : Nat} {h : AH} {Q : Int32 → AH → Prop} (H : f_X11_fewest v0 h Q) : MQ' o kX11_fewest [.ref v0] h (qI Q) := by
  refine MQ'.of (by decide +kernel) (Nat.le_of_ble_eq_true rfl) ?_
  show AQ o kX11_fewest h 0 [(0, .ref v0)] [] (qI Q)
  refine a_aload_n 0 rfl rfl dX11_fewest_0 ?_
  refine r_gR fo_RX11_60_11 dX11_fewest_1 H (fun a1 H => ?_)
  refine r_gI fo_RX11_198_5 dX11_fewest_4 H (fun x2 H => ?_)
  refine a_if_ne (tgt := 13) dX11_fewest_7 (by decide) (fun c => ?_) (fun c => ?_)
  · have H := H.1 (c)
    refine a_aload_n 0 rfl rfl dX11_fewest_13 ?_
    refine r_gR fo_RX11_74_11 dX11_fewest_14 H (fun a3 H => ?_)
    refine a_aload_n 0 rfl rfl dX11_fewest_17 ?_
    refine r_gR fo_RX11_60_11 dX11_fewest_18 H (fun a4 H => ?_)
    refine a_aload_n 0 rfl rfl dX11_fewest_21 ?_
    refine r_gI fo_RX11_34_11 dX11_fewest_22 H (fun x5 H => ?_)
    refine a_aload_n 0 rfl rfl dX11_fewest_25 ?_
    refine r_gI fo_RX11_38_11 dX11_fewest_26 H (fun x6 H => ?_)
    refine r_Vv (q := (RX7, TX7, 17)) (av := [.ref a4, .int x5, .int x6]) (rest := []) rfl rfl okX7_from H.1 rfl rfl wd775 wd776 wd777 ⟨Nat.le_of_ble_eq_true rfl, Nat.le_of_ble_eq_true rfl⟩ (Nat.le_of_ble_eq_true rfl) dX11_fewest_29 (s_X7_from H.2) (fun h7 H => ?_)
    refine a_aload_n 0 rfl rfl dX11_fewest_32 ?_
    refine r_gR fo_RX11_74_11 dX11_fewest_33 H (fun a8 H => ?_)
    refine r_Vi (q := (RX7, TX7, 17)) (av := []) (rest := []) rfl rfl okX7_firstHome H.1 rfl rfl wd825 wd826 wd827 ⟨Nat.le_of_ble_eq_true rfl, Nat.le_of_ble_eq_true rfl⟩ (Nat.le_of_ble_eq_true rfl) dX11_fewest_36 (s_X7_firstHome H.2) (fun x9 h10 H => ?_)
    refine a_istore_n (lv1 := [(0, .ref v0), (1, .int x9)]) rfl [1, 0] (by decide) rfl dX11_fewest_39 ?_
    refine a_iload_n 1 rfl rfl dX11_fewest_40 ?_
    refine a_if_ge (tgt := 47) dX11_fewest_41 (by decide) (fun c => ?_) (fun c => ?_)
    · have H := H.1 (c)
      refine a_aload_n 0 rfl rfl dX11_fewest_47 ?_
      refine a_aload_n 0 rfl rfl dX11_fewest_48 ?_
      refine r_gR fo_RX11_74_11 dX11_fewest_49 H (fun a11 H => ?_)
      refine a_iload_n 1 rfl rfl dX11_fewest_52 ?_
      refine r_Vi (q := (RX7, TX7, 17)) (av := [.int x9]) (rest := [.ref v0]) rfl rfl okX7_homesAsNear H.1 rfl rfl wd854 wd855 wd856 ⟨Nat.le_of_ble_eq_true rfl, Nat.le_of_ble_eq_true rfl⟩ (Nat.le_of_ble_eq_true rfl) dX11_fewest_53 (s_X7_homesAsNear H.2) (fun x12 h13 H => ?_)
      refine r_pF (po_RX11_44_11 _) (fun _ => rfl) (fun _ => rfl) dX11_fewest_56 H (fun h14 H => ?_)
      refine a_aload_n 0 rfl rfl dX11_fewest_59 ?_
      refine r_gR fo_RX11_74_11 dX11_fewest_60 H (fun a15 H => ?_)
      refine a_iload_n 1 rfl rfl dX11_fewest_63 ?_
      refine r_Vi (q := (RX7, TX7, 17)) (av := [.int x9]) (rest := []) rfl rfl okX7_farTo H.1 rfl rfl wd858 wd847 wd848 ⟨Nat.le_of_ble_eq_true rfl, Nat.le_of_ble_eq_true rfl⟩ (Nat.le_of_ble_eq_true rfl) dX11_fewest_64 (s_X7_farTo H.2) (fun x16 h17 H => ?_)
      exact r_reti rfl dX11_fewest_67 H
    · have H := H.2 (c)
      refine a_bipush (v := (-9 : Int32)) (by decide) dX11_fewest_44 ?_
      exact r_reti rfl dX11_fewest_46 H
  · have H := H.2 (c)
    refine a_bipush (v := (-4 : Int32)) (by decide) dX11_fewest_10 ?_
    exact r_reti rfl dX11_fewest_12 H
def B_X12_goesOut_66 (Q : AH → Prop) (K48 : Int32 → AH → Prop) (K66 : Int32 → AH → Prop) (v0 : Nat) (v1 : Int32) (v2 : Int32) (v3 : Int32) (v4 : Int32) (h : AH) : Prop :=
  gI h v0 12 12 (fun x1 => ((x1 ≤ v4 → K48 (v2 + 1) h) ∧ (¬ (x1 ≤ v4) → isO h v0 12 ∧ f_X12_behind v0 v3 v4 v1 h (fun x2 h3 => gR h3 v0 12 43 (fun a4 => lI h3 a4 x2 (fun x5 => ((0 ≤ x5 → K66 (v4 + 1) h3) ∧ (¬ (0 ≤ x5) → gR h3 v0 12 43 (fun a6 => gR h3 v0 12 43 (fun a7 => lI h3 a7 v3 (fun x8 => sI h3 a6 x2 (x8 + (1 : Int32)) (fun h9 => gR h9 v0 12 42 (fun a10 => gI h9 v0 12 45 (fun x11 => sI h9 a10 x11 x2 (fun h12 => gI h12 v0 12 45 (fun x13 => pF h12 v0 12 45 (.int (x13 + (1 : Int32))) (fun h14 => K66 (v4 + 1) h14)))))))))))))))))
set_option maxRecDepth 100000 in
set_option maxHeartbeats 4000000 in
theorem b_X12_goesOut_66 {o : Om} {Q : AH → Prop} {K48 : Int32 → AH → Prop} {K66 : Int32 → AH → Prop} {v0 : Nat} {v1 : Int32} {v2 : Int32} {v3 : Int32} {v4 : Int32} {h : AH} (hK48 : ∀ w2 h, K48 w2 h → AQ o kX12_goesOut h 48 [(0, .ref v0), (1, .int v1), (2, .int w2)] [] (qV Q)) (hK66 : ∀ w4 h, K66 w4 h → AQ o kX12_goesOut h 66 [(0, .ref v0), (1, .int v1), (2, .int v2), (3, .int v3), (4, .int w4)] [] (qV Q)) (H : B_X12_goesOut_66 Q K48 K66 v0 v1 v2 v3 v4 h) : AQ o kX12_goesOut h 66 [(0, .ref v0), (1, .int v1), (2, .int v2), (3, .int v3), (4, .int v4)] [] (qV Q) := by
  refine a_iload 4 rfl dX12_goesOut_66 ?_
  refine a_aload_n 0 rfl rfl dX12_goesOut_68 ?_
  refine r_gI fo_RX12_181_12 dX12_goesOut_69 H (fun x1 H => ?_)
  refine a_icmp_ge (tgt := 137) dX12_goesOut_72 (by decide) (fun c => ?_) (fun c => ?_)
  · have H := H.1 (c)
    refine a_iinc (v := v2 + 1) (lv1 := [(0, .ref v0), (1, .int v1), (2, .int (v2 + 1)), (3, .int v3), (4, .int v4)]) [1, 2, 0, 3, 4] 2 rfl (by decide) rfl rfl dX12_goesOut_137 ?_
    refine a_goto (tgt := 48) dX12_goesOut_140 (by decide) ?_
    refine AQ.sub (lv1 := [(0, .ref v0), (1, .int v1), (2, .int (v2 + 1))]) [0, 1, 2] rfl ?_
    exact hK48 _ _ H
  · have H := H.2 (c)
    refine a_aload_n 0 rfl rfl dX12_goesOut_75 ?_
    refine a_iload_n 3 rfl rfl dX12_goesOut_76 ?_
    refine a_iload 4 rfl dX12_goesOut_77 ?_
    refine a_iload_n 1 rfl rfl dX12_goesOut_79 ?_
    refine r_Vi (q := (RX12, TX12, 51)) (av := [.int v3, .int v4, .int v1]) (rest := []) rfl rfl okX12_behind H.1 rfl rfl wd1311 wd1313 wp45 ⟨Nat.le_of_ble_eq_true rfl, Nat.le_of_ble_eq_true rfl⟩ (Nat.le_of_ble_eq_true rfl) dX12_goesOut_80 (s_X12_behind H.2) (fun x2 h3 H => ?_)
    refine a_istore (lv1 := [(0, .ref v0), (1, .int v1), (2, .int v2), (3, .int v3), (4, .int v4), (5, .int x2)]) [1, 2, 3, 4, 5, 0] (by decide) rfl dX12_goesOut_83 ?_
    refine a_aload_n 0 rfl rfl dX12_goesOut_85 ?_
    refine r_gR fo_RX12_93_12 dX12_goesOut_86 H (fun a4 H => ?_)
    refine a_iload 5 rfl dX12_goesOut_89 ?_
    refine r_lI dX12_goesOut_91 H (fun x5 H => ?_)
    refine a_if_ge (tgt := 131) dX12_goesOut_92 (by decide) (fun c => ?_) (fun c => ?_)
    · have H := H.1 (c)
      refine a_iinc (v := v4 + 1) (lv1 := [(0, .ref v0), (1, .int v1), (2, .int v2), (3, .int v3), (4, .int (v4 + 1)), (5, .int x2)]) [1, 2, 3, 4, 0, 5] 4 rfl (by decide) rfl rfl dX12_goesOut_131 ?_
      refine a_goto (tgt := 66) dX12_goesOut_134 (by decide) ?_
      refine AQ.sub (lv1 := [(0, .ref v0), (1, .int v1), (2, .int v2), (3, .int v3), (4, .int (v4 + 1))]) [0, 1, 2, 3, 4] rfl ?_
      exact hK66 _ _ H
    · have H := H.2 (c)
      refine a_aload_n 0 rfl rfl dX12_goesOut_95 ?_
      refine r_gR fo_RX12_93_12 dX12_goesOut_96 H (fun a6 H => ?_)
      refine a_iload 5 rfl dX12_goesOut_99 ?_
      refine a_aload_n 0 rfl rfl dX12_goesOut_101 ?_
      refine r_gR fo_RX12_93_12 dX12_goesOut_102 H (fun a7 H => ?_)
      refine a_iload_n 3 rfl rfl dX12_goesOut_105 ?_
      refine r_lI dX12_goesOut_106 H (fun x8 H => ?_)
      refine a_iconst (v := (1 : Int32)) (by decide) dX12_goesOut_107 ?_
      refine a_iadd dX12_goesOut_108 ?_
      refine r_sI dX12_goesOut_109 H (fun h9 H => ?_)
      refine a_aload_n 0 rfl rfl dX12_goesOut_110 ?_
      refine r_gR fo_RX12_90_12 dX12_goesOut_111 H (fun a10 H => ?_)
      refine a_aload_n 0 rfl rfl dX12_goesOut_114 ?_
      refine r_gI fo_RX12_273_12 dX12_goesOut_115 H (fun x11 H => ?_)
      refine a_iload 5 rfl dX12_goesOut_118 ?_
      refine r_sI dX12_goesOut_120 H (fun h12 H => ?_)
      refine a_aload_n 0 rfl rfl dX12_goesOut_121 ?_
      refine a_dup rfl dX12_goesOut_122 ?_
      refine r_gI fo_RX12_273_12 dX12_goesOut_123 H (fun x13 H => ?_)
      refine a_iconst (v := (1 : Int32)) (by decide) dX12_goesOut_126 ?_
      refine a_iadd dX12_goesOut_127 ?_
      refine r_pF (po_RX12_273_12 _) (fun _ => rfl) (fun _ => rfl) dX12_goesOut_128 H (fun h14 H => ?_)
      refine a_iinc (v := v4 + 1) (lv1 := [(0, .ref v0), (1, .int v1), (2, .int v2), (3, .int v3), (4, .int (v4 + 1)), (5, .int x2)]) [1, 2, 3, 4, 0, 5] 4 rfl (by decide) rfl rfl dX12_goesOut_131 ?_
      refine a_goto (tgt := 66) dX12_goesOut_134 (by decide) ?_
      refine AQ.sub (lv1 := [(0, .ref v0), (1, .int v1), (2, .int v2), (3, .int v3), (4, .int (v4 + 1))]) [0, 1, 2, 3, 4] rfl ?_
      exact hK66 _ _ H
def L_X12_goesOut_66 (Q : AH → Prop) (K48 : Int32 → AH → Prop) (v0 : Nat) (v1 : Int32) (v2 : Int32) (v3 : Int32) : Nat → Int32 → AH → Prop
  | 0, _, _ => False
  | n + 1, v4, h => B_X12_goesOut_66 Q K48 (L_X12_goesOut_66 Q K48 v0 v1 v2 v3 n) v0 v1 v2 v3 v4 h
theorem l_X12_goesOut_66 {o : Om} {Q : AH → Prop} {K48 : Int32 → AH → Prop} {v0 : Nat} {v1 : Int32} {v2 : Int32} {v3 : Int32} (hK48 : ∀ w2 h, K48 w2 h → AQ o kX12_goesOut h 48 [(0, .ref v0), (1, .int v1), (2, .int w2)] [] (qV Q)) : ∀ (n : Nat) (v4 : Int32) (h : AH), L_X12_goesOut_66 Q K48 v0 v1 v2 v3 n v4 h → AQ o kX12_goesOut h 66 [(0, .ref v0), (1, .int v1), (2, .int v2), (3, .int v3), (4, .int v4)] [] (qV Q) := by
  intro n
  induction n with
  | zero => intro v4 h H; exact H.elim
  | succ n ih => intro v4 h H; exact b_X12_goesOut_66 hK48 ih H
def B_X12_goesOut_48 (Q : AH → Prop) (K48 : Int32 → AH → Prop) (v0 : Nat) (v1 : Int32) (v2 : Int32) (h : AH) : Prop :=
  gI h v0 12 45 (fun x1 => ((x1 ≤ v2 → Q h) ∧ (¬ (x1 ≤ v2) → gR h v0 12 42 (fun a2 => lI h a2 v2 (fun x3 => ∃ n, L_X12_goesOut_66 Q K48 v0 v1 v2 x3 n (0 : Int32) h)))))
set_option maxRecDepth 100000 in
set_option maxHeartbeats 4000000 in
theorem b_X12_goesOut_48 {o : Om} {Q : AH → Prop} {K48 : Int32 → AH → Prop} {v0 : Nat} {v1 : Int32} {v2 : Int32} {h : AH} (hK48 : ∀ w2 h, K48 w2 h → AQ o kX12_goesOut h 48 [(0, .ref v0), (1, .int v1), (2, .int w2)] [] (qV Q)) (H : B_X12_goesOut_48 Q K48 v0 v1 v2 h) : AQ o kX12_goesOut h 48 [(0, .ref v0), (1, .int v1), (2, .int v2)] [] (qV Q) := by
  refine a_iload_n 2 rfl rfl dX12_goesOut_48 ?_
  refine a_aload_n 0 rfl rfl dX12_goesOut_49 ?_
  refine r_gI fo_RX12_273_12 dX12_goesOut_50 H (fun x1 H => ?_)
  refine a_icmp_ge (tgt := 143) dX12_goesOut_53 (by decide) (fun c => ?_) (fun c => ?_)
  · have H := H.1 (c)
    exact r_retv rfl dX12_goesOut_143 H
  · have H := H.2 (c)
    refine a_aload_n 0 rfl rfl dX12_goesOut_56 ?_
    refine r_gR fo_RX12_90_12 dX12_goesOut_57 H (fun a2 H => ?_)
    refine a_iload_n 2 rfl rfl dX12_goesOut_60 ?_
    refine r_lI dX12_goesOut_61 H (fun x3 H => ?_)
    refine a_istore_n (lv1 := [(0, .ref v0), (1, .int v1), (2, .int v2), (3, .int x3)]) rfl [1, 2, 3, 0] (by decide) rfl dX12_goesOut_62 ?_
    refine a_iconst (v := (0 : Int32)) (by decide) dX12_goesOut_63 ?_
    refine a_istore (lv1 := [(0, .ref v0), (1, .int v1), (2, .int v2), (3, .int x3), (4, .int (0 : Int32))]) [1, 2, 3, 4, 0] (by decide) rfl dX12_goesOut_64 ?_
    obtain ⟨n, H⟩ := H
    exact l_X12_goesOut_66 hK48 n _ _ H
def L_X12_goesOut_48 (Q : AH → Prop)  (v0 : Nat) (v1 : Int32) : Nat → Int32 → AH → Prop
  | 0, _, _ => False
  | n + 1, v2, h => B_X12_goesOut_48 Q (L_X12_goesOut_48 Q  v0 v1 n) v0 v1 v2 h
theorem l_X12_goesOut_48 {o : Om} {Q : AH → Prop}  {v0 : Nat} {v1 : Int32}  : ∀ (n : Nat) (v2 : Int32) (h : AH), L_X12_goesOut_48 Q  v0 v1 n v2 h → AQ o kX12_goesOut h 48 [(0, .ref v0), (1, .int v1), (2, .int v2)] [] (qV Q) := by
  intro n
  induction n with
  | zero => intro v2 h H; exact H.elim
  | succ n ih => intro v2 h H; exact b_X12_goesOut_48 ih H
def B_X12_goesOut_2 (Q : AH → Prop) (K2 : Int32 → AH → Prop) (v0 : Nat) (v1 : Int32) (v2 : Int32) (h : AH) : Prop :=
  (((32768 : Int32) ≤ v2 → gR h v0 12 42 (fun a1 => gI h v0 12 17 (fun x2 => sI h a1 (0 : Int32) x2 (fun h3 => gR h3 v0 12 43 (fun a4 => gI h3 v0 12 17 (fun x5 => sI h3 a4 x5 (0 : Int32) (fun h6 => pF h6 v0 12 45 (.int (1 : Int32)) (fun h7 => ∃ n, L_X12_goesOut_48 Q  v0 v1 n (0 : Int32) h7)))))))) ∧ (¬ ((32768 : Int32) ≤ v2) → gR h v0 12 43 (fun a8 => sI h a8 v2 (-1 : Int32) (fun h9 => K2 (v2 + 1) h9))))
set_option maxRecDepth 100000 in
set_option maxHeartbeats 4000000 in
theorem b_X12_goesOut_2 {o : Om} {Q : AH → Prop} {K2 : Int32 → AH → Prop} {v0 : Nat} {v1 : Int32} {v2 : Int32} {h : AH} (hK2 : ∀ w2 h, K2 w2 h → AQ o kX12_goesOut h 2 [(0, .ref v0), (1, .int v1), (2, .int w2)] [] (qV Q)) (H : B_X12_goesOut_2 Q K2 v0 v1 v2 h) : AQ o kX12_goesOut h 2 [(0, .ref v0), (1, .int v1), (2, .int v2)] [] (qV Q) := by
  refine a_iload_n 2 rfl rfl dX12_goesOut_2 ?_
  refine a_ldc (v := (32768 : Int32)) wd1024 dX12_goesOut_3 ?_
  refine a_icmp_ge (tgt := 21) dX12_goesOut_5 (by decide) (fun c => ?_) (fun c => ?_)
  · have H := H.1 (c)
    refine a_aload_n 0 rfl rfl dX12_goesOut_21 ?_
    refine r_gR fo_RX12_90_12 dX12_goesOut_22 H (fun a1 H => ?_)
    refine a_iconst (v := (0 : Int32)) (by decide) dX12_goesOut_25 ?_
    refine a_aload_n 0 rfl rfl dX12_goesOut_26 ?_
    refine r_gI fo_RX12_184_12 dX12_goesOut_27 H (fun x2 H => ?_)
    refine r_sI dX12_goesOut_30 H (fun h3 H => ?_)
    refine a_aload_n 0 rfl rfl dX12_goesOut_31 ?_
    refine r_gR fo_RX12_93_12 dX12_goesOut_32 H (fun a4 H => ?_)
    refine a_aload_n 0 rfl rfl dX12_goesOut_35 ?_
    refine r_gI fo_RX12_184_12 dX12_goesOut_36 H (fun x5 H => ?_)
    refine a_iconst (v := (0 : Int32)) (by decide) dX12_goesOut_39 ?_
    refine r_sI dX12_goesOut_40 H (fun h6 H => ?_)
    refine a_aload_n 0 rfl rfl dX12_goesOut_41 ?_
    refine a_iconst (v := (1 : Int32)) (by decide) dX12_goesOut_42 ?_
    refine r_pF (po_RX12_273_12 _) (fun _ => rfl) (fun _ => rfl) dX12_goesOut_43 H (fun h7 H => ?_)
    refine a_iconst (v := (0 : Int32)) (by decide) dX12_goesOut_46 ?_
    refine a_istore_n (lv1 := [(0, .ref v0), (1, .int v1), (2, .int (0 : Int32))]) rfl [1, 2, 0] (by decide) rfl dX12_goesOut_47 ?_
    obtain ⟨n, H⟩ := H
    exact l_X12_goesOut_48  n _ _ H
  · have H := H.2 (c)
    refine a_aload_n 0 rfl rfl dX12_goesOut_8 ?_
    refine r_gR fo_RX12_93_12 dX12_goesOut_9 H (fun a8 H => ?_)
    refine a_iload_n 2 rfl rfl dX12_goesOut_12 ?_
    refine a_iconst (v := (-1 : Int32)) (by decide) dX12_goesOut_13 ?_
    refine r_sI dX12_goesOut_14 H (fun h9 H => ?_)
    refine a_iinc (v := v2 + 1) (lv1 := [(0, .ref v0), (1, .int v1), (2, .int (v2 + 1))]) [1, 2, 0] 2 rfl (by decide) rfl rfl dX12_goesOut_15 ?_
    refine a_goto (tgt := 2) dX12_goesOut_18 (by decide) ?_
    exact hK2 _ _ H
def L_X12_goesOut_2 (Q : AH → Prop)  (v0 : Nat) (v1 : Int32) : Nat → Int32 → AH → Prop
  | 0, _, _ => False
  | n + 1, v2, h => B_X12_goesOut_2 Q (L_X12_goesOut_2 Q  v0 v1 n) v0 v1 v2 h
theorem l_X12_goesOut_2 {o : Om} {Q : AH → Prop}  {v0 : Nat} {v1 : Int32}  : ∀ (n : Nat) (v2 : Int32) (h : AH), L_X12_goesOut_2 Q  v0 v1 n v2 h → AQ o kX12_goesOut h 2 [(0, .ref v0), (1, .int v1), (2, .int v2)] [] (qV Q) := by
  intro n
  induction n with
  | zero => intro v2 h H; exact H.elim
  | succ n ih => intro v2 h H; exact b_X12_goesOut_2 ih H
def f_X12_goesOut (v0 : Nat) (v1 : Int32) (h : AH) (Q : AH → Prop) : Prop :=
  ∃ n, L_X12_goesOut_2 Q  v0 v1 n (0 : Int32) h
set_option maxRecDepth 100000 in
set_option maxHeartbeats 4000000 in
theorem s_X12_goesOut {o : Om} {v0 : Nat} {v1 : Int32} {h : AH} {Q : AH → Prop} (H : f_X12_goesOut v0 v1 h Q) : MQ' o kX12_goesOut [.ref v0, .int v1] h (qV Q) := by
  refine MQ'.of (by decide +kernel) (Nat.le_of_ble_eq_true rfl) ?_
  show AQ o kX12_goesOut h 0 [(0, .ref v0), (1, .int v1)] [] (qV Q)
  refine a_iconst (v := (0 : Int32)) (by decide) dX12_goesOut_0 ?_
  refine a_istore_n (lv1 := [(0, .ref v0), (1, .int v1), (2, .int (0 : Int32))]) rfl [1, 2, 0] (by decide) rfl dX12_goesOut_1 ?_
  obtain ⟨n, H⟩ := H
  exact l_X12_goesOut_2  n _ _ H
def B_X12_isDone_33 (Q : Int32 → AH → Prop) (K4 : Int32 → Int32 → AH → Prop) (v0 : Nat) (v1 : Int32) (v3 : Int32) (h : AH) : Prop :=
  K4 (1 : Int32) (v3 + 1) h
set_option maxRecDepth 100000 in
set_option maxHeartbeats 4000000 in
theorem b_X12_isDone_33 {o : Om} {Q : Int32 → AH → Prop} {K4 : Int32 → Int32 → AH → Prop} {v0 : Nat} {v1 : Int32} {v3 : Int32} {h : AH} (hK4 : ∀ w2 w3 h, K4 w2 w3 h → AQ o kX12_isDone h 4 [(0, .ref v0), (1, .int v1), (2, .int w2), (3, .int w3)] [] (qI Q)) (H : B_X12_isDone_33 Q K4 v0 v1 v3 h) : AQ o kX12_isDone h 33 [(0, .ref v0), (1, .int v1), (3, .int v3)] [] (qI Q) := by
  refine a_iconst (v := (1 : Int32)) (by decide) dX12_isDone_33 ?_
  refine a_goto (tgt := 38) dX12_isDone_34 (by decide) ?_
  refine a_istore_n (lv1 := [(0, .ref v0), (1, .int v1), (2, .int (1 : Int32)), (3, .int v3)]) rfl [1, 2, 0, 3] (by decide) rfl dX12_isDone_38 ?_
  refine a_iinc (v := v3 + 1) (lv1 := [(0, .ref v0), (1, .int v1), (2, .int (1 : Int32)), (3, .int (v3 + 1))]) [1, 2, 3, 0] 3 rfl (by decide) rfl rfl dX12_isDone_39 ?_
  refine a_goto (tgt := 4) dX12_isDone_42 (by decide) ?_
  exact hK4 _ _ _ H
def B_X12_isDone_4 (Q : Int32 → AH → Prop) (K4 : Int32 → Int32 → AH → Prop) (v0 : Nat) (v1 : Int32) (v2 : Int32) (v3 : Int32) (h : AH) : Prop :=
  gI h v0 12 10 (fun x1 => ((x1 ≤ v3 → (bl v2 ∧ Q v2 h)) ∧ (¬ (x1 ≤ v3) → ((v2 = 0 → K4 (0 : Int32) (v3 + 1) h) ∧ (¬ (v2 = 0) → isO h v0 12 ∧ f_X12_home v0 v3 h (fun x2 h3 => ((x2 < 0 → B_X12_isDone_33 Q K4 v0 v1 v3 h3) ∧ (¬ (x2 < 0) → isO h3 v0 12 ∧ f_X12_isHome v0 v1 v3 h3 (fun x4 h5 => ((x4 = 0 → K4 (0 : Int32) (v3 + 1) h5) ∧ (¬ (x4 = 0) → B_X12_isDone_33 Q K4 v0 v1 v3 h5)))))))))))
set_option maxRecDepth 100000 in
set_option maxHeartbeats 4000000 in
theorem b_X12_isDone_4 {o : Om} {Q : Int32 → AH → Prop} {K4 : Int32 → Int32 → AH → Prop} {v0 : Nat} {v1 : Int32} {v2 : Int32} {v3 : Int32} {h : AH} (hK4 : ∀ w2 w3 h, K4 w2 w3 h → AQ o kX12_isDone h 4 [(0, .ref v0), (1, .int v1), (2, .int w2), (3, .int w3)] [] (qI Q)) (H : B_X12_isDone_4 Q K4 v0 v1 v2 v3 h) : AQ o kX12_isDone h 4 [(0, .ref v0), (1, .int v1), (2, .int v2), (3, .int v3)] [] (qI Q) := by
  refine a_iload_n 3 rfl rfl dX12_isDone_4 ?_
  refine a_aload_n 0 rfl rfl dX12_isDone_5 ?_
  refine r_gI fo_RX12_178_12 dX12_isDone_6 H (fun x1 H => ?_)
  refine a_icmp_ge (tgt := 45) dX12_isDone_9 (by decide) (fun c => ?_) (fun c => ?_)
  · have H := H.1 (c)
    refine a_iload_n 2 rfl rfl dX12_isDone_45 ?_
    exact r_retz rfl H.1 dX12_isDone_46 H.2
  · have H := H.2 (c)
    refine a_iload_n 2 rfl rfl dX12_isDone_12 ?_
    refine a_if_eq (tgt := 37) dX12_isDone_13 (by decide) (fun c => ?_) (fun c => ?_)
    · have H := H.1 (c)
      refine a_iconst (v := (0 : Int32)) (by decide) dX12_isDone_37 ?_
      refine a_istore_n (lv1 := [(0, .ref v0), (1, .int v1), (2, .int (0 : Int32)), (3, .int v3)]) rfl [1, 2, 0, 3] (by decide) rfl dX12_isDone_38 ?_
      refine a_iinc (v := v3 + 1) (lv1 := [(0, .ref v0), (1, .int v1), (2, .int (0 : Int32)), (3, .int (v3 + 1))]) [1, 2, 3, 0] 3 rfl (by decide) rfl rfl dX12_isDone_39 ?_
      refine a_goto (tgt := 4) dX12_isDone_42 (by decide) ?_
      exact hK4 _ _ _ H
    · have H := H.2 (c)
      refine a_aload_n 0 rfl rfl dX12_isDone_16 ?_
      refine a_iload_n 3 rfl rfl dX12_isDone_17 ?_
      refine r_Vi (q := (RX12, TX12, 51)) (av := [.int v3]) (rest := []) rfl rfl okX12_home H.1 rfl rfl wd1292 wd1294 wp43 ⟨Nat.le_of_ble_eq_true rfl, Nat.le_of_ble_eq_true rfl⟩ (Nat.le_of_ble_eq_true rfl) dX12_isDone_18 (s_X12_home H.2) (fun x2 h3 H => ?_)
      refine a_if_lt (tgt := 33) dX12_isDone_21 (by decide) (fun c => ?_) (fun c => ?_)
      · have H := H.1 (c)
        refine AQ.sub (lv1 := [(0, .ref v0), (1, .int v1), (3, .int v3)]) [0, 1, 3] rfl ?_
        exact b_X12_isDone_33 hK4 H
      · have H := H.2 (c)
        refine a_aload_n 0 rfl rfl dX12_isDone_24 ?_
        refine a_iload_n 1 rfl rfl dX12_isDone_25 ?_
        refine a_iload_n 3 rfl rfl dX12_isDone_26 ?_
        refine r_Vi (q := (RX12, TX12, 51)) (av := [.int v1, .int v3]) (rest := []) rfl rfl okX12_isHome H.1 rfl rfl wd1375 wd1377 wp53 ⟨Nat.le_of_ble_eq_true rfl, Nat.le_of_ble_eq_true rfl⟩ (Nat.le_of_ble_eq_true rfl) dX12_isDone_27 (s_X12_isHome H.2) (fun x4 h5 H => ?_)
        refine a_if_eq (tgt := 37) dX12_isDone_30 (by decide) (fun c => ?_) (fun c => ?_)
        · have H := H.1 (c)
          refine a_iconst (v := (0 : Int32)) (by decide) dX12_isDone_37 ?_
          refine a_istore_n (lv1 := [(0, .ref v0), (1, .int v1), (2, .int (0 : Int32)), (3, .int v3)]) rfl [1, 2, 0, 3] (by decide) rfl dX12_isDone_38 ?_
          refine a_iinc (v := v3 + 1) (lv1 := [(0, .ref v0), (1, .int v1), (2, .int (0 : Int32)), (3, .int (v3 + 1))]) [1, 2, 3, 0] 3 rfl (by decide) rfl rfl dX12_isDone_39 ?_
          refine a_goto (tgt := 4) dX12_isDone_42 (by decide) ?_
          exact hK4 _ _ _ H
        · have H := H.2 (c)
          refine AQ.sub (lv1 := [(0, .ref v0), (1, .int v1), (3, .int v3)]) [0, 1, 3] rfl ?_
          exact b_X12_isDone_33 hK4 H
def L_X12_isDone_4 (Q : Int32 → AH → Prop)  (v0 : Nat) (v1 : Int32) : Nat → Int32 → Int32 → AH → Prop
  | 0, _, _, _ => False
  | n + 1, v2, v3, h => B_X12_isDone_4 Q (L_X12_isDone_4 Q  v0 v1 n) v0 v1 v2 v3 h
theorem l_X12_isDone_4 {o : Om} {Q : Int32 → AH → Prop}  {v0 : Nat} {v1 : Int32}  : ∀ (n : Nat) (v2 : Int32) (v3 : Int32) (h : AH), L_X12_isDone_4 Q  v0 v1 n v2 v3 h → AQ o kX12_isDone h 4 [(0, .ref v0), (1, .int v1), (2, .int v2), (3, .int v3)] [] (qI Q) := by
  intro n
  induction n with
  | zero => intro v2 v3 h H; exact H.elim
  | succ n ih => intro v2 v3 h H; exact b_X12_isDone_4 ih H
def f_X12_isDone (v0 : Nat) (v1 : Int32) (h : AH) (Q : Int32 → AH → Prop) : Prop :=
  ∃ n, L_X12_isDone_4 Q  v0 v1 n (1 : Int32) (0 : Int32) h
set_option maxRecDepth 100000 in
set_option maxHeartbeats 4000000 in
theorem s_X12_isDone {o : Om} {v0 : Nat} {v1 : Int32} {h : AH} {Q : Int32 → AH → Prop} (H : f_X12_isDone v0 v1 h Q) : MQ' o kX12_isDone [.ref v0, .int v1] h (qI Q) := by
  refine MQ'.of (by decide +kernel) (Nat.le_of_ble_eq_true rfl) ?_
  show AQ o kX12_isDone h 0 [(0, .ref v0), (1, .int v1)] [] (qI Q)
  refine a_iconst (v := (1 : Int32)) (by decide) dX12_isDone_0 ?_
  refine a_istore_n (lv1 := [(0, .ref v0), (1, .int v1), (2, .int (1 : Int32))]) rfl [1, 2, 0] (by decide) rfl dX12_isDone_1 ?_
  refine a_iconst (v := (0 : Int32)) (by decide) dX12_isDone_2 ?_
  refine a_istore_n (lv1 := [(0, .ref v0), (1, .int v1), (2, .int (1 : Int32)), (3, .int (0 : Int32))]) rfl [1, 2, 3, 0] (by decide) rfl dX12_isDone_3 ?_
  obtain ⟨n, H⟩ := H
  exact l_X12_isDone_4  n _ _ _ H
def B_X12_fewestBy_44 (Q : Int32 → AH → Prop) (K15 : Int32 → Int32 → AH → Prop) (v0 : Nat) (v2 : Int32) (v3 : Int32) (h : AH) : Prop :=
  gR h v0 12 42 (fun a1 => lI h a1 v3 (fun x2 => isO h v0 12 ∧ f_X12_isDone v0 x2 h (fun x3 h4 => ((x3 = 0 → K15 v2 (v3 + 1) h4) ∧ (¬ (x3 = 0) → gR h4 v0 12 43 (fun a5 => gR h4 v0 12 42 (fun a6 => lI h4 a6 v3 (fun x7 => lI h4 a5 x7 (fun x8 => gI h4 v0 12 46 (fun x9 => pF h4 v0 12 46 (.int (x9 + (1 : Int32))) (fun h10 => K15 x8 (v3 + 1) h10)))))))))))
set_option maxRecDepth 100000 in
set_option maxHeartbeats 4000000 in
theorem b_X12_fewestBy_44 {o : Om} {Q : Int32 → AH → Prop} {K15 : Int32 → Int32 → AH → Prop} {v0 : Nat} {v2 : Int32} {v3 : Int32} {h : AH} (hK15 : ∀ w2 w3 h, K15 w2 w3 h → AQ o kX12_fewestBy h 15 [(0, .ref v0), (2, .int w2), (3, .int w3)] [] (qI Q)) (H : B_X12_fewestBy_44 Q K15 v0 v2 v3 h) : AQ o kX12_fewestBy h 44 [(0, .ref v0), (2, .int v2), (3, .int v3)] [] (qI Q) := by
  refine a_aload_n 0 rfl rfl dX12_fewestBy_44 ?_
  refine a_aload_n 0 rfl rfl dX12_fewestBy_45 ?_
  refine r_gR fo_RX12_90_12 dX12_fewestBy_46 H (fun a1 H => ?_)
  refine a_iload_n 2 rfl rfl dX12_fewestBy_49 ?_
  refine r_lI dX12_fewestBy_50 H (fun x2 H => ?_)
  refine r_Vi (q := (RX12, TX12, 51)) (av := [.int x2]) (rest := []) rfl rfl okX12_isDone H.1 rfl rfl wd1436 wd1438 wp61 ⟨Nat.le_of_ble_eq_true rfl, Nat.le_of_ble_eq_true rfl⟩ (Nat.le_of_ble_eq_true rfl) dX12_fewestBy_51 (s_X12_isDone H.2) (fun x3 h4 H => ?_)
  refine a_if_eq (tgt := 79) dX12_fewestBy_54 (by decide) (fun c => ?_) (fun c => ?_)
  · have H := H.1 (c)
    refine a_iinc (v := v3 + 1) (lv1 := [(0, .ref v0), (2, .int v2), (3, .int (v3 + 1))]) [1, 2, 0] 2 rfl (by decide) rfl rfl dX12_fewestBy_79 ?_
    refine a_goto (tgt := 15) dX12_fewestBy_82 (by decide) ?_
    exact hK15 _ _ _ H
  · have H := H.2 (c)
    refine a_aload_n 0 rfl rfl dX12_fewestBy_57 ?_
    refine r_gR fo_RX12_93_12 dX12_fewestBy_58 H (fun a5 H => ?_)
    refine a_aload_n 0 rfl rfl dX12_fewestBy_61 ?_
    refine r_gR fo_RX12_90_12 dX12_fewestBy_62 H (fun a6 H => ?_)
    refine a_iload_n 2 rfl rfl dX12_fewestBy_65 ?_
    refine r_lI dX12_fewestBy_66 H (fun x7 H => ?_)
    refine r_lI dX12_fewestBy_67 H (fun x8 H => ?_)
    refine a_istore_n (lv1 := [(0, .ref v0), (2, .int x8), (3, .int v3)]) rfl [1, 0, 2] (by decide) rfl dX12_fewestBy_68 ?_
    refine a_aload_n 0 rfl rfl dX12_fewestBy_69 ?_
    refine a_dup rfl dX12_fewestBy_70 ?_
    refine r_gI fo_RX12_279_12 dX12_fewestBy_71 H (fun x9 H => ?_)
    refine a_iconst (v := (1 : Int32)) (by decide) dX12_fewestBy_74 ?_
    refine a_iadd dX12_fewestBy_75 ?_
    refine r_pF (po_RX12_279_12 _) (fun _ => rfl) (fun _ => rfl) dX12_fewestBy_76 H (fun h10 H => ?_)
    refine a_iinc (v := v3 + 1) (lv1 := [(0, .ref v0), (2, .int x8), (3, .int (v3 + 1))]) [1, 2, 0] 2 rfl (by decide) rfl rfl dX12_fewestBy_79 ?_
    refine a_goto (tgt := 15) dX12_fewestBy_82 (by decide) ?_
    exact hK15 _ _ _ H
def B_X12_fewestBy_15 (Q : Int32 → AH → Prop) (K15 : Int32 → Int32 → AH → Prop) (v0 : Nat) (v2 : Int32) (v3 : Int32) (h : AH) : Prop :=
  gI h v0 12 45 (fun x1 => ((x1 ≤ v3 → Q v2 h) ∧ (¬ (x1 ≤ v3) → ((v2 = (-9 : Int32) → B_X12_fewestBy_44 Q K15 v0 v2 v3 h) ∧ (¬ (v2 = (-9 : Int32)) → gR h v0 12 43 (fun a2 => gR h v0 12 42 (fun a3 => lI h a3 v3 (fun x4 => lI h a2 x4 (fun x5 => ((¬ (x5 = v2) → Q v2 h) ∧ (x5 = v2 → B_X12_fewestBy_44 Q K15 v0 v2 v3 h)))))))))))
set_option maxRecDepth 100000 in
set_option maxHeartbeats 4000000 in
theorem b_X12_fewestBy_15 {o : Om} {Q : Int32 → AH → Prop} {K15 : Int32 → Int32 → AH → Prop} {v0 : Nat} {v2 : Int32} {v3 : Int32} {h : AH} (hK15 : ∀ w2 w3 h, K15 w2 w3 h → AQ o kX12_fewestBy h 15 [(0, .ref v0), (2, .int w2), (3, .int w3)] [] (qI Q)) (H : B_X12_fewestBy_15 Q K15 v0 v2 v3 h) : AQ o kX12_fewestBy h 15 [(0, .ref v0), (2, .int v2), (3, .int v3)] [] (qI Q) := by
  refine a_iload_n 2 rfl rfl dX12_fewestBy_15 ?_
  refine a_aload_n 0 rfl rfl dX12_fewestBy_16 ?_
  refine r_gI fo_RX12_273_12 dX12_fewestBy_17 H (fun x1 H => ?_)
  refine a_icmp_ge (tgt := 85) dX12_fewestBy_20 (by decide) (fun c => ?_) (fun c => ?_)
  · have H := H.1 (c)
    refine a_iload_n 1 rfl rfl dX12_fewestBy_85 ?_
    exact r_reti rfl dX12_fewestBy_86 H
  · have H := H.2 (c)
    refine a_iload_n 1 rfl rfl dX12_fewestBy_23 ?_
    refine a_bipush (v := (-9 : Int32)) (by decide) dX12_fewestBy_24 ?_
    refine a_icmp_eq (tgt := 44) dX12_fewestBy_26 (by decide) (fun c => ?_) (fun c => ?_)
    · have H := H.1 (c)
      exact b_X12_fewestBy_44 hK15 H
    · have H := H.2 (c)
      refine a_aload_n 0 rfl rfl dX12_fewestBy_29 ?_
      refine r_gR fo_RX12_93_12 dX12_fewestBy_30 H (fun a2 H => ?_)
      refine a_aload_n 0 rfl rfl dX12_fewestBy_33 ?_
      refine r_gR fo_RX12_90_12 dX12_fewestBy_34 H (fun a3 H => ?_)
      refine a_iload_n 2 rfl rfl dX12_fewestBy_37 ?_
      refine r_lI dX12_fewestBy_38 H (fun x4 H => ?_)
      refine r_lI dX12_fewestBy_39 H (fun x5 H => ?_)
      refine a_iload_n 1 rfl rfl dX12_fewestBy_40 ?_
      refine a_icmp_ne (tgt := 85) dX12_fewestBy_41 (by decide) (fun c => ?_) (fun c => ?_)
      · have H := H.1 (c)
        refine a_iload_n 1 rfl rfl dX12_fewestBy_85 ?_
        exact r_reti rfl dX12_fewestBy_86 H
      · have H := H.2 (c)
        exact b_X12_fewestBy_44 hK15 H
def L_X12_fewestBy_15 (Q : Int32 → AH → Prop)  (v0 : Nat) : Nat → Int32 → Int32 → AH → Prop
  | 0, _, _, _ => False
  | n + 1, v2, v3, h => B_X12_fewestBy_15 Q (L_X12_fewestBy_15 Q  v0 n) v0 v2 v3 h
theorem l_X12_fewestBy_15 {o : Om} {Q : Int32 → AH → Prop}  {v0 : Nat}  : ∀ (n : Nat) (v2 : Int32) (v3 : Int32) (h : AH), L_X12_fewestBy_15 Q  v0 n v2 v3 h → AQ o kX12_fewestBy h 15 [(0, .ref v0), (2, .int v2), (3, .int v3)] [] (qI Q) := by
  intro n
  induction n with
  | zero => intro v2 v3 h H; exact H.elim
  | succ n ih => intro v2 v3 h H; exact b_X12_fewestBy_15 ih H
def f_X12_fewestBy (v0 : Nat) (v1 : Int32) (h : AH) (Q : Int32 → AH → Prop) : Prop :=
  isO h v0 12 ∧ f_X12_goesOut v0 v1 h (fun h1 => pF h1 v0 12 46 (.int (0 : Int32)) (fun h2 => ∃ n, L_X12_fewestBy_15 Q  v0 n (-9 : Int32) (0 : Int32) h2))
set_option maxRecDepth 100000 in
set_option maxHeartbeats 4000000 in
theorem s_X12_fewestBy {o : Om} {v0 : Nat} {v1 : Int32} {h : AH} {Q : Int32 → AH → Prop} (H : f_X12_fewestBy v0 v1 h Q) : MQ' o kX12_fewestBy [.ref v0, .int v1] h (qI Q) := by
  refine MQ'.of (by decide +kernel) (Nat.le_of_ble_eq_true rfl) ?_
  show AQ o kX12_fewestBy h 0 [(0, .ref v0), (1, .int v1)] [] (qI Q)
  refine a_aload_n 0 rfl rfl dX12_fewestBy_0 ?_
  refine a_iload_n 1 rfl rfl dX12_fewestBy_1 ?_
  refine r_Vv (q := (RX12, TX12, 51)) (av := [.int v1]) (rest := []) rfl rfl okX12_goesOut H.1 rfl rfl wd1432 wd1434 wp60 ⟨Nat.le_of_ble_eq_true rfl, Nat.le_of_ble_eq_true rfl⟩ (Nat.le_of_ble_eq_true rfl) dX12_fewestBy_2 (s_X12_goesOut H.2) (fun h1 H => ?_)
  refine a_bipush (v := (-9 : Int32)) (by decide) dX12_fewestBy_5 ?_
  refine a_istore_n (lv1 := [(0, .ref v0), (1, .int v1), (2, .int (-9 : Int32))]) rfl [1, 2, 0] (by decide) rfl dX12_fewestBy_7 ?_
  refine a_aload_n 0 rfl rfl dX12_fewestBy_8 ?_
  refine a_iconst (v := (0 : Int32)) (by decide) dX12_fewestBy_9 ?_
  refine r_pF (po_RX12_279_12 _) (fun _ => rfl) (fun _ => rfl) dX12_fewestBy_10 H (fun h2 H => ?_)
  refine a_iconst (v := (0 : Int32)) (by decide) dX12_fewestBy_13 ?_
  refine a_istore_n (lv1 := [(0, .ref v0), (1, .int v1), (2, .int (-9 : Int32)), (3, .int (0 : Int32))]) rfl [1, 2, 3, 0] (by decide) rfl dX12_fewestBy_14 ?_
  refine AQ.sub (lv1 := [(0, .ref v0), (2, .int (-9 : Int32)), (3, .int (0 : Int32))]) [0, 2, 3] rfl ?_
  obtain ⟨n, H⟩ := H
  exact l_X12_fewestBy_15  n _ _ _ H
def f_X12_fewest (v0 : Nat) (h : AH) (Q : Int32 → AH → Prop) : Prop :=
  gI h v0 12 9 (fun x1 => ((¬ (x1 = 0) → gI h v0 12 16 (fun x2 => isO h v0 12 ∧ f_X12_fewestBy v0 x2 h (fun x3 h4 => ((¬ (x3 = (-9 : Int32)) → gI h4 v0 12 46 (fun x5 => pF h4 v0 12 4 (.int x5) (fun h6 => Q x3 h6))) ∧ (x3 = (-9 : Int32) → gI h4 v0 12 4 (fun x7 => pF h4 v0 12 4 (.int x7) (fun h8 => Q x3 h8))))))) ∧ (x1 = 0 → Q (-4 : Int32) h)))
set_option maxRecDepth 100000 in
set_option maxHeartbeats 4000000 in
theorem s_X12_fewest {o : Om} {v0 : Nat} {h : AH} {Q : Int32 → AH → Prop} (H : f_X12_fewest v0 h Q) : MQ' o kX12_fewest [.ref v0] h (qI Q) := by
  refine MQ'.of (by decide +kernel) (Nat.le_of_ble_eq_true rfl) ?_
  show AQ o kX12_fewest h 0 [(0, .ref v0)] [] (qI Q)
  refine a_aload_n 0 rfl rfl dX12_fewest_0 ?_
  refine r_gI fo_RX12_175_12 dX12_fewest_1 H (fun x1 H => ?_)
  refine a_if_ne (tgt := 10) dX12_fewest_4 (by decide) (fun c => ?_) (fun c => ?_)
  · have H := H.1 (c)
    refine a_aload_n 0 rfl rfl dX12_fewest_10 ?_
    refine a_aload_n 0 rfl rfl dX12_fewest_11 ?_
    refine r_gI fo_RX12_187_12 dX12_fewest_12 H (fun x2 H => ?_)
    refine r_Vi (q := (RX12, TX12, 51)) (av := [.int x2]) (rest := []) rfl rfl okX12_fewestBy H.1 rfl rfl wd1428 wd1430 wp59 ⟨Nat.le_of_ble_eq_true rfl, Nat.le_of_ble_eq_true rfl⟩ (Nat.le_of_ble_eq_true rfl) dX12_fewest_15 (s_X12_fewestBy H.2) (fun x3 h4 H => ?_)
    refine a_istore_n (lv1 := [(0, .ref v0), (1, .int x3)]) rfl [1, 0] (by decide) rfl dX12_fewest_18 ?_
    refine a_aload_n 0 rfl rfl dX12_fewest_19 ?_
    refine a_iload_n 1 rfl rfl dX12_fewest_20 ?_
    refine a_bipush (v := (-9 : Int32)) (by decide) dX12_fewest_21 ?_
    refine a_icmp_ne (tgt := 33) dX12_fewest_23 (by decide) (fun c => ?_) (fun c => ?_)
    · have H := H.1 (c)
      refine a_aload_n 0 rfl rfl dX12_fewest_33 ?_
      refine r_gI fo_RX12_279_12 dX12_fewest_34 H (fun x5 H => ?_)
      refine r_pF (po_RX12_104_12 _) (fun _ => rfl) (fun _ => rfl) dX12_fewest_37 H (fun h6 H => ?_)
      refine a_iload_n 1 rfl rfl dX12_fewest_40 ?_
      exact r_reti rfl dX12_fewest_41 H
    · have H := H.2 (c)
      refine a_aload_n 0 rfl rfl dX12_fewest_26 ?_
      refine r_gI fo_RX12_104_12 dX12_fewest_27 H (fun x7 H => ?_)
      refine a_goto (tgt := 37) dX12_fewest_30 (by decide) ?_
      refine r_pF (po_RX12_104_12 _) (fun _ => rfl) (fun _ => rfl) dX12_fewest_37 H (fun h8 H => ?_)
      refine a_iload_n 1 rfl rfl dX12_fewest_40 ?_
      exact r_reti rfl dX12_fewest_41 H
  · have H := H.2 (c)
    refine a_bipush (v := (-4 : Int32)) (by decide) dX12_fewest_7 ?_
    exact r_reti rfl dX12_fewest_9 H
def B_X7_layWay_10 (Q : AH → Prop) (K10 : Int32 → Int32 → AH → Prop) (v0 : Nat) (v2 : Nat) (v3 : Int32) (v4 : Int32) (h : AH) : Prop :=
  ((v4 < 0 → Q h) ∧ (¬ (v4 < 0) → isO h v0 7 ∧ f_X7_isIn v0 v3 h (fun x1 h2 => ((x1 = 0 → Q h2) ∧ (¬ (x1 = 0) → gR h2 v0 7 9 (fun a3 => lI h2 a3 v3 (fun x4 => isO h2 v2 6 ∧ f_X6_set v2 v4 (x4 &&& (7 : Int32)) h2 (fun h5 => gR h5 v0 7 9 (fun a6 => lI h5 a6 v3 (fun x7 => K10 (x7 >>> ((3 : Int32) &&& 31)) (v4 + (-1)) h5))))))))))
set_option maxRecDepth 100000 in
set_option maxHeartbeats 4000000 in
theorem b_X7_layWay_10 {o : Om} {Q : AH → Prop} {K10 : Int32 → Int32 → AH → Prop} {v0 : Nat} {v2 : Nat} {v3 : Int32} {v4 : Int32} {h : AH} (hK10 : ∀ w3 w4 h, K10 w3 w4 h → AQ o kX7_layWay h 10 [(0, .ref v0), (2, .ref v2), (3, .int w3), (4, .int w4)] [] (qV Q)) (H : B_X7_layWay_10 Q K10 v0 v2 v3 v4 h) : AQ o kX7_layWay h 10 [(0, .ref v0), (2, .ref v2), (3, .int v3), (4, .int v4)] [] (qV Q) := by
  refine a_iload 3 rfl dX7_layWay_10 ?_
  refine a_if_lt (tgt := 53) dX7_layWay_12 (by decide) (fun c => ?_) (fun c => ?_)
  · have H := H.1 (c)
    exact r_retv rfl dX7_layWay_53 H
  · have H := H.2 (c)
    refine a_aload_n 0 rfl rfl dX7_layWay_15 ?_
    refine a_iload_n 2 rfl rfl dX7_layWay_16 ?_
    refine r_Vi (q := (RX7, TX7, 17)) (av := [.int v3]) (rest := []) rfl rfl okX7_isIn H.1 rfl rfl wd841 wd843 wp23 ⟨Nat.le_of_ble_eq_true rfl, Nat.le_of_ble_eq_true rfl⟩ (Nat.le_of_ble_eq_true rfl) dX7_layWay_17 (s_X7_isIn H.2) (fun x1 h2 H => ?_)
    refine a_if_eq (tgt := 53) dX7_layWay_20 (by decide) (fun c => ?_) (fun c => ?_)
    · have H := H.1 (c)
      exact r_retv rfl dX7_layWay_53 H
    · have H := H.2 (c)
      refine a_aload_n 1 rfl rfl dX7_layWay_23 ?_
      refine a_iload 3 rfl dX7_layWay_24 ?_
      refine a_aload_n 0 rfl rfl dX7_layWay_26 ?_
      refine r_gR fo_RX7_35_7 dX7_layWay_27 H (fun a3 H => ?_)
      refine a_iload_n 2 rfl rfl dX7_layWay_30 ?_
      refine r_lI dX7_layWay_31 H (fun x4 H => ?_)
      refine a_bipush (v := (7 : Int32)) (by decide) dX7_layWay_32 ?_
      refine a_iand dX7_layWay_34 ?_
      refine r_Vv (q := (RX6, TX6, 2)) (av := [.int v4, .int (x4 &&& (7 : Int32))]) (rest := []) rfl rfl okX6_set H.1 rfl rfl wd867 wd301 wd302 ⟨Nat.le_of_ble_eq_true rfl, Nat.le_of_ble_eq_true rfl⟩ (Nat.le_of_ble_eq_true rfl) dX7_layWay_35 (s_X6_set H.2) (fun h5 H => ?_)
      refine a_aload_n 0 rfl rfl dX7_layWay_38 ?_
      refine r_gR fo_RX7_35_7 dX7_layWay_39 H (fun a6 H => ?_)
      refine a_iload_n 2 rfl rfl dX7_layWay_42 ?_
      refine r_lI dX7_layWay_43 H (fun x7 H => ?_)
      refine a_iconst (v := (3 : Int32)) (by decide) dX7_layWay_44 ?_
      refine a_ishr dX7_layWay_45 ?_
      refine a_istore_n (lv1 := [(0, .ref v0), (2, .ref v2), (3, .int (x7 >>> ((3 : Int32) &&& 31))), (4, .int v4)]) rfl [1, 2, 0, 3] (by decide) rfl dX7_layWay_46 ?_
      refine a_iinc (v := v4 + (-1)) (lv1 := [(0, .ref v0), (2, .ref v2), (3, .int (x7 >>> ((3 : Int32) &&& 31))), (4, .int (v4 + (-1)))]) [1, 2, 3, 0] 3 rfl (by decide) (congrArg (fun z => v4 + z) (by decide)) rfl dX7_layWay_47 ?_
      refine a_goto (tgt := 10) dX7_layWay_50 (by decide) ?_
      exact hK10 _ _ _ H
def L_X7_layWay_10 (Q : AH → Prop)  (v0 : Nat) (v2 : Nat) : Nat → Int32 → Int32 → AH → Prop
  | 0, _, _, _ => False
  | n + 1, v3, v4, h => B_X7_layWay_10 Q (L_X7_layWay_10 Q  v0 v2 n) v0 v2 v3 v4 h
theorem l_X7_layWay_10 {o : Om} {Q : AH → Prop}  {v0 : Nat} {v2 : Nat}  : ∀ (n : Nat) (v3 : Int32) (v4 : Int32) (h : AH), L_X7_layWay_10 Q  v0 v2 n v3 v4 h → AQ o kX7_layWay h 10 [(0, .ref v0), (2, .ref v2), (3, .int v3), (4, .int v4)] [] (qV Q) := by
  intro n
  induction n with
  | zero => intro v3 v4 h H; exact H.elim
  | succ n ih => intro v3 v4 h H; exact b_X7_layWay_10 ih H
def f_X7_layWay (v0 : Nat) (v1 : Int32) (v2 : Nat) (h : AH) (Q : AH → Prop) : Prop :=
  gI h v2 6 1 (fun x1 => ∃ n, L_X7_layWay_10 Q  v0 v2 n v1 (x1 - (1 : Int32)) h)
set_option maxRecDepth 100000 in
set_option maxHeartbeats 4000000 in
theorem s_X7_layWay {o : Om} {v0 : Nat} {v1 : Int32} {v2 : Nat} {h : AH} {Q : AH → Prop} (H : f_X7_layWay v0 v1 v2 h Q) : MQ' o kX7_layWay [.ref v0, .int v1, .ref v2] h (qV Q) := by
  refine MQ'.of (by decide +kernel) (Nat.le_of_ble_eq_true rfl) ?_
  show AQ o kX7_layWay h 0 [(0, .ref v0), (1, .int v1), (2, .ref v2)] [] (qV Q)
  refine a_iload_n 1 rfl rfl dX7_layWay_0 ?_
  refine a_istore_n (lv1 := [(0, .ref v0), (1, .int v1), (2, .ref v2), (3, .int v1)]) rfl [1, 2, 3, 0] (by decide) rfl dX7_layWay_1 ?_
  refine a_aload_n 2 rfl rfl dX7_layWay_2 ?_
  refine r_gI fo_RX7_125_6 dX7_layWay_3 H (fun x1 H => ?_)
  refine a_iconst (v := (1 : Int32)) (by decide) dX7_layWay_6 ?_
  refine a_isub dX7_layWay_7 ?_
  refine a_istore (lv1 := [(0, .ref v0), (1, .int v1), (2, .ref v2), (3, .int v1), (4, .int (x1 - (1 : Int32)))]) [1, 2, 3, 4, 0] (by decide) rfl dX7_layWay_8 ?_
  refine AQ.sub (lv1 := [(0, .ref v0), (2, .ref v2), (3, .int v1), (4, .int (x1 - (1 : Int32)))]) [0, 2, 3, 4] rfl ?_
  obtain ⟨n, H⟩ := H
  exact l_X7_layWay_10  n _ _ _ H
def f_X11_way (v0 : Nat) (v1 : Int32) (h : AH) (Q : Int32 → AH → Prop) : Prop :=
  f_X11_isBelow v1 (6 : Int32) h (fun x1 h2 => ((¬ (x1 = 0) → gR h2 v0 11 8 (fun a3 => gI h2 a3 5 4 (fun x4 => ((¬ (x4 = 0) → gR h2 v0 11 7 (fun a5 => gR h2 v0 11 8 (fun a6 => gI h2 v0 11 9 (fun x7 => gI h2 v0 11 10 (fun x8 => isO h2 a5 7 ∧ f_X7_from a5 a6 x7 x8 h2 (fun h9 => gR h9 v0 11 7 (fun a10 => isO h9 a10 7 ∧ f_X7_firstHome a10  h9 (fun x11 h12 => ((0 ≤ x11 → gR h12 v0 11 7 (fun a13 => isO h12 a13 7 ∧ f_X7_farTo a13 x11 h12 (fun x14 h15 => ((x14 ≤ (60 : Int32) → gR h15 v0 11 0 (fun a16 => lQ h15 a16 2 v1 (fun a17 => isO h15 a17 6 ∧ f_X6_begin a17 x14 (0 : Int32) h15 (fun h18 => gR h18 v0 11 7 (fun a19 => gR h18 v0 11 0 (fun a20 => lQ h18 a20 2 v1 (fun a21 => isO h18 a19 7 ∧ f_X7_layWay a19 x11 a21 h18 (fun h22 => Q x14 h22)))))))) ∧ (¬ (x14 ≤ (60 : Int32)) → Q (-6 : Int32) h15))))) ∧ (¬ (0 ≤ x11) → Q (-9 : Int32) h12)))))))))) ∧ (x4 = 0 → Q (-4 : Int32) h2))))) ∧ (x1 = 0 → Q (-1 : Int32) h2)))
set_option maxRecDepth 100000 in
set_option maxHeartbeats 4000000 in
theorem s_X11_way {o : Om} {v0 : Nat} {v1 : Int32} {h : AH} {Q : Int32 → AH → Prop} (H : f_X11_way v0 v1 h Q) : MQ' o kX11_way [.ref v0, .int v1] h (qI Q) := by
  refine MQ'.of (by decide +kernel) (Nat.le_of_ble_eq_true rfl) ?_
  show AQ o kX11_way h 0 [(0, .ref v0), (1, .int v1)] [] (qI Q)
  refine a_iload_n 1 rfl rfl dX11_way_0 ?_
  refine a_bipush (v := (6 : Int32)) (by decide) dX11_way_1 ?_
  refine r_Si (av := [.int v1, .int (6 : Int32)]) (rest := []) rfl rfl okX11_isBelow wd257 wd258 ⟨Nat.le_of_ble_eq_true rfl, Nat.le_of_ble_eq_true rfl⟩ (Nat.le_of_ble_eq_true rfl) dX11_way_3 (s_X11_isBelow H) (fun x1 h2 H => ?_)
  refine a_if_ne (tgt := 11) dX11_way_6 (by decide) (fun c => ?_) (fun c => ?_)
  · have H := H.1 (c)
    refine a_aload_n 0 rfl rfl dX11_way_11 ?_
    refine r_gR fo_RX11_60_11 dX11_way_12 H (fun a3 H => ?_)
    refine r_gI fo_RX11_198_5 dX11_way_15 H (fun x4 H => ?_)
    refine a_if_ne (tgt := 24) dX11_way_18 (by decide) (fun c => ?_) (fun c => ?_)
    · have H := H.1 (c)
      refine a_aload_n 0 rfl rfl dX11_way_24 ?_
      refine r_gR fo_RX11_74_11 dX11_way_25 H (fun a5 H => ?_)
      refine a_aload_n 0 rfl rfl dX11_way_28 ?_
      refine r_gR fo_RX11_60_11 dX11_way_29 H (fun a6 H => ?_)
      refine a_aload_n 0 rfl rfl dX11_way_32 ?_
      refine r_gI fo_RX11_34_11 dX11_way_33 H (fun x7 H => ?_)
      refine a_aload_n 0 rfl rfl dX11_way_36 ?_
      refine r_gI fo_RX11_38_11 dX11_way_37 H (fun x8 H => ?_)
      refine r_Vv (q := (RX7, TX7, 17)) (av := [.ref a6, .int x7, .int x8]) (rest := []) rfl rfl okX7_from H.1 rfl rfl wd775 wd776 wd777 ⟨Nat.le_of_ble_eq_true rfl, Nat.le_of_ble_eq_true rfl⟩ (Nat.le_of_ble_eq_true rfl) dX11_way_40 (s_X7_from H.2) (fun h9 H => ?_)
      refine a_aload_n 0 rfl rfl dX11_way_43 ?_
      refine r_gR fo_RX11_74_11 dX11_way_44 H (fun a10 H => ?_)
      refine r_Vi (q := (RX7, TX7, 17)) (av := []) (rest := []) rfl rfl okX7_firstHome H.1 rfl rfl wd825 wd826 wd827 ⟨Nat.le_of_ble_eq_true rfl, Nat.le_of_ble_eq_true rfl⟩ (Nat.le_of_ble_eq_true rfl) dX11_way_47 (s_X7_firstHome H.2) (fun x11 h12 H => ?_)
      refine a_istore_n (lv1 := [(0, .ref v0), (1, .int v1), (2, .int x11)]) rfl [1, 2, 0] (by decide) rfl dX11_way_50 ?_
      refine a_iload_n 2 rfl rfl dX11_way_51 ?_
      refine a_if_ge (tgt := 58) dX11_way_52 (by decide) (fun c => ?_) (fun c => ?_)
      · have H := H.1 (c)
        refine a_aload_n 0 rfl rfl dX11_way_58 ?_
        refine r_gR fo_RX11_74_11 dX11_way_59 H (fun a13 H => ?_)
        refine a_iload_n 2 rfl rfl dX11_way_62 ?_
        refine r_Vi (q := (RX7, TX7, 17)) (av := [.int x11]) (rest := []) rfl rfl okX7_farTo H.1 rfl rfl wd858 wd847 wd848 ⟨Nat.le_of_ble_eq_true rfl, Nat.le_of_ble_eq_true rfl⟩ (Nat.le_of_ble_eq_true rfl) dX11_way_63 (s_X7_farTo H.2) (fun x14 h15 H => ?_)
        refine a_istore_n (lv1 := [(0, .ref v0), (1, .int v1), (2, .int x11), (3, .int x14)]) rfl [1, 2, 3, 0] (by decide) rfl dX11_way_66 ?_
        refine a_iload_n 3 rfl rfl dX11_way_67 ?_
        refine a_bipush (v := (60 : Int32)) (by decide) dX11_way_68 ?_
        refine a_icmp_le (tgt := 76) dX11_way_70 (by decide) (fun c => ?_) (fun c => ?_)
        · have H := H.1 (c)
          refine a_aload_n 0 rfl rfl dX11_way_76 ?_
          refine r_gR fo_RX11_11_11 dX11_way_77 H (fun a16 H => ?_)
          refine a_iload_n 1 rfl rfl dX11_way_80 ?_
          refine r_lQ (by decide) dX11_way_81 H (fun a17 H => ?_)
          refine a_iload_n 3 rfl rfl dX11_way_82 ?_
          refine a_iconst (v := (0 : Int32)) (by decide) dX11_way_83 ?_
          refine r_Vv (q := (RX6, TX6, 2)) (av := [.int x14, .int (0 : Int32)]) (rest := []) rfl rfl okX6_begin H.1 rfl rfl wd264 wd265 wd266 ⟨Nat.le_of_ble_eq_true rfl, Nat.le_of_ble_eq_true rfl⟩ (Nat.le_of_ble_eq_true rfl) dX11_way_84 (s_X6_begin H.2) (fun h18 H => ?_)
          refine a_aload_n 0 rfl rfl dX11_way_87 ?_
          refine r_gR fo_RX11_74_11 dX11_way_88 H (fun a19 H => ?_)
          refine a_iload_n 2 rfl rfl dX11_way_91 ?_
          refine a_aload_n 0 rfl rfl dX11_way_92 ?_
          refine r_gR fo_RX11_11_11 dX11_way_93 H (fun a20 H => ?_)
          refine a_iload_n 1 rfl rfl dX11_way_96 ?_
          refine r_lQ (by decide) dX11_way_97 H (fun a21 H => ?_)
          refine r_Vv (q := (RX7, TX7, 17)) (av := [.int x11, .ref a21]) (rest := []) rfl rfl okX7_layWay H.1 rfl rfl wd863 wd864 wd865 ⟨Nat.le_of_ble_eq_true rfl, Nat.le_of_ble_eq_true rfl⟩ (Nat.le_of_ble_eq_true rfl) dX11_way_98 (s_X7_layWay H.2) (fun h22 H => ?_)
          refine a_iload_n 3 rfl rfl dX11_way_101 ?_
          exact r_reti rfl dX11_way_102 H
        · have H := H.2 (c)
          refine a_bipush (v := (-6 : Int32)) (by decide) dX11_way_73 ?_
          exact r_reti rfl dX11_way_75 H
      · have H := H.2 (c)
        refine a_bipush (v := (-9 : Int32)) (by decide) dX11_way_55 ?_
        exact r_reti rfl dX11_way_57 H
    · have H := H.2 (c)
      refine a_bipush (v := (-4 : Int32)) (by decide) dX11_way_21 ?_
      exact r_reti rfl dX11_way_23 H
  · have H := H.2 (c)
    refine a_iconst (v := (-1 : Int32)) (by decide) dX11_way_9 ?_
    exact r_reti rfl dX11_way_10 H
