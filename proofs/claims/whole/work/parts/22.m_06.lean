def B_X12_may_38 (Q : Int32 → AH → Prop)  (v0 : Nat) (h : AH) : Prop :=
  isO h v0 12 ∧ f_X12_find v0 (5 : Int32) h (fun x1 h2 => Q x1 h2)
set_option maxRecDepth 100000 in
set_option maxHeartbeats 4000000 in
theorem b_X12_may_38 {o : Om} {Q : Int32 → AH → Prop}  {v0 : Nat} {h : AH}  (H : B_X12_may_38 Q  v0 h) : AQ o kX12_may h 38 [(0, .ref v0)] [] (qI Q) := by
  refine a_aload_n 0 rfl rfl dX12_may_38 ?_
  refine a_iconst (v := (5 : Int32)) (by decide) dX12_may_39 ?_
  refine r_Vi (q := (RX12, TX12, 51)) (av := [.int (5 : Int32)]) (rest := []) rfl rfl okX12_find H.1 rfl rfl wd1191 wd1193 wp31 ⟨Nat.le_of_ble_eq_true rfl, Nat.le_of_ble_eq_true rfl⟩ (Nat.le_of_ble_eq_true rfl) dX12_may_40 (s_X12_find H.2) (fun x1 h2 H => ?_)
  exact r_reti rfl dX12_may_43 H
def B_X12_may_107 (Q : Int32 → AH → Prop) (K90 : Int32 → Int32 → AH → Prop) (K107 : Int32 → Int32 → AH → Prop) (v0 : Nat) (v1 : Int32) (v2 : Int32) (v3 : Int32) (v4 : Int32) (v5 : Int32) (v6 : Int32) (h : AH) : Prop :=
  ((v2 ≤ v6 → ((v5 = 0 → K90 (v3 ||| (0 : Int32)) (v4 + 1) h) ∧ (¬ (v5 = 0) → K90 (v3 ||| ((1 : Int32) <<< (v4 &&& 31))) (v4 + 1) h))) ∧ (¬ (v2 ≤ v6) → ((v5 = 0 → K107 (0 : Int32) (v6 + 1) h) ∧ (¬ (v5 = 0) → gI h v0 12 17 (fun x1 => isO h v0 12 ∧ f_X12_seen v0 x1 (v4 + v6) h (fun x2 h3 => gR h3 v0 12 1 (fun a4 => lI h3 a4 (((60 : Int32) * v1) + v6) (fun x5 => ((¬ (x2 = x5) → K107 (0 : Int32) (v6 + 1) h3) ∧ (x2 = x5 → K107 (1 : Int32) (v6 + 1) h3))))))))))
set_option maxRecDepth 100000 in
set_option maxHeartbeats 4000000 in
theorem b_X12_may_107 {o : Om} {Q : Int32 → AH → Prop} {K90 : Int32 → Int32 → AH → Prop} {K107 : Int32 → Int32 → AH → Prop} {v0 : Nat} {v1 : Int32} {v2 : Int32} {v3 : Int32} {v4 : Int32} {v5 : Int32} {v6 : Int32} {h : AH} (hK90 : ∀ w3 w4 h, K90 w3 w4 h → AQ o kX12_may h 90 [(0, .ref v0), (1, .int v1), (2, .int v2), (3, .int w3), (4, .int w4)] [] (qI Q)) (hK107 : ∀ w5 w6 h, K107 w5 w6 h → AQ o kX12_may h 107 [(0, .ref v0), (1, .int v1), (2, .int v2), (3, .int v3), (4, .int v4), (5, .int w5), (6, .int w6)] [] (qI Q)) (H : B_X12_may_107 Q K90 K107 v0 v1 v2 v3 v4 v5 v6 h) : AQ o kX12_may h 107 [(0, .ref v0), (1, .int v1), (2, .int v2), (3, .int v3), (4, .int v4), (5, .int v5), (6, .int v6)] [] (qI Q) := by
  refine a_iload 6 rfl dX12_may_107 ?_
  refine a_iload_n 2 rfl rfl dX12_may_109 ?_
  refine a_icmp_ge (tgt := 159) dX12_may_110 (by decide) (fun c => ?_) (fun c => ?_)
  · have H := H.1 (c)
    refine a_iload_n 3 rfl rfl dX12_may_159 ?_
    refine a_iload 5 rfl dX12_may_160 ?_
    refine a_if_eq (tgt := 172) dX12_may_162 (by decide) (fun c => ?_) (fun c => ?_)
    · have H := H.1 (c)
      refine a_iconst (v := (0 : Int32)) (by decide) dX12_may_172 ?_
      refine a_ior dX12_may_173 ?_
      refine a_istore_n (lv1 := [(0, .ref v0), (1, .int v1), (2, .int v2), (3, .int (v3 ||| (0 : Int32))), (4, .int v4), (5, .int v5), (6, .int v6)]) rfl [1, 2, 3, 0, 4, 5, 6] (by decide) rfl dX12_may_174 ?_
      refine a_iinc (v := v4 + 1) (lv1 := [(0, .ref v0), (1, .int v1), (2, .int v2), (3, .int (v3 ||| (0 : Int32))), (4, .int (v4 + 1)), (5, .int v5), (6, .int v6)]) [1, 2, 3, 4, 0, 5, 6] 4 rfl (by decide) rfl rfl dX12_may_175 ?_
      refine a_goto (tgt := 90) dX12_may_178 (by decide) ?_
      refine AQ.sub (lv1 := [(0, .ref v0), (1, .int v1), (2, .int v2), (3, .int (v3 ||| (0 : Int32))), (4, .int (v4 + 1))]) [0, 1, 2, 3, 4] rfl ?_
      exact hK90 _ _ _ H
    · have H := H.2 (c)
      refine a_iconst (v := (1 : Int32)) (by decide) dX12_may_165 ?_
      refine a_iload 4 rfl dX12_may_166 ?_
      refine a_ishl dX12_may_168 ?_
      refine a_goto (tgt := 173) dX12_may_169 (by decide) ?_
      refine a_ior dX12_may_173 ?_
      refine a_istore_n (lv1 := [(0, .ref v0), (1, .int v1), (2, .int v2), (3, .int (v3 ||| ((1 : Int32) <<< (v4 &&& 31)))), (4, .int v4), (5, .int v5), (6, .int v6)]) rfl [1, 2, 3, 0, 4, 5, 6] (by decide) rfl dX12_may_174 ?_
      refine a_iinc (v := v4 + 1) (lv1 := [(0, .ref v0), (1, .int v1), (2, .int v2), (3, .int (v3 ||| ((1 : Int32) <<< (v4 &&& 31)))), (4, .int (v4 + 1)), (5, .int v5), (6, .int v6)]) [1, 2, 3, 4, 0, 5, 6] 4 rfl (by decide) rfl rfl dX12_may_175 ?_
      refine a_goto (tgt := 90) dX12_may_178 (by decide) ?_
      refine AQ.sub (lv1 := [(0, .ref v0), (1, .int v1), (2, .int v2), (3, .int (v3 ||| ((1 : Int32) <<< (v4 &&& 31)))), (4, .int (v4 + 1))]) [0, 1, 2, 3, 4] rfl ?_
      exact hK90 _ _ _ H
  · have H := H.2 (c)
    refine a_iload 5 rfl dX12_may_113 ?_
    refine a_if_eq (tgt := 150) dX12_may_115 (by decide) (fun c => ?_) (fun c => ?_)
    · have H := H.1 (c)
      refine a_iconst (v := (0 : Int32)) (by decide) dX12_may_150 ?_
      refine a_istore (lv1 := [(0, .ref v0), (1, .int v1), (2, .int v2), (3, .int v3), (4, .int v4), (5, .int (0 : Int32)), (6, .int v6)]) [1, 2, 3, 4, 5, 0, 6] (by decide) rfl dX12_may_151 ?_
      refine a_iinc (v := v6 + 1) (lv1 := [(0, .ref v0), (1, .int v1), (2, .int v2), (3, .int v3), (4, .int v4), (5, .int (0 : Int32)), (6, .int (v6 + 1))]) [1, 2, 3, 4, 5, 6, 0] 6 rfl (by decide) rfl rfl dX12_may_153 ?_
      refine a_goto (tgt := 107) dX12_may_156 (by decide) ?_
      exact hK107 _ _ _ H
    · have H := H.2 (c)
      refine a_aload_n 0 rfl rfl dX12_may_118 ?_
      refine a_aload_n 0 rfl rfl dX12_may_119 ?_
      refine r_gI fo_RX12_184_12 dX12_may_120 H (fun x1 H => ?_)
      refine a_iload 4 rfl dX12_may_123 ?_
      refine a_iload 6 rfl dX12_may_125 ?_
      refine a_iadd dX12_may_127 ?_
      refine r_Vi (q := (RX12, TX12, 51)) (av := [.int x1, .int (v4 + v6)]) (rest := []) rfl rfl okX12_seen H.1 rfl rfl wd1395 wd1397 wp55 ⟨Nat.le_of_ble_eq_true rfl, Nat.le_of_ble_eq_true rfl⟩ (Nat.le_of_ble_eq_true rfl) dX12_may_128 (s_X12_seen H.2) (fun x2 h3 H => ?_)
      refine a_aload_n 0 rfl rfl dX12_may_131 ?_
      refine r_gR fo_RX12_13_12 dX12_may_132 H (fun a4 H => ?_)
      refine a_bipush (v := (60 : Int32)) (by decide) dX12_may_135 ?_
      refine a_iload_n 1 rfl rfl dX12_may_137 ?_
      refine a_imul dX12_may_138 ?_
      refine a_iload 6 rfl dX12_may_139 ?_
      refine a_iadd dX12_may_141 ?_
      refine r_lI dX12_may_142 H (fun x5 H => ?_)
      refine a_icmp_ne (tgt := 150) dX12_may_143 (by decide) (fun c => ?_) (fun c => ?_)
      · have H := H.1 (c)
        refine a_iconst (v := (0 : Int32)) (by decide) dX12_may_150 ?_
        refine a_istore (lv1 := [(0, .ref v0), (1, .int v1), (2, .int v2), (3, .int v3), (4, .int v4), (5, .int (0 : Int32)), (6, .int v6)]) [1, 2, 3, 4, 5, 0, 6] (by decide) rfl dX12_may_151 ?_
        refine a_iinc (v := v6 + 1) (lv1 := [(0, .ref v0), (1, .int v1), (2, .int v2), (3, .int v3), (4, .int v4), (5, .int (0 : Int32)), (6, .int (v6 + 1))]) [1, 2, 3, 4, 5, 6, 0] 6 rfl (by decide) rfl rfl dX12_may_153 ?_
        refine a_goto (tgt := 107) dX12_may_156 (by decide) ?_
        exact hK107 _ _ _ H
      · have H := H.2 (c)
        refine a_iconst (v := (1 : Int32)) (by decide) dX12_may_146 ?_
        refine a_goto (tgt := 151) dX12_may_147 (by decide) ?_
        refine a_istore (lv1 := [(0, .ref v0), (1, .int v1), (2, .int v2), (3, .int v3), (4, .int v4), (5, .int (1 : Int32)), (6, .int v6)]) [1, 2, 3, 4, 5, 0, 6] (by decide) rfl dX12_may_151 ?_
        refine a_iinc (v := v6 + 1) (lv1 := [(0, .ref v0), (1, .int v1), (2, .int v2), (3, .int v3), (4, .int v4), (5, .int (1 : Int32)), (6, .int (v6 + 1))]) [1, 2, 3, 4, 5, 6, 0] 6 rfl (by decide) rfl rfl dX12_may_153 ?_
        refine a_goto (tgt := 107) dX12_may_156 (by decide) ?_
        exact hK107 _ _ _ H
def L_X12_may_107 (Q : Int32 → AH → Prop) (K90 : Int32 → Int32 → AH → Prop) (v0 : Nat) (v1 : Int32) (v2 : Int32) (v3 : Int32) (v4 : Int32) : Nat → Int32 → Int32 → AH → Prop
  | 0, _, _, _ => False
  | n + 1, v5, v6, h => B_X12_may_107 Q K90 (L_X12_may_107 Q K90 v0 v1 v2 v3 v4 n) v0 v1 v2 v3 v4 v5 v6 h
theorem l_X12_may_107 {o : Om} {Q : Int32 → AH → Prop} {K90 : Int32 → Int32 → AH → Prop} {v0 : Nat} {v1 : Int32} {v2 : Int32} {v3 : Int32} {v4 : Int32} (hK90 : ∀ w3 w4 h, K90 w3 w4 h → AQ o kX12_may h 90 [(0, .ref v0), (1, .int v1), (2, .int v2), (3, .int w3), (4, .int w4)] [] (qI Q)) : ∀ (n : Nat) (v5 : Int32) (v6 : Int32) (h : AH), L_X12_may_107 Q K90 v0 v1 v2 v3 v4 n v5 v6 h → AQ o kX12_may h 107 [(0, .ref v0), (1, .int v1), (2, .int v2), (3, .int v3), (4, .int v4), (5, .int v5), (6, .int v6)] [] (qI Q) := by
  intro n
  induction n with
  | zero => intro v5 v6 h H; exact H.elim
  | succ n ih => intro v5 v6 h H; exact b_X12_may_107 hK90 ih H
def B_X12_may_90 (Q : Int32 → AH → Prop) (K90 : Int32 → Int32 → AH → Prop) (v0 : Nat) (v1 : Int32) (v2 : Int32) (v3 : Int32) (v4 : Int32) (h : AH) : Prop :=
  gI h v0 12 9 (fun x1 => ((x1 < (v4 + v2) → Q v3 h) ∧ (¬ (x1 < (v4 + v2)) → ∃ n, L_X12_may_107 Q K90 v0 v1 v2 v3 v4 n (1 : Int32) (0 : Int32) h)))
set_option maxRecDepth 100000 in
set_option maxHeartbeats 4000000 in
theorem b_X12_may_90 {o : Om} {Q : Int32 → AH → Prop} {K90 : Int32 → Int32 → AH → Prop} {v0 : Nat} {v1 : Int32} {v2 : Int32} {v3 : Int32} {v4 : Int32} {h : AH} (hK90 : ∀ w3 w4 h, K90 w3 w4 h → AQ o kX12_may h 90 [(0, .ref v0), (1, .int v1), (2, .int v2), (3, .int w3), (4, .int w4)] [] (qI Q)) (H : B_X12_may_90 Q K90 v0 v1 v2 v3 v4 h) : AQ o kX12_may h 90 [(0, .ref v0), (1, .int v1), (2, .int v2), (3, .int v3), (4, .int v4)] [] (qI Q) := by
  refine a_iload 4 rfl dX12_may_90 ?_
  refine a_iload_n 2 rfl rfl dX12_may_92 ?_
  refine a_iadd dX12_may_93 ?_
  refine a_aload_n 0 rfl rfl dX12_may_94 ?_
  refine r_gI fo_RX12_175_12 dX12_may_95 H (fun x1 H => ?_)
  refine a_icmp_gt (tgt := 181) dX12_may_98 (by decide) (fun c => ?_) (fun c => ?_)
  · have H := H.1 (c)
    refine a_iload_n 3 rfl rfl dX12_may_181 ?_
    exact r_reti rfl dX12_may_182 H
  · have H := H.2 (c)
    refine a_iconst (v := (1 : Int32)) (by decide) dX12_may_101 ?_
    refine a_istore (lv1 := [(0, .ref v0), (1, .int v1), (2, .int v2), (3, .int v3), (4, .int v4), (5, .int (1 : Int32))]) [1, 2, 3, 4, 5, 0] (by decide) rfl dX12_may_102 ?_
    refine a_iconst (v := (0 : Int32)) (by decide) dX12_may_104 ?_
    refine a_istore (lv1 := [(0, .ref v0), (1, .int v1), (2, .int v2), (3, .int v3), (4, .int v4), (5, .int (1 : Int32)), (6, .int (0 : Int32))]) [1, 2, 3, 4, 5, 6, 0] (by decide) rfl dX12_may_105 ?_
    obtain ⟨n, H⟩ := H
    exact l_X12_may_107 hK90 n _ _ _ H
def L_X12_may_90 (Q : Int32 → AH → Prop)  (v0 : Nat) (v1 : Int32) (v2 : Int32) : Nat → Int32 → Int32 → AH → Prop
  | 0, _, _, _ => False
  | n + 1, v3, v4, h => B_X12_may_90 Q (L_X12_may_90 Q  v0 v1 v2 n) v0 v1 v2 v3 v4 h
theorem l_X12_may_90 {o : Om} {Q : Int32 → AH → Prop}  {v0 : Nat} {v1 : Int32} {v2 : Int32}  : ∀ (n : Nat) (v3 : Int32) (v4 : Int32) (h : AH), L_X12_may_90 Q  v0 v1 v2 n v3 v4 h → AQ o kX12_may h 90 [(0, .ref v0), (1, .int v1), (2, .int v2), (3, .int v3), (4, .int v4)] [] (qI Q) := by
  intro n
  induction n with
  | zero => intro v3 v4 h H; exact H.elim
  | succ n ih => intro v3 v4 h H; exact b_X12_may_90 ih H
def B_X12_may_46 (Q : Int32 → AH → Prop) (K46 : Int32 → AH → Prop) (v0 : Nat) (v1 : Int32) (v2 : Int32) (v3 : Int32) (h : AH) : Prop :=
  ((v2 ≤ v3 → ∃ n, L_X12_may_90 Q  v0 v1 v2 n (0 : Int32) (0 : Int32) h) ∧ (¬ (v2 ≤ v3) → gR h v0 12 1 (fun a1 => lI h a1 (((60 : Int32) * v1) + v3) (fun x2 => f_X12_in x2.toInt64 (0 : Int64) (9 : Int64) h (fun x3 h4 => ((¬ (x3 = 0) → K46 (v3 + 1) h4) ∧ (x3 = 0 → isO h4 v0 12 ∧ f_X12_find v0 (3 : Int32) h4 (fun x5 h6 => Q x5 h6))))))))
set_option maxRecDepth 100000 in
set_option maxHeartbeats 4000000 in
theorem b_X12_may_46 {o : Om} {Q : Int32 → AH → Prop} {K46 : Int32 → AH → Prop} {v0 : Nat} {v1 : Int32} {v2 : Int32} {v3 : Int32} {h : AH} (hK46 : ∀ w3 h, K46 w3 h → AQ o kX12_may h 46 [(0, .ref v0), (1, .int v1), (2, .int v2), (3, .int w3)] [] (qI Q)) (H : B_X12_may_46 Q K46 v0 v1 v2 v3 h) : AQ o kX12_may h 46 [(0, .ref v0), (1, .int v1), (2, .int v2), (3, .int v3)] [] (qI Q) := by
  refine a_iload_n 3 rfl rfl dX12_may_46 ?_
  refine a_iload_n 2 rfl rfl dX12_may_47 ?_
  refine a_icmp_ge (tgt := 85) dX12_may_48 (by decide) (fun c => ?_) (fun c => ?_)
  · have H := H.1 (c)
    refine a_iconst (v := (0 : Int32)) (by decide) dX12_may_85 ?_
    refine a_istore_n (lv1 := [(0, .ref v0), (1, .int v1), (2, .int v2), (3, .int (0 : Int32))]) rfl [1, 2, 3, 0] (by decide) rfl dX12_may_86 ?_
    refine a_iconst (v := (0 : Int32)) (by decide) dX12_may_87 ?_
    refine a_istore (lv1 := [(0, .ref v0), (1, .int v1), (2, .int v2), (3, .int (0 : Int32)), (4, .int (0 : Int32))]) [1, 2, 3, 4, 0] (by decide) rfl dX12_may_88 ?_
    obtain ⟨n, H⟩ := H
    exact l_X12_may_90  n _ _ _ H
  · have H := H.2 (c)
    refine a_aload_n 0 rfl rfl dX12_may_51 ?_
    refine r_gR fo_RX12_13_12 dX12_may_52 H (fun a1 H => ?_)
    refine a_bipush (v := (60 : Int32)) (by decide) dX12_may_55 ?_
    refine a_iload_n 1 rfl rfl dX12_may_57 ?_
    refine a_imul dX12_may_58 ?_
    refine a_iload_n 3 rfl rfl dX12_may_59 ?_
    refine a_iadd dX12_may_60 ?_
    refine r_lI dX12_may_61 H (fun x2 H => ?_)
    refine a_i2l dX12_may_62 ?_
    refine a_lconst (v := (0 : Int64)) (by decide) dX12_may_63 ?_
    refine a_ldc2 (v := (9 : Int64)) wd1403 dX12_may_64 ?_
    refine r_Si (av := [.long x2.toInt64, .long (0 : Int64), .long (9 : Int64)]) (rest := []) rfl rfl okX12_in wd1188 wd1189 ⟨Nat.le_of_ble_eq_true rfl, Nat.le_of_ble_eq_true rfl⟩ (Nat.le_of_ble_eq_true rfl) dX12_may_67 (s_X12_in H) (fun x3 h4 H => ?_)
    refine a_if_ne (tgt := 79) dX12_may_70 (by decide) (fun c => ?_) (fun c => ?_)
    · have H := H.1 (c)
      refine a_iinc (v := v3 + 1) (lv1 := [(0, .ref v0), (1, .int v1), (2, .int v2), (3, .int (v3 + 1))]) [1, 2, 3, 0] 3 rfl (by decide) rfl rfl dX12_may_79 ?_
      refine a_goto (tgt := 46) dX12_may_82 (by decide) ?_
      exact hK46 _ _ H
    · have H := H.2 (c)
      refine a_aload_n 0 rfl rfl dX12_may_73 ?_
      refine a_iconst (v := (3 : Int32)) (by decide) dX12_may_74 ?_
      refine r_Vi (q := (RX12, TX12, 51)) (av := [.int (3 : Int32)]) (rest := []) rfl rfl okX12_find H.1 rfl rfl wd1191 wd1193 wp31 ⟨Nat.le_of_ble_eq_true rfl, Nat.le_of_ble_eq_true rfl⟩ (Nat.le_of_ble_eq_true rfl) dX12_may_75 (s_X12_find H.2) (fun x5 h6 H => ?_)
      exact r_reti rfl dX12_may_78 H
def L_X12_may_46 (Q : Int32 → AH → Prop)  (v0 : Nat) (v1 : Int32) (v2 : Int32) : Nat → Int32 → AH → Prop
  | 0, _, _ => False
  | n + 1, v3, h => B_X12_may_46 Q (L_X12_may_46 Q  v0 v1 v2 n) v0 v1 v2 v3 h
theorem l_X12_may_46 {o : Om} {Q : Int32 → AH → Prop}  {v0 : Nat} {v1 : Int32} {v2 : Int32}  : ∀ (n : Nat) (v3 : Int32) (h : AH), L_X12_may_46 Q  v0 v1 v2 n v3 h → AQ o kX12_may h 46 [(0, .ref v0), (1, .int v1), (2, .int v2), (3, .int v3)] [] (qI Q) := by
  intro n
  induction n with
  | zero => intro v3 h H; exact H.elim
  | succ n ih => intro v3 h H; exact b_X12_may_46 ih H
def f_X12_may (v0 : Nat) (v1 : Int32) (h : AH) (Q : Int32 → AH → Prop) : Prop :=
  f_X12_isRow v1 h (fun x1 h2 => ((¬ (x1 = 0) → gR h2 v0 12 0 (fun a3 => lI h2 a3 v1 (fun x4 => ((0 ≤ x4 → ((x4 = 0 → B_X12_may_38 Q  v0 h2) ∧ (¬ (x4 = 0) → gI h2 v0 12 9 (fun x5 => ((x4 ≤ x5 → ∃ n, L_X12_may_46 Q  v0 v1 x4 n (0 : Int32) h2) ∧ (¬ (x4 ≤ x5) → B_X12_may_38 Q  v0 h2)))))) ∧ (¬ (0 ≤ x4) → isO h2 v0 12 ∧ f_X12_find v0 (1 : Int32) h2 (fun x6 h7 => Q x6 h7)))))) ∧ (x1 = 0 → Q (-1 : Int32) h2)))
set_option maxRecDepth 100000 in
set_option maxHeartbeats 4000000 in
theorem s_X12_may {o : Om} {v0 : Nat} {v1 : Int32} {h : AH} {Q : Int32 → AH → Prop} (H : f_X12_may v0 v1 h Q) : MQ' o kX12_may [.ref v0, .int v1] h (qI Q) := by
  refine MQ'.of (by decide +kernel) (Nat.le_of_ble_eq_true rfl) ?_
  show AQ o kX12_may h 0 [(0, .ref v0), (1, .int v1)] [] (qI Q)
  refine a_iload_n 1 rfl rfl dX12_may_0 ?_
  refine r_Si (av := [.int v1]) (rest := []) rfl rfl okX12_isRow wd1184 wd1185 ⟨Nat.le_of_ble_eq_true rfl, Nat.le_of_ble_eq_true rfl⟩ (Nat.le_of_ble_eq_true rfl) dX12_may_1 (s_X12_isRow H) (fun x1 h2 H => ?_)
  refine a_if_ne (tgt := 9) dX12_may_4 (by decide) (fun c => ?_) (fun c => ?_)
  · have H := H.1 (c)
    refine a_aload_n 0 rfl rfl dX12_may_9 ?_
    refine r_gR fo_RX12_7_12 dX12_may_10 H (fun a3 H => ?_)
    refine a_iload_n 1 rfl rfl dX12_may_13 ?_
    refine r_lI dX12_may_14 H (fun x4 H => ?_)
    refine a_istore_n (lv1 := [(0, .ref v0), (1, .int v1), (2, .int x4)]) rfl [1, 2, 0] (by decide) rfl dX12_may_15 ?_
    refine a_iload_n 2 rfl rfl dX12_may_16 ?_
    refine a_if_ge (tgt := 26) dX12_may_17 (by decide) (fun c => ?_) (fun c => ?_)
    · have H := H.1 (c)
      refine a_iload_n 2 rfl rfl dX12_may_26 ?_
      refine a_if_eq (tgt := 38) dX12_may_27 (by decide) (fun c => ?_) (fun c => ?_)
      · have H := H.1 (c)
        refine AQ.sub (lv1 := [(0, .ref v0)]) [0] rfl ?_
        exact b_X12_may_38  H
      · have H := H.2 (c)
        refine a_iload_n 2 rfl rfl dX12_may_30 ?_
        refine a_aload_n 0 rfl rfl dX12_may_31 ?_
        refine r_gI fo_RX12_175_12 dX12_may_32 H (fun x5 H => ?_)
        refine a_icmp_le (tgt := 44) dX12_may_35 (by decide) (fun c => ?_) (fun c => ?_)
        · have H := H.1 (c)
          refine a_iconst (v := (0 : Int32)) (by decide) dX12_may_44 ?_
          refine a_istore_n (lv1 := [(0, .ref v0), (1, .int v1), (2, .int x4), (3, .int (0 : Int32))]) rfl [1, 2, 3, 0] (by decide) rfl dX12_may_45 ?_
          obtain ⟨n, H⟩ := H
          exact l_X12_may_46  n _ _ H
        · have H := H.2 (c)
          refine AQ.sub (lv1 := [(0, .ref v0)]) [0] rfl ?_
          exact b_X12_may_38  H
    · have H := H.2 (c)
      refine a_aload_n 0 rfl rfl dX12_may_20 ?_
      refine a_iconst (v := (1 : Int32)) (by decide) dX12_may_21 ?_
      refine r_Vi (q := (RX12, TX12, 51)) (av := [.int (1 : Int32)]) (rest := []) rfl rfl okX12_find H.1 rfl rfl wd1191 wd1193 wp31 ⟨Nat.le_of_ble_eq_true rfl, Nat.le_of_ble_eq_true rfl⟩ (Nat.le_of_ble_eq_true rfl) dX12_may_22 (s_X12_find H.2) (fun x6 h7 H => ?_)
      exact r_reti rfl dX12_may_25 H
  · have H := H.2 (c)
    refine a_iconst (v := (-1 : Int32)) (by decide) dX12_may_7 ?_
    exact r_reti rfl dX12_may_8 H
def B_X7_from_24 (Q : AH → Prop)  (v0 : Nat) (v1 : Nat) (v2 : Int32) (v3 : Int32) (h : AH) : Prop :=
  pF h v0 7 4 (.ref v1) (fun h1 => pF h1 v0 7 5 (.int v2) (fun h2 => pF h2 v0 7 6 (.int v3) (fun h3 => pF h3 v0 7 7 (.int (0 : Int32)) (fun h4 => Q h4))))
set_option maxRecDepth 100000 in
set_option maxHeartbeats 4000000 in
theorem b_X7_from_24 {o : Om} {Q : AH → Prop}  {v0 : Nat} {v1 : Nat} {v2 : Int32} {v3 : Int32} {h : AH}  (H : B_X7_from_24 Q  v0 v1 v2 v3 h) : AQ o kX7_from h 24 [(0, .ref v0), (1, .ref v1), (2, .int v2), (3, .int v3)] [] (qV Q) := by
  refine a_aload_n 0 rfl rfl dX7_from_24 ?_
  refine a_aload_n 1 rfl rfl dX7_from_25 ?_
  refine r_pF (po_RX7_59_7 _) (fun _ => rfl) (fun _ => rfl) dX7_from_26 H (fun h1 H => ?_)
  refine a_aload_n 0 rfl rfl dX7_from_29 ?_
  refine a_iload_n 2 rfl rfl dX7_from_30 ?_
  refine r_pF (po_RX7_21_7 _) (fun _ => rfl) (fun _ => rfl) dX7_from_31 H (fun h2 H => ?_)
  refine a_aload_n 0 rfl rfl dX7_from_34 ?_
  refine a_iload_n 3 rfl rfl dX7_from_35 ?_
  refine r_pF (po_RX7_25_7 _) (fun _ => rfl) (fun _ => rfl) dX7_from_36 H (fun h3 H => ?_)
  refine a_aload_n 0 rfl rfl dX7_from_39 ?_
  refine a_iconst (v := (0 : Int32)) (by decide) dX7_from_40 ?_
  refine r_pF (po_RX7_28_7 _) (fun _ => rfl) (fun _ => rfl) dX7_from_41 H (fun h4 H => ?_)
  exact r_retv rfl dX7_from_44 H
def f_X7_from (v0 : Nat) (v1 : Nat) (v2 : Int32) (v3 : Int32) (h : AH) (Q : AH → Prop) : Prop :=
  gR h v0 7 4 (fun a1 => ((¬ a1 = v1 → B_X7_from_24 Q  v0 v1 v2 v3 h) ∧ (a1 = v1 → gI h v0 7 5 (fun x2 => ((¬ (x2 = v2) → B_X7_from_24 Q  v0 v1 v2 v3 h) ∧ (x2 = v2 → gI h v0 7 6 (fun x3 => ((x3 = v3 → Q h) ∧ (¬ (x3 = v3) → B_X7_from_24 Q  v0 v1 v2 v3 h)))))))))
set_option maxRecDepth 100000 in
set_option maxHeartbeats 4000000 in
theorem s_X7_from {o : Om} {v0 : Nat} {v1 : Nat} {v2 : Int32} {v3 : Int32} {h : AH} {Q : AH → Prop} (H : f_X7_from v0 v1 v2 v3 h Q) : MQ' o kX7_from [.ref v0, .ref v1, .int v2, .int v3] h (qV Q) := by
  refine MQ'.of (by decide +kernel) (Nat.le_of_ble_eq_true rfl) ?_
  show AQ o kX7_from h 0 [(0, .ref v0), (1, .ref v1), (2, .int v2), (3, .int v3)] [] (qV Q)
  refine a_aload_n 0 rfl rfl dX7_from_0 ?_
  refine r_gR fo_RX7_59_7 dX7_from_1 H (fun a1 H => ?_)
  refine a_aload_n 1 rfl rfl dX7_from_4 ?_
  refine a_acmp_ne (tgt := 24) dX7_from_5 (by decide) (fun c => ?_) (fun c => ?_)
  · have H := H.1 c
    exact b_X7_from_24  H
  · have H := H.2 c
    refine a_aload_n 0 rfl rfl dX7_from_8 ?_
    refine r_gI fo_RX7_21_7 dX7_from_9 H (fun x2 H => ?_)
    refine a_iload_n 2 rfl rfl dX7_from_12 ?_
    refine a_icmp_ne (tgt := 24) dX7_from_13 (by decide) (fun c => ?_) (fun c => ?_)
    · have H := H.1 (c)
      exact b_X7_from_24  H
    · have H := H.2 (c)
      refine a_aload_n 0 rfl rfl dX7_from_16 ?_
      refine r_gI fo_RX7_25_7 dX7_from_17 H (fun x3 H => ?_)
      refine a_iload_n 3 rfl rfl dX7_from_20 ?_
      refine a_icmp_eq (tgt := 44) dX7_from_21 (by decide) (fun c => ?_) (fun c => ?_)
      · have H := H.1 (c)
        exact r_retv rfl dX7_from_44 H
      · have H := H.2 (c)
        exact b_X7_from_24  H
def B_X7_rowsOf_4 (Q : Int32 → AH → Prop) (K4 : Int32 → Int32 → AH → Prop) (v0 : Nat) (v1 : Int32) (v2 : Int32) (v3 : Int32) (h : AH) : Prop :=
  ((v1 ≤ v3 → Q v2 h) ∧ (¬ (v1 ≤ v3) → gR h v0 7 4 (fun a1 => gI h a1 5 6 (fun x2 => K4 (v2 * x2) (v3 + 1) h))))
set_option maxRecDepth 100000 in
set_option maxHeartbeats 4000000 in
theorem b_X7_rowsOf_4 {o : Om} {Q : Int32 → AH → Prop} {K4 : Int32 → Int32 → AH → Prop} {v0 : Nat} {v1 : Int32} {v2 : Int32} {v3 : Int32} {h : AH} (hK4 : ∀ w2 w3 h, K4 w2 w3 h → AQ o kX7_rowsOf h 4 [(0, .ref v0), (1, .int v1), (2, .int w2), (3, .int w3)] [] (qI Q)) (H : B_X7_rowsOf_4 Q K4 v0 v1 v2 v3 h) : AQ o kX7_rowsOf h 4 [(0, .ref v0), (1, .int v1), (2, .int v2), (3, .int v3)] [] (qI Q) := by
  refine a_iload_n 3 rfl rfl dX7_rowsOf_4 ?_
  refine a_iload_n 1 rfl rfl dX7_rowsOf_5 ?_
  refine a_icmp_ge (tgt := 25) dX7_rowsOf_6 (by decide) (fun c => ?_) (fun c => ?_)
  · have H := H.1 (c)
    refine a_iload_n 2 rfl rfl dX7_rowsOf_25 ?_
    exact r_reti rfl dX7_rowsOf_26 H
  · have H := H.2 (c)
    refine a_iload_n 2 rfl rfl dX7_rowsOf_9 ?_
    refine a_aload_n 0 rfl rfl dX7_rowsOf_10 ?_
    refine r_gR fo_RX7_59_7 dX7_rowsOf_11 H (fun a1 H => ?_)
    refine r_gI fo_RX7_79_5 dX7_rowsOf_14 H (fun x2 H => ?_)
    refine a_imul dX7_rowsOf_17 ?_
    refine a_istore_n (lv1 := [(0, .ref v0), (1, .int v1), (2, .int (v2 * x2)), (3, .int v3)]) rfl [1, 2, 0, 3] (by decide) rfl dX7_rowsOf_18 ?_
    refine a_iinc (v := v3 + 1) (lv1 := [(0, .ref v0), (1, .int v1), (2, .int (v2 * x2)), (3, .int (v3 + 1))]) [1, 2, 3, 0] 3 rfl (by decide) rfl rfl dX7_rowsOf_19 ?_
    refine a_goto (tgt := 4) dX7_rowsOf_22 (by decide) ?_
    exact hK4 _ _ _ H
def L_X7_rowsOf_4 (Q : Int32 → AH → Prop)  (v0 : Nat) (v1 : Int32) : Nat → Int32 → Int32 → AH → Prop
  | 0, _, _, _ => False
  | n + 1, v2, v3, h => B_X7_rowsOf_4 Q (L_X7_rowsOf_4 Q  v0 v1 n) v0 v1 v2 v3 h
theorem l_X7_rowsOf_4 {o : Om} {Q : Int32 → AH → Prop}  {v0 : Nat} {v1 : Int32}  : ∀ (n : Nat) (v2 : Int32) (v3 : Int32) (h : AH), L_X7_rowsOf_4 Q  v0 v1 n v2 v3 h → AQ o kX7_rowsOf h 4 [(0, .ref v0), (1, .int v1), (2, .int v2), (3, .int v3)] [] (qI Q) := by
  intro n
  induction n with
  | zero => intro v2 v3 h H; exact H.elim
  | succ n ih => intro v2 v3 h H; exact b_X7_rowsOf_4 ih H
def f_X7_rowsOf (v0 : Nat) (v1 : Int32) (h : AH) (Q : Int32 → AH → Prop) : Prop :=
  ∃ n, L_X7_rowsOf_4 Q  v0 v1 n (1 : Int32) (0 : Int32) h
set_option maxRecDepth 100000 in
set_option maxHeartbeats 4000000 in
theorem s_X7_rowsOf {o : Om} {v0 : Nat} {v1 : Int32} {h : AH} {Q : Int32 → AH → Prop} (H : f_X7_rowsOf v0 v1 h Q) : MQ' o kX7_rowsOf [.ref v0, .int v1] h (qI Q) := by
  refine MQ'.of (by decide +kernel) (Nat.le_of_ble_eq_true rfl) ?_
  show AQ o kX7_rowsOf h 0 [(0, .ref v0), (1, .int v1)] [] (qI Q)
  refine a_iconst (v := (1 : Int32)) (by decide) dX7_rowsOf_0 ?_
  refine a_istore_n (lv1 := [(0, .ref v0), (1, .int v1), (2, .int (1 : Int32))]) rfl [1, 2, 0] (by decide) rfl dX7_rowsOf_1 ?_
  refine a_iconst (v := (0 : Int32)) (by decide) dX7_rowsOf_2 ?_
  refine a_istore_n (lv1 := [(0, .ref v0), (1, .int v1), (2, .int (1 : Int32)), (3, .int (0 : Int32))]) rfl [1, 2, 3, 0] (by decide) rfl dX7_rowsOf_3 ?_
  obtain ⟨n, H⟩ := H
  exact l_X7_rowsOf_4  n _ _ _ H
def f_X7_firstRow (v0 : Nat) (h : AH) (Q : AH → Prop) : Prop :=
  gR h v0 7 1 (fun a1 => f_J7_fill_53178 a1 (0 : Int32) h (fun h2 => Q h2))
set_option maxRecDepth 100000 in
set_option maxHeartbeats 4000000 in
theorem s_X7_firstRow {o : Om} {v0 : Nat} {h : AH} {Q : AH → Prop} (H : f_X7_firstRow v0 h Q) : MQ' o kX7_firstRow [.ref v0] h (qV Q) := by
  refine MQ'.of (by decide +kernel) (Nat.le_of_ble_eq_true rfl) ?_
  show AQ o kX7_firstRow h 0 [(0, .ref v0)] [] (qV Q)
  refine a_aload_n 0 rfl rfl dX7_firstRow_0 ?_
  refine r_gR fo_RX7_11_7 dX7_firstRow_1 H (fun a1 H => ?_)
  refine a_iconst (v := (0 : Int32)) (by decide) dX7_firstRow_4 ?_
  refine r_Sv (av := [.ref a1, .int (0 : Int32)]) (rest := []) rfl rfl okJ7_fill_53178 wd791 wd202 ⟨Nat.le_of_ble_eq_true rfl, Nat.le_of_ble_eq_true rfl⟩ (Nat.le_of_ble_eq_true rfl) dX7_firstRow_5 (s_J7_fill_53178 H) (fun h2 H => ?_)
  exact r_retv rfl dX7_firstRow_8 H
theorem vs_X9_sendRow_33 {o : Om} {h : AH} {lv : List (Nat × Value)} {rest : List Value} {Q : Option Value → AH → Prop} {a : Nat} {u0 : Nat} {F : AH → Prop} (hd : decode kX9_sendRow.2.1 33 = .ok (.invokevirtual 43, 3)) (H : v_go1 a u0 h F) (k : ∀ h, F h → AQ o kX9_sendRow h (33 + 3) lv rest Q) (hc : (rest.map fun v => v.category).sum ≤ 8 := by exact Nat.le_of_ble_eq_true rfl) : AQ o kX9_sendRow h 33 lv (.ref u0 :: .ref a :: rest) Q := by
  obtain ⟨ci, fs, hO, H⟩ := H
  rcases H with ⟨rfl, H⟩ | ⟨rfl, H⟩ | ⟨rfl, H⟩ | ⟨rfl, H⟩ | ⟨rfl, H⟩ | ⟨rfl, H⟩
  · exact r_Uv (q := (RX0, TX0, 2)) (x := ⟨"MilestonesOn$Walker", "go", "(LMilestonesOn$Trip;)V"⟩) (owner := "MilestonesOn$Walker") (av := [.ref u0]) (rest := rest) rfl rfl okX0_go hO rfl rfl wd690 wd693 (by decide +kernel) wd691 wd708 wd583 wd694 ⟨Nat.le_of_ble_eq_true rfl, Nat.le_of_ble_eq_true rfl⟩ hc hd (s_X0_go H) k
  · exact r_Uv (q := (RX1, TX1, 2)) (x := ⟨"MilestonesOn$Walker", "go", "(LMilestonesOn$Trip;)V"⟩) (owner := "MilestonesOn$Walker") (av := [.ref u0]) (rest := rest) rfl rfl okX1_go hO rfl rfl wd690 wd693 (by decide +kernel) wd691 wd708 wd637 wd695 ⟨Nat.le_of_ble_eq_true rfl, Nat.le_of_ble_eq_true rfl⟩ hc hd (s_X1_go H) k
  · exact r_Uv (q := (RX2, TX2, 2)) (x := ⟨"MilestonesOn$Walker", "go", "(LMilestonesOn$Trip;)V"⟩) (owner := "MilestonesOn$Walker") (av := [.ref u0]) (rest := rest) rfl rfl okX2_go hO rfl rfl wd690 wd693 (by decide +kernel) wd691 wd708 wd697 wd696 ⟨Nat.le_of_ble_eq_true rfl, Nat.le_of_ble_eq_true rfl⟩ hc hd (s_X2_go H) k
  · exact r_Uv (q := (RX3, TX3, 2)) (x := ⟨"MilestonesOn$Walker", "go", "(LMilestonesOn$Trip;)V"⟩) (owner := "MilestonesOn$Walker") (av := [.ref u0]) (rest := rest) rfl rfl okX0_go hO rfl rfl wd690 wd693 (by decide +kernel) wd691 wd708 wd583 wd703 ⟨Nat.le_of_ble_eq_true rfl, Nat.le_of_ble_eq_true rfl⟩ hc hd (s_X0_go H) k
  · exact r_Uv (q := (RX8, TX8, 2)) (x := ⟨"MilestonesOn$Walker", "go", "(LMilestonesOn$Trip;)V"⟩) (owner := "MilestonesOn$Walker") (av := [.ref u0]) (rest := rest) rfl rfl okX8_go hO rfl rfl wd690 wd693 (by decide +kernel) wd691 wd708 wd705 wd704 ⟨Nat.le_of_ble_eq_true rfl, Nat.le_of_ble_eq_true rfl⟩ hc hd (s_X8_go H) k
  · exact r_Uv (q := (RX10, TX10, 2)) (x := ⟨"MilestonesOn$Walker", "go", "(LMilestonesOn$Trip;)V"⟩) (owner := "MilestonesOn$Walker") (av := [.ref u0]) (rest := rest) rfl rfl okX10_go hO rfl rfl wd690 wd693 (by decide +kernel) wd691 wd708 wd691 wd692 ⟨Nat.le_of_ble_eq_true rfl, Nat.le_of_ble_eq_true rfl⟩ hc hd (s_X10_go H) k
def B_X9_sendRow_2 (Q : AH → Prop) (K2 : Int32 → AH → Prop) (v0 : Nat) (v1 : Nat) (v2 : Int32) (v3 : Int32) (h : AH) : Prop :=
  ((v2 ≤ v3 → Q h) ∧ (¬ (v2 ≤ v3) → aL h v1 0 (fun x1 => ((x1 ≤ v3 → Q h) ∧ (¬ (x1 ≤ v3) → gR h v0 9 0 (fun a2 => lI h v1 v3 (fun x3 => isO h a2 5 ∧ f_X5_walkerAt a2 x3 h (fun q4 h5 => ((q4 = none → K2 (v3 + 1) h5) ∧ (∀ a6, q4 = some a6 → v_go1 a6 v0 h5 (fun h7 => K2 (v3 + 1) h7)))))))))))
set_option maxRecDepth 100000 in
set_option maxHeartbeats 4000000 in
theorem b_X9_sendRow_2 {o : Om} {Q : AH → Prop} {K2 : Int32 → AH → Prop} {v0 : Nat} {v1 : Nat} {v2 : Int32} {v3 : Int32} {h : AH} (hK2 : ∀ w3 h, K2 w3 h → AQ o kX9_sendRow h 2 [(0, .ref v0), (1, .ref v1), (2, .int v2), (3, .int w3)] [] (qV Q)) (H : B_X9_sendRow_2 Q K2 v0 v1 v2 v3 h) : AQ o kX9_sendRow h 2 [(0, .ref v0), (1, .ref v1), (2, .int v2), (3, .int v3)] [] (qV Q) := by
  refine a_iload_n 3 rfl rfl dX9_sendRow_2 ?_
  refine a_iload_n 2 rfl rfl dX9_sendRow_3 ?_
  refine a_icmp_ge (tgt := 42) dX9_sendRow_4 (by decide) (fun c => ?_) (fun c => ?_)
  · have H := H.1 (c)
    exact r_retv rfl dX9_sendRow_42 H
  · have H := H.2 (c)
    refine a_iload_n 3 rfl rfl dX9_sendRow_7 ?_
    refine a_aload_n 1 rfl rfl dX9_sendRow_8 ?_
    refine r_aL (by decide) dX9_sendRow_9 H (fun x1 H => ?_)
    refine a_icmp_ge (tgt := 42) dX9_sendRow_10 (by decide) (fun c => ?_) (fun c => ?_)
    · have H := H.1 (c)
      exact r_retv rfl dX9_sendRow_42 H
    · have H := H.2 (c)
      refine a_aload_n 0 rfl rfl dX9_sendRow_13 ?_
      refine r_gR fo_RX9_33_9 dX9_sendRow_14 H (fun a2 H => ?_)
      refine a_aload_n 1 rfl rfl dX9_sendRow_17 ?_
      refine a_iload_n 3 rfl rfl dX9_sendRow_18 ?_
      refine r_lI dX9_sendRow_19 H (fun x3 H => ?_)
      refine r_Vo (q := (RX5, TX5, 10)) (av := [.int x3]) (rest := []) rfl rfl okX5_walkerAt H.1 rfl rfl wd689 wd539 wd540 ⟨Nat.le_of_ble_eq_true rfl, Nat.le_of_ble_eq_true rfl⟩ (Nat.le_of_ble_eq_true rfl) dX9_sendRow_20 (s_X5_walkerAt H.2) (fun q4 h5 H => ?_)
      refine a_astoreQ (lv1 := [(0, .ref v0), (1, .ref v1), (2, .int v2), (3, .int v3), (4, va_rf q4)]) [1, 2, 3, 4, 0] (by decide) rfl dX9_sendRow_23 ?_
      refine a_aloadQ 4 rfl dX9_sendRow_25 ?_
      cases q4 with
      | none =>
        have H := H.1 rfl
        refine a_ifnull_n (tgt := 36) dX9_sendRow_27 (by decide) ?_
        show AQ o kX9_sendRow h5 36 [(0, .ref v0), (1, .ref v1), (2, .int v2), (3, .int v3), (4, .null)] [] _
        refine a_iinc (v := v3 + 1) (lv1 := [(0, .ref v0), (1, .ref v1), (2, .int v2), (3, .int (v3 + 1)), (4, .null)]) [1, 2, 3, 0, 4] 3 rfl (by decide) rfl rfl dX9_sendRow_36 ?_
        refine a_goto (tgt := 2) dX9_sendRow_39 (by decide) ?_
        refine AQ.sub (lv1 := [(0, .ref v0), (1, .ref v1), (2, .int v2), (3, .int (v3 + 1))]) [0, 1, 2, 3] rfl ?_
        exact hK2 _ _ H
      | some a6 =>
        have H := H.2 a6 rfl
        refine a_ifnull_r dX9_sendRow_27 ?_
        show AQ o kX9_sendRow h5 30 [(0, .ref v0), (1, .ref v1), (2, .int v2), (3, .int v3), (4, .ref a6)] [] _
        refine a_aload 4 rfl dX9_sendRow_30 ?_
        refine a_aload_n 0 rfl rfl dX9_sendRow_32 ?_
        refine vs_X9_sendRow_33 dX9_sendRow_33 H (fun h7 H => ?_)
        refine a_iinc (v := v3 + 1) (lv1 := [(0, .ref v0), (1, .ref v1), (2, .int v2), (3, .int (v3 + 1)), (4, .ref a6)]) [1, 2, 3, 0, 4] 3 rfl (by decide) rfl rfl dX9_sendRow_36 ?_
        refine a_goto (tgt := 2) dX9_sendRow_39 (by decide) ?_
        refine AQ.sub (lv1 := [(0, .ref v0), (1, .ref v1), (2, .int v2), (3, .int (v3 + 1))]) [0, 1, 2, 3] rfl ?_
        exact hK2 _ _ H
def L_X9_sendRow_2 (Q : AH → Prop)  (v0 : Nat) (v1 : Nat) (v2 : Int32) : Nat → Int32 → AH → Prop
  | 0, _, _ => False
  | n + 1, v3, h => B_X9_sendRow_2 Q (L_X9_sendRow_2 Q  v0 v1 v2 n) v0 v1 v2 v3 h
theorem l_X9_sendRow_2 {o : Om} {Q : AH → Prop}  {v0 : Nat} {v1 : Nat} {v2 : Int32}  : ∀ (n : Nat) (v3 : Int32) (h : AH), L_X9_sendRow_2 Q  v0 v1 v2 n v3 h → AQ o kX9_sendRow h 2 [(0, .ref v0), (1, .ref v1), (2, .int v2), (3, .int v3)] [] (qV Q) := by
  intro n
  induction n with
  | zero => intro v3 h H; exact H.elim
  | succ n ih => intro v3 h H; exact b_X9_sendRow_2 ih H
def f_X9_sendRow (v0 : Nat) (v1 : Nat) (v2 : Int32) (h : AH) (Q : AH → Prop) : Prop :=
  ∃ n, L_X9_sendRow_2 Q  v0 v1 v2 n (0 : Int32) h
set_option maxRecDepth 100000 in
set_option maxHeartbeats 4000000 in
theorem s_X9_sendRow {o : Om} {v0 : Nat} {v1 : Nat} {v2 : Int32} {h : AH} {Q : AH → Prop} (H : f_X9_sendRow v0 v1 v2 h Q) : MQ' o kX9_sendRow [.ref v0, .ref v1, .int v2] h (qV Q) := by
  refine MQ'.of (by decide +kernel) (Nat.le_of_ble_eq_true rfl) ?_
  show AQ o kX9_sendRow h 0 [(0, .ref v0), (1, .ref v1), (2, .int v2)] [] (qV Q)
  refine a_iconst (v := (0 : Int32)) (by decide) dX9_sendRow_0 ?_
  refine a_istore_n (lv1 := [(0, .ref v0), (1, .ref v1), (2, .int v2), (3, .int (0 : Int32))]) rfl [1, 2, 3, 0] (by decide) rfl dX9_sendRow_1 ?_
  obtain ⟨n, H⟩ := H
  exact l_X9_sendRow_2  n _ _ H
def B_X7_gather_33 (Q : AH → Prop)  (v0 : Nat) (v1 : Int32) (h : AH) : Prop :=
  gI h v0 7 12 (fun x1 => (((125 : Int32) ≤ x1 → Q h) ∧ (¬ ((125 : Int32) ≤ x1) → gR h v0 7 2 (fun a2 => gI h v0 7 12 (fun x3 => sI h a2 x3 v1 (fun h4 => gI h4 v0 7 12 (fun x5 => pF h4 v0 7 12 (.int (x5 + (1 : Int32))) (fun h6 => Q h6))))))))
set_option maxRecDepth 100000 in
set_option maxHeartbeats 4000000 in
theorem b_X7_gather_33 {o : Om} {Q : AH → Prop}  {v0 : Nat} {v1 : Int32} {h : AH}  (H : B_X7_gather_33 Q  v0 v1 h) : AQ o kX7_gather h 33 [(0, .ref v0), (1, .int v1)] [] (qV Q) := by
  refine a_aload_n 0 rfl rfl dX7_gather_33 ?_
  refine r_gI fo_RX7_44_7 dX7_gather_34 H (fun x1 H => ?_)
  refine a_bipush (v := (125 : Int32)) (by decide) dX7_gather_37 ?_
  refine a_icmp_ge (tgt := 62) dX7_gather_39 (by decide) (fun c => ?_) (fun c => ?_)
  · have H := H.1 (c)
    exact r_retv rfl dX7_gather_62 H
  · have H := H.2 (c)
    refine a_aload_n 0 rfl rfl dX7_gather_42 ?_
    refine r_gR fo_RX7_15_7 dX7_gather_43 H (fun a2 H => ?_)
    refine a_aload_n 0 rfl rfl dX7_gather_46 ?_
    refine r_gI fo_RX7_44_7 dX7_gather_47 H (fun x3 H => ?_)
    refine a_iload_n 1 rfl rfl dX7_gather_50 ?_
    refine r_sI dX7_gather_51 H (fun h4 H => ?_)
    refine a_aload_n 0 rfl rfl dX7_gather_52 ?_
    refine a_dup rfl dX7_gather_53 ?_
    refine r_gI fo_RX7_44_7 dX7_gather_54 H (fun x5 H => ?_)
    refine a_iconst (v := (1 : Int32)) (by decide) dX7_gather_57 ?_
    refine a_iadd dX7_gather_58 ?_
    refine r_pF (po_RX7_44_7 _) (fun _ => rfl) (fun _ => rfl) dX7_gather_59 H (fun h6 H => ?_)
    exact r_retv rfl dX7_gather_62 H
def B_X7_gather_2 (Q : AH → Prop) (K2 : Int32 → AH → Prop) (v0 : Nat) (v1 : Int32) (v2 : Int32) (h : AH) : Prop :=
  gI h v0 7 12 (fun x1 => ((x1 ≤ v2 → B_X7_gather_33 Q  v0 v1 h) ∧ (¬ (x1 ≤ v2) → (((125 : Int32) ≤ v2 → B_X7_gather_33 Q  v0 v1 h) ∧ (¬ ((125 : Int32) ≤ v2) → gR h v0 7 2 (fun a2 => lI h a2 v2 (fun x3 => ((¬ (x3 = v1) → K2 (v2 + 1) h) ∧ (x3 = v1 → Q h)))))))))
set_option maxRecDepth 100000 in
set_option maxHeartbeats 4000000 in
theorem b_X7_gather_2 {o : Om} {Q : AH → Prop} {K2 : Int32 → AH → Prop} {v0 : Nat} {v1 : Int32} {v2 : Int32} {h : AH} (hK2 : ∀ w2 h, K2 w2 h → AQ o kX7_gather h 2 [(0, .ref v0), (1, .int v1), (2, .int w2)] [] (qV Q)) (H : B_X7_gather_2 Q K2 v0 v1 v2 h) : AQ o kX7_gather h 2 [(0, .ref v0), (1, .int v1), (2, .int v2)] [] (qV Q) := by
  refine a_iload_n 2 rfl rfl dX7_gather_2 ?_
  refine a_aload_n 0 rfl rfl dX7_gather_3 ?_
  refine r_gI fo_RX7_44_7 dX7_gather_4 H (fun x1 H => ?_)
  refine a_icmp_ge (tgt := 33) dX7_gather_7 (by decide) (fun c => ?_) (fun c => ?_)
  · have H := H.1 (c)
    refine AQ.sub (lv1 := [(0, .ref v0), (1, .int v1)]) [0, 1] rfl ?_
    exact b_X7_gather_33  H
  · have H := H.2 (c)
    refine a_iload_n 2 rfl rfl dX7_gather_10 ?_
    refine a_bipush (v := (125 : Int32)) (by decide) dX7_gather_11 ?_
    refine a_icmp_ge (tgt := 33) dX7_gather_13 (by decide) (fun c => ?_) (fun c => ?_)
    · have H := H.1 (c)
      refine AQ.sub (lv1 := [(0, .ref v0), (1, .int v1)]) [0, 1] rfl ?_
      exact b_X7_gather_33  H
    · have H := H.2 (c)
      refine a_aload_n 0 rfl rfl dX7_gather_16 ?_
      refine r_gR fo_RX7_15_7 dX7_gather_17 H (fun a2 H => ?_)
      refine a_iload_n 2 rfl rfl dX7_gather_20 ?_
      refine r_lI dX7_gather_21 H (fun x3 H => ?_)
      refine a_iload_n 1 rfl rfl dX7_gather_22 ?_
      refine a_icmp_ne (tgt := 27) dX7_gather_23 (by decide) (fun c => ?_) (fun c => ?_)
      · have H := H.1 (c)
        refine a_iinc (v := v2 + 1) (lv1 := [(0, .ref v0), (1, .int v1), (2, .int (v2 + 1))]) [1, 2, 0] 2 rfl (by decide) rfl rfl dX7_gather_27 ?_
        refine a_goto (tgt := 2) dX7_gather_30 (by decide) ?_
        exact hK2 _ _ H
      · have H := H.2 (c)
        exact r_retv rfl dX7_gather_26 H
def L_X7_gather_2 (Q : AH → Prop)  (v0 : Nat) (v1 : Int32) : Nat → Int32 → AH → Prop
  | 0, _, _ => False
  | n + 1, v2, h => B_X7_gather_2 Q (L_X7_gather_2 Q  v0 v1 n) v0 v1 v2 h
theorem l_X7_gather_2 {o : Om} {Q : AH → Prop}  {v0 : Nat} {v1 : Int32}  : ∀ (n : Nat) (v2 : Int32) (h : AH), L_X7_gather_2 Q  v0 v1 n v2 h → AQ o kX7_gather h 2 [(0, .ref v0), (1, .int v1), (2, .int v2)] [] (qV Q) := by
  intro n
  induction n with
  | zero => intro v2 h H; exact H.elim
  | succ n ih => intro v2 h H; exact b_X7_gather_2 ih H
def f_X7_gather (v0 : Nat) (v1 : Int32) (h : AH) (Q : AH → Prop) : Prop :=
  ∃ n, L_X7_gather_2 Q  v0 v1 n (0 : Int32) h
set_option maxRecDepth 100000 in
set_option maxHeartbeats 4000000 in
theorem s_X7_gather {o : Om} {v0 : Nat} {v1 : Int32} {h : AH} {Q : AH → Prop} (H : f_X7_gather v0 v1 h Q) : MQ' o kX7_gather [.ref v0, .int v1] h (qV Q) := by
  refine MQ'.of (by decide +kernel) (Nat.le_of_ble_eq_true rfl) ?_
  show AQ o kX7_gather h 0 [(0, .ref v0), (1, .int v1)] [] (qV Q)
  refine a_iconst (v := (0 : Int32)) (by decide) dX7_gather_0 ?_
  refine a_istore_n (lv1 := [(0, .ref v0), (1, .int v1), (2, .int (0 : Int32))]) rfl [1, 2, 0] (by decide) rfl dX7_gather_1 ?_
  obtain ⟨n, H⟩ := H
  exact l_X7_gather_2  n _ _ H
def B_X7_nextRow_8 (Q : AH → Prop) (K8 : Int32 → AH → Prop) (v0 : Nat) (v2 : Int32) (h : AH) : Prop :=
  ((v2 < 0 → Q h) ∧ (¬ (v2 < 0) → gR h v0 7 1 (fun a1 => lI h a1 v2 (fun x2 => sI h a1 v2 (x2 + (1 : Int32)) (fun h3 => gR h3 v0 7 1 (fun a4 => lI h3 a4 v2 (fun x5 => gR h3 v0 7 4 (fun a6 => gI h3 a6 5 6 (fun x7 => ((x7 ≤ x5 → gR h3 v0 7 1 (fun a8 => sI h3 a8 v2 (0 : Int32) (fun h9 => K8 (v2 + (-1)) h9))) ∧ (¬ (x7 ≤ x5) → Q h3)))))))))))
set_option maxRecDepth 100000 in
set_option maxHeartbeats 4000000 in
theorem b_X7_nextRow_8 {o : Om} {Q : AH → Prop} {K8 : Int32 → AH → Prop} {v0 : Nat} {v2 : Int32} {h : AH} (hK8 : ∀ w2 h, K8 w2 h → AQ o kX7_nextRow h 8 [(0, .ref v0), (2, .int w2)] [] (qV Q)) (H : B_X7_nextRow_8 Q K8 v0 v2 h) : AQ o kX7_nextRow h 8 [(0, .ref v0), (2, .int v2)] [] (qV Q) := by
  refine a_iload_n 1 rfl rfl dX7_nextRow_8 ?_
  refine a_if_lt (tgt := 52) dX7_nextRow_9 (by decide) (fun c => ?_) (fun c => ?_)
  · have H := H.1 (c)
    exact r_retv rfl dX7_nextRow_52 H
  · have H := H.2 (c)
    refine a_aload_n 0 rfl rfl dX7_nextRow_12 ?_
    refine r_gR fo_RX7_11_7 dX7_nextRow_13 H (fun a1 H => ?_)
    refine a_iload_n 1 rfl rfl dX7_nextRow_16 ?_
    refine a_dup2 rfl rfl dX7_nextRow_17 ?_
    refine r_lI dX7_nextRow_18 H (fun x2 H => ?_)
    refine a_iconst (v := (1 : Int32)) (by decide) dX7_nextRow_19 ?_
    refine a_iadd dX7_nextRow_20 ?_
    refine r_sI dX7_nextRow_21 H (fun h3 H => ?_)
    refine a_aload_n 0 rfl rfl dX7_nextRow_22 ?_
    refine r_gR fo_RX7_11_7 dX7_nextRow_23 H (fun a4 H => ?_)
    refine a_iload_n 1 rfl rfl dX7_nextRow_26 ?_
    refine r_lI dX7_nextRow_27 H (fun x5 H => ?_)
    refine a_aload_n 0 rfl rfl dX7_nextRow_28 ?_
    refine r_gR fo_RX7_59_7 dX7_nextRow_29 H (fun a6 H => ?_)
    refine r_gI fo_RX7_79_5 dX7_nextRow_32 H (fun x7 H => ?_)
    refine a_icmp_ge (tgt := 39) dX7_nextRow_35 (by decide) (fun c => ?_) (fun c => ?_)
    · have H := H.1 (c)
      refine a_aload_n 0 rfl rfl dX7_nextRow_39 ?_
      refine r_gR fo_RX7_11_7 dX7_nextRow_40 H (fun a8 H => ?_)
      refine a_iload_n 1 rfl rfl dX7_nextRow_43 ?_
      refine a_iconst (v := (0 : Int32)) (by decide) dX7_nextRow_44 ?_
      refine r_sI dX7_nextRow_45 H (fun h9 H => ?_)
      refine a_iinc (v := v2 + (-1)) (lv1 := [(0, .ref v0), (2, .int (v2 + (-1)))]) [1, 0] 1 rfl (by decide) (congrArg (fun z => v2 + z) (by decide)) rfl dX7_nextRow_46 ?_
      refine a_goto (tgt := 8) dX7_nextRow_49 (by decide) ?_
      exact hK8 _ _ H
    · have H := H.2 (c)
      exact r_retv rfl dX7_nextRow_38 H
def L_X7_nextRow_8 (Q : AH → Prop)  (v0 : Nat) : Nat → Int32 → AH → Prop
  | 0, _, _ => False
  | n + 1, v2, h => B_X7_nextRow_8 Q (L_X7_nextRow_8 Q  v0 n) v0 v2 h
theorem l_X7_nextRow_8 {o : Om} {Q : AH → Prop}  {v0 : Nat}  : ∀ (n : Nat) (v2 : Int32) (h : AH), L_X7_nextRow_8 Q  v0 n v2 h → AQ o kX7_nextRow h 8 [(0, .ref v0), (2, .int v2)] [] (qV Q) := by
  intro n
  induction n with
  | zero => intro v2 h H; exact H.elim
  | succ n ih => intro v2 h H; exact b_X7_nextRow_8 ih H
def f_X7_nextRow (v0 : Nat) (v1 : Int32) (h : AH) (Q : AH → Prop) : Prop :=
  ∃ n, L_X7_nextRow_8 Q  v0 n ((if (4 : Int32) < v1 then (4 : Int32) else v1) - (1 : Int32)) h
set_option maxRecDepth 100000 in
set_option maxHeartbeats 4000000 in
theorem s_X7_nextRow {o : Om} {v0 : Nat} {v1 : Int32} {h : AH} {Q : AH → Prop} (H : f_X7_nextRow v0 v1 h Q) : MQ' o kX7_nextRow [.ref v0, .int v1] h (qV Q) := by
  refine MQ'.of (by decide +kernel) (Nat.le_of_ble_eq_true rfl) ?_
  show AQ o kX7_nextRow h 0 [(0, .ref v0), (1, .int v1)] [] (qV Q)
  refine a_iload_n 1 rfl rfl dX7_nextRow_0 ?_
  refine a_iconst (v := (4 : Int32)) (by decide) dX7_nextRow_1 ?_
  refine a_mmin wd805 wd269 wd8 wd270 ⟨Nat.le_of_ble_eq_true rfl, Nat.le_of_ble_eq_true rfl⟩ dX7_nextRow_2 ?_
  refine a_iconst (v := (1 : Int32)) (by decide) dX7_nextRow_5 ?_
  refine a_isub dX7_nextRow_6 ?_
  refine a_istore_n (lv1 := [(0, .ref v0), (1, .int v1), (2, .int ((if (4 : Int32) < v1 then (4 : Int32) else v1) - (1 : Int32)))]) rfl [1, 2, 0] (by decide) rfl dX7_nextRow_7 ?_
  refine AQ.sub (lv1 := [(0, .ref v0), (2, .int ((if (4 : Int32) < v1 then (4 : Int32) else v1) - (1 : Int32)))]) [0, 2] rfl ?_
  obtain ⟨n, H⟩ := H
  exact l_X7_nextRow_8  n _ _ H
def B_X7_gatherEnds_17 (Q : Int32 → AH → Prop) (K17 : Int32 → AH → Prop) (v0 : Nat) (v1 : Int32) (v2 : Int32) (v3 : Int32) (h : AH) : Prop :=
  ((v2 ≤ v3 → gI h v0 7 12 (fun x1 => Q x1 h)) ∧ (¬ (v2 ≤ v3) → gR h v0 7 0 (fun a2 => gR h v0 7 4 (fun a3 => gI h v0 7 5 (fun x4 => gI h v0 7 6 (fun x5 => isO h a2 9 ∧ f_X9_begin a2 a3 x4 x5 h (fun h6 => gR h6 v0 7 0 (fun a7 => gR h6 v0 7 1 (fun a8 => isO h6 a7 9 ∧ f_X9_sendRow a7 a8 v1 h6 (fun h9 => gR h9 v0 7 0 (fun a10 => gI h9 a10 9 3 (fun x11 => isO h9 v0 7 ∧ f_X7_gather v0 x11 h9 (fun h12 => isO h12 v0 7 ∧ f_X7_nextRow v0 v1 h12 (fun h13 => K17 (v3 + 1) h13))))))))))))))
set_option maxRecDepth 100000 in
set_option maxHeartbeats 4000000 in
theorem b_X7_gatherEnds_17 {o : Om} {Q : Int32 → AH → Prop} {K17 : Int32 → AH → Prop} {v0 : Nat} {v1 : Int32} {v2 : Int32} {v3 : Int32} {h : AH} (hK17 : ∀ w3 h, K17 w3 h → AQ o kX7_gatherEnds h 17 [(0, .ref v0), (1, .int v1), (2, .int v2), (3, .int w3)] [] (qI Q)) (H : B_X7_gatherEnds_17 Q K17 v0 v1 v2 v3 h) : AQ o kX7_gatherEnds h 17 [(0, .ref v0), (1, .int v1), (2, .int v2), (3, .int v3)] [] (qI Q) := by
  refine a_iload_n 3 rfl rfl dX7_gatherEnds_17 ?_
  refine a_iload_n 2 rfl rfl dX7_gatherEnds_18 ?_
  refine a_icmp_ge (tgt := 75) dX7_gatherEnds_19 (by decide) (fun c => ?_) (fun c => ?_)
  · have H := H.1 (c)
    refine a_aload_n 0 rfl rfl dX7_gatherEnds_75 ?_
    refine r_gI fo_RX7_44_7 dX7_gatherEnds_76 H (fun x1 H => ?_)
    exact r_reti rfl dX7_gatherEnds_79 H
  · have H := H.2 (c)
    refine a_aload_n 0 rfl rfl dX7_gatherEnds_22 ?_
    refine r_gR fo_RX7_68_7 dX7_gatherEnds_23 H (fun a2 H => ?_)
    refine a_aload_n 0 rfl rfl dX7_gatherEnds_26 ?_
    refine r_gR fo_RX7_59_7 dX7_gatherEnds_27 H (fun a3 H => ?_)
    refine a_aload_n 0 rfl rfl dX7_gatherEnds_30 ?_
    refine r_gI fo_RX7_21_7 dX7_gatherEnds_31 H (fun x4 H => ?_)
    refine a_aload_n 0 rfl rfl dX7_gatherEnds_34 ?_
    refine r_gI fo_RX7_25_7 dX7_gatherEnds_35 H (fun x5 H => ?_)
    refine r_Vv (q := (RX9, TX9, 8)) (av := [.ref a3, .int x4, .int x5]) (rest := []) rfl rfl okX9_begin H.1 rfl rfl wd792 wd571 wd572 ⟨Nat.le_of_ble_eq_true rfl, Nat.le_of_ble_eq_true rfl⟩ (Nat.le_of_ble_eq_true rfl) dX7_gatherEnds_38 (s_X9_begin H.2) (fun h6 H => ?_)
    refine a_aload_n 0 rfl rfl dX7_gatherEnds_41 ?_
    refine r_gR fo_RX7_68_7 dX7_gatherEnds_42 H (fun a7 H => ?_)
    refine a_aload_n 0 rfl rfl dX7_gatherEnds_45 ?_
    refine r_gR fo_RX7_11_7 dX7_gatherEnds_46 H (fun a8 H => ?_)
    refine a_iload_n 1 rfl rfl dX7_gatherEnds_49 ?_
    refine r_Vv (q := (RX9, TX9, 8)) (av := [.ref a8, .int v1]) (rest := []) rfl rfl okX9_sendRow H.1 rfl rfl wd793 wd794 wd795 ⟨Nat.le_of_ble_eq_true rfl, Nat.le_of_ble_eq_true rfl⟩ (Nat.le_of_ble_eq_true rfl) dX7_gatherEnds_50 (s_X9_sendRow H.2) (fun h9 H => ?_)
    refine a_aload_n 0 rfl rfl dX7_gatherEnds_53 ?_
    refine a_aload_n 0 rfl rfl dX7_gatherEnds_54 ?_
    refine r_gR fo_RX7_68_7 dX7_gatherEnds_55 H (fun a10 H => ?_)
    refine r_gI fo_RX7_92_9 dX7_gatherEnds_58 H (fun x11 H => ?_)
    refine r_Vv (q := (RX7, TX7, 17)) (av := [.int x11]) (rest := []) rfl rfl okX7_gather H.1 rfl rfl wd797 wd799 wp18 ⟨Nat.le_of_ble_eq_true rfl, Nat.le_of_ble_eq_true rfl⟩ (Nat.le_of_ble_eq_true rfl) dX7_gatherEnds_61 (s_X7_gather H.2) (fun h12 H => ?_)
    refine a_aload_n 0 rfl rfl dX7_gatherEnds_64 ?_
    refine a_iload_n 1 rfl rfl dX7_gatherEnds_65 ?_
    refine r_Vv (q := (RX7, TX7, 17)) (av := [.int v1]) (rest := []) rfl rfl okX7_nextRow H.1 rfl rfl wd801 wd803 wp19 ⟨Nat.le_of_ble_eq_true rfl, Nat.le_of_ble_eq_true rfl⟩ (Nat.le_of_ble_eq_true rfl) dX7_gatherEnds_66 (s_X7_nextRow H.2) (fun h13 H => ?_)
    refine a_iinc (v := v3 + 1) (lv1 := [(0, .ref v0), (1, .int v1), (2, .int v2), (3, .int (v3 + 1))]) [1, 2, 3, 0] 3 rfl (by decide) rfl rfl dX7_gatherEnds_69 ?_
    refine a_goto (tgt := 17) dX7_gatherEnds_72 (by decide) ?_
    exact hK17 _ _ H
def L_X7_gatherEnds_17 (Q : Int32 → AH → Prop)  (v0 : Nat) (v1 : Int32) (v2 : Int32) : Nat → Int32 → AH → Prop
  | 0, _, _ => False
  | n + 1, v3, h => B_X7_gatherEnds_17 Q (L_X7_gatherEnds_17 Q  v0 v1 v2 n) v0 v1 v2 v3 h
theorem l_X7_gatherEnds_17 {o : Om} {Q : Int32 → AH → Prop}  {v0 : Nat} {v1 : Int32} {v2 : Int32}  : ∀ (n : Nat) (v3 : Int32) (h : AH), L_X7_gatherEnds_17 Q  v0 v1 v2 n v3 h → AQ o kX7_gatherEnds h 17 [(0, .ref v0), (1, .int v1), (2, .int v2), (3, .int v3)] [] (qI Q) := by
  intro n
  induction n with
  | zero => intro v3 h H; exact H.elim
  | succ n ih => intro v3 h H; exact b_X7_gatherEnds_17 ih H
def f_X7_gatherEnds (v0 : Nat) (v1 : Int32) (h : AH) (Q : Int32 → AH → Prop) : Prop :=
  pF h v0 7 12 (.int (0 : Int32)) (fun h1 => isO h1 v0 7 ∧ f_X7_rowsOf v0 v1 h1 (fun x2 h3 => isO h3 v0 7 ∧ f_X7_firstRow v0  h3 (fun h4 => ∃ n, L_X7_gatherEnds_17 Q  v0 v1 x2 n (0 : Int32) h4)))
set_option maxRecDepth 100000 in
set_option maxHeartbeats 4000000 in
theorem s_X7_gatherEnds {o : Om} {v0 : Nat} {v1 : Int32} {h : AH} {Q : Int32 → AH → Prop} (H : f_X7_gatherEnds v0 v1 h Q) : MQ' o kX7_gatherEnds [.ref v0, .int v1] h (qI Q) := by
  refine MQ'.of (by decide +kernel) (Nat.le_of_ble_eq_true rfl) ?_
  show AQ o kX7_gatherEnds h 0 [(0, .ref v0), (1, .int v1)] [] (qI Q)
  refine a_aload_n 0 rfl rfl dX7_gatherEnds_0 ?_
  refine a_iconst (v := (0 : Int32)) (by decide) dX7_gatherEnds_1 ?_
  refine r_pF (po_RX7_44_7 _) (fun _ => rfl) (fun _ => rfl) dX7_gatherEnds_2 H (fun h1 H => ?_)
  refine a_aload_n 0 rfl rfl dX7_gatherEnds_5 ?_
  refine a_iload_n 1 rfl rfl dX7_gatherEnds_6 ?_
  refine r_Vi (q := (RX7, TX7, 17)) (av := [.int v1]) (rest := []) rfl rfl okX7_rowsOf H.1 rfl rfl wd783 wd784 wd785 ⟨Nat.le_of_ble_eq_true rfl, Nat.le_of_ble_eq_true rfl⟩ (Nat.le_of_ble_eq_true rfl) dX7_gatherEnds_7 (s_X7_rowsOf H.2) (fun x2 h3 H => ?_)
  refine a_istore_n (lv1 := [(0, .ref v0), (1, .int v1), (2, .int x2)]) rfl [1, 2, 0] (by decide) rfl dX7_gatherEnds_10 ?_
  refine a_aload_n 0 rfl rfl dX7_gatherEnds_11 ?_
  refine r_Vv (q := (RX7, TX7, 17)) (av := []) (rest := []) rfl rfl okX7_firstRow H.1 rfl rfl wd787 wd789 wp17 ⟨Nat.le_of_ble_eq_true rfl, Nat.le_of_ble_eq_true rfl⟩ (Nat.le_of_ble_eq_true rfl) dX7_gatherEnds_12 (s_X7_firstRow H.2) (fun h4 H => ?_)
  refine a_iconst (v := (0 : Int32)) (by decide) dX7_gatherEnds_15 ?_
  refine a_istore_n (lv1 := [(0, .ref v0), (1, .int v1), (2, .int x2), (3, .int (0 : Int32))]) rfl [1, 2, 3, 0] (by decide) rfl dX7_gatherEnds_16 ?_
  obtain ⟨n, H⟩ := H
  exact l_X7_gatherEnds_17  n _ _ H
def f_X7_endAt (v0 : Nat) (v1 : Int32) (h : AH) (Q : Int32 → AH → Prop) : Prop :=
  ((v1 < 0 → gI h v0 7 5 (fun x1 => Q x1 h)) ∧ (¬ (v1 < 0) → gI h v0 7 12 (fun x2 => ((x2 ≤ v1 → gI h v0 7 5 (fun x3 => Q x3 h)) ∧ (¬ (x2 ≤ v1) → (((125 : Int32) ≤ v1 → gI h v0 7 5 (fun x4 => Q x4 h)) ∧ (¬ ((125 : Int32) ≤ v1) → gR h v0 7 2 (fun a5 => lI h a5 v1 (fun x6 => Q x6 h)))))))))
set_option maxRecDepth 100000 in
set_option maxHeartbeats 4000000 in
theorem s_X7_endAt {o : Om} {v0 : Nat} {v1 : Int32} {h : AH} {Q : Int32 → AH → Prop} (H : f_X7_endAt v0 v1 h Q) : MQ' o kX7_endAt [.ref v0, .int v1] h (qI Q) := by
  refine MQ'.of (by decide +kernel) (Nat.le_of_ble_eq_true rfl) ?_
  show AQ o kX7_endAt h 0 [(0, .ref v0), (1, .int v1)] [] (qI Q)
  refine a_iload_n 1 rfl rfl dX7_endAt_0 ?_
  refine a_if_lt (tgt := 27) dX7_endAt_1 (by decide) (fun c => ?_) (fun c => ?_)
  · have H := H.1 (c)
    refine a_aload_n 0 rfl rfl dX7_endAt_27 ?_
    refine r_gI fo_RX7_21_7 dX7_endAt_28 H (fun x1 H => ?_)
    exact r_reti rfl dX7_endAt_31 H
  · have H := H.2 (c)
    refine a_iload_n 1 rfl rfl dX7_endAt_4 ?_
    refine a_aload_n 0 rfl rfl dX7_endAt_5 ?_
    refine r_gI fo_RX7_44_7 dX7_endAt_6 H (fun x2 H => ?_)
    refine a_icmp_ge (tgt := 27) dX7_endAt_9 (by decide) (fun c => ?_) (fun c => ?_)
    · have H := H.1 (c)
      refine a_aload_n 0 rfl rfl dX7_endAt_27 ?_
      refine r_gI fo_RX7_21_7 dX7_endAt_28 H (fun x3 H => ?_)
      exact r_reti rfl dX7_endAt_31 H
    · have H := H.2 (c)
      refine a_iload_n 1 rfl rfl dX7_endAt_12 ?_
      refine a_bipush (v := (125 : Int32)) (by decide) dX7_endAt_13 ?_
      refine a_icmp_ge (tgt := 27) dX7_endAt_15 (by decide) (fun c => ?_) (fun c => ?_)
      · have H := H.1 (c)
        refine a_aload_n 0 rfl rfl dX7_endAt_27 ?_
        refine r_gI fo_RX7_21_7 dX7_endAt_28 H (fun x4 H => ?_)
        exact r_reti rfl dX7_endAt_31 H
      · have H := H.2 (c)
        refine a_aload_n 0 rfl rfl dX7_endAt_18 ?_
        refine r_gR fo_RX7_15_7 dX7_endAt_19 H (fun a5 H => ?_)
        refine a_iload_n 1 rfl rfl dX7_endAt_22 ?_
        refine r_lI dX7_endAt_23 H (fun x6 H => ?_)
        refine a_goto (tgt := 31) dX7_endAt_24 (by decide) ?_
        exact r_reti rfl dX7_endAt_31 H
def B_X11_standings_59 (Q : Int32 → AH → Prop) (K59 : Int32 → Int32 → AH → Prop) (v0 : Nat) (v2 : Int32) (v3 : Int32) (v4 : Int32) (v5 : Int32) (h : AH) : Prop :=
  ((v3 ≤ v5 → pF h v0 11 12 (.int v4) (fun h1 => Q v3 h1)) ∧ (¬ (v3 ≤ v5) → gR h v0 11 8 (fun a2 => gR h v0 11 7 (fun a3 => isO h a3 7 ∧ f_X7_endAt a3 v5 h (fun x4 h5 => isO h5 a2 5 ∧ f_X5_leastAt a2 x4 v2 h5 (fun x6 h7 => gR h7 v0 11 8 (fun a8 => gI h7 v0 11 9 (fun x9 => isO h7 a8 5 ∧ f_X5_leastAt a8 x9 v2 h7 (fun x10 h11 => ((¬ (x6 = x10) → K59 v4 (v5 + 1) h11) ∧ (x6 = x10 → K59 (v4 + 1) (v5 + 1) h11)))))))))))
set_option maxRecDepth 100000 in
set_option maxHeartbeats 4000000 in
theorem b_X11_standings_59 {o : Om} {Q : Int32 → AH → Prop} {K59 : Int32 → Int32 → AH → Prop} {v0 : Nat} {v2 : Int32} {v3 : Int32} {v4 : Int32} {v5 : Int32} {h : AH} (hK59 : ∀ w4 w5 h, K59 w4 w5 h → AQ o kX11_standings h 59 [(0, .ref v0), (2, .int v2), (3, .int v3), (4, .int w4), (5, .int w5)] [] (qI Q)) (H : B_X11_standings_59 Q K59 v0 v2 v3 v4 v5 h) : AQ o kX11_standings h 59 [(0, .ref v0), (2, .int v2), (3, .int v3), (4, .int v4), (5, .int v5)] [] (qI Q) := by
  refine a_iload 4 rfl dX11_standings_59 ?_
  refine a_iload_n 2 rfl rfl dX11_standings_61 ?_
  refine a_icmp_ge (tgt := 106) dX11_standings_62 (by decide) (fun c => ?_) (fun c => ?_)
  · have H := H.1 (c)
    refine a_aload_n 0 rfl rfl dX11_standings_106 ?_
    refine a_iload 3 rfl dX11_standings_107 ?_
    refine r_pF (po_RX11_44_11 _) (fun _ => rfl) (fun _ => rfl) dX11_standings_109 H (fun h1 H => ?_)
    refine a_iload_n 2 rfl rfl dX11_standings_112 ?_
    exact r_reti rfl dX11_standings_113 H
  · have H := H.2 (c)
    refine a_aload_n 0 rfl rfl dX11_standings_65 ?_
    refine r_gR fo_RX11_60_11 dX11_standings_66 H (fun a2 H => ?_)
    refine a_aload_n 0 rfl rfl dX11_standings_69 ?_
    refine r_gR fo_RX11_74_11 dX11_standings_70 H (fun a3 H => ?_)
    refine a_iload 4 rfl dX11_standings_73 ?_
    refine r_Vi (q := (RX7, TX7, 17)) (av := [.int v5]) (rest := [.ref a2]) rfl rfl okX7_endAt H.1 rfl rfl wd806 wd807 wd808 ⟨Nat.le_of_ble_eq_true rfl, Nat.le_of_ble_eq_true rfl⟩ (Nat.le_of_ble_eq_true rfl) dX11_standings_75 (s_X7_endAt H.2) (fun x4 h5 H => ?_)
    refine a_iload_n 1 rfl rfl dX11_standings_78 ?_
    refine r_Vi (q := (RX5, TX5, 10)) (av := [.int x4, .int v2]) (rest := []) rfl rfl okX5_leastAt H.1 rfl rfl wd759 wd760 wd761 ⟨Nat.le_of_ble_eq_true rfl, Nat.le_of_ble_eq_true rfl⟩ (Nat.le_of_ble_eq_true rfl) dX11_standings_79 (s_X5_leastAt H.2) (fun x6 h7 H => ?_)
    refine a_aload_n 0 rfl rfl dX11_standings_82 ?_
    refine r_gR fo_RX11_60_11 dX11_standings_83 H (fun a8 H => ?_)
    refine a_aload_n 0 rfl rfl dX11_standings_86 ?_
    refine r_gI fo_RX11_34_11 dX11_standings_87 H (fun x9 H => ?_)
    refine a_iload_n 1 rfl rfl dX11_standings_90 ?_
    refine r_Vi (q := (RX5, TX5, 10)) (av := [.int x9, .int v2]) (rest := [.int x6]) rfl rfl okX5_leastAt H.1 rfl rfl wd759 wd760 wd761 ⟨Nat.le_of_ble_eq_true rfl, Nat.le_of_ble_eq_true rfl⟩ (Nat.le_of_ble_eq_true rfl) dX11_standings_91 (s_X5_leastAt H.2) (fun x10 h11 H => ?_)
    refine a_icmp_ne (tgt := 100) dX11_standings_94 (by decide) (fun c => ?_) (fun c => ?_)
    · have H := H.1 (c)
      refine a_iinc (v := v5 + 1) (lv1 := [(0, .ref v0), (2, .int v2), (3, .int v3), (4, .int v4), (5, .int (v5 + 1))]) [1, 2, 3, 4, 0] 4 rfl (by decide) rfl rfl dX11_standings_100 ?_
      refine a_goto (tgt := 59) dX11_standings_103 (by decide) ?_
      exact hK59 _ _ _ H
    · have H := H.2 (c)
      refine a_iinc (v := v4 + 1) (lv1 := [(0, .ref v0), (2, .int v2), (3, .int v3), (4, .int (v4 + 1)), (5, .int v5)]) [1, 2, 3, 0, 4] 3 rfl (by decide) rfl rfl dX11_standings_97 ?_
      refine a_iinc (v := v5 + 1) (lv1 := [(0, .ref v0), (2, .int v2), (3, .int v3), (4, .int (v4 + 1)), (5, .int (v5 + 1))]) [1, 2, 3, 4, 0] 4 rfl (by decide) rfl rfl dX11_standings_100 ?_
      refine a_goto (tgt := 59) dX11_standings_103 (by decide) ?_
      exact hK59 _ _ _ H
def L_X11_standings_59 (Q : Int32 → AH → Prop)  (v0 : Nat) (v2 : Int32) (v3 : Int32) : Nat → Int32 → Int32 → AH → Prop
  | 0, _, _, _ => False
  | n + 1, v4, v5, h => B_X11_standings_59 Q (L_X11_standings_59 Q  v0 v2 v3 n) v0 v2 v3 v4 v5 h
theorem l_X11_standings_59 {o : Om} {Q : Int32 → AH → Prop}  {v0 : Nat} {v2 : Int32} {v3 : Int32}  : ∀ (n : Nat) (v4 : Int32) (v5 : Int32) (h : AH), L_X11_standings_59 Q  v0 v2 v3 n v4 v5 h → AQ o kX11_standings h 59 [(0, .ref v0), (2, .int v2), (3, .int v3), (4, .int v4), (5, .int v5)] [] (qI Q) := by
  intro n
  induction n with
  | zero => intro v4 v5 h H; exact H.elim
  | succ n ih => intro v4 v5 h H; exact b_X11_standings_59 ih H
def f_X11_standings (v0 : Nat) (v1 : Int32) (v2 : Int32) (h : AH) (Q : Int32 → AH → Prop) : Prop :=
  ((v1 < 0 → Q (-1 : Int32) h) ∧ (¬ (v1 < 0) → (((3 : Int32) < v1 → Q (-1 : Int32) h) ∧ (¬ ((3 : Int32) < v1) → gR h v0 11 8 (fun a1 => gI h a1 5 4 (fun x2 => f_X11_isBelow v2 x2 h (fun x3 h4 => ((¬ (x3 = 0) → gR h4 v0 11 7 (fun a5 => gR h4 v0 11 8 (fun a6 => gI h4 v0 11 9 (fun x7 => gI h4 v0 11 10 (fun x8 => isO h4 a5 7 ∧ f_X7_from a5 a6 x7 x8 h4 (fun h9 => gR h9 v0 11 7 (fun a10 => isO h9 a10 7 ∧ f_X7_gatherEnds a10 v1 h9 (fun x11 h12 => ∃ n, L_X11_standings_59 Q  v0 v2 x11 n (0 : Int32) (0 : Int32) h12)))))))) ∧ (x3 = 0 → Q (-1 : Int32) h4)))))))))
set_option maxRecDepth 100000 in
set_option maxHeartbeats 4000000 in
theorem s_X11_standings {o : Om} {v0 : Nat} {v1 : Int32} {v2 : Int32} {h : AH} {Q : Int32 → AH → Prop} (H : f_X11_standings v0 v1 v2 h Q) : MQ' o kX11_standings [.ref v0, .int v1, .int v2] h (qI Q) := by
  refine MQ'.of (by decide +kernel) (Nat.le_of_ble_eq_true rfl) ?_
  show AQ o kX11_standings h 0 [(0, .ref v0), (1, .int v1), (2, .int v2)] [] (qI Q)
  refine a_iload_n 1 rfl rfl dX11_standings_0 ?_
  refine a_if_lt (tgt := 23) dX11_standings_1 (by decide) (fun c => ?_) (fun c => ?_)
  · have H := H.1 (c)
    refine a_iconst (v := (-1 : Int32)) (by decide) dX11_standings_23 ?_
    exact r_reti rfl dX11_standings_24 H
  · have H := H.2 (c)
    refine a_iload_n 1 rfl rfl dX11_standings_4 ?_
    refine a_iconst (v := (3 : Int32)) (by decide) dX11_standings_5 ?_
    refine a_icmp_gt (tgt := 23) dX11_standings_6 (by decide) (fun c => ?_) (fun c => ?_)
    · have H := H.1 (c)
      refine a_iconst (v := (-1 : Int32)) (by decide) dX11_standings_23 ?_
      exact r_reti rfl dX11_standings_24 H
    · have H := H.2 (c)
      refine a_iload_n 2 rfl rfl dX11_standings_9 ?_
      refine a_aload_n 0 rfl rfl dX11_standings_10 ?_
      refine r_gR fo_RX11_60_11 dX11_standings_11 H (fun a1 H => ?_)
      refine r_gI fo_RX11_198_5 dX11_standings_14 H (fun x2 H => ?_)
      refine r_Si (av := [.int v2, .int x2]) (rest := []) rfl rfl okX11_isBelow wd257 wd258 ⟨Nat.le_of_ble_eq_true rfl, Nat.le_of_ble_eq_true rfl⟩ (Nat.le_of_ble_eq_true rfl) dX11_standings_17 (s_X11_isBelow H) (fun x3 h4 H => ?_)
      refine a_if_ne (tgt := 25) dX11_standings_20 (by decide) (fun c => ?_) (fun c => ?_)
      · have H := H.1 (c)
        refine a_aload_n 0 rfl rfl dX11_standings_25 ?_
        refine r_gR fo_RX11_74_11 dX11_standings_26 H (fun a5 H => ?_)
        refine a_aload_n 0 rfl rfl dX11_standings_29 ?_
        refine r_gR fo_RX11_60_11 dX11_standings_30 H (fun a6 H => ?_)
        refine a_aload_n 0 rfl rfl dX11_standings_33 ?_
        refine r_gI fo_RX11_34_11 dX11_standings_34 H (fun x7 H => ?_)
        refine a_aload_n 0 rfl rfl dX11_standings_37 ?_
        refine r_gI fo_RX11_38_11 dX11_standings_38 H (fun x8 H => ?_)
        refine r_Vv (q := (RX7, TX7, 17)) (av := [.ref a6, .int x7, .int x8]) (rest := []) rfl rfl okX7_from H.1 rfl rfl wd775 wd776 wd777 ⟨Nat.le_of_ble_eq_true rfl, Nat.le_of_ble_eq_true rfl⟩ (Nat.le_of_ble_eq_true rfl) dX11_standings_41 (s_X7_from H.2) (fun h9 H => ?_)
        refine a_aload_n 0 rfl rfl dX11_standings_44 ?_
        refine r_gR fo_RX11_74_11 dX11_standings_45 H (fun a10 H => ?_)
        refine a_iload_n 1 rfl rfl dX11_standings_48 ?_
        refine r_Vi (q := (RX7, TX7, 17)) (av := [.int v1]) (rest := []) rfl rfl okX7_gatherEnds H.1 rfl rfl wd779 wd780 wd781 ⟨Nat.le_of_ble_eq_true rfl, Nat.le_of_ble_eq_true rfl⟩ (Nat.le_of_ble_eq_true rfl) dX11_standings_49 (s_X7_gatherEnds H.2) (fun x11 h12 H => ?_)
        refine a_istore_n (lv1 := [(0, .ref v0), (1, .int v1), (2, .int v2), (3, .int x11)]) rfl [1, 2, 3, 0] (by decide) rfl dX11_standings_52 ?_
        refine a_iconst (v := (0 : Int32)) (by decide) dX11_standings_53 ?_
        refine a_istore (lv1 := [(0, .ref v0), (1, .int v1), (2, .int v2), (3, .int x11), (4, .int (0 : Int32))]) [1, 2, 3, 4, 0] (by decide) rfl dX11_standings_54 ?_
        refine a_iconst (v := (0 : Int32)) (by decide) dX11_standings_56 ?_
        refine a_istore (lv1 := [(0, .ref v0), (1, .int v1), (2, .int v2), (3, .int x11), (4, .int (0 : Int32)), (5, .int (0 : Int32))]) [1, 2, 3, 4, 5, 0] (by decide) rfl dX11_standings_57 ?_
        refine AQ.sub (lv1 := [(0, .ref v0), (2, .int v2), (3, .int x11), (4, .int (0 : Int32)), (5, .int (0 : Int32))]) [0, 2, 3, 4, 5] rfl ?_
        obtain ⟨n, H⟩ := H
        exact l_X11_standings_59  n _ _ _ H
      · have H := H.2 (c)
        refine a_iconst (v := (-1 : Int32)) (by decide) dX11_standings_23 ?_
        exact r_reti rfl dX11_standings_24 H
def B_X12_power_4 (Q : Int32 → AH → Prop) (K4 : Int32 → Int32 → AH → Prop) (v0 : Nat) (v1 : Int32) (v2 : Int32) (v3 : Int32) (h : AH) : Prop :=
  ((v1 ≤ v3 → Q v2 h) ∧ (¬ (v1 ≤ v3) → gI h v0 12 12 (fun x1 => K4 (v2 * x1) (v3 + 1) h)))
set_option maxRecDepth 100000 in
set_option maxHeartbeats 4000000 in
theorem b_X12_power_4 {o : Om} {Q : Int32 → AH → Prop} {K4 : Int32 → Int32 → AH → Prop} {v0 : Nat} {v1 : Int32} {v2 : Int32} {v3 : Int32} {h : AH} (hK4 : ∀ w2 w3 h, K4 w2 w3 h → AQ o kX12_power h 4 [(0, .ref v0), (1, .int v1), (2, .int w2), (3, .int w3)] [] (qI Q)) (H : B_X12_power_4 Q K4 v0 v1 v2 v3 h) : AQ o kX12_power h 4 [(0, .ref v0), (1, .int v1), (2, .int v2), (3, .int v3)] [] (qI Q) := by
  refine a_iload_n 3 rfl rfl dX12_power_4 ?_
  refine a_iload_n 1 rfl rfl dX12_power_5 ?_
  refine a_icmp_ge (tgt := 22) dX12_power_6 (by decide) (fun c => ?_) (fun c => ?_)
  · have H := H.1 (c)
    refine a_iload_n 2 rfl rfl dX12_power_22 ?_
    exact r_reti rfl dX12_power_23 H
  · have H := H.2 (c)
    refine a_iload_n 2 rfl rfl dX12_power_9 ?_
    refine a_aload_n 0 rfl rfl dX12_power_10 ?_
    refine r_gI fo_RX12_181_12 dX12_power_11 H (fun x1 H => ?_)
    refine a_imul dX12_power_14 ?_
    refine a_istore_n (lv1 := [(0, .ref v0), (1, .int v1), (2, .int (v2 * x1)), (3, .int v3)]) rfl [1, 2, 0, 3] (by decide) rfl dX12_power_15 ?_
    refine a_iinc (v := v3 + 1) (lv1 := [(0, .ref v0), (1, .int v1), (2, .int (v2 * x1)), (3, .int (v3 + 1))]) [1, 2, 3, 0] 3 rfl (by decide) rfl rfl dX12_power_16 ?_
    refine a_goto (tgt := 4) dX12_power_19 (by decide) ?_
    exact hK4 _ _ _ H
def L_X12_power_4 (Q : Int32 → AH → Prop)  (v0 : Nat) (v1 : Int32) : Nat → Int32 → Int32 → AH → Prop
  | 0, _, _, _ => False
  | n + 1, v2, v3, h => B_X12_power_4 Q (L_X12_power_4 Q  v0 v1 n) v0 v1 v2 v3 h
theorem l_X12_power_4 {o : Om} {Q : Int32 → AH → Prop}  {v0 : Nat} {v1 : Int32}  : ∀ (n : Nat) (v2 : Int32) (v3 : Int32) (h : AH), L_X12_power_4 Q  v0 v1 n v2 v3 h → AQ o kX12_power h 4 [(0, .ref v0), (1, .int v1), (2, .int v2), (3, .int v3)] [] (qI Q) := by
  intro n
  induction n with
  | zero => intro v2 v3 h H; exact H.elim
  | succ n ih => intro v2 v3 h H; exact b_X12_power_4 ih H
def f_X12_power (v0 : Nat) (v1 : Int32) (h : AH) (Q : Int32 → AH → Prop) : Prop :=
  ∃ n, L_X12_power_4 Q  v0 v1 n (1 : Int32) (0 : Int32) h
set_option maxRecDepth 100000 in
set_option maxHeartbeats 4000000 in
theorem s_X12_power {o : Om} {v0 : Nat} {v1 : Int32} {h : AH} {Q : Int32 → AH → Prop} (H : f_X12_power v0 v1 h Q) : MQ' o kX12_power [.ref v0, .int v1] h (qI Q) := by
  refine MQ'.of (by decide +kernel) (Nat.le_of_ble_eq_true rfl) ?_
  show AQ o kX12_power h 0 [(0, .ref v0), (1, .int v1)] [] (qI Q)
  refine a_iconst (v := (1 : Int32)) (by decide) dX12_power_0 ?_
  refine a_istore_n (lv1 := [(0, .ref v0), (1, .int v1), (2, .int (1 : Int32))]) rfl [1, 2, 0] (by decide) rfl dX12_power_1 ?_
  refine a_iconst (v := (0 : Int32)) (by decide) dX12_power_2 ?_
  refine a_istore_n (lv1 := [(0, .ref v0), (1, .int v1), (2, .int (1 : Int32)), (3, .int (0 : Int32))]) rfl [1, 2, 3, 0] (by decide) rfl dX12_power_3 ?_
  obtain ⟨n, H⟩ := H
  exact l_X12_power_4  n _ _ _ H
def B_X12_behindRow_20 (Q : Int32 → AH → Prop) (K20 : Int32 → Int32 → Int32 → AH → Prop) (v0 : Nat) (v1 : Int32) (v2 : Int32) (v3 : Int32) (v4 : Int32) (v5 : Int32) (h : AH) : Prop :=
  ((v1 ≤ v5 → Q v3 h) ∧ (¬ (v1 ≤ v5) → gI h v0 12 12 (fun x1 => (¬ x1 = 0) ∧ ((¬ (v4 / x1) = 0) ∧ (gI h v0 12 12 (fun x2 => (¬ x2 = 0) ∧ (gI h v0 12 16 (fun x3 => isO h v0 12 ∧ f_X12_behind v0 v3 ((v2 / (v4 / x1)) - (v2 / (v4 / x1)) / x2 * x2) x3 h (fun x4 h5 => gI h5 v0 12 41 (fun x6 => gI h5 v0 12 38 (fun x7 => pF h5 v0 12 41 (.int (x6 + x7)) (fun h8 => K20 x4 (v4 / x1) (v5 + 1) h8))))))))))))
set_option maxRecDepth 100000 in
set_option maxHeartbeats 4000000 in
theorem b_X12_behindRow_20 {o : Om} {Q : Int32 → AH → Prop} {K20 : Int32 → Int32 → Int32 → AH → Prop} {v0 : Nat} {v1 : Int32} {v2 : Int32} {v3 : Int32} {v4 : Int32} {v5 : Int32} {h : AH} (hK20 : ∀ w3 w4 w5 h, K20 w3 w4 w5 h → AQ o kX12_behindRow h 20 [(0, .ref v0), (1, .int v1), (2, .int v2), (3, .int w3), (4, .int w4), (5, .int w5)] [] (qI Q)) (H : B_X12_behindRow_20 Q K20 v0 v1 v2 v3 v4 v5 h) : AQ o kX12_behindRow h 20 [(0, .ref v0), (1, .int v1), (2, .int v2), (3, .int v3), (4, .int v4), (5, .int v5)] [] (qI Q) := by
  refine a_iload 5 rfl dX12_behindRow_20 ?_
  refine a_iload_n 1 rfl rfl dX12_behindRow_22 ?_
  refine a_icmp_ge (tgt := 73) dX12_behindRow_23 (by decide) (fun c => ?_) (fun c => ?_)
  · have H := H.1 (c)
    refine a_iload_n 3 rfl rfl dX12_behindRow_73 ?_
    exact r_reti rfl dX12_behindRow_74 H
  · have H := H.2 (c)
    refine a_iload 4 rfl dX12_behindRow_26 ?_
    refine a_aload_n 0 rfl rfl dX12_behindRow_28 ?_
    refine r_gI fo_RX12_181_12 dX12_behindRow_29 H (fun x1 H => ?_)
    refine a_idiv H.1 dX12_behindRow_32 ?_
    have H := H.2
    refine a_istore (lv1 := [(0, .ref v0), (1, .int v1), (2, .int v2), (3, .int v3), (4, .int (v4 / x1)), (5, .int v5)]) [1, 2, 3, 4, 0, 5] (by decide) rfl dX12_behindRow_33 ?_
    refine a_aload_n 0 rfl rfl dX12_behindRow_35 ?_
    refine a_iload_n 3 rfl rfl dX12_behindRow_36 ?_
    refine a_iload_n 2 rfl rfl dX12_behindRow_37 ?_
    refine a_iload 4 rfl dX12_behindRow_38 ?_
    refine a_idiv H.1 dX12_behindRow_40 ?_
    have H := H.2
    refine a_aload_n 0 rfl rfl dX12_behindRow_41 ?_
    refine r_gI fo_RX12_181_12 dX12_behindRow_42 H (fun x2 H => ?_)
    refine a_irem H.1 dX12_behindRow_45 ?_
    have H := H.2
    refine a_aload_n 0 rfl rfl dX12_behindRow_46 ?_
    refine r_gI fo_RX12_187_12 dX12_behindRow_47 H (fun x3 H => ?_)
    refine r_Vi (q := (RX12, TX12, 51)) (av := [.int v3, .int ((v2 / (v4 / x1)) - (v2 / (v4 / x1)) / x2 * x2), .int x3]) (rest := []) rfl rfl okX12_behind H.1 rfl rfl wd1311 wd1313 wp45 ⟨Nat.le_of_ble_eq_true rfl, Nat.le_of_ble_eq_true rfl⟩ (Nat.le_of_ble_eq_true rfl) dX12_behindRow_50 (s_X12_behind H.2) (fun x4 h5 H => ?_)
    refine a_istore_n (lv1 := [(0, .ref v0), (1, .int v1), (2, .int v2), (3, .int x4), (4, .int (v4 / x1)), (5, .int v5)]) rfl [1, 2, 3, 0, 4, 5] (by decide) rfl dX12_behindRow_53 ?_
    refine a_aload_n 0 rfl rfl dX12_behindRow_54 ?_
    refine a_dup rfl dX12_behindRow_55 ?_
    refine r_gI fo_RX12_261_12 dX12_behindRow_56 H (fun x6 H => ?_)
    refine a_aload_n 0 rfl rfl dX12_behindRow_59 ?_
    refine r_gI fo_RX12_203_12 dX12_behindRow_60 H (fun x7 H => ?_)
    refine a_iadd dX12_behindRow_63 ?_
    refine r_pF (po_RX12_261_12 _) (fun _ => rfl) (fun _ => rfl) dX12_behindRow_64 H (fun h8 H => ?_)
    refine a_iinc (v := v5 + 1) (lv1 := [(0, .ref v0), (1, .int v1), (2, .int v2), (3, .int x4), (4, .int (v4 / x1)), (5, .int (v5 + 1))]) [1, 2, 3, 4, 5, 0] 5 rfl (by decide) rfl rfl dX12_behindRow_67 ?_
    refine a_goto (tgt := 20) dX12_behindRow_70 (by decide) ?_
    exact hK20 _ _ _ _ H
def L_X12_behindRow_20 (Q : Int32 → AH → Prop)  (v0 : Nat) (v1 : Int32) (v2 : Int32) : Nat → Int32 → Int32 → Int32 → AH → Prop
  | 0, _, _, _, _ => False
  | n + 1, v3, v4, v5, h => B_X12_behindRow_20 Q (L_X12_behindRow_20 Q  v0 v1 v2 n) v0 v1 v2 v3 v4 v5 h
theorem l_X12_behindRow_20 {o : Om} {Q : Int32 → AH → Prop}  {v0 : Nat} {v1 : Int32} {v2 : Int32}  : ∀ (n : Nat) (v3 : Int32) (v4 : Int32) (v5 : Int32) (h : AH), L_X12_behindRow_20 Q  v0 v1 v2 n v3 v4 v5 h → AQ o kX12_behindRow h 20 [(0, .ref v0), (1, .int v1), (2, .int v2), (3, .int v3), (4, .int v4), (5, .int v5)] [] (qI Q) := by
  intro n
  induction n with
  | zero => intro v3 v4 v5 h H; exact H.elim
  | succ n ih => intro v3 v4 v5 h H; exact b_X12_behindRow_20 ih H
def f_X12_behindRow (v0 : Nat) (v1 : Int32) (v2 : Int32) (h : AH) (Q : Int32 → AH → Prop) : Prop :=
  gI h v0 12 17 (fun x1 => isO h v0 12 ∧ f_X12_power v0 v1 h (fun x2 h3 => pF h3 v0 12 41 (.int (0 : Int32)) (fun h4 => ∃ n, L_X12_behindRow_20 Q  v0 v1 v2 n x1 x2 (0 : Int32) h4)))
set_option maxRecDepth 100000 in
set_option maxHeartbeats 4000000 in
theorem s_X12_behindRow {o : Om} {v0 : Nat} {v1 : Int32} {v2 : Int32} {h : AH} {Q : Int32 → AH → Prop} (H : f_X12_behindRow v0 v1 v2 h Q) : MQ' o kX12_behindRow [.ref v0, .int v1, .int v2] h (qI Q) := by
  refine MQ'.of (by decide +kernel) (Nat.le_of_ble_eq_true rfl) ?_
  show AQ o kX12_behindRow h 0 [(0, .ref v0), (1, .int v1), (2, .int v2)] [] (qI Q)
  refine a_aload_n 0 rfl rfl dX12_behindRow_0 ?_
  refine r_gI fo_RX12_184_12 dX12_behindRow_1 H (fun x1 H => ?_)
  refine a_istore_n (lv1 := [(0, .ref v0), (1, .int v1), (2, .int v2), (3, .int x1)]) rfl [1, 2, 3, 0] (by decide) rfl dX12_behindRow_4 ?_
  refine a_aload_n 0 rfl rfl dX12_behindRow_5 ?_
  refine a_iload_n 1 rfl rfl dX12_behindRow_6 ?_
  refine r_Vi (q := (RX12, TX12, 51)) (av := [.int v1]) (rest := []) rfl rfl okX12_power H.1 rfl rfl wd1412 wd1414 wp57 ⟨Nat.le_of_ble_eq_true rfl, Nat.le_of_ble_eq_true rfl⟩ (Nat.le_of_ble_eq_true rfl) dX12_behindRow_7 (s_X12_power H.2) (fun x2 h3 H => ?_)
  refine a_istore (lv1 := [(0, .ref v0), (1, .int v1), (2, .int v2), (3, .int x1), (4, .int x2)]) [1, 2, 3, 4, 0] (by decide) rfl dX12_behindRow_10 ?_
  refine a_aload_n 0 rfl rfl dX12_behindRow_12 ?_
  refine a_iconst (v := (0 : Int32)) (by decide) dX12_behindRow_13 ?_
  refine r_pF (po_RX12_261_12 _) (fun _ => rfl) (fun _ => rfl) dX12_behindRow_14 H (fun h4 H => ?_)
  refine a_iconst (v := (0 : Int32)) (by decide) dX12_behindRow_17 ?_
  refine a_istore (lv1 := [(0, .ref v0), (1, .int v1), (2, .int v2), (3, .int x1), (4, .int x2), (5, .int (0 : Int32))]) [1, 2, 3, 4, 5, 0] (by decide) rfl dX12_behindRow_18 ?_
  obtain ⟨n, H⟩ := H
  exact l_X12_behindRow_20  n _ _ _ _ H
def B_X12_meets_32 (Q : AH → Prop) (K13 : Int32 → AH → Prop) (K32 : Int32 → Int32 → AH → Prop) (v0 : Nat) (v1 : Int32) (v2 : Int32) (v3 : Int32) (v4 : Int32) (v5 : Int32) (v6 : Int32) (h : AH) : Prop :=
  gI h v0 12 39 (fun x1 => ((x1 ≤ v6 → ((v5 = 0 → K13 (v3 + 1) h) ∧ (¬ (v5 = 0) → gR h v0 12 40 (fun a2 => gI h v0 12 39 (fun x3 => sI h a2 x3 v4 (fun h4 => gI h4 v0 12 39 (fun x5 => pF h4 v0 12 39 (.int (x5 + (1 : Int32))) (fun h6 => K13 (v3 + 1) h6)))))))) ∧ (¬ (x1 ≤ v6) → ((v5 = 0 → K32 (0 : Int32) (v6 + 1) h) ∧ (¬ (v5 = 0) → gR h v0 12 40 (fun a7 => lI h a7 v6 (fun x8 => ((x8 = v4 → K32 (0 : Int32) (v6 + 1) h) ∧ (¬ (x8 = v4) → K32 (1 : Int32) (v6 + 1) h)))))))))
set_option maxRecDepth 100000 in
set_option maxHeartbeats 4000000 in
theorem b_X12_meets_32 {o : Om} {Q : AH → Prop} {K13 : Int32 → AH → Prop} {K32 : Int32 → Int32 → AH → Prop} {v0 : Nat} {v1 : Int32} {v2 : Int32} {v3 : Int32} {v4 : Int32} {v5 : Int32} {v6 : Int32} {h : AH} (hK13 : ∀ w3 h, K13 w3 h → AQ o kX12_meets h 13 [(0, .ref v0), (1, .int v1), (2, .int v2), (3, .int w3)] [] (qV Q)) (hK32 : ∀ w5 w6 h, K32 w5 w6 h → AQ o kX12_meets h 32 [(0, .ref v0), (1, .int v1), (2, .int v2), (3, .int v3), (4, .int v4), (5, .int w5), (6, .int w6)] [] (qV Q)) (H : B_X12_meets_32 Q K13 K32 v0 v1 v2 v3 v4 v5 v6 h) : AQ o kX12_meets h 32 [(0, .ref v0), (1, .int v1), (2, .int v2), (3, .int v3), (4, .int v4), (5, .int v5), (6, .int v6)] [] (qV Q) := by
  refine a_iload 6 rfl dX12_meets_32 ?_
  refine a_aload_n 0 rfl rfl dX12_meets_34 ?_
  refine r_gI fo_RX12_264_12 dX12_meets_35 H (fun x1 H => ?_)
  refine a_icmp_ge (tgt := 71) dX12_meets_38 (by decide) (fun c => ?_) (fun c => ?_)
  · have H := H.1 (c)
    refine a_iload 5 rfl dX12_meets_71 ?_
    refine a_if_eq (tgt := 97) dX12_meets_73 (by decide) (fun c => ?_) (fun c => ?_)
    · have H := H.1 (c)
      refine a_iinc (v := v3 + 1) (lv1 := [(0, .ref v0), (1, .int v1), (2, .int v2), (3, .int (v3 + 1)), (4, .int v4), (5, .int v5), (6, .int v6)]) [1, 2, 3, 0, 4, 5, 6] 3 rfl (by decide) rfl rfl dX12_meets_97 ?_
      refine a_goto (tgt := 13) dX12_meets_100 (by decide) ?_
      refine AQ.sub (lv1 := [(0, .ref v0), (1, .int v1), (2, .int v2), (3, .int (v3 + 1))]) [0, 1, 2, 3] rfl ?_
      exact hK13 _ _ H
    · have H := H.2 (c)
      refine a_aload_n 0 rfl rfl dX12_meets_76 ?_
      refine r_gR fo_RX12_86_12 dX12_meets_77 H (fun a2 H => ?_)
      refine a_aload_n 0 rfl rfl dX12_meets_80 ?_
      refine r_gI fo_RX12_264_12 dX12_meets_81 H (fun x3 H => ?_)
      refine a_iload 4 rfl dX12_meets_84 ?_
      refine r_sI dX12_meets_86 H (fun h4 H => ?_)
      refine a_aload_n 0 rfl rfl dX12_meets_87 ?_
      refine a_dup rfl dX12_meets_88 ?_
      refine r_gI fo_RX12_264_12 dX12_meets_89 H (fun x5 H => ?_)
      refine a_iconst (v := (1 : Int32)) (by decide) dX12_meets_92 ?_
      refine a_iadd dX12_meets_93 ?_
      refine r_pF (po_RX12_264_12 _) (fun _ => rfl) (fun _ => rfl) dX12_meets_94 H (fun h6 H => ?_)
      refine a_iinc (v := v3 + 1) (lv1 := [(0, .ref v0), (1, .int v1), (2, .int v2), (3, .int (v3 + 1)), (4, .int v4), (5, .int v5), (6, .int v6)]) [1, 2, 3, 0, 4, 5, 6] 3 rfl (by decide) rfl rfl dX12_meets_97 ?_
      refine a_goto (tgt := 13) dX12_meets_100 (by decide) ?_
      refine AQ.sub (lv1 := [(0, .ref v0), (1, .int v1), (2, .int v2), (3, .int (v3 + 1))]) [0, 1, 2, 3] rfl ?_
      exact hK13 _ _ H
  · have H := H.2 (c)
    refine a_iload 5 rfl dX12_meets_41 ?_
    refine a_if_eq (tgt := 62) dX12_meets_43 (by decide) (fun c => ?_) (fun c => ?_)
    · have H := H.1 (c)
      refine a_iconst (v := (0 : Int32)) (by decide) dX12_meets_62 ?_
      refine a_istore (lv1 := [(0, .ref v0), (1, .int v1), (2, .int v2), (3, .int v3), (4, .int v4), (5, .int (0 : Int32)), (6, .int v6)]) [1, 2, 3, 4, 5, 0, 6] (by decide) rfl dX12_meets_63 ?_
      refine a_iinc (v := v6 + 1) (lv1 := [(0, .ref v0), (1, .int v1), (2, .int v2), (3, .int v3), (4, .int v4), (5, .int (0 : Int32)), (6, .int (v6 + 1))]) [1, 2, 3, 4, 5, 6, 0] 6 rfl (by decide) rfl rfl dX12_meets_65 ?_
      refine a_goto (tgt := 32) dX12_meets_68 (by decide) ?_
      exact hK32 _ _ _ H
    · have H := H.2 (c)
      refine a_aload_n 0 rfl rfl dX12_meets_46 ?_
      refine r_gR fo_RX12_86_12 dX12_meets_47 H (fun a7 H => ?_)
      refine a_iload 6 rfl dX12_meets_50 ?_
      refine r_lI dX12_meets_52 H (fun x8 H => ?_)
      refine a_iload 4 rfl dX12_meets_53 ?_
      refine a_icmp_eq (tgt := 62) dX12_meets_55 (by decide) (fun c => ?_) (fun c => ?_)
      · have H := H.1 (c)
        refine a_iconst (v := (0 : Int32)) (by decide) dX12_meets_62 ?_
        refine a_istore (lv1 := [(0, .ref v0), (1, .int v1), (2, .int v2), (3, .int v3), (4, .int v4), (5, .int (0 : Int32)), (6, .int v6)]) [1, 2, 3, 4, 5, 0, 6] (by decide) rfl dX12_meets_63 ?_
        refine a_iinc (v := v6 + 1) (lv1 := [(0, .ref v0), (1, .int v1), (2, .int v2), (3, .int v3), (4, .int v4), (5, .int (0 : Int32)), (6, .int (v6 + 1))]) [1, 2, 3, 4, 5, 6, 0] 6 rfl (by decide) rfl rfl dX12_meets_65 ?_
        refine a_goto (tgt := 32) dX12_meets_68 (by decide) ?_
        exact hK32 _ _ _ H
      · have H := H.2 (c)
        refine a_iconst (v := (1 : Int32)) (by decide) dX12_meets_58 ?_
        refine a_goto (tgt := 63) dX12_meets_59 (by decide) ?_
        refine a_istore (lv1 := [(0, .ref v0), (1, .int v1), (2, .int v2), (3, .int v3), (4, .int v4), (5, .int (1 : Int32)), (6, .int v6)]) [1, 2, 3, 4, 5, 0, 6] (by decide) rfl dX12_meets_63 ?_
        refine a_iinc (v := v6 + 1) (lv1 := [(0, .ref v0), (1, .int v1), (2, .int v2), (3, .int v3), (4, .int v4), (5, .int (1 : Int32)), (6, .int (v6 + 1))]) [1, 2, 3, 4, 5, 6, 0] 6 rfl (by decide) rfl rfl dX12_meets_65 ?_
        refine a_goto (tgt := 32) dX12_meets_68 (by decide) ?_
        exact hK32 _ _ _ H
def L_X12_meets_32 (Q : AH → Prop) (K13 : Int32 → AH → Prop) (v0 : Nat) (v1 : Int32) (v2 : Int32) (v3 : Int32) (v4 : Int32) : Nat → Int32 → Int32 → AH → Prop
  | 0, _, _, _ => False
  | n + 1, v5, v6, h => B_X12_meets_32 Q K13 (L_X12_meets_32 Q K13 v0 v1 v2 v3 v4 n) v0 v1 v2 v3 v4 v5 v6 h
theorem l_X12_meets_32 {o : Om} {Q : AH → Prop} {K13 : Int32 → AH → Prop} {v0 : Nat} {v1 : Int32} {v2 : Int32} {v3 : Int32} {v4 : Int32} (hK13 : ∀ w3 h, K13 w3 h → AQ o kX12_meets h 13 [(0, .ref v0), (1, .int v1), (2, .int v2), (3, .int w3)] [] (qV Q)) : ∀ (n : Nat) (v5 : Int32) (v6 : Int32) (h : AH), L_X12_meets_32 Q K13 v0 v1 v2 v3 v4 n v5 v6 h → AQ o kX12_meets h 32 [(0, .ref v0), (1, .int v1), (2, .int v2), (3, .int v3), (4, .int v4), (5, .int v5), (6, .int v6)] [] (qV Q) := by
  intro n
  induction n with
  | zero => intro v5 v6 h H; exact H.elim
  | succ n ih => intro v5 v6 h H; exact b_X12_meets_32 hK13 ih H
def B_X12_meets_13 (Q : AH → Prop) (K13 : Int32 → AH → Prop) (v0 : Nat) (v1 : Int32) (v2 : Int32) (v3 : Int32) (h : AH) : Prop :=
  ((v2 ≤ v3 → Q h) ∧ (¬ (v2 ≤ v3) → isO h v0 12 ∧ f_X12_behindRow v0 v1 v3 h (fun x1 h2 => ∃ n, L_X12_meets_32 Q K13 v0 v1 v2 v3 x1 n (1 : Int32) (0 : Int32) h2)))
set_option maxRecDepth 100000 in
set_option maxHeartbeats 4000000 in
theorem b_X12_meets_13 {o : Om} {Q : AH → Prop} {K13 : Int32 → AH → Prop} {v0 : Nat} {v1 : Int32} {v2 : Int32} {v3 : Int32} {h : AH} (hK13 : ∀ w3 h, K13 w3 h → AQ o kX12_meets h 13 [(0, .ref v0), (1, .int v1), (2, .int v2), (3, .int w3)] [] (qV Q)) (H : B_X12_meets_13 Q K13 v0 v1 v2 v3 h) : AQ o kX12_meets h 13 [(0, .ref v0), (1, .int v1), (2, .int v2), (3, .int v3)] [] (qV Q) := by
  refine a_iload_n 3 rfl rfl dX12_meets_13 ?_
  refine a_iload_n 2 rfl rfl dX12_meets_14 ?_
  refine a_icmp_ge (tgt := 103) dX12_meets_15 (by decide) (fun c => ?_) (fun c => ?_)
  · have H := H.1 (c)
    exact r_retv rfl dX12_meets_103 H
  · have H := H.2 (c)
    refine a_aload_n 0 rfl rfl dX12_meets_18 ?_
    refine a_iload_n 1 rfl rfl dX12_meets_19 ?_
    refine a_iload_n 3 rfl rfl dX12_meets_20 ?_
    refine r_Vi (q := (RX12, TX12, 51)) (av := [.int v1, .int v3]) (rest := []) rfl rfl okX12_behindRow H.1 rfl rfl wd1416 wd1418 wp58 ⟨Nat.le_of_ble_eq_true rfl, Nat.le_of_ble_eq_true rfl⟩ (Nat.le_of_ble_eq_true rfl) dX12_meets_21 (s_X12_behindRow H.2) (fun x1 h2 H => ?_)
    refine a_istore (lv1 := [(0, .ref v0), (1, .int v1), (2, .int v2), (3, .int v3), (4, .int x1)]) [1, 2, 3, 4, 0] (by decide) rfl dX12_meets_24 ?_
    refine a_iconst (v := (1 : Int32)) (by decide) dX12_meets_26 ?_
    refine a_istore (lv1 := [(0, .ref v0), (1, .int v1), (2, .int v2), (3, .int v3), (4, .int x1), (5, .int (1 : Int32))]) [1, 2, 3, 4, 5, 0] (by decide) rfl dX12_meets_27 ?_
    refine a_iconst (v := (0 : Int32)) (by decide) dX12_meets_29 ?_
    refine a_istore (lv1 := [(0, .ref v0), (1, .int v1), (2, .int v2), (3, .int v3), (4, .int x1), (5, .int (1 : Int32)), (6, .int (0 : Int32))]) [1, 2, 3, 4, 5, 6, 0] (by decide) rfl dX12_meets_30 ?_
    obtain ⟨n, H⟩ := H
    exact l_X12_meets_32 hK13 n _ _ _ H
def L_X12_meets_13 (Q : AH → Prop)  (v0 : Nat) (v1 : Int32) (v2 : Int32) : Nat → Int32 → AH → Prop
  | 0, _, _ => False
  | n + 1, v3, h => B_X12_meets_13 Q (L_X12_meets_13 Q  v0 v1 v2 n) v0 v1 v2 v3 h
theorem l_X12_meets_13 {o : Om} {Q : AH → Prop}  {v0 : Nat} {v1 : Int32} {v2 : Int32}  : ∀ (n : Nat) (v3 : Int32) (h : AH), L_X12_meets_13 Q  v0 v1 v2 n v3 h → AQ o kX12_meets h 13 [(0, .ref v0), (1, .int v1), (2, .int v2), (3, .int v3)] [] (qV Q) := by
  intro n
  induction n with
  | zero => intro v3 h H; exact H.elim
  | succ n ih => intro v3 h H; exact b_X12_meets_13 ih H
def f_X12_meets (v0 : Nat) (v1 : Int32) (h : AH) (Q : AH → Prop) : Prop :=
  pF h v0 12 39 (.int (0 : Int32)) (fun h1 => isO h1 v0 12 ∧ f_X12_power v0 v1 h1 (fun x2 h3 => ∃ n, L_X12_meets_13 Q  v0 v1 x2 n (0 : Int32) h3))
set_option maxRecDepth 100000 in
set_option maxHeartbeats 4000000 in
theorem s_X12_meets {o : Om} {v0 : Nat} {v1 : Int32} {h : AH} {Q : AH → Prop} (H : f_X12_meets v0 v1 h Q) : MQ' o kX12_meets [.ref v0, .int v1] h (qV Q) := by
  refine MQ'.of (by decide +kernel) (Nat.le_of_ble_eq_true rfl) ?_
  show AQ o kX12_meets h 0 [(0, .ref v0), (1, .int v1)] [] (qV Q)
  refine a_aload_n 0 rfl rfl dX12_meets_0 ?_
  refine a_iconst (v := (0 : Int32)) (by decide) dX12_meets_1 ?_
  refine r_pF (po_RX12_264_12 _) (fun _ => rfl) (fun _ => rfl) dX12_meets_2 H (fun h1 H => ?_)
  refine a_aload_n 0 rfl rfl dX12_meets_5 ?_
  refine a_iload_n 1 rfl rfl dX12_meets_6 ?_
  refine r_Vi (q := (RX12, TX12, 51)) (av := [.int v1]) (rest := []) rfl rfl okX12_power H.1 rfl rfl wd1412 wd1414 wp57 ⟨Nat.le_of_ble_eq_true rfl, Nat.le_of_ble_eq_true rfl⟩ (Nat.le_of_ble_eq_true rfl) dX12_meets_7 (s_X12_power H.2) (fun x2 h3 H => ?_)
  refine a_istore_n (lv1 := [(0, .ref v0), (1, .int v1), (2, .int x2)]) rfl [1, 2, 0] (by decide) rfl dX12_meets_10 ?_
  refine a_iconst (v := (0 : Int32)) (by decide) dX12_meets_11 ?_
  refine a_istore_n (lv1 := [(0, .ref v0), (1, .int v1), (2, .int x2), (3, .int (0 : Int32))]) rfl [1, 2, 3, 0] (by decide) rfl dX12_meets_12 ?_
  obtain ⟨n, H⟩ := H
  exact l_X12_meets_13  n _ _ H
def B_X12_standings_34 (Q : Int32 → AH → Prop) (K34 : Int32 → AH → Prop) (v0 : Nat) (v2 : Int32) (v3 : Int32) (h : AH) : Prop :=
  gI h v0 12 39 (fun x1 => ((x1 ≤ v3 → gI h v0 12 39 (fun x2 => Q x2 h)) ∧ (¬ (x1 ≤ v3) → gI h v0 12 4 (fun x3 => gR h v0 12 40 (fun a4 => lI h a4 v3 (fun x5 => isO h v0 12 ∧ f_X12_seen v0 x5 v2 h (fun x6 h7 => gI h7 v0 12 17 (fun x8 => isO h7 v0 12 ∧ f_X12_seen v0 x8 v2 h7 (fun x9 h10 => ((¬ (x6 = x9) → pF h10 v0 12 4 (.int (x3 + (0 : Int32))) (fun h11 => K34 (v3 + 1) h11)) ∧ (x6 = x9 → pF h10 v0 12 4 (.int (x3 + (1 : Int32))) (fun h12 => K34 (v3 + 1) h12))))))))))))
set_option maxRecDepth 100000 in
set_option maxHeartbeats 4000000 in
theorem b_X12_standings_34 {o : Om} {Q : Int32 → AH → Prop} {K34 : Int32 → AH → Prop} {v0 : Nat} {v2 : Int32} {v3 : Int32} {h : AH} (hK34 : ∀ w3 h, K34 w3 h → AQ o kX12_standings h 34 [(0, .ref v0), (2, .int v2), (3, .int w3)] [] (qI Q)) (H : B_X12_standings_34 Q K34 v0 v2 v3 h) : AQ o kX12_standings h 34 [(0, .ref v0), (2, .int v2), (3, .int v3)] [] (qI Q) := by
  refine a_iload_n 2 rfl rfl dX12_standings_34 ?_
  refine a_aload_n 0 rfl rfl dX12_standings_35 ?_
  refine r_gI fo_RX12_264_12 dX12_standings_36 H (fun x1 H => ?_)
  refine a_icmp_ge (tgt := 85) dX12_standings_39 (by decide) (fun c => ?_) (fun c => ?_)
  · have H := H.1 (c)
    refine a_aload_n 0 rfl rfl dX12_standings_85 ?_
    refine r_gI fo_RX12_264_12 dX12_standings_86 H (fun x2 H => ?_)
    exact r_reti rfl dX12_standings_89 H
  · have H := H.2 (c)
    refine a_aload_n 0 rfl rfl dX12_standings_42 ?_
    refine a_dup rfl dX12_standings_43 ?_
    refine r_gI fo_RX12_104_12 dX12_standings_44 H (fun x3 H => ?_)
    refine a_aload_n 0 rfl rfl dX12_standings_47 ?_
    refine a_aload_n 0 rfl rfl dX12_standings_48 ?_
    refine r_gR fo_RX12_86_12 dX12_standings_49 H (fun a4 H => ?_)
    refine a_iload_n 2 rfl rfl dX12_standings_52 ?_
    refine r_lI dX12_standings_53 H (fun x5 H => ?_)
    refine a_iload_n 1 rfl rfl dX12_standings_54 ?_
    refine r_Vi (q := (RX12, TX12, 51)) (av := [.int x5, .int v2]) (rest := [.int x3, .ref v0]) rfl rfl okX12_seen H.1 rfl rfl wd1395 wd1397 wp55 ⟨Nat.le_of_ble_eq_true rfl, Nat.le_of_ble_eq_true rfl⟩ (Nat.le_of_ble_eq_true rfl) dX12_standings_55 (s_X12_seen H.2) (fun x6 h7 H => ?_)
    refine a_aload_n 0 rfl rfl dX12_standings_58 ?_
    refine a_aload_n 0 rfl rfl dX12_standings_59 ?_
    refine r_gI fo_RX12_184_12 dX12_standings_60 H (fun x8 H => ?_)
    refine a_iload_n 1 rfl rfl dX12_standings_63 ?_
    refine r_Vi (q := (RX12, TX12, 51)) (av := [.int x8, .int v2]) (rest := [.int x6, .int x3, .ref v0]) rfl rfl okX12_seen H.1 rfl rfl wd1395 wd1397 wp55 ⟨Nat.le_of_ble_eq_true rfl, Nat.le_of_ble_eq_true rfl⟩ (Nat.le_of_ble_eq_true rfl) dX12_standings_64 (s_X12_seen H.2) (fun x9 h10 H => ?_)
    refine a_icmp_ne (tgt := 74) dX12_standings_67 (by decide) (fun c => ?_) (fun c => ?_)
    · have H := H.1 (c)
      refine a_iconst (v := (0 : Int32)) (by decide) dX12_standings_74 ?_
      refine a_iadd dX12_standings_75 ?_
      refine r_pF (po_RX12_104_12 _) (fun _ => rfl) (fun _ => rfl) dX12_standings_76 H (fun h11 H => ?_)
      refine a_iinc (v := v3 + 1) (lv1 := [(0, .ref v0), (2, .int v2), (3, .int (v3 + 1))]) [1, 2, 0] 2 rfl (by decide) rfl rfl dX12_standings_79 ?_
      refine a_goto (tgt := 34) dX12_standings_82 (by decide) ?_
      exact hK34 _ _ H
    · have H := H.2 (c)
      refine a_iconst (v := (1 : Int32)) (by decide) dX12_standings_70 ?_
      refine a_goto (tgt := 75) dX12_standings_71 (by decide) ?_
      refine a_iadd dX12_standings_75 ?_
      refine r_pF (po_RX12_104_12 _) (fun _ => rfl) (fun _ => rfl) dX12_standings_76 H (fun h12 H => ?_)
      refine a_iinc (v := v3 + 1) (lv1 := [(0, .ref v0), (2, .int v2), (3, .int (v3 + 1))]) [1, 2, 0] 2 rfl (by decide) rfl rfl dX12_standings_79 ?_
      refine a_goto (tgt := 34) dX12_standings_82 (by decide) ?_
      exact hK34 _ _ H
def L_X12_standings_34 (Q : Int32 → AH → Prop)  (v0 : Nat) (v2 : Int32) : Nat → Int32 → AH → Prop
  | 0, _, _ => False
  | n + 1, v3, h => B_X12_standings_34 Q (L_X12_standings_34 Q  v0 v2 n) v0 v2 v3 h
theorem l_X12_standings_34 {o : Om} {Q : Int32 → AH → Prop}  {v0 : Nat} {v2 : Int32}  : ∀ (n : Nat) (v3 : Int32) (h : AH), L_X12_standings_34 Q  v0 v2 n v3 h → AQ o kX12_standings h 34 [(0, .ref v0), (2, .int v2), (3, .int v3)] [] (qI Q) := by
  intro n
  induction n with
  | zero => intro v3 h H; exact H.elim
  | succ n ih => intro v3 h H; exact b_X12_standings_34 ih H
def f_X12_standings (v0 : Nat) (v1 : Int32) (v2 : Int32) (h : AH) (Q : Int32 → AH → Prop) : Prop :=
  f_X12_in v1.toInt64 (0 : Int64) (3 : Int64) h (fun x1 h2 => ((x1 = 0 → Q (-1 : Int32) h2) ∧ (¬ (x1 = 0) → isO h2 v0 12 ∧ f_X12_isPost v0 v2 h2 (fun x3 h4 => ((¬ (x3 = 0) → isO h4 v0 12 ∧ f_X12_meets v0 v1 h4 (fun h5 => pF h5 v0 12 4 (.int (0 : Int32)) (fun h6 => ∃ n, L_X12_standings_34 Q  v0 v2 n (0 : Int32) h6))) ∧ (x3 = 0 → Q (-1 : Int32) h4))))))
set_option maxRecDepth 100000 in
set_option maxHeartbeats 4000000 in
theorem s_X12_standings {o : Om} {v0 : Nat} {v1 : Int32} {v2 : Int32} {h : AH} {Q : Int32 → AH → Prop} (H : f_X12_standings v0 v1 v2 h Q) : MQ' o kX12_standings [.ref v0, .int v1, .int v2] h (qI Q) := by
  refine MQ'.of (by decide +kernel) (Nat.le_of_ble_eq_true rfl) ?_
  show AQ o kX12_standings h 0 [(0, .ref v0), (1, .int v1), (2, .int v2)] [] (qI Q)
  refine a_iload_n 1 rfl rfl dX12_standings_0 ?_
  refine a_i2l dX12_standings_1 ?_
  refine a_lconst (v := (0 : Int64)) (by decide) dX12_standings_2 ?_
  refine a_ldc2 (v := (3 : Int64)) wd1234 dX12_standings_3 ?_
  refine r_Si (av := [.long v1.toInt64, .long (0 : Int64), .long (3 : Int64)]) (rest := []) rfl rfl okX12_in wd1188 wd1189 ⟨Nat.le_of_ble_eq_true rfl, Nat.le_of_ble_eq_true rfl⟩ (Nat.le_of_ble_eq_true rfl) dX12_standings_6 (s_X12_in H) (fun x1 h2 H => ?_)
  refine a_if_eq (tgt := 20) dX12_standings_9 (by decide) (fun c => ?_) (fun c => ?_)
  · have H := H.1 (c)
    refine a_iconst (v := (-1 : Int32)) (by decide) dX12_standings_20 ?_
    exact r_reti rfl dX12_standings_21 H
  · have H := H.2 (c)
    refine a_aload_n 0 rfl rfl dX12_standings_12 ?_
    refine a_iload_n 2 rfl rfl dX12_standings_13 ?_
    refine r_Vi (q := (RX12, TX12, 51)) (av := [.int v2]) (rest := []) rfl rfl okX12_isPost H.1 rfl rfl wd1391 wd1393 wp54 ⟨Nat.le_of_ble_eq_true rfl, Nat.le_of_ble_eq_true rfl⟩ (Nat.le_of_ble_eq_true rfl) dX12_standings_14 (s_X12_isPost H.2) (fun x3 h4 H => ?_)
    refine a_if_ne (tgt := 22) dX12_standings_17 (by decide) (fun c => ?_) (fun c => ?_)
    · have H := H.1 (c)
      refine a_aload_n 0 rfl rfl dX12_standings_22 ?_
      refine a_iload_n 1 rfl rfl dX12_standings_23 ?_
      refine r_Vv (q := (RX12, TX12, 51)) (av := [.int v1]) (rest := []) rfl rfl okX12_meets H.1 rfl rfl wd1408 wd1410 wp56 ⟨Nat.le_of_ble_eq_true rfl, Nat.le_of_ble_eq_true rfl⟩ (Nat.le_of_ble_eq_true rfl) dX12_standings_24 (s_X12_meets H.2) (fun h5 H => ?_)
      refine a_aload_n 0 rfl rfl dX12_standings_27 ?_
      refine a_iconst (v := (0 : Int32)) (by decide) dX12_standings_28 ?_
      refine r_pF (po_RX12_104_12 _) (fun _ => rfl) (fun _ => rfl) dX12_standings_29 H (fun h6 H => ?_)
      refine a_iconst (v := (0 : Int32)) (by decide) dX12_standings_32 ?_
      refine a_istore_n (lv1 := [(0, .ref v0), (1, .int v1), (2, .int v2), (3, .int (0 : Int32))]) rfl [1, 2, 3, 0] (by decide) rfl dX12_standings_33 ?_
      refine AQ.sub (lv1 := [(0, .ref v0), (2, .int v2), (3, .int (0 : Int32))]) [0, 2, 3] rfl ?_
      obtain ⟨n, H⟩ := H
      exact l_X12_standings_34  n _ _ H
    · have H := H.2 (c)
      refine a_iconst (v := (-1 : Int32)) (by decide) dX12_standings_20 ?_
      exact r_reti rfl dX12_standings_21 H
def B_X7_mostAlike_12 (Q : Int32 → AH → Prop) (K12 : Int32 → Int32 → AH → Prop) (v0 : Nat) (v1 : Int32) (v2 : Int32) (v3 : Int32) (h : AH) : Prop :=
  gI h v0 7 12 (fun x1 => ((x1 ≤ v3 → Q v2 h) ∧ (¬ (x1 ≤ v3) → gR h v0 7 4 (fun a2 => isO h v0 7 ∧ f_X7_endAt v0 v3 h (fun x3 h4 => isO h4 a2 5 ∧ f_X5_leastAt a2 x3 v1 h4 (fun x5 h6 => ((x5 < 0 → K12 v2 (v3 + 1) h6) ∧ (¬ (x5 < 0) → (((10 : Int32) ≤ x5 → K12 v2 (v3 + 1) h6) ∧ (¬ ((10 : Int32) ≤ x5) → gR h6 v0 7 3 (fun a7 => lI h6 a7 x5 (fun x8 => sI h6 a7 x5 (x8 + (1 : Int32)) (fun h9 => gR h9 v0 7 3 (fun a10 => lI h9 a10 x5 (fun x11 => K12 (if v2 < x11 then x11 else v2) (v3 + 1) h9)))))))))))))))
set_option maxRecDepth 100000 in
set_option maxHeartbeats 4000000 in
theorem b_X7_mostAlike_12 {o : Om} {Q : Int32 → AH → Prop} {K12 : Int32 → Int32 → AH → Prop} {v0 : Nat} {v1 : Int32} {v2 : Int32} {v3 : Int32} {h : AH} (hK12 : ∀ w2 w3 h, K12 w2 w3 h → AQ o kX7_mostAlike h 12 [(0, .ref v0), (1, .int v1), (2, .int w2), (3, .int w3)] [] (qI Q)) (H : B_X7_mostAlike_12 Q K12 v0 v1 v2 v3 h) : AQ o kX7_mostAlike h 12 [(0, .ref v0), (1, .int v1), (2, .int v2), (3, .int v3)] [] (qI Q) := by
  refine a_iload_n 3 rfl rfl dX7_mostAlike_12 ?_
  refine a_aload_n 0 rfl rfl dX7_mostAlike_13 ?_
  refine r_gI fo_RX7_44_7 dX7_mostAlike_14 H (fun x1 H => ?_)
  refine a_icmp_ge (tgt := 76) dX7_mostAlike_17 (by decide) (fun c => ?_) (fun c => ?_)
  · have H := H.1 (c)
    refine a_iload_n 2 rfl rfl dX7_mostAlike_76 ?_
    exact r_reti rfl dX7_mostAlike_77 H
  · have H := H.2 (c)
    refine a_aload_n 0 rfl rfl dX7_mostAlike_20 ?_
    refine r_gR fo_RX7_59_7 dX7_mostAlike_21 H (fun a2 H => ?_)
    refine a_aload_n 0 rfl rfl dX7_mostAlike_24 ?_
    refine a_iload_n 3 rfl rfl dX7_mostAlike_25 ?_
    refine r_Vi (q := (RX7, TX7, 17)) (av := [.int v3]) (rest := [.ref a2]) rfl rfl okX7_endAt H.1 rfl rfl wd818 wd807 wd808 ⟨Nat.le_of_ble_eq_true rfl, Nat.le_of_ble_eq_true rfl⟩ (Nat.le_of_ble_eq_true rfl) dX7_mostAlike_26 (s_X7_endAt H.2) (fun x3 h4 H => ?_)
    refine a_iload_n 1 rfl rfl dX7_mostAlike_29 ?_
    refine r_Vi (q := (RX5, TX5, 10)) (av := [.int x3, .int v1]) (rest := []) rfl rfl okX5_leastAt H.1 rfl rfl wd819 wd760 wd761 ⟨Nat.le_of_ble_eq_true rfl, Nat.le_of_ble_eq_true rfl⟩ (Nat.le_of_ble_eq_true rfl) dX7_mostAlike_30 (s_X5_leastAt H.2) (fun x5 h6 H => ?_)
    refine a_istore (lv1 := [(0, .ref v0), (1, .int v1), (2, .int v2), (3, .int v3), (4, .int x5)]) [1, 2, 3, 4, 0] (by decide) rfl dX7_mostAlike_33 ?_
    refine a_iload 4 rfl dX7_mostAlike_35 ?_
    refine a_if_lt (tgt := 70) dX7_mostAlike_37 (by decide) (fun c => ?_) (fun c => ?_)
    · have H := H.1 (c)
      refine a_iinc (v := v3 + 1) (lv1 := [(0, .ref v0), (1, .int v1), (2, .int v2), (3, .int (v3 + 1)), (4, .int x5)]) [1, 2, 3, 0, 4] 3 rfl (by decide) rfl rfl dX7_mostAlike_70 ?_
      refine a_goto (tgt := 12) dX7_mostAlike_73 (by decide) ?_
      refine AQ.sub (lv1 := [(0, .ref v0), (1, .int v1), (2, .int v2), (3, .int (v3 + 1))]) [0, 1, 2, 3] rfl ?_
      exact hK12 _ _ _ H
    · have H := H.2 (c)
      refine a_iload 4 rfl dX7_mostAlike_40 ?_
      refine a_bipush (v := (10 : Int32)) (by decide) dX7_mostAlike_42 ?_
      refine a_icmp_ge (tgt := 70) dX7_mostAlike_44 (by decide) (fun c => ?_) (fun c => ?_)
      · have H := H.1 (c)
        refine a_iinc (v := v3 + 1) (lv1 := [(0, .ref v0), (1, .int v1), (2, .int v2), (3, .int (v3 + 1)), (4, .int x5)]) [1, 2, 3, 0, 4] 3 rfl (by decide) rfl rfl dX7_mostAlike_70 ?_
        refine a_goto (tgt := 12) dX7_mostAlike_73 (by decide) ?_
        refine AQ.sub (lv1 := [(0, .ref v0), (1, .int v1), (2, .int v2), (3, .int (v3 + 1))]) [0, 1, 2, 3] rfl ?_
        exact hK12 _ _ _ H
      · have H := H.2 (c)
        refine a_aload_n 0 rfl rfl dX7_mostAlike_47 ?_
        refine r_gR fo_RX7_18_7 dX7_mostAlike_48 H (fun a7 H => ?_)
        refine a_iload 4 rfl dX7_mostAlike_51 ?_
        refine a_dup2 rfl rfl dX7_mostAlike_53 ?_
        refine r_lI dX7_mostAlike_54 H (fun x8 H => ?_)
        refine a_iconst (v := (1 : Int32)) (by decide) dX7_mostAlike_55 ?_
        refine a_iadd dX7_mostAlike_56 ?_
        refine r_sI dX7_mostAlike_57 H (fun h9 H => ?_)
        refine a_iload_n 2 rfl rfl dX7_mostAlike_58 ?_
        refine a_aload_n 0 rfl rfl dX7_mostAlike_59 ?_
        refine r_gR fo_RX7_18_7 dX7_mostAlike_60 H (fun a10 H => ?_)
        refine a_iload 4 rfl dX7_mostAlike_63 ?_
        refine r_lI dX7_mostAlike_65 H (fun x11 H => ?_)
        refine a_mmax wd820 wd272 wd8 wd273 ⟨Nat.le_of_ble_eq_true rfl, Nat.le_of_ble_eq_true rfl⟩ dX7_mostAlike_66 ?_
        refine a_istore_n (lv1 := [(0, .ref v0), (1, .int v1), (2, .int (if v2 < x11 then x11 else v2)), (3, .int v3), (4, .int x5)]) rfl [1, 2, 0, 3, 4] (by decide) rfl dX7_mostAlike_69 ?_
        refine a_iinc (v := v3 + 1) (lv1 := [(0, .ref v0), (1, .int v1), (2, .int (if v2 < x11 then x11 else v2)), (3, .int (v3 + 1)), (4, .int x5)]) [1, 2, 3, 0, 4] 3 rfl (by decide) rfl rfl dX7_mostAlike_70 ?_
        refine a_goto (tgt := 12) dX7_mostAlike_73 (by decide) ?_
        refine AQ.sub (lv1 := [(0, .ref v0), (1, .int v1), (2, .int (if v2 < x11 then x11 else v2)), (3, .int (v3 + 1))]) [0, 1, 2, 3] rfl ?_
        exact hK12 _ _ _ H
def L_X7_mostAlike_12 (Q : Int32 → AH → Prop)  (v0 : Nat) (v1 : Int32) : Nat → Int32 → Int32 → AH → Prop
  | 0, _, _, _ => False
  | n + 1, v2, v3, h => B_X7_mostAlike_12 Q (L_X7_mostAlike_12 Q  v0 v1 n) v0 v1 v2 v3 h
theorem l_X7_mostAlike_12 {o : Om} {Q : Int32 → AH → Prop}  {v0 : Nat} {v1 : Int32}  : ∀ (n : Nat) (v2 : Int32) (v3 : Int32) (h : AH), L_X7_mostAlike_12 Q  v0 v1 n v2 v3 h → AQ o kX7_mostAlike h 12 [(0, .ref v0), (1, .int v1), (2, .int v2), (3, .int v3)] [] (qI Q) := by
  intro n
  induction n with
  | zero => intro v2 v3 h H; exact H.elim
  | succ n ih => intro v2 v3 h H; exact b_X7_mostAlike_12 ih H
def f_X7_mostAlike (v0 : Nat) (v1 : Int32) (h : AH) (Q : Int32 → AH → Prop) : Prop :=
  gR h v0 7 3 (fun a1 => f_J7_fill_53178 a1 (0 : Int32) h (fun h2 => ∃ n, L_X7_mostAlike_12 Q  v0 v1 n (0 : Int32) (0 : Int32) h2))
set_option maxRecDepth 100000 in
set_option maxHeartbeats 4000000 in
theorem s_X7_mostAlike {o : Om} {v0 : Nat} {v1 : Int32} {h : AH} {Q : Int32 → AH → Prop} (H : f_X7_mostAlike v0 v1 h Q) : MQ' o kX7_mostAlike [.ref v0, .int v1] h (qI Q) := by
  refine MQ'.of (by decide +kernel) (Nat.le_of_ble_eq_true rfl) ?_
  show AQ o kX7_mostAlike h 0 [(0, .ref v0), (1, .int v1)] [] (qI Q)
  refine a_iconst (v := (0 : Int32)) (by decide) dX7_mostAlike_0 ?_
  refine a_istore_n (lv1 := [(0, .ref v0), (1, .int v1), (2, .int (0 : Int32))]) rfl [1, 2, 0] (by decide) rfl dX7_mostAlike_1 ?_
  refine a_aload_n 0 rfl rfl dX7_mostAlike_2 ?_
  refine r_gR fo_RX7_18_7 dX7_mostAlike_3 H (fun a1 H => ?_)
  refine a_iconst (v := (0 : Int32)) (by decide) dX7_mostAlike_6 ?_
  refine r_Sv (av := [.ref a1, .int (0 : Int32)]) (rest := []) rfl rfl okJ7_fill_53178 wd791 wd202 ⟨Nat.le_of_ble_eq_true rfl, Nat.le_of_ble_eq_true rfl⟩ (Nat.le_of_ble_eq_true rfl) dX7_mostAlike_7 (s_J7_fill_53178 H) (fun h2 H => ?_)
  refine a_iconst (v := (0 : Int32)) (by decide) dX7_mostAlike_10 ?_
  refine a_istore_n (lv1 := [(0, .ref v0), (1, .int v1), (2, .int (0 : Int32)), (3, .int (0 : Int32))]) rfl [1, 2, 3, 0] (by decide) rfl dX7_mostAlike_11 ?_
  obtain ⟨n, H⟩ := H
  exact l_X7_mostAlike_12  n _ _ _ H
def B_X11_look_66 (Q : Int32 → AH → Prop) (K66 : Int32 → Int32 → Int32 → AH → Prop) (v0 : Nat) (v2 : Int32) (v3 : Int32) (v4 : Int32) (h : AH) : Prop :=
  gR h v0 11 8 (fun a1 => gI h a1 5 4 (fun x2 => ((x2 ≤ v4 → pF h v0 11 12 (.int v3) (fun h3 => Q v2 h3)) ∧ (¬ (x2 ≤ v4) → gR h v0 11 7 (fun a4 => isO h a4 7 ∧ f_X7_mostAlike a4 v4 h (fun x5 h6 => ((v3 ≤ x5 → K66 v2 v3 (v4 + 1) h6) ∧ (¬ (v3 ≤ x5) → K66 v4 x5 (v4 + 1) h6))))))))
set_option maxRecDepth 100000 in
set_option maxHeartbeats 4000000 in
theorem b_X11_look_66 {o : Om} {Q : Int32 → AH → Prop} {K66 : Int32 → Int32 → Int32 → AH → Prop} {v0 : Nat} {v2 : Int32} {v3 : Int32} {v4 : Int32} {h : AH} (hK66 : ∀ w2 w3 w4 h, K66 w2 w3 w4 h → AQ o kX11_look h 66 [(0, .ref v0), (2, .int w2), (3, .int w3), (4, .int w4)] [] (qI Q)) (H : B_X11_look_66 Q K66 v0 v2 v3 v4 h) : AQ o kX11_look h 66 [(0, .ref v0), (2, .int v2), (3, .int v3), (4, .int v4)] [] (qI Q) := by
  refine a_iload 3 rfl dX11_look_66 ?_
  refine a_aload_n 0 rfl rfl dX11_look_68 ?_
  refine r_gR fo_RX11_60_11 dX11_look_69 H (fun a1 H => ?_)
  refine r_gI fo_RX11_198_5 dX11_look_72 H (fun x2 H => ?_)
  refine a_icmp_ge (tgt := 107) dX11_look_75 (by decide) (fun c => ?_) (fun c => ?_)
  · have H := H.1 (c)
    refine a_aload_n 0 rfl rfl dX11_look_107 ?_
    refine a_iload_n 2 rfl rfl dX11_look_108 ?_
    refine r_pF (po_RX11_44_11 _) (fun _ => rfl) (fun _ => rfl) dX11_look_109 H (fun h3 H => ?_)
    refine a_iload_n 1 rfl rfl dX11_look_112 ?_
    exact r_reti rfl dX11_look_113 H
  · have H := H.2 (c)
    refine a_aload_n 0 rfl rfl dX11_look_78 ?_
    refine r_gR fo_RX11_74_11 dX11_look_79 H (fun a4 H => ?_)
    refine a_iload 3 rfl dX11_look_82 ?_
    refine r_Vi (q := (RX7, TX7, 17)) (av := [.int v4]) (rest := []) rfl rfl okX7_mostAlike H.1 rfl rfl wd814 wd815 wd816 ⟨Nat.le_of_ble_eq_true rfl, Nat.le_of_ble_eq_true rfl⟩ (Nat.le_of_ble_eq_true rfl) dX11_look_84 (s_X7_mostAlike H.2) (fun x5 h6 H => ?_)
    refine a_istore (lv1 := [(0, .ref v0), (2, .int v2), (3, .int v3), (4, .int v4), (5, .int x5)]) [1, 2, 3, 4, 0] (by decide) rfl dX11_look_87 ?_
    refine a_iload 4 rfl dX11_look_89 ?_
    refine a_iload_n 2 rfl rfl dX11_look_91 ?_
    refine a_icmp_ge (tgt := 101) dX11_look_92 (by decide) (fun c => ?_) (fun c => ?_)
    · have H := H.1 (c)
      refine a_iinc (v := v4 + 1) (lv1 := [(0, .ref v0), (2, .int v2), (3, .int v3), (4, .int (v4 + 1)), (5, .int x5)]) [1, 2, 3, 0, 4] 3 rfl (by decide) rfl rfl dX11_look_101 ?_
      refine a_goto (tgt := 66) dX11_look_104 (by decide) ?_
      refine AQ.sub (lv1 := [(0, .ref v0), (2, .int v2), (3, .int v3), (4, .int (v4 + 1))]) [0, 1, 2, 3] rfl ?_
      exact hK66 _ _ _ _ H
    · have H := H.2 (c)
      refine a_iload 3 rfl dX11_look_95 ?_
      refine a_istore_n (lv1 := [(0, .ref v0), (2, .int v4), (3, .int v3), (4, .int v4), (5, .int x5)]) rfl [1, 0, 2, 3, 4] (by decide) rfl dX11_look_97 ?_
      refine a_iload 4 rfl dX11_look_98 ?_
      refine a_istore_n (lv1 := [(0, .ref v0), (2, .int v4), (3, .int x5), (4, .int v4), (5, .int x5)]) rfl [1, 2, 0, 3, 4] (by decide) rfl dX11_look_100 ?_
      refine a_iinc (v := v4 + 1) (lv1 := [(0, .ref v0), (2, .int v4), (3, .int x5), (4, .int (v4 + 1)), (5, .int x5)]) [1, 2, 3, 0, 4] 3 rfl (by decide) rfl rfl dX11_look_101 ?_
      refine a_goto (tgt := 66) dX11_look_104 (by decide) ?_
      refine AQ.sub (lv1 := [(0, .ref v0), (2, .int v4), (3, .int x5), (4, .int (v4 + 1))]) [0, 1, 2, 3] rfl ?_
      exact hK66 _ _ _ _ H
def L_X11_look_66 (Q : Int32 → AH → Prop)  (v0 : Nat) : Nat → Int32 → Int32 → Int32 → AH → Prop
  | 0, _, _, _, _ => False
  | n + 1, v2, v3, v4, h => B_X11_look_66 Q (L_X11_look_66 Q  v0 n) v0 v2 v3 v4 h
theorem l_X11_look_66 {o : Om} {Q : Int32 → AH → Prop}  {v0 : Nat}  : ∀ (n : Nat) (v2 : Int32) (v3 : Int32) (v4 : Int32) (h : AH), L_X11_look_66 Q  v0 n v2 v3 v4 h → AQ o kX11_look h 66 [(0, .ref v0), (2, .int v2), (3, .int v3), (4, .int v4)] [] (qI Q) := by
  intro n
  induction n with
  | zero => intro v2 v3 v4 h H; exact H.elim
  | succ n ih => intro v2 v3 v4 h H; exact b_X11_look_66 ih H
def f_X11_look (v0 : Nat) (v1 : Int32) (h : AH) (Q : Int32 → AH → Prop) : Prop :=
  ((v1 < 0 → Q (-1 : Int32) h) ∧ (¬ (v1 < 0) → ((v1 ≤ (3 : Int32) → gR h v0 11 8 (fun a1 => gI h a1 5 4 (fun x2 => ((¬ (x2 = 0) → gR h v0 11 7 (fun a3 => gR h v0 11 8 (fun a4 => gI h v0 11 9 (fun x5 => gI h v0 11 10 (fun x6 => isO h a3 7 ∧ f_X7_from a3 a4 x5 x6 h (fun h7 => gR h7 v0 11 7 (fun a8 => isO h7 a8 7 ∧ f_X7_gatherEnds a8 v1 h7 (fun x9 h10 => gR h10 v0 11 7 (fun a11 => isO h10 a11 7 ∧ f_X7_mostAlike a11 (0 : Int32) h10 (fun x12 h13 => ∃ n, L_X11_look_66 Q  v0 n (0 : Int32) x12 (1 : Int32) h13)))))))))) ∧ (x2 = 0 → Q (-4 : Int32) h))))) ∧ (¬ (v1 ≤ (3 : Int32)) → Q (-1 : Int32) h))))
set_option maxRecDepth 100000 in
set_option maxHeartbeats 4000000 in
theorem s_X11_look {o : Om} {v0 : Nat} {v1 : Int32} {h : AH} {Q : Int32 → AH → Prop} (H : f_X11_look v0 v1 h Q) : MQ' o kX11_look [.ref v0, .int v1] h (qI Q) := by
  refine MQ'.of (by decide +kernel) (Nat.le_of_ble_eq_true rfl) ?_
  show AQ o kX11_look h 0 [(0, .ref v0), (1, .int v1)] [] (qI Q)
  refine a_iload_n 1 rfl rfl dX11_look_0 ?_
  refine a_if_lt (tgt := 9) dX11_look_1 (by decide) (fun c => ?_) (fun c => ?_)
  · have H := H.1 (c)
    refine a_iconst (v := (-1 : Int32)) (by decide) dX11_look_9 ?_
    exact r_reti rfl dX11_look_10 H
  · have H := H.2 (c)
    refine a_iload_n 1 rfl rfl dX11_look_4 ?_
    refine a_iconst (v := (3 : Int32)) (by decide) dX11_look_5 ?_
    refine a_icmp_le (tgt := 11) dX11_look_6 (by decide) (fun c => ?_) (fun c => ?_)
    · have H := H.1 (c)
      refine a_aload_n 0 rfl rfl dX11_look_11 ?_
      refine r_gR fo_RX11_60_11 dX11_look_12 H (fun a1 H => ?_)
      refine r_gI fo_RX11_198_5 dX11_look_15 H (fun x2 H => ?_)
      refine a_if_ne (tgt := 24) dX11_look_18 (by decide) (fun c => ?_) (fun c => ?_)
      · have H := H.1 (c)
        refine a_aload_n 0 rfl rfl dX11_look_24 ?_
        refine r_gR fo_RX11_74_11 dX11_look_25 H (fun a3 H => ?_)
        refine a_aload_n 0 rfl rfl dX11_look_28 ?_
        refine r_gR fo_RX11_60_11 dX11_look_29 H (fun a4 H => ?_)
        refine a_aload_n 0 rfl rfl dX11_look_32 ?_
        refine r_gI fo_RX11_34_11 dX11_look_33 H (fun x5 H => ?_)
        refine a_aload_n 0 rfl rfl dX11_look_36 ?_
        refine r_gI fo_RX11_38_11 dX11_look_37 H (fun x6 H => ?_)
        refine r_Vv (q := (RX7, TX7, 17)) (av := [.ref a4, .int x5, .int x6]) (rest := []) rfl rfl okX7_from H.1 rfl rfl wd775 wd776 wd777 ⟨Nat.le_of_ble_eq_true rfl, Nat.le_of_ble_eq_true rfl⟩ (Nat.le_of_ble_eq_true rfl) dX11_look_40 (s_X7_from H.2) (fun h7 H => ?_)
        refine a_aload_n 0 rfl rfl dX11_look_43 ?_
        refine r_gR fo_RX11_74_11 dX11_look_44 H (fun a8 H => ?_)
        refine a_iload_n 1 rfl rfl dX11_look_47 ?_
        refine r_Vi (q := (RX7, TX7, 17)) (av := [.int v1]) (rest := []) rfl rfl okX7_gatherEnds H.1 rfl rfl wd779 wd780 wd781 ⟨Nat.le_of_ble_eq_true rfl, Nat.le_of_ble_eq_true rfl⟩ (Nat.le_of_ble_eq_true rfl) dX11_look_48 (s_X7_gatherEnds H.2) (fun x9 h10 H => ?_)
        refine a_pop rfl dX11_look_51 ?_
        refine a_iconst (v := (0 : Int32)) (by decide) dX11_look_52 ?_
        refine a_istore_n (lv1 := [(0, .ref v0), (1, .int v1), (2, .int (0 : Int32))]) rfl [1, 2, 0] (by decide) rfl dX11_look_53 ?_
        refine a_aload_n 0 rfl rfl dX11_look_54 ?_
        refine r_gR fo_RX11_74_11 dX11_look_55 H (fun a11 H => ?_)
        refine a_iconst (v := (0 : Int32)) (by decide) dX11_look_58 ?_
        refine r_Vi (q := (RX7, TX7, 17)) (av := [.int (0 : Int32)]) (rest := []) rfl rfl okX7_mostAlike H.1 rfl rfl wd814 wd815 wd816 ⟨Nat.le_of_ble_eq_true rfl, Nat.le_of_ble_eq_true rfl⟩ (Nat.le_of_ble_eq_true rfl) dX11_look_59 (s_X7_mostAlike H.2) (fun x12 h13 H => ?_)
        refine a_istore_n (lv1 := [(0, .ref v0), (1, .int v1), (2, .int (0 : Int32)), (3, .int x12)]) rfl [1, 2, 3, 0] (by decide) rfl dX11_look_62 ?_
        refine a_iconst (v := (1 : Int32)) (by decide) dX11_look_63 ?_
        refine a_istore (lv1 := [(0, .ref v0), (1, .int v1), (2, .int (0 : Int32)), (3, .int x12), (4, .int (1 : Int32))]) [1, 2, 3, 4, 0] (by decide) rfl dX11_look_64 ?_
        refine AQ.sub (lv1 := [(0, .ref v0), (2, .int (0 : Int32)), (3, .int x12), (4, .int (1 : Int32))]) [0, 2, 3, 4] rfl ?_
        obtain ⟨n, H⟩ := H
        exact l_X11_look_66  n _ _ _ _ H
      · have H := H.2 (c)
        refine a_bipush (v := (-4 : Int32)) (by decide) dX11_look_21 ?_
        exact r_reti rfl dX11_look_23 H
    · have H := H.2 (c)
      refine a_iconst (v := (-1 : Int32)) (by decide) dX11_look_9 ?_
      exact r_reti rfl dX11_look_10 H
