def B_X12_odds_115 (Q : Int32 → AH → Prop) (K115 : Int32 → Int32 → AH → Prop) (v0 : Nat) (v4 : Int32) (v5 : Int32) (v6 : Int32) (v7 : Int32) (h : AH) : Prop :=
  ((v7 = 0 → (¬ v6 = 0) ∧ (pF h v0 12 5 (.long ((v5 / v6).toInt64)) (fun h1 => (¬ v6 = 0) ∧ (pF h1 v0 12 6 (.long ((v4 / v6).toInt64)) (fun h2 => Q (1 : Int32) h2))))) ∧ (¬ (v7 = 0) → (¬ v7 = 0) ∧ (K115 v7 (v6 - v6 / v7 * v7) h)))
set_option maxRecDepth 100000 in
set_option maxHeartbeats 4000000 in
theorem b_X12_odds_115 {o : Om} {Q : Int32 → AH → Prop} {K115 : Int32 → Int32 → AH → Prop} {v0 : Nat} {v4 : Int32} {v5 : Int32} {v6 : Int32} {v7 : Int32} {h : AH} (hK115 : ∀ w6 w7 h, K115 w6 w7 h → AQ o kX12_odds h 115 [(0, .ref v0), (4, .int v4), (5, .int v5), (6, .int w6), (7, .int w7)] [] (qI Q)) (H : B_X12_odds_115 Q K115 v0 v4 v5 v6 v7 h) : AQ o kX12_odds h 115 [(0, .ref v0), (4, .int v4), (5, .int v5), (6, .int v6), (7, .int v7)] [] (qI Q) := by
  refine a_iload 4 rfl dX12_odds_115 ?_
  refine a_if_eq (tgt := 138) dX12_odds_117 (by decide) (fun c => ?_) (fun c => ?_)
  · have H := H.1 (c)
    refine a_aload_n 0 rfl rfl dX12_odds_138 ?_
    refine a_iload 2 rfl dX12_odds_139 ?_
    refine a_iload 3 rfl dX12_odds_141 ?_
    refine a_idiv H.1 dX12_odds_143 ?_
    have H := H.2
    refine a_i2l dX12_odds_144 ?_
    refine r_pF (po_RX12_312_12 _) (fun _ => rfl) (fun _ => rfl) dX12_odds_145 H (fun h1 H => ?_)
    refine a_aload_n 0 rfl rfl dX12_odds_148 ?_
    refine a_iload 1 rfl dX12_odds_149 ?_
    refine a_iload 3 rfl dX12_odds_151 ?_
    refine a_idiv H.1 dX12_odds_153 ?_
    have H := H.2
    refine a_i2l dX12_odds_154 ?_
    refine r_pF (po_RX12_22_12 _) (fun _ => rfl) (fun _ => rfl) dX12_odds_155 H (fun h2 H => ?_)
    refine a_iconst (v := (1 : Int32)) (by decide) dX12_odds_158 ?_
    exact r_reti rfl dX12_odds_159 H
  · have H := H.2 (c)
    refine a_iload 3 rfl dX12_odds_120 ?_
    refine a_iload 4 rfl dX12_odds_122 ?_
    refine a_irem H.1 dX12_odds_124 ?_
    have H := H.2
    refine a_istore (lv1 := [(0, .ref v0), (4, .int v4), (5, .int v5), (6, .int v6), (7, .int v7), (8, .int (v6 - v6 / v7 * v7))]) [1, 2, 3, 4, 5, 0] (by decide) rfl dX12_odds_125 ?_
    refine a_iload 4 rfl dX12_odds_127 ?_
    refine a_istore (lv1 := [(0, .ref v0), (4, .int v4), (5, .int v5), (6, .int v7), (7, .int v7), (8, .int (v6 - v6 / v7 * v7))]) [1, 2, 3, 0, 4, 5] (by decide) rfl dX12_odds_129 ?_
    refine a_iload 5 rfl dX12_odds_131 ?_
    refine a_istore (lv1 := [(0, .ref v0), (4, .int v4), (5, .int v5), (6, .int v7), (7, .int (v6 - v6 / v7 * v7)), (8, .int (v6 - v6 / v7 * v7))]) [1, 2, 3, 4, 0, 5] (by decide) rfl dX12_odds_133 ?_
    refine a_goto (tgt := 115) dX12_odds_135 (by decide) ?_
    refine AQ.sub (lv1 := [(0, .ref v0), (4, .int v4), (5, .int v5), (6, .int v7), (7, .int (v6 - v6 / v7 * v7))]) [0, 1, 2, 3, 4] rfl ?_
    exact hK115 _ _ _ H
def L_X12_odds_115 (Q : Int32 → AH → Prop)  (v0 : Nat) (v4 : Int32) (v5 : Int32) : Nat → Int32 → Int32 → AH → Prop
  | 0, _, _, _ => False
  | n + 1, v6, v7, h => B_X12_odds_115 Q (L_X12_odds_115 Q  v0 v4 v5 n) v0 v4 v5 v6 v7 h
theorem l_X12_odds_115 {o : Om} {Q : Int32 → AH → Prop}  {v0 : Nat} {v4 : Int32} {v5 : Int32}  : ∀ (n : Nat) (v6 : Int32) (v7 : Int32) (h : AH), L_X12_odds_115 Q  v0 v4 v5 n v6 v7 h → AQ o kX12_odds h 115 [(0, .ref v0), (4, .int v4), (5, .int v5), (6, .int v6), (7, .int v7)] [] (qI Q) := by
  intro n
  induction n with
  | zero => intro v6 v7 h H; exact H.elim
  | succ n ih => intro v6 v7 h H; exact b_X12_odds_115 ih H
def B_X12_odds_66 (Q : Int32 → AH → Prop) (K66 : Int32 → Int32 → AH → Prop) (v0 : Nat) (v1 : Int32) (v2 : Int32) (v3 : Int32) (v4 : Int32) (v5 : Int32) (v6 : Int32) (h : AH) : Prop :=
  ((v4 ≤ v6 → ∃ n, L_X12_odds_115 Q  v0 v4 v5 n v5 v4 h) ∧ (¬ (v4 ≤ v6) → isO h v0 12 ∧ f_X12_behindRow v0 v3 v6 h (fun x1 h2 => f_X12_spotOf x1 v1 h2 (fun x3 h4 => f_X12_told x3 h4 (fun x5 h6 => ((¬ (x5 = v2) → K66 (v5 + (0 : Int32)) (v6 + 1) h6) ∧ (x5 = v2 → K66 (v5 + (1 : Int32)) (v6 + 1) h6)))))))
set_option maxRecDepth 100000 in
set_option maxHeartbeats 4000000 in
theorem b_X12_odds_66 {o : Om} {Q : Int32 → AH → Prop} {K66 : Int32 → Int32 → AH → Prop} {v0 : Nat} {v1 : Int32} {v2 : Int32} {v3 : Int32} {v4 : Int32} {v5 : Int32} {v6 : Int32} {h : AH} (hK66 : ∀ w5 w6 h, K66 w5 w6 h → AQ o kX12_odds h 66 [(0, .ref v0), (1, .int v1), (2, .int v2), (3, .int v3), (4, .int v4), (5, .int w5), (6, .int w6)] [] (qI Q)) (H : B_X12_odds_66 Q K66 v0 v1 v2 v3 v4 v5 v6 h) : AQ o kX12_odds h 66 [(0, .ref v0), (1, .int v1), (2, .int v2), (3, .int v3), (4, .int v4), (5, .int v5), (6, .int v6)] [] (qI Q) := by
  refine a_iload 6 rfl dX12_odds_66 ?_
  refine a_iload 4 rfl dX12_odds_68 ?_
  refine a_icmp_ge (tgt := 107) dX12_odds_70 (by decide) (fun c => ?_) (fun c => ?_)
  · have H := H.1 (c)
    refine a_iload 5 rfl dX12_odds_107 ?_
    refine a_istore (lv1 := [(0, .ref v0), (1, .int v1), (2, .int v2), (3, .int v3), (4, .int v4), (5, .int v5), (6, .int v5)]) [1, 2, 3, 4, 5, 6, 0] (by decide) rfl dX12_odds_109 ?_
    refine a_iload 4 rfl dX12_odds_111 ?_
    refine a_istore (lv1 := [(0, .ref v0), (1, .int v1), (2, .int v2), (3, .int v3), (4, .int v4), (5, .int v5), (6, .int v5), (7, .int v4)]) [1, 2, 3, 4, 5, 6, 7, 0] (by decide) rfl dX12_odds_113 ?_
    refine AQ.sub (lv1 := [(0, .ref v0), (4, .int v4), (5, .int v5), (6, .int v5), (7, .int v4)]) [0, 4, 5, 6, 7] rfl ?_
    obtain ⟨n, H⟩ := H
    exact l_X12_odds_115  n _ _ _ H
  · have H := H.2 (c)
    refine a_iload 5 rfl dX12_odds_73 ?_
    refine a_aload_n 0 rfl rfl dX12_odds_75 ?_
    refine a_iload_n 3 rfl rfl dX12_odds_76 ?_
    refine a_iload 6 rfl dX12_odds_77 ?_
    refine r_Vi (q := (RX12, TX12, 51)) (av := [.int v3, .int v6]) (rest := [.int v5]) rfl rfl okX12_behindRow H.1 rfl rfl wd1416 wd1418 wp58 ⟨Nat.le_of_ble_eq_true rfl, Nat.le_of_ble_eq_true rfl⟩ (Nat.le_of_ble_eq_true rfl) dX12_odds_79 (s_X12_behindRow H.2) (fun x1 h2 H => ?_)
    refine a_iload_n 1 rfl rfl dX12_odds_82 ?_
    refine r_Si (av := [.int x1, .int v1]) (rest := [.int v5]) rfl rfl okX12_spotOf wd1286 wd1287 ⟨Nat.le_of_ble_eq_true rfl, Nat.le_of_ble_eq_true rfl⟩ (Nat.le_of_ble_eq_true rfl) dX12_odds_83 (s_X12_spotOf H) (fun x3 h4 H => ?_)
    refine r_Si (av := [.int x3]) (rest := [.int v5]) rfl rfl okX12_told wd1289 wd1290 ⟨Nat.le_of_ble_eq_true rfl, Nat.le_of_ble_eq_true rfl⟩ (Nat.le_of_ble_eq_true rfl) dX12_odds_86 (s_X12_told H) (fun x5 h6 H => ?_)
    refine a_iload_n 2 rfl rfl dX12_odds_89 ?_
    refine a_icmp_ne (tgt := 97) dX12_odds_90 (by decide) (fun c => ?_) (fun c => ?_)
    · have H := H.1 (c)
      refine a_iconst (v := (0 : Int32)) (by decide) dX12_odds_97 ?_
      refine a_iadd dX12_odds_98 ?_
      refine a_istore (lv1 := [(0, .ref v0), (1, .int v1), (2, .int v2), (3, .int v3), (4, .int v4), (5, .int (v5 + (0 : Int32))), (6, .int v6)]) [1, 2, 3, 4, 5, 0, 6] (by decide) rfl dX12_odds_99 ?_
      refine a_iinc (v := v6 + 1) (lv1 := [(0, .ref v0), (1, .int v1), (2, .int v2), (3, .int v3), (4, .int v4), (5, .int (v5 + (0 : Int32))), (6, .int (v6 + 1))]) [1, 2, 3, 4, 5, 6, 0] 6 rfl (by decide) rfl rfl dX12_odds_101 ?_
      refine a_goto (tgt := 66) dX12_odds_104 (by decide) ?_
      exact hK66 _ _ _ H
    · have H := H.2 (c)
      refine a_iconst (v := (1 : Int32)) (by decide) dX12_odds_93 ?_
      refine a_goto (tgt := 98) dX12_odds_94 (by decide) ?_
      refine a_iadd dX12_odds_98 ?_
      refine a_istore (lv1 := [(0, .ref v0), (1, .int v1), (2, .int v2), (3, .int v3), (4, .int v4), (5, .int (v5 + (1 : Int32))), (6, .int v6)]) [1, 2, 3, 4, 5, 0, 6] (by decide) rfl dX12_odds_99 ?_
      refine a_iinc (v := v6 + 1) (lv1 := [(0, .ref v0), (1, .int v1), (2, .int v2), (3, .int v3), (4, .int v4), (5, .int (v5 + (1 : Int32))), (6, .int (v6 + 1))]) [1, 2, 3, 4, 5, 6, 0] 6 rfl (by decide) rfl rfl dX12_odds_101 ?_
      refine a_goto (tgt := 66) dX12_odds_104 (by decide) ?_
      exact hK66 _ _ _ H
def L_X12_odds_66 (Q : Int32 → AH → Prop)  (v0 : Nat) (v1 : Int32) (v2 : Int32) (v3 : Int32) (v4 : Int32) : Nat → Int32 → Int32 → AH → Prop
  | 0, _, _, _ => False
  | n + 1, v5, v6, h => B_X12_odds_66 Q (L_X12_odds_66 Q  v0 v1 v2 v3 v4 n) v0 v1 v2 v3 v4 v5 v6 h
theorem l_X12_odds_66 {o : Om} {Q : Int32 → AH → Prop}  {v0 : Nat} {v1 : Int32} {v2 : Int32} {v3 : Int32} {v4 : Int32}  : ∀ (n : Nat) (v5 : Int32) (v6 : Int32) (h : AH), L_X12_odds_66 Q  v0 v1 v2 v3 v4 n v5 v6 h → AQ o kX12_odds h 66 [(0, .ref v0), (1, .int v1), (2, .int v2), (3, .int v3), (4, .int v4), (5, .int v5), (6, .int v6)] [] (qI Q) := by
  intro n
  induction n with
  | zero => intro v5 v6 h H; exact H.elim
  | succ n ih => intro v5 v6 h H; exact b_X12_odds_66 ih H
def B_X12_odds_53 (Q : Int32 → AH → Prop)  (v0 : Nat) (v1 : Int32) (v2 : Int32) (v3 : Int32) (h : AH) : Prop :=
  isO h v0 12 ∧ f_X12_power v0 v3 h (fun x1 h2 => ∃ n, L_X12_odds_66 Q  v0 v1 v2 v3 x1 n (0 : Int32) (0 : Int32) h2)
set_option maxRecDepth 100000 in
set_option maxHeartbeats 4000000 in
theorem b_X12_odds_53 {o : Om} {Q : Int32 → AH → Prop}  {v0 : Nat} {v1 : Int32} {v2 : Int32} {v3 : Int32} {h : AH}  (H : B_X12_odds_53 Q  v0 v1 v2 v3 h) : AQ o kX12_odds h 53 [(0, .ref v0), (1, .int v1), (2, .int v2), (3, .int v3)] [] (qI Q) := by
  refine a_aload_n 0 rfl rfl dX12_odds_53 ?_
  refine a_iload_n 3 rfl rfl dX12_odds_54 ?_
  refine r_Vi (q := (RX12, TX12, 51)) (av := [.int v3]) (rest := []) rfl rfl okX12_power H.1 rfl rfl wd1412 wd1414 wp57 ⟨Nat.le_of_ble_eq_true rfl, Nat.le_of_ble_eq_true rfl⟩ (Nat.le_of_ble_eq_true rfl) dX12_odds_55 (s_X12_power H.2) (fun x1 h2 H => ?_)
  refine a_istore (lv1 := [(0, .ref v0), (1, .int v1), (2, .int v2), (3, .int v3), (4, .int x1)]) [1, 2, 3, 4, 0] (by decide) rfl dX12_odds_58 ?_
  refine a_iconst (v := (0 : Int32)) (by decide) dX12_odds_60 ?_
  refine a_istore (lv1 := [(0, .ref v0), (1, .int v1), (2, .int v2), (3, .int v3), (4, .int x1), (5, .int (0 : Int32))]) [1, 2, 3, 4, 5, 0] (by decide) rfl dX12_odds_61 ?_
  refine a_iconst (v := (0 : Int32)) (by decide) dX12_odds_63 ?_
  refine a_istore (lv1 := [(0, .ref v0), (1, .int v1), (2, .int v2), (3, .int v3), (4, .int x1), (5, .int (0 : Int32)), (6, .int (0 : Int32))]) [1, 2, 3, 4, 5, 6, 0] (by decide) rfl dX12_odds_64 ?_
  obtain ⟨n, H⟩ := H
  exact l_X12_odds_66  n _ _ _ H
def B_X12_odds_22 (Q : Int32 → AH → Prop)  (v0 : Nat) (v1 : Int32) (v2 : Int32) (v3 : Int32) (h : AH) : Prop :=
  f_X12_in v3.toInt64 (0 : Int64) (4 : Int64) h (fun x1 h2 => ((¬ (x1 = 0) → gI h2 v0 12 12 (fun x3 => ((¬ (x3 = 0) → B_X12_odds_53 Q  v0 v1 v2 v3 h2) ∧ (x3 = 0 → ((v3 ≤ 0 → B_X12_odds_53 Q  v0 v1 v2 v3 h2) ∧ (¬ (v3 ≤ 0) → isO h2 v0 12 ∧ f_X12_find v0 (4 : Int32) h2 (fun x4 h5 => Q x4 h5))))))) ∧ (x1 = 0 → Q (-1 : Int32) h2)))
set_option maxRecDepth 100000 in
set_option maxHeartbeats 4000000 in
theorem b_X12_odds_22 {o : Om} {Q : Int32 → AH → Prop}  {v0 : Nat} {v1 : Int32} {v2 : Int32} {v3 : Int32} {h : AH}  (H : B_X12_odds_22 Q  v0 v1 v2 v3 h) : AQ o kX12_odds h 22 [(0, .ref v0), (1, .int v1), (2, .int v2), (3, .int v3)] [] (qI Q) := by
  refine a_iload_n 3 rfl rfl dX12_odds_22 ?_
  refine a_i2l dX12_odds_23 ?_
  refine a_lconst (v := (0 : Int64)) (by decide) dX12_odds_24 ?_
  refine a_ldc2 (v := (4 : Int64)) wd1464 dX12_odds_25 ?_
  refine r_Si (av := [.long v3.toInt64, .long (0 : Int64), .long (4 : Int64)]) (rest := []) rfl rfl okX12_in wd1188 wd1189 ⟨Nat.le_of_ble_eq_true rfl, Nat.le_of_ble_eq_true rfl⟩ (Nat.le_of_ble_eq_true rfl) dX12_odds_28 (s_X12_in H) (fun x1 h2 H => ?_)
  refine a_if_ne (tgt := 36) dX12_odds_31 (by decide) (fun c => ?_) (fun c => ?_)
  · have H := H.1 (c)
    refine a_aload_n 0 rfl rfl dX12_odds_36 ?_
    refine r_gI fo_RX12_181_12 dX12_odds_37 H (fun x3 H => ?_)
    refine a_if_ne (tgt := 53) dX12_odds_40 (by decide) (fun c => ?_) (fun c => ?_)
    · have H := H.1 (c)
      exact b_X12_odds_53  H
    · have H := H.2 (c)
      refine a_iload_n 3 rfl rfl dX12_odds_43 ?_
      refine a_if_le (tgt := 53) dX12_odds_44 (by decide) (fun c => ?_) (fun c => ?_)
      · have H := H.1 (c)
        exact b_X12_odds_53  H
      · have H := H.2 (c)
        refine a_aload_n 0 rfl rfl dX12_odds_47 ?_
        refine a_iconst (v := (4 : Int32)) (by decide) dX12_odds_48 ?_
        refine r_Vi (q := (RX12, TX12, 51)) (av := [.int (4 : Int32)]) (rest := []) rfl rfl okX12_find H.1 rfl rfl wd1191 wd1193 wp31 ⟨Nat.le_of_ble_eq_true rfl, Nat.le_of_ble_eq_true rfl⟩ (Nat.le_of_ble_eq_true rfl) dX12_odds_49 (s_X12_find H.2) (fun x4 h5 H => ?_)
        exact r_reti rfl dX12_odds_52 H
  · have H := H.2 (c)
    refine a_iconst (v := (-1 : Int32)) (by decide) dX12_odds_34 ?_
    exact r_reti rfl dX12_odds_35 H
def f_X12_odds (v0 : Nat) (v1 : Int32) (v2 : Int32) (v3 : Int32) (h : AH) (Q : Int32 → AH → Prop) : Prop :=
  isO h v0 12 ∧ f_X12_isStone v0 v1 h (fun x1 h2 => ((x1 = 0 → Q (-1 : Int32) h2) ∧ (¬ (x1 = 0) → ((v2 = (-9 : Int32) → B_X12_odds_22 Q  v0 v1 v2 v3 h2) ∧ (¬ (v2 = (-9 : Int32)) → isO h2 v0 12 ∧ f_X12_isPost v0 v2 h2 (fun x3 h4 => ((x3 = 0 → Q (-1 : Int32) h4) ∧ (¬ (x3 = 0) → B_X12_odds_22 Q  v0 v1 v2 v3 h4))))))))
set_option maxRecDepth 100000 in
set_option maxHeartbeats 4000000 in
theorem s_X12_odds {o : Om} {v0 : Nat} {v1 : Int32} {v2 : Int32} {v3 : Int32} {h : AH} {Q : Int32 → AH → Prop} (H : f_X12_odds v0 v1 v2 v3 h Q) : MQ' o kX12_odds [.ref v0, .int v1, .int v2, .int v3] h (qI Q) := by
  refine MQ'.of (by decide +kernel) (Nat.le_of_ble_eq_true rfl) ?_
  show AQ o kX12_odds h 0 [(0, .ref v0), (1, .int v1), (2, .int v2), (3, .int v3)] [] (qI Q)
  refine a_aload_n 0 rfl rfl dX12_odds_0 ?_
  refine a_iload_n 1 rfl rfl dX12_odds_1 ?_
  refine r_Vi (q := (RX12, TX12, 51)) (av := [.int v1]) (rest := []) rfl rfl okX12_isStone H.1 rfl rfl wd1282 wd1284 wp42 ⟨Nat.le_of_ble_eq_true rfl, Nat.le_of_ble_eq_true rfl⟩ (Nat.le_of_ble_eq_true rfl) dX12_odds_2 (s_X12_isStone H.2) (fun x1 h2 H => ?_)
  refine a_if_eq (tgt := 34) dX12_odds_5 (by decide) (fun c => ?_) (fun c => ?_)
  · have H := H.1 (c)
    refine a_iconst (v := (-1 : Int32)) (by decide) dX12_odds_34 ?_
    exact r_reti rfl dX12_odds_35 H
  · have H := H.2 (c)
    refine a_iload_n 2 rfl rfl dX12_odds_8 ?_
    refine a_bipush (v := (-9 : Int32)) (by decide) dX12_odds_9 ?_
    refine a_icmp_eq (tgt := 22) dX12_odds_11 (by decide) (fun c => ?_) (fun c => ?_)
    · have H := H.1 (c)
      exact b_X12_odds_22  H
    · have H := H.2 (c)
      refine a_aload_n 0 rfl rfl dX12_odds_14 ?_
      refine a_iload_n 2 rfl rfl dX12_odds_15 ?_
      refine r_Vi (q := (RX12, TX12, 51)) (av := [.int v2]) (rest := []) rfl rfl okX12_isPost H.1 rfl rfl wd1391 wd1393 wp54 ⟨Nat.le_of_ble_eq_true rfl, Nat.le_of_ble_eq_true rfl⟩ (Nat.le_of_ble_eq_true rfl) dX12_odds_16 (s_X12_isPost H.2) (fun x3 h4 H => ?_)
      refine a_if_eq (tgt := 34) dX12_odds_19 (by decide) (fun c => ?_) (fun c => ?_)
      · have H := H.1 (c)
        refine a_iconst (v := (-1 : Int32)) (by decide) dX12_odds_34 ?_
        exact r_reti rfl dX12_odds_35 H
      · have H := H.2 (c)
        exact b_X12_odds_22  H
def B_X5_fullestPost_4 (Q : Int32 → AH → Prop) (K4 : Int32 → Int32 → AH → Prop) (v0 : Nat) (v1 : Int32) (v2 : Int32) (v3 : Int32) (h : AH) : Prop :=
  gI h v0 5 4 (fun x1 => ((x1 ≤ v3 → Q v2 h) ∧ (¬ (x1 ≤ v3) → isO h v0 5 ∧ f_X5_heapAt v0 v1 v3 h (fun x2 h3 => isO h3 v0 5 ∧ f_X5_heapAt v0 v1 v2 h3 (fun x4 h5 => ((x2 ≤ x4 → K4 v2 (v3 + 1) h5) ∧ (¬ (x2 ≤ x4) → K4 v3 (v3 + 1) h5)))))))
set_option maxRecDepth 100000 in
set_option maxHeartbeats 4000000 in
theorem b_X5_fullestPost_4 {o : Om} {Q : Int32 → AH → Prop} {K4 : Int32 → Int32 → AH → Prop} {v0 : Nat} {v1 : Int32} {v2 : Int32} {v3 : Int32} {h : AH} (hK4 : ∀ w2 w3 h, K4 w2 w3 h → AQ o kX5_fullestPost h 4 [(0, .ref v0), (1, .int v1), (2, .int w2), (3, .int w3)] [] (qI Q)) (H : B_X5_fullestPost_4 Q K4 v0 v1 v2 v3 h) : AQ o kX5_fullestPost h 4 [(0, .ref v0), (1, .int v1), (2, .int v2), (3, .int v3)] [] (qI Q) := by
  refine a_iload_n 3 rfl rfl dX5_fullestPost_4 ?_
  refine a_aload_n 0 rfl rfl dX5_fullestPost_5 ?_
  refine r_gI fo_RX5_27_5 dX5_fullestPost_6 H (fun x1 H => ?_)
  refine a_icmp_ge (tgt := 35) dX5_fullestPost_9 (by decide) (fun c => ?_) (fun c => ?_)
  · have H := H.1 (c)
    refine a_iload_n 2 rfl rfl dX5_fullestPost_35 ?_
    exact r_reti rfl dX5_fullestPost_36 H
  · have H := H.2 (c)
    refine a_aload_n 0 rfl rfl dX5_fullestPost_12 ?_
    refine a_iload_n 1 rfl rfl dX5_fullestPost_13 ?_
    refine a_iload_n 3 rfl rfl dX5_fullestPost_14 ?_
    refine r_Vi (q := (RX5, TX5, 10)) (av := [.int v1, .int v3]) (rest := []) rfl rfl okX5_heapAt H.1 rfl rfl wd734 wd735 wd736 ⟨Nat.le_of_ble_eq_true rfl, Nat.le_of_ble_eq_true rfl⟩ (Nat.le_of_ble_eq_true rfl) dX5_fullestPost_15 (s_X5_heapAt H.2) (fun x2 h3 H => ?_)
    refine a_aload_n 0 rfl rfl dX5_fullestPost_18 ?_
    refine a_iload_n 1 rfl rfl dX5_fullestPost_19 ?_
    refine a_iload_n 2 rfl rfl dX5_fullestPost_20 ?_
    refine r_Vi (q := (RX5, TX5, 10)) (av := [.int v1, .int v2]) (rest := [.int x2]) rfl rfl okX5_heapAt H.1 rfl rfl wd734 wd735 wd736 ⟨Nat.le_of_ble_eq_true rfl, Nat.le_of_ble_eq_true rfl⟩ (Nat.le_of_ble_eq_true rfl) dX5_fullestPost_21 (s_X5_heapAt H.2) (fun x4 h5 H => ?_)
    refine a_icmp_le (tgt := 29) dX5_fullestPost_24 (by decide) (fun c => ?_) (fun c => ?_)
    · have H := H.1 (c)
      refine a_iinc (v := v3 + 1) (lv1 := [(0, .ref v0), (1, .int v1), (2, .int v2), (3, .int (v3 + 1))]) [1, 2, 3, 0] 3 rfl (by decide) rfl rfl dX5_fullestPost_29 ?_
      refine a_goto (tgt := 4) dX5_fullestPost_32 (by decide) ?_
      exact hK4 _ _ _ H
    · have H := H.2 (c)
      refine a_iload_n 3 rfl rfl dX5_fullestPost_27 ?_
      refine a_istore_n (lv1 := [(0, .ref v0), (1, .int v1), (2, .int v3), (3, .int v3)]) rfl [1, 2, 0, 3] (by decide) rfl dX5_fullestPost_28 ?_
      refine a_iinc (v := v3 + 1) (lv1 := [(0, .ref v0), (1, .int v1), (2, .int v3), (3, .int (v3 + 1))]) [1, 2, 3, 0] 3 rfl (by decide) rfl rfl dX5_fullestPost_29 ?_
      refine a_goto (tgt := 4) dX5_fullestPost_32 (by decide) ?_
      exact hK4 _ _ _ H
def L_X5_fullestPost_4 (Q : Int32 → AH → Prop)  (v0 : Nat) (v1 : Int32) : Nat → Int32 → Int32 → AH → Prop
  | 0, _, _, _ => False
  | n + 1, v2, v3, h => B_X5_fullestPost_4 Q (L_X5_fullestPost_4 Q  v0 v1 n) v0 v1 v2 v3 h
theorem l_X5_fullestPost_4 {o : Om} {Q : Int32 → AH → Prop}  {v0 : Nat} {v1 : Int32}  : ∀ (n : Nat) (v2 : Int32) (v3 : Int32) (h : AH), L_X5_fullestPost_4 Q  v0 v1 n v2 v3 h → AQ o kX5_fullestPost h 4 [(0, .ref v0), (1, .int v1), (2, .int v2), (3, .int v3)] [] (qI Q) := by
  intro n
  induction n with
  | zero => intro v2 v3 h H; exact H.elim
  | succ n ih => intro v2 v3 h H; exact b_X5_fullestPost_4 ih H
def f_X5_fullestPost (v0 : Nat) (v1 : Int32) (h : AH) (Q : Int32 → AH → Prop) : Prop :=
  ∃ n, L_X5_fullestPost_4 Q  v0 v1 n (0 : Int32) (1 : Int32) h
set_option maxRecDepth 100000 in
set_option maxHeartbeats 4000000 in
theorem s_X5_fullestPost {o : Om} {v0 : Nat} {v1 : Int32} {h : AH} {Q : Int32 → AH → Prop} (H : f_X5_fullestPost v0 v1 h Q) : MQ' o kX5_fullestPost [.ref v0, .int v1] h (qI Q) := by
  refine MQ'.of (by decide +kernel) (Nat.le_of_ble_eq_true rfl) ?_
  show AQ o kX5_fullestPost h 0 [(0, .ref v0), (1, .int v1)] [] (qI Q)
  refine a_iconst (v := (0 : Int32)) (by decide) dX5_fullestPost_0 ?_
  refine a_istore_n (lv1 := [(0, .ref v0), (1, .int v1), (2, .int (0 : Int32))]) rfl [1, 2, 0] (by decide) rfl dX5_fullestPost_1 ?_
  refine a_iconst (v := (1 : Int32)) (by decide) dX5_fullestPost_2 ?_
  refine a_istore_n (lv1 := [(0, .ref v0), (1, .int v1), (2, .int (0 : Int32)), (3, .int (1 : Int32))]) rfl [1, 2, 3, 0] (by decide) rfl dX5_fullestPost_3 ?_
  obtain ⟨n, H⟩ := H
  exact l_X5_fullestPost_4  n _ _ _ H
def B_X11_years_69 (Q : Int32 → AH → Prop) (K69 : Int64 → Int32 → AH → Prop) (v0 : Nat) (v1 : Int32) (v3 : Int64) (v5 : Int32) (h : AH) : Prop :=
  ((v1 ≤ v5 → gR h v0 11 8 (fun a1 => gR h v0 11 6 (fun a2 => gI h a2 9 3 (fun x3 => isO h a1 5 ∧ f_X5_fullestPost a1 x3 h (fun x4 h5 => pF h5 v0 11 12 (.int x4) (fun h6 => gR h6 v0 11 8 (fun a7 => gR h6 v0 11 6 (fun a8 => gI h6 a8 9 3 (fun x9 => isO h6 a7 5 ∧ f_X5_farFromHome a7 x9 h6 (fun x10 h11 => Q x10 h11)))))))))) ∧ (¬ (v1 ≤ v5) → gR h v0 11 6 (fun a12 => gR h v0 11 8 (fun a13 => gI h a13 5 6 (fun x14 => (¬ x14.toInt64 = 0) ∧ (isO h a12 9 ∧ f_X9_send a12 (((((48271 : Int64) * v3) - ((48271 : Int64) * v3) / (2147483647 : Int64) * (2147483647 : Int64)) - (((48271 : Int64) * v3) - ((48271 : Int64) * v3) / (2147483647 : Int64) * (2147483647 : Int64)) / x14.toInt64 * x14.toInt64).toInt32) h (fun h15 => K69 (((48271 : Int64) * v3) - ((48271 : Int64) * v3) / (2147483647 : Int64) * (2147483647 : Int64)) (v5 + 1) h15)))))))
set_option maxRecDepth 100000 in
set_option maxHeartbeats 4000000 in
theorem b_X11_years_69 {o : Om} {Q : Int32 → AH → Prop} {K69 : Int64 → Int32 → AH → Prop} {v0 : Nat} {v1 : Int32} {v3 : Int64} {v5 : Int32} {h : AH} (hK69 : ∀ w3 w5 h, K69 w3 w5 h → AQ o kX11_years h 69 [(0, .ref v0), (1, .int v1), (3, .long w3), (5, .int w5)] [] (qI Q)) (H : B_X11_years_69 Q K69 v0 v1 v3 v5 h) : AQ o kX11_years h 69 [(0, .ref v0), (1, .int v1), (3, .long v3), (5, .int v5)] [] (qI Q) := by
  refine a_iload 3 rfl dX11_years_69 ?_
  refine a_iload_n 1 rfl rfl dX11_years_71 ?_
  refine a_icmp_ge (tgt := 109) dX11_years_72 (by decide) (fun c => ?_) (fun c => ?_)
  · have H := H.1 (c)
    refine a_aload_n 0 rfl rfl dX11_years_109 ?_
    refine a_aload_n 0 rfl rfl dX11_years_110 ?_
    refine r_gR fo_RX11_60_11 dX11_years_111 H (fun a1 H => ?_)
    refine a_aload_n 0 rfl rfl dX11_years_114 ?_
    refine r_gR fo_RX11_67_11 dX11_years_115 H (fun a2 H => ?_)
    refine r_gI fo_RX11_179_9 dX11_years_118 H (fun x3 H => ?_)
    refine r_Vi (q := (RX5, TX5, 10)) (av := [.int x3]) (rest := [.ref v0]) rfl rfl okX5_fullestPost H.1 rfl rfl wd963 wd964 wd965 ⟨Nat.le_of_ble_eq_true rfl, Nat.le_of_ble_eq_true rfl⟩ (Nat.le_of_ble_eq_true rfl) dX11_years_121 (s_X5_fullestPost H.2) (fun x4 h5 H => ?_)
    refine r_pF (po_RX11_44_11 _) (fun _ => rfl) (fun _ => rfl) dX11_years_124 H (fun h6 H => ?_)
    refine a_aload_n 0 rfl rfl dX11_years_127 ?_
    refine r_gR fo_RX11_60_11 dX11_years_128 H (fun a7 H => ?_)
    refine a_aload_n 0 rfl rfl dX11_years_131 ?_
    refine r_gR fo_RX11_67_11 dX11_years_132 H (fun a8 H => ?_)
    refine r_gI fo_RX11_179_9 dX11_years_135 H (fun x9 H => ?_)
    refine r_Vi (q := (RX5, TX5, 10)) (av := [.int x9]) (rest := []) rfl rfl okX5_farFromHome H.1 rfl rfl wd714 wd715 wd716 ⟨Nat.le_of_ble_eq_true rfl, Nat.le_of_ble_eq_true rfl⟩ (Nat.le_of_ble_eq_true rfl) dX11_years_138 (s_X5_farFromHome H.2) (fun x10 h11 H => ?_)
    exact r_reti rfl dX11_years_141 H
  · have H := H.2 (c)
    refine a_ldc2 (v := (48271 : Int64)) wd962 dX11_years_75 ?_
    refine a_lload_n 2 rfl rfl dX11_years_78 ?_
    refine a_lmul dX11_years_79 ?_
    refine a_ldc2 (v := (2147483647 : Int64)) wd961 dX11_years_80 ?_
    refine a_lrem (by decide) dX11_years_83 ?_
    refine a_lstore_n (lv1 := [(0, .ref v0), (1, .int v1), (3, .long (((48271 : Int64) * v3) - ((48271 : Int64) * v3) / (2147483647 : Int64) * (2147483647 : Int64))), (5, .int v5)]) rfl [1, 2, 0, 3] (by decide) rfl dX11_years_84 ?_
    refine a_aload_n 0 rfl rfl dX11_years_85 ?_
    refine r_gR fo_RX11_67_11 dX11_years_86 H (fun a12 H => ?_)
    refine a_lload_n 2 rfl rfl dX11_years_89 ?_
    refine a_aload_n 0 rfl rfl dX11_years_90 ?_
    refine r_gR fo_RX11_60_11 dX11_years_91 H (fun a13 H => ?_)
    refine r_gI fo_RX11_153_5 dX11_years_94 H (fun x14 H => ?_)
    refine a_i2l dX11_years_97 ?_
    refine a_lrem H.1 dX11_years_98 ?_
    have H := H.2
    refine a_l2i dX11_years_99 ?_
    refine r_Vv (q := (RX9, TX9, 8)) (av := [.int (((((48271 : Int64) * v3) - ((48271 : Int64) * v3) / (2147483647 : Int64) * (2147483647 : Int64)) - (((48271 : Int64) * v3) - ((48271 : Int64) * v3) / (2147483647 : Int64) * (2147483647 : Int64)) / x14.toInt64 * x14.toInt64).toInt32)]) (rest := []) rfl rfl okX9_send H.1 rfl rfl wd685 wd686 wd687 ⟨Nat.le_of_ble_eq_true rfl, Nat.le_of_ble_eq_true rfl⟩ (Nat.le_of_ble_eq_true rfl) dX11_years_100 (s_X9_send H.2) (fun h15 H => ?_)
    refine a_iinc (v := v5 + 1) (lv1 := [(0, .ref v0), (1, .int v1), (3, .long (((48271 : Int64) * v3) - ((48271 : Int64) * v3) / (2147483647 : Int64) * (2147483647 : Int64))), (5, .int (v5 + 1))]) [1, 2, 3, 0] 3 rfl (by decide) rfl rfl dX11_years_103 ?_
    refine a_goto (tgt := 69) dX11_years_106 (by decide) ?_
    exact hK69 _ _ _ H
def L_X11_years_69 (Q : Int32 → AH → Prop)  (v0 : Nat) (v1 : Int32) : Nat → Int64 → Int32 → AH → Prop
  | 0, _, _, _ => False
  | n + 1, v3, v5, h => B_X11_years_69 Q (L_X11_years_69 Q  v0 v1 n) v0 v1 v3 v5 h
theorem l_X11_years_69 {o : Om} {Q : Int32 → AH → Prop}  {v0 : Nat} {v1 : Int32}  : ∀ (n : Nat) (v3 : Int64) (v5 : Int32) (h : AH), L_X11_years_69 Q  v0 v1 n v3 v5 h → AQ o kX11_years h 69 [(0, .ref v0), (1, .int v1), (3, .long v3), (5, .int v5)] [] (qI Q) := by
  intro n
  induction n with
  | zero => intro v3 v5 h H; exact H.elim
  | succ n ih => intro v3 v5 h H; exact b_X11_years_69 ih H
def f_X11_years (v0 : Nat) (v1 : Int32) (v2 : Int32) (h : AH) (Q : Int32 → AH → Prop) : Prop :=
  ((v1 < (1 : Int32) → Q (-1 : Int32) h) ∧ (¬ (v1 < (1 : Int32)) → (((200 : Int32) < v1 → Q (-1 : Int32) h) ∧ (¬ ((200 : Int32) < v1) → ((v2 < (1 : Int32) → Q (-1 : Int32) h) ∧ (¬ (v2 < (1 : Int32)) → ((v2.toInt64 < (2147483647 : Int64) → gR h v0 11 8 (fun a1 => gI h a1 5 6 (fun x2 => ((¬ (x2 = 0) → gR h v0 11 6 (fun a3 => gR h v0 11 8 (fun a4 => gI h v0 11 9 (fun x5 => gI h v0 11 10 (fun x6 => isO h a3 9 ∧ f_X9_begin a3 a4 x5 x6 h (fun h7 => ∃ n, L_X11_years_69 Q  v0 v1 n v2.toInt64 (0 : Int32) h7)))))) ∧ (x2 = 0 → isO h v0 11 ∧ f_X11_found v0 (4 : Int32) h (fun x8 h9 => Q x8 h9)))))) ∧ (¬ (v2.toInt64 < (2147483647 : Int64)) → Q (-1 : Int32) h))))))))
set_option maxRecDepth 100000 in
set_option maxHeartbeats 4000000 in
theorem s_X11_years {o : Om} {v0 : Nat} {v1 : Int32} {v2 : Int32} {h : AH} {Q : Int32 → AH → Prop} (H : f_X11_years v0 v1 v2 h Q) : MQ' o kX11_years [.ref v0, .int v1, .int v2] h (qI Q) := by
  refine MQ'.of (by decide +kernel) (Nat.le_of_ble_eq_true rfl) ?_
  show AQ o kX11_years h 0 [(0, .ref v0), (1, .int v1), (2, .int v2)] [] (qI Q)
  refine a_iload_n 1 rfl rfl dX11_years_0 ?_
  refine a_iconst (v := (1 : Int32)) (by decide) dX11_years_1 ?_
  refine a_icmp_lt (tgt := 26) dX11_years_2 (by decide) (fun c => ?_) (fun c => ?_)
  · have H := H.1 (c)
    refine a_iconst (v := (-1 : Int32)) (by decide) dX11_years_26 ?_
    exact r_reti rfl dX11_years_27 H
  · have H := H.2 (c)
    refine a_iload_n 1 rfl rfl dX11_years_5 ?_
    refine a_sipush (v := (200 : Int32)) (by decide) dX11_years_6 ?_
    refine a_icmp_gt (tgt := 26) dX11_years_9 (by decide) (fun c => ?_) (fun c => ?_)
    · have H := H.1 (c)
      refine a_iconst (v := (-1 : Int32)) (by decide) dX11_years_26 ?_
      exact r_reti rfl dX11_years_27 H
    · have H := H.2 (c)
      refine a_iload_n 2 rfl rfl dX11_years_12 ?_
      refine a_iconst (v := (1 : Int32)) (by decide) dX11_years_13 ?_
      refine a_icmp_lt (tgt := 26) dX11_years_14 (by decide) (fun c => ?_) (fun c => ?_)
      · have H := H.1 (c)
        refine a_iconst (v := (-1 : Int32)) (by decide) dX11_years_26 ?_
        exact r_reti rfl dX11_years_27 H
      · have H := H.2 (c)
        refine a_iload_n 2 rfl rfl dX11_years_17 ?_
        refine a_i2l dX11_years_18 ?_
        refine a_ldc2 (v := (2147483647 : Int64)) wd961 dX11_years_19 ?_
        refine a_lcmp dX11_years_22 ?_
        refine a_if_lt (tgt := 28) dX11_years_23 (by decide) (fun c => ?_) (fun c => ?_)
        · have H := H.1 ((lgc_lt _ _).mp c)
          refine a_aload_n 0 rfl rfl dX11_years_28 ?_
          refine r_gR fo_RX11_60_11 dX11_years_29 H (fun a1 H => ?_)
          refine r_gI fo_RX11_153_5 dX11_years_32 H (fun x2 H => ?_)
          refine a_if_ne (tgt := 44) dX11_years_35 (by decide) (fun c => ?_) (fun c => ?_)
          · have H := H.1 (c)
            refine a_aload_n 0 rfl rfl dX11_years_44 ?_
            refine r_gR fo_RX11_67_11 dX11_years_45 H (fun a3 H => ?_)
            refine a_aload_n 0 rfl rfl dX11_years_48 ?_
            refine r_gR fo_RX11_60_11 dX11_years_49 H (fun a4 H => ?_)
            refine a_aload_n 0 rfl rfl dX11_years_52 ?_
            refine r_gI fo_RX11_34_11 dX11_years_53 H (fun x5 H => ?_)
            refine a_aload_n 0 rfl rfl dX11_years_56 ?_
            refine r_gI fo_RX11_38_11 dX11_years_57 H (fun x6 H => ?_)
            refine r_Vv (q := (RX9, TX9, 8)) (av := [.ref a4, .int x5, .int x6]) (rest := []) rfl rfl okX9_begin H.1 rfl rfl wd570 wd571 wd572 ⟨Nat.le_of_ble_eq_true rfl, Nat.le_of_ble_eq_true rfl⟩ (Nat.le_of_ble_eq_true rfl) dX11_years_60 (s_X9_begin H.2) (fun h7 H => ?_)
            refine a_iload_n 2 rfl rfl dX11_years_63 ?_
            refine a_i2l dX11_years_64 ?_
            refine a_lstore_n (lv1 := [(0, .ref v0), (1, .int v1), (2, .int v2), (3, .long v2.toInt64)]) rfl [1, 2, 3, 0] (by decide) rfl dX11_years_65 ?_
            refine a_iconst (v := (0 : Int32)) (by decide) dX11_years_66 ?_
            refine a_istore (lv1 := [(0, .ref v0), (1, .int v1), (2, .int v2), (3, .long v2.toInt64), (5, .int (0 : Int32))]) [1, 2, 3, 4, 0] (by decide) rfl dX11_years_67 ?_
            refine AQ.sub (lv1 := [(0, .ref v0), (1, .int v1), (3, .long v2.toInt64), (5, .int (0 : Int32))]) [0, 1, 3, 4] rfl ?_
            obtain ⟨n, H⟩ := H
            exact l_X11_years_69  n _ _ _ H
          · have H := H.2 (c)
            refine a_aload_n 0 rfl rfl dX11_years_38 ?_
            refine a_iconst (v := (4 : Int32)) (by decide) dX11_years_39 ?_
            refine r_Vi (q := (RX11, TX11, 16)) (av := [.int (4 : Int32)]) (rest := []) rfl rfl okX11_found H.1 rfl rfl wd260 wd262 wp0 ⟨Nat.le_of_ble_eq_true rfl, Nat.le_of_ble_eq_true rfl⟩ (Nat.le_of_ble_eq_true rfl) dX11_years_40 (s_X11_found H.2) (fun x8 h9 H => ?_)
            exact r_reti rfl dX11_years_43 H
        · have H := H.2 (fun q => c ((lgc_lt _ _).mpr q))
          refine a_iconst (v := (-1 : Int32)) (by decide) dX11_years_26 ?_
          exact r_reti rfl dX11_years_27 H
def B_X12_years_115 (Q : Int32 → AH → Prop) (K100 : Int32 → Int32 → AH → Prop) (K115 : Int32 → Int32 → AH → Prop) (v0 : Nat) (v3 : Int32) (v6 : Int32) (v7 : Int32) (v8 : Int32) (v9 : Int32) (h : AH) : Prop :=
  gI h v0 12 10 (fun x1 => ((x1 ≤ v9 → ((v8 ≤ v6 → K100 v6 (v7 + 1) h) ∧ (¬ (v8 ≤ v6) → pF h v0 12 4 (.int v7) (fun h2 => K100 v8 (v7 + 1) h2)))) ∧ (¬ (x1 ≤ v9) → f_X12_spotOf v3 v9 h (fun x3 h4 => ((¬ (x3 = v7) → K115 (v8 + (0 : Int32)) (v9 + 1) h4) ∧ (x3 = v7 → K115 (v8 + (1 : Int32)) (v9 + 1) h4))))))
set_option maxRecDepth 100000 in
set_option maxHeartbeats 4000000 in
theorem b_X12_years_115 {o : Om} {Q : Int32 → AH → Prop} {K100 : Int32 → Int32 → AH → Prop} {K115 : Int32 → Int32 → AH → Prop} {v0 : Nat} {v3 : Int32} {v6 : Int32} {v7 : Int32} {v8 : Int32} {v9 : Int32} {h : AH} (hK100 : ∀ w6 w7 h, K100 w6 w7 h → AQ o kX12_years h 100 [(0, .ref v0), (3, .int v3), (6, .int w6), (7, .int w7)] [] (qI Q)) (hK115 : ∀ w8 w9 h, K115 w8 w9 h → AQ o kX12_years h 115 [(0, .ref v0), (3, .int v3), (6, .int v6), (7, .int v7), (8, .int w8), (9, .int w9)] [] (qI Q)) (H : B_X12_years_115 Q K100 K115 v0 v3 v6 v7 v8 v9 h) : AQ o kX12_years h 115 [(0, .ref v0), (3, .int v3), (6, .int v6), (7, .int v7), (8, .int v8), (9, .int v9)] [] (qI Q) := by
  refine a_iload 5 rfl dX12_years_115 ?_
  refine a_aload_n 0 rfl rfl dX12_years_117 ?_
  refine r_gI fo_RX12_178_12 dX12_years_118 H (fun x1 H => ?_)
  refine a_icmp_ge (tgt := 151) dX12_years_121 (by decide) (fun c => ?_) (fun c => ?_)
  · have H := H.1 (c)
    refine a_iload 4 rfl dX12_years_151 ?_
    refine a_iload 2 rfl dX12_years_153 ?_
    refine a_icmp_le (tgt := 168) dX12_years_155 (by decide) (fun c => ?_) (fun c => ?_)
    · have H := H.1 (c)
      refine a_iinc (v := v7 + 1) (lv1 := [(0, .ref v0), (3, .int v3), (6, .int v6), (7, .int (v7 + 1)), (8, .int v8), (9, .int v9)]) [1, 2, 3, 0, 4, 5] 3 rfl (by decide) rfl rfl dX12_years_168 ?_
      refine a_goto (tgt := 100) dX12_years_171 (by decide) ?_
      refine AQ.sub (lv1 := [(0, .ref v0), (3, .int v3), (6, .int v6), (7, .int (v7 + 1))]) [0, 1, 2, 3] rfl ?_
      exact hK100 _ _ _ H
    · have H := H.2 (c)
      refine a_iload 4 rfl dX12_years_158 ?_
      refine a_istore (lv1 := [(0, .ref v0), (3, .int v3), (6, .int v8), (7, .int v7), (8, .int v8), (9, .int v9)]) [1, 2, 0, 3, 4, 5] (by decide) rfl dX12_years_160 ?_
      refine a_aload_n 0 rfl rfl dX12_years_162 ?_
      refine a_iload 3 rfl dX12_years_163 ?_
      refine r_pF (po_RX12_104_12 _) (fun _ => rfl) (fun _ => rfl) dX12_years_165 H (fun h2 H => ?_)
      refine a_iinc (v := v7 + 1) (lv1 := [(0, .ref v0), (3, .int v3), (6, .int v8), (7, .int (v7 + 1)), (8, .int v8), (9, .int v9)]) [1, 2, 3, 0, 4, 5] 3 rfl (by decide) rfl rfl dX12_years_168 ?_
      refine a_goto (tgt := 100) dX12_years_171 (by decide) ?_
      refine AQ.sub (lv1 := [(0, .ref v0), (3, .int v3), (6, .int v8), (7, .int (v7 + 1))]) [0, 1, 2, 3] rfl ?_
      exact hK100 _ _ _ H
  · have H := H.2 (c)
    refine a_iload 4 rfl dX12_years_124 ?_
    refine a_iload_n 1 rfl rfl dX12_years_126 ?_
    refine a_iload 5 rfl dX12_years_127 ?_
    refine r_Si (av := [.int v3, .int v9]) (rest := [.int v8]) rfl rfl okX12_spotOf wd1286 wd1287 ⟨Nat.le_of_ble_eq_true rfl, Nat.le_of_ble_eq_true rfl⟩ (Nat.le_of_ble_eq_true rfl) dX12_years_129 (s_X12_spotOf H) (fun x3 h4 H => ?_)
    refine a_iload 3 rfl dX12_years_132 ?_
    refine a_icmp_ne (tgt := 141) dX12_years_134 (by decide) (fun c => ?_) (fun c => ?_)
    · have H := H.1 (c)
      refine a_iconst (v := (0 : Int32)) (by decide) dX12_years_141 ?_
      refine a_iadd dX12_years_142 ?_
      refine a_istore (lv1 := [(0, .ref v0), (3, .int v3), (6, .int v6), (7, .int v7), (8, .int (v8 + (0 : Int32))), (9, .int v9)]) [1, 2, 3, 4, 0, 5] (by decide) rfl dX12_years_143 ?_
      refine a_iinc (v := v9 + 1) (lv1 := [(0, .ref v0), (3, .int v3), (6, .int v6), (7, .int v7), (8, .int (v8 + (0 : Int32))), (9, .int (v9 + 1))]) [1, 2, 3, 4, 5, 0] 5 rfl (by decide) rfl rfl dX12_years_145 ?_
      refine a_goto (tgt := 115) dX12_years_148 (by decide) ?_
      exact hK115 _ _ _ H
    · have H := H.2 (c)
      refine a_iconst (v := (1 : Int32)) (by decide) dX12_years_137 ?_
      refine a_goto (tgt := 142) dX12_years_138 (by decide) ?_
      refine a_iadd dX12_years_142 ?_
      refine a_istore (lv1 := [(0, .ref v0), (3, .int v3), (6, .int v6), (7, .int v7), (8, .int (v8 + (1 : Int32))), (9, .int v9)]) [1, 2, 3, 4, 0, 5] (by decide) rfl dX12_years_143 ?_
      refine a_iinc (v := v9 + 1) (lv1 := [(0, .ref v0), (3, .int v3), (6, .int v6), (7, .int v7), (8, .int (v8 + (1 : Int32))), (9, .int (v9 + 1))]) [1, 2, 3, 4, 5, 0] 5 rfl (by decide) rfl rfl dX12_years_145 ?_
      refine a_goto (tgt := 115) dX12_years_148 (by decide) ?_
      exact hK115 _ _ _ H
def L_X12_years_115 (Q : Int32 → AH → Prop) (K100 : Int32 → Int32 → AH → Prop) (v0 : Nat) (v3 : Int32) (v6 : Int32) (v7 : Int32) : Nat → Int32 → Int32 → AH → Prop
  | 0, _, _, _ => False
  | n + 1, v8, v9, h => B_X12_years_115 Q K100 (L_X12_years_115 Q K100 v0 v3 v6 v7 n) v0 v3 v6 v7 v8 v9 h
theorem l_X12_years_115 {o : Om} {Q : Int32 → AH → Prop} {K100 : Int32 → Int32 → AH → Prop} {v0 : Nat} {v3 : Int32} {v6 : Int32} {v7 : Int32} (hK100 : ∀ w6 w7 h, K100 w6 w7 h → AQ o kX12_years h 100 [(0, .ref v0), (3, .int v3), (6, .int w6), (7, .int w7)] [] (qI Q)) : ∀ (n : Nat) (v8 : Int32) (v9 : Int32) (h : AH), L_X12_years_115 Q K100 v0 v3 v6 v7 n v8 v9 h → AQ o kX12_years h 115 [(0, .ref v0), (3, .int v3), (6, .int v6), (7, .int v7), (8, .int v8), (9, .int v9)] [] (qI Q) := by
  intro n
  induction n with
  | zero => intro v8 v9 h H; exact H.elim
  | succ n ih => intro v8 v9 h H; exact b_X12_years_115 hK100 ih H
def B_X12_years_100 (Q : Int32 → AH → Prop) (K100 : Int32 → Int32 → AH → Prop) (v0 : Nat) (v3 : Int32) (v6 : Int32) (v7 : Int32) (h : AH) : Prop :=
  gI h v0 12 9 (fun x1 => ((x1 ≤ v7 → isO h v0 12 ∧ f_X12_apartOf v0 v3 h (fun x2 h3 => Q x2 h3)) ∧ (¬ (x1 ≤ v7) → ∃ n, L_X12_years_115 Q K100 v0 v3 v6 v7 n (0 : Int32) (0 : Int32) h)))
set_option maxRecDepth 100000 in
set_option maxHeartbeats 4000000 in
theorem b_X12_years_100 {o : Om} {Q : Int32 → AH → Prop} {K100 : Int32 → Int32 → AH → Prop} {v0 : Nat} {v3 : Int32} {v6 : Int32} {v7 : Int32} {h : AH} (hK100 : ∀ w6 w7 h, K100 w6 w7 h → AQ o kX12_years h 100 [(0, .ref v0), (3, .int v3), (6, .int w6), (7, .int w7)] [] (qI Q)) (H : B_X12_years_100 Q K100 v0 v3 v6 v7 h) : AQ o kX12_years h 100 [(0, .ref v0), (3, .int v3), (6, .int v6), (7, .int v7)] [] (qI Q) := by
  refine a_iload 3 rfl dX12_years_100 ?_
  refine a_aload_n 0 rfl rfl dX12_years_102 ?_
  refine r_gI fo_RX12_175_12 dX12_years_103 H (fun x1 H => ?_)
  refine a_icmp_ge (tgt := 174) dX12_years_106 (by decide) (fun c => ?_) (fun c => ?_)
  · have H := H.1 (c)
    refine a_aload_n 0 rfl rfl dX12_years_174 ?_
    refine a_iload_n 1 rfl rfl dX12_years_175 ?_
    refine r_Vi (q := (RX12, TX12, 51)) (av := [.int v3]) (rest := []) rfl rfl okX12_apartOf H.1 rfl rfl wd1355 wd1357 wp52 ⟨Nat.le_of_ble_eq_true rfl, Nat.le_of_ble_eq_true rfl⟩ (Nat.le_of_ble_eq_true rfl) dX12_years_176 (s_X12_apartOf H.2) (fun x2 h3 H => ?_)
    exact r_reti rfl dX12_years_179 H
  · have H := H.2 (c)
    refine a_iconst (v := (0 : Int32)) (by decide) dX12_years_109 ?_
    refine a_istore (lv1 := [(0, .ref v0), (3, .int v3), (6, .int v6), (7, .int v7), (8, .int (0 : Int32))]) [1, 2, 3, 4, 0] (by decide) rfl dX12_years_110 ?_
    refine a_iconst (v := (0 : Int32)) (by decide) dX12_years_112 ?_
    refine a_istore (lv1 := [(0, .ref v0), (3, .int v3), (6, .int v6), (7, .int v7), (8, .int (0 : Int32)), (9, .int (0 : Int32))]) [1, 2, 3, 4, 5, 0] (by decide) rfl dX12_years_113 ?_
    obtain ⟨n, H⟩ := H
    exact l_X12_years_115 hK100 n _ _ _ H
def L_X12_years_100 (Q : Int32 → AH → Prop)  (v0 : Nat) (v3 : Int32) : Nat → Int32 → Int32 → AH → Prop
  | 0, _, _, _ => False
  | n + 1, v6, v7, h => B_X12_years_100 Q (L_X12_years_100 Q  v0 v3 n) v0 v3 v6 v7 h
theorem l_X12_years_100 {o : Om} {Q : Int32 → AH → Prop}  {v0 : Nat} {v3 : Int32}  : ∀ (n : Nat) (v6 : Int32) (v7 : Int32) (h : AH), L_X12_years_100 Q  v0 v3 n v6 v7 h → AQ o kX12_years h 100 [(0, .ref v0), (3, .int v3), (6, .int v6), (7, .int v7)] [] (qI Q) := by
  intro n
  induction n with
  | zero => intro v6 v7 h H; exact H.elim
  | succ n ih => intro v6 v7 h H; exact b_X12_years_100 ih H
def B_X12_years_51 (Q : Int32 → AH → Prop) (K51 : Int32 → Int64 → Int32 → AH → Prop) (v0 : Nat) (v1 : Int32) (v3 : Int32) (v4 : Int64) (v6 : Int32) (h : AH) : Prop :=
  ((v1 ≤ v6 → ∃ n, L_X12_years_100 Q  v0 v3 n (-1 : Int32) (0 : Int32) h) ∧ (¬ (v1 ≤ v6) → gI h v0 12 12 (fun x1 => (¬ x1.toInt64 = 0) ∧ (gI h v0 12 16 (fun x2 => isO h v0 12 ∧ f_X12_behind v0 v3 ((((v4 * (48271 : Int64)) - (v4 * (48271 : Int64)) / (2147483647 : Int64) * (2147483647 : Int64)) - ((v4 * (48271 : Int64)) - (v4 * (48271 : Int64)) / (2147483647 : Int64) * (2147483647 : Int64)) / x1.toInt64 * x1.toInt64).toInt32) x2 h (fun x3 h4 => K51 x3 ((v4 * (48271 : Int64)) - (v4 * (48271 : Int64)) / (2147483647 : Int64) * (2147483647 : Int64)) (v6 + 1) h4))))))
set_option maxRecDepth 100000 in
set_option maxHeartbeats 4000000 in
theorem b_X12_years_51 {o : Om} {Q : Int32 → AH → Prop} {K51 : Int32 → Int64 → Int32 → AH → Prop} {v0 : Nat} {v1 : Int32} {v3 : Int32} {v4 : Int64} {v6 : Int32} {h : AH} (hK51 : ∀ w3 w4 w6 h, K51 w3 w4 w6 h → AQ o kX12_years h 51 [(0, .ref v0), (1, .int v1), (3, .int w3), (4, .long w4), (6, .int w6)] [] (qI Q)) (H : B_X12_years_51 Q K51 v0 v1 v3 v4 v6 h) : AQ o kX12_years h 51 [(0, .ref v0), (1, .int v1), (3, .int v3), (4, .long v4), (6, .int v6)] [] (qI Q) := by
  refine a_iload 4 rfl dX12_years_51 ?_
  refine a_iload_n 1 rfl rfl dX12_years_53 ?_
  refine a_icmp_ge (tgt := 94) dX12_years_54 (by decide) (fun c => ?_) (fun c => ?_)
  · have H := H.1 (c)
    refine a_iconst (v := (-1 : Int32)) (by decide) dX12_years_94 ?_
    refine a_istore (lv1 := [(0, .ref v0), (1, .int v1), (3, .int v3), (4, .long v4), (6, .int (-1 : Int32))]) [1, 2, 3, 4, 0] (by decide) rfl dX12_years_95 ?_
    refine a_iconst (v := (0 : Int32)) (by decide) dX12_years_97 ?_
    refine a_istore (lv1 := [(0, .ref v0), (1, .int v1), (3, .int v3), (4, .long v4), (6, .int (-1 : Int32)), (7, .int (0 : Int32))]) [1, 2, 3, 4, 5, 0] (by decide) rfl dX12_years_98 ?_
    refine AQ.sub (lv1 := [(0, .ref v0), (3, .int v3), (6, .int (-1 : Int32)), (7, .int (0 : Int32))]) [0, 2, 4, 5] rfl ?_
    obtain ⟨n, H⟩ := H
    exact l_X12_years_100  n _ _ _ H
  · have H := H.2 (c)
    refine a_lload 3 rfl dX12_years_57 ?_
    refine a_ldc2 (v := (48271 : Int64)) wd1495 dX12_years_59 ?_
    refine a_lmul dX12_years_62 ?_
    refine a_ldc2 (v := (2147483647 : Int64)) wd1496 dX12_years_63 ?_
    refine a_lrem (by decide) dX12_years_66 ?_
    refine a_lstore (lv1 := [(0, .ref v0), (1, .int v1), (3, .int v3), (4, .long ((v4 * (48271 : Int64)) - (v4 * (48271 : Int64)) / (2147483647 : Int64) * (2147483647 : Int64))), (6, .int v6)]) [1, 2, 3, 0, 4] (by decide) rfl dX12_years_67 ?_
    refine a_aload_n 0 rfl rfl dX12_years_69 ?_
    refine a_iload_n 2 rfl rfl dX12_years_70 ?_
    refine a_lload 3 rfl dX12_years_71 ?_
    refine a_aload_n 0 rfl rfl dX12_years_73 ?_
    refine r_gI fo_RX12_181_12 dX12_years_74 H (fun x1 H => ?_)
    refine a_i2l dX12_years_77 ?_
    refine a_lrem H.1 dX12_years_78 ?_
    have H := H.2
    refine a_l2i dX12_years_79 ?_
    refine a_aload_n 0 rfl rfl dX12_years_80 ?_
    refine r_gI fo_RX12_187_12 dX12_years_81 H (fun x2 H => ?_)
    refine r_Vi (q := (RX12, TX12, 51)) (av := [.int v3, .int ((((v4 * (48271 : Int64)) - (v4 * (48271 : Int64)) / (2147483647 : Int64) * (2147483647 : Int64)) - ((v4 * (48271 : Int64)) - (v4 * (48271 : Int64)) / (2147483647 : Int64) * (2147483647 : Int64)) / x1.toInt64 * x1.toInt64).toInt32), .int x2]) (rest := []) rfl rfl okX12_behind H.1 rfl rfl wd1311 wd1313 wp45 ⟨Nat.le_of_ble_eq_true rfl, Nat.le_of_ble_eq_true rfl⟩ (Nat.le_of_ble_eq_true rfl) dX12_years_84 (s_X12_behind H.2) (fun x3 h4 H => ?_)
    refine a_istore_n (lv1 := [(0, .ref v0), (1, .int v1), (3, .int x3), (4, .long ((v4 * (48271 : Int64)) - (v4 * (48271 : Int64)) / (2147483647 : Int64) * (2147483647 : Int64))), (6, .int v6)]) rfl [1, 2, 0, 3, 4] (by decide) rfl dX12_years_87 ?_
    refine a_iinc (v := v6 + 1) (lv1 := [(0, .ref v0), (1, .int v1), (3, .int x3), (4, .long ((v4 * (48271 : Int64)) - (v4 * (48271 : Int64)) / (2147483647 : Int64) * (2147483647 : Int64))), (6, .int (v6 + 1))]) [1, 2, 3, 4, 0] 4 rfl (by decide) rfl rfl dX12_years_88 ?_
    refine a_goto (tgt := 51) dX12_years_91 (by decide) ?_
    exact hK51 _ _ _ _ H
def L_X12_years_51 (Q : Int32 → AH → Prop)  (v0 : Nat) (v1 : Int32) : Nat → Int32 → Int64 → Int32 → AH → Prop
  | 0, _, _, _, _ => False
  | n + 1, v3, v4, v6, h => B_X12_years_51 Q (L_X12_years_51 Q  v0 v1 n) v0 v1 v3 v4 v6 h
theorem l_X12_years_51 {o : Om} {Q : Int32 → AH → Prop}  {v0 : Nat} {v1 : Int32}  : ∀ (n : Nat) (v3 : Int32) (v4 : Int64) (v6 : Int32) (h : AH), L_X12_years_51 Q  v0 v1 n v3 v4 v6 h → AQ o kX12_years h 51 [(0, .ref v0), (1, .int v1), (3, .int v3), (4, .long v4), (6, .int v6)] [] (qI Q) := by
  intro n
  induction n with
  | zero => intro v3 v4 v6 h H; exact H.elim
  | succ n ih => intro v3 v4 v6 h H; exact b_X12_years_51 ih H
def f_X12_years (v0 : Nat) (v1 : Int32) (v2 : Int32) (h : AH) (Q : Int32 → AH → Prop) : Prop :=
  f_X12_in v1.toInt64 (1 : Int64) (200 : Int64) h (fun x1 h2 => ((x1 = 0 → Q (-1 : Int32) h2) ∧ (¬ (x1 = 0) → f_X12_in v2.toInt64 (1 : Int64) (2147483646 : Int64) h2 (fun x3 h4 => ((¬ (x3 = 0) → gI h4 v0 12 12 (fun x5 => ((¬ (x5 = 0) → gI h4 v0 12 17 (fun x6 => ∃ n, L_X12_years_51 Q  v0 v1 n x6 v2.toInt64 (0 : Int32) h4)) ∧ (x5 = 0 → isO h4 v0 12 ∧ f_X12_find v0 (4 : Int32) h4 (fun x7 h8 => Q x7 h8))))) ∧ (x3 = 0 → Q (-1 : Int32) h4))))))
set_option maxRecDepth 100000 in
set_option maxHeartbeats 4000000 in
theorem s_X12_years {o : Om} {v0 : Nat} {v1 : Int32} {v2 : Int32} {h : AH} {Q : Int32 → AH → Prop} (H : f_X12_years v0 v1 v2 h Q) : MQ' o kX12_years [.ref v0, .int v1, .int v2] h (qI Q) := by
  refine MQ'.of (by decide +kernel) (Nat.le_of_ble_eq_true rfl) ?_
  show AQ o kX12_years h 0 [(0, .ref v0), (1, .int v1), (2, .int v2)] [] (qI Q)
  refine a_iload_n 1 rfl rfl dX12_years_0 ?_
  refine a_i2l dX12_years_1 ?_
  refine a_lconst (v := (1 : Int64)) (by decide) dX12_years_2 ?_
  refine a_ldc2 (v := (200 : Int64)) wd1493 dX12_years_3 ?_
  refine r_Si (av := [.long v1.toInt64, .long (1 : Int64), .long (200 : Int64)]) (rest := []) rfl rfl okX12_in wd1188 wd1189 ⟨Nat.le_of_ble_eq_true rfl, Nat.le_of_ble_eq_true rfl⟩ (Nat.le_of_ble_eq_true rfl) dX12_years_6 (s_X12_in H) (fun x1 h2 H => ?_)
  refine a_if_eq (tgt := 24) dX12_years_9 (by decide) (fun c => ?_) (fun c => ?_)
  · have H := H.1 (c)
    refine a_iconst (v := (-1 : Int32)) (by decide) dX12_years_24 ?_
    exact r_reti rfl dX12_years_25 H
  · have H := H.2 (c)
    refine a_iload_n 2 rfl rfl dX12_years_12 ?_
    refine a_i2l dX12_years_13 ?_
    refine a_lconst (v := (1 : Int64)) (by decide) dX12_years_14 ?_
    refine a_ldc2 (v := (2147483646 : Int64)) wd1494 dX12_years_15 ?_
    refine r_Si (av := [.long v2.toInt64, .long (1 : Int64), .long (2147483646 : Int64)]) (rest := []) rfl rfl okX12_in wd1188 wd1189 ⟨Nat.le_of_ble_eq_true rfl, Nat.le_of_ble_eq_true rfl⟩ (Nat.le_of_ble_eq_true rfl) dX12_years_18 (s_X12_in H) (fun x3 h4 H => ?_)
    refine a_if_ne (tgt := 26) dX12_years_21 (by decide) (fun c => ?_) (fun c => ?_)
    · have H := H.1 (c)
      refine a_aload_n 0 rfl rfl dX12_years_26 ?_
      refine r_gI fo_RX12_181_12 dX12_years_27 H (fun x5 H => ?_)
      refine a_if_ne (tgt := 39) dX12_years_30 (by decide) (fun c => ?_) (fun c => ?_)
      · have H := H.1 (c)
        refine a_aload_n 0 rfl rfl dX12_years_39 ?_
        refine r_gI fo_RX12_184_12 dX12_years_40 H (fun x6 H => ?_)
        refine a_istore_n (lv1 := [(0, .ref v0), (1, .int v1), (2, .int v2), (3, .int x6)]) rfl [1, 2, 3, 0] (by decide) rfl dX12_years_43 ?_
        refine a_iload_n 2 rfl rfl dX12_years_44 ?_
        refine a_i2l dX12_years_45 ?_
        refine a_lstore (lv1 := [(0, .ref v0), (1, .int v1), (2, .int v2), (3, .int x6), (4, .long v2.toInt64)]) [1, 2, 3, 4, 0] (by decide) rfl dX12_years_46 ?_
        refine a_iconst (v := (0 : Int32)) (by decide) dX12_years_48 ?_
        refine a_istore (lv1 := [(0, .ref v0), (1, .int v1), (2, .int v2), (3, .int x6), (4, .long v2.toInt64), (6, .int (0 : Int32))]) [1, 2, 3, 4, 5, 0] (by decide) rfl dX12_years_49 ?_
        refine AQ.sub (lv1 := [(0, .ref v0), (1, .int v1), (3, .int x6), (4, .long v2.toInt64), (6, .int (0 : Int32))]) [0, 1, 3, 4, 5] rfl ?_
        obtain ⟨n, H⟩ := H
        exact l_X12_years_51  n _ _ _ _ H
      · have H := H.2 (c)
        refine a_aload_n 0 rfl rfl dX12_years_33 ?_
        refine a_iconst (v := (4 : Int32)) (by decide) dX12_years_34 ?_
        refine r_Vi (q := (RX12, TX12, 51)) (av := [.int (4 : Int32)]) (rest := []) rfl rfl okX12_find H.1 rfl rfl wd1191 wd1193 wp31 ⟨Nat.le_of_ble_eq_true rfl, Nat.le_of_ble_eq_true rfl⟩ (Nat.le_of_ble_eq_true rfl) dX12_years_35 (s_X12_find H.2) (fun x7 h8 H => ?_)
        exact r_reti rfl dX12_years_38 H
    · have H := H.2 (c)
      refine a_iconst (v := (-1 : Int32)) (by decide) dX12_years_24 ?_
      exact r_reti rfl dX12_years_25 H
def f_X11_asked (v0 : Nat) (h : AH) (Q : Int32 → AH → Prop) : Prop :=
  gI h v0 11 12 (fun x1 => Q x1 h)
set_option maxRecDepth 100000 in
set_option maxHeartbeats 4000000 in
theorem s_X11_asked {o : Om} {v0 : Nat} {h : AH} {Q : Int32 → AH → Prop} (H : f_X11_asked v0 h Q) : MQ' o kX11_asked [.ref v0] h (qI Q) := by
  refine MQ'.of (by decide +kernel) (Nat.le_of_ble_eq_true rfl) ?_
  show AQ o kX11_asked h 0 [(0, .ref v0)] [] (qI Q)
  refine a_aload_n 0 rfl rfl dX11_asked_0 ?_
  refine r_gI fo_RX11_44_11 dX11_asked_1 H (fun x1 H => ?_)
  exact r_reti rfl dX11_asked_4 H
def f_X12_asked (v0 : Nat) (h : AH) (Q : Int32 → AH → Prop) : Prop :=
  gI h v0 12 4 (fun x1 => Q x1 h)
set_option maxRecDepth 100000 in
set_option maxHeartbeats 4000000 in
theorem s_X12_asked {o : Om} {v0 : Nat} {h : AH} {Q : Int32 → AH → Prop} (H : f_X12_asked v0 h Q) : MQ' o kX12_asked [.ref v0] h (qI Q) := by
  refine MQ'.of (by decide +kernel) (Nat.le_of_ble_eq_true rfl) ?_
  show AQ o kX12_asked h 0 [(0, .ref v0)] [] (qI Q)
  refine a_aload_n 0 rfl rfl dX12_asked_0 ?_
  refine r_gI fo_RX12_104_12 dX12_asked_1 H (fun x1 H => ?_)
  exact r_reti rfl dX12_asked_4 H
def f_X11_upper (v0 : Nat) (h : AH) (Q : Int64 → AH → Prop) : Prop :=
  gL h v0 11 13 (fun x1 => Q x1 h)
set_option maxRecDepth 100000 in
set_option maxHeartbeats 4000000 in
theorem s_X11_upper {o : Om} {v0 : Nat} {h : AH} {Q : Int64 → AH → Prop} (H : f_X11_upper v0 h Q) : MQ' o kX11_upper [.ref v0] h (qL Q) := by
  refine MQ'.of (by decide +kernel) (Nat.le_of_ble_eq_true rfl) ?_
  show AQ o kX11_upper h 0 [(0, .ref v0)] [] (qL Q)
  refine a_aload_n 0 rfl rfl dX11_upper_0 ?_
  refine r_gL fo_RX11_47_11 dX11_upper_1 H (fun x1 H => ?_)
  exact r_retl rfl dX11_upper_4 H
def f_X12_upper (v0 : Nat) (h : AH) (Q : Int64 → AH → Prop) : Prop :=
  gL h v0 12 5 (fun x1 => Q x1 h)
set_option maxRecDepth 100000 in
set_option maxHeartbeats 4000000 in
theorem s_X12_upper {o : Om} {v0 : Nat} {h : AH} {Q : Int64 → AH → Prop} (H : f_X12_upper v0 h Q) : MQ' o kX12_upper [.ref v0] h (qL Q) := by
  refine MQ'.of (by decide +kernel) (Nat.le_of_ble_eq_true rfl) ?_
  show AQ o kX12_upper h 0 [(0, .ref v0)] [] (qL Q)
  refine a_aload_n 0 rfl rfl dX12_upper_0 ?_
  refine r_gL fo_RX12_312_12 dX12_upper_1 H (fun x1 H => ?_)
  exact r_retl rfl dX12_upper_4 H
def f_X11_lower (v0 : Nat) (h : AH) (Q : Int64 → AH → Prop) : Prop :=
  gL h v0 11 14 (fun x1 => Q x1 h)
set_option maxRecDepth 100000 in
set_option maxHeartbeats 4000000 in
theorem s_X11_lower {o : Om} {v0 : Nat} {h : AH} {Q : Int64 → AH → Prop} (H : f_X11_lower v0 h Q) : MQ' o kX11_lower [.ref v0] h (qL Q) := by
  refine MQ'.of (by decide +kernel) (Nat.le_of_ble_eq_true rfl) ?_
  show AQ o kX11_lower h 0 [(0, .ref v0)] [] (qL Q)
  refine a_aload_n 0 rfl rfl dX11_lower_0 ?_
  refine r_gL fo_RX11_51_11 dX11_lower_1 H (fun x1 H => ?_)
  exact r_retl rfl dX11_lower_4 H
def f_X12_lower (v0 : Nat) (h : AH) (Q : Int64 → AH → Prop) : Prop :=
  gL h v0 12 6 (fun x1 => Q x1 h)
set_option maxRecDepth 100000 in
set_option maxHeartbeats 4000000 in
theorem s_X12_lower {o : Om} {v0 : Nat} {h : AH} {Q : Int64 → AH → Prop} (H : f_X12_lower v0 h Q) : MQ' o kX12_lower [.ref v0] h (qL Q) := by
  refine MQ'.of (by decide +kernel) (Nat.le_of_ble_eq_true rfl) ?_
  show AQ o kX12_lower h 0 [(0, .ref v0)] [] (qL Q)
  refine a_aload_n 0 rfl rfl dX12_lower_0 ?_
  refine r_gL fo_RX12_22_12 dX12_lower_1 H (fun x1 H => ?_)
  exact r_retl rfl dX12_lower_4 H
def B_X5_bothWays_4 (Q : Int32 → AH → Prop) (K4 : Int32 → Int32 → AH → Prop) (v0 : Nat) (v1 : Int32) (v2 : Int32) (h : AH) : Prop :=
  gI h v0 5 6 (fun x1 => ((x1 ≤ v2 → Q v1 h) ∧ (¬ (x1 ≤ v2) → gR h v0 5 3 (fun a2 => lQ h a2 4 v2 (fun a3 => iB h a3 (fun x4 => ((x4 = 0 → K4 v1 (v2 + 1) h) ∧ (¬ (x4 = 0) → K4 (v1 + 1) (v2 + 1) h))))))))
set_option maxRecDepth 100000 in
set_option maxHeartbeats 4000000 in
theorem b_X5_bothWays_4 {o : Om} {Q : Int32 → AH → Prop} {K4 : Int32 → Int32 → AH → Prop} {v0 : Nat} {v1 : Int32} {v2 : Int32} {h : AH} (hK4 : ∀ w1 w2 h, K4 w1 w2 h → AQ o kX5_bothWays h 4 [(0, .ref v0), (1, .int w1), (2, .int w2)] [] (qI Q)) (H : B_X5_bothWays_4 Q K4 v0 v1 v2 h) : AQ o kX5_bothWays h 4 [(0, .ref v0), (1, .int v1), (2, .int v2)] [] (qI Q) := by
  refine a_iload_n 2 rfl rfl dX5_bothWays_4 ?_
  refine a_aload_n 0 rfl rfl dX5_bothWays_5 ?_
  refine r_gI fo_RX5_34_5 dX5_bothWays_6 H (fun x1 H => ?_)
  refine a_icmp_ge (tgt := 33) dX5_bothWays_9 (by decide) (fun c => ?_) (fun c => ?_)
  · have H := H.1 (c)
    refine a_iload_n 1 rfl rfl dX5_bothWays_33 ?_
    exact r_reti rfl dX5_bothWays_34 H
  · have H := H.2 (c)
    refine a_aload_n 0 rfl rfl dX5_bothWays_12 ?_
    refine r_gR fo_RX5_23_5 dX5_bothWays_13 H (fun a2 H => ?_)
    refine a_iload_n 2 rfl rfl dX5_bothWays_16 ?_
    refine r_lQ (by decide) dX5_bothWays_17 H (fun a3 H => ?_)
    refine r_iB wd987 dX5_bothWays_18 H (fun x4 H => ?_)
    refine a_if_eq (tgt := 27) dX5_bothWays_21 (by decide) (fun c => ?_) (fun c => ?_)
    · have H := H.1 (c)
      refine a_iinc (v := v2 + 1) (lv1 := [(0, .ref v0), (1, .int v1), (2, .int (v2 + 1))]) [1, 2, 0] 2 rfl (by decide) rfl rfl dX5_bothWays_27 ?_
      refine a_goto (tgt := 4) dX5_bothWays_30 (by decide) ?_
      exact hK4 _ _ _ H
    · have H := H.2 (c)
      refine a_iinc (v := v1 + 1) (lv1 := [(0, .ref v0), (1, .int (v1 + 1)), (2, .int v2)]) [1, 0, 2] 1 rfl (by decide) rfl rfl dX5_bothWays_24 ?_
      refine a_iinc (v := v2 + 1) (lv1 := [(0, .ref v0), (1, .int (v1 + 1)), (2, .int (v2 + 1))]) [1, 2, 0] 2 rfl (by decide) rfl rfl dX5_bothWays_27 ?_
      refine a_goto (tgt := 4) dX5_bothWays_30 (by decide) ?_
      exact hK4 _ _ _ H
def L_X5_bothWays_4 (Q : Int32 → AH → Prop)  (v0 : Nat) : Nat → Int32 → Int32 → AH → Prop
  | 0, _, _, _ => False
  | n + 1, v1, v2, h => B_X5_bothWays_4 Q (L_X5_bothWays_4 Q  v0 n) v0 v1 v2 h
theorem l_X5_bothWays_4 {o : Om} {Q : Int32 → AH → Prop}  {v0 : Nat}  : ∀ (n : Nat) (v1 : Int32) (v2 : Int32) (h : AH), L_X5_bothWays_4 Q  v0 n v1 v2 h → AQ o kX5_bothWays h 4 [(0, .ref v0), (1, .int v1), (2, .int v2)] [] (qI Q) := by
  intro n
  induction n with
  | zero => intro v1 v2 h H; exact H.elim
  | succ n ih => intro v1 v2 h H; exact b_X5_bothWays_4 ih H
def f_X5_bothWays (v0 : Nat) (h : AH) (Q : Int32 → AH → Prop) : Prop :=
  ∃ n, L_X5_bothWays_4 Q  v0 n (0 : Int32) (0 : Int32) h
set_option maxRecDepth 100000 in
set_option maxHeartbeats 4000000 in
theorem s_X5_bothWays {o : Om} {v0 : Nat} {h : AH} {Q : Int32 → AH → Prop} (H : f_X5_bothWays v0 h Q) : MQ' o kX5_bothWays [.ref v0] h (qI Q) := by
  refine MQ'.of (by decide +kernel) (Nat.le_of_ble_eq_true rfl) ?_
  show AQ o kX5_bothWays h 0 [(0, .ref v0)] [] (qI Q)
  refine a_iconst (v := (0 : Int32)) (by decide) dX5_bothWays_0 ?_
  refine a_istore_n (lv1 := [(0, .ref v0), (1, .int (0 : Int32))]) rfl [1, 0] (by decide) rfl dX5_bothWays_1 ?_
  refine a_iconst (v := (0 : Int32)) (by decide) dX5_bothWays_2 ?_
  refine a_istore_n (lv1 := [(0, .ref v0), (1, .int (0 : Int32)), (2, .int (0 : Int32))]) rfl [1, 2, 0] (by decide) rfl dX5_bothWays_3 ?_
  obtain ⟨n, H⟩ := H
  exact l_X5_bothWays_4  n _ _ _ H
def B_X11_thereOf_4 (Q : Int32 → AH → Prop) (K4 : Int32 → Int32 → AH → Prop) (v0 : Nat) (v1 : Int32) (v2 : Int32) (h : AH) : Prop :=
  aL h v0 2 (fun x1 => ((x1 ≤ v2 → Q v1 h) ∧ (¬ (x1 ≤ v2) → lQ h v0 2 v2 (fun a2 => isO h a2 6 ∧ f_X6_isMissing a2  h (fun x3 h4 => ((¬ (x3 = 0) → K4 v1 (v2 + 1) h4) ∧ (x3 = 0 → K4 (v1 + 1) (v2 + 1) h4)))))))
set_option maxRecDepth 100000 in
set_option maxHeartbeats 4000000 in
theorem b_X11_thereOf_4 {o : Om} {Q : Int32 → AH → Prop} {K4 : Int32 → Int32 → AH → Prop} {v0 : Nat} {v1 : Int32} {v2 : Int32} {h : AH} (hK4 : ∀ w1 w2 h, K4 w1 w2 h → AQ o kX11_thereOf h 4 [(0, .ref v0), (1, .int w1), (2, .int w2)] [] (qI Q)) (H : B_X11_thereOf_4 Q K4 v0 v1 v2 h) : AQ o kX11_thereOf h 4 [(0, .ref v0), (1, .int v1), (2, .int v2)] [] (qI Q) := by
  refine a_iload_n 2 rfl rfl dX11_thereOf_4 ?_
  refine a_aload_n 0 rfl rfl dX11_thereOf_5 ?_
  refine r_aL (by decide) dX11_thereOf_6 H (fun x1 H => ?_)
  refine a_icmp_ge (tgt := 28) dX11_thereOf_7 (by decide) (fun c => ?_) (fun c => ?_)
  · have H := H.1 (c)
    refine a_iload_n 1 rfl rfl dX11_thereOf_28 ?_
    exact r_reti rfl dX11_thereOf_29 H
  · have H := H.2 (c)
    refine a_aload_n 0 rfl rfl dX11_thereOf_10 ?_
    refine a_iload_n 2 rfl rfl dX11_thereOf_11 ?_
    refine r_lQ (by decide) dX11_thereOf_12 H (fun a2 H => ?_)
    refine r_Vi (q := (RX6, TX6, 2)) (av := []) (rest := []) rfl rfl okX6_isMissing H.1 rfl rfl wd287 wd288 wd289 ⟨Nat.le_of_ble_eq_true rfl, Nat.le_of_ble_eq_true rfl⟩ (Nat.le_of_ble_eq_true rfl) dX11_thereOf_13 (s_X6_isMissing H.2) (fun x3 h4 H => ?_)
    refine a_if_ne (tgt := 22) dX11_thereOf_16 (by decide) (fun c => ?_) (fun c => ?_)
    · have H := H.1 (c)
      refine a_iinc (v := v2 + 1) (lv1 := [(0, .ref v0), (1, .int v1), (2, .int (v2 + 1))]) [1, 2, 0] 2 rfl (by decide) rfl rfl dX11_thereOf_22 ?_
      refine a_goto (tgt := 4) dX11_thereOf_25 (by decide) ?_
      exact hK4 _ _ _ H
    · have H := H.2 (c)
      refine a_iinc (v := v1 + 1) (lv1 := [(0, .ref v0), (1, .int (v1 + 1)), (2, .int v2)]) [1, 0, 2] 1 rfl (by decide) rfl rfl dX11_thereOf_19 ?_
      refine a_iinc (v := v2 + 1) (lv1 := [(0, .ref v0), (1, .int (v1 + 1)), (2, .int (v2 + 1))]) [1, 2, 0] 2 rfl (by decide) rfl rfl dX11_thereOf_22 ?_
      refine a_goto (tgt := 4) dX11_thereOf_25 (by decide) ?_
      exact hK4 _ _ _ H
def L_X11_thereOf_4 (Q : Int32 → AH → Prop)  (v0 : Nat) : Nat → Int32 → Int32 → AH → Prop
  | 0, _, _, _ => False
  | n + 1, v1, v2, h => B_X11_thereOf_4 Q (L_X11_thereOf_4 Q  v0 n) v0 v1 v2 h
theorem l_X11_thereOf_4 {o : Om} {Q : Int32 → AH → Prop}  {v0 : Nat}  : ∀ (n : Nat) (v1 : Int32) (v2 : Int32) (h : AH), L_X11_thereOf_4 Q  v0 n v1 v2 h → AQ o kX11_thereOf h 4 [(0, .ref v0), (1, .int v1), (2, .int v2)] [] (qI Q) := by
  intro n
  induction n with
  | zero => intro v1 v2 h H; exact H.elim
  | succ n ih => intro v1 v2 h H; exact b_X11_thereOf_4 ih H
def f_X11_thereOf (v0 : Nat) (h : AH) (Q : Int32 → AH → Prop) : Prop :=
  ∃ n, L_X11_thereOf_4 Q  v0 n (0 : Int32) (0 : Int32) h
set_option maxRecDepth 100000 in
set_option maxHeartbeats 4000000 in
theorem s_X11_thereOf {o : Om} {v0 : Nat} {h : AH} {Q : Int32 → AH → Prop} (H : f_X11_thereOf v0 h Q) : MQ' o kX11_thereOf [.ref v0] h (qI Q) := by
  refine MQ'.of (by decide +kernel) (Nat.le_of_ble_eq_true rfl) ?_
  show AQ o kX11_thereOf h 0 [(0, .ref v0)] [] (qI Q)
  refine a_iconst (v := (0 : Int32)) (by decide) dX11_thereOf_0 ?_
  refine a_istore_n (lv1 := [(0, .ref v0), (1, .int (0 : Int32))]) rfl [1, 0] (by decide) rfl dX11_thereOf_1 ?_
  refine a_iconst (v := (0 : Int32)) (by decide) dX11_thereOf_2 ?_
  refine a_istore_n (lv1 := [(0, .ref v0), (1, .int (0 : Int32)), (2, .int (0 : Int32))]) rfl [1, 2, 0] (by decide) rfl dX11_thereOf_3 ?_
  obtain ⟨n, H⟩ := H
  exact l_X11_thereOf_4  n _ _ _ H
def B_X5_lameOnes_4 (Q : Int32 → AH → Prop) (K4 : Int32 → Int32 → AH → Prop) (v0 : Nat) (v1 : Int32) (v2 : Int32) (h : AH) : Prop :=
  gI h v0 5 6 (fun x1 => ((x1 ≤ v2 → Q v1 h) ∧ (¬ (x1 ≤ v2) → gR h v0 5 3 (fun a2 => lQ h a2 4 v2 (fun a3 => iLm h a3 (fun x4 => ((x4 = 0 → K4 v1 (v2 + 1) h) ∧ (¬ (x4 = 0) → K4 (v1 + 1) (v2 + 1) h))))))))
set_option maxRecDepth 100000 in
set_option maxHeartbeats 4000000 in
theorem b_X5_lameOnes_4 {o : Om} {Q : Int32 → AH → Prop} {K4 : Int32 → Int32 → AH → Prop} {v0 : Nat} {v1 : Int32} {v2 : Int32} {h : AH} (hK4 : ∀ w1 w2 h, K4 w1 w2 h → AQ o kX5_lameOnes h 4 [(0, .ref v0), (1, .int w1), (2, .int w2)] [] (qI Q)) (H : B_X5_lameOnes_4 Q K4 v0 v1 v2 h) : AQ o kX5_lameOnes h 4 [(0, .ref v0), (1, .int v1), (2, .int v2)] [] (qI Q) := by
  refine a_iload_n 2 rfl rfl dX5_lameOnes_4 ?_
  refine a_aload_n 0 rfl rfl dX5_lameOnes_5 ?_
  refine r_gI fo_RX5_34_5 dX5_lameOnes_6 H (fun x1 H => ?_)
  refine a_icmp_ge (tgt := 33) dX5_lameOnes_9 (by decide) (fun c => ?_) (fun c => ?_)
  · have H := H.1 (c)
    refine a_iload_n 1 rfl rfl dX5_lameOnes_33 ?_
    exact r_reti rfl dX5_lameOnes_34 H
  · have H := H.2 (c)
    refine a_aload_n 0 rfl rfl dX5_lameOnes_12 ?_
    refine r_gR fo_RX5_23_5 dX5_lameOnes_13 H (fun a2 H => ?_)
    refine a_iload_n 2 rfl rfl dX5_lameOnes_16 ?_
    refine r_lQ (by decide) dX5_lameOnes_17 H (fun a3 H => ?_)
    refine r_iLm wd995 dX5_lameOnes_18 H (fun x4 H => ?_)
    refine a_if_eq (tgt := 27) dX5_lameOnes_21 (by decide) (fun c => ?_) (fun c => ?_)
    · have H := H.1 (c)
      refine a_iinc (v := v2 + 1) (lv1 := [(0, .ref v0), (1, .int v1), (2, .int (v2 + 1))]) [1, 2, 0] 2 rfl (by decide) rfl rfl dX5_lameOnes_27 ?_
      refine a_goto (tgt := 4) dX5_lameOnes_30 (by decide) ?_
      exact hK4 _ _ _ H
    · have H := H.2 (c)
      refine a_iinc (v := v1 + 1) (lv1 := [(0, .ref v0), (1, .int (v1 + 1)), (2, .int v2)]) [1, 0, 2] 1 rfl (by decide) rfl rfl dX5_lameOnes_24 ?_
      refine a_iinc (v := v2 + 1) (lv1 := [(0, .ref v0), (1, .int (v1 + 1)), (2, .int (v2 + 1))]) [1, 2, 0] 2 rfl (by decide) rfl rfl dX5_lameOnes_27 ?_
      refine a_goto (tgt := 4) dX5_lameOnes_30 (by decide) ?_
      exact hK4 _ _ _ H
def L_X5_lameOnes_4 (Q : Int32 → AH → Prop)  (v0 : Nat) : Nat → Int32 → Int32 → AH → Prop
  | 0, _, _, _ => False
  | n + 1, v1, v2, h => B_X5_lameOnes_4 Q (L_X5_lameOnes_4 Q  v0 n) v0 v1 v2 h
theorem l_X5_lameOnes_4 {o : Om} {Q : Int32 → AH → Prop}  {v0 : Nat}  : ∀ (n : Nat) (v1 : Int32) (v2 : Int32) (h : AH), L_X5_lameOnes_4 Q  v0 n v1 v2 h → AQ o kX5_lameOnes h 4 [(0, .ref v0), (1, .int v1), (2, .int v2)] [] (qI Q) := by
  intro n
  induction n with
  | zero => intro v1 v2 h H; exact H.elim
  | succ n ih => intro v1 v2 h H; exact b_X5_lameOnes_4 ih H
def f_X5_lameOnes (v0 : Nat) (h : AH) (Q : Int32 → AH → Prop) : Prop :=
  ∃ n, L_X5_lameOnes_4 Q  v0 n (0 : Int32) (0 : Int32) h
set_option maxRecDepth 100000 in
set_option maxHeartbeats 4000000 in
theorem s_X5_lameOnes {o : Om} {v0 : Nat} {h : AH} {Q : Int32 → AH → Prop} (H : f_X5_lameOnes v0 h Q) : MQ' o kX5_lameOnes [.ref v0] h (qI Q) := by
  refine MQ'.of (by decide +kernel) (Nat.le_of_ble_eq_true rfl) ?_
  show AQ o kX5_lameOnes h 0 [(0, .ref v0)] [] (qI Q)
  refine a_iconst (v := (0 : Int32)) (by decide) dX5_lameOnes_0 ?_
  refine a_istore_n (lv1 := [(0, .ref v0), (1, .int (0 : Int32))]) rfl [1, 0] (by decide) rfl dX5_lameOnes_1 ?_
  refine a_iconst (v := (0 : Int32)) (by decide) dX5_lameOnes_2 ?_
  refine a_istore_n (lv1 := [(0, .ref v0), (1, .int (0 : Int32)), (2, .int (0 : Int32))]) rfl [1, 2, 0] (by decide) rfl dX5_lameOnes_3 ?_
  obtain ⟨n, H⟩ := H
  exact l_X5_lameOnes_4  n _ _ _ H
def f_X11_count (v0 : Nat) (v1 : Int32) (h : AH) (Q : Int32 → AH → Prop) : Prop :=
  ((v1 = 0 → gR h v0 11 8 (fun a1 => gI h a1 5 4 (fun x2 => Q x2 h))) ∧ (v1 = 1 → gR h v0 11 8 (fun a3 => gI h a3 5 5 (fun x4 => Q x4 h))) ∧ (v1 = 2 → gR h v0 11 8 (fun a5 => gI h v0 11 9 (fun x6 => isO h a5 5 ∧ f_X5_lostOf a5 x6 h (fun x7 h8 => Q x7 h8)))) ∧ (v1 = 3 → gR h v0 11 8 (fun a9 => gI h a9 5 6 (fun x10 => Q x10 h))) ∧ (v1 = 4 → gI h v0 11 11 (fun x11 => Q x11 h)) ∧ (v1 = 5 → gR h v0 11 8 (fun a12 => isO h a12 5 ∧ f_X5_bothWays a12  h (fun x13 h14 => Q x13 h14))) ∧ (v1 = 6 → gR h v0 11 0 (fun a15 => f_X11_thereOf a15 h (fun x16 h17 => Q x16 h17))) ∧ (v1 = 7 → gR h v0 11 1 (fun a18 => f_X11_thereOf a18 h (fun x19 h20 => Q x19 h20))) ∧ (v1 = 8 → gR h v0 11 8 (fun a21 => isO h a21 5 ∧ f_X5_lameOnes a21  h (fun x22 h23 => Q x22 h23))) ∧ (¬ v1 = 0 → ¬ v1 = 1 → ¬ v1 = 2 → ¬ v1 = 3 → ¬ v1 = 4 → ¬ v1 = 5 → ¬ v1 = 6 → ¬ v1 = 7 → ¬ v1 = 8 → Q (-1 : Int32) h))
set_option maxRecDepth 100000 in
set_option maxHeartbeats 4000000 in
theorem s_X11_count {o : Om} {v0 : Nat} {v1 : Int32} {h : AH} {Q : Int32 → AH → Prop} (H : f_X11_count v0 v1 h Q) : MQ' o kX11_count [.ref v0, .int v1] h (qI Q) := by
  refine MQ'.of (by decide +kernel) (Nat.le_of_ble_eq_true rfl) ?_
  show AQ o kX11_count h 0 [(0, .ref v0), (1, .int v1)] [] (qI Q)
  refine a_iload_n 1 rfl rfl dX11_count_0 ?_
  by_cases c0 : v1 = 0
  · have H := H.1 c0
    refine r_tab (off := 51) (tgt := 52) dX11_count_1 c0 (by decide) (by decide) rfl (by decide) ?_
    refine a_aload_n 0 rfl rfl dX11_count_52 ?_
    refine r_gR fo_RX11_60_11 dX11_count_53 H (fun a1 H => ?_)
    refine r_gI fo_RX11_198_5 dX11_count_56 H (fun x2 H => ?_)
    exact r_reti rfl dX11_count_59 H
  by_cases c1 : v1 = 1
  · have H := H.2.1 c1
    refine r_tab (off := 59) (tgt := 60) dX11_count_1 c1 (by decide) (by decide) rfl (by decide) ?_
    refine a_aload_n 0 rfl rfl dX11_count_60 ?_
    refine r_gR fo_RX11_60_11 dX11_count_61 H (fun a3 H => ?_)
    refine r_gI fo_RX11_146_5 dX11_count_64 H (fun x4 H => ?_)
    exact r_reti rfl dX11_count_67 H
  by_cases c2 : v1 = 2
  · have H := H.2.2.1 c2
    refine r_tab (off := 67) (tgt := 68) dX11_count_1 c2 (by decide) (by decide) rfl (by decide) ?_
    refine a_aload_n 0 rfl rfl dX11_count_68 ?_
    refine r_gR fo_RX11_60_11 dX11_count_69 H (fun a5 H => ?_)
    refine a_aload_n 0 rfl rfl dX11_count_72 ?_
    refine r_gI fo_RX11_34_11 dX11_count_73 H (fun x6 H => ?_)
    refine r_Vi (q := (RX5, TX5, 10)) (av := [.int x6]) (rest := []) rfl rfl okX5_lostOf H.1 rfl rfl wd730 wd731 wd732 ⟨Nat.le_of_ble_eq_true rfl, Nat.le_of_ble_eq_true rfl⟩ (Nat.le_of_ble_eq_true rfl) dX11_count_76 (s_X5_lostOf H.2) (fun x7 h8 H => ?_)
    exact r_reti rfl dX11_count_79 H
  by_cases c3 : v1 = 3
  · have H := H.2.2.2.1 c3
    refine r_tab (off := 79) (tgt := 80) dX11_count_1 c3 (by decide) (by decide) rfl (by decide) ?_
    refine a_aload_n 0 rfl rfl dX11_count_80 ?_
    refine r_gR fo_RX11_60_11 dX11_count_81 H (fun a9 H => ?_)
    refine r_gI fo_RX11_153_5 dX11_count_84 H (fun x10 H => ?_)
    exact r_reti rfl dX11_count_87 H
  by_cases c4 : v1 = 4
  · have H := H.2.2.2.2.1 c4
    refine r_tab (off := 87) (tgt := 88) dX11_count_1 c4 (by decide) (by decide) rfl (by decide) ?_
    refine a_aload_n 0 rfl rfl dX11_count_88 ?_
    refine r_gI fo_RX11_41_11 dX11_count_89 H (fun x11 H => ?_)
    exact r_reti rfl dX11_count_92 H
  by_cases c5 : v1 = 5
  · have H := H.2.2.2.2.2.1 c5
    refine r_tab (off := 92) (tgt := 93) dX11_count_1 c5 (by decide) (by decide) rfl (by decide) ?_
    refine a_aload_n 0 rfl rfl dX11_count_93 ?_
    refine r_gR fo_RX11_60_11 dX11_count_94 H (fun a12 H => ?_)
    refine r_Vi (q := (RX5, TX5, 10)) (av := []) (rest := []) rfl rfl okX5_bothWays H.1 rfl rfl wd983 wd984 wd985 ⟨Nat.le_of_ble_eq_true rfl, Nat.le_of_ble_eq_true rfl⟩ (Nat.le_of_ble_eq_true rfl) dX11_count_97 (s_X5_bothWays H.2) (fun x13 h14 H => ?_)
    exact r_reti rfl dX11_count_100 H
  by_cases c6 : v1 = 6
  · have H := H.2.2.2.2.2.2.1 c6
    refine r_tab (off := 100) (tgt := 101) dX11_count_1 c6 (by decide) (by decide) rfl (by decide) ?_
    refine a_aload_n 0 rfl rfl dX11_count_101 ?_
    refine r_gR fo_RX11_11_11 dX11_count_102 H (fun a15 H => ?_)
    refine r_Si (av := [.ref a15]) (rest := []) rfl rfl okX11_thereOf wd988 wd989 ⟨Nat.le_of_ble_eq_true rfl, Nat.le_of_ble_eq_true rfl⟩ (Nat.le_of_ble_eq_true rfl) dX11_count_105 (s_X11_thereOf H) (fun x16 h17 H => ?_)
    exact r_reti rfl dX11_count_108 H
  by_cases c7 : v1 = 7
  · have H := H.2.2.2.2.2.2.2.1 c7
    refine r_tab (off := 108) (tgt := 109) dX11_count_1 c7 (by decide) (by decide) rfl (by decide) ?_
    refine a_aload_n 0 rfl rfl dX11_count_109 ?_
    refine r_gR fo_RX11_15_11 dX11_count_110 H (fun a18 H => ?_)
    refine r_Si (av := [.ref a18]) (rest := []) rfl rfl okX11_thereOf wd988 wd989 ⟨Nat.le_of_ble_eq_true rfl, Nat.le_of_ble_eq_true rfl⟩ (Nat.le_of_ble_eq_true rfl) dX11_count_113 (s_X11_thereOf H) (fun x19 h20 H => ?_)
    exact r_reti rfl dX11_count_116 H
  by_cases c8 : v1 = 8
  · have H := H.2.2.2.2.2.2.2.2.1 c8
    refine r_tab (off := 116) (tgt := 117) dX11_count_1 c8 (by decide) (by decide) rfl (by decide) ?_
    refine a_aload_n 0 rfl rfl dX11_count_117 ?_
    refine r_gR fo_RX11_60_11 dX11_count_118 H (fun a21 H => ?_)
    refine r_Vi (q := (RX5, TX5, 10)) (av := []) (rest := []) rfl rfl okX5_lameOnes H.1 rfl rfl wd991 wd992 wd993 ⟨Nat.le_of_ble_eq_true rfl, Nat.le_of_ble_eq_true rfl⟩ (Nat.le_of_ble_eq_true rfl) dX11_count_121 (s_X5_lameOnes H.2) (fun x22 h23 H => ?_)
    exact r_reti rfl dX11_count_124 H
  have H := H.2.2.2.2.2.2.2.2.2 c0 c1 c2 c3 c4 c5 c6 c7 c8
  have e0 := lv_neT (a := 0) c0 (by decide)
  have e1 := lv_neT (a := 1) c1 (by decide)
  have e2 := lv_neT (a := 2) c2 (by decide)
  have e3 := lv_neT (a := 3) c3 (by decide)
  have e4 := lv_neT (a := 4) c4 (by decide)
  have e5 := lv_neT (a := 5) c5 (by decide)
  have e6 := lv_neT (a := 6) c6 (by decide)
  have e7 := lv_neT (a := 7) c7 (by decide)
  have e8 := lv_neT (a := 8) c8 (by decide)
  refine a_tableOut (tgt := 125) dX11_count_1 (by omega) (by decide) ?_
  refine a_iconst (v := (-1 : Int32)) (by decide) dX11_count_125 ?_
  exact r_reti rfl dX11_count_126 H
def B_X12_ofKind_4 (Q : Int32 → AH → Prop) (K4 : Int32 → Int32 → AH → Prop) (v0 : Nat) (v1 : Int32) (v2 : Int32) (v3 : Int32) (h : AH) : Prop :=
  gI h v0 12 12 (fun x1 => ((x1 ≤ v3 → Q v2 h) ∧ (¬ (x1 ≤ v3) → gR h v0 12 13 (fun a2 => lI h a2 v3 (fun x3 => f_X12_isOf x3 v1 h (fun x4 h5 => ((x4 = 0 → K4 (v2 + (0 : Int32)) (v3 + 1) h5) ∧ (¬ (x4 = 0) → K4 (v2 + (1 : Int32)) (v3 + 1) h5))))))))
set_option maxRecDepth 100000 in
set_option maxHeartbeats 4000000 in
theorem b_X12_ofKind_4 {o : Om} {Q : Int32 → AH → Prop} {K4 : Int32 → Int32 → AH → Prop} {v0 : Nat} {v1 : Int32} {v2 : Int32} {v3 : Int32} {h : AH} (hK4 : ∀ w2 w3 h, K4 w2 w3 h → AQ o kX12_ofKind h 4 [(0, .ref v0), (1, .int v1), (2, .int w2), (3, .int w3)] [] (qI Q)) (H : B_X12_ofKind_4 Q K4 v0 v1 v2 v3 h) : AQ o kX12_ofKind h 4 [(0, .ref v0), (1, .int v1), (2, .int v2), (3, .int v3)] [] (qI Q) := by
  refine a_iload_n 3 rfl rfl dX12_ofKind_4 ?_
  refine a_aload_n 0 rfl rfl dX12_ofKind_5 ?_
  refine r_gI fo_RX12_181_12 dX12_ofKind_6 H (fun x1 H => ?_)
  refine a_icmp_ge (tgt := 39) dX12_ofKind_9 (by decide) (fun c => ?_) (fun c => ?_)
  · have H := H.1 (c)
    refine a_iload_n 2 rfl rfl dX12_ofKind_39 ?_
    exact r_reti rfl dX12_ofKind_40 H
  · have H := H.2 (c)
    refine a_iload_n 2 rfl rfl dX12_ofKind_12 ?_
    refine a_aload_n 0 rfl rfl dX12_ofKind_13 ?_
    refine r_gR fo_RX12_32_12 dX12_ofKind_14 H (fun a2 H => ?_)
    refine a_iload_n 3 rfl rfl dX12_ofKind_17 ?_
    refine r_lI dX12_ofKind_18 H (fun x3 H => ?_)
    refine a_iload_n 1 rfl rfl dX12_ofKind_19 ?_
    refine r_Si (av := [.int x3, .int v1]) (rest := [.int v2]) rfl rfl okX12_isOf wd1308 wd1309 ⟨Nat.le_of_ble_eq_true rfl, Nat.le_of_ble_eq_true rfl⟩ (Nat.le_of_ble_eq_true rfl) dX12_ofKind_20 (s_X12_isOf H) (fun x4 h5 H => ?_)
    refine a_if_eq (tgt := 30) dX12_ofKind_23 (by decide) (fun c => ?_) (fun c => ?_)
    · have H := H.1 (c)
      refine a_iconst (v := (0 : Int32)) (by decide) dX12_ofKind_30 ?_
      refine a_iadd dX12_ofKind_31 ?_
      refine a_istore_n (lv1 := [(0, .ref v0), (1, .int v1), (2, .int (v2 + (0 : Int32))), (3, .int v3)]) rfl [1, 2, 0, 3] (by decide) rfl dX12_ofKind_32 ?_
      refine a_iinc (v := v3 + 1) (lv1 := [(0, .ref v0), (1, .int v1), (2, .int (v2 + (0 : Int32))), (3, .int (v3 + 1))]) [1, 2, 3, 0] 3 rfl (by decide) rfl rfl dX12_ofKind_33 ?_
      refine a_goto (tgt := 4) dX12_ofKind_36 (by decide) ?_
      exact hK4 _ _ _ H
    · have H := H.2 (c)
      refine a_iconst (v := (1 : Int32)) (by decide) dX12_ofKind_26 ?_
      refine a_goto (tgt := 31) dX12_ofKind_27 (by decide) ?_
      refine a_iadd dX12_ofKind_31 ?_
      refine a_istore_n (lv1 := [(0, .ref v0), (1, .int v1), (2, .int (v2 + (1 : Int32))), (3, .int v3)]) rfl [1, 2, 0, 3] (by decide) rfl dX12_ofKind_32 ?_
      refine a_iinc (v := v3 + 1) (lv1 := [(0, .ref v0), (1, .int v1), (2, .int (v2 + (1 : Int32))), (3, .int (v3 + 1))]) [1, 2, 3, 0] 3 rfl (by decide) rfl rfl dX12_ofKind_33 ?_
      refine a_goto (tgt := 4) dX12_ofKind_36 (by decide) ?_
      exact hK4 _ _ _ H
def L_X12_ofKind_4 (Q : Int32 → AH → Prop)  (v0 : Nat) (v1 : Int32) : Nat → Int32 → Int32 → AH → Prop
  | 0, _, _, _ => False
  | n + 1, v2, v3, h => B_X12_ofKind_4 Q (L_X12_ofKind_4 Q  v0 v1 n) v0 v1 v2 v3 h
theorem l_X12_ofKind_4 {o : Om} {Q : Int32 → AH → Prop}  {v0 : Nat} {v1 : Int32}  : ∀ (n : Nat) (v2 : Int32) (v3 : Int32) (h : AH), L_X12_ofKind_4 Q  v0 v1 n v2 v3 h → AQ o kX12_ofKind h 4 [(0, .ref v0), (1, .int v1), (2, .int v2), (3, .int v3)] [] (qI Q) := by
  intro n
  induction n with
  | zero => intro v2 v3 h H; exact H.elim
  | succ n ih => intro v2 v3 h H; exact b_X12_ofKind_4 ih H
def f_X12_ofKind (v0 : Nat) (v1 : Int32) (h : AH) (Q : Int32 → AH → Prop) : Prop :=
  ∃ n, L_X12_ofKind_4 Q  v0 v1 n (0 : Int32) (0 : Int32) h
set_option maxRecDepth 100000 in
set_option maxHeartbeats 4000000 in
theorem s_X12_ofKind {o : Om} {v0 : Nat} {v1 : Int32} {h : AH} {Q : Int32 → AH → Prop} (H : f_X12_ofKind v0 v1 h Q) : MQ' o kX12_ofKind [.ref v0, .int v1] h (qI Q) := by
  refine MQ'.of (by decide +kernel) (Nat.le_of_ble_eq_true rfl) ?_
  show AQ o kX12_ofKind h 0 [(0, .ref v0), (1, .int v1)] [] (qI Q)
  refine a_iconst (v := (0 : Int32)) (by decide) dX12_ofKind_0 ?_
  refine a_istore_n (lv1 := [(0, .ref v0), (1, .int v1), (2, .int (0 : Int32))]) rfl [1, 2, 0] (by decide) rfl dX12_ofKind_1 ?_
  refine a_iconst (v := (0 : Int32)) (by decide) dX12_ofKind_2 ?_
  refine a_istore_n (lv1 := [(0, .ref v0), (1, .int v1), (2, .int (0 : Int32)), (3, .int (0 : Int32))]) rfl [1, 2, 3, 0] (by decide) rfl dX12_ofKind_3 ?_
  obtain ⟨n, H⟩ := H
  exact l_X12_ofKind_4  n _ _ _ H
def B_X12_there_4 (Q : Int32 → AH → Prop) (K4 : Int32 → Int32 → AH → Prop) (v0 : Nat) (v1 : Int32) (v2 : Int32) (v3 : Int32) (h : AH) : Prop :=
  ((v1 ≤ v3 → Q v2 h) ∧ (¬ (v1 ≤ v3) → lI h v0 v3 (fun x1 => ((0 ≤ x1 → K4 (v2 + (1 : Int32)) (v3 + 1) h) ∧ (¬ (0 ≤ x1) → K4 (v2 + (0 : Int32)) (v3 + 1) h)))))
set_option maxRecDepth 100000 in
set_option maxHeartbeats 4000000 in
theorem b_X12_there_4 {o : Om} {Q : Int32 → AH → Prop} {K4 : Int32 → Int32 → AH → Prop} {v0 : Nat} {v1 : Int32} {v2 : Int32} {v3 : Int32} {h : AH} (hK4 : ∀ w2 w3 h, K4 w2 w3 h → AQ o kX12_there h 4 [(0, .ref v0), (1, .int v1), (2, .int w2), (3, .int w3)] [] (qI Q)) (H : B_X12_there_4 Q K4 v0 v1 v2 v3 h) : AQ o kX12_there h 4 [(0, .ref v0), (1, .int v1), (2, .int v2), (3, .int v3)] [] (qI Q) := by
  refine a_iload_n 3 rfl rfl dX12_there_4 ?_
  refine a_iload_n 1 rfl rfl dX12_there_5 ?_
  refine a_icmp_ge (tgt := 29) dX12_there_6 (by decide) (fun c => ?_) (fun c => ?_)
  · have H := H.1 (c)
    refine a_iload_n 2 rfl rfl dX12_there_29 ?_
    exact r_reti rfl dX12_there_30 H
  · have H := H.2 (c)
    refine a_iload_n 2 rfl rfl dX12_there_9 ?_
    refine a_aload_n 0 rfl rfl dX12_there_10 ?_
    refine a_iload_n 3 rfl rfl dX12_there_11 ?_
    refine r_lI dX12_there_12 H (fun x1 H => ?_)
    refine a_if_ge (tgt := 20) dX12_there_13 (by decide) (fun c => ?_) (fun c => ?_)
    · have H := H.1 (c)
      refine a_iconst (v := (1 : Int32)) (by decide) dX12_there_20 ?_
      refine a_iadd dX12_there_21 ?_
      refine a_istore_n (lv1 := [(0, .ref v0), (1, .int v1), (2, .int (v2 + (1 : Int32))), (3, .int v3)]) rfl [1, 2, 0, 3] (by decide) rfl dX12_there_22 ?_
      refine a_iinc (v := v3 + 1) (lv1 := [(0, .ref v0), (1, .int v1), (2, .int (v2 + (1 : Int32))), (3, .int (v3 + 1))]) [1, 2, 3, 0] 3 rfl (by decide) rfl rfl dX12_there_23 ?_
      refine a_goto (tgt := 4) dX12_there_26 (by decide) ?_
      exact hK4 _ _ _ H
    · have H := H.2 (c)
      refine a_iconst (v := (0 : Int32)) (by decide) dX12_there_16 ?_
      refine a_goto (tgt := 21) dX12_there_17 (by decide) ?_
      refine a_iadd dX12_there_21 ?_
      refine a_istore_n (lv1 := [(0, .ref v0), (1, .int v1), (2, .int (v2 + (0 : Int32))), (3, .int v3)]) rfl [1, 2, 0, 3] (by decide) rfl dX12_there_22 ?_
      refine a_iinc (v := v3 + 1) (lv1 := [(0, .ref v0), (1, .int v1), (2, .int (v2 + (0 : Int32))), (3, .int (v3 + 1))]) [1, 2, 3, 0] 3 rfl (by decide) rfl rfl dX12_there_23 ?_
      refine a_goto (tgt := 4) dX12_there_26 (by decide) ?_
      exact hK4 _ _ _ H
def L_X12_there_4 (Q : Int32 → AH → Prop)  (v0 : Nat) (v1 : Int32) : Nat → Int32 → Int32 → AH → Prop
  | 0, _, _, _ => False
  | n + 1, v2, v3, h => B_X12_there_4 Q (L_X12_there_4 Q  v0 v1 n) v0 v1 v2 v3 h
theorem l_X12_there_4 {o : Om} {Q : Int32 → AH → Prop}  {v0 : Nat} {v1 : Int32}  : ∀ (n : Nat) (v2 : Int32) (v3 : Int32) (h : AH), L_X12_there_4 Q  v0 v1 n v2 v3 h → AQ o kX12_there h 4 [(0, .ref v0), (1, .int v1), (2, .int v2), (3, .int v3)] [] (qI Q) := by
  intro n
  induction n with
  | zero => intro v2 v3 h H; exact H.elim
  | succ n ih => intro v2 v3 h H; exact b_X12_there_4 ih H
def f_X12_there (v0 : Nat) (v1 : Int32) (h : AH) (Q : Int32 → AH → Prop) : Prop :=
  ∃ n, L_X12_there_4 Q  v0 v1 n (0 : Int32) (0 : Int32) h
set_option maxRecDepth 100000 in
set_option maxHeartbeats 4000000 in
theorem s_X12_there {o : Om} {v0 : Nat} {v1 : Int32} {h : AH} {Q : Int32 → AH → Prop} (H : f_X12_there v0 v1 h Q) : MQ' o kX12_there [.ref v0, .int v1] h (qI Q) := by
  refine MQ'.of (by decide +kernel) (Nat.le_of_ble_eq_true rfl) ?_
  show AQ o kX12_there h 0 [(0, .ref v0), (1, .int v1)] [] (qI Q)
  refine a_iconst (v := (0 : Int32)) (by decide) dX12_there_0 ?_
  refine a_istore_n (lv1 := [(0, .ref v0), (1, .int v1), (2, .int (0 : Int32))]) rfl [1, 2, 0] (by decide) rfl dX12_there_1 ?_
  refine a_iconst (v := (0 : Int32)) (by decide) dX12_there_2 ?_
  refine a_istore_n (lv1 := [(0, .ref v0), (1, .int v1), (2, .int (0 : Int32)), (3, .int (0 : Int32))]) rfl [1, 2, 3, 0] (by decide) rfl dX12_there_3 ?_
  obtain ⟨n, H⟩ := H
  exact l_X12_there_4  n _ _ _ H
def B_X12_count_66 (Q : Int32 → AH → Prop) (K66 : Int32 → Int32 → AH → Prop) (v0 : Nat) (v2 : Int32) (v3 : Int32) (h : AH) : Prop :=
  gI h v0 12 10 (fun x1 => ((x1 ≤ v3 → Q v2 h) ∧ (¬ (x1 ≤ v3) → gI h v0 12 17 (fun x2 => f_X12_spotOf x2 v3 h (fun x3 h4 => ((¬ (x3 = (7 : Int32)) → K66 (v2 + (0 : Int32)) (v3 + 1) h4) ∧ (x3 = (7 : Int32) → K66 (v2 + (1 : Int32)) (v3 + 1) h4)))))))
set_option maxRecDepth 100000 in
set_option maxHeartbeats 4000000 in
theorem b_X12_count_66 {o : Om} {Q : Int32 → AH → Prop} {K66 : Int32 → Int32 → AH → Prop} {v0 : Nat} {v2 : Int32} {v3 : Int32} {h : AH} (hK66 : ∀ w2 w3 h, K66 w2 w3 h → AQ o kX12_count h 66 [(0, .ref v0), (2, .int w2), (3, .int w3)] [] (qI Q)) (H : B_X12_count_66 Q K66 v0 v2 v3 h) : AQ o kX12_count h 66 [(0, .ref v0), (2, .int v2), (3, .int v3)] [] (qI Q) := by
  refine a_iload_n 2 rfl rfl dX12_count_66 ?_
  refine a_aload_n 0 rfl rfl dX12_count_67 ?_
  refine r_gI fo_RX12_178_12 dX12_count_68 H (fun x1 H => ?_)
  refine a_icmp_ge (tgt := 101) dX12_count_71 (by decide) (fun c => ?_) (fun c => ?_)
  · have H := H.1 (c)
    refine a_iload_n 1 rfl rfl dX12_count_101 ?_
    exact r_reti rfl dX12_count_102 H
  · have H := H.2 (c)
    refine a_iload_n 1 rfl rfl dX12_count_74 ?_
    refine a_aload_n 0 rfl rfl dX12_count_75 ?_
    refine r_gI fo_RX12_184_12 dX12_count_76 H (fun x2 H => ?_)
    refine a_iload_n 2 rfl rfl dX12_count_79 ?_
    refine r_Si (av := [.int x2, .int v3]) (rest := [.int v2]) rfl rfl okX12_spotOf wd1286 wd1287 ⟨Nat.le_of_ble_eq_true rfl, Nat.le_of_ble_eq_true rfl⟩ (Nat.le_of_ble_eq_true rfl) dX12_count_80 (s_X12_spotOf H) (fun x3 h4 H => ?_)
    refine a_bipush (v := (7 : Int32)) (by decide) dX12_count_83 ?_
    refine a_icmp_ne (tgt := 92) dX12_count_85 (by decide) (fun c => ?_) (fun c => ?_)
    · have H := H.1 (c)
      refine a_iconst (v := (0 : Int32)) (by decide) dX12_count_92 ?_
      refine a_iadd dX12_count_93 ?_
      refine a_istore_n (lv1 := [(0, .ref v0), (2, .int (v2 + (0 : Int32))), (3, .int v3)]) rfl [1, 0, 2] (by decide) rfl dX12_count_94 ?_
      refine a_iinc (v := v3 + 1) (lv1 := [(0, .ref v0), (2, .int (v2 + (0 : Int32))), (3, .int (v3 + 1))]) [1, 2, 0] 2 rfl (by decide) rfl rfl dX12_count_95 ?_
      refine a_goto (tgt := 66) dX12_count_98 (by decide) ?_
      exact hK66 _ _ _ H
    · have H := H.2 (c)
      refine a_iconst (v := (1 : Int32)) (by decide) dX12_count_88 ?_
      refine a_goto (tgt := 93) dX12_count_89 (by decide) ?_
      refine a_iadd dX12_count_93 ?_
      refine a_istore_n (lv1 := [(0, .ref v0), (2, .int (v2 + (1 : Int32))), (3, .int v3)]) rfl [1, 0, 2] (by decide) rfl dX12_count_94 ?_
      refine a_iinc (v := v3 + 1) (lv1 := [(0, .ref v0), (2, .int (v2 + (1 : Int32))), (3, .int (v3 + 1))]) [1, 2, 0] 2 rfl (by decide) rfl rfl dX12_count_95 ?_
      refine a_goto (tgt := 66) dX12_count_98 (by decide) ?_
      exact hK66 _ _ _ H
def L_X12_count_66 (Q : Int32 → AH → Prop)  (v0 : Nat) : Nat → Int32 → Int32 → AH → Prop
  | 0, _, _, _ => False
  | n + 1, v2, v3, h => B_X12_count_66 Q (L_X12_count_66 Q  v0 n) v0 v2 v3 h
theorem l_X12_count_66 {o : Om} {Q : Int32 → AH → Prop}  {v0 : Nat}  : ∀ (n : Nat) (v2 : Int32) (v3 : Int32) (h : AH), L_X12_count_66 Q  v0 n v2 v3 h → AQ o kX12_count h 66 [(0, .ref v0), (2, .int v2), (3, .int v3)] [] (qI Q) := by
  intro n
  induction n with
  | zero => intro v2 v3 h H; exact H.elim
  | succ n ih => intro v2 v3 h H; exact b_X12_count_66 ih H
def f_X12_count (v0 : Nat) (v1 : Int32) (h : AH) (Q : Int32 → AH → Prop) : Prop :=
  ((v1 = 0 → gI h v0 12 9 (fun x1 => Q x1 h)) ∧ (v1 = 1 → gI h v0 12 10 (fun x2 => Q x2 h)) ∧ (v1 = 2 → ∃ n, L_X12_count_66 Q  v0 n (0 : Int32) (0 : Int32) h) ∧ (v1 = 3 → gI h v0 12 12 (fun x3 => Q x3 h)) ∧ (v1 = 4 → gI h v0 12 20 (fun x4 => Q x4 h)) ∧ (v1 = 5 → isO h v0 12 ∧ f_X12_ofKind v0 (2 : Int32) h (fun x5 h6 => Q x5 h6)) ∧ (v1 = 6 → gR h v0 12 0 (fun a7 => f_X12_there a7 (6 : Int32) h (fun x8 h9 => Q x8 h9))) ∧ (v1 = 7 → gR h v0 12 2 (fun a10 => f_X12_there a10 (4 : Int32) h (fun x11 h12 => Q x11 h12))) ∧ (v1 = 8 → isO h v0 12 ∧ f_X12_ofKind v0 (3 : Int32) h (fun x13 h14 => Q x13 h14)) ∧ (¬ v1 = 0 → ¬ v1 = 1 → ¬ v1 = 2 → ¬ v1 = 3 → ¬ v1 = 4 → ¬ v1 = 5 → ¬ v1 = 6 → ¬ v1 = 7 → ¬ v1 = 8 → Q (-1 : Int32) h))
set_option maxRecDepth 100000 in
set_option maxHeartbeats 4000000 in
theorem s_X12_count {o : Om} {v0 : Nat} {v1 : Int32} {h : AH} {Q : Int32 → AH → Prop} (H : f_X12_count v0 v1 h Q) : MQ' o kX12_count [.ref v0, .int v1] h (qI Q) := by
  refine MQ'.of (by decide +kernel) (Nat.le_of_ble_eq_true rfl) ?_
  show AQ o kX12_count h 0 [(0, .ref v0), (1, .int v1)] [] (qI Q)
  refine a_iload_n 1 rfl rfl dX12_count_0 ?_
  by_cases c0 : v1 = 0
  · have H := H.1 c0
    refine r_tab (off := 51) (tgt := 52) dX12_count_1 c0 (by decide) (by decide) rfl (by decide) ?_
    refine a_aload_n 0 rfl rfl dX12_count_52 ?_
    refine r_gI fo_RX12_175_12 dX12_count_53 H (fun x1 H => ?_)
    exact r_reti rfl dX12_count_56 H
  by_cases c1 : v1 = 1
  · have H := H.2.1 c1
    refine r_tab (off := 56) (tgt := 57) dX12_count_1 c1 (by decide) (by decide) rfl (by decide) ?_
    refine a_aload_n 0 rfl rfl dX12_count_57 ?_
    refine r_gI fo_RX12_178_12 dX12_count_58 H (fun x2 H => ?_)
    exact r_reti rfl dX12_count_61 H
  by_cases c2 : v1 = 2
  · have H := H.2.2.1 c2
    refine r_tab (off := 61) (tgt := 62) dX12_count_1 c2 (by decide) (by decide) rfl (by decide) ?_
    refine a_iconst (v := (0 : Int32)) (by decide) dX12_count_62 ?_
    refine a_istore_n (lv1 := [(0, .ref v0), (1, .int v1), (2, .int (0 : Int32))]) rfl [1, 2, 0] (by decide) rfl dX12_count_63 ?_
    refine a_iconst (v := (0 : Int32)) (by decide) dX12_count_64 ?_
    refine a_istore_n (lv1 := [(0, .ref v0), (1, .int v1), (2, .int (0 : Int32)), (3, .int (0 : Int32))]) rfl [1, 2, 3, 0] (by decide) rfl dX12_count_65 ?_
    refine AQ.sub (lv1 := [(0, .ref v0), (2, .int (0 : Int32)), (3, .int (0 : Int32))]) [0, 2, 3] rfl ?_
    obtain ⟨n, H⟩ := H
    exact l_X12_count_66  n _ _ _ H
  by_cases c3 : v1 = 3
  · have H := H.2.2.2.1 c3
    refine r_tab (off := 102) (tgt := 103) dX12_count_1 c3 (by decide) (by decide) rfl (by decide) ?_
    refine a_aload_n 0 rfl rfl dX12_count_103 ?_
    refine r_gI fo_RX12_181_12 dX12_count_104 H (fun x3 H => ?_)
    exact r_reti rfl dX12_count_107 H
  by_cases c4 : v1 = 4
  · have H := H.2.2.2.2.1 c4
    refine r_tab (off := 107) (tgt := 108) dX12_count_1 c4 (by decide) (by decide) rfl (by decide) ?_
    refine a_aload_n 0 rfl rfl dX12_count_108 ?_
    refine r_gI fo_RX12_172_12 dX12_count_109 H (fun x4 H => ?_)
    exact r_reti rfl dX12_count_112 H
  by_cases c5 : v1 = 5
  · have H := H.2.2.2.2.2.1 c5
    refine r_tab (off := 112) (tgt := 113) dX12_count_1 c5 (by decide) (by decide) rfl (by decide) ?_
    refine a_aload_n 0 rfl rfl dX12_count_113 ?_
    refine a_iconst (v := (2 : Int32)) (by decide) dX12_count_114 ?_
    refine r_Vi (q := (RX12, TX12, 51)) (av := [.int (2 : Int32)]) (rest := []) rfl rfl okX12_ofKind H.1 rfl rfl wd1513 wd1515 wp65 ⟨Nat.le_of_ble_eq_true rfl, Nat.le_of_ble_eq_true rfl⟩ (Nat.le_of_ble_eq_true rfl) dX12_count_115 (s_X12_ofKind H.2) (fun x5 h6 H => ?_)
    exact r_reti rfl dX12_count_118 H
  by_cases c6 : v1 = 6
  · have H := H.2.2.2.2.2.2.1 c6
    refine r_tab (off := 118) (tgt := 119) dX12_count_1 c6 (by decide) (by decide) rfl (by decide) ?_
    refine a_aload_n 0 rfl rfl dX12_count_119 ?_
    refine r_gR fo_RX12_7_12 dX12_count_120 H (fun a7 H => ?_)
    refine a_bipush (v := (6 : Int32)) (by decide) dX12_count_123 ?_
    refine r_Si (av := [.ref a7, .int (6 : Int32)]) (rest := []) rfl rfl okX12_there wd1517 wd1518 ⟨Nat.le_of_ble_eq_true rfl, Nat.le_of_ble_eq_true rfl⟩ (Nat.le_of_ble_eq_true rfl) dX12_count_125 (s_X12_there H) (fun x8 h9 H => ?_)
    exact r_reti rfl dX12_count_128 H
  by_cases c7 : v1 = 7
  · have H := H.2.2.2.2.2.2.2.1 c7
    refine r_tab (off := 128) (tgt := 129) dX12_count_1 c7 (by decide) (by decide) rfl (by decide) ?_
    refine a_aload_n 0 rfl rfl dX12_count_129 ?_
    refine r_gR fo_RX12_16_12 dX12_count_130 H (fun a10 H => ?_)
    refine a_iconst (v := (4 : Int32)) (by decide) dX12_count_133 ?_
    refine r_Si (av := [.ref a10, .int (4 : Int32)]) (rest := []) rfl rfl okX12_there wd1517 wd1518 ⟨Nat.le_of_ble_eq_true rfl, Nat.le_of_ble_eq_true rfl⟩ (Nat.le_of_ble_eq_true rfl) dX12_count_134 (s_X12_there H) (fun x11 h12 H => ?_)
    exact r_reti rfl dX12_count_137 H
  by_cases c8 : v1 = 8
  · have H := H.2.2.2.2.2.2.2.2.1 c8
    refine r_tab (off := 137) (tgt := 138) dX12_count_1 c8 (by decide) (by decide) rfl (by decide) ?_
    refine a_aload_n 0 rfl rfl dX12_count_138 ?_
    refine a_iconst (v := (3 : Int32)) (by decide) dX12_count_139 ?_
    refine r_Vi (q := (RX12, TX12, 51)) (av := [.int (3 : Int32)]) (rest := []) rfl rfl okX12_ofKind H.1 rfl rfl wd1513 wd1515 wp65 ⟨Nat.le_of_ble_eq_true rfl, Nat.le_of_ble_eq_true rfl⟩ (Nat.le_of_ble_eq_true rfl) dX12_count_140 (s_X12_ofKind H.2) (fun x13 h14 H => ?_)
    exact r_reti rfl dX12_count_143 H
  have H := H.2.2.2.2.2.2.2.2.2 c0 c1 c2 c3 c4 c5 c6 c7 c8
  have e0 := lv_neT (a := 0) c0 (by decide)
  have e1 := lv_neT (a := 1) c1 (by decide)
  have e2 := lv_neT (a := 2) c2 (by decide)
  have e3 := lv_neT (a := 3) c3 (by decide)
  have e4 := lv_neT (a := 4) c4 (by decide)
  have e5 := lv_neT (a := 5) c5 (by decide)
  have e6 := lv_neT (a := 6) c6 (by decide)
  have e7 := lv_neT (a := 7) c7 (by decide)
  have e8 := lv_neT (a := 8) c8 (by decide)
  refine a_tableOut (tgt := 144) dX12_count_1 (by omega) (by decide) ?_
  refine a_iconst (v := (-1 : Int32)) (by decide) dX12_count_144 ?_
  exact r_reti rfl dX12_count_145 H
def f_X11_finding (v0 : Nat) (h : AH) (Q : Int32 → AH → Prop) : Prop :=
  gI h v0 11 15 (fun x1 => Q x1 h)
set_option maxRecDepth 100000 in
set_option maxHeartbeats 4000000 in
theorem s_X11_finding {o : Om} {v0 : Nat} {h : AH} {Q : Int32 → AH → Prop} (H : f_X11_finding v0 h Q) : MQ' o kX11_finding [.ref v0] h (qI Q) := by
  refine MQ'.of (by decide +kernel) (Nat.le_of_ble_eq_true rfl) ?_
  show AQ o kX11_finding h 0 [(0, .ref v0)] [] (qI Q)
  refine a_aload_n 0 rfl rfl dX11_finding_0 ?_
  refine r_gI fo_RX11_54_11 dX11_finding_1 H (fun x1 H => ?_)
  exact r_reti rfl dX11_finding_4 H
def f_X12_finding (v0 : Nat) (h : AH) (Q : Int32 → AH → Prop) : Prop :=
  gI h v0 12 7 (fun x1 => Q x1 h)
set_option maxRecDepth 100000 in
set_option maxHeartbeats 4000000 in
theorem s_X12_finding {o : Om} {v0 : Nat} {h : AH} {Q : Int32 → AH → Prop} (H : f_X12_finding v0 h Q) : MQ' o kX12_finding [.ref v0] h (qI Q) := by
  refine MQ'.of (by decide +kernel) (Nat.le_of_ble_eq_true rfl) ?_
  show AQ o kX12_finding h 0 [(0, .ref v0)] [] (qI Q)
  refine a_aload_n 0 rfl rfl dX12_finding_0 ?_
  refine r_gI fo_RX12_100_12 dX12_finding_1 H (fun x1 H => ?_)
  exact r_reti rfl dX12_finding_4 H
def B_X11_findings_10 (Q : Int32 → AH → Prop)   (h : AH) : Prop :=
  Q (-1 : Int32) h
set_option maxRecDepth 100000 in
set_option maxHeartbeats 4000000 in
theorem b_X11_findings_10 {o : Om} {Q : Int32 → AH → Prop}   {h : AH}  (H : B_X11_findings_10 Q   h) : AQ o kX11_findings h 10 [] [] (qI Q) := by
  refine a_iconst (v := (-1 : Int32)) (by decide) dX11_findings_10 ?_
  refine a_goto (tgt := 20) dX11_findings_11 (by decide) ?_
  exact r_reti rfl dX11_findings_20 H
def f_X11_findings (v0 : Nat) (v1 : Int32) (h : AH) (Q : Int32 → AH → Prop) : Prop :=
  ((v1 < (1 : Int32) → B_X11_findings_10 Q   h) ∧ (¬ (v1 < (1 : Int32)) → ((v1 ≤ (5 : Int32) → gR h v0 11 5 (fun a1 => lI h a1 v1 (fun x2 => Q x2 h))) ∧ (¬ (v1 ≤ (5 : Int32)) → B_X11_findings_10 Q   h))))
set_option maxRecDepth 100000 in
set_option maxHeartbeats 4000000 in
theorem s_X11_findings {o : Om} {v0 : Nat} {v1 : Int32} {h : AH} {Q : Int32 → AH → Prop} (H : f_X11_findings v0 v1 h Q) : MQ' o kX11_findings [.ref v0, .int v1] h (qI Q) := by
  refine MQ'.of (by decide +kernel) (Nat.le_of_ble_eq_true rfl) ?_
  show AQ o kX11_findings h 0 [(0, .ref v0), (1, .int v1)] [] (qI Q)
  refine a_iload_n 1 rfl rfl dX11_findings_0 ?_
  refine a_iconst (v := (1 : Int32)) (by decide) dX11_findings_1 ?_
  refine a_icmp_lt (tgt := 10) dX11_findings_2 (by decide) (fun c => ?_) (fun c => ?_)
  · have H := H.1 (c)
    refine AQ.sub (lv1 := []) [] rfl ?_
    exact b_X11_findings_10  H
  · have H := H.2 (c)
    refine a_iload_n 1 rfl rfl dX11_findings_5 ?_
    refine a_iconst (v := (5 : Int32)) (by decide) dX11_findings_6 ?_
    refine a_icmp_le (tgt := 14) dX11_findings_7 (by decide) (fun c => ?_) (fun c => ?_)
    · have H := H.1 (c)
      refine a_aload_n 0 rfl rfl dX11_findings_14 ?_
      refine r_gR fo_RX11_31_11 dX11_findings_15 H (fun a1 H => ?_)
      refine a_iload_n 1 rfl rfl dX11_findings_18 ?_
      refine r_lI dX11_findings_19 H (fun x2 H => ?_)
      exact r_reti rfl dX11_findings_20 H
    · have H := H.2 (c)
      refine AQ.sub (lv1 := []) [] rfl ?_
      exact b_X11_findings_10  H
def f_X12_findings (v0 : Nat) (v1 : Int32) (h : AH) (Q : Int32 → AH → Prop) : Prop :=
  f_X12_in v1.toInt64 (1 : Int64) (5 : Int64) h (fun x1 h2 => ((x1 = 0 → Q (-1 : Int32) h2) ∧ (¬ (x1 = 0) → gR h2 v0 12 8 (fun a3 => lI h2 a3 v1 (fun x4 => Q x4 h2)))))
set_option maxRecDepth 100000 in
set_option maxHeartbeats 4000000 in
theorem s_X12_findings {o : Om} {v0 : Nat} {v1 : Int32} {h : AH} {Q : Int32 → AH → Prop} (H : f_X12_findings v0 v1 h Q) : MQ' o kX12_findings [.ref v0, .int v1] h (qI Q) := by
  refine MQ'.of (by decide +kernel) (Nat.le_of_ble_eq_true rfl) ?_
  show AQ o kX12_findings h 0 [(0, .ref v0), (1, .int v1)] [] (qI Q)
  refine a_iload_n 1 rfl rfl dX12_findings_0 ?_
  refine a_i2l dX12_findings_1 ?_
  refine a_lconst (v := (1 : Int64)) (by decide) dX12_findings_2 ?_
  refine a_ldc2 (v := (5 : Int64)) wd1187 dX12_findings_3 ?_
  refine r_Si (av := [.long v1.toInt64, .long (1 : Int64), .long (5 : Int64)]) (rest := []) rfl rfl okX12_in wd1188 wd1189 ⟨Nat.le_of_ble_eq_true rfl, Nat.le_of_ble_eq_true rfl⟩ (Nat.le_of_ble_eq_true rfl) dX12_findings_6 (s_X12_in H) (fun x1 h2 H => ?_)
  refine a_if_eq (tgt := 21) dX12_findings_9 (by decide) (fun c => ?_) (fun c => ?_)
  · have H := H.1 (c)
    refine a_iconst (v := (-1 : Int32)) (by decide) dX12_findings_21 ?_
    exact r_reti rfl dX12_findings_22 H
  · have H := H.2 (c)
    refine a_aload_n 0 rfl rfl dX12_findings_12 ?_
    refine r_gR fo_RX12_26_12 dX12_findings_13 H (fun a3 H => ?_)
    refine a_iload_n 1 rfl rfl dX12_findings_16 ?_
    refine r_lI dX12_findings_17 H (fun x4 H => ?_)
    refine a_goto (tgt := 22) dX12_findings_18 (by decide) ?_
    exact r_reti rfl dX12_findings_22 H
def B_X11_digestKept_37 (Q : Int64 → AH → Prop) (K5 : Int64 → Int32 → AH → Prop) (K37 : Int64 → Int32 → AH → Prop) (v0 : Nat) (v5 : Int32) (v3 : Int64) (v6 : Int32) (h : AH) : Prop :=
  gR h v0 11 8 (fun a1 => gI h a1 5 5 (fun x2 => ((x2 ≤ v6 → gR h v0 11 4 (fun a3 => lI h a3 v5 (fun x4 => K5 (((31 : Int64) * v3) + x4.toInt64) (v5 + 1) h))) ∧ (¬ (x2 ≤ v6) → gR h v0 11 3 (fun a5 => lI h a5 v5 (fun x6 => f_X5_tellPost x6 v6 h (fun x7 h8 => K37 (((31 : Int64) * v3) + x7.toInt64) (v6 + 1) h8)))))))
set_option maxRecDepth 100000 in
set_option maxHeartbeats 4000000 in
theorem b_X11_digestKept_37 {o : Om} {Q : Int64 → AH → Prop} {K5 : Int64 → Int32 → AH → Prop} {K37 : Int64 → Int32 → AH → Prop} {v0 : Nat} {v5 : Int32} {v3 : Int64} {v6 : Int32} {h : AH} (hK5 : ∀ w3 w5 h, K5 w3 w5 h → AQ o kX11_digestKept h 5 [(0, .ref v0), (3, .long w3), (5, .int w5)] [] (qL Q)) (hK37 : ∀ w3 w6 h, K37 w3 w6 h → AQ o kX11_digestKept h 37 [(0, .ref v0), (3, .long w3), (5, .int v5), (6, .int w6)] [] (qL Q)) (H : B_X11_digestKept_37 Q K5 K37 v0 v5 v3 v6 h) : AQ o kX11_digestKept h 37 [(0, .ref v0), (3, .long v3), (5, .int v5), (6, .int v6)] [] (qL Q) := by
  refine a_iload 3 rfl dX11_digestKept_37 ?_
  refine a_aload_n 0 rfl rfl dX11_digestKept_39 ?_
  refine r_gR fo_RX11_60_11 dX11_digestKept_40 H (fun a1 H => ?_)
  refine r_gI fo_RX11_146_5 dX11_digestKept_43 H (fun x2 H => ?_)
  refine a_icmp_ge (tgt := 75) dX11_digestKept_46 (by decide) (fun c => ?_) (fun c => ?_)
  · have H := H.1 (c)
    refine a_ldc2 (v := (31 : Int64)) wd1009 dX11_digestKept_75 ?_
    refine a_lload_n 1 rfl rfl dX11_digestKept_78 ?_
    refine a_lmul dX11_digestKept_79 ?_
    refine a_aload_n 0 rfl rfl dX11_digestKept_80 ?_
    refine r_gR fo_RX11_28_11 dX11_digestKept_81 H (fun a3 H => ?_)
    refine a_iload 2 rfl dX11_digestKept_84 ?_
    refine r_lI dX11_digestKept_86 H (fun x4 H => ?_)
    refine a_i2l dX11_digestKept_87 ?_
    refine a_ladd dX11_digestKept_88 ?_
    refine a_lstore_n (lv1 := [(0, .ref v0), (3, .long (((31 : Int64) * v3) + x4.toInt64)), (5, .int v5), (6, .int v6)]) rfl [1, 0, 2, 3] (by decide) rfl dX11_digestKept_89 ?_
    refine a_iinc (v := v5 + 1) (lv1 := [(0, .ref v0), (3, .long (((31 : Int64) * v3) + x4.toInt64)), (5, .int (v5 + 1)), (6, .int v6)]) [1, 2, 0, 3] 2 rfl (by decide) rfl rfl dX11_digestKept_90 ?_
    refine a_goto (tgt := 5) dX11_digestKept_93 (by decide) ?_
    refine AQ.sub (lv1 := [(0, .ref v0), (3, .long (((31 : Int64) * v3) + x4.toInt64)), (5, .int (v5 + 1))]) [0, 1, 2] rfl ?_
    exact hK5 _ _ _ H
  · have H := H.2 (c)
    refine a_ldc2 (v := (31 : Int64)) wd1009 dX11_digestKept_49 ?_
    refine a_lload_n 1 rfl rfl dX11_digestKept_52 ?_
    refine a_lmul dX11_digestKept_53 ?_
    refine a_aload_n 0 rfl rfl dX11_digestKept_54 ?_
    refine r_gR fo_RX11_24_11 dX11_digestKept_55 H (fun a5 H => ?_)
    refine a_iload 2 rfl dX11_digestKept_58 ?_
    refine r_lI dX11_digestKept_60 H (fun x6 H => ?_)
    refine a_iload 3 rfl dX11_digestKept_61 ?_
    refine r_Si (av := [.int x6, .int v6]) (rest := [.long ((31 : Int64) * v3)]) rfl rfl okX5_tellPost wd515 wd516 ⟨Nat.le_of_ble_eq_true rfl, Nat.le_of_ble_eq_true rfl⟩ (Nat.le_of_ble_eq_true rfl) dX11_digestKept_63 (s_X5_tellPost H) (fun x7 h8 H => ?_)
    refine a_i2l dX11_digestKept_66 ?_
    refine a_ladd dX11_digestKept_67 ?_
    refine a_lstore_n (lv1 := [(0, .ref v0), (3, .long (((31 : Int64) * v3) + x7.toInt64)), (5, .int v5), (6, .int v6)]) rfl [1, 0, 2, 3] (by decide) rfl dX11_digestKept_68 ?_
    refine a_iinc (v := v6 + 1) (lv1 := [(0, .ref v0), (3, .long (((31 : Int64) * v3) + x7.toInt64)), (5, .int v5), (6, .int (v6 + 1))]) [1, 2, 3, 0] 3 rfl (by decide) rfl rfl dX11_digestKept_69 ?_
    refine a_goto (tgt := 37) dX11_digestKept_72 (by decide) ?_
    exact hK37 _ _ _ H
def L_X11_digestKept_37 (Q : Int64 → AH → Prop) (K5 : Int64 → Int32 → AH → Prop) (v0 : Nat) (v5 : Int32) : Nat → Int64 → Int32 → AH → Prop
  | 0, _, _, _ => False
  | n + 1, v3, v6, h => B_X11_digestKept_37 Q K5 (L_X11_digestKept_37 Q K5 v0 v5 n) v0 v5 v3 v6 h
theorem l_X11_digestKept_37 {o : Om} {Q : Int64 → AH → Prop} {K5 : Int64 → Int32 → AH → Prop} {v0 : Nat} {v5 : Int32} (hK5 : ∀ w3 w5 h, K5 w3 w5 h → AQ o kX11_digestKept h 5 [(0, .ref v0), (3, .long w3), (5, .int w5)] [] (qL Q)) : ∀ (n : Nat) (v3 : Int64) (v6 : Int32) (h : AH), L_X11_digestKept_37 Q K5 v0 v5 n v3 v6 h → AQ o kX11_digestKept h 37 [(0, .ref v0), (3, .long v3), (5, .int v5), (6, .int v6)] [] (qL Q) := by
  intro n
  induction n with
  | zero => intro v3 v6 h H; exact H.elim
  | succ n ih => intro v3 v6 h H; exact b_X11_digestKept_37 hK5 ih H
def B_X11_digestKept_5 (Q : Int64 → AH → Prop) (K5 : Int64 → Int32 → AH → Prop) (v0 : Nat) (v3 : Int64) (v5 : Int32) (h : AH) : Prop :=
  (((3 : Int32) ≤ v5 → Q v3 h) ∧ (¬ ((3 : Int32) ≤ v5) → gR h v0 11 4 (fun a1 => lI h a1 v5 (fun x2 => ((¬ (x2 = (-9 : Int32)) → ∃ n, L_X11_digestKept_37 Q K5 v0 v5 n v3 (0 : Int32) h) ∧ (x2 = (-9 : Int32) → K5 (((31 : Int64) * v3) - (1 : Int64)) (v5 + 1) h))))))
set_option maxRecDepth 100000 in
set_option maxHeartbeats 4000000 in
theorem b_X11_digestKept_5 {o : Om} {Q : Int64 → AH → Prop} {K5 : Int64 → Int32 → AH → Prop} {v0 : Nat} {v3 : Int64} {v5 : Int32} {h : AH} (hK5 : ∀ w3 w5 h, K5 w3 w5 h → AQ o kX11_digestKept h 5 [(0, .ref v0), (3, .long w3), (5, .int w5)] [] (qL Q)) (H : B_X11_digestKept_5 Q K5 v0 v3 v5 h) : AQ o kX11_digestKept h 5 [(0, .ref v0), (3, .long v3), (5, .int v5)] [] (qL Q) := by
  refine a_iload 2 rfl dX11_digestKept_5 ?_
  refine a_iconst (v := (3 : Int32)) (by decide) dX11_digestKept_7 ?_
  refine a_icmp_ge (tgt := 96) dX11_digestKept_8 (by decide) (fun c => ?_) (fun c => ?_)
  · have H := H.1 (c)
    refine a_lload_n 1 rfl rfl dX11_digestKept_96 ?_
    exact r_retl rfl dX11_digestKept_97 H
  · have H := H.2 (c)
    refine a_aload_n 0 rfl rfl dX11_digestKept_11 ?_
    refine r_gR fo_RX11_28_11 dX11_digestKept_12 H (fun a1 H => ?_)
    refine a_iload 2 rfl dX11_digestKept_15 ?_
    refine r_lI dX11_digestKept_17 H (fun x2 H => ?_)
    refine a_bipush (v := (-9 : Int32)) (by decide) dX11_digestKept_18 ?_
    refine a_icmp_ne (tgt := 34) dX11_digestKept_20 (by decide) (fun c => ?_) (fun c => ?_)
    · have H := H.1 (c)
      refine a_iconst (v := (0 : Int32)) (by decide) dX11_digestKept_34 ?_
      refine a_istore (lv1 := [(0, .ref v0), (3, .long v3), (5, .int v5), (6, .int (0 : Int32))]) [1, 2, 3, 0] (by decide) rfl dX11_digestKept_35 ?_
      obtain ⟨n, H⟩ := H
      exact l_X11_digestKept_37 hK5 n _ _ _ H
    · have H := H.2 (c)
      refine a_ldc2 (v := (31 : Int64)) wd1009 dX11_digestKept_23 ?_
      refine a_lload_n 1 rfl rfl dX11_digestKept_26 ?_
      refine a_lmul dX11_digestKept_27 ?_
      refine a_lconst (v := (1 : Int64)) (by decide) dX11_digestKept_28 ?_
      refine a_lsub dX11_digestKept_29 ?_
      refine a_lstore_n (lv1 := [(0, .ref v0), (3, .long (((31 : Int64) * v3) - (1 : Int64))), (5, .int v5)]) rfl [1, 0, 2] (by decide) rfl dX11_digestKept_30 ?_
      refine a_goto (tgt := 90) dX11_digestKept_31 (by decide) ?_
      refine a_iinc (v := v5 + 1) (lv1 := [(0, .ref v0), (3, .long (((31 : Int64) * v3) - (1 : Int64))), (5, .int (v5 + 1))]) [1, 2, 0] 2 rfl (by decide) rfl rfl dX11_digestKept_90 ?_
      refine a_goto (tgt := 5) dX11_digestKept_93 (by decide) ?_
      exact hK5 _ _ _ H
def L_X11_digestKept_5 (Q : Int64 → AH → Prop)  (v0 : Nat) : Nat → Int64 → Int32 → AH → Prop
  | 0, _, _, _ => False
  | n + 1, v3, v5, h => B_X11_digestKept_5 Q (L_X11_digestKept_5 Q  v0 n) v0 v3 v5 h
theorem l_X11_digestKept_5 {o : Om} {Q : Int64 → AH → Prop}  {v0 : Nat}  : ∀ (n : Nat) (v3 : Int64) (v5 : Int32) (h : AH), L_X11_digestKept_5 Q  v0 n v3 v5 h → AQ o kX11_digestKept h 5 [(0, .ref v0), (3, .long v3), (5, .int v5)] [] (qL Q) := by
  intro n
  induction n with
  | zero => intro v3 v5 h H; exact H.elim
  | succ n ih => intro v3 v5 h H; exact b_X11_digestKept_5 ih H
def f_X11_digestKept (v0 : Nat) (v1 : Int64) (h : AH) (Q : Int64 → AH → Prop) : Prop :=
  ∃ n, L_X11_digestKept_5 Q  v0 n v1 (0 : Int32) h
set_option maxRecDepth 100000 in
set_option maxHeartbeats 4000000 in
theorem s_X11_digestKept {o : Om} {v0 : Nat} {v1 : Int64} {h : AH} {Q : Int64 → AH → Prop} (H : f_X11_digestKept v0 v1 h Q) : MQ' o kX11_digestKept [.ref v0, .long v1] h (qL Q) := by
  refine MQ'.of (by decide +kernel) (Nat.le_of_ble_eq_true rfl) ?_
  show AQ o kX11_digestKept h 0 [(0, .ref v0), (1, .long v1)] [] (qL Q)
  refine a_lload_n 1 rfl rfl dX11_digestKept_0 ?_
  refine a_lstore_n (lv1 := [(0, .ref v0), (1, .long v1), (3, .long v1)]) rfl [1, 2, 0] (by decide) rfl dX11_digestKept_1 ?_
  refine a_iconst (v := (0 : Int32)) (by decide) dX11_digestKept_2 ?_
  refine a_istore (lv1 := [(0, .ref v0), (1, .long v1), (3, .long v1), (5, .int (0 : Int32))]) [1, 2, 3, 0] (by decide) rfl dX11_digestKept_3 ?_
  refine AQ.sub (lv1 := [(0, .ref v0), (3, .long v1), (5, .int (0 : Int32))]) [0, 2, 3] rfl ?_
  obtain ⟨n, H⟩ := H
  exact l_X11_digestKept_5  n _ _ _ H
def B_X11_digestRows_30 (Q : Int64 → AH → Prop) (K5 : Int64 → Int32 → AH → Prop) (K30 : Int64 → Int32 → AH → Prop) (v2 : Nat) (v5 : Int32) (v3 : Int64) (v6 : Int32) (h : AH) : Prop :=
  lQ h v2 2 v5 (fun a1 => gI h a1 6 1 (fun x2 => ((x2 ≤ v6 → K5 v3 (v5 + 1) h) ∧ (¬ (x2 ≤ v6) → lQ h v2 2 v5 (fun a3 => isO h a3 6 ∧ f_X6_get a3 v6 h (fun x4 h5 => K30 (((31 : Int64) * v3) + x4.toInt64) (v6 + 1) h5))))))
set_option maxRecDepth 100000 in
set_option maxHeartbeats 4000000 in
theorem b_X11_digestRows_30 {o : Om} {Q : Int64 → AH → Prop} {K5 : Int64 → Int32 → AH → Prop} {K30 : Int64 → Int32 → AH → Prop} {v2 : Nat} {v5 : Int32} {v3 : Int64} {v6 : Int32} {h : AH} (hK5 : ∀ w3 w5 h, K5 w3 w5 h → AQ o kX11_digestRows h 5 [(2, .ref v2), (3, .long w3), (5, .int w5)] [] (qL Q)) (hK30 : ∀ w3 w6 h, K30 w3 w6 h → AQ o kX11_digestRows h 30 [(2, .ref v2), (3, .long w3), (5, .int v5), (6, .int w6)] [] (qL Q)) (H : B_X11_digestRows_30 Q K5 K30 v2 v5 v3 v6 h) : AQ o kX11_digestRows h 30 [(2, .ref v2), (3, .long v3), (5, .int v5), (6, .int v6)] [] (qL Q) := by
  refine a_iload 3 rfl dX11_digestRows_30 ?_
  refine a_aload_n 0 rfl rfl dX11_digestRows_32 ?_
  refine a_iload 2 rfl dX11_digestRows_33 ?_
  refine r_lQ (by decide) dX11_digestRows_35 H (fun a1 H => ?_)
  refine r_gI fo_RX11_130_6 dX11_digestRows_36 H (fun x2 H => ?_)
  refine a_icmp_ge (tgt := 65) dX11_digestRows_39 (by decide) (fun c => ?_) (fun c => ?_)
  · have H := H.1 (c)
    refine a_iinc (v := v5 + 1) (lv1 := [(2, .ref v2), (3, .long v3), (5, .int (v5 + 1)), (6, .int v6)]) [1, 2, 0, 3] 2 rfl (by decide) rfl rfl dX11_digestRows_65 ?_
    refine a_goto (tgt := 5) dX11_digestRows_68 (by decide) ?_
    refine AQ.sub (lv1 := [(2, .ref v2), (3, .long v3), (5, .int (v5 + 1))]) [0, 1, 2] rfl ?_
    exact hK5 _ _ _ H
  · have H := H.2 (c)
    refine a_ldc2 (v := (31 : Int64)) wd1009 dX11_digestRows_42 ?_
    refine a_lload_n 1 rfl rfl dX11_digestRows_45 ?_
    refine a_lmul dX11_digestRows_46 ?_
    refine a_aload_n 0 rfl rfl dX11_digestRows_47 ?_
    refine a_iload 2 rfl dX11_digestRows_48 ?_
    refine r_lQ (by decide) dX11_digestRows_50 H (fun a3 H => ?_)
    refine a_iload 3 rfl dX11_digestRows_51 ?_
    refine r_Vi (q := (RX6, TX6, 2)) (av := [.int v6]) (rest := [.long ((31 : Int64) * v3)]) rfl rfl okX6_get H.1 rfl rfl wd295 wd296 wd297 ⟨Nat.le_of_ble_eq_true rfl, Nat.le_of_ble_eq_true rfl⟩ (Nat.le_of_ble_eq_true rfl) dX11_digestRows_53 (s_X6_get H.2) (fun x4 h5 H => ?_)
    refine a_i2l dX11_digestRows_56 ?_
    refine a_ladd dX11_digestRows_57 ?_
    refine a_lstore_n (lv1 := [(2, .ref v2), (3, .long (((31 : Int64) * v3) + x4.toInt64)), (5, .int v5), (6, .int v6)]) rfl [1, 0, 2, 3] (by decide) rfl dX11_digestRows_58 ?_
    refine a_iinc (v := v6 + 1) (lv1 := [(2, .ref v2), (3, .long (((31 : Int64) * v3) + x4.toInt64)), (5, .int v5), (6, .int (v6 + 1))]) [1, 2, 3, 0] 3 rfl (by decide) rfl rfl dX11_digestRows_59 ?_
    refine a_goto (tgt := 30) dX11_digestRows_62 (by decide) ?_
    exact hK30 _ _ _ H
def L_X11_digestRows_30 (Q : Int64 → AH → Prop) (K5 : Int64 → Int32 → AH → Prop) (v2 : Nat) (v5 : Int32) : Nat → Int64 → Int32 → AH → Prop
  | 0, _, _, _ => False
  | n + 1, v3, v6, h => B_X11_digestRows_30 Q K5 (L_X11_digestRows_30 Q K5 v2 v5 n) v2 v5 v3 v6 h
theorem l_X11_digestRows_30 {o : Om} {Q : Int64 → AH → Prop} {K5 : Int64 → Int32 → AH → Prop} {v2 : Nat} {v5 : Int32} (hK5 : ∀ w3 w5 h, K5 w3 w5 h → AQ o kX11_digestRows h 5 [(2, .ref v2), (3, .long w3), (5, .int w5)] [] (qL Q)) : ∀ (n : Nat) (v3 : Int64) (v6 : Int32) (h : AH), L_X11_digestRows_30 Q K5 v2 v5 n v3 v6 h → AQ o kX11_digestRows h 30 [(2, .ref v2), (3, .long v3), (5, .int v5), (6, .int v6)] [] (qL Q) := by
  intro n
  induction n with
  | zero => intro v3 v6 h H; exact H.elim
  | succ n ih => intro v3 v6 h H; exact b_X11_digestRows_30 hK5 ih H
def B_X11_digestRows_5 (Q : Int64 → AH → Prop) (K5 : Int64 → Int32 → AH → Prop) (v2 : Nat) (v3 : Int64) (v5 : Int32) (h : AH) : Prop :=
  aL h v2 2 (fun x1 => ((x1 ≤ v5 → Q v3 h) ∧ (¬ (x1 ≤ v5) → lQ h v2 2 v5 (fun a2 => gI h a2 6 1 (fun x3 => ∃ n, L_X11_digestRows_30 Q K5 v2 v5 n (((31 : Int64) * v3) + x3.toInt64) (0 : Int32) h)))))
set_option maxRecDepth 100000 in
set_option maxHeartbeats 4000000 in
theorem b_X11_digestRows_5 {o : Om} {Q : Int64 → AH → Prop} {K5 : Int64 → Int32 → AH → Prop} {v2 : Nat} {v3 : Int64} {v5 : Int32} {h : AH} (hK5 : ∀ w3 w5 h, K5 w3 w5 h → AQ o kX11_digestRows h 5 [(2, .ref v2), (3, .long w3), (5, .int w5)] [] (qL Q)) (H : B_X11_digestRows_5 Q K5 v2 v3 v5 h) : AQ o kX11_digestRows h 5 [(2, .ref v2), (3, .long v3), (5, .int v5)] [] (qL Q) := by
  refine a_iload 2 rfl dX11_digestRows_5 ?_
  refine a_aload_n 0 rfl rfl dX11_digestRows_7 ?_
  refine r_aL (by decide) dX11_digestRows_8 H (fun x1 H => ?_)
  refine a_icmp_ge (tgt := 71) dX11_digestRows_9 (by decide) (fun c => ?_) (fun c => ?_)
  · have H := H.1 (c)
    refine a_lload_n 1 rfl rfl dX11_digestRows_71 ?_
    exact r_retl rfl dX11_digestRows_72 H
  · have H := H.2 (c)
    refine a_ldc2 (v := (31 : Int64)) wd1009 dX11_digestRows_12 ?_
    refine a_lload_n 1 rfl rfl dX11_digestRows_15 ?_
    refine a_lmul dX11_digestRows_16 ?_
    refine a_aload_n 0 rfl rfl dX11_digestRows_17 ?_
    refine a_iload 2 rfl dX11_digestRows_18 ?_
    refine r_lQ (by decide) dX11_digestRows_20 H (fun a2 H => ?_)
    refine r_gI fo_RX11_130_6 dX11_digestRows_21 H (fun x3 H => ?_)
    refine a_i2l dX11_digestRows_24 ?_
    refine a_ladd dX11_digestRows_25 ?_
    refine a_lstore_n (lv1 := [(2, .ref v2), (3, .long (((31 : Int64) * v3) + x3.toInt64)), (5, .int v5)]) rfl [1, 0, 2] (by decide) rfl dX11_digestRows_26 ?_
    refine a_iconst (v := (0 : Int32)) (by decide) dX11_digestRows_27 ?_
    refine a_istore (lv1 := [(2, .ref v2), (3, .long (((31 : Int64) * v3) + x3.toInt64)), (5, .int v5), (6, .int (0 : Int32))]) [1, 2, 3, 0] (by decide) rfl dX11_digestRows_28 ?_
    obtain ⟨n, H⟩ := H
    exact l_X11_digestRows_30 hK5 n _ _ _ H
def L_X11_digestRows_5 (Q : Int64 → AH → Prop)  (v2 : Nat) : Nat → Int64 → Int32 → AH → Prop
  | 0, _, _, _ => False
  | n + 1, v3, v5, h => B_X11_digestRows_5 Q (L_X11_digestRows_5 Q  v2 n) v2 v3 v5 h
theorem l_X11_digestRows_5 {o : Om} {Q : Int64 → AH → Prop}  {v2 : Nat}  : ∀ (n : Nat) (v3 : Int64) (v5 : Int32) (h : AH), L_X11_digestRows_5 Q  v2 n v3 v5 h → AQ o kX11_digestRows h 5 [(2, .ref v2), (3, .long v3), (5, .int v5)] [] (qL Q) := by
  intro n
  induction n with
  | zero => intro v3 v5 h H; exact H.elim
  | succ n ih => intro v3 v5 h H; exact b_X11_digestRows_5 ih H
def f_X11_digestRows (v0 : Int64) (v2 : Nat) (h : AH) (Q : Int64 → AH → Prop) : Prop :=
  ∃ n, L_X11_digestRows_5 Q  v2 n v0 (0 : Int32) h
set_option maxRecDepth 100000 in
set_option maxHeartbeats 4000000 in
theorem s_X11_digestRows {o : Om} {v0 : Int64} {v2 : Nat} {h : AH} {Q : Int64 → AH → Prop} (H : f_X11_digestRows v0 v2 h Q) : MQ' o kX11_digestRows [.long v0, .ref v2] h (qL Q) := by
  refine MQ'.of (by decide +kernel) (Nat.le_of_ble_eq_true rfl) ?_
  show AQ o kX11_digestRows h 0 [(0, .long v0), (2, .ref v2)] [] (qL Q)
  refine a_lload_n 0 rfl rfl dX11_digestRows_0 ?_
  refine a_lstore_n (lv1 := [(0, .long v0), (2, .ref v2), (3, .long v0)]) rfl [1, 2, 0] (by decide) rfl dX11_digestRows_1 ?_
  refine a_iconst (v := (0 : Int32)) (by decide) dX11_digestRows_2 ?_
  refine a_istore (lv1 := [(0, .long v0), (2, .ref v2), (3, .long v0), (5, .int (0 : Int32))]) [1, 2, 3, 0] (by decide) rfl dX11_digestRows_3 ?_
  refine AQ.sub (lv1 := [(2, .ref v2), (3, .long v0), (5, .int (0 : Int32))]) [1, 2, 3] rfl ?_
  obtain ⟨n, H⟩ := H
  exact l_X11_digestRows_5  n _ _ _ H
