def B_X12_copy_129 (Q : Int32 → AH → Prop) (K104 : Int32 → AH → Prop) (v0 : Nat) (v1 : Int32) (v2 : Int32) (v3 : Int32) (v4 : Int32) (v5 : Int32) (v6 : Int32) (t0 : Int32) (h : AH) : Prop :=
  gR h v0 12 1 (fun a1 => gR h v0 12 1 (fun a2 => lI h a2 ((((60 : Int32) * v1) + v2) + t0) (fun x3 => sI h a1 ((((60 : Int32) * v3) + v4) + t0) x3 (fun h4 => K104 (v6 + 1) h4))))
set_option maxRecDepth 100000 in
set_option maxHeartbeats 4000000 in
theorem b_X12_copy_129 {o : Om} {Q : Int32 → AH → Prop} {K104 : Int32 → AH → Prop} {v0 : Nat} {v1 : Int32} {v2 : Int32} {v3 : Int32} {v4 : Int32} {v5 : Int32} {v6 : Int32} {t0 : Int32} {h : AH} (hK104 : ∀ w6 h, K104 w6 h → AQ o kX12_copy h 104 [(0, .ref v0), (1, .int v1), (2, .int v2), (3, .int v3), (4, .int v4), (5, .int v5), (6, .int w6)] [] (qI Q)) (H : B_X12_copy_129 Q K104 v0 v1 v2 v3 v4 v5 v6 t0 h) : AQ o kX12_copy h 129 [(0, .ref v0), (1, .int v1), (2, .int v2), (3, .int v3), (4, .int v4), (5, .int v5), (6, .int v6)] [.int t0] (qI Q) := by
  refine a_istore (lv1 := [(0, .ref v0), (1, .int v1), (2, .int v2), (3, .int v3), (4, .int v4), (5, .int v5), (6, .int v6), (7, .int t0)]) [1, 2, 3, 4, 5, 6, 7, 0] (by decide) rfl dX12_copy_129 ?_
  refine a_aload_n 0 rfl rfl dX12_copy_131 ?_
  refine r_gR fo_RX12_13_12 dX12_copy_132 H (fun a1 H => ?_)
  refine a_bipush (v := (60 : Int32)) (by decide) dX12_copy_135 ?_
  refine a_iload_n 3 rfl rfl dX12_copy_137 ?_
  refine a_imul dX12_copy_138 ?_
  refine a_iload 4 rfl dX12_copy_139 ?_
  refine a_iadd dX12_copy_141 ?_
  refine a_iload 7 rfl dX12_copy_142 ?_
  refine a_iadd dX12_copy_144 ?_
  refine a_aload_n 0 rfl rfl dX12_copy_145 ?_
  refine r_gR fo_RX12_13_12 dX12_copy_146 H (fun a2 H => ?_)
  refine a_bipush (v := (60 : Int32)) (by decide) dX12_copy_149 ?_
  refine a_iload_n 1 rfl rfl dX12_copy_151 ?_
  refine a_imul dX12_copy_152 ?_
  refine a_iload_n 2 rfl rfl dX12_copy_153 ?_
  refine a_iadd dX12_copy_154 ?_
  refine a_iload 7 rfl dX12_copy_155 ?_
  refine a_iadd dX12_copy_157 ?_
  refine r_lI dX12_copy_158 H (fun x3 H => ?_)
  refine r_sI dX12_copy_159 H (fun h4 H => ?_)
  refine a_iinc (v := v6 + 1) (lv1 := [(0, .ref v0), (1, .int v1), (2, .int v2), (3, .int v3), (4, .int v4), (5, .int v5), (6, .int (v6 + 1)), (7, .int t0)]) [1, 2, 3, 4, 5, 6, 0, 7] 6 rfl (by decide) rfl rfl dX12_copy_160 ?_
  refine a_goto (tgt := 104) dX12_copy_163 (by decide) ?_
  refine AQ.sub (lv1 := [(0, .ref v0), (1, .int v1), (2, .int v2), (3, .int v3), (4, .int v4), (5, .int v5), (6, .int (v6 + 1))]) [0, 1, 2, 3, 4, 5, 6] rfl ?_
  exact hK104 _ _ H
def B_X12_copy_104 (Q : Int32 → AH → Prop) (K104 : Int32 → AH → Prop) (v0 : Nat) (v1 : Int32) (v2 : Int32) (v3 : Int32) (v4 : Int32) (v5 : Int32) (v6 : Int32) (h : AH) : Prop :=
  ((v5 ≤ v6 → Q (1 : Int32) h) ∧ (¬ (v5 ≤ v6) → ((v4 ≤ v2 → B_X12_copy_129 Q K104 v0 v1 v2 v3 v4 v5 v6 v6 h) ∧ (¬ (v4 ≤ v2) → B_X12_copy_129 Q K104 v0 v1 v2 v3 v4 v5 v6 ((v5 - (1 : Int32)) - v6) h))))
set_option maxRecDepth 100000 in
set_option maxHeartbeats 4000000 in
theorem b_X12_copy_104 {o : Om} {Q : Int32 → AH → Prop} {K104 : Int32 → AH → Prop} {v0 : Nat} {v1 : Int32} {v2 : Int32} {v3 : Int32} {v4 : Int32} {v5 : Int32} {v6 : Int32} {h : AH} (hK104 : ∀ w6 h, K104 w6 h → AQ o kX12_copy h 104 [(0, .ref v0), (1, .int v1), (2, .int v2), (3, .int v3), (4, .int v4), (5, .int v5), (6, .int w6)] [] (qI Q)) (H : B_X12_copy_104 Q K104 v0 v1 v2 v3 v4 v5 v6 h) : AQ o kX12_copy h 104 [(0, .ref v0), (1, .int v1), (2, .int v2), (3, .int v3), (4, .int v4), (5, .int v5), (6, .int v6)] [] (qI Q) := by
  refine a_iload 6 rfl dX12_copy_104 ?_
  refine a_iload 5 rfl dX12_copy_106 ?_
  refine a_icmp_ge (tgt := 166) dX12_copy_108 (by decide) (fun c => ?_) (fun c => ?_)
  · have H := H.1 (c)
    refine a_iconst (v := (1 : Int32)) (by decide) dX12_copy_166 ?_
    exact r_reti rfl dX12_copy_167 H
  · have H := H.2 (c)
    refine a_iload 4 rfl dX12_copy_111 ?_
    refine a_iload_n 2 rfl rfl dX12_copy_113 ?_
    refine a_icmp_le (tgt := 127) dX12_copy_114 (by decide) (fun c => ?_) (fun c => ?_)
    · have H := H.1 (c)
      refine a_iload 6 rfl dX12_copy_127 ?_
      exact b_X12_copy_129 hK104 H
    · have H := H.2 (c)
      refine a_iload 5 rfl dX12_copy_117 ?_
      refine a_iconst (v := (1 : Int32)) (by decide) dX12_copy_119 ?_
      refine a_isub dX12_copy_120 ?_
      refine a_iload 6 rfl dX12_copy_121 ?_
      refine a_isub dX12_copy_123 ?_
      refine a_goto (tgt := 129) dX12_copy_124 (by decide) ?_
      exact b_X12_copy_129 hK104 H
def L_X12_copy_104 (Q : Int32 → AH → Prop)  (v0 : Nat) (v1 : Int32) (v2 : Int32) (v3 : Int32) (v4 : Int32) (v5 : Int32) : Nat → Int32 → AH → Prop
  | 0, _, _ => False
  | n + 1, v6, h => B_X12_copy_104 Q (L_X12_copy_104 Q  v0 v1 v2 v3 v4 v5 n) v0 v1 v2 v3 v4 v5 v6 h
theorem l_X12_copy_104 {o : Om} {Q : Int32 → AH → Prop}  {v0 : Nat} {v1 : Int32} {v2 : Int32} {v3 : Int32} {v4 : Int32} {v5 : Int32}  : ∀ (n : Nat) (v6 : Int32) (h : AH), L_X12_copy_104 Q  v0 v1 v2 v3 v4 v5 n v6 h → AQ o kX12_copy h 104 [(0, .ref v0), (1, .int v1), (2, .int v2), (3, .int v3), (4, .int v4), (5, .int v5), (6, .int v6)] [] (qI Q) := by
  intro n
  induction n with
  | zero => intro v6 h H; exact H.elim
  | succ n ih => intro v6 h H; exact b_X12_copy_104 ih H
def B_X12_copy_45 (Q : Int32 → AH → Prop)  (v0 : Nat) (h : AH) : Prop :=
  isO h v0 12 ∧ f_X12_find v0 (1 : Int32) h (fun x1 h2 => Q x1 h2)
set_option maxRecDepth 100000 in
set_option maxHeartbeats 4000000 in
theorem b_X12_copy_45 {o : Om} {Q : Int32 → AH → Prop}  {v0 : Nat} {h : AH}  (H : B_X12_copy_45 Q  v0 h) : AQ o kX12_copy h 45 [(0, .ref v0)] [] (qI Q) := by
  refine a_aload_n 0 rfl rfl dX12_copy_45 ?_
  refine a_iconst (v := (1 : Int32)) (by decide) dX12_copy_46 ?_
  refine r_Vi (q := (RX12, TX12, 51)) (av := [.int (1 : Int32)]) (rest := []) rfl rfl okX12_find H.1 rfl rfl wd1191 wd1193 wp31 ⟨Nat.le_of_ble_eq_true rfl, Nat.le_of_ble_eq_true rfl⟩ (Nat.le_of_ble_eq_true rfl) dX12_copy_47 (s_X12_find H.2) (fun x1 h2 H => ?_)
  exact r_reti rfl dX12_copy_50 H
def B_X12_copy_95 (Q : Int32 → AH → Prop)  (v0 : Nat) (h : AH) : Prop :=
  isO h v0 12 ∧ f_X12_find v0 (2 : Int32) h (fun x1 h2 => Q x1 h2)
set_option maxRecDepth 100000 in
set_option maxHeartbeats 4000000 in
theorem b_X12_copy_95 {o : Om} {Q : Int32 → AH → Prop}  {v0 : Nat} {h : AH}  (H : B_X12_copy_95 Q  v0 h) : AQ o kX12_copy h 95 [(0, .ref v0)] [] (qI Q) := by
  refine a_aload_n 0 rfl rfl dX12_copy_95 ?_
  refine a_iconst (v := (2 : Int32)) (by decide) dX12_copy_96 ?_
  refine r_Vi (q := (RX12, TX12, 51)) (av := [.int (2 : Int32)]) (rest := []) rfl rfl okX12_find H.1 rfl rfl wd1191 wd1193 wp31 ⟨Nat.le_of_ble_eq_true rfl, Nat.le_of_ble_eq_true rfl⟩ (Nat.le_of_ble_eq_true rfl) dX12_copy_97 (s_X12_find H.2) (fun x1 h2 H => ?_)
  exact r_reti rfl dX12_copy_100 H
def f_X12_copy (v0 : Nat) (v1 : Int32) (v2 : Int32) (v3 : Int32) (v4 : Int32) (v5 : Int32) (h : AH) (Q : Int32 → AH → Prop) : Prop :=
  f_X12_isRow v1 h (fun x1 h2 => ((x1 = 0 → Q (-1 : Int32) h2) ∧ (¬ (x1 = 0) → f_X12_isRow v3 h2 (fun x3 h4 => ((¬ (x3 = 0) → ((0 ≤ v5 → gR h4 v0 12 0 (fun a5 => lI h4 a5 v1 (fun x6 => ((x6 < 0 → B_X12_copy_45 Q  v0 h4) ∧ (¬ (x6 < 0) → gR h4 v0 12 0 (fun a7 => lI h4 a7 v3 (fun x8 => ((0 ≤ x8 → ((v2 < 0 → B_X12_copy_95 Q  v0 h4) ∧ (¬ (v2 < 0) → ((v4 < 0 → B_X12_copy_95 Q  v0 h4) ∧ (¬ (v4 < 0) → gR h4 v0 12 0 (fun a9 => lI h4 a9 v1 (fun x10 => ((x10.toInt64 < (v2.toInt64 + v5.toInt64) → B_X12_copy_95 Q  v0 h4) ∧ (¬ (x10.toInt64 < (v2.toInt64 + v5.toInt64)) → gR h4 v0 12 0 (fun a11 => lI h4 a11 v3 (fun x12 => (((v4.toInt64 + v5.toInt64) ≤ x12.toInt64 → ∃ n, L_X12_copy_104 Q  v0 v1 v2 v3 v4 v5 n (0 : Int32) h4) ∧ (¬ ((v4.toInt64 + v5.toInt64) ≤ x12.toInt64) → B_X12_copy_95 Q  v0 h4))))))))))))) ∧ (¬ (0 ≤ x8) → B_X12_copy_45 Q  v0 h4))))))))) ∧ (¬ (0 ≤ v5) → isO h4 v0 12 ∧ f_X12_find v0 (5 : Int32) h4 (fun x13 h14 => Q x13 h14)))) ∧ (x3 = 0 → Q (-1 : Int32) h4))))))
set_option maxRecDepth 100000 in
set_option maxHeartbeats 4000000 in
theorem s_X12_copy {o : Om} {v0 : Nat} {v1 : Int32} {v2 : Int32} {v3 : Int32} {v4 : Int32} {v5 : Int32} {h : AH} {Q : Int32 → AH → Prop} (H : f_X12_copy v0 v1 v2 v3 v4 v5 h Q) : MQ' o kX12_copy [.ref v0, .int v1, .int v2, .int v3, .int v4, .int v5] h (qI Q) := by
  refine MQ'.of (by decide +kernel) (Nat.le_of_ble_eq_true rfl) ?_
  show AQ o kX12_copy h 0 [(0, .ref v0), (1, .int v1), (2, .int v2), (3, .int v3), (4, .int v4), (5, .int v5)] [] (qI Q)
  refine a_iload_n 1 rfl rfl dX12_copy_0 ?_
  refine r_Si (av := [.int v1]) (rest := []) rfl rfl okX12_isRow wd1184 wd1185 ⟨Nat.le_of_ble_eq_true rfl, Nat.le_of_ble_eq_true rfl⟩ (Nat.le_of_ble_eq_true rfl) dX12_copy_1 (s_X12_isRow H) (fun x1 h2 H => ?_)
  refine a_if_eq (tgt := 14) dX12_copy_4 (by decide) (fun c => ?_) (fun c => ?_)
  · have H := H.1 (c)
    refine a_iconst (v := (-1 : Int32)) (by decide) dX12_copy_14 ?_
    exact r_reti rfl dX12_copy_15 H
  · have H := H.2 (c)
    refine a_iload_n 3 rfl rfl dX12_copy_7 ?_
    refine r_Si (av := [.int v3]) (rest := []) rfl rfl okX12_isRow wd1184 wd1185 ⟨Nat.le_of_ble_eq_true rfl, Nat.le_of_ble_eq_true rfl⟩ (Nat.le_of_ble_eq_true rfl) dX12_copy_8 (s_X12_isRow H) (fun x3 h4 H => ?_)
    refine a_if_ne (tgt := 16) dX12_copy_11 (by decide) (fun c => ?_) (fun c => ?_)
    · have H := H.1 (c)
      refine a_iload 5 rfl dX12_copy_16 ?_
      refine a_if_ge (tgt := 27) dX12_copy_18 (by decide) (fun c => ?_) (fun c => ?_)
      · have H := H.1 (c)
        refine a_aload_n 0 rfl rfl dX12_copy_27 ?_
        refine r_gR fo_RX12_7_12 dX12_copy_28 H (fun a5 H => ?_)
        refine a_iload_n 1 rfl rfl dX12_copy_31 ?_
        refine r_lI dX12_copy_32 H (fun x6 H => ?_)
        refine a_if_lt (tgt := 45) dX12_copy_33 (by decide) (fun c => ?_) (fun c => ?_)
        · have H := H.1 (c)
          refine AQ.sub (lv1 := [(0, .ref v0)]) [0] rfl ?_
          exact b_X12_copy_45  H
        · have H := H.2 (c)
          refine a_aload_n 0 rfl rfl dX12_copy_36 ?_
          refine r_gR fo_RX12_7_12 dX12_copy_37 H (fun a7 H => ?_)
          refine a_iload_n 3 rfl rfl dX12_copy_40 ?_
          refine r_lI dX12_copy_41 H (fun x8 H => ?_)
          refine a_if_ge (tgt := 51) dX12_copy_42 (by decide) (fun c => ?_) (fun c => ?_)
          · have H := H.1 (c)
            refine a_iload_n 2 rfl rfl dX12_copy_51 ?_
            refine a_if_lt (tgt := 95) dX12_copy_52 (by decide) (fun c => ?_) (fun c => ?_)
            · have H := H.1 (c)
              refine AQ.sub (lv1 := [(0, .ref v0)]) [0] rfl ?_
              exact b_X12_copy_95  H
            · have H := H.2 (c)
              refine a_iload 4 rfl dX12_copy_55 ?_
              refine a_if_lt (tgt := 95) dX12_copy_57 (by decide) (fun c => ?_) (fun c => ?_)
              · have H := H.1 (c)
                refine AQ.sub (lv1 := [(0, .ref v0)]) [0] rfl ?_
                exact b_X12_copy_95  H
              · have H := H.2 (c)
                refine a_iload_n 2 rfl rfl dX12_copy_60 ?_
                refine a_i2l dX12_copy_61 ?_
                refine a_iload 5 rfl dX12_copy_62 ?_
                refine a_i2l dX12_copy_64 ?_
                refine a_ladd dX12_copy_65 ?_
                refine a_aload_n 0 rfl rfl dX12_copy_66 ?_
                refine r_gR fo_RX12_7_12 dX12_copy_67 H (fun a9 H => ?_)
                refine a_iload_n 1 rfl rfl dX12_copy_70 ?_
                refine r_lI dX12_copy_71 H (fun x10 H => ?_)
                refine a_i2l dX12_copy_72 ?_
                refine a_lcmp dX12_copy_73 ?_
                refine a_if_gt (tgt := 95) dX12_copy_74 (by decide) (fun c => ?_) (fun c => ?_)
                · have H := H.1 ((lgc_gt _ _).mp c)
                  refine AQ.sub (lv1 := [(0, .ref v0)]) [0] rfl ?_
                  exact b_X12_copy_95  H
                · have H := H.2 (fun q => c ((lgc_gt _ _).mpr q))
                  refine a_iload 4 rfl dX12_copy_77 ?_
                  refine a_i2l dX12_copy_79 ?_
                  refine a_iload 5 rfl dX12_copy_80 ?_
                  refine a_i2l dX12_copy_82 ?_
                  refine a_ladd dX12_copy_83 ?_
                  refine a_aload_n 0 rfl rfl dX12_copy_84 ?_
                  refine r_gR fo_RX12_7_12 dX12_copy_85 H (fun a11 H => ?_)
                  refine a_iload_n 3 rfl rfl dX12_copy_88 ?_
                  refine r_lI dX12_copy_89 H (fun x12 H => ?_)
                  refine a_i2l dX12_copy_90 ?_
                  refine a_lcmp dX12_copy_91 ?_
                  refine a_if_le (tgt := 101) dX12_copy_92 (by decide) (fun c => ?_) (fun c => ?_)
                  · have H := H.1 ((lgc_le _ _).mp c)
                    refine a_iconst (v := (0 : Int32)) (by decide) dX12_copy_101 ?_
                    refine a_istore (lv1 := [(0, .ref v0), (1, .int v1), (2, .int v2), (3, .int v3), (4, .int v4), (5, .int v5), (6, .int (0 : Int32))]) [1, 2, 3, 4, 5, 6, 0] (by decide) rfl dX12_copy_102 ?_
                    obtain ⟨n, H⟩ := H
                    exact l_X12_copy_104  n _ _ H
                  · have H := H.2 (fun q => c ((lgc_le _ _).mpr q))
                    refine AQ.sub (lv1 := [(0, .ref v0)]) [0] rfl ?_
                    exact b_X12_copy_95  H
          · have H := H.2 (c)
            refine AQ.sub (lv1 := [(0, .ref v0)]) [0] rfl ?_
            exact b_X12_copy_45  H
      · have H := H.2 (c)
        refine a_aload_n 0 rfl rfl dX12_copy_21 ?_
        refine a_iconst (v := (5 : Int32)) (by decide) dX12_copy_22 ?_
        refine r_Vi (q := (RX12, TX12, 51)) (av := [.int (5 : Int32)]) (rest := []) rfl rfl okX12_find H.1 rfl rfl wd1191 wd1193 wp31 ⟨Nat.le_of_ble_eq_true rfl, Nat.le_of_ble_eq_true rfl⟩ (Nat.le_of_ble_eq_true rfl) dX12_copy_23 (s_X12_find H.2) (fun x13 h14 H => ?_)
        exact r_reti rfl dX12_copy_26 H
    · have H := H.2 (c)
      refine a_iconst (v := (-1 : Int32)) (by decide) dX12_copy_14 ?_
      exact r_reti rfl dX12_copy_15 H
def B_X11_mean_42 (Q : Int32 → AH → Prop) (K42 : Int64 → Int32 → AH → Prop) (v0 : Nat) (v3 : Nat) (v4 : Int64) (v6 : Int32) (h : AH) : Prop :=
  gI h v3 6 1 (fun x1 => ((x1 ≤ v6 → gI h v3 6 1 (fun x2 => (¬ x2.toInt64 = 0) ∧ (pF h v0 11 12 (.int ((v4 / x2.toInt64).toInt32)) (fun h3 => Q (1 : Int32) h3)))) ∧ (¬ (x1 ≤ v6) → isO h v3 6 ∧ f_X6_get v3 v6 h (fun x4 h5 => K42 (v4 + x4.toInt64) (v6 + 1) h5))))
set_option maxRecDepth 100000 in
set_option maxHeartbeats 4000000 in
theorem b_X11_mean_42 {o : Om} {Q : Int32 → AH → Prop} {K42 : Int64 → Int32 → AH → Prop} {v0 : Nat} {v3 : Nat} {v4 : Int64} {v6 : Int32} {h : AH} (hK42 : ∀ w4 w6 h, K42 w4 w6 h → AQ o kX11_mean h 42 [(0, .ref v0), (3, .ref v3), (4, .long w4), (6, .int w6)] [] (qI Q)) (H : B_X11_mean_42 Q K42 v0 v3 v4 v6 h) : AQ o kX11_mean h 42 [(0, .ref v0), (3, .ref v3), (4, .long v4), (6, .int v6)] [] (qI Q) := by
  refine a_iload 3 rfl dX11_mean_42 ?_
  refine a_aload_n 1 rfl rfl dX11_mean_44 ?_
  refine r_gI fo_RX11_130_6 dX11_mean_45 H (fun x1 H => ?_)
  refine a_icmp_ge (tgt := 69) dX11_mean_48 (by decide) (fun c => ?_) (fun c => ?_)
  · have H := H.1 (c)
    refine a_aload_n 0 rfl rfl dX11_mean_69 ?_
    refine a_lload 2 rfl dX11_mean_70 ?_
    refine a_aload_n 1 rfl rfl dX11_mean_72 ?_
    refine r_gI fo_RX11_130_6 dX11_mean_73 H (fun x2 H => ?_)
    refine a_i2l dX11_mean_76 ?_
    refine a_ldiv H.1 dX11_mean_77 ?_
    have H := H.2
    refine a_l2i dX11_mean_78 ?_
    refine r_pF (po_RX11_44_11 _) (fun _ => rfl) (fun _ => rfl) dX11_mean_79 H (fun h3 H => ?_)
    refine a_iconst (v := (1 : Int32)) (by decide) dX11_mean_82 ?_
    exact r_reti rfl dX11_mean_83 H
  · have H := H.2 (c)
    refine a_lload 2 rfl dX11_mean_51 ?_
    refine a_aload_n 1 rfl rfl dX11_mean_53 ?_
    refine a_iload 3 rfl dX11_mean_54 ?_
    refine r_Vi (q := (RX6, TX6, 2)) (av := [.int v6]) (rest := [.long v4]) rfl rfl okX6_get H.1 rfl rfl wd295 wd296 wd297 ⟨Nat.le_of_ble_eq_true rfl, Nat.le_of_ble_eq_true rfl⟩ (Nat.le_of_ble_eq_true rfl) dX11_mean_56 (s_X6_get H.2) (fun x4 h5 H => ?_)
    refine a_i2l dX11_mean_59 ?_
    refine a_ladd dX11_mean_60 ?_
    refine a_lstore (lv1 := [(0, .ref v0), (3, .ref v3), (4, .long (v4 + x4.toInt64)), (6, .int v6)]) [1, 2, 0, 3] (by decide) rfl dX11_mean_61 ?_
    refine a_iinc (v := v6 + 1) (lv1 := [(0, .ref v0), (3, .ref v3), (4, .long (v4 + x4.toInt64)), (6, .int (v6 + 1))]) [1, 2, 3, 0] 3 rfl (by decide) rfl rfl dX11_mean_63 ?_
    refine a_goto (tgt := 42) dX11_mean_66 (by decide) ?_
    exact hK42 _ _ _ H
def L_X11_mean_42 (Q : Int32 → AH → Prop)  (v0 : Nat) (v3 : Nat) : Nat → Int64 → Int32 → AH → Prop
  | 0, _, _, _ => False
  | n + 1, v4, v6, h => B_X11_mean_42 Q (L_X11_mean_42 Q  v0 v3 n) v0 v3 v4 v6 h
theorem l_X11_mean_42 {o : Om} {Q : Int32 → AH → Prop}  {v0 : Nat} {v3 : Nat}  : ∀ (n : Nat) (v4 : Int64) (v6 : Int32) (h : AH), L_X11_mean_42 Q  v0 v3 n v4 v6 h → AQ o kX11_mean h 42 [(0, .ref v0), (3, .ref v3), (4, .long v4), (6, .int v6)] [] (qI Q) := by
  intro n
  induction n with
  | zero => intro v4 v6 h H; exact H.elim
  | succ n ih => intro v4 v6 h H; exact b_X11_mean_42 ih H
def f_X11_mean (v0 : Nat) (v1 : Int32) (h : AH) (Q : Int32 → AH → Prop) : Prop :=
  gR h v0 11 0 (fun a1 => isO h v0 11 ∧ f_X11_refuseMissing v0 a1 v1 h (fun x2 h3 => ((x2 = 0 → gR h3 v0 11 0 (fun a4 => lQ h3 a4 2 v1 (fun a5 => gI h3 a5 6 1 (fun x6 => ((¬ (x6 = 0) → ∃ n, L_X11_mean_42 Q  v0 a5 n (0 : Int64) (0 : Int32) h3) ∧ (x6 = 0 → isO h3 v0 11 ∧ f_X11_found v0 (4 : Int32) h3 (fun x7 h8 => Q x7 h8))))))) ∧ (¬ (x2 = 0) → Q x2 h3))))
set_option maxRecDepth 100000 in
set_option maxHeartbeats 4000000 in
theorem s_X11_mean {o : Om} {v0 : Nat} {v1 : Int32} {h : AH} {Q : Int32 → AH → Prop} (H : f_X11_mean v0 v1 h Q) : MQ' o kX11_mean [.ref v0, .int v1] h (qI Q) := by
  refine MQ'.of (by decide +kernel) (Nat.le_of_ble_eq_true rfl) ?_
  show AQ o kX11_mean h 0 [(0, .ref v0), (1, .int v1)] [] (qI Q)
  refine a_aload_n 0 rfl rfl dX11_mean_0 ?_
  refine a_aload_n 0 rfl rfl dX11_mean_1 ?_
  refine r_gR fo_RX11_11_11 dX11_mean_2 H (fun a1 H => ?_)
  refine a_iload_n 1 rfl rfl dX11_mean_5 ?_
  refine r_Vi (q := (RX11, TX11, 16)) (av := [.ref a1, .int v1]) (rest := []) rfl rfl okX11_refuseMissing H.1 rfl rfl wd283 wd285 wp2 ⟨Nat.le_of_ble_eq_true rfl, Nat.le_of_ble_eq_true rfl⟩ (Nat.le_of_ble_eq_true rfl) dX11_mean_6 (s_X11_refuseMissing H.2) (fun x2 h3 H => ?_)
  refine a_istore_n (lv1 := [(0, .ref v0), (1, .int v1), (2, .int x2)]) rfl [1, 2, 0] (by decide) rfl dX11_mean_9 ?_
  refine a_iload_n 2 rfl rfl dX11_mean_10 ?_
  refine a_if_eq (tgt := 16) dX11_mean_11 (by decide) (fun c => ?_) (fun c => ?_)
  · have H := H.1 (c)
    refine a_aload_n 0 rfl rfl dX11_mean_16 ?_
    refine r_gR fo_RX11_11_11 dX11_mean_17 H (fun a4 H => ?_)
    refine a_iload_n 1 rfl rfl dX11_mean_20 ?_
    refine r_lQ (by decide) dX11_mean_21 H (fun a5 H => ?_)
    refine a_astore_n (lv1 := [(0, .ref v0), (1, .int v1), (2, .int x2), (3, .ref a5)]) rfl [1, 2, 3, 0] (by decide) rfl dX11_mean_22 ?_
    refine a_aload_n 3 rfl rfl dX11_mean_23 ?_
    refine r_gI fo_RX11_130_6 dX11_mean_24 H (fun x6 H => ?_)
    refine a_if_ne (tgt := 36) dX11_mean_27 (by decide) (fun c => ?_) (fun c => ?_)
    · have H := H.1 (c)
      refine a_lconst (v := (0 : Int64)) (by decide) dX11_mean_36 ?_
      refine a_lstore (lv1 := [(0, .ref v0), (1, .int v1), (2, .int x2), (3, .ref a5), (4, .long (0 : Int64))]) [1, 2, 3, 4, 0] (by decide) rfl dX11_mean_37 ?_
      refine a_iconst (v := (0 : Int32)) (by decide) dX11_mean_39 ?_
      refine a_istore (lv1 := [(0, .ref v0), (1, .int v1), (2, .int x2), (3, .ref a5), (4, .long (0 : Int64)), (6, .int (0 : Int32))]) [1, 2, 3, 4, 5, 0] (by decide) rfl dX11_mean_40 ?_
      refine AQ.sub (lv1 := [(0, .ref v0), (3, .ref a5), (4, .long (0 : Int64)), (6, .int (0 : Int32))]) [0, 3, 4, 5] rfl ?_
      obtain ⟨n, H⟩ := H
      exact l_X11_mean_42  n _ _ _ H
    · have H := H.2 (c)
      refine a_aload_n 0 rfl rfl dX11_mean_30 ?_
      refine a_iconst (v := (4 : Int32)) (by decide) dX11_mean_31 ?_
      refine r_Vi (q := (RX11, TX11, 16)) (av := [.int (4 : Int32)]) (rest := []) rfl rfl okX11_found H.1 rfl rfl wd260 wd262 wp0 ⟨Nat.le_of_ble_eq_true rfl, Nat.le_of_ble_eq_true rfl⟩ (Nat.le_of_ble_eq_true rfl) dX11_mean_32 (s_X11_found H.2) (fun x7 h8 H => ?_)
      exact r_reti rfl dX11_mean_35 H
  · have H := H.2 (c)
    refine a_iload_n 2 rfl rfl dX11_mean_14 ?_
    exact r_reti rfl dX11_mean_15 H
def B_X12_mean_44 (Q : Int32 → AH → Prop) (K44 : Int64 → Int32 → AH → Prop) (v0 : Nat) (v1 : Int32) (v2 : Int64) (v4 : Int32) (h : AH) : Prop :=
  gR h v0 12 0 (fun a1 => lI h a1 v1 (fun x2 => ((x2 ≤ v4 → gR h v0 12 0 (fun a3 => lI h a3 v1 (fun x4 => (¬ x4.toInt64 = 0) ∧ (isO h v0 12 ∧ f_X12_tells v0 ((v2 / x4.toInt64).toInt32) h (fun x5 h6 => Q x5 h6))))) ∧ (¬ (x2 ≤ v4) → gR h v0 12 1 (fun a7 => lI h a7 (((60 : Int32) * v1) + v4) (fun x8 => K44 (v2 + x8.toInt64) (v4 + 1) h))))))
set_option maxRecDepth 100000 in
set_option maxHeartbeats 4000000 in
theorem b_X12_mean_44 {o : Om} {Q : Int32 → AH → Prop} {K44 : Int64 → Int32 → AH → Prop} {v0 : Nat} {v1 : Int32} {v2 : Int64} {v4 : Int32} {h : AH} (hK44 : ∀ w2 w4 h, K44 w2 w4 h → AQ o kX12_mean h 44 [(0, .ref v0), (1, .int v1), (2, .long w2), (4, .int w4)] [] (qI Q)) (H : B_X12_mean_44 Q K44 v0 v1 v2 v4 h) : AQ o kX12_mean h 44 [(0, .ref v0), (1, .int v1), (2, .long v2), (4, .int v4)] [] (qI Q) := by
  refine a_iload 3 rfl dX12_mean_44 ?_
  refine a_aload_n 0 rfl rfl dX12_mean_46 ?_
  refine r_gR fo_RX12_7_12 dX12_mean_47 H (fun a1 H => ?_)
  refine a_iload_n 1 rfl rfl dX12_mean_50 ?_
  refine r_lI dX12_mean_51 H (fun x2 H => ?_)
  refine a_icmp_ge (tgt := 77) dX12_mean_52 (by decide) (fun c => ?_) (fun c => ?_)
  · have H := H.1 (c)
    refine a_aload_n 0 rfl rfl dX12_mean_77 ?_
    refine a_lload_n 2 rfl rfl dX12_mean_78 ?_
    refine a_aload_n 0 rfl rfl dX12_mean_79 ?_
    refine r_gR fo_RX12_7_12 dX12_mean_80 H (fun a3 H => ?_)
    refine a_iload_n 1 rfl rfl dX12_mean_83 ?_
    refine r_lI dX12_mean_84 H (fun x4 H => ?_)
    refine a_i2l dX12_mean_85 ?_
    refine a_ldiv H.1 dX12_mean_86 ?_
    have H := H.2
    refine a_l2i dX12_mean_87 ?_
    refine r_Vi (q := (RX12, TX12, 51)) (av := [.int ((v2 / x4.toInt64).toInt32)]) (rest := []) rfl rfl okX12_tells H.1 rfl rfl wd1211 wd1213 wp34 ⟨Nat.le_of_ble_eq_true rfl, Nat.le_of_ble_eq_true rfl⟩ (Nat.le_of_ble_eq_true rfl) dX12_mean_88 (s_X12_tells H.2) (fun x5 h6 H => ?_)
    exact r_reti rfl dX12_mean_91 H
  · have H := H.2 (c)
    refine a_lload_n 2 rfl rfl dX12_mean_55 ?_
    refine a_aload_n 0 rfl rfl dX12_mean_56 ?_
    refine r_gR fo_RX12_13_12 dX12_mean_57 H (fun a7 H => ?_)
    refine a_bipush (v := (60 : Int32)) (by decide) dX12_mean_60 ?_
    refine a_iload_n 1 rfl rfl dX12_mean_62 ?_
    refine a_imul dX12_mean_63 ?_
    refine a_iload 3 rfl dX12_mean_64 ?_
    refine a_iadd dX12_mean_66 ?_
    refine r_lI dX12_mean_67 H (fun x8 H => ?_)
    refine a_i2l dX12_mean_68 ?_
    refine a_ladd dX12_mean_69 ?_
    refine a_lstore_n (lv1 := [(0, .ref v0), (1, .int v1), (2, .long (v2 + x8.toInt64)), (4, .int v4)]) rfl [1, 2, 0, 3] (by decide) rfl dX12_mean_70 ?_
    refine a_iinc (v := v4 + 1) (lv1 := [(0, .ref v0), (1, .int v1), (2, .long (v2 + x8.toInt64)), (4, .int (v4 + 1))]) [1, 2, 3, 0] 3 rfl (by decide) rfl rfl dX12_mean_71 ?_
    refine a_goto (tgt := 44) dX12_mean_74 (by decide) ?_
    exact hK44 _ _ _ H
def L_X12_mean_44 (Q : Int32 → AH → Prop)  (v0 : Nat) (v1 : Int32) : Nat → Int64 → Int32 → AH → Prop
  | 0, _, _, _ => False
  | n + 1, v2, v4, h => B_X12_mean_44 Q (L_X12_mean_44 Q  v0 v1 n) v0 v1 v2 v4 h
theorem l_X12_mean_44 {o : Om} {Q : Int32 → AH → Prop}  {v0 : Nat} {v1 : Int32}  : ∀ (n : Nat) (v2 : Int64) (v4 : Int32) (h : AH), L_X12_mean_44 Q  v0 v1 n v2 v4 h → AQ o kX12_mean h 44 [(0, .ref v0), (1, .int v1), (2, .long v2), (4, .int v4)] [] (qI Q) := by
  intro n
  induction n with
  | zero => intro v2 v4 h H; exact H.elim
  | succ n ih => intro v2 v4 h H; exact b_X12_mean_44 ih H
def f_X12_mean (v0 : Nat) (v1 : Int32) (h : AH) (Q : Int32 → AH → Prop) : Prop :=
  f_X12_isRow v1 h (fun x1 h2 => ((¬ (x1 = 0) → gR h2 v0 12 0 (fun a3 => lI h2 a3 v1 (fun x4 => ((0 ≤ x4 → gR h2 v0 12 0 (fun a5 => lI h2 a5 v1 (fun x6 => ((¬ (x6 = 0) → ∃ n, L_X12_mean_44 Q  v0 v1 n (0 : Int64) (0 : Int32) h2) ∧ (x6 = 0 → isO h2 v0 12 ∧ f_X12_find v0 (4 : Int32) h2 (fun x7 h8 => Q x7 h8)))))) ∧ (¬ (0 ≤ x4) → isO h2 v0 12 ∧ f_X12_find v0 (1 : Int32) h2 (fun x9 h10 => Q x9 h10)))))) ∧ (x1 = 0 → Q (-1 : Int32) h2)))
set_option maxRecDepth 100000 in
set_option maxHeartbeats 4000000 in
theorem s_X12_mean {o : Om} {v0 : Nat} {v1 : Int32} {h : AH} {Q : Int32 → AH → Prop} (H : f_X12_mean v0 v1 h Q) : MQ' o kX12_mean [.ref v0, .int v1] h (qI Q) := by
  refine MQ'.of (by decide +kernel) (Nat.le_of_ble_eq_true rfl) ?_
  show AQ o kX12_mean h 0 [(0, .ref v0), (1, .int v1)] [] (qI Q)
  refine a_iload_n 1 rfl rfl dX12_mean_0 ?_
  refine r_Si (av := [.int v1]) (rest := []) rfl rfl okX12_isRow wd1184 wd1185 ⟨Nat.le_of_ble_eq_true rfl, Nat.le_of_ble_eq_true rfl⟩ (Nat.le_of_ble_eq_true rfl) dX12_mean_1 (s_X12_isRow H) (fun x1 h2 H => ?_)
  refine a_if_ne (tgt := 9) dX12_mean_4 (by decide) (fun c => ?_) (fun c => ?_)
  · have H := H.1 (c)
    refine a_aload_n 0 rfl rfl dX12_mean_9 ?_
    refine r_gR fo_RX12_7_12 dX12_mean_10 H (fun a3 H => ?_)
    refine a_iload_n 1 rfl rfl dX12_mean_13 ?_
    refine r_lI dX12_mean_14 H (fun x4 H => ?_)
    refine a_if_ge (tgt := 24) dX12_mean_15 (by decide) (fun c => ?_) (fun c => ?_)
    · have H := H.1 (c)
      refine a_aload_n 0 rfl rfl dX12_mean_24 ?_
      refine r_gR fo_RX12_7_12 dX12_mean_25 H (fun a5 H => ?_)
      refine a_iload_n 1 rfl rfl dX12_mean_28 ?_
      refine r_lI dX12_mean_29 H (fun x6 H => ?_)
      refine a_if_ne (tgt := 39) dX12_mean_30 (by decide) (fun c => ?_) (fun c => ?_)
      · have H := H.1 (c)
        refine a_lconst (v := (0 : Int64)) (by decide) dX12_mean_39 ?_
        refine a_lstore_n (lv1 := [(0, .ref v0), (1, .int v1), (2, .long (0 : Int64))]) rfl [1, 2, 0] (by decide) rfl dX12_mean_40 ?_
        refine a_iconst (v := (0 : Int32)) (by decide) dX12_mean_41 ?_
        refine a_istore (lv1 := [(0, .ref v0), (1, .int v1), (2, .long (0 : Int64)), (4, .int (0 : Int32))]) [1, 2, 3, 0] (by decide) rfl dX12_mean_42 ?_
        obtain ⟨n, H⟩ := H
        exact l_X12_mean_44  n _ _ _ H
      · have H := H.2 (c)
        refine a_aload_n 0 rfl rfl dX12_mean_33 ?_
        refine a_iconst (v := (4 : Int32)) (by decide) dX12_mean_34 ?_
        refine r_Vi (q := (RX12, TX12, 51)) (av := [.int (4 : Int32)]) (rest := []) rfl rfl okX12_find H.1 rfl rfl wd1191 wd1193 wp31 ⟨Nat.le_of_ble_eq_true rfl, Nat.le_of_ble_eq_true rfl⟩ (Nat.le_of_ble_eq_true rfl) dX12_mean_35 (s_X12_find H.2) (fun x7 h8 H => ?_)
        exact r_reti rfl dX12_mean_38 H
    · have H := H.2 (c)
      refine a_aload_n 0 rfl rfl dX12_mean_18 ?_
      refine a_iconst (v := (1 : Int32)) (by decide) dX12_mean_19 ?_
      refine r_Vi (q := (RX12, TX12, 51)) (av := [.int (1 : Int32)]) (rest := []) rfl rfl okX12_find H.1 rfl rfl wd1191 wd1193 wp31 ⟨Nat.le_of_ble_eq_true rfl, Nat.le_of_ble_eq_true rfl⟩ (Nat.le_of_ble_eq_true rfl) dX12_mean_20 (s_X12_find H.2) (fun x9 h10 H => ?_)
      exact r_reti rfl dX12_mean_23 H
  · have H := H.2 (c)
    refine a_iconst (v := (-1 : Int32)) (by decide) dX12_mean_7 ?_
    exact r_reti rfl dX12_mean_8 H
def f_X11_text (v0 : Nat) (v1 : Int32) (v2 : Int32) (h : AH) (Q : Int32 → AH → Prop) : Prop :=
  f_X11_isBelow v1 (4 : Int32) h (fun x1 h2 => ((x1 = 0 → Q (-1 : Int32) h2) ∧ (¬ (x1 = 0) → ((v2 ≤ (60 : Int32) → ((0 ≤ v2 → gR h2 v0 11 1 (fun a3 => lQ h2 a3 2 v1 (fun a4 => isO h2 a4 6 ∧ f_X6_begin a4 v2 (32 : Int32) h2 (fun h5 => Q v2 h5)))) ∧ (¬ (0 ≤ v2) → isO h2 v0 11 ∧ f_X11_found v0 (5 : Int32) h2 (fun x6 h7 => Q x6 h7)))) ∧ (¬ (v2 ≤ (60 : Int32)) → Q (-1 : Int32) h2)))))
set_option maxRecDepth 100000 in
set_option maxHeartbeats 4000000 in
theorem s_X11_text {o : Om} {v0 : Nat} {v1 : Int32} {v2 : Int32} {h : AH} {Q : Int32 → AH → Prop} (H : f_X11_text v0 v1 v2 h Q) : MQ' o kX11_text [.ref v0, .int v1, .int v2] h (qI Q) := by
  refine MQ'.of (by decide +kernel) (Nat.le_of_ble_eq_true rfl) ?_
  show AQ o kX11_text h 0 [(0, .ref v0), (1, .int v1), (2, .int v2)] [] (qI Q)
  refine a_iload_n 1 rfl rfl dX11_text_0 ?_
  refine a_iconst (v := (4 : Int32)) (by decide) dX11_text_1 ?_
  refine r_Si (av := [.int v1, .int (4 : Int32)]) (rest := []) rfl rfl okX11_isBelow wd257 wd258 ⟨Nat.le_of_ble_eq_true rfl, Nat.le_of_ble_eq_true rfl⟩ (Nat.le_of_ble_eq_true rfl) dX11_text_2 (s_X11_isBelow H) (fun x1 h2 H => ?_)
  refine a_if_eq (tgt := 14) dX11_text_5 (by decide) (fun c => ?_) (fun c => ?_)
  · have H := H.1 (c)
    refine a_iconst (v := (-1 : Int32)) (by decide) dX11_text_14 ?_
    exact r_reti rfl dX11_text_15 H
  · have H := H.2 (c)
    refine a_iload_n 2 rfl rfl dX11_text_8 ?_
    refine a_bipush (v := (60 : Int32)) (by decide) dX11_text_9 ?_
    refine a_icmp_le (tgt := 16) dX11_text_11 (by decide) (fun c => ?_) (fun c => ?_)
    · have H := H.1 (c)
      refine a_iload_n 2 rfl rfl dX11_text_16 ?_
      refine a_if_ge (tgt := 26) dX11_text_17 (by decide) (fun c => ?_) (fun c => ?_)
      · have H := H.1 (c)
        refine a_aload_n 0 rfl rfl dX11_text_26 ?_
        refine r_gR fo_RX11_15_11 dX11_text_27 H (fun a3 H => ?_)
        refine a_iload_n 1 rfl rfl dX11_text_30 ?_
        refine r_lQ (by decide) dX11_text_31 H (fun a4 H => ?_)
        refine a_iload_n 2 rfl rfl dX11_text_32 ?_
        refine a_bipush (v := (32 : Int32)) (by decide) dX11_text_33 ?_
        refine r_Vv (q := (RX6, TX6, 2)) (av := [.int v2, .int (32 : Int32)]) (rest := []) rfl rfl okX6_begin H.1 rfl rfl wd264 wd265 wd266 ⟨Nat.le_of_ble_eq_true rfl, Nat.le_of_ble_eq_true rfl⟩ (Nat.le_of_ble_eq_true rfl) dX11_text_35 (s_X6_begin H.2) (fun h5 H => ?_)
        refine a_iload_n 2 rfl rfl dX11_text_38 ?_
        exact r_reti rfl dX11_text_39 H
      · have H := H.2 (c)
        refine a_aload_n 0 rfl rfl dX11_text_20 ?_
        refine a_iconst (v := (5 : Int32)) (by decide) dX11_text_21 ?_
        refine r_Vi (q := (RX11, TX11, 16)) (av := [.int (5 : Int32)]) (rest := []) rfl rfl okX11_found H.1 rfl rfl wd260 wd262 wp0 ⟨Nat.le_of_ble_eq_true rfl, Nat.le_of_ble_eq_true rfl⟩ (Nat.le_of_ble_eq_true rfl) dX11_text_22 (s_X11_found H.2) (fun x6 h7 H => ?_)
        exact r_reti rfl dX11_text_25 H
    · have H := H.2 (c)
      refine a_iconst (v := (-1 : Int32)) (by decide) dX11_text_14 ?_
      exact r_reti rfl dX11_text_15 H
def f_X12_isText (v0 : Int32) (h : AH) (Q : Int32 → AH → Prop) : Prop :=
  f_X12_in v0.toInt64 (0 : Int64) (3 : Int64) h (fun x1 h2 => (bl x1 ∧ Q x1 h2))
set_option maxRecDepth 100000 in
set_option maxHeartbeats 4000000 in
theorem s_X12_isText {o : Om} {v0 : Int32} {h : AH} {Q : Int32 → AH → Prop} (H : f_X12_isText v0 h Q) : MQ' o kX12_isText [.int v0] h (qI Q) := by
  refine MQ'.of (by decide +kernel) (Nat.le_of_ble_eq_true rfl) ?_
  show AQ o kX12_isText h 0 [(0, .int v0)] [] (qI Q)
  refine a_iload_n 0 rfl rfl dX12_isText_0 ?_
  refine a_i2l dX12_isText_1 ?_
  refine a_lconst (v := (0 : Int64)) (by decide) dX12_isText_2 ?_
  refine a_ldc2 (v := (3 : Int64)) wd1234 dX12_isText_3 ?_
  refine r_Si (av := [.long v0.toInt64, .long (0 : Int64), .long (3 : Int64)]) (rest := []) rfl rfl okX12_in wd1188 wd1189 ⟨Nat.le_of_ble_eq_true rfl, Nat.le_of_ble_eq_true rfl⟩ (Nat.le_of_ble_eq_true rfl) dX12_isText_6 (s_X12_in H) (fun x1 h2 H => ?_)
  exact r_retz rfl H.1 dX12_isText_9 H.2
def B_X12_text_34 (Q : Int32 → AH → Prop) (K34 : Int32 → AH → Prop) (v0 : Nat) (v1 : Int32) (v2 : Int32) (v3 : Int32) (h : AH) : Prop :=
  ((v2 ≤ v3 → Q v2 h) ∧ (¬ (v2 ≤ v3) → gR h v0 12 3 (fun a1 => sI h a1 (((60 : Int32) * v1) + v3) (32 : Int32) (fun h2 => K34 (v3 + 1) h2))))
set_option maxRecDepth 100000 in
set_option maxHeartbeats 4000000 in
theorem b_X12_text_34 {o : Om} {Q : Int32 → AH → Prop} {K34 : Int32 → AH → Prop} {v0 : Nat} {v1 : Int32} {v2 : Int32} {v3 : Int32} {h : AH} (hK34 : ∀ w3 h, K34 w3 h → AQ o kX12_text h 34 [(0, .ref v0), (1, .int v1), (2, .int v2), (3, .int w3)] [] (qI Q)) (H : B_X12_text_34 Q K34 v0 v1 v2 v3 h) : AQ o kX12_text h 34 [(0, .ref v0), (1, .int v1), (2, .int v2), (3, .int v3)] [] (qI Q) := by
  refine a_iload_n 3 rfl rfl dX12_text_34 ?_
  refine a_iload_n 2 rfl rfl dX12_text_35 ?_
  refine a_icmp_ge (tgt := 58) dX12_text_36 (by decide) (fun c => ?_) (fun c => ?_)
  · have H := H.1 (c)
    refine a_iload_n 2 rfl rfl dX12_text_58 ?_
    exact r_reti rfl dX12_text_59 H
  · have H := H.2 (c)
    refine a_aload_n 0 rfl rfl dX12_text_39 ?_
    refine r_gR fo_RX12_19_12 dX12_text_40 H (fun a1 H => ?_)
    refine a_bipush (v := (60 : Int32)) (by decide) dX12_text_43 ?_
    refine a_iload_n 1 rfl rfl dX12_text_45 ?_
    refine a_imul dX12_text_46 ?_
    refine a_iload_n 3 rfl rfl dX12_text_47 ?_
    refine a_iadd dX12_text_48 ?_
    refine a_bipush (v := (32 : Int32)) (by decide) dX12_text_49 ?_
    refine r_sI dX12_text_51 H (fun h2 H => ?_)
    refine a_iinc (v := v3 + 1) (lv1 := [(0, .ref v0), (1, .int v1), (2, .int v2), (3, .int (v3 + 1))]) [1, 2, 3, 0] 3 rfl (by decide) rfl rfl dX12_text_52 ?_
    refine a_goto (tgt := 34) dX12_text_55 (by decide) ?_
    exact hK34 _ _ H
def L_X12_text_34 (Q : Int32 → AH → Prop)  (v0 : Nat) (v1 : Int32) (v2 : Int32) : Nat → Int32 → AH → Prop
  | 0, _, _ => False
  | n + 1, v3, h => B_X12_text_34 Q (L_X12_text_34 Q  v0 v1 v2 n) v0 v1 v2 v3 h
theorem l_X12_text_34 {o : Om} {Q : Int32 → AH → Prop}  {v0 : Nat} {v1 : Int32} {v2 : Int32}  : ∀ (n : Nat) (v3 : Int32) (h : AH), L_X12_text_34 Q  v0 v1 v2 n v3 h → AQ o kX12_text h 34 [(0, .ref v0), (1, .int v1), (2, .int v2), (3, .int v3)] [] (qI Q) := by
  intro n
  induction n with
  | zero => intro v3 h H; exact H.elim
  | succ n ih => intro v3 h H; exact b_X12_text_34 ih H
def f_X12_text (v0 : Nat) (v1 : Int32) (v2 : Int32) (h : AH) (Q : Int32 → AH → Prop) : Prop :=
  f_X12_isText v1 h (fun x1 h2 => ((x1 = 0 → Q (-1 : Int32) h2) ∧ (¬ (x1 = 0) → ((v2 ≤ (60 : Int32) → ((0 ≤ v2 → gR h2 v0 12 2 (fun a3 => sI h2 a3 v1 v2 (fun h4 => ∃ n, L_X12_text_34 Q  v0 v1 v2 n (0 : Int32) h4))) ∧ (¬ (0 ≤ v2) → isO h2 v0 12 ∧ f_X12_find v0 (5 : Int32) h2 (fun x5 h6 => Q x5 h6)))) ∧ (¬ (v2 ≤ (60 : Int32)) → Q (-1 : Int32) h2)))))
set_option maxRecDepth 100000 in
set_option maxHeartbeats 4000000 in
theorem s_X12_text {o : Om} {v0 : Nat} {v1 : Int32} {v2 : Int32} {h : AH} {Q : Int32 → AH → Prop} (H : f_X12_text v0 v1 v2 h Q) : MQ' o kX12_text [.ref v0, .int v1, .int v2] h (qI Q) := by
  refine MQ'.of (by decide +kernel) (Nat.le_of_ble_eq_true rfl) ?_
  show AQ o kX12_text h 0 [(0, .ref v0), (1, .int v1), (2, .int v2)] [] (qI Q)
  refine a_iload_n 1 rfl rfl dX12_text_0 ?_
  refine r_Si (av := [.int v1]) (rest := []) rfl rfl okX12_isText wd1231 wd1232 ⟨Nat.le_of_ble_eq_true rfl, Nat.le_of_ble_eq_true rfl⟩ (Nat.le_of_ble_eq_true rfl) dX12_text_1 (s_X12_isText H) (fun x1 h2 H => ?_)
  refine a_if_eq (tgt := 13) dX12_text_4 (by decide) (fun c => ?_) (fun c => ?_)
  · have H := H.1 (c)
    refine a_iconst (v := (-1 : Int32)) (by decide) dX12_text_13 ?_
    exact r_reti rfl dX12_text_14 H
  · have H := H.2 (c)
    refine a_iload_n 2 rfl rfl dX12_text_7 ?_
    refine a_bipush (v := (60 : Int32)) (by decide) dX12_text_8 ?_
    refine a_icmp_le (tgt := 15) dX12_text_10 (by decide) (fun c => ?_) (fun c => ?_)
    · have H := H.1 (c)
      refine a_iload_n 2 rfl rfl dX12_text_15 ?_
      refine a_if_ge (tgt := 25) dX12_text_16 (by decide) (fun c => ?_) (fun c => ?_)
      · have H := H.1 (c)
        refine a_aload_n 0 rfl rfl dX12_text_25 ?_
        refine r_gR fo_RX12_16_12 dX12_text_26 H (fun a3 H => ?_)
        refine a_iload_n 1 rfl rfl dX12_text_29 ?_
        refine a_iload_n 2 rfl rfl dX12_text_30 ?_
        refine r_sI dX12_text_31 H (fun h4 H => ?_)
        refine a_iconst (v := (0 : Int32)) (by decide) dX12_text_32 ?_
        refine a_istore_n (lv1 := [(0, .ref v0), (1, .int v1), (2, .int v2), (3, .int (0 : Int32))]) rfl [1, 2, 3, 0] (by decide) rfl dX12_text_33 ?_
        obtain ⟨n, H⟩ := H
        exact l_X12_text_34  n _ _ H
      · have H := H.2 (c)
        refine a_aload_n 0 rfl rfl dX12_text_19 ?_
        refine a_iconst (v := (5 : Int32)) (by decide) dX12_text_20 ?_
        refine r_Vi (q := (RX12, TX12, 51)) (av := [.int (5 : Int32)]) (rest := []) rfl rfl okX12_find H.1 rfl rfl wd1191 wd1193 wp31 ⟨Nat.le_of_ble_eq_true rfl, Nat.le_of_ble_eq_true rfl⟩ (Nat.le_of_ble_eq_true rfl) dX12_text_21 (s_X12_find H.2) (fun x5 h6 H => ?_)
        exact r_reti rfl dX12_text_24 H
    · have H := H.2 (c)
      refine a_iconst (v := (-1 : Int32)) (by decide) dX12_text_13 ?_
      exact r_reti rfl dX12_text_14 H
def f_X11_put (v0 : Nat) (v1 : Int32) (v2 : Int32) (v3 : Int32) (h : AH) (Q : Int32 → AH → Prop) : Prop :=
  gR h v0 11 1 (fun a1 => isO h v0 11 ∧ f_X11_refusePlace v0 a1 v1 v2 h (fun x2 h3 => ((x2 = 0 → gR h3 v0 11 1 (fun a4 => lQ h3 a4 2 v1 (fun a5 => isO h3 a5 6 ∧ f_X6_get a5 v2 h3 (fun x6 h7 => gR h7 v0 11 1 (fun a8 => lQ h7 a8 2 v1 (fun a9 => isO h7 a9 6 ∧ f_X6_set a9 v2 v3.toInt8.toInt32 h7 (fun h10 => Q (x6 + (1000 : Int32)) h10))))))) ∧ (¬ (x2 = 0) → Q x2 h3))))
set_option maxRecDepth 100000 in
set_option maxHeartbeats 4000000 in
theorem s_X11_put {o : Om} {v0 : Nat} {v1 : Int32} {v2 : Int32} {v3 : Int32} {h : AH} {Q : Int32 → AH → Prop} (H : f_X11_put v0 v1 v2 v3 h Q) : MQ' o kX11_put [.ref v0, .int v1, .int v2, .int v3] h (qI Q) := by
  refine MQ'.of (by decide +kernel) (Nat.le_of_ble_eq_true rfl) ?_
  show AQ o kX11_put h 0 [(0, .ref v0), (1, .int v1), (2, .int v2), (3, .int v3)] [] (qI Q)
  refine a_aload_n 0 rfl rfl dX11_put_0 ?_
  refine a_aload_n 0 rfl rfl dX11_put_1 ?_
  refine r_gR fo_RX11_15_11 dX11_put_2 H (fun a1 H => ?_)
  refine a_iload_n 1 rfl rfl dX11_put_5 ?_
  refine a_iload_n 2 rfl rfl dX11_put_6 ?_
  refine r_Vi (q := (RX11, TX11, 16)) (av := [.ref a1, .int v1, .int v2]) (rest := []) rfl rfl okX11_refusePlace H.1 rfl rfl wd279 wd281 wp1 ⟨Nat.le_of_ble_eq_true rfl, Nat.le_of_ble_eq_true rfl⟩ (Nat.le_of_ble_eq_true rfl) dX11_put_7 (s_X11_refusePlace H.2) (fun x2 h3 H => ?_)
  refine a_istore (lv1 := [(0, .ref v0), (1, .int v1), (2, .int v2), (3, .int v3), (4, .int x2)]) [1, 2, 3, 4, 0] (by decide) rfl dX11_put_10 ?_
  refine a_iload 4 rfl dX11_put_12 ?_
  refine a_if_eq (tgt := 20) dX11_put_14 (by decide) (fun c => ?_) (fun c => ?_)
  · have H := H.1 (c)
    refine a_aload_n 0 rfl rfl dX11_put_20 ?_
    refine r_gR fo_RX11_15_11 dX11_put_21 H (fun a4 H => ?_)
    refine a_iload_n 1 rfl rfl dX11_put_24 ?_
    refine r_lQ (by decide) dX11_put_25 H (fun a5 H => ?_)
    refine a_iload_n 2 rfl rfl dX11_put_26 ?_
    refine r_Vi (q := (RX6, TX6, 2)) (av := [.int v2]) (rest := []) rfl rfl okX6_get H.1 rfl rfl wd295 wd296 wd297 ⟨Nat.le_of_ble_eq_true rfl, Nat.le_of_ble_eq_true rfl⟩ (Nat.le_of_ble_eq_true rfl) dX11_put_27 (s_X6_get H.2) (fun x6 h7 H => ?_)
    refine a_istore (lv1 := [(0, .ref v0), (1, .int v1), (2, .int v2), (3, .int v3), (4, .int x2), (5, .int x6)]) [1, 2, 3, 4, 5, 0] (by decide) rfl dX11_put_30 ?_
    refine a_aload_n 0 rfl rfl dX11_put_32 ?_
    refine r_gR fo_RX11_15_11 dX11_put_33 H (fun a8 H => ?_)
    refine a_iload_n 1 rfl rfl dX11_put_36 ?_
    refine r_lQ (by decide) dX11_put_37 H (fun a9 H => ?_)
    refine a_iload_n 2 rfl rfl dX11_put_38 ?_
    refine a_iload_n 3 rfl rfl dX11_put_39 ?_
    refine a_i2b dX11_put_40 ?_
    refine r_Vv (q := (RX6, TX6, 2)) (av := [.int v2, .int v3.toInt8.toInt32]) (rest := []) rfl rfl okX6_set H.1 rfl rfl wd300 wd301 wd302 ⟨Nat.le_of_ble_eq_true rfl, Nat.le_of_ble_eq_true rfl⟩ (Nat.le_of_ble_eq_true rfl) dX11_put_41 (s_X6_set H.2) (fun h10 H => ?_)
    refine a_iload 5 rfl dX11_put_44 ?_
    refine a_sipush (v := (1000 : Int32)) (by decide) dX11_put_46 ?_
    refine a_iadd dX11_put_49 ?_
    exact r_reti rfl dX11_put_50 H
  · have H := H.2 (c)
    refine a_iload 4 rfl dX11_put_17 ?_
    exact r_reti rfl dX11_put_19 H
def f_X12_put (v0 : Nat) (v1 : Int32) (v2 : Int32) (v3 : Int32) (h : AH) (Q : Int32 → AH → Prop) : Prop :=
  f_X12_isText v1 h (fun x1 h2 => ((¬ (x1 = 0) → gR h2 v0 12 2 (fun a3 => lI h2 a3 v1 (fun x4 => ((0 ≤ x4 → gR h2 v0 12 2 (fun a5 => lI h2 a5 v1 (fun x6 => f_X12_in v2.toInt64 (0 : Int64) ((x6 - (1 : Int32)).toInt64) h2 (fun x7 h8 => ((¬ (x7 = 0) → gR h8 v0 12 3 (fun a9 => lI h8 a9 (((60 : Int32) * v1) + v2) (fun x10 => gR h8 v0 12 3 (fun a11 => sI h8 a11 (((60 : Int32) * v1) + v2) v3.toInt8.toInt32 (fun h12 => Q (x10 + (1000 : Int32)) h12))))) ∧ (x7 = 0 → isO h8 v0 12 ∧ f_X12_find v0 (2 : Int32) h8 (fun x13 h14 => Q x13 h14))))))) ∧ (¬ (0 ≤ x4) → isO h2 v0 12 ∧ f_X12_find v0 (1 : Int32) h2 (fun x15 h16 => Q x15 h16)))))) ∧ (x1 = 0 → Q (-1 : Int32) h2)))
set_option maxRecDepth 100000 in
set_option maxHeartbeats 4000000 in
theorem s_X12_put {o : Om} {v0 : Nat} {v1 : Int32} {v2 : Int32} {v3 : Int32} {h : AH} {Q : Int32 → AH → Prop} (H : f_X12_put v0 v1 v2 v3 h Q) : MQ' o kX12_put [.ref v0, .int v1, .int v2, .int v3] h (qI Q) := by
  refine MQ'.of (by decide +kernel) (Nat.le_of_ble_eq_true rfl) ?_
  show AQ o kX12_put h 0 [(0, .ref v0), (1, .int v1), (2, .int v2), (3, .int v3)] [] (qI Q)
  refine a_iload_n 1 rfl rfl dX12_put_0 ?_
  refine r_Si (av := [.int v1]) (rest := []) rfl rfl okX12_isText wd1231 wd1232 ⟨Nat.le_of_ble_eq_true rfl, Nat.le_of_ble_eq_true rfl⟩ (Nat.le_of_ble_eq_true rfl) dX12_put_1 (s_X12_isText H) (fun x1 h2 H => ?_)
  refine a_if_ne (tgt := 9) dX12_put_4 (by decide) (fun c => ?_) (fun c => ?_)
  · have H := H.1 (c)
    refine a_aload_n 0 rfl rfl dX12_put_9 ?_
    refine r_gR fo_RX12_16_12 dX12_put_10 H (fun a3 H => ?_)
    refine a_iload_n 1 rfl rfl dX12_put_13 ?_
    refine r_lI dX12_put_14 H (fun x4 H => ?_)
    refine a_if_ge (tgt := 24) dX12_put_15 (by decide) (fun c => ?_) (fun c => ?_)
    · have H := H.1 (c)
      refine a_iload_n 2 rfl rfl dX12_put_24 ?_
      refine a_i2l dX12_put_25 ?_
      refine a_lconst (v := (0 : Int64)) (by decide) dX12_put_26 ?_
      refine a_aload_n 0 rfl rfl dX12_put_27 ?_
      refine r_gR fo_RX12_16_12 dX12_put_28 H (fun a5 H => ?_)
      refine a_iload_n 1 rfl rfl dX12_put_31 ?_
      refine r_lI dX12_put_32 H (fun x6 H => ?_)
      refine a_iconst (v := (1 : Int32)) (by decide) dX12_put_33 ?_
      refine a_isub dX12_put_34 ?_
      refine a_i2l dX12_put_35 ?_
      refine r_Si (av := [.long v2.toInt64, .long (0 : Int64), .long ((x6 - (1 : Int32)).toInt64)]) (rest := []) rfl rfl okX12_in wd1188 wd1189 ⟨Nat.le_of_ble_eq_true rfl, Nat.le_of_ble_eq_true rfl⟩ (Nat.le_of_ble_eq_true rfl) dX12_put_36 (s_X12_in H) (fun x7 h8 H => ?_)
      refine a_if_ne (tgt := 48) dX12_put_39 (by decide) (fun c => ?_) (fun c => ?_)
      · have H := H.1 (c)
        refine a_aload_n 0 rfl rfl dX12_put_48 ?_
        refine r_gR fo_RX12_19_12 dX12_put_49 H (fun a9 H => ?_)
        refine a_bipush (v := (60 : Int32)) (by decide) dX12_put_52 ?_
        refine a_iload_n 1 rfl rfl dX12_put_54 ?_
        refine a_imul dX12_put_55 ?_
        refine a_iload_n 2 rfl rfl dX12_put_56 ?_
        refine a_iadd dX12_put_57 ?_
        refine r_lI dX12_put_58 H (fun x10 H => ?_)
        refine a_istore (lv1 := [(0, .ref v0), (1, .int v1), (2, .int v2), (3, .int v3), (4, .int x10)]) [1, 2, 3, 4, 0] (by decide) rfl dX12_put_59 ?_
        refine a_aload_n 0 rfl rfl dX12_put_61 ?_
        refine r_gR fo_RX12_19_12 dX12_put_62 H (fun a11 H => ?_)
        refine a_bipush (v := (60 : Int32)) (by decide) dX12_put_65 ?_
        refine a_iload_n 1 rfl rfl dX12_put_67 ?_
        refine a_imul dX12_put_68 ?_
        refine a_iload_n 2 rfl rfl dX12_put_69 ?_
        refine a_iadd dX12_put_70 ?_
        refine a_iload_n 3 rfl rfl dX12_put_71 ?_
        refine a_i2b dX12_put_72 ?_
        refine r_sI dX12_put_73 H (fun h12 H => ?_)
        refine a_iload 4 rfl dX12_put_74 ?_
        refine a_sipush (v := (1000 : Int32)) (by decide) dX12_put_76 ?_
        refine a_iadd dX12_put_79 ?_
        exact r_reti rfl dX12_put_80 H
      · have H := H.2 (c)
        refine a_aload_n 0 rfl rfl dX12_put_42 ?_
        refine a_iconst (v := (2 : Int32)) (by decide) dX12_put_43 ?_
        refine r_Vi (q := (RX12, TX12, 51)) (av := [.int (2 : Int32)]) (rest := []) rfl rfl okX12_find H.1 rfl rfl wd1191 wd1193 wp31 ⟨Nat.le_of_ble_eq_true rfl, Nat.le_of_ble_eq_true rfl⟩ (Nat.le_of_ble_eq_true rfl) dX12_put_44 (s_X12_find H.2) (fun x13 h14 H => ?_)
        exact r_reti rfl dX12_put_47 H
    · have H := H.2 (c)
      refine a_aload_n 0 rfl rfl dX12_put_18 ?_
      refine a_iconst (v := (1 : Int32)) (by decide) dX12_put_19 ?_
      refine r_Vi (q := (RX12, TX12, 51)) (av := [.int (1 : Int32)]) (rest := []) rfl rfl okX12_find H.1 rfl rfl wd1191 wd1193 wp31 ⟨Nat.le_of_ble_eq_true rfl, Nat.le_of_ble_eq_true rfl⟩ (Nat.le_of_ble_eq_true rfl) dX12_put_20 (s_X12_find H.2) (fun x15 h16 H => ?_)
      exact r_reti rfl dX12_put_23 H
  · have H := H.2 (c)
    refine a_iconst (v := (-1 : Int32)) (by decide) dX12_put_7 ?_
    exact r_reti rfl dX12_put_8 H
def f_X4_init (v0 : Nat) (v1 : Nat) (h : AH) (Q : AH → Prop) : Prop :=
  nO h 5 10 dfX5 (fun a1 h2 => f_X5_init a1  h2 (fun h3 => pF h3 v0 4 0 (.ref a1) (fun h4 => pF h4 v0 4 2 (.int (0 : Int32)) (fun h5 => pF h5 v0 4 1 (.ref v1) (fun h6 => Q h6)))))
set_option maxRecDepth 100000 in
set_option maxHeartbeats 4000000 in
theorem s_X4_init {o : Om} {v0 : Nat} {v1 : Nat} {h : AH} {Q : AH → Prop} (H : f_X4_init v0 v1 h Q) : MQ' o kX4_init [.ref v0, .ref v1] h (qV Q) := by
  refine MQ'.of (by decide +kernel) (Nat.le_of_ble_eq_true rfl) ?_
  show AQ o kX4_init h 0 [(0, .ref v0), (1, .ref v1)] [] (qV Q)
  refine a_aload_n 0 rfl rfl dX4_init_0 ?_
  refine a_objInit wd348 wd23 wd24 ⟨Nat.le_of_ble_eq_true rfl, Nat.le_of_ble_eq_true rfl⟩ dX4_init_1 ?_
  refine a_aload_n 0 rfl rfl dX4_init_4 ?_
  refine r_nO (C := RX5) (T := TX5) (N := 10) (ty := tyX5) rfl inG5 tyX5_ok wd349 wd30 wd2 dfX5_ok dX4_init_5 H (fun a1 h2 H => ?_)
  refine a_dup rfl dX4_init_8 ?_
  refine r_INv (host := "MilestonesOn") (av := []) (rest := [.ref a1, .ref v0]) rfl rfl okX5_init (by decide +kernel) wd32 rfl rfl ⟨Nat.le_of_ble_eq_true rfl, Nat.le_of_ble_eq_true rfl⟩ (Nat.le_of_ble_eq_true rfl) dX4_init_9 (s_X5_init H) (fun h3 H => ?_)
  refine r_pF po_RX4_12_4i (fun _ => rfl) (fun _ => rfl) dX4_init_12 H (fun h4 H => ?_)
  refine a_aload_n 0 rfl rfl dX4_init_15 ?_
  refine a_iconst (v := (0 : Int32)) (by decide) dX4_init_16 ?_
  refine r_pF po_RX4_18_4i (fun _ => rfl) (fun _ => rfl) dX4_init_17 H (fun h5 H => ?_)
  refine a_aload_n 0 rfl rfl dX4_init_20 ?_
  refine a_aload_n 1 rfl rfl dX4_init_21 ?_
  refine r_pF po_RX4_22_4i (fun _ => rfl) (fun _ => rfl) dX4_init_22 H (fun h6 H => ?_)
  exact r_retv rfl dX4_init_25 H
def B_X4_skipBlanks_0 (Q : AH → Prop) (K0 : AH → Prop) (v0 : Nat) (h : AH) : Prop :=
  gI h v0 4 2 (fun x1 => gR h v0 4 1 (fun a2 => gI h a2 6 1 (fun x3 => ((x3 ≤ x1 → Q h) ∧ (¬ (x3 ≤ x1) → gR h v0 4 1 (fun a4 => gI h v0 4 2 (fun x5 => isO h a4 6 ∧ f_X6_get a4 x5 h (fun x6 h7 => ((¬ (x6 = (32 : Int32)) → Q h7) ∧ (x6 = (32 : Int32) → gI h7 v0 4 2 (fun x8 => pF h7 v0 4 2 (.int (x8 + (1 : Int32))) (fun h9 => K0  h9))))))))))))
set_option maxRecDepth 100000 in
set_option maxHeartbeats 4000000 in
theorem b_X4_skipBlanks_0 {o : Om} {Q : AH → Prop} {K0 : AH → Prop} {v0 : Nat} {h : AH} (hK0 : ∀  h, K0  h → AQ o kX4_skipBlanks h 0 [(0, .ref v0)] [] (qV Q)) (H : B_X4_skipBlanks_0 Q K0 v0 h) : AQ o kX4_skipBlanks h 0 [(0, .ref v0)] [] (qV Q) := by
  refine a_aload_n 0 rfl rfl dX4_skipBlanks_0 ?_
  refine r_gI fo_RX4_18_4 dX4_skipBlanks_1 H (fun x1 H => ?_)
  refine a_aload_n 0 rfl rfl dX4_skipBlanks_4 ?_
  refine r_gR fo_RX4_22_4 dX4_skipBlanks_5 H (fun a2 H => ?_)
  refine r_gI fo_RX4_53_6 dX4_skipBlanks_8 H (fun x3 H => ?_)
  refine a_icmp_ge (tgt := 43) dX4_skipBlanks_11 (by decide) (fun c => ?_) (fun c => ?_)
  · have H := H.1 (c)
    exact r_retv rfl dX4_skipBlanks_43 H
  · have H := H.2 (c)
    refine a_aload_n 0 rfl rfl dX4_skipBlanks_14 ?_
    refine r_gR fo_RX4_22_4 dX4_skipBlanks_15 H (fun a4 H => ?_)
    refine a_aload_n 0 rfl rfl dX4_skipBlanks_18 ?_
    refine r_gI fo_RX4_18_4 dX4_skipBlanks_19 H (fun x5 H => ?_)
    refine r_Vi (q := (RX6, TX6, 2)) (av := [.int x5]) (rest := []) rfl rfl okX6_get H.1 rfl rfl wd370 wd296 wd297 ⟨Nat.le_of_ble_eq_true rfl, Nat.le_of_ble_eq_true rfl⟩ (Nat.le_of_ble_eq_true rfl) dX4_skipBlanks_22 (s_X6_get H.2) (fun x6 h7 H => ?_)
    refine a_bipush (v := (32 : Int32)) (by decide) dX4_skipBlanks_25 ?_
    refine a_icmp_ne (tgt := 43) dX4_skipBlanks_27 (by decide) (fun c => ?_) (fun c => ?_)
    · have H := H.1 (c)
      exact r_retv rfl dX4_skipBlanks_43 H
    · have H := H.2 (c)
      refine a_aload_n 0 rfl rfl dX4_skipBlanks_30 ?_
      refine a_dup rfl dX4_skipBlanks_31 ?_
      refine r_gI fo_RX4_18_4 dX4_skipBlanks_32 H (fun x8 H => ?_)
      refine a_iconst (v := (1 : Int32)) (by decide) dX4_skipBlanks_35 ?_
      refine a_iadd dX4_skipBlanks_36 ?_
      refine r_pF (po_RX4_18_4 _) (fun _ => rfl) (fun _ => rfl) dX4_skipBlanks_37 H (fun h9 H => ?_)
      refine a_goto (tgt := 0) dX4_skipBlanks_40 (by decide) ?_
      exact hK0  _ H
def L_X4_skipBlanks_0 (Q : AH → Prop)  (v0 : Nat) : Nat → AH → Prop
  | 0, _ => False
  | n + 1, h => B_X4_skipBlanks_0 Q (L_X4_skipBlanks_0 Q  v0 n) v0  h
theorem l_X4_skipBlanks_0 {o : Om} {Q : AH → Prop}  {v0 : Nat}  : ∀ (n : Nat)  (h : AH), L_X4_skipBlanks_0 Q  v0 n  h → AQ o kX4_skipBlanks h 0 [(0, .ref v0)] [] (qV Q) := by
  intro n
  induction n with
  | zero => intro  h H; exact H.elim
  | succ n ih => intro  h H; exact b_X4_skipBlanks_0 ih H
def f_X4_skipBlanks (v0 : Nat) (h : AH) (Q : AH → Prop) : Prop :=
  ∃ n, L_X4_skipBlanks_0 Q  v0 n  h
set_option maxRecDepth 100000 in
set_option maxHeartbeats 4000000 in
theorem s_X4_skipBlanks {o : Om} {v0 : Nat} {h : AH} {Q : AH → Prop} (H : f_X4_skipBlanks v0 h Q) : MQ' o kX4_skipBlanks [.ref v0] h (qV Q) := by
  refine MQ'.of (by decide +kernel) (Nat.le_of_ble_eq_true rfl) ?_
  show AQ o kX4_skipBlanks h 0 [(0, .ref v0)] [] (qV Q)
  obtain ⟨n, H⟩ := H
  exact l_X4_skipBlanks_0  n  _ H
def f_X4_sign (v0 : Nat) (h : AH) (Q : Int32 → AH → Prop) : Prop :=
  gR h v0 4 1 (fun a1 => gI h v0 4 2 (fun x2 => isO h a1 6 ∧ f_X6_has a1 x2 h (fun x3 h4 => ((x3 = 0 → Q (256 : Int32) h4) ∧ (¬ (x3 = 0) → gR h4 v0 4 1 (fun a5 => gI h4 v0 4 2 (fun x6 => isO h4 a5 6 ∧ f_X6_get a5 x6 h4 (fun x7 h8 => Q x7 h8))))))))
set_option maxRecDepth 100000 in
set_option maxHeartbeats 4000000 in
theorem s_X4_sign {o : Om} {v0 : Nat} {h : AH} {Q : Int32 → AH → Prop} (H : f_X4_sign v0 h Q) : MQ' o kX4_sign [.ref v0] h (qI Q) := by
  refine MQ'.of (by decide +kernel) (Nat.le_of_ble_eq_true rfl) ?_
  show AQ o kX4_sign h 0 [(0, .ref v0)] [] (qI Q)
  refine a_aload_n 0 rfl rfl dX4_sign_0 ?_
  refine r_gR fo_RX4_22_4 dX4_sign_1 H (fun a1 H => ?_)
  refine a_aload_n 0 rfl rfl dX4_sign_4 ?_
  refine r_gI fo_RX4_18_4 dX4_sign_5 H (fun x2 H => ?_)
  refine r_Vi (q := (RX6, TX6, 2)) (av := [.int x2]) (rest := []) rfl rfl okX6_has H.1 rfl rfl wd379 wd292 wd293 ⟨Nat.le_of_ble_eq_true rfl, Nat.le_of_ble_eq_true rfl⟩ (Nat.le_of_ble_eq_true rfl) dX4_sign_8 (s_X6_has H.2) (fun x3 h4 H => ?_)
  refine a_if_eq (tgt := 28) dX4_sign_11 (by decide) (fun c => ?_) (fun c => ?_)
  · have H := H.1 (c)
    refine a_sipush (v := (256 : Int32)) (by decide) dX4_sign_28 ?_
    exact r_reti rfl dX4_sign_31 H
  · have H := H.2 (c)
    refine a_aload_n 0 rfl rfl dX4_sign_14 ?_
    refine r_gR fo_RX4_22_4 dX4_sign_15 H (fun a5 H => ?_)
    refine a_aload_n 0 rfl rfl dX4_sign_18 ?_
    refine r_gI fo_RX4_18_4 dX4_sign_19 H (fun x6 H => ?_)
    refine r_Vi (q := (RX6, TX6, 2)) (av := [.int x6]) (rest := []) rfl rfl okX6_get H.1 rfl rfl wd370 wd296 wd297 ⟨Nat.le_of_ble_eq_true rfl, Nat.le_of_ble_eq_true rfl⟩ (Nat.le_of_ble_eq_true rfl) dX4_sign_22 (s_X6_get H.2) (fun x7 h8 H => ?_)
    refine a_goto (tgt := 31) dX4_sign_25 (by decide) ?_
    exact r_reti rfl dX4_sign_31 H
def f_X4_isFigure (v0 : Nat) (v1 : Int32) (v2 : Int32) (h : AH) (Q : Int32 → AH → Prop) : Prop :=
  isO h v0 4 ∧ f_X4_sign v0  h (fun x1 h2 => ((x1 < ((48 : Int32) + v1) → Q (0 : Int32) h2) ∧ (¬ (x1 < ((48 : Int32) + v1)) → isO h2 v0 4 ∧ f_X4_sign v0  h2 (fun x3 h4 => ((((48 : Int32) + v2) < x3 → Q (0 : Int32) h4) ∧ (¬ (((48 : Int32) + v2) < x3) → Q (1 : Int32) h4))))))
set_option maxRecDepth 100000 in
set_option maxHeartbeats 4000000 in
theorem s_X4_isFigure {o : Om} {v0 : Nat} {v1 : Int32} {v2 : Int32} {h : AH} {Q : Int32 → AH → Prop} (H : f_X4_isFigure v0 v1 v2 h Q) : MQ' o kX4_isFigure [.ref v0, .int v1, .int v2] h (qI Q) := by
  refine MQ'.of (by decide +kernel) (Nat.le_of_ble_eq_true rfl) ?_
  show AQ o kX4_isFigure h 0 [(0, .ref v0), (1, .int v1), (2, .int v2)] [] (qI Q)
  refine a_aload_n 0 rfl rfl dX4_isFigure_0 ?_
  refine r_Vi (q := (RX4, TX4, 3)) (av := []) (rest := []) rfl rfl okX4_sign H.1 rfl rfl wd375 wd377 wp5 ⟨Nat.le_of_ble_eq_true rfl, Nat.le_of_ble_eq_true rfl⟩ (Nat.le_of_ble_eq_true rfl) dX4_isFigure_1 (s_X4_sign H.2) (fun x1 h2 H => ?_)
  refine a_bipush (v := (48 : Int32)) (by decide) dX4_isFigure_4 ?_
  refine a_iload_n 1 rfl rfl dX4_isFigure_6 ?_
  refine a_iadd dX4_isFigure_7 ?_
  refine a_icmp_lt (tgt := 26) dX4_isFigure_8 (by decide) (fun c => ?_) (fun c => ?_)
  · have H := H.1 (c)
    refine a_iconst (v := (0 : Int32)) (by decide) dX4_isFigure_26 ?_
    exact r_retz rfl bl_0 dX4_isFigure_27 H
  · have H := H.2 (c)
    refine a_aload_n 0 rfl rfl dX4_isFigure_11 ?_
    refine r_Vi (q := (RX4, TX4, 3)) (av := []) (rest := []) rfl rfl okX4_sign H.1 rfl rfl wd375 wd377 wp5 ⟨Nat.le_of_ble_eq_true rfl, Nat.le_of_ble_eq_true rfl⟩ (Nat.le_of_ble_eq_true rfl) dX4_isFigure_12 (s_X4_sign H.2) (fun x3 h4 H => ?_)
    refine a_bipush (v := (48 : Int32)) (by decide) dX4_isFigure_15 ?_
    refine a_iload_n 2 rfl rfl dX4_isFigure_17 ?_
    refine a_iadd dX4_isFigure_18 ?_
    refine a_icmp_gt (tgt := 26) dX4_isFigure_19 (by decide) (fun c => ?_) (fun c => ?_)
    · have H := H.1 (c)
      refine a_iconst (v := (0 : Int32)) (by decide) dX4_isFigure_26 ?_
      exact r_retz rfl bl_0 dX4_isFigure_27 H
    · have H := H.2 (c)
      refine a_iconst (v := (1 : Int32)) (by decide) dX4_isFigure_22 ?_
      refine a_goto (tgt := 27) dX4_isFigure_23 (by decide) ?_
      exact r_retz rfl bl_1 dX4_isFigure_27 H
def f_X4_takeFigure (v0 : Nat) (h : AH) (Q : Int32 → AH → Prop) : Prop :=
  isO h v0 4 ∧ f_X4_sign v0  h (fun x1 h2 => gI h2 v0 4 2 (fun x3 => pF h2 v0 4 2 (.int (x3 + (1 : Int32))) (fun h4 => Q (x1 - (48 : Int32)) h4)))
set_option maxRecDepth 100000 in
set_option maxHeartbeats 4000000 in
theorem s_X4_takeFigure {o : Om} {v0 : Nat} {h : AH} {Q : Int32 → AH → Prop} (H : f_X4_takeFigure v0 h Q) : MQ' o kX4_takeFigure [.ref v0] h (qI Q) := by
  refine MQ'.of (by decide +kernel) (Nat.le_of_ble_eq_true rfl) ?_
  show AQ o kX4_takeFigure h 0 [(0, .ref v0)] [] (qI Q)
  refine a_aload_n 0 rfl rfl dX4_takeFigure_0 ?_
  refine r_Vi (q := (RX4, TX4, 3)) (av := []) (rest := []) rfl rfl okX4_sign H.1 rfl rfl wd375 wd377 wp5 ⟨Nat.le_of_ble_eq_true rfl, Nat.le_of_ble_eq_true rfl⟩ (Nat.le_of_ble_eq_true rfl) dX4_takeFigure_1 (s_X4_sign H.2) (fun x1 h2 H => ?_)
  refine a_bipush (v := (48 : Int32)) (by decide) dX4_takeFigure_4 ?_
  refine a_isub dX4_takeFigure_6 ?_
  refine a_istore_n (lv1 := [(0, .ref v0), (1, .int (x1 - (48 : Int32)))]) rfl [1, 0] (by decide) rfl dX4_takeFigure_7 ?_
  refine a_aload_n 0 rfl rfl dX4_takeFigure_8 ?_
  refine a_dup rfl dX4_takeFigure_9 ?_
  refine r_gI fo_RX4_18_4 dX4_takeFigure_10 H (fun x3 H => ?_)
  refine a_iconst (v := (1 : Int32)) (by decide) dX4_takeFigure_13 ?_
  refine a_iadd dX4_takeFigure_14 ?_
  refine r_pF (po_RX4_18_4 _) (fun _ => rfl) (fun _ => rfl) dX4_takeFigure_15 H (fun h4 H => ?_)
  refine a_iload_n 1 rfl rfl dX4_takeFigure_18 ?_
  exact r_reti rfl dX4_takeFigure_19 H
def f_X4_readPosts (v0 : Nat) (h : AH) (Q : Int32 → AH → Prop) : Prop :=
  isO h v0 4 ∧ f_X4_sign v0  h (fun x1 h2 => ((x1 = (114 : Int32) → gI h2 v0 4 2 (fun x3 => pF h2 v0 4 2 (.int (x3 + (1 : Int32))) (fun h4 => isO h4 v0 4 ∧ f_X4_isFigure v0 (2 : Int32) (7 : Int32) h4 (fun x5 h6 => ((¬ (x5 = 0) → gR h6 v0 4 0 (fun a7 => isO h6 v0 4 ∧ f_X4_takeFigure v0  h6 (fun x8 h9 => pF h9 a7 5 4 (.int x8) (fun h10 => Q (1 : Int32) h10)))) ∧ (x5 = 0 → Q (0 : Int32) h6)))))) ∧ (¬ (x1 = (114 : Int32)) → Q (0 : Int32) h2)))
set_option maxRecDepth 100000 in
set_option maxHeartbeats 4000000 in
theorem s_X4_readPosts {o : Om} {v0 : Nat} {h : AH} {Q : Int32 → AH → Prop} (H : f_X4_readPosts v0 h Q) : MQ' o kX4_readPosts [.ref v0] h (qI Q) := by
  refine MQ'.of (by decide +kernel) (Nat.le_of_ble_eq_true rfl) ?_
  show AQ o kX4_readPosts h 0 [(0, .ref v0)] [] (qI Q)
  refine a_aload_n 0 rfl rfl dX4_readPosts_0 ?_
  refine r_Vi (q := (RX4, TX4, 3)) (av := []) (rest := []) rfl rfl okX4_sign H.1 rfl rfl wd375 wd377 wp5 ⟨Nat.le_of_ble_eq_true rfl, Nat.le_of_ble_eq_true rfl⟩ (Nat.le_of_ble_eq_true rfl) dX4_readPosts_1 (s_X4_sign H.2) (fun x1 h2 H => ?_)
  refine a_bipush (v := (114 : Int32)) (by decide) dX4_readPosts_4 ?_
  refine a_icmp_eq (tgt := 11) dX4_readPosts_6 (by decide) (fun c => ?_) (fun c => ?_)
  · have H := H.1 (c)
    refine a_aload_n 0 rfl rfl dX4_readPosts_11 ?_
    refine a_dup rfl dX4_readPosts_12 ?_
    refine r_gI fo_RX4_18_4 dX4_readPosts_13 H (fun x3 H => ?_)
    refine a_iconst (v := (1 : Int32)) (by decide) dX4_readPosts_16 ?_
    refine a_iadd dX4_readPosts_17 ?_
    refine r_pF (po_RX4_18_4 _) (fun _ => rfl) (fun _ => rfl) dX4_readPosts_18 H (fun h4 H => ?_)
    refine a_aload_n 0 rfl rfl dX4_readPosts_21 ?_
    refine a_iconst (v := (2 : Int32)) (by decide) dX4_readPosts_22 ?_
    refine a_bipush (v := (7 : Int32)) (by decide) dX4_readPosts_23 ?_
    refine r_Vi (q := (RX4, TX4, 3)) (av := [.int (2 : Int32), .int (7 : Int32)]) (rest := []) rfl rfl okX4_isFigure H.1 rfl rfl wd380 wd382 wp6 ⟨Nat.le_of_ble_eq_true rfl, Nat.le_of_ble_eq_true rfl⟩ (Nat.le_of_ble_eq_true rfl) dX4_readPosts_25 (s_X4_isFigure H.2) (fun x5 h6 H => ?_)
    refine a_if_ne (tgt := 33) dX4_readPosts_28 (by decide) (fun c => ?_) (fun c => ?_)
    · have H := H.1 (c)
      refine a_aload_n 0 rfl rfl dX4_readPosts_33 ?_
      refine r_gR fo_RX4_12_4 dX4_readPosts_34 H (fun a7 H => ?_)
      refine a_aload_n 0 rfl rfl dX4_readPosts_37 ?_
      refine r_Vi (q := (RX4, TX4, 3)) (av := []) (rest := [.ref a7]) rfl rfl okX4_takeFigure H.1 rfl rfl wd384 wd386 wp7 ⟨Nat.le_of_ble_eq_true rfl, Nat.le_of_ble_eq_true rfl⟩ (Nat.le_of_ble_eq_true rfl) dX4_readPosts_38 (s_X4_takeFigure H.2) (fun x8 h9 H => ?_)
      refine r_pF (po_RX4_63_5 _) (fun _ => rfl) (fun _ => rfl) dX4_readPosts_41 H (fun h10 H => ?_)
      refine a_iconst (v := (1 : Int32)) (by decide) dX4_readPosts_44 ?_
      exact r_retz rfl bl_1 dX4_readPosts_45 H
    · have H := H.2 (c)
      refine a_iconst (v := (0 : Int32)) (by decide) dX4_readPosts_31 ?_
      exact r_retz rfl bl_0 dX4_readPosts_32 H
  · have H := H.2 (c)
    refine a_iconst (v := (0 : Int32)) (by decide) dX4_readPosts_9 ?_
    exact r_retz rfl bl_0 dX4_readPosts_10 H
def B_X5_hasNumber_2 (Q : Int32 → AH → Prop) (K2 : Int32 → AH → Prop) (v0 : Nat) (v1 : Int32) (v2 : Int32) (h : AH) : Prop :=
  gI h v0 5 5 (fun x1 => ((x1 ≤ v2 → Q (0 : Int32) h) ∧ (¬ (x1 ≤ v2) → gR h v0 5 0 (fun a2 => lI h a2 v2 (fun x3 => ((¬ (x3 = v1) → K2 (v2 + 1) h) ∧ (x3 = v1 → Q (1 : Int32) h)))))))
set_option maxRecDepth 100000 in
set_option maxHeartbeats 4000000 in
theorem b_X5_hasNumber_2 {o : Om} {Q : Int32 → AH → Prop} {K2 : Int32 → AH → Prop} {v0 : Nat} {v1 : Int32} {v2 : Int32} {h : AH} (hK2 : ∀ w2 h, K2 w2 h → AQ o kX5_hasNumber h 2 [(0, .ref v0), (1, .int v1), (2, .int w2)] [] (qI Q)) (H : B_X5_hasNumber_2 Q K2 v0 v1 v2 h) : AQ o kX5_hasNumber h 2 [(0, .ref v0), (1, .int v1), (2, .int v2)] [] (qI Q) := by
  refine a_iload_n 2 rfl rfl dX5_hasNumber_2 ?_
  refine a_aload_n 0 rfl rfl dX5_hasNumber_3 ?_
  refine r_gI fo_RX5_31_5 dX5_hasNumber_4 H (fun x1 H => ?_)
  refine a_icmp_ge (tgt := 28) dX5_hasNumber_7 (by decide) (fun c => ?_) (fun c => ?_)
  · have H := H.1 (c)
    refine a_iconst (v := (0 : Int32)) (by decide) dX5_hasNumber_28 ?_
    exact r_retz rfl bl_0 dX5_hasNumber_29 H
  · have H := H.2 (c)
    refine a_aload_n 0 rfl rfl dX5_hasNumber_10 ?_
    refine r_gR fo_RX5_11_5 dX5_hasNumber_11 H (fun a2 H => ?_)
    refine a_iload_n 2 rfl rfl dX5_hasNumber_14 ?_
    refine r_lI dX5_hasNumber_15 H (fun x3 H => ?_)
    refine a_iload_n 1 rfl rfl dX5_hasNumber_16 ?_
    refine a_icmp_ne (tgt := 22) dX5_hasNumber_17 (by decide) (fun c => ?_) (fun c => ?_)
    · have H := H.1 (c)
      refine a_iinc (v := v2 + 1) (lv1 := [(0, .ref v0), (1, .int v1), (2, .int (v2 + 1))]) [1, 2, 0] 2 rfl (by decide) rfl rfl dX5_hasNumber_22 ?_
      refine a_goto (tgt := 2) dX5_hasNumber_25 (by decide) ?_
      exact hK2 _ _ H
    · have H := H.2 (c)
      refine a_iconst (v := (1 : Int32)) (by decide) dX5_hasNumber_20 ?_
      exact r_retz rfl bl_1 dX5_hasNumber_21 H
def L_X5_hasNumber_2 (Q : Int32 → AH → Prop)  (v0 : Nat) (v1 : Int32) : Nat → Int32 → AH → Prop
  | 0, _, _ => False
  | n + 1, v2, h => B_X5_hasNumber_2 Q (L_X5_hasNumber_2 Q  v0 v1 n) v0 v1 v2 h
theorem l_X5_hasNumber_2 {o : Om} {Q : Int32 → AH → Prop}  {v0 : Nat} {v1 : Int32}  : ∀ (n : Nat) (v2 : Int32) (h : AH), L_X5_hasNumber_2 Q  v0 v1 n v2 h → AQ o kX5_hasNumber h 2 [(0, .ref v0), (1, .int v1), (2, .int v2)] [] (qI Q) := by
  intro n
  induction n with
  | zero => intro v2 h H; exact H.elim
  | succ n ih => intro v2 h H; exact b_X5_hasNumber_2 ih H
def f_X5_hasNumber (v0 : Nat) (v1 : Int32) (h : AH) (Q : Int32 → AH → Prop) : Prop :=
  ∃ n, L_X5_hasNumber_2 Q  v0 v1 n (0 : Int32) h
set_option maxRecDepth 100000 in
set_option maxHeartbeats 4000000 in
theorem s_X5_hasNumber {o : Om} {v0 : Nat} {v1 : Int32} {h : AH} {Q : Int32 → AH → Prop} (H : f_X5_hasNumber v0 v1 h Q) : MQ' o kX5_hasNumber [.ref v0, .int v1] h (qI Q) := by
  refine MQ'.of (by decide +kernel) (Nat.le_of_ble_eq_true rfl) ?_
  show AQ o kX5_hasNumber h 0 [(0, .ref v0), (1, .int v1)] [] (qI Q)
  refine a_iconst (v := (0 : Int32)) (by decide) dX5_hasNumber_0 ?_
  refine a_istore_n (lv1 := [(0, .ref v0), (1, .int v1), (2, .int (0 : Int32))]) rfl [1, 2, 0] (by decide) rfl dX5_hasNumber_1 ?_
  obtain ⟨n, H⟩ := H
  exact l_X5_hasNumber_2  n _ _ H
def f_X5_withPost (v0 : Int32) (v1 : Int32) (v2 : Int32) (h : AH) (Q : Int32 → AH → Prop) : Prop :=
  Q ((v0 &&& (((7 : Int32) <<< (((3 : Int32) * v1) &&& 31)) ^^^ (-1 : Int32))) ||| (v2 <<< (((3 : Int32) * v1) &&& 31))) h
set_option maxRecDepth 100000 in
set_option maxHeartbeats 4000000 in
theorem s_X5_withPost {o : Om} {v0 : Int32} {v1 : Int32} {v2 : Int32} {h : AH} {Q : Int32 → AH → Prop} (H : f_X5_withPost v0 v1 v2 h Q) : MQ' o kX5_withPost [.int v0, .int v1, .int v2] h (qI Q) := by
  refine MQ'.of (by decide +kernel) (Nat.le_of_ble_eq_true rfl) ?_
  show AQ o kX5_withPost h 0 [(0, .int v0), (1, .int v1), (2, .int v2)] [] (qI Q)
  refine a_iload_n 0 rfl rfl dX5_withPost_0 ?_
  refine a_bipush (v := (7 : Int32)) (by decide) dX5_withPost_1 ?_
  refine a_iconst (v := (3 : Int32)) (by decide) dX5_withPost_3 ?_
  refine a_iload_n 1 rfl rfl dX5_withPost_4 ?_
  refine a_imul dX5_withPost_5 ?_
  refine a_ishl dX5_withPost_6 ?_
  refine a_iconst (v := (-1 : Int32)) (by decide) dX5_withPost_7 ?_
  refine a_ixor dX5_withPost_8 ?_
  refine a_iand dX5_withPost_9 ?_
  refine a_iload_n 2 rfl rfl dX5_withPost_10 ?_
  refine a_iconst (v := (3 : Int32)) (by decide) dX5_withPost_11 ?_
  refine a_iload_n 1 rfl rfl dX5_withPost_12 ?_
  refine a_imul dX5_withPost_13 ?_
  refine a_ishl dX5_withPost_14 ?_
  refine a_ior dX5_withPost_15 ?_
  exact r_reti rfl dX5_withPost_16 H
def f_X5_wayBetween (v0 : Int32) (v1 : Int32) (h : AH) (Q : Int32 → AH → Prop) : Prop :=
  ((¬ (v1 = (-9 : Int32)) → Q (if 0 ≤ (v0 - v1) then (v0 - v1) else 0 - (v0 - v1)) h) ∧ (v1 = (-9 : Int32) → Q (7 : Int32) h))
set_option maxRecDepth 100000 in
set_option maxHeartbeats 4000000 in
theorem s_X5_wayBetween {o : Om} {v0 : Int32} {v1 : Int32} {h : AH} {Q : Int32 → AH → Prop} (H : f_X5_wayBetween v0 v1 h Q) : MQ' o kX5_wayBetween [.int v0, .int v1] h (qI Q) := by
  refine MQ'.of (by decide +kernel) (Nat.le_of_ble_eq_true rfl) ?_
  show AQ o kX5_wayBetween h 0 [(0, .int v0), (1, .int v1)] [] (qI Q)
  refine a_iload_n 1 rfl rfl dX5_wayBetween_0 ?_
  refine a_bipush (v := (-9 : Int32)) (by decide) dX5_wayBetween_1 ?_
  refine a_icmp_ne (tgt := 11) dX5_wayBetween_3 (by decide) (fun c => ?_) (fun c => ?_)
  · have H := H.1 (c)
    refine a_iload_n 0 rfl rfl dX5_wayBetween_11 ?_
    refine a_iload_n 1 rfl rfl dX5_wayBetween_12 ?_
    refine a_isub dX5_wayBetween_13 ?_
    refine a_mabs wd406 wd407 wd8 wd408 ⟨Nat.le_of_ble_eq_true rfl, Nat.le_of_ble_eq_true rfl⟩ dX5_wayBetween_14 ?_
    exact r_reti rfl dX5_wayBetween_17 H
  · have H := H.2 (c)
    refine a_bipush (v := (7 : Int32)) (by decide) dX5_wayBetween_6 ?_
    refine a_goto (tgt := 17) dX5_wayBetween_8 (by decide) ?_
    exact r_reti rfl dX5_wayBetween_17 H
def B_X5_addStone_138 (Q : AH → Prop)  (v0 : Nat) (h : AH) : Prop :=
  gI h v0 5 5 (fun x1 => pF h v0 5 5 (.int (x1 + (1 : Int32))) (fun h2 => Q h2))
set_option maxRecDepth 100000 in
set_option maxHeartbeats 4000000 in
theorem b_X5_addStone_138 {o : Om} {Q : AH → Prop}  {v0 : Nat} {h : AH}  (H : B_X5_addStone_138 Q  v0 h) : AQ o kX5_addStone h 138 [(0, .ref v0)] [] (qV Q) := by
  refine a_aload_n 0 rfl rfl dX5_addStone_138 ?_
  refine a_dup rfl dX5_addStone_139 ?_
  refine r_gI fo_RX5_31_5 dX5_addStone_140 H (fun x1 H => ?_)
  refine a_iconst (v := (1 : Int32)) (by decide) dX5_addStone_143 ?_
  refine a_iadd dX5_addStone_144 ?_
  refine r_pF (po_RX5_31_5 _) (fun _ => rfl) (fun _ => rfl) dX5_addStone_145 H (fun h2 H => ?_)
  exact r_retv rfl dX5_addStone_148 H
def B_X5_addStone_65 (Q : AH → Prop) (K65 : Int32 → AH → Prop) (v0 : Nat) (v3 : Int32) (v4 : Int32) (h : AH) : Prop :=
  (((8 : Int32) ≤ v4 → ((v3 = (-9 : Int32) → B_X5_addStone_138 Q  v0 h) ∧ (¬ (v3 = (-9 : Int32)) → gI h v0 5 8 (fun x1 => gI h v0 5 5 (fun x2 => f_X5_withPost x1 x2 (7 : Int32) h (fun x3 h4 => pF h4 v0 5 8 (.int x3) (fun h5 => gI h5 v0 5 9 (fun x6 => gI h5 v0 5 5 (fun x7 => f_X5_withPost x6 x7 v3 h5 (fun x8 h9 => pF h9 v0 5 9 (.int x8) (fun h10 => B_X5_addStone_138 Q  v0 h10))))))))))) ∧ (¬ ((8 : Int32) ≤ v4) → gR h v0 5 2 (fun a11 => gI h v0 5 5 (fun x12 => f_X5_wayBetween v4 v3 h (fun x13 h14 => sI h14 a11 (((8 : Int32) * x12) + v4) x13 (fun h15 => K65 (v4 + 1) h15))))))
set_option maxRecDepth 100000 in
set_option maxHeartbeats 4000000 in
theorem b_X5_addStone_65 {o : Om} {Q : AH → Prop} {K65 : Int32 → AH → Prop} {v0 : Nat} {v3 : Int32} {v4 : Int32} {h : AH} (hK65 : ∀ w4 h, K65 w4 h → AQ o kX5_addStone h 65 [(0, .ref v0), (3, .int v3), (4, .int w4)] [] (qV Q)) (H : B_X5_addStone_65 Q K65 v0 v3 v4 h) : AQ o kX5_addStone h 65 [(0, .ref v0), (3, .int v3), (4, .int v4)] [] (qV Q) := by
  refine a_iload 2 rfl dX5_addStone_65 ?_
  refine a_bipush (v := (8 : Int32)) (by decide) dX5_addStone_67 ?_
  refine a_icmp_ge (tgt := 99) dX5_addStone_69 (by decide) (fun c => ?_) (fun c => ?_)
  · have H := H.1 (c)
    refine a_iload_n 1 rfl rfl dX5_addStone_99 ?_
    refine a_bipush (v := (-9 : Int32)) (by decide) dX5_addStone_100 ?_
    refine a_icmp_eq (tgt := 138) dX5_addStone_102 (by decide) (fun c => ?_) (fun c => ?_)
    · have H := H.1 (c)
      refine AQ.sub (lv1 := [(0, .ref v0)]) [0] rfl ?_
      exact b_X5_addStone_138  H
    · have H := H.2 (c)
      refine a_aload_n 0 rfl rfl dX5_addStone_105 ?_
      refine a_aload_n 0 rfl rfl dX5_addStone_106 ?_
      refine r_gI fo_RX5_40_5 dX5_addStone_107 H (fun x1 H => ?_)
      refine a_aload_n 0 rfl rfl dX5_addStone_110 ?_
      refine r_gI fo_RX5_31_5 dX5_addStone_111 H (fun x2 H => ?_)
      refine a_bipush (v := (7 : Int32)) (by decide) dX5_addStone_114 ?_
      refine r_Si (av := [.int x1, .int x2, .int (7 : Int32)]) (rest := [.ref v0]) rfl rfl okX5_withPost wd400 wd401 ⟨Nat.le_of_ble_eq_true rfl, Nat.le_of_ble_eq_true rfl⟩ (Nat.le_of_ble_eq_true rfl) dX5_addStone_116 (s_X5_withPost H) (fun x3 h4 H => ?_)
      refine r_pF (po_RX5_40_5 _) (fun _ => rfl) (fun _ => rfl) dX5_addStone_119 H (fun h5 H => ?_)
      refine a_aload_n 0 rfl rfl dX5_addStone_122 ?_
      refine a_aload_n 0 rfl rfl dX5_addStone_123 ?_
      refine r_gI fo_RX5_43_5 dX5_addStone_124 H (fun x6 H => ?_)
      refine a_aload_n 0 rfl rfl dX5_addStone_127 ?_
      refine r_gI fo_RX5_31_5 dX5_addStone_128 H (fun x7 H => ?_)
      refine a_iload_n 1 rfl rfl dX5_addStone_131 ?_
      refine r_Si (av := [.int x6, .int x7, .int v3]) (rest := [.ref v0]) rfl rfl okX5_withPost wd400 wd401 ⟨Nat.le_of_ble_eq_true rfl, Nat.le_of_ble_eq_true rfl⟩ (Nat.le_of_ble_eq_true rfl) dX5_addStone_132 (s_X5_withPost H) (fun x8 h9 H => ?_)
      refine r_pF (po_RX5_43_5 _) (fun _ => rfl) (fun _ => rfl) dX5_addStone_135 H (fun h10 H => ?_)
      refine AQ.sub (lv1 := [(0, .ref v0)]) [0] rfl ?_
      exact b_X5_addStone_138  H
  · have H := H.2 (c)
    refine a_aload_n 0 rfl rfl dX5_addStone_72 ?_
    refine r_gR fo_RX5_18_5 dX5_addStone_73 H (fun a11 H => ?_)
    refine a_bipush (v := (8 : Int32)) (by decide) dX5_addStone_76 ?_
    refine a_aload_n 0 rfl rfl dX5_addStone_78 ?_
    refine r_gI fo_RX5_31_5 dX5_addStone_79 H (fun x12 H => ?_)
    refine a_imul dX5_addStone_82 ?_
    refine a_iload 2 rfl dX5_addStone_83 ?_
    refine a_iadd dX5_addStone_85 ?_
    refine a_iload 2 rfl dX5_addStone_86 ?_
    refine a_iload_n 1 rfl rfl dX5_addStone_88 ?_
    refine r_Si (av := [.int v4, .int v3]) (rest := [.int (((8 : Int32) * x12) + v4), .ref a11]) rfl rfl okX5_wayBetween wd403 wd404 ⟨Nat.le_of_ble_eq_true rfl, Nat.le_of_ble_eq_true rfl⟩ (Nat.le_of_ble_eq_true rfl) dX5_addStone_89 (s_X5_wayBetween H) (fun x13 h14 H => ?_)
    refine r_sI dX5_addStone_92 H (fun h15 H => ?_)
    refine a_iinc (v := v4 + 1) (lv1 := [(0, .ref v0), (3, .int v3), (4, .int (v4 + 1))]) [1, 2, 0] 2 rfl (by decide) rfl rfl dX5_addStone_93 ?_
    refine a_goto (tgt := 65) dX5_addStone_96 (by decide) ?_
    exact hK65 _ _ H
def L_X5_addStone_65 (Q : AH → Prop)  (v0 : Nat) (v3 : Int32) : Nat → Int32 → AH → Prop
  | 0, _, _ => False
  | n + 1, v4, h => B_X5_addStone_65 Q (L_X5_addStone_65 Q  v0 v3 n) v0 v3 v4 h
theorem l_X5_addStone_65 {o : Om} {Q : AH → Prop}  {v0 : Nat} {v3 : Int32}  : ∀ (n : Nat) (v4 : Int32) (h : AH), L_X5_addStone_65 Q  v0 v3 n v4 h → AQ o kX5_addStone h 65 [(0, .ref v0), (3, .int v3), (4, .int v4)] [] (qV Q) := by
  intro n
  induction n with
  | zero => intro v4 h H; exact H.elim
  | succ n ih => intro v4 h H; exact b_X5_addStone_65 ih H
def B_X5_addStone_25 (Q : AH → Prop)  (v0 : Nat) (v1 : Int32) (v2 : Int32) (t0 : Int32) (h : AH) : Prop :=
  gR h v0 5 0 (fun a1 => gI h v0 5 5 (fun x2 => sI h a1 x2 v1 (fun h3 => gR h3 v0 5 1 (fun a4 => gI h3 v0 5 5 (fun x5 => sI h3 a4 x5 t0 (fun h6 => gI h6 v0 5 7 (fun x7 => gI h6 v0 5 5 (fun x8 => f_X5_withPost x7 x8 v2 h6 (fun x9 h10 => pF h10 v0 5 7 (.int x9) (fun h11 => ∃ n, L_X5_addStone_65 Q  v0 t0 n (0 : Int32) h11))))))))))
set_option maxRecDepth 100000 in
set_option maxHeartbeats 4000000 in
theorem b_X5_addStone_25 {o : Om} {Q : AH → Prop}  {v0 : Nat} {v1 : Int32} {v2 : Int32} {t0 : Int32} {h : AH}  (H : B_X5_addStone_25 Q  v0 v1 v2 t0 h) : AQ o kX5_addStone h 25 [(0, .ref v0), (1, .int v1), (2, .int v2)] [.int t0] (qV Q) := by
  refine a_istore_n (lv1 := [(0, .ref v0), (1, .int v1), (2, .int v2), (3, .int t0)]) rfl [1, 2, 3, 0] (by decide) rfl dX5_addStone_25 ?_
  refine a_aload_n 0 rfl rfl dX5_addStone_26 ?_
  refine r_gR fo_RX5_11_5 dX5_addStone_27 H (fun a1 H => ?_)
  refine a_aload_n 0 rfl rfl dX5_addStone_30 ?_
  refine r_gI fo_RX5_31_5 dX5_addStone_31 H (fun x2 H => ?_)
  refine a_iload_n 1 rfl rfl dX5_addStone_34 ?_
  refine r_sI dX5_addStone_35 H (fun h3 H => ?_)
  refine a_aload_n 0 rfl rfl dX5_addStone_36 ?_
  refine r_gR fo_RX5_15_5 dX5_addStone_37 H (fun a4 H => ?_)
  refine a_aload_n 0 rfl rfl dX5_addStone_40 ?_
  refine r_gI fo_RX5_31_5 dX5_addStone_41 H (fun x5 H => ?_)
  refine a_iload_n 3 rfl rfl dX5_addStone_44 ?_
  refine r_sI dX5_addStone_45 H (fun h6 H => ?_)
  refine a_aload_n 0 rfl rfl dX5_addStone_46 ?_
  refine a_aload_n 0 rfl rfl dX5_addStone_47 ?_
  refine r_gI fo_RX5_37_5 dX5_addStone_48 H (fun x7 H => ?_)
  refine a_aload_n 0 rfl rfl dX5_addStone_51 ?_
  refine r_gI fo_RX5_31_5 dX5_addStone_52 H (fun x8 H => ?_)
  refine a_iload_n 2 rfl rfl dX5_addStone_55 ?_
  refine r_Si (av := [.int x7, .int x8, .int v2]) (rest := [.ref v0]) rfl rfl okX5_withPost wd400 wd401 ⟨Nat.le_of_ble_eq_true rfl, Nat.le_of_ble_eq_true rfl⟩ (Nat.le_of_ble_eq_true rfl) dX5_addStone_56 (s_X5_withPost H) (fun x9 h10 H => ?_)
  refine r_pF (po_RX5_37_5 _) (fun _ => rfl) (fun _ => rfl) dX5_addStone_59 H (fun h11 H => ?_)
  refine a_iconst (v := (0 : Int32)) (by decide) dX5_addStone_62 ?_
  refine a_istore (lv1 := [(0, .ref v0), (1, .int v1), (2, .int v2), (3, .int t0), (4, .int (0 : Int32))]) [1, 2, 3, 4, 0] (by decide) rfl dX5_addStone_63 ?_
  refine AQ.sub (lv1 := [(0, .ref v0), (3, .int t0), (4, .int (0 : Int32))]) [0, 3, 4] rfl ?_
  obtain ⟨n, H⟩ := H
  exact l_X5_addStone_65  n _ _ H
def f_X5_addStone (v0 : Nat) (v1 : Int32) (v2 : Int32) (h : AH) (Q : AH → Prop) : Prop :=
  gI h v0 5 5 (fun x1 => ((x1 < (5 : Int32) → gI h v0 5 4 (fun x2 => ((x2 < v1 → B_X5_addStone_25 Q  v0 v1 v2 (-9 : Int32) h) ∧ (¬ (x2 < v1) → B_X5_addStone_25 Q  v0 v1 v2 (v1 - (1 : Int32)) h)))) ∧ (¬ (x1 < (5 : Int32)) → Q h)))
set_option maxRecDepth 100000 in
set_option maxHeartbeats 4000000 in
theorem s_X5_addStone {o : Om} {v0 : Nat} {v1 : Int32} {v2 : Int32} {h : AH} {Q : AH → Prop} (H : f_X5_addStone v0 v1 v2 h Q) : MQ' o kX5_addStone [.ref v0, .int v1, .int v2] h (qV Q) := by
  refine MQ'.of (by decide +kernel) (Nat.le_of_ble_eq_true rfl) ?_
  show AQ o kX5_addStone h 0 [(0, .ref v0), (1, .int v1), (2, .int v2)] [] (qV Q)
  refine a_aload_n 0 rfl rfl dX5_addStone_0 ?_
  refine r_gI fo_RX5_31_5 dX5_addStone_1 H (fun x1 H => ?_)
  refine a_iconst (v := (5 : Int32)) (by decide) dX5_addStone_4 ?_
  refine a_icmp_lt (tgt := 9) dX5_addStone_5 (by decide) (fun c => ?_) (fun c => ?_)
  · have H := H.1 (c)
    refine a_iload_n 1 rfl rfl dX5_addStone_9 ?_
    refine a_aload_n 0 rfl rfl dX5_addStone_10 ?_
    refine r_gI fo_RX5_27_5 dX5_addStone_11 H (fun x2 H => ?_)
    refine a_icmp_gt (tgt := 23) dX5_addStone_14 (by decide) (fun c => ?_) (fun c => ?_)
    · have H := H.1 (c)
      refine a_bipush (v := (-9 : Int32)) (by decide) dX5_addStone_23 ?_
      exact b_X5_addStone_25  H
    · have H := H.2 (c)
      refine a_iload_n 1 rfl rfl dX5_addStone_17 ?_
      refine a_iconst (v := (1 : Int32)) (by decide) dX5_addStone_18 ?_
      refine a_isub dX5_addStone_19 ?_
      refine a_goto (tgt := 25) dX5_addStone_20 (by decide) ?_
      exact b_X5_addStone_25  H
  · have H := H.2 (c)
    exact r_retv rfl dX5_addStone_8 H
def f_X4_readStone (v0 : Nat) (h : AH) (Q : Int32 → AH → Prop) : Prop :=
  gR h v0 4 0 (fun a1 => gI h a1 5 6 (fun x2 => ((0 < x2 → Q (0 : Int32) h) ∧ (¬ (0 < x2) → gR h v0 4 0 (fun a3 => gI h a3 5 5 (fun x4 => ((x4 < (5 : Int32) → gI h v0 4 2 (fun x5 => pF h v0 4 2 (.int (x5 + (1 : Int32))) (fun h6 => isO h6 v0 4 ∧ f_X4_isFigure v0 (1 : Int32) (9 : Int32) h6 (fun x7 h8 => ((x7 = 0 → Q (0 : Int32) h8) ∧ (¬ (x7 = 0) → gR h8 v0 4 0 (fun a9 => isO h8 v0 4 ∧ f_X4_sign v0  h8 (fun x10 h11 => isO h11 a9 5 ∧ f_X5_hasNumber a9 (x10 - (48 : Int32)) h11 (fun x12 h13 => ((x12 = 0 → isO h13 v0 4 ∧ f_X4_takeFigure v0  h13 (fun x14 h15 => gR h15 v0 4 0 (fun a16 => gI h15 a16 5 4 (fun x17 => isO h15 v0 4 ∧ f_X4_isFigure v0 (0 : Int32) (x17 - (1 : Int32)) h15 (fun x18 h19 => ((¬ (x18 = 0) → gR h19 v0 4 0 (fun a20 => isO h19 v0 4 ∧ f_X4_takeFigure v0  h19 (fun x21 h22 => isO h22 a20 5 ∧ f_X5_addStone a20 x14 x21 h22 (fun h23 => Q (1 : Int32) h23)))) ∧ (x18 = 0 → Q (0 : Int32) h19))))))) ∧ (¬ (x12 = 0) → Q (0 : Int32) h13))))))))))) ∧ (¬ (x4 < (5 : Int32)) → Q (0 : Int32) h))))))))
set_option maxRecDepth 100000 in
set_option maxHeartbeats 4000000 in
theorem s_X4_readStone {o : Om} {v0 : Nat} {h : AH} {Q : Int32 → AH → Prop} (H : f_X4_readStone v0 h Q) : MQ' o kX4_readStone [.ref v0] h (qI Q) := by
  refine MQ'.of (by decide +kernel) (Nat.le_of_ble_eq_true rfl) ?_
  show AQ o kX4_readStone h 0 [(0, .ref v0)] [] (qI Q)
  refine a_aload_n 0 rfl rfl dX4_readStone_0 ?_
  refine r_gR fo_RX4_12_4 dX4_readStone_1 H (fun a1 H => ?_)
  refine r_gI fo_RX4_66_5 dX4_readStone_4 H (fun x2 H => ?_)
  refine a_if_gt (tgt := 21) dX4_readStone_7 (by decide) (fun c => ?_) (fun c => ?_)
  · have H := H.1 (c)
    refine a_iconst (v := (0 : Int32)) (by decide) dX4_readStone_21 ?_
    exact r_retz rfl bl_0 dX4_readStone_22 H
  · have H := H.2 (c)
    refine a_aload_n 0 rfl rfl dX4_readStone_10 ?_
    refine r_gR fo_RX4_12_4 dX4_readStone_11 H (fun a3 H => ?_)
    refine r_gI fo_RX4_69_5 dX4_readStone_14 H (fun x4 H => ?_)
    refine a_iconst (v := (5 : Int32)) (by decide) dX4_readStone_17 ?_
    refine a_icmp_lt (tgt := 23) dX4_readStone_18 (by decide) (fun c => ?_) (fun c => ?_)
    · have H := H.1 (c)
      refine a_aload_n 0 rfl rfl dX4_readStone_23 ?_
      refine a_dup rfl dX4_readStone_24 ?_
      refine r_gI fo_RX4_18_4 dX4_readStone_25 H (fun x5 H => ?_)
      refine a_iconst (v := (1 : Int32)) (by decide) dX4_readStone_28 ?_
      refine a_iadd dX4_readStone_29 ?_
      refine r_pF (po_RX4_18_4 _) (fun _ => rfl) (fun _ => rfl) dX4_readStone_30 H (fun h6 H => ?_)
      refine a_aload_n 0 rfl rfl dX4_readStone_33 ?_
      refine a_iconst (v := (1 : Int32)) (by decide) dX4_readStone_34 ?_
      refine a_bipush (v := (9 : Int32)) (by decide) dX4_readStone_35 ?_
      refine r_Vi (q := (RX4, TX4, 3)) (av := [.int (1 : Int32), .int (9 : Int32)]) (rest := []) rfl rfl okX4_isFigure H.1 rfl rfl wd380 wd382 wp6 ⟨Nat.le_of_ble_eq_true rfl, Nat.le_of_ble_eq_true rfl⟩ (Nat.le_of_ble_eq_true rfl) dX4_readStone_37 (s_X4_isFigure H.2) (fun x7 h8 H => ?_)
      refine a_if_eq (tgt := 60) dX4_readStone_40 (by decide) (fun c => ?_) (fun c => ?_)
      · have H := H.1 (c)
        refine a_iconst (v := (0 : Int32)) (by decide) dX4_readStone_60 ?_
        exact r_retz rfl bl_0 dX4_readStone_61 H
      · have H := H.2 (c)
        refine a_aload_n 0 rfl rfl dX4_readStone_43 ?_
        refine r_gR fo_RX4_12_4 dX4_readStone_44 H (fun a9 H => ?_)
        refine a_aload_n 0 rfl rfl dX4_readStone_47 ?_
        refine r_Vi (q := (RX4, TX4, 3)) (av := []) (rest := [.ref a9]) rfl rfl okX4_sign H.1 rfl rfl wd375 wd377 wp5 ⟨Nat.le_of_ble_eq_true rfl, Nat.le_of_ble_eq_true rfl⟩ (Nat.le_of_ble_eq_true rfl) dX4_readStone_48 (s_X4_sign H.2) (fun x10 h11 H => ?_)
        refine a_bipush (v := (48 : Int32)) (by decide) dX4_readStone_51 ?_
        refine a_isub dX4_readStone_53 ?_
        refine r_Vi (q := (RX5, TX5, 10)) (av := [.int (x10 - (48 : Int32))]) (rest := []) rfl rfl okX5_hasNumber H.1 rfl rfl wd392 wd393 wd394 ⟨Nat.le_of_ble_eq_true rfl, Nat.le_of_ble_eq_true rfl⟩ (Nat.le_of_ble_eq_true rfl) dX4_readStone_54 (s_X5_hasNumber H.2) (fun x12 h13 H => ?_)
        refine a_if_eq (tgt := 62) dX4_readStone_57 (by decide) (fun c => ?_) (fun c => ?_)
        · have H := H.1 (c)
          refine a_aload_n 0 rfl rfl dX4_readStone_62 ?_
          refine r_Vi (q := (RX4, TX4, 3)) (av := []) (rest := []) rfl rfl okX4_takeFigure H.1 rfl rfl wd384 wd386 wp7 ⟨Nat.le_of_ble_eq_true rfl, Nat.le_of_ble_eq_true rfl⟩ (Nat.le_of_ble_eq_true rfl) dX4_readStone_63 (s_X4_takeFigure H.2) (fun x14 h15 H => ?_)
          refine a_istore_n (lv1 := [(0, .ref v0), (1, .int x14)]) rfl [1, 0] (by decide) rfl dX4_readStone_66 ?_
          refine a_aload_n 0 rfl rfl dX4_readStone_67 ?_
          refine a_iconst (v := (0 : Int32)) (by decide) dX4_readStone_68 ?_
          refine a_aload_n 0 rfl rfl dX4_readStone_69 ?_
          refine r_gR fo_RX4_12_4 dX4_readStone_70 H (fun a16 H => ?_)
          refine r_gI fo_RX4_63_5 dX4_readStone_73 H (fun x17 H => ?_)
          refine a_iconst (v := (1 : Int32)) (by decide) dX4_readStone_76 ?_
          refine a_isub dX4_readStone_77 ?_
          refine r_Vi (q := (RX4, TX4, 3)) (av := [.int (0 : Int32), .int (x17 - (1 : Int32))]) (rest := []) rfl rfl okX4_isFigure H.1 rfl rfl wd380 wd382 wp6 ⟨Nat.le_of_ble_eq_true rfl, Nat.le_of_ble_eq_true rfl⟩ (Nat.le_of_ble_eq_true rfl) dX4_readStone_78 (s_X4_isFigure H.2) (fun x18 h19 H => ?_)
          refine a_if_ne (tgt := 86) dX4_readStone_81 (by decide) (fun c => ?_) (fun c => ?_)
          · have H := H.1 (c)
            refine a_aload_n 0 rfl rfl dX4_readStone_86 ?_
            refine r_gR fo_RX4_12_4 dX4_readStone_87 H (fun a20 H => ?_)
            refine a_iload_n 1 rfl rfl dX4_readStone_90 ?_
            refine a_aload_n 0 rfl rfl dX4_readStone_91 ?_
            refine r_Vi (q := (RX4, TX4, 3)) (av := []) (rest := [.int x14, .ref a20]) rfl rfl okX4_takeFigure H.1 rfl rfl wd384 wd386 wp7 ⟨Nat.le_of_ble_eq_true rfl, Nat.le_of_ble_eq_true rfl⟩ (Nat.le_of_ble_eq_true rfl) dX4_readStone_92 (s_X4_takeFigure H.2) (fun x21 h22 H => ?_)
            refine r_Vv (q := (RX5, TX5, 10)) (av := [.int x14, .int x21]) (rest := []) rfl rfl okX5_addStone H.1 rfl rfl wd396 wd397 wd398 ⟨Nat.le_of_ble_eq_true rfl, Nat.le_of_ble_eq_true rfl⟩ (Nat.le_of_ble_eq_true rfl) dX4_readStone_95 (s_X5_addStone H.2) (fun h23 H => ?_)
            refine a_iconst (v := (1 : Int32)) (by decide) dX4_readStone_98 ?_
            exact r_retz rfl bl_1 dX4_readStone_99 H
          · have H := H.2 (c)
            refine a_iconst (v := (0 : Int32)) (by decide) dX4_readStone_84 ?_
            exact r_retz rfl bl_0 dX4_readStone_85 H
        · have H := H.2 (c)
          refine a_iconst (v := (0 : Int32)) (by decide) dX4_readStone_60 ?_
          exact r_retz rfl bl_0 dX4_readStone_61 H
    · have H := H.2 (c)
      refine a_iconst (v := (0 : Int32)) (by decide) dX4_readStone_21 ?_
      exact r_retz rfl bl_0 dX4_readStone_22 H
def B_X4_isWalker_36 (Q : Int32 → AH → Prop)   (h : AH) : Prop :=
  Q (1 : Int32) h
set_option maxRecDepth 100000 in
set_option maxHeartbeats 4000000 in
theorem b_X4_isWalker_36 {o : Om} {Q : Int32 → AH → Prop}   {h : AH}  (H : B_X4_isWalker_36 Q   h) : AQ o kX4_isWalker h 36 [] [] (qI Q) := by
  refine a_iconst (v := (1 : Int32)) (by decide) dX4_isWalker_36 ?_
  refine a_goto (tgt := 41) dX4_isWalker_37 (by decide) ?_
  exact r_retz rfl bl_1 dX4_isWalker_41 H
def f_X4_isWalker (v0 : Int32) (h : AH) (Q : Int32 → AH → Prop) : Prop :=
  ((v0 = (119 : Int32) → B_X4_isWalker_36 Q   h) ∧ (¬ (v0 = (119 : Int32)) → ((v0 = (99 : Int32) → B_X4_isWalker_36 Q   h) ∧ (¬ (v0 = (99 : Int32)) → ((v0 = (98 : Int32) → B_X4_isWalker_36 Q   h) ∧ (¬ (v0 = (98 : Int32)) → ((v0 = (108 : Int32) → B_X4_isWalker_36 Q   h) ∧ (¬ (v0 = (108 : Int32)) → ((v0 = (116 : Int32) → B_X4_isWalker_36 Q   h) ∧ (¬ (v0 = (116 : Int32)) → ((¬ (v0 = (112 : Int32)) → Q (0 : Int32) h) ∧ (v0 = (112 : Int32) → B_X4_isWalker_36 Q   h))))))))))))
set_option maxRecDepth 100000 in
set_option maxHeartbeats 4000000 in
theorem s_X4_isWalker {o : Om} {v0 : Int32} {h : AH} {Q : Int32 → AH → Prop} (H : f_X4_isWalker v0 h Q) : MQ' o kX4_isWalker [.int v0] h (qI Q) := by
  refine MQ'.of (by decide +kernel) (Nat.le_of_ble_eq_true rfl) ?_
  show AQ o kX4_isWalker h 0 [(0, .int v0)] [] (qI Q)
  refine a_iload_n 0 rfl rfl dX4_isWalker_0 ?_
  refine a_bipush (v := (119 : Int32)) (by decide) dX4_isWalker_1 ?_
  refine a_icmp_eq (tgt := 36) dX4_isWalker_3 (by decide) (fun c => ?_) (fun c => ?_)
  · have H := H.1 (c)
    refine AQ.sub (lv1 := []) [] rfl ?_
    exact b_X4_isWalker_36  H
  · have H := H.2 (c)
    refine a_iload_n 0 rfl rfl dX4_isWalker_6 ?_
    refine a_bipush (v := (99 : Int32)) (by decide) dX4_isWalker_7 ?_
    refine a_icmp_eq (tgt := 36) dX4_isWalker_9 (by decide) (fun c => ?_) (fun c => ?_)
    · have H := H.1 (c)
      refine AQ.sub (lv1 := []) [] rfl ?_
      exact b_X4_isWalker_36  H
    · have H := H.2 (c)
      refine a_iload_n 0 rfl rfl dX4_isWalker_12 ?_
      refine a_bipush (v := (98 : Int32)) (by decide) dX4_isWalker_13 ?_
      refine a_icmp_eq (tgt := 36) dX4_isWalker_15 (by decide) (fun c => ?_) (fun c => ?_)
      · have H := H.1 (c)
        refine AQ.sub (lv1 := []) [] rfl ?_
        exact b_X4_isWalker_36  H
      · have H := H.2 (c)
        refine a_iload_n 0 rfl rfl dX4_isWalker_18 ?_
        refine a_bipush (v := (108 : Int32)) (by decide) dX4_isWalker_19 ?_
        refine a_icmp_eq (tgt := 36) dX4_isWalker_21 (by decide) (fun c => ?_) (fun c => ?_)
        · have H := H.1 (c)
          refine AQ.sub (lv1 := []) [] rfl ?_
          exact b_X4_isWalker_36  H
        · have H := H.2 (c)
          refine a_iload_n 0 rfl rfl dX4_isWalker_24 ?_
          refine a_bipush (v := (116 : Int32)) (by decide) dX4_isWalker_25 ?_
          refine a_icmp_eq (tgt := 36) dX4_isWalker_27 (by decide) (fun c => ?_) (fun c => ?_)
          · have H := H.1 (c)
            refine AQ.sub (lv1 := []) [] rfl ?_
            exact b_X4_isWalker_36  H
          · have H := H.2 (c)
            refine a_iload_n 0 rfl rfl dX4_isWalker_30 ?_
            refine a_bipush (v := (112 : Int32)) (by decide) dX4_isWalker_31 ?_
            refine a_icmp_ne (tgt := 40) dX4_isWalker_33 (by decide) (fun c => ?_) (fun c => ?_)
            · have H := H.1 (c)
              refine a_iconst (v := (0 : Int32)) (by decide) dX4_isWalker_40 ?_
              exact r_retz rfl bl_0 dX4_isWalker_41 H
            · have H := H.2 (c)
              refine AQ.sub (lv1 := []) [] rfl ?_
              exact b_X4_isWalker_36  H
def f_X10_init (v0 : Nat) (v1 : Int32) (v2 : Int32) (h : AH) (Q : AH → Prop) : Prop :=
  pW h v0 0 (.int v1) (fun h1 => pW h1 v0 1 (.int v2) (fun h2 => Q h2))
set_option maxRecDepth 100000 in
set_option maxHeartbeats 4000000 in
theorem s_X10_init {o : Om} {v0 : Nat} {v1 : Int32} {v2 : Int32} {h : AH} {Q : AH → Prop} (H : f_X10_init v0 v1 v2 h Q) : MQ' o kX10_init [.ref v0, .int v1, .int v2] h (qV Q) := by
  refine MQ'.of (by decide +kernel) (Nat.le_of_ble_eq_true rfl) ?_
  show AQ o kX10_init h 0 [(0, .ref v0), (1, .int v1), (2, .int v2)] [] (qV Q)
  refine a_aload_n 0 rfl rfl dX10_init_0 ?_
  refine a_objInit wd427 wd23 wd24 ⟨Nat.le_of_ble_eq_true rfl, Nat.le_of_ble_eq_true rfl⟩ dX10_init_1 ?_
  refine a_aload_n 0 rfl rfl dX10_init_4 ?_
  refine a_iload_n 1 rfl rfl dX10_init_5 ?_
  refine r_pW pw_RX10_7 (fun _ => rfl) (fun _ => rfl) dX10_init_6 H (fun h1 H => ?_)
  refine a_aload_n 0 rfl rfl dX10_init_9 ?_
  refine a_iload_n 2 rfl rfl dX10_init_10 ?_
  refine r_pW pw_RX10_13 (fun _ => rfl) (fun _ => rfl) dX10_init_11 H (fun h2 H => ?_)
  exact r_retv rfl dX10_init_14 H
def f_X1_init (v0 : Nat) (v1 : Int32) (v2 : Int32) (h : AH) (Q : AH → Prop) : Prop :=
  f_X10_init v0 v1 v2 h (fun h1 => Q h1)
set_option maxRecDepth 100000 in
set_option maxHeartbeats 4000000 in
theorem s_X1_init {o : Om} {v0 : Nat} {v1 : Int32} {v2 : Int32} {h : AH} {Q : AH → Prop} (H : f_X1_init v0 v1 v2 h Q) : MQ' o kX1_init [.ref v0, .int v1, .int v2] h (qV Q) := by
  refine MQ'.of (by decide +kernel) (Nat.le_of_ble_eq_true rfl) ?_
  show AQ o kX1_init h 0 [(0, .ref v0), (1, .int v1), (2, .int v2)] [] (qV Q)
  refine a_aload_n 0 rfl rfl dX1_init_0 ?_
  refine a_iload_n 1 rfl rfl dX1_init_1 ?_
  refine a_iload_n 2 rfl rfl dX1_init_2 ?_
  refine r_Iv (av := [.int v1, .int v2]) (rest := []) rfl rfl okX10_init wd424 wd425 rfl rfl ⟨Nat.le_of_ble_eq_true rfl, Nat.le_of_ble_eq_true rfl⟩ (Nat.le_of_ble_eq_true rfl) dX1_init_3 (s_X10_init H) (fun h1 H => ?_)
  exact r_retv rfl dX1_init_6 H
def f_X0_init (v0 : Nat) (v1 : Int32) (v2 : Int32) (h : AH) (Q : AH → Prop) : Prop :=
  f_X10_init v0 v1 v2 h (fun h1 => Q h1)
set_option maxRecDepth 100000 in
set_option maxHeartbeats 4000000 in
theorem s_X0_init {o : Om} {v0 : Nat} {v1 : Int32} {v2 : Int32} {h : AH} {Q : AH → Prop} (H : f_X0_init v0 v1 v2 h Q) : MQ' o kX0_init [.ref v0, .int v1, .int v2] h (qV Q) := by
  refine MQ'.of (by decide +kernel) (Nat.le_of_ble_eq_true rfl) ?_
  show AQ o kX0_init h 0 [(0, .ref v0), (1, .int v1), (2, .int v2)] [] (qV Q)
  refine a_aload_n 0 rfl rfl dX0_init_0 ?_
  refine a_iload_n 1 rfl rfl dX0_init_1 ?_
  refine a_iload_n 2 rfl rfl dX0_init_2 ?_
  refine r_Iv (av := [.int v1, .int v2]) (rest := []) rfl rfl okX10_init wd462 wd425 rfl rfl ⟨Nat.le_of_ble_eq_true rfl, Nat.le_of_ble_eq_true rfl⟩ (Nat.le_of_ble_eq_true rfl) dX0_init_3 (s_X10_init H) (fun h1 H => ?_)
  exact r_retv rfl dX0_init_6 H
def f_X2_init (v0 : Nat) (v1 : Int32) (v2 : Int32) (h : AH) (Q : AH → Prop) : Prop :=
  f_X10_init v0 v1 v2 h (fun h1 => Q h1)
set_option maxRecDepth 100000 in
set_option maxHeartbeats 4000000 in
theorem s_X2_init {o : Om} {v0 : Nat} {v1 : Int32} {v2 : Int32} {h : AH} {Q : AH → Prop} (H : f_X2_init v0 v1 v2 h Q) : MQ' o kX2_init [.ref v0, .int v1, .int v2] h (qV Q) := by
  refine MQ'.of (by decide +kernel) (Nat.le_of_ble_eq_true rfl) ?_
  show AQ o kX2_init h 0 [(0, .ref v0), (1, .int v1), (2, .int v2)] [] (qV Q)
  refine a_aload_n 0 rfl rfl dX2_init_0 ?_
  refine a_iload_n 1 rfl rfl dX2_init_1 ?_
  refine a_iload_n 2 rfl rfl dX2_init_2 ?_
  refine r_Iv (av := [.int v1, .int v2]) (rest := []) rfl rfl okX10_init wd471 wd425 rfl rfl ⟨Nat.le_of_ble_eq_true rfl, Nat.le_of_ble_eq_true rfl⟩ (Nat.le_of_ble_eq_true rfl) dX2_init_3 (s_X10_init H) (fun h1 H => ?_)
  exact r_retv rfl dX2_init_6 H
def f_X8_init (v0 : Nat) (v1 : Int32) (v2 : Int32) (h : AH) (Q : AH → Prop) : Prop :=
  f_X2_init v0 v1 v2 h (fun h1 => Q h1)
set_option maxRecDepth 100000 in
set_option maxHeartbeats 4000000 in
theorem s_X8_init {o : Om} {v0 : Nat} {v1 : Int32} {v2 : Int32} {h : AH} {Q : AH → Prop} (H : f_X8_init v0 v1 v2 h Q) : MQ' o kX8_init [.ref v0, .int v1, .int v2] h (qV Q) := by
  refine MQ'.of (by decide +kernel) (Nat.le_of_ble_eq_true rfl) ?_
  show AQ o kX8_init h 0 [(0, .ref v0), (1, .int v1), (2, .int v2)] [] (qV Q)
  refine a_aload_n 0 rfl rfl dX8_init_0 ?_
  refine a_iload_n 1 rfl rfl dX8_init_1 ?_
  refine a_iload_n 2 rfl rfl dX8_init_2 ?_
  refine r_Iv (av := [.int v1, .int v2]) (rest := []) rfl rfl okX2_init wd480 wd469 rfl rfl ⟨Nat.le_of_ble_eq_true rfl, Nat.le_of_ble_eq_true rfl⟩ (Nat.le_of_ble_eq_true rfl) dX8_init_3 (s_X2_init H) (fun h1 H => ?_)
  exact r_retv rfl dX8_init_6 H
def f_X3_init (v0 : Nat) (v1 : Int32) (v2 : Int32) (h : AH) (Q : AH → Prop) : Prop :=
  f_X0_init v0 v1 v2 h (fun h1 => Q h1)
set_option maxRecDepth 100000 in
set_option maxHeartbeats 4000000 in
theorem s_X3_init {o : Om} {v0 : Nat} {v1 : Int32} {v2 : Int32} {h : AH} {Q : AH → Prop} (H : f_X3_init v0 v1 v2 h Q) : MQ' o kX3_init [.ref v0, .int v1, .int v2] h (qV Q) := by
  refine MQ'.of (by decide +kernel) (Nat.le_of_ble_eq_true rfl) ?_
  show AQ o kX3_init h 0 [(0, .ref v0), (1, .int v1), (2, .int v2)] [] (qV Q)
  refine a_aload_n 0 rfl rfl dX3_init_0 ?_
  refine a_iload_n 1 rfl rfl dX3_init_1 ?_
  refine a_iload_n 2 rfl rfl dX3_init_2 ?_
  refine r_Iv (av := [.int v1, .int v2]) (rest := []) rfl rfl okX0_init wd489 wd460 rfl rfl ⟨Nat.le_of_ble_eq_true rfl, Nat.le_of_ble_eq_true rfl⟩ (Nat.le_of_ble_eq_true rfl) dX3_init_3 (s_X0_init H) (fun h1 H => ?_)
  exact r_retv rfl dX3_init_6 H
def f_X4_make (v0 : Int32) (v1 : Int32) (v2 : Int32) (h : AH) (Q : Option Nat → AH → Prop) : Prop :=
  ((v0 = 98 → nO h 0 2 dfX0 (fun a1 h2 => f_X0_init a1 v1 v2 h2 (fun h3 => Q (some a1) h3))) ∧ (v0 = 99 → nO h 1 2 dfX1 (fun a4 h5 => f_X1_init a4 v1 v2 h5 (fun h6 => Q (some a4) h6))) ∧ (v0 = 108 → nO h 2 2 dfX2 (fun a7 h8 => f_X2_init a7 v1 v2 h8 (fun h9 => Q (some a7) h9))) ∧ (v0 = 112 → nO h 3 2 dfX3 (fun a10 h11 => f_X3_init a10 v1 v2 h11 (fun h12 => Q (some a10) h12))) ∧ (v0 = 116 → nO h 8 2 dfX8 (fun a13 h14 => f_X8_init a13 v1 v2 h14 (fun h15 => Q (some a13) h15))) ∧ (¬ v0 = 98 → ¬ v0 = 99 → ¬ v0 = 108 → ¬ v0 = 112 → ¬ v0 = 116 → nO h 10 2 dfX10 (fun a16 h17 => f_X10_init a16 v1 v2 h17 (fun h18 => Q (some a16) h18))))
set_option maxRecDepth 100000 in
set_option maxHeartbeats 4000000 in
theorem s_X4_make {o : Om} {v0 : Int32} {v1 : Int32} {v2 : Int32} {h : AH} {Q : Option Nat → AH → Prop} (H : f_X4_make v0 v1 v2 h Q) : MQ' o kX4_make [.int v0, .int v1, .int v2] h (qO Q) := by
  refine MQ'.of (by decide +kernel) (Nat.le_of_ble_eq_true rfl) ?_
  show AQ o kX4_make h 0 [(0, .int v0), (1, .int v1), (2, .int v2)] [] (qO Q)
  refine a_iload_n 0 rfl rfl dX4_make_0 ?_
  by_cases c0 : v0 = 98
  · have H := H.1 c0
    refine r_look (off := 61) (tgt := 62) dX4_make_1 (by decide) c0 (by decide) (by decide) ?_
    refine r_nO (C := RX0) (T := TX0) (N := 2) (ty := tyX0) rfl inG0 tyX0_ok wd457 wd458 wd13 dfX0_ok dX4_make_62 H (fun a1 h2 H => ?_)
    refine a_dup rfl dX4_make_65 ?_
    refine a_iload_n 1 rfl rfl dX4_make_66 ?_
    refine a_iload_n 2 rfl rfl dX4_make_67 ?_
    refine r_Iv (av := [.int v1, .int v2]) (rest := [.ref a1]) rfl rfl okX0_init wd459 wd460 rfl rfl ⟨Nat.le_of_ble_eq_true rfl, Nat.le_of_ble_eq_true rfl⟩ (Nat.le_of_ble_eq_true rfl) dX4_make_68 (s_X0_init H) (fun h3 H => ?_)
    exact r_reto (q := (some a1)) rfl dX4_make_71 H
  by_cases c1 : v0 = 99
  · have H := H.2.1 c1
    refine r_look (off := 51) (tgt := 52) dX4_make_1 (by decide) c1 (by decide) (by decide) ?_
    refine r_nO (C := RX1) (T := TX1) (N := 2) (ty := tyX1) rfl inG1 tyX1_ok wd419 wd420 wd12 dfX1_ok dX4_make_52 H (fun a4 h5 H => ?_)
    refine a_dup rfl dX4_make_55 ?_
    refine a_iload_n 1 rfl rfl dX4_make_56 ?_
    refine a_iload_n 2 rfl rfl dX4_make_57 ?_
    refine r_Iv (av := [.int v1, .int v2]) (rest := [.ref a4]) rfl rfl okX1_init wd421 wd422 rfl rfl ⟨Nat.le_of_ble_eq_true rfl, Nat.le_of_ble_eq_true rfl⟩ (Nat.le_of_ble_eq_true rfl) dX4_make_58 (s_X1_init H) (fun h6 H => ?_)
    exact r_reto (q := (some a4)) rfl dX4_make_61 H
  by_cases c2 : v0 = 108
  · have H := H.2.2.1 c2
    refine r_look (off := 71) (tgt := 72) dX4_make_1 (by decide) c2 (by decide) (by decide) ?_
    refine r_nO (C := RX2) (T := TX2) (N := 2) (ty := tyX2) rfl inG2 tyX2_ok wd466 wd467 wd14 dfX2_ok dX4_make_72 H (fun a7 h8 H => ?_)
    refine a_dup rfl dX4_make_75 ?_
    refine a_iload_n 1 rfl rfl dX4_make_76 ?_
    refine a_iload_n 2 rfl rfl dX4_make_77 ?_
    refine r_Iv (av := [.int v1, .int v2]) (rest := [.ref a7]) rfl rfl okX2_init wd468 wd469 rfl rfl ⟨Nat.le_of_ble_eq_true rfl, Nat.le_of_ble_eq_true rfl⟩ (Nat.le_of_ble_eq_true rfl) dX4_make_78 (s_X2_init H) (fun h9 H => ?_)
    exact r_reto (q := (some a7)) rfl dX4_make_81 H
  by_cases c3 : v0 = 112
  · have H := H.2.2.2.1 c3
    refine r_look (off := 91) (tgt := 92) dX4_make_1 (by decide) c3 (by decide) (by decide) ?_
    refine r_nO (C := RX3) (T := TX3) (N := 2) (ty := tyX3) rfl inG3 tyX3_ok wd484 wd485 wd16 dfX3_ok dX4_make_92 H (fun a10 h11 H => ?_)
    refine a_dup rfl dX4_make_95 ?_
    refine a_iload_n 1 rfl rfl dX4_make_96 ?_
    refine a_iload_n 2 rfl rfl dX4_make_97 ?_
    refine r_Iv (av := [.int v1, .int v2]) (rest := [.ref a10]) rfl rfl okX3_init wd486 wd487 rfl rfl ⟨Nat.le_of_ble_eq_true rfl, Nat.le_of_ble_eq_true rfl⟩ (Nat.le_of_ble_eq_true rfl) dX4_make_98 (s_X3_init H) (fun h12 H => ?_)
    exact r_reto (q := (some a10)) rfl dX4_make_101 H
  by_cases c4 : v0 = 116
  · have H := H.2.2.2.2.1 c4
    refine r_look (off := 81) (tgt := 82) dX4_make_1 (by decide) c4 (by decide) (by decide) ?_
    refine r_nO (C := RX8) (T := TX8) (N := 2) (ty := tyX8) rfl inG8 tyX8_ok wd475 wd476 wd15 dfX8_ok dX4_make_82 H (fun a13 h14 H => ?_)
    refine a_dup rfl dX4_make_85 ?_
    refine a_iload_n 1 rfl rfl dX4_make_86 ?_
    refine a_iload_n 2 rfl rfl dX4_make_87 ?_
    refine r_Iv (av := [.int v1, .int v2]) (rest := [.ref a13]) rfl rfl okX8_init wd477 wd478 rfl rfl ⟨Nat.le_of_ble_eq_true rfl, Nat.le_of_ble_eq_true rfl⟩ (Nat.le_of_ble_eq_true rfl) dX4_make_88 (s_X8_init H) (fun h15 H => ?_)
    exact r_reto (q := (some a13)) rfl dX4_make_91 H
  have H := H.2.2.2.2.2 c0 c1 c2 c3 c4
  refine a_lookup (tgt := 102) (off := 101) dX4_make_1 (by decide) (by rw [lv_osw c0 (by decide)]; rw [lv_osw c1 (by decide)]; rw [lv_osw c2 (by decide)]; rw [lv_osw c3 (by decide)]; rw [lv_osw c4 (by decide)]; rfl) (by decide) ?_
  refine r_nO (C := RX10) (T := TX10) (N := 2) (ty := tyX10) rfl inG10 tyX10_ok wd493 wd494 wd11 dfX10_ok dX4_make_102 H (fun a16 h17 H => ?_)
  refine a_dup rfl dX4_make_105 ?_
  refine a_iload_n 1 rfl rfl dX4_make_106 ?_
  refine a_iload_n 2 rfl rfl dX4_make_107 ?_
  refine r_Iv (av := [.int v1, .int v2]) (rest := [.ref a16]) rfl rfl okX10_init wd495 wd425 rfl rfl ⟨Nat.le_of_ble_eq_true rfl, Nat.le_of_ble_eq_true rfl⟩ (Nat.le_of_ble_eq_true rfl) dX4_make_108 (s_X10_init H) (fun h18 H => ?_)
  exact r_reto (q := (some a16)) rfl dX4_make_111 H
def f_X5_addWalker (v0 : Nat) (v1 : Nat) (h : AH) (Q : AH → Prop) : Prop :=
  gI h v0 5 6 (fun x1 => (((5 : Int32) ≤ x1 → Q h) ∧ (¬ ((5 : Int32) ≤ x1) → gR h v0 5 3 (fun a2 => gI h v0 5 6 (fun x3 => sQ h a2 4 x3 v1 (fun h4 => gI h4 v0 5 6 (fun x5 => pF h4 v0 5 6 (.int (x5 + (1 : Int32))) (fun h6 => Q h6))))))))
set_option maxRecDepth 100000 in
set_option maxHeartbeats 4000000 in
theorem s_X5_addWalker {o : Om} {v0 : Nat} {v1 : Nat} {h : AH} {Q : AH → Prop} (H : f_X5_addWalker v0 v1 h Q) : MQ' o kX5_addWalker [.ref v0, .ref v1] h (qV Q) := by
  refine MQ'.of (by decide +kernel) (Nat.le_of_ble_eq_true rfl) ?_
  show AQ o kX5_addWalker h 0 [(0, .ref v0), (1, .ref v1)] [] (qV Q)
  refine a_aload_n 0 rfl rfl dX5_addWalker_0 ?_
  refine r_gI fo_RX5_34_5 dX5_addWalker_1 H (fun x1 H => ?_)
  refine a_iconst (v := (5 : Int32)) (by decide) dX5_addWalker_4 ?_
  refine a_icmp_ge (tgt := 28) dX5_addWalker_5 (by decide) (fun c => ?_) (fun c => ?_)
  · have H := H.1 (c)
    exact r_retv rfl dX5_addWalker_28 H
  · have H := H.2 (c)
    refine a_aload_n 0 rfl rfl dX5_addWalker_8 ?_
    refine r_gR fo_RX5_23_5 dX5_addWalker_9 H (fun a2 H => ?_)
    refine a_aload_n 0 rfl rfl dX5_addWalker_12 ?_
    refine r_gI fo_RX5_34_5 dX5_addWalker_13 H (fun x3 H => ?_)
    refine a_aload_n 1 rfl rfl dX5_addWalker_16 ?_
    refine r_sQ (by decide) dX5_addWalker_17 H (fun h4 H => ?_)
    refine a_aload_n 0 rfl rfl dX5_addWalker_18 ?_
    refine a_dup rfl dX5_addWalker_19 ?_
    refine r_gI fo_RX5_34_5 dX5_addWalker_20 H (fun x5 H => ?_)
    refine a_iconst (v := (1 : Int32)) (by decide) dX5_addWalker_23 ?_
    refine a_iadd dX5_addWalker_24 ?_
    refine r_pF (po_RX5_34_5 _) (fun _ => rfl) (fun _ => rfl) dX5_addWalker_25 H (fun h6 H => ?_)
    exact r_retv rfl dX5_addWalker_28 H
def f_X4_readWalker (v0 : Nat) (h : AH) (Q : Int32 → AH → Prop) : Prop :=
  isO h v0 4 ∧ f_X4_sign v0  h (fun x1 h2 => f_X4_isWalker x1 h2 (fun x3 h4 => ((x3 = 0 → Q (0 : Int32) h4) ∧ (¬ (x3 = 0) → gR h4 v0 4 0 (fun a5 => gI h4 a5 5 6 (fun x6 => ((x6 < (5 : Int32) → gI h4 v0 4 2 (fun x7 => pF h4 v0 4 2 (.int (x7 + (1 : Int32))) (fun h8 => gR h8 v0 4 0 (fun a9 => gI h8 a9 5 4 (fun x10 => isO h8 v0 4 ∧ f_X4_isFigure v0 (0 : Int32) (x10 - (1 : Int32)) h8 (fun x11 h12 => ((¬ (x11 = 0) → isO h12 v0 4 ∧ f_X4_takeFigure v0  h12 (fun x13 h14 => gR h14 v0 4 0 (fun a15 => gI h14 a15 5 4 (fun x16 => isO h14 v0 4 ∧ f_X4_isFigure v0 (0 : Int32) (x16 - (1 : Int32)) h14 (fun x17 h18 => ((x17 = 0 → Q (0 : Int32) h18) ∧ (¬ (x17 = 0) → isO h18 v0 4 ∧ f_X4_sign v0  h18 (fun x19 h20 => ((¬ ((x19 - (48 : Int32)) = x13) → gR h20 v0 4 0 (fun a21 => isO h20 v0 4 ∧ f_X4_takeFigure v0  h20 (fun x22 h23 => f_X4_make x1 x13 x22 h23 (fun q24 h25 => ∃ a26, q24 = some a26 ∧ (isO h25 a21 5 ∧ f_X5_addWalker a21 a26 h25 (fun h27 => Q (1 : Int32) h27)))))) ∧ ((x19 - (48 : Int32)) = x13 → Q (0 : Int32) h20)))))))))) ∧ (x11 = 0 → Q (0 : Int32) h12)))))))) ∧ (¬ (x6 < (5 : Int32)) → Q (0 : Int32) h4))))))))
set_option maxRecDepth 100000 in
set_option maxHeartbeats 4000000 in
theorem s_X4_readWalker {o : Om} {v0 : Nat} {h : AH} {Q : Int32 → AH → Prop} (H : f_X4_readWalker v0 h Q) : MQ' o kX4_readWalker [.ref v0] h (qI Q) := by
  refine MQ'.of (by decide +kernel) (Nat.le_of_ble_eq_true rfl) ?_
  show AQ o kX4_readWalker h 0 [(0, .ref v0)] [] (qI Q)
  refine a_aload_n 0 rfl rfl dX4_readWalker_0 ?_
  refine r_Vi (q := (RX4, TX4, 3)) (av := []) (rest := []) rfl rfl okX4_sign H.1 rfl rfl wd375 wd377 wp5 ⟨Nat.le_of_ble_eq_true rfl, Nat.le_of_ble_eq_true rfl⟩ (Nat.le_of_ble_eq_true rfl) dX4_readWalker_1 (s_X4_sign H.2) (fun x1 h2 H => ?_)
  refine a_istore_n (lv1 := [(0, .ref v0), (1, .int x1)]) rfl [1, 0] (by decide) rfl dX4_readWalker_4 ?_
  refine a_iload_n 1 rfl rfl dX4_readWalker_5 ?_
  refine r_Si (av := [.int x1]) (rest := []) rfl rfl okX4_isWalker wd413 wd414 ⟨Nat.le_of_ble_eq_true rfl, Nat.le_of_ble_eq_true rfl⟩ (Nat.le_of_ble_eq_true rfl) dX4_readWalker_6 (s_X4_isWalker H) (fun x3 h4 H => ?_)
  refine a_if_eq (tgt := 23) dX4_readWalker_9 (by decide) (fun c => ?_) (fun c => ?_)
  · have H := H.1 (c)
    refine a_iconst (v := (0 : Int32)) (by decide) dX4_readWalker_23 ?_
    exact r_retz rfl bl_0 dX4_readWalker_24 H
  · have H := H.2 (c)
    refine a_aload_n 0 rfl rfl dX4_readWalker_12 ?_
    refine r_gR fo_RX4_12_4 dX4_readWalker_13 H (fun a5 H => ?_)
    refine r_gI fo_RX4_66_5 dX4_readWalker_16 H (fun x6 H => ?_)
    refine a_iconst (v := (5 : Int32)) (by decide) dX4_readWalker_19 ?_
    refine a_icmp_lt (tgt := 25) dX4_readWalker_20 (by decide) (fun c => ?_) (fun c => ?_)
    · have H := H.1 (c)
      refine a_aload_n 0 rfl rfl dX4_readWalker_25 ?_
      refine a_dup rfl dX4_readWalker_26 ?_
      refine r_gI fo_RX4_18_4 dX4_readWalker_27 H (fun x7 H => ?_)
      refine a_iconst (v := (1 : Int32)) (by decide) dX4_readWalker_30 ?_
      refine a_iadd dX4_readWalker_31 ?_
      refine r_pF (po_RX4_18_4 _) (fun _ => rfl) (fun _ => rfl) dX4_readWalker_32 H (fun h8 H => ?_)
      refine a_aload_n 0 rfl rfl dX4_readWalker_35 ?_
      refine a_iconst (v := (0 : Int32)) (by decide) dX4_readWalker_36 ?_
      refine a_aload_n 0 rfl rfl dX4_readWalker_37 ?_
      refine r_gR fo_RX4_12_4 dX4_readWalker_38 H (fun a9 H => ?_)
      refine r_gI fo_RX4_63_5 dX4_readWalker_41 H (fun x10 H => ?_)
      refine a_iconst (v := (1 : Int32)) (by decide) dX4_readWalker_44 ?_
      refine a_isub dX4_readWalker_45 ?_
      refine r_Vi (q := (RX4, TX4, 3)) (av := [.int (0 : Int32), .int (x10 - (1 : Int32))]) (rest := []) rfl rfl okX4_isFigure H.1 rfl rfl wd380 wd382 wp6 ⟨Nat.le_of_ble_eq_true rfl, Nat.le_of_ble_eq_true rfl⟩ (Nat.le_of_ble_eq_true rfl) dX4_readWalker_46 (s_X4_isFigure H.2) (fun x11 h12 H => ?_)
      refine a_if_ne (tgt := 54) dX4_readWalker_49 (by decide) (fun c => ?_) (fun c => ?_)
      · have H := H.1 (c)
        refine a_aload_n 0 rfl rfl dX4_readWalker_54 ?_
        refine r_Vi (q := (RX4, TX4, 3)) (av := []) (rest := []) rfl rfl okX4_takeFigure H.1 rfl rfl wd384 wd386 wp7 ⟨Nat.le_of_ble_eq_true rfl, Nat.le_of_ble_eq_true rfl⟩ (Nat.le_of_ble_eq_true rfl) dX4_readWalker_55 (s_X4_takeFigure H.2) (fun x13 h14 H => ?_)
        refine a_istore_n (lv1 := [(0, .ref v0), (1, .int x1), (2, .int x13)]) rfl [1, 2, 0] (by decide) rfl dX4_readWalker_58 ?_
        refine a_aload_n 0 rfl rfl dX4_readWalker_59 ?_
        refine a_iconst (v := (0 : Int32)) (by decide) dX4_readWalker_60 ?_
        refine a_aload_n 0 rfl rfl dX4_readWalker_61 ?_
        refine r_gR fo_RX4_12_4 dX4_readWalker_62 H (fun a15 H => ?_)
        refine r_gI fo_RX4_63_5 dX4_readWalker_65 H (fun x16 H => ?_)
        refine a_iconst (v := (1 : Int32)) (by decide) dX4_readWalker_68 ?_
        refine a_isub dX4_readWalker_69 ?_
        refine r_Vi (q := (RX4, TX4, 3)) (av := [.int (0 : Int32), .int (x16 - (1 : Int32))]) (rest := []) rfl rfl okX4_isFigure H.1 rfl rfl wd380 wd382 wp6 ⟨Nat.le_of_ble_eq_true rfl, Nat.le_of_ble_eq_true rfl⟩ (Nat.le_of_ble_eq_true rfl) dX4_readWalker_70 (s_X4_isFigure H.2) (fun x17 h18 H => ?_)
        refine a_if_eq (tgt := 87) dX4_readWalker_73 (by decide) (fun c => ?_) (fun c => ?_)
        · have H := H.1 (c)
          refine a_iconst (v := (0 : Int32)) (by decide) dX4_readWalker_87 ?_
          exact r_retz rfl bl_0 dX4_readWalker_88 H
        · have H := H.2 (c)
          refine a_aload_n 0 rfl rfl dX4_readWalker_76 ?_
          refine r_Vi (q := (RX4, TX4, 3)) (av := []) (rest := []) rfl rfl okX4_sign H.1 rfl rfl wd375 wd377 wp5 ⟨Nat.le_of_ble_eq_true rfl, Nat.le_of_ble_eq_true rfl⟩ (Nat.le_of_ble_eq_true rfl) dX4_readWalker_77 (s_X4_sign H.2) (fun x19 h20 H => ?_)
          refine a_bipush (v := (48 : Int32)) (by decide) dX4_readWalker_80 ?_
          refine a_isub dX4_readWalker_82 ?_
          refine a_iload_n 2 rfl rfl dX4_readWalker_83 ?_
          refine a_icmp_ne (tgt := 89) dX4_readWalker_84 (by decide) (fun c => ?_) (fun c => ?_)
          · have H := H.1 (c)
            refine a_aload_n 0 rfl rfl dX4_readWalker_89 ?_
            refine r_gR fo_RX4_12_4 dX4_readWalker_90 H (fun a21 H => ?_)
            refine a_iload_n 1 rfl rfl dX4_readWalker_93 ?_
            refine a_iload_n 2 rfl rfl dX4_readWalker_94 ?_
            refine a_aload_n 0 rfl rfl dX4_readWalker_95 ?_
            refine r_Vi (q := (RX4, TX4, 3)) (av := []) (rest := [.int x13, .int x1, .ref a21]) rfl rfl okX4_takeFigure H.1 rfl rfl wd384 wd386 wp7 ⟨Nat.le_of_ble_eq_true rfl, Nat.le_of_ble_eq_true rfl⟩ (Nat.le_of_ble_eq_true rfl) dX4_readWalker_96 (s_X4_takeFigure H.2) (fun x22 h23 H => ?_)
            refine r_So (av := [.int x1, .int x13, .int x22]) (rest := [.ref a21]) rfl rfl okX4_make wd416 wd417 ⟨Nat.le_of_ble_eq_true rfl, Nat.le_of_ble_eq_true rfl⟩ (Nat.le_of_ble_eq_true rfl) dX4_readWalker_99 (s_X4_make H) (fun q24 h25 H => ?_)
            obtain ⟨a26, rfl, H⟩ := H
            show AQ o kX4_readWalker h25 102 [(0, .ref v0), (1, .int x1), (2, .int x13)] [.ref a26, .ref a21] _
            refine r_Vv (q := (RX5, TX5, 10)) (av := [.ref a26]) (rest := []) rfl rfl okX5_addWalker H.1 rfl rfl wd499 wd500 wd501 ⟨Nat.le_of_ble_eq_true rfl, Nat.le_of_ble_eq_true rfl⟩ (Nat.le_of_ble_eq_true rfl) dX4_readWalker_102 (s_X5_addWalker H.2) (fun h27 H => ?_)
            refine a_iconst (v := (1 : Int32)) (by decide) dX4_readWalker_105 ?_
            exact r_retz rfl bl_1 dX4_readWalker_106 H
          · have H := H.2 (c)
            refine a_iconst (v := (0 : Int32)) (by decide) dX4_readWalker_87 ?_
            exact r_retz rfl bl_0 dX4_readWalker_88 H
      · have H := H.2 (c)
        refine a_iconst (v := (0 : Int32)) (by decide) dX4_readWalker_52 ?_
        exact r_retz rfl bl_0 dX4_readWalker_53 H
    · have H := H.2 (c)
      refine a_iconst (v := (0 : Int32)) (by decide) dX4_readWalker_23 ?_
      exact r_retz rfl bl_0 dX4_readWalker_24 H
