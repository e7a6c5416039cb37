def B_X11_digest_180 (Q : Int64 → AH → Prop)  (v0 : Nat) (v1 : Int64) (h : AH) : Prop :=
  isO h v0 11 ∧ f_X11_digestKept v0 v1 h (fun x1 h2 => gR h2 v0 11 0 (fun a3 => f_X11_digestRows x1 a3 h2 (fun x4 h5 => gR h5 v0 11 1 (fun a6 => f_X11_digestRows x4 a6 h5 (fun x7 h8 => Q x7 h8)))))
set_option maxRecDepth 100000 in
set_option maxHeartbeats 4000000 in
theorem b_X11_digest_180 {o : Om} {Q : Int64 → AH → Prop}  {v0 : Nat} {v1 : Int64} {h : AH}  (H : B_X11_digest_180 Q  v0 v1 h) : AQ o kX11_digest h 180 [(0, .ref v0), (1, .long v1)] [] (qL Q) := by
  refine a_aload_n 0 rfl rfl dX11_digest_180 ?_
  refine a_lload_n 1 rfl rfl dX11_digest_181 ?_
  refine r_Vl (q := (RX11, TX11, 16)) (av := [.long v1]) (rest := []) rfl rfl okX11_digestKept H.1 rfl rfl wd1011 wd1013 wp30 ⟨Nat.le_of_ble_eq_true rfl, Nat.le_of_ble_eq_true rfl⟩ (Nat.le_of_ble_eq_true rfl) dX11_digest_182 (s_X11_digestKept H.2) (fun x1 h2 H => ?_)
  refine a_lstore_n (lv1 := [(0, .ref v0), (1, .long x1)]) rfl [1, 0] (by decide) rfl dX11_digest_185 ?_
  refine a_lload_n 1 rfl rfl dX11_digest_186 ?_
  refine a_aload_n 0 rfl rfl dX11_digest_187 ?_
  refine r_gR fo_RX11_11_11 dX11_digest_188 H (fun a3 H => ?_)
  refine r_Sl (av := [.long x1, .ref a3]) (rest := []) rfl rfl okX11_digestRows wd1015 wd1016 ⟨Nat.le_of_ble_eq_true rfl, Nat.le_of_ble_eq_true rfl⟩ (Nat.le_of_ble_eq_true rfl) dX11_digest_191 (s_X11_digestRows H) (fun x4 h5 H => ?_)
  refine a_lstore_n (lv1 := [(0, .ref v0), (1, .long x4)]) rfl [1, 0] (by decide) rfl dX11_digest_194 ?_
  refine a_lload_n 1 rfl rfl dX11_digest_195 ?_
  refine a_aload_n 0 rfl rfl dX11_digest_196 ?_
  refine r_gR fo_RX11_15_11 dX11_digest_197 H (fun a6 H => ?_)
  refine r_Sl (av := [.long x4, .ref a6]) (rest := []) rfl rfl okX11_digestRows wd1015 wd1016 ⟨Nat.le_of_ble_eq_true rfl, Nat.le_of_ble_eq_true rfl⟩ (Nat.le_of_ble_eq_true rfl) dX11_digest_200 (s_X11_digestRows H) (fun x7 h8 H => ?_)
  exact r_retl rfl dX11_digest_203 H
def B_X11_digest_59 (Q : Int64 → AH → Prop) (K45 : Int64 → Int32 → AH → Prop) (K59 : Int64 → Int32 → AH → Prop) (v0 : Nat) (v3 : Int32) (v1 : Int64) (v4 : Int32) (h : AH) : Prop :=
  (((4 : Int32) ≤ v4 → K45 v1 (v3 + 1) h) ∧ (¬ ((4 : Int32) ≤ v4) → isO h v0 11 ∧ f_X11_ofStone v0 v3 v4 h (fun x1 h2 => K59 (((31 : Int64) * v1) + x1.toInt64) (v4 + 1) h2)))
set_option maxRecDepth 100000 in
set_option maxHeartbeats 4000000 in
theorem b_X11_digest_59 {o : Om} {Q : Int64 → AH → Prop} {K45 : Int64 → Int32 → AH → Prop} {K59 : Int64 → Int32 → AH → Prop} {v0 : Nat} {v3 : Int32} {v1 : Int64} {v4 : Int32} {h : AH} (hK45 : ∀ w1 w3 h, K45 w1 w3 h → AQ o kX11_digest h 45 [(0, .ref v0), (1, .long w1), (3, .int w3)] [] (qL Q)) (hK59 : ∀ w1 w4 h, K59 w1 w4 h → AQ o kX11_digest h 59 [(0, .ref v0), (1, .long w1), (3, .int v3), (4, .int w4)] [] (qL Q)) (H : B_X11_digest_59 Q K45 K59 v0 v3 v1 v4 h) : AQ o kX11_digest h 59 [(0, .ref v0), (1, .long v1), (3, .int v3), (4, .int v4)] [] (qL Q) := by
  refine a_iload 3 rfl dX11_digest_59 ?_
  refine a_iconst (v := (4 : Int32)) (by decide) dX11_digest_61 ?_
  refine a_icmp_ge (tgt := 86) dX11_digest_62 (by decide) (fun c => ?_) (fun c => ?_)
  · have H := H.1 (c)
    refine a_iinc (v := v3 + 1) (lv1 := [(0, .ref v0), (1, .long v1), (3, .int (v3 + 1)), (4, .int v4)]) [1, 2, 0, 3] 2 rfl (by decide) rfl rfl dX11_digest_86 ?_
    refine a_goto (tgt := 45) dX11_digest_89 (by decide) ?_
    refine AQ.sub (lv1 := [(0, .ref v0), (1, .long v1), (3, .int (v3 + 1))]) [0, 1, 2] rfl ?_
    exact hK45 _ _ _ H
  · have H := H.2 (c)
    refine a_ldc2 (v := (31 : Int64)) wd1009 dX11_digest_65 ?_
    refine a_lload_n 1 rfl rfl dX11_digest_68 ?_
    refine a_lmul dX11_digest_69 ?_
    refine a_aload_n 0 rfl rfl dX11_digest_70 ?_
    refine a_iload_n 2 rfl rfl dX11_digest_71 ?_
    refine a_iload 3 rfl dX11_digest_72 ?_
    refine r_Vi (q := (RX11, TX11, 16)) (av := [.int v3, .int v4]) (rest := [.long ((31 : Int64) * v1)]) rfl rfl okX11_ofStone H.1 rfl rfl wd511 wd513 wp10 ⟨Nat.le_of_ble_eq_true rfl, Nat.le_of_ble_eq_true rfl⟩ (Nat.le_of_ble_eq_true rfl) dX11_digest_74 (s_X11_ofStone H.2) (fun x1 h2 H => ?_)
    refine a_i2l dX11_digest_77 ?_
    refine a_ladd dX11_digest_78 ?_
    refine a_lstore_n (lv1 := [(0, .ref v0), (1, .long (((31 : Int64) * v1) + x1.toInt64)), (3, .int v3), (4, .int v4)]) rfl [1, 0, 2, 3] (by decide) rfl dX11_digest_79 ?_
    refine a_iinc (v := v4 + 1) (lv1 := [(0, .ref v0), (1, .long (((31 : Int64) * v1) + x1.toInt64)), (3, .int v3), (4, .int (v4 + 1))]) [1, 2, 3, 0] 3 rfl (by decide) rfl rfl dX11_digest_80 ?_
    refine a_goto (tgt := 59) dX11_digest_83 (by decide) ?_
    exact hK59 _ _ _ H
def L_X11_digest_59 (Q : Int64 → AH → Prop) (K45 : Int64 → Int32 → AH → Prop) (v0 : Nat) (v3 : Int32) : Nat → Int64 → Int32 → AH → Prop
  | 0, _, _, _ => False
  | n + 1, v1, v4, h => B_X11_digest_59 Q K45 (L_X11_digest_59 Q K45 v0 v3 n) v0 v3 v1 v4 h
theorem l_X11_digest_59 {o : Om} {Q : Int64 → AH → Prop} {K45 : Int64 → Int32 → AH → Prop} {v0 : Nat} {v3 : Int32} (hK45 : ∀ w1 w3 h, K45 w1 w3 h → AQ o kX11_digest h 45 [(0, .ref v0), (1, .long w1), (3, .int w3)] [] (qL Q)) : ∀ (n : Nat) (v1 : Int64) (v4 : Int32) (h : AH), L_X11_digest_59 Q K45 v0 v3 n v1 v4 h → AQ o kX11_digest h 59 [(0, .ref v0), (1, .long v1), (3, .int v3), (4, .int v4)] [] (qL Q) := by
  intro n
  induction n with
  | zero => intro v1 v4 h H; exact H.elim
  | succ n ih => intro v1 v4 h H; exact b_X11_digest_59 hK45 ih H
def B_X11_digest_108 (Q : Int64 → AH → Prop) (K94 : Int64 → Int32 → AH → Prop) (K108 : Int64 → Int32 → AH → Prop) (v0 : Nat) (v3 : Int32) (v1 : Int64) (v4 : Int32) (h : AH) : Prop :=
  (((4 : Int32) ≤ v4 → K94 v1 (v3 + 1) h) ∧ (¬ ((4 : Int32) ≤ v4) → isO h v0 11 ∧ f_X11_ofWalker v0 v3 v4 h (fun x1 h2 => K108 (((31 : Int64) * v1) + x1.toInt64) (v4 + 1) h2)))
set_option maxRecDepth 100000 in
set_option maxHeartbeats 4000000 in
theorem b_X11_digest_108 {o : Om} {Q : Int64 → AH → Prop} {K94 : Int64 → Int32 → AH → Prop} {K108 : Int64 → Int32 → AH → Prop} {v0 : Nat} {v3 : Int32} {v1 : Int64} {v4 : Int32} {h : AH} (hK94 : ∀ w1 w3 h, K94 w1 w3 h → AQ o kX11_digest h 94 [(0, .ref v0), (1, .long w1), (3, .int w3)] [] (qL Q)) (hK108 : ∀ w1 w4 h, K108 w1 w4 h → AQ o kX11_digest h 108 [(0, .ref v0), (1, .long w1), (3, .int v3), (4, .int w4)] [] (qL Q)) (H : B_X11_digest_108 Q K94 K108 v0 v3 v1 v4 h) : AQ o kX11_digest h 108 [(0, .ref v0), (1, .long v1), (3, .int v3), (4, .int v4)] [] (qL Q) := by
  refine a_iload 3 rfl dX11_digest_108 ?_
  refine a_iconst (v := (4 : Int32)) (by decide) dX11_digest_110 ?_
  refine a_icmp_ge (tgt := 135) dX11_digest_111 (by decide) (fun c => ?_) (fun c => ?_)
  · have H := H.1 (c)
    refine a_iinc (v := v3 + 1) (lv1 := [(0, .ref v0), (1, .long v1), (3, .int (v3 + 1)), (4, .int v4)]) [1, 2, 0, 3] 2 rfl (by decide) rfl rfl dX11_digest_135 ?_
    refine a_goto (tgt := 94) dX11_digest_138 (by decide) ?_
    refine AQ.sub (lv1 := [(0, .ref v0), (1, .long v1), (3, .int (v3 + 1))]) [0, 1, 2] rfl ?_
    exact hK94 _ _ _ H
  · have H := H.2 (c)
    refine a_ldc2 (v := (31 : Int64)) wd1009 dX11_digest_114 ?_
    refine a_lload_n 1 rfl rfl dX11_digest_117 ?_
    refine a_lmul dX11_digest_118 ?_
    refine a_aload_n 0 rfl rfl dX11_digest_119 ?_
    refine a_iload_n 2 rfl rfl dX11_digest_120 ?_
    refine a_iload 3 rfl dX11_digest_121 ?_
    refine r_Vi (q := (RX11, TX11, 16)) (av := [.int v3, .int v4]) (rest := [.long ((31 : Int64) * v1)]) rfl rfl okX11_ofWalker H.1 rfl rfl wd534 wd536 wp12 ⟨Nat.le_of_ble_eq_true rfl, Nat.le_of_ble_eq_true rfl⟩ (Nat.le_of_ble_eq_true rfl) dX11_digest_123 (s_X11_ofWalker H.2) (fun x1 h2 H => ?_)
    refine a_i2l dX11_digest_126 ?_
    refine a_ladd dX11_digest_127 ?_
    refine a_lstore_n (lv1 := [(0, .ref v0), (1, .long (((31 : Int64) * v1) + x1.toInt64)), (3, .int v3), (4, .int v4)]) rfl [1, 0, 2, 3] (by decide) rfl dX11_digest_128 ?_
    refine a_iinc (v := v4 + 1) (lv1 := [(0, .ref v0), (1, .long (((31 : Int64) * v1) + x1.toInt64)), (3, .int v3), (4, .int (v4 + 1))]) [1, 2, 3, 0] 3 rfl (by decide) rfl rfl dX11_digest_129 ?_
    refine a_goto (tgt := 108) dX11_digest_132 (by decide) ?_
    exact hK108 _ _ _ H
def L_X11_digest_108 (Q : Int64 → AH → Prop) (K94 : Int64 → Int32 → AH → Prop) (v0 : Nat) (v3 : Int32) : Nat → Int64 → Int32 → AH → Prop
  | 0, _, _, _ => False
  | n + 1, v1, v4, h => B_X11_digest_108 Q K94 (L_X11_digest_108 Q K94 v0 v3 n) v0 v3 v1 v4 h
theorem l_X11_digest_108 {o : Om} {Q : Int64 → AH → Prop} {K94 : Int64 → Int32 → AH → Prop} {v0 : Nat} {v3 : Int32} (hK94 : ∀ w1 w3 h, K94 w1 w3 h → AQ o kX11_digest h 94 [(0, .ref v0), (1, .long w1), (3, .int w3)] [] (qL Q)) : ∀ (n : Nat) (v1 : Int64) (v4 : Int32) (h : AH), L_X11_digest_108 Q K94 v0 v3 n v1 v4 h → AQ o kX11_digest h 108 [(0, .ref v0), (1, .long v1), (3, .int v3), (4, .int v4)] [] (qL Q) := by
  intro n
  induction n with
  | zero => intro v1 v4 h H; exact H.elim
  | succ n ih => intro v1 v4 h H; exact b_X11_digest_108 hK94 ih H
def B_X11_digest_143 (Q : Int64 → AH → Prop) (K143 : Int64 → Int32 → AH → Prop) (v0 : Nat) (v1 : Int64) (v3 : Int32) (h : AH) : Prop :=
  gI h v0 11 11 (fun x1 => ((x1 ≤ v3 → B_X11_digest_180 Q  v0 v1 h) ∧ (¬ (x1 ≤ v3) → (((60 : Int32) ≤ v3 → B_X11_digest_180 Q  v0 v1 h) ∧ (¬ ((60 : Int32) ≤ v3) → gR h v0 11 2 (fun a2 => lQ h a2 3 v3 (fun a3 => gI h a3 9 4 (fun x4 => K143 (((31 : Int64) * v1) + x4.toInt64) (v3 + 1) h))))))))
set_option maxRecDepth 100000 in
set_option maxHeartbeats 4000000 in
theorem b_X11_digest_143 {o : Om} {Q : Int64 → AH → Prop} {K143 : Int64 → Int32 → AH → Prop} {v0 : Nat} {v1 : Int64} {v3 : Int32} {h : AH} (hK143 : ∀ w1 w3 h, K143 w1 w3 h → AQ o kX11_digest h 143 [(0, .ref v0), (1, .long w1), (3, .int w3)] [] (qL Q)) (H : B_X11_digest_143 Q K143 v0 v1 v3 h) : AQ o kX11_digest h 143 [(0, .ref v0), (1, .long v1), (3, .int v3)] [] (qL Q) := by
  refine a_iload_n 2 rfl rfl dX11_digest_143 ?_
  refine a_aload_n 0 rfl rfl dX11_digest_144 ?_
  refine r_gI fo_RX11_41_11 dX11_digest_145 H (fun x1 H => ?_)
  refine a_icmp_ge (tgt := 180) dX11_digest_148 (by decide) (fun c => ?_) (fun c => ?_)
  · have H := H.1 (c)
    refine AQ.sub (lv1 := [(0, .ref v0), (1, .long v1)]) [0, 1] rfl ?_
    exact b_X11_digest_180  H
  · have H := H.2 (c)
    refine a_iload_n 2 rfl rfl dX11_digest_151 ?_
    refine a_bipush (v := (60 : Int32)) (by decide) dX11_digest_152 ?_
    refine a_icmp_ge (tgt := 180) dX11_digest_154 (by decide) (fun c => ?_) (fun c => ?_)
    · have H := H.1 (c)
      refine AQ.sub (lv1 := [(0, .ref v0), (1, .long v1)]) [0, 1] rfl ?_
      exact b_X11_digest_180  H
    · have H := H.2 (c)
      refine a_ldc2 (v := (31 : Int64)) wd1009 dX11_digest_157 ?_
      refine a_lload_n 1 rfl rfl dX11_digest_160 ?_
      refine a_lmul dX11_digest_161 ?_
      refine a_aload_n 0 rfl rfl dX11_digest_162 ?_
      refine r_gR fo_RX11_20_11 dX11_digest_163 H (fun a2 H => ?_)
      refine a_iload_n 2 rfl rfl dX11_digest_166 ?_
      refine r_lQ (by decide) dX11_digest_167 H (fun a3 H => ?_)
      refine r_gI fo_RX11_307_9 dX11_digest_168 H (fun x4 H => ?_)
      refine a_i2l dX11_digest_171 ?_
      refine a_ladd dX11_digest_172 ?_
      refine a_lstore_n (lv1 := [(0, .ref v0), (1, .long (((31 : Int64) * v1) + x4.toInt64)), (3, .int v3)]) rfl [1, 0, 2] (by decide) rfl dX11_digest_173 ?_
      refine a_iinc (v := v3 + 1) (lv1 := [(0, .ref v0), (1, .long (((31 : Int64) * v1) + x4.toInt64)), (3, .int (v3 + 1))]) [1, 2, 0] 2 rfl (by decide) rfl rfl dX11_digest_174 ?_
      refine a_goto (tgt := 143) dX11_digest_177 (by decide) ?_
      exact hK143 _ _ _ H
def L_X11_digest_143 (Q : Int64 → AH → Prop)  (v0 : Nat) : Nat → Int64 → Int32 → AH → Prop
  | 0, _, _, _ => False
  | n + 1, v1, v3, h => B_X11_digest_143 Q (L_X11_digest_143 Q  v0 n) v0 v1 v3 h
theorem l_X11_digest_143 {o : Om} {Q : Int64 → AH → Prop}  {v0 : Nat}  : ∀ (n : Nat) (v1 : Int64) (v3 : Int32) (h : AH), L_X11_digest_143 Q  v0 n v1 v3 h → AQ o kX11_digest h 143 [(0, .ref v0), (1, .long v1), (3, .int v3)] [] (qL Q) := by
  intro n
  induction n with
  | zero => intro v1 v3 h H; exact H.elim
  | succ n ih => intro v1 v3 h H; exact b_X11_digest_143 ih H
def B_X11_digest_94 (Q : Int64 → AH → Prop) (K94 : Int64 → Int32 → AH → Prop) (v0 : Nat) (v1 : Int64) (v3 : Int32) (h : AH) : Prop :=
  gR h v0 11 8 (fun a1 => gI h a1 5 6 (fun x2 => ((x2 ≤ v3 → ∃ n, L_X11_digest_143 Q  v0 n v1 (0 : Int32) h) ∧ (¬ (x2 ≤ v3) → ∃ n, L_X11_digest_108 Q K94 v0 v3 n v1 (0 : Int32) h))))
set_option maxRecDepth 100000 in
set_option maxHeartbeats 4000000 in
theorem b_X11_digest_94 {o : Om} {Q : Int64 → AH → Prop} {K94 : Int64 → Int32 → AH → Prop} {v0 : Nat} {v1 : Int64} {v3 : Int32} {h : AH} (hK94 : ∀ w1 w3 h, K94 w1 w3 h → AQ o kX11_digest h 94 [(0, .ref v0), (1, .long w1), (3, .int w3)] [] (qL Q)) (H : B_X11_digest_94 Q K94 v0 v1 v3 h) : AQ o kX11_digest h 94 [(0, .ref v0), (1, .long v1), (3, .int v3)] [] (qL Q) := by
  refine a_iload_n 2 rfl rfl dX11_digest_94 ?_
  refine a_aload_n 0 rfl rfl dX11_digest_95 ?_
  refine r_gR fo_RX11_60_11 dX11_digest_96 H (fun a1 H => ?_)
  refine r_gI fo_RX11_153_5 dX11_digest_99 H (fun x2 H => ?_)
  refine a_icmp_ge (tgt := 141) dX11_digest_102 (by decide) (fun c => ?_) (fun c => ?_)
  · have H := H.1 (c)
    refine a_iconst (v := (0 : Int32)) (by decide) dX11_digest_141 ?_
    refine a_istore_n (lv1 := [(0, .ref v0), (1, .long v1), (3, .int (0 : Int32))]) rfl [1, 2, 0] (by decide) rfl dX11_digest_142 ?_
    obtain ⟨n, H⟩ := H
    exact l_X11_digest_143  n _ _ _ H
  · have H := H.2 (c)
    refine a_iconst (v := (0 : Int32)) (by decide) dX11_digest_105 ?_
    refine a_istore (lv1 := [(0, .ref v0), (1, .long v1), (3, .int v3), (4, .int (0 : Int32))]) [1, 2, 3, 0] (by decide) rfl dX11_digest_106 ?_
    obtain ⟨n, H⟩ := H
    exact l_X11_digest_108 hK94 n _ _ _ H
def L_X11_digest_94 (Q : Int64 → AH → Prop)  (v0 : Nat) : Nat → Int64 → Int32 → AH → Prop
  | 0, _, _, _ => False
  | n + 1, v1, v3, h => B_X11_digest_94 Q (L_X11_digest_94 Q  v0 n) v0 v1 v3 h
theorem l_X11_digest_94 {o : Om} {Q : Int64 → AH → Prop}  {v0 : Nat}  : ∀ (n : Nat) (v1 : Int64) (v3 : Int32) (h : AH), L_X11_digest_94 Q  v0 n v1 v3 h → AQ o kX11_digest h 94 [(0, .ref v0), (1, .long v1), (3, .int v3)] [] (qL Q) := by
  intro n
  induction n with
  | zero => intro v1 v3 h H; exact H.elim
  | succ n ih => intro v1 v3 h H; exact b_X11_digest_94 ih H
def B_X11_digest_45 (Q : Int64 → AH → Prop) (K45 : Int64 → Int32 → AH → Prop) (v0 : Nat) (v1 : Int64) (v3 : Int32) (h : AH) : Prop :=
  gR h v0 11 8 (fun a1 => gI h a1 5 5 (fun x2 => ((x2 ≤ v3 → ∃ n, L_X11_digest_94 Q  v0 n v1 (0 : Int32) h) ∧ (¬ (x2 ≤ v3) → ∃ n, L_X11_digest_59 Q K45 v0 v3 n v1 (0 : Int32) h))))
set_option maxRecDepth 100000 in
set_option maxHeartbeats 4000000 in
theorem b_X11_digest_45 {o : Om} {Q : Int64 → AH → Prop} {K45 : Int64 → Int32 → AH → Prop} {v0 : Nat} {v1 : Int64} {v3 : Int32} {h : AH} (hK45 : ∀ w1 w3 h, K45 w1 w3 h → AQ o kX11_digest h 45 [(0, .ref v0), (1, .long w1), (3, .int w3)] [] (qL Q)) (H : B_X11_digest_45 Q K45 v0 v1 v3 h) : AQ o kX11_digest h 45 [(0, .ref v0), (1, .long v1), (3, .int v3)] [] (qL Q) := by
  refine a_iload_n 2 rfl rfl dX11_digest_45 ?_
  refine a_aload_n 0 rfl rfl dX11_digest_46 ?_
  refine r_gR fo_RX11_60_11 dX11_digest_47 H (fun a1 H => ?_)
  refine r_gI fo_RX11_146_5 dX11_digest_50 H (fun x2 H => ?_)
  refine a_icmp_ge (tgt := 92) dX11_digest_53 (by decide) (fun c => ?_) (fun c => ?_)
  · have H := H.1 (c)
    refine a_iconst (v := (0 : Int32)) (by decide) dX11_digest_92 ?_
    refine a_istore_n (lv1 := [(0, .ref v0), (1, .long v1), (3, .int (0 : Int32))]) rfl [1, 2, 0] (by decide) rfl dX11_digest_93 ?_
    obtain ⟨n, H⟩ := H
    exact l_X11_digest_94  n _ _ _ H
  · have H := H.2 (c)
    refine a_iconst (v := (0 : Int32)) (by decide) dX11_digest_56 ?_
    refine a_istore (lv1 := [(0, .ref v0), (1, .long v1), (3, .int v3), (4, .int (0 : Int32))]) [1, 2, 3, 0] (by decide) rfl dX11_digest_57 ?_
    obtain ⟨n, H⟩ := H
    exact l_X11_digest_59 hK45 n _ _ _ H
def L_X11_digest_45 (Q : Int64 → AH → Prop)  (v0 : Nat) : Nat → Int64 → Int32 → AH → Prop
  | 0, _, _, _ => False
  | n + 1, v1, v3, h => B_X11_digest_45 Q (L_X11_digest_45 Q  v0 n) v0 v1 v3 h
theorem l_X11_digest_45 {o : Om} {Q : Int64 → AH → Prop}  {v0 : Nat}  : ∀ (n : Nat) (v1 : Int64) (v3 : Int32) (h : AH), L_X11_digest_45 Q  v0 n v1 v3 h → AQ o kX11_digest h 45 [(0, .ref v0), (1, .long v1), (3, .int v3)] [] (qL Q) := by
  intro n
  induction n with
  | zero => intro v1 v3 h H; exact H.elim
  | succ n ih => intro v1 v3 h H; exact b_X11_digest_45 ih H
def B_X11_digest_6 (Q : Int64 → AH → Prop) (K6 : Int64 → Int32 → AH → Prop) (v0 : Nat) (v1 : Int64) (v3 : Int32) (h : AH) : Prop :=
  (((8 : Int32) < v3 → gI h v0 11 10 (fun x1 => ∃ n, L_X11_digest_45 Q  v0 n (((31 : Int64) * v1) + x1.toInt64) (0 : Int32) h)) ∧ (¬ ((8 : Int32) < v3) → isO h v0 11 ∧ f_X11_count v0 v3 h (fun x2 h3 => K6 (((31 : Int64) * v1) + x2.toInt64) (v3 + 1) h3)))
set_option maxRecDepth 100000 in
set_option maxHeartbeats 4000000 in
theorem b_X11_digest_6 {o : Om} {Q : Int64 → AH → Prop} {K6 : Int64 → Int32 → AH → Prop} {v0 : Nat} {v1 : Int64} {v3 : Int32} {h : AH} (hK6 : ∀ w1 w3 h, K6 w1 w3 h → AQ o kX11_digest h 6 [(0, .ref v0), (1, .long w1), (3, .int w3)] [] (qL Q)) (H : B_X11_digest_6 Q K6 v0 v1 v3 h) : AQ o kX11_digest h 6 [(0, .ref v0), (1, .long v1), (3, .int v3)] [] (qL Q) := by
  refine a_iload_n 2 rfl rfl dX11_digest_6 ?_
  refine a_bipush (v := (8 : Int32)) (by decide) dX11_digest_7 ?_
  refine a_icmp_gt (tgt := 31) dX11_digest_9 (by decide) (fun c => ?_) (fun c => ?_)
  · have H := H.1 (c)
    refine a_ldc2 (v := (31 : Int64)) wd1009 dX11_digest_31 ?_
    refine a_lload_n 1 rfl rfl dX11_digest_34 ?_
    refine a_lmul dX11_digest_35 ?_
    refine a_aload_n 0 rfl rfl dX11_digest_36 ?_
    refine r_gI fo_RX11_38_11 dX11_digest_37 H (fun x1 H => ?_)
    refine a_i2l dX11_digest_40 ?_
    refine a_ladd dX11_digest_41 ?_
    refine a_lstore_n (lv1 := [(0, .ref v0), (1, .long (((31 : Int64) * v1) + x1.toInt64)), (3, .int v3)]) rfl [1, 0, 2] (by decide) rfl dX11_digest_42 ?_
    refine a_iconst (v := (0 : Int32)) (by decide) dX11_digest_43 ?_
    refine a_istore_n (lv1 := [(0, .ref v0), (1, .long (((31 : Int64) * v1) + x1.toInt64)), (3, .int (0 : Int32))]) rfl [1, 2, 0] (by decide) rfl dX11_digest_44 ?_
    obtain ⟨n, H⟩ := H
    exact l_X11_digest_45  n _ _ _ H
  · have H := H.2 (c)
    refine a_ldc2 (v := (31 : Int64)) wd1009 dX11_digest_12 ?_
    refine a_lload_n 1 rfl rfl dX11_digest_15 ?_
    refine a_lmul dX11_digest_16 ?_
    refine a_aload_n 0 rfl rfl dX11_digest_17 ?_
    refine a_iload_n 2 rfl rfl dX11_digest_18 ?_
    refine r_Vi (q := (RX11, TX11, 16)) (av := [.int v3]) (rest := [.long ((31 : Int64) * v1)]) rfl rfl okX11_count H.1 rfl rfl wd1010 wd980 wd981 ⟨Nat.le_of_ble_eq_true rfl, Nat.le_of_ble_eq_true rfl⟩ (Nat.le_of_ble_eq_true rfl) dX11_digest_19 (s_X11_count H.2) (fun x2 h3 H => ?_)
    refine a_i2l dX11_digest_22 ?_
    refine a_ladd dX11_digest_23 ?_
    refine a_lstore_n (lv1 := [(0, .ref v0), (1, .long (((31 : Int64) * v1) + x2.toInt64)), (3, .int v3)]) rfl [1, 0, 2] (by decide) rfl dX11_digest_24 ?_
    refine a_iinc (v := v3 + 1) (lv1 := [(0, .ref v0), (1, .long (((31 : Int64) * v1) + x2.toInt64)), (3, .int (v3 + 1))]) [1, 2, 0] 2 rfl (by decide) rfl rfl dX11_digest_25 ?_
    refine a_goto (tgt := 6) dX11_digest_28 (by decide) ?_
    exact hK6 _ _ _ H
def L_X11_digest_6 (Q : Int64 → AH → Prop)  (v0 : Nat) : Nat → Int64 → Int32 → AH → Prop
  | 0, _, _, _ => False
  | n + 1, v1, v3, h => B_X11_digest_6 Q (L_X11_digest_6 Q  v0 n) v0 v1 v3 h
theorem l_X11_digest_6 {o : Om} {Q : Int64 → AH → Prop}  {v0 : Nat}  : ∀ (n : Nat) (v1 : Int64) (v3 : Int32) (h : AH), L_X11_digest_6 Q  v0 n v1 v3 h → AQ o kX11_digest h 6 [(0, .ref v0), (1, .long v1), (3, .int v3)] [] (qL Q) := by
  intro n
  induction n with
  | zero => intro v1 v3 h H; exact H.elim
  | succ n ih => intro v1 v3 h H; exact b_X11_digest_6 ih H
def f_X11_digest (v0 : Nat) (h : AH) (Q : Int64 → AH → Prop) : Prop :=
  ∃ n, L_X11_digest_6 Q  v0 n (17 : Int64) (0 : Int32) h
set_option maxRecDepth 100000 in
set_option maxHeartbeats 4000000 in
theorem s_X11_digest {o : Om} {v0 : Nat} {h : AH} {Q : Int64 → AH → Prop} (H : f_X11_digest v0 h Q) : MQ' o kX11_digest [.ref v0] h (qL Q) := by
  refine MQ'.of (by decide +kernel) (Nat.le_of_ble_eq_true rfl) ?_
  show AQ o kX11_digest h 0 [(0, .ref v0)] [] (qL Q)
  refine a_ldc2 (v := (17 : Int64)) wd1008 dX11_digest_0 ?_
  refine a_lstore_n (lv1 := [(0, .ref v0), (1, .long (17 : Int64))]) rfl [1, 0] (by decide) rfl dX11_digest_3 ?_
  refine a_iconst (v := (0 : Int32)) (by decide) dX11_digest_4 ?_
  refine a_istore_n (lv1 := [(0, .ref v0), (1, .long (17 : Int64)), (3, .int (0 : Int32))]) rfl [1, 2, 0] (by decide) rfl dX11_digest_5 ?_
  obtain ⟨n, H⟩ := H
  exact l_X11_digest_6  n _ _ _ H
def B_X12_digest_323 (Q : Int64 → AH → Prop) (K300 : Int64 → Int32 → AH → Prop) (K323 : Int64 → Int32 → AH → Prop) (v0 : Nat) (v3 : Int32) (v1 : Int64) (v4 : Int32) (h : AH) : Prop :=
  gR h v0 12 0 (fun a1 => lI h a1 v3 (fun x2 => ((x2 ≤ v4 → K300 v1 (v3 + 1) h) ∧ (¬ (x2 ≤ v4) → gR h v0 12 1 (fun a3 => lI h a3 (((60 : Int32) * v3) + v4) (fun x4 => K323 (((31 : Int64) * v1) + x4.toInt64) (v4 + 1) h))))))
set_option maxRecDepth 100000 in
set_option maxHeartbeats 4000000 in
theorem b_X12_digest_323 {o : Om} {Q : Int64 → AH → Prop} {K300 : Int64 → Int32 → AH → Prop} {K323 : Int64 → Int32 → AH → Prop} {v0 : Nat} {v3 : Int32} {v1 : Int64} {v4 : Int32} {h : AH} (hK300 : ∀ w1 w3 h, K300 w1 w3 h → AQ o kX12_digest h 300 [(0, .ref v0), (1, .long w1), (3, .int w3)] [] (qL Q)) (hK323 : ∀ w1 w4 h, K323 w1 w4 h → AQ o kX12_digest h 323 [(0, .ref v0), (1, .long w1), (3, .int v3), (4, .int w4)] [] (qL Q)) (H : B_X12_digest_323 Q K300 K323 v0 v3 v1 v4 h) : AQ o kX12_digest h 323 [(0, .ref v0), (1, .long v1), (3, .int v3), (4, .int v4)] [] (qL Q) := by
  refine a_iload 3 rfl dX12_digest_323 ?_
  refine a_aload_n 0 rfl rfl dX12_digest_325 ?_
  refine r_gR fo_RX12_7_12 dX12_digest_326 H (fun a1 H => ?_)
  refine a_iload_n 2 rfl rfl dX12_digest_329 ?_
  refine r_lI dX12_digest_330 H (fun x2 H => ?_)
  refine a_icmp_ge (tgt := 360) dX12_digest_331 (by decide) (fun c => ?_) (fun c => ?_)
  · have H := H.1 (c)
    refine a_iinc (v := v3 + 1) (lv1 := [(0, .ref v0), (1, .long v1), (3, .int (v3 + 1)), (4, .int v4)]) [1, 2, 0, 3] 2 rfl (by decide) rfl rfl dX12_digest_360 ?_
    refine a_goto (tgt := 300) dX12_digest_363 (by decide) ?_
    refine AQ.sub (lv1 := [(0, .ref v0), (1, .long v1), (3, .int (v3 + 1))]) [0, 1, 2] rfl ?_
    exact hK300 _ _ _ H
  · have H := H.2 (c)
    refine a_ldc2 (v := (31 : Int64)) wd1533 dX12_digest_334 ?_
    refine a_lload_n 1 rfl rfl dX12_digest_337 ?_
    refine a_lmul dX12_digest_338 ?_
    refine a_aload_n 0 rfl rfl dX12_digest_339 ?_
    refine r_gR fo_RX12_13_12 dX12_digest_340 H (fun a3 H => ?_)
    refine a_bipush (v := (60 : Int32)) (by decide) dX12_digest_343 ?_
    refine a_iload_n 2 rfl rfl dX12_digest_345 ?_
    refine a_imul dX12_digest_346 ?_
    refine a_iload 3 rfl dX12_digest_347 ?_
    refine a_iadd dX12_digest_349 ?_
    refine r_lI dX12_digest_350 H (fun x4 H => ?_)
    refine a_i2l dX12_digest_351 ?_
    refine a_ladd dX12_digest_352 ?_
    refine a_lstore_n (lv1 := [(0, .ref v0), (1, .long (((31 : Int64) * v1) + x4.toInt64)), (3, .int v3), (4, .int v4)]) rfl [1, 0, 2, 3] (by decide) rfl dX12_digest_353 ?_
    refine a_iinc (v := v4 + 1) (lv1 := [(0, .ref v0), (1, .long (((31 : Int64) * v1) + x4.toInt64)), (3, .int v3), (4, .int (v4 + 1))]) [1, 2, 3, 0] 3 rfl (by decide) rfl rfl dX12_digest_354 ?_
    refine a_goto (tgt := 323) dX12_digest_357 (by decide) ?_
    exact hK323 _ _ _ H
def L_X12_digest_323 (Q : Int64 → AH → Prop) (K300 : Int64 → Int32 → AH → Prop) (v0 : Nat) (v3 : Int32) : Nat → Int64 → Int32 → AH → Prop
  | 0, _, _, _ => False
  | n + 1, v1, v4, h => B_X12_digest_323 Q K300 (L_X12_digest_323 Q K300 v0 v3 n) v0 v3 v1 v4 h
theorem l_X12_digest_323 {o : Om} {Q : Int64 → AH → Prop} {K300 : Int64 → Int32 → AH → Prop} {v0 : Nat} {v3 : Int32} (hK300 : ∀ w1 w3 h, K300 w1 w3 h → AQ o kX12_digest h 300 [(0, .ref v0), (1, .long w1), (3, .int w3)] [] (qL Q)) : ∀ (n : Nat) (v1 : Int64) (v4 : Int32) (h : AH), L_X12_digest_323 Q K300 v0 v3 n v1 v4 h → AQ o kX12_digest h 323 [(0, .ref v0), (1, .long v1), (3, .int v3), (4, .int v4)] [] (qL Q) := by
  intro n
  induction n with
  | zero => intro v1 v4 h H; exact H.elim
  | succ n ih => intro v1 v4 h H; exact b_X12_digest_323 hK300 ih H
def B_X12_digest_265 (Q : Int64 → AH → Prop) (K211 : Int64 → Int32 → AH → Prop) (v0 : Nat) (v1 : Int64) (v3 : Int32) (h : AH) : Prop :=
  gR h v0 12 25 (fun a1 => lI h a1 v3 (fun x2 => ((0 ≤ x2 → gR h v0 12 26 (fun a3 => lI h a3 v3 (fun x4 => K211 (((31 : Int64) * v1) + x4.toInt64) (v3 + 1) h))) ∧ (¬ (0 ≤ x2) → K211 (((31 : Int64) * v1) + ((-1 : Int32).toInt64)) (v3 + 1) h))))
set_option maxRecDepth 100000 in
set_option maxHeartbeats 4000000 in
theorem b_X12_digest_265 {o : Om} {Q : Int64 → AH → Prop} {K211 : Int64 → Int32 → AH → Prop} {v0 : Nat} {v1 : Int64} {v3 : Int32} {h : AH} (hK211 : ∀ w1 w3 h, K211 w1 w3 h → AQ o kX12_digest h 211 [(0, .ref v0), (1, .long w1), (3, .int w3)] [] (qL Q)) (H : B_X12_digest_265 Q K211 v0 v1 v3 h) : AQ o kX12_digest h 265 [(0, .ref v0), (1, .long v1), (3, .int v3)] [] (qL Q) := by
  refine a_ldc2 (v := (31 : Int64)) wd1533 dX12_digest_265 ?_
  refine a_lload_n 1 rfl rfl dX12_digest_268 ?_
  refine a_lmul dX12_digest_269 ?_
  refine a_aload_n 0 rfl rfl dX12_digest_270 ?_
  refine r_gR fo_RX12_59_12 dX12_digest_271 H (fun a1 H => ?_)
  refine a_iload_n 2 rfl rfl dX12_digest_274 ?_
  refine r_lI dX12_digest_275 H (fun x2 H => ?_)
  refine a_if_ge (tgt := 283) dX12_digest_276 (by decide) (fun c => ?_) (fun c => ?_)
  · have H := H.1 (c)
    refine a_aload_n 0 rfl rfl dX12_digest_283 ?_
    refine r_gR fo_RX12_62_12 dX12_digest_284 H (fun a3 H => ?_)
    refine a_iload_n 2 rfl rfl dX12_digest_287 ?_
    refine r_lI dX12_digest_288 H (fun x4 H => ?_)
    refine a_i2l dX12_digest_289 ?_
    refine a_ladd dX12_digest_290 ?_
    refine a_lstore_n (lv1 := [(0, .ref v0), (1, .long (((31 : Int64) * v1) + x4.toInt64)), (3, .int v3)]) rfl [1, 0, 2] (by decide) rfl dX12_digest_291 ?_
    refine a_iinc (v := v3 + 1) (lv1 := [(0, .ref v0), (1, .long (((31 : Int64) * v1) + x4.toInt64)), (3, .int (v3 + 1))]) [1, 2, 0] 2 rfl (by decide) rfl rfl dX12_digest_292 ?_
    refine a_goto (tgt := 211) dX12_digest_295 (by decide) ?_
    exact hK211 _ _ _ H
  · have H := H.2 (c)
    refine a_iconst (v := (-1 : Int32)) (by decide) dX12_digest_279 ?_
    refine a_goto (tgt := 289) dX12_digest_280 (by decide) ?_
    refine a_i2l dX12_digest_289 ?_
    refine a_ladd dX12_digest_290 ?_
    refine a_lstore_n (lv1 := [(0, .ref v0), (1, .long (((31 : Int64) * v1) + ((-1 : Int32).toInt64))), (3, .int v3)]) rfl [1, 0, 2] (by decide) rfl dX12_digest_291 ?_
    refine a_iinc (v := v3 + 1) (lv1 := [(0, .ref v0), (1, .long (((31 : Int64) * v1) + ((-1 : Int32).toInt64))), (3, .int (v3 + 1))]) [1, 2, 0] 2 rfl (by decide) rfl rfl dX12_digest_292 ?_
    refine a_goto (tgt := 211) dX12_digest_295 (by decide) ?_
    exact hK211 _ _ _ H
def B_X12_digest_219 (Q : Int64 → AH → Prop) (K211 : Int64 → Int32 → AH → Prop) (K219 : Int64 → Int32 → AH → Prop) (v0 : Nat) (v3 : Int32) (v1 : Int64) (v4 : Int32) (h : AH) : Prop :=
  gI h v0 12 10 (fun x1 => ((x1 ≤ v4 → B_X12_digest_265 Q K211 v0 v1 v3 h) ∧ (¬ (x1 ≤ v4) → gR h v0 12 25 (fun a2 => lI h a2 v3 (fun x3 => ((x3 < 0 → B_X12_digest_265 Q K211 v0 v1 v3 h) ∧ (¬ (x3 < 0) → gR h v0 12 25 (fun a4 => lI h a4 v3 (fun x5 => f_X12_spotOf x5 v4 h (fun x6 h7 => f_X12_told x6 h7 (fun x8 h9 => K219 (((31 : Int64) * v1) + x8.toInt64) (v4 + 1) h9)))))))))))
set_option maxRecDepth 100000 in
set_option maxHeartbeats 4000000 in
theorem b_X12_digest_219 {o : Om} {Q : Int64 → AH → Prop} {K211 : Int64 → Int32 → AH → Prop} {K219 : Int64 → Int32 → AH → Prop} {v0 : Nat} {v3 : Int32} {v1 : Int64} {v4 : Int32} {h : AH} (hK211 : ∀ w1 w3 h, K211 w1 w3 h → AQ o kX12_digest h 211 [(0, .ref v0), (1, .long w1), (3, .int w3)] [] (qL Q)) (hK219 : ∀ w1 w4 h, K219 w1 w4 h → AQ o kX12_digest h 219 [(0, .ref v0), (1, .long w1), (3, .int v3), (4, .int w4)] [] (qL Q)) (H : B_X12_digest_219 Q K211 K219 v0 v3 v1 v4 h) : AQ o kX12_digest h 219 [(0, .ref v0), (1, .long v1), (3, .int v3), (4, .int v4)] [] (qL Q) := by
  refine a_iload 3 rfl dX12_digest_219 ?_
  refine a_aload_n 0 rfl rfl dX12_digest_221 ?_
  refine r_gI fo_RX12_178_12 dX12_digest_222 H (fun x1 H => ?_)
  refine a_icmp_ge (tgt := 265) dX12_digest_225 (by decide) (fun c => ?_) (fun c => ?_)
  · have H := H.1 (c)
    refine AQ.sub (lv1 := [(0, .ref v0), (1, .long v1), (3, .int v3)]) [0, 1, 2] rfl ?_
    exact b_X12_digest_265 hK211 H
  · have H := H.2 (c)
    refine a_aload_n 0 rfl rfl dX12_digest_228 ?_
    refine r_gR fo_RX12_59_12 dX12_digest_229 H (fun a2 H => ?_)
    refine a_iload_n 2 rfl rfl dX12_digest_232 ?_
    refine r_lI dX12_digest_233 H (fun x3 H => ?_)
    refine a_if_lt (tgt := 265) dX12_digest_234 (by decide) (fun c => ?_) (fun c => ?_)
    · have H := H.1 (c)
      refine AQ.sub (lv1 := [(0, .ref v0), (1, .long v1), (3, .int v3)]) [0, 1, 2] rfl ?_
      exact b_X12_digest_265 hK211 H
    · have H := H.2 (c)
      refine a_ldc2 (v := (31 : Int64)) wd1533 dX12_digest_237 ?_
      refine a_lload_n 1 rfl rfl dX12_digest_240 ?_
      refine a_lmul dX12_digest_241 ?_
      refine a_aload_n 0 rfl rfl dX12_digest_242 ?_
      refine r_gR fo_RX12_59_12 dX12_digest_243 H (fun a4 H => ?_)
      refine a_iload_n 2 rfl rfl dX12_digest_246 ?_
      refine r_lI dX12_digest_247 H (fun x5 H => ?_)
      refine a_iload 3 rfl dX12_digest_248 ?_
      refine r_Si (av := [.int x5, .int v4]) (rest := [.long ((31 : Int64) * v1)]) rfl rfl okX12_spotOf wd1286 wd1287 ⟨Nat.le_of_ble_eq_true rfl, Nat.le_of_ble_eq_true rfl⟩ (Nat.le_of_ble_eq_true rfl) dX12_digest_250 (s_X12_spotOf H) (fun x6 h7 H => ?_)
      refine r_Si (av := [.int x6]) (rest := [.long ((31 : Int64) * v1)]) rfl rfl okX12_told wd1289 wd1290 ⟨Nat.le_of_ble_eq_true rfl, Nat.le_of_ble_eq_true rfl⟩ (Nat.le_of_ble_eq_true rfl) dX12_digest_253 (s_X12_told H) (fun x8 h9 H => ?_)
      refine a_i2l dX12_digest_256 ?_
      refine a_ladd dX12_digest_257 ?_
      refine a_lstore_n (lv1 := [(0, .ref v0), (1, .long (((31 : Int64) * v1) + x8.toInt64)), (3, .int v3), (4, .int v4)]) rfl [1, 0, 2, 3] (by decide) rfl dX12_digest_258 ?_
      refine a_iinc (v := v4 + 1) (lv1 := [(0, .ref v0), (1, .long (((31 : Int64) * v1) + x8.toInt64)), (3, .int v3), (4, .int (v4 + 1))]) [1, 2, 3, 0] 3 rfl (by decide) rfl rfl dX12_digest_259 ?_
      refine a_goto (tgt := 219) dX12_digest_262 (by decide) ?_
      exact hK219 _ _ _ H
def L_X12_digest_219 (Q : Int64 → AH → Prop) (K211 : Int64 → Int32 → AH → Prop) (v0 : Nat) (v3 : Int32) : Nat → Int64 → Int32 → AH → Prop
  | 0, _, _, _ => False
  | n + 1, v1, v4, h => B_X12_digest_219 Q K211 (L_X12_digest_219 Q K211 v0 v3 n) v0 v3 v1 v4 h
theorem l_X12_digest_219 {o : Om} {Q : Int64 → AH → Prop} {K211 : Int64 → Int32 → AH → Prop} {v0 : Nat} {v3 : Int32} (hK211 : ∀ w1 w3 h, K211 w1 w3 h → AQ o kX12_digest h 211 [(0, .ref v0), (1, .long w1), (3, .int w3)] [] (qL Q)) : ∀ (n : Nat) (v1 : Int64) (v4 : Int32) (h : AH), L_X12_digest_219 Q K211 v0 v3 n v1 v4 h → AQ o kX12_digest h 219 [(0, .ref v0), (1, .long v1), (3, .int v3), (4, .int v4)] [] (qL Q) := by
  intro n
  induction n with
  | zero => intro v1 v4 h H; exact H.elim
  | succ n ih => intro v1 v4 h H; exact b_X12_digest_219 hK211 ih H
def B_X12_digest_390 (Q : Int64 → AH → Prop) (K368 : Int64 → Int32 → AH → Prop) (K390 : Int64 → Int32 → AH → Prop) (v0 : Nat) (v3 : Int32) (v1 : Int64) (v4 : Int32) (h : AH) : Prop :=
  gR h v0 12 2 (fun a1 => lI h a1 v3 (fun x2 => ((x2 ≤ v4 → K368 v1 (v3 + 1) h) ∧ (¬ (x2 ≤ v4) → gR h v0 12 3 (fun a3 => lI h a3 (((60 : Int32) * v3) + v4) (fun x4 => K390 (((31 : Int64) * v1) + x4.toInt64) (v4 + 1) h))))))
set_option maxRecDepth 100000 in
set_option maxHeartbeats 4000000 in
theorem b_X12_digest_390 {o : Om} {Q : Int64 → AH → Prop} {K368 : Int64 → Int32 → AH → Prop} {K390 : Int64 → Int32 → AH → Prop} {v0 : Nat} {v3 : Int32} {v1 : Int64} {v4 : Int32} {h : AH} (hK368 : ∀ w1 w3 h, K368 w1 w3 h → AQ o kX12_digest h 368 [(0, .ref v0), (1, .long w1), (3, .int w3)] [] (qL Q)) (hK390 : ∀ w1 w4 h, K390 w1 w4 h → AQ o kX12_digest h 390 [(0, .ref v0), (1, .long w1), (3, .int v3), (4, .int w4)] [] (qL Q)) (H : B_X12_digest_390 Q K368 K390 v0 v3 v1 v4 h) : AQ o kX12_digest h 390 [(0, .ref v0), (1, .long v1), (3, .int v3), (4, .int v4)] [] (qL Q) := by
  refine a_iload 3 rfl dX12_digest_390 ?_
  refine a_aload_n 0 rfl rfl dX12_digest_392 ?_
  refine r_gR fo_RX12_16_12 dX12_digest_393 H (fun a1 H => ?_)
  refine a_iload_n 2 rfl rfl dX12_digest_396 ?_
  refine r_lI dX12_digest_397 H (fun x2 H => ?_)
  refine a_icmp_ge (tgt := 427) dX12_digest_398 (by decide) (fun c => ?_) (fun c => ?_)
  · have H := H.1 (c)
    refine a_iinc (v := v3 + 1) (lv1 := [(0, .ref v0), (1, .long v1), (3, .int (v3 + 1)), (4, .int v4)]) [1, 2, 0, 3] 2 rfl (by decide) rfl rfl dX12_digest_427 ?_
    refine a_goto (tgt := 368) dX12_digest_430 (by decide) ?_
    refine AQ.sub (lv1 := [(0, .ref v0), (1, .long v1), (3, .int (v3 + 1))]) [0, 1, 2] rfl ?_
    exact hK368 _ _ _ H
  · have H := H.2 (c)
    refine a_ldc2 (v := (31 : Int64)) wd1533 dX12_digest_401 ?_
    refine a_lload_n 1 rfl rfl dX12_digest_404 ?_
    refine a_lmul dX12_digest_405 ?_
    refine a_aload_n 0 rfl rfl dX12_digest_406 ?_
    refine r_gR fo_RX12_19_12 dX12_digest_407 H (fun a3 H => ?_)
    refine a_bipush (v := (60 : Int32)) (by decide) dX12_digest_410 ?_
    refine a_iload_n 2 rfl rfl dX12_digest_412 ?_
    refine a_imul dX12_digest_413 ?_
    refine a_iload 3 rfl dX12_digest_414 ?_
    refine a_iadd dX12_digest_416 ?_
    refine r_lI dX12_digest_417 H (fun x4 H => ?_)
    refine a_i2l dX12_digest_418 ?_
    refine a_ladd dX12_digest_419 ?_
    refine a_lstore_n (lv1 := [(0, .ref v0), (1, .long (((31 : Int64) * v1) + x4.toInt64)), (3, .int v3), (4, .int v4)]) rfl [1, 0, 2, 3] (by decide) rfl dX12_digest_420 ?_
    refine a_iinc (v := v4 + 1) (lv1 := [(0, .ref v0), (1, .long (((31 : Int64) * v1) + x4.toInt64)), (3, .int v3), (4, .int (v4 + 1))]) [1, 2, 3, 0] 3 rfl (by decide) rfl rfl dX12_digest_421 ?_
    refine a_goto (tgt := 390) dX12_digest_424 (by decide) ?_
    exact hK390 _ _ _ H
def L_X12_digest_390 (Q : Int64 → AH → Prop) (K368 : Int64 → Int32 → AH → Prop) (v0 : Nat) (v3 : Int32) : Nat → Int64 → Int32 → AH → Prop
  | 0, _, _, _ => False
  | n + 1, v1, v4, h => B_X12_digest_390 Q K368 (L_X12_digest_390 Q K368 v0 v3 n) v0 v3 v1 v4 h
theorem l_X12_digest_390 {o : Om} {Q : Int64 → AH → Prop} {K368 : Int64 → Int32 → AH → Prop} {v0 : Nat} {v3 : Int32} (hK368 : ∀ w1 w3 h, K368 w1 w3 h → AQ o kX12_digest h 368 [(0, .ref v0), (1, .long w1), (3, .int w3)] [] (qL Q)) : ∀ (n : Nat) (v1 : Int64) (v4 : Int32) (h : AH), L_X12_digest_390 Q K368 v0 v3 n v1 v4 h → AQ o kX12_digest h 390 [(0, .ref v0), (1, .long v1), (3, .int v3), (4, .int v4)] [] (qL Q) := by
  intro n
  induction n with
  | zero => intro v1 v4 h H; exact H.elim
  | succ n ih => intro v1 v4 h H; exact b_X12_digest_390 hK368 ih H
def B_X12_digest_368 (Q : Int64 → AH → Prop) (K368 : Int64 → Int32 → AH → Prop) (v0 : Nat) (v1 : Int64) (v3 : Int32) (h : AH) : Prop :=
  (((4 : Int32) ≤ v3 → Q v1 h) ∧ (¬ ((4 : Int32) ≤ v3) → gR h v0 12 2 (fun a1 => lI h a1 v3 (fun x2 => ∃ n, L_X12_digest_390 Q K368 v0 v3 n (((31 : Int64) * v1) + x2.toInt64) (0 : Int32) h))))
set_option maxRecDepth 100000 in
set_option maxHeartbeats 4000000 in
theorem b_X12_digest_368 {o : Om} {Q : Int64 → AH → Prop} {K368 : Int64 → Int32 → AH → Prop} {v0 : Nat} {v1 : Int64} {v3 : Int32} {h : AH} (hK368 : ∀ w1 w3 h, K368 w1 w3 h → AQ o kX12_digest h 368 [(0, .ref v0), (1, .long w1), (3, .int w3)] [] (qL Q)) (H : B_X12_digest_368 Q K368 v0 v1 v3 h) : AQ o kX12_digest h 368 [(0, .ref v0), (1, .long v1), (3, .int v3)] [] (qL Q) := by
  refine a_iload_n 2 rfl rfl dX12_digest_368 ?_
  refine a_iconst (v := (4 : Int32)) (by decide) dX12_digest_369 ?_
  refine a_icmp_ge (tgt := 433) dX12_digest_370 (by decide) (fun c => ?_) (fun c => ?_)
  · have H := H.1 (c)
    refine a_lload_n 1 rfl rfl dX12_digest_433 ?_
    exact r_retl rfl dX12_digest_434 H
  · have H := H.2 (c)
    refine a_ldc2 (v := (31 : Int64)) wd1533 dX12_digest_373 ?_
    refine a_lload_n 1 rfl rfl dX12_digest_376 ?_
    refine a_lmul dX12_digest_377 ?_
    refine a_aload_n 0 rfl rfl dX12_digest_378 ?_
    refine r_gR fo_RX12_16_12 dX12_digest_379 H (fun a1 H => ?_)
    refine a_iload_n 2 rfl rfl dX12_digest_382 ?_
    refine r_lI dX12_digest_383 H (fun x2 H => ?_)
    refine a_i2l dX12_digest_384 ?_
    refine a_ladd dX12_digest_385 ?_
    refine a_lstore_n (lv1 := [(0, .ref v0), (1, .long (((31 : Int64) * v1) + x2.toInt64)), (3, .int v3)]) rfl [1, 0, 2] (by decide) rfl dX12_digest_386 ?_
    refine a_iconst (v := (0 : Int32)) (by decide) dX12_digest_387 ?_
    refine a_istore (lv1 := [(0, .ref v0), (1, .long (((31 : Int64) * v1) + x2.toInt64)), (3, .int v3), (4, .int (0 : Int32))]) [1, 2, 3, 0] (by decide) rfl dX12_digest_388 ?_
    obtain ⟨n, H⟩ := H
    exact l_X12_digest_390 hK368 n _ _ _ H
def L_X12_digest_368 (Q : Int64 → AH → Prop)  (v0 : Nat) : Nat → Int64 → Int32 → AH → Prop
  | 0, _, _, _ => False
  | n + 1, v1, v3, h => B_X12_digest_368 Q (L_X12_digest_368 Q  v0 n) v0 v1 v3 h
theorem l_X12_digest_368 {o : Om} {Q : Int64 → AH → Prop}  {v0 : Nat}  : ∀ (n : Nat) (v1 : Int64) (v3 : Int32) (h : AH), L_X12_digest_368 Q  v0 n v1 v3 h → AQ o kX12_digest h 368 [(0, .ref v0), (1, .long v1), (3, .int v3)] [] (qL Q) := by
  intro n
  induction n with
  | zero => intro v1 v3 h H; exact H.elim
  | succ n ih => intro v1 v3 h H; exact b_X12_digest_368 ih H
def B_X12_digest_300 (Q : Int64 → AH → Prop) (K300 : Int64 → Int32 → AH → Prop) (v0 : Nat) (v1 : Int64) (v3 : Int32) (h : AH) : Prop :=
  (((6 : Int32) ≤ v3 → ∃ n, L_X12_digest_368 Q  v0 n v1 (0 : Int32) h) ∧ (¬ ((6 : Int32) ≤ v3) → gR h v0 12 0 (fun a1 => lI h a1 v3 (fun x2 => ∃ n, L_X12_digest_323 Q K300 v0 v3 n (((31 : Int64) * v1) + x2.toInt64) (0 : Int32) h))))
set_option maxRecDepth 100000 in
set_option maxHeartbeats 4000000 in
theorem b_X12_digest_300 {o : Om} {Q : Int64 → AH → Prop} {K300 : Int64 → Int32 → AH → Prop} {v0 : Nat} {v1 : Int64} {v3 : Int32} {h : AH} (hK300 : ∀ w1 w3 h, K300 w1 w3 h → AQ o kX12_digest h 300 [(0, .ref v0), (1, .long w1), (3, .int w3)] [] (qL Q)) (H : B_X12_digest_300 Q K300 v0 v1 v3 h) : AQ o kX12_digest h 300 [(0, .ref v0), (1, .long v1), (3, .int v3)] [] (qL Q) := by
  refine a_iload_n 2 rfl rfl dX12_digest_300 ?_
  refine a_bipush (v := (6 : Int32)) (by decide) dX12_digest_301 ?_
  refine a_icmp_ge (tgt := 366) dX12_digest_303 (by decide) (fun c => ?_) (fun c => ?_)
  · have H := H.1 (c)
    refine a_iconst (v := (0 : Int32)) (by decide) dX12_digest_366 ?_
    refine a_istore_n (lv1 := [(0, .ref v0), (1, .long v1), (3, .int (0 : Int32))]) rfl [1, 2, 0] (by decide) rfl dX12_digest_367 ?_
    obtain ⟨n, H⟩ := H
    exact l_X12_digest_368  n _ _ _ H
  · have H := H.2 (c)
    refine a_ldc2 (v := (31 : Int64)) wd1533 dX12_digest_306 ?_
    refine a_lload_n 1 rfl rfl dX12_digest_309 ?_
    refine a_lmul dX12_digest_310 ?_
    refine a_aload_n 0 rfl rfl dX12_digest_311 ?_
    refine r_gR fo_RX12_7_12 dX12_digest_312 H (fun a1 H => ?_)
    refine a_iload_n 2 rfl rfl dX12_digest_315 ?_
    refine r_lI dX12_digest_316 H (fun x2 H => ?_)
    refine a_i2l dX12_digest_317 ?_
    refine a_ladd dX12_digest_318 ?_
    refine a_lstore_n (lv1 := [(0, .ref v0), (1, .long (((31 : Int64) * v1) + x2.toInt64)), (3, .int v3)]) rfl [1, 0, 2] (by decide) rfl dX12_digest_319 ?_
    refine a_iconst (v := (0 : Int32)) (by decide) dX12_digest_320 ?_
    refine a_istore (lv1 := [(0, .ref v0), (1, .long (((31 : Int64) * v1) + x2.toInt64)), (3, .int v3), (4, .int (0 : Int32))]) [1, 2, 3, 0] (by decide) rfl dX12_digest_321 ?_
    obtain ⟨n, H⟩ := H
    exact l_X12_digest_323 hK300 n _ _ _ H
def L_X12_digest_300 (Q : Int64 → AH → Prop)  (v0 : Nat) : Nat → Int64 → Int32 → AH → Prop
  | 0, _, _, _ => False
  | n + 1, v1, v3, h => B_X12_digest_300 Q (L_X12_digest_300 Q  v0 n) v0 v1 v3 h
theorem l_X12_digest_300 {o : Om} {Q : Int64 → AH → Prop}  {v0 : Nat}  : ∀ (n : Nat) (v1 : Int64) (v3 : Int32) (h : AH), L_X12_digest_300 Q  v0 n v1 v3 h → AQ o kX12_digest h 300 [(0, .ref v0), (1, .long v1), (3, .int v3)] [] (qL Q) := by
  intro n
  induction n with
  | zero => intro v1 v3 h H; exact H.elim
  | succ n ih => intro v1 v3 h H; exact b_X12_digest_300 ih H
def B_X12_digest_211 (Q : Int64 → AH → Prop) (K211 : Int64 → Int32 → AH → Prop) (v0 : Nat) (v1 : Int64) (v3 : Int32) (h : AH) : Prop :=
  (((3 : Int32) ≤ v3 → ∃ n, L_X12_digest_300 Q  v0 n v1 (0 : Int32) h) ∧ (¬ ((3 : Int32) ≤ v3) → ∃ n, L_X12_digest_219 Q K211 v0 v3 n v1 (0 : Int32) h))
set_option maxRecDepth 100000 in
set_option maxHeartbeats 4000000 in
theorem b_X12_digest_211 {o : Om} {Q : Int64 → AH → Prop} {K211 : Int64 → Int32 → AH → Prop} {v0 : Nat} {v1 : Int64} {v3 : Int32} {h : AH} (hK211 : ∀ w1 w3 h, K211 w1 w3 h → AQ o kX12_digest h 211 [(0, .ref v0), (1, .long w1), (3, .int w3)] [] (qL Q)) (H : B_X12_digest_211 Q K211 v0 v1 v3 h) : AQ o kX12_digest h 211 [(0, .ref v0), (1, .long v1), (3, .int v3)] [] (qL Q) := by
  refine a_iload_n 2 rfl rfl dX12_digest_211 ?_
  refine a_iconst (v := (3 : Int32)) (by decide) dX12_digest_212 ?_
  refine a_icmp_ge (tgt := 298) dX12_digest_213 (by decide) (fun c => ?_) (fun c => ?_)
  · have H := H.1 (c)
    refine a_iconst (v := (0 : Int32)) (by decide) dX12_digest_298 ?_
    refine a_istore_n (lv1 := [(0, .ref v0), (1, .long v1), (3, .int (0 : Int32))]) rfl [1, 2, 0] (by decide) rfl dX12_digest_299 ?_
    obtain ⟨n, H⟩ := H
    exact l_X12_digest_300  n _ _ _ H
  · have H := H.2 (c)
    refine a_iconst (v := (0 : Int32)) (by decide) dX12_digest_216 ?_
    refine a_istore (lv1 := [(0, .ref v0), (1, .long v1), (3, .int v3), (4, .int (0 : Int32))]) [1, 2, 3, 0] (by decide) rfl dX12_digest_217 ?_
    obtain ⟨n, H⟩ := H
    exact l_X12_digest_219 hK211 n _ _ _ H
def L_X12_digest_211 (Q : Int64 → AH → Prop)  (v0 : Nat) : Nat → Int64 → Int32 → AH → Prop
  | 0, _, _, _ => False
  | n + 1, v1, v3, h => B_X12_digest_211 Q (L_X12_digest_211 Q  v0 n) v0 v1 v3 h
theorem l_X12_digest_211 {o : Om} {Q : Int64 → AH → Prop}  {v0 : Nat}  : ∀ (n : Nat) (v1 : Int64) (v3 : Int32) (h : AH), L_X12_digest_211 Q  v0 n v1 v3 h → AQ o kX12_digest h 211 [(0, .ref v0), (1, .long v1), (3, .int v3)] [] (qL Q) := by
  intro n
  induction n with
  | zero => intro v1 v3 h H; exact H.elim
  | succ n ih => intro v1 v3 h H; exact b_X12_digest_211 ih H
def B_X12_digest_181 (Q : Int64 → AH → Prop) (K181 : Int64 → Int32 → AH → Prop) (v0 : Nat) (v1 : Int64) (v3 : Int32) (h : AH) : Prop :=
  gI h v0 12 20 (fun x1 => ((x1 ≤ v3 → ∃ n, L_X12_digest_211 Q  v0 n v1 (0 : Int32) h) ∧ (¬ (x1 ≤ v3) → gR h v0 12 21 (fun a2 => lI h a2 v3 (fun x3 => K181 (((31 : Int64) * v1) + x3.toInt64) (v3 + 1) h)))))
set_option maxRecDepth 100000 in
set_option maxHeartbeats 4000000 in
theorem b_X12_digest_181 {o : Om} {Q : Int64 → AH → Prop} {K181 : Int64 → Int32 → AH → Prop} {v0 : Nat} {v1 : Int64} {v3 : Int32} {h : AH} (hK181 : ∀ w1 w3 h, K181 w1 w3 h → AQ o kX12_digest h 181 [(0, .ref v0), (1, .long w1), (3, .int w3)] [] (qL Q)) (H : B_X12_digest_181 Q K181 v0 v1 v3 h) : AQ o kX12_digest h 181 [(0, .ref v0), (1, .long v1), (3, .int v3)] [] (qL Q) := by
  refine a_iload_n 2 rfl rfl dX12_digest_181 ?_
  refine a_aload_n 0 rfl rfl dX12_digest_182 ?_
  refine r_gI fo_RX12_172_12 dX12_digest_183 H (fun x1 H => ?_)
  refine a_icmp_ge (tgt := 209) dX12_digest_186 (by decide) (fun c => ?_) (fun c => ?_)
  · have H := H.1 (c)
    refine a_iconst (v := (0 : Int32)) (by decide) dX12_digest_209 ?_
    refine a_istore_n (lv1 := [(0, .ref v0), (1, .long v1), (3, .int (0 : Int32))]) rfl [1, 2, 0] (by decide) rfl dX12_digest_210 ?_
    obtain ⟨n, H⟩ := H
    exact l_X12_digest_211  n _ _ _ H
  · have H := H.2 (c)
    refine a_ldc2 (v := (31 : Int64)) wd1533 dX12_digest_189 ?_
    refine a_lload_n 1 rfl rfl dX12_digest_192 ?_
    refine a_lmul dX12_digest_193 ?_
    refine a_aload_n 0 rfl rfl dX12_digest_194 ?_
    refine r_gR fo_RX12_47_12 dX12_digest_195 H (fun a2 H => ?_)
    refine a_iload_n 2 rfl rfl dX12_digest_198 ?_
    refine r_lI dX12_digest_199 H (fun x3 H => ?_)
    refine a_i2l dX12_digest_200 ?_
    refine a_ladd dX12_digest_201 ?_
    refine a_lstore_n (lv1 := [(0, .ref v0), (1, .long (((31 : Int64) * v1) + x3.toInt64)), (3, .int v3)]) rfl [1, 0, 2] (by decide) rfl dX12_digest_202 ?_
    refine a_iinc (v := v3 + 1) (lv1 := [(0, .ref v0), (1, .long (((31 : Int64) * v1) + x3.toInt64)), (3, .int (v3 + 1))]) [1, 2, 0] 2 rfl (by decide) rfl rfl dX12_digest_203 ?_
    refine a_goto (tgt := 181) dX12_digest_206 (by decide) ?_
    exact hK181 _ _ _ H
def L_X12_digest_181 (Q : Int64 → AH → Prop)  (v0 : Nat) : Nat → Int64 → Int32 → AH → Prop
  | 0, _, _, _ => False
  | n + 1, v1, v3, h => B_X12_digest_181 Q (L_X12_digest_181 Q  v0 n) v0 v1 v3 h
theorem l_X12_digest_181 {o : Om} {Q : Int64 → AH → Prop}  {v0 : Nat}  : ∀ (n : Nat) (v1 : Int64) (v3 : Int32) (h : AH), L_X12_digest_181 Q  v0 n v1 v3 h → AQ o kX12_digest h 181 [(0, .ref v0), (1, .long v1), (3, .int v3)] [] (qL Q) := by
  intro n
  induction n with
  | zero => intro v1 v3 h H; exact H.elim
  | succ n ih => intro v1 v3 h H; exact b_X12_digest_181 ih H
def B_X12_digest_115 (Q : Int64 → AH → Prop) (K115 : Int64 → Int32 → AH → Prop) (v0 : Nat) (v1 : Int64) (v3 : Int32) (h : AH) : Prop :=
  gI h v0 12 12 (fun x1 => ((x1 ≤ v3 → ∃ n, L_X12_digest_181 Q  v0 n v1 (0 : Int32) h) ∧ (¬ (x1 ≤ v3) → gR h v0 12 13 (fun a2 => lI h a2 v3 (fun x3 => gR h v0 12 14 (fun a4 => lI h a4 v3 (fun x5 => gR h v0 12 15 (fun a6 => lI h a6 v3 (fun x7 => gR h v0 12 18 (fun a8 => lI h a8 v3 (fun x9 => K115 (((31 : Int64) * (((31 : Int64) * (((31 : Int64) * (((31 : Int64) * v1) + x3.toInt64)) + x5.toInt64)) + x7.toInt64)) + x9.toInt64) (v3 + 1) h)))))))))))
set_option maxRecDepth 100000 in
set_option maxHeartbeats 4000000 in
theorem b_X12_digest_115 {o : Om} {Q : Int64 → AH → Prop} {K115 : Int64 → Int32 → AH → Prop} {v0 : Nat} {v1 : Int64} {v3 : Int32} {h : AH} (hK115 : ∀ w1 w3 h, K115 w1 w3 h → AQ o kX12_digest h 115 [(0, .ref v0), (1, .long w1), (3, .int w3)] [] (qL Q)) (H : B_X12_digest_115 Q K115 v0 v1 v3 h) : AQ o kX12_digest h 115 [(0, .ref v0), (1, .long v1), (3, .int v3)] [] (qL Q) := by
  refine a_iload_n 2 rfl rfl dX12_digest_115 ?_
  refine a_aload_n 0 rfl rfl dX12_digest_116 ?_
  refine r_gI fo_RX12_181_12 dX12_digest_117 H (fun x1 H => ?_)
  refine a_icmp_ge (tgt := 179) dX12_digest_120 (by decide) (fun c => ?_) (fun c => ?_)
  · have H := H.1 (c)
    refine a_iconst (v := (0 : Int32)) (by decide) dX12_digest_179 ?_
    refine a_istore_n (lv1 := [(0, .ref v0), (1, .long v1), (3, .int (0 : Int32))]) rfl [1, 2, 0] (by decide) rfl dX12_digest_180 ?_
    obtain ⟨n, H⟩ := H
    exact l_X12_digest_181  n _ _ _ H
  · have H := H.2 (c)
    refine a_ldc2 (v := (31 : Int64)) wd1533 dX12_digest_123 ?_
    refine a_ldc2 (v := (31 : Int64)) wd1533 dX12_digest_126 ?_
    refine a_ldc2 (v := (31 : Int64)) wd1533 dX12_digest_129 ?_
    refine a_ldc2 (v := (31 : Int64)) wd1533 dX12_digest_132 ?_
    refine a_lload_n 1 rfl rfl dX12_digest_135 ?_
    refine a_lmul dX12_digest_136 ?_
    refine a_aload_n 0 rfl rfl dX12_digest_137 ?_
    refine r_gR fo_RX12_32_12 dX12_digest_138 H (fun a2 H => ?_)
    refine a_iload_n 2 rfl rfl dX12_digest_141 ?_
    refine r_lI dX12_digest_142 H (fun x3 H => ?_)
    refine a_i2l dX12_digest_143 ?_
    refine a_ladd dX12_digest_144 ?_
    refine a_lmul dX12_digest_145 ?_
    refine a_aload_n 0 rfl rfl dX12_digest_146 ?_
    refine r_gR fo_RX12_35_12 dX12_digest_147 H (fun a4 H => ?_)
    refine a_iload_n 2 rfl rfl dX12_digest_150 ?_
    refine r_lI dX12_digest_151 H (fun x5 H => ?_)
    refine a_i2l dX12_digest_152 ?_
    refine a_ladd dX12_digest_153 ?_
    refine a_lmul dX12_digest_154 ?_
    refine a_aload_n 0 rfl rfl dX12_digest_155 ?_
    refine r_gR fo_RX12_38_12 dX12_digest_156 H (fun a6 H => ?_)
    refine a_iload_n 2 rfl rfl dX12_digest_159 ?_
    refine r_lI dX12_digest_160 H (fun x7 H => ?_)
    refine a_i2l dX12_digest_161 ?_
    refine a_ladd dX12_digest_162 ?_
    refine a_lmul dX12_digest_163 ?_
    refine a_aload_n 0 rfl rfl dX12_digest_164 ?_
    refine r_gR fo_RX12_41_12 dX12_digest_165 H (fun a8 H => ?_)
    refine a_iload_n 2 rfl rfl dX12_digest_168 ?_
    refine r_lI dX12_digest_169 H (fun x9 H => ?_)
    refine a_i2l dX12_digest_170 ?_
    refine a_ladd dX12_digest_171 ?_
    refine a_lstore_n (lv1 := [(0, .ref v0), (1, .long (((31 : Int64) * (((31 : Int64) * (((31 : Int64) * (((31 : Int64) * v1) + x3.toInt64)) + x5.toInt64)) + x7.toInt64)) + x9.toInt64)), (3, .int v3)]) rfl [1, 0, 2] (by decide) rfl dX12_digest_172 ?_
    refine a_iinc (v := v3 + 1) (lv1 := [(0, .ref v0), (1, .long (((31 : Int64) * (((31 : Int64) * (((31 : Int64) * (((31 : Int64) * v1) + x3.toInt64)) + x5.toInt64)) + x7.toInt64)) + x9.toInt64)), (3, .int (v3 + 1))]) [1, 2, 0] 2 rfl (by decide) rfl rfl dX12_digest_173 ?_
    refine a_goto (tgt := 115) dX12_digest_176 (by decide) ?_
    exact hK115 _ _ _ H
def L_X12_digest_115 (Q : Int64 → AH → Prop)  (v0 : Nat) : Nat → Int64 → Int32 → AH → Prop
  | 0, _, _, _ => False
  | n + 1, v1, v3, h => B_X12_digest_115 Q (L_X12_digest_115 Q  v0 n) v0 v1 v3 h
theorem l_X12_digest_115 {o : Om} {Q : Int64 → AH → Prop}  {v0 : Nat}  : ∀ (n : Nat) (v1 : Int64) (v3 : Int32) (h : AH), L_X12_digest_115 Q  v0 n v1 v3 h → AQ o kX12_digest h 115 [(0, .ref v0), (1, .long v1), (3, .int v3)] [] (qL Q) := by
  intro n
  induction n with
  | zero => intro v1 v3 h H; exact H.elim
  | succ n ih => intro v1 v3 h H; exact b_X12_digest_115 ih H
def B_X12_digest_45 (Q : Int64 → AH → Prop) (K45 : Int64 → Int32 → AH → Prop) (v0 : Nat) (v1 : Int64) (v3 : Int32) (h : AH) : Prop :=
  gI h v0 12 10 (fun x1 => ((x1 ≤ v3 → ∃ n, L_X12_digest_115 Q  v0 n v1 (0 : Int32) h) ∧ (¬ (x1 ≤ v3) → gR h v0 12 11 (fun a2 => lI h a2 v3 (fun x3 => gI h v0 12 17 (fun x4 => f_X12_spotOf x4 v3 h (fun x5 h6 => f_X12_told x5 h6 (fun x7 h8 => isO h8 v0 12 ∧ f_X12_home v0 v3 h8 (fun x9 h10 => gR h10 v0 12 19 (fun a11 => lI h10 a11 v3 (fun x12 => K45 (((31 : Int64) * (((31 : Int64) * (((31 : Int64) * (((31 : Int64) * v1) + x3.toInt64)) + x7.toInt64)) + x9.toInt64)) + x12.toInt64) (v3 + 1) h10)))))))))))
set_option maxRecDepth 100000 in
set_option maxHeartbeats 4000000 in
theorem b_X12_digest_45 {o : Om} {Q : Int64 → AH → Prop} {K45 : Int64 → Int32 → AH → Prop} {v0 : Nat} {v1 : Int64} {v3 : Int32} {h : AH} (hK45 : ∀ w1 w3 h, K45 w1 w3 h → AQ o kX12_digest h 45 [(0, .ref v0), (1, .long w1), (3, .int w3)] [] (qL Q)) (H : B_X12_digest_45 Q K45 v0 v1 v3 h) : AQ o kX12_digest h 45 [(0, .ref v0), (1, .long v1), (3, .int v3)] [] (qL Q) := by
  refine a_iload_n 2 rfl rfl dX12_digest_45 ?_
  refine a_aload_n 0 rfl rfl dX12_digest_46 ?_
  refine r_gI fo_RX12_178_12 dX12_digest_47 H (fun x1 H => ?_)
  refine a_icmp_ge (tgt := 113) dX12_digest_50 (by decide) (fun c => ?_) (fun c => ?_)
  · have H := H.1 (c)
    refine a_iconst (v := (0 : Int32)) (by decide) dX12_digest_113 ?_
    refine a_istore_n (lv1 := [(0, .ref v0), (1, .long v1), (3, .int (0 : Int32))]) rfl [1, 2, 0] (by decide) rfl dX12_digest_114 ?_
    obtain ⟨n, H⟩ := H
    exact l_X12_digest_115  n _ _ _ H
  · have H := H.2 (c)
    refine a_ldc2 (v := (31 : Int64)) wd1533 dX12_digest_53 ?_
    refine a_ldc2 (v := (31 : Int64)) wd1533 dX12_digest_56 ?_
    refine a_ldc2 (v := (31 : Int64)) wd1533 dX12_digest_59 ?_
    refine a_ldc2 (v := (31 : Int64)) wd1533 dX12_digest_62 ?_
    refine a_lload_n 1 rfl rfl dX12_digest_65 ?_
    refine a_lmul dX12_digest_66 ?_
    refine a_aload_n 0 rfl rfl dX12_digest_67 ?_
    refine r_gR fo_RX12_29_12 dX12_digest_68 H (fun a2 H => ?_)
    refine a_iload_n 2 rfl rfl dX12_digest_71 ?_
    refine r_lI dX12_digest_72 H (fun x3 H => ?_)
    refine a_i2l dX12_digest_73 ?_
    refine a_ladd dX12_digest_74 ?_
    refine a_lmul dX12_digest_75 ?_
    refine a_aload_n 0 rfl rfl dX12_digest_76 ?_
    refine r_gI fo_RX12_184_12 dX12_digest_77 H (fun x4 H => ?_)
    refine a_iload_n 2 rfl rfl dX12_digest_80 ?_
    refine r_Si (av := [.int x4, .int v3]) (rest := [.long ((31 : Int64) * (((31 : Int64) * v1) + x3.toInt64)), .long (31 : Int64), .long (31 : Int64)]) rfl rfl okX12_spotOf wd1286 wd1287 ⟨Nat.le_of_ble_eq_true rfl, Nat.le_of_ble_eq_true rfl⟩ (Nat.le_of_ble_eq_true rfl) dX12_digest_81 (s_X12_spotOf H) (fun x5 h6 H => ?_)
    refine r_Si (av := [.int x5]) (rest := [.long ((31 : Int64) * (((31 : Int64) * v1) + x3.toInt64)), .long (31 : Int64), .long (31 : Int64)]) rfl rfl okX12_told wd1289 wd1290 ⟨Nat.le_of_ble_eq_true rfl, Nat.le_of_ble_eq_true rfl⟩ (Nat.le_of_ble_eq_true rfl) dX12_digest_84 (s_X12_told H) (fun x7 h8 H => ?_)
    refine a_i2l dX12_digest_87 ?_
    refine a_ladd dX12_digest_88 ?_
    refine a_lmul dX12_digest_89 ?_
    refine a_aload_n 0 rfl rfl dX12_digest_90 ?_
    refine a_iload_n 2 rfl rfl dX12_digest_91 ?_
    refine r_Vi (q := (RX12, TX12, 51)) (av := [.int v3]) (rest := [.long ((31 : Int64) * (((31 : Int64) * (((31 : Int64) * v1) + x3.toInt64)) + x7.toInt64)), .long (31 : Int64)]) rfl rfl okX12_home H.1 rfl rfl wd1292 wd1294 wp43 ⟨Nat.le_of_ble_eq_true rfl, Nat.le_of_ble_eq_true rfl⟩ (Nat.le_of_ble_eq_true rfl) dX12_digest_92 (s_X12_home H.2) (fun x9 h10 H => ?_)
    refine a_i2l dX12_digest_95 ?_
    refine a_ladd dX12_digest_96 ?_
    refine a_lmul dX12_digest_97 ?_
    refine a_aload_n 0 rfl rfl dX12_digest_98 ?_
    refine r_gR fo_RX12_44_12 dX12_digest_99 H (fun a11 H => ?_)
    refine a_iload_n 2 rfl rfl dX12_digest_102 ?_
    refine r_lI dX12_digest_103 H (fun x12 H => ?_)
    refine a_i2l dX12_digest_104 ?_
    refine a_ladd dX12_digest_105 ?_
    refine a_lstore_n (lv1 := [(0, .ref v0), (1, .long (((31 : Int64) * (((31 : Int64) * (((31 : Int64) * (((31 : Int64) * v1) + x3.toInt64)) + x7.toInt64)) + x9.toInt64)) + x12.toInt64)), (3, .int v3)]) rfl [1, 0, 2] (by decide) rfl dX12_digest_106 ?_
    refine a_iinc (v := v3 + 1) (lv1 := [(0, .ref v0), (1, .long (((31 : Int64) * (((31 : Int64) * (((31 : Int64) * (((31 : Int64) * v1) + x3.toInt64)) + x7.toInt64)) + x9.toInt64)) + x12.toInt64)), (3, .int (v3 + 1))]) [1, 2, 0] 2 rfl (by decide) rfl rfl dX12_digest_107 ?_
    refine a_goto (tgt := 45) dX12_digest_110 (by decide) ?_
    exact hK45 _ _ _ H
def L_X12_digest_45 (Q : Int64 → AH → Prop)  (v0 : Nat) : Nat → Int64 → Int32 → AH → Prop
  | 0, _, _, _ => False
  | n + 1, v1, v3, h => B_X12_digest_45 Q (L_X12_digest_45 Q  v0 n) v0 v1 v3 h
theorem l_X12_digest_45 {o : Om} {Q : Int64 → AH → Prop}  {v0 : Nat}  : ∀ (n : Nat) (v1 : Int64) (v3 : Int32) (h : AH), L_X12_digest_45 Q  v0 n v1 v3 h → AQ o kX12_digest h 45 [(0, .ref v0), (1, .long v1), (3, .int v3)] [] (qL Q) := by
  intro n
  induction n with
  | zero => intro v1 v3 h H; exact H.elim
  | succ n ih => intro v1 v3 h H; exact b_X12_digest_45 ih H
def B_X12_digest_6 (Q : Int64 → AH → Prop) (K6 : Int64 → Int32 → AH → Prop) (v0 : Nat) (v1 : Int64) (v3 : Int32) (h : AH) : Prop :=
  (((9 : Int32) ≤ v3 → gI h v0 12 16 (fun x1 => ∃ n, L_X12_digest_45 Q  v0 n (((31 : Int64) * v1) + x1.toInt64) (0 : Int32) h)) ∧ (¬ ((9 : Int32) ≤ v3) → isO h v0 12 ∧ f_X12_count v0 v3 h (fun x2 h3 => K6 (((31 : Int64) * v1) + x2.toInt64) (v3 + 1) h3)))
set_option maxRecDepth 100000 in
set_option maxHeartbeats 4000000 in
theorem b_X12_digest_6 {o : Om} {Q : Int64 → AH → Prop} {K6 : Int64 → Int32 → AH → Prop} {v0 : Nat} {v1 : Int64} {v3 : Int32} {h : AH} (hK6 : ∀ w1 w3 h, K6 w1 w3 h → AQ o kX12_digest h 6 [(0, .ref v0), (1, .long w1), (3, .int w3)] [] (qL Q)) (H : B_X12_digest_6 Q K6 v0 v1 v3 h) : AQ o kX12_digest h 6 [(0, .ref v0), (1, .long v1), (3, .int v3)] [] (qL Q) := by
  refine a_iload_n 2 rfl rfl dX12_digest_6 ?_
  refine a_bipush (v := (9 : Int32)) (by decide) dX12_digest_7 ?_
  refine a_icmp_ge (tgt := 31) dX12_digest_9 (by decide) (fun c => ?_) (fun c => ?_)
  · have H := H.1 (c)
    refine a_ldc2 (v := (31 : Int64)) wd1533 dX12_digest_31 ?_
    refine a_lload_n 1 rfl rfl dX12_digest_34 ?_
    refine a_lmul dX12_digest_35 ?_
    refine a_aload_n 0 rfl rfl dX12_digest_36 ?_
    refine r_gI fo_RX12_187_12 dX12_digest_37 H (fun x1 H => ?_)
    refine a_i2l dX12_digest_40 ?_
    refine a_ladd dX12_digest_41 ?_
    refine a_lstore_n (lv1 := [(0, .ref v0), (1, .long (((31 : Int64) * v1) + x1.toInt64)), (3, .int v3)]) rfl [1, 0, 2] (by decide) rfl dX12_digest_42 ?_
    refine a_iconst (v := (0 : Int32)) (by decide) dX12_digest_43 ?_
    refine a_istore_n (lv1 := [(0, .ref v0), (1, .long (((31 : Int64) * v1) + x1.toInt64)), (3, .int (0 : Int32))]) rfl [1, 2, 0] (by decide) rfl dX12_digest_44 ?_
    obtain ⟨n, H⟩ := H
    exact l_X12_digest_45  n _ _ _ H
  · have H := H.2 (c)
    refine a_ldc2 (v := (31 : Int64)) wd1533 dX12_digest_12 ?_
    refine a_lload_n 1 rfl rfl dX12_digest_15 ?_
    refine a_lmul dX12_digest_16 ?_
    refine a_aload_n 0 rfl rfl dX12_digest_17 ?_
    refine a_iload_n 2 rfl rfl dX12_digest_18 ?_
    refine r_Vi (q := (RX12, TX12, 51)) (av := [.int v3]) (rest := [.long ((31 : Int64) * v1)]) rfl rfl okX12_count H.1 rfl rfl wd1534 wd1510 wd1511 ⟨Nat.le_of_ble_eq_true rfl, Nat.le_of_ble_eq_true rfl⟩ (Nat.le_of_ble_eq_true rfl) dX12_digest_19 (s_X12_count H.2) (fun x2 h3 H => ?_)
    refine a_i2l dX12_digest_22 ?_
    refine a_ladd dX12_digest_23 ?_
    refine a_lstore_n (lv1 := [(0, .ref v0), (1, .long (((31 : Int64) * v1) + x2.toInt64)), (3, .int v3)]) rfl [1, 0, 2] (by decide) rfl dX12_digest_24 ?_
    refine a_iinc (v := v3 + 1) (lv1 := [(0, .ref v0), (1, .long (((31 : Int64) * v1) + x2.toInt64)), (3, .int (v3 + 1))]) [1, 2, 0] 2 rfl (by decide) rfl rfl dX12_digest_25 ?_
    refine a_goto (tgt := 6) dX12_digest_28 (by decide) ?_
    exact hK6 _ _ _ H
def L_X12_digest_6 (Q : Int64 → AH → Prop)  (v0 : Nat) : Nat → Int64 → Int32 → AH → Prop
  | 0, _, _, _ => False
  | n + 1, v1, v3, h => B_X12_digest_6 Q (L_X12_digest_6 Q  v0 n) v0 v1 v3 h
theorem l_X12_digest_6 {o : Om} {Q : Int64 → AH → Prop}  {v0 : Nat}  : ∀ (n : Nat) (v1 : Int64) (v3 : Int32) (h : AH), L_X12_digest_6 Q  v0 n v1 v3 h → AQ o kX12_digest h 6 [(0, .ref v0), (1, .long v1), (3, .int v3)] [] (qL Q) := by
  intro n
  induction n with
  | zero => intro v1 v3 h H; exact H.elim
  | succ n ih => intro v1 v3 h H; exact b_X12_digest_6 ih H
def f_X12_digest (v0 : Nat) (h : AH) (Q : Int64 → AH → Prop) : Prop :=
  ∃ n, L_X12_digest_6 Q  v0 n (17 : Int64) (0 : Int32) h
set_option maxRecDepth 100000 in
set_option maxHeartbeats 4000000 in
theorem s_X12_digest {o : Om} {v0 : Nat} {h : AH} {Q : Int64 → AH → Prop} (H : f_X12_digest v0 h Q) : MQ' o kX12_digest [.ref v0] h (qL Q) := by
  refine MQ'.of (by decide +kernel) (Nat.le_of_ble_eq_true rfl) ?_
  show AQ o kX12_digest h 0 [(0, .ref v0)] [] (qL Q)
  refine a_ldc2 (v := (17 : Int64)) wd1532 dX12_digest_0 ?_
  refine a_lstore_n (lv1 := [(0, .ref v0), (1, .long (17 : Int64))]) rfl [1, 0] (by decide) rfl dX12_digest_3 ?_
  refine a_iconst (v := (0 : Int32)) (by decide) dX12_digest_4 ?_
  refine a_istore_n (lv1 := [(0, .ref v0), (1, .long (17 : Int64)), (3, .int (0 : Int32))]) rfl [1, 2, 0] (by decide) rfl dX12_digest_5 ?_
  obtain ⟨n, H⟩ := H
  exact l_X12_digest_6  n _ _ _ H
