def B_X12_way_256 (Q : Int32 → AH → Prop) (K232 : Int32 → Int32 → AH → Prop) (v0 : Nat) (v1 : Int32) (v2 : Int32) (v3 : Int32) (v4 : Int32) (v5 : Int32) (h : AH) : Prop :=
  gI h v0 12 16 (fun x1 => isO h v0 12 ∧ f_X12_behind v0 v3 (v5 + 1) x1 h (fun x2 h3 => K232 (v5 + 1) x2 h3))
set_option maxRecDepth 100000 in
set_option maxHeartbeats 4000000 in
theorem b_X12_way_256 {o : Om} {Q : Int32 → AH → Prop} {K232 : Int32 → Int32 → AH → Prop} {v0 : Nat} {v1 : Int32} {v2 : Int32} {v3 : Int32} {v4 : Int32} {v5 : Int32} {h : AH} (hK232 : ∀ w5 w6 h, K232 w5 w6 h → AQ o kX12_way h 232 [(0, .ref v0), (1, .int v1), (2, .int v2), (3, .int v3), (4, .int v4), (5, .int w5), (6, .int w6)] [] (qI Q)) (H : B_X12_way_256 Q K232 v0 v1 v2 v3 v4 v5 h) : AQ o kX12_way h 256 [(0, .ref v0), (1, .int v1), (2, .int v2), (3, .int v3), (4, .int v4), (5, .int v5)] [] (qI Q) := by
  refine a_iinc (v := v5 + 1) (lv1 := [(0, .ref v0), (1, .int v1), (2, .int v2), (3, .int v3), (4, .int v4), (5, .int (v5 + 1))]) [1, 2, 3, 4, 5, 0] 5 rfl (by decide) rfl rfl dX12_way_256 ?_
  refine a_aload_n 0 rfl rfl dX12_way_259 ?_
  refine a_iload_n 3 rfl rfl dX12_way_260 ?_
  refine a_iload 5 rfl dX12_way_261 ?_
  refine a_aload_n 0 rfl rfl dX12_way_263 ?_
  refine r_gI fo_RX12_187_12 dX12_way_264 H (fun x1 H => ?_)
  refine r_Vi (q := (RX12, TX12, 51)) (av := [.int v3, .int (v5 + 1), .int x1]) (rest := []) rfl rfl okX12_behind H.1 rfl rfl wd1311 wd1313 wp45 ⟨Nat.le_of_ble_eq_true rfl, Nat.le_of_ble_eq_true rfl⟩ (Nat.le_of_ble_eq_true rfl) dX12_way_267 (s_X12_behind H.2) (fun x2 h3 H => ?_)
  refine a_istore (lv1 := [(0, .ref v0), (1, .int v1), (2, .int v2), (3, .int v3), (4, .int v4), (5, .int (v5 + 1)), (6, .int x2)]) [1, 2, 3, 4, 5, 6, 0] (by decide) rfl dX12_way_270 ?_
  refine a_goto (tgt := 232) dX12_way_272 (by decide) ?_
  exact hK232 _ _ _ H
def B_X12_way_232 (Q : Int32 → AH → Prop) (K211 : Int32 → Int32 → AH → Prop) (K232 : Int32 → Int32 → AH → Prop) (v0 : Nat) (v1 : Int32) (v2 : Int32) (v3 : Int32) (v4 : Int32) (v5 : Int32) (v6 : Int32) (h : AH) : Prop :=
  gR h v0 12 43 (fun a1 => lI h a1 v6 (fun x2 => ((¬ (x2 = (v4 + (1 : Int32))) → B_X12_way_256 Q K232 v0 v1 v2 v3 v4 v5 h) ∧ (x2 = (v4 + (1 : Int32)) → gR h v0 12 44 (fun a3 => lB h a3 v6 (fun x4 => ((¬ (x4 = 0) → gR h v0 12 1 (fun a5 => sI h a5 (((60 : Int32) * v1) + v4) v5 (fun h6 => K211 v6 (v4 + 1) h6))) ∧ (x4 = 0 → B_X12_way_256 Q K232 v0 v1 v2 v3 v4 v5 h))))))))
set_option maxRecDepth 100000 in
set_option maxHeartbeats 4000000 in
theorem b_X12_way_232 {o : Om} {Q : Int32 → AH → Prop} {K211 : Int32 → Int32 → AH → Prop} {K232 : Int32 → Int32 → AH → Prop} {v0 : Nat} {v1 : Int32} {v2 : Int32} {v3 : Int32} {v4 : Int32} {v5 : Int32} {v6 : Int32} {h : AH} (hK211 : ∀ w3 w4 h, K211 w3 w4 h → AQ o kX12_way h 211 [(0, .ref v0), (1, .int v1), (2, .int v2), (3, .int w3), (4, .int w4)] [] (qI Q)) (hK232 : ∀ w5 w6 h, K232 w5 w6 h → AQ o kX12_way h 232 [(0, .ref v0), (1, .int v1), (2, .int v2), (3, .int v3), (4, .int v4), (5, .int w5), (6, .int w6)] [] (qI Q)) (H : B_X12_way_232 Q K211 K232 v0 v1 v2 v3 v4 v5 v6 h) : AQ o kX12_way h 232 [(0, .ref v0), (1, .int v1), (2, .int v2), (3, .int v3), (4, .int v4), (5, .int v5), (6, .int v6)] [] (qI Q) := by
  refine a_aload_n 0 rfl rfl dX12_way_232 ?_
  refine r_gR fo_RX12_93_12 dX12_way_233 H (fun a1 H => ?_)
  refine a_iload 6 rfl dX12_way_236 ?_
  refine r_lI dX12_way_238 H (fun x2 H => ?_)
  refine a_iload 4 rfl dX12_way_239 ?_
  refine a_iconst (v := (1 : Int32)) (by decide) dX12_way_241 ?_
  refine a_iadd dX12_way_242 ?_
  refine a_icmp_ne (tgt := 256) dX12_way_243 (by decide) (fun c => ?_) (fun c => ?_)
  · have H := H.1 (c)
    refine AQ.sub (lv1 := [(0, .ref v0), (1, .int v1), (2, .int v2), (3, .int v3), (4, .int v4), (5, .int v5)]) [0, 1, 2, 3, 4, 5] rfl ?_
    exact b_X12_way_256 hK232 H
  · have H := H.2 (c)
    refine a_aload_n 0 rfl rfl dX12_way_246 ?_
    refine r_gR fo_RX12_96_12 dX12_way_247 H (fun a3 H => ?_)
    refine a_iload 6 rfl dX12_way_250 ?_
    refine r_lB dX12_way_252 H (fun x4 H => ?_)
    refine a_if_ne (tgt := 275) dX12_way_253 (by decide) (fun c => ?_) (fun c => ?_)
    · have H := H.1 (c)
      refine a_aload_n 0 rfl rfl dX12_way_275 ?_
      refine r_gR fo_RX12_13_12 dX12_way_276 H (fun a5 H => ?_)
      refine a_bipush (v := (60 : Int32)) (by decide) dX12_way_279 ?_
      refine a_iload_n 1 rfl rfl dX12_way_281 ?_
      refine a_imul dX12_way_282 ?_
      refine a_iload 4 rfl dX12_way_283 ?_
      refine a_iadd dX12_way_285 ?_
      refine a_iload 5 rfl dX12_way_286 ?_
      refine r_sI dX12_way_288 H (fun h6 H => ?_)
      refine a_iload 6 rfl dX12_way_289 ?_
      refine a_istore_n (lv1 := [(0, .ref v0), (1, .int v1), (2, .int v2), (3, .int v6), (4, .int v4), (5, .int v5), (6, .int v6)]) rfl [1, 2, 3, 0, 4, 5, 6] (by decide) rfl dX12_way_291 ?_
      refine a_iinc (v := v4 + 1) (lv1 := [(0, .ref v0), (1, .int v1), (2, .int v2), (3, .int v6), (4, .int (v4 + 1)), (5, .int v5), (6, .int v6)]) [1, 2, 3, 4, 0, 5, 6] 4 rfl (by decide) rfl rfl dX12_way_292 ?_
      refine a_goto (tgt := 211) dX12_way_295 (by decide) ?_
      refine AQ.sub (lv1 := [(0, .ref v0), (1, .int v1), (2, .int v2), (3, .int v6), (4, .int (v4 + 1))]) [0, 1, 2, 3, 4] rfl ?_
      exact hK211 _ _ _ H
    · have H := H.2 (c)
      refine AQ.sub (lv1 := [(0, .ref v0), (1, .int v1), (2, .int v2), (3, .int v3), (4, .int v4), (5, .int v5)]) [0, 1, 2, 3, 4, 5] rfl ?_
      exact b_X12_way_256 hK232 H
def L_X12_way_232 (Q : Int32 → AH → Prop) (K211 : Int32 → Int32 → AH → Prop) (v0 : Nat) (v1 : Int32) (v2 : Int32) (v3 : Int32) (v4 : Int32) : Nat → Int32 → Int32 → AH → Prop
  | 0, _, _, _ => False
  | n + 1, v5, v6, h => B_X12_way_232 Q K211 (L_X12_way_232 Q K211 v0 v1 v2 v3 v4 n) v0 v1 v2 v3 v4 v5 v6 h
theorem l_X12_way_232 {o : Om} {Q : Int32 → AH → Prop} {K211 : Int32 → Int32 → AH → Prop} {v0 : Nat} {v1 : Int32} {v2 : Int32} {v3 : Int32} {v4 : Int32} (hK211 : ∀ w3 w4 h, K211 w3 w4 h → AQ o kX12_way h 211 [(0, .ref v0), (1, .int v1), (2, .int v2), (3, .int w3), (4, .int w4)] [] (qI Q)) : ∀ (n : Nat) (v5 : Int32) (v6 : Int32) (h : AH), L_X12_way_232 Q K211 v0 v1 v2 v3 v4 n v5 v6 h → AQ o kX12_way h 232 [(0, .ref v0), (1, .int v1), (2, .int v2), (3, .int v3), (4, .int v4), (5, .int v5), (6, .int v6)] [] (qI Q) := by
  intro n
  induction n with
  | zero => intro v5 v6 h H; exact H.elim
  | succ n ih => intro v5 v6 h H; exact b_X12_way_232 hK211 ih H
def B_X12_way_211 (Q : Int32 → AH → Prop) (K211 : Int32 → Int32 → AH → Prop) (v0 : Nat) (v1 : Int32) (v2 : Int32) (v3 : Int32) (v4 : Int32) (h : AH) : Prop :=
  ((v2 ≤ v4 → Q v2 h) ∧ (¬ (v2 ≤ v4) → gI h v0 12 16 (fun x1 => isO h v0 12 ∧ f_X12_behind v0 v3 (0 : Int32) x1 h (fun x2 h3 => ∃ n, L_X12_way_232 Q K211 v0 v1 v2 v3 v4 n (0 : Int32) x2 h3))))
set_option maxRecDepth 100000 in
set_option maxHeartbeats 4000000 in
theorem b_X12_way_211 {o : Om} {Q : Int32 → AH → Prop} {K211 : Int32 → Int32 → AH → Prop} {v0 : Nat} {v1 : Int32} {v2 : Int32} {v3 : Int32} {v4 : Int32} {h : AH} (hK211 : ∀ w3 w4 h, K211 w3 w4 h → AQ o kX12_way h 211 [(0, .ref v0), (1, .int v1), (2, .int v2), (3, .int w3), (4, .int w4)] [] (qI Q)) (H : B_X12_way_211 Q K211 v0 v1 v2 v3 v4 h) : AQ o kX12_way h 211 [(0, .ref v0), (1, .int v1), (2, .int v2), (3, .int v3), (4, .int v4)] [] (qI Q) := by
  refine a_iload 4 rfl dX12_way_211 ?_
  refine a_iload_n 2 rfl rfl dX12_way_213 ?_
  refine a_icmp_ge (tgt := 298) dX12_way_214 (by decide) (fun c => ?_) (fun c => ?_)
  · have H := H.1 (c)
    refine a_iload_n 2 rfl rfl dX12_way_298 ?_
    exact r_reti rfl dX12_way_299 H
  · have H := H.2 (c)
    refine a_iconst (v := (0 : Int32)) (by decide) dX12_way_217 ?_
    refine a_istore (lv1 := [(0, .ref v0), (1, .int v1), (2, .int v2), (3, .int v3), (4, .int v4), (5, .int (0 : Int32))]) [1, 2, 3, 4, 5, 0] (by decide) rfl dX12_way_218 ?_
    refine a_aload_n 0 rfl rfl dX12_way_220 ?_
    refine a_iload_n 3 rfl rfl dX12_way_221 ?_
    refine a_iconst (v := (0 : Int32)) (by decide) dX12_way_222 ?_
    refine a_aload_n 0 rfl rfl dX12_way_223 ?_
    refine r_gI fo_RX12_187_12 dX12_way_224 H (fun x1 H => ?_)
    refine r_Vi (q := (RX12, TX12, 51)) (av := [.int v3, .int (0 : Int32), .int x1]) (rest := []) rfl rfl okX12_behind H.1 rfl rfl wd1311 wd1313 wp45 ⟨Nat.le_of_ble_eq_true rfl, Nat.le_of_ble_eq_true rfl⟩ (Nat.le_of_ble_eq_true rfl) dX12_way_227 (s_X12_behind H.2) (fun x2 h3 H => ?_)
    refine a_istore (lv1 := [(0, .ref v0), (1, .int v1), (2, .int v2), (3, .int v3), (4, .int v4), (5, .int (0 : Int32)), (6, .int x2)]) [1, 2, 3, 4, 5, 6, 0] (by decide) rfl dX12_way_230 ?_
    obtain ⟨n, H⟩ := H
    exact l_X12_way_232 hK211 n _ _ _ H
def L_X12_way_211 (Q : Int32 → AH → Prop)  (v0 : Nat) (v1 : Int32) (v2 : Int32) : Nat → Int32 → Int32 → AH → Prop
  | 0, _, _, _ => False
  | n + 1, v3, v4, h => B_X12_way_211 Q (L_X12_way_211 Q  v0 v1 v2 n) v0 v1 v2 v3 v4 h
theorem l_X12_way_211 {o : Om} {Q : Int32 → AH → Prop}  {v0 : Nat} {v1 : Int32} {v2 : Int32}  : ∀ (n : Nat) (v3 : Int32) (v4 : Int32) (h : AH), L_X12_way_211 Q  v0 v1 v2 n v3 v4 h → AQ o kX12_way h 211 [(0, .ref v0), (1, .int v1), (2, .int v2), (3, .int v3), (4, .int v4)] [] (qI Q) := by
  intro n
  induction n with
  | zero => intro v3 v4 h H; exact H.elim
  | succ n ih => intro v3 v4 h H; exact b_X12_way_211 ih H
def B_X12_way_179 (Q : Int32 → AH → Prop) (K100 : Int32 → AH → Prop) (v0 : Nat) (v1 : Int32) (v2 : Int32) (v3 : Int32) (v4 : Int32) (v5 : Int32) (t0 : Nat) (t1 : Int32) (h : AH) : Prop :=
  sB h t0 t1 (1 : Int32) (fun h1 => K100 (v5 + 1) h1)
set_option maxRecDepth 100000 in
set_option maxHeartbeats 4000000 in
theorem b_X12_way_179 {o : Om} {Q : Int32 → AH → Prop} {K100 : Int32 → AH → Prop} {v0 : Nat} {v1 : Int32} {v2 : Int32} {v3 : Int32} {v4 : Int32} {v5 : Int32} {t0 : Nat} {t1 : Int32} {h : AH} (hK100 : ∀ w5 h, K100 w5 h → AQ o kX12_way h 100 [(0, .ref v0), (1, .int v1), (2, .int v2), (3, .int v3), (4, .int v4), (5, .int w5)] [] (qI Q)) (H : B_X12_way_179 Q K100 v0 v1 v2 v3 v4 v5 t0 t1 h) : AQ o kX12_way h 179 [(0, .ref v0), (1, .int v1), (2, .int v2), (3, .int v3), (4, .int v4), (5, .int v5)] [.int t1, .ref t0] (qI Q) := by
  refine a_iconst (v := (1 : Int32)) (by decide) dX12_way_179 ?_
  refine a_goto (tgt := 184) dX12_way_180 (by decide) ?_
  refine r_sB dX12_way_184 H (fun h1 H => ?_)
  refine a_iinc (v := v5 + 1) (lv1 := [(0, .ref v0), (1, .int v1), (2, .int v2), (3, .int v3), (4, .int v4), (5, .int (v5 + 1))]) [1, 2, 3, 4, 5, 0] 5 rfl (by decide) rfl rfl dX12_way_185 ?_
  refine a_goto (tgt := 100) dX12_way_188 (by decide) ?_
  exact hK100 _ _ H
def B_X12_way_100 (Q : Int32 → AH → Prop) (K53 : Int32 → AH → Prop) (K100 : Int32 → AH → Prop) (v0 : Nat) (v1 : Int32) (v2 : Int32) (v3 : Int32) (v4 : Int32) (v5 : Int32) (h : AH) : Prop :=
  gI h v0 12 12 (fun x1 => ((x1 ≤ v5 → K53 (v3 + (-1)) h) ∧ (¬ (x1 ≤ v5) → gR h v0 12 43 (fun a2 => lI h a2 v4 (fun x3 => ((v2 ≤ x3 → K53 (v3 + (-1)) h) ∧ (¬ (v2 ≤ x3) → gI h v0 12 16 (fun x4 => isO h v0 12 ∧ f_X12_behind v0 v4 v5 x4 h (fun x5 h6 => gR h6 v0 12 44 (fun a7 => gR h6 v0 12 44 (fun a8 => lB h6 a8 v4 (fun x9 => ((¬ (x9 = 0) → B_X12_way_179 Q K100 v0 v1 v2 v3 v4 v5 a7 v4 h6) ∧ (x9 = 0 → gR h6 v0 12 43 (fun a10 => lI h6 a10 x5 (fun x11 => gR h6 v0 12 43 (fun a12 => lI h6 a12 v4 (fun x13 => ((¬ (x11 = (x13 + (1 : Int32))) → sB h6 a7 v4 (0 : Int32) (fun h14 => K100 (v5 + 1) h14)) ∧ (x11 = (x13 + (1 : Int32)) → gR h6 v0 12 44 (fun a15 => lB h6 a15 x5 (fun x16 => ((x16 = 0 → sB h6 a7 v4 (0 : Int32) (fun h17 => K100 (v5 + 1) h17)) ∧ (¬ (x16 = 0) → B_X12_way_179 Q K100 v0 v1 v2 v3 v4 v5 a7 v4 h6))))))))))))))))))))))))
set_option maxRecDepth 100000 in
set_option maxHeartbeats 4000000 in
theorem b_X12_way_100 {o : Om} {Q : Int32 → AH → Prop} {K53 : Int32 → AH → Prop} {K100 : Int32 → AH → Prop} {v0 : Nat} {v1 : Int32} {v2 : Int32} {v3 : Int32} {v4 : Int32} {v5 : Int32} {h : AH} (hK53 : ∀ w3 h, K53 w3 h → AQ o kX12_way h 53 [(0, .ref v0), (1, .int v1), (2, .int v2), (3, .int w3)] [] (qI Q)) (hK100 : ∀ w5 h, K100 w5 h → AQ o kX12_way h 100 [(0, .ref v0), (1, .int v1), (2, .int v2), (3, .int v3), (4, .int v4), (5, .int w5)] [] (qI Q)) (H : B_X12_way_100 Q K53 K100 v0 v1 v2 v3 v4 v5 h) : AQ o kX12_way h 100 [(0, .ref v0), (1, .int v1), (2, .int v2), (3, .int v3), (4, .int v4), (5, .int v5)] [] (qI Q) := by
  refine a_iload 5 rfl dX12_way_100 ?_
  refine a_aload_n 0 rfl rfl dX12_way_102 ?_
  refine r_gI fo_RX12_181_12 dX12_way_103 H (fun x1 H => ?_)
  refine a_icmp_ge (tgt := 191) dX12_way_106 (by decide) (fun c => ?_) (fun c => ?_)
  · have H := H.1 (c)
    refine a_iinc (v := v3 + (-1)) (lv1 := [(0, .ref v0), (1, .int v1), (2, .int v2), (3, .int (v3 + (-1))), (4, .int v4), (5, .int v5)]) [1, 2, 3, 0, 4, 5] 3 rfl (by decide) (congrArg (fun z => v3 + z) (by decide)) rfl dX12_way_191 ?_
    refine a_goto (tgt := 53) dX12_way_194 (by decide) ?_
    refine AQ.sub (lv1 := [(0, .ref v0), (1, .int v1), (2, .int v2), (3, .int (v3 + (-1)))]) [0, 1, 2, 3] rfl ?_
    exact hK53 _ _ H
  · have H := H.2 (c)
    refine a_aload_n 0 rfl rfl dX12_way_109 ?_
    refine r_gR fo_RX12_93_12 dX12_way_110 H (fun a2 H => ?_)
    refine a_iload 4 rfl dX12_way_113 ?_
    refine r_lI dX12_way_115 H (fun x3 H => ?_)
    refine a_iload_n 2 rfl rfl dX12_way_116 ?_
    refine a_icmp_ge (tgt := 191) dX12_way_117 (by decide) (fun c => ?_) (fun c => ?_)
    · have H := H.1 (c)
      refine a_iinc (v := v3 + (-1)) (lv1 := [(0, .ref v0), (1, .int v1), (2, .int v2), (3, .int (v3 + (-1))), (4, .int v4), (5, .int v5)]) [1, 2, 3, 0, 4, 5] 3 rfl (by decide) (congrArg (fun z => v3 + z) (by decide)) rfl dX12_way_191 ?_
      refine a_goto (tgt := 53) dX12_way_194 (by decide) ?_
      refine AQ.sub (lv1 := [(0, .ref v0), (1, .int v1), (2, .int v2), (3, .int (v3 + (-1)))]) [0, 1, 2, 3] rfl ?_
      exact hK53 _ _ H
    · have H := H.2 (c)
      refine a_aload_n 0 rfl rfl dX12_way_120 ?_
      refine a_iload 4 rfl dX12_way_121 ?_
      refine a_iload 5 rfl dX12_way_123 ?_
      refine a_aload_n 0 rfl rfl dX12_way_125 ?_
      refine r_gI fo_RX12_187_12 dX12_way_126 H (fun x4 H => ?_)
      refine r_Vi (q := (RX12, TX12, 51)) (av := [.int v4, .int v5, .int x4]) (rest := []) rfl rfl okX12_behind H.1 rfl rfl wd1311 wd1313 wp45 ⟨Nat.le_of_ble_eq_true rfl, Nat.le_of_ble_eq_true rfl⟩ (Nat.le_of_ble_eq_true rfl) dX12_way_129 (s_X12_behind H.2) (fun x5 h6 H => ?_)
      refine a_istore (lv1 := [(0, .ref v0), (1, .int v1), (2, .int v2), (3, .int v3), (4, .int v4), (5, .int v5), (6, .int x5)]) [1, 2, 3, 4, 5, 6, 0] (by decide) rfl dX12_way_132 ?_
      refine a_aload_n 0 rfl rfl dX12_way_134 ?_
      refine r_gR fo_RX12_96_12 dX12_way_135 H (fun a7 H => ?_)
      refine a_iload 4 rfl dX12_way_138 ?_
      refine a_aload_n 0 rfl rfl dX12_way_140 ?_
      refine r_gR fo_RX12_96_12 dX12_way_141 H (fun a8 H => ?_)
      refine a_iload 4 rfl dX12_way_144 ?_
      refine r_lB dX12_way_146 H (fun x9 H => ?_)
      refine a_if_ne (tgt := 179) dX12_way_147 (by decide) (fun c => ?_) (fun c => ?_)
      · have H := H.1 (c)
        refine AQ.sub (lv1 := [(0, .ref v0), (1, .int v1), (2, .int v2), (3, .int v3), (4, .int v4), (5, .int v5)]) [0, 1, 2, 3, 4, 5] rfl ?_
        exact b_X12_way_179 hK100 H
      · have H := H.2 (c)
        refine a_aload_n 0 rfl rfl dX12_way_150 ?_
        refine r_gR fo_RX12_93_12 dX12_way_151 H (fun a10 H => ?_)
        refine a_iload 6 rfl dX12_way_154 ?_
        refine r_lI dX12_way_156 H (fun x11 H => ?_)
        refine a_aload_n 0 rfl rfl dX12_way_157 ?_
        refine r_gR fo_RX12_93_12 dX12_way_158 H (fun a12 H => ?_)
        refine a_iload 4 rfl dX12_way_161 ?_
        refine r_lI dX12_way_163 H (fun x13 H => ?_)
        refine a_iconst (v := (1 : Int32)) (by decide) dX12_way_164 ?_
        refine a_iadd dX12_way_165 ?_
        refine a_icmp_ne (tgt := 183) dX12_way_166 (by decide) (fun c => ?_) (fun c => ?_)
        · have H := H.1 (c)
          refine a_iconst (v := (0 : Int32)) (by decide) dX12_way_183 ?_
          refine r_sB dX12_way_184 H (fun h14 H => ?_)
          refine a_iinc (v := v5 + 1) (lv1 := [(0, .ref v0), (1, .int v1), (2, .int v2), (3, .int v3), (4, .int v4), (5, .int (v5 + 1)), (6, .int x5)]) [1, 2, 3, 4, 5, 0, 6] 5 rfl (by decide) rfl rfl dX12_way_185 ?_
          refine a_goto (tgt := 100) dX12_way_188 (by decide) ?_
          refine AQ.sub (lv1 := [(0, .ref v0), (1, .int v1), (2, .int v2), (3, .int v3), (4, .int v4), (5, .int (v5 + 1))]) [0, 1, 2, 3, 4, 5] rfl ?_
          exact hK100 _ _ H
        · have H := H.2 (c)
          refine a_aload_n 0 rfl rfl dX12_way_169 ?_
          refine r_gR fo_RX12_96_12 dX12_way_170 H (fun a15 H => ?_)
          refine a_iload 6 rfl dX12_way_173 ?_
          refine r_lB dX12_way_175 H (fun x16 H => ?_)
          refine a_if_eq (tgt := 183) dX12_way_176 (by decide) (fun c => ?_) (fun c => ?_)
          · have H := H.1 (c)
            refine a_iconst (v := (0 : Int32)) (by decide) dX12_way_183 ?_
            refine r_sB dX12_way_184 H (fun h17 H => ?_)
            refine a_iinc (v := v5 + 1) (lv1 := [(0, .ref v0), (1, .int v1), (2, .int v2), (3, .int v3), (4, .int v4), (5, .int (v5 + 1)), (6, .int x5)]) [1, 2, 3, 4, 5, 0, 6] 5 rfl (by decide) rfl rfl dX12_way_185 ?_
            refine a_goto (tgt := 100) dX12_way_188 (by decide) ?_
            refine AQ.sub (lv1 := [(0, .ref v0), (1, .int v1), (2, .int v2), (3, .int v3), (4, .int v4), (5, .int (v5 + 1))]) [0, 1, 2, 3, 4, 5] rfl ?_
            exact hK100 _ _ H
          · have H := H.2 (c)
            refine AQ.sub (lv1 := [(0, .ref v0), (1, .int v1), (2, .int v2), (3, .int v3), (4, .int v4), (5, .int v5)]) [0, 1, 2, 3, 4, 5] rfl ?_
            exact b_X12_way_179 hK100 H
def L_X12_way_100 (Q : Int32 → AH → Prop) (K53 : Int32 → AH → Prop) (v0 : Nat) (v1 : Int32) (v2 : Int32) (v3 : Int32) (v4 : Int32) : Nat → Int32 → AH → Prop
  | 0, _, _ => False
  | n + 1, v5, h => B_X12_way_100 Q K53 (L_X12_way_100 Q K53 v0 v1 v2 v3 v4 n) v0 v1 v2 v3 v4 v5 h
theorem l_X12_way_100 {o : Om} {Q : Int32 → AH → Prop} {K53 : Int32 → AH → Prop} {v0 : Nat} {v1 : Int32} {v2 : Int32} {v3 : Int32} {v4 : Int32} (hK53 : ∀ w3 h, K53 w3 h → AQ o kX12_way h 53 [(0, .ref v0), (1, .int v1), (2, .int v2), (3, .int w3)] [] (qI Q)) : ∀ (n : Nat) (v5 : Int32) (h : AH), L_X12_way_100 Q K53 v0 v1 v2 v3 v4 n v5 h → AQ o kX12_way h 100 [(0, .ref v0), (1, .int v1), (2, .int v2), (3, .int v3), (4, .int v4), (5, .int v5)] [] (qI Q) := by
  intro n
  induction n with
  | zero => intro v5 h H; exact H.elim
  | succ n ih => intro v5 h H; exact b_X12_way_100 hK53 ih H
def B_X12_way_53 (Q : Int32 → AH → Prop) (K53 : Int32 → AH → Prop) (v0 : Nat) (v1 : Int32) (v2 : Int32) (v3 : Int32) (h : AH) : Prop :=
  ((v3 < 0 → isO h v0 12 ∧ f_X12_makes v0 v1 v2 h (fun h1 => gI h1 v0 12 17 (fun x2 => ∃ n, L_X12_way_211 Q  v0 v1 v2 n x2 (0 : Int32) h1))) ∧ (¬ (v3 < 0) → gR h v0 12 42 (fun a3 => lI h a3 v3 (fun x4 => gR h v0 12 44 (fun a5 => gR h v0 12 43 (fun a6 => lI h a6 x4 (fun x7 => ((¬ (x7 = v2) → sB h a5 x4 (0 : Int32) (fun h8 => ∃ n, L_X12_way_100 Q K53 v0 v1 v2 v3 x4 n (0 : Int32) h8)) ∧ (x7 = v2 → isO h v0 12 ∧ f_X12_isDone v0 x4 h (fun x9 h10 => ((x9 = 0 → sB h10 a5 x4 (0 : Int32) (fun h11 => ∃ n, L_X12_way_100 Q K53 v0 v1 v2 v3 x4 n (0 : Int32) h11)) ∧ (¬ (x9 = 0) → sB h10 a5 x4 (1 : Int32) (fun h12 => ∃ n, L_X12_way_100 Q K53 v0 v1 v2 v3 x4 n (0 : Int32) h12)))))))))))))
set_option maxRecDepth 100000 in
set_option maxHeartbeats 4000000 in
theorem b_X12_way_53 {o : Om} {Q : Int32 → AH → Prop} {K53 : Int32 → AH → Prop} {v0 : Nat} {v1 : Int32} {v2 : Int32} {v3 : Int32} {h : AH} (hK53 : ∀ w3 h, K53 w3 h → AQ o kX12_way h 53 [(0, .ref v0), (1, .int v1), (2, .int v2), (3, .int w3)] [] (qI Q)) (H : B_X12_way_53 Q K53 v0 v1 v2 v3 h) : AQ o kX12_way h 53 [(0, .ref v0), (1, .int v1), (2, .int v2), (3, .int v3)] [] (qI Q) := by
  refine a_iload_n 3 rfl rfl dX12_way_53 ?_
  refine a_if_lt (tgt := 197) dX12_way_54 (by decide) (fun c => ?_) (fun c => ?_)
  · have H := H.1 (c)
    refine a_aload_n 0 rfl rfl dX12_way_197 ?_
    refine a_iload_n 1 rfl rfl dX12_way_198 ?_
    refine a_iload_n 2 rfl rfl dX12_way_199 ?_
    refine r_Vv (q := (RX12, TX12, 51)) (av := [.int v1, .int v2]) (rest := []) rfl rfl okX12_makes H.1 rfl rfl wd1195 wd1197 wp32 ⟨Nat.le_of_ble_eq_true rfl, Nat.le_of_ble_eq_true rfl⟩ (Nat.le_of_ble_eq_true rfl) dX12_way_200 (s_X12_makes H.2) (fun h1 H => ?_)
    refine a_aload_n 0 rfl rfl dX12_way_203 ?_
    refine r_gI fo_RX12_184_12 dX12_way_204 H (fun x2 H => ?_)
    refine a_istore_n (lv1 := [(0, .ref v0), (1, .int v1), (2, .int v2), (3, .int x2)]) rfl [1, 2, 3, 0] (by decide) rfl dX12_way_207 ?_
    refine a_iconst (v := (0 : Int32)) (by decide) dX12_way_208 ?_
    refine a_istore (lv1 := [(0, .ref v0), (1, .int v1), (2, .int v2), (3, .int x2), (4, .int (0 : Int32))]) [1, 2, 3, 4, 0] (by decide) rfl dX12_way_209 ?_
    obtain ⟨n, H⟩ := H
    exact l_X12_way_211  n _ _ _ H
  · have H := H.2 (c)
    refine a_aload_n 0 rfl rfl dX12_way_57 ?_
    refine r_gR fo_RX12_90_12 dX12_way_58 H (fun a3 H => ?_)
    refine a_iload_n 3 rfl rfl dX12_way_61 ?_
    refine r_lI dX12_way_62 H (fun x4 H => ?_)
    refine a_istore (lv1 := [(0, .ref v0), (1, .int v1), (2, .int v2), (3, .int v3), (4, .int x4)]) [1, 2, 3, 4, 0] (by decide) rfl dX12_way_63 ?_
    refine a_aload_n 0 rfl rfl dX12_way_65 ?_
    refine r_gR fo_RX12_96_12 dX12_way_66 H (fun a5 H => ?_)
    refine a_iload 4 rfl dX12_way_69 ?_
    refine a_aload_n 0 rfl rfl dX12_way_71 ?_
    refine r_gR fo_RX12_93_12 dX12_way_72 H (fun a6 H => ?_)
    refine a_iload 4 rfl dX12_way_75 ?_
    refine r_lI dX12_way_77 H (fun x7 H => ?_)
    refine a_iload_n 2 rfl rfl dX12_way_78 ?_
    refine a_icmp_ne (tgt := 95) dX12_way_79 (by decide) (fun c => ?_) (fun c => ?_)
    · have H := H.1 (c)
      refine a_iconst (v := (0 : Int32)) (by decide) dX12_way_95 ?_
      refine r_sB dX12_way_96 H (fun h8 H => ?_)
      refine a_iconst (v := (0 : Int32)) (by decide) dX12_way_97 ?_
      refine a_istore (lv1 := [(0, .ref v0), (1, .int v1), (2, .int v2), (3, .int v3), (4, .int x4), (5, .int (0 : Int32))]) [1, 2, 3, 4, 5, 0] (by decide) rfl dX12_way_98 ?_
      obtain ⟨n, H⟩ := H
      exact l_X12_way_100 hK53 n _ _ H
    · have H := H.2 (c)
      refine a_aload_n 0 rfl rfl dX12_way_82 ?_
      refine a_iload 4 rfl dX12_way_83 ?_
      refine r_Vi (q := (RX12, TX12, 51)) (av := [.int x4]) (rest := [.int x4, .ref a5]) rfl rfl okX12_isDone H.1 rfl rfl wd1436 wd1438 wp61 ⟨Nat.le_of_ble_eq_true rfl, Nat.le_of_ble_eq_true rfl⟩ (Nat.le_of_ble_eq_true rfl) dX12_way_85 (s_X12_isDone H.2) (fun x9 h10 H => ?_)
      refine a_if_eq (tgt := 95) dX12_way_88 (by decide) (fun c => ?_) (fun c => ?_)
      · have H := H.1 (c)
        refine a_iconst (v := (0 : Int32)) (by decide) dX12_way_95 ?_
        refine r_sB dX12_way_96 H (fun h11 H => ?_)
        refine a_iconst (v := (0 : Int32)) (by decide) dX12_way_97 ?_
        refine a_istore (lv1 := [(0, .ref v0), (1, .int v1), (2, .int v2), (3, .int v3), (4, .int x4), (5, .int (0 : Int32))]) [1, 2, 3, 4, 5, 0] (by decide) rfl dX12_way_98 ?_
        obtain ⟨n, H⟩ := H
        exact l_X12_way_100 hK53 n _ _ H
      · have H := H.2 (c)
        refine a_iconst (v := (1 : Int32)) (by decide) dX12_way_91 ?_
        refine a_goto (tgt := 96) dX12_way_92 (by decide) ?_
        refine r_sB dX12_way_96 H (fun h12 H => ?_)
        refine a_iconst (v := (0 : Int32)) (by decide) dX12_way_97 ?_
        refine a_istore (lv1 := [(0, .ref v0), (1, .int v1), (2, .int v2), (3, .int v3), (4, .int x4), (5, .int (0 : Int32))]) [1, 2, 3, 4, 5, 0] (by decide) rfl dX12_way_98 ?_
        obtain ⟨n, H⟩ := H
        exact l_X12_way_100 hK53 n _ _ H
def L_X12_way_53 (Q : Int32 → AH → Prop)  (v0 : Nat) (v1 : Int32) (v2 : Int32) : Nat → Int32 → AH → Prop
  | 0, _, _ => False
  | n + 1, v3, h => B_X12_way_53 Q (L_X12_way_53 Q  v0 v1 v2 n) v0 v1 v2 v3 h
theorem l_X12_way_53 {o : Om} {Q : Int32 → AH → Prop}  {v0 : Nat} {v1 : Int32} {v2 : Int32}  : ∀ (n : Nat) (v3 : Int32) (h : AH), L_X12_way_53 Q  v0 v1 v2 n v3 h → AQ o kX12_way h 53 [(0, .ref v0), (1, .int v1), (2, .int v2), (3, .int v3)] [] (qI Q) := by
  intro n
  induction n with
  | zero => intro v3 h H; exact H.elim
  | succ n ih => intro v3 h H; exact b_X12_way_53 ih H
def f_X12_way (v0 : Nat) (v1 : Int32) (h : AH) (Q : Int32 → AH → Prop) : Prop :=
  f_X12_isRow v1 h (fun x1 h2 => ((¬ (x1 = 0) → gI h2 v0 12 9 (fun x3 => ((¬ (x3 = 0) → gI h2 v0 12 16 (fun x4 => isO h2 v0 12 ∧ f_X12_fewestBy v0 x4 h2 (fun x5 h6 => ((¬ (x5 = (-9 : Int32)) → ((x5 ≤ (60 : Int32) → gI h6 v0 12 45 (fun x7 => ∃ n, L_X12_way_53 Q  v0 v1 x5 n (x7 - (1 : Int32)) h6)) ∧ (¬ (x5 ≤ (60 : Int32)) → Q (-6 : Int32) h6))) ∧ (x5 = (-9 : Int32) → Q (-9 : Int32) h6))))) ∧ (x3 = 0 → Q (-4 : Int32) h2)))) ∧ (x1 = 0 → Q (-1 : Int32) h2)))
set_option maxRecDepth 100000 in
set_option maxHeartbeats 4000000 in
theorem s_X12_way {o : Om} {v0 : Nat} {v1 : Int32} {h : AH} {Q : Int32 → AH → Prop} (H : f_X12_way v0 v1 h Q) : MQ' o kX12_way [.ref v0, .int v1] h (qI Q) := by
  refine MQ'.of (by decide +kernel) (Nat.le_of_ble_eq_true rfl) ?_
  show AQ o kX12_way h 0 [(0, .ref v0), (1, .int v1)] [] (qI Q)
  refine a_iload_n 1 rfl rfl dX12_way_0 ?_
  refine r_Si (av := [.int v1]) (rest := []) rfl rfl okX12_isRow wd1184 wd1185 ⟨Nat.le_of_ble_eq_true rfl, Nat.le_of_ble_eq_true rfl⟩ (Nat.le_of_ble_eq_true rfl) dX12_way_1 (s_X12_isRow H) (fun x1 h2 H => ?_)
  refine a_if_ne (tgt := 9) dX12_way_4 (by decide) (fun c => ?_) (fun c => ?_)
  · have H := H.1 (c)
    refine a_aload_n 0 rfl rfl dX12_way_9 ?_
    refine r_gI fo_RX12_175_12 dX12_way_10 H (fun x3 H => ?_)
    refine a_if_ne (tgt := 19) dX12_way_13 (by decide) (fun c => ?_) (fun c => ?_)
    · have H := H.1 (c)
      refine a_aload_n 0 rfl rfl dX12_way_19 ?_
      refine a_aload_n 0 rfl rfl dX12_way_20 ?_
      refine r_gI fo_RX12_187_12 dX12_way_21 H (fun x4 H => ?_)
      refine r_Vi (q := (RX12, TX12, 51)) (av := [.int x4]) (rest := []) rfl rfl okX12_fewestBy H.1 rfl rfl wd1428 wd1430 wp59 ⟨Nat.le_of_ble_eq_true rfl, Nat.le_of_ble_eq_true rfl⟩ (Nat.le_of_ble_eq_true rfl) dX12_way_24 (s_X12_fewestBy H.2) (fun x5 h6 H => ?_)
      refine a_istore_n (lv1 := [(0, .ref v0), (1, .int v1), (2, .int x5)]) rfl [1, 2, 0] (by decide) rfl dX12_way_27 ?_
      refine a_iload_n 2 rfl rfl dX12_way_28 ?_
      refine a_bipush (v := (-9 : Int32)) (by decide) dX12_way_29 ?_
      refine a_icmp_ne (tgt := 37) dX12_way_31 (by decide) (fun c => ?_) (fun c => ?_)
      · have H := H.1 (c)
        refine a_iload_n 2 rfl rfl dX12_way_37 ?_
        refine a_bipush (v := (60 : Int32)) (by decide) dX12_way_38 ?_
        refine a_icmp_le (tgt := 46) dX12_way_40 (by decide) (fun c => ?_) (fun c => ?_)
        · have H := H.1 (c)
          refine a_aload_n 0 rfl rfl dX12_way_46 ?_
          refine r_gI fo_RX12_273_12 dX12_way_47 H (fun x7 H => ?_)
          refine a_iconst (v := (1 : Int32)) (by decide) dX12_way_50 ?_
          refine a_isub dX12_way_51 ?_
          refine a_istore_n (lv1 := [(0, .ref v0), (1, .int v1), (2, .int x5), (3, .int (x7 - (1 : Int32)))]) rfl [1, 2, 3, 0] (by decide) rfl dX12_way_52 ?_
          obtain ⟨n, H⟩ := H
          exact l_X12_way_53  n _ _ H
        · have H := H.2 (c)
          refine a_bipush (v := (-6 : Int32)) (by decide) dX12_way_43 ?_
          exact r_reti rfl dX12_way_45 H
      · have H := H.2 (c)
        refine a_bipush (v := (-9 : Int32)) (by decide) dX12_way_34 ?_
        exact r_reti rfl dX12_way_36 H
    · have H := H.2 (c)
      refine a_bipush (v := (-4 : Int32)) (by decide) dX12_way_16 ?_
      exact r_reti rfl dX12_way_18 H
  · have H := H.2 (c)
    refine a_iconst (v := (-1 : Int32)) (by decide) dX12_way_7 ?_
    exact r_reti rfl dX12_way_8 H
def f_X7_farthest (v0 : Nat) (h : AH) (Q : Int32 → AH → Prop) : Prop :=
  isO h v0 7 ∧ f_X7_explore v0  h (fun h1 => gI h1 v0 7 11 (fun x2 => ((x2 ≤ 0 → Q (0 : Int32) h1) ∧ (¬ (x2 ≤ 0) → gI h1 v0 7 11 (fun x3 => gR h1 v0 7 10 (fun a4 => aL h1 a4 0 (fun x5 => ((x5 < x3 → Q (0 : Int32) h1) ∧ (¬ (x5 < x3) → gR h1 v0 7 10 (fun a6 => gI h1 v0 7 11 (fun x7 => lI h1 a6 (x7 - (1 : Int32)) (fun x8 => isO h1 v0 7 ∧ f_X7_farTo v0 x8 h1 (fun x9 h10 => Q x9 h10)))))))))))))
set_option maxRecDepth 100000 in
set_option maxHeartbeats 4000000 in
theorem s_X7_farthest {o : Om} {v0 : Nat} {h : AH} {Q : Int32 → AH → Prop} (H : f_X7_farthest v0 h Q) : MQ' o kX7_farthest [.ref v0] h (qI Q) := by
  refine MQ'.of (by decide +kernel) (Nat.le_of_ble_eq_true rfl) ?_
  show AQ o kX7_farthest h 0 [(0, .ref v0)] [] (qI Q)
  refine a_aload_n 0 rfl rfl dX7_farthest_0 ?_
  refine r_Vv (q := (RX7, TX7, 17)) (av := []) (rest := []) rfl rfl okX7_explore H.1 rfl rfl wd829 wd831 wp20 ⟨Nat.le_of_ble_eq_true rfl, Nat.le_of_ble_eq_true rfl⟩ (Nat.le_of_ble_eq_true rfl) dX7_farthest_1 (s_X7_explore H.2) (fun h1 H => ?_)
  refine a_aload_n 0 rfl rfl dX7_farthest_4 ?_
  refine r_gI fo_RX7_41_7 dX7_farthest_5 H (fun x2 H => ?_)
  refine a_if_le (tgt := 41) dX7_farthest_8 (by decide) (fun c => ?_) (fun c => ?_)
  · have H := H.1 (c)
    refine a_iconst (v := (0 : Int32)) (by decide) dX7_farthest_41 ?_
    exact r_reti rfl dX7_farthest_42 H
  · have H := H.2 (c)
    refine a_aload_n 0 rfl rfl dX7_farthest_11 ?_
    refine r_gI fo_RX7_41_7 dX7_farthest_12 H (fun x3 H => ?_)
    refine a_aload_n 0 rfl rfl dX7_farthest_15 ?_
    refine r_gR fo_RX7_38_7 dX7_farthest_16 H (fun a4 H => ?_)
    refine r_aL (by decide) dX7_farthest_19 H (fun x5 H => ?_)
    refine a_icmp_gt (tgt := 41) dX7_farthest_20 (by decide) (fun c => ?_) (fun c => ?_)
    · have H := H.1 (c)
      refine a_iconst (v := (0 : Int32)) (by decide) dX7_farthest_41 ?_
      exact r_reti rfl dX7_farthest_42 H
    · have H := H.2 (c)
      refine a_aload_n 0 rfl rfl dX7_farthest_23 ?_
      refine a_aload_n 0 rfl rfl dX7_farthest_24 ?_
      refine r_gR fo_RX7_38_7 dX7_farthest_25 H (fun a6 H => ?_)
      refine a_aload_n 0 rfl rfl dX7_farthest_28 ?_
      refine r_gI fo_RX7_41_7 dX7_farthest_29 H (fun x7 H => ?_)
      refine a_iconst (v := (1 : Int32)) (by decide) dX7_farthest_32 ?_
      refine a_isub dX7_farthest_33 ?_
      refine r_lI dX7_farthest_34 H (fun x8 H => ?_)
      refine r_Vi (q := (RX7, TX7, 17)) (av := [.int x8]) (rest := []) rfl rfl okX7_farTo H.1 rfl rfl wd846 wd847 wd848 ⟨Nat.le_of_ble_eq_true rfl, Nat.le_of_ble_eq_true rfl⟩ (Nat.le_of_ble_eq_true rfl) dX7_farthest_35 (s_X7_farTo H.2) (fun x9 h10 H => ?_)
      refine a_goto (tgt := 42) dX7_farthest_38 (by decide) ?_
      exact r_reti rfl dX7_farthest_42 H
def f_X7_reached (v0 : Nat) (h : AH) (Q : Int32 → AH → Prop) : Prop :=
  isO h v0 7 ∧ f_X7_explore v0  h (fun h1 => gI h1 v0 7 11 (fun x2 => Q x2 h1))
set_option maxRecDepth 100000 in
set_option maxHeartbeats 4000000 in
theorem s_X7_reached {o : Om} {v0 : Nat} {h : AH} {Q : Int32 → AH → Prop} (H : f_X7_reached v0 h Q) : MQ' o kX7_reached [.ref v0] h (qI Q) := by
  refine MQ'.of (by decide +kernel) (Nat.le_of_ble_eq_true rfl) ?_
  show AQ o kX7_reached h 0 [(0, .ref v0)] [] (qI Q)
  refine a_aload_n 0 rfl rfl dX7_reached_0 ?_
  refine r_Vv (q := (RX7, TX7, 17)) (av := []) (rest := []) rfl rfl okX7_explore H.1 rfl rfl wd829 wd831 wp20 ⟨Nat.le_of_ble_eq_true rfl, Nat.le_of_ble_eq_true rfl⟩ (Nat.le_of_ble_eq_true rfl) dX7_reached_1 (s_X7_explore H.2) (fun h1 H => ?_)
  refine a_aload_n 0 rfl rfl dX7_reached_4 ?_
  refine r_gI fo_RX7_41_7 dX7_reached_5 H (fun x2 H => ?_)
  exact r_reti rfl dX7_reached_8 H
def f_X11_all (v0 : Nat) (h : AH) (Q : Int32 → AH → Prop) : Prop :=
  gR h v0 11 7 (fun a1 => gR h v0 11 8 (fun a2 => gI h v0 11 9 (fun x3 => gI h v0 11 10 (fun x4 => isO h a1 7 ∧ f_X7_from a1 a2 x3 x4 h (fun h5 => gR h5 v0 11 7 (fun a6 => isO h5 a6 7 ∧ f_X7_farthest a6  h5 (fun x7 h8 => pF h8 v0 11 12 (.int x7) (fun h9 => gR h9 v0 11 7 (fun a10 => isO h9 a10 7 ∧ f_X7_reached a10  h9 (fun x11 h12 => Q x11 h12))))))))))
set_option maxRecDepth 100000 in
set_option maxHeartbeats 4000000 in
theorem s_X11_all {o : Om} {v0 : Nat} {h : AH} {Q : Int32 → AH → Prop} (H : f_X11_all v0 h Q) : MQ' o kX11_all [.ref v0] h (qI Q) := by
  refine MQ'.of (by decide +kernel) (Nat.le_of_ble_eq_true rfl) ?_
  show AQ o kX11_all h 0 [(0, .ref v0)] [] (qI Q)
  refine a_aload_n 0 rfl rfl dX11_all_0 ?_
  refine r_gR fo_RX11_74_11 dX11_all_1 H (fun a1 H => ?_)
  refine a_aload_n 0 rfl rfl dX11_all_4 ?_
  refine r_gR fo_RX11_60_11 dX11_all_5 H (fun a2 H => ?_)
  refine a_aload_n 0 rfl rfl dX11_all_8 ?_
  refine r_gI fo_RX11_34_11 dX11_all_9 H (fun x3 H => ?_)
  refine a_aload_n 0 rfl rfl dX11_all_12 ?_
  refine r_gI fo_RX11_38_11 dX11_all_13 H (fun x4 H => ?_)
  refine r_Vv (q := (RX7, TX7, 17)) (av := [.ref a2, .int x3, .int x4]) (rest := []) rfl rfl okX7_from H.1 rfl rfl wd775 wd776 wd777 ⟨Nat.le_of_ble_eq_true rfl, Nat.le_of_ble_eq_true rfl⟩ (Nat.le_of_ble_eq_true rfl) dX11_all_16 (s_X7_from H.2) (fun h5 H => ?_)
  refine a_aload_n 0 rfl rfl dX11_all_19 ?_
  refine a_aload_n 0 rfl rfl dX11_all_20 ?_
  refine r_gR fo_RX11_74_11 dX11_all_21 H (fun a6 H => ?_)
  refine r_Vi (q := (RX7, TX7, 17)) (av := []) (rest := [.ref v0]) rfl rfl okX7_farthest H.1 rfl rfl wd872 wd873 wd874 ⟨Nat.le_of_ble_eq_true rfl, Nat.le_of_ble_eq_true rfl⟩ (Nat.le_of_ble_eq_true rfl) dX11_all_24 (s_X7_farthest H.2) (fun x7 h8 H => ?_)
  refine r_pF (po_RX11_44_11 _) (fun _ => rfl) (fun _ => rfl) dX11_all_27 H (fun h9 H => ?_)
  refine a_aload_n 0 rfl rfl dX11_all_30 ?_
  refine r_gR fo_RX11_74_11 dX11_all_31 H (fun a10 H => ?_)
  refine r_Vi (q := (RX7, TX7, 17)) (av := []) (rest := []) rfl rfl okX7_reached H.1 rfl rfl wd876 wd877 wd878 ⟨Nat.le_of_ble_eq_true rfl, Nat.le_of_ble_eq_true rfl⟩ (Nat.le_of_ble_eq_true rfl) dX11_all_34 (s_X7_reached H.2) (fun x11 h12 H => ?_)
  exact r_reti rfl dX11_all_37 H
def f_X12_all (v0 : Nat) (h : AH) (Q : Int32 → AH → Prop) : Prop :=
  gI h v0 12 16 (fun x1 => isO h v0 12 ∧ f_X12_goesOut v0 x1 h (fun h2 => gR h2 v0 12 43 (fun a3 => gR h2 v0 12 42 (fun a4 => gI h2 v0 12 45 (fun x5 => lI h2 a4 (x5 - (1 : Int32)) (fun x6 => lI h2 a3 x6 (fun x7 => pF h2 v0 12 4 (.int x7) (fun h8 => gI h8 v0 12 45 (fun x9 => Q x9 h8)))))))))
set_option maxRecDepth 100000 in
set_option maxHeartbeats 4000000 in
theorem s_X12_all {o : Om} {v0 : Nat} {h : AH} {Q : Int32 → AH → Prop} (H : f_X12_all v0 h Q) : MQ' o kX12_all [.ref v0] h (qI Q) := by
  refine MQ'.of (by decide +kernel) (Nat.le_of_ble_eq_true rfl) ?_
  show AQ o kX12_all h 0 [(0, .ref v0)] [] (qI Q)
  refine a_aload_n 0 rfl rfl dX12_all_0 ?_
  refine a_aload_n 0 rfl rfl dX12_all_1 ?_
  refine r_gI fo_RX12_187_12 dX12_all_2 H (fun x1 H => ?_)
  refine r_Vv (q := (RX12, TX12, 51)) (av := [.int x1]) (rest := []) rfl rfl okX12_goesOut H.1 rfl rfl wd1432 wd1434 wp60 ⟨Nat.le_of_ble_eq_true rfl, Nat.le_of_ble_eq_true rfl⟩ (Nat.le_of_ble_eq_true rfl) dX12_all_5 (s_X12_goesOut H.2) (fun h2 H => ?_)
  refine a_aload_n 0 rfl rfl dX12_all_8 ?_
  refine a_aload_n 0 rfl rfl dX12_all_9 ?_
  refine r_gR fo_RX12_93_12 dX12_all_10 H (fun a3 H => ?_)
  refine a_aload_n 0 rfl rfl dX12_all_13 ?_
  refine r_gR fo_RX12_90_12 dX12_all_14 H (fun a4 H => ?_)
  refine a_aload_n 0 rfl rfl dX12_all_17 ?_
  refine r_gI fo_RX12_273_12 dX12_all_18 H (fun x5 H => ?_)
  refine a_iconst (v := (1 : Int32)) (by decide) dX12_all_21 ?_
  refine a_isub dX12_all_22 ?_
  refine r_lI dX12_all_23 H (fun x6 H => ?_)
  refine r_lI dX12_all_24 H (fun x7 H => ?_)
  refine r_pF (po_RX12_104_12 _) (fun _ => rfl) (fun _ => rfl) dX12_all_25 H (fun h8 H => ?_)
  refine a_aload_n 0 rfl rfl dX12_all_28 ?_
  refine r_gI fo_RX12_273_12 dX12_all_29 H (fun x9 H => ?_)
  exact r_reti rfl dX12_all_32 H
def B_X11_best_90 (Q : Int32 → AH → Prop) (K20 : Int32 → Int32 → Int32 → AH → Prop) (v0 : Nat) (v3 : Int32) (v5 : Int32) (h : AH) : Prop :=
  K20 v3 v5 (v3 + 1) h
set_option maxRecDepth 100000 in
set_option maxHeartbeats 4000000 in
theorem b_X11_best_90 {o : Om} {Q : Int32 → AH → Prop} {K20 : Int32 → Int32 → Int32 → AH → Prop} {v0 : Nat} {v3 : Int32} {v5 : Int32} {h : AH} (hK20 : ∀ w1 w2 w3 h, K20 w1 w2 w3 h → AQ o kX11_best h 20 [(0, .ref v0), (1, .int w1), (2, .int w2), (3, .int w3)] [] (qI Q)) (H : B_X11_best_90 Q K20 v0 v3 v5 h) : AQ o kX11_best h 90 [(0, .ref v0), (3, .int v3), (5, .int v5)] [] (qI Q) := by
  refine a_iload_n 1 rfl rfl dX11_best_90 ?_
  refine a_istore_n (lv1 := [(0, .ref v0), (1, .int v3), (3, .int v3), (5, .int v5)]) rfl [1, 0, 2, 3] (by decide) rfl dX11_best_91 ?_
  refine a_iload 3 rfl dX11_best_92 ?_
  refine a_istore_n (lv1 := [(0, .ref v0), (1, .int v3), (2, .int v5), (3, .int v3), (5, .int v5)]) rfl [1, 2, 0, 3, 4] (by decide) rfl dX11_best_94 ?_
  refine a_iinc (v := v3 + 1) (lv1 := [(0, .ref v0), (1, .int v3), (2, .int v5), (3, .int (v3 + 1)), (5, .int v5)]) [1, 2, 3, 0, 4] 3 rfl (by decide) rfl rfl dX11_best_95 ?_
  refine a_goto (tgt := 20) dX11_best_98 (by decide) ?_
  refine AQ.sub (lv1 := [(0, .ref v0), (1, .int v3), (2, .int v5), (3, .int (v3 + 1))]) [0, 1, 2, 3] rfl ?_
  exact hK20 _ _ _ _ H
def B_X11_best_69 (Q : Int32 → AH → Prop) (K20 : Int32 → Int32 → Int32 → AH → Prop) (v0 : Nat) (v1 : Int32) (v2 : Int32) (v3 : Int32) (t0 : Int32) (h : AH) : Prop :=
  ((t0 = (-9 : Int32) → K20 v1 v2 (v3 + 1) h) ∧ (¬ (t0 = (-9 : Int32)) → ((v2 = (-9 : Int32) → B_X11_best_90 Q K20 v0 v3 t0 h) ∧ (¬ (v2 = (-9 : Int32)) → ((v2 ≤ t0 → K20 v1 v2 (v3 + 1) h) ∧ (¬ (v2 ≤ t0) → B_X11_best_90 Q K20 v0 v3 t0 h))))))
set_option maxRecDepth 100000 in
set_option maxHeartbeats 4000000 in
theorem b_X11_best_69 {o : Om} {Q : Int32 → AH → Prop} {K20 : Int32 → Int32 → Int32 → AH → Prop} {v0 : Nat} {v1 : Int32} {v2 : Int32} {v3 : Int32} {t0 : Int32} {h : AH} (hK20 : ∀ w1 w2 w3 h, K20 w1 w2 w3 h → AQ o kX11_best h 20 [(0, .ref v0), (1, .int w1), (2, .int w2), (3, .int w3)] [] (qI Q)) (H : B_X11_best_69 Q K20 v0 v1 v2 v3 t0 h) : AQ o kX11_best h 69 [(0, .ref v0), (1, .int v1), (2, .int v2), (3, .int v3)] [.int t0] (qI Q) := by
  refine a_istore (lv1 := [(0, .ref v0), (1, .int v1), (2, .int v2), (3, .int v3), (5, .int t0)]) [1, 2, 3, 4, 0] (by decide) rfl dX11_best_69 ?_
  refine a_iload 4 rfl dX11_best_71 ?_
  refine a_bipush (v := (-9 : Int32)) (by decide) dX11_best_73 ?_
  refine a_icmp_eq (tgt := 95) dX11_best_75 (by decide) (fun c => ?_) (fun c => ?_)
  · have H := H.1 (c)
    refine a_iinc (v := v3 + 1) (lv1 := [(0, .ref v0), (1, .int v1), (2, .int v2), (3, .int (v3 + 1)), (5, .int t0)]) [1, 2, 3, 0, 4] 3 rfl (by decide) rfl rfl dX11_best_95 ?_
    refine a_goto (tgt := 20) dX11_best_98 (by decide) ?_
    refine AQ.sub (lv1 := [(0, .ref v0), (1, .int v1), (2, .int v2), (3, .int (v3 + 1))]) [0, 1, 2, 3] rfl ?_
    exact hK20 _ _ _ _ H
  · have H := H.2 (c)
    refine a_iload_n 2 rfl rfl dX11_best_78 ?_
    refine a_bipush (v := (-9 : Int32)) (by decide) dX11_best_79 ?_
    refine a_icmp_eq (tgt := 90) dX11_best_81 (by decide) (fun c => ?_) (fun c => ?_)
    · have H := H.1 (c)
      refine AQ.sub (lv1 := [(0, .ref v0), (3, .int v3), (5, .int t0)]) [0, 3, 4] rfl ?_
      exact b_X11_best_90 hK20 H
    · have H := H.2 (c)
      refine a_iload 4 rfl dX11_best_84 ?_
      refine a_iload_n 2 rfl rfl dX11_best_86 ?_
      refine a_icmp_ge (tgt := 95) dX11_best_87 (by decide) (fun c => ?_) (fun c => ?_)
      · have H := H.1 (c)
        refine a_iinc (v := v3 + 1) (lv1 := [(0, .ref v0), (1, .int v1), (2, .int v2), (3, .int (v3 + 1)), (5, .int t0)]) [1, 2, 3, 0, 4] 3 rfl (by decide) rfl rfl dX11_best_95 ?_
        refine a_goto (tgt := 20) dX11_best_98 (by decide) ?_
        refine AQ.sub (lv1 := [(0, .ref v0), (1, .int v1), (2, .int v2), (3, .int (v3 + 1))]) [0, 1, 2, 3] rfl ?_
        exact hK20 _ _ _ _ H
      · have H := H.2 (c)
        refine AQ.sub (lv1 := [(0, .ref v0), (3, .int v3), (5, .int t0)]) [0, 3, 4] rfl ?_
        exact b_X11_best_90 hK20 H
def B_X11_best_20 (Q : Int32 → AH → Prop) (K20 : Int32 → Int32 → Int32 → AH → Prop) (v0 : Nat) (v1 : Int32) (v2 : Int32) (v3 : Int32) (h : AH) : Prop :=
  (((3 : Int32) ≤ v3 → pF h v0 11 12 (.int v2) (fun h1 => Q v1 h1)) ∧ (¬ ((3 : Int32) ≤ v3) → gR h v0 11 7 (fun a2 => gR h v0 11 8 (fun a3 => gI h v0 11 9 (fun x4 => isO h a2 7 ∧ f_X7_from a2 a3 x4 v3 h (fun h5 => gR h5 v0 11 7 (fun a6 => isO h5 a6 7 ∧ f_X7_firstHome a6  h5 (fun x7 h8 => ((0 ≤ x7 → gR h8 v0 11 7 (fun a9 => isO h8 a9 7 ∧ f_X7_farTo a9 x7 h8 (fun x10 h11 => B_X11_best_69 Q K20 v0 v1 v2 v3 x10 h11))) ∧ (¬ (0 ≤ x7) → B_X11_best_69 Q K20 v0 v1 v2 v3 (-9 : Int32) h8))))))))))
set_option maxRecDepth 100000 in
set_option maxHeartbeats 4000000 in
theorem b_X11_best_20 {o : Om} {Q : Int32 → AH → Prop} {K20 : Int32 → Int32 → Int32 → AH → Prop} {v0 : Nat} {v1 : Int32} {v2 : Int32} {v3 : Int32} {h : AH} (hK20 : ∀ w1 w2 w3 h, K20 w1 w2 w3 h → AQ o kX11_best h 20 [(0, .ref v0), (1, .int w1), (2, .int w2), (3, .int w3)] [] (qI Q)) (H : B_X11_best_20 Q K20 v0 v1 v2 v3 h) : AQ o kX11_best h 20 [(0, .ref v0), (1, .int v1), (2, .int v2), (3, .int v3)] [] (qI Q) := by
  refine a_iload_n 3 rfl rfl dX11_best_20 ?_
  refine a_iconst (v := (3 : Int32)) (by decide) dX11_best_21 ?_
  refine a_icmp_ge (tgt := 101) dX11_best_22 (by decide) (fun c => ?_) (fun c => ?_)
  · have H := H.1 (c)
    refine a_aload_n 0 rfl rfl dX11_best_101 ?_
    refine a_iload_n 2 rfl rfl dX11_best_102 ?_
    refine r_pF (po_RX11_44_11 _) (fun _ => rfl) (fun _ => rfl) dX11_best_103 H (fun h1 H => ?_)
    refine a_iload_n 1 rfl rfl dX11_best_106 ?_
    exact r_reti rfl dX11_best_107 H
  · have H := H.2 (c)
    refine a_aload_n 0 rfl rfl dX11_best_25 ?_
    refine r_gR fo_RX11_74_11 dX11_best_26 H (fun a2 H => ?_)
    refine a_aload_n 0 rfl rfl dX11_best_29 ?_
    refine r_gR fo_RX11_60_11 dX11_best_30 H (fun a3 H => ?_)
    refine a_aload_n 0 rfl rfl dX11_best_33 ?_
    refine r_gI fo_RX11_34_11 dX11_best_34 H (fun x4 H => ?_)
    refine a_iload_n 3 rfl rfl dX11_best_37 ?_
    refine r_Vv (q := (RX7, TX7, 17)) (av := [.ref a3, .int x4, .int v3]) (rest := []) rfl rfl okX7_from H.1 rfl rfl wd775 wd776 wd777 ⟨Nat.le_of_ble_eq_true rfl, Nat.le_of_ble_eq_true rfl⟩ (Nat.le_of_ble_eq_true rfl) dX11_best_38 (s_X7_from H.2) (fun h5 H => ?_)
    refine a_aload_n 0 rfl rfl dX11_best_41 ?_
    refine r_gR fo_RX11_74_11 dX11_best_42 H (fun a6 H => ?_)
    refine r_Vi (q := (RX7, TX7, 17)) (av := []) (rest := []) rfl rfl okX7_firstHome H.1 rfl rfl wd825 wd826 wd827 ⟨Nat.le_of_ble_eq_true rfl, Nat.le_of_ble_eq_true rfl⟩ (Nat.le_of_ble_eq_true rfl) dX11_best_45 (s_X7_firstHome H.2) (fun x7 h8 H => ?_)
    refine a_istore (lv1 := [(0, .ref v0), (1, .int v1), (2, .int v2), (3, .int v3), (4, .int x7)]) [1, 2, 3, 4, 0] (by decide) rfl dX11_best_48 ?_
    refine a_iload 4 rfl dX11_best_50 ?_
    refine a_if_ge (tgt := 60) dX11_best_52 (by decide) (fun c => ?_) (fun c => ?_)
    · have H := H.1 (c)
      refine a_aload_n 0 rfl rfl dX11_best_60 ?_
      refine r_gR fo_RX11_74_11 dX11_best_61 H (fun a9 H => ?_)
      refine a_iload 4 rfl dX11_best_64 ?_
      refine r_Vi (q := (RX7, TX7, 17)) (av := [.int x7]) (rest := []) rfl rfl okX7_farTo H.1 rfl rfl wd858 wd847 wd848 ⟨Nat.le_of_ble_eq_true rfl, Nat.le_of_ble_eq_true rfl⟩ (Nat.le_of_ble_eq_true rfl) dX11_best_66 (s_X7_farTo H.2) (fun x10 h11 H => ?_)
      refine AQ.sub (lv1 := [(0, .ref v0), (1, .int v1), (2, .int v2), (3, .int v3)]) [0, 1, 2, 3] rfl ?_
      exact b_X11_best_69 hK20 H
    · have H := H.2 (c)
      refine a_bipush (v := (-9 : Int32)) (by decide) dX11_best_55 ?_
      refine a_goto (tgt := 69) dX11_best_57 (by decide) ?_
      refine AQ.sub (lv1 := [(0, .ref v0), (1, .int v1), (2, .int v2), (3, .int v3)]) [0, 1, 2, 3] rfl ?_
      exact b_X11_best_69 hK20 H
def L_X11_best_20 (Q : Int32 → AH → Prop)  (v0 : Nat) : Nat → Int32 → Int32 → Int32 → AH → Prop
  | 0, _, _, _, _ => False
  | n + 1, v1, v2, v3, h => B_X11_best_20 Q (L_X11_best_20 Q  v0 n) v0 v1 v2 v3 h
theorem l_X11_best_20 {o : Om} {Q : Int32 → AH → Prop}  {v0 : Nat}  : ∀ (n : Nat) (v1 : Int32) (v2 : Int32) (v3 : Int32) (h : AH), L_X11_best_20 Q  v0 n v1 v2 v3 h → AQ o kX11_best h 20 [(0, .ref v0), (1, .int v1), (2, .int v2), (3, .int v3)] [] (qI Q) := by
  intro n
  induction n with
  | zero => intro v1 v2 v3 h H; exact H.elim
  | succ n ih => intro v1 v2 v3 h H; exact b_X11_best_20 ih H
def f_X11_best (v0 : Nat) (h : AH) (Q : Int32 → AH → Prop) : Prop :=
  gR h v0 11 8 (fun a1 => gI h a1 5 4 (fun x2 => ((¬ (x2 = 0) → ∃ n, L_X11_best_20 Q  v0 n (0 : Int32) (-9 : Int32) (0 : Int32) h) ∧ (x2 = 0 → Q (-4 : Int32) h))))
set_option maxRecDepth 100000 in
set_option maxHeartbeats 4000000 in
theorem s_X11_best {o : Om} {v0 : Nat} {h : AH} {Q : Int32 → AH → Prop} (H : f_X11_best v0 h Q) : MQ' o kX11_best [.ref v0] h (qI Q) := by
  refine MQ'.of (by decide +kernel) (Nat.le_of_ble_eq_true rfl) ?_
  show AQ o kX11_best h 0 [(0, .ref v0)] [] (qI Q)
  refine a_aload_n 0 rfl rfl dX11_best_0 ?_
  refine r_gR fo_RX11_60_11 dX11_best_1 H (fun a1 H => ?_)
  refine r_gI fo_RX11_198_5 dX11_best_4 H (fun x2 H => ?_)
  refine a_if_ne (tgt := 13) dX11_best_7 (by decide) (fun c => ?_) (fun c => ?_)
  · have H := H.1 (c)
    refine a_iconst (v := (0 : Int32)) (by decide) dX11_best_13 ?_
    refine a_istore_n (lv1 := [(0, .ref v0), (1, .int (0 : Int32))]) rfl [1, 0] (by decide) rfl dX11_best_14 ?_
    refine a_bipush (v := (-9 : Int32)) (by decide) dX11_best_15 ?_
    refine a_istore_n (lv1 := [(0, .ref v0), (1, .int (0 : Int32)), (2, .int (-9 : Int32))]) rfl [1, 2, 0] (by decide) rfl dX11_best_17 ?_
    refine a_iconst (v := (0 : Int32)) (by decide) dX11_best_18 ?_
    refine a_istore_n (lv1 := [(0, .ref v0), (1, .int (0 : Int32)), (2, .int (-9 : Int32)), (3, .int (0 : Int32))]) rfl [1, 2, 3, 0] (by decide) rfl dX11_best_19 ?_
    obtain ⟨n, H⟩ := H
    exact l_X11_best_20  n _ _ _ _ H
  · have H := H.2 (c)
    refine a_bipush (v := (-4 : Int32)) (by decide) dX11_best_10 ?_
    exact r_reti rfl dX11_best_12 H
def B_X12_best_48 (Q : Int32 → AH → Prop) (K17 : Int32 → Int32 → Int32 → AH → Prop) (v0 : Nat) (v3 : Int32) (v4 : Int32) (h : AH) : Prop :=
  K17 v3 v4 (v3 + 1) h
set_option maxRecDepth 100000 in
set_option maxHeartbeats 4000000 in
theorem b_X12_best_48 {o : Om} {Q : Int32 → AH → Prop} {K17 : Int32 → Int32 → Int32 → AH → Prop} {v0 : Nat} {v3 : Int32} {v4 : Int32} {h : AH} (hK17 : ∀ w1 w2 w3 h, K17 w1 w2 w3 h → AQ o kX12_best h 17 [(0, .ref v0), (1, .int w1), (2, .int w2), (3, .int w3)] [] (qI Q)) (H : B_X12_best_48 Q K17 v0 v3 v4 h) : AQ o kX12_best h 48 [(0, .ref v0), (3, .int v3), (4, .int v4)] [] (qI Q) := by
  refine a_iload 2 rfl dX12_best_48 ?_
  refine a_istore_n (lv1 := [(0, .ref v0), (2, .int v4), (3, .int v3), (4, .int v4)]) rfl [1, 0, 2, 3] (by decide) rfl dX12_best_50 ?_
  refine a_iload_n 2 rfl rfl dX12_best_51 ?_
  refine a_istore_n (lv1 := [(0, .ref v0), (1, .int v3), (2, .int v4), (3, .int v3), (4, .int v4)]) rfl [1, 0, 2, 3, 4] (by decide) rfl dX12_best_52 ?_
  refine a_iinc (v := v3 + 1) (lv1 := [(0, .ref v0), (1, .int v3), (2, .int v4), (3, .int (v3 + 1)), (4, .int v4)]) [1, 2, 3, 0, 4] 3 rfl (by decide) rfl rfl dX12_best_53 ?_
  refine a_goto (tgt := 17) dX12_best_56 (by decide) ?_
  refine AQ.sub (lv1 := [(0, .ref v0), (1, .int v3), (2, .int v4), (3, .int (v3 + 1))]) [0, 1, 2, 3] rfl ?_
  exact hK17 _ _ _ _ H
def B_X12_best_17 (Q : Int32 → AH → Prop) (K17 : Int32 → Int32 → Int32 → AH → Prop) (v0 : Nat) (v1 : Int32) (v2 : Int32) (v3 : Int32) (h : AH) : Prop :=
  (((3 : Int32) ≤ v3 → pF h v0 12 4 (.int v2) (fun h1 => Q v1 h1)) ∧ (¬ ((3 : Int32) ≤ v3) → isO h v0 12 ∧ f_X12_fewestBy v0 v3 h (fun x2 h3 => ((x2 = (-9 : Int32) → K17 v1 v2 (v3 + 1) h3) ∧ (¬ (x2 = (-9 : Int32)) → ((v2 = (-9 : Int32) → B_X12_best_48 Q K17 v0 v3 x2 h3) ∧ (¬ (v2 = (-9 : Int32)) → ((v2 ≤ x2 → K17 v1 v2 (v3 + 1) h3) ∧ (¬ (v2 ≤ x2) → B_X12_best_48 Q K17 v0 v3 x2 h3)))))))))
set_option maxRecDepth 100000 in
set_option maxHeartbeats 4000000 in
theorem b_X12_best_17 {o : Om} {Q : Int32 → AH → Prop} {K17 : Int32 → Int32 → Int32 → AH → Prop} {v0 : Nat} {v1 : Int32} {v2 : Int32} {v3 : Int32} {h : AH} (hK17 : ∀ w1 w2 w3 h, K17 w1 w2 w3 h → AQ o kX12_best h 17 [(0, .ref v0), (1, .int w1), (2, .int w2), (3, .int w3)] [] (qI Q)) (H : B_X12_best_17 Q K17 v0 v1 v2 v3 h) : AQ o kX12_best h 17 [(0, .ref v0), (1, .int v1), (2, .int v2), (3, .int v3)] [] (qI Q) := by
  refine a_iload_n 3 rfl rfl dX12_best_17 ?_
  refine a_iconst (v := (3 : Int32)) (by decide) dX12_best_18 ?_
  refine a_icmp_ge (tgt := 59) dX12_best_19 (by decide) (fun c => ?_) (fun c => ?_)
  · have H := H.1 (c)
    refine a_aload_n 0 rfl rfl dX12_best_59 ?_
    refine a_iload_n 2 rfl rfl dX12_best_60 ?_
    refine r_pF (po_RX12_104_12 _) (fun _ => rfl) (fun _ => rfl) dX12_best_61 H (fun h1 H => ?_)
    refine a_iload_n 1 rfl rfl dX12_best_64 ?_
    exact r_reti rfl dX12_best_65 H
  · have H := H.2 (c)
    refine a_aload_n 0 rfl rfl dX12_best_22 ?_
    refine a_iload_n 3 rfl rfl dX12_best_23 ?_
    refine r_Vi (q := (RX12, TX12, 51)) (av := [.int v3]) (rest := []) rfl rfl okX12_fewestBy H.1 rfl rfl wd1428 wd1430 wp59 ⟨Nat.le_of_ble_eq_true rfl, Nat.le_of_ble_eq_true rfl⟩ (Nat.le_of_ble_eq_true rfl) dX12_best_24 (s_X12_fewestBy H.2) (fun x2 h3 H => ?_)
    refine a_istore (lv1 := [(0, .ref v0), (1, .int v1), (2, .int v2), (3, .int v3), (4, .int x2)]) [1, 2, 3, 4, 0] (by decide) rfl dX12_best_27 ?_
    refine a_iload 4 rfl dX12_best_29 ?_
    refine a_bipush (v := (-9 : Int32)) (by decide) dX12_best_31 ?_
    refine a_icmp_eq (tgt := 53) dX12_best_33 (by decide) (fun c => ?_) (fun c => ?_)
    · have H := H.1 (c)
      refine a_iinc (v := v3 + 1) (lv1 := [(0, .ref v0), (1, .int v1), (2, .int v2), (3, .int (v3 + 1)), (4, .int x2)]) [1, 2, 3, 0, 4] 3 rfl (by decide) rfl rfl dX12_best_53 ?_
      refine a_goto (tgt := 17) dX12_best_56 (by decide) ?_
      refine AQ.sub (lv1 := [(0, .ref v0), (1, .int v1), (2, .int v2), (3, .int (v3 + 1))]) [0, 1, 2, 3] rfl ?_
      exact hK17 _ _ _ _ H
    · have H := H.2 (c)
      refine a_iload_n 2 rfl rfl dX12_best_36 ?_
      refine a_bipush (v := (-9 : Int32)) (by decide) dX12_best_37 ?_
      refine a_icmp_eq (tgt := 48) dX12_best_39 (by decide) (fun c => ?_) (fun c => ?_)
      · have H := H.1 (c)
        refine AQ.sub (lv1 := [(0, .ref v0), (3, .int v3), (4, .int x2)]) [0, 3, 4] rfl ?_
        exact b_X12_best_48 hK17 H
      · have H := H.2 (c)
        refine a_iload 4 rfl dX12_best_42 ?_
        refine a_iload_n 2 rfl rfl dX12_best_44 ?_
        refine a_icmp_ge (tgt := 53) dX12_best_45 (by decide) (fun c => ?_) (fun c => ?_)
        · have H := H.1 (c)
          refine a_iinc (v := v3 + 1) (lv1 := [(0, .ref v0), (1, .int v1), (2, .int v2), (3, .int (v3 + 1)), (4, .int x2)]) [1, 2, 3, 0, 4] 3 rfl (by decide) rfl rfl dX12_best_53 ?_
          refine a_goto (tgt := 17) dX12_best_56 (by decide) ?_
          refine AQ.sub (lv1 := [(0, .ref v0), (1, .int v1), (2, .int v2), (3, .int (v3 + 1))]) [0, 1, 2, 3] rfl ?_
          exact hK17 _ _ _ _ H
        · have H := H.2 (c)
          refine AQ.sub (lv1 := [(0, .ref v0), (3, .int v3), (4, .int x2)]) [0, 3, 4] rfl ?_
          exact b_X12_best_48 hK17 H
def L_X12_best_17 (Q : Int32 → AH → Prop)  (v0 : Nat) : Nat → Int32 → Int32 → Int32 → AH → Prop
  | 0, _, _, _, _ => False
  | n + 1, v1, v2, v3, h => B_X12_best_17 Q (L_X12_best_17 Q  v0 n) v0 v1 v2 v3 h
theorem l_X12_best_17 {o : Om} {Q : Int32 → AH → Prop}  {v0 : Nat}  : ∀ (n : Nat) (v1 : Int32) (v2 : Int32) (v3 : Int32) (h : AH), L_X12_best_17 Q  v0 n v1 v2 v3 h → AQ o kX12_best h 17 [(0, .ref v0), (1, .int v1), (2, .int v2), (3, .int v3)] [] (qI Q) := by
  intro n
  induction n with
  | zero => intro v1 v2 v3 h H; exact H.elim
  | succ n ih => intro v1 v2 v3 h H; exact b_X12_best_17 ih H
def f_X12_best (v0 : Nat) (h : AH) (Q : Int32 → AH → Prop) : Prop :=
  gI h v0 12 9 (fun x1 => ((¬ (x1 = 0) → ∃ n, L_X12_best_17 Q  v0 n (0 : Int32) (-9 : Int32) (0 : Int32) h) ∧ (x1 = 0 → Q (-4 : Int32) h)))
set_option maxRecDepth 100000 in
set_option maxHeartbeats 4000000 in
theorem s_X12_best {o : Om} {v0 : Nat} {h : AH} {Q : Int32 → AH → Prop} (H : f_X12_best v0 h Q) : MQ' o kX12_best [.ref v0] h (qI Q) := by
  refine MQ'.of (by decide +kernel) (Nat.le_of_ble_eq_true rfl) ?_
  show AQ o kX12_best h 0 [(0, .ref v0)] [] (qI Q)
  refine a_aload_n 0 rfl rfl dX12_best_0 ?_
  refine r_gI fo_RX12_175_12 dX12_best_1 H (fun x1 H => ?_)
  refine a_if_ne (tgt := 10) dX12_best_4 (by decide) (fun c => ?_) (fun c => ?_)
  · have H := H.1 (c)
    refine a_iconst (v := (0 : Int32)) (by decide) dX12_best_10 ?_
    refine a_istore_n (lv1 := [(0, .ref v0), (1, .int (0 : Int32))]) rfl [1, 0] (by decide) rfl dX12_best_11 ?_
    refine a_bipush (v := (-9 : Int32)) (by decide) dX12_best_12 ?_
    refine a_istore_n (lv1 := [(0, .ref v0), (1, .int (0 : Int32)), (2, .int (-9 : Int32))]) rfl [1, 2, 0] (by decide) rfl dX12_best_14 ?_
    refine a_iconst (v := (0 : Int32)) (by decide) dX12_best_15 ?_
    refine a_istore_n (lv1 := [(0, .ref v0), (1, .int (0 : Int32)), (2, .int (-9 : Int32)), (3, .int (0 : Int32))]) rfl [1, 2, 3, 0] (by decide) rfl dX12_best_16 ?_
    obtain ⟨n, H⟩ := H
    exact l_X12_best_17  n _ _ _ _ H
  · have H := H.2 (c)
    refine a_bipush (v := (-4 : Int32)) (by decide) dX12_best_7 ?_
    exact r_reti rfl dX12_best_9 H
def B_X7_leastApart_23 (Q : Int32 → AH → Prop) (K23 : Int32 → Int32 → Int32 → AH → Prop) (v0 : Nat) (v1 : Int32) (v2 : Int32) (v3 : Int32) (h : AH) : Prop :=
  gI h v0 7 11 (fun x1 => ((x1 ≤ v3 → Q v1 h) ∧ (¬ (x1 ≤ v3) → gR h v0 7 10 (fun a2 => aL h a2 0 (fun x3 => ((x3 ≤ v3 → Q v1 h) ∧ (¬ (x3 ≤ v3) → gR h v0 7 4 (fun a4 => gR h v0 7 10 (fun a5 => lI h a5 v3 (fun x6 => isO h a4 5 ∧ f_X5_farFromHome a4 x6 h (fun x7 h8 => ((v2 ≤ x7 → K23 v1 v2 (v3 + 1) h8) ∧ (¬ (v2 ≤ x7) → gR h8 v0 7 10 (fun a9 => lI h8 a9 v3 (fun x10 => K23 x10 x7 (v3 + 1) h8)))))))))))))))
set_option maxRecDepth 100000 in
set_option maxHeartbeats 4000000 in
theorem b_X7_leastApart_23 {o : Om} {Q : Int32 → AH → Prop} {K23 : Int32 → Int32 → Int32 → AH → Prop} {v0 : Nat} {v1 : Int32} {v2 : Int32} {v3 : Int32} {h : AH} (hK23 : ∀ w1 w2 w3 h, K23 w1 w2 w3 h → AQ o kX7_leastApart h 23 [(0, .ref v0), (1, .int w1), (2, .int w2), (3, .int w3)] [] (qI Q)) (H : B_X7_leastApart_23 Q K23 v0 v1 v2 v3 h) : AQ o kX7_leastApart h 23 [(0, .ref v0), (1, .int v1), (2, .int v2), (3, .int v3)] [] (qI Q) := by
  refine a_iload_n 3 rfl rfl dX7_leastApart_23 ?_
  refine a_aload_n 0 rfl rfl dX7_leastApart_24 ?_
  refine r_gI fo_RX7_41_7 dX7_leastApart_25 H (fun x1 H => ?_)
  refine a_icmp_ge (tgt := 77) dX7_leastApart_28 (by decide) (fun c => ?_) (fun c => ?_)
  · have H := H.1 (c)
    refine a_iload_n 1 rfl rfl dX7_leastApart_77 ?_
    exact r_reti rfl dX7_leastApart_78 H
  · have H := H.2 (c)
    refine a_iload_n 3 rfl rfl dX7_leastApart_31 ?_
    refine a_aload_n 0 rfl rfl dX7_leastApart_32 ?_
    refine r_gR fo_RX7_38_7 dX7_leastApart_33 H (fun a2 H => ?_)
    refine r_aL (by decide) dX7_leastApart_36 H (fun x3 H => ?_)
    refine a_icmp_ge (tgt := 77) dX7_leastApart_37 (by decide) (fun c => ?_) (fun c => ?_)
    · have H := H.1 (c)
      refine a_iload_n 1 rfl rfl dX7_leastApart_77 ?_
      exact r_reti rfl dX7_leastApart_78 H
    · have H := H.2 (c)
      refine a_aload_n 0 rfl rfl dX7_leastApart_40 ?_
      refine r_gR fo_RX7_59_7 dX7_leastApart_41 H (fun a4 H => ?_)
      refine a_aload_n 0 rfl rfl dX7_leastApart_44 ?_
      refine r_gR fo_RX7_38_7 dX7_leastApart_45 H (fun a5 H => ?_)
      refine a_iload_n 3 rfl rfl dX7_leastApart_48 ?_
      refine r_lI dX7_leastApart_49 H (fun x6 H => ?_)
      refine r_Vi (q := (RX5, TX5, 10)) (av := [.int x6]) (rest := []) rfl rfl okX5_farFromHome H.1 rfl rfl wd892 wd715 wd716 ⟨Nat.le_of_ble_eq_true rfl, Nat.le_of_ble_eq_true rfl⟩ (Nat.le_of_ble_eq_true rfl) dX7_leastApart_50 (s_X5_farFromHome H.2) (fun x7 h8 H => ?_)
      refine a_istore (lv1 := [(0, .ref v0), (1, .int v1), (2, .int v2), (3, .int v3), (4, .int x7)]) [1, 2, 3, 4, 0] (by decide) rfl dX7_leastApart_53 ?_
      refine a_iload 4 rfl dX7_leastApart_55 ?_
      refine a_iload_n 2 rfl rfl dX7_leastApart_57 ?_
      refine a_icmp_ge (tgt := 71) dX7_leastApart_58 (by decide) (fun c => ?_) (fun c => ?_)
      · have H := H.1 (c)
        refine a_iinc (v := v3 + 1) (lv1 := [(0, .ref v0), (1, .int v1), (2, .int v2), (3, .int (v3 + 1)), (4, .int x7)]) [1, 2, 3, 0, 4] 3 rfl (by decide) rfl rfl dX7_leastApart_71 ?_
        refine a_goto (tgt := 23) dX7_leastApart_74 (by decide) ?_
        refine AQ.sub (lv1 := [(0, .ref v0), (1, .int v1), (2, .int v2), (3, .int (v3 + 1))]) [0, 1, 2, 3] rfl ?_
        exact hK23 _ _ _ _ H
      · have H := H.2 (c)
        refine a_iload 4 rfl dX7_leastApart_61 ?_
        refine a_istore_n (lv1 := [(0, .ref v0), (1, .int v1), (2, .int x7), (3, .int v3), (4, .int x7)]) rfl [1, 2, 0, 3, 4] (by decide) rfl dX7_leastApart_63 ?_
        refine a_aload_n 0 rfl rfl dX7_leastApart_64 ?_
        refine r_gR fo_RX7_38_7 dX7_leastApart_65 H (fun a9 H => ?_)
        refine a_iload_n 3 rfl rfl dX7_leastApart_68 ?_
        refine r_lI dX7_leastApart_69 H (fun x10 H => ?_)
        refine a_istore_n (lv1 := [(0, .ref v0), (1, .int x10), (2, .int x7), (3, .int v3), (4, .int x7)]) rfl [1, 0, 2, 3, 4] (by decide) rfl dX7_leastApart_70 ?_
        refine a_iinc (v := v3 + 1) (lv1 := [(0, .ref v0), (1, .int x10), (2, .int x7), (3, .int (v3 + 1)), (4, .int x7)]) [1, 2, 3, 0, 4] 3 rfl (by decide) rfl rfl dX7_leastApart_71 ?_
        refine a_goto (tgt := 23) dX7_leastApart_74 (by decide) ?_
        refine AQ.sub (lv1 := [(0, .ref v0), (1, .int x10), (2, .int x7), (3, .int (v3 + 1))]) [0, 1, 2, 3] rfl ?_
        exact hK23 _ _ _ _ H
def L_X7_leastApart_23 (Q : Int32 → AH → Prop)  (v0 : Nat) : Nat → Int32 → Int32 → Int32 → AH → Prop
  | 0, _, _, _, _ => False
  | n + 1, v1, v2, v3, h => B_X7_leastApart_23 Q (L_X7_leastApart_23 Q  v0 n) v0 v1 v2 v3 h
theorem l_X7_leastApart_23 {o : Om} {Q : Int32 → AH → Prop}  {v0 : Nat}  : ∀ (n : Nat) (v1 : Int32) (v2 : Int32) (v3 : Int32) (h : AH), L_X7_leastApart_23 Q  v0 n v1 v2 v3 h → AQ o kX7_leastApart h 23 [(0, .ref v0), (1, .int v1), (2, .int v2), (3, .int v3)] [] (qI Q) := by
  intro n
  induction n with
  | zero => intro v1 v2 v3 h H; exact H.elim
  | succ n ih => intro v1 v2 v3 h H; exact b_X7_leastApart_23 ih H
def f_X7_leastApart (v0 : Nat) (h : AH) (Q : Int32 → AH → Prop) : Prop :=
  isO h v0 7 ∧ f_X7_explore v0  h (fun h1 => gI h1 v0 7 5 (fun x2 => gR h1 v0 7 4 (fun a3 => gI h1 v0 7 5 (fun x4 => isO h1 a3 5 ∧ f_X5_farFromHome a3 x4 h1 (fun x5 h6 => ∃ n, L_X7_leastApart_23 Q  v0 n x2 x5 (0 : Int32) h6)))))
set_option maxRecDepth 100000 in
set_option maxHeartbeats 4000000 in
theorem s_X7_leastApart {o : Om} {v0 : Nat} {h : AH} {Q : Int32 → AH → Prop} (H : f_X7_leastApart v0 h Q) : MQ' o kX7_leastApart [.ref v0] h (qI Q) := by
  refine MQ'.of (by decide +kernel) (Nat.le_of_ble_eq_true rfl) ?_
  show AQ o kX7_leastApart h 0 [(0, .ref v0)] [] (qI Q)
  refine a_aload_n 0 rfl rfl dX7_leastApart_0 ?_
  refine r_Vv (q := (RX7, TX7, 17)) (av := []) (rest := []) rfl rfl okX7_explore H.1 rfl rfl wd829 wd831 wp20 ⟨Nat.le_of_ble_eq_true rfl, Nat.le_of_ble_eq_true rfl⟩ (Nat.le_of_ble_eq_true rfl) dX7_leastApart_1 (s_X7_explore H.2) (fun h1 H => ?_)
  refine a_aload_n 0 rfl rfl dX7_leastApart_4 ?_
  refine r_gI fo_RX7_21_7 dX7_leastApart_5 H (fun x2 H => ?_)
  refine a_istore_n (lv1 := [(0, .ref v0), (1, .int x2)]) rfl [1, 0] (by decide) rfl dX7_leastApart_8 ?_
  refine a_aload_n 0 rfl rfl dX7_leastApart_9 ?_
  refine r_gR fo_RX7_59_7 dX7_leastApart_10 H (fun a3 H => ?_)
  refine a_aload_n 0 rfl rfl dX7_leastApart_13 ?_
  refine r_gI fo_RX7_21_7 dX7_leastApart_14 H (fun x4 H => ?_)
  refine r_Vi (q := (RX5, TX5, 10)) (av := [.int x4]) (rest := []) rfl rfl okX5_farFromHome H.1 rfl rfl wd892 wd715 wd716 ⟨Nat.le_of_ble_eq_true rfl, Nat.le_of_ble_eq_true rfl⟩ (Nat.le_of_ble_eq_true rfl) dX7_leastApart_17 (s_X5_farFromHome H.2) (fun x5 h6 H => ?_)
  refine a_istore_n (lv1 := [(0, .ref v0), (1, .int x2), (2, .int x5)]) rfl [1, 2, 0] (by decide) rfl dX7_leastApart_20 ?_
  refine a_iconst (v := (0 : Int32)) (by decide) dX7_leastApart_21 ?_
  refine a_istore_n (lv1 := [(0, .ref v0), (1, .int x2), (2, .int x5), (3, .int (0 : Int32))]) rfl [1, 2, 3, 0] (by decide) rfl dX7_leastApart_22 ?_
  obtain ⟨n, H⟩ := H
  exact l_X7_leastApart_23  n _ _ _ _ H
def f_X11_nearest (v0 : Nat) (h : AH) (Q : Int32 → AH → Prop) : Prop :=
  gR h v0 11 7 (fun a1 => gR h v0 11 8 (fun a2 => gI h v0 11 9 (fun x3 => gI h v0 11 10 (fun x4 => isO h a1 7 ∧ f_X7_from a1 a2 x3 x4 h (fun h5 => gR h5 v0 11 7 (fun a6 => isO h5 a6 7 ∧ f_X7_leastApart a6  h5 (fun x7 h8 => gR h8 v0 11 7 (fun a9 => isO h8 a9 7 ∧ f_X7_farTo a9 x7 h8 (fun x10 h11 => pF h11 v0 11 12 (.int x10) (fun h12 => gR h12 v0 11 8 (fun a13 => isO h12 a13 5 ∧ f_X5_farFromHome a13 x7 h12 (fun x14 h15 => Q x14 h15))))))))))))
set_option maxRecDepth 100000 in
set_option maxHeartbeats 4000000 in
theorem s_X11_nearest {o : Om} {v0 : Nat} {h : AH} {Q : Int32 → AH → Prop} (H : f_X11_nearest v0 h Q) : MQ' o kX11_nearest [.ref v0] h (qI Q) := by
  refine MQ'.of (by decide +kernel) (Nat.le_of_ble_eq_true rfl) ?_
  show AQ o kX11_nearest h 0 [(0, .ref v0)] [] (qI Q)
  refine a_aload_n 0 rfl rfl dX11_nearest_0 ?_
  refine r_gR fo_RX11_74_11 dX11_nearest_1 H (fun a1 H => ?_)
  refine a_aload_n 0 rfl rfl dX11_nearest_4 ?_
  refine r_gR fo_RX11_60_11 dX11_nearest_5 H (fun a2 H => ?_)
  refine a_aload_n 0 rfl rfl dX11_nearest_8 ?_
  refine r_gI fo_RX11_34_11 dX11_nearest_9 H (fun x3 H => ?_)
  refine a_aload_n 0 rfl rfl dX11_nearest_12 ?_
  refine r_gI fo_RX11_38_11 dX11_nearest_13 H (fun x4 H => ?_)
  refine r_Vv (q := (RX7, TX7, 17)) (av := [.ref a2, .int x3, .int x4]) (rest := []) rfl rfl okX7_from H.1 rfl rfl wd775 wd776 wd777 ⟨Nat.le_of_ble_eq_true rfl, Nat.le_of_ble_eq_true rfl⟩ (Nat.le_of_ble_eq_true rfl) dX11_nearest_16 (s_X7_from H.2) (fun h5 H => ?_)
  refine a_aload_n 0 rfl rfl dX11_nearest_19 ?_
  refine r_gR fo_RX11_74_11 dX11_nearest_20 H (fun a6 H => ?_)
  refine r_Vi (q := (RX7, TX7, 17)) (av := []) (rest := []) rfl rfl okX7_leastApart H.1 rfl rfl wd888 wd889 wd890 ⟨Nat.le_of_ble_eq_true rfl, Nat.le_of_ble_eq_true rfl⟩ (Nat.le_of_ble_eq_true rfl) dX11_nearest_23 (s_X7_leastApart H.2) (fun x7 h8 H => ?_)
  refine a_istore_n (lv1 := [(0, .ref v0), (1, .int x7)]) rfl [1, 0] (by decide) rfl dX11_nearest_26 ?_
  refine a_aload_n 0 rfl rfl dX11_nearest_27 ?_
  refine a_aload_n 0 rfl rfl dX11_nearest_28 ?_
  refine r_gR fo_RX11_74_11 dX11_nearest_29 H (fun a9 H => ?_)
  refine a_iload_n 1 rfl rfl dX11_nearest_32 ?_
  refine r_Vi (q := (RX7, TX7, 17)) (av := [.int x7]) (rest := [.ref v0]) rfl rfl okX7_farTo H.1 rfl rfl wd858 wd847 wd848 ⟨Nat.le_of_ble_eq_true rfl, Nat.le_of_ble_eq_true rfl⟩ (Nat.le_of_ble_eq_true rfl) dX11_nearest_33 (s_X7_farTo H.2) (fun x10 h11 H => ?_)
  refine r_pF (po_RX11_44_11 _) (fun _ => rfl) (fun _ => rfl) dX11_nearest_36 H (fun h12 H => ?_)
  refine a_aload_n 0 rfl rfl dX11_nearest_39 ?_
  refine r_gR fo_RX11_60_11 dX11_nearest_40 H (fun a13 H => ?_)
  refine a_iload_n 1 rfl rfl dX11_nearest_43 ?_
  refine r_Vi (q := (RX5, TX5, 10)) (av := [.int x7]) (rest := []) rfl rfl okX5_farFromHome H.1 rfl rfl wd714 wd715 wd716 ⟨Nat.le_of_ble_eq_true rfl, Nat.le_of_ble_eq_true rfl⟩ (Nat.le_of_ble_eq_true rfl) dX11_nearest_44 (s_X5_farFromHome H.2) (fun x14 h15 H => ?_)
  exact r_reti rfl dX11_nearest_47 H
def B_X12_nearest_24 (Q : Int32 → AH → Prop) (K24 : Int32 → Int32 → AH → Prop) (v0 : Nat) (v1 : Int32) (v2 : Int32) (h : AH) : Prop :=
  gI h v0 12 45 (fun x1 => ((x1 ≤ v2 → Q v1 h) ∧ (¬ (x1 ≤ v2) → gR h v0 12 42 (fun a2 => lI h a2 v2 (fun x3 => isO h v0 12 ∧ f_X12_apartOf v0 x3 h (fun x4 h5 => ((v1 ≤ x4 → K24 v1 (v2 + 1) h5) ∧ (¬ (v1 ≤ x4) → gR h5 v0 12 42 (fun a6 => lI h5 a6 v2 (fun x7 => isO h5 v0 12 ∧ f_X12_apartOf v0 x7 h5 (fun x8 h9 => gR h9 v0 12 43 (fun a10 => gR h9 v0 12 42 (fun a11 => lI h9 a11 v2 (fun x12 => lI h9 a10 x12 (fun x13 => pF h9 v0 12 4 (.int x13) (fun h14 => K24 x8 (v2 + 1) h14))))))))))))))))
set_option maxRecDepth 100000 in
set_option maxHeartbeats 4000000 in
theorem b_X12_nearest_24 {o : Om} {Q : Int32 → AH → Prop} {K24 : Int32 → Int32 → AH → Prop} {v0 : Nat} {v1 : Int32} {v2 : Int32} {h : AH} (hK24 : ∀ w1 w2 h, K24 w1 w2 h → AQ o kX12_nearest h 24 [(0, .ref v0), (1, .int w1), (2, .int w2)] [] (qI Q)) (H : B_X12_nearest_24 Q K24 v0 v1 v2 h) : AQ o kX12_nearest h 24 [(0, .ref v0), (1, .int v1), (2, .int v2)] [] (qI Q) := by
  refine a_iload_n 2 rfl rfl dX12_nearest_24 ?_
  refine a_aload_n 0 rfl rfl dX12_nearest_25 ?_
  refine r_gI fo_RX12_273_12 dX12_nearest_26 H (fun x1 H => ?_)
  refine a_icmp_ge (tgt := 78) dX12_nearest_29 (by decide) (fun c => ?_) (fun c => ?_)
  · have H := H.1 (c)
    refine a_iload_n 1 rfl rfl dX12_nearest_78 ?_
    exact r_reti rfl dX12_nearest_79 H
  · have H := H.2 (c)
    refine a_aload_n 0 rfl rfl dX12_nearest_32 ?_
    refine a_aload_n 0 rfl rfl dX12_nearest_33 ?_
    refine r_gR fo_RX12_90_12 dX12_nearest_34 H (fun a2 H => ?_)
    refine a_iload_n 2 rfl rfl dX12_nearest_37 ?_
    refine r_lI dX12_nearest_38 H (fun x3 H => ?_)
    refine r_Vi (q := (RX12, TX12, 51)) (av := [.int x3]) (rest := []) rfl rfl okX12_apartOf H.1 rfl rfl wd1355 wd1357 wp52 ⟨Nat.le_of_ble_eq_true rfl, Nat.le_of_ble_eq_true rfl⟩ (Nat.le_of_ble_eq_true rfl) dX12_nearest_39 (s_X12_apartOf H.2) (fun x4 h5 H => ?_)
    refine a_iload_n 1 rfl rfl dX12_nearest_42 ?_
    refine a_icmp_ge (tgt := 72) dX12_nearest_43 (by decide) (fun c => ?_) (fun c => ?_)
    · have H := H.1 (c)
      refine a_iinc (v := v2 + 1) (lv1 := [(0, .ref v0), (1, .int v1), (2, .int (v2 + 1))]) [1, 2, 0] 2 rfl (by decide) rfl rfl dX12_nearest_72 ?_
      refine a_goto (tgt := 24) dX12_nearest_75 (by decide) ?_
      exact hK24 _ _ _ H
    · have H := H.2 (c)
      refine a_aload_n 0 rfl rfl dX12_nearest_46 ?_
      refine a_aload_n 0 rfl rfl dX12_nearest_47 ?_
      refine r_gR fo_RX12_90_12 dX12_nearest_48 H (fun a6 H => ?_)
      refine a_iload_n 2 rfl rfl dX12_nearest_51 ?_
      refine r_lI dX12_nearest_52 H (fun x7 H => ?_)
      refine r_Vi (q := (RX12, TX12, 51)) (av := [.int x7]) (rest := []) rfl rfl okX12_apartOf H.1 rfl rfl wd1355 wd1357 wp52 ⟨Nat.le_of_ble_eq_true rfl, Nat.le_of_ble_eq_true rfl⟩ (Nat.le_of_ble_eq_true rfl) dX12_nearest_53 (s_X12_apartOf H.2) (fun x8 h9 H => ?_)
      refine a_istore_n (lv1 := [(0, .ref v0), (1, .int x8), (2, .int v2)]) rfl [1, 0, 2] (by decide) rfl dX12_nearest_56 ?_
      refine a_aload_n 0 rfl rfl dX12_nearest_57 ?_
      refine a_aload_n 0 rfl rfl dX12_nearest_58 ?_
      refine r_gR fo_RX12_93_12 dX12_nearest_59 H (fun a10 H => ?_)
      refine a_aload_n 0 rfl rfl dX12_nearest_62 ?_
      refine r_gR fo_RX12_90_12 dX12_nearest_63 H (fun a11 H => ?_)
      refine a_iload_n 2 rfl rfl dX12_nearest_66 ?_
      refine r_lI dX12_nearest_67 H (fun x12 H => ?_)
      refine r_lI dX12_nearest_68 H (fun x13 H => ?_)
      refine r_pF (po_RX12_104_12 _) (fun _ => rfl) (fun _ => rfl) dX12_nearest_69 H (fun h14 H => ?_)
      refine a_iinc (v := v2 + 1) (lv1 := [(0, .ref v0), (1, .int x8), (2, .int (v2 + 1))]) [1, 2, 0] 2 rfl (by decide) rfl rfl dX12_nearest_72 ?_
      refine a_goto (tgt := 24) dX12_nearest_75 (by decide) ?_
      exact hK24 _ _ _ H
def L_X12_nearest_24 (Q : Int32 → AH → Prop)  (v0 : Nat) : Nat → Int32 → Int32 → AH → Prop
  | 0, _, _, _ => False
  | n + 1, v1, v2, h => B_X12_nearest_24 Q (L_X12_nearest_24 Q  v0 n) v0 v1 v2 h
theorem l_X12_nearest_24 {o : Om} {Q : Int32 → AH → Prop}  {v0 : Nat}  : ∀ (n : Nat) (v1 : Int32) (v2 : Int32) (h : AH), L_X12_nearest_24 Q  v0 n v1 v2 h → AQ o kX12_nearest h 24 [(0, .ref v0), (1, .int v1), (2, .int v2)] [] (qI Q) := by
  intro n
  induction n with
  | zero => intro v1 v2 h H; exact H.elim
  | succ n ih => intro v1 v2 h H; exact b_X12_nearest_24 ih H
def f_X12_nearest (v0 : Nat) (h : AH) (Q : Int32 → AH → Prop) : Prop :=
  gI h v0 12 16 (fun x1 => isO h v0 12 ∧ f_X12_goesOut v0 x1 h (fun h2 => gI h2 v0 12 17 (fun x3 => isO h2 v0 12 ∧ f_X12_apartOf v0 x3 h2 (fun x4 h5 => pF h5 v0 12 4 (.int (0 : Int32)) (fun h6 => ∃ n, L_X12_nearest_24 Q  v0 n x4 (1 : Int32) h6)))))
set_option maxRecDepth 100000 in
set_option maxHeartbeats 4000000 in
theorem s_X12_nearest {o : Om} {v0 : Nat} {h : AH} {Q : Int32 → AH → Prop} (H : f_X12_nearest v0 h Q) : MQ' o kX12_nearest [.ref v0] h (qI Q) := by
  refine MQ'.of (by decide +kernel) (Nat.le_of_ble_eq_true rfl) ?_
  show AQ o kX12_nearest h 0 [(0, .ref v0)] [] (qI Q)
  refine a_aload_n 0 rfl rfl dX12_nearest_0 ?_
  refine a_aload_n 0 rfl rfl dX12_nearest_1 ?_
  refine r_gI fo_RX12_187_12 dX12_nearest_2 H (fun x1 H => ?_)
  refine r_Vv (q := (RX12, TX12, 51)) (av := [.int x1]) (rest := []) rfl rfl okX12_goesOut H.1 rfl rfl wd1432 wd1434 wp60 ⟨Nat.le_of_ble_eq_true rfl, Nat.le_of_ble_eq_true rfl⟩ (Nat.le_of_ble_eq_true rfl) dX12_nearest_5 (s_X12_goesOut H.2) (fun h2 H => ?_)
  refine a_aload_n 0 rfl rfl dX12_nearest_8 ?_
  refine a_aload_n 0 rfl rfl dX12_nearest_9 ?_
  refine r_gI fo_RX12_184_12 dX12_nearest_10 H (fun x3 H => ?_)
  refine r_Vi (q := (RX12, TX12, 51)) (av := [.int x3]) (rest := []) rfl rfl okX12_apartOf H.1 rfl rfl wd1355 wd1357 wp52 ⟨Nat.le_of_ble_eq_true rfl, Nat.le_of_ble_eq_true rfl⟩ (Nat.le_of_ble_eq_true rfl) dX12_nearest_13 (s_X12_apartOf H.2) (fun x4 h5 H => ?_)
  refine a_istore_n (lv1 := [(0, .ref v0), (1, .int x4)]) rfl [1, 0] (by decide) rfl dX12_nearest_16 ?_
  refine a_aload_n 0 rfl rfl dX12_nearest_17 ?_
  refine a_iconst (v := (0 : Int32)) (by decide) dX12_nearest_18 ?_
  refine r_pF (po_RX12_104_12 _) (fun _ => rfl) (fun _ => rfl) dX12_nearest_19 H (fun h6 H => ?_)
  refine a_iconst (v := (1 : Int32)) (by decide) dX12_nearest_22 ?_
  refine a_istore_n (lv1 := [(0, .ref v0), (1, .int x4), (2, .int (1 : Int32))]) rfl [1, 2, 0] (by decide) rfl dX12_nearest_23 ?_
  obtain ⟨n, H⟩ := H
  exact l_X12_nearest_24  n _ _ _ H
def B_X7_firstWith_6 (Q : Int32 → AH → Prop) (K6 : Int32 → AH → Prop) (v0 : Nat) (v1 : Int32) (v2 : Int32) (v3 : Int32) (h : AH) : Prop :=
  gI h v0 7 11 (fun x1 => ((x1 ≤ v3 → Q (-1 : Int32) h) ∧ (¬ (x1 ≤ v3) → gR h v0 7 10 (fun a2 => aL h a2 0 (fun x3 => ((x3 ≤ v3 → Q (-1 : Int32) h) ∧ (¬ (x3 ≤ v3) → gR h v0 7 10 (fun a4 => lI h a4 v3 (fun x5 => f_X5_postOf x5 v1 h (fun x6 h7 => ((¬ (x6 = v2) → K6 (v3 + 1) h7) ∧ (x6 = v2 → gR h7 v0 7 10 (fun a8 => lI h7 a8 v3 (fun x9 => Q x9 h7))))))))))))))
set_option maxRecDepth 100000 in
set_option maxHeartbeats 4000000 in
theorem b_X7_firstWith_6 {o : Om} {Q : Int32 → AH → Prop} {K6 : Int32 → AH → Prop} {v0 : Nat} {v1 : Int32} {v2 : Int32} {v3 : Int32} {h : AH} (hK6 : ∀ w3 h, K6 w3 h → AQ o kX7_firstWith h 6 [(0, .ref v0), (1, .int v1), (2, .int v2), (3, .int w3)] [] (qI Q)) (H : B_X7_firstWith_6 Q K6 v0 v1 v2 v3 h) : AQ o kX7_firstWith h 6 [(0, .ref v0), (1, .int v1), (2, .int v2), (3, .int v3)] [] (qI Q) := by
  refine a_iload_n 3 rfl rfl dX7_firstWith_6 ?_
  refine a_aload_n 0 rfl rfl dX7_firstWith_7 ?_
  refine r_gI fo_RX7_41_7 dX7_firstWith_8 H (fun x1 H => ?_)
  refine a_icmp_ge (tgt := 50) dX7_firstWith_11 (by decide) (fun c => ?_) (fun c => ?_)
  · have H := H.1 (c)
    refine a_iconst (v := (-1 : Int32)) (by decide) dX7_firstWith_50 ?_
    exact r_reti rfl dX7_firstWith_51 H
  · have H := H.2 (c)
    refine a_iload_n 3 rfl rfl dX7_firstWith_14 ?_
    refine a_aload_n 0 rfl rfl dX7_firstWith_15 ?_
    refine r_gR fo_RX7_38_7 dX7_firstWith_16 H (fun a2 H => ?_)
    refine r_aL (by decide) dX7_firstWith_19 H (fun x3 H => ?_)
    refine a_icmp_ge (tgt := 50) dX7_firstWith_20 (by decide) (fun c => ?_) (fun c => ?_)
    · have H := H.1 (c)
      refine a_iconst (v := (-1 : Int32)) (by decide) dX7_firstWith_50 ?_
      exact r_reti rfl dX7_firstWith_51 H
    · have H := H.2 (c)
      refine a_aload_n 0 rfl rfl dX7_firstWith_23 ?_
      refine r_gR fo_RX7_38_7 dX7_firstWith_24 H (fun a4 H => ?_)
      refine a_iload_n 3 rfl rfl dX7_firstWith_27 ?_
      refine r_lI dX7_firstWith_28 H (fun x5 H => ?_)
      refine a_iload_n 1 rfl rfl dX7_firstWith_29 ?_
      refine r_Si (av := [.int x5, .int v1]) (rest := []) rfl rfl okX5_postOf wd901 wd519 ⟨Nat.le_of_ble_eq_true rfl, Nat.le_of_ble_eq_true rfl⟩ (Nat.le_of_ble_eq_true rfl) dX7_firstWith_30 (s_X5_postOf H) (fun x6 h7 H => ?_)
      refine a_iload_n 2 rfl rfl dX7_firstWith_33 ?_
      refine a_icmp_ne (tgt := 44) dX7_firstWith_34 (by decide) (fun c => ?_) (fun c => ?_)
      · have H := H.1 (c)
        refine a_iinc (v := v3 + 1) (lv1 := [(0, .ref v0), (1, .int v1), (2, .int v2), (3, .int (v3 + 1))]) [1, 2, 3, 0] 3 rfl (by decide) rfl rfl dX7_firstWith_44 ?_
        refine a_goto (tgt := 6) dX7_firstWith_47 (by decide) ?_
        exact hK6 _ _ H
      · have H := H.2 (c)
        refine a_aload_n 0 rfl rfl dX7_firstWith_37 ?_
        refine r_gR fo_RX7_38_7 dX7_firstWith_38 H (fun a8 H => ?_)
        refine a_iload_n 3 rfl rfl dX7_firstWith_41 ?_
        refine r_lI dX7_firstWith_42 H (fun x9 H => ?_)
        exact r_reti rfl dX7_firstWith_43 H
def L_X7_firstWith_6 (Q : Int32 → AH → Prop)  (v0 : Nat) (v1 : Int32) (v2 : Int32) : Nat → Int32 → AH → Prop
  | 0, _, _ => False
  | n + 1, v3, h => B_X7_firstWith_6 Q (L_X7_firstWith_6 Q  v0 v1 v2 n) v0 v1 v2 v3 h
theorem l_X7_firstWith_6 {o : Om} {Q : Int32 → AH → Prop}  {v0 : Nat} {v1 : Int32} {v2 : Int32}  : ∀ (n : Nat) (v3 : Int32) (h : AH), L_X7_firstWith_6 Q  v0 v1 v2 n v3 h → AQ o kX7_firstWith h 6 [(0, .ref v0), (1, .int v1), (2, .int v2), (3, .int v3)] [] (qI Q) := by
  intro n
  induction n with
  | zero => intro v3 h H; exact H.elim
  | succ n ih => intro v3 h H; exact b_X7_firstWith_6 ih H
def f_X7_firstWith (v0 : Nat) (v1 : Int32) (v2 : Int32) (h : AH) (Q : Int32 → AH → Prop) : Prop :=
  isO h v0 7 ∧ f_X7_explore v0  h (fun h1 => ∃ n, L_X7_firstWith_6 Q  v0 v1 v2 n (0 : Int32) h1)
set_option maxRecDepth 100000 in
set_option maxHeartbeats 4000000 in
theorem s_X7_firstWith {o : Om} {v0 : Nat} {v1 : Int32} {v2 : Int32} {h : AH} {Q : Int32 → AH → Prop} (H : f_X7_firstWith v0 v1 v2 h Q) : MQ' o kX7_firstWith [.ref v0, .int v1, .int v2] h (qI Q) := by
  refine MQ'.of (by decide +kernel) (Nat.le_of_ble_eq_true rfl) ?_
  show AQ o kX7_firstWith h 0 [(0, .ref v0), (1, .int v1), (2, .int v2)] [] (qI Q)
  refine a_aload_n 0 rfl rfl dX7_firstWith_0 ?_
  refine r_Vv (q := (RX7, TX7, 17)) (av := []) (rest := []) rfl rfl okX7_explore H.1 rfl rfl wd829 wd831 wp20 ⟨Nat.le_of_ble_eq_true rfl, Nat.le_of_ble_eq_true rfl⟩ (Nat.le_of_ble_eq_true rfl) dX7_firstWith_1 (s_X7_explore H.2) (fun h1 H => ?_)
  refine a_iconst (v := (0 : Int32)) (by decide) dX7_firstWith_4 ?_
  refine a_istore_n (lv1 := [(0, .ref v0), (1, .int v1), (2, .int v2), (3, .int (0 : Int32))]) rfl [1, 2, 3, 0] (by decide) rfl dX7_firstWith_5 ?_
  obtain ⟨n, H⟩ := H
  exact l_X7_firstWith_6  n _ _ H
def f_X11_brings (v0 : Nat) (v1 : Int32) (v2 : Int32) (h : AH) (Q : Int32 → AH → Prop) : Prop :=
  gR h v0 11 8 (fun a1 => gI h a1 5 5 (fun x2 => f_X11_isBelow v1 x2 h (fun x3 h4 => ((x3 = 0 → Q (-1 : Int32) h4) ∧ (¬ (x3 = 0) → gR h4 v0 11 8 (fun a5 => gI h4 a5 5 4 (fun x6 => f_X11_isBelow v2 x6 h4 (fun x7 h8 => ((¬ (x7 = 0) → gR h8 v0 11 7 (fun a9 => gR h8 v0 11 8 (fun a10 => gI h8 v0 11 9 (fun x11 => gI h8 v0 11 10 (fun x12 => isO h8 a9 7 ∧ f_X7_from a9 a10 x11 x12 h8 (fun h13 => gR h13 v0 11 7 (fun a14 => isO h13 a14 7 ∧ f_X7_firstWith a14 v1 v2 h13 (fun x15 h16 => ((0 ≤ x15 → gR h16 v0 11 7 (fun a17 => isO h16 a17 7 ∧ f_X7_farTo a17 x15 h16 (fun x18 h19 => Q x18 h19))) ∧ (¬ (0 ≤ x15) → Q (-9 : Int32) h16)))))))))) ∧ (x7 = 0 → Q (-1 : Int32) h8))))))))))
set_option maxRecDepth 100000 in
set_option maxHeartbeats 4000000 in
theorem s_X11_brings {o : Om} {v0 : Nat} {v1 : Int32} {v2 : Int32} {h : AH} {Q : Int32 → AH → Prop} (H : f_X11_brings v0 v1 v2 h Q) : MQ' o kX11_brings [.ref v0, .int v1, .int v2] h (qI Q) := by
  refine MQ'.of (by decide +kernel) (Nat.le_of_ble_eq_true rfl) ?_
  show AQ o kX11_brings h 0 [(0, .ref v0), (1, .int v1), (2, .int v2)] [] (qI Q)
  refine a_iload_n 1 rfl rfl dX11_brings_0 ?_
  refine a_aload_n 0 rfl rfl dX11_brings_1 ?_
  refine r_gR fo_RX11_60_11 dX11_brings_2 H (fun a1 H => ?_)
  refine r_gI fo_RX11_146_5 dX11_brings_5 H (fun x2 H => ?_)
  refine r_Si (av := [.int v1, .int x2]) (rest := []) rfl rfl okX11_isBelow wd257 wd258 ⟨Nat.le_of_ble_eq_true rfl, Nat.le_of_ble_eq_true rfl⟩ (Nat.le_of_ble_eq_true rfl) dX11_brings_8 (s_X11_isBelow H) (fun x3 h4 H => ?_)
  refine a_if_eq (tgt := 28) dX11_brings_11 (by decide) (fun c => ?_) (fun c => ?_)
  · have H := H.1 (c)
    refine a_iconst (v := (-1 : Int32)) (by decide) dX11_brings_28 ?_
    exact r_reti rfl dX11_brings_29 H
  · have H := H.2 (c)
    refine a_iload_n 2 rfl rfl dX11_brings_14 ?_
    refine a_aload_n 0 rfl rfl dX11_brings_15 ?_
    refine r_gR fo_RX11_60_11 dX11_brings_16 H (fun a5 H => ?_)
    refine r_gI fo_RX11_198_5 dX11_brings_19 H (fun x6 H => ?_)
    refine r_Si (av := [.int v2, .int x6]) (rest := []) rfl rfl okX11_isBelow wd257 wd258 ⟨Nat.le_of_ble_eq_true rfl, Nat.le_of_ble_eq_true rfl⟩ (Nat.le_of_ble_eq_true rfl) dX11_brings_22 (s_X11_isBelow H) (fun x7 h8 H => ?_)
    refine a_if_ne (tgt := 30) dX11_brings_25 (by decide) (fun c => ?_) (fun c => ?_)
    · have H := H.1 (c)
      refine a_aload_n 0 rfl rfl dX11_brings_30 ?_
      refine r_gR fo_RX11_74_11 dX11_brings_31 H (fun a9 H => ?_)
      refine a_aload_n 0 rfl rfl dX11_brings_34 ?_
      refine r_gR fo_RX11_60_11 dX11_brings_35 H (fun a10 H => ?_)
      refine a_aload_n 0 rfl rfl dX11_brings_38 ?_
      refine r_gI fo_RX11_34_11 dX11_brings_39 H (fun x11 H => ?_)
      refine a_aload_n 0 rfl rfl dX11_brings_42 ?_
      refine r_gI fo_RX11_38_11 dX11_brings_43 H (fun x12 H => ?_)
      refine r_Vv (q := (RX7, TX7, 17)) (av := [.ref a10, .int x11, .int x12]) (rest := []) rfl rfl okX7_from H.1 rfl rfl wd775 wd776 wd777 ⟨Nat.le_of_ble_eq_true rfl, Nat.le_of_ble_eq_true rfl⟩ (Nat.le_of_ble_eq_true rfl) dX11_brings_46 (s_X7_from H.2) (fun h13 H => ?_)
      refine a_aload_n 0 rfl rfl dX11_brings_49 ?_
      refine r_gR fo_RX11_74_11 dX11_brings_50 H (fun a14 H => ?_)
      refine a_iload_n 1 rfl rfl dX11_brings_53 ?_
      refine a_iload_n 2 rfl rfl dX11_brings_54 ?_
      refine r_Vi (q := (RX7, TX7, 17)) (av := [.int v1, .int v2]) (rest := []) rfl rfl okX7_firstWith H.1 rfl rfl wd897 wd898 wd899 ⟨Nat.le_of_ble_eq_true rfl, Nat.le_of_ble_eq_true rfl⟩ (Nat.le_of_ble_eq_true rfl) dX11_brings_55 (s_X7_firstWith H.2) (fun x15 h16 H => ?_)
      refine a_istore_n (lv1 := [(0, .ref v0), (1, .int v1), (2, .int v2), (3, .int x15)]) rfl [1, 2, 3, 0] (by decide) rfl dX11_brings_58 ?_
      refine a_iload_n 3 rfl rfl dX11_brings_59 ?_
      refine a_if_ge (tgt := 68) dX11_brings_60 (by decide) (fun c => ?_) (fun c => ?_)
      · have H := H.1 (c)
        refine a_aload_n 0 rfl rfl dX11_brings_68 ?_
        refine r_gR fo_RX11_74_11 dX11_brings_69 H (fun a17 H => ?_)
        refine a_iload_n 3 rfl rfl dX11_brings_72 ?_
        refine r_Vi (q := (RX7, TX7, 17)) (av := [.int x15]) (rest := []) rfl rfl okX7_farTo H.1 rfl rfl wd858 wd847 wd848 ⟨Nat.le_of_ble_eq_true rfl, Nat.le_of_ble_eq_true rfl⟩ (Nat.le_of_ble_eq_true rfl) dX11_brings_73 (s_X7_farTo H.2) (fun x18 h19 H => ?_)
        exact r_reti rfl dX11_brings_76 H
      · have H := H.2 (c)
        refine a_bipush (v := (-9 : Int32)) (by decide) dX11_brings_63 ?_
        refine a_goto (tgt := 76) dX11_brings_65 (by decide) ?_
        exact r_reti rfl dX11_brings_76 H
    · have H := H.2 (c)
      refine a_iconst (v := (-1 : Int32)) (by decide) dX11_brings_28 ?_
      exact r_reti rfl dX11_brings_29 H
def B_X12_brings_28 (Q : Int32 → AH → Prop) (K28 : Int32 → AH → Prop) (v0 : Nat) (v1 : Int32) (v2 : Int32) (v3 : Int32) (h : AH) : Prop :=
  gI h v0 12 45 (fun x1 => ((x1 ≤ v3 → Q (-9 : Int32) h) ∧ (¬ (x1 ≤ v3) → gR h v0 12 42 (fun a2 => lI h a2 v3 (fun x3 => f_X12_spotOf x3 v1 h (fun x4 h5 => ((¬ (x4 = v2) → K28 (v3 + 1) h5) ∧ (x4 = v2 → gR h5 v0 12 43 (fun a6 => gR h5 v0 12 42 (fun a7 => lI h5 a7 v3 (fun x8 => lI h5 a6 x8 (fun x9 => Q x9 h5))))))))))))
set_option maxRecDepth 100000 in
set_option maxHeartbeats 4000000 in
theorem b_X12_brings_28 {o : Om} {Q : Int32 → AH → Prop} {K28 : Int32 → AH → Prop} {v0 : Nat} {v1 : Int32} {v2 : Int32} {v3 : Int32} {h : AH} (hK28 : ∀ w3 h, K28 w3 h → AQ o kX12_brings h 28 [(0, .ref v0), (1, .int v1), (2, .int v2), (3, .int w3)] [] (qI Q)) (H : B_X12_brings_28 Q K28 v0 v1 v2 v3 h) : AQ o kX12_brings h 28 [(0, .ref v0), (1, .int v1), (2, .int v2), (3, .int v3)] [] (qI Q) := by
  refine a_iload_n 3 rfl rfl dX12_brings_28 ?_
  refine a_aload_n 0 rfl rfl dX12_brings_29 ?_
  refine r_gI fo_RX12_273_12 dX12_brings_30 H (fun x1 H => ?_)
  refine a_icmp_ge (tgt := 68) dX12_brings_33 (by decide) (fun c => ?_) (fun c => ?_)
  · have H := H.1 (c)
    refine a_bipush (v := (-9 : Int32)) (by decide) dX12_brings_68 ?_
    exact r_reti rfl dX12_brings_70 H
  · have H := H.2 (c)
    refine a_aload_n 0 rfl rfl dX12_brings_36 ?_
    refine r_gR fo_RX12_90_12 dX12_brings_37 H (fun a2 H => ?_)
    refine a_iload_n 3 rfl rfl dX12_brings_40 ?_
    refine r_lI dX12_brings_41 H (fun x3 H => ?_)
    refine a_iload_n 1 rfl rfl dX12_brings_42 ?_
    refine r_Si (av := [.int x3, .int v1]) (rest := []) rfl rfl okX12_spotOf wd1286 wd1287 ⟨Nat.le_of_ble_eq_true rfl, Nat.le_of_ble_eq_true rfl⟩ (Nat.le_of_ble_eq_true rfl) dX12_brings_43 (s_X12_spotOf H) (fun x4 h5 H => ?_)
    refine a_iload_n 2 rfl rfl dX12_brings_46 ?_
    refine a_icmp_ne (tgt := 62) dX12_brings_47 (by decide) (fun c => ?_) (fun c => ?_)
    · have H := H.1 (c)
      refine a_iinc (v := v3 + 1) (lv1 := [(0, .ref v0), (1, .int v1), (2, .int v2), (3, .int (v3 + 1))]) [1, 2, 3, 0] 3 rfl (by decide) rfl rfl dX12_brings_62 ?_
      refine a_goto (tgt := 28) dX12_brings_65 (by decide) ?_
      exact hK28 _ _ H
    · have H := H.2 (c)
      refine a_aload_n 0 rfl rfl dX12_brings_50 ?_
      refine r_gR fo_RX12_93_12 dX12_brings_51 H (fun a6 H => ?_)
      refine a_aload_n 0 rfl rfl dX12_brings_54 ?_
      refine r_gR fo_RX12_90_12 dX12_brings_55 H (fun a7 H => ?_)
      refine a_iload_n 3 rfl rfl dX12_brings_58 ?_
      refine r_lI dX12_brings_59 H (fun x8 H => ?_)
      refine r_lI dX12_brings_60 H (fun x9 H => ?_)
      exact r_reti rfl dX12_brings_61 H
def L_X12_brings_28 (Q : Int32 → AH → Prop)  (v0 : Nat) (v1 : Int32) (v2 : Int32) : Nat → Int32 → AH → Prop
  | 0, _, _ => False
  | n + 1, v3, h => B_X12_brings_28 Q (L_X12_brings_28 Q  v0 v1 v2 n) v0 v1 v2 v3 h
theorem l_X12_brings_28 {o : Om} {Q : Int32 → AH → Prop}  {v0 : Nat} {v1 : Int32} {v2 : Int32}  : ∀ (n : Nat) (v3 : Int32) (h : AH), L_X12_brings_28 Q  v0 v1 v2 n v3 h → AQ o kX12_brings h 28 [(0, .ref v0), (1, .int v1), (2, .int v2), (3, .int v3)] [] (qI Q) := by
  intro n
  induction n with
  | zero => intro v3 h H; exact H.elim
  | succ n ih => intro v3 h H; exact b_X12_brings_28 ih H
def f_X12_brings (v0 : Nat) (v1 : Int32) (v2 : Int32) (h : AH) (Q : Int32 → AH → Prop) : Prop :=
  isO h v0 12 ∧ f_X12_isStone v0 v1 h (fun x1 h2 => ((x1 = 0 → Q (-1 : Int32) h2) ∧ (¬ (x1 = 0) → isO h2 v0 12 ∧ f_X12_isPost v0 v2 h2 (fun x3 h4 => ((¬ (x3 = 0) → gI h4 v0 12 16 (fun x5 => isO h4 v0 12 ∧ f_X12_goesOut v0 x5 h4 (fun h6 => ∃ n, L_X12_brings_28 Q  v0 v1 v2 n (0 : Int32) h6))) ∧ (x3 = 0 → Q (-1 : Int32) h4))))))
set_option maxRecDepth 100000 in
set_option maxHeartbeats 4000000 in
theorem s_X12_brings {o : Om} {v0 : Nat} {v1 : Int32} {v2 : Int32} {h : AH} {Q : Int32 → AH → Prop} (H : f_X12_brings v0 v1 v2 h Q) : MQ' o kX12_brings [.ref v0, .int v1, .int v2] h (qI Q) := by
  refine MQ'.of (by decide +kernel) (Nat.le_of_ble_eq_true rfl) ?_
  show AQ o kX12_brings h 0 [(0, .ref v0), (1, .int v1), (2, .int v2)] [] (qI Q)
  refine a_aload_n 0 rfl rfl dX12_brings_0 ?_
  refine a_iload_n 1 rfl rfl dX12_brings_1 ?_
  refine r_Vi (q := (RX12, TX12, 51)) (av := [.int v1]) (rest := []) rfl rfl okX12_isStone H.1 rfl rfl wd1282 wd1284 wp42 ⟨Nat.le_of_ble_eq_true rfl, Nat.le_of_ble_eq_true rfl⟩ (Nat.le_of_ble_eq_true rfl) dX12_brings_2 (s_X12_isStone H.2) (fun x1 h2 H => ?_)
  refine a_if_eq (tgt := 16) dX12_brings_5 (by decide) (fun c => ?_) (fun c => ?_)
  · have H := H.1 (c)
    refine a_iconst (v := (-1 : Int32)) (by decide) dX12_brings_16 ?_
    exact r_reti rfl dX12_brings_17 H
  · have H := H.2 (c)
    refine a_aload_n 0 rfl rfl dX12_brings_8 ?_
    refine a_iload_n 2 rfl rfl dX12_brings_9 ?_
    refine r_Vi (q := (RX12, TX12, 51)) (av := [.int v2]) (rest := []) rfl rfl okX12_isPost H.1 rfl rfl wd1391 wd1393 wp54 ⟨Nat.le_of_ble_eq_true rfl, Nat.le_of_ble_eq_true rfl⟩ (Nat.le_of_ble_eq_true rfl) dX12_brings_10 (s_X12_isPost H.2) (fun x3 h4 H => ?_)
    refine a_if_ne (tgt := 18) dX12_brings_13 (by decide) (fun c => ?_) (fun c => ?_)
    · have H := H.1 (c)
      refine a_aload_n 0 rfl rfl dX12_brings_18 ?_
      refine a_aload_n 0 rfl rfl dX12_brings_19 ?_
      refine r_gI fo_RX12_187_12 dX12_brings_20 H (fun x5 H => ?_)
      refine r_Vv (q := (RX12, TX12, 51)) (av := [.int x5]) (rest := []) rfl rfl okX12_goesOut H.1 rfl rfl wd1432 wd1434 wp60 ⟨Nat.le_of_ble_eq_true rfl, Nat.le_of_ble_eq_true rfl⟩ (Nat.le_of_ble_eq_true rfl) dX12_brings_23 (s_X12_goesOut H.2) (fun h6 H => ?_)
      refine a_iconst (v := (0 : Int32)) (by decide) dX12_brings_26 ?_
      refine a_istore_n (lv1 := [(0, .ref v0), (1, .int v1), (2, .int v2), (3, .int (0 : Int32))]) rfl [1, 2, 3, 0] (by decide) rfl dX12_brings_27 ?_
      obtain ⟨n, H⟩ := H
      exact l_X12_brings_28  n _ _ H
    · have H := H.2 (c)
      refine a_iconst (v := (-1 : Int32)) (by decide) dX12_brings_16 ?_
      exact r_reti rfl dX12_brings_17 H
def B_X7_figuresOf_4 (Q : Int32 → AH → Prop) (K4 : Int32 → Int32 → AH → Prop) (v0 : Nat) (v1 : Int32) (v2 : Int32) (v3 : Int32) (h : AH) : Prop :=
  ((v1 ≤ v3 → Q v2 h) ∧ (¬ (v1 ≤ v3) → (((4 : Int32) ≤ v3 → Q v2 h) ∧ (¬ ((4 : Int32) ≤ v3) → gR h v0 7 1 (fun a1 => lI h a1 v3 (fun x2 => K4 (((5 : Int32) * v2) + x2) (v3 + 1) h))))))
set_option maxRecDepth 100000 in
set_option maxHeartbeats 4000000 in
theorem b_X7_figuresOf_4 {o : Om} {Q : Int32 → AH → Prop} {K4 : Int32 → Int32 → AH → Prop} {v0 : Nat} {v1 : Int32} {v2 : Int32} {v3 : Int32} {h : AH} (hK4 : ∀ w2 w3 h, K4 w2 w3 h → AQ o kX7_figuresOf h 4 [(0, .ref v0), (1, .int v1), (2, .int w2), (3, .int w3)] [] (qI Q)) (H : B_X7_figuresOf_4 Q K4 v0 v1 v2 v3 h) : AQ o kX7_figuresOf h 4 [(0, .ref v0), (1, .int v1), (2, .int v2), (3, .int v3)] [] (qI Q) := by
  refine a_iload_n 3 rfl rfl dX7_figuresOf_4 ?_
  refine a_iload_n 1 rfl rfl dX7_figuresOf_5 ?_
  refine a_icmp_ge (tgt := 31) dX7_figuresOf_6 (by decide) (fun c => ?_) (fun c => ?_)
  · have H := H.1 (c)
    refine a_iload_n 2 rfl rfl dX7_figuresOf_31 ?_
    exact r_reti rfl dX7_figuresOf_32 H
  · have H := H.2 (c)
    refine a_iload_n 3 rfl rfl dX7_figuresOf_9 ?_
    refine a_iconst (v := (4 : Int32)) (by decide) dX7_figuresOf_10 ?_
    refine a_icmp_ge (tgt := 31) dX7_figuresOf_11 (by decide) (fun c => ?_) (fun c => ?_)
    · have H := H.1 (c)
      refine a_iload_n 2 rfl rfl dX7_figuresOf_31 ?_
      exact r_reti rfl dX7_figuresOf_32 H
    · have H := H.2 (c)
      refine a_iconst (v := (5 : Int32)) (by decide) dX7_figuresOf_14 ?_
      refine a_iload_n 2 rfl rfl dX7_figuresOf_15 ?_
      refine a_imul dX7_figuresOf_16 ?_
      refine a_aload_n 0 rfl rfl dX7_figuresOf_17 ?_
      refine r_gR fo_RX7_11_7 dX7_figuresOf_18 H (fun a1 H => ?_)
      refine a_iload_n 3 rfl rfl dX7_figuresOf_21 ?_
      refine r_lI dX7_figuresOf_22 H (fun x2 H => ?_)
      refine a_iadd dX7_figuresOf_23 ?_
      refine a_istore_n (lv1 := [(0, .ref v0), (1, .int v1), (2, .int (((5 : Int32) * v2) + x2)), (3, .int v3)]) rfl [1, 2, 0, 3] (by decide) rfl dX7_figuresOf_24 ?_
      refine a_iinc (v := v3 + 1) (lv1 := [(0, .ref v0), (1, .int v1), (2, .int (((5 : Int32) * v2) + x2)), (3, .int (v3 + 1))]) [1, 2, 3, 0] 3 rfl (by decide) rfl rfl dX7_figuresOf_25 ?_
      refine a_goto (tgt := 4) dX7_figuresOf_28 (by decide) ?_
      exact hK4 _ _ _ H
def L_X7_figuresOf_4 (Q : Int32 → AH → Prop)  (v0 : Nat) (v1 : Int32) : Nat → Int32 → Int32 → AH → Prop
  | 0, _, _, _ => False
  | n + 1, v2, v3, h => B_X7_figuresOf_4 Q (L_X7_figuresOf_4 Q  v0 v1 n) v0 v1 v2 v3 h
theorem l_X7_figuresOf_4 {o : Om} {Q : Int32 → AH → Prop}  {v0 : Nat} {v1 : Int32}  : ∀ (n : Nat) (v2 : Int32) (v3 : Int32) (h : AH), L_X7_figuresOf_4 Q  v0 v1 n v2 v3 h → AQ o kX7_figuresOf h 4 [(0, .ref v0), (1, .int v1), (2, .int v2), (3, .int v3)] [] (qI Q) := by
  intro n
  induction n with
  | zero => intro v2 v3 h H; exact H.elim
  | succ n ih => intro v2 v3 h H; exact b_X7_figuresOf_4 ih H
def f_X7_figuresOf (v0 : Nat) (v1 : Int32) (h : AH) (Q : Int32 → AH → Prop) : Prop :=
  ∃ n, L_X7_figuresOf_4 Q  v0 v1 n (0 : Int32) (0 : Int32) h
set_option maxRecDepth 100000 in
set_option maxHeartbeats 4000000 in
theorem s_X7_figuresOf {o : Om} {v0 : Nat} {v1 : Int32} {h : AH} {Q : Int32 → AH → Prop} (H : f_X7_figuresOf v0 v1 h Q) : MQ' o kX7_figuresOf [.ref v0, .int v1] h (qI Q) := by
  refine MQ'.of (by decide +kernel) (Nat.le_of_ble_eq_true rfl) ?_
  show AQ o kX7_figuresOf h 0 [(0, .ref v0), (1, .int v1)] [] (qI Q)
  refine a_iconst (v := (0 : Int32)) (by decide) dX7_figuresOf_0 ?_
  refine a_istore_n (lv1 := [(0, .ref v0), (1, .int v1), (2, .int (0 : Int32))]) rfl [1, 2, 0] (by decide) rfl dX7_figuresOf_1 ?_
  refine a_iconst (v := (0 : Int32)) (by decide) dX7_figuresOf_2 ?_
  refine a_istore_n (lv1 := [(0, .ref v0), (1, .int v1), (2, .int (0 : Int32)), (3, .int (0 : Int32))]) rfl [1, 2, 3, 0] (by decide) rfl dX7_figuresOf_3 ?_
  obtain ⟨n, H⟩ := H
  exact l_X7_figuresOf_4  n _ _ _ H
def B_X7_dearest_80 (Q : Int32 → AH → Prop) (K15 : Int32 → Int32 → AH → Prop) (v0 : Nat) (v1 : Int32) (v2 : Int32) (v3 : Int32) (v4 : Int32) (h : AH) : Prop :=
  isO h v0 7 ∧ f_X7_nextRow v0 v1 h (fun h1 => K15 v2 (v4 + 1) h1)
set_option maxRecDepth 100000 in
set_option maxHeartbeats 4000000 in
theorem b_X7_dearest_80 {o : Om} {Q : Int32 → AH → Prop} {K15 : Int32 → Int32 → AH → Prop} {v0 : Nat} {v1 : Int32} {v2 : Int32} {v3 : Int32} {v4 : Int32} {h : AH} (hK15 : ∀ w2 w4 h, K15 w2 w4 h → AQ o kX7_dearest h 15 [(0, .ref v0), (1, .int v1), (2, .int w2), (3, .int v3), (4, .int w4)] [] (qI Q)) (H : B_X7_dearest_80 Q K15 v0 v1 v2 v3 v4 h) : AQ o kX7_dearest h 80 [(0, .ref v0), (1, .int v1), (2, .int v2), (3, .int v3), (4, .int v4)] [] (qI Q) := by
  refine a_aload_n 0 rfl rfl dX7_dearest_80 ?_
  refine a_iload_n 1 rfl rfl dX7_dearest_81 ?_
  refine r_Vv (q := (RX7, TX7, 17)) (av := [.int v1]) (rest := []) rfl rfl okX7_nextRow H.1 rfl rfl wd801 wd803 wp19 ⟨Nat.le_of_ble_eq_true rfl, Nat.le_of_ble_eq_true rfl⟩ (Nat.le_of_ble_eq_true rfl) dX7_dearest_82 (s_X7_nextRow H.2) (fun h1 H => ?_)
  refine a_iinc (v := v4 + 1) (lv1 := [(0, .ref v0), (1, .int v1), (2, .int v2), (3, .int v3), (4, .int (v4 + 1))]) [1, 2, 3, 4, 0] 4 rfl (by decide) rfl rfl dX7_dearest_85 ?_
  refine a_goto (tgt := 15) dX7_dearest_88 (by decide) ?_
  exact hK15 _ _ _ H
def B_X7_dearest_15 (Q : Int32 → AH → Prop) (K15 : Int32 → Int32 → AH → Prop) (v0 : Nat) (v1 : Int32) (v3 : Int32) (v2 : Int32) (v4 : Int32) (h : AH) : Prop :=
  ((v3 ≤ v4 → Q v2 h) ∧ (¬ (v3 ≤ v4) → gR h v0 7 0 (fun a1 => gR h v0 7 4 (fun a2 => gI h v0 7 5 (fun x3 => gI h v0 7 6 (fun x4 => isO h a1 9 ∧ f_X9_begin a1 a2 x3 x4 h (fun h5 => gR h5 v0 7 0 (fun a6 => gR h5 v0 7 1 (fun a7 => isO h5 a6 9 ∧ f_X9_sendRow a6 a7 v1 h5 (fun h8 => gR h8 v0 7 0 (fun a9 => gI h8 a9 9 5 (fun x10 => ((x10 ≤ v2 → B_X7_dearest_80 Q K15 v0 v1 v2 v3 v4 h8) ∧ (¬ (x10 ≤ v2) → gR h8 v0 7 0 (fun a11 => gI h8 a11 9 5 (fun x12 => isO h8 v0 7 ∧ f_X7_figuresOf v0 v1 h8 (fun x13 h14 => pF h14 v0 7 13 (.int x13) (fun h15 => B_X7_dearest_80 Q K15 v0 v1 x12 v3 v4 h15))))))))))))))))))
set_option maxRecDepth 100000 in
set_option maxHeartbeats 4000000 in
theorem b_X7_dearest_15 {o : Om} {Q : Int32 → AH → Prop} {K15 : Int32 → Int32 → AH → Prop} {v0 : Nat} {v1 : Int32} {v3 : Int32} {v2 : Int32} {v4 : Int32} {h : AH} (hK15 : ∀ w2 w4 h, K15 w2 w4 h → AQ o kX7_dearest h 15 [(0, .ref v0), (1, .int v1), (2, .int w2), (3, .int v3), (4, .int w4)] [] (qI Q)) (H : B_X7_dearest_15 Q K15 v0 v1 v3 v2 v4 h) : AQ o kX7_dearest h 15 [(0, .ref v0), (1, .int v1), (2, .int v2), (3, .int v3), (4, .int v4)] [] (qI Q) := by
  refine a_iload 4 rfl dX7_dearest_15 ?_
  refine a_iload_n 3 rfl rfl dX7_dearest_17 ?_
  refine a_icmp_ge (tgt := 91) dX7_dearest_18 (by decide) (fun c => ?_) (fun c => ?_)
  · have H := H.1 (c)
    refine a_iload_n 2 rfl rfl dX7_dearest_91 ?_
    exact r_reti rfl dX7_dearest_92 H
  · have H := H.2 (c)
    refine a_aload_n 0 rfl rfl dX7_dearest_21 ?_
    refine r_gR fo_RX7_68_7 dX7_dearest_22 H (fun a1 H => ?_)
    refine a_aload_n 0 rfl rfl dX7_dearest_25 ?_
    refine r_gR fo_RX7_59_7 dX7_dearest_26 H (fun a2 H => ?_)
    refine a_aload_n 0 rfl rfl dX7_dearest_29 ?_
    refine r_gI fo_RX7_21_7 dX7_dearest_30 H (fun x3 H => ?_)
    refine a_aload_n 0 rfl rfl dX7_dearest_33 ?_
    refine r_gI fo_RX7_25_7 dX7_dearest_34 H (fun x4 H => ?_)
    refine r_Vv (q := (RX9, TX9, 8)) (av := [.ref a2, .int x3, .int x4]) (rest := []) rfl rfl okX9_begin H.1 rfl rfl wd792 wd571 wd572 ⟨Nat.le_of_ble_eq_true rfl, Nat.le_of_ble_eq_true rfl⟩ (Nat.le_of_ble_eq_true rfl) dX7_dearest_37 (s_X9_begin H.2) (fun h5 H => ?_)
    refine a_aload_n 0 rfl rfl dX7_dearest_40 ?_
    refine r_gR fo_RX7_68_7 dX7_dearest_41 H (fun a6 H => ?_)
    refine a_aload_n 0 rfl rfl dX7_dearest_44 ?_
    refine r_gR fo_RX7_11_7 dX7_dearest_45 H (fun a7 H => ?_)
    refine a_iload_n 1 rfl rfl dX7_dearest_48 ?_
    refine r_Vv (q := (RX9, TX9, 8)) (av := [.ref a7, .int v1]) (rest := []) rfl rfl okX9_sendRow H.1 rfl rfl wd793 wd794 wd795 ⟨Nat.le_of_ble_eq_true rfl, Nat.le_of_ble_eq_true rfl⟩ (Nat.le_of_ble_eq_true rfl) dX7_dearest_49 (s_X9_sendRow H.2) (fun h8 H => ?_)
    refine a_aload_n 0 rfl rfl dX7_dearest_52 ?_
    refine r_gR fo_RX7_68_7 dX7_dearest_53 H (fun a9 H => ?_)
    refine r_gI fo_RX7_163_9 dX7_dearest_56 H (fun x10 H => ?_)
    refine a_iload_n 2 rfl rfl dX7_dearest_59 ?_
    refine a_icmp_le (tgt := 80) dX7_dearest_60 (by decide) (fun c => ?_) (fun c => ?_)
    · have H := H.1 (c)
      exact b_X7_dearest_80 hK15 H
    · have H := H.2 (c)
      refine a_aload_n 0 rfl rfl dX7_dearest_63 ?_
      refine r_gR fo_RX7_68_7 dX7_dearest_64 H (fun a11 H => ?_)
      refine r_gI fo_RX7_163_9 dX7_dearest_67 H (fun x12 H => ?_)
      refine a_istore_n (lv1 := [(0, .ref v0), (1, .int v1), (2, .int x12), (3, .int v3), (4, .int v4)]) rfl [1, 2, 0, 3, 4] (by decide) rfl dX7_dearest_70 ?_
      refine a_aload_n 0 rfl rfl dX7_dearest_71 ?_
      refine a_aload_n 0 rfl rfl dX7_dearest_72 ?_
      refine a_iload_n 1 rfl rfl dX7_dearest_73 ?_
      refine r_Vi (q := (RX7, TX7, 17)) (av := [.int v1]) (rest := [.ref v0]) rfl rfl okX7_figuresOf H.1 rfl rfl wd910 wd912 wp24 ⟨Nat.le_of_ble_eq_true rfl, Nat.le_of_ble_eq_true rfl⟩ (Nat.le_of_ble_eq_true rfl) dX7_dearest_74 (s_X7_figuresOf H.2) (fun x13 h14 H => ?_)
      refine r_pF (po_RX7_47_7 _) (fun _ => rfl) (fun _ => rfl) dX7_dearest_77 H (fun h15 H => ?_)
      exact b_X7_dearest_80 hK15 H
def L_X7_dearest_15 (Q : Int32 → AH → Prop)  (v0 : Nat) (v1 : Int32) (v3 : Int32) : Nat → Int32 → Int32 → AH → Prop
  | 0, _, _, _ => False
  | n + 1, v2, v4, h => B_X7_dearest_15 Q (L_X7_dearest_15 Q  v0 v1 v3 n) v0 v1 v3 v2 v4 h
theorem l_X7_dearest_15 {o : Om} {Q : Int32 → AH → Prop}  {v0 : Nat} {v1 : Int32} {v3 : Int32}  : ∀ (n : Nat) (v2 : Int32) (v4 : Int32) (h : AH), L_X7_dearest_15 Q  v0 v1 v3 n v2 v4 h → AQ o kX7_dearest h 15 [(0, .ref v0), (1, .int v1), (2, .int v2), (3, .int v3), (4, .int v4)] [] (qI Q) := by
  intro n
  induction n with
  | zero => intro v2 v4 h H; exact H.elim
  | succ n ih => intro v2 v4 h H; exact b_X7_dearest_15 ih H
def f_X7_dearest (v0 : Nat) (v1 : Int32) (h : AH) (Q : Int32 → AH → Prop) : Prop :=
  isO h v0 7 ∧ f_X7_rowsOf v0 v1 h (fun x1 h2 => isO h2 v0 7 ∧ f_X7_firstRow v0  h2 (fun h3 => ∃ n, L_X7_dearest_15 Q  v0 v1 x1 n (-1 : Int32) (0 : Int32) h3))
set_option maxRecDepth 100000 in
set_option maxHeartbeats 4000000 in
theorem s_X7_dearest {o : Om} {v0 : Nat} {v1 : Int32} {h : AH} {Q : Int32 → AH → Prop} (H : f_X7_dearest v0 v1 h Q) : MQ' o kX7_dearest [.ref v0, .int v1] h (qI Q) := by
  refine MQ'.of (by decide +kernel) (Nat.le_of_ble_eq_true rfl) ?_
  show AQ o kX7_dearest h 0 [(0, .ref v0), (1, .int v1)] [] (qI Q)
  refine a_iconst (v := (-1 : Int32)) (by decide) dX7_dearest_0 ?_
  refine a_istore_n (lv1 := [(0, .ref v0), (1, .int v1), (2, .int (-1 : Int32))]) rfl [1, 2, 0] (by decide) rfl dX7_dearest_1 ?_
  refine a_aload_n 0 rfl rfl dX7_dearest_2 ?_
  refine a_iload_n 1 rfl rfl dX7_dearest_3 ?_
  refine r_Vi (q := (RX7, TX7, 17)) (av := [.int v1]) (rest := []) rfl rfl okX7_rowsOf H.1 rfl rfl wd783 wd784 wd785 ⟨Nat.le_of_ble_eq_true rfl, Nat.le_of_ble_eq_true rfl⟩ (Nat.le_of_ble_eq_true rfl) dX7_dearest_4 (s_X7_rowsOf H.2) (fun x1 h2 H => ?_)
  refine a_istore_n (lv1 := [(0, .ref v0), (1, .int v1), (2, .int (-1 : Int32)), (3, .int x1)]) rfl [1, 2, 3, 0] (by decide) rfl dX7_dearest_7 ?_
  refine a_aload_n 0 rfl rfl dX7_dearest_8 ?_
  refine r_Vv (q := (RX7, TX7, 17)) (av := []) (rest := []) rfl rfl okX7_firstRow H.1 rfl rfl wd787 wd789 wp17 ⟨Nat.le_of_ble_eq_true rfl, Nat.le_of_ble_eq_true rfl⟩ (Nat.le_of_ble_eq_true rfl) dX7_dearest_9 (s_X7_firstRow H.2) (fun h3 H => ?_)
  refine a_iconst (v := (0 : Int32)) (by decide) dX7_dearest_12 ?_
  refine a_istore (lv1 := [(0, .ref v0), (1, .int v1), (2, .int (-1 : Int32)), (3, .int x1), (4, .int (0 : Int32))]) [1, 2, 3, 4, 0] (by decide) rfl dX7_dearest_13 ?_
  obtain ⟨n, H⟩ := H
  exact l_X7_dearest_15  n _ _ _ H
def f_X11_earn (v0 : Nat) (v1 : Int32) (h : AH) (Q : Int32 → AH → Prop) : Prop :=
  ((v1 < (1 : Int32) → Q (-1 : Int32) h) ∧ (¬ (v1 < (1 : Int32)) → ((v1 ≤ (4 : Int32) → gR h v0 11 8 (fun a1 => gI h a1 5 6 (fun x2 => ((¬ (x2 = 0) → gR h v0 11 7 (fun a3 => gR h v0 11 8 (fun a4 => gI h v0 11 9 (fun x5 => gI h v0 11 10 (fun x6 => isO h a3 7 ∧ f_X7_from a3 a4 x5 x6 h (fun h7 => gR h7 v0 11 7 (fun a8 => isO h7 a8 7 ∧ f_X7_dearest a8 v1 h7 (fun x9 h10 => gR h10 v0 11 7 (fun a11 => gI h10 a11 7 13 (fun x12 => pF h10 v0 11 12 (.int x12) (fun h13 => Q x9 h13))))))))))) ∧ (x2 = 0 → Q (-4 : Int32) h))))) ∧ (¬ (v1 ≤ (4 : Int32)) → Q (-1 : Int32) h))))
set_option maxRecDepth 100000 in
set_option maxHeartbeats 4000000 in
theorem s_X11_earn {o : Om} {v0 : Nat} {v1 : Int32} {h : AH} {Q : Int32 → AH → Prop} (H : f_X11_earn v0 v1 h Q) : MQ' o kX11_earn [.ref v0, .int v1] h (qI Q) := by
  refine MQ'.of (by decide +kernel) (Nat.le_of_ble_eq_true rfl) ?_
  show AQ o kX11_earn h 0 [(0, .ref v0), (1, .int v1)] [] (qI Q)
  refine a_iload_n 1 rfl rfl dX11_earn_0 ?_
  refine a_iconst (v := (1 : Int32)) (by decide) dX11_earn_1 ?_
  refine a_icmp_lt (tgt := 10) dX11_earn_2 (by decide) (fun c => ?_) (fun c => ?_)
  · have H := H.1 (c)
    refine a_iconst (v := (-1 : Int32)) (by decide) dX11_earn_10 ?_
    exact r_reti rfl dX11_earn_11 H
  · have H := H.2 (c)
    refine a_iload_n 1 rfl rfl dX11_earn_5 ?_
    refine a_iconst (v := (4 : Int32)) (by decide) dX11_earn_6 ?_
    refine a_icmp_le (tgt := 12) dX11_earn_7 (by decide) (fun c => ?_) (fun c => ?_)
    · have H := H.1 (c)
      refine a_aload_n 0 rfl rfl dX11_earn_12 ?_
      refine r_gR fo_RX11_60_11 dX11_earn_13 H (fun a1 H => ?_)
      refine r_gI fo_RX11_153_5 dX11_earn_16 H (fun x2 H => ?_)
      refine a_if_ne (tgt := 25) dX11_earn_19 (by decide) (fun c => ?_) (fun c => ?_)
      · have H := H.1 (c)
        refine a_aload_n 0 rfl rfl dX11_earn_25 ?_
        refine r_gR fo_RX11_74_11 dX11_earn_26 H (fun a3 H => ?_)
        refine a_aload_n 0 rfl rfl dX11_earn_29 ?_
        refine r_gR fo_RX11_60_11 dX11_earn_30 H (fun a4 H => ?_)
        refine a_aload_n 0 rfl rfl dX11_earn_33 ?_
        refine r_gI fo_RX11_34_11 dX11_earn_34 H (fun x5 H => ?_)
        refine a_aload_n 0 rfl rfl dX11_earn_37 ?_
        refine r_gI fo_RX11_38_11 dX11_earn_38 H (fun x6 H => ?_)
        refine r_Vv (q := (RX7, TX7, 17)) (av := [.ref a4, .int x5, .int x6]) (rest := []) rfl rfl okX7_from H.1 rfl rfl wd775 wd776 wd777 ⟨Nat.le_of_ble_eq_true rfl, Nat.le_of_ble_eq_true rfl⟩ (Nat.le_of_ble_eq_true rfl) dX11_earn_41 (s_X7_from H.2) (fun h7 H => ?_)
        refine a_aload_n 0 rfl rfl dX11_earn_44 ?_
        refine r_gR fo_RX11_74_11 dX11_earn_45 H (fun a8 H => ?_)
        refine a_iload_n 1 rfl rfl dX11_earn_48 ?_
        refine r_Vi (q := (RX7, TX7, 17)) (av := [.int v1]) (rest := []) rfl rfl okX7_dearest H.1 rfl rfl wd906 wd907 wd908 ⟨Nat.le_of_ble_eq_true rfl, Nat.le_of_ble_eq_true rfl⟩ (Nat.le_of_ble_eq_true rfl) dX11_earn_49 (s_X7_dearest H.2) (fun x9 h10 H => ?_)
        refine a_istore_n (lv1 := [(0, .ref v0), (1, .int v1), (2, .int x9)]) rfl [1, 2, 0] (by decide) rfl dX11_earn_52 ?_
        refine a_aload_n 0 rfl rfl dX11_earn_53 ?_
        refine a_aload_n 0 rfl rfl dX11_earn_54 ?_
        refine r_gR fo_RX11_74_11 dX11_earn_55 H (fun a11 H => ?_)
        refine r_gI fo_RX11_251_7 dX11_earn_58 H (fun x12 H => ?_)
        refine r_pF (po_RX11_44_11 _) (fun _ => rfl) (fun _ => rfl) dX11_earn_61 H (fun h13 H => ?_)
        refine a_iload_n 2 rfl rfl dX11_earn_64 ?_
        exact r_reti rfl dX11_earn_65 H
      · have H := H.2 (c)
        refine a_bipush (v := (-4 : Int32)) (by decide) dX11_earn_22 ?_
        exact r_reti rfl dX11_earn_24 H
    · have H := H.2 (c)
      refine a_iconst (v := (-1 : Int32)) (by decide) dX11_earn_10 ?_
      exact r_reti rfl dX11_earn_11 H
