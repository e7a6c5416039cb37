theorem vs_X11_ofWalker_45 {o : Om} {h : AH} {lv : List (Nat × Value)} {rest : List Value} {Q : Option Value → AH → Prop} {a : Nat}  {F : Int32 → AH → Prop} (hd : decode kX11_ofWalker.2.1 45 = .ok (.invokevirtual 330, 3)) (H : v_kind0 a  h F) (k : ∀ x h, F x h → AQ o kX11_ofWalker h (45 + 3) lv (.int x :: rest) Q) (hc : (rest.map fun v => v.category).sum ≤ 8 := by exact Nat.le_of_ble_eq_true rfl) : AQ o kX11_ofWalker h 45 lv (.ref a :: rest) Q := by
  obtain ⟨ci, fs, hO, H⟩ := H
  rcases H with ⟨rfl, H⟩ | ⟨rfl, H⟩ | ⟨rfl, H⟩ | ⟨rfl, H⟩ | ⟨rfl, H⟩ | ⟨rfl, H⟩
  · exact r_Ui (q := (RX0, TX0, 2)) (x := ⟨"MilestonesOn$Walker", "kind", "()I"⟩) (owner := "MilestonesOn$Walker") (av := []) (rest := rest) rfl rfl okX0_kind hO rfl rfl wd542 wd545 (by decide +kernel) wd543 wd561 wd547 wd546 ⟨Nat.le_of_ble_eq_true rfl, Nat.le_of_ble_eq_true rfl⟩ hc hd (s_X0_kind H) k
  · exact r_Ui (q := (RX1, TX1, 2)) (x := ⟨"MilestonesOn$Walker", "kind", "()I"⟩) (owner := "MilestonesOn$Walker") (av := []) (rest := rest) rfl rfl okX1_kind hO rfl rfl wd542 wd545 (by decide +kernel) wd543 wd561 wd550 wd549 ⟨Nat.le_of_ble_eq_true rfl, Nat.le_of_ble_eq_true rfl⟩ hc hd (s_X1_kind H) k
  · exact r_Ui (q := (RX2, TX2, 2)) (x := ⟨"MilestonesOn$Walker", "kind", "()I"⟩) (owner := "MilestonesOn$Walker") (av := []) (rest := rest) rfl rfl okX2_kind hO rfl rfl wd542 wd545 (by decide +kernel) wd543 wd561 wd553 wd552 ⟨Nat.le_of_ble_eq_true rfl, Nat.le_of_ble_eq_true rfl⟩ hc hd (s_X2_kind H) k
  · exact r_Ui (q := (RX3, TX3, 2)) (x := ⟨"MilestonesOn$Walker", "kind", "()I"⟩) (owner := "MilestonesOn$Walker") (av := []) (rest := rest) rfl rfl okX3_kind hO rfl rfl wd542 wd545 (by decide +kernel) wd543 wd561 wd556 wd555 ⟨Nat.le_of_ble_eq_true rfl, Nat.le_of_ble_eq_true rfl⟩ hc hd (s_X3_kind H) k
  · exact r_Ui (q := (RX8, TX8, 2)) (x := ⟨"MilestonesOn$Walker", "kind", "()I"⟩) (owner := "MilestonesOn$Walker") (av := []) (rest := rest) rfl rfl okX8_kind hO rfl rfl wd542 wd545 (by decide +kernel) wd543 wd561 wd559 wd558 ⟨Nat.le_of_ble_eq_true rfl, Nat.le_of_ble_eq_true rfl⟩ hc hd (s_X8_kind H) k
  · exact r_Ui (q := (RX10, TX10, 2)) (x := ⟨"MilestonesOn$Walker", "kind", "()I"⟩) (owner := "MilestonesOn$Walker") (av := []) (rest := rest) rfl rfl okX10_kind hO rfl rfl wd542 wd545 (by decide +kernel) wd543 wd561 wd543 wd544 ⟨Nat.le_of_ble_eq_true rfl, Nat.le_of_ble_eq_true rfl⟩ hc hd (s_X10_kind H) k
def f_X11_ofWalker (v0 : Nat) (v1 : Int32) (v2 : Int32) (h : AH) (Q : Int32 → AH → Prop) : Prop :=
  gR h v0 11 8 (fun a1 => isO h a1 5 ∧ f_X5_walkerAt a1 v1 h (fun q2 h3 => ((q2 = none → Q (-9 : Int32) h3) ∧ (∀ a4, q2 = some a4 → ((v2 = 0 → v_kind0 a4  h3 (fun x5 h6 => Q x5 h6)) ∧ (v2 = 1 → gW h3 a4 0 (fun x7 => Q x7 h3)) ∧ (v2 = 2 → gW h3 a4 1 (fun x8 => Q x8 h3)) ∧ (¬ v2 = 0 → ¬ v2 = 1 → ¬ v2 = 2 → isO h3 v0 11 ∧ f_X11_allPay v0 v1 h3 (fun x9 h10 => Q x9 h10)))))))
set_option maxRecDepth 100000 in
set_option maxHeartbeats 4000000 in
theorem s_X11_ofWalker {o : Om} {v0 : Nat} {v1 : Int32} {v2 : Int32} {h : AH} {Q : Int32 → AH → Prop} (H : f_X11_ofWalker v0 v1 v2 h Q) : MQ' o kX11_ofWalker [.ref v0, .int v1, .int v2] h (qI Q) := by
  refine MQ'.of (by decide +kernel) (Nat.le_of_ble_eq_true rfl) ?_
  show AQ o kX11_ofWalker h 0 [(0, .ref v0), (1, .int v1), (2, .int v2)] [] (qI Q)
  refine a_aload_n 0 rfl rfl dX11_ofWalker_0 ?_
  refine r_gR fo_RX11_60_11 dX11_ofWalker_1 H (fun a1 H => ?_)
  refine a_iload_n 1 rfl rfl dX11_ofWalker_4 ?_
  refine r_Vo (q := (RX5, TX5, 10)) (av := [.int v1]) (rest := []) rfl rfl okX5_walkerAt H.1 rfl rfl wd538 wd539 wd540 ⟨Nat.le_of_ble_eq_true rfl, Nat.le_of_ble_eq_true rfl⟩ (Nat.le_of_ble_eq_true rfl) dX11_ofWalker_5 (s_X5_walkerAt H.2) (fun q2 h3 H => ?_)
  refine a_astoreQ_n (lv1 := [(0, .ref v0), (1, .int v1), (2, .int v2), (3, va_rf q2)]) rfl [1, 2, 3, 0] (by decide) rfl dX11_ofWalker_8 ?_
  refine a_aloadQ_n 3 rfl rfl dX11_ofWalker_9 ?_
  cases q2 with
  | none =>
    have H := H.1 rfl
    refine a_ifnonnull_n dX11_ofWalker_10 ?_
    show AQ o kX11_ofWalker h3 13 [(0, .ref v0), (1, .int v1), (2, .int v2), (3, .null)] [] _
    refine a_bipush (v := (-9 : Int32)) (by decide) dX11_ofWalker_13 ?_
    exact r_reti rfl dX11_ofWalker_15 H
  | some a4 =>
    have H := H.2 a4 rfl
    refine a_ifnonnull_r (tgt := 16) dX11_ofWalker_10 (by decide) ?_
    show AQ o kX11_ofWalker h3 16 [(0, .ref v0), (1, .int v1), (2, .int v2), (3, .ref a4)] [] _
    refine a_iload_n 2 rfl rfl dX11_ofWalker_16 ?_
    by_cases c0 : v2 = 0
    · have H := H.1 c0
      refine r_tab (off := 27) (tgt := 44) dX11_ofWalker_17 c0 (by decide) (by decide) rfl (by decide) ?_
      refine a_aload_n 3 rfl rfl dX11_ofWalker_44 ?_
      refine vs_X11_ofWalker_45 dX11_ofWalker_45 H (fun x5 h6 H => ?_)
      exact r_reti rfl dX11_ofWalker_48 H
    by_cases c1 : v2 = 1
    · have H := H.2.1 c1
      refine r_tab (off := 32) (tgt := 49) dX11_ofWalker_17 c1 (by decide) (by decide) rfl (by decide) ?_
      refine a_aload_n 3 rfl rfl dX11_ofWalker_49 ?_
      refine r_gW fw_RX11_333 dX11_ofWalker_50 H (fun x7 H => ?_)
      exact r_reti rfl dX11_ofWalker_53 H
    by_cases c2 : v2 = 2
    · have H := H.2.2.1 c2
      refine r_tab (off := 37) (tgt := 54) dX11_ofWalker_17 c2 (by decide) (by decide) rfl (by decide) ?_
      refine a_aload_n 3 rfl rfl dX11_ofWalker_54 ?_
      refine r_gW fw_RX11_334 dX11_ofWalker_55 H (fun x8 H => ?_)
      exact r_reti rfl dX11_ofWalker_58 H
    have H := H.2.2.2 c0 c1 c2
    have e0 := lv_neT (a := 0) c0 (by decide)
    have e1 := lv_neT (a := 1) c1 (by decide)
    have e2 := lv_neT (a := 2) c2 (by decide)
    refine a_tableOut (tgt := 59) dX11_ofWalker_17 (by omega) (by decide) ?_
    refine a_aload_n 0 rfl rfl dX11_ofWalker_59 ?_
    refine a_iload_n 1 rfl rfl dX11_ofWalker_60 ?_
    refine r_Vi (q := (RX11, TX11, 16)) (av := [.int v1]) (rest := []) rfl rfl okX11_allPay H.1 rfl rfl wd562 wd564 wp13 ⟨Nat.le_of_ble_eq_true rfl, Nat.le_of_ble_eq_true rfl⟩ (Nat.le_of_ble_eq_true rfl) dX11_ofWalker_61 (s_X11_allPay H.2) (fun x9 h10 H => ?_)
    exact r_reti rfl dX11_ofWalker_64 H
def f_X11_walker (v0 : Nat) (v1 : Int32) (v2 : Int32) (h : AH) (Q : Int32 → AH → Prop) : Prop :=
  gR h v0 11 8 (fun a1 => gI h a1 5 6 (fun x2 => f_X11_isBelow v1 x2 h (fun x3 h4 => ((x3 = 0 → Q (-1 : Int32) h4) ∧ (¬ (x3 = 0) → f_X11_isBelow v2 (4 : Int32) h4 (fun x5 h6 => ((¬ (x5 = 0) → isO h6 v0 11 ∧ f_X11_ofWalker v0 v1 v2 h6 (fun x7 h8 => pF h8 v0 11 12 (.int x7) (fun h9 => Q (1 : Int32) h9))) ∧ (x5 = 0 → Q (-1 : Int32) h6))))))))
set_option maxRecDepth 100000 in
set_option maxHeartbeats 4000000 in
theorem s_X11_walker {o : Om} {v0 : Nat} {v1 : Int32} {v2 : Int32} {h : AH} {Q : Int32 → AH → Prop} (H : f_X11_walker v0 v1 v2 h Q) : MQ' o kX11_walker [.ref v0, .int v1, .int v2] h (qI Q) := by
  refine MQ'.of (by decide +kernel) (Nat.le_of_ble_eq_true rfl) ?_
  show AQ o kX11_walker h 0 [(0, .ref v0), (1, .int v1), (2, .int v2)] [] (qI Q)
  refine a_iload_n 1 rfl rfl dX11_walker_0 ?_
  refine a_aload_n 0 rfl rfl dX11_walker_1 ?_
  refine r_gR fo_RX11_60_11 dX11_walker_2 H (fun a1 H => ?_)
  refine r_gI fo_RX11_153_5 dX11_walker_5 H (fun x2 H => ?_)
  refine r_Si (av := [.int v1, .int x2]) (rest := []) rfl rfl okX11_isBelow wd257 wd258 ⟨Nat.le_of_ble_eq_true rfl, Nat.le_of_ble_eq_true rfl⟩ (Nat.le_of_ble_eq_true rfl) dX11_walker_8 (s_X11_isBelow H) (fun x3 h4 H => ?_)
  refine a_if_eq (tgt := 22) dX11_walker_11 (by decide) (fun c => ?_) (fun c => ?_)
  · have H := H.1 (c)
    refine a_iconst (v := (-1 : Int32)) (by decide) dX11_walker_22 ?_
    exact r_reti rfl dX11_walker_23 H
  · have H := H.2 (c)
    refine a_iload_n 2 rfl rfl dX11_walker_14 ?_
    refine a_iconst (v := (4 : Int32)) (by decide) dX11_walker_15 ?_
    refine r_Si (av := [.int v2, .int (4 : Int32)]) (rest := []) rfl rfl okX11_isBelow wd257 wd258 ⟨Nat.le_of_ble_eq_true rfl, Nat.le_of_ble_eq_true rfl⟩ (Nat.le_of_ble_eq_true rfl) dX11_walker_16 (s_X11_isBelow H) (fun x5 h6 H => ?_)
    refine a_if_ne (tgt := 24) dX11_walker_19 (by decide) (fun c => ?_) (fun c => ?_)
    · have H := H.1 (c)
      refine a_aload_n 0 rfl rfl dX11_walker_24 ?_
      refine a_aload_n 0 rfl rfl dX11_walker_25 ?_
      refine a_iload_n 1 rfl rfl dX11_walker_26 ?_
      refine a_iload_n 2 rfl rfl dX11_walker_27 ?_
      refine r_Vi (q := (RX11, TX11, 16)) (av := [.int v1, .int v2]) (rest := [.ref v0]) rfl rfl okX11_ofWalker H.1 rfl rfl wd534 wd536 wp12 ⟨Nat.le_of_ble_eq_true rfl, Nat.le_of_ble_eq_true rfl⟩ (Nat.le_of_ble_eq_true rfl) dX11_walker_28 (s_X11_ofWalker H.2) (fun x7 h8 H => ?_)
      refine r_pF (po_RX11_44_11 _) (fun _ => rfl) (fun _ => rfl) dX11_walker_31 H (fun h9 H => ?_)
      refine a_iconst (v := (1 : Int32)) (by decide) dX11_walker_34 ?_
      exact r_reti rfl dX11_walker_35 H
    · have H := H.2 (c)
      refine a_iconst (v := (-1 : Int32)) (by decide) dX11_walker_22 ?_
      exact r_reti rfl dX11_walker_23 H
def f_X12_isWalker (v0 : Nat) (v1 : Int32) (h : AH) (Q : Int32 → AH → Prop) : Prop :=
  gI h v0 12 12 (fun x1 => f_X12_in v1.toInt64 (0 : Int64) ((x1 - (1 : Int32)).toInt64) h (fun x2 h3 => (bl x2 ∧ Q x2 h3)))
set_option maxRecDepth 100000 in
set_option maxHeartbeats 4000000 in
theorem s_X12_isWalker {o : Om} {v0 : Nat} {v1 : Int32} {h : AH} {Q : Int32 → AH → Prop} (H : f_X12_isWalker v0 v1 h Q) : MQ' o kX12_isWalker [.ref v0, .int v1] h (qI Q) := by
  refine MQ'.of (by decide +kernel) (Nat.le_of_ble_eq_true rfl) ?_
  show AQ o kX12_isWalker h 0 [(0, .ref v0), (1, .int v1)] [] (qI Q)
  refine a_iload_n 1 rfl rfl dX12_isWalker_0 ?_
  refine a_i2l dX12_isWalker_1 ?_
  refine a_lconst (v := (0 : Int64)) (by decide) dX12_isWalker_2 ?_
  refine a_aload_n 0 rfl rfl dX12_isWalker_3 ?_
  refine r_gI fo_RX12_181_12 dX12_isWalker_4 H (fun x1 H => ?_)
  refine a_iconst (v := (1 : Int32)) (by decide) dX12_isWalker_7 ?_
  refine a_isub dX12_isWalker_8 ?_
  refine a_i2l dX12_isWalker_9 ?_
  refine r_Si (av := [.long v1.toInt64, .long (0 : Int64), .long ((x1 - (1 : Int32)).toInt64)]) (rest := []) rfl rfl okX12_in wd1188 wd1189 ⟨Nat.le_of_ble_eq_true rfl, Nat.le_of_ble_eq_true rfl⟩ (Nat.le_of_ble_eq_true rfl) dX12_isWalker_10 (s_X12_in H) (fun x2 h3 H => ?_)
  exact r_retz rfl H.1 dX12_isWalker_13 H.2
def B_X12_walker_70 (Q : Int32 → AH → Prop)  (t0 : Nat) (t1 : Int32) (h : AH) : Prop :=
  isO h t0 12 ∧ f_X12_tells t0 t1 h (fun x1 h2 => Q x1 h2)
set_option maxRecDepth 100000 in
set_option maxHeartbeats 4000000 in
theorem b_X12_walker_70 {o : Om} {Q : Int32 → AH → Prop}  {t0 : Nat} {t1 : Int32} {h : AH}  (H : B_X12_walker_70 Q  t0 t1 h) : AQ o kX12_walker h 70 [] [.int t1, .ref t0] (qI Q) := by
  refine r_Vi (q := (RX12, TX12, 51)) (av := [.int t1]) (rest := []) rfl rfl okX12_tells H.1 rfl rfl wd1211 wd1213 wp34 ⟨Nat.le_of_ble_eq_true rfl, Nat.le_of_ble_eq_true rfl⟩ (Nat.le_of_ble_eq_true rfl) dX12_walker_70 (s_X12_tells H.2) (fun x1 h2 H => ?_)
  exact r_reti rfl dX12_walker_73 H
def f_X12_walker (v0 : Nat) (v1 : Int32) (v2 : Int32) (h : AH) (Q : Int32 → AH → Prop) : Prop :=
  isO h v0 12 ∧ f_X12_isWalker v0 v1 h (fun x1 h2 => ((x1 = 0 → Q (-1 : Int32) h2) ∧ (¬ (x1 = 0) → f_X12_in v2.toInt64 (0 : Int64) (3 : Int64) h2 (fun x3 h4 => ((¬ (x3 = 0) → ((¬ (v2 = 0) → ((¬ (v2 = (1 : Int32)) → ((¬ (v2 = (2 : Int32)) → gR h4 v0 12 18 (fun a5 => lI h4 a5 v1 (fun x6 => B_X12_walker_70 Q  v0 x6 h4))) ∧ (v2 = (2 : Int32) → gR h4 v0 12 15 (fun a7 => lI h4 a7 v1 (fun x8 => B_X12_walker_70 Q  v0 x8 h4))))) ∧ (v2 = (1 : Int32) → gR h4 v0 12 14 (fun a9 => lI h4 a9 v1 (fun x10 => B_X12_walker_70 Q  v0 x10 h4))))) ∧ (v2 = 0 → gR h4 v0 12 13 (fun a11 => lI h4 a11 v1 (fun x12 => B_X12_walker_70 Q  v0 x12 h4))))) ∧ (x3 = 0 → Q (-1 : Int32) h4))))))
set_option maxRecDepth 100000 in
set_option maxHeartbeats 4000000 in
theorem s_X12_walker {o : Om} {v0 : Nat} {v1 : Int32} {v2 : Int32} {h : AH} {Q : Int32 → AH → Prop} (H : f_X12_walker v0 v1 v2 h Q) : MQ' o kX12_walker [.ref v0, .int v1, .int v2] h (qI Q) := by
  refine MQ'.of (by decide +kernel) (Nat.le_of_ble_eq_true rfl) ?_
  show AQ o kX12_walker h 0 [(0, .ref v0), (1, .int v1), (2, .int v2)] [] (qI Q)
  refine a_aload_n 0 rfl rfl dX12_walker_0 ?_
  refine a_iload_n 1 rfl rfl dX12_walker_1 ?_
  refine r_Vi (q := (RX12, TX12, 51)) (av := [.int v1]) (rest := []) rfl rfl okX12_isWalker H.1 rfl rfl wd1300 wd1302 wp44 ⟨Nat.le_of_ble_eq_true rfl, Nat.le_of_ble_eq_true rfl⟩ (Nat.le_of_ble_eq_true rfl) dX12_walker_2 (s_X12_isWalker H.2) (fun x1 h2 H => ?_)
  refine a_if_eq (tgt := 20) dX12_walker_5 (by decide) (fun c => ?_) (fun c => ?_)
  · have H := H.1 (c)
    refine a_iconst (v := (-1 : Int32)) (by decide) dX12_walker_20 ?_
    exact r_reti rfl dX12_walker_21 H
  · have H := H.2 (c)
    refine a_iload_n 2 rfl rfl dX12_walker_8 ?_
    refine a_i2l dX12_walker_9 ?_
    refine a_lconst (v := (0 : Int64)) (by decide) dX12_walker_10 ?_
    refine a_ldc2 (v := (3 : Int64)) wd1234 dX12_walker_11 ?_
    refine r_Si (av := [.long v2.toInt64, .long (0 : Int64), .long (3 : Int64)]) (rest := []) rfl rfl okX12_in wd1188 wd1189 ⟨Nat.le_of_ble_eq_true rfl, Nat.le_of_ble_eq_true rfl⟩ (Nat.le_of_ble_eq_true rfl) dX12_walker_14 (s_X12_in H) (fun x3 h4 H => ?_)
    refine a_if_ne (tgt := 22) dX12_walker_17 (by decide) (fun c => ?_) (fun c => ?_)
    · have H := H.1 (c)
      refine a_aload_n 0 rfl rfl dX12_walker_22 ?_
      refine a_iload_n 2 rfl rfl dX12_walker_23 ?_
      refine a_if_ne (tgt := 36) dX12_walker_24 (by decide) (fun c => ?_) (fun c => ?_)
      · have H := H.1 (c)
        refine a_iload_n 2 rfl rfl dX12_walker_36 ?_
        refine a_iconst (v := (1 : Int32)) (by decide) dX12_walker_37 ?_
        refine a_icmp_ne (tgt := 50) dX12_walker_38 (by decide) (fun c => ?_) (fun c => ?_)
        · have H := H.1 (c)
          refine a_iload_n 2 rfl rfl dX12_walker_50 ?_
          refine a_iconst (v := (2 : Int32)) (by decide) dX12_walker_51 ?_
          refine a_icmp_ne (tgt := 64) dX12_walker_52 (by decide) (fun c => ?_) (fun c => ?_)
          · have H := H.1 (c)
            refine a_aload_n 0 rfl rfl dX12_walker_64 ?_
            refine r_gR fo_RX12_41_12 dX12_walker_65 H (fun a5 H => ?_)
            refine a_iload_n 1 rfl rfl dX12_walker_68 ?_
            refine r_lI dX12_walker_69 H (fun x6 H => ?_)
            refine AQ.sub (lv1 := []) [] rfl ?_
            exact b_X12_walker_70  H
          · have H := H.2 (c)
            refine a_aload_n 0 rfl rfl dX12_walker_55 ?_
            refine r_gR fo_RX12_38_12 dX12_walker_56 H (fun a7 H => ?_)
            refine a_iload_n 1 rfl rfl dX12_walker_59 ?_
            refine r_lI dX12_walker_60 H (fun x8 H => ?_)
            refine a_goto (tgt := 70) dX12_walker_61 (by decide) ?_
            refine AQ.sub (lv1 := []) [] rfl ?_
            exact b_X12_walker_70  H
        · have H := H.2 (c)
          refine a_aload_n 0 rfl rfl dX12_walker_41 ?_
          refine r_gR fo_RX12_35_12 dX12_walker_42 H (fun a9 H => ?_)
          refine a_iload_n 1 rfl rfl dX12_walker_45 ?_
          refine r_lI dX12_walker_46 H (fun x10 H => ?_)
          refine a_goto (tgt := 70) dX12_walker_47 (by decide) ?_
          refine AQ.sub (lv1 := []) [] rfl ?_
          exact b_X12_walker_70  H
      · have H := H.2 (c)
        refine a_aload_n 0 rfl rfl dX12_walker_27 ?_
        refine r_gR fo_RX12_32_12 dX12_walker_28 H (fun a11 H => ?_)
        refine a_iload_n 1 rfl rfl dX12_walker_31 ?_
        refine r_lI dX12_walker_32 H (fun x12 H => ?_)
        refine a_goto (tgt := 70) dX12_walker_33 (by decide) ?_
        refine AQ.sub (lv1 := []) [] rfl ?_
        exact b_X12_walker_70  H
    · have H := H.2 (c)
      refine a_iconst (v := (-1 : Int32)) (by decide) dX12_walker_20 ?_
      exact r_reti rfl dX12_walker_21 H
def f_X9_begin (v0 : Nat) (v1 : Nat) (v2 : Int32) (v3 : Int32) (h : AH) (Q : AH → Prop) : Prop :=
  pF h v0 9 0 (.ref v1) (fun h1 => pF h1 v0 9 1 (.int v3) (fun h2 => pF h2 v0 9 2 (.int v2) (fun h3 => pF h3 v0 9 3 (.int v2) (fun h4 => pF h4 v0 9 5 (.int (0 : Int32)) (fun h5 => pF h5 v0 9 6 (.int (0 : Int32)) (fun h6 => pF h6 v0 9 7 (.int (0 : Int32)) (fun h7 => Q h7)))))))
set_option maxRecDepth 100000 in
set_option maxHeartbeats 4000000 in
theorem s_X9_begin {o : Om} {v0 : Nat} {v1 : Nat} {v2 : Int32} {v3 : Int32} {h : AH} {Q : AH → Prop} (H : f_X9_begin v0 v1 v2 v3 h Q) : MQ' o kX9_begin [.ref v0, .ref v1, .int v2, .int v3] h (qV Q) := by
  refine MQ'.of (by decide +kernel) (Nat.le_of_ble_eq_true rfl) ?_
  show AQ o kX9_begin h 0 [(0, .ref v0), (1, .ref v1), (2, .int v2), (3, .int v3)] [] (qV Q)
  refine a_aload_n 0 rfl rfl dX9_begin_0 ?_
  refine a_aload_n 1 rfl rfl dX9_begin_1 ?_
  refine r_pF (po_RX9_33_9 _) (fun _ => rfl) (fun _ => rfl) dX9_begin_2 H (fun h1 H => ?_)
  refine a_aload_n 0 rfl rfl dX9_begin_5 ?_
  refine a_iload_n 3 rfl rfl dX9_begin_6 ?_
  refine r_pF (po_RX9_9_9 _) (fun _ => rfl) (fun _ => rfl) dX9_begin_7 H (fun h2 H => ?_)
  refine a_aload_n 0 rfl rfl dX9_begin_10 ?_
  refine a_iload_n 2 rfl rfl dX9_begin_11 ?_
  refine r_pF (po_RX9_15_9 _) (fun _ => rfl) (fun _ => rfl) dX9_begin_12 H (fun h3 H => ?_)
  refine a_aload_n 0 rfl rfl dX9_begin_15 ?_
  refine a_iload_n 2 rfl rfl dX9_begin_16 ?_
  refine r_pF (po_RX9_18_9 _) (fun _ => rfl) (fun _ => rfl) dX9_begin_17 H (fun h4 H => ?_)
  refine a_aload_n 0 rfl rfl dX9_begin_20 ?_
  refine a_iconst (v := (0 : Int32)) (by decide) dX9_begin_21 ?_
  refine r_pF (po_RX9_24_9 _) (fun _ => rfl) (fun _ => rfl) dX9_begin_22 H (fun h5 H => ?_)
  refine a_aload_n 0 rfl rfl dX9_begin_25 ?_
  refine a_iconst (v := (0 : Int32)) (by decide) dX9_begin_26 ?_
  refine r_pF (po_RX9_27_9 _) (fun _ => rfl) (fun _ => rfl) dX9_begin_27 H (fun h6 H => ?_)
  refine a_aload_n 0 rfl rfl dX9_begin_30 ?_
  refine a_iconst (v := (0 : Int32)) (by decide) dX9_begin_31 ?_
  refine r_pF (po_RX9_30_9 _) (fun _ => rfl) (fun _ => rfl) dX9_begin_32 H (fun h7 H => ?_)
  exact r_retv rfl dX9_begin_35 H
def f_X10_tell (v0 : Nat) (v1 : Int32) (v2 : Nat) (h : AH) (Q : Int32 → AH → Prop) : Prop :=
  Q (-100 : Int32) h
set_option maxRecDepth 100000 in
set_option maxHeartbeats 4000000 in
theorem s_X10_tell {o : Om} {v0 : Nat} {v1 : Int32} {v2 : Nat} {h : AH} {Q : Int32 → AH → Prop} (H : f_X10_tell v0 v1 v2 h Q) : MQ' o kX10_tell [.ref v0, .int v1, .ref v2] h (qI Q) := by
  refine MQ'.of (by decide +kernel) (Nat.le_of_ble_eq_true rfl) ?_
  show AQ o kX10_tell h 0 [(0, .ref v0), (1, .int v1), (2, .ref v2)] [] (qI Q)
  refine a_bipush (v := (-100 : Int32)) (by decide) dX10_tell_0 ?_
  exact r_reti rfl dX10_tell_2 H
def f_X5_turnOf (v0 : Nat) (v1 : Int32) (v2 : Int32) (v3 : Int32) (h : AH) (Q : Int32 → AH → Prop) : Prop :=
  ((v3 = 0 → gR h v0 5 0 (fun a1 => lI h a1 v1 (fun x2 => Q x2 h))) ∧ (v3 = 1 → gR h v0 5 0 (fun a3 => lI h a3 v1 (fun x4 => Q (-x4) h))) ∧ (¬ v3 = 0 → ¬ v3 = 1 → gR h v0 5 0 (fun a5 => lI h a5 v1 (fun x6 => gR h v0 5 2 (fun a7 => lI h a7 (((8 : Int32) * v1) + v2) (fun x8 => Q (x6 - ((10 : Int32) * x8)) h))))))
set_option maxRecDepth 100000 in
set_option maxHeartbeats 4000000 in
theorem s_X5_turnOf {o : Om} {v0 : Nat} {v1 : Int32} {v2 : Int32} {v3 : Int32} {h : AH} {Q : Int32 → AH → Prop} (H : f_X5_turnOf v0 v1 v2 v3 h Q) : MQ' o kX5_turnOf [.ref v0, .int v1, .int v2, .int v3] h (qI Q) := by
  refine MQ'.of (by decide +kernel) (Nat.le_of_ble_eq_true rfl) ?_
  show AQ o kX5_turnOf h 0 [(0, .ref v0), (1, .int v1), (2, .int v2), (3, .int v3)] [] (qI Q)
  refine a_iload_n 3 rfl rfl dX5_turnOf_0 ?_
  by_cases c0 : v3 = 0
  · have H := H.1 c0
    refine r_look (off := 27) (tgt := 28) dX5_turnOf_1 (by decide) c0 (by decide) (by decide) ?_
    refine a_aload_n 0 rfl rfl dX5_turnOf_28 ?_
    refine r_gR fo_RX5_11_5 dX5_turnOf_29 H (fun a1 H => ?_)
    refine a_iload_n 1 rfl rfl dX5_turnOf_32 ?_
    refine r_lI dX5_turnOf_33 H (fun x2 H => ?_)
    exact r_reti rfl dX5_turnOf_34 H
  by_cases c1 : v3 = 1
  · have H := H.2.1 c1
    refine r_look (off := 34) (tgt := 35) dX5_turnOf_1 (by decide) c1 (by decide) (by decide) ?_
    refine a_aload_n 0 rfl rfl dX5_turnOf_35 ?_
    refine r_gR fo_RX5_11_5 dX5_turnOf_36 H (fun a3 H => ?_)
    refine a_iload_n 1 rfl rfl dX5_turnOf_39 ?_
    refine r_lI dX5_turnOf_40 H (fun x4 H => ?_)
    refine a_ineg dX5_turnOf_41 ?_
    exact r_reti rfl dX5_turnOf_42 H
  have H := H.2.2 c0 c1
  refine a_lookup (tgt := 43) (off := 42) dX5_turnOf_1 (by decide) (by rw [lv_osw c0 (by decide)]; rw [lv_osw c1 (by decide)]; rfl) (by decide) ?_
  refine a_aload_n 0 rfl rfl dX5_turnOf_43 ?_
  refine r_gR fo_RX5_11_5 dX5_turnOf_44 H (fun a5 H => ?_)
  refine a_iload_n 1 rfl rfl dX5_turnOf_47 ?_
  refine r_lI dX5_turnOf_48 H (fun x6 H => ?_)
  refine a_bipush (v := (10 : Int32)) (by decide) dX5_turnOf_49 ?_
  refine a_aload_n 0 rfl rfl dX5_turnOf_51 ?_
  refine r_gR fo_RX5_18_5 dX5_turnOf_52 H (fun a7 H => ?_)
  refine a_bipush (v := (8 : Int32)) (by decide) dX5_turnOf_55 ?_
  refine a_iload_n 1 rfl rfl dX5_turnOf_57 ?_
  refine a_imul dX5_turnOf_58 ?_
  refine a_iload_n 2 rfl rfl dX5_turnOf_59 ?_
  refine a_iadd dX5_turnOf_60 ?_
  refine r_lI dX5_turnOf_61 H (fun x8 H => ?_)
  refine a_imul dX5_turnOf_62 ?_
  refine a_isub dX5_turnOf_63 ?_
  exact r_reti rfl dX5_turnOf_64 H
def B_X9_firstOn_102 (Q : Int32 → AH → Prop) (K17 : Int32 → Int32 → Int32 → AH → Prop) (v0 : Nat) (v1 : Int32) (v2 : Int32) (v3 : Int32) (v6 : Int32) (v7 : Int32) (v10 : Int32) (h : AH) : Prop :=
  K17 v7 v10 (v7 + 1) h
set_option maxRecDepth 100000 in
set_option maxHeartbeats 4000000 in
theorem b_X9_firstOn_102 {o : Om} {Q : Int32 → AH → Prop} {K17 : Int32 → Int32 → Int32 → AH → Prop} {v0 : Nat} {v1 : Int32} {v2 : Int32} {v3 : Int32} {v6 : Int32} {v7 : Int32} {v10 : Int32} {h : AH} (hK17 : ∀ w4 w5 w7 h, K17 w4 w5 w7 h → AQ o kX9_firstOn h 17 [(0, .ref v0), (1, .int v1), (2, .int v2), (3, .int v3), (4, .int w4), (5, .int w5), (6, .int v6), (7, .int w7)] [] (qI Q)) (H : B_X9_firstOn_102 Q K17 v0 v1 v2 v3 v6 v7 v10 h) : AQ o kX9_firstOn h 102 [(0, .ref v0), (1, .int v1), (2, .int v2), (3, .int v3), (6, .int v6), (7, .int v7), (10, .int v10)] [] (qI Q) := by
  refine a_iload 5 rfl dX9_firstOn_102 ?_
  refine a_istore (lv1 := [(0, .ref v0), (1, .int v1), (2, .int v2), (3, .int v3), (4, .int v7), (6, .int v6), (7, .int v7), (10, .int v10)]) [1, 2, 3, 4, 0, 5, 6, 7] (by decide) rfl dX9_firstOn_104 ?_
  refine a_iload 7 rfl dX9_firstOn_106 ?_
  refine a_istore (lv1 := [(0, .ref v0), (1, .int v1), (2, .int v2), (3, .int v3), (4, .int v7), (5, .int v10), (6, .int v6), (7, .int v7), (10, .int v10)]) [1, 2, 3, 4, 5, 0, 6, 7, 8] (by decide) rfl dX9_firstOn_108 ?_
  refine a_iinc (v := v7 + 1) (lv1 := [(0, .ref v0), (1, .int v1), (2, .int v2), (3, .int v3), (4, .int v7), (5, .int v10), (6, .int v6), (7, .int (v7 + 1)), (10, .int v10)]) [1, 2, 3, 4, 5, 6, 7, 0, 8] 7 rfl (by decide) rfl rfl dX9_firstOn_110 ?_
  refine a_goto (tgt := 17) dX9_firstOn_113 (by decide) ?_
  refine AQ.sub (lv1 := [(0, .ref v0), (1, .int v1), (2, .int v2), (3, .int v3), (4, .int v7), (5, .int v10), (6, .int v6), (7, .int (v7 + 1))]) [0, 1, 2, 3, 4, 5, 6, 7] rfl ?_
  exact hK17 _ _ _ _ H
def B_X9_firstOn_56 (Q : Int32 → AH → Prop) (K17 : Int32 → Int32 → Int32 → AH → Prop) (v0 : Nat) (v1 : Int32) (v2 : Int32) (v3 : Int32) (v4 : Int32) (v5 : Int32) (v6 : Int32) (v7 : Int32) (v8 : Int32) (t0 : Int32) (h : AH) : Prop :=
  ((t0 < 0 → K17 v4 v5 (v7 + 1) h) ∧ (¬ (t0 < 0) → ((v6 ≤ t0 → K17 v4 v5 (v7 + 1) h) ∧ (¬ (v6 ≤ t0) → gR h v0 9 0 (fun a1 => isO h a1 5 ∧ f_X5_turnOf a1 v7 v8 v3 h (fun x2 h3 => ((v4 < 0 → B_X9_firstOn_102 Q K17 v0 v1 v2 v3 v6 v7 (((100 : Int32) * t0) + x2) h3) ∧ (¬ (v4 < 0) → ((v5 ≤ (((100 : Int32) * t0) + x2) → K17 v4 v5 (v7 + 1) h3) ∧ (¬ (v5 ≤ (((100 : Int32) * t0) + x2)) → B_X9_firstOn_102 Q K17 v0 v1 v2 v3 v6 v7 (((100 : Int32) * t0) + x2) h3))))))))))
set_option maxRecDepth 100000 in
set_option maxHeartbeats 4000000 in
theorem b_X9_firstOn_56 {o : Om} {Q : Int32 → AH → Prop} {K17 : Int32 → Int32 → Int32 → AH → Prop} {v0 : Nat} {v1 : Int32} {v2 : Int32} {v3 : Int32} {v4 : Int32} {v5 : Int32} {v6 : Int32} {v7 : Int32} {v8 : Int32} {t0 : Int32} {h : AH} (hK17 : ∀ w4 w5 w7 h, K17 w4 w5 w7 h → AQ o kX9_firstOn h 17 [(0, .ref v0), (1, .int v1), (2, .int v2), (3, .int v3), (4, .int w4), (5, .int w5), (6, .int v6), (7, .int w7)] [] (qI Q)) (H : B_X9_firstOn_56 Q K17 v0 v1 v2 v3 v4 v5 v6 v7 v8 t0 h) : AQ o kX9_firstOn h 56 [(0, .ref v0), (1, .int v1), (2, .int v2), (3, .int v3), (4, .int v4), (5, .int v5), (6, .int v6), (7, .int v7), (8, .int v8)] [.int t0] (qI Q) := by
  refine a_istore (lv1 := [(0, .ref v0), (1, .int v1), (2, .int v2), (3, .int v3), (4, .int v4), (5, .int v5), (6, .int v6), (7, .int v7), (8, .int v8), (9, .int t0)]) [1, 2, 3, 4, 5, 6, 7, 8, 9, 0] (by decide) rfl dX9_firstOn_56 ?_
  refine a_iload 9 rfl dX9_firstOn_58 ?_
  refine a_if_lt (tgt := 110) dX9_firstOn_60 (by decide) (fun c => ?_) (fun c => ?_)
  · have H := H.1 (c)
    refine a_iinc (v := v7 + 1) (lv1 := [(0, .ref v0), (1, .int v1), (2, .int v2), (3, .int v3), (4, .int v4), (5, .int v5), (6, .int v6), (7, .int (v7 + 1)), (8, .int v8), (9, .int t0)]) [1, 2, 3, 4, 5, 6, 7, 0, 8, 9] 7 rfl (by decide) rfl rfl dX9_firstOn_110 ?_
    refine a_goto (tgt := 17) dX9_firstOn_113 (by decide) ?_
    refine AQ.sub (lv1 := [(0, .ref v0), (1, .int v1), (2, .int v2), (3, .int v3), (4, .int v4), (5, .int v5), (6, .int v6), (7, .int (v7 + 1))]) [0, 1, 2, 3, 4, 5, 6, 7] rfl ?_
    exact hK17 _ _ _ _ H
  · have H := H.2 (c)
    refine a_iload 9 rfl dX9_firstOn_63 ?_
    refine a_iload 6 rfl dX9_firstOn_65 ?_
    refine a_icmp_ge (tgt := 110) dX9_firstOn_67 (by decide) (fun c => ?_) (fun c => ?_)
    · have H := H.1 (c)
      refine a_iinc (v := v7 + 1) (lv1 := [(0, .ref v0), (1, .int v1), (2, .int v2), (3, .int v3), (4, .int v4), (5, .int v5), (6, .int v6), (7, .int (v7 + 1)), (8, .int v8), (9, .int t0)]) [1, 2, 3, 4, 5, 6, 7, 0, 8, 9] 7 rfl (by decide) rfl rfl dX9_firstOn_110 ?_
      refine a_goto (tgt := 17) dX9_firstOn_113 (by decide) ?_
      refine AQ.sub (lv1 := [(0, .ref v0), (1, .int v1), (2, .int v2), (3, .int v3), (4, .int v4), (5, .int v5), (6, .int v6), (7, .int (v7 + 1))]) [0, 1, 2, 3, 4, 5, 6, 7] rfl ?_
      exact hK17 _ _ _ _ H
    · have H := H.2 (c)
      refine a_bipush (v := (100 : Int32)) (by decide) dX9_firstOn_70 ?_
      refine a_iload 9 rfl dX9_firstOn_72 ?_
      refine a_imul dX9_firstOn_74 ?_
      refine a_aload_n 0 rfl rfl dX9_firstOn_75 ?_
      refine r_gR fo_RX9_33_9 dX9_firstOn_76 H (fun a1 H => ?_)
      refine a_iload 7 rfl dX9_firstOn_79 ?_
      refine a_iload 8 rfl dX9_firstOn_81 ?_
      refine a_iload_n 3 rfl rfl dX9_firstOn_83 ?_
      refine r_Vi (q := (RX5, TX5, 10)) (av := [.int v7, .int v8, .int v3]) (rest := [.int ((100 : Int32) * t0)]) rfl rfl okX5_turnOf H.1 rfl rfl wd600 wd601 wd602 ⟨Nat.le_of_ble_eq_true rfl, Nat.le_of_ble_eq_true rfl⟩ (Nat.le_of_ble_eq_true rfl) dX9_firstOn_84 (s_X5_turnOf H.2) (fun x2 h3 H => ?_)
      refine a_iadd dX9_firstOn_87 ?_
      refine a_istore (lv1 := [(0, .ref v0), (1, .int v1), (2, .int v2), (3, .int v3), (4, .int v4), (5, .int v5), (6, .int v6), (7, .int v7), (8, .int v8), (9, .int t0), (10, .int (((100 : Int32) * t0) + x2))]) [1, 2, 3, 4, 5, 6, 7, 8, 9, 10, 0] (by decide) rfl dX9_firstOn_88 ?_
      refine a_iload 4 rfl dX9_firstOn_90 ?_
      refine a_if_lt (tgt := 102) dX9_firstOn_92 (by decide) (fun c => ?_) (fun c => ?_)
      · have H := H.1 (c)
        refine AQ.sub (lv1 := [(0, .ref v0), (1, .int v1), (2, .int v2), (3, .int v3), (6, .int v6), (7, .int v7), (10, .int (((100 : Int32) * t0) + x2))]) [0, 1, 2, 3, 6, 7, 10] rfl ?_
        exact b_X9_firstOn_102 hK17 H
      · have H := H.2 (c)
        refine a_iload 10 rfl dX9_firstOn_95 ?_
        refine a_iload 5 rfl dX9_firstOn_97 ?_
        refine a_icmp_ge (tgt := 110) dX9_firstOn_99 (by decide) (fun c => ?_) (fun c => ?_)
        · have H := H.1 (c)
          refine a_iinc (v := v7 + 1) (lv1 := [(0, .ref v0), (1, .int v1), (2, .int v2), (3, .int v3), (4, .int v4), (5, .int v5), (6, .int v6), (7, .int (v7 + 1)), (8, .int v8), (9, .int t0), (10, .int (((100 : Int32) * t0) + x2))]) [1, 2, 3, 4, 5, 6, 7, 0, 8, 9, 10] 7 rfl (by decide) rfl rfl dX9_firstOn_110 ?_
          refine a_goto (tgt := 17) dX9_firstOn_113 (by decide) ?_
          refine AQ.sub (lv1 := [(0, .ref v0), (1, .int v1), (2, .int v2), (3, .int v3), (4, .int v4), (5, .int v5), (6, .int v6), (7, .int (v7 + 1))]) [0, 1, 2, 3, 4, 5, 6, 7] rfl ?_
          exact hK17 _ _ _ _ H
        · have H := H.2 (c)
          refine AQ.sub (lv1 := [(0, .ref v0), (1, .int v1), (2, .int v2), (3, .int v3), (6, .int v6), (7, .int v7), (10, .int (((100 : Int32) * t0) + x2))]) [0, 1, 2, 3, 6, 7, 10] rfl ?_
          exact b_X9_firstOn_102 hK17 H
def B_X9_firstOn_17 (Q : Int32 → AH → Prop) (K17 : Int32 → Int32 → Int32 → AH → Prop) (v0 : Nat) (v1 : Int32) (v2 : Int32) (v3 : Int32) (v6 : Int32) (v4 : Int32) (v5 : Int32) (v7 : Int32) (h : AH) : Prop :=
  gR h v0 9 0 (fun a1 => gI h a1 5 5 (fun x2 => ((x2 ≤ v7 → Q v4 h) ∧ (¬ (x2 ≤ v7) → gI h v0 9 3 (fun x3 => f_X5_postOf x3 v7 h (fun x4 h5 => ((v2 ≤ v1 → B_X9_firstOn_56 Q K17 v0 v1 v2 v3 v4 v5 v6 v7 x4 (v1 - x4) h5) ∧ (¬ (v2 ≤ v1) → B_X9_firstOn_56 Q K17 v0 v1 v2 v3 v4 v5 v6 v7 x4 (x4 - v1) h5))))))))
set_option maxRecDepth 100000 in
set_option maxHeartbeats 4000000 in
theorem b_X9_firstOn_17 {o : Om} {Q : Int32 → AH → Prop} {K17 : Int32 → Int32 → Int32 → AH → Prop} {v0 : Nat} {v1 : Int32} {v2 : Int32} {v3 : Int32} {v6 : Int32} {v4 : Int32} {v5 : Int32} {v7 : Int32} {h : AH} (hK17 : ∀ w4 w5 w7 h, K17 w4 w5 w7 h → AQ o kX9_firstOn h 17 [(0, .ref v0), (1, .int v1), (2, .int v2), (3, .int v3), (4, .int w4), (5, .int w5), (6, .int v6), (7, .int w7)] [] (qI Q)) (H : B_X9_firstOn_17 Q K17 v0 v1 v2 v3 v6 v4 v5 v7 h) : AQ o kX9_firstOn h 17 [(0, .ref v0), (1, .int v1), (2, .int v2), (3, .int v3), (4, .int v4), (5, .int v5), (6, .int v6), (7, .int v7)] [] (qI Q) := by
  refine a_iload 7 rfl dX9_firstOn_17 ?_
  refine a_aload_n 0 rfl rfl dX9_firstOn_19 ?_
  refine r_gR fo_RX9_33_9 dX9_firstOn_20 H (fun a1 H => ?_)
  refine r_gI fo_RX9_53_5 dX9_firstOn_23 H (fun x2 H => ?_)
  refine a_icmp_ge (tgt := 116) dX9_firstOn_26 (by decide) (fun c => ?_) (fun c => ?_)
  · have H := H.1 (c)
    refine a_iload 4 rfl dX9_firstOn_116 ?_
    exact r_reti rfl dX9_firstOn_118 H
  · have H := H.2 (c)
    refine a_aload_n 0 rfl rfl dX9_firstOn_29 ?_
    refine r_gI fo_RX9_18_9 dX9_firstOn_30 H (fun x3 H => ?_)
    refine a_iload 7 rfl dX9_firstOn_33 ?_
    refine r_Si (av := [.int x3, .int v7]) (rest := []) rfl rfl okX5_postOf wd529 wd519 ⟨Nat.le_of_ble_eq_true rfl, Nat.le_of_ble_eq_true rfl⟩ (Nat.le_of_ble_eq_true rfl) dX9_firstOn_35 (s_X5_postOf H) (fun x4 h5 H => ?_)
    refine a_istore (lv1 := [(0, .ref v0), (1, .int v1), (2, .int v2), (3, .int v3), (4, .int v4), (5, .int v5), (6, .int v6), (7, .int v7), (8, .int x4)]) [1, 2, 3, 4, 5, 6, 7, 8, 0] (by decide) rfl dX9_firstOn_38 ?_
    refine a_iload_n 1 rfl rfl dX9_firstOn_40 ?_
    refine a_iload_n 2 rfl rfl dX9_firstOn_41 ?_
    refine a_icmp_ge (tgt := 52) dX9_firstOn_42 (by decide) (fun c => ?_) (fun c => ?_)
    · have H := H.1 (c)
      refine a_iload_n 1 rfl rfl dX9_firstOn_52 ?_
      refine a_iload 8 rfl dX9_firstOn_53 ?_
      refine a_isub dX9_firstOn_55 ?_
      exact b_X9_firstOn_56 hK17 H
    · have H := H.2 (c)
      refine a_iload 8 rfl dX9_firstOn_45 ?_
      refine a_iload_n 1 rfl rfl dX9_firstOn_47 ?_
      refine a_isub dX9_firstOn_48 ?_
      refine a_goto (tgt := 56) dX9_firstOn_49 (by decide) ?_
      exact b_X9_firstOn_56 hK17 H
def L_X9_firstOn_17 (Q : Int32 → AH → Prop)  (v0 : Nat) (v1 : Int32) (v2 : Int32) (v3 : Int32) (v6 : Int32) : Nat → Int32 → Int32 → Int32 → AH → Prop
  | 0, _, _, _, _ => False
  | n + 1, v4, v5, v7, h => B_X9_firstOn_17 Q (L_X9_firstOn_17 Q  v0 v1 v2 v3 v6 n) v0 v1 v2 v3 v6 v4 v5 v7 h
theorem l_X9_firstOn_17 {o : Om} {Q : Int32 → AH → Prop}  {v0 : Nat} {v1 : Int32} {v2 : Int32} {v3 : Int32} {v6 : Int32}  : ∀ (n : Nat) (v4 : Int32) (v5 : Int32) (v7 : Int32) (h : AH), L_X9_firstOn_17 Q  v0 v1 v2 v3 v6 n v4 v5 v7 h → AQ o kX9_firstOn h 17 [(0, .ref v0), (1, .int v1), (2, .int v2), (3, .int v3), (4, .int v4), (5, .int v5), (6, .int v6), (7, .int v7)] [] (qI Q) := by
  intro n
  induction n with
  | zero => intro v4 v5 v7 h H; exact H.elim
  | succ n ih => intro v4 v5 v7 h H; exact b_X9_firstOn_17 ih H
def f_X9_firstOn (v0 : Nat) (v1 : Int32) (v2 : Int32) (v3 : Int32) (h : AH) (Q : Int32 → AH → Prop) : Prop :=
  ∃ n, L_X9_firstOn_17 Q  v0 v1 v2 v3 (if 0 ≤ (v2 - v1) then (v2 - v1) else 0 - (v2 - v1)) n (-1 : Int32) (0 : Int32) (0 : Int32) h
set_option maxRecDepth 100000 in
set_option maxHeartbeats 4000000 in
theorem s_X9_firstOn {o : Om} {v0 : Nat} {v1 : Int32} {v2 : Int32} {v3 : Int32} {h : AH} {Q : Int32 → AH → Prop} (H : f_X9_firstOn v0 v1 v2 v3 h Q) : MQ' o kX9_firstOn [.ref v0, .int v1, .int v2, .int v3] h (qI Q) := by
  refine MQ'.of (by decide +kernel) (Nat.le_of_ble_eq_true rfl) ?_
  show AQ o kX9_firstOn h 0 [(0, .ref v0), (1, .int v1), (2, .int v2), (3, .int v3)] [] (qI Q)
  refine a_iconst (v := (-1 : Int32)) (by decide) dX9_firstOn_0 ?_
  refine a_istore (lv1 := [(0, .ref v0), (1, .int v1), (2, .int v2), (3, .int v3), (4, .int (-1 : Int32))]) [1, 2, 3, 4, 0] (by decide) rfl dX9_firstOn_1 ?_
  refine a_iconst (v := (0 : Int32)) (by decide) dX9_firstOn_3 ?_
  refine a_istore (lv1 := [(0, .ref v0), (1, .int v1), (2, .int v2), (3, .int v3), (4, .int (-1 : Int32)), (5, .int (0 : Int32))]) [1, 2, 3, 4, 5, 0] (by decide) rfl dX9_firstOn_4 ?_
  refine a_iload_n 2 rfl rfl dX9_firstOn_6 ?_
  refine a_iload_n 1 rfl rfl dX9_firstOn_7 ?_
  refine a_isub dX9_firstOn_8 ?_
  refine a_mabs wd599 wd407 wd8 wd408 ⟨Nat.le_of_ble_eq_true rfl, Nat.le_of_ble_eq_true rfl⟩ dX9_firstOn_9 ?_
  refine a_istore (lv1 := [(0, .ref v0), (1, .int v1), (2, .int v2), (3, .int v3), (4, .int (-1 : Int32)), (5, .int (0 : Int32)), (6, .int (if 0 ≤ (v2 - v1) then (v2 - v1) else 0 - (v2 - v1)))]) [1, 2, 3, 4, 5, 6, 0] (by decide) rfl dX9_firstOn_12 ?_
  refine a_iconst (v := (0 : Int32)) (by decide) dX9_firstOn_14 ?_
  refine a_istore (lv1 := [(0, .ref v0), (1, .int v1), (2, .int v2), (3, .int v3), (4, .int (-1 : Int32)), (5, .int (0 : Int32)), (6, .int (if 0 ≤ (v2 - v1) then (v2 - v1) else 0 - (v2 - v1))), (7, .int (0 : Int32))]) [1, 2, 3, 4, 5, 6, 7, 0] (by decide) rfl dX9_firstOn_15 ?_
  obtain ⟨n, H⟩ := H
  exact l_X9_firstOn_17  n _ _ _ _ H
def f_X9_postNow (v0 : Nat) (v1 : Int32) (h : AH) (Q : Int32 → AH → Prop) : Prop :=
  gI h v0 9 3 (fun x1 => f_X5_postOf x1 v1 h (fun x2 h3 => Q x2 h3))
set_option maxRecDepth 100000 in
set_option maxHeartbeats 4000000 in
theorem s_X9_postNow {o : Om} {v0 : Nat} {v1 : Int32} {h : AH} {Q : Int32 → AH → Prop} (H : f_X9_postNow v0 v1 h Q) : MQ' o kX9_postNow [.ref v0, .int v1] h (qI Q) := by
  refine MQ'.of (by decide +kernel) (Nat.le_of_ble_eq_true rfl) ?_
  show AQ o kX9_postNow h 0 [(0, .ref v0), (1, .int v1)] [] (qI Q)
  refine a_aload_n 0 rfl rfl dX9_postNow_0 ?_
  refine r_gI fo_RX9_18_9 dX9_postNow_1 H (fun x1 H => ?_)
  refine a_iload_n 1 rfl rfl dX9_postNow_4 ?_
  refine r_Si (av := [.int x1, .int v1]) (rest := []) rfl rfl okX5_postOf wd529 wd519 ⟨Nat.le_of_ble_eq_true rfl, Nat.le_of_ble_eq_true rfl⟩ (Nat.le_of_ble_eq_true rfl) dX9_postNow_5 (s_X5_postOf H) (fun x2 h3 H => ?_)
  exact r_reti rfl dX9_postNow_8 H
def f_X10_nextTo (v0 : Int32) (v1 : Int32) (h : AH) (Q : Int32 → AH → Prop) : Prop :=
  ((v1 ≤ v0 → Q (v0 - (1 : Int32)) h) ∧ (¬ (v1 ≤ v0) → Q (v0 + (1 : Int32)) h))
set_option maxRecDepth 100000 in
set_option maxHeartbeats 4000000 in
theorem s_X10_nextTo {o : Om} {v0 : Int32} {v1 : Int32} {h : AH} {Q : Int32 → AH → Prop} (H : f_X10_nextTo v0 v1 h Q) : MQ' o kX10_nextTo [.int v0, .int v1] h (qI Q) := by
  refine MQ'.of (by decide +kernel) (Nat.le_of_ble_eq_true rfl) ?_
  show AQ o kX10_nextTo h 0 [(0, .int v0), (1, .int v1)] [] (qI Q)
  refine a_iload_n 0 rfl rfl dX10_nextTo_0 ?_
  refine a_iload_n 1 rfl rfl dX10_nextTo_1 ?_
  refine a_icmp_ge (tgt := 11) dX10_nextTo_2 (by decide) (fun c => ?_) (fun c => ?_)
  · have H := H.1 (c)
    refine a_iload_n 0 rfl rfl dX10_nextTo_11 ?_
    refine a_iconst (v := (1 : Int32)) (by decide) dX10_nextTo_12 ?_
    refine a_isub dX10_nextTo_13 ?_
    exact r_reti rfl dX10_nextTo_14 H
  · have H := H.2 (c)
    refine a_iload_n 0 rfl rfl dX10_nextTo_5 ?_
    refine a_iconst (v := (1 : Int32)) (by decide) dX10_nextTo_6 ?_
    refine a_iadd dX10_nextTo_7 ?_
    refine a_goto (tgt := 14) dX10_nextTo_8 (by decide) ?_
    exact r_reti rfl dX10_nextTo_14 H
def f_X10_goalFrom (v0 : Nat) (v1 : Int32) (v2 : Int32) (h : AH) (Q : Int32 → AH → Prop) : Prop :=
  f_X10_nextTo v1 v2 h (fun x1 h2 => Q x1 h2)
set_option maxRecDepth 100000 in
set_option maxHeartbeats 4000000 in
theorem s_X10_goalFrom {o : Om} {v0 : Nat} {v1 : Int32} {v2 : Int32} {h : AH} {Q : Int32 → AH → Prop} (H : f_X10_goalFrom v0 v1 v2 h Q) : MQ' o kX10_goalFrom [.ref v0, .int v1, .int v2] h (qI Q) := by
  refine MQ'.of (by decide +kernel) (Nat.le_of_ble_eq_true rfl) ?_
  show AQ o kX10_goalFrom h 0 [(0, .ref v0), (1, .int v1), (2, .int v2)] [] (qI Q)
  refine a_iload_n 1 rfl rfl dX10_goalFrom_0 ?_
  refine a_iload_n 2 rfl rfl dX10_goalFrom_1 ?_
  refine r_Si (av := [.int v1, .int v2]) (rest := []) rfl rfl okX10_nextTo wd620 wd621 ⟨Nat.le_of_ble_eq_true rfl, Nat.le_of_ble_eq_true rfl⟩ (Nat.le_of_ble_eq_true rfl) dX10_goalFrom_2 (s_X10_nextTo H) (fun x1 h2 H => ?_)
  exact r_reti rfl dX10_goalFrom_5 H
def f_X3_goalFrom (v0 : Nat) (v1 : Int32) (v2 : Int32) (h : AH) (Q : Int32 → AH → Prop) : Prop :=
  Q v2 h
set_option maxRecDepth 100000 in
set_option maxHeartbeats 4000000 in
theorem s_X3_goalFrom {o : Om} {v0 : Nat} {v1 : Int32} {v2 : Int32} {h : AH} {Q : Int32 → AH → Prop} (H : f_X3_goalFrom v0 v1 v2 h Q) : MQ' o kX3_goalFrom [.ref v0, .int v1, .int v2] h (qI Q) := by
  refine MQ'.of (by decide +kernel) (Nat.le_of_ble_eq_true rfl) ?_
  show AQ o kX3_goalFrom h 0 [(0, .ref v0), (1, .int v1), (2, .int v2)] [] (qI Q)
  refine a_iload_n 2 rfl rfl dX3_goalFrom_0 ?_
  exact r_reti rfl dX3_goalFrom_1 H
def v_goalFrom0 (a : Nat) (u0 : Int32) (u1 : Int32) (h : AH) (Q : Int32 → AH → Prop) : Prop := ∃ ci fs, h.2.2 a = some (.inr (ci, fs)) ∧ ((ci = 0 ∧ f_X10_goalFrom a u0 u1 h Q) ∨ (ci = 1 ∧ f_X10_goalFrom a u0 u1 h Q) ∨ (ci = 2 ∧ f_X10_goalFrom a u0 u1 h Q) ∨ (ci = 3 ∧ f_X3_goalFrom a u0 u1 h Q) ∨ (ci = 8 ∧ f_X10_goalFrom a u0 u1 h Q) ∨ (ci = 10 ∧ f_X10_goalFrom a u0 u1 h Q))
def f_X9_carry (v0 : Nat) (v1 : Int32) (v2 : Int32) (h : AH) (Q : AH → Prop) : Prop :=
  ((v1 < 0 → Q h) ∧ (¬ (v1 < 0) → gR h v0 9 0 (fun a1 => gI h a1 5 5 (fun x2 => ((v1 < x2 → gI h v0 9 3 (fun x3 => f_X5_withPost x3 v1 v2 h (fun x4 h5 => pF h5 v0 9 3 (.int x4) (fun h6 => gI h6 v0 9 5 (fun x7 => gR h6 v0 9 0 (fun a8 => gR h6 a8 5 0 (fun a9 => lI h6 a9 v1 (fun x10 => pF h6 v0 9 5 (.int (x7 + x10)) (fun h11 => gI h11 v0 9 7 (fun x12 => pF h11 v0 9 7 (.int (x12 + ((1 : Int32) <<< (((3 : Int32) * v1) &&& 31)))) (fun h13 => gI h13 v0 9 6 (fun x14 => pF h13 v0 9 6 (.int (x14 + (1 : Int32))) (fun h15 => Q h15))))))))))))) ∧ (¬ (v1 < x2) → Q h))))))
set_option maxRecDepth 100000 in
set_option maxHeartbeats 4000000 in
theorem s_X9_carry {o : Om} {v0 : Nat} {v1 : Int32} {v2 : Int32} {h : AH} {Q : AH → Prop} (H : f_X9_carry v0 v1 v2 h Q) : MQ' o kX9_carry [.ref v0, .int v1, .int v2] h (qV Q) := by
  refine MQ'.of (by decide +kernel) (Nat.le_of_ble_eq_true rfl) ?_
  show AQ o kX9_carry h 0 [(0, .ref v0), (1, .int v1), (2, .int v2)] [] (qV Q)
  refine a_iload_n 1 rfl rfl dX9_carry_0 ?_
  refine a_if_lt (tgt := 15) dX9_carry_1 (by decide) (fun c => ?_) (fun c => ?_)
  · have H := H.1 (c)
    exact r_retv rfl dX9_carry_15 H
  · have H := H.2 (c)
    refine a_iload_n 1 rfl rfl dX9_carry_4 ?_
    refine a_aload_n 0 rfl rfl dX9_carry_5 ?_
    refine r_gR fo_RX9_33_9 dX9_carry_6 H (fun a1 H => ?_)
    refine r_gI fo_RX9_53_5 dX9_carry_9 H (fun x2 H => ?_)
    refine a_icmp_lt (tgt := 16) dX9_carry_12 (by decide) (fun c => ?_) (fun c => ?_)
    · have H := H.1 (c)
      refine a_aload_n 0 rfl rfl dX9_carry_16 ?_
      refine a_aload_n 0 rfl rfl dX9_carry_17 ?_
      refine r_gI fo_RX9_18_9 dX9_carry_18 H (fun x3 H => ?_)
      refine a_iload_n 1 rfl rfl dX9_carry_21 ?_
      refine a_iload_n 2 rfl rfl dX9_carry_22 ?_
      refine r_Si (av := [.int x3, .int v1, .int v2]) (rest := [.ref v0]) rfl rfl okX5_withPost wd627 wd401 ⟨Nat.le_of_ble_eq_true rfl, Nat.le_of_ble_eq_true rfl⟩ (Nat.le_of_ble_eq_true rfl) dX9_carry_23 (s_X5_withPost H) (fun x4 h5 H => ?_)
      refine r_pF (po_RX9_18_9 _) (fun _ => rfl) (fun _ => rfl) dX9_carry_26 H (fun h6 H => ?_)
      refine a_aload_n 0 rfl rfl dX9_carry_29 ?_
      refine a_dup rfl dX9_carry_30 ?_
      refine r_gI fo_RX9_24_9 dX9_carry_31 H (fun x7 H => ?_)
      refine a_aload_n 0 rfl rfl dX9_carry_34 ?_
      refine r_gR fo_RX9_33_9 dX9_carry_35 H (fun a8 H => ?_)
      refine r_gR fo_RX9_56_5 dX9_carry_38 H (fun a9 H => ?_)
      refine a_iload_n 1 rfl rfl dX9_carry_41 ?_
      refine r_lI dX9_carry_42 H (fun x10 H => ?_)
      refine a_iadd dX9_carry_43 ?_
      refine r_pF (po_RX9_24_9 _) (fun _ => rfl) (fun _ => rfl) dX9_carry_44 H (fun h11 H => ?_)
      refine a_aload_n 0 rfl rfl dX9_carry_47 ?_
      refine a_dup rfl dX9_carry_48 ?_
      refine r_gI fo_RX9_30_9 dX9_carry_49 H (fun x12 H => ?_)
      refine a_iconst (v := (1 : Int32)) (by decide) dX9_carry_52 ?_
      refine a_iconst (v := (3 : Int32)) (by decide) dX9_carry_53 ?_
      refine a_iload_n 1 rfl rfl dX9_carry_54 ?_
      refine a_imul dX9_carry_55 ?_
      refine a_ishl dX9_carry_56 ?_
      refine a_iadd dX9_carry_57 ?_
      refine r_pF (po_RX9_30_9 _) (fun _ => rfl) (fun _ => rfl) dX9_carry_58 H (fun h13 H => ?_)
      refine a_aload_n 0 rfl rfl dX9_carry_61 ?_
      refine a_dup rfl dX9_carry_62 ?_
      refine r_gI fo_RX9_27_9 dX9_carry_63 H (fun x14 H => ?_)
      refine a_iconst (v := (1 : Int32)) (by decide) dX9_carry_66 ?_
      refine a_iadd dX9_carry_67 ?_
      refine r_pF (po_RX9_27_9 _) (fun _ => rfl) (fun _ => rfl) dX9_carry_68 H (fun h15 H => ?_)
      exact r_retv rfl dX9_carry_71 H
    · have H := H.2 (c)
      exact r_retv rfl dX9_carry_15 H
theorem vs_X10_goOneWay_28 {o : Om} {h : AH} {lv : List (Nat × Value)} {rest : List Value} {Q : Option Value → AH → Prop} {a : Nat} {u0 : Int32} {u1 : Int32} {F : Int32 → AH → Prop} (hd : decode kX10_goOneWay.2.1 28 = .ok (.invokevirtual 37, 3)) (H : v_goalFrom0 a u0 u1 h F) (k : ∀ x h, F x h → AQ o kX10_goOneWay h (28 + 3) lv (.int x :: rest) Q) (hc : (rest.map fun v => v.category).sum ≤ 8 := by exact Nat.le_of_ble_eq_true rfl) : AQ o kX10_goOneWay h 28 lv (.int u1 :: .int u0 :: .ref a :: rest) Q := by
  obtain ⟨ci, fs, hO, H⟩ := H
  rcases H with ⟨rfl, H⟩ | ⟨rfl, H⟩ | ⟨rfl, H⟩ | ⟨rfl, H⟩ | ⟨rfl, H⟩ | ⟨rfl, H⟩
  · exact r_Ui (q := (RX0, TX0, 2)) (x := ⟨"MilestonesOn$Walker", "goalFrom", "(II)I"⟩) (owner := "MilestonesOn$Walker") (av := [.int u0, .int u1]) (rest := rest) rfl rfl okX10_goalFrom hO rfl rfl wd608 wd611 (by decide +kernel) wd609 wd619 wd609 wd612 ⟨Nat.le_of_ble_eq_true rfl, Nat.le_of_ble_eq_true rfl⟩ hc hd (s_X10_goalFrom H) k
  · exact r_Ui (q := (RX1, TX1, 2)) (x := ⟨"MilestonesOn$Walker", "goalFrom", "(II)I"⟩) (owner := "MilestonesOn$Walker") (av := [.int u0, .int u1]) (rest := rest) rfl rfl okX10_goalFrom hO rfl rfl wd608 wd611 (by decide +kernel) wd609 wd619 wd609 wd613 ⟨Nat.le_of_ble_eq_true rfl, Nat.le_of_ble_eq_true rfl⟩ hc hd (s_X10_goalFrom H) k
  · exact r_Ui (q := (RX2, TX2, 2)) (x := ⟨"MilestonesOn$Walker", "goalFrom", "(II)I"⟩) (owner := "MilestonesOn$Walker") (av := [.int u0, .int u1]) (rest := rest) rfl rfl okX10_goalFrom hO rfl rfl wd608 wd611 (by decide +kernel) wd609 wd619 wd609 wd614 ⟨Nat.le_of_ble_eq_true rfl, Nat.le_of_ble_eq_true rfl⟩ hc hd (s_X10_goalFrom H) k
  · exact r_Ui (q := (RX3, TX3, 2)) (x := ⟨"MilestonesOn$Walker", "goalFrom", "(II)I"⟩) (owner := "MilestonesOn$Walker") (av := [.int u0, .int u1]) (rest := rest) rfl rfl okX3_goalFrom hO rfl rfl wd608 wd611 (by decide +kernel) wd609 wd619 wd616 wd615 ⟨Nat.le_of_ble_eq_true rfl, Nat.le_of_ble_eq_true rfl⟩ hc hd (s_X3_goalFrom H) k
  · exact r_Ui (q := (RX8, TX8, 2)) (x := ⟨"MilestonesOn$Walker", "goalFrom", "(II)I"⟩) (owner := "MilestonesOn$Walker") (av := [.int u0, .int u1]) (rest := rest) rfl rfl okX10_goalFrom hO rfl rfl wd608 wd611 (by decide +kernel) wd609 wd619 wd609 wd618 ⟨Nat.le_of_ble_eq_true rfl, Nat.le_of_ble_eq_true rfl⟩ hc hd (s_X10_goalFrom H) k
  · exact r_Ui (q := (RX10, TX10, 2)) (x := ⟨"MilestonesOn$Walker", "goalFrom", "(II)I"⟩) (owner := "MilestonesOn$Walker") (av := [.int u0, .int u1]) (rest := rest) rfl rfl okX10_goalFrom hO rfl rfl wd608 wd611 (by decide +kernel) wd609 wd619 wd609 wd610 ⟨Nat.le_of_ble_eq_true rfl, Nat.le_of_ble_eq_true rfl⟩ hc hd (s_X10_goalFrom H) k
def f_X10_goOneWay (v0 : Nat) (v1 : Nat) (v2 : Int32) (v3 : Int32) (h : AH) (Q : AH → Prop) : Prop :=
  gI h v1 9 1 (fun x1 => isO h v1 9 ∧ f_X9_firstOn v1 v2 v3 x1 h (fun x2 h3 => ((x2 < 0 → Q h3) ∧ (¬ (x2 < 0) → isO h3 v1 9 ∧ f_X9_postNow v1 x2 h3 (fun x4 h5 => v_goalFrom0 v0 x4 v3 h5 (fun x6 h7 => isO h7 v1 9 ∧ f_X9_carry v1 x2 x6 h7 (fun h8 => Q h8)))))))
set_option maxRecDepth 100000 in
set_option maxHeartbeats 4000000 in
theorem s_X10_goOneWay {o : Om} {v0 : Nat} {v1 : Nat} {v2 : Int32} {v3 : Int32} {h : AH} {Q : AH → Prop} (H : f_X10_goOneWay v0 v1 v2 v3 h Q) : MQ' o kX10_goOneWay [.ref v0, .ref v1, .int v2, .int v3] h (qV Q) := by
  refine MQ'.of (by decide +kernel) (Nat.le_of_ble_eq_true rfl) ?_
  show AQ o kX10_goOneWay h 0 [(0, .ref v0), (1, .ref v1), (2, .int v2), (3, .int v3)] [] (qV Q)
  refine a_aload_n 1 rfl rfl dX10_goOneWay_0 ?_
  refine a_iload_n 2 rfl rfl dX10_goOneWay_1 ?_
  refine a_iload_n 3 rfl rfl dX10_goOneWay_2 ?_
  refine a_aload_n 1 rfl rfl dX10_goOneWay_3 ?_
  refine r_gI fo_RX10_24_9 dX10_goOneWay_4 H (fun x1 H => ?_)
  refine r_Vi (q := (RX9, TX9, 8)) (av := [.int v2, .int v3, .int x1]) (rest := []) rfl rfl okX9_firstOn H.1 rfl rfl wd595 wd596 wd597 ⟨Nat.le_of_ble_eq_true rfl, Nat.le_of_ble_eq_true rfl⟩ (Nat.le_of_ble_eq_true rfl) dX10_goOneWay_7 (s_X9_firstOn H.2) (fun x2 h3 H => ?_)
  refine a_istore (lv1 := [(0, .ref v0), (1, .ref v1), (2, .int v2), (3, .int v3), (4, .int x2)]) [1, 2, 3, 4, 0] (by decide) rfl dX10_goOneWay_10 ?_
  refine a_iload 4 rfl dX10_goOneWay_12 ?_
  refine a_if_lt (tgt := 34) dX10_goOneWay_14 (by decide) (fun c => ?_) (fun c => ?_)
  · have H := H.1 (c)
    exact r_retv rfl dX10_goOneWay_34 H
  · have H := H.2 (c)
    refine a_aload_n 1 rfl rfl dX10_goOneWay_17 ?_
    refine a_iload 4 rfl dX10_goOneWay_18 ?_
    refine a_aload_n 0 rfl rfl dX10_goOneWay_20 ?_
    refine a_aload_n 1 rfl rfl dX10_goOneWay_21 ?_
    refine a_iload 4 rfl dX10_goOneWay_22 ?_
    refine r_Vi (q := (RX9, TX9, 8)) (av := [.int x2]) (rest := [.ref v0, .int x2, .ref v1]) rfl rfl okX9_postNow H.1 rfl rfl wd604 wd605 wd606 ⟨Nat.le_of_ble_eq_true rfl, Nat.le_of_ble_eq_true rfl⟩ (Nat.le_of_ble_eq_true rfl) dX10_goOneWay_24 (s_X9_postNow H.2) (fun x4 h5 H => ?_)
    refine a_iload_n 3 rfl rfl dX10_goOneWay_27 ?_
    refine vs_X10_goOneWay_28 dX10_goOneWay_28 H (fun x6 h7 H => ?_)
    refine r_Vv (q := (RX9, TX9, 8)) (av := [.int x2, .int x6]) (rest := []) rfl rfl okX9_carry H.1 rfl rfl wd623 wd624 wd625 ⟨Nat.le_of_ble_eq_true rfl, Nat.le_of_ble_eq_true rfl⟩ (Nat.le_of_ble_eq_true rfl) dX10_goOneWay_31 (s_X9_carry H.2) (fun h8 H => ?_)
    exact r_retv rfl dX10_goOneWay_34 H
def v_goOneWay0 (a : Nat) (u0 : Nat) (u1 : Int32) (u2 : Int32) (h : AH) (Q : AH → Prop) : Prop := ∃ ci fs, h.2.2 a = some (.inr (ci, fs)) ∧ ((ci = 0 ∧ f_X10_goOneWay a u0 u1 u2 h Q) ∨ (ci = 3 ∧ f_X10_goOneWay a u0 u1 u2 h Q))
def v_goOneWay1 (a : Nat) (u0 : Nat) (u1 : Int32) (u2 : Int32) (h : AH) (Q : AH → Prop) : Prop := ∃ ci fs, h.2.2 a = some (.inr (ci, fs)) ∧ ((ci = 2 ∧ f_X10_goOneWay a u0 u1 u2 h Q) ∨ (ci = 8 ∧ f_X10_goOneWay a u0 u1 u2 h Q))
def v_goOneWay2 (a : Nat) (u0 : Nat) (u1 : Int32) (u2 : Int32) (h : AH) (Q : AH → Prop) : Prop := ∃ ci fs, h.2.2 a = some (.inr (ci, fs)) ∧ ((ci = 0 ∧ f_X10_goOneWay a u0 u1 u2 h Q) ∨ (ci = 1 ∧ f_X10_goOneWay a u0 u1 u2 h Q) ∨ (ci = 2 ∧ f_X10_goOneWay a u0 u1 u2 h Q) ∨ (ci = 3 ∧ f_X10_goOneWay a u0 u1 u2 h Q) ∨ (ci = 8 ∧ f_X10_goOneWay a u0 u1 u2 h Q) ∨ (ci = 10 ∧ f_X10_goOneWay a u0 u1 u2 h Q))
theorem vs_X0_go_10 {o : Om} {h : AH} {lv : List (Nat × Value)} {rest : List Value} {Q : Option Value → AH → Prop} {a : Nat} {u0 : Nat} {u1 : Int32} {u2 : Int32} {F : AH → Prop} (hd : decode kX0_go.2.1 10 = .ok (.invokevirtual 16, 3)) (H : v_goOneWay0 a u0 u1 u2 h F) (k : ∀ h, F h → AQ o kX0_go h (10 + 3) lv rest Q) (hc : (rest.map fun v => v.category).sum ≤ 8 := by exact Nat.le_of_ble_eq_true rfl) : AQ o kX0_go h 10 lv (.int u2 :: .int u1 :: .ref u0 :: .ref a :: rest) Q := by
  obtain ⟨ci, fs, hO, H⟩ := H
  rcases H with ⟨rfl, H⟩ | ⟨rfl, H⟩
  · exact r_Uv (q := (RX0, TX0, 2)) (x := ⟨"MilestonesOn$Both", "goOneWay", "(LMilestonesOn$Trip;II)V"⟩) (owner := "MilestonesOn$Walker") (av := [.ref u0, .int u1, .int u2]) (rest := rest) rfl rfl okX10_goOneWay hO rfl rfl wd588 wd589 (by decide +kernel) wd593 wd594 wd593 wd591 ⟨Nat.le_of_ble_eq_true rfl, Nat.le_of_ble_eq_true rfl⟩ hc hd (s_X10_goOneWay H) k
  · exact r_Uv (q := (RX3, TX3, 2)) (x := ⟨"MilestonesOn$Both", "goOneWay", "(LMilestonesOn$Trip;II)V"⟩) (owner := "MilestonesOn$Walker") (av := [.ref u0, .int u1, .int u2]) (rest := rest) rfl rfl okX10_goOneWay hO rfl rfl wd588 wd589 (by decide +kernel) wd593 wd594 wd593 wd592 ⟨Nat.le_of_ble_eq_true rfl, Nat.le_of_ble_eq_true rfl⟩ hc hd (s_X10_goOneWay H) k
theorem vs_X0_go_23 {o : Om} {h : AH} {lv : List (Nat × Value)} {rest : List Value} {Q : Option Value → AH → Prop} {a : Nat} {u0 : Nat} {u1 : Int32} {u2 : Int32} {F : AH → Prop} (hd : decode kX0_go.2.1 23 = .ok (.invokevirtual 16, 3)) (H : v_goOneWay0 a u0 u1 u2 h F) (k : ∀ h, F h → AQ o kX0_go h (23 + 3) lv rest Q) (hc : (rest.map fun v => v.category).sum ≤ 8 := by exact Nat.le_of_ble_eq_true rfl) : AQ o kX0_go h 23 lv (.int u2 :: .int u1 :: .ref u0 :: .ref a :: rest) Q := by
  obtain ⟨ci, fs, hO, H⟩ := H
  rcases H with ⟨rfl, H⟩ | ⟨rfl, H⟩
  · exact r_Uv (q := (RX0, TX0, 2)) (x := ⟨"MilestonesOn$Both", "goOneWay", "(LMilestonesOn$Trip;II)V"⟩) (owner := "MilestonesOn$Walker") (av := [.ref u0, .int u1, .int u2]) (rest := rest) rfl rfl okX10_goOneWay hO rfl rfl wd588 wd589 (by decide +kernel) wd593 wd594 wd593 wd591 ⟨Nat.le_of_ble_eq_true rfl, Nat.le_of_ble_eq_true rfl⟩ hc hd (s_X10_goOneWay H) k
  · exact r_Uv (q := (RX3, TX3, 2)) (x := ⟨"MilestonesOn$Both", "goOneWay", "(LMilestonesOn$Trip;II)V"⟩) (owner := "MilestonesOn$Walker") (av := [.ref u0, .int u1, .int u2]) (rest := rest) rfl rfl okX10_goOneWay hO rfl rfl wd588 wd589 (by decide +kernel) wd593 wd594 wd593 wd592 ⟨Nat.le_of_ble_eq_true rfl, Nat.le_of_ble_eq_true rfl⟩ hc hd (s_X10_goOneWay H) k
def f_X0_go (v0 : Nat) (v1 : Nat) (h : AH) (Q : AH → Prop) : Prop :=
  gW h v0 0 (fun x1 => gW h v0 1 (fun x2 => v_goOneWay0 v0 v1 x1 x2 h (fun h3 => gW h3 v0 1 (fun x4 => gW h3 v0 0 (fun x5 => v_goOneWay0 v0 v1 x4 x5 h3 (fun h6 => Q h6))))))
set_option maxRecDepth 100000 in
set_option maxHeartbeats 4000000 in
theorem s_X0_go {o : Om} {v0 : Nat} {v1 : Nat} {h : AH} {Q : AH → Prop} (H : f_X0_go v0 v1 h Q) : MQ' o kX0_go [.ref v0, .ref v1] h (qV Q) := by
  refine MQ'.of (by decide +kernel) (Nat.le_of_ble_eq_true rfl) ?_
  show AQ o kX0_go h 0 [(0, .ref v0), (1, .ref v1)] [] (qV Q)
  refine a_aload_n 0 rfl rfl dX0_go_0 ?_
  refine a_aload_n 1 rfl rfl dX0_go_1 ?_
  refine a_aload_n 0 rfl rfl dX0_go_2 ?_
  refine r_gW fw_RX0_7 dX0_go_3 H (fun x1 H => ?_)
  refine a_aload_n 0 rfl rfl dX0_go_6 ?_
  refine r_gW fw_RX0_13 dX0_go_7 H (fun x2 H => ?_)
  refine vs_X0_go_10 dX0_go_10 H (fun h3 H => ?_)
  refine a_aload_n 0 rfl rfl dX0_go_13 ?_
  refine a_aload_n 1 rfl rfl dX0_go_14 ?_
  refine a_aload_n 0 rfl rfl dX0_go_15 ?_
  refine r_gW fw_RX0_13 dX0_go_16 H (fun x4 H => ?_)
  refine a_aload_n 0 rfl rfl dX0_go_19 ?_
  refine r_gW fw_RX0_7 dX0_go_20 H (fun x5 H => ?_)
  refine vs_X0_go_23 dX0_go_23 H (fun h6 H => ?_)
  exact r_retv rfl dX0_go_26 H
def v_go0 (a : Nat) (u0 : Nat) (h : AH) (Q : AH → Prop) : Prop := ∃ ci fs, h.2.2 a = some (.inr (ci, fs)) ∧ ((ci = 0 ∧ f_X0_go a u0 h Q) ∨ (ci = 3 ∧ f_X0_go a u0 h Q))
def B_X9_unmoved_4 (Q : Int32 → AH → Prop) (K4 : Int32 → Int32 → AH → Prop) (v0 : Nat) (v1 : Int32) (v2 : Int32) (h : AH) : Prop :=
  gR h v0 9 0 (fun a1 => gI h a1 5 5 (fun x2 => ((x2 ≤ v2 → Q v1 h) ∧ (¬ (x2 ≤ v2) → gI h v0 9 2 (fun x3 => f_X5_postOf x3 v2 h (fun x4 h5 => gI h5 v0 9 3 (fun x6 => f_X5_postOf x6 v2 h5 (fun x7 h8 => ((¬ (x4 = x7) → K4 v1 (v2 + 1) h8) ∧ (x4 = x7 → K4 (v1 + 1) (v2 + 1) h8))))))))))
set_option maxRecDepth 100000 in
set_option maxHeartbeats 4000000 in
theorem b_X9_unmoved_4 {o : Om} {Q : Int32 → AH → Prop} {K4 : Int32 → Int32 → AH → Prop} {v0 : Nat} {v1 : Int32} {v2 : Int32} {h : AH} (hK4 : ∀ w1 w2 h, K4 w1 w2 h → AQ o kX9_unmoved h 4 [(0, .ref v0), (1, .int w1), (2, .int w2)] [] (qI Q)) (H : B_X9_unmoved_4 Q K4 v0 v1 v2 h) : AQ o kX9_unmoved h 4 [(0, .ref v0), (1, .int v1), (2, .int v2)] [] (qI Q) := by
  refine a_iload_n 2 rfl rfl dX9_unmoved_4 ?_
  refine a_aload_n 0 rfl rfl dX9_unmoved_5 ?_
  refine r_gR fo_RX9_33_9 dX9_unmoved_6 H (fun a1 H => ?_)
  refine r_gI fo_RX9_53_5 dX9_unmoved_9 H (fun x2 H => ?_)
  refine a_icmp_ge (tgt := 43) dX9_unmoved_12 (by decide) (fun c => ?_) (fun c => ?_)
  · have H := H.1 (c)
    refine a_iload_n 1 rfl rfl dX9_unmoved_43 ?_
    exact r_reti rfl dX9_unmoved_44 H
  · have H := H.2 (c)
    refine a_aload_n 0 rfl rfl dX9_unmoved_15 ?_
    refine r_gI fo_RX9_15_9 dX9_unmoved_16 H (fun x3 H => ?_)
    refine a_iload_n 2 rfl rfl dX9_unmoved_19 ?_
    refine r_Si (av := [.int x3, .int v2]) (rest := []) rfl rfl okX5_postOf wd529 wd519 ⟨Nat.le_of_ble_eq_true rfl, Nat.le_of_ble_eq_true rfl⟩ (Nat.le_of_ble_eq_true rfl) dX9_unmoved_20 (s_X5_postOf H) (fun x4 h5 H => ?_)
    refine a_aload_n 0 rfl rfl dX9_unmoved_23 ?_
    refine r_gI fo_RX9_18_9 dX9_unmoved_24 H (fun x6 H => ?_)
    refine a_iload_n 2 rfl rfl dX9_unmoved_27 ?_
    refine r_Si (av := [.int x6, .int v2]) (rest := [.int x4]) rfl rfl okX5_postOf wd529 wd519 ⟨Nat.le_of_ble_eq_true rfl, Nat.le_of_ble_eq_true rfl⟩ (Nat.le_of_ble_eq_true rfl) dX9_unmoved_28 (s_X5_postOf H) (fun x7 h8 H => ?_)
    refine a_icmp_ne (tgt := 37) dX9_unmoved_31 (by decide) (fun c => ?_) (fun c => ?_)
    · have H := H.1 (c)
      refine a_iinc (v := v2 + 1) (lv1 := [(0, .ref v0), (1, .int v1), (2, .int (v2 + 1))]) [1, 2, 0] 2 rfl (by decide) rfl rfl dX9_unmoved_37 ?_
      refine a_goto (tgt := 4) dX9_unmoved_40 (by decide) ?_
      exact hK4 _ _ _ H
    · have H := H.2 (c)
      refine a_iinc (v := v1 + 1) (lv1 := [(0, .ref v0), (1, .int (v1 + 1)), (2, .int v2)]) [1, 0, 2] 1 rfl (by decide) rfl rfl dX9_unmoved_34 ?_
      refine a_iinc (v := v2 + 1) (lv1 := [(0, .ref v0), (1, .int (v1 + 1)), (2, .int (v2 + 1))]) [1, 2, 0] 2 rfl (by decide) rfl rfl dX9_unmoved_37 ?_
      refine a_goto (tgt := 4) dX9_unmoved_40 (by decide) ?_
      exact hK4 _ _ _ H
def L_X9_unmoved_4 (Q : Int32 → AH → Prop)  (v0 : Nat) : Nat → Int32 → Int32 → AH → Prop
  | 0, _, _, _ => False
  | n + 1, v1, v2, h => B_X9_unmoved_4 Q (L_X9_unmoved_4 Q  v0 n) v0 v1 v2 h
theorem l_X9_unmoved_4 {o : Om} {Q : Int32 → AH → Prop}  {v0 : Nat}  : ∀ (n : Nat) (v1 : Int32) (v2 : Int32) (h : AH), L_X9_unmoved_4 Q  v0 n v1 v2 h → AQ o kX9_unmoved h 4 [(0, .ref v0), (1, .int v1), (2, .int v2)] [] (qI Q) := by
  intro n
  induction n with
  | zero => intro v1 v2 h H; exact H.elim
  | succ n ih => intro v1 v2 h H; exact b_X9_unmoved_4 ih H
def f_X9_unmoved (v0 : Nat) (h : AH) (Q : Int32 → AH → Prop) : Prop :=
  ∃ n, L_X9_unmoved_4 Q  v0 n (0 : Int32) (0 : Int32) h
set_option maxRecDepth 100000 in
set_option maxHeartbeats 4000000 in
theorem s_X9_unmoved {o : Om} {v0 : Nat} {h : AH} {Q : Int32 → AH → Prop} (H : f_X9_unmoved v0 h Q) : MQ' o kX9_unmoved [.ref v0] h (qI Q) := by
  refine MQ'.of (by decide +kernel) (Nat.le_of_ble_eq_true rfl) ?_
  show AQ o kX9_unmoved h 0 [(0, .ref v0)] [] (qI Q)
  refine a_iconst (v := (0 : Int32)) (by decide) dX9_unmoved_0 ?_
  refine a_istore_n (lv1 := [(0, .ref v0), (1, .int (0 : Int32))]) rfl [1, 0] (by decide) rfl dX9_unmoved_1 ?_
  refine a_iconst (v := (0 : Int32)) (by decide) dX9_unmoved_2 ?_
  refine a_istore_n (lv1 := [(0, .ref v0), (1, .int (0 : Int32)), (2, .int (0 : Int32))]) rfl [1, 2, 0] (by decide) rfl dX9_unmoved_3 ?_
  obtain ⟨n, H⟩ := H
  exact l_X9_unmoved_4  n _ _ _ H
theorem vs_X0_tell_14 {o : Om} {h : AH} {lv : List (Nat × Value)} {rest : List Value} {Q : Option Value → AH → Prop} {a : Nat} {u0 : Nat} {F : AH → Prop} (hd : decode kX0_tell.2.1 14 = .ok (.invokevirtual 24, 3)) (H : v_go0 a u0 h F) (k : ∀ h, F h → AQ o kX0_tell h (14 + 3) lv rest Q) (hc : (rest.map fun v => v.category).sum ≤ 8 := by exact Nat.le_of_ble_eq_true rfl) : AQ o kX0_tell h 14 lv (.ref u0 :: .ref a :: rest) Q := by
  obtain ⟨ci, fs, hO, H⟩ := H
  rcases H with ⟨rfl, H⟩ | ⟨rfl, H⟩
  · exact r_Uv (q := (RX0, TX0, 2)) (x := ⟨"MilestonesOn$Both", "go", "(LMilestonesOn$Trip;)V"⟩) (owner := "MilestonesOn$Both") (av := [.ref u0]) (rest := rest) rfl rfl okX0_go hO rfl rfl wd582 wd585 (by decide +kernel) wd583 wd587 wd583 wd584 ⟨Nat.le_of_ble_eq_true rfl, Nat.le_of_ble_eq_true rfl⟩ hc hd (s_X0_go H) k
  · exact r_Uv (q := (RX3, TX3, 2)) (x := ⟨"MilestonesOn$Both", "go", "(LMilestonesOn$Trip;)V"⟩) (owner := "MilestonesOn$Both") (av := [.ref u0]) (rest := rest) rfl rfl okX0_go hO rfl rfl wd582 wd585 (by decide +kernel) wd583 wd587 wd583 wd586 ⟨Nat.le_of_ble_eq_true rfl, Nat.le_of_ble_eq_true rfl⟩ hc hd (s_X0_go H) k
def f_X0_tell (v0 : Nat) (v1 : Int32) (v2 : Nat) (h : AH) (Q : Int32 → AH → Prop) : Prop :=
  ((v1 = (2 : Int32) → v_go0 v0 v2 h (fun h1 => isO h1 v2 9 ∧ f_X9_unmoved v2  h1 (fun x2 h3 => Q x2 h3))) ∧ (¬ (v1 = (2 : Int32)) → anyO h v0 ∧ f_X10_tell v0 v1 v2 h (fun x4 h5 => Q x4 h5)))
set_option maxRecDepth 100000 in
set_option maxHeartbeats 4000000 in
theorem s_X0_tell {o : Om} {v0 : Nat} {v1 : Int32} {v2 : Nat} {h : AH} {Q : Int32 → AH → Prop} (H : f_X0_tell v0 v1 v2 h Q) : MQ' o kX0_tell [.ref v0, .int v1, .ref v2] h (qI Q) := by
  refine MQ'.of (by decide +kernel) (Nat.le_of_ble_eq_true rfl) ?_
  show AQ o kX0_tell h 0 [(0, .ref v0), (1, .int v1), (2, .ref v2)] [] (qI Q)
  refine a_iload_n 1 rfl rfl dX0_tell_0 ?_
  refine a_iconst (v := (2 : Int32)) (by decide) dX0_tell_1 ?_
  refine a_icmp_eq (tgt := 12) dX0_tell_2 (by decide) (fun c => ?_) (fun c => ?_)
  · have H := H.1 (c)
    refine a_aload_n 0 rfl rfl dX0_tell_12 ?_
    refine a_aload_n 2 rfl rfl dX0_tell_13 ?_
    refine vs_X0_tell_14 dX0_tell_14 H (fun h1 H => ?_)
    refine a_aload_n 2 rfl rfl dX0_tell_17 ?_
    refine r_Vi (q := (RX9, TX9, 8)) (av := []) (rest := []) rfl rfl okX9_unmoved H.1 rfl rfl wd628 wd629 wd630 ⟨Nat.le_of_ble_eq_true rfl, Nat.le_of_ble_eq_true rfl⟩ (Nat.le_of_ble_eq_true rfl) dX0_tell_18 (s_X9_unmoved H.2) (fun x2 h3 H => ?_)
    exact r_reti rfl dX0_tell_21 H
  · have H := H.2 (c)
    refine a_aload_n 0 rfl rfl dX0_tell_5 ?_
    refine a_iload_n 1 rfl rfl dX0_tell_6 ?_
    refine a_aload_n 2 rfl rfl dX0_tell_7 ?_
    obtain ⟨⟨ci, fs, hlt, hO⟩, H⟩ := H
    refine r_SUi (q := vwCl[ci]'hlt) (av := [.int v1, .ref v2]) (rest := []) rfl rfl okX10_tell hO (List.getElem?_eq_getElem hlt) wd581 wd577 wd465 wd575 (by decide +kernel) ⟨Nat.le_of_ble_eq_true rfl, Nat.le_of_ble_eq_true rfl⟩ (Nat.le_of_ble_eq_true rfl) dX0_tell_8 (s_X10_tell H) (fun x4 h5 H => ?_)
    exact r_reti rfl dX0_tell_11 H
def B_X1_go_40 (Q : AH → Prop) (K40 : Int32 → Int32 → AH → Prop) (v1 : Nat) (v3 : Int32) (v4 : Int32) (v2 : Int32) (v5 : Int32) (h : AH) : Prop :=
  (((3 : Int32) ≤ v5 → Q h) ∧ (¬ ((3 : Int32) ≤ v5) → ((v2 < 0 → Q h) ∧ (¬ (v2 < 0) → isO h v1 9 ∧ f_X9_carry v1 v2 v4 h (fun h1 => gI h1 v1 9 1 (fun x2 => isO h1 v1 9 ∧ f_X9_firstOn v1 v3 v4 x2 h1 (fun x3 h4 => K40 x3 (v5 + 1) h4)))))))
set_option maxRecDepth 100000 in
set_option maxHeartbeats 4000000 in
theorem b_X1_go_40 {o : Om} {Q : AH → Prop} {K40 : Int32 → Int32 → AH → Prop} {v1 : Nat} {v3 : Int32} {v4 : Int32} {v2 : Int32} {v5 : Int32} {h : AH} (hK40 : ∀ w2 w5 h, K40 w2 w5 h → AQ o kX1_go h 40 [(1, .ref v1), (2, .int w2), (3, .int v3), (4, .int v4), (5, .int w5)] [] (qV Q)) (H : B_X1_go_40 Q K40 v1 v3 v4 v2 v5 h) : AQ o kX1_go h 40 [(1, .ref v1), (2, .int v2), (3, .int v3), (4, .int v4), (5, .int v5)] [] (qV Q) := by
  refine a_iload 4 rfl dX1_go_40 ?_
  refine a_iconst (v := (3 : Int32)) (by decide) dX1_go_42 ?_
  refine a_icmp_ge (tgt := 75) dX1_go_43 (by decide) (fun c => ?_) (fun c => ?_)
  · have H := H.1 (c)
    exact r_retv rfl dX1_go_75 H
  · have H := H.2 (c)
    refine a_iload_n 1 rfl rfl dX1_go_46 ?_
    refine a_if_lt (tgt := 75) dX1_go_47 (by decide) (fun c => ?_) (fun c => ?_)
    · have H := H.1 (c)
      exact r_retv rfl dX1_go_75 H
    · have H := H.2 (c)
      refine a_aload_n 0 rfl rfl dX1_go_50 ?_
      refine a_iload_n 1 rfl rfl dX1_go_51 ?_
      refine a_iload 3 rfl dX1_go_52 ?_
      refine r_Vv (q := (RX9, TX9, 8)) (av := [.int v2, .int v4]) (rest := []) rfl rfl okX9_carry H.1 rfl rfl wd645 wd624 wd625 ⟨Nat.le_of_ble_eq_true rfl, Nat.le_of_ble_eq_true rfl⟩ (Nat.le_of_ble_eq_true rfl) dX1_go_54 (s_X9_carry H.2) (fun h1 H => ?_)
      refine a_aload_n 0 rfl rfl dX1_go_57 ?_
      refine a_iload_n 2 rfl rfl dX1_go_58 ?_
      refine a_iload 3 rfl dX1_go_59 ?_
      refine a_aload_n 0 rfl rfl dX1_go_61 ?_
      refine r_gI fo_RX1_16_9 dX1_go_62 H (fun x2 H => ?_)
      refine r_Vi (q := (RX9, TX9, 8)) (av := [.int v3, .int v4, .int x2]) (rest := []) rfl rfl okX9_firstOn H.1 rfl rfl wd640 wd596 wd597 ⟨Nat.le_of_ble_eq_true rfl, Nat.le_of_ble_eq_true rfl⟩ (Nat.le_of_ble_eq_true rfl) dX1_go_65 (s_X9_firstOn H.2) (fun x3 h4 H => ?_)
      refine a_istore_n (lv1 := [(1, .ref v1), (2, .int x3), (3, .int v3), (4, .int v4), (5, .int v5)]) rfl [1, 0, 2, 3, 4] (by decide) rfl dX1_go_68 ?_
      refine a_iinc (v := v5 + 1) (lv1 := [(1, .ref v1), (2, .int x3), (3, .int v3), (4, .int v4), (5, .int (v5 + 1))]) [1, 2, 3, 4, 0] 4 rfl (by decide) rfl rfl dX1_go_69 ?_
      refine a_goto (tgt := 40) dX1_go_72 (by decide) ?_
      exact hK40 _ _ _ H
def L_X1_go_40 (Q : AH → Prop)  (v1 : Nat) (v3 : Int32) (v4 : Int32) : Nat → Int32 → Int32 → AH → Prop
  | 0, _, _, _ => False
  | n + 1, v2, v5, h => B_X1_go_40 Q (L_X1_go_40 Q  v1 v3 v4 n) v1 v3 v4 v2 v5 h
theorem l_X1_go_40 {o : Om} {Q : AH → Prop}  {v1 : Nat} {v3 : Int32} {v4 : Int32}  : ∀ (n : Nat) (v2 : Int32) (v5 : Int32) (h : AH), L_X1_go_40 Q  v1 v3 v4 n v2 v5 h → AQ o kX1_go h 40 [(1, .ref v1), (2, .int v2), (3, .int v3), (4, .int v4), (5, .int v5)] [] (qV Q) := by
  intro n
  induction n with
  | zero => intro v2 v5 h H; exact H.elim
  | succ n ih => intro v2 v5 h H; exact b_X1_go_40 ih H
def f_X1_go (v0 : Nat) (v1 : Nat) (h : AH) (Q : AH → Prop) : Prop :=
  gW h v0 0 (fun x1 => gW h v0 1 (fun x2 => gI h v1 9 1 (fun x3 => isO h v1 9 ∧ f_X9_firstOn v1 x1 x2 x3 h (fun x4 h5 => isO h5 v1 9 ∧ f_X9_postNow v1 (if x4 < (0 : Int32) then (0 : Int32) else x4) h5 (fun x7 h8 => gW h8 v0 1 (fun x9 => f_X10_nextTo x7 x9 h8 (fun x10 h11 => ∃ n, L_X1_go_40 Q  v1 x7 x10 n x4 (0 : Int32) h11)))))))
set_option maxRecDepth 100000 in
set_option maxHeartbeats 4000000 in
theorem s_X1_go {o : Om} {v0 : Nat} {v1 : Nat} {h : AH} {Q : AH → Prop} (H : f_X1_go v0 v1 h Q) : MQ' o kX1_go [.ref v0, .ref v1] h (qV Q) := by
  refine MQ'.of (by decide +kernel) (Nat.le_of_ble_eq_true rfl) ?_
  show AQ o kX1_go h 0 [(0, .ref v0), (1, .ref v1)] [] (qV Q)
  refine a_aload_n 1 rfl rfl dX1_go_0 ?_
  refine a_aload_n 0 rfl rfl dX1_go_1 ?_
  refine r_gW fw_RX1_7 dX1_go_2 H (fun x1 H => ?_)
  refine a_aload_n 0 rfl rfl dX1_go_5 ?_
  refine r_gW fw_RX1_13 dX1_go_6 H (fun x2 H => ?_)
  refine a_aload_n 1 rfl rfl dX1_go_9 ?_
  refine r_gI fo_RX1_16_9 dX1_go_10 H (fun x3 H => ?_)
  refine r_Vi (q := (RX9, TX9, 8)) (av := [.int x1, .int x2, .int x3]) (rest := []) rfl rfl okX9_firstOn H.1 rfl rfl wd640 wd596 wd597 ⟨Nat.le_of_ble_eq_true rfl, Nat.le_of_ble_eq_true rfl⟩ (Nat.le_of_ble_eq_true rfl) dX1_go_13 (s_X9_firstOn H.2) (fun x4 h5 H => ?_)
  refine a_istore_n (lv1 := [(0, .ref v0), (1, .ref v1), (2, .int x4)]) rfl [1, 2, 0] (by decide) rfl dX1_go_16 ?_
  refine a_aload_n 1 rfl rfl dX1_go_17 ?_
  refine a_iload_n 2 rfl rfl dX1_go_18 ?_
  refine a_iconst (v := (0 : Int32)) (by decide) dX1_go_19 ?_
  refine a_mmax wd641 wd272 wd8 wd273 ⟨Nat.le_of_ble_eq_true rfl, Nat.le_of_ble_eq_true rfl⟩ dX1_go_20 ?_
  refine r_Vi (q := (RX9, TX9, 8)) (av := [.int (if x4 < (0 : Int32) then (0 : Int32) else x4)]) (rest := []) rfl rfl okX9_postNow H.1 rfl rfl wd642 wd605 wd606 ⟨Nat.le_of_ble_eq_true rfl, Nat.le_of_ble_eq_true rfl⟩ (Nat.le_of_ble_eq_true rfl) dX1_go_23 (s_X9_postNow H.2) (fun x7 h8 H => ?_)
  refine a_istore_n (lv1 := [(0, .ref v0), (1, .ref v1), (2, .int x4), (3, .int x7)]) rfl [1, 2, 3, 0] (by decide) rfl dX1_go_26 ?_
  refine a_iload_n 3 rfl rfl dX1_go_27 ?_
  refine a_aload_n 0 rfl rfl dX1_go_28 ?_
  refine r_gW fw_RX1_13 dX1_go_29 H (fun x9 H => ?_)
  refine r_Supi (x := ⟨"MilestonesOn$Cart", "nextTo", "(II)I"⟩) (av := [.int x7, .int x9]) (rest := []) rfl rfl okX10_nextTo rfl wd643 wd644 wd621 ⟨Nat.le_of_ble_eq_true rfl, Nat.le_of_ble_eq_true rfl⟩ (Nat.le_of_ble_eq_true rfl) dX1_go_32 (s_X10_nextTo H) (fun x10 h11 H => ?_)
  refine a_istore (lv1 := [(0, .ref v0), (1, .ref v1), (2, .int x4), (3, .int x7), (4, .int x10)]) [1, 2, 3, 4, 0] (by decide) rfl dX1_go_35 ?_
  refine a_iconst (v := (0 : Int32)) (by decide) dX1_go_37 ?_
  refine a_istore (lv1 := [(0, .ref v0), (1, .ref v1), (2, .int x4), (3, .int x7), (4, .int x10), (5, .int (0 : Int32))]) [1, 2, 3, 4, 5, 0] (by decide) rfl dX1_go_38 ?_
  refine AQ.sub (lv1 := [(1, .ref v1), (2, .int x4), (3, .int x7), (4, .int x10), (5, .int (0 : Int32))]) [1, 2, 3, 4, 5] rfl ?_
  obtain ⟨n, H⟩ := H
  exact l_X1_go_40  n _ _ _ H
def f_X1_tell (v0 : Nat) (v1 : Int32) (v2 : Nat) (h : AH) (Q : Int32 → AH → Prop) : Prop :=
  ((v1 = (1 : Int32) → isO h v0 1 ∧ f_X1_go v0 v2 h (fun h1 => gI h1 v2 9 6 (fun x2 => Q x2 h1))) ∧ (¬ (v1 = (1 : Int32)) → anyO h v0 ∧ f_X10_tell v0 v1 v2 h (fun x3 h4 => Q x3 h4)))
set_option maxRecDepth 100000 in
set_option maxHeartbeats 4000000 in
theorem s_X1_tell {o : Om} {v0 : Nat} {v1 : Int32} {v2 : Nat} {h : AH} {Q : Int32 → AH → Prop} (H : f_X1_tell v0 v1 v2 h Q) : MQ' o kX1_tell [.ref v0, .int v1, .ref v2] h (qI Q) := by
  refine MQ'.of (by decide +kernel) (Nat.le_of_ble_eq_true rfl) ?_
  show AQ o kX1_tell h 0 [(0, .ref v0), (1, .int v1), (2, .ref v2)] [] (qI Q)
  refine a_iload_n 1 rfl rfl dX1_tell_0 ?_
  refine a_iconst (v := (1 : Int32)) (by decide) dX1_tell_1 ?_
  refine a_icmp_eq (tgt := 12) dX1_tell_2 (by decide) (fun c => ?_) (fun c => ?_)
  · have H := H.1 (c)
    refine a_aload_n 0 rfl rfl dX1_tell_12 ?_
    refine a_aload_n 2 rfl rfl dX1_tell_13 ?_
    refine r_Vv (q := (RX1, TX1, 2)) (av := [.ref v2]) (rest := []) rfl rfl okX1_go H.1 rfl rfl wd636 wd637 wd638 ⟨Nat.le_of_ble_eq_true rfl, Nat.le_of_ble_eq_true rfl⟩ (Nat.le_of_ble_eq_true rfl) dX1_tell_14 (s_X1_go H.2) (fun h1 H => ?_)
    refine a_aload_n 2 rfl rfl dX1_tell_17 ?_
    refine r_gI fo_RX1_49_9 dX1_tell_18 H (fun x2 H => ?_)
    exact r_reti rfl dX1_tell_21 H
  · have H := H.2 (c)
    refine a_aload_n 0 rfl rfl dX1_tell_5 ?_
    refine a_iload_n 1 rfl rfl dX1_tell_6 ?_
    refine a_aload_n 2 rfl rfl dX1_tell_7 ?_
    obtain ⟨⟨ci, fs, hlt, hO⟩, H⟩ := H
    refine r_SUi (q := vwCl[ci]'hlt) (av := [.int v1, .ref v2]) (rest := []) rfl rfl okX10_tell hO (List.getElem?_eq_getElem hlt) wd635 wd577 wd456 wd575 (by decide +kernel) ⟨Nat.le_of_ble_eq_true rfl, Nat.le_of_ble_eq_true rfl⟩ (Nat.le_of_ble_eq_true rfl) dX1_tell_8 (s_X10_tell H) (fun x3 h4 H => ?_)
    exact r_reti rfl dX1_tell_11 H
def f_X2_tell (v0 : Nat) (v1 : Int32) (v2 : Nat) (h : AH) (Q : Int32 → AH → Prop) : Prop :=
  ((¬ (v1 = (3 : Int32)) → anyO h v0 ∧ f_X10_tell v0 v1 v2 h (fun x1 h2 => Q x1 h2)) ∧ (v1 = (3 : Int32) → gW h v0 0 (fun x3 => gW h v0 1 (fun x4 => f_X10_nextTo x3 x4 h (fun x5 h6 => Q x5 h6)))))
set_option maxRecDepth 100000 in
set_option maxHeartbeats 4000000 in
theorem s_X2_tell {o : Om} {v0 : Nat} {v1 : Int32} {v2 : Nat} {h : AH} {Q : Int32 → AH → Prop} (H : f_X2_tell v0 v1 v2 h Q) : MQ' o kX2_tell [.ref v0, .int v1, .ref v2] h (qI Q) := by
  refine MQ'.of (by decide +kernel) (Nat.le_of_ble_eq_true rfl) ?_
  show AQ o kX2_tell h 0 [(0, .ref v0), (1, .int v1), (2, .ref v2)] [] (qI Q)
  refine a_iload_n 1 rfl rfl dX2_tell_0 ?_
  refine a_iconst (v := (3 : Int32)) (by decide) dX2_tell_1 ?_
  refine a_icmp_ne (tgt := 19) dX2_tell_2 (by decide) (fun c => ?_) (fun c => ?_)
  · have H := H.1 (c)
    refine a_aload_n 0 rfl rfl dX2_tell_19 ?_
    refine a_iload_n 1 rfl rfl dX2_tell_20 ?_
    refine a_aload_n 2 rfl rfl dX2_tell_21 ?_
    obtain ⟨⟨ci, fs, hlt, hO⟩, H⟩ := H
    refine r_SUi (q := vwCl[ci]'hlt) (av := [.int v1, .ref v2]) (rest := []) rfl rfl okX10_tell hO (List.getElem?_eq_getElem hlt) wd651 wd577 wd474 wd575 (by decide +kernel) ⟨Nat.le_of_ble_eq_true rfl, Nat.le_of_ble_eq_true rfl⟩ (Nat.le_of_ble_eq_true rfl) dX2_tell_22 (s_X10_tell H) (fun x1 h2 H => ?_)
    exact r_reti rfl dX2_tell_25 H
  · have H := H.2 (c)
    refine a_aload_n 0 rfl rfl dX2_tell_5 ?_
    refine r_gW fw_RX2_7 dX2_tell_6 H (fun x3 H => ?_)
    refine a_aload_n 0 rfl rfl dX2_tell_9 ?_
    refine r_gW fw_RX2_13 dX2_tell_10 H (fun x4 H => ?_)
    refine r_Supi (x := ⟨"MilestonesOn$Lame", "nextTo", "(II)I"⟩) (av := [.int x3, .int x4]) (rest := []) rfl rfl okX10_nextTo rfl wd649 wd650 wd621 ⟨Nat.le_of_ble_eq_true rfl, Nat.le_of_ble_eq_true rfl⟩ (Nat.le_of_ble_eq_true rfl) dX2_tell_13 (s_X10_nextTo H) (fun x5 h6 H => ?_)
    refine a_goto (tgt := 25) dX2_tell_16 (by decide) ?_
    exact r_reti rfl dX2_tell_25 H
def f_X3_tell (v0 : Nat) (v1 : Int32) (v2 : Nat) (h : AH) (Q : Int32 → AH → Prop) : Prop :=
  ((¬ (v1 = (5 : Int32)) → anyO h v0 ∧ f_X0_tell v0 v1 v2 h (fun x1 h2 => Q x1 h2)) ∧ (v1 = (5 : Int32) → gW h v0 1 (fun x3 => gW h v0 0 (fun x4 => Q ((2 : Int32) * (if 0 ≤ (x3 - x4) then (x3 - x4) else 0 - (x3 - x4))) h))))
set_option maxRecDepth 100000 in
set_option maxHeartbeats 4000000 in
theorem s_X3_tell {o : Om} {v0 : Nat} {v1 : Int32} {v2 : Nat} {h : AH} {Q : Int32 → AH → Prop} (H : f_X3_tell v0 v1 v2 h Q) : MQ' o kX3_tell [.ref v0, .int v1, .ref v2] h (qI Q) := by
  refine MQ'.of (by decide +kernel) (Nat.le_of_ble_eq_true rfl) ?_
  show AQ o kX3_tell h 0 [(0, .ref v0), (1, .int v1), (2, .ref v2)] [] (qI Q)
  refine a_iload_n 1 rfl rfl dX3_tell_0 ?_
  refine a_iconst (v := (5 : Int32)) (by decide) dX3_tell_1 ?_
  refine a_icmp_ne (tgt := 22) dX3_tell_2 (by decide) (fun c => ?_) (fun c => ?_)
  · have H := H.1 (c)
    refine a_aload_n 0 rfl rfl dX3_tell_22 ?_
    refine a_iload_n 1 rfl rfl dX3_tell_23 ?_
    refine a_aload_n 2 rfl rfl dX3_tell_24 ?_
    obtain ⟨⟨ci, fs, hlt, hO⟩, H⟩ := H
    refine r_SUi (q := vwCl[ci]'hlt) (av := [.int v1, .ref v2]) (rest := []) rfl rfl okX0_tell hO (List.getElem?_eq_getElem hlt) wd656 wd1535 wd492 wd579 (by decide +kernel) ⟨Nat.le_of_ble_eq_true rfl, Nat.le_of_ble_eq_true rfl⟩ (Nat.le_of_ble_eq_true rfl) dX3_tell_25 (s_X0_tell H) (fun x1 h2 H => ?_)
    exact r_reti rfl dX3_tell_28 H
  · have H := H.2 (c)
    refine a_iconst (v := (2 : Int32)) (by decide) dX3_tell_5 ?_
    refine a_aload_n 0 rfl rfl dX3_tell_6 ?_
    refine r_gW fw_RX3_9 dX3_tell_7 H (fun x3 H => ?_)
    refine a_aload_n 0 rfl rfl dX3_tell_10 ?_
    refine r_gW fw_RX3_15 dX3_tell_11 H (fun x4 H => ?_)
    refine a_isub dX3_tell_14 ?_
    refine a_mabs wd655 wd407 wd8 wd408 ⟨Nat.le_of_ble_eq_true rfl, Nat.le_of_ble_eq_true rfl⟩ dX3_tell_15 ?_
    refine a_imul dX3_tell_18 ?_
    refine a_goto (tgt := 28) dX3_tell_19 (by decide) ?_
    exact r_reti rfl dX3_tell_28 H
def f_X8_chosen (v0 : Nat) (v1 : Nat) (h : AH) (Q : Int32 → AH → Prop) : Prop :=
  gW h v0 0 (fun x1 => gW h v0 0 (fun x2 => gW h v0 1 (fun x3 => f_X10_nextTo x2 x3 h (fun x4 h5 => isO h5 v1 9 ∧ f_X9_firstOn v1 x1 x4 (1 : Int32) h5 (fun x6 h7 => Q x6 h7)))))
set_option maxRecDepth 100000 in
set_option maxHeartbeats 4000000 in
theorem s_X8_chosen {o : Om} {v0 : Nat} {v1 : Nat} {h : AH} {Q : Int32 → AH → Prop} (H : f_X8_chosen v0 v1 h Q) : MQ' o kX8_chosen [.ref v0, .ref v1] h (qI Q) := by
  refine MQ'.of (by decide +kernel) (Nat.le_of_ble_eq_true rfl) ?_
  show AQ o kX8_chosen h 0 [(0, .ref v0), (1, .ref v1)] [] (qI Q)
  refine a_aload_n 1 rfl rfl dX8_chosen_0 ?_
  refine a_aload_n 0 rfl rfl dX8_chosen_1 ?_
  refine r_gW fw_RX8_30 dX8_chosen_2 H (fun x1 H => ?_)
  refine a_aload_n 0 rfl rfl dX8_chosen_5 ?_
  refine r_gW fw_RX8_30 dX8_chosen_6 H (fun x2 H => ?_)
  refine a_aload_n 0 rfl rfl dX8_chosen_9 ?_
  refine r_gW fw_RX8_34 dX8_chosen_10 H (fun x3 H => ?_)
  refine r_Supi (x := ⟨"MilestonesOn$Thief", "nextTo", "(II)I"⟩) (av := [.int x2, .int x3]) (rest := [.int x1, .ref v1]) rfl rfl okX10_nextTo rfl wd664 wd665 wd621 ⟨Nat.le_of_ble_eq_true rfl, Nat.le_of_ble_eq_true rfl⟩ (Nat.le_of_ble_eq_true rfl) dX8_chosen_13 (s_X10_nextTo H) (fun x4 h5 H => ?_)
  refine a_iconst (v := (1 : Int32)) (by decide) dX8_chosen_16 ?_
  refine r_Vi (q := (RX9, TX9, 8)) (av := [.int x1, .int x4, .int (1 : Int32)]) (rest := []) rfl rfl okX9_firstOn H.1 rfl rfl wd666 wd596 wd597 ⟨Nat.le_of_ble_eq_true rfl, Nat.le_of_ble_eq_true rfl⟩ (Nat.le_of_ble_eq_true rfl) dX8_chosen_17 (s_X9_firstOn H.2) (fun x6 h7 H => ?_)
  exact r_reti rfl dX8_chosen_20 H
def f_X9_numberOf (v0 : Nat) (v1 : Int32) (h : AH) (Q : Int32 → AH → Prop) : Prop :=
  ((v1 < 0 → Q (-9 : Int32) h) ∧ (¬ (v1 < 0) → gR h v0 9 0 (fun a1 => gI h a1 5 5 (fun x2 => ((x2 ≤ v1 → Q (-9 : Int32) h) ∧ (¬ (x2 ≤ v1) → gR h v0 9 0 (fun a3 => gR h a3 5 0 (fun a4 => lI h a4 v1 (fun x5 => Q x5 h)))))))))
set_option maxRecDepth 100000 in
set_option maxHeartbeats 4000000 in
theorem s_X9_numberOf {o : Om} {v0 : Nat} {v1 : Int32} {h : AH} {Q : Int32 → AH → Prop} (H : f_X9_numberOf v0 v1 h Q) : MQ' o kX9_numberOf [.ref v0, .int v1] h (qI Q) := by
  refine MQ'.of (by decide +kernel) (Nat.le_of_ble_eq_true rfl) ?_
  show AQ o kX9_numberOf h 0 [(0, .ref v0), (1, .int v1)] [] (qI Q)
  refine a_iload_n 1 rfl rfl dX9_numberOf_0 ?_
  refine a_if_lt (tgt := 27) dX9_numberOf_1 (by decide) (fun c => ?_) (fun c => ?_)
  · have H := H.1 (c)
    refine a_bipush (v := (-9 : Int32)) (by decide) dX9_numberOf_27 ?_
    exact r_reti rfl dX9_numberOf_29 H
  · have H := H.2 (c)
    refine a_iload_n 1 rfl rfl dX9_numberOf_4 ?_
    refine a_aload_n 0 rfl rfl dX9_numberOf_5 ?_
    refine r_gR fo_RX9_33_9 dX9_numberOf_6 H (fun a1 H => ?_)
    refine r_gI fo_RX9_53_5 dX9_numberOf_9 H (fun x2 H => ?_)
    refine a_icmp_ge (tgt := 27) dX9_numberOf_12 (by decide) (fun c => ?_) (fun c => ?_)
    · have H := H.1 (c)
      refine a_bipush (v := (-9 : Int32)) (by decide) dX9_numberOf_27 ?_
      exact r_reti rfl dX9_numberOf_29 H
    · have H := H.2 (c)
      refine a_aload_n 0 rfl rfl dX9_numberOf_15 ?_
      refine r_gR fo_RX9_33_9 dX9_numberOf_16 H (fun a3 H => ?_)
      refine r_gR fo_RX9_56_5 dX9_numberOf_19 H (fun a4 H => ?_)
      refine a_iload_n 1 rfl rfl dX9_numberOf_22 ?_
      refine r_lI dX9_numberOf_23 H (fun x5 H => ?_)
      refine a_goto (tgt := 29) dX9_numberOf_24 (by decide) ?_
      exact r_reti rfl dX9_numberOf_29 H
def f_X8_tell (v0 : Nat) (v1 : Int32) (v2 : Nat) (h : AH) (Q : Int32 → AH → Prop) : Prop :=
  ((¬ (v1 = (4 : Int32)) → anyO h v0 ∧ f_X2_tell v0 v1 v2 h (fun x1 h2 => Q x1 h2)) ∧ (v1 = (4 : Int32) → isO h v0 8 ∧ f_X8_chosen v0 v2 h (fun x3 h4 => isO h4 v2 9 ∧ f_X9_numberOf v2 x3 h4 (fun x5 h6 => Q x5 h6))))
set_option maxRecDepth 100000 in
set_option maxHeartbeats 4000000 in
theorem s_X8_tell {o : Om} {v0 : Nat} {v1 : Int32} {v2 : Nat} {h : AH} {Q : Int32 → AH → Prop} (H : f_X8_tell v0 v1 v2 h Q) : MQ' o kX8_tell [.ref v0, .int v1, .ref v2] h (qI Q) := by
  refine MQ'.of (by decide +kernel) (Nat.le_of_ble_eq_true rfl) ?_
  show AQ o kX8_tell h 0 [(0, .ref v0), (1, .int v1), (2, .ref v2)] [] (qI Q)
  refine a_iload_n 1 rfl rfl dX8_tell_0 ?_
  refine a_iconst (v := (4 : Int32)) (by decide) dX8_tell_1 ?_
  refine a_icmp_ne (tgt := 17) dX8_tell_2 (by decide) (fun c => ?_) (fun c => ?_)
  · have H := H.1 (c)
    refine a_aload_n 0 rfl rfl dX8_tell_17 ?_
    refine a_iload_n 1 rfl rfl dX8_tell_18 ?_
    refine a_aload_n 2 rfl rfl dX8_tell_19 ?_
    obtain ⟨⟨ci, fs, hlt, hO⟩, H⟩ := H
    refine r_SUi (q := vwCl[ci]'hlt) (av := [.int v1, .ref v2]) (rest := []) rfl rfl okX2_tell hO (List.getElem?_eq_getElem hlt) wd671 wd1536 wd483 wd647 (by decide +kernel) ⟨Nat.le_of_ble_eq_true rfl, Nat.le_of_ble_eq_true rfl⟩ (Nat.le_of_ble_eq_true rfl) dX8_tell_20 (s_X2_tell H) (fun x1 h2 H => ?_)
    exact r_reti rfl dX8_tell_23 H
  · have H := H.2 (c)
    refine a_aload_n 2 rfl rfl dX8_tell_5 ?_
    refine a_aload_n 0 rfl rfl dX8_tell_6 ?_
    refine a_aload_n 2 rfl rfl dX8_tell_7 ?_
    refine r_Vi (q := (RX8, TX8, 2)) (av := [.ref v2]) (rest := [.ref v2]) rfl rfl okX8_chosen H.1 rfl rfl wd660 wd662 wp14 ⟨Nat.le_of_ble_eq_true rfl, Nat.le_of_ble_eq_true rfl⟩ (Nat.le_of_ble_eq_true rfl) dX8_tell_8 (s_X8_chosen H.2) (fun x3 h4 H => ?_)
    refine r_Vi (q := (RX9, TX9, 8)) (av := [.int x3]) (rest := []) rfl rfl okX9_numberOf H.1 rfl rfl wd667 wd668 wd669 ⟨Nat.le_of_ble_eq_true rfl, Nat.le_of_ble_eq_true rfl⟩ (Nat.le_of_ble_eq_true rfl) dX8_tell_11 (s_X9_numberOf H.2) (fun x5 h6 H => ?_)
    refine a_goto (tgt := 23) dX8_tell_14 (by decide) ?_
    exact r_reti rfl dX8_tell_23 H
def v_tell0 (a : Nat) (u0 : Int32) (u1 : Nat) (h : AH) (Q : Int32 → AH → Prop) : Prop := ∃ ci fs, h.2.2 a = some (.inr (ci, fs)) ∧ ((ci = 0 ∧ f_X0_tell a u0 u1 h Q) ∨ (ci = 1 ∧ f_X1_tell a u0 u1 h Q) ∨ (ci = 2 ∧ f_X2_tell a u0 u1 h Q) ∨ (ci = 3 ∧ f_X3_tell a u0 u1 h Q) ∨ (ci = 8 ∧ f_X8_tell a u0 u1 h Q) ∨ (ci = 10 ∧ f_X10_tell a u0 u1 h Q))
theorem vs_X11_mark_50 {o : Om} {h : AH} {lv : List (Nat × Value)} {rest : List Value} {Q : Option Value → AH → Prop} {a : Nat} {u0 : Int32} {u1 : Nat} {F : Int32 → AH → Prop} (hd : decode kX11_mark.2.1 50 = .ok (.invokevirtual 168, 3)) (H : v_tell0 a u0 u1 h F) (k : ∀ x h, F x h → AQ o kX11_mark h (50 + 3) lv (.int x :: rest) Q) (hc : (rest.map fun v => v.category).sum ≤ 8 := by exact Nat.le_of_ble_eq_true rfl) : AQ o kX11_mark h 50 lv (.ref u1 :: .int u0 :: .ref a :: rest) Q := by
  obtain ⟨ci, fs, hO, H⟩ := H
  rcases H with ⟨rfl, H⟩ | ⟨rfl, H⟩ | ⟨rfl, H⟩ | ⟨rfl, H⟩ | ⟨rfl, H⟩ | ⟨rfl, H⟩
  · exact r_Ui (q := (RX0, TX0, 2)) (x := ⟨"MilestonesOn$Walker", "tell", "(ILMilestonesOn$Trip;)I"⟩) (owner := "MilestonesOn$Walker") (av := [.int u0, .ref u1]) (rest := rest) rfl rfl okX0_tell hO rfl rfl wd574 wd577 (by decide +kernel) wd575 wd672 wd579 wd578 ⟨Nat.le_of_ble_eq_true rfl, Nat.le_of_ble_eq_true rfl⟩ hc hd (s_X0_tell H) k
  · exact r_Ui (q := (RX1, TX1, 2)) (x := ⟨"MilestonesOn$Walker", "tell", "(ILMilestonesOn$Trip;)I"⟩) (owner := "MilestonesOn$Walker") (av := [.int u0, .ref u1]) (rest := rest) rfl rfl okX1_tell hO rfl rfl wd574 wd577 (by decide +kernel) wd575 wd672 wd633 wd632 ⟨Nat.le_of_ble_eq_true rfl, Nat.le_of_ble_eq_true rfl⟩ hc hd (s_X1_tell H) k
  · exact r_Ui (q := (RX2, TX2, 2)) (x := ⟨"MilestonesOn$Walker", "tell", "(ILMilestonesOn$Trip;)I"⟩) (owner := "MilestonesOn$Walker") (av := [.int u0, .ref u1]) (rest := rest) rfl rfl okX2_tell hO rfl rfl wd574 wd577 (by decide +kernel) wd575 wd672 wd647 wd646 ⟨Nat.le_of_ble_eq_true rfl, Nat.le_of_ble_eq_true rfl⟩ hc hd (s_X2_tell H) k
  · exact r_Ui (q := (RX3, TX3, 2)) (x := ⟨"MilestonesOn$Walker", "tell", "(ILMilestonesOn$Trip;)I"⟩) (owner := "MilestonesOn$Walker") (av := [.int u0, .ref u1]) (rest := rest) rfl rfl okX3_tell hO rfl rfl wd574 wd577 (by decide +kernel) wd575 wd672 wd653 wd652 ⟨Nat.le_of_ble_eq_true rfl, Nat.le_of_ble_eq_true rfl⟩ hc hd (s_X3_tell H) k
  · exact r_Ui (q := (RX8, TX8, 2)) (x := ⟨"MilestonesOn$Walker", "tell", "(ILMilestonesOn$Trip;)I"⟩) (owner := "MilestonesOn$Walker") (av := [.int u0, .ref u1]) (rest := rest) rfl rfl okX8_tell hO rfl rfl wd574 wd577 (by decide +kernel) wd575 wd672 wd658 wd657 ⟨Nat.le_of_ble_eq_true rfl, Nat.le_of_ble_eq_true rfl⟩ hc hd (s_X8_tell H) k
  · exact r_Ui (q := (RX10, TX10, 2)) (x := ⟨"MilestonesOn$Walker", "tell", "(ILMilestonesOn$Trip;)I"⟩) (owner := "MilestonesOn$Walker") (av := [.int u0, .ref u1]) (rest := rest) rfl rfl okX10_tell hO rfl rfl wd574 wd577 (by decide +kernel) wd575 wd672 wd575 wd576 ⟨Nat.le_of_ble_eq_true rfl, Nat.le_of_ble_eq_true rfl⟩ hc hd (s_X10_tell H) k
def f_X11_mark (v0 : Nat) (v1 : Int32) (v2 : Int32) (h : AH) (Q : Int32 → AH → Prop) : Prop :=
  gR h v0 11 8 (fun a1 => isO h a1 5 ∧ f_X5_walkerAt a1 v1 h (fun q2 h3 => ((q2 = none → Q (-1 : Int32) h3) ∧ (∀ a4, q2 = some a4 → ((v2 < (1 : Int32) → Q (-1 : Int32) h3) ∧ (¬ (v2 < (1 : Int32)) → ((v2 ≤ (5 : Int32) → gR h3 v0 11 6 (fun a5 => gR h3 v0 11 8 (fun a6 => gI h3 v0 11 9 (fun x7 => gI h3 v0 11 10 (fun x8 => isO h3 a5 9 ∧ f_X9_begin a5 a6 x7 x8 h3 (fun h9 => gR h9 v0 11 6 (fun a10 => v_tell0 a4 v2 a10 h9 (fun x11 h12 => ((¬ (x11 = (-100 : Int32)) → Q x11 h12) ∧ (x11 = (-100 : Int32) → isO h12 v0 11 ∧ f_X11_found v0 (3 : Int32) h12 (fun x13 h14 => Q x13 h14))))))))))) ∧ (¬ (v2 ≤ (5 : Int32)) → Q (-1 : Int32) h3))))))))
set_option maxRecDepth 100000 in
set_option maxHeartbeats 4000000 in
theorem s_X11_mark {o : Om} {v0 : Nat} {v1 : Int32} {v2 : Int32} {h : AH} {Q : Int32 → AH → Prop} (H : f_X11_mark v0 v1 v2 h Q) : MQ' o kX11_mark [.ref v0, .int v1, .int v2] h (qI Q) := by
  refine MQ'.of (by decide +kernel) (Nat.le_of_ble_eq_true rfl) ?_
  show AQ o kX11_mark h 0 [(0, .ref v0), (1, .int v1), (2, .int v2)] [] (qI Q)
  refine a_aload_n 0 rfl rfl dX11_mark_0 ?_
  refine r_gR fo_RX11_60_11 dX11_mark_1 H (fun a1 H => ?_)
  refine a_iload_n 1 rfl rfl dX11_mark_4 ?_
  refine r_Vo (q := (RX5, TX5, 10)) (av := [.int v1]) (rest := []) rfl rfl okX5_walkerAt H.1 rfl rfl wd538 wd539 wd540 ⟨Nat.le_of_ble_eq_true rfl, Nat.le_of_ble_eq_true rfl⟩ (Nat.le_of_ble_eq_true rfl) dX11_mark_5 (s_X5_walkerAt H.2) (fun q2 h3 H => ?_)
  refine a_astoreQ_n (lv1 := [(0, .ref v0), (1, .int v1), (2, .int v2), (3, va_rf q2)]) rfl [1, 2, 3, 0] (by decide) rfl dX11_mark_8 ?_
  refine a_aloadQ_n 3 rfl rfl dX11_mark_9 ?_
  cases q2 with
  | none =>
    have H := H.1 rfl
    refine a_ifnull_n (tgt := 23) dX11_mark_10 (by decide) ?_
    show AQ o kX11_mark h3 23 [(0, .ref v0), (1, .int v1), (2, .int v2), (3, .null)] [] _
    refine a_iconst (v := (-1 : Int32)) (by decide) dX11_mark_23 ?_
    exact r_reti rfl dX11_mark_24 H
  | some a4 =>
    have H := H.2 a4 rfl
    refine a_ifnull_r dX11_mark_10 ?_
    show AQ o kX11_mark h3 13 [(0, .ref v0), (1, .int v1), (2, .int v2), (3, .ref a4)] [] _
    refine a_iload_n 2 rfl rfl dX11_mark_13 ?_
    refine a_iconst (v := (1 : Int32)) (by decide) dX11_mark_14 ?_
    refine a_icmp_lt (tgt := 23) dX11_mark_15 (by decide) (fun c => ?_) (fun c => ?_)
    · have H := H.1 (c)
      refine a_iconst (v := (-1 : Int32)) (by decide) dX11_mark_23 ?_
      exact r_reti rfl dX11_mark_24 H
    · have H := H.2 (c)
      refine a_iload_n 2 rfl rfl dX11_mark_18 ?_
      refine a_iconst (v := (5 : Int32)) (by decide) dX11_mark_19 ?_
      refine a_icmp_le (tgt := 25) dX11_mark_20 (by decide) (fun c => ?_) (fun c => ?_)
      · have H := H.1 (c)
        refine a_aload_n 0 rfl rfl dX11_mark_25 ?_
        refine r_gR fo_RX11_67_11 dX11_mark_26 H (fun a5 H => ?_)
        refine a_aload_n 0 rfl rfl dX11_mark_29 ?_
        refine r_gR fo_RX11_60_11 dX11_mark_30 H (fun a6 H => ?_)
        refine a_aload_n 0 rfl rfl dX11_mark_33 ?_
        refine r_gI fo_RX11_34_11 dX11_mark_34 H (fun x7 H => ?_)
        refine a_aload_n 0 rfl rfl dX11_mark_37 ?_
        refine r_gI fo_RX11_38_11 dX11_mark_38 H (fun x8 H => ?_)
        refine r_Vv (q := (RX9, TX9, 8)) (av := [.ref a6, .int x7, .int x8]) (rest := []) rfl rfl okX9_begin H.1 rfl rfl wd570 wd571 wd572 ⟨Nat.le_of_ble_eq_true rfl, Nat.le_of_ble_eq_true rfl⟩ (Nat.le_of_ble_eq_true rfl) dX11_mark_41 (s_X9_begin H.2) (fun h9 H => ?_)
        refine a_aload_n 3 rfl rfl dX11_mark_44 ?_
        refine a_iload_n 2 rfl rfl dX11_mark_45 ?_
        refine a_aload_n 0 rfl rfl dX11_mark_46 ?_
        refine r_gR fo_RX11_67_11 dX11_mark_47 H (fun a10 H => ?_)
        refine vs_X11_mark_50 dX11_mark_50 H (fun x11 h12 H => ?_)
        refine a_istore (lv1 := [(0, .ref v0), (1, .int v1), (2, .int v2), (3, .ref a4), (4, .int x11)]) [1, 2, 3, 4, 0] (by decide) rfl dX11_mark_53 ?_
        refine a_iload 4 rfl dX11_mark_55 ?_
        refine a_bipush (v := (-100 : Int32)) (by decide) dX11_mark_57 ?_
        refine a_icmp_ne (tgt := 70) dX11_mark_59 (by decide) (fun c => ?_) (fun c => ?_)
        · have H := H.1 (c)
          refine a_iload 4 rfl dX11_mark_70 ?_
          exact r_reti rfl dX11_mark_72 H
        · have H := H.2 (c)
          refine a_aload_n 0 rfl rfl dX11_mark_62 ?_
          refine a_iconst (v := (3 : Int32)) (by decide) dX11_mark_63 ?_
          refine r_Vi (q := (RX11, TX11, 16)) (av := [.int (3 : Int32)]) (rest := []) rfl rfl okX11_found H.1 rfl rfl wd260 wd262 wp0 ⟨Nat.le_of_ble_eq_true rfl, Nat.le_of_ble_eq_true rfl⟩ (Nat.le_of_ble_eq_true rfl) dX11_mark_64 (s_X11_found H.2) (fun x13 h14 H => ?_)
          refine a_goto (tgt := 72) dX11_mark_67 (by decide) ?_
          exact r_reti rfl dX11_mark_72 H
      · have H := H.2 (c)
        refine a_iconst (v := (-1 : Int32)) (by decide) dX11_mark_23 ?_
        exact r_reti rfl dX11_mark_24 H
def B_X12_isOf_25 (Q : Int32 → AH → Prop)   (h : AH) : Prop :=
  Q (1 : Int32) h
set_option maxRecDepth 100000 in
set_option maxHeartbeats 4000000 in
theorem b_X12_isOf_25 {o : Om} {Q : Int32 → AH → Prop}   {h : AH}  (H : B_X12_isOf_25 Q   h) : AQ o kX12_isOf h 25 [] [] (qI Q) := by
  refine a_iconst (v := (1 : Int32)) (by decide) dX12_isOf_25 ?_
  refine a_goto (tgt := 30) dX12_isOf_26 (by decide) ?_
  exact r_retz rfl bl_1 dX12_isOf_30 H
def B_X12_isOf_15 (Q : Int32 → AH → Prop)  (v0 : Int32) (v1 : Int32) (h : AH) : Prop :=
  ((¬ (v0 = (5 : Int32)) → Q (0 : Int32) h) ∧ (v0 = (5 : Int32) → ((¬ (v1 = (2 : Int32)) → Q (0 : Int32) h) ∧ (v1 = (2 : Int32) → B_X12_isOf_25 Q   h))))
set_option maxRecDepth 100000 in
set_option maxHeartbeats 4000000 in
theorem b_X12_isOf_15 {o : Om} {Q : Int32 → AH → Prop}  {v0 : Int32} {v1 : Int32} {h : AH}  (H : B_X12_isOf_15 Q  v0 v1 h) : AQ o kX12_isOf h 15 [(0, .int v0), (1, .int v1)] [] (qI Q) := by
  refine a_iload_n 0 rfl rfl dX12_isOf_15 ?_
  refine a_iconst (v := (5 : Int32)) (by decide) dX12_isOf_16 ?_
  refine a_icmp_ne (tgt := 29) dX12_isOf_17 (by decide) (fun c => ?_) (fun c => ?_)
  · have H := H.1 (c)
    refine a_iconst (v := (0 : Int32)) (by decide) dX12_isOf_29 ?_
    exact r_retz rfl bl_0 dX12_isOf_30 H
  · have H := H.2 (c)
    refine a_iload_n 1 rfl rfl dX12_isOf_20 ?_
    refine a_iconst (v := (2 : Int32)) (by decide) dX12_isOf_21 ?_
    refine a_icmp_ne (tgt := 29) dX12_isOf_22 (by decide) (fun c => ?_) (fun c => ?_)
    · have H := H.1 (c)
      refine a_iconst (v := (0 : Int32)) (by decide) dX12_isOf_29 ?_
      exact r_retz rfl bl_0 dX12_isOf_30 H
    · have H := H.2 (c)
      refine AQ.sub (lv1 := []) [] rfl ?_
      exact b_X12_isOf_25  H
def f_X12_isOf (v0 : Int32) (v1 : Int32) (h : AH) (Q : Int32 → AH → Prop) : Prop :=
  ((v0 = v1 → B_X12_isOf_25 Q   h) ∧ (¬ (v0 = v1) → ((¬ (v0 = (4 : Int32)) → B_X12_isOf_15 Q  v0 v1 h) ∧ (v0 = (4 : Int32) → ((v1 = (3 : Int32) → B_X12_isOf_25 Q   h) ∧ (¬ (v1 = (3 : Int32)) → B_X12_isOf_15 Q  v0 v1 h))))))
set_option maxRecDepth 100000 in
set_option maxHeartbeats 4000000 in
theorem s_X12_isOf {o : Om} {v0 : Int32} {v1 : Int32} {h : AH} {Q : Int32 → AH → Prop} (H : f_X12_isOf v0 v1 h Q) : MQ' o kX12_isOf [.int v0, .int v1] h (qI Q) := by
  refine MQ'.of (by decide +kernel) (Nat.le_of_ble_eq_true rfl) ?_
  show AQ o kX12_isOf h 0 [(0, .int v0), (1, .int v1)] [] (qI Q)
  refine a_iload_n 0 rfl rfl dX12_isOf_0 ?_
  refine a_iload_n 1 rfl rfl dX12_isOf_1 ?_
  refine a_icmp_eq (tgt := 25) dX12_isOf_2 (by decide) (fun c => ?_) (fun c => ?_)
  · have H := H.1 (c)
    refine AQ.sub (lv1 := []) [] rfl ?_
    exact b_X12_isOf_25  H
  · have H := H.2 (c)
    refine a_iload_n 0 rfl rfl dX12_isOf_5 ?_
    refine a_iconst (v := (4 : Int32)) (by decide) dX12_isOf_6 ?_
    refine a_icmp_ne (tgt := 15) dX12_isOf_7 (by decide) (fun c => ?_) (fun c => ?_)
    · have H := H.1 (c)
      exact b_X12_isOf_15  H
    · have H := H.2 (c)
      refine a_iload_n 1 rfl rfl dX12_isOf_10 ?_
      refine a_iconst (v := (3 : Int32)) (by decide) dX12_isOf_11 ?_
      refine a_icmp_eq (tgt := 25) dX12_isOf_12 (by decide) (fun c => ?_) (fun c => ?_)
      · have H := H.1 (c)
        refine AQ.sub (lv1 := []) [] rfl ?_
        exact b_X12_isOf_25  H
      · have H := H.2 (c)
        exact b_X12_isOf_15  H
def B_X12_spread_33 (Q : AH → Prop) (K2 : Int32 → AH → Prop) (v0 : Nat) (v1 : Int32) (v2 : Int32) (t0 : Nat) (t1 : Int32) (t2 : Int32) (h : AH) : Prop :=
  sI h t0 t1 t2 (fun h1 => gR h1 v0 12 37 (fun a2 => sI h1 a2 v2 (0 : Int32) (fun h3 => K2 (v2 + 1) h3)))
set_option maxRecDepth 100000 in
set_option maxHeartbeats 4000000 in
theorem b_X12_spread_33 {o : Om} {Q : AH → Prop} {K2 : Int32 → AH → Prop} {v0 : Nat} {v1 : Int32} {v2 : Int32} {t0 : Nat} {t1 : Int32} {t2 : Int32} {h : AH} (hK2 : ∀ w2 h, K2 w2 h → AQ o kX12_spread h 2 [(0, .ref v0), (1, .int v1), (2, .int w2)] [] (qV Q)) (H : B_X12_spread_33 Q K2 v0 v1 v2 t0 t1 t2 h) : AQ o kX12_spread h 33 [(0, .ref v0), (1, .int v1), (2, .int v2)] [.int t2, .int t1, .ref t0] (qV Q) := by
  refine r_sI dX12_spread_33 H (fun h1 H => ?_)
  refine a_aload_n 0 rfl rfl dX12_spread_34 ?_
  refine r_gR fo_RX12_83_12 dX12_spread_35 H (fun a2 H => ?_)
  refine a_iload_n 2 rfl rfl dX12_spread_38 ?_
  refine a_iconst (v := (0 : Int32)) (by decide) dX12_spread_39 ?_
  refine r_sI dX12_spread_40 H (fun h3 H => ?_)
  refine a_iinc (v := v2 + 1) (lv1 := [(0, .ref v0), (1, .int v1), (2, .int (v2 + 1))]) [1, 2, 0] 2 rfl (by decide) rfl rfl dX12_spread_41 ?_
  refine a_goto (tgt := 2) dX12_spread_44 (by decide) ?_
  exact hK2 _ _ H
def B_X12_spread_2 (Q : AH → Prop) (K2 : Int32 → AH → Prop) (v0 : Nat) (v1 : Int32) (v2 : Int32) (h : AH) : Prop :=
  (((5 : Int32) ≤ v2 → pF h v0 12 38 (.int (0 : Int32)) (fun h1 => Q h1)) ∧ (¬ ((5 : Int32) ≤ v2) → gR h v0 12 36 (fun a2 => gI h v0 12 10 (fun x3 => ((x3 ≤ v2 → B_X12_spread_33 Q K2 v0 v1 v2 a2 v2 (7 : Int32) h) ∧ (¬ (x3 ≤ v2) → B_X12_spread_33 Q K2 v0 v1 v2 a2 v2 ((v1 >>> (((3 : Int32) * v2) &&& 31)) &&& (7 : Int32)) h))))))
set_option maxRecDepth 100000 in
set_option maxHeartbeats 4000000 in
theorem b_X12_spread_2 {o : Om} {Q : AH → Prop} {K2 : Int32 → AH → Prop} {v0 : Nat} {v1 : Int32} {v2 : Int32} {h : AH} (hK2 : ∀ w2 h, K2 w2 h → AQ o kX12_spread h 2 [(0, .ref v0), (1, .int v1), (2, .int w2)] [] (qV Q)) (H : B_X12_spread_2 Q K2 v0 v1 v2 h) : AQ o kX12_spread h 2 [(0, .ref v0), (1, .int v1), (2, .int v2)] [] (qV Q) := by
  refine a_iload_n 2 rfl rfl dX12_spread_2 ?_
  refine a_iconst (v := (5 : Int32)) (by decide) dX12_spread_3 ?_
  refine a_icmp_ge (tgt := 47) dX12_spread_4 (by decide) (fun c => ?_) (fun c => ?_)
  · have H := H.1 (c)
    refine a_aload_n 0 rfl rfl dX12_spread_47 ?_
    refine a_iconst (v := (0 : Int32)) (by decide) dX12_spread_48 ?_
    refine r_pF (po_RX12_203_12 _) (fun _ => rfl) (fun _ => rfl) dX12_spread_49 H (fun h1 H => ?_)
    exact r_retv rfl dX12_spread_52 H
  · have H := H.2 (c)
    refine a_aload_n 0 rfl rfl dX12_spread_7 ?_
    refine r_gR fo_RX12_80_12 dX12_spread_8 H (fun a2 H => ?_)
    refine a_iload_n 2 rfl rfl dX12_spread_11 ?_
    refine a_iload_n 2 rfl rfl dX12_spread_12 ?_
    refine a_aload_n 0 rfl rfl dX12_spread_13 ?_
    refine r_gI fo_RX12_178_12 dX12_spread_14 H (fun x3 H => ?_)
    refine a_icmp_ge (tgt := 31) dX12_spread_17 (by decide) (fun c => ?_) (fun c => ?_)
    · have H := H.1 (c)
      refine a_bipush (v := (7 : Int32)) (by decide) dX12_spread_31 ?_
      exact b_X12_spread_33 hK2 H
    · have H := H.2 (c)
      refine a_iload_n 1 rfl rfl dX12_spread_20 ?_
      refine a_iconst (v := (3 : Int32)) (by decide) dX12_spread_21 ?_
      refine a_iload_n 2 rfl rfl dX12_spread_22 ?_
      refine a_imul dX12_spread_23 ?_
      refine a_ishr dX12_spread_24 ?_
      refine a_bipush (v := (7 : Int32)) (by decide) dX12_spread_25 ?_
      refine a_iand dX12_spread_27 ?_
      refine a_goto (tgt := 33) dX12_spread_28 (by decide) ?_
      exact b_X12_spread_33 hK2 H
def L_X12_spread_2 (Q : AH → Prop)  (v0 : Nat) (v1 : Int32) : Nat → Int32 → AH → Prop
  | 0, _, _ => False
  | n + 1, v2, h => B_X12_spread_2 Q (L_X12_spread_2 Q  v0 v1 n) v0 v1 v2 h
theorem l_X12_spread_2 {o : Om} {Q : AH → Prop}  {v0 : Nat} {v1 : Int32}  : ∀ (n : Nat) (v2 : Int32) (h : AH), L_X12_spread_2 Q  v0 v1 n v2 h → AQ o kX12_spread h 2 [(0, .ref v0), (1, .int v1), (2, .int v2)] [] (qV Q) := by
  intro n
  induction n with
  | zero => intro v2 h H; exact H.elim
  | succ n ih => intro v2 h H; exact b_X12_spread_2 ih H
def f_X12_spread (v0 : Nat) (v1 : Int32) (h : AH) (Q : AH → Prop) : Prop :=
  ∃ n, L_X12_spread_2 Q  v0 v1 n (0 : Int32) h
set_option maxRecDepth 100000 in
set_option maxHeartbeats 4000000 in
theorem s_X12_spread {o : Om} {v0 : Nat} {v1 : Int32} {h : AH} {Q : AH → Prop} (H : f_X12_spread v0 v1 h Q) : MQ' o kX12_spread [.ref v0, .int v1] h (qV Q) := by
  refine MQ'.of (by decide +kernel) (Nat.le_of_ble_eq_true rfl) ?_
  show AQ o kX12_spread h 0 [(0, .ref v0), (1, .int v1)] [] (qV Q)
  refine a_iconst (v := (0 : Int32)) (by decide) dX12_spread_0 ?_
  refine a_istore_n (lv1 := [(0, .ref v0), (1, .int v1), (2, .int (0 : Int32))]) rfl [1, 2, 0] (by decide) rfl dX12_spread_1 ?_
  obtain ⟨n, H⟩ := H
  exact l_X12_spread_2  n _ _ H
def f_X12_size (v0 : Int32) (h : AH) (Q : Int32 → AH → Prop) : Prop :=
  ((0 ≤ v0 → Q v0 h) ∧ (¬ (0 ≤ v0) → Q (-v0) h))
set_option maxRecDepth 100000 in
set_option maxHeartbeats 4000000 in
theorem s_X12_size {o : Om} {v0 : Int32} {h : AH} {Q : Int32 → AH → Prop} (H : f_X12_size v0 h Q) : MQ' o kX12_size [.int v0] h (qI Q) := by
  refine MQ'.of (by decide +kernel) (Nat.le_of_ble_eq_true rfl) ?_
  show AQ o kX12_size h 0 [(0, .int v0)] [] (qI Q)
  refine a_iload_n 0 rfl rfl dX12_size_0 ?_
  refine a_if_ge (tgt := 9) dX12_size_1 (by decide) (fun c => ?_) (fun c => ?_)
  · have H := H.1 (c)
    refine a_iload_n 0 rfl rfl dX12_size_9 ?_
    exact r_reti rfl dX12_size_10 H
  · have H := H.2 (c)
    refine a_iload_n 0 rfl rfl dX12_size_4 ?_
    refine a_ineg dX12_size_5 ?_
    refine a_goto (tgt := 10) dX12_size_6 (by decide) ?_
    exact r_reti rfl dX12_size_10 H
def B_X12_isAhead_105 (Q : Int32 → AH → Prop)  (v0 : Nat) (v1 : Int32) (v2 : Int32) (h : AH) : Prop :=
  gR h v0 12 11 (fun a1 => lI h a1 v1 (fun x2 => gR h v0 12 11 (fun a3 => lI h a3 v2 (fun x4 => ((x4 ≤ x2 → Q (0 : Int32) h) ∧ (¬ (x4 ≤ x2) → Q (1 : Int32) h))))))
set_option maxRecDepth 100000 in
set_option maxHeartbeats 4000000 in
theorem b_X12_isAhead_105 {o : Om} {Q : Int32 → AH → Prop}  {v0 : Nat} {v1 : Int32} {v2 : Int32} {h : AH}  (H : B_X12_isAhead_105 Q  v0 v1 v2 h) : AQ o kX12_isAhead h 105 [(0, .ref v0), (1, .int v1), (2, .int v2)] [] (qI Q) := by
  refine a_aload_n 0 rfl rfl dX12_isAhead_105 ?_
  refine r_gR fo_RX12_29_12 dX12_isAhead_106 H (fun a1 H => ?_)
  refine a_iload_n 1 rfl rfl dX12_isAhead_109 ?_
  refine r_lI dX12_isAhead_110 H (fun x2 H => ?_)
  refine a_aload_n 0 rfl rfl dX12_isAhead_111 ?_
  refine r_gR fo_RX12_29_12 dX12_isAhead_112 H (fun a3 H => ?_)
  refine a_iload_n 2 rfl rfl dX12_isAhead_115 ?_
  refine r_lI dX12_isAhead_116 H (fun x4 H => ?_)
  refine a_icmp_ge (tgt := 124) dX12_isAhead_117 (by decide) (fun c => ?_) (fun c => ?_)
  · have H := H.1 (c)
    refine a_iconst (v := (0 : Int32)) (by decide) dX12_isAhead_124 ?_
    exact r_retz rfl bl_0 dX12_isAhead_125 H
  · have H := H.2 (c)
    refine a_iconst (v := (1 : Int32)) (by decide) dX12_isAhead_120 ?_
    refine a_goto (tgt := 125) dX12_isAhead_121 (by decide) ?_
    exact r_retz rfl bl_1 dX12_isAhead_125 H
def B_X12_isAhead_75 (Q : Int32 → AH → Prop)  (v0 : Nat) (v1 : Int32) (v2 : Int32) (v4 : Int32) (v5 : Int32) (t0 : Int32) (h : AH) : Prop :=
  ((¬ (v4 = (2 : Int32)) → B_X12_isAhead_105 Q  v0 v1 v2 h) ∧ (v4 = (2 : Int32) → ((v5 = t0 → B_X12_isAhead_105 Q  v0 v1 v2 h) ∧ (¬ (v5 = t0) → ((v5 ≤ t0 → Q (0 : Int32) h) ∧ (¬ (v5 ≤ t0) → Q (1 : Int32) h))))))
set_option maxRecDepth 100000 in
set_option maxHeartbeats 4000000 in
theorem b_X12_isAhead_75 {o : Om} {Q : Int32 → AH → Prop}  {v0 : Nat} {v1 : Int32} {v2 : Int32} {v4 : Int32} {v5 : Int32} {t0 : Int32} {h : AH}  (H : B_X12_isAhead_75 Q  v0 v1 v2 v4 v5 t0 h) : AQ o kX12_isAhead h 75 [(0, .ref v0), (1, .int v1), (2, .int v2), (4, .int v4), (5, .int v5)] [.int t0] (qI Q) := by
  refine a_istore (lv1 := [(0, .ref v0), (1, .int v1), (2, .int v2), (4, .int v4), (5, .int v5), (6, .int t0)]) [1, 2, 3, 4, 5, 0] (by decide) rfl dX12_isAhead_75 ?_
  refine a_iload 3 rfl dX12_isAhead_77 ?_
  refine a_iconst (v := (2 : Int32)) (by decide) dX12_isAhead_79 ?_
  refine a_icmp_ne (tgt := 105) dX12_isAhead_80 (by decide) (fun c => ?_) (fun c => ?_)
  · have H := H.1 (c)
    refine AQ.sub (lv1 := [(0, .ref v0), (1, .int v1), (2, .int v2)]) [0, 1, 2] rfl ?_
    exact b_X12_isAhead_105  H
  · have H := H.2 (c)
    refine a_iload 4 rfl dX12_isAhead_83 ?_
    refine a_iload 5 rfl dX12_isAhead_85 ?_
    refine a_icmp_eq (tgt := 105) dX12_isAhead_87 (by decide) (fun c => ?_) (fun c => ?_)
    · have H := H.1 (c)
      refine AQ.sub (lv1 := [(0, .ref v0), (1, .int v1), (2, .int v2)]) [0, 1, 2] rfl ?_
      exact b_X12_isAhead_105  H
    · have H := H.2 (c)
      refine a_iload 4 rfl dX12_isAhead_90 ?_
      refine a_iload 5 rfl dX12_isAhead_92 ?_
      refine a_icmp_le (tgt := 101) dX12_isAhead_94 (by decide) (fun c => ?_) (fun c => ?_)
      · have H := H.1 (c)
        refine a_iconst (v := (0 : Int32)) (by decide) dX12_isAhead_101 ?_
        refine a_goto (tgt := 125) dX12_isAhead_102 (by decide) ?_
        exact r_retz rfl bl_0 dX12_isAhead_125 H
      · have H := H.2 (c)
        refine a_iconst (v := (1 : Int32)) (by decide) dX12_isAhead_97 ?_
        refine a_goto (tgt := 125) dX12_isAhead_98 (by decide) ?_
        exact r_retz rfl bl_1 dX12_isAhead_125 H
def B_X12_isAhead_50 (Q : Int32 → AH → Prop)  (v0 : Nat) (v1 : Int32) (v2 : Int32) (v3 : Int32) (v4 : Int32) (t0 : Int32) (h : AH) : Prop :=
  isO h v0 12 ∧ f_X12_home v0 v2 h (fun x1 h2 => ((0 ≤ x1 → isO h2 v0 12 ∧ f_X12_home v0 v2 h2 (fun x3 h4 => f_X12_size (x3 - v3) h4 (fun x5 h6 => B_X12_isAhead_75 Q  v0 v1 v2 v4 t0 x5 h6))) ∧ (¬ (0 ≤ x1) → B_X12_isAhead_75 Q  v0 v1 v2 v4 t0 (9 : Int32) h2)))
set_option maxRecDepth 100000 in
set_option maxHeartbeats 4000000 in
theorem b_X12_isAhead_50 {o : Om} {Q : Int32 → AH → Prop}  {v0 : Nat} {v1 : Int32} {v2 : Int32} {v3 : Int32} {v4 : Int32} {t0 : Int32} {h : AH}  (H : B_X12_isAhead_50 Q  v0 v1 v2 v3 v4 t0 h) : AQ o kX12_isAhead h 50 [(0, .ref v0), (1, .int v1), (2, .int v2), (3, .int v3), (4, .int v4)] [.int t0] (qI Q) := by
  refine a_istore (lv1 := [(0, .ref v0), (1, .int v1), (2, .int v2), (3, .int v3), (4, .int v4), (5, .int t0)]) [1, 2, 3, 4, 5, 0] (by decide) rfl dX12_isAhead_50 ?_
  refine a_aload_n 0 rfl rfl dX12_isAhead_52 ?_
  refine a_iload_n 2 rfl rfl dX12_isAhead_53 ?_
  refine r_Vi (q := (RX12, TX12, 51)) (av := [.int v2]) (rest := []) rfl rfl okX12_home H.1 rfl rfl wd1292 wd1294 wp43 ⟨Nat.le_of_ble_eq_true rfl, Nat.le_of_ble_eq_true rfl⟩ (Nat.le_of_ble_eq_true rfl) dX12_isAhead_54 (s_X12_home H.2) (fun x1 h2 H => ?_)
  refine a_if_ge (tgt := 65) dX12_isAhead_57 (by decide) (fun c => ?_) (fun c => ?_)
  · have H := H.1 (c)
    refine a_aload_n 0 rfl rfl dX12_isAhead_65 ?_
    refine a_iload_n 2 rfl rfl dX12_isAhead_66 ?_
    refine r_Vi (q := (RX12, TX12, 51)) (av := [.int v2]) (rest := []) rfl rfl okX12_home H.1 rfl rfl wd1292 wd1294 wp43 ⟨Nat.le_of_ble_eq_true rfl, Nat.le_of_ble_eq_true rfl⟩ (Nat.le_of_ble_eq_true rfl) dX12_isAhead_67 (s_X12_home H.2) (fun x3 h4 H => ?_)
    refine a_iload_n 3 rfl rfl dX12_isAhead_70 ?_
    refine a_isub dX12_isAhead_71 ?_
    refine r_Si (av := [.int (x3 - v3)]) (rest := []) rfl rfl okX12_size wd1327 wd1328 ⟨Nat.le_of_ble_eq_true rfl, Nat.le_of_ble_eq_true rfl⟩ (Nat.le_of_ble_eq_true rfl) dX12_isAhead_72 (s_X12_size H) (fun x5 h6 H => ?_)
    refine AQ.sub (lv1 := [(0, .ref v0), (1, .int v1), (2, .int v2), (4, .int v4), (5, .int t0)]) [0, 1, 2, 4, 5] rfl ?_
    exact b_X12_isAhead_75  H
  · have H := H.2 (c)
    refine a_bipush (v := (9 : Int32)) (by decide) dX12_isAhead_60 ?_
    refine a_goto (tgt := 75) dX12_isAhead_62 (by decide) ?_
    refine AQ.sub (lv1 := [(0, .ref v0), (1, .int v1), (2, .int v2), (4, .int v4), (5, .int t0)]) [0, 1, 2, 4, 5] rfl ?_
    exact b_X12_isAhead_75  H
def f_X12_isAhead (v0 : Nat) (v1 : Int32) (v2 : Int32) (v3 : Int32) (v4 : Int32) (h : AH) (Q : Int32 → AH → Prop) : Prop :=
  ((¬ (v4 = (1 : Int32)) → isO h v0 12 ∧ f_X12_home v0 v1 h (fun x1 h2 => ((0 ≤ x1 → isO h2 v0 12 ∧ f_X12_home v0 v1 h2 (fun x3 h4 => f_X12_size (x3 - v3) h4 (fun x5 h6 => B_X12_isAhead_50 Q  v0 v1 v2 v3 v4 x5 h6))) ∧ (¬ (0 ≤ x1) → B_X12_isAhead_50 Q  v0 v1 v2 v3 v4 (9 : Int32) h2)))) ∧ (v4 = (1 : Int32) → gR h v0 12 11 (fun a7 => lI h a7 v1 (fun x8 => gR h v0 12 11 (fun a9 => lI h a9 v2 (fun x10 => ((x8 ≤ x10 → Q (0 : Int32) h) ∧ (¬ (x8 ≤ x10) → Q (1 : Int32) h))))))))
set_option maxRecDepth 100000 in
set_option maxHeartbeats 4000000 in
theorem s_X12_isAhead {o : Om} {v0 : Nat} {v1 : Int32} {v2 : Int32} {v3 : Int32} {v4 : Int32} {h : AH} {Q : Int32 → AH → Prop} (H : f_X12_isAhead v0 v1 v2 v3 v4 h Q) : MQ' o kX12_isAhead [.ref v0, .int v1, .int v2, .int v3, .int v4] h (qI Q) := by
  refine MQ'.of (by decide +kernel) (Nat.le_of_ble_eq_true rfl) ?_
  show AQ o kX12_isAhead h 0 [(0, .ref v0), (1, .int v1), (2, .int v2), (3, .int v3), (4, .int v4)] [] (qI Q)
  refine a_iload 4 rfl dX12_isAhead_0 ?_
  refine a_iconst (v := (1 : Int32)) (by decide) dX12_isAhead_2 ?_
  refine a_icmp_ne (tgt := 27) dX12_isAhead_3 (by decide) (fun c => ?_) (fun c => ?_)
  · have H := H.1 (c)
    refine a_aload_n 0 rfl rfl dX12_isAhead_27 ?_
    refine a_iload_n 1 rfl rfl dX12_isAhead_28 ?_
    refine r_Vi (q := (RX12, TX12, 51)) (av := [.int v1]) (rest := []) rfl rfl okX12_home H.1 rfl rfl wd1292 wd1294 wp43 ⟨Nat.le_of_ble_eq_true rfl, Nat.le_of_ble_eq_true rfl⟩ (Nat.le_of_ble_eq_true rfl) dX12_isAhead_29 (s_X12_home H.2) (fun x1 h2 H => ?_)
    refine a_if_ge (tgt := 40) dX12_isAhead_32 (by decide) (fun c => ?_) (fun c => ?_)
    · have H := H.1 (c)
      refine a_aload_n 0 rfl rfl dX12_isAhead_40 ?_
      refine a_iload_n 1 rfl rfl dX12_isAhead_41 ?_
      refine r_Vi (q := (RX12, TX12, 51)) (av := [.int v1]) (rest := []) rfl rfl okX12_home H.1 rfl rfl wd1292 wd1294 wp43 ⟨Nat.le_of_ble_eq_true rfl, Nat.le_of_ble_eq_true rfl⟩ (Nat.le_of_ble_eq_true rfl) dX12_isAhead_42 (s_X12_home H.2) (fun x3 h4 H => ?_)
      refine a_iload_n 3 rfl rfl dX12_isAhead_45 ?_
      refine a_isub dX12_isAhead_46 ?_
      refine r_Si (av := [.int (x3 - v3)]) (rest := []) rfl rfl okX12_size wd1327 wd1328 ⟨Nat.le_of_ble_eq_true rfl, Nat.le_of_ble_eq_true rfl⟩ (Nat.le_of_ble_eq_true rfl) dX12_isAhead_47 (s_X12_size H) (fun x5 h6 H => ?_)
      exact b_X12_isAhead_50  H
    · have H := H.2 (c)
      refine a_bipush (v := (9 : Int32)) (by decide) dX12_isAhead_35 ?_
      refine a_goto (tgt := 50) dX12_isAhead_37 (by decide) ?_
      exact b_X12_isAhead_50  H
  · have H := H.2 (c)
    refine a_aload_n 0 rfl rfl dX12_isAhead_6 ?_
    refine r_gR fo_RX12_29_12 dX12_isAhead_7 H (fun a7 H => ?_)
    refine a_iload_n 1 rfl rfl dX12_isAhead_10 ?_
    refine r_lI dX12_isAhead_11 H (fun x8 H => ?_)
    refine a_aload_n 0 rfl rfl dX12_isAhead_12 ?_
    refine r_gR fo_RX12_29_12 dX12_isAhead_13 H (fun a9 H => ?_)
    refine a_iload_n 2 rfl rfl dX12_isAhead_16 ?_
    refine r_lI dX12_isAhead_17 H (fun x10 H => ?_)
    refine a_icmp_le (tgt := 25) dX12_isAhead_18 (by decide) (fun c => ?_) (fun c => ?_)
    · have H := H.1 (c)
      refine a_iconst (v := (0 : Int32)) (by decide) dX12_isAhead_25 ?_
      exact r_retz rfl bl_0 dX12_isAhead_26 H
    · have H := H.2 (c)
      refine a_iconst (v := (1 : Int32)) (by decide) dX12_isAhead_21 ?_
      refine a_goto (tgt := 26) dX12_isAhead_22 (by decide) ?_
      exact r_retz rfl bl_1 dX12_isAhead_26 H
def B_X12_taken_6 (Q : Int32 → AH → Prop) (K6 : Int32 → Int32 → AH → Prop) (v0 : Nat) (v1 : Int32) (v2 : Int32) (v3 : Int32) (v4 : Int32) (h : AH) : Prop :=
  gI h v0 12 10 (fun x1 => ((x1 ≤ v4 → Q v3 h) ∧ (¬ (x1 ≤ v4) → gR h v0 12 36 (fun a2 => lI h a2 v4 (fun x3 => ((¬ (x3 = v1) → K6 v3 (v4 + 1) h) ∧ (x3 = v1 → ((v3 = (-9 : Int32) → K6 v4 (v4 + 1) h) ∧ (¬ (v3 = (-9 : Int32)) → isO h v0 12 ∧ f_X12_isAhead v0 v4 v3 v1 v2 h (fun x4 h5 => ((x4 = 0 → K6 v3 (v4 + 1) h5) ∧ (¬ (x4 = 0) → K6 v4 (v4 + 1) h5))))))))))))
set_option maxRecDepth 100000 in
set_option maxHeartbeats 4000000 in
theorem b_X12_taken_6 {o : Om} {Q : Int32 → AH → Prop} {K6 : Int32 → Int32 → AH → Prop} {v0 : Nat} {v1 : Int32} {v2 : Int32} {v3 : Int32} {v4 : Int32} {h : AH} (hK6 : ∀ w3 w4 h, K6 w3 w4 h → AQ o kX12_taken h 6 [(0, .ref v0), (1, .int v1), (2, .int v2), (3, .int w3), (4, .int w4)] [] (qI Q)) (H : B_X12_taken_6 Q K6 v0 v1 v2 v3 v4 h) : AQ o kX12_taken h 6 [(0, .ref v0), (1, .int v1), (2, .int v2), (3, .int v3), (4, .int v4)] [] (qI Q) := by
  refine a_iload 4 rfl dX12_taken_6 ?_
  refine a_aload_n 0 rfl rfl dX12_taken_8 ?_
  refine r_gI fo_RX12_178_12 dX12_taken_9 H (fun x1 H => ?_)
  refine a_icmp_ge (tgt := 53) dX12_taken_12 (by decide) (fun c => ?_) (fun c => ?_)
  · have H := H.1 (c)
    refine a_iload_n 3 rfl rfl dX12_taken_53 ?_
    exact r_reti rfl dX12_taken_54 H
  · have H := H.2 (c)
    refine a_aload_n 0 rfl rfl dX12_taken_15 ?_
    refine r_gR fo_RX12_80_12 dX12_taken_16 H (fun a2 H => ?_)
    refine a_iload 4 rfl dX12_taken_19 ?_
    refine r_lI dX12_taken_21 H (fun x3 H => ?_)
    refine a_iload_n 1 rfl rfl dX12_taken_22 ?_
    refine a_icmp_ne (tgt := 47) dX12_taken_23 (by decide) (fun c => ?_) (fun c => ?_)
    · have H := H.1 (c)
      refine a_iinc (v := v4 + 1) (lv1 := [(0, .ref v0), (1, .int v1), (2, .int v2), (3, .int v3), (4, .int (v4 + 1))]) [1, 2, 3, 4, 0] 4 rfl (by decide) rfl rfl dX12_taken_47 ?_
      refine a_goto (tgt := 6) dX12_taken_50 (by decide) ?_
      exact hK6 _ _ _ H
    · have H := H.2 (c)
      refine a_iload_n 3 rfl rfl dX12_taken_26 ?_
      refine a_bipush (v := (-9 : Int32)) (by decide) dX12_taken_27 ?_
      refine a_icmp_eq (tgt := 44) dX12_taken_29 (by decide) (fun c => ?_) (fun c => ?_)
      · have H := H.1 (c)
        refine a_iload 4 rfl dX12_taken_44 ?_
        refine a_istore_n (lv1 := [(0, .ref v0), (1, .int v1), (2, .int v2), (3, .int v4), (4, .int v4)]) rfl [1, 2, 3, 0, 4] (by decide) rfl dX12_taken_46 ?_
        refine a_iinc (v := v4 + 1) (lv1 := [(0, .ref v0), (1, .int v1), (2, .int v2), (3, .int v4), (4, .int (v4 + 1))]) [1, 2, 3, 4, 0] 4 rfl (by decide) rfl rfl dX12_taken_47 ?_
        refine a_goto (tgt := 6) dX12_taken_50 (by decide) ?_
        exact hK6 _ _ _ H
      · have H := H.2 (c)
        refine a_aload_n 0 rfl rfl dX12_taken_32 ?_
        refine a_iload 4 rfl dX12_taken_33 ?_
        refine a_iload_n 3 rfl rfl dX12_taken_35 ?_
        refine a_iload_n 1 rfl rfl dX12_taken_36 ?_
        refine a_iload_n 2 rfl rfl dX12_taken_37 ?_
        refine r_Vi (q := (RX12, TX12, 51)) (av := [.int v4, .int v3, .int v1, .int v2]) (rest := []) rfl rfl okX12_isAhead H.1 rfl rfl wd1323 wd1325 wp48 ⟨Nat.le_of_ble_eq_true rfl, Nat.le_of_ble_eq_true rfl⟩ (Nat.le_of_ble_eq_true rfl) dX12_taken_38 (s_X12_isAhead H.2) (fun x4 h5 H => ?_)
        refine a_if_eq (tgt := 47) dX12_taken_41 (by decide) (fun c => ?_) (fun c => ?_)
        · have H := H.1 (c)
          refine a_iinc (v := v4 + 1) (lv1 := [(0, .ref v0), (1, .int v1), (2, .int v2), (3, .int v3), (4, .int (v4 + 1))]) [1, 2, 3, 4, 0] 4 rfl (by decide) rfl rfl dX12_taken_47 ?_
          refine a_goto (tgt := 6) dX12_taken_50 (by decide) ?_
          exact hK6 _ _ _ H
        · have H := H.2 (c)
          refine a_iload 4 rfl dX12_taken_44 ?_
          refine a_istore_n (lv1 := [(0, .ref v0), (1, .int v1), (2, .int v2), (3, .int v4), (4, .int v4)]) rfl [1, 2, 3, 0, 4] (by decide) rfl dX12_taken_46 ?_
          refine a_iinc (v := v4 + 1) (lv1 := [(0, .ref v0), (1, .int v1), (2, .int v2), (3, .int v4), (4, .int (v4 + 1))]) [1, 2, 3, 4, 0] 4 rfl (by decide) rfl rfl dX12_taken_47 ?_
          refine a_goto (tgt := 6) dX12_taken_50 (by decide) ?_
          exact hK6 _ _ _ H
def L_X12_taken_6 (Q : Int32 → AH → Prop)  (v0 : Nat) (v1 : Int32) (v2 : Int32) : Nat → Int32 → Int32 → AH → Prop
  | 0, _, _, _ => False
  | n + 1, v3, v4, h => B_X12_taken_6 Q (L_X12_taken_6 Q  v0 v1 v2 n) v0 v1 v2 v3 v4 h
theorem l_X12_taken_6 {o : Om} {Q : Int32 → AH → Prop}  {v0 : Nat} {v1 : Int32} {v2 : Int32}  : ∀ (n : Nat) (v3 : Int32) (v4 : Int32) (h : AH), L_X12_taken_6 Q  v0 v1 v2 n v3 v4 h → AQ o kX12_taken h 6 [(0, .ref v0), (1, .int v1), (2, .int v2), (3, .int v3), (4, .int v4)] [] (qI Q) := by
  intro n
  induction n with
  | zero => intro v3 v4 h H; exact H.elim
  | succ n ih => intro v3 v4 h H; exact b_X12_taken_6 ih H
def f_X12_taken (v0 : Nat) (v1 : Int32) (v2 : Int32) (h : AH) (Q : Int32 → AH → Prop) : Prop :=
  ∃ n, L_X12_taken_6 Q  v0 v1 v2 n (-9 : Int32) (0 : Int32) h
set_option maxRecDepth 100000 in
set_option maxHeartbeats 4000000 in
theorem s_X12_taken {o : Om} {v0 : Nat} {v1 : Int32} {v2 : Int32} {h : AH} {Q : Int32 → AH → Prop} (H : f_X12_taken v0 v1 v2 h Q) : MQ' o kX12_taken [.ref v0, .int v1, .int v2] h (qI Q) := by
  refine MQ'.of (by decide +kernel) (Nat.le_of_ble_eq_true rfl) ?_
  show AQ o kX12_taken h 0 [(0, .ref v0), (1, .int v1), (2, .int v2)] [] (qI Q)
  refine a_bipush (v := (-9 : Int32)) (by decide) dX12_taken_0 ?_
  refine a_istore_n (lv1 := [(0, .ref v0), (1, .int v1), (2, .int v2), (3, .int (-9 : Int32))]) rfl [1, 2, 3, 0] (by decide) rfl dX12_taken_2 ?_
  refine a_iconst (v := (0 : Int32)) (by decide) dX12_taken_3 ?_
  refine a_istore (lv1 := [(0, .ref v0), (1, .int v1), (2, .int v2), (3, .int (-9 : Int32)), (4, .int (0 : Int32))]) [1, 2, 3, 4, 0] (by decide) rfl dX12_taken_4 ?_
  obtain ⟨n, H⟩ := H
  exact l_X12_taken_6  n _ _ _ H
