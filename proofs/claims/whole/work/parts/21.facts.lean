theorem inG0 : ∀ w ∈ u_ws RX0 TX0 2, w ∈ GW := GW_places [529, 530] (by decide +kernel) (by decide +kernel)
def dfX0 : List Value := [.int 0, .int 0]
theorem dfX0_ok : ∀ (o : Om) (j : Nat), j < 2 → defaultValue (tyX0 j) = vp_V (dfX0.map (asv o)) j := by
  intro o j hj
  match j, hj with
  | 0, _ => rfl
  | 1, _ => rfl
  | n + 2, hj => exact absurd hj (by omega)
theorem inG1 : ∀ w ∈ u_ws RX1 TX1 2, w ∈ GW := GW_places [518, 520] (by decide +kernel) (by decide +kernel)
def dfX1 : List Value := [.int 0, .int 0]
theorem dfX1_ok : ∀ (o : Om) (j : Nat), j < 2 → defaultValue (tyX1 j) = vp_V (dfX1.map (asv o)) j := by
  intro o j hj
  match j, hj with
  | 0, _ => rfl
  | 1, _ => rfl
  | n + 2, hj => exact absurd hj (by omega)
theorem inG2 : ∀ w ∈ u_ws RX2 TX2 2, w ∈ GW := GW_places [538, 539] (by decide +kernel) (by decide +kernel)
def dfX2 : List Value := [.int 0, .int 0]
theorem dfX2_ok : ∀ (o : Om) (j : Nat), j < 2 → defaultValue (tyX2 j) = vp_V (dfX2.map (asv o)) j := by
  intro o j hj
  match j, hj with
  | 0, _ => rfl
  | 1, _ => rfl
  | n + 2, hj => exact absurd hj (by omega)
theorem inG3 : ∀ w ∈ u_ws RX3 TX3 2, w ∈ GW := GW_places [556, 557] (by decide +kernel) (by decide +kernel)
def dfX3 : List Value := [.int 0, .int 0]
theorem dfX3_ok : ∀ (o : Om) (j : Nat), j < 2 → defaultValue (tyX3 j) = vp_V (dfX3.map (asv o)) j := by
  intro o j hj
  match j, hj with
  | 0, _ => rfl
  | 1, _ => rfl
  | n + 2, hj => exact absurd hj (by omega)
theorem inG4 : ∀ w ∈ u_ws RX4 TX4 3, w ∈ GW := GW_places [421, 423, 425] (by decide +kernel) (by decide +kernel)
def dfX4 : List Value := [.null, .null, .int 0]
theorem dfX4_ok : ∀ (o : Om) (j : Nat), j < 3 → defaultValue (tyX4 j) = vp_V (dfX4.map (asv o)) j := by
  intro o j hj
  match j, hj with
  | 0, _ => rfl
  | 1, _ => rfl
  | 2, _ => rfl
  | n + 3, hj => exact absurd hj (by omega)
theorem inG5 : ∀ w ∈ u_ws RX5 TX5 10, w ∈ GW := GW_places [126, 128, 130, 132, 134, 136, 138, 140, 142, 144] (by decide +kernel) (by decide +kernel)
def dfX5 : List Value := [.null, .null, .null, .null, .int 0, .int 0, .int 0, .int 0, .int 0, .int 0]
theorem dfX5_ok : ∀ (o : Om) (j : Nat), j < 10 → defaultValue (tyX5 j) = vp_V (dfX5.map (asv o)) j := by
  intro o j hj
  match j, hj with
  | 0, _ => rfl
  | 1, _ => rfl
  | 2, _ => rfl
  | 3, _ => rfl
  | 4, _ => rfl
  | 5, _ => rfl
  | 6, _ => rfl
  | 7, _ => rfl
  | 8, _ => rfl
  | 9, _ => rfl
  | n + 10, hj => exact absurd hj (by omega)
theorem inG6 : ∀ w ∈ u_ws RX6 TX6 2, w ∈ GW := GW_places [262, 264] (by decide +kernel) (by decide +kernel)
def dfX6 : List Value := [.null, .int 0]
theorem dfX6_ok : ∀ (o : Om) (j : Nat), j < 2 → defaultValue (tyX6 j) = vp_V (dfX6.map (asv o)) j := by
  intro o j hj
  match j, hj with
  | 0, _ => rfl
  | 1, _ => rfl
  | n + 2, hj => exact absurd hj (by omega)
theorem inG7 : ∀ w ∈ u_ws RX7 TX7 17, w ∈ GW := GW_places [216, 218, 220, 222, 224, 226, 228, 230, 232, 234, 236, 238, 240, 242, 244, 246, 248] (by decide +kernel) (by decide +kernel)
def dfX7 : List Value := [.null, .null, .null, .null, .null, .int 0, .int 0, .int 0, .null, .null, .null, .int 0, .int 0, .int 0, .int 0, .int 0, .int 0]
theorem dfX7_ok : ∀ (o : Om) (j : Nat), j < 17 → defaultValue (tyX7 j) = vp_V (dfX7.map (asv o)) j := by
  intro o j hj
  match j, hj with
  | 0, _ => rfl
  | 1, _ => rfl
  | 2, _ => rfl
  | 3, _ => rfl
  | 4, _ => rfl
  | 5, _ => rfl
  | 6, _ => rfl
  | 7, _ => rfl
  | 8, _ => rfl
  | 9, _ => rfl
  | 10, _ => rfl
  | 11, _ => rfl
  | 12, _ => rfl
  | 13, _ => rfl
  | 14, _ => rfl
  | 15, _ => rfl
  | 16, _ => rfl
  | n + 17, hj => exact absurd hj (by omega)
theorem inG8 : ∀ w ∈ u_ws RX8 TX8 2, w ∈ GW := GW_places [547, 548] (by decide +kernel) (by decide +kernel)
def dfX8 : List Value := [.int 0, .int 0]
theorem dfX8_ok : ∀ (o : Om) (j : Nat), j < 2 → defaultValue (tyX8 j) = vp_V (dfX8.map (asv o)) j := by
  intro o j hj
  match j, hj with
  | 0, _ => rfl
  | 1, _ => rfl
  | n + 2, hj => exact absurd hj (by omega)
theorem inG9 : ∀ w ∈ u_ws RX9 TX9 8, w ∈ GW := GW_places [170, 172, 174, 176, 178, 180, 182, 184] (by decide +kernel) (by decide +kernel)
def dfX9 : List Value := [.null, .int 0, .int 0, .int 0, .int 0, .int 0, .int 0, .int 0]
theorem dfX9_ok : ∀ (o : Om) (j : Nat), j < 8 → defaultValue (tyX9 j) = vp_V (dfX9.map (asv o)) j := by
  intro o j hj
  match j, hj with
  | 0, _ => rfl
  | 1, _ => rfl
  | 2, _ => rfl
  | 3, _ => rfl
  | 4, _ => rfl
  | 5, _ => rfl
  | 6, _ => rfl
  | 7, _ => rfl
  | n + 8, hj => exact absurd hj (by omega)
theorem inG10 : ∀ w ∈ u_ws RX10 TX10 2, w ∈ GW := GW_places [562, 563] (by decide +kernel) (by decide +kernel)
def dfX10 : List Value := [.int 0, .int 0]
theorem dfX10_ok : ∀ (o : Om) (j : Nat), j < 2 → defaultValue (tyX10 j) = vp_V (dfX10.map (asv o)) j := by
  intro o j hj
  match j, hj with
  | 0, _ => rfl
  | 1, _ => rfl
  | n + 2, hj => exact absurd hj (by omega)
theorem inG11 : ∀ w ∈ u_ws RX11 TX11 16, w ∈ GW := GW_places [286, 288, 290, 292, 294, 296, 298, 300, 302, 304, 306, 308, 310, 312, 314, 316] (by decide +kernel) (by decide +kernel)
def dfX11 : List Value := [.null, .null, .null, .null, .null, .null, .null, .null, .null, .int 0, .int 0, .int 0, .int 0, .long 0, .long 0, .int 0]
theorem dfX11_ok : ∀ (o : Om) (j : Nat), j < 16 → defaultValue (tyX11 j) = vp_V (dfX11.map (asv o)) j := by
  intro o j hj
  match j, hj with
  | 0, _ => rfl
  | 1, _ => rfl
  | 2, _ => rfl
  | 3, _ => rfl
  | 4, _ => rfl
  | 5, _ => rfl
  | 6, _ => rfl
  | 7, _ => rfl
  | 8, _ => rfl
  | 9, _ => rfl
  | 10, _ => rfl
  | 11, _ => rfl
  | 12, _ => rfl
  | 13, _ => rfl
  | 14, _ => rfl
  | 15, _ => rfl
  | n + 16, hj => exact absurd hj (by omega)
theorem inG12 : ∀ w ∈ u_ws RX12 TX12 51, w ∈ GW := GW_places [1142, 1144, 1146, 1148, 1150, 1152, 1154, 1156, 1158, 1160, 1162, 1164, 1166, 1168, 1170, 1172, 1174, 1176, 1178, 1180, 1182, 1184, 1186, 1188, 1190, 1192, 1194, 1196, 1198, 1200, 1202, 1204, 1206, 1208, 1210, 1212, 1214, 1216, 1218, 1220, 1222, 1224, 1226, 1228, 1230, 1232, 1234, 1236, 1238, 1240, 1242] (by decide +kernel) (by decide +kernel)
def dfX12 : List Value := [.null, .null, .null, .null, .int 0, .long 0, .long 0, .int 0, .null, .int 0, .int 0, .null, .int 0, .null, .null, .null, .int 0, .int 0, .null, .null, .int 0, .null, .null, .null, .null, .null, .null, .int 0, .int 0, .int 0, .int 0, .null, .null, .null, .null, .null, .null, .null, .int 0, .int 0, .null, .int 0, .null, .null, .null, .int 0, .int 0, .int 0, .int 0, .int 0, .int 0]
theorem dfX12_ok : ∀ (o : Om) (j : Nat), j < 51 → defaultValue (tyX12 j) = vp_V (dfX12.map (asv o)) j := by
  intro o j hj
  match j, hj with
  | 0, _ => rfl
  | 1, _ => rfl
  | 2, _ => rfl
  | 3, _ => rfl
  | 4, _ => rfl
  | 5, _ => rfl
  | 6, _ => rfl
  | 7, _ => rfl
  | 8, _ => rfl
  | 9, _ => rfl
  | 10, _ => rfl
  | 11, _ => rfl
  | 12, _ => rfl
  | 13, _ => rfl
  | 14, _ => rfl
  | 15, _ => rfl
  | 16, _ => rfl
  | 17, _ => rfl
  | 18, _ => rfl
  | 19, _ => rfl
  | 20, _ => rfl
  | 21, _ => rfl
  | 22, _ => rfl
  | 23, _ => rfl
  | 24, _ => rfl
  | 25, _ => rfl
  | 26, _ => rfl
  | 27, _ => rfl
  | 28, _ => rfl
  | 29, _ => rfl
  | 30, _ => rfl
  | 31, _ => rfl
  | 32, _ => rfl
  | 33, _ => rfl
  | 34, _ => rfl
  | 35, _ => rfl
  | 36, _ => rfl
  | 37, _ => rfl
  | 38, _ => rfl
  | 39, _ => rfl
  | 40, _ => rfl
  | 41, _ => rfl
  | 42, _ => rfl
  | 43, _ => rfl
  | 44, _ => rfl
  | 45, _ => rfl
  | 46, _ => rfl
  | 47, _ => rfl
  | 48, _ => rfl
  | 49, _ => rfl
  | 50, _ => rfl
  | n + 51, hj => exact absurd hj (by omega)
theorem fo_RX11_28_11 : Fok RX11 28 11 4 := ⟨RX11, TX11, 16, "MilestonesOn", rfl, by decide, inG11, wd208, Or.inl rfl⟩
theorem fo_RX11_20_11 : Fok RX11 20 11 2 := ⟨RX11, TX11, 16, "MilestonesOn", rfl, by decide, inG11, wd206, Or.inl rfl⟩
theorem fo_RX11_60_11 : Fok RX11 60 11 8 := ⟨RX11, TX11, 16, "MilestonesOn", rfl, by decide, inG11, wd212, Or.inl rfl⟩
theorem fo_RX11_15_11 : Fok RX11 15 11 1 := ⟨RX11, TX11, 16, "MilestonesOn", rfl, by decide, inG11, wd205, Or.inl rfl⟩
theorem fo_RX11_11_11 : Fok RX11 11 11 0 := ⟨RX11, TX11, 16, "MilestonesOn", rfl, by decide, inG11, wd204, Or.inl rfl⟩
theorem fo_RX12_59_12 : Fok RX12 59 12 25 := ⟨RX12, TX12, 51, "MilestonesOnModel", rfl, by decide, inG12, wd1050, Or.inl rfl⟩
theorem fo_RX12_16_12 : Fok RX12 16 12 2 := ⟨RX12, TX12, 51, "MilestonesOnModel", rfl, by decide, inG12, wd1027, Or.inl rfl⟩
theorem fo_RX12_7_12 : Fok RX12 7 12 0 := ⟨RX12, TX12, 51, "MilestonesOnModel", rfl, by decide, inG12, wd1025, Or.inl rfl⟩
theorem fo_RX11_31_11 : Fok RX11 31 11 5 := ⟨RX11, TX11, 16, "MilestonesOn", rfl, by decide, inG11, wd209, Or.inl rfl⟩
theorem fo_RX6_9_6 : Fok RX6 9 6 0 := ⟨RX6, TX6, 2, "MilestonesOn$Row", rfl, by decide, inG6, wd190, Or.inl rfl⟩
theorem fo_RX12_26_12 : Fok RX12 26 12 8 := ⟨RX12, TX12, 51, "MilestonesOnModel", rfl, by decide, inG12, wd1033, Or.inl rfl⟩
theorem fo_RX12_13_12 : Fok RX12 13 12 1 := ⟨RX12, TX12, 51, "MilestonesOnModel", rfl, by decide, inG12, wd1026, Or.inl rfl⟩
theorem fo_RX6_15_6 : Fok RX6 15 6 1 := ⟨RX6, TX6, 2, "MilestonesOn$Row", rfl, by decide, inG6, wd192, Or.inl rfl⟩
theorem fo_RX11_121_6 : Fok RX11 121 6 0 := ⟨RX6, TX6, 2, "MilestonesOn$Row", rfl, by decide, inG6, wd191, Or.inl rfl⟩
theorem fo_RX11_130_6 : Fok RX11 130 6 1 := ⟨RX6, TX6, 2, "MilestonesOn$Row", rfl, by decide, inG6, wd194, Or.inl rfl⟩
theorem fo_RX12_19_12 : Fok RX12 19 12 3 := ⟨RX12, TX12, 51, "MilestonesOnModel", rfl, by decide, inG12, wd1028, Or.inl rfl⟩
theorem fo_RX4_18_4 : Fok RX4 18 4 2 := ⟨RX4, TX4, 3, "MilestonesOn$Reader", rfl, by decide, inG4, wd354, Or.inl rfl⟩
theorem fo_RX4_22_4 : Fok RX4 22 4 1 := ⟨RX4, TX4, 3, "MilestonesOn$Reader", rfl, by decide, inG4, wd353, Or.inl rfl⟩
theorem fo_RX4_53_6 : Fok RX4 53 6 1 := ⟨RX6, TX6, 2, "MilestonesOn$Row", rfl, by decide, inG6, wd193, Or.inl rfl⟩
theorem fo_RX4_12_4 : Fok RX4 12 4 0 := ⟨RX4, TX4, 3, "MilestonesOn$Reader", rfl, by decide, inG4, wd351, Or.inl rfl⟩
theorem fo_RX5_31_5 : Fok RX5 31 5 5 := ⟨RX5, TX5, 10, "MilestonesOn$Road", rfl, by decide, inG5, wd47, Or.inl rfl⟩
theorem fo_RX5_11_5 : Fok RX5 11 5 0 := ⟨RX5, TX5, 10, "MilestonesOn$Road", rfl, by decide, inG5, wd37, Or.inl rfl⟩
theorem fo_RX5_40_5 : Fok RX5 40 5 8 := ⟨RX5, TX5, 10, "MilestonesOn$Road", rfl, by decide, inG5, wd58, Or.inl rfl⟩
theorem fo_RX5_43_5 : Fok RX5 43 5 9 := ⟨RX5, TX5, 10, "MilestonesOn$Road", rfl, by decide, inG5, wd59, Or.inl rfl⟩
theorem fo_RX5_18_5 : Fok RX5 18 5 2 := ⟨RX5, TX5, 10, "MilestonesOn$Road", rfl, by decide, inG5, wd42, Or.inl rfl⟩
theorem fo_RX5_15_5 : Fok RX5 15 5 1 := ⟨RX5, TX5, 10, "MilestonesOn$Road", rfl, by decide, inG5, wd40, Or.inl rfl⟩
theorem fo_RX5_37_5 : Fok RX5 37 5 7 := ⟨RX5, TX5, 10, "MilestonesOn$Road", rfl, by decide, inG5, wd56, Or.inl rfl⟩
theorem fo_RX5_27_5 : Fok RX5 27 5 4 := ⟨RX5, TX5, 10, "MilestonesOn$Road", rfl, by decide, inG5, wd44, Or.inl rfl⟩
theorem fo_RX4_66_5 : Fok RX4 66 5 6 := ⟨RX5, TX5, 10, "MilestonesOn$Road", rfl, by decide, inG5, wd54, Or.inl rfl⟩
theorem fo_RX4_69_5 : Fok RX4 69 5 5 := ⟨RX5, TX5, 10, "MilestonesOn$Road", rfl, by decide, inG5, wd50, Or.inl rfl⟩
theorem fo_RX4_63_5 : Fok RX4 63 5 4 := ⟨RX5, TX5, 10, "MilestonesOn$Road", rfl, by decide, inG5, wd45, Or.inl rfl⟩
theorem fo_RX5_34_5 : Fok RX5 34 5 6 := ⟨RX5, TX5, 10, "MilestonesOn$Road", rfl, by decide, inG5, wd52, Or.inl rfl⟩
theorem fo_RX5_23_5 : Fok RX5 23 5 3 := ⟨RX5, TX5, 10, "MilestonesOn$Road", rfl, by decide, inG5, wd43, Or.inl rfl⟩
theorem fo_RX12_137_12 : Fok RX12 137 12 27 := ⟨RX12, TX12, 51, "MilestonesOnModel", rfl, by decide, inG12, wd1052, Or.inl rfl⟩
theorem fo_RX12_143_12 : Fok RX12 143 12 29 := ⟨RX12, TX12, 51, "MilestonesOnModel", rfl, by decide, inG12, wd1054, Or.inl rfl⟩
theorem fo_RX12_65_12 : Fok RX12 65 12 31 := ⟨RX12, TX12, 51, "MilestonesOnModel", rfl, by decide, inG12, wd1056, Or.inl rfl⟩
theorem fo_RX12_68_12 : Fok RX12 68 12 32 := ⟨RX12, TX12, 51, "MilestonesOnModel", rfl, by decide, inG12, wd1057, Or.inl rfl⟩
theorem fo_RX12_153_12 : Fok RX12 153 12 28 := ⟨RX12, TX12, 51, "MilestonesOnModel", rfl, by decide, inG12, wd1053, Or.inl rfl⟩
theorem fo_RX12_146_12 : Fok RX12 146 12 30 := ⟨RX12, TX12, 51, "MilestonesOnModel", rfl, by decide, inG12, wd1055, Or.inl rfl⟩
theorem fo_RX12_71_12 : Fok RX12 71 12 33 := ⟨RX12, TX12, 51, "MilestonesOnModel", rfl, by decide, inG12, wd1058, Or.inl rfl⟩
theorem fo_RX12_74_12 : Fok RX12 74 12 34 := ⟨RX12, TX12, 51, "MilestonesOnModel", rfl, by decide, inG12, wd1059, Or.inl rfl⟩
theorem fo_RX12_77_12 : Fok RX12 77 12 35 := ⟨RX12, TX12, 51, "MilestonesOnModel", rfl, by decide, inG12, wd1060, Or.inl rfl⟩
theorem fo_RX11_142_4 : Fok RX11 142 4 0 := ⟨RX4, TX4, 3, "MilestonesOn$Reader", rfl, by decide, inG4, wd352, Or.inl rfl⟩
theorem fo_RX11_143_5 : Fok RX11 143 5 7 := ⟨RX5, TX5, 10, "MilestonesOn$Road", rfl, by decide, inG5, wd57, Or.inl rfl⟩
theorem fo_RX11_146_5 : Fok RX11 146 5 5 := ⟨RX5, TX5, 10, "MilestonesOn$Road", rfl, by decide, inG5, wd51, Or.inl rfl⟩
theorem fo_RX12_41_12 : Fok RX12 41 12 18 := ⟨RX12, TX12, 51, "MilestonesOnModel", rfl, by decide, inG12, wd1043, Or.inl rfl⟩
theorem fo_RX12_44_12 : Fok RX12 44 12 19 := ⟨RX12, TX12, 51, "MilestonesOnModel", rfl, by decide, inG12, wd1044, Or.inl rfl⟩
theorem fo_RX12_32_12 : Fok RX12 32 12 13 := ⟨RX12, TX12, 51, "MilestonesOnModel", rfl, by decide, inG12, wd1038, Or.inl rfl⟩
theorem fo_RX12_35_12 : Fok RX12 35 12 14 := ⟨RX12, TX12, 51, "MilestonesOnModel", rfl, by decide, inG12, wd1039, Or.inl rfl⟩
theorem fo_RX12_38_12 : Fok RX12 38 12 15 := ⟨RX12, TX12, 51, "MilestonesOnModel", rfl, by decide, inG12, wd1040, Or.inl rfl⟩
theorem fo_RX12_178_12 : Fok RX12 178 12 10 := ⟨RX12, TX12, 51, "MilestonesOnModel", rfl, by decide, inG12, wd1035, Or.inl rfl⟩
theorem fo_RX12_29_12 : Fok RX12 29 12 11 := ⟨RX12, TX12, 51, "MilestonesOnModel", rfl, by decide, inG12, wd1036, Or.inl rfl⟩
theorem fo_RX12_184_12 : Fok RX12 184 12 17 := ⟨RX12, TX12, 51, "MilestonesOnModel", rfl, by decide, inG12, wd1042, Or.inl rfl⟩
theorem fo_RX9_30_9 : Fok RX9 30 9 7 := ⟨RX9, TX9, 8, "MilestonesOn$Trip", rfl, by decide, inG9, wd103, Or.inl rfl⟩
theorem fo_RX11_41_11 : Fok RX11 41 11 11 := ⟨RX11, TX11, 16, "MilestonesOn", rfl, by decide, inG11, wd215, Or.inl rfl⟩
theorem fo_RX11_318_5 : Fok RX11 318 5 0 := ⟨RX5, TX5, 10, "MilestonesOn$Road", rfl, by decide, inG5, wd39, Or.inl rfl⟩
theorem fo_RX11_34_11 : Fok RX11 34 11 9 := ⟨RX11, TX11, 16, "MilestonesOn", rfl, by decide, inG11, wd213, Or.inl rfl⟩
theorem fo_RX11_321_5 : Fok RX11 321 5 1 := ⟨RX5, TX5, 10, "MilestonesOn$Road", rfl, by decide, inG5, wd41, Or.inl rfl⟩
theorem fo_RX12_175_12 : Fok RX12 175 12 9 := ⟨RX12, TX12, 51, "MilestonesOnModel", rfl, by decide, inG12, wd1034, Or.inl rfl⟩
theorem fo_RX11_307_9 : Fok RX11 307 9 4 := ⟨RX9, TX9, 8, "MilestonesOn$Trip", rfl, by decide, inG9, wd97, Or.inl rfl⟩
theorem fo_RX11_183_9 : Fok RX11 183 9 5 := ⟨RX9, TX9, 8, "MilestonesOn$Trip", rfl, by decide, inG9, wd99, Or.inl rfl⟩
theorem fo_RX11_333_0 : Fok RX11 333 0 0 := ⟨RX0, TX0, 2, "MilestonesOn$Walker", rfl, by decide, inG0, wd439, Or.inl rfl⟩
theorem fo_RX11_333_1 : Fok RX11 333 1 0 := ⟨RX1, TX1, 2, "MilestonesOn$Walker", rfl, by decide, inG1, wd439, Or.inl rfl⟩
theorem fo_RX11_333_2 : Fok RX11 333 2 0 := ⟨RX2, TX2, 2, "MilestonesOn$Walker", rfl, by decide, inG2, wd439, Or.inl rfl⟩
theorem fo_RX11_333_3 : Fok RX11 333 3 0 := ⟨RX3, TX3, 2, "MilestonesOn$Walker", rfl, by decide, inG3, wd439, Or.inl rfl⟩
theorem fo_RX11_333_8 : Fok RX11 333 8 0 := ⟨RX8, TX8, 2, "MilestonesOn$Walker", rfl, by decide, inG8, wd439, Or.inl rfl⟩
theorem fo_RX11_333_10 : Fok RX11 333 10 0 := ⟨RX10, TX10, 2, "MilestonesOn$Walker", rfl, by decide, inG10, wd439, Or.inl rfl⟩
theorem fw_RX11_333 : ∀ ci ∈ wkl, Fok RX11 333 ci 0 := by
  intro ci h
  have e : ci = 0 ∨ ci = 1 ∨ ci = 2 ∨ ci = 3 ∨ ci = 8 ∨ ci = 10 := by simpa [wkl] using h
  rcases e with rfl | rfl | rfl | rfl | rfl | rfl
  · exact fo_RX11_333_0
  · exact fo_RX11_333_1
  · exact fo_RX11_333_2
  · exact fo_RX11_333_3
  · exact fo_RX11_333_8
  · exact fo_RX11_333_10
theorem fo_RX11_334_0 : Fok RX11 334 0 1 := ⟨RX0, TX0, 2, "MilestonesOn$Walker", rfl, by decide, inG0, wd451, Or.inl rfl⟩
theorem fo_RX11_334_1 : Fok RX11 334 1 1 := ⟨RX1, TX1, 2, "MilestonesOn$Walker", rfl, by decide, inG1, wd451, Or.inl rfl⟩
theorem fo_RX11_334_2 : Fok RX11 334 2 1 := ⟨RX2, TX2, 2, "MilestonesOn$Walker", rfl, by decide, inG2, wd451, Or.inl rfl⟩
theorem fo_RX11_334_3 : Fok RX11 334 3 1 := ⟨RX3, TX3, 2, "MilestonesOn$Walker", rfl, by decide, inG3, wd451, Or.inl rfl⟩
theorem fo_RX11_334_8 : Fok RX11 334 8 1 := ⟨RX8, TX8, 2, "MilestonesOn$Walker", rfl, by decide, inG8, wd451, Or.inl rfl⟩
theorem fo_RX11_334_10 : Fok RX11 334 10 1 := ⟨RX10, TX10, 2, "MilestonesOn$Walker", rfl, by decide, inG10, wd451, Or.inl rfl⟩
theorem fw_RX11_334 : ∀ ci ∈ wkl, Fok RX11 334 ci 1 := by
  intro ci h
  have e : ci = 0 ∨ ci = 1 ∨ ci = 2 ∨ ci = 3 ∨ ci = 8 ∨ ci = 10 := by simpa [wkl] using h
  rcases e with rfl | rfl | rfl | rfl | rfl | rfl
  · exact fo_RX11_334_0
  · exact fo_RX11_334_1
  · exact fo_RX11_334_2
  · exact fo_RX11_334_3
  · exact fo_RX11_334_8
  · exact fo_RX11_334_10
theorem fo_RX11_153_5 : Fok RX11 153 5 6 := ⟨RX5, TX5, 10, "MilestonesOn$Road", rfl, by decide, inG5, wd55, Or.inl rfl⟩
theorem fo_RX12_181_12 : Fok RX12 181 12 12 := ⟨RX12, TX12, 51, "MilestonesOnModel", rfl, by decide, inG12, wd1037, Or.inl rfl⟩
theorem fo_RX9_33_9 : Fok RX9 33 9 0 := ⟨RX9, TX9, 8, "MilestonesOn$Trip", rfl, by decide, inG9, wd87, Or.inl rfl⟩
theorem fo_RX9_53_5 : Fok RX9 53 5 5 := ⟨RX5, TX5, 10, "MilestonesOn$Road", rfl, by decide, inG5, wd49, Or.inl rfl⟩
theorem fo_RX9_18_9 : Fok RX9 18 9 3 := ⟨RX9, TX9, 8, "MilestonesOn$Trip", rfl, by decide, inG9, wd93, Or.inl rfl⟩
theorem fo_RX9_24_9 : Fok RX9 24 9 5 := ⟨RX9, TX9, 8, "MilestonesOn$Trip", rfl, by decide, inG9, wd98, Or.inl rfl⟩
theorem fo_RX9_56_5 : Fok RX9 56 5 0 := ⟨RX5, TX5, 10, "MilestonesOn$Road", rfl, by decide, inG5, wd38, Or.inl rfl⟩
theorem fo_RX9_27_9 : Fok RX9 27 9 6 := ⟨RX9, TX9, 8, "MilestonesOn$Trip", rfl, by decide, inG9, wd101, Or.inl rfl⟩
theorem fo_RX10_24_9 : Fok RX10 24 9 1 := ⟨RX9, TX9, 8, "MilestonesOn$Trip", rfl, by decide, inG9, wd90, Or.inl rfl⟩
theorem fo_RX0_7_0 : Fok RX0 7 0 0 := ⟨RX0, TX0, 2, "MilestonesOn$Both", rfl, by decide, inG0, wd431, Or.inr wd432⟩
theorem fo_RX0_7_1 : Fok RX0 7 1 0 := ⟨RX1, TX1, 2, "MilestonesOn$Both", rfl, by decide, inG1, wd431, Or.inr wd432⟩
theorem fo_RX0_7_2 : Fok RX0 7 2 0 := ⟨RX2, TX2, 2, "MilestonesOn$Both", rfl, by decide, inG2, wd431, Or.inr wd432⟩
theorem fo_RX0_7_3 : Fok RX0 7 3 0 := ⟨RX3, TX3, 2, "MilestonesOn$Both", rfl, by decide, inG3, wd431, Or.inr wd432⟩
theorem fo_RX0_7_8 : Fok RX0 7 8 0 := ⟨RX8, TX8, 2, "MilestonesOn$Both", rfl, by decide, inG8, wd431, Or.inr wd432⟩
theorem fo_RX0_7_10 : Fok RX0 7 10 0 := ⟨RX10, TX10, 2, "MilestonesOn$Both", rfl, by decide, inG10, wd431, Or.inr wd432⟩
theorem fw_RX0_7 : ∀ ci ∈ wkl, Fok RX0 7 ci 0 := by
  intro ci h
  have e : ci = 0 ∨ ci = 1 ∨ ci = 2 ∨ ci = 3 ∨ ci = 8 ∨ ci = 10 := by simpa [wkl] using h
  rcases e with rfl | rfl | rfl | rfl | rfl | rfl
  · exact fo_RX0_7_0
  · exact fo_RX0_7_1
  · exact fo_RX0_7_2
  · exact fo_RX0_7_3
  · exact fo_RX0_7_8
  · exact fo_RX0_7_10
theorem fo_RX0_13_0 : Fok RX0 13 0 1 := ⟨RX0, TX0, 2, "MilestonesOn$Both", rfl, by decide, inG0, wd443, Or.inr wd444⟩
theorem fo_RX0_13_1 : Fok RX0 13 1 1 := ⟨RX1, TX1, 2, "MilestonesOn$Both", rfl, by decide, inG1, wd443, Or.inr wd444⟩
theorem fo_RX0_13_2 : Fok RX0 13 2 1 := ⟨RX2, TX2, 2, "MilestonesOn$Both", rfl, by decide, inG2, wd443, Or.inr wd444⟩
theorem fo_RX0_13_3 : Fok RX0 13 3 1 := ⟨RX3, TX3, 2, "MilestonesOn$Both", rfl, by decide, inG3, wd443, Or.inr wd444⟩
theorem fo_RX0_13_8 : Fok RX0 13 8 1 := ⟨RX8, TX8, 2, "MilestonesOn$Both", rfl, by decide, inG8, wd443, Or.inr wd444⟩
theorem fo_RX0_13_10 : Fok RX0 13 10 1 := ⟨RX10, TX10, 2, "MilestonesOn$Both", rfl, by decide, inG10, wd443, Or.inr wd444⟩
theorem fw_RX0_13 : ∀ ci ∈ wkl, Fok RX0 13 ci 1 := by
  intro ci h
  have e : ci = 0 ∨ ci = 1 ∨ ci = 2 ∨ ci = 3 ∨ ci = 8 ∨ ci = 10 := by simpa [wkl] using h
  rcases e with rfl | rfl | rfl | rfl | rfl | rfl
  · exact fo_RX0_13_0
  · exact fo_RX0_13_1
  · exact fo_RX0_13_2
  · exact fo_RX0_13_3
  · exact fo_RX0_13_8
  · exact fo_RX0_13_10
theorem fo_RX9_15_9 : Fok RX9 15 9 2 := ⟨RX9, TX9, 8, "MilestonesOn$Trip", rfl, by decide, inG9, wd91, Or.inl rfl⟩
theorem fo_RX1_16_9 : Fok RX1 16 9 1 := ⟨RX9, TX9, 8, "MilestonesOn$Trip", rfl, by decide, inG9, wd89, Or.inl rfl⟩
theorem fo_RX1_7_0 : Fok RX1 7 0 0 := ⟨RX0, TX0, 2, "MilestonesOn$Cart", rfl, by decide, inG0, wd429, Or.inr wd430⟩
theorem fo_RX1_7_1 : Fok RX1 7 1 0 := ⟨RX1, TX1, 2, "MilestonesOn$Cart", rfl, by decide, inG1, wd429, Or.inr wd430⟩
theorem fo_RX1_7_2 : Fok RX1 7 2 0 := ⟨RX2, TX2, 2, "MilestonesOn$Cart", rfl, by decide, inG2, wd429, Or.inr wd430⟩
theorem fo_RX1_7_3 : Fok RX1 7 3 0 := ⟨RX3, TX3, 2, "MilestonesOn$Cart", rfl, by decide, inG3, wd429, Or.inr wd430⟩
theorem fo_RX1_7_8 : Fok RX1 7 8 0 := ⟨RX8, TX8, 2, "MilestonesOn$Cart", rfl, by decide, inG8, wd429, Or.inr wd430⟩
theorem fo_RX1_7_10 : Fok RX1 7 10 0 := ⟨RX10, TX10, 2, "MilestonesOn$Cart", rfl, by decide, inG10, wd429, Or.inr wd430⟩
theorem fw_RX1_7 : ∀ ci ∈ wkl, Fok RX1 7 ci 0 := by
  intro ci h
  have e : ci = 0 ∨ ci = 1 ∨ ci = 2 ∨ ci = 3 ∨ ci = 8 ∨ ci = 10 := by simpa [wkl] using h
  rcases e with rfl | rfl | rfl | rfl | rfl | rfl
  · exact fo_RX1_7_0
  · exact fo_RX1_7_1
  · exact fo_RX1_7_2
  · exact fo_RX1_7_3
  · exact fo_RX1_7_8
  · exact fo_RX1_7_10
theorem fo_RX1_13_0 : Fok RX1 13 0 1 := ⟨RX0, TX0, 2, "MilestonesOn$Cart", rfl, by decide, inG0, wd441, Or.inr wd442⟩
theorem fo_RX1_13_1 : Fok RX1 13 1 1 := ⟨RX1, TX1, 2, "MilestonesOn$Cart", rfl, by decide, inG1, wd441, Or.inr wd442⟩
theorem fo_RX1_13_2 : Fok RX1 13 2 1 := ⟨RX2, TX2, 2, "MilestonesOn$Cart", rfl, by decide, inG2, wd441, Or.inr wd442⟩
theorem fo_RX1_13_3 : Fok RX1 13 3 1 := ⟨RX3, TX3, 2, "MilestonesOn$Cart", rfl, by decide, inG3, wd441, Or.inr wd442⟩
theorem fo_RX1_13_8 : Fok RX1 13 8 1 := ⟨RX8, TX8, 2, "MilestonesOn$Cart", rfl, by decide, inG8, wd441, Or.inr wd442⟩
theorem fo_RX1_13_10 : Fok RX1 13 10 1 := ⟨RX10, TX10, 2, "MilestonesOn$Cart", rfl, by decide, inG10, wd441, Or.inr wd442⟩
theorem fw_RX1_13 : ∀ ci ∈ wkl, Fok RX1 13 ci 1 := by
  intro ci h
  have e : ci = 0 ∨ ci = 1 ∨ ci = 2 ∨ ci = 3 ∨ ci = 8 ∨ ci = 10 := by simpa [wkl] using h
  rcases e with rfl | rfl | rfl | rfl | rfl | rfl
  · exact fo_RX1_13_0
  · exact fo_RX1_13_1
  · exact fo_RX1_13_2
  · exact fo_RX1_13_3
  · exact fo_RX1_13_8
  · exact fo_RX1_13_10
theorem fo_RX1_49_9 : Fok RX1 49 9 6 := ⟨RX9, TX9, 8, "MilestonesOn$Trip", rfl, by decide, inG9, wd102, Or.inl rfl⟩
theorem fo_RX2_7_0 : Fok RX2 7 0 0 := ⟨RX0, TX0, 2, "MilestonesOn$Lame", rfl, by decide, inG0, wd433, Or.inr wd434⟩
theorem fo_RX2_7_1 : Fok RX2 7 1 0 := ⟨RX1, TX1, 2, "MilestonesOn$Lame", rfl, by decide, inG1, wd433, Or.inr wd434⟩
theorem fo_RX2_7_2 : Fok RX2 7 2 0 := ⟨RX2, TX2, 2, "MilestonesOn$Lame", rfl, by decide, inG2, wd433, Or.inr wd434⟩
theorem fo_RX2_7_3 : Fok RX2 7 3 0 := ⟨RX3, TX3, 2, "MilestonesOn$Lame", rfl, by decide, inG3, wd433, Or.inr wd434⟩
theorem fo_RX2_7_8 : Fok RX2 7 8 0 := ⟨RX8, TX8, 2, "MilestonesOn$Lame", rfl, by decide, inG8, wd433, Or.inr wd434⟩
theorem fo_RX2_7_10 : Fok RX2 7 10 0 := ⟨RX10, TX10, 2, "MilestonesOn$Lame", rfl, by decide, inG10, wd433, Or.inr wd434⟩
theorem fw_RX2_7 : ∀ ci ∈ wkl, Fok RX2 7 ci 0 := by
  intro ci h
  have e : ci = 0 ∨ ci = 1 ∨ ci = 2 ∨ ci = 3 ∨ ci = 8 ∨ ci = 10 := by simpa [wkl] using h
  rcases e with rfl | rfl | rfl | rfl | rfl | rfl
  · exact fo_RX2_7_0
  · exact fo_RX2_7_1
  · exact fo_RX2_7_2
  · exact fo_RX2_7_3
  · exact fo_RX2_7_8
  · exact fo_RX2_7_10
theorem fo_RX2_13_0 : Fok RX2 13 0 1 := ⟨RX0, TX0, 2, "MilestonesOn$Lame", rfl, by decide, inG0, wd445, Or.inr wd446⟩
theorem fo_RX2_13_1 : Fok RX2 13 1 1 := ⟨RX1, TX1, 2, "MilestonesOn$Lame", rfl, by decide, inG1, wd445, Or.inr wd446⟩
theorem fo_RX2_13_2 : Fok RX2 13 2 1 := ⟨RX2, TX2, 2, "MilestonesOn$Lame", rfl, by decide, inG2, wd445, Or.inr wd446⟩
theorem fo_RX2_13_3 : Fok RX2 13 3 1 := ⟨RX3, TX3, 2, "MilestonesOn$Lame", rfl, by decide, inG3, wd445, Or.inr wd446⟩
theorem fo_RX2_13_8 : Fok RX2 13 8 1 := ⟨RX8, TX8, 2, "MilestonesOn$Lame", rfl, by decide, inG8, wd445, Or.inr wd446⟩
theorem fo_RX2_13_10 : Fok RX2 13 10 1 := ⟨RX10, TX10, 2, "MilestonesOn$Lame", rfl, by decide, inG10, wd445, Or.inr wd446⟩
theorem fw_RX2_13 : ∀ ci ∈ wkl, Fok RX2 13 ci 1 := by
  intro ci h
  have e : ci = 0 ∨ ci = 1 ∨ ci = 2 ∨ ci = 3 ∨ ci = 8 ∨ ci = 10 := by simpa [wkl] using h
  rcases e with rfl | rfl | rfl | rfl | rfl | rfl
  · exact fo_RX2_13_0
  · exact fo_RX2_13_1
  · exact fo_RX2_13_2
  · exact fo_RX2_13_3
  · exact fo_RX2_13_8
  · exact fo_RX2_13_10
theorem fo_RX3_9_0 : Fok RX3 9 0 1 := ⟨RX0, TX0, 2, "MilestonesOn$Pilgrim", rfl, by decide, inG0, wd447, Or.inr wd448⟩
theorem fo_RX3_9_1 : Fok RX3 9 1 1 := ⟨RX1, TX1, 2, "MilestonesOn$Pilgrim", rfl, by decide, inG1, wd447, Or.inr wd448⟩
theorem fo_RX3_9_2 : Fok RX3 9 2 1 := ⟨RX2, TX2, 2, "MilestonesOn$Pilgrim", rfl, by decide, inG2, wd447, Or.inr wd448⟩
theorem fo_RX3_9_3 : Fok RX3 9 3 1 := ⟨RX3, TX3, 2, "MilestonesOn$Pilgrim", rfl, by decide, inG3, wd447, Or.inr wd448⟩
theorem fo_RX3_9_8 : Fok RX3 9 8 1 := ⟨RX8, TX8, 2, "MilestonesOn$Pilgrim", rfl, by decide, inG8, wd447, Or.inr wd448⟩
theorem fo_RX3_9_10 : Fok RX3 9 10 1 := ⟨RX10, TX10, 2, "MilestonesOn$Pilgrim", rfl, by decide, inG10, wd447, Or.inr wd448⟩
theorem fw_RX3_9 : ∀ ci ∈ wkl, Fok RX3 9 ci 1 := by
  intro ci h
  have e : ci = 0 ∨ ci = 1 ∨ ci = 2 ∨ ci = 3 ∨ ci = 8 ∨ ci = 10 := by simpa [wkl] using h
  rcases e with rfl | rfl | rfl | rfl | rfl | rfl
  · exact fo_RX3_9_0
  · exact fo_RX3_9_1
  · exact fo_RX3_9_2
  · exact fo_RX3_9_3
  · exact fo_RX3_9_8
  · exact fo_RX3_9_10
theorem fo_RX3_15_0 : Fok RX3 15 0 0 := ⟨RX0, TX0, 2, "MilestonesOn$Pilgrim", rfl, by decide, inG0, wd435, Or.inr wd436⟩
theorem fo_RX3_15_1 : Fok RX3 15 1 0 := ⟨RX1, TX1, 2, "MilestonesOn$Pilgrim", rfl, by decide, inG1, wd435, Or.inr wd436⟩
theorem fo_RX3_15_2 : Fok RX3 15 2 0 := ⟨RX2, TX2, 2, "MilestonesOn$Pilgrim", rfl, by decide, inG2, wd435, Or.inr wd436⟩
theorem fo_RX3_15_3 : Fok RX3 15 3 0 := ⟨RX3, TX3, 2, "MilestonesOn$Pilgrim", rfl, by decide, inG3, wd435, Or.inr wd436⟩
theorem fo_RX3_15_8 : Fok RX3 15 8 0 := ⟨RX8, TX8, 2, "MilestonesOn$Pilgrim", rfl, by decide, inG8, wd435, Or.inr wd436⟩
theorem fo_RX3_15_10 : Fok RX3 15 10 0 := ⟨RX10, TX10, 2, "MilestonesOn$Pilgrim", rfl, by decide, inG10, wd435, Or.inr wd436⟩
theorem fw_RX3_15 : ∀ ci ∈ wkl, Fok RX3 15 ci 0 := by
  intro ci h
  have e : ci = 0 ∨ ci = 1 ∨ ci = 2 ∨ ci = 3 ∨ ci = 8 ∨ ci = 10 := by simpa [wkl] using h
  rcases e with rfl | rfl | rfl | rfl | rfl | rfl
  · exact fo_RX3_15_0
  · exact fo_RX3_15_1
  · exact fo_RX3_15_2
  · exact fo_RX3_15_3
  · exact fo_RX3_15_8
  · exact fo_RX3_15_10
theorem fo_RX8_30_0 : Fok RX8 30 0 0 := ⟨RX0, TX0, 2, "MilestonesOn$Thief", rfl, by decide, inG0, wd437, Or.inr wd438⟩
theorem fo_RX8_30_1 : Fok RX8 30 1 0 := ⟨RX1, TX1, 2, "MilestonesOn$Thief", rfl, by decide, inG1, wd437, Or.inr wd438⟩
theorem fo_RX8_30_2 : Fok RX8 30 2 0 := ⟨RX2, TX2, 2, "MilestonesOn$Thief", rfl, by decide, inG2, wd437, Or.inr wd438⟩
theorem fo_RX8_30_3 : Fok RX8 30 3 0 := ⟨RX3, TX3, 2, "MilestonesOn$Thief", rfl, by decide, inG3, wd437, Or.inr wd438⟩
theorem fo_RX8_30_8 : Fok RX8 30 8 0 := ⟨RX8, TX8, 2, "MilestonesOn$Thief", rfl, by decide, inG8, wd437, Or.inr wd438⟩
theorem fo_RX8_30_10 : Fok RX8 30 10 0 := ⟨RX10, TX10, 2, "MilestonesOn$Thief", rfl, by decide, inG10, wd437, Or.inr wd438⟩
theorem fw_RX8_30 : ∀ ci ∈ wkl, Fok RX8 30 ci 0 := by
  intro ci h
  have e : ci = 0 ∨ ci = 1 ∨ ci = 2 ∨ ci = 3 ∨ ci = 8 ∨ ci = 10 := by simpa [wkl] using h
  rcases e with rfl | rfl | rfl | rfl | rfl | rfl
  · exact fo_RX8_30_0
  · exact fo_RX8_30_1
  · exact fo_RX8_30_2
  · exact fo_RX8_30_3
  · exact fo_RX8_30_8
  · exact fo_RX8_30_10
theorem fo_RX8_34_0 : Fok RX8 34 0 1 := ⟨RX0, TX0, 2, "MilestonesOn$Thief", rfl, by decide, inG0, wd449, Or.inr wd450⟩
theorem fo_RX8_34_1 : Fok RX8 34 1 1 := ⟨RX1, TX1, 2, "MilestonesOn$Thief", rfl, by decide, inG1, wd449, Or.inr wd450⟩
theorem fo_RX8_34_2 : Fok RX8 34 2 1 := ⟨RX2, TX2, 2, "MilestonesOn$Thief", rfl, by decide, inG2, wd449, Or.inr wd450⟩
theorem fo_RX8_34_3 : Fok RX8 34 3 1 := ⟨RX3, TX3, 2, "MilestonesOn$Thief", rfl, by decide, inG3, wd449, Or.inr wd450⟩
theorem fo_RX8_34_8 : Fok RX8 34 8 1 := ⟨RX8, TX8, 2, "MilestonesOn$Thief", rfl, by decide, inG8, wd449, Or.inr wd450⟩
theorem fo_RX8_34_10 : Fok RX8 34 10 1 := ⟨RX10, TX10, 2, "MilestonesOn$Thief", rfl, by decide, inG10, wd449, Or.inr wd450⟩
theorem fw_RX8_34 : ∀ ci ∈ wkl, Fok RX8 34 ci 1 := by
  intro ci h
  have e : ci = 0 ∨ ci = 1 ∨ ci = 2 ∨ ci = 3 ∨ ci = 8 ∨ ci = 10 := by simpa [wkl] using h
  rcases e with rfl | rfl | rfl | rfl | rfl | rfl
  · exact fo_RX8_34_0
  · exact fo_RX8_34_1
  · exact fo_RX8_34_2
  · exact fo_RX8_34_3
  · exact fo_RX8_34_8
  · exact fo_RX8_34_10
theorem fo_RX11_67_11 : Fok RX11 67 11 6 := ⟨RX11, TX11, 16, "MilestonesOn", rfl, by decide, inG11, wd210, Or.inl rfl⟩
theorem fo_RX11_38_11 : Fok RX11 38 11 10 := ⟨RX11, TX11, 16, "MilestonesOn", rfl, by decide, inG11, wd214, Or.inl rfl⟩
theorem fo_RX12_83_12 : Fok RX12 83 12 37 := ⟨RX12, TX12, 51, "MilestonesOnModel", rfl, by decide, inG12, wd1062, Or.inl rfl⟩
theorem fo_RX12_80_12 : Fok RX12 80 12 36 := ⟨RX12, TX12, 51, "MilestonesOnModel", rfl, by decide, inG12, wd1061, Or.inl rfl⟩
theorem fo_RX12_203_12 : Fok RX12 203 12 38 := ⟨RX12, TX12, 51, "MilestonesOnModel", rfl, by decide, inG12, wd1063, Or.inl rfl⟩
theorem fo_RX12_187_12 : Fok RX12 187 12 16 := ⟨RX12, TX12, 51, "MilestonesOnModel", rfl, by decide, inG12, wd1041, Or.inl rfl⟩
theorem fo_RX10_7_0 : Fok RX10 7 0 0 := ⟨RX0, TX0, 2, "MilestonesOn$Walker", rfl, by decide, inG0, wd428, Or.inl rfl⟩
theorem fo_RX10_7_1 : Fok RX10 7 1 0 := ⟨RX1, TX1, 2, "MilestonesOn$Walker", rfl, by decide, inG1, wd428, Or.inl rfl⟩
theorem fo_RX10_7_2 : Fok RX10 7 2 0 := ⟨RX2, TX2, 2, "MilestonesOn$Walker", rfl, by decide, inG2, wd428, Or.inl rfl⟩
theorem fo_RX10_7_3 : Fok RX10 7 3 0 := ⟨RX3, TX3, 2, "MilestonesOn$Walker", rfl, by decide, inG3, wd428, Or.inl rfl⟩
theorem fo_RX10_7_8 : Fok RX10 7 8 0 := ⟨RX8, TX8, 2, "MilestonesOn$Walker", rfl, by decide, inG8, wd428, Or.inl rfl⟩
theorem fo_RX10_7_10 : Fok RX10 7 10 0 := ⟨RX10, TX10, 2, "MilestonesOn$Walker", rfl, by decide, inG10, wd428, Or.inl rfl⟩
theorem fw_RX10_7 : ∀ ci ∈ wkl, Fok RX10 7 ci 0 := by
  intro ci h
  have e : ci = 0 ∨ ci = 1 ∨ ci = 2 ∨ ci = 3 ∨ ci = 8 ∨ ci = 10 := by simpa [wkl] using h
  rcases e with rfl | rfl | rfl | rfl | rfl | rfl
  · exact fo_RX10_7_0
  · exact fo_RX10_7_1
  · exact fo_RX10_7_2
  · exact fo_RX10_7_3
  · exact fo_RX10_7_8
  · exact fo_RX10_7_10
theorem fo_RX10_13_0 : Fok RX10 13 0 1 := ⟨RX0, TX0, 2, "MilestonesOn$Walker", rfl, by decide, inG0, wd440, Or.inl rfl⟩
theorem fo_RX10_13_1 : Fok RX10 13 1 1 := ⟨RX1, TX1, 2, "MilestonesOn$Walker", rfl, by decide, inG1, wd440, Or.inl rfl⟩
theorem fo_RX10_13_2 : Fok RX10 13 2 1 := ⟨RX2, TX2, 2, "MilestonesOn$Walker", rfl, by decide, inG2, wd440, Or.inl rfl⟩
theorem fo_RX10_13_3 : Fok RX10 13 3 1 := ⟨RX3, TX3, 2, "MilestonesOn$Walker", rfl, by decide, inG3, wd440, Or.inl rfl⟩
theorem fo_RX10_13_8 : Fok RX10 13 8 1 := ⟨RX8, TX8, 2, "MilestonesOn$Walker", rfl, by decide, inG8, wd440, Or.inl rfl⟩
theorem fo_RX10_13_10 : Fok RX10 13 10 1 := ⟨RX10, TX10, 2, "MilestonesOn$Walker", rfl, by decide, inG10, wd440, Or.inl rfl⟩
theorem fw_RX10_13 : ∀ ci ∈ wkl, Fok RX10 13 ci 1 := by
  intro ci h
  have e : ci = 0 ∨ ci = 1 ∨ ci = 2 ∨ ci = 3 ∨ ci = 8 ∨ ci = 10 := by simpa [wkl] using h
  rcases e with rfl | rfl | rfl | rfl | rfl | rfl
  · exact fo_RX10_13_0
  · exact fo_RX10_13_1
  · exact fo_RX10_13_2
  · exact fo_RX10_13_3
  · exact fo_RX10_13_8
  · exact fo_RX10_13_10
theorem fo_RX11_179_9 : Fok RX11 179 9 3 := ⟨RX9, TX9, 8, "MilestonesOn$Trip", rfl, by decide, inG9, wd95, Or.inl rfl⟩
theorem fo_RX12_172_12 : Fok RX12 172 12 20 := ⟨RX12, TX12, 51, "MilestonesOnModel", rfl, by decide, inG12, wd1045, Or.inl rfl⟩
theorem fo_RX12_56_12 : Fok RX12 56 12 24 := ⟨RX12, TX12, 51, "MilestonesOnModel", rfl, by decide, inG12, wd1049, Or.inl rfl⟩
theorem fo_RX12_47_12 : Fok RX12 47 12 21 := ⟨RX12, TX12, 51, "MilestonesOnModel", rfl, by decide, inG12, wd1046, Or.inl rfl⟩
theorem fo_RX12_50_12 : Fok RX12 50 12 22 := ⟨RX12, TX12, 51, "MilestonesOnModel", rfl, by decide, inG12, wd1047, Or.inl rfl⟩
theorem fo_RX12_53_12 : Fok RX12 53 12 23 := ⟨RX12, TX12, 51, "MilestonesOnModel", rfl, by decide, inG12, wd1048, Or.inl rfl⟩
theorem fo_RX11_186_9 : Fok RX11 186 9 2 := ⟨RX9, TX9, 8, "MilestonesOn$Trip", rfl, by decide, inG9, wd92, Or.inl rfl⟩
theorem fo_RX12_104_12 : Fok RX12 104 12 4 := ⟨RX12, TX12, 51, "MilestonesOnModel", rfl, by decide, inG12, wd1029, Or.inl rfl⟩
theorem fo_RX11_198_5 : Fok RX11 198 5 4 := ⟨RX5, TX5, 10, "MilestonesOn$Road", rfl, by decide, inG5, wd46, Or.inl rfl⟩
theorem fo_RX11_24_11 : Fok RX11 24 11 3 := ⟨RX11, TX11, 16, "MilestonesOn", rfl, by decide, inG11, wd207, Or.inl rfl⟩
theorem fo_RX12_62_12 : Fok RX12 62 12 26 := ⟨RX12, TX12, 51, "MilestonesOnModel", rfl, by decide, inG12, wd1051, Or.inl rfl⟩
theorem fo_RX7_59_7 : Fok RX7 59 7 4 := ⟨RX7, TX7, 17, "MilestonesOn$Search", rfl, by decide, inG7, wd133, Or.inl rfl⟩
theorem fo_RX7_21_7 : Fok RX7 21 7 5 := ⟨RX7, TX7, 17, "MilestonesOn$Search", rfl, by decide, inG7, wd134, Or.inl rfl⟩
theorem fo_RX7_25_7 : Fok RX7 25 7 6 := ⟨RX7, TX7, 17, "MilestonesOn$Search", rfl, by decide, inG7, wd135, Or.inl rfl⟩
theorem fo_RX7_79_5 : Fok RX7 79 5 6 := ⟨RX5, TX5, 10, "MilestonesOn$Road", rfl, by decide, inG5, wd53, Or.inl rfl⟩
theorem fo_RX7_11_7 : Fok RX7 11 7 1 := ⟨RX7, TX7, 17, "MilestonesOn$Search", rfl, by decide, inG7, wd130, Or.inl rfl⟩
theorem fo_RX7_44_7 : Fok RX7 44 7 12 := ⟨RX7, TX7, 17, "MilestonesOn$Search", rfl, by decide, inG7, wd141, Or.inl rfl⟩
theorem fo_RX7_15_7 : Fok RX7 15 7 2 := ⟨RX7, TX7, 17, "MilestonesOn$Search", rfl, by decide, inG7, wd131, Or.inl rfl⟩
theorem fo_RX7_68_7 : Fok RX7 68 7 0 := ⟨RX7, TX7, 17, "MilestonesOn$Search", rfl, by decide, inG7, wd129, Or.inl rfl⟩
theorem fo_RX7_92_9 : Fok RX7 92 9 3 := ⟨RX9, TX9, 8, "MilestonesOn$Trip", rfl, by decide, inG9, wd94, Or.inl rfl⟩
theorem fo_RX11_74_11 : Fok RX11 74 11 7 := ⟨RX11, TX11, 16, "MilestonesOn", rfl, by decide, inG11, wd211, Or.inl rfl⟩
theorem fo_RX12_261_12 : Fok RX12 261 12 41 := ⟨RX12, TX12, 51, "MilestonesOnModel", rfl, by decide, inG12, wd1066, Or.inl rfl⟩
theorem fo_RX12_264_12 : Fok RX12 264 12 39 := ⟨RX12, TX12, 51, "MilestonesOnModel", rfl, by decide, inG12, wd1064, Or.inl rfl⟩
theorem fo_RX12_86_12 : Fok RX12 86 12 40 := ⟨RX12, TX12, 51, "MilestonesOnModel", rfl, by decide, inG12, wd1065, Or.inl rfl⟩
theorem fo_RX7_18_7 : Fok RX7 18 7 3 := ⟨RX7, TX7, 17, "MilestonesOn$Search", rfl, by decide, inG7, wd132, Or.inl rfl⟩
theorem fo_RX7_32_7 : Fok RX7 32 7 8 := ⟨RX7, TX7, 17, "MilestonesOn$Search", rfl, by decide, inG7, wd137, Or.inl rfl⟩
theorem fo_RX7_99_5 : Fok RX7 99 5 5 := ⟨RX5, TX5, 10, "MilestonesOn$Road", rfl, by decide, inG5, wd48, Or.inl rfl⟩
theorem fo_RX7_41_7 : Fok RX7 41 7 11 := ⟨RX7, TX7, 17, "MilestonesOn$Search", rfl, by decide, inG7, wd140, Or.inl rfl⟩
theorem fo_RX7_38_7 : Fok RX7 38 7 10 := ⟨RX7, TX7, 17, "MilestonesOn$Search", rfl, by decide, inG7, wd139, Or.inl rfl⟩
theorem fo_RX7_35_7 : Fok RX7 35 7 9 := ⟨RX7, TX7, 17, "MilestonesOn$Search", rfl, by decide, inG7, wd138, Or.inl rfl⟩
theorem fo_RX7_28_7 : Fok RX7 28 7 7 := ⟨RX7, TX7, 17, "MilestonesOn$Search", rfl, by decide, inG7, wd136, Or.inl rfl⟩
theorem fo_RX12_93_12 : Fok RX12 93 12 43 := ⟨RX12, TX12, 51, "MilestonesOnModel", rfl, by decide, inG12, wd1068, Or.inl rfl⟩
theorem fo_RX12_90_12 : Fok RX12 90 12 42 := ⟨RX12, TX12, 51, "MilestonesOnModel", rfl, by decide, inG12, wd1067, Or.inl rfl⟩
theorem fo_RX12_273_12 : Fok RX12 273 12 45 := ⟨RX12, TX12, 51, "MilestonesOnModel", rfl, by decide, inG12, wd1070, Or.inl rfl⟩
theorem fo_RX12_279_12 : Fok RX12 279 12 46 := ⟨RX12, TX12, 51, "MilestonesOnModel", rfl, by decide, inG12, wd1071, Or.inl rfl⟩
theorem fo_RX7_125_6 : Fok RX7 125 6 1 := ⟨RX6, TX6, 2, "MilestonesOn$Row", rfl, by decide, inG6, wd195, Or.inl rfl⟩
theorem fo_RX12_96_12 : Fok RX12 96 12 44 := ⟨RX12, TX12, 51, "MilestonesOnModel", rfl, by decide, inG12, wd1069, Or.inl rfl⟩
theorem fo_RX7_163_9 : Fok RX7 163 9 5 := ⟨RX9, TX9, 8, "MilestonesOn$Trip", rfl, by decide, inG9, wd100, Or.inl rfl⟩
theorem fo_RX11_251_7 : Fok RX11 251 7 13 := ⟨RX7, TX7, 17, "MilestonesOn$Search", rfl, by decide, inG7, wd143, Or.inl rfl⟩
theorem fo_RX7_50_7 : Fok RX7 50 7 14 := ⟨RX7, TX7, 17, "MilestonesOn$Search", rfl, by decide, inG7, wd144, Or.inl rfl⟩
theorem fo_RX7_53_7 : Fok RX7 53 7 15 := ⟨RX7, TX7, 17, "MilestonesOn$Search", rfl, by decide, inG7, wd146, Or.inl rfl⟩
theorem fo_RX7_56_7 : Fok RX7 56 7 16 := ⟨RX7, TX7, 17, "MilestonesOn$Search", rfl, by decide, inG7, wd148, Or.inl rfl⟩
theorem fo_RX11_264_7 : Fok RX11 264 7 14 := ⟨RX7, TX7, 17, "MilestonesOn$Search", rfl, by decide, inG7, wd145, Or.inl rfl⟩
theorem fo_RX12_299_12 : Fok RX12 299 12 50 := ⟨RX12, TX12, 51, "MilestonesOnModel", rfl, by decide, inG12, wd1075, Or.inl rfl⟩
theorem fo_RX12_296_12 : Fok RX12 296 12 49 := ⟨RX12, TX12, 51, "MilestonesOnModel", rfl, by decide, inG12, wd1074, Or.inl rfl⟩
theorem fo_RX12_293_12 : Fok RX12 293 12 48 := ⟨RX12, TX12, 51, "MilestonesOnModel", rfl, by decide, inG12, wd1073, Or.inl rfl⟩
theorem fo_RX12_290_12 : Fok RX12 290 12 47 := ⟨RX12, TX12, 51, "MilestonesOnModel", rfl, by decide, inG12, wd1072, Or.inl rfl⟩
theorem fo_RX11_267_7 : Fok RX11 267 7 16 := ⟨RX7, TX7, 17, "MilestonesOn$Search", rfl, by decide, inG7, wd149, Or.inl rfl⟩
theorem fo_RX11_270_7 : Fok RX11 270 7 15 := ⟨RX7, TX7, 17, "MilestonesOn$Search", rfl, by decide, inG7, wd147, Or.inl rfl⟩
theorem fo_RX11_44_11 : Fok RX11 44 11 12 := ⟨RX11, TX11, 16, "MilestonesOn", rfl, by decide, inG11, wd216, Or.inl rfl⟩
theorem fo_RX11_47_11 : Fok RX11 47 11 13 := ⟨RX11, TX11, 16, "MilestonesOn", rfl, by decide, inG11, wd217, Or.inl rfl⟩
theorem fo_RX12_312_12 : Fok RX12 312 12 5 := ⟨RX12, TX12, 51, "MilestonesOnModel", rfl, by decide, inG12, wd1030, Or.inl rfl⟩
theorem fo_RX11_51_11 : Fok RX11 51 11 14 := ⟨RX11, TX11, 16, "MilestonesOn", rfl, by decide, inG11, wd218, Or.inl rfl⟩
theorem fo_RX12_22_12 : Fok RX12 22 12 6 := ⟨RX12, TX12, 51, "MilestonesOnModel", rfl, by decide, inG12, wd1031, Or.inl rfl⟩
theorem fo_RX11_54_11 : Fok RX11 54 11 15 := ⟨RX11, TX11, 16, "MilestonesOn", rfl, by decide, inG11, wd219, Or.inl rfl⟩
theorem fo_RX12_100_12 : Fok RX12 100 12 7 := ⟨RX12, TX12, 51, "MilestonesOnModel", rfl, by decide, inG12, wd1032, Or.inl rfl⟩
theorem po_RX5_11_5i : Pok RX5 "<init>" 11 5 0 (.array .int) := ⟨RX5, TX5, 10, tyX5, rfl, by decide, inG5, tyX5_ok, nmX5, wd37, Or.inr ⟨rfl, rfl, rfl⟩, by decide +kernel⟩
theorem po_RX5_15_5i : Pok RX5 "<init>" 15 5 1 (.array .int) := ⟨RX5, TX5, 10, tyX5, rfl, by decide, inG5, tyX5_ok, nmX5, wd40, Or.inr ⟨rfl, rfl, rfl⟩, by decide +kernel⟩
theorem po_RX5_18_5i : Pok RX5 "<init>" 18 5 2 (.array .int) := ⟨RX5, TX5, 10, tyX5, rfl, by decide, inG5, tyX5_ok, nmX5, wd42, Or.inr ⟨rfl, rfl, rfl⟩, by decide +kernel⟩
theorem po_RX5_23_5i : Pok RX5 "<init>" 23 5 3 (.array (.object "MilestonesOn$Walker")) := ⟨RX5, TX5, 10, tyX5, rfl, by decide, inG5, tyX5_ok, nmX5, wd43, Or.inr ⟨rfl, rfl, rfl⟩, by decide +kernel⟩
theorem po_RX5_27_5i : Pok RX5 "<init>" 27 5 4 .int := ⟨RX5, TX5, 10, tyX5, rfl, by decide, inG5, tyX5_ok, nmX5, wd44, Or.inl rfl, by decide +kernel⟩
theorem po_RX5_31_5i : Pok RX5 "<init>" 31 5 5 .int := ⟨RX5, TX5, 10, tyX5, rfl, by decide, inG5, tyX5_ok, nmX5, wd47, Or.inl rfl, by decide +kernel⟩
theorem po_RX5_34_5i : Pok RX5 "<init>" 34 5 6 .int := ⟨RX5, TX5, 10, tyX5, rfl, by decide, inG5, tyX5_ok, nmX5, wd52, Or.inl rfl, by decide +kernel⟩
theorem po_RX5_37_5i : Pok RX5 "<init>" 37 5 7 .int := ⟨RX5, TX5, 10, tyX5, rfl, by decide, inG5, tyX5_ok, nmX5, wd56, Or.inl rfl, by decide +kernel⟩
theorem po_RX5_40_5i : Pok RX5 "<init>" 40 5 8 .int := ⟨RX5, TX5, 10, tyX5, rfl, by decide, inG5, tyX5_ok, nmX5, wd58, Or.inl rfl, by decide +kernel⟩
theorem po_RX5_43_5i : Pok RX5 "<init>" 43 5 9 .int := ⟨RX5, TX5, 10, tyX5, rfl, by decide, inG5, tyX5_ok, nmX5, wd59, Or.inl rfl, by decide +kernel⟩
theorem po_RX9_9_9i : Pok RX9 "<init>" 9 9 1 .int := ⟨RX9, TX9, 8, tyX9, rfl, by decide, inG9, tyX9_ok, nmX9, wd88, Or.inl rfl, by decide +kernel⟩
theorem po_RX9_15_9i : Pok RX9 "<init>" 15 9 2 .int := ⟨RX9, TX9, 8, tyX9, rfl, by decide, inG9, tyX9_ok, nmX9, wd91, Or.inl rfl, by decide +kernel⟩
theorem po_RX9_18_9i : Pok RX9 "<init>" 18 9 3 .int := ⟨RX9, TX9, 8, tyX9, rfl, by decide, inG9, tyX9_ok, nmX9, wd93, Or.inl rfl, by decide +kernel⟩
theorem po_RX9_21_9i : Pok RX9 "<init>" 21 9 4 .int := ⟨RX9, TX9, 8, tyX9, rfl, by decide, inG9, tyX9_ok, nmX9, wd96, Or.inl rfl, by decide +kernel⟩
theorem po_RX9_24_9i : Pok RX9 "<init>" 24 9 5 .int := ⟨RX9, TX9, 8, tyX9, rfl, by decide, inG9, tyX9_ok, nmX9, wd98, Or.inl rfl, by decide +kernel⟩
theorem po_RX9_27_9i : Pok RX9 "<init>" 27 9 6 .int := ⟨RX9, TX9, 8, tyX9, rfl, by decide, inG9, tyX9_ok, nmX9, wd101, Or.inl rfl, by decide +kernel⟩
theorem po_RX9_30_9i : Pok RX9 "<init>" 30 9 7 .int := ⟨RX9, TX9, 8, tyX9, rfl, by decide, inG9, tyX9_ok, nmX9, wd103, Or.inl rfl, by decide +kernel⟩
theorem po_RX9_33_9i : Pok RX9 "<init>" 33 9 0 (.object "MilestonesOn$Road") := ⟨RX9, TX9, 8, tyX9, rfl, by decide, inG9, tyX9_ok, nmX9, wd87, Or.inl rfl, by decide +kernel⟩
theorem po_RX7_11_7i : Pok RX7 "<init>" 11 7 1 (.array .int) := ⟨RX7, TX7, 17, tyX7, rfl, by decide, inG7, tyX7_ok, nmX7, wd130, Or.inr ⟨rfl, rfl, rfl⟩, by decide +kernel⟩
theorem po_RX7_15_7i : Pok RX7 "<init>" 15 7 2 (.array .int) := ⟨RX7, TX7, 17, tyX7, rfl, by decide, inG7, tyX7_ok, nmX7, wd131, Or.inr ⟨rfl, rfl, rfl⟩, by decide +kernel⟩
theorem po_RX7_18_7i : Pok RX7 "<init>" 18 7 3 (.array .int) := ⟨RX7, TX7, 17, tyX7, rfl, by decide, inG7, tyX7_ok, nmX7, wd132, Or.inr ⟨rfl, rfl, rfl⟩, by decide +kernel⟩
theorem po_RX7_21_7i : Pok RX7 "<init>" 21 7 5 .int := ⟨RX7, TX7, 17, tyX7, rfl, by decide, inG7, tyX7_ok, nmX7, wd134, Or.inl rfl, by decide +kernel⟩
theorem po_RX7_25_7i : Pok RX7 "<init>" 25 7 6 .int := ⟨RX7, TX7, 17, tyX7, rfl, by decide, inG7, tyX7_ok, nmX7, wd135, Or.inl rfl, by decide +kernel⟩
theorem po_RX7_28_7i : Pok RX7 "<init>" 28 7 7 .boolean := ⟨RX7, TX7, 17, tyX7, rfl, by decide, inG7, tyX7_ok, nmX7, wd136, Or.inl rfl, by decide +kernel⟩
theorem po_RX7_32_7i : Pok RX7 "<init>" 32 7 8 (.array .int) := ⟨RX7, TX7, 17, tyX7, rfl, by decide, inG7, tyX7_ok, nmX7, wd137, Or.inl rfl, by decide +kernel⟩
theorem po_RX7_35_7i : Pok RX7 "<init>" 35 7 9 (.array .int) := ⟨RX7, TX7, 17, tyX7, rfl, by decide, inG7, tyX7_ok, nmX7, wd138, Or.inl rfl, by decide +kernel⟩
theorem po_RX7_38_7i : Pok RX7 "<init>" 38 7 10 (.array .int) := ⟨RX7, TX7, 17, tyX7, rfl, by decide, inG7, tyX7_ok, nmX7, wd139, Or.inl rfl, by decide +kernel⟩
theorem po_RX7_41_7i : Pok RX7 "<init>" 41 7 11 .int := ⟨RX7, TX7, 17, tyX7, rfl, by decide, inG7, tyX7_ok, nmX7, wd140, Or.inl rfl, by decide +kernel⟩
theorem po_RX7_44_7i : Pok RX7 "<init>" 44 7 12 .int := ⟨RX7, TX7, 17, tyX7, rfl, by decide, inG7, tyX7_ok, nmX7, wd141, Or.inl rfl, by decide +kernel⟩
theorem po_RX7_47_7i : Pok RX7 "<init>" 47 7 13 .int := ⟨RX7, TX7, 17, tyX7, rfl, by decide, inG7, tyX7_ok, nmX7, wd142, Or.inl rfl, by decide +kernel⟩
theorem po_RX7_50_7i : Pok RX7 "<init>" 50 7 14 .int := ⟨RX7, TX7, 17, tyX7, rfl, by decide, inG7, tyX7_ok, nmX7, wd144, Or.inl rfl, by decide +kernel⟩
theorem po_RX7_53_7i : Pok RX7 "<init>" 53 7 15 .int := ⟨RX7, TX7, 17, tyX7, rfl, by decide, inG7, tyX7_ok, nmX7, wd146, Or.inl rfl, by decide +kernel⟩
theorem po_RX7_56_7i : Pok RX7 "<init>" 56 7 16 .int := ⟨RX7, TX7, 17, tyX7, rfl, by decide, inG7, tyX7_ok, nmX7, wd148, Or.inl rfl, by decide +kernel⟩
theorem po_RX7_59_7i : Pok RX7 "<init>" 59 7 4 (.object "MilestonesOn$Road") := ⟨RX7, TX7, 17, tyX7, rfl, by decide, inG7, tyX7_ok, nmX7, wd133, Or.inl rfl, by decide +kernel⟩
theorem po_RX7_68_7i : Pok RX7 "<init>" 68 7 0 (.object "MilestonesOn$Trip") := ⟨RX7, TX7, 17, tyX7, rfl, by decide, inG7, tyX7_ok, nmX7, wd129, Or.inr ⟨rfl, rfl, rfl⟩, by decide +kernel⟩
theorem po_RX6_9_6i : Pok RX6 "<init>" 9 6 0 (.array .int) := ⟨RX6, TX6, 2, tyX6, rfl, by decide, inG6, tyX6_ok, nmX6, wd190, Or.inr ⟨rfl, rfl, rfl⟩, by decide +kernel⟩
theorem po_RX6_15_6i : Pok RX6 "<init>" 15 6 1 .int := ⟨RX6, TX6, 2, tyX6, rfl, by decide, inG6, tyX6_ok, nmX6, wd192, Or.inl rfl, by decide +kernel⟩
theorem po_RX11_11_11i : Pok RX11 "<init>" 11 11 0 (.array (.object "MilestonesOn$Row")) := ⟨RX11, TX11, 16, tyX11, rfl, by decide, inG11, tyX11_ok, nmX11, wd204, Or.inr ⟨rfl, rfl, rfl⟩, by decide +kernel⟩
theorem po_RX11_15_11i : Pok RX11 "<init>" 15 11 1 (.array (.object "MilestonesOn$Row")) := ⟨RX11, TX11, 16, tyX11, rfl, by decide, inG11, tyX11_ok, nmX11, wd205, Or.inr ⟨rfl, rfl, rfl⟩, by decide +kernel⟩
theorem po_RX11_20_11i : Pok RX11 "<init>" 20 11 2 (.array (.object "MilestonesOn$Trip")) := ⟨RX11, TX11, 16, tyX11, rfl, by decide, inG11, tyX11_ok, nmX11, wd206, Or.inr ⟨rfl, rfl, rfl⟩, by decide +kernel⟩
theorem po_RX11_24_11i : Pok RX11 "<init>" 24 11 3 (.array .int) := ⟨RX11, TX11, 16, tyX11, rfl, by decide, inG11, tyX11_ok, nmX11, wd207, Or.inr ⟨rfl, rfl, rfl⟩, by decide +kernel⟩
theorem po_RX11_28_11i : Pok RX11 "<init>" 28 11 4 (.array .int) := ⟨RX11, TX11, 16, tyX11, rfl, by decide, inG11, tyX11_ok, nmX11, wd208, Or.inr ⟨rfl, rfl, rfl⟩, by decide +kernel⟩
theorem po_RX11_31_11i : Pok RX11 "<init>" 31 11 5 (.array .int) := ⟨RX11, TX11, 16, tyX11, rfl, by decide, inG11, tyX11_ok, nmX11, wd209, Or.inr ⟨rfl, rfl, rfl⟩, by decide +kernel⟩
theorem po_RX11_34_11i : Pok RX11 "<init>" 34 11 9 .int := ⟨RX11, TX11, 16, tyX11, rfl, by decide, inG11, tyX11_ok, nmX11, wd213, Or.inl rfl, by decide +kernel⟩
theorem po_RX11_38_11i : Pok RX11 "<init>" 38 11 10 .int := ⟨RX11, TX11, 16, tyX11, rfl, by decide, inG11, tyX11_ok, nmX11, wd214, Or.inl rfl, by decide +kernel⟩
theorem po_RX11_41_11i : Pok RX11 "<init>" 41 11 11 .int := ⟨RX11, TX11, 16, tyX11, rfl, by decide, inG11, tyX11_ok, nmX11, wd215, Or.inl rfl, by decide +kernel⟩
theorem po_RX11_44_11i : Pok RX11 "<init>" 44 11 12 .int := ⟨RX11, TX11, 16, tyX11, rfl, by decide, inG11, tyX11_ok, nmX11, wd216, Or.inl rfl, by decide +kernel⟩
theorem po_RX11_47_11i : Pok RX11 "<init>" 47 11 13 .long := ⟨RX11, TX11, 16, tyX11, rfl, by decide, inG11, tyX11_ok, nmX11, wd217, Or.inl rfl, by decide +kernel⟩
theorem po_RX11_51_11i : Pok RX11 "<init>" 51 11 14 .long := ⟨RX11, TX11, 16, tyX11, rfl, by decide, inG11, tyX11_ok, nmX11, wd218, Or.inl rfl, by decide +kernel⟩
theorem po_RX11_54_11i : Pok RX11 "<init>" 54 11 15 .int := ⟨RX11, TX11, 16, tyX11, rfl, by decide, inG11, tyX11_ok, nmX11, wd219, Or.inl rfl, by decide +kernel⟩
theorem po_RX11_60_11i : Pok RX11 "<init>" 60 11 8 (.object "MilestonesOn$Road") := ⟨RX11, TX11, 16, tyX11, rfl, by decide, inG11, tyX11_ok, nmX11, wd212, Or.inl rfl, by decide +kernel⟩
theorem po_RX11_67_11i : Pok RX11 "<init>" 67 11 6 (.object "MilestonesOn$Trip") := ⟨RX11, TX11, 16, tyX11, rfl, by decide, inG11, tyX11_ok, nmX11, wd210, Or.inr ⟨rfl, rfl, rfl⟩, by decide +kernel⟩
theorem po_RX11_74_11i : Pok RX11 "<init>" 74 11 7 (.object "MilestonesOn$Search") := ⟨RX11, TX11, 16, tyX11, rfl, by decide, inG11, tyX11_ok, nmX11, wd211, Or.inr ⟨rfl, rfl, rfl⟩, by decide +kernel⟩
theorem po_RX12_7_12i : Pok RX12 "<init>" 7 12 0 (.array .int) := ⟨RX12, TX12, 51, tyX12, rfl, by decide, inG12, tyX12_ok, nmX12, wd1025, Or.inr ⟨rfl, rfl, rfl⟩, by decide +kernel⟩
theorem po_RX12_13_12i : Pok RX12 "<init>" 13 12 1 (.array .int) := ⟨RX12, TX12, 51, tyX12, rfl, by decide, inG12, tyX12_ok, nmX12, wd1026, Or.inr ⟨rfl, rfl, rfl⟩, by decide +kernel⟩
theorem po_RX12_16_12i : Pok RX12 "<init>" 16 12 2 (.array .int) := ⟨RX12, TX12, 51, tyX12, rfl, by decide, inG12, tyX12_ok, nmX12, wd1027, Or.inr ⟨rfl, rfl, rfl⟩, by decide +kernel⟩
theorem po_RX12_19_12i : Pok RX12 "<init>" 19 12 3 (.array .int) := ⟨RX12, TX12, 51, tyX12, rfl, by decide, inG12, tyX12_ok, nmX12, wd1028, Or.inr ⟨rfl, rfl, rfl⟩, by decide +kernel⟩
theorem po_RX12_22_12i : Pok RX12 "<init>" 22 12 6 .long := ⟨RX12, TX12, 51, tyX12, rfl, by decide, inG12, tyX12_ok, nmX12, wd1031, Or.inl rfl, by decide +kernel⟩
theorem po_RX12_26_12i : Pok RX12 "<init>" 26 12 8 (.array .int) := ⟨RX12, TX12, 51, tyX12, rfl, by decide, inG12, tyX12_ok, nmX12, wd1033, Or.inr ⟨rfl, rfl, rfl⟩, by decide +kernel⟩
theorem po_RX12_29_12i : Pok RX12 "<init>" 29 12 11 (.array .int) := ⟨RX12, TX12, 51, tyX12, rfl, by decide, inG12, tyX12_ok, nmX12, wd1036, Or.inr ⟨rfl, rfl, rfl⟩, by decide +kernel⟩
theorem po_RX12_32_12i : Pok RX12 "<init>" 32 12 13 (.array .int) := ⟨RX12, TX12, 51, tyX12, rfl, by decide, inG12, tyX12_ok, nmX12, wd1038, Or.inr ⟨rfl, rfl, rfl⟩, by decide +kernel⟩
theorem po_RX12_35_12i : Pok RX12 "<init>" 35 12 14 (.array .int) := ⟨RX12, TX12, 51, tyX12, rfl, by decide, inG12, tyX12_ok, nmX12, wd1039, Or.inr ⟨rfl, rfl, rfl⟩, by decide +kernel⟩
theorem po_RX12_38_12i : Pok RX12 "<init>" 38 12 15 (.array .int) := ⟨RX12, TX12, 51, tyX12, rfl, by decide, inG12, tyX12_ok, nmX12, wd1040, Or.inr ⟨rfl, rfl, rfl⟩, by decide +kernel⟩
theorem po_RX12_41_12i : Pok RX12 "<init>" 41 12 18 (.array .int) := ⟨RX12, TX12, 51, tyX12, rfl, by decide, inG12, tyX12_ok, nmX12, wd1043, Or.inr ⟨rfl, rfl, rfl⟩, by decide +kernel⟩
theorem po_RX12_44_12i : Pok RX12 "<init>" 44 12 19 (.array .int) := ⟨RX12, TX12, 51, tyX12, rfl, by decide, inG12, tyX12_ok, nmX12, wd1044, Or.inr ⟨rfl, rfl, rfl⟩, by decide +kernel⟩
theorem po_RX12_47_12i : Pok RX12 "<init>" 47 12 21 (.array .int) := ⟨RX12, TX12, 51, tyX12, rfl, by decide, inG12, tyX12_ok, nmX12, wd1046, Or.inr ⟨rfl, rfl, rfl⟩, by decide +kernel⟩
theorem po_RX12_50_12i : Pok RX12 "<init>" 50 12 22 (.array .int) := ⟨RX12, TX12, 51, tyX12, rfl, by decide, inG12, tyX12_ok, nmX12, wd1047, Or.inr ⟨rfl, rfl, rfl⟩, by decide +kernel⟩
theorem po_RX12_53_12i : Pok RX12 "<init>" 53 12 23 (.array .int) := ⟨RX12, TX12, 51, tyX12, rfl, by decide, inG12, tyX12_ok, nmX12, wd1048, Or.inr ⟨rfl, rfl, rfl⟩, by decide +kernel⟩
theorem po_RX12_56_12i : Pok RX12 "<init>" 56 12 24 (.array .int) := ⟨RX12, TX12, 51, tyX12, rfl, by decide, inG12, tyX12_ok, nmX12, wd1049, Or.inr ⟨rfl, rfl, rfl⟩, by decide +kernel⟩
theorem po_RX12_59_12i : Pok RX12 "<init>" 59 12 25 (.array .int) := ⟨RX12, TX12, 51, tyX12, rfl, by decide, inG12, tyX12_ok, nmX12, wd1050, Or.inr ⟨rfl, rfl, rfl⟩, by decide +kernel⟩
theorem po_RX12_62_12i : Pok RX12 "<init>" 62 12 26 (.array .int) := ⟨RX12, TX12, 51, tyX12, rfl, by decide, inG12, tyX12_ok, nmX12, wd1051, Or.inr ⟨rfl, rfl, rfl⟩, by decide +kernel⟩
theorem po_RX12_65_12i : Pok RX12 "<init>" 65 12 31 (.array .int) := ⟨RX12, TX12, 51, tyX12, rfl, by decide, inG12, tyX12_ok, nmX12, wd1056, Or.inr ⟨rfl, rfl, rfl⟩, by decide +kernel⟩
theorem po_RX12_68_12i : Pok RX12 "<init>" 68 12 32 (.array .int) := ⟨RX12, TX12, 51, tyX12, rfl, by decide, inG12, tyX12_ok, nmX12, wd1057, Or.inr ⟨rfl, rfl, rfl⟩, by decide +kernel⟩
theorem po_RX12_71_12i : Pok RX12 "<init>" 71 12 33 (.array .int) := ⟨RX12, TX12, 51, tyX12, rfl, by decide, inG12, tyX12_ok, nmX12, wd1058, Or.inr ⟨rfl, rfl, rfl⟩, by decide +kernel⟩
theorem po_RX12_74_12i : Pok RX12 "<init>" 74 12 34 (.array .int) := ⟨RX12, TX12, 51, tyX12, rfl, by decide, inG12, tyX12_ok, nmX12, wd1059, Or.inr ⟨rfl, rfl, rfl⟩, by decide +kernel⟩
theorem po_RX12_77_12i : Pok RX12 "<init>" 77 12 35 (.array .int) := ⟨RX12, TX12, 51, tyX12, rfl, by decide, inG12, tyX12_ok, nmX12, wd1060, Or.inr ⟨rfl, rfl, rfl⟩, by decide +kernel⟩
theorem po_RX12_80_12i : Pok RX12 "<init>" 80 12 36 (.array .int) := ⟨RX12, TX12, 51, tyX12, rfl, by decide, inG12, tyX12_ok, nmX12, wd1061, Or.inr ⟨rfl, rfl, rfl⟩, by decide +kernel⟩
theorem po_RX12_83_12i : Pok RX12 "<init>" 83 12 37 (.array .int) := ⟨RX12, TX12, 51, tyX12, rfl, by decide, inG12, tyX12_ok, nmX12, wd1062, Or.inr ⟨rfl, rfl, rfl⟩, by decide +kernel⟩
theorem po_RX12_86_12i : Pok RX12 "<init>" 86 12 40 (.array .int) := ⟨RX12, TX12, 51, tyX12, rfl, by decide, inG12, tyX12_ok, nmX12, wd1065, Or.inr ⟨rfl, rfl, rfl⟩, by decide +kernel⟩
theorem po_RX12_90_12i : Pok RX12 "<init>" 90 12 42 (.array .int) := ⟨RX12, TX12, 51, tyX12, rfl, by decide, inG12, tyX12_ok, nmX12, wd1067, Or.inr ⟨rfl, rfl, rfl⟩, by decide +kernel⟩
theorem po_RX12_93_12i : Pok RX12 "<init>" 93 12 43 (.array .int) := ⟨RX12, TX12, 51, tyX12, rfl, by decide, inG12, tyX12_ok, nmX12, wd1068, Or.inr ⟨rfl, rfl, rfl⟩, by decide +kernel⟩
theorem po_RX12_96_12i : Pok RX12 "<init>" 96 12 44 (.array .boolean) := ⟨RX12, TX12, 51, tyX12, rfl, by decide, inG12, tyX12_ok, nmX12, wd1069, Or.inr ⟨rfl, rfl, rfl⟩, by decide +kernel⟩
theorem po_RX11_54_11 (name : String) : Pok RX11 name 54 11 15 .int := ⟨RX11, TX11, 16, tyX11, rfl, by decide, inG11, tyX11_ok, nmX11, wd219, Or.inl rfl, by decide +kernel⟩
theorem po_RX6_15_6 (name : String) : Pok RX6 name 15 6 1 .int := ⟨RX6, TX6, 2, tyX6, rfl, by decide, inG6, tyX6_ok, nmX6, wd192, Or.inl rfl, by decide +kernel⟩
theorem po_RX12_100_12 (name : String) : Pok RX12 name 100 12 7 .int := ⟨RX12, TX12, 51, tyX12, rfl, by decide, inG12, tyX12_ok, nmX12, wd1032, Or.inl rfl, by decide +kernel⟩
theorem po_RX11_44_11 (name : String) : Pok RX11 name 44 11 12 .int := ⟨RX11, TX11, 16, tyX11, rfl, by decide, inG11, tyX11_ok, nmX11, wd216, Or.inl rfl, by decide +kernel⟩
theorem po_RX12_104_12 (name : String) : Pok RX12 name 104 12 4 .int := ⟨RX12, TX12, 51, tyX12, rfl, by decide, inG12, tyX12_ok, nmX12, wd1029, Or.inl rfl, by decide +kernel⟩
theorem po_RX4_12_4i : Pok RX4 "<init>" 12 4 0 (.object "MilestonesOn$Road") := ⟨RX4, TX4, 3, tyX4, rfl, by decide, inG4, tyX4_ok, nmX4, wd351, Or.inr ⟨rfl, rfl, rfl⟩, by decide +kernel⟩
theorem po_RX4_18_4i : Pok RX4 "<init>" 18 4 2 .int := ⟨RX4, TX4, 3, tyX4, rfl, by decide, inG4, tyX4_ok, nmX4, wd354, Or.inl rfl, by decide +kernel⟩
theorem po_RX4_22_4i : Pok RX4 "<init>" 22 4 1 (.object "MilestonesOn$Row") := ⟨RX4, TX4, 3, tyX4, rfl, by decide, inG4, tyX4_ok, nmX4, wd353, Or.inr ⟨rfl, rfl, rfl⟩, by decide +kernel⟩
theorem po_RX4_18_4 (name : String) : Pok RX4 name 18 4 2 .int := ⟨RX4, TX4, 3, tyX4, rfl, by decide, inG4, tyX4_ok, nmX4, wd354, Or.inl rfl, by decide +kernel⟩
theorem po_RX4_63_5 (name : String) : Pok RX4 name 63 5 4 .int := ⟨RX5, TX5, 10, tyX5, rfl, by decide, inG5, tyX5_ok, nmX5, wd45, Or.inl rfl, by decide +kernel⟩
theorem po_RX5_31_5 (name : String) : Pok RX5 name 31 5 5 .int := ⟨RX5, TX5, 10, tyX5, rfl, by decide, inG5, tyX5_ok, nmX5, wd47, Or.inl rfl, by decide +kernel⟩
theorem po_RX5_40_5 (name : String) : Pok RX5 name 40 5 8 .int := ⟨RX5, TX5, 10, tyX5, rfl, by decide, inG5, tyX5_ok, nmX5, wd58, Or.inl rfl, by decide +kernel⟩
theorem po_RX5_43_5 (name : String) : Pok RX5 name 43 5 9 .int := ⟨RX5, TX5, 10, tyX5, rfl, by decide, inG5, tyX5_ok, nmX5, wd59, Or.inl rfl, by decide +kernel⟩
theorem po_RX5_37_5 (name : String) : Pok RX5 name 37 5 7 .int := ⟨RX5, TX5, 10, tyX5, rfl, by decide, inG5, tyX5_ok, nmX5, wd56, Or.inl rfl, by decide +kernel⟩
theorem po_RX10_7_0i : Pok RX10 "<init>" 7 0 0 .int := ⟨RX0, TX0, 2, tyX0, rfl, by decide, inG0, tyX0_ok, nmX0, wd428, Or.inr ⟨rfl, rfl, rfl⟩, by decide +kernel⟩
theorem po_RX10_7_1i : Pok RX10 "<init>" 7 1 0 .int := ⟨RX1, TX1, 2, tyX1, rfl, by decide, inG1, tyX1_ok, nmX1, wd428, Or.inr ⟨rfl, rfl, rfl⟩, by decide +kernel⟩
theorem po_RX10_7_2i : Pok RX10 "<init>" 7 2 0 .int := ⟨RX2, TX2, 2, tyX2, rfl, by decide, inG2, tyX2_ok, nmX2, wd428, Or.inr ⟨rfl, rfl, rfl⟩, by decide +kernel⟩
theorem po_RX10_7_3i : Pok RX10 "<init>" 7 3 0 .int := ⟨RX3, TX3, 2, tyX3, rfl, by decide, inG3, tyX3_ok, nmX3, wd428, Or.inr ⟨rfl, rfl, rfl⟩, by decide +kernel⟩
theorem po_RX10_7_8i : Pok RX10 "<init>" 7 8 0 .int := ⟨RX8, TX8, 2, tyX8, rfl, by decide, inG8, tyX8_ok, nmX8, wd428, Or.inr ⟨rfl, rfl, rfl⟩, by decide +kernel⟩
theorem po_RX10_7_10i : Pok RX10 "<init>" 7 10 0 .int := ⟨RX10, TX10, 2, tyX10, rfl, by decide, inG10, tyX10_ok, nmX10, wd428, Or.inr ⟨rfl, rfl, rfl⟩, by decide +kernel⟩
theorem pw_RX10_7 : ∀ ci ∈ wkl, Pok RX10 "<init>" 7 ci 0 .int := by
  intro ci h
  have e : ci = 0 ∨ ci = 1 ∨ ci = 2 ∨ ci = 3 ∨ ci = 8 ∨ ci = 10 := by simpa [wkl] using h
  rcases e with rfl | rfl | rfl | rfl | rfl | rfl
  · exact po_RX10_7_0i
  · exact po_RX10_7_1i
  · exact po_RX10_7_2i
  · exact po_RX10_7_3i
  · exact po_RX10_7_8i
  · exact po_RX10_7_10i
theorem po_RX10_13_0i : Pok RX10 "<init>" 13 0 1 .int := ⟨RX0, TX0, 2, tyX0, rfl, by decide, inG0, tyX0_ok, nmX0, wd440, Or.inr ⟨rfl, rfl, rfl⟩, by decide +kernel⟩
theorem po_RX10_13_1i : Pok RX10 "<init>" 13 1 1 .int := ⟨RX1, TX1, 2, tyX1, rfl, by decide, inG1, tyX1_ok, nmX1, wd440, Or.inr ⟨rfl, rfl, rfl⟩, by decide +kernel⟩
theorem po_RX10_13_2i : Pok RX10 "<init>" 13 2 1 .int := ⟨RX2, TX2, 2, tyX2, rfl, by decide, inG2, tyX2_ok, nmX2, wd440, Or.inr ⟨rfl, rfl, rfl⟩, by decide +kernel⟩
theorem po_RX10_13_3i : Pok RX10 "<init>" 13 3 1 .int := ⟨RX3, TX3, 2, tyX3, rfl, by decide, inG3, tyX3_ok, nmX3, wd440, Or.inr ⟨rfl, rfl, rfl⟩, by decide +kernel⟩
theorem po_RX10_13_8i : Pok RX10 "<init>" 13 8 1 .int := ⟨RX8, TX8, 2, tyX8, rfl, by decide, inG8, tyX8_ok, nmX8, wd440, Or.inr ⟨rfl, rfl, rfl⟩, by decide +kernel⟩
theorem po_RX10_13_10i : Pok RX10 "<init>" 13 10 1 .int := ⟨RX10, TX10, 2, tyX10, rfl, by decide, inG10, tyX10_ok, nmX10, wd440, Or.inr ⟨rfl, rfl, rfl⟩, by decide +kernel⟩
theorem pw_RX10_13 : ∀ ci ∈ wkl, Pok RX10 "<init>" 13 ci 1 .int := by
  intro ci h
  have e : ci = 0 ∨ ci = 1 ∨ ci = 2 ∨ ci = 3 ∨ ci = 8 ∨ ci = 10 := by simpa [wkl] using h
  rcases e with rfl | rfl | rfl | rfl | rfl | rfl
  · exact po_RX10_13_0i
  · exact po_RX10_13_1i
  · exact po_RX10_13_2i
  · exact po_RX10_13_3i
  · exact po_RX10_13_8i
  · exact po_RX10_13_10i
theorem po_RX5_34_5 (name : String) : Pok RX5 name 34 5 6 .int := ⟨RX5, TX5, 10, tyX5, rfl, by decide, inG5, tyX5_ok, nmX5, wd52, Or.inl rfl, by decide +kernel⟩
theorem po_RX12_137_12 (name : String) : Pok RX12 name 137 12 27 .int := ⟨RX12, TX12, 51, tyX12, rfl, by decide, inG12, tyX12_ok, nmX12, wd1052, Or.inl rfl, by decide +kernel⟩
theorem po_RX12_143_12 (name : String) : Pok RX12 name 143 12 29 .int := ⟨RX12, TX12, 51, tyX12, rfl, by decide, inG12, tyX12_ok, nmX12, wd1054, Or.inl rfl, by decide +kernel⟩
theorem po_RX12_146_12 (name : String) : Pok RX12 name 146 12 30 .int := ⟨RX12, TX12, 51, tyX12, rfl, by decide, inG12, tyX12_ok, nmX12, wd1055, Or.inl rfl, by decide +kernel⟩
theorem po_RX12_153_12 (name : String) : Pok RX12 name 153 12 28 .int := ⟨RX12, TX12, 51, tyX12, rfl, by decide, inG12, tyX12_ok, nmX12, wd1053, Or.inl rfl, by decide +kernel⟩
theorem po_RX11_60_11 (name : String) : Pok RX11 name 60 11 8 (.object "MilestonesOn$Road") := ⟨RX11, TX11, 16, tyX11, rfl, by decide, inG11, tyX11_ok, nmX11, wd212, Or.inl rfl, by decide +kernel⟩
theorem po_RX11_34_11 (name : String) : Pok RX11 name 34 11 9 .int := ⟨RX11, TX11, 16, tyX11, rfl, by decide, inG11, tyX11_ok, nmX11, wd213, Or.inl rfl, by decide +kernel⟩
theorem po_RX11_38_11 (name : String) : Pok RX11 name 38 11 10 .int := ⟨RX11, TX11, 16, tyX11, rfl, by decide, inG11, tyX11_ok, nmX11, wd214, Or.inl rfl, by decide +kernel⟩
theorem po_RX11_41_11 (name : String) : Pok RX11 name 41 11 11 .int := ⟨RX11, TX11, 16, tyX11, rfl, by decide, inG11, tyX11_ok, nmX11, wd215, Or.inl rfl, by decide +kernel⟩
theorem po_RX12_172_12 (name : String) : Pok RX12 name 172 12 20 .int := ⟨RX12, TX12, 51, tyX12, rfl, by decide, inG12, tyX12_ok, nmX12, wd1045, Or.inl rfl, by decide +kernel⟩
theorem po_RX12_184_12 (name : String) : Pok RX12 name 184 12 17 .int := ⟨RX12, TX12, 51, tyX12, rfl, by decide, inG12, tyX12_ok, nmX12, wd1042, Or.inl rfl, by decide +kernel⟩
theorem po_RX12_187_12 (name : String) : Pok RX12 name 187 12 16 .int := ⟨RX12, TX12, 51, tyX12, rfl, by decide, inG12, tyX12_ok, nmX12, wd1041, Or.inl rfl, by decide +kernel⟩
theorem po_RX12_175_12 (name : String) : Pok RX12 name 175 12 9 .int := ⟨RX12, TX12, 51, tyX12, rfl, by decide, inG12, tyX12_ok, nmX12, wd1034, Or.inl rfl, by decide +kernel⟩
theorem po_RX12_178_12 (name : String) : Pok RX12 name 178 12 10 .int := ⟨RX12, TX12, 51, tyX12, rfl, by decide, inG12, tyX12_ok, nmX12, wd1035, Or.inl rfl, by decide +kernel⟩
theorem po_RX12_181_12 (name : String) : Pok RX12 name 181 12 12 .int := ⟨RX12, TX12, 51, tyX12, rfl, by decide, inG12, tyX12_ok, nmX12, wd1037, Or.inl rfl, by decide +kernel⟩
theorem po_RX9_33_9 (name : String) : Pok RX9 name 33 9 0 (.object "MilestonesOn$Road") := ⟨RX9, TX9, 8, tyX9, rfl, by decide, inG9, tyX9_ok, nmX9, wd87, Or.inl rfl, by decide +kernel⟩
theorem po_RX9_9_9 (name : String) : Pok RX9 name 9 9 1 .int := ⟨RX9, TX9, 8, tyX9, rfl, by decide, inG9, tyX9_ok, nmX9, wd88, Or.inl rfl, by decide +kernel⟩
theorem po_RX9_15_9 (name : String) : Pok RX9 name 15 9 2 .int := ⟨RX9, TX9, 8, tyX9, rfl, by decide, inG9, tyX9_ok, nmX9, wd91, Or.inl rfl, by decide +kernel⟩
theorem po_RX9_18_9 (name : String) : Pok RX9 name 18 9 3 .int := ⟨RX9, TX9, 8, tyX9, rfl, by decide, inG9, tyX9_ok, nmX9, wd93, Or.inl rfl, by decide +kernel⟩
theorem po_RX9_24_9 (name : String) : Pok RX9 name 24 9 5 .int := ⟨RX9, TX9, 8, tyX9, rfl, by decide, inG9, tyX9_ok, nmX9, wd98, Or.inl rfl, by decide +kernel⟩
theorem po_RX9_27_9 (name : String) : Pok RX9 name 27 9 6 .int := ⟨RX9, TX9, 8, tyX9, rfl, by decide, inG9, tyX9_ok, nmX9, wd101, Or.inl rfl, by decide +kernel⟩
theorem po_RX9_30_9 (name : String) : Pok RX9 name 30 9 7 .int := ⟨RX9, TX9, 8, tyX9, rfl, by decide, inG9, tyX9_ok, nmX9, wd103, Or.inl rfl, by decide +kernel⟩
theorem po_RX12_203_12 (name : String) : Pok RX12 name 203 12 38 .int := ⟨RX12, TX12, 51, tyX12, rfl, by decide, inG12, tyX12_ok, nmX12, wd1063, Or.inl rfl, by decide +kernel⟩
theorem po_RX9_21_9 (name : String) : Pok RX9 name 21 9 4 .int := ⟨RX9, TX9, 8, tyX9, rfl, by decide, inG9, tyX9_ok, nmX9, wd96, Or.inl rfl, by decide +kernel⟩
theorem po_RX7_59_7 (name : String) : Pok RX7 name 59 7 4 (.object "MilestonesOn$Road") := ⟨RX7, TX7, 17, tyX7, rfl, by decide, inG7, tyX7_ok, nmX7, wd133, Or.inl rfl, by decide +kernel⟩
theorem po_RX7_21_7 (name : String) : Pok RX7 name 21 7 5 .int := ⟨RX7, TX7, 17, tyX7, rfl, by decide, inG7, tyX7_ok, nmX7, wd134, Or.inl rfl, by decide +kernel⟩
theorem po_RX7_25_7 (name : String) : Pok RX7 name 25 7 6 .int := ⟨RX7, TX7, 17, tyX7, rfl, by decide, inG7, tyX7_ok, nmX7, wd135, Or.inl rfl, by decide +kernel⟩
theorem po_RX7_28_7 (name : String) : Pok RX7 name 28 7 7 .boolean := ⟨RX7, TX7, 17, tyX7, rfl, by decide, inG7, tyX7_ok, nmX7, wd136, Or.inl rfl, by decide +kernel⟩
theorem po_RX7_44_7 (name : String) : Pok RX7 name 44 7 12 .int := ⟨RX7, TX7, 17, tyX7, rfl, by decide, inG7, tyX7_ok, nmX7, wd141, Or.inl rfl, by decide +kernel⟩
theorem po_RX12_261_12 (name : String) : Pok RX12 name 261 12 41 .int := ⟨RX12, TX12, 51, tyX12, rfl, by decide, inG12, tyX12_ok, nmX12, wd1066, Or.inl rfl, by decide +kernel⟩
theorem po_RX12_264_12 (name : String) : Pok RX12 name 264 12 39 .int := ⟨RX12, TX12, 51, tyX12, rfl, by decide, inG12, tyX12_ok, nmX12, wd1064, Or.inl rfl, by decide +kernel⟩
theorem po_RX7_32_7 (name : String) : Pok RX7 name 32 7 8 (.array .int) := ⟨RX7, TX7, 17, tyX7, rfl, by decide, inG7, tyX7_ok, nmX7, wd137, Or.inl rfl, by decide +kernel⟩
theorem po_RX7_35_7 (name : String) : Pok RX7 name 35 7 9 (.array .int) := ⟨RX7, TX7, 17, tyX7, rfl, by decide, inG7, tyX7_ok, nmX7, wd138, Or.inl rfl, by decide +kernel⟩
theorem po_RX7_38_7 (name : String) : Pok RX7 name 38 7 10 (.array .int) := ⟨RX7, TX7, 17, tyX7, rfl, by decide, inG7, tyX7_ok, nmX7, wd139, Or.inl rfl, by decide +kernel⟩
theorem po_RX7_41_7 (name : String) : Pok RX7 name 41 7 11 .int := ⟨RX7, TX7, 17, tyX7, rfl, by decide, inG7, tyX7_ok, nmX7, wd140, Or.inl rfl, by decide +kernel⟩
theorem po_RX12_273_12 (name : String) : Pok RX12 name 273 12 45 .int := ⟨RX12, TX12, 51, tyX12, rfl, by decide, inG12, tyX12_ok, nmX12, wd1070, Or.inl rfl, by decide +kernel⟩
theorem po_RX12_279_12 (name : String) : Pok RX12 name 279 12 46 .int := ⟨RX12, TX12, 51, tyX12, rfl, by decide, inG12, tyX12_ok, nmX12, wd1071, Or.inl rfl, by decide +kernel⟩
theorem po_RX7_47_7 (name : String) : Pok RX7 name 47 7 13 .int := ⟨RX7, TX7, 17, tyX7, rfl, by decide, inG7, tyX7_ok, nmX7, wd142, Or.inl rfl, by decide +kernel⟩
theorem po_RX7_50_7 (name : String) : Pok RX7 name 50 7 14 .int := ⟨RX7, TX7, 17, tyX7, rfl, by decide, inG7, tyX7_ok, nmX7, wd144, Or.inl rfl, by decide +kernel⟩
theorem po_RX7_53_7 (name : String) : Pok RX7 name 53 7 15 .int := ⟨RX7, TX7, 17, tyX7, rfl, by decide, inG7, tyX7_ok, nmX7, wd146, Or.inl rfl, by decide +kernel⟩
theorem po_RX7_56_7 (name : String) : Pok RX7 name 56 7 16 .int := ⟨RX7, TX7, 17, tyX7, rfl, by decide, inG7, tyX7_ok, nmX7, wd148, Or.inl rfl, by decide +kernel⟩
theorem po_RX12_299_12 (name : String) : Pok RX12 name 299 12 50 .int := ⟨RX12, TX12, 51, tyX12, rfl, by decide, inG12, tyX12_ok, nmX12, wd1075, Or.inl rfl, by decide +kernel⟩
theorem po_RX12_296_12 (name : String) : Pok RX12 name 296 12 49 .int := ⟨RX12, TX12, 51, tyX12, rfl, by decide, inG12, tyX12_ok, nmX12, wd1074, Or.inl rfl, by decide +kernel⟩
theorem po_RX12_293_12 (name : String) : Pok RX12 name 293 12 48 .int := ⟨RX12, TX12, 51, tyX12, rfl, by decide, inG12, tyX12_ok, nmX12, wd1073, Or.inl rfl, by decide +kernel⟩
theorem po_RX12_290_12 (name : String) : Pok RX12 name 290 12 47 .int := ⟨RX12, TX12, 51, tyX12, rfl, by decide, inG12, tyX12_ok, nmX12, wd1072, Or.inl rfl, by decide +kernel⟩
theorem po_RX11_47_11 (name : String) : Pok RX11 name 47 11 13 .long := ⟨RX11, TX11, 16, tyX11, rfl, by decide, inG11, tyX11_ok, nmX11, wd217, Or.inl rfl, by decide +kernel⟩
theorem po_RX11_51_11 (name : String) : Pok RX11 name 51 11 14 .long := ⟨RX11, TX11, 16, tyX11, rfl, by decide, inG11, tyX11_ok, nmX11, wd218, Or.inl rfl, by decide +kernel⟩
theorem po_RX12_312_12 (name : String) : Pok RX12 name 312 12 5 .long := ⟨RX12, TX12, 51, tyX12, rfl, by decide, inG12, tyX12_ok, nmX12, wd1030, Or.inl rfl, by decide +kernel⟩
theorem po_RX12_22_12 (name : String) : Pok RX12 name 22 12 6 .long := ⟨RX12, TX12, 51, tyX12, rfl, by decide, inG12, tyX12_ok, nmX12, wd1031, Or.inl rfl, by decide +kernel⟩
abbrev kX5_init : Ka := (yX5_init, cX5_init, 1, none, 1, 20)
theorem okX5_init : Kok kX5_init 0 := ⟨wd33, by decide +kernel, by decide +kernel, by decide +kernel, wd2⟩
abbrev kX9_init : Ka := (yX9_init, cX9_init, 2, none, 1, 20)
theorem okX9_init : Kok kX9_init 1 := ⟨wd85, by decide +kernel, by decide +kernel, by decide +kernel, wd3⟩
abbrev kX7_init : Ka := (yX7_init, cX7_init, 2, none, 2, 41)
theorem okX7_init : Kok kX7_init 1 := ⟨wd125, by decide +kernel, by decide +kernel, by decide +kernel, wd4⟩
abbrev kX6_init : Ka := (yX6_init, cX6_init, 1, none, 1, 20)
theorem okX6_init : Kok kX6_init 0 := ⟨wd188, by decide +kernel, by decide +kernel, by decide +kernel, wd5⟩
abbrev kJ7_fill_53178 : Ka := (yJ7_fill_53178, cJ7_fill_53178, 4, none, 0, 0)
theorem okJ7_fill_53178 : Kok kJ7_fill_53178 2 := ⟨wd203, by decide +kernel, by decide +kernel, by decide +kernel, wd6⟩
abbrev kX11_init : Ka := (yX11_init, cX11_init, 2, none, 3, 62)
theorem okX11_init : Kok kX11_init 0 := ⟨wd21, by decide +kernel, by decide +kernel, by decide +kernel, wd1⟩
abbrev kX12_init : Ka := (yX12_init, cX12_init, 2, none, 1, 20)
theorem okX12_init : Kok kX12_init 0 := ⟨wd1022, by decide +kernel, by decide +kernel, by decide +kernel, wd7⟩
abbrev kX11_isBelow : Ka := (yX11_isBelow, cX11_isBelow, 2, some .boolean, 0, 0)
theorem okX11_isBelow : Kok kX11_isBelow 2 := ⟨wd259, by decide +kernel, by decide +kernel, by decide +kernel, wd1⟩
abbrev kX11_found : Ka := (yX11_found, cX11_found, 2, some .int, 0, 0)
theorem okX11_found : Kok kX11_found 1 := ⟨wd263, by decide +kernel, by decide +kernel, by decide +kernel, wd1⟩
abbrev kX6_begin : Ka := (yX6_begin, cX6_begin, 3, none, 1, 23)
theorem okX6_begin : Kok kX6_begin 2 := ⟨wd267, by decide +kernel, by decide +kernel, by decide +kernel, wd5⟩
abbrev kX11_row : Ka := (yX11_row, cX11_row, 3, some .int, 2, 45)
theorem okX11_row : Kok kX11_row 2 := ⟨wd256, by decide +kernel, by decide +kernel, by decide +kernel, wd1⟩
abbrev kX12_in : Ka := (yX12_in, cX12_in, 6, some .boolean, 0, 0)
theorem okX12_in : Kok kX12_in 3 := ⟨wd1190, by decide +kernel, by decide +kernel, by decide +kernel, wd7⟩
abbrev kX12_isRow : Ka := (yX12_isRow, cX12_isRow, 1, some .boolean, 1, 25)
theorem okX12_isRow : Kok kX12_isRow 1 := ⟨wd1186, by decide +kernel, by decide +kernel, by decide +kernel, wd7⟩
abbrev kX12_find : Ka := (yX12_find, cX12_find, 2, some .int, 0, 0)
theorem okX12_find : Kok kX12_find 1 := ⟨wd1194, by decide +kernel, by decide +kernel, by decide +kernel, wd7⟩
abbrev kX12_makes : Ka := (yX12_makes, cX12_makes, 4, none, 0, 0)
theorem okX12_makes : Kok kX12_makes 2 := ⟨wd1198, by decide +kernel, by decide +kernel, by decide +kernel, wd7⟩
abbrev kX12_row : Ka := (yX12_row, cX12_row, 3, some .int, 2, 45)
theorem okX12_row : Kok kX12_row 2 := ⟨wd1183, by decide +kernel, by decide +kernel, by decide +kernel, wd7⟩
abbrev kX6_isMissing : Ka := (yX6_isMissing, cX6_isMissing, 1, some .boolean, 0, 0)
theorem okX6_isMissing : Kok kX6_isMissing 0 := ⟨wd290, by decide +kernel, by decide +kernel, by decide +kernel, wd5⟩
abbrev kX11_refuseMissing : Ka := (yX11_refuseMissing, cX11_refuseMissing, 3, some .int, 1, 21)
theorem okX11_refuseMissing : Kok kX11_refuseMissing 2 := ⟨wd286, by decide +kernel, by decide +kernel, by decide +kernel, wd1⟩
abbrev kX6_has : Ka := (yX6_has, cX6_has, 2, some .boolean, 0, 0)
theorem okX6_has : Kok kX6_has 1 := ⟨wd294, by decide +kernel, by decide +kernel, by decide +kernel, wd5⟩
abbrev kX11_refusePlace : Ka := (yX11_refusePlace, cX11_refusePlace, 5, some .int, 2, 43)
theorem okX11_refusePlace : Kok kX11_refusePlace 3 := ⟨wd282, by decide +kernel, by decide +kernel, by decide +kernel, wd1⟩
abbrev kX6_get : Ka := (yX6_get, cX6_get, 2, some .int, 1, 21)
theorem okX6_get : Kok kX6_get 1 := ⟨wd298, by decide +kernel, by decide +kernel, by decide +kernel, wd5⟩
abbrev kX6_set : Ka := (yX6_set, cX6_set, 3, none, 1, 21)
theorem okX6_set : Kok kX6_set 2 := ⟨wd303, by decide +kernel, by decide +kernel, by decide +kernel, wd5⟩
abbrev kX11_lay : Ka := (yX11_lay, cX11_lay, 5, some .int, 3, 67)
theorem okX11_lay : Kok kX11_lay 3 := ⟨wd278, by decide +kernel, by decide +kernel, by decide +kernel, wd1⟩
abbrev kX12_lacks : Ka := (yX12_lacks, cX12_lacks, 3, some .int, 1, 25)
theorem okX12_lacks : Kok kX12_lacks 2 := ⟨wd1206, by decide +kernel, by decide +kernel, by decide +kernel, wd7⟩
abbrev kX12_lay : Ka := (yX12_lay, cX12_lay, 5, some .int, 2, 47)
theorem okX12_lay : Kok kX12_lay 3 := ⟨wd1202, by decide +kernel, by decide +kernel, by decide +kernel, wd7⟩
abbrev kX11_at : Ka := (yX11_at, cX11_at, 4, some .int, 3, 67)
theorem okX11_at : Kok kX11_at 2 := ⟨wd307, by decide +kernel, by decide +kernel, by decide +kernel, wd1⟩
abbrev kX12_tells : Ka := (yX12_tells, cX12_tells, 2, some .int, 0, 0)
theorem okX12_tells : Kok kX12_tells 1 := ⟨wd1214, by decide +kernel, by decide +kernel, by decide +kernel, wd7⟩
abbrev kX12_at : Ka := (yX12_at, cX12_at, 4, some .int, 2, 47)
theorem okX12_at : Kok kX12_at 2 := ⟨wd1210, by decide +kernel, by decide +kernel, by decide +kernel, wd7⟩
abbrev kX6_remove : Ka := (yX6_remove, cX6_remove, 1, none, 0, 0)
theorem okX6_remove : Kok kX6_remove 0 := ⟨wd315, by decide +kernel, by decide +kernel, by decide +kernel, wd5⟩
abbrev kX11_tear : Ka := (yX11_tear, cX11_tear, 3, some .int, 2, 43)
theorem okX11_tear : Kok kX11_tear 1 := ⟨wd311, by decide +kernel, by decide +kernel, by decide +kernel, wd1⟩
abbrev kX12_tear : Ka := (yX12_tear, cX12_tear, 2, some .int, 2, 45)
theorem okX12_tear : Kok kX12_tear 1 := ⟨wd1218, by decide +kernel, by decide +kernel, by decide +kernel, wd7⟩
abbrev kX6_hasPart : Ka := (yX6_hasPart, cX6_hasPart, 3, some .boolean, 0, 0)
theorem okX6_hasPart : Kok kX6_hasPart 2 := ⟨wd323, by decide +kernel, by decide +kernel, by decide +kernel, wd5⟩
abbrev kX11_copy : Ka := (yX11_copy, cX11_copy, 6, some .int, 1, 64)
theorem okX11_copy : Kok kX11_copy 5 := ⟨wd319, by decide +kernel, by decide +kernel, by decide +kernel, wd1⟩
abbrev kX12_copy : Ka := (yX12_copy, cX12_copy, 8, some .int, 2, 45)
theorem okX12_copy : Kok kX12_copy 5 := ⟨wd1222, by decide +kernel, by decide +kernel, by decide +kernel, wd7⟩
abbrev kX11_mean : Ka := (yX11_mean, cX11_mean, 7, some .int, 2, 43)
theorem okX11_mean : Kok kX11_mean 1 := ⟨wd330, by decide +kernel, by decide +kernel, by decide +kernel, wd1⟩
abbrev kX12_mean : Ka := (yX12_mean, cX12_mean, 5, some .int, 2, 45)
theorem okX12_mean : Kok kX12_mean 1 := ⟨wd1226, by decide +kernel, by decide +kernel, by decide +kernel, wd7⟩
abbrev kX11_text : Ka := (yX11_text, cX11_text, 3, some .int, 2, 45)
theorem okX11_text : Kok kX11_text 2 := ⟨wd334, by decide +kernel, by decide +kernel, by decide +kernel, wd1⟩
abbrev kX12_isText : Ka := (yX12_isText, cX12_isText, 1, some .boolean, 1, 25)
theorem okX12_isText : Kok kX12_isText 1 := ⟨wd1233, by decide +kernel, by decide +kernel, by decide +kernel, wd7⟩
abbrev kX12_text : Ka := (yX12_text, cX12_text, 4, some .int, 2, 45)
theorem okX12_text : Kok kX12_text 2 := ⟨wd1230, by decide +kernel, by decide +kernel, by decide +kernel, wd7⟩
abbrev kX11_put : Ka := (yX11_put, cX11_put, 6, some .int, 3, 67)
theorem okX11_put : Kok kX11_put 3 := ⟨wd338, by decide +kernel, by decide +kernel, by decide +kernel, wd1⟩
abbrev kX12_put : Ka := (yX12_put, cX12_put, 5, some .int, 2, 45)
theorem okX12_put : Kok kX12_put 3 := ⟨wd1238, by decide +kernel, by decide +kernel, by decide +kernel, wd7⟩
abbrev kX4_init : Ka := (yX4_init, cX4_init, 2, none, 2, 40)
theorem okX4_init : Kok kX4_init 1 := ⟨wd347, by decide +kernel, by decide +kernel, by decide +kernel, wd10⟩
abbrev kX4_skipBlanks : Ka := (yX4_skipBlanks, cX4_skipBlanks, 1, none, 2, 42)
theorem okX4_skipBlanks : Kok kX4_skipBlanks 0 := ⟨wd369, by decide +kernel, by decide +kernel, by decide +kernel, wd10⟩
abbrev kX4_sign : Ka := (yX4_sign, cX4_sign, 1, some .int, 2, 42)
theorem okX4_sign : Kok kX4_sign 0 := ⟨wd378, by decide +kernel, by decide +kernel, by decide +kernel, wd10⟩
abbrev kX4_isFigure : Ka := (yX4_isFigure, cX4_isFigure, 3, some .boolean, 3, 62)
theorem okX4_isFigure : Kok kX4_isFigure 2 := ⟨wd383, by decide +kernel, by decide +kernel, by decide +kernel, wd10⟩
abbrev kX4_takeFigure : Ka := (yX4_takeFigure, cX4_takeFigure, 2, some .int, 3, 62)
theorem okX4_takeFigure : Kok kX4_takeFigure 0 := ⟨wd387, by decide +kernel, by decide +kernel, by decide +kernel, wd10⟩
abbrev kX4_readPosts : Ka := (yX4_readPosts, cX4_readPosts, 1, some .boolean, 4, 84)
theorem okX4_readPosts : Kok kX4_readPosts 0 := ⟨wd374, by decide +kernel, by decide +kernel, by decide +kernel, wd10⟩
abbrev kX5_hasNumber : Ka := (yX5_hasNumber, cX5_hasNumber, 3, some .boolean, 0, 0)
theorem okX5_hasNumber : Kok kX5_hasNumber 1 := ⟨wd395, by decide +kernel, by decide +kernel, by decide +kernel, wd2⟩
abbrev kX5_withPost : Ka := (yX5_withPost, cX5_withPost, 3, some .int, 0, 0)
theorem okX5_withPost : Kok kX5_withPost 3 := ⟨wd402, by decide +kernel, by decide +kernel, by decide +kernel, wd2⟩
abbrev kX5_wayBetween : Ka := (yX5_wayBetween, cX5_wayBetween, 2, some .int, 1, 21)
theorem okX5_wayBetween : Kok kX5_wayBetween 2 := ⟨wd405, by decide +kernel, by decide +kernel, by decide +kernel, wd2⟩
abbrev kX5_addStone : Ka := (yX5_addStone, cX5_addStone, 5, none, 2, 42)
theorem okX5_addStone : Kok kX5_addStone 2 := ⟨wd399, by decide +kernel, by decide +kernel, by decide +kernel, wd2⟩
abbrev kX4_readStone : Ka := (yX4_readStone, cX4_readStone, 2, some .boolean, 4, 84)
theorem okX4_readStone : Kok kX4_readStone 0 := ⟨wd391, by decide +kernel, by decide +kernel, by decide +kernel, wd10⟩
abbrev kX4_isWalker : Ka := (yX4_isWalker, cX4_isWalker, 1, some .boolean, 0, 0)
theorem okX4_isWalker : Kok kX4_isWalker 1 := ⟨wd415, by decide +kernel, by decide +kernel, by decide +kernel, wd10⟩
abbrev kX10_init : Ka := (yX10_init, cX10_init, 3, none, 1, 20)
theorem okX10_init : Kok kX10_init 2 := ⟨wd426, by decide +kernel, by decide +kernel, by decide +kernel, wd11⟩
abbrev kX1_init : Ka := (yX1_init, cX1_init, 3, none, 2, 42)
theorem okX1_init : Kok kX1_init 2 := ⟨wd423, by decide +kernel, by decide +kernel, by decide +kernel, wd12⟩
abbrev kX0_init : Ka := (yX0_init, cX0_init, 3, none, 2, 42)
theorem okX0_init : Kok kX0_init 2 := ⟨wd461, by decide +kernel, by decide +kernel, by decide +kernel, wd13⟩
abbrev kX2_init : Ka := (yX2_init, cX2_init, 3, none, 2, 42)
theorem okX2_init : Kok kX2_init 2 := ⟨wd470, by decide +kernel, by decide +kernel, by decide +kernel, wd14⟩
abbrev kX8_init : Ka := (yX8_init, cX8_init, 3, none, 3, 64)
theorem okX8_init : Kok kX8_init 2 := ⟨wd479, by decide +kernel, by decide +kernel, by decide +kernel, wd15⟩
abbrev kX3_init : Ka := (yX3_init, cX3_init, 3, none, 3, 64)
theorem okX3_init : Kok kX3_init 2 := ⟨wd488, by decide +kernel, by decide +kernel, by decide +kernel, wd16⟩
abbrev kX4_make : Ka := (yX4_make, cX4_make, 3, some (.object "MilestonesOn$Walker"), 4, 86)
theorem okX4_make : Kok kX4_make 3 := ⟨wd418, by decide +kernel, by decide +kernel, by decide +kernel, wd10⟩
abbrev kX5_addWalker : Ka := (yX5_addWalker, cX5_addWalker, 2, none, 0, 0)
theorem okX5_addWalker : Kok kX5_addWalker 1 := ⟨wd502, by decide +kernel, by decide +kernel, by decide +kernel, wd2⟩
abbrev kX4_readWalker : Ka := (yX4_readWalker, cX4_readWalker, 3, some .boolean, 5, 108)
theorem okX4_readWalker : Kok kX4_readWalker 0 := ⟨wd412, by decide +kernel, by decide +kernel, by decide +kernel, wd10⟩
abbrev kX4_read : Ka := (yX4_read, cX4_read, 3, some .int, 6, 130)
theorem okX4_read : Kok kX4_read 0 := ⟨wd365, by decide +kernel, by decide +kernel, by decide +kernel, wd10⟩
abbrev kX11_fault : Ka := (yX11_fault, cX11_fault, 3, some .int, 7, 152)
theorem okX11_fault : Kok kX11_fault 1 := ⟨wd342, by decide +kernel, by decide +kernel, by decide +kernel, wd1⟩
abbrev kX12_here : Ka := (yX12_here, cX12_here, 2, some .int, 0, 0)
theorem okX12_here : Kok kX12_here 1 := ⟨wd1254, by decide +kernel, by decide +kernel, by decide +kernel, wd7⟩
abbrev kX12_skip : Ka := (yX12_skip, cX12_skip, 2, none, 1, 21)
theorem okX12_skip : Kok kX12_skip 1 := ⟨wd1250, by decide +kernel, by decide +kernel, by decide +kernel, wd7⟩
abbrev kX12_figure : Ka := (yX12_figure, cX12_figure, 6, some .int, 1, 25)
theorem okX12_figure : Kok kX12_figure 4 := ⟨wd1258, by decide +kernel, by decide +kernel, by decide +kernel, wd7⟩
abbrev kX12_takesStone : Ka := (yX12_takesStone, cX12_takesStone, 4, some .boolean, 2, 50)
theorem okX12_takesStone : Kok kX12_takesStone 1 := ⟨wd1262, by decide +kernel, by decide +kernel, by decide +kernel, wd7⟩
abbrev kX12_kindOf : Ka := (yX12_kindOf, cX12_kindOf, 1, some .int, 0, 0)
theorem okX12_kindOf : Kok kX12_kindOf 1 := ⟨wd1269, by decide +kernel, by decide +kernel, by decide +kernel, wd7⟩
abbrev kX12_takesWalker : Ka := (yX12_takesWalker, cX12_takesWalker, 4, some .boolean, 2, 50)
theorem okX12_takesWalker : Kok kX12_takesWalker 1 := ⟨wd1266, by decide +kernel, by decide +kernel, by decide +kernel, wd7⟩
abbrev kX12_reads : Ka := (yX12_reads, cX12_reads, 3, some .boolean, 3, 73)
theorem okX12_reads : Kok kX12_reads 1 := ⟨wd1246, by decide +kernel, by decide +kernel, by decide +kernel, wd7⟩
abbrev kX12_fault : Ka := (yX12_fault, cX12_fault, 2, some .int, 4, 95)
theorem okX12_fault : Kok kX12_fault 1 := ⟨wd1242, by decide +kernel, by decide +kernel, by decide +kernel, wd7⟩
abbrev kX11_road : Ka := (yX11_road, cX11_road, 4, some .int, 7, 152)
theorem okX11_road : Kok kX11_road 1 := ⟨wd506, by decide +kernel, by decide +kernel, by decide +kernel, wd1⟩
abbrev kX12_clear : Ka := (yX12_clear, cX12_clear, 2, none, 0, 0)
theorem okX12_clear : Kok kX12_clear 0 := ⟨wd1277, by decide +kernel, by decide +kernel, by decide +kernel, wd7⟩
abbrev kX12_road : Ka := (yX12_road, cX12_road, 3, some .int, 4, 95)
theorem okX12_road : Kok kX12_road 1 := ⟨wd1273, by decide +kernel, by decide +kernel, by decide +kernel, wd7⟩
abbrev kX5_postOf : Ka := (yX5_postOf, cX5_postOf, 2, some .int, 0, 0)
theorem okX5_postOf : Kok kX5_postOf 2 := ⟨wd520, by decide +kernel, by decide +kernel, by decide +kernel, wd2⟩
abbrev kX5_tellPost : Ka := (yX5_tellPost, cX5_tellPost, 3, some .int, 1, 21)
theorem okX5_tellPost : Kok kX5_tellPost 2 := ⟨wd517, by decide +kernel, by decide +kernel, by decide +kernel, wd2⟩
abbrev kX9_timesMoved : Ka := (yX9_timesMoved, cX9_timesMoved, 2, some .int, 1, 21)
theorem okX9_timesMoved : Kok kX9_timesMoved 1 := ⟨wd528, by decide +kernel, by decide +kernel, by decide +kernel, wd3⟩
abbrev kX11_allMoves : Ka := (yX11_allMoves, cX11_allMoves, 4, some .int, 2, 42)
theorem okX11_allMoves : Kok kX11_allMoves 1 := ⟨wd524, by decide +kernel, by decide +kernel, by decide +kernel, wd1⟩
abbrev kX11_ofStone : Ka := (yX11_ofStone, cX11_ofStone, 3, some .int, 3, 65)
theorem okX11_ofStone : Kok kX11_ofStone 2 := ⟨wd514, by decide +kernel, by decide +kernel, by decide +kernel, wd1⟩
abbrev kX11_stone : Ka := (yX11_stone, cX11_stone, 3, some .int, 4, 87)
theorem okX11_stone : Kok kX11_stone 2 := ⟨wd510, by decide +kernel, by decide +kernel, by decide +kernel, wd1⟩
abbrev kX12_isStone : Ka := (yX12_isStone, cX12_isStone, 2, some .boolean, 1, 25)
theorem okX12_isStone : Kok kX12_isStone 1 := ⟨wd1285, by decide +kernel, by decide +kernel, by decide +kernel, wd7⟩
abbrev kX12_spotOf : Ka := (yX12_spotOf, cX12_spotOf, 2, some .int, 0, 0)
theorem okX12_spotOf : Kok kX12_spotOf 2 := ⟨wd1288, by decide +kernel, by decide +kernel, by decide +kernel, wd7⟩
abbrev kX12_told : Ka := (yX12_told, cX12_told, 1, some .int, 0, 0)
theorem okX12_told : Kok kX12_told 1 := ⟨wd1291, by decide +kernel, by decide +kernel, by decide +kernel, wd7⟩
abbrev kX12_home : Ka := (yX12_home, cX12_home, 2, some .int, 0, 0)
theorem okX12_home : Kok kX12_home 1 := ⟨wd1295, by decide +kernel, by decide +kernel, by decide +kernel, wd7⟩
abbrev kX12_stone : Ka := (yX12_stone, cX12_stone, 3, some .int, 2, 46)
theorem okX12_stone : Kok kX12_stone 2 := ⟨wd1281, by decide +kernel, by decide +kernel, by decide +kernel, wd7⟩
abbrev kX5_walkerAt : Ka := (yX5_walkerAt, cX5_walkerAt, 2, some (.object "MilestonesOn$Walker"), 0, 0)
theorem okX5_walkerAt : Kok kX5_walkerAt 1 := ⟨wd541, by decide +kernel, by decide +kernel, by decide +kernel, wd2⟩
abbrev kX0_kind : Ka := (yX0_kind, cX0_kind, 1, some .int, 0, 0)
theorem okX0_kind : Kok kX0_kind 0 := ⟨wd548, by decide +kernel, by decide +kernel, by decide +kernel, wd13⟩
abbrev kX1_kind : Ka := (yX1_kind, cX1_kind, 1, some .int, 0, 0)
theorem okX1_kind : Kok kX1_kind 0 := ⟨wd551, by decide +kernel, by decide +kernel, by decide +kernel, wd12⟩
abbrev kX2_kind : Ka := (yX2_kind, cX2_kind, 1, some .int, 0, 0)
theorem okX2_kind : Kok kX2_kind 0 := ⟨wd554, by decide +kernel, by decide +kernel, by decide +kernel, wd14⟩
abbrev kX3_kind : Ka := (yX3_kind, cX3_kind, 1, some .int, 0, 0)
theorem okX3_kind : Kok kX3_kind 0 := ⟨wd557, by decide +kernel, by decide +kernel, by decide +kernel, wd16⟩
abbrev kX8_kind : Ka := (yX8_kind, cX8_kind, 1, some .int, 0, 0)
theorem okX8_kind : Kok kX8_kind 0 := ⟨wd560, by decide +kernel, by decide +kernel, by decide +kernel, wd15⟩
abbrev kX10_kind : Ka := (yX10_kind, cX10_kind, 1, some .int, 0, 0)
theorem okX10_kind : Kok kX10_kind 0 := ⟨wd561, by decide +kernel, by decide +kernel, by decide +kernel, wd11⟩
abbrev kX11_allPay : Ka := (yX11_allPay, cX11_allPay, 4, some .int, 0, 0)
theorem okX11_allPay : Kok kX11_allPay 1 := ⟨wd565, by decide +kernel, by decide +kernel, by decide +kernel, wd1⟩
abbrev kX11_ofWalker : Ka := (yX11_ofWalker, cX11_ofWalker, 4, some .int, 1, 23)
theorem okX11_ofWalker : Kok kX11_ofWalker 2 := ⟨wd537, by decide +kernel, by decide +kernel, by decide +kernel, wd1⟩
abbrev kX11_walker : Ka := (yX11_walker, cX11_walker, 3, some .int, 2, 46)
theorem okX11_walker : Kok kX11_walker 2 := ⟨wd533, by decide +kernel, by decide +kernel, by decide +kernel, wd1⟩
abbrev kX12_isWalker : Ka := (yX12_isWalker, cX12_isWalker, 2, some .boolean, 1, 25)
theorem okX12_isWalker : Kok kX12_isWalker 1 := ⟨wd1303, by decide +kernel, by decide +kernel, by decide +kernel, wd7⟩
abbrev kX12_walker : Ka := (yX12_walker, cX12_walker, 3, some .int, 2, 46)
theorem okX12_walker : Kok kX12_walker 2 := ⟨wd1299, by decide +kernel, by decide +kernel, by decide +kernel, wd7⟩
abbrev kX9_begin : Ka := (yX9_begin, cX9_begin, 4, none, 0, 0)
theorem okX9_begin : Kok kX9_begin 3 := ⟨wd573, by decide +kernel, by decide +kernel, by decide +kernel, wd3⟩
abbrev kX10_tell : Ka := (yX10_tell, cX10_tell, 3, some .int, 0, 0)
theorem okX10_tell : Kok kX10_tell 2 := ⟨wd672, by decide +kernel, by decide +kernel, by decide +kernel, wd11⟩
abbrev kX5_turnOf : Ka := (yX5_turnOf, cX5_turnOf, 4, some .int, 0, 0)
theorem okX5_turnOf : Kok kX5_turnOf 3 := ⟨wd603, by decide +kernel, by decide +kernel, by decide +kernel, wd2⟩
abbrev kX9_firstOn : Ka := (yX9_firstOn, cX9_firstOn, 11, some .int, 1, 23)
theorem okX9_firstOn : Kok kX9_firstOn 3 := ⟨wd598, by decide +kernel, by decide +kernel, by decide +kernel, wd3⟩
abbrev kX9_postNow : Ka := (yX9_postNow, cX9_postNow, 2, some .int, 1, 21)
theorem okX9_postNow : Kok kX9_postNow 1 := ⟨wd607, by decide +kernel, by decide +kernel, by decide +kernel, wd3⟩
abbrev kX10_nextTo : Ka := (yX10_nextTo, cX10_nextTo, 2, some .int, 0, 0)
theorem okX10_nextTo : Kok kX10_nextTo 2 := ⟨wd622, by decide +kernel, by decide +kernel, by decide +kernel, wd11⟩
abbrev kX10_goalFrom : Ka := (yX10_goalFrom, cX10_goalFrom, 3, some .int, 1, 21)
theorem okX10_goalFrom : Kok kX10_goalFrom 2 := ⟨wd619, by decide +kernel, by decide +kernel, by decide +kernel, wd11⟩
abbrev kX3_goalFrom : Ka := (yX3_goalFrom, cX3_goalFrom, 3, some .int, 0, 0)
theorem okX3_goalFrom : Kok kX3_goalFrom 2 := ⟨wd617, by decide +kernel, by decide +kernel, by decide +kernel, wd16⟩
abbrev kX9_carry : Ka := (yX9_carry, cX9_carry, 3, none, 1, 22)
theorem okX9_carry : Kok kX9_carry 2 := ⟨wd626, by decide +kernel, by decide +kernel, by decide +kernel, wd3⟩
abbrev kX10_goOneWay : Ka := (yX10_goOneWay, cX10_goOneWay, 5, none, 2, 53)
theorem okX10_goOneWay : Kok kX10_goOneWay 3 := ⟨wd594, by decide +kernel, by decide +kernel, by decide +kernel, wd11⟩
abbrev kX0_go : Ka := (yX0_go, cX0_go, 2, none, 3, 77)
theorem okX0_go : Kok kX0_go 1 := ⟨wd587, by decide +kernel, by decide +kernel, by decide +kernel, wd13⟩
abbrev kX9_unmoved : Ka := (yX9_unmoved, cX9_unmoved, 3, some .int, 1, 21)
theorem okX9_unmoved : Kok kX9_unmoved 0 := ⟨wd631, by decide +kernel, by decide +kernel, by decide +kernel, wd3⟩
abbrev kX0_tell : Ka := (yX0_tell, cX0_tell, 3, some .int, 4, 98)
theorem okX0_tell : Kok kX0_tell 2 := ⟨wd580, by decide +kernel, by decide +kernel, by decide +kernel, wd13⟩
abbrev kX1_go : Ka := (yX1_go, cX1_go, 6, none, 2, 53)
theorem okX1_go : Kok kX1_go 1 := ⟨wd639, by decide +kernel, by decide +kernel, by decide +kernel, wd12⟩
abbrev kX1_tell : Ka := (yX1_tell, cX1_tell, 3, some .int, 3, 78)
theorem okX1_tell : Kok kX1_tell 2 := ⟨wd634, by decide +kernel, by decide +kernel, by decide +kernel, wd12⟩
abbrev kX2_tell : Ka := (yX2_tell, cX2_tell, 3, some .int, 1, 22)
theorem okX2_tell : Kok kX2_tell 2 := ⟨wd648, by decide +kernel, by decide +kernel, by decide +kernel, wd14⟩
abbrev kX3_tell : Ka := (yX3_tell, cX3_tell, 3, some .int, 5, 120)
theorem okX3_tell : Kok kX3_tell 2 := ⟨wd654, by decide +kernel, by decide +kernel, by decide +kernel, wd16⟩
abbrev kX8_chosen : Ka := (yX8_chosen, cX8_chosen, 2, some .int, 2, 53)
theorem okX8_chosen : Kok kX8_chosen 1 := ⟨wd663, by decide +kernel, by decide +kernel, by decide +kernel, wd15⟩
abbrev kX9_numberOf : Ka := (yX9_numberOf, cX9_numberOf, 2, some .int, 0, 0)
theorem okX9_numberOf : Kok kX9_numberOf 1 := ⟨wd670, by decide +kernel, by decide +kernel, by decide +kernel, wd3⟩
abbrev kX8_tell : Ka := (yX8_tell, cX8_tell, 3, some .int, 3, 74)
theorem okX8_tell : Kok kX8_tell 2 := ⟨wd659, by decide +kernel, by decide +kernel, by decide +kernel, wd15⟩
abbrev kX11_mark : Ka := (yX11_mark, cX11_mark, 5, some .int, 6, 142)
theorem okX11_mark : Kok kX11_mark 2 := ⟨wd569, by decide +kernel, by decide +kernel, by decide +kernel, wd1⟩
abbrev kX12_isOf : Ka := (yX12_isOf, cX12_isOf, 2, some .boolean, 0, 0)
theorem okX12_isOf : Kok kX12_isOf 2 := ⟨wd1310, by decide +kernel, by decide +kernel, by decide +kernel, wd7⟩
abbrev kX12_spread : Ka := (yX12_spread, cX12_spread, 3, none, 0, 0)
theorem okX12_spread : Kok kX12_spread 1 := ⟨wd1318, by decide +kernel, by decide +kernel, by decide +kernel, wd7⟩
abbrev kX12_size : Ka := (yX12_size, cX12_size, 1, some .int, 0, 0)
theorem okX12_size : Kok kX12_size 1 := ⟨wd1329, by decide +kernel, by decide +kernel, by decide +kernel, wd7⟩
abbrev kX12_isAhead : Ka := (yX12_isAhead, cX12_isAhead, 7, some .boolean, 1, 21)
theorem okX12_isAhead : Kok kX12_isAhead 4 := ⟨wd1326, by decide +kernel, by decide +kernel, by decide +kernel, wd7⟩
abbrev kX12_taken : Ka := (yX12_taken, cX12_taken, 5, some .int, 2, 47)
theorem okX12_taken : Kok kX12_taken 2 := ⟨wd1322, by decide +kernel, by decide +kernel, by decide +kernel, wd7⟩
abbrev kX12_put_ : Ka := (yX12_put_, cX12_put_, 3, none, 0, 0)
theorem okX12_put_ : Kok kX12_put_ 2 := ⟨wd1333, by decide +kernel, by decide +kernel, by decide +kernel, wd7⟩
abbrev kX12_carries : Ka := (yX12_carries, cX12_carries, 10, none, 3, 71)
theorem okX12_carries : Kok kX12_carries 5 := ⟨wd1337, by decide +kernel, by decide +kernel, by decide +kernel, wd7⟩
abbrev kX12_behind : Ka := (yX12_behind, cX12_behind, 10, some .int, 4, 100)
theorem okX12_behind : Kok kX12_behind 3 := ⟨wd1314, by decide +kernel, by decide +kernel, by decide +kernel, wd7⟩
abbrev kX12_mark : Ka := (yX12_mark, cX12_mark, 6, some .int, 5, 129)
theorem okX12_mark : Kok kX12_mark 2 := ⟨wd1307, by decide +kernel, by decide +kernel, by decide +kernel, wd7⟩
abbrev kX11_law : Ka := (yX11_law, cX11_law, 3, some .int, 1, 21)
theorem okX11_law : Kok kX11_law 1 := ⟨wd676, by decide +kernel, by decide +kernel, by decide +kernel, wd1⟩
abbrev kX12_law : Ka := (yX12_law, cX12_law, 3, some .int, 1, 25)
theorem okX12_law : Kok kX12_law 1 := ⟨wd1341, by decide +kernel, by decide +kernel, by decide +kernel, wd7⟩
abbrev kX2_go : Ka := (yX2_go, cX2_go, 2, none, 3, 77)
theorem okX2_go : Kok kX2_go 1 := ⟨wd698, by decide +kernel, by decide +kernel, by decide +kernel, wd14⟩
abbrev kX8_go : Ka := (yX8_go, cX8_go, 2, none, 3, 74)
theorem okX8_go : Kok kX8_go 1 := ⟨wd706, by decide +kernel, by decide +kernel, by decide +kernel, wd15⟩
abbrev kX10_go : Ka := (yX10_go, cX10_go, 2, none, 3, 77)
theorem okX10_go : Kok kX10_go 1 := ⟨wd708, by decide +kernel, by decide +kernel, by decide +kernel, wd11⟩
abbrev kX9_send : Ka := (yX9_send, cX9_send, 3, none, 4, 98)
theorem okX9_send : Kok kX9_send 1 := ⟨wd688, by decide +kernel, by decide +kernel, by decide +kernel, wd3⟩
abbrev kX11_doWalk : Ka := (yX11_doWalk, cX11_doWalk, 3, some .int, 5, 120)
theorem okX11_doWalk : Kok kX11_doWalk 1 := ⟨wd684, by decide +kernel, by decide +kernel, by decide +kernel, wd1⟩
abbrev kX11_walk : Ka := (yX11_walk, cX11_walk, 2, some .int, 6, 142)
theorem okX11_walk : Kok kX11_walk 1 := ⟨wd680, by decide +kernel, by decide +kernel, by decide +kernel, wd1⟩
abbrev kX12_walks1 : Ka := (yX12_walks1, cX12_walks1, 3, some .int, 5, 129)
theorem okX12_walks1 : Kok kX12_walks1 1 := ⟨wd1350, by decide +kernel, by decide +kernel, by decide +kernel, wd7⟩
abbrev kX12_walk : Ka := (yX12_walk, cX12_walk, 2, some .int, 6, 151)
theorem okX12_walk : Kok kX12_walk 1 := ⟨wd1346, by decide +kernel, by decide +kernel, by decide +kernel, wd7⟩
abbrev kX5_farFromHome : Ka := (yX5_farFromHome, cX5_farFromHome, 5, some .int, 1, 21)
theorem okX5_farFromHome : Kok kX5_farFromHome 1 := ⟨wd717, by decide +kernel, by decide +kernel, by decide +kernel, wd2⟩
abbrev kX11_pays : Ka := (yX11_pays, cX11_pays, 2, some .int, 5, 120)
theorem okX11_pays : Kok kX11_pays 1 := ⟨wd713, by decide +kernel, by decide +kernel, by decide +kernel, wd1⟩
abbrev kX12_apartOf : Ka := (yX12_apartOf, cX12_apartOf, 5, some .int, 1, 21)
theorem okX12_apartOf : Kok kX12_apartOf 1 := ⟨wd1358, by decide +kernel, by decide +kernel, by decide +kernel, wd7⟩
abbrev kX12_pays : Ka := (yX12_pays, cX12_pays, 2, some .int, 5, 129)
theorem okX12_pays : Kok kX12_pays 1 := ⟨wd1354, by decide +kernel, by decide +kernel, by decide +kernel, wd7⟩
abbrev kX11_undo : Ka := (yX11_undo, cX11_undo, 3, some .int, 1, 21)
theorem okX11_undo : Kok kX11_undo 1 := ⟨wd721, by decide +kernel, by decide +kernel, by decide +kernel, wd1⟩
abbrev kX12_undo : Ka := (yX12_undo, cX12_undo, 4, some .int, 1, 25)
theorem okX12_undo : Kok kX12_undo 1 := ⟨wd1362, by decide +kernel, by decide +kernel, by decide +kernel, wd7⟩
abbrev kX11_walks : Ka := (yX11_walks, cX11_walks, 6, some .int, 6, 142)
theorem okX11_walks : Kok kX11_walks 1 := ⟨wd725, by decide +kernel, by decide +kernel, by decide +kernel, wd1⟩
abbrev kX12_walks : Ka := (yX12_walks, cX12_walks, 4, some .int, 6, 151)
theorem okX12_walks : Kok kX12_walks 1 := ⟨wd1366, by decide +kernel, by decide +kernel, by decide +kernel, wd7⟩
abbrev kX5_heapAt : Ka := (yX5_heapAt, cX5_heapAt, 5, some .int, 1, 21)
theorem okX5_heapAt : Kok kX5_heapAt 2 := ⟨wd737, by decide +kernel, by decide +kernel, by decide +kernel, wd2⟩
abbrev kX5_lostOf : Ka := (yX5_lostOf, cX5_lostOf, 2, some .int, 2, 45)
theorem okX5_lostOf : Kok kX5_lostOf 1 := ⟨wd733, by decide +kernel, by decide +kernel, by decide +kernel, wd2⟩
abbrev kX11_where : Ka := (yX11_where, cX11_where, 3, some .int, 3, 66)
theorem okX11_where : Kok kX11_where 1 := ⟨wd729, by decide +kernel, by decide +kernel, by decide +kernel, wd1⟩
abbrev kX12_where : Ka := (yX12_where, cX12_where, 4, some .int, 2, 45)
theorem okX12_where : Kok kX12_where 1 := ⟨wd1370, by decide +kernel, by decide +kernel, by decide +kernel, wd7⟩
abbrev kX5_homeOf : Ka := (yX5_homeOf, cX5_homeOf, 4, some .int, 1, 21)
theorem okX5_homeOf : Kok kX5_homeOf 1 := ⟨wd745, by decide +kernel, by decide +kernel, by decide +kernel, wd2⟩
abbrev kX11_apart : Ka := (yX11_apart, cX11_apart, 1, some .int, 2, 45)
theorem okX11_apart : Kok kX11_apart 0 := ⟨wd741, by decide +kernel, by decide +kernel, by decide +kernel, wd1⟩
abbrev kX12_isHome : Ka := (yX12_isHome, cX12_isHome, 3, some .boolean, 1, 21)
theorem okX12_isHome : Kok kX12_isHome 2 := ⟨wd1378, by decide +kernel, by decide +kernel, by decide +kernel, wd7⟩
abbrev kX12_apart : Ka := (yX12_apart, cX12_apart, 2, some .int, 2, 45)
theorem okX12_apart : Kok kX12_apart 0 := ⟨wd1374, by decide +kernel, by decide +kernel, by decide +kernel, wd7⟩
abbrev kX11_keep : Ka := (yX11_keep, cX11_keep, 2, some .int, 1, 21)
theorem okX11_keep : Kok kX11_keep 1 := ⟨wd749, by decide +kernel, by decide +kernel, by decide +kernel, wd1⟩
abbrev kX12_keep : Ka := (yX12_keep, cX12_keep, 2, some .int, 1, 25)
theorem okX12_keep : Kok kX12_keep 1 := ⟨wd1382, by decide +kernel, by decide +kernel, by decide +kernel, wd7⟩
abbrev kX11_on : Ka := (yX11_on, cX11_on, 2, some .int, 1, 21)
theorem okX11_on : Kok kX11_on 1 := ⟨wd753, by decide +kernel, by decide +kernel, by decide +kernel, wd1⟩
abbrev kX12_on : Ka := (yX12_on, cX12_on, 2, some .int, 1, 25)
theorem okX12_on : Kok kX12_on 1 := ⟨wd1386, by decide +kernel, by decide +kernel, by decide +kernel, wd7⟩
abbrev kX5_leastAt : Ka := (yX5_leastAt, cX5_leastAt, 5, some .int, 1, 21)
theorem okX5_leastAt : Kok kX5_leastAt 2 := ⟨wd762, by decide +kernel, by decide +kernel, by decide +kernel, wd2⟩
abbrev kX11_sees : Ka := (yX11_sees, cX11_sees, 2, some .int, 2, 45)
theorem okX11_sees : Kok kX11_sees 1 := ⟨wd757, by decide +kernel, by decide +kernel, by decide +kernel, wd1⟩
abbrev kX12_isPost : Ka := (yX12_isPost, cX12_isPost, 2, some .boolean, 1, 25)
theorem okX12_isPost : Kok kX12_isPost 1 := ⟨wd1394, by decide +kernel, by decide +kernel, by decide +kernel, wd7⟩
abbrev kX12_seen : Ka := (yX12_seen, cX12_seen, 5, some .int, 1, 21)
theorem okX12_seen : Kok kX12_seen 2 := ⟨wd1398, by decide +kernel, by decide +kernel, by decide +kernel, wd7⟩
abbrev kX12_sees : Ka := (yX12_sees, cX12_sees, 3, some .int, 2, 46)
theorem okX12_sees : Kok kX12_sees 1 := ⟨wd1390, by decide +kernel, by decide +kernel, by decide +kernel, wd7⟩
abbrev kX11_isSeenFrom : Ka := (yX11_isSeenFrom, cX11_isSeenFrom, 4, some .boolean, 2, 45)
theorem okX11_isSeenFrom : Kok kX11_isSeenFrom 2 := ⟨wd770, by decide +kernel, by decide +kernel, by decide +kernel, wd1⟩
abbrev kX11_may : Ka := (yX11_may, cX11_may, 6, some .int, 3, 68)
theorem okX11_may : Kok kX11_may 1 := ⟨wd766, by decide +kernel, by decide +kernel, by decide +kernel, wd1⟩
abbrev kX12_may : Ka := (yX12_may, cX12_may, 7, some .int, 2, 45)
theorem okX12_may : Kok kX12_may 1 := ⟨wd1402, by decide +kernel, by decide +kernel, by decide +kernel, wd7⟩
abbrev kX7_from : Ka := (yX7_from, cX7_from, 4, none, 0, 0)
theorem okX7_from : Kok kX7_from 3 := ⟨wd778, by decide +kernel, by decide +kernel, by decide +kernel, wd4⟩
abbrev kX7_rowsOf : Ka := (yX7_rowsOf, cX7_rowsOf, 4, some .int, 0, 0)
theorem okX7_rowsOf : Kok kX7_rowsOf 1 := ⟨wd786, by decide +kernel, by decide +kernel, by decide +kernel, wd4⟩
abbrev kX7_firstRow : Ka := (yX7_firstRow, cX7_firstRow, 1, none, 1, 23)
theorem okX7_firstRow : Kok kX7_firstRow 0 := ⟨wd790, by decide +kernel, by decide +kernel, by decide +kernel, wd4⟩
abbrev kX9_sendRow : Ka := (yX9_sendRow, cX9_sendRow, 5, none, 4, 98)
theorem okX9_sendRow : Kok kX9_sendRow 2 := ⟨wd796, by decide +kernel, by decide +kernel, by decide +kernel, wd3⟩
abbrev kX7_gather : Ka := (yX7_gather, cX7_gather, 3, none, 0, 0)
theorem okX7_gather : Kok kX7_gather 1 := ⟨wd800, by decide +kernel, by decide +kernel, by decide +kernel, wd4⟩
abbrev kX7_nextRow : Ka := (yX7_nextRow, cX7_nextRow, 3, none, 1, 21)
theorem okX7_nextRow : Kok kX7_nextRow 1 := ⟨wd804, by decide +kernel, by decide +kernel, by decide +kernel, wd4⟩
abbrev kX7_gatherEnds : Ka := (yX7_gatherEnds, cX7_gatherEnds, 4, some .int, 5, 122)
theorem okX7_gatherEnds : Kok kX7_gatherEnds 1 := ⟨wd782, by decide +kernel, by decide +kernel, by decide +kernel, wd4⟩
abbrev kX7_endAt : Ka := (yX7_endAt, cX7_endAt, 2, some .int, 0, 0)
theorem okX7_endAt : Kok kX7_endAt 1 := ⟨wd809, by decide +kernel, by decide +kernel, by decide +kernel, wd4⟩
abbrev kX11_standings : Ka := (yX11_standings, cX11_standings, 6, some .int, 6, 145)
theorem okX11_standings : Kok kX11_standings 2 := ⟨wd774, by decide +kernel, by decide +kernel, by decide +kernel, wd1⟩
abbrev kX12_power : Ka := (yX12_power, cX12_power, 4, some .int, 0, 0)
theorem okX12_power : Kok kX12_power 1 := ⟨wd1415, by decide +kernel, by decide +kernel, by decide +kernel, wd7⟩
abbrev kX12_behindRow : Ka := (yX12_behindRow, cX12_behindRow, 6, some .int, 5, 129)
theorem okX12_behindRow : Kok kX12_behindRow 2 := ⟨wd1419, by decide +kernel, by decide +kernel, by decide +kernel, wd7⟩
abbrev kX12_meets : Ka := (yX12_meets, cX12_meets, 7, none, 6, 154)
theorem okX12_meets : Kok kX12_meets 1 := ⟨wd1411, by decide +kernel, by decide +kernel, by decide +kernel, wd7⟩
abbrev kX12_standings : Ka := (yX12_standings, cX12_standings, 4, some .int, 7, 180)
theorem okX12_standings : Kok kX12_standings 2 := ⟨wd1407, by decide +kernel, by decide +kernel, by decide +kernel, wd7⟩
abbrev kX7_mostAlike : Ka := (yX7_mostAlike, cX7_mostAlike, 5, some .int, 2, 45)
theorem okX7_mostAlike : Kok kX7_mostAlike 1 := ⟨wd817, by decide +kernel, by decide +kernel, by decide +kernel, wd4⟩
abbrev kX11_look : Ka := (yX11_look, cX11_look, 6, some .int, 6, 145)
theorem okX11_look : Kok kX11_look 1 := ⟨wd813, by decide +kernel, by decide +kernel, by decide +kernel, wd1⟩
abbrev kX12_look : Ka := (yX12_look, cX12_look, 9, some .int, 7, 180)
theorem okX12_look : Kok kX12_look 1 := ⟨wd1423, by decide +kernel, by decide +kernel, by decide +kernel, wd7⟩
abbrev kX7_clearRoom : Ka := (yX7_clearRoom, cX7_clearRoom, 2, none, 1, 23)
theorem okX7_clearRoom : Kok kX7_clearRoom 0 := ⟨wd836, by decide +kernel, by decide +kernel, by decide +kernel, wd4⟩
abbrev kX7_isIn : Ka := (yX7_isIn, cX7_isIn, 2, some .boolean, 0, 0)
theorem okX7_isIn : Kok kX7_isIn 1 := ⟨wd844, by decide +kernel, by decide +kernel, by decide +kernel, wd4⟩
abbrev kX7_reach : Ka := (yX7_reach, cX7_reach, 4, none, 1, 21)
theorem okX7_reach : Kok kX7_reach 3 := ⟨wd840, by decide +kernel, by decide +kernel, by decide +kernel, wd4⟩
abbrev kX7_farTo : Ka := (yX7_farTo, cX7_farTo, 2, some .int, 1, 21)
theorem okX7_farTo : Kok kX7_farTo 1 := ⟨wd849, by decide +kernel, by decide +kernel, by decide +kernel, wd4⟩
abbrev kX7_explore : Ka := (yX7_explore, cX7_explore, 4, none, 5, 120)
theorem okX7_explore : Kok kX7_explore 0 := ⟨wd832, by decide +kernel, by decide +kernel, by decide +kernel, wd4⟩
abbrev kX5_isAllHome : Ka := (yX5_isAllHome, cX5_isAllHome, 2, some .boolean, 0, 0)
theorem okX5_isAllHome : Kok kX5_isAllHome 1 := ⟨wd853, by decide +kernel, by decide +kernel, by decide +kernel, wd2⟩
abbrev kX7_firstHome : Ka := (yX7_firstHome, cX7_firstHome, 2, some .int, 6, 143)
theorem okX7_firstHome : Kok kX7_firstHome 0 := ⟨wd828, by decide +kernel, by decide +kernel, by decide +kernel, wd4⟩
abbrev kX7_homesAsNear : Ka := (yX7_homesAsNear, cX7_homesAsNear, 4, some .int, 2, 42)
theorem okX7_homesAsNear : Kok kX7_homesAsNear 1 := ⟨wd857, by decide +kernel, by decide +kernel, by decide +kernel, wd4⟩
abbrev kX11_fewest : Ka := (yX11_fewest, cX11_fewest, 2, some .int, 7, 164)
theorem okX11_fewest : Kok kX11_fewest 0 := ⟨wd824, by decide +kernel, by decide +kernel, by decide +kernel, wd1⟩
abbrev kX12_goesOut : Ka := (yX12_goesOut, cX12_goesOut, 6, none, 5, 129)
theorem okX12_goesOut : Kok kX12_goesOut 1 := ⟨wd1435, by decide +kernel, by decide +kernel, by decide +kernel, wd7⟩
abbrev kX12_isDone : Ka := (yX12_isDone, cX12_isDone, 4, some .boolean, 2, 43)
theorem okX12_isDone : Kok kX12_isDone 1 := ⟨wd1439, by decide +kernel, by decide +kernel, by decide +kernel, wd7⟩
abbrev kX12_fewestBy : Ka := (yX12_fewestBy, cX12_fewestBy, 4, some .int, 6, 154)
theorem okX12_fewestBy : Kok kX12_fewestBy 1 := ⟨wd1431, by decide +kernel, by decide +kernel, by decide +kernel, wd7⟩
abbrev kX12_fewest : Ka := (yX12_fewest, cX12_fewest, 2, some .int, 7, 177)
theorem okX12_fewest : Kok kX12_fewest 0 := ⟨wd1427, by decide +kernel, by decide +kernel, by decide +kernel, wd7⟩
abbrev kX7_layWay : Ka := (yX7_layWay, cX7_layWay, 5, none, 2, 43)
theorem okX7_layWay : Kok kX7_layWay 2 := ⟨wd866, by decide +kernel, by decide +kernel, by decide +kernel, wd4⟩
abbrev kX11_way : Ka := (yX11_way, cX11_way, 4, some .int, 7, 164)
theorem okX11_way : Kok kX11_way 1 := ⟨wd862, by decide +kernel, by decide +kernel, by decide +kernel, wd1⟩
abbrev kX12_way : Ka := (yX12_way, cX12_way, 7, some .int, 7, 177)
theorem okX12_way : Kok kX12_way 1 := ⟨wd1443, by decide +kernel, by decide +kernel, by decide +kernel, wd7⟩
abbrev kX7_farthest : Ka := (yX7_farthest, cX7_farthest, 1, some .int, 6, 143)
theorem okX7_farthest : Kok kX7_farthest 0 := ⟨wd875, by decide +kernel, by decide +kernel, by decide +kernel, wd4⟩
abbrev kX7_reached : Ka := (yX7_reached, cX7_reached, 1, some .int, 6, 143)
theorem okX7_reached : Kok kX7_reached 0 := ⟨wd879, by decide +kernel, by decide +kernel, by decide +kernel, wd4⟩
abbrev kX11_all : Ka := (yX11_all, cX11_all, 1, some .int, 7, 163)
theorem okX11_all : Kok kX11_all 0 := ⟨wd871, by decide +kernel, by decide +kernel, by decide +kernel, wd1⟩
abbrev kX12_all : Ka := (yX12_all, cX12_all, 1, some .int, 6, 154)
theorem okX12_all : Kok kX12_all 0 := ⟨wd1447, by decide +kernel, by decide +kernel, by decide +kernel, wd7⟩
abbrev kX11_best : Ka := (yX11_best, cX11_best, 6, some .int, 7, 164)
theorem okX11_best : Kok kX11_best 0 := ⟨wd883, by decide +kernel, by decide +kernel, by decide +kernel, wd1⟩
abbrev kX12_best : Ka := (yX12_best, cX12_best, 5, some .int, 7, 177)
theorem okX12_best : Kok kX12_best 0 := ⟨wd1451, by decide +kernel, by decide +kernel, by decide +kernel, wd7⟩
abbrev kX7_leastApart : Ka := (yX7_leastApart, cX7_leastApart, 5, some .int, 6, 143)
theorem okX7_leastApart : Kok kX7_leastApart 0 := ⟨wd891, by decide +kernel, by decide +kernel, by decide +kernel, wd4⟩
abbrev kX11_nearest : Ka := (yX11_nearest, cX11_nearest, 2, some .int, 7, 167)
theorem okX11_nearest : Kok kX11_nearest 0 := ⟨wd887, by decide +kernel, by decide +kernel, by decide +kernel, wd1⟩
abbrev kX12_nearest : Ka := (yX12_nearest, cX12_nearest, 3, some .int, 6, 154)
theorem okX12_nearest : Kok kX12_nearest 0 := ⟨wd1455, by decide +kernel, by decide +kernel, by decide +kernel, wd7⟩
abbrev kX7_firstWith : Ka := (yX7_firstWith, cX7_firstWith, 4, some .int, 6, 143)
theorem okX7_firstWith : Kok kX7_firstWith 2 := ⟨wd900, by decide +kernel, by decide +kernel, by decide +kernel, wd4⟩
abbrev kX11_brings : Ka := (yX11_brings, cX11_brings, 4, some .int, 7, 166)
theorem okX11_brings : Kok kX11_brings 2 := ⟨wd896, by decide +kernel, by decide +kernel, by decide +kernel, wd1⟩
abbrev kX12_brings : Ka := (yX12_brings, cX12_brings, 4, some .int, 6, 154)
theorem okX12_brings : Kok kX12_brings 2 := ⟨wd1459, by decide +kernel, by decide +kernel, by decide +kernel, wd7⟩
abbrev kX7_figuresOf : Ka := (yX7_figuresOf, cX7_figuresOf, 4, some .int, 0, 0)
theorem okX7_figuresOf : Kok kX7_figuresOf 1 := ⟨wd913, by decide +kernel, by decide +kernel, by decide +kernel, wd4⟩
abbrev kX7_dearest : Ka := (yX7_dearest, cX7_dearest, 5, some .int, 5, 122)
theorem okX7_dearest : Kok kX7_dearest 1 := ⟨wd909, by decide +kernel, by decide +kernel, by decide +kernel, wd4⟩
abbrev kX11_earn : Ka := (yX11_earn, cX11_earn, 3, some .int, 6, 146)
theorem okX11_earn : Kok kX11_earn 1 := ⟨wd905, by decide +kernel, by decide +kernel, by decide +kernel, wd1⟩
abbrev kX12_earn : Ka := (yX12_earn, cX12_earn, 8, some .int, 6, 154)
theorem okX12_earn : Kok kX12_earn 1 := ⟨wd1463, by decide +kernel, by decide +kernel, by decide +kernel, wd7⟩
abbrev kX11_refuseStanding : Ka := (yX11_refuseStanding, cX11_refuseStanding, 5, some .int, 2, 43)
theorem okX11_refuseStanding : Kok kX11_refuseStanding 1 := ⟨wd921, by decide +kernel, by decide +kernel, by decide +kernel, wd1⟩
abbrev kX11_standingOf : Ka := (yX11_standingOf, cX11_standingOf, 4, some .int, 2, 42)
theorem okX11_standingOf : Kok kX11_standingOf 1 := ⟨wd925, by decide +kernel, by decide +kernel, by decide +kernel, wd1⟩
abbrev kX7_walkersOf : Ka := (yX7_walkersOf, cX7_walkersOf, 4, some .int, 0, 0)
theorem okX7_walkersOf : Kok kX7_walkersOf 1 := ⟨wd938, by decide +kernel, by decide +kernel, by decide +kernel, wd4⟩
abbrev kX7_compareRowsTo : Ka := (yX7_compareRowsTo, cX7_compareRowsTo, 5, none, 5, 122)
theorem okX7_compareRowsTo : Kok kX7_compareRowsTo 2 := ⟨wd934, by decide +kernel, by decide +kernel, by decide +kernel, wd4⟩
abbrev kX7_fewestTo : Ka := (yX7_fewestTo, cX7_fewestTo, 3, some .int, 6, 146)
theorem okX7_fewestTo : Kok kX7_fewestTo 1 := ⟨wd930, by decide +kernel, by decide +kernel, by decide +kernel, wd4⟩
abbrev kX11_moved : Ka := (yX11_moved, cX11_moved, 4, some .int, 7, 168)
theorem okX11_moved : Kok kX11_moved 1 := ⟨wd917, by decide +kernel, by decide +kernel, by decide +kernel, wd1⟩
abbrev kX12_bars : Ka := (yX12_bars, cX12_bars, 4, some .int, 2, 46)
theorem okX12_bars : Kok kX12_bars 1 := ⟨wd1472, by decide +kernel, by decide +kernel, by decide +kernel, wd7⟩
abbrev kX12_looks : Ka := (yX12_looks, cX12_looks, 9, none, 6, 154)
theorem okX12_looks : Kok kX12_looks 2 := ⟨wd1480, by decide +kernel, by decide +kernel, by decide +kernel, wd7⟩
abbrev kX12_fewestTo : Ka := (yX12_fewestTo, cX12_fewestTo, 2, some .int, 7, 182)
theorem okX12_fewestTo : Kok kX12_fewestTo 0 := ⟨wd1476, by decide +kernel, by decide +kernel, by decide +kernel, wd7⟩
abbrev kX12_moved : Ka := (yX12_moved, cX12_moved, 4, some .int, 8, 203)
theorem okX12_moved : Kok kX12_moved 1 := ⟨wd1468, by decide +kernel, by decide +kernel, by decide +kernel, wd7⟩
abbrev kX11_who : Ka := (yX11_who, cX11_who, 4, some .int, 7, 168)
theorem okX11_who : Kok kX11_who 1 := ⟨wd942, by decide +kernel, by decide +kernel, by decide +kernel, wd1⟩
abbrev kX12_who : Ka := (yX12_who, cX12_who, 4, some .int, 8, 203)
theorem okX12_who : Kok kX12_who 1 := ⟨wd1484, by decide +kernel, by decide +kernel, by decide +kernel, wd7⟩
abbrev kX7_rowsWith : Ka := (yX7_rowsWith, cX7_rowsWith, 7, some .int, 5, 122)
theorem okX7_rowsWith : Kok kX7_rowsWith 3 := ⟨wd950, by decide +kernel, by decide +kernel, by decide +kernel, wd4⟩
abbrev kX11_tellFraction : Ka := (yX11_tellFraction, cX11_tellFraction, 7, none, 0, 0)
theorem okX11_tellFraction : Kok kX11_tellFraction 2 := ⟨wd956, by decide +kernel, by decide +kernel, by decide +kernel, wd1⟩
abbrev kX11_odds : Ka := (yX11_odds, cX11_odds, 5, some .int, 6, 148)
theorem okX11_odds : Kok kX11_odds 3 := ⟨wd946, by decide +kernel, by decide +kernel, by decide +kernel, wd1⟩
abbrev kX12_odds : Ka := (yX12_odds, cX12_odds, 9, some .int, 6, 154)
theorem okX12_odds : Kok kX12_odds 3 := ⟨wd1488, by decide +kernel, by decide +kernel, by decide +kernel, wd7⟩
abbrev kX5_fullestPost : Ka := (yX5_fullestPost, cX5_fullestPost, 4, some .int, 2, 45)
theorem okX5_fullestPost : Kok kX5_fullestPost 1 := ⟨wd966, by decide +kernel, by decide +kernel, by decide +kernel, wd2⟩
abbrev kX11_years : Ka := (yX11_years, cX11_years, 6, some .int, 5, 120)
theorem okX11_years : Kok kX11_years 2 := ⟨wd960, by decide +kernel, by decide +kernel, by decide +kernel, wd1⟩
abbrev kX12_years : Ka := (yX12_years, cX12_years, 10, some .int, 5, 129)
theorem okX12_years : Kok kX12_years 2 := ⟨wd1492, by decide +kernel, by decide +kernel, by decide +kernel, wd7⟩
abbrev kX11_asked : Ka := (yX11_asked, cX11_asked, 1, some .int, 0, 0)
theorem okX11_asked : Kok kX11_asked 0 := ⟨wd970, by decide +kernel, by decide +kernel, by decide +kernel, wd1⟩
abbrev kX12_asked : Ka := (yX12_asked, cX12_asked, 1, some .int, 0, 0)
theorem okX12_asked : Kok kX12_asked 0 := ⟨wd1500, by decide +kernel, by decide +kernel, by decide +kernel, wd7⟩
abbrev kX11_upper : Ka := (yX11_upper, cX11_upper, 1, some .long, 0, 0)
theorem okX11_upper : Kok kX11_upper 0 := ⟨wd974, by decide +kernel, by decide +kernel, by decide +kernel, wd1⟩
abbrev kX12_upper : Ka := (yX12_upper, cX12_upper, 1, some .long, 0, 0)
theorem okX12_upper : Kok kX12_upper 0 := ⟨wd1504, by decide +kernel, by decide +kernel, by decide +kernel, wd7⟩
abbrev kX11_lower : Ka := (yX11_lower, cX11_lower, 1, some .long, 0, 0)
theorem okX11_lower : Kok kX11_lower 0 := ⟨wd978, by decide +kernel, by decide +kernel, by decide +kernel, wd1⟩
abbrev kX12_lower : Ka := (yX12_lower, cX12_lower, 1, some .long, 0, 0)
theorem okX12_lower : Kok kX12_lower 0 := ⟨wd1508, by decide +kernel, by decide +kernel, by decide +kernel, wd7⟩
abbrev kX5_bothWays : Ka := (yX5_bothWays, cX5_bothWays, 3, some .int, 0, 0)
theorem okX5_bothWays : Kok kX5_bothWays 0 := ⟨wd986, by decide +kernel, by decide +kernel, by decide +kernel, wd2⟩
abbrev kX11_thereOf : Ka := (yX11_thereOf, cX11_thereOf, 3, some .int, 1, 20)
theorem okX11_thereOf : Kok kX11_thereOf 1 := ⟨wd990, by decide +kernel, by decide +kernel, by decide +kernel, wd1⟩
abbrev kX5_lameOnes : Ka := (yX5_lameOnes, cX5_lameOnes, 3, some .int, 0, 0)
theorem okX5_lameOnes : Kok kX5_lameOnes 0 := ⟨wd994, by decide +kernel, by decide +kernel, by decide +kernel, wd2⟩
abbrev kX11_count : Ka := (yX11_count, cX11_count, 2, some .int, 3, 66)
theorem okX11_count : Kok kX11_count 1 := ⟨wd982, by decide +kernel, by decide +kernel, by decide +kernel, wd1⟩
abbrev kX12_ofKind : Ka := (yX12_ofKind, cX12_ofKind, 4, some .int, 1, 21)
theorem okX12_ofKind : Kok kX12_ofKind 1 := ⟨wd1516, by decide +kernel, by decide +kernel, by decide +kernel, wd7⟩
abbrev kX12_there : Ka := (yX12_there, cX12_there, 4, some .int, 0, 0)
theorem okX12_there : Kok kX12_there 2 := ⟨wd1519, by decide +kernel, by decide +kernel, by decide +kernel, wd7⟩
abbrev kX12_count : Ka := (yX12_count, cX12_count, 4, some .int, 2, 44)
theorem okX12_count : Kok kX12_count 1 := ⟨wd1512, by decide +kernel, by decide +kernel, by decide +kernel, wd7⟩
abbrev kX11_finding : Ka := (yX11_finding, cX11_finding, 1, some .int, 0, 0)
theorem okX11_finding : Kok kX11_finding 0 := ⟨wd999, by decide +kernel, by decide +kernel, by decide +kernel, wd1⟩
abbrev kX12_finding : Ka := (yX12_finding, cX12_finding, 1, some .int, 0, 0)
theorem okX12_finding : Kok kX12_finding 0 := ⟨wd1523, by decide +kernel, by decide +kernel, by decide +kernel, wd7⟩
abbrev kX11_findings : Ka := (yX11_findings, cX11_findings, 2, some .int, 0, 0)
theorem okX11_findings : Kok kX11_findings 1 := ⟨wd1003, by decide +kernel, by decide +kernel, by decide +kernel, wd1⟩
abbrev kX12_findings : Ka := (yX12_findings, cX12_findings, 2, some .int, 1, 25)
theorem okX12_findings : Kok kX12_findings 1 := ⟨wd1527, by decide +kernel, by decide +kernel, by decide +kernel, wd7⟩
abbrev kX11_digestKept : Ka := (yX11_digestKept, cX11_digestKept, 7, some .long, 2, 43)
theorem okX11_digestKept : Kok kX11_digestKept 1 := ⟨wd1014, by decide +kernel, by decide +kernel, by decide +kernel, wd1⟩
abbrev kX11_digestRows : Ka := (yX11_digestRows, cX11_digestRows, 7, some .long, 2, 42)
theorem okX11_digestRows : Kok kX11_digestRows 2 := ⟨wd1017, by decide +kernel, by decide +kernel, by decide +kernel, wd1⟩
abbrev kX11_digest : Ka := (yX11_digest, cX11_digest, 5, some .long, 4, 87)
theorem okX11_digest : Kok kX11_digest 0 := ⟨wd1007, by decide +kernel, by decide +kernel, by decide +kernel, wd1⟩
abbrev kX12_digest : Ka := (yX12_digest, cX12_digest, 5, some .long, 3, 67)
theorem okX12_digest : Kok kX12_digest 0 := ⟨wd1531, by decide +kernel, by decide +kernel, by decide +kernel, wd7⟩
abbrev kL_law : Ka := (x, code, 4, some .boolean, 11, 454)
theorem bl_0 : bl 0 := rfl
theorem bl_1 : bl 1 := rfl
