theorem acI : Cond.arrayClass .int ∈ oTB := (oT1 59 rfl rfl)
theorem acL : Cond.arrayClass .long ∈ oTB := (oT1 177 rfl rfl)
theorem dfX0  : ∀ j, j < 10 → defaultValue (tyX0 j) = vp_V (oFm 0 (fun _ => 0) (fun _ => 0) 0 [(1, 0), (1, 0), (0, 0), (0, 0), (0, 0), (0, 0), (0, 0), (0, 0), (1, 0), (1, 0)]) j := fun j hj => match j, hj with
  | 0, _ => rfl
  | 1, _ => rfl
  | 2, _ => rfl
  | 3, _ => rfl
  | 4, _ => rfl
  | 5, _ => rfl
  | 6, _ => rfl
  | 7, _ => rfl
  | 8, _ => rfl
  | 9, _ => rfl
  | k + 10, h => absurd h (by omega)
theorem dfX1 (a1 a2 a5 a6 a9 : Nat) : ∀ j, j < 10 → defaultValue (tyX1 j) = vp_V (oFm 0 (fun _ => 0) (fun _ => 0) 0 [(0, 0), (2, a1), (2, a2), (0, 0), (0, 0), (2, a5), (2, a6), (0, 0), (0, 0), (2, a9)]) j := fun j hj => match j, hj with
  | 0, _ => rfl
  | 1, _ => rfl
  | 2, _ => rfl
  | 3, _ => rfl
  | 4, _ => rfl
  | 5, _ => rfl
  | 6, _ => rfl
  | 7, _ => rfl
  | 8, _ => rfl
  | 9, _ => rfl
  | k + 10, h => absurd h (by omega)
theorem dfX2 (a1 a2 a3 a4 : Nat) : ∀ j, j < 5 → defaultValue (tyX2 j) = vp_V (oFm 0 (fun _ => 0) (fun _ => 0) 0 [(0, 0), (2, a1), (2, a2), (2, a3), (2, a4)]) j := fun j hj => match j, hj with
  | 0, _ => rfl
  | 1, _ => rfl
  | 2, _ => rfl
  | 3, _ => rfl
  | 4, _ => rfl
  | k + 5, h => absurd h (by omega)
theorem dfX3 (a1 a2 : Nat) : ∀ j, j < 3 → defaultValue (tyX3 j) = vp_V (oFm 0 (fun _ => 0) (fun _ => 0) 0 [(0, 0), (2, a1), (2, a2)]) j := fun j hj => match j, hj with
  | 0, _ => rfl
  | 1, _ => rfl
  | 2, _ => rfl
  | k + 3, h => absurd h (by omega)
theorem dfX4 (a0 a1 : Nat) : ∀ j, j < 2 → defaultValue (tyX4 j) = vp_V (oFm 0 (fun _ => 0) (fun _ => 0) 0 [(2, a0), (2, a1)]) j := fun j hj => match j, hj with
  | 0, _ => rfl
  | 1, _ => rfl
  | k + 2, h => absurd h (by omega)
theorem dfX5 (a1 : Nat) : ∀ j, j < 2 → defaultValue (tyX5 j) = vp_V (oFm 0 (fun _ => 0) (fun _ => 0) 0 [(0, 0), (2, a1)]) j := fun j hj => match j, hj with
  | 0, _ => rfl
  | 1, _ => rfl
  | k + 2, h => absurd h (by omega)
theorem dfX6 (a1 : Nat) : ∀ j, j < 2 → defaultValue (tyX6 j) = vp_V (oFm 0 (fun _ => 0) (fun _ => 0) 0 [(0, 0), (2, a1)]) j := fun j hj => match j, hj with
  | 0, _ => rfl
  | 1, _ => rfl
  | k + 2, h => absurd h (by omega)
theorem dfX7 (a0 a1 : Nat) : ∀ j, j < 2 → defaultValue (tyX7 j) = vp_V (oFm 0 (fun _ => 0) (fun _ => 0) 0 [(2, a0), (2, a1)]) j := fun j hj => match j, hj with
  | 0, _ => rfl
  | 1, _ => rfl
  | k + 2, h => absurd h (by omega)
theorem dfX8 (a0 a1 a2 a4 a5 a6 a7 : Nat) : ∀ j, j < 8 → defaultValue (tyX8 j) = vp_V (oFm 0 (fun _ => 0) (fun _ => 0) 0 [(2, a0), (2, a1), (2, a2), (0, 0), (2, a4), (2, a5), (2, a6), (2, a7)]) j := fun j hj => match j, hj with
  | 0, _ => rfl
  | 1, _ => rfl
  | 2, _ => rfl
  | 3, _ => rfl
  | 4, _ => rfl
  | 5, _ => rfl
  | 6, _ => rfl
  | 7, _ => rfl
  | k + 8, h => absurd h (by omega)
theorem dfX9 (a0 a1 a2 a4 a5 a6 a7 a10 a13 : Nat) : ∀ j, j < 22 → defaultValue (tyX9 j) = vp_V (oFm 0 (fun _ => 0) (fun _ => 0) 0 [(2, a0), (2, a1), (2, a2), (0, 0), (2, a4), (2, a5), (2, a6), (2, a7), (0, 0), (0, 0), (2, a10), (0, 0), (0, 0), (2, a13), (0, 0), (0, 0), (0, 0), (0, 0), (0, 0), (0, 0), (1, 0), (1, 0)]) j := fun j hj => match j, hj with
  | 0, _ => rfl
  | 1, _ => rfl
  | 2, _ => rfl
  | 3, _ => rfl
  | 4, _ => rfl
  | 5, _ => rfl
  | 6, _ => rfl
  | 7, _ => rfl
  | 8, _ => rfl
  | 9, _ => rfl
  | 10, _ => rfl
  | 11, _ => rfl
  | 12, _ => rfl
  | 13, _ => rfl
  | 14, _ => rfl
  | 15, _ => rfl
  | 16, _ => rfl
  | 17, _ => rfl
  | 18, _ => rfl
  | 19, _ => rfl
  | 20, _ => rfl
  | 21, _ => rfl
  | k + 22, h => absurd h (by omega)
theorem oc_b20 : (Int8.ofInt 20).toInt32 = 20 := by decide +kernel
theorem oc_s240 : (Int16.ofInt 240).toInt32 = 240 := by decide +kernel
theorem oc_b18 : (Int8.ofInt 18).toInt32 = 18 := by decide +kernel
theorem fp_RX6_9 : oFp RX6 9 6 0 .int := ⟨RX6, TX6, 2, tyX6, rfl, Nat.le_of_ble_eq_true rfl, inX6, wd_1_140, tyX6_ok, nmX6, rfl, by decide +kernel⟩
theorem ff_RX1_15 : oFf RX1 15 1 1 := ⟨RX1, TX1, 10, tyX1, tyX1 1, rfl, Nat.le_of_ble_eq_true rfl, inX1, wd_1_95, tyX1_ok, nmX1, rfl, rfl, by decide +kernel, fun _ => ⟨rfl, rfl⟩⟩
theorem ff_RX1_19 : oFf RX1 19 1 2 := ⟨RX1, TX1, 10, tyX1, tyX1 2, rfl, Nat.le_of_ble_eq_true rfl, inX1, wd_1_97, tyX1_ok, nmX1, rfl, rfl, by decide +kernel, fun _ => ⟨rfl, rfl⟩⟩
theorem ff_RX1_31 : oFf RX1 31 1 5 := ⟨RX1, TX1, 10, tyX1, tyX1 5, rfl, Nat.le_of_ble_eq_true rfl, inX1, wd_1_103, tyX1_ok, nmX1, rfl, rfl, by decide +kernel, fun _ => ⟨rfl, rfl⟩⟩
theorem ff_RX1_38 : oFf RX1 38 1 6 := ⟨RX1, TX1, 10, tyX1, tyX1 6, rfl, Nat.le_of_ble_eq_true rfl, inX1, wd_1_105, tyX1_ok, nmX1, rfl, rfl, by decide +kernel, fun _ => ⟨rfl, rfl⟩⟩
theorem ff_RX1_52 : oFf RX1 52 1 9 := ⟨RX1, TX1, 10, tyX1, tyX1 9, rfl, Nat.le_of_ble_eq_true rfl, inX1, wd_1_111, tyX1_ok, nmX1, rfl, rfl, by decide +kernel, fun _ => ⟨rfl, rfl⟩⟩
theorem ff_RX2_15 : oFf RX2 15 2 1 := ⟨RX2, TX2, 5, tyX2, tyX2 1, rfl, Nat.le_of_ble_eq_true rfl, inX2, wd_1_38, tyX2_ok, nmX2, rfl, rfl, by decide +kernel, fun _ => ⟨rfl, rfl⟩⟩
theorem ff_RX2_19 : oFf RX2 19 2 2 := ⟨RX2, TX2, 5, tyX2, tyX2 2, rfl, Nat.le_of_ble_eq_true rfl, inX2, wd_1_40, tyX2_ok, nmX2, rfl, rfl, by decide +kernel, fun _ => ⟨rfl, rfl⟩⟩
theorem ff_RX2_22 : oFf RX2 22 2 3 := ⟨RX2, TX2, 5, tyX2, tyX2 3, rfl, Nat.le_of_ble_eq_true rfl, inX2, wd_1_42, tyX2_ok, nmX2, rfl, rfl, by decide +kernel, fun _ => ⟨rfl, rfl⟩⟩
theorem ff_RX2_25 : oFf RX2 25 2 4 := ⟨RX2, TX2, 5, tyX2, tyX2 4, rfl, Nat.le_of_ble_eq_true rfl, inX2, wd_1_45, tyX2_ok, nmX2, rfl, rfl, by decide +kernel, fun _ => ⟨rfl, rfl⟩⟩
theorem ff_RX3_15 : oFf RX3 15 3 1 := ⟨RX3, TX3, 3, tyX3, tyX3 1, rfl, Nat.le_of_ble_eq_true rfl, inX3, wd_1_82, tyX3_ok, nmX3, rfl, rfl, by decide +kernel, fun _ => ⟨rfl, rfl⟩⟩
theorem ff_RX3_19 : oFf RX3 19 3 2 := ⟨RX3, TX3, 3, tyX3, tyX3 2, rfl, Nat.le_of_ble_eq_true rfl, inX3, wd_1_84, tyX3_ok, nmX3, rfl, rfl, by decide +kernel, fun _ => ⟨rfl, rfl⟩⟩
theorem ff_RX4_15 : oFf RX4 15 4 1 := ⟨RX4, TX4, 2, tyX4, tyX4 1, rfl, Nat.le_of_ble_eq_true rfl, inX4, wd_1_171, tyX4_ok, nmX4, rfl, rfl, by decide +kernel, fun _ => ⟨rfl, rfl⟩⟩
theorem ff_RX4_9 : oFf RX4 9 4 0 := ⟨RX4, TX4, 2, tyX4, tyX4 0, rfl, Nat.le_of_ble_eq_true rfl, inX4, wd_1_170, tyX4_ok, nmX4, rfl, rfl, by decide +kernel, fun _ => ⟨rfl, rfl⟩⟩
theorem ff_RX5_15 : oFf RX5 15 5 1 := ⟨RX5, TX5, 2, tyX5, tyX5 1, rfl, Nat.le_of_ble_eq_true rfl, inX5, wd_1_157, tyX5_ok, nmX5, rfl, rfl, by decide +kernel, fun _ => ⟨rfl, rfl⟩⟩
theorem ff_RX6_15 : oFf RX6 15 6 1 := ⟨RX6, TX6, 2, tyX6, tyX6 1, rfl, Nat.le_of_ble_eq_true rfl, inX6, wd_1_142, tyX6_ok, nmX6, rfl, rfl, by decide +kernel, fun _ => ⟨rfl, rfl⟩⟩
theorem ff_RX7_15 : oFf RX7 15 7 1 := ⟨RX7, TX7, 2, tyX7, tyX7 1, rfl, Nat.le_of_ble_eq_true rfl, inX7, wd_1_67, tyX7_ok, nmX7, rfl, rfl, by decide +kernel, fun _ => ⟨rfl, rfl⟩⟩
theorem ff_RX7_9 : oFf RX7 9 7 0 := ⟨RX7, TX7, 2, tyX7, tyX7 0, rfl, Nat.le_of_ble_eq_true rfl, inX7, wd_1_66, tyX7_ok, nmX7, rfl, rfl, by decide +kernel, fun _ => ⟨rfl, rfl⟩⟩
theorem ff_RX8_12 : oFf RX8 12 8 0 := ⟨RX8, TX8, 8, tyX8, tyX8 0, rfl, Nat.le_of_ble_eq_true rfl, inX8, wd_1_215, tyX8_ok, nmX8, rfl, rfl, by decide +kernel, fun _ => ⟨rfl, rfl⟩⟩
theorem ff_RX8_18 : oFf RX8 18 8 1 := ⟨RX8, TX8, 8, tyX8, tyX8 1, rfl, Nat.le_of_ble_eq_true rfl, inX8, wd_1_216, tyX8_ok, nmX8, rfl, rfl, by decide +kernel, fun _ => ⟨rfl, rfl⟩⟩
theorem ff_RX8_21 : oFf RX8 21 8 2 := ⟨RX8, TX8, 8, tyX8, tyX8 2, rfl, Nat.le_of_ble_eq_true rfl, inX8, wd_1_217, tyX8_ok, nmX8, rfl, rfl, by decide +kernel, fun _ => ⟨rfl, rfl⟩⟩
theorem ff_RX8_31 : oFf RX8 31 8 4 := ⟨RX8, TX8, 8, tyX8, tyX8 4, rfl, Nat.le_of_ble_eq_true rfl, inX8, wd_1_219, tyX8_ok, nmX8, rfl, rfl, by decide +kernel, fun _ => ⟨rfl, rfl⟩⟩
theorem ff_RX8_38 : oFf RX8 38 8 5 := ⟨RX8, TX8, 8, tyX8, tyX8 5, rfl, Nat.le_of_ble_eq_true rfl, inX8, wd_1_220, tyX8_ok, nmX8, rfl, rfl, by decide +kernel, fun _ => ⟨rfl, rfl⟩⟩
theorem ff_RX8_45 : oFf RX8 45 8 6 := ⟨RX8, TX8, 8, tyX8, tyX8 6, rfl, Nat.le_of_ble_eq_true rfl, inX8, wd_1_221, tyX8_ok, nmX8, rfl, rfl, by decide +kernel, fun _ => ⟨rfl, rfl⟩⟩
theorem ff_RX8_52 : oFf RX8 52 8 7 := ⟨RX8, TX8, 8, tyX8, tyX8 7, rfl, Nat.le_of_ble_eq_true rfl, inX8, wd_1_222, tyX8_ok, nmX8, rfl, rfl, by decide +kernel, fun _ => ⟨rfl, rfl⟩⟩
theorem ff_RX9_11 : oFf RX9 11 9 0 := ⟨RX9, TX9, 22, tyX9, tyX9 0, rfl, Nat.le_of_ble_eq_true rfl, inX9, wd_4_90, tyX9_ok, nmX9, rfl, rfl, by decide +kernel, fun _ => ⟨rfl, rfl⟩⟩
theorem ff_RX9_15 : oFf RX9 15 9 1 := ⟨RX9, TX9, 22, tyX9, tyX9 1, rfl, Nat.le_of_ble_eq_true rfl, inX9, wd_4_91, tyX9_ok, nmX9, rfl, rfl, by decide +kernel, fun _ => ⟨rfl, rfl⟩⟩
theorem ff_RX9_18 : oFf RX9 18 9 2 := ⟨RX9, TX9, 22, tyX9, tyX9 2, rfl, Nat.le_of_ble_eq_true rfl, inX9, wd_4_92, tyX9_ok, nmX9, rfl, rfl, by decide +kernel, fun _ => ⟨rfl, rfl⟩⟩
theorem ff_RX9_21 : oFf RX9 21 9 4 := ⟨RX9, TX9, 22, tyX9, tyX9 4, rfl, Nat.le_of_ble_eq_true rfl, inX9, wd_4_94, tyX9_ok, nmX9, rfl, rfl, by decide +kernel, fun _ => ⟨rfl, rfl⟩⟩
theorem ff_RX9_24 : oFf RX9 24 9 5 := ⟨RX9, TX9, 22, tyX9, tyX9 5, rfl, Nat.le_of_ble_eq_true rfl, inX9, wd_4_95, tyX9_ok, nmX9, rfl, rfl, by decide +kernel, fun _ => ⟨rfl, rfl⟩⟩
theorem ff_RX9_27 : oFf RX9 27 9 6 := ⟨RX9, TX9, 22, tyX9, tyX9 6, rfl, Nat.le_of_ble_eq_true rfl, inX9, wd_4_96, tyX9_ok, nmX9, rfl, rfl, by decide +kernel, fun _ => ⟨rfl, rfl⟩⟩
theorem ff_RX9_30 : oFf RX9 30 9 7 := ⟨RX9, TX9, 22, tyX9, tyX9 7, rfl, Nat.le_of_ble_eq_true rfl, inX9, wd_4_97, tyX9_ok, nmX9, rfl, rfl, by decide +kernel, fun _ => ⟨rfl, rfl⟩⟩
theorem ff_RX9_34 : oFf RX9 34 9 10 := ⟨RX9, TX9, 22, tyX9, tyX9 10, rfl, Nat.le_of_ble_eq_true rfl, inX9, wd_4_100, tyX9_ok, nmX9, rfl, rfl, by decide +kernel, fun _ => ⟨rfl, rfl⟩⟩
theorem ff_RX9_37 : oFf RX9 37 9 13 := ⟨RX9, TX9, 22, tyX9, tyX9 13, rfl, Nat.le_of_ble_eq_true rfl, inX9, wd_4_103, tyX9_ok, nmX9, rfl, rfl, by decide +kernel, fun _ => ⟨rfl, rfl⟩⟩
abbrev M_X2_init : oD := (yX2_init, cX2_init, 1, none, { frames := 1, cells := 4, slots := 40, locals := 12 })
theorem mc_X2_init : oMc M_X2_init := ⟨wd_1_3, wd_1_34, ⟨by decide +kernel, by decide +kernel⟩, by decide +kernel, by decide +kernel, rfl, wd_1_33, rfl, (Nat.le_of_ble_eq_true rfl)⟩
def K_X2_init_4 (m : oM) : oM := (oSI (oSI (oSI (oSI (oSI m 4 0 0) 4 1 1) 4 2 1) 4 3 1) 4 4 1)
set_option maxRecDepth 100000 in
set_option maxHeartbeats 4000000 in
theorem E_X2_init_4 {G : oG} {m : oM} : oEvM G M_X2_init 4 5 m 9 (K_X2_init_4 m) := by
  refine ⟨⟨41, [(0, .ref 4)], dX2_init_41, ?_⟩, ?_⟩
  · refine oSeg.aload_n 1 dX2_init_0 0 rfl rfl (Nat.le_of_ble_eq_true rfl) rfl ?_
    refine oSeg.objInit 4 (Nat.le_of_ble_eq_true rfl) dX2_init_1 wd_1_35 wd_1_22 wd_1_23 (Nat.le_of_ble_eq_true rfl) (Nat.le_of_ble_eq_true rfl) rfl ?_
    refine oSeg.aload_n 5 dX2_init_4 0 rfl rfl (Nat.le_of_ble_eq_true rfl) rfl ?_
    refine oSeg.iconst 6 dX2_init_5 oc_i0 rfl ?_
    refine oSeg.putI 9 dX2_init_6 fp_RX2_9 (Nat.le_of_ble_eq_true rfl) rfl rfl rfl ?_
    refine oSeg.aload_n 10 dX2_init_9 0 rfl rfl (Nat.le_of_ble_eq_true rfl) rfl ?_
    refine oSeg.bipush 12 dX2_init_10 oc_b10 rfl ?_
    refine oSeg.newi 14 dX2_init_12 rfl acI (by decide) rfl (Nat.le_of_ble_eq_true rfl) (fun _ => rfl) (Nat.le_of_ble_eq_true rfl) (Nat.le_of_ble_eq_true rfl) (Nat.le_of_ble_eq_true rfl) rfl ?_
    refine oSeg.putR 17 dX2_init_14 rfl ff_RX2_15 (Nat.le_of_ble_eq_true rfl) rfl rfl (Nat.le_of_ble_eq_true rfl) rfl ?_
    refine oSeg.aload_n 18 dX2_init_17 0 rfl rfl (Nat.le_of_ble_eq_true rfl) rfl ?_
    refine oSeg.bipush 20 dX2_init_18 oc_b10 rfl ?_
    refine oSeg.newi 22 dX2_init_20 rfl acI (by decide) rfl (Nat.le_of_ble_eq_true rfl) (fun h => absurd h (by decide)) (Nat.le_of_ble_eq_true rfl) (Nat.le_of_ble_eq_true rfl) (Nat.le_of_ble_eq_true rfl) rfl ?_
    refine oSeg.putR 25 dX2_init_22 rfl ff_RX2_19 (Nat.le_of_ble_eq_true rfl) rfl rfl (Nat.le_of_ble_eq_true rfl) rfl ?_
    refine oSeg.aload_n 26 dX2_init_25 0 rfl rfl (Nat.le_of_ble_eq_true rfl) rfl ?_
    refine oSeg.bipush 28 dX2_init_26 oc_b10 rfl ?_
    refine oSeg.newi 30 dX2_init_28 rfl acI (by decide) rfl (Nat.le_of_ble_eq_true rfl) (fun h => absurd h (by decide)) (Nat.le_of_ble_eq_true rfl) (Nat.le_of_ble_eq_true rfl) (Nat.le_of_ble_eq_true rfl) rfl ?_
    refine oSeg.putR 33 dX2_init_30 rfl ff_RX2_22 (Nat.le_of_ble_eq_true rfl) rfl rfl (Nat.le_of_ble_eq_true rfl) rfl ?_
    refine oSeg.aload_n 34 dX2_init_33 0 rfl rfl (Nat.le_of_ble_eq_true rfl) rfl ?_
    refine oSeg.bipush 36 dX2_init_34 oc_b10 rfl ?_
    refine oSeg.newi 38 dX2_init_36 rfl acI (by decide) rfl (Nat.le_of_ble_eq_true rfl) (fun h => absurd h (by decide)) (Nat.le_of_ble_eq_true rfl) (Nat.le_of_ble_eq_true rfl) (Nat.le_of_ble_eq_true rfl) rfl ?_
    refine oSeg.putR 41 dX2_init_38 rfl ff_RX2_25 (Nat.le_of_ble_eq_true rfl) rfl rfl (Nat.le_of_ble_eq_true rfl) rfl ?_
    exact oSeg.done
  · intro hz
    unfold K_X2_init_4
    refine oZr_SI (Nat.le_of_ble_eq_true rfl) ?_
    refine oZr_SI (Nat.le_of_ble_eq_true rfl) ?_
    refine oZr_SI (Nat.le_of_ble_eq_true rfl) ?_
    refine oZr_SI (Nat.le_of_ble_eq_true rfl) ?_
    refine oZr_SI (Nat.le_of_ble_eq_true rfl) ?_
    exact oZr_le (Nat.le_of_ble_eq_true rfl) hz
abbrev M_X7_init : oD := (yX7_init, cX7_init, 1, none, { frames := 1, cells := 2, slots := 24, locals := 12 })
theorem mc_X7_init : oMc M_X7_init := ⟨wd_1_4, wd_1_64, ⟨by decide +kernel, by decide +kernel⟩, by decide +kernel, by decide +kernel, rfl, wd_1_63, rfl, (Nat.le_of_ble_eq_true rfl)⟩
def K_X7_init_9 (m : oM) : oM := (oSI (oSI m 9 0 1) 9 1 1)
set_option maxRecDepth 100000 in
set_option maxHeartbeats 4000000 in
theorem E_X7_init_9 {G : oG} {m : oM} : oEvM G M_X7_init 9 10 m 12 (K_X7_init_9 m) := by
  refine ⟨⟨20, [(0, .ref 9)], dX7_init_20, ?_⟩, ?_⟩
  · refine oSeg.aload_n 1 dX7_init_0 0 rfl rfl (Nat.le_of_ble_eq_true rfl) rfl ?_
    refine oSeg.objInit 4 (Nat.le_of_ble_eq_true rfl) dX7_init_1 wd_1_65 wd_1_22 wd_1_23 (Nat.le_of_ble_eq_true rfl) (Nat.le_of_ble_eq_true rfl) rfl ?_
    refine oSeg.aload_n 5 dX7_init_4 0 rfl rfl (Nat.le_of_ble_eq_true rfl) rfl ?_
    refine oSeg.bipush 7 dX7_init_5 oc_b6 rfl ?_
    refine oSeg.newi 9 dX7_init_7 rfl acI (by decide) rfl (Nat.le_of_ble_eq_true rfl) (fun _ => rfl) (Nat.le_of_ble_eq_true rfl) (Nat.le_of_ble_eq_true rfl) (Nat.le_of_ble_eq_true rfl) rfl ?_
    refine oSeg.putR 12 dX7_init_9 rfl ff_RX7_9 (Nat.le_of_ble_eq_true rfl) rfl rfl (Nat.le_of_ble_eq_true rfl) rfl ?_
    refine oSeg.aload_n 13 dX7_init_12 0 rfl rfl (Nat.le_of_ble_eq_true rfl) rfl ?_
    refine oSeg.bipush 15 dX7_init_13 oc_b18 rfl ?_
    refine oSeg.newi 17 dX7_init_15 rfl acI (by decide) rfl (Nat.le_of_ble_eq_true rfl) (fun h => absurd h (by decide)) (Nat.le_of_ble_eq_true rfl) (Nat.le_of_ble_eq_true rfl) (Nat.le_of_ble_eq_true rfl) rfl ?_
    refine oSeg.putR 20 dX7_init_17 rfl ff_RX7_15 (Nat.le_of_ble_eq_true rfl) rfl rfl (Nat.le_of_ble_eq_true rfl) rfl ?_
    exact oSeg.done
  · intro hz
    unfold K_X7_init_9
    refine oZr_SI (Nat.le_of_ble_eq_true rfl) ?_
    refine oZr_SI (Nat.le_of_ble_eq_true rfl) ?_
    exact oZr_le (Nat.le_of_ble_eq_true rfl) hz
abbrev M_X3_init : oD := (yX3_init, cX3_init, 1, none, { frames := 1, cells := 2, slots := 16, locals := 12 })
theorem mc_X3_init : oMc M_X3_init := ⟨wd_1_5, wd_1_77, ⟨by decide +kernel, by decide +kernel⟩, by decide +kernel, by decide +kernel, rfl, wd_1_76, rfl, (Nat.le_of_ble_eq_true rfl)⟩
def K_X3_init_12 (m : oM) : oM := (oSI (oSI (oSI m 12 0 0) 12 1 1) 12 2 1)
set_option maxRecDepth 100000 in
set_option maxHeartbeats 4000000 in
theorem E_X3_init_12 {G : oG} {m : oM} : oEvM G M_X3_init 12 13 m 15 (K_X3_init_12 m) := by
  refine ⟨⟨25, [(0, .ref 12)], dX3_init_25, ?_⟩, ?_⟩
  · refine oSeg.aload_n 1 dX3_init_0 0 rfl rfl (Nat.le_of_ble_eq_true rfl) rfl ?_
    refine oSeg.objInit 4 (Nat.le_of_ble_eq_true rfl) dX3_init_1 wd_1_78 wd_1_22 wd_1_23 (Nat.le_of_ble_eq_true rfl) (Nat.le_of_ble_eq_true rfl) rfl ?_
    refine oSeg.aload_n 5 dX3_init_4 0 rfl rfl (Nat.le_of_ble_eq_true rfl) rfl ?_
    refine oSeg.iconst 6 dX3_init_5 oc_i0 rfl ?_
    refine oSeg.putI 9 dX3_init_6 fp_RX3_9 (Nat.le_of_ble_eq_true rfl) rfl rfl rfl ?_
    refine oSeg.aload_n 10 dX3_init_9 0 rfl rfl (Nat.le_of_ble_eq_true rfl) rfl ?_
    refine oSeg.bipush 12 dX3_init_10 oc_b8 rfl ?_
    refine oSeg.newi 14 dX3_init_12 rfl acI (by decide) rfl (Nat.le_of_ble_eq_true rfl) (fun _ => rfl) (Nat.le_of_ble_eq_true rfl) (Nat.le_of_ble_eq_true rfl) (Nat.le_of_ble_eq_true rfl) rfl ?_
    refine oSeg.putR 17 dX3_init_14 rfl ff_RX3_15 (Nat.le_of_ble_eq_true rfl) rfl rfl (Nat.le_of_ble_eq_true rfl) rfl ?_
    refine oSeg.aload_n 18 dX3_init_17 0 rfl rfl (Nat.le_of_ble_eq_true rfl) rfl ?_
    refine oSeg.bipush 20 dX3_init_18 oc_b8 rfl ?_
    refine oSeg.newi 22 dX3_init_20 rfl acI (by decide) rfl (Nat.le_of_ble_eq_true rfl) (fun h => absurd h (by decide)) (Nat.le_of_ble_eq_true rfl) (Nat.le_of_ble_eq_true rfl) (Nat.le_of_ble_eq_true rfl) rfl ?_
    refine oSeg.putR 25 dX3_init_22 rfl ff_RX3_19 (Nat.le_of_ble_eq_true rfl) rfl rfl (Nat.le_of_ble_eq_true rfl) rfl ?_
    exact oSeg.done
  · intro hz
    unfold K_X3_init_12
    refine oZr_SI (Nat.le_of_ble_eq_true rfl) ?_
    refine oZr_SI (Nat.le_of_ble_eq_true rfl) ?_
    refine oZr_SI (Nat.le_of_ble_eq_true rfl) ?_
    exact oZr_le (Nat.le_of_ble_eq_true rfl) hz
abbrev M_X1_init : oD := (yX1_init, cX1_init, 1, none, { frames := 2, cells := 13, slots := 102, locals := 32 })
theorem mc_X1_init : oMc M_X1_init := ⟨wd_1_2, wd_1_28, ⟨by decide +kernel, by decide +kernel⟩, by decide +kernel, by decide +kernel, rfl, wd_1_27, rfl, (Nat.le_of_ble_eq_true rfl)⟩
def K_X1_init_1 (m : oM) : oM := (oSI (K_X3_init_12 (oSI (oSI (oSI (K_X7_init_9 (oSI (K_X2_init_4 (oSI (oSI (oSI (oSI (oSI m 1 0 0) 1 1 1) 1 2 1) 1 3 20) 1 4 30)) 1 5 1)) 1 6 1) 1 7 0) 1 8 0)) 1 9 1)
set_option maxRecDepth 100000 in
set_option maxHeartbeats 4000000 in
theorem E_X1_init_1 {G : oG} {m : oM} : oEvM G M_X1_init 1 2 m 15 (K_X1_init_1 m) := by
  refine ⟨⟨80, [(0, .ref 1)], dX1_init_80, ?_⟩, ?_⟩
  · refine oSeg.aload_n 1 dX1_init_0 0 rfl rfl (Nat.le_of_ble_eq_true rfl) rfl ?_
    refine oSeg.objInit 4 (Nat.le_of_ble_eq_true rfl) dX1_init_1 wd_1_29 wd_1_22 wd_1_23 (Nat.le_of_ble_eq_true rfl) (Nat.le_of_ble_eq_true rfl) rfl ?_
    refine oSeg.aload_n 5 dX1_init_4 0 rfl rfl (Nat.le_of_ble_eq_true rfl) rfl ?_
    refine oSeg.iconst 6 dX1_init_5 oc_i0 rfl ?_
    refine oSeg.putI 9 dX1_init_6 fp_RX1_9 (Nat.le_of_ble_eq_true rfl) rfl rfl rfl ?_
    refine oSeg.aload_n 10 dX1_init_9 0 rfl rfl (Nat.le_of_ble_eq_true rfl) rfl ?_
    refine oSeg.bipush 12 dX1_init_10 oc_b6 rfl ?_
    refine oSeg.newi 14 dX1_init_12 rfl acI (by decide) rfl (Nat.le_of_ble_eq_true rfl) (fun _ => rfl) (Nat.le_of_ble_eq_true rfl) (Nat.le_of_ble_eq_true rfl) (Nat.le_of_ble_eq_true rfl) rfl ?_
    refine oSeg.putR 17 dX1_init_14 rfl ff_RX1_15 (Nat.le_of_ble_eq_true rfl) rfl rfl (Nat.le_of_ble_eq_true rfl) rfl ?_
    refine oSeg.aload_n 18 dX1_init_17 0 rfl rfl (Nat.le_of_ble_eq_true rfl) rfl ?_
    refine oSeg.bipush 20 dX1_init_18 oc_b6 rfl ?_
    refine oSeg.newi 22 dX1_init_20 rfl acI (by decide) rfl (Nat.le_of_ble_eq_true rfl) (fun h => absurd h (by decide)) (Nat.le_of_ble_eq_true rfl) (Nat.le_of_ble_eq_true rfl) (Nat.le_of_ble_eq_true rfl) rfl ?_
    refine oSeg.putR 25 dX1_init_22 rfl ff_RX1_19 (Nat.le_of_ble_eq_true rfl) rfl rfl (Nat.le_of_ble_eq_true rfl) rfl ?_
    refine oSeg.aload_n 26 dX1_init_25 0 rfl rfl (Nat.le_of_ble_eq_true rfl) rfl ?_
    refine oSeg.bipush 28 dX1_init_26 oc_b20 rfl ?_
    refine oSeg.putI 31 dX1_init_28 fp_RX1_22 (Nat.le_of_ble_eq_true rfl) rfl rfl rfl ?_
    refine oSeg.aload_n 32 dX1_init_31 0 rfl rfl (Nat.le_of_ble_eq_true rfl) rfl ?_
    refine oSeg.bipush 34 dX1_init_32 oc_b30 rfl ?_
    refine oSeg.putI 37 dX1_init_34 fp_RX1_25 (Nat.le_of_ble_eq_true rfl) rfl rfl rfl ?_
    refine oSeg.aload_n 38 dX1_init_37 0 rfl rfl (Nat.le_of_ble_eq_true rfl) rfl ?_
    refine oSeg.new 41 dX1_init_38 rfl rfl tyX2_ok inX2 wd_1_30 wd_1_31 wd_1_3 (dfX2 _ _ _ _) (fun h => absurd h (by decide)) (Nat.le_of_ble_eq_true rfl) (Nat.le_of_ble_eq_true rfl) (Nat.le_of_ble_eq_true rfl) rfl ?_
    refine oSeg.dup 42 dX1_init_41 rfl ?_
    refine oSeg.callI (Nd := M_X2_init) 45 dX1_init_42 (Or.inl (by decide +kernel)) mc_X2_init (oFit_i (Nat.le_of_ble_eq_true rfl) (Nat.le_of_ble_eq_true rfl)) (Nat.le_of_ble_eq_true rfl) (Nat.le_of_ble_eq_true rfl) E_X2_init_4 (fun h => absurd h (by decide)) rfl (Nat.le_of_ble_eq_true rfl) (Nat.le_of_ble_eq_true rfl) rfl ?_
    refine oSeg.putR 48 dX1_init_45 rfl ff_RX1_31 (Nat.le_of_ble_eq_true rfl) rfl rfl (Nat.le_of_ble_eq_true rfl) rfl ?_
    refine oSeg.aload_n 49 dX1_init_48 0 rfl rfl (Nat.le_of_ble_eq_true rfl) rfl ?_
    refine oSeg.new 52 dX1_init_49 rfl rfl tyX7_ok inX7 wd_1_60 wd_1_61 wd_1_4 (dfX7 _ _) (fun h => absurd h (by decide)) (Nat.le_of_ble_eq_true rfl) (Nat.le_of_ble_eq_true rfl) (Nat.le_of_ble_eq_true rfl) rfl ?_
    refine oSeg.dup 53 dX1_init_52 rfl ?_
    refine oSeg.callI (Nd := M_X7_init) 56 dX1_init_53 (Or.inl (by decide +kernel)) mc_X7_init (oFit_i (Nat.le_of_ble_eq_true rfl) (Nat.le_of_ble_eq_true rfl)) (Nat.le_of_ble_eq_true rfl) (Nat.le_of_ble_eq_true rfl) E_X7_init_9 (fun h => absurd h (by decide)) rfl (Nat.le_of_ble_eq_true rfl) (Nat.le_of_ble_eq_true rfl) rfl ?_
    refine oSeg.putR 59 dX1_init_56 rfl ff_RX1_38 (Nat.le_of_ble_eq_true rfl) rfl rfl (Nat.le_of_ble_eq_true rfl) rfl ?_
    refine oSeg.aload_n 60 dX1_init_59 0 rfl rfl (Nat.le_of_ble_eq_true rfl) rfl ?_
    refine oSeg.iconst 61 dX1_init_60 oc_i0 rfl ?_
    refine oSeg.putI 64 dX1_init_61 fp_RX1_42 (Nat.le_of_ble_eq_true rfl) rfl rfl rfl ?_
    refine oSeg.aload_n 65 dX1_init_64 0 rfl rfl (Nat.le_of_ble_eq_true rfl) rfl ?_
    refine oSeg.iconst 66 dX1_init_65 oc_i0 rfl ?_
    refine oSeg.putZ 69 dX1_init_66 fp_RX1_45 (Nat.le_of_ble_eq_true rfl) rfl rfl rfl ?_
    refine oSeg.aload_n 70 dX1_init_69 0 rfl rfl (Nat.le_of_ble_eq_true rfl) rfl ?_
    refine oSeg.new 73 dX1_init_70 rfl rfl tyX3_ok inX3 wd_1_73 wd_1_74 wd_1_5 (dfX3 _ _) (fun h => absurd h (by decide)) (Nat.le_of_ble_eq_true rfl) (Nat.le_of_ble_eq_true rfl) (Nat.le_of_ble_eq_true rfl) rfl ?_
    refine oSeg.dup 74 dX1_init_73 rfl ?_
    refine oSeg.callI (Nd := M_X3_init) 77 dX1_init_74 (Or.inl (by decide +kernel)) mc_X3_init (oFit_i (Nat.le_of_ble_eq_true rfl) (Nat.le_of_ble_eq_true rfl)) (Nat.le_of_ble_eq_true rfl) (Nat.le_of_ble_eq_true rfl) E_X3_init_12 (fun h => absurd h (by decide)) rfl (Nat.le_of_ble_eq_true rfl) (Nat.le_of_ble_eq_true rfl) rfl ?_
    refine oSeg.putR 80 dX1_init_77 rfl ff_RX1_52 (Nat.le_of_ble_eq_true rfl) rfl rfl (Nat.le_of_ble_eq_true rfl) rfl ?_
    exact oSeg.done
  · intro hz
    unfold K_X1_init_1
    refine oZr_SI (Nat.le_of_ble_eq_true rfl) ?_
    refine oZr_le (N := 15) (Nat.le_of_ble_eq_true rfl) ((E_X3_init_12 (G := G)).2 ?_)
    refine oZr_SI (Nat.le_of_ble_eq_true rfl) ?_
    refine oZr_SI (Nat.le_of_ble_eq_true rfl) ?_
    refine oZr_SI (Nat.le_of_ble_eq_true rfl) ?_
    refine oZr_le (N := 12) (Nat.le_of_ble_eq_true rfl) ((E_X7_init_9 (G := G)).2 ?_)
    refine oZr_SI (Nat.le_of_ble_eq_true rfl) ?_
    refine oZr_le (N := 9) (Nat.le_of_ble_eq_true rfl) ((E_X2_init_4 (G := G)).2 ?_)
    refine oZr_SI (Nat.le_of_ble_eq_true rfl) ?_
    refine oZr_SI (Nat.le_of_ble_eq_true rfl) ?_
    refine oZr_SI (Nat.le_of_ble_eq_true rfl) ?_
    refine oZr_SI (Nat.le_of_ble_eq_true rfl) ?_
    refine oZr_SI (Nat.le_of_ble_eq_true rfl) ?_
    exact oZr_le (Nat.le_of_ble_eq_true rfl) hz
def K_X2_init_18 (m : oM) : oM := (oSI (oSI (oSI (oSI (oSI m 18 0 0) 18 1 1) 18 2 1) 18 3 1) 18 4 1)
set_option maxRecDepth 100000 in
set_option maxHeartbeats 4000000 in
theorem E_X2_init_18 {G : oG} {m : oM} : oEvM G M_X2_init 18 19 m 23 (K_X2_init_18 m) := by
  refine ⟨⟨41, [(0, .ref 18)], dX2_init_41, ?_⟩, ?_⟩
  · refine oSeg.aload_n 1 dX2_init_0 0 rfl rfl (Nat.le_of_ble_eq_true rfl) rfl ?_
    refine oSeg.objInit 4 (Nat.le_of_ble_eq_true rfl) dX2_init_1 wd_1_35 wd_1_22 wd_1_23 (Nat.le_of_ble_eq_true rfl) (Nat.le_of_ble_eq_true rfl) rfl ?_
    refine oSeg.aload_n 5 dX2_init_4 0 rfl rfl (Nat.le_of_ble_eq_true rfl) rfl ?_
    refine oSeg.iconst 6 dX2_init_5 oc_i0 rfl ?_
    refine oSeg.putI 9 dX2_init_6 fp_RX2_9 (Nat.le_of_ble_eq_true rfl) rfl rfl rfl ?_
    refine oSeg.aload_n 10 dX2_init_9 0 rfl rfl (Nat.le_of_ble_eq_true rfl) rfl ?_
    refine oSeg.bipush 12 dX2_init_10 oc_b10 rfl ?_
    refine oSeg.newi 14 dX2_init_12 rfl acI (by decide) rfl (Nat.le_of_ble_eq_true rfl) (fun _ => rfl) (Nat.le_of_ble_eq_true rfl) (Nat.le_of_ble_eq_true rfl) (Nat.le_of_ble_eq_true rfl) rfl ?_
    refine oSeg.putR 17 dX2_init_14 rfl ff_RX2_15 (Nat.le_of_ble_eq_true rfl) rfl rfl (Nat.le_of_ble_eq_true rfl) rfl ?_
    refine oSeg.aload_n 18 dX2_init_17 0 rfl rfl (Nat.le_of_ble_eq_true rfl) rfl ?_
    refine oSeg.bipush 20 dX2_init_18 oc_b10 rfl ?_
    refine oSeg.newi 22 dX2_init_20 rfl acI (by decide) rfl (Nat.le_of_ble_eq_true rfl) (fun h => absurd h (by decide)) (Nat.le_of_ble_eq_true rfl) (Nat.le_of_ble_eq_true rfl) (Nat.le_of_ble_eq_true rfl) rfl ?_
    refine oSeg.putR 25 dX2_init_22 rfl ff_RX2_19 (Nat.le_of_ble_eq_true rfl) rfl rfl (Nat.le_of_ble_eq_true rfl) rfl ?_
    refine oSeg.aload_n 26 dX2_init_25 0 rfl rfl (Nat.le_of_ble_eq_true rfl) rfl ?_
    refine oSeg.bipush 28 dX2_init_26 oc_b10 rfl ?_
    refine oSeg.newi 30 dX2_init_28 rfl acI (by decide) rfl (Nat.le_of_ble_eq_true rfl) (fun h => absurd h (by decide)) (Nat.le_of_ble_eq_true rfl) (Nat.le_of_ble_eq_true rfl) (Nat.le_of_ble_eq_true rfl) rfl ?_
    refine oSeg.putR 33 dX2_init_30 rfl ff_RX2_22 (Nat.le_of_ble_eq_true rfl) rfl rfl (Nat.le_of_ble_eq_true rfl) rfl ?_
    refine oSeg.aload_n 34 dX2_init_33 0 rfl rfl (Nat.le_of_ble_eq_true rfl) rfl ?_
    refine oSeg.bipush 36 dX2_init_34 oc_b10 rfl ?_
    refine oSeg.newi 38 dX2_init_36 rfl acI (by decide) rfl (Nat.le_of_ble_eq_true rfl) (fun h => absurd h (by decide)) (Nat.le_of_ble_eq_true rfl) (Nat.le_of_ble_eq_true rfl) (Nat.le_of_ble_eq_true rfl) rfl ?_
    refine oSeg.putR 41 dX2_init_38 rfl ff_RX2_25 (Nat.le_of_ble_eq_true rfl) rfl rfl (Nat.le_of_ble_eq_true rfl) rfl ?_
    exact oSeg.done
  · intro hz
    unfold K_X2_init_18
    refine oZr_SI (Nat.le_of_ble_eq_true rfl) ?_
    refine oZr_SI (Nat.le_of_ble_eq_true rfl) ?_
    refine oZr_SI (Nat.le_of_ble_eq_true rfl) ?_
    refine oZr_SI (Nat.le_of_ble_eq_true rfl) ?_
    refine oZr_SI (Nat.le_of_ble_eq_true rfl) ?_
    exact oZr_le (Nat.le_of_ble_eq_true rfl) hz
def K_X7_init_23 (m : oM) : oM := (oSI (oSI m 23 0 1) 23 1 1)
set_option maxRecDepth 100000 in
set_option maxHeartbeats 4000000 in
theorem E_X7_init_23 {G : oG} {m : oM} : oEvM G M_X7_init 23 24 m 26 (K_X7_init_23 m) := by
  refine ⟨⟨20, [(0, .ref 23)], dX7_init_20, ?_⟩, ?_⟩
  · refine oSeg.aload_n 1 dX7_init_0 0 rfl rfl (Nat.le_of_ble_eq_true rfl) rfl ?_
    refine oSeg.objInit 4 (Nat.le_of_ble_eq_true rfl) dX7_init_1 wd_1_65 wd_1_22 wd_1_23 (Nat.le_of_ble_eq_true rfl) (Nat.le_of_ble_eq_true rfl) rfl ?_
    refine oSeg.aload_n 5 dX7_init_4 0 rfl rfl (Nat.le_of_ble_eq_true rfl) rfl ?_
    refine oSeg.bipush 7 dX7_init_5 oc_b6 rfl ?_
    refine oSeg.newi 9 dX7_init_7 rfl acI (by decide) rfl (Nat.le_of_ble_eq_true rfl) (fun _ => rfl) (Nat.le_of_ble_eq_true rfl) (Nat.le_of_ble_eq_true rfl) (Nat.le_of_ble_eq_true rfl) rfl ?_
    refine oSeg.putR 12 dX7_init_9 rfl ff_RX7_9 (Nat.le_of_ble_eq_true rfl) rfl rfl (Nat.le_of_ble_eq_true rfl) rfl ?_
    refine oSeg.aload_n 13 dX7_init_12 0 rfl rfl (Nat.le_of_ble_eq_true rfl) rfl ?_
    refine oSeg.bipush 15 dX7_init_13 oc_b18 rfl ?_
    refine oSeg.newi 17 dX7_init_15 rfl acI (by decide) rfl (Nat.le_of_ble_eq_true rfl) (fun h => absurd h (by decide)) (Nat.le_of_ble_eq_true rfl) (Nat.le_of_ble_eq_true rfl) (Nat.le_of_ble_eq_true rfl) rfl ?_
    refine oSeg.putR 20 dX7_init_17 rfl ff_RX7_15 (Nat.le_of_ble_eq_true rfl) rfl rfl (Nat.le_of_ble_eq_true rfl) rfl ?_
    exact oSeg.done
  · intro hz
    unfold K_X7_init_23
    refine oZr_SI (Nat.le_of_ble_eq_true rfl) ?_
    refine oZr_SI (Nat.le_of_ble_eq_true rfl) ?_
    exact oZr_le (Nat.le_of_ble_eq_true rfl) hz
def K_X3_init_26 (m : oM) : oM := (oSI (oSI (oSI m 26 0 0) 26 1 1) 26 2 1)
set_option maxRecDepth 100000 in
set_option maxHeartbeats 4000000 in
theorem E_X3_init_26 {G : oG} {m : oM} : oEvM G M_X3_init 26 27 m 29 (K_X3_init_26 m) := by
  refine ⟨⟨25, [(0, .ref 26)], dX3_init_25, ?_⟩, ?_⟩
  · refine oSeg.aload_n 1 dX3_init_0 0 rfl rfl (Nat.le_of_ble_eq_true rfl) rfl ?_
    refine oSeg.objInit 4 (Nat.le_of_ble_eq_true rfl) dX3_init_1 wd_1_78 wd_1_22 wd_1_23 (Nat.le_of_ble_eq_true rfl) (Nat.le_of_ble_eq_true rfl) rfl ?_
    refine oSeg.aload_n 5 dX3_init_4 0 rfl rfl (Nat.le_of_ble_eq_true rfl) rfl ?_
    refine oSeg.iconst 6 dX3_init_5 oc_i0 rfl ?_
    refine oSeg.putI 9 dX3_init_6 fp_RX3_9 (Nat.le_of_ble_eq_true rfl) rfl rfl rfl ?_
    refine oSeg.aload_n 10 dX3_init_9 0 rfl rfl (Nat.le_of_ble_eq_true rfl) rfl ?_
    refine oSeg.bipush 12 dX3_init_10 oc_b8 rfl ?_
    refine oSeg.newi 14 dX3_init_12 rfl acI (by decide) rfl (Nat.le_of_ble_eq_true rfl) (fun _ => rfl) (Nat.le_of_ble_eq_true rfl) (Nat.le_of_ble_eq_true rfl) (Nat.le_of_ble_eq_true rfl) rfl ?_
    refine oSeg.putR 17 dX3_init_14 rfl ff_RX3_15 (Nat.le_of_ble_eq_true rfl) rfl rfl (Nat.le_of_ble_eq_true rfl) rfl ?_
    refine oSeg.aload_n 18 dX3_init_17 0 rfl rfl (Nat.le_of_ble_eq_true rfl) rfl ?_
    refine oSeg.bipush 20 dX3_init_18 oc_b8 rfl ?_
    refine oSeg.newi 22 dX3_init_20 rfl acI (by decide) rfl (Nat.le_of_ble_eq_true rfl) (fun h => absurd h (by decide)) (Nat.le_of_ble_eq_true rfl) (Nat.le_of_ble_eq_true rfl) (Nat.le_of_ble_eq_true rfl) rfl ?_
    refine oSeg.putR 25 dX3_init_22 rfl ff_RX3_19 (Nat.le_of_ble_eq_true rfl) rfl rfl (Nat.le_of_ble_eq_true rfl) rfl ?_
    exact oSeg.done
  · intro hz
    unfold K_X3_init_26
    refine oZr_SI (Nat.le_of_ble_eq_true rfl) ?_
    refine oZr_SI (Nat.le_of_ble_eq_true rfl) ?_
    refine oZr_SI (Nat.le_of_ble_eq_true rfl) ?_
    exact oZr_le (Nat.le_of_ble_eq_true rfl) hz
def K_X1_init_15 (m : oM) : oM := (oSI (K_X3_init_26 (oSI (oSI (oSI (K_X7_init_23 (oSI (K_X2_init_18 (oSI (oSI (oSI (oSI (oSI m 15 0 0) 15 1 1) 15 2 1) 15 3 20) 15 4 30)) 15 5 1)) 15 6 1) 15 7 0) 15 8 0)) 15 9 1)
set_option maxRecDepth 100000 in
set_option maxHeartbeats 4000000 in
theorem E_X1_init_15 {G : oG} {m : oM} : oEvM G M_X1_init 15 16 m 29 (K_X1_init_15 m) := by
  refine ⟨⟨80, [(0, .ref 15)], dX1_init_80, ?_⟩, ?_⟩
  · refine oSeg.aload_n 1 dX1_init_0 0 rfl rfl (Nat.le_of_ble_eq_true rfl) rfl ?_
    refine oSeg.objInit 4 (Nat.le_of_ble_eq_true rfl) dX1_init_1 wd_1_29 wd_1_22 wd_1_23 (Nat.le_of_ble_eq_true rfl) (Nat.le_of_ble_eq_true rfl) rfl ?_
    refine oSeg.aload_n 5 dX1_init_4 0 rfl rfl (Nat.le_of_ble_eq_true rfl) rfl ?_
    refine oSeg.iconst 6 dX1_init_5 oc_i0 rfl ?_
    refine oSeg.putI 9 dX1_init_6 fp_RX1_9 (Nat.le_of_ble_eq_true rfl) rfl rfl rfl ?_
    refine oSeg.aload_n 10 dX1_init_9 0 rfl rfl (Nat.le_of_ble_eq_true rfl) rfl ?_
    refine oSeg.bipush 12 dX1_init_10 oc_b6 rfl ?_
    refine oSeg.newi 14 dX1_init_12 rfl acI (by decide) rfl (Nat.le_of_ble_eq_true rfl) (fun _ => rfl) (Nat.le_of_ble_eq_true rfl) (Nat.le_of_ble_eq_true rfl) (Nat.le_of_ble_eq_true rfl) rfl ?_
    refine oSeg.putR 17 dX1_init_14 rfl ff_RX1_15 (Nat.le_of_ble_eq_true rfl) rfl rfl (Nat.le_of_ble_eq_true rfl) rfl ?_
    refine oSeg.aload_n 18 dX1_init_17 0 rfl rfl (Nat.le_of_ble_eq_true rfl) rfl ?_
    refine oSeg.bipush 20 dX1_init_18 oc_b6 rfl ?_
    refine oSeg.newi 22 dX1_init_20 rfl acI (by decide) rfl (Nat.le_of_ble_eq_true rfl) (fun h => absurd h (by decide)) (Nat.le_of_ble_eq_true rfl) (Nat.le_of_ble_eq_true rfl) (Nat.le_of_ble_eq_true rfl) rfl ?_
    refine oSeg.putR 25 dX1_init_22 rfl ff_RX1_19 (Nat.le_of_ble_eq_true rfl) rfl rfl (Nat.le_of_ble_eq_true rfl) rfl ?_
    refine oSeg.aload_n 26 dX1_init_25 0 rfl rfl (Nat.le_of_ble_eq_true rfl) rfl ?_
    refine oSeg.bipush 28 dX1_init_26 oc_b20 rfl ?_
    refine oSeg.putI 31 dX1_init_28 fp_RX1_22 (Nat.le_of_ble_eq_true rfl) rfl rfl rfl ?_
    refine oSeg.aload_n 32 dX1_init_31 0 rfl rfl (Nat.le_of_ble_eq_true rfl) rfl ?_
    refine oSeg.bipush 34 dX1_init_32 oc_b30 rfl ?_
    refine oSeg.putI 37 dX1_init_34 fp_RX1_25 (Nat.le_of_ble_eq_true rfl) rfl rfl rfl ?_
    refine oSeg.aload_n 38 dX1_init_37 0 rfl rfl (Nat.le_of_ble_eq_true rfl) rfl ?_
    refine oSeg.new 41 dX1_init_38 rfl rfl tyX2_ok inX2 wd_1_30 wd_1_31 wd_1_3 (dfX2 _ _ _ _) (fun h => absurd h (by decide)) (Nat.le_of_ble_eq_true rfl) (Nat.le_of_ble_eq_true rfl) (Nat.le_of_ble_eq_true rfl) rfl ?_
    refine oSeg.dup 42 dX1_init_41 rfl ?_
    refine oSeg.callI (Nd := M_X2_init) 45 dX1_init_42 (Or.inl (by decide +kernel)) mc_X2_init (oFit_i (Nat.le_of_ble_eq_true rfl) (Nat.le_of_ble_eq_true rfl)) (Nat.le_of_ble_eq_true rfl) (Nat.le_of_ble_eq_true rfl) E_X2_init_18 (fun h => absurd h (by decide)) rfl (Nat.le_of_ble_eq_true rfl) (Nat.le_of_ble_eq_true rfl) rfl ?_
    refine oSeg.putR 48 dX1_init_45 rfl ff_RX1_31 (Nat.le_of_ble_eq_true rfl) rfl rfl (Nat.le_of_ble_eq_true rfl) rfl ?_
    refine oSeg.aload_n 49 dX1_init_48 0 rfl rfl (Nat.le_of_ble_eq_true rfl) rfl ?_
    refine oSeg.new 52 dX1_init_49 rfl rfl tyX7_ok inX7 wd_1_60 wd_1_61 wd_1_4 (dfX7 _ _) (fun h => absurd h (by decide)) (Nat.le_of_ble_eq_true rfl) (Nat.le_of_ble_eq_true rfl) (Nat.le_of_ble_eq_true rfl) rfl ?_
    refine oSeg.dup 53 dX1_init_52 rfl ?_
    refine oSeg.callI (Nd := M_X7_init) 56 dX1_init_53 (Or.inl (by decide +kernel)) mc_X7_init (oFit_i (Nat.le_of_ble_eq_true rfl) (Nat.le_of_ble_eq_true rfl)) (Nat.le_of_ble_eq_true rfl) (Nat.le_of_ble_eq_true rfl) E_X7_init_23 (fun h => absurd h (by decide)) rfl (Nat.le_of_ble_eq_true rfl) (Nat.le_of_ble_eq_true rfl) rfl ?_
    refine oSeg.putR 59 dX1_init_56 rfl ff_RX1_38 (Nat.le_of_ble_eq_true rfl) rfl rfl (Nat.le_of_ble_eq_true rfl) rfl ?_
    refine oSeg.aload_n 60 dX1_init_59 0 rfl rfl (Nat.le_of_ble_eq_true rfl) rfl ?_
    refine oSeg.iconst 61 dX1_init_60 oc_i0 rfl ?_
    refine oSeg.putI 64 dX1_init_61 fp_RX1_42 (Nat.le_of_ble_eq_true rfl) rfl rfl rfl ?_
    refine oSeg.aload_n 65 dX1_init_64 0 rfl rfl (Nat.le_of_ble_eq_true rfl) rfl ?_
    refine oSeg.iconst 66 dX1_init_65 oc_i0 rfl ?_
    refine oSeg.putZ 69 dX1_init_66 fp_RX1_45 (Nat.le_of_ble_eq_true rfl) rfl rfl rfl ?_
    refine oSeg.aload_n 70 dX1_init_69 0 rfl rfl (Nat.le_of_ble_eq_true rfl) rfl ?_
    refine oSeg.new 73 dX1_init_70 rfl rfl tyX3_ok inX3 wd_1_73 wd_1_74 wd_1_5 (dfX3 _ _) (fun h => absurd h (by decide)) (Nat.le_of_ble_eq_true rfl) (Nat.le_of_ble_eq_true rfl) (Nat.le_of_ble_eq_true rfl) rfl ?_
    refine oSeg.dup 74 dX1_init_73 rfl ?_
    refine oSeg.callI (Nd := M_X3_init) 77 dX1_init_74 (Or.inl (by decide +kernel)) mc_X3_init (oFit_i (Nat.le_of_ble_eq_true rfl) (Nat.le_of_ble_eq_true rfl)) (Nat.le_of_ble_eq_true rfl) (Nat.le_of_ble_eq_true rfl) E_X3_init_26 (fun h => absurd h (by decide)) rfl (Nat.le_of_ble_eq_true rfl) (Nat.le_of_ble_eq_true rfl) rfl ?_
    refine oSeg.putR 80 dX1_init_77 rfl ff_RX1_52 (Nat.le_of_ble_eq_true rfl) rfl rfl (Nat.le_of_ble_eq_true rfl) rfl ?_
    exact oSeg.done
  · intro hz
    unfold K_X1_init_15
    refine oZr_SI (Nat.le_of_ble_eq_true rfl) ?_
    refine oZr_le (N := 29) (Nat.le_of_ble_eq_true rfl) ((E_X3_init_26 (G := G)).2 ?_)
    refine oZr_SI (Nat.le_of_ble_eq_true rfl) ?_
    refine oZr_SI (Nat.le_of_ble_eq_true rfl) ?_
    refine oZr_SI (Nat.le_of_ble_eq_true rfl) ?_
    refine oZr_le (N := 26) (Nat.le_of_ble_eq_true rfl) ((E_X7_init_23 (G := G)).2 ?_)
    refine oZr_SI (Nat.le_of_ble_eq_true rfl) ?_
    refine oZr_le (N := 23) (Nat.le_of_ble_eq_true rfl) ((E_X2_init_18 (G := G)).2 ?_)
    refine oZr_SI (Nat.le_of_ble_eq_true rfl) ?_
    refine oZr_SI (Nat.le_of_ble_eq_true rfl) ?_
    refine oZr_SI (Nat.le_of_ble_eq_true rfl) ?_
    refine oZr_SI (Nat.le_of_ble_eq_true rfl) ?_
    refine oZr_SI (Nat.le_of_ble_eq_true rfl) ?_
    exact oZr_le (Nat.le_of_ble_eq_true rfl) hz
def K_X2_init_32 (m : oM) : oM := (oSI (oSI (oSI (oSI (oSI m 32 0 0) 32 1 1) 32 2 1) 32 3 1) 32 4 1)
set_option maxRecDepth 100000 in
set_option maxHeartbeats 4000000 in
theorem E_X2_init_32 {G : oG} {m : oM} : oEvM G M_X2_init 32 33 m 37 (K_X2_init_32 m) := by
  refine ⟨⟨41, [(0, .ref 32)], dX2_init_41, ?_⟩, ?_⟩
  · refine oSeg.aload_n 1 dX2_init_0 0 rfl rfl (Nat.le_of_ble_eq_true rfl) rfl ?_
    refine oSeg.objInit 4 (Nat.le_of_ble_eq_true rfl) dX2_init_1 wd_1_35 wd_1_22 wd_1_23 (Nat.le_of_ble_eq_true rfl) (Nat.le_of_ble_eq_true rfl) rfl ?_
    refine oSeg.aload_n 5 dX2_init_4 0 rfl rfl (Nat.le_of_ble_eq_true rfl) rfl ?_
    refine oSeg.iconst 6 dX2_init_5 oc_i0 rfl ?_
    refine oSeg.putI 9 dX2_init_6 fp_RX2_9 (Nat.le_of_ble_eq_true rfl) rfl rfl rfl ?_
    refine oSeg.aload_n 10 dX2_init_9 0 rfl rfl (Nat.le_of_ble_eq_true rfl) rfl ?_
    refine oSeg.bipush 12 dX2_init_10 oc_b10 rfl ?_
    refine oSeg.newi 14 dX2_init_12 rfl acI (by decide) rfl (Nat.le_of_ble_eq_true rfl) (fun _ => rfl) (Nat.le_of_ble_eq_true rfl) (Nat.le_of_ble_eq_true rfl) (Nat.le_of_ble_eq_true rfl) rfl ?_
    refine oSeg.putR 17 dX2_init_14 rfl ff_RX2_15 (Nat.le_of_ble_eq_true rfl) rfl rfl (Nat.le_of_ble_eq_true rfl) rfl ?_
    refine oSeg.aload_n 18 dX2_init_17 0 rfl rfl (Nat.le_of_ble_eq_true rfl) rfl ?_
    refine oSeg.bipush 20 dX2_init_18 oc_b10 rfl ?_
    refine oSeg.newi 22 dX2_init_20 rfl acI (by decide) rfl (Nat.le_of_ble_eq_true rfl) (fun h => absurd h (by decide)) (Nat.le_of_ble_eq_true rfl) (Nat.le_of_ble_eq_true rfl) (Nat.le_of_ble_eq_true rfl) rfl ?_
    refine oSeg.putR 25 dX2_init_22 rfl ff_RX2_19 (Nat.le_of_ble_eq_true rfl) rfl rfl (Nat.le_of_ble_eq_true rfl) rfl ?_
    refine oSeg.aload_n 26 dX2_init_25 0 rfl rfl (Nat.le_of_ble_eq_true rfl) rfl ?_
    refine oSeg.bipush 28 dX2_init_26 oc_b10 rfl ?_
    refine oSeg.newi 30 dX2_init_28 rfl acI (by decide) rfl (Nat.le_of_ble_eq_true rfl) (fun h => absurd h (by decide)) (Nat.le_of_ble_eq_true rfl) (Nat.le_of_ble_eq_true rfl) (Nat.le_of_ble_eq_true rfl) rfl ?_
    refine oSeg.putR 33 dX2_init_30 rfl ff_RX2_22 (Nat.le_of_ble_eq_true rfl) rfl rfl (Nat.le_of_ble_eq_true rfl) rfl ?_
    refine oSeg.aload_n 34 dX2_init_33 0 rfl rfl (Nat.le_of_ble_eq_true rfl) rfl ?_
    refine oSeg.bipush 36 dX2_init_34 oc_b10 rfl ?_
    refine oSeg.newi 38 dX2_init_36 rfl acI (by decide) rfl (Nat.le_of_ble_eq_true rfl) (fun h => absurd h (by decide)) (Nat.le_of_ble_eq_true rfl) (Nat.le_of_ble_eq_true rfl) (Nat.le_of_ble_eq_true rfl) rfl ?_
    refine oSeg.putR 41 dX2_init_38 rfl ff_RX2_25 (Nat.le_of_ble_eq_true rfl) rfl rfl (Nat.le_of_ble_eq_true rfl) rfl ?_
    exact oSeg.done
  · intro hz
    unfold K_X2_init_32
    refine oZr_SI (Nat.le_of_ble_eq_true rfl) ?_
    refine oZr_SI (Nat.le_of_ble_eq_true rfl) ?_
    refine oZr_SI (Nat.le_of_ble_eq_true rfl) ?_
    refine oZr_SI (Nat.le_of_ble_eq_true rfl) ?_
    refine oZr_SI (Nat.le_of_ble_eq_true rfl) ?_
    exact oZr_le (Nat.le_of_ble_eq_true rfl) hz
def K_X7_init_37 (m : oM) : oM := (oSI (oSI m 37 0 1) 37 1 1)
set_option maxRecDepth 100000 in
set_option maxHeartbeats 4000000 in
theorem E_X7_init_37 {G : oG} {m : oM} : oEvM G M_X7_init 37 38 m 40 (K_X7_init_37 m) := by
  refine ⟨⟨20, [(0, .ref 37)], dX7_init_20, ?_⟩, ?_⟩
  · refine oSeg.aload_n 1 dX7_init_0 0 rfl rfl (Nat.le_of_ble_eq_true rfl) rfl ?_
    refine oSeg.objInit 4 (Nat.le_of_ble_eq_true rfl) dX7_init_1 wd_1_65 wd_1_22 wd_1_23 (Nat.le_of_ble_eq_true rfl) (Nat.le_of_ble_eq_true rfl) rfl ?_
    refine oSeg.aload_n 5 dX7_init_4 0 rfl rfl (Nat.le_of_ble_eq_true rfl) rfl ?_
    refine oSeg.bipush 7 dX7_init_5 oc_b6 rfl ?_
    refine oSeg.newi 9 dX7_init_7 rfl acI (by decide) rfl (Nat.le_of_ble_eq_true rfl) (fun _ => rfl) (Nat.le_of_ble_eq_true rfl) (Nat.le_of_ble_eq_true rfl) (Nat.le_of_ble_eq_true rfl) rfl ?_
    refine oSeg.putR 12 dX7_init_9 rfl ff_RX7_9 (Nat.le_of_ble_eq_true rfl) rfl rfl (Nat.le_of_ble_eq_true rfl) rfl ?_
    refine oSeg.aload_n 13 dX7_init_12 0 rfl rfl (Nat.le_of_ble_eq_true rfl) rfl ?_
    refine oSeg.bipush 15 dX7_init_13 oc_b18 rfl ?_
    refine oSeg.newi 17 dX7_init_15 rfl acI (by decide) rfl (Nat.le_of_ble_eq_true rfl) (fun h => absurd h (by decide)) (Nat.le_of_ble_eq_true rfl) (Nat.le_of_ble_eq_true rfl) (Nat.le_of_ble_eq_true rfl) rfl ?_
    refine oSeg.putR 20 dX7_init_17 rfl ff_RX7_15 (Nat.le_of_ble_eq_true rfl) rfl rfl (Nat.le_of_ble_eq_true rfl) rfl ?_
    exact oSeg.done
  · intro hz
    unfold K_X7_init_37
    refine oZr_SI (Nat.le_of_ble_eq_true rfl) ?_
    refine oZr_SI (Nat.le_of_ble_eq_true rfl) ?_
    exact oZr_le (Nat.le_of_ble_eq_true rfl) hz
def K_X3_init_40 (m : oM) : oM := (oSI (oSI (oSI m 40 0 0) 40 1 1) 40 2 1)
set_option maxRecDepth 100000 in
set_option maxHeartbeats 4000000 in
theorem E_X3_init_40 {G : oG} {m : oM} : oEvM G M_X3_init 40 41 m 43 (K_X3_init_40 m) := by
  refine ⟨⟨25, [(0, .ref 40)], dX3_init_25, ?_⟩, ?_⟩
  · refine oSeg.aload_n 1 dX3_init_0 0 rfl rfl (Nat.le_of_ble_eq_true rfl) rfl ?_
    refine oSeg.objInit 4 (Nat.le_of_ble_eq_true rfl) dX3_init_1 wd_1_78 wd_1_22 wd_1_23 (Nat.le_of_ble_eq_true rfl) (Nat.le_of_ble_eq_true rfl) rfl ?_
    refine oSeg.aload_n 5 dX3_init_4 0 rfl rfl (Nat.le_of_ble_eq_true rfl) rfl ?_
    refine oSeg.iconst 6 dX3_init_5 oc_i0 rfl ?_
    refine oSeg.putI 9 dX3_init_6 fp_RX3_9 (Nat.le_of_ble_eq_true rfl) rfl rfl rfl ?_
    refine oSeg.aload_n 10 dX3_init_9 0 rfl rfl (Nat.le_of_ble_eq_true rfl) rfl ?_
    refine oSeg.bipush 12 dX3_init_10 oc_b8 rfl ?_
    refine oSeg.newi 14 dX3_init_12 rfl acI (by decide) rfl (Nat.le_of_ble_eq_true rfl) (fun _ => rfl) (Nat.le_of_ble_eq_true rfl) (Nat.le_of_ble_eq_true rfl) (Nat.le_of_ble_eq_true rfl) rfl ?_
    refine oSeg.putR 17 dX3_init_14 rfl ff_RX3_15 (Nat.le_of_ble_eq_true rfl) rfl rfl (Nat.le_of_ble_eq_true rfl) rfl ?_
    refine oSeg.aload_n 18 dX3_init_17 0 rfl rfl (Nat.le_of_ble_eq_true rfl) rfl ?_
    refine oSeg.bipush 20 dX3_init_18 oc_b8 rfl ?_
    refine oSeg.newi 22 dX3_init_20 rfl acI (by decide) rfl (Nat.le_of_ble_eq_true rfl) (fun h => absurd h (by decide)) (Nat.le_of_ble_eq_true rfl) (Nat.le_of_ble_eq_true rfl) (Nat.le_of_ble_eq_true rfl) rfl ?_
    refine oSeg.putR 25 dX3_init_22 rfl ff_RX3_19 (Nat.le_of_ble_eq_true rfl) rfl rfl (Nat.le_of_ble_eq_true rfl) rfl ?_
    exact oSeg.done
  · intro hz
    unfold K_X3_init_40
    refine oZr_SI (Nat.le_of_ble_eq_true rfl) ?_
    refine oZr_SI (Nat.le_of_ble_eq_true rfl) ?_
    refine oZr_SI (Nat.le_of_ble_eq_true rfl) ?_
    exact oZr_le (Nat.le_of_ble_eq_true rfl) hz
def K_X1_init_29 (m : oM) : oM := (oSI (K_X3_init_40 (oSI (oSI (oSI (K_X7_init_37 (oSI (K_X2_init_32 (oSI (oSI (oSI (oSI (oSI m 29 0 0) 29 1 1) 29 2 1) 29 3 20) 29 4 30)) 29 5 1)) 29 6 1) 29 7 0) 29 8 0)) 29 9 1)
set_option maxRecDepth 100000 in
set_option maxHeartbeats 4000000 in
theorem E_X1_init_29 {G : oG} {m : oM} : oEvM G M_X1_init 29 30 m 43 (K_X1_init_29 m) := by
  refine ⟨⟨80, [(0, .ref 29)], dX1_init_80, ?_⟩, ?_⟩
  · refine oSeg.aload_n 1 dX1_init_0 0 rfl rfl (Nat.le_of_ble_eq_true rfl) rfl ?_
    refine oSeg.objInit 4 (Nat.le_of_ble_eq_true rfl) dX1_init_1 wd_1_29 wd_1_22 wd_1_23 (Nat.le_of_ble_eq_true rfl) (Nat.le_of_ble_eq_true rfl) rfl ?_
    refine oSeg.aload_n 5 dX1_init_4 0 rfl rfl (Nat.le_of_ble_eq_true rfl) rfl ?_
    refine oSeg.iconst 6 dX1_init_5 oc_i0 rfl ?_
    refine oSeg.putI 9 dX1_init_6 fp_RX1_9 (Nat.le_of_ble_eq_true rfl) rfl rfl rfl ?_
    refine oSeg.aload_n 10 dX1_init_9 0 rfl rfl (Nat.le_of_ble_eq_true rfl) rfl ?_
    refine oSeg.bipush 12 dX1_init_10 oc_b6 rfl ?_
    refine oSeg.newi 14 dX1_init_12 rfl acI (by decide) rfl (Nat.le_of_ble_eq_true rfl) (fun _ => rfl) (Nat.le_of_ble_eq_true rfl) (Nat.le_of_ble_eq_true rfl) (Nat.le_of_ble_eq_true rfl) rfl ?_
    refine oSeg.putR 17 dX1_init_14 rfl ff_RX1_15 (Nat.le_of_ble_eq_true rfl) rfl rfl (Nat.le_of_ble_eq_true rfl) rfl ?_
    refine oSeg.aload_n 18 dX1_init_17 0 rfl rfl (Nat.le_of_ble_eq_true rfl) rfl ?_
    refine oSeg.bipush 20 dX1_init_18 oc_b6 rfl ?_
    refine oSeg.newi 22 dX1_init_20 rfl acI (by decide) rfl (Nat.le_of_ble_eq_true rfl) (fun h => absurd h (by decide)) (Nat.le_of_ble_eq_true rfl) (Nat.le_of_ble_eq_true rfl) (Nat.le_of_ble_eq_true rfl) rfl ?_
    refine oSeg.putR 25 dX1_init_22 rfl ff_RX1_19 (Nat.le_of_ble_eq_true rfl) rfl rfl (Nat.le_of_ble_eq_true rfl) rfl ?_
    refine oSeg.aload_n 26 dX1_init_25 0 rfl rfl (Nat.le_of_ble_eq_true rfl) rfl ?_
    refine oSeg.bipush 28 dX1_init_26 oc_b20 rfl ?_
    refine oSeg.putI 31 dX1_init_28 fp_RX1_22 (Nat.le_of_ble_eq_true rfl) rfl rfl rfl ?_
    refine oSeg.aload_n 32 dX1_init_31 0 rfl rfl (Nat.le_of_ble_eq_true rfl) rfl ?_
    refine oSeg.bipush 34 dX1_init_32 oc_b30 rfl ?_
    refine oSeg.putI 37 dX1_init_34 fp_RX1_25 (Nat.le_of_ble_eq_true rfl) rfl rfl rfl ?_
    refine oSeg.aload_n 38 dX1_init_37 0 rfl rfl (Nat.le_of_ble_eq_true rfl) rfl ?_
    refine oSeg.new 41 dX1_init_38 rfl rfl tyX2_ok inX2 wd_1_30 wd_1_31 wd_1_3 (dfX2 _ _ _ _) (fun h => absurd h (by decide)) (Nat.le_of_ble_eq_true rfl) (Nat.le_of_ble_eq_true rfl) (Nat.le_of_ble_eq_true rfl) rfl ?_
    refine oSeg.dup 42 dX1_init_41 rfl ?_
    refine oSeg.callI (Nd := M_X2_init) 45 dX1_init_42 (Or.inl (by decide +kernel)) mc_X2_init (oFit_i (Nat.le_of_ble_eq_true rfl) (Nat.le_of_ble_eq_true rfl)) (Nat.le_of_ble_eq_true rfl) (Nat.le_of_ble_eq_true rfl) E_X2_init_32 (fun h => absurd h (by decide)) rfl (Nat.le_of_ble_eq_true rfl) (Nat.le_of_ble_eq_true rfl) rfl ?_
    refine oSeg.putR 48 dX1_init_45 rfl ff_RX1_31 (Nat.le_of_ble_eq_true rfl) rfl rfl (Nat.le_of_ble_eq_true rfl) rfl ?_
    refine oSeg.aload_n 49 dX1_init_48 0 rfl rfl (Nat.le_of_ble_eq_true rfl) rfl ?_
    refine oSeg.new 52 dX1_init_49 rfl rfl tyX7_ok inX7 wd_1_60 wd_1_61 wd_1_4 (dfX7 _ _) (fun h => absurd h (by decide)) (Nat.le_of_ble_eq_true rfl) (Nat.le_of_ble_eq_true rfl) (Nat.le_of_ble_eq_true rfl) rfl ?_
    refine oSeg.dup 53 dX1_init_52 rfl ?_
    refine oSeg.callI (Nd := M_X7_init) 56 dX1_init_53 (Or.inl (by decide +kernel)) mc_X7_init (oFit_i (Nat.le_of_ble_eq_true rfl) (Nat.le_of_ble_eq_true rfl)) (Nat.le_of_ble_eq_true rfl) (Nat.le_of_ble_eq_true rfl) E_X7_init_37 (fun h => absurd h (by decide)) rfl (Nat.le_of_ble_eq_true rfl) (Nat.le_of_ble_eq_true rfl) rfl ?_
    refine oSeg.putR 59 dX1_init_56 rfl ff_RX1_38 (Nat.le_of_ble_eq_true rfl) rfl rfl (Nat.le_of_ble_eq_true rfl) rfl ?_
    refine oSeg.aload_n 60 dX1_init_59 0 rfl rfl (Nat.le_of_ble_eq_true rfl) rfl ?_
    refine oSeg.iconst 61 dX1_init_60 oc_i0 rfl ?_
    refine oSeg.putI 64 dX1_init_61 fp_RX1_42 (Nat.le_of_ble_eq_true rfl) rfl rfl rfl ?_
    refine oSeg.aload_n 65 dX1_init_64 0 rfl rfl (Nat.le_of_ble_eq_true rfl) rfl ?_
    refine oSeg.iconst 66 dX1_init_65 oc_i0 rfl ?_
    refine oSeg.putZ 69 dX1_init_66 fp_RX1_45 (Nat.le_of_ble_eq_true rfl) rfl rfl rfl ?_
    refine oSeg.aload_n 70 dX1_init_69 0 rfl rfl (Nat.le_of_ble_eq_true rfl) rfl ?_
    refine oSeg.new 73 dX1_init_70 rfl rfl tyX3_ok inX3 wd_1_73 wd_1_74 wd_1_5 (dfX3 _ _) (fun h => absurd h (by decide)) (Nat.le_of_ble_eq_true rfl) (Nat.le_of_ble_eq_true rfl) (Nat.le_of_ble_eq_true rfl) rfl ?_
    refine oSeg.dup 74 dX1_init_73 rfl ?_
    refine oSeg.callI (Nd := M_X3_init) 77 dX1_init_74 (Or.inl (by decide +kernel)) mc_X3_init (oFit_i (Nat.le_of_ble_eq_true rfl) (Nat.le_of_ble_eq_true rfl)) (Nat.le_of_ble_eq_true rfl) (Nat.le_of_ble_eq_true rfl) E_X3_init_40 (fun h => absurd h (by decide)) rfl (Nat.le_of_ble_eq_true rfl) (Nat.le_of_ble_eq_true rfl) rfl ?_
    refine oSeg.putR 80 dX1_init_77 rfl ff_RX1_52 (Nat.le_of_ble_eq_true rfl) rfl rfl (Nat.le_of_ble_eq_true rfl) rfl ?_
    exact oSeg.done
  · intro hz
    unfold K_X1_init_29
    refine oZr_SI (Nat.le_of_ble_eq_true rfl) ?_
    refine oZr_le (N := 43) (Nat.le_of_ble_eq_true rfl) ((E_X3_init_40 (G := G)).2 ?_)
    refine oZr_SI (Nat.le_of_ble_eq_true rfl) ?_
    refine oZr_SI (Nat.le_of_ble_eq_true rfl) ?_
    refine oZr_SI (Nat.le_of_ble_eq_true rfl) ?_
    refine oZr_le (N := 40) (Nat.le_of_ble_eq_true rfl) ((E_X7_init_37 (G := G)).2 ?_)
    refine oZr_SI (Nat.le_of_ble_eq_true rfl) ?_
    refine oZr_le (N := 37) (Nat.le_of_ble_eq_true rfl) ((E_X2_init_32 (G := G)).2 ?_)
    refine oZr_SI (Nat.le_of_ble_eq_true rfl) ?_
    refine oZr_SI (Nat.le_of_ble_eq_true rfl) ?_
    refine oZr_SI (Nat.le_of_ble_eq_true rfl) ?_
    refine oZr_SI (Nat.le_of_ble_eq_true rfl) ?_
    refine oZr_SI (Nat.le_of_ble_eq_true rfl) ?_
    exact oZr_le (Nat.le_of_ble_eq_true rfl) hz
abbrev M_X6_init : oD := (yX6_init, cX6_init, 1, none, { frames := 1, cells := 1, slots := 60, locals := 12 })
theorem mc_X6_init : oMc M_X6_init := ⟨wd_1_6, wd_1_138, ⟨by decide +kernel, by decide +kernel⟩, by decide +kernel, by decide +kernel, rfl, wd_1_137, rfl, (Nat.le_of_ble_eq_true rfl)⟩
def K_X6_init_43 (m : oM) : oM := (oSI (oSI m 43 0 0) 43 1 1)
set_option maxRecDepth 100000 in
set_option maxHeartbeats 4000000 in
theorem E_X6_init_43 {G : oG} {m : oM} : oEvM G M_X6_init 43 44 m 45 (K_X6_init_43 m) := by
  refine ⟨⟨17, [(0, .ref 43)], dX6_init_17, ?_⟩, ?_⟩
  · refine oSeg.aload_n 1 dX6_init_0 0 rfl rfl (Nat.le_of_ble_eq_true rfl) rfl ?_
    refine oSeg.objInit 4 (Nat.le_of_ble_eq_true rfl) dX6_init_1 wd_1_139 wd_1_22 wd_1_23 (Nat.le_of_ble_eq_true rfl) (Nat.le_of_ble_eq_true rfl) rfl ?_
    refine oSeg.aload_n 5 dX6_init_4 0 rfl rfl (Nat.le_of_ble_eq_true rfl) rfl ?_
    refine oSeg.iconst 6 dX6_init_5 oc_i0 rfl ?_
    refine oSeg.putI 9 dX6_init_6 fp_RX6_9 (Nat.le_of_ble_eq_true rfl) rfl rfl rfl ?_
    refine oSeg.aload_n 10 dX6_init_9 0 rfl rfl (Nat.le_of_ble_eq_true rfl) rfl ?_
    refine oSeg.bipush 12 dX6_init_10 oc_b60 rfl ?_
    refine oSeg.newi 14 dX6_init_12 rfl acI (by decide) rfl (Nat.le_of_ble_eq_true rfl) (fun _ => rfl) (Nat.le_of_ble_eq_true rfl) (Nat.le_of_ble_eq_true rfl) (Nat.le_of_ble_eq_true rfl) rfl ?_
    refine oSeg.putR 17 dX6_init_14 rfl ff_RX6_15 (Nat.le_of_ble_eq_true rfl) rfl rfl (Nat.le_of_ble_eq_true rfl) rfl ?_
    exact oSeg.done
  · intro hz
    unfold K_X6_init_43
    refine oZr_SI (Nat.le_of_ble_eq_true rfl) ?_
    refine oZr_SI (Nat.le_of_ble_eq_true rfl) ?_
    exact oZr_le (Nat.le_of_ble_eq_true rfl) hz
abbrev M_X5_init : oD := (yX5_init, cX5_init, 1, none, { frames := 1, cells := 1, slots := 9, locals := 12 })
theorem mc_X5_init : oMc M_X5_init := ⟨wd_1_7, wd_1_153, ⟨by decide +kernel, by decide +kernel⟩, by decide +kernel, by decide +kernel, rfl, wd_1_152, rfl, (Nat.le_of_ble_eq_true rfl)⟩
def K_X5_init_45 (m : oM) : oM := (oSI (oSI m 45 0 0) 45 1 1)
set_option maxRecDepth 100000 in
set_option maxHeartbeats 4000000 in
theorem E_X5_init_45 {G : oG} {m : oM} : oEvM G M_X5_init 45 46 m 47 (K_X5_init_45 m) := by
  refine ⟨⟨17, [(0, .ref 45)], dX5_init_17, ?_⟩, ?_⟩
  · refine oSeg.aload_n 1 dX5_init_0 0 rfl rfl (Nat.le_of_ble_eq_true rfl) rfl ?_
    refine oSeg.objInit 4 (Nat.le_of_ble_eq_true rfl) dX5_init_1 wd_1_154 wd_1_22 wd_1_23 (Nat.le_of_ble_eq_true rfl) (Nat.le_of_ble_eq_true rfl) rfl ?_
    refine oSeg.aload_n 5 dX5_init_4 0 rfl rfl (Nat.le_of_ble_eq_true rfl) rfl ?_
    refine oSeg.iconst 6 dX5_init_5 oc_i0 rfl ?_
    refine oSeg.putI 9 dX5_init_6 fp_RX5_9 (Nat.le_of_ble_eq_true rfl) rfl rfl rfl ?_
    refine oSeg.aload_n 10 dX5_init_9 0 rfl rfl (Nat.le_of_ble_eq_true rfl) rfl ?_
    refine oSeg.bipush 12 dX5_init_10 oc_b9 rfl ?_
    refine oSeg.newi 14 dX5_init_12 rfl acI (by decide) rfl (Nat.le_of_ble_eq_true rfl) (fun _ => rfl) (Nat.le_of_ble_eq_true rfl) (Nat.le_of_ble_eq_true rfl) (Nat.le_of_ble_eq_true rfl) rfl ?_
    refine oSeg.putR 17 dX5_init_14 rfl ff_RX5_15 (Nat.le_of_ble_eq_true rfl) rfl rfl (Nat.le_of_ble_eq_true rfl) rfl ?_
    exact oSeg.done
  · intro hz
    unfold K_X5_init_45
    refine oZr_SI (Nat.le_of_ble_eq_true rfl) ?_
    refine oZr_SI (Nat.le_of_ble_eq_true rfl) ?_
    exact oZr_le (Nat.le_of_ble_eq_true rfl) hz
abbrev M_X4_init : oD := (yX4_init, cX4_init, 1, none, { frames := 1, cells := 2, slots := 52, locals := 12 })
theorem mc_X4_init : oMc M_X4_init := ⟨wd_1_8, wd_1_168, ⟨by decide +kernel, by decide +kernel⟩, by decide +kernel, by decide +kernel, rfl, wd_1_167, rfl, (Nat.le_of_ble_eq_true rfl)⟩
def K_X4_init_47 (m : oM) : oM := (oSI (oSI m 47 0 1) 47 1 1)
set_option maxRecDepth 100000 in
set_option maxHeartbeats 4000000 in
theorem E_X4_init_47 {G : oG} {m : oM} : oEvM G M_X4_init 47 48 m 50 (K_X4_init_47 m) := by
  refine ⟨⟨19, [(0, .ref 47)], dX4_init_19, ?_⟩, ?_⟩
  · refine oSeg.aload_n 1 dX4_init_0 0 rfl rfl (Nat.le_of_ble_eq_true rfl) rfl ?_
    refine oSeg.objInit 4 (Nat.le_of_ble_eq_true rfl) dX4_init_1 wd_1_169 wd_1_22 wd_1_23 (Nat.le_of_ble_eq_true rfl) (Nat.le_of_ble_eq_true rfl) rfl ?_
    refine oSeg.aload_n 5 dX4_init_4 0 rfl rfl (Nat.le_of_ble_eq_true rfl) rfl ?_
    refine oSeg.iconst 6 dX4_init_5 oc_i4 rfl ?_
    refine oSeg.newi 8 dX4_init_6 rfl acI (by decide) rfl (Nat.le_of_ble_eq_true rfl) (fun _ => rfl) (Nat.le_of_ble_eq_true rfl) (Nat.le_of_ble_eq_true rfl) (Nat.le_of_ble_eq_true rfl) rfl ?_
    refine oSeg.putR 11 dX4_init_8 rfl ff_RX4_9 (Nat.le_of_ble_eq_true rfl) rfl rfl (Nat.le_of_ble_eq_true rfl) rfl ?_
    refine oSeg.aload_n 12 dX4_init_11 0 rfl rfl (Nat.le_of_ble_eq_true rfl) rfl ?_
    refine oSeg.bipush 14 dX4_init_12 oc_b48 rfl ?_
    refine oSeg.newl 16 dX4_init_14 rfl acL (by decide) rfl (Nat.le_of_ble_eq_true rfl) (fun h => absurd h (by decide)) (Nat.le_of_ble_eq_true rfl) (Nat.le_of_ble_eq_true rfl) (Nat.le_of_ble_eq_true rfl) rfl ?_
    refine oSeg.putR 19 dX4_init_16 rfl ff_RX4_15 (Nat.le_of_ble_eq_true rfl) rfl rfl (Nat.le_of_ble_eq_true rfl) rfl ?_
    exact oSeg.done
  · intro hz
    unfold K_X4_init_47
    refine oZr_SI (Nat.le_of_ble_eq_true rfl) ?_
    refine oZr_SI (Nat.le_of_ble_eq_true rfl) ?_
    exact oZr_le (Nat.le_of_ble_eq_true rfl) hz
abbrev M_X0_init : oD := (yX0_init, cX0_init, 1, none, { frames := 1, cells := 0, slots := 0, locals := 12 })
theorem mc_X0_init : oMc M_X0_init := ⟨wd_1_9, wd_1_182, ⟨by decide +kernel, by decide +kernel⟩, by decide +kernel, by decide +kernel, rfl, wd_1_181, rfl, (Nat.le_of_ble_eq_true rfl)⟩
def K_X0_init_50 (m : oM) : oM := (oSL (oSL (oSI (oSI (oSI (oSI (oSI (oSI (oSL (oSL m 50 0 0) 50 1 0) 50 2 0) 50 3 0) 50 4 0) 50 5 0) 50 6 0) 50 7 0) 50 8 0) 50 9 0)
set_option maxRecDepth 100000 in
set_option maxHeartbeats 4000000 in
theorem E_X0_init_50 {G : oG} {m : oM} : oEvM G M_X0_init 50 51 m 51 (K_X0_init_50 m) := by
  refine ⟨⟨54, [(0, .ref 50)], dX0_init_54, ?_⟩, ?_⟩
  · refine oSeg.aload_n 1 dX0_init_0 0 rfl rfl (Nat.le_of_ble_eq_true rfl) rfl ?_
    refine oSeg.objInit 4 (Nat.le_of_ble_eq_true rfl) dX0_init_1 wd_1_183 wd_1_22 wd_1_23 (Nat.le_of_ble_eq_true rfl) (Nat.le_of_ble_eq_true rfl) rfl ?_
    refine oSeg.aload_n 5 dX0_init_4 0 rfl rfl (Nat.le_of_ble_eq_true rfl) rfl ?_
    refine oSeg.lconst 6 dX0_init_5 oc_l0 rfl ?_
    refine oSeg.putL 9 dX0_init_6 fp_RX0_7 (Nat.le_of_ble_eq_true rfl) rfl rfl rfl ?_
    refine oSeg.aload_n 10 dX0_init_9 0 rfl rfl (Nat.le_of_ble_eq_true rfl) rfl ?_
    refine oSeg.lconst 11 dX0_init_10 oc_l0 rfl ?_
    refine oSeg.putL 14 dX0_init_11 fp_RX0_13 (Nat.le_of_ble_eq_true rfl) rfl rfl rfl ?_
    refine oSeg.aload_n 15 dX0_init_14 0 rfl rfl (Nat.le_of_ble_eq_true rfl) rfl ?_
    refine oSeg.iconst 16 dX0_init_15 oc_i0 rfl ?_
    refine oSeg.putI 19 dX0_init_16 fp_RX0_16 (Nat.le_of_ble_eq_true rfl) rfl rfl rfl ?_
    refine oSeg.aload_n 20 dX0_init_19 0 rfl rfl (Nat.le_of_ble_eq_true rfl) rfl ?_
    refine oSeg.iconst 21 dX0_init_20 oc_i0 rfl ?_
    refine oSeg.putI 24 dX0_init_21 fp_RX0_20 (Nat.le_of_ble_eq_true rfl) rfl rfl rfl ?_
    refine oSeg.aload_n 25 dX0_init_24 0 rfl rfl (Nat.le_of_ble_eq_true rfl) rfl ?_
    refine oSeg.iconst 26 dX0_init_25 oc_i0 rfl ?_
    refine oSeg.putI 29 dX0_init_26 fp_RX0_23 (Nat.le_of_ble_eq_true rfl) rfl rfl rfl ?_
    refine oSeg.aload_n 30 dX0_init_29 0 rfl rfl (Nat.le_of_ble_eq_true rfl) rfl ?_
    refine oSeg.iconst 31 dX0_init_30 oc_i0 rfl ?_
    refine oSeg.putI 34 dX0_init_31 fp_RX0_26 (Nat.le_of_ble_eq_true rfl) rfl rfl rfl ?_
    refine oSeg.aload_n 35 dX0_init_34 0 rfl rfl (Nat.le_of_ble_eq_true rfl) rfl ?_
    refine oSeg.iconst 36 dX0_init_35 oc_i0 rfl ?_
    refine oSeg.putI 39 dX0_init_36 fp_RX0_29 (Nat.le_of_ble_eq_true rfl) rfl rfl rfl ?_
    refine oSeg.aload_n 40 dX0_init_39 0 rfl rfl (Nat.le_of_ble_eq_true rfl) rfl ?_
    refine oSeg.iconst 41 dX0_init_40 oc_i0 rfl ?_
    refine oSeg.putI 44 dX0_init_41 fp_RX0_32 (Nat.le_of_ble_eq_true rfl) rfl rfl rfl ?_
    refine oSeg.aload_n 45 dX0_init_44 0 rfl rfl (Nat.le_of_ble_eq_true rfl) rfl ?_
    refine oSeg.lconst 46 dX0_init_45 oc_l0 rfl ?_
    refine oSeg.putL 49 dX0_init_46 fp_RX0_35 (Nat.le_of_ble_eq_true rfl) rfl rfl rfl ?_
    refine oSeg.aload_n 50 dX0_init_49 0 rfl rfl (Nat.le_of_ble_eq_true rfl) rfl ?_
    refine oSeg.lconst 51 dX0_init_50 oc_l0 rfl ?_
    refine oSeg.putL 54 dX0_init_51 fp_RX0_38 (Nat.le_of_ble_eq_true rfl) rfl rfl rfl ?_
    exact oSeg.done
  · intro hz
    unfold K_X0_init_50
    refine oZr_SL (Nat.le_of_ble_eq_true rfl) ?_
    refine oZr_SL (Nat.le_of_ble_eq_true rfl) ?_
    refine oZr_SI (Nat.le_of_ble_eq_true rfl) ?_
    refine oZr_SI (Nat.le_of_ble_eq_true rfl) ?_
    refine oZr_SI (Nat.le_of_ble_eq_true rfl) ?_
    refine oZr_SI (Nat.le_of_ble_eq_true rfl) ?_
    refine oZr_SI (Nat.le_of_ble_eq_true rfl) ?_
    refine oZr_SI (Nat.le_of_ble_eq_true rfl) ?_
    refine oZr_SL (Nat.le_of_ble_eq_true rfl) ?_
    refine oZr_SL (Nat.le_of_ble_eq_true rfl) ?_
    exact oZr_le (Nat.le_of_ble_eq_true rfl) hz
abbrev M_X8_init : oD := (yX8_init, cX8_init, 1, none, { frames := 3, cells := 50, slots := 473, locals := 52 })
theorem mc_X8_init : oMc M_X8_init := ⟨wd_1_1, wd_1_20, ⟨by decide +kernel, by decide +kernel⟩, by decide +kernel, by decide +kernel, rfl, wd_1_19, rfl, (Nat.le_of_ble_eq_true rfl)⟩
def K_X8_init_0 (m : oM) : oM := (oSI (K_X0_init_50 (oSI (K_X4_init_47 (oSI (K_X5_init_45 (oSI (K_X6_init_43 (oSI (oSI (K_X1_init_29 (oSI (K_X1_init_15 (oSI (K_X1_init_1 m) 0 0 1)) 0 1 1)) 0 2 1) 0 3 0)) 0 4 1)) 0 5 1)) 0 6 1)) 0 7 1)
set_option maxRecDepth 100000 in
set_option maxHeartbeats 4000000 in
theorem E_X8_init_0 {G : oG} {m : oM} : oEvM G M_X8_init 0 1 m 51 (K_X8_init_0 m) := by
  refine ⟨⟨86, [(0, .ref 0)], dX8_init_86, ?_⟩, ?_⟩
  · refine oSeg.aload_n 1 dX8_init_0 0 rfl rfl (Nat.le_of_ble_eq_true rfl) rfl ?_
    refine oSeg.objInit 4 (Nat.le_of_ble_eq_true rfl) dX8_init_1 wd_1_21 wd_1_22 wd_1_23 (Nat.le_of_ble_eq_true rfl) (Nat.le_of_ble_eq_true rfl) rfl ?_
    refine oSeg.aload_n 5 dX8_init_4 0 rfl rfl (Nat.le_of_ble_eq_true rfl) rfl ?_
    refine oSeg.new 8 dX8_init_5 rfl rfl tyX1_ok inX1 wd_1_24 wd_1_25 wd_1_2 (dfX1 _ _ _ _ _) (fun _ => rfl) (Nat.le_of_ble_eq_true rfl) (Nat.le_of_ble_eq_true rfl) (Nat.le_of_ble_eq_true rfl) rfl ?_
    refine oSeg.dup 9 dX8_init_8 rfl ?_
    refine oSeg.callI (Nd := M_X1_init) 12 dX8_init_9 (Or.inl (by decide +kernel)) mc_X1_init (oFit_i (Nat.le_of_ble_eq_true rfl) (Nat.le_of_ble_eq_true rfl)) (Nat.le_of_ble_eq_true rfl) (Nat.le_of_ble_eq_true rfl) E_X1_init_1 (fun h => absurd h (by decide)) rfl (Nat.le_of_ble_eq_true rfl) (Nat.le_of_ble_eq_true rfl) rfl ?_
    refine oSeg.putR 15 dX8_init_12 rfl ff_RX8_12 (Nat.le_of_ble_eq_true rfl) rfl rfl (Nat.le_of_ble_eq_true rfl) rfl ?_
    refine oSeg.aload_n 16 dX8_init_15 0 rfl rfl (Nat.le_of_ble_eq_true rfl) rfl ?_
    refine oSeg.new 19 dX8_init_16 rfl rfl tyX1_ok inX1 wd_1_24 wd_1_25 wd_1_2 (dfX1 _ _ _ _ _) (fun h => absurd h (by decide)) (Nat.le_of_ble_eq_true rfl) (Nat.le_of_ble_eq_true rfl) (Nat.le_of_ble_eq_true rfl) rfl ?_
    refine oSeg.dup 20 dX8_init_19 rfl ?_
    refine oSeg.callI (Nd := M_X1_init) 23 dX8_init_20 (Or.inl (by decide +kernel)) mc_X1_init (oFit_i (Nat.le_of_ble_eq_true rfl) (Nat.le_of_ble_eq_true rfl)) (Nat.le_of_ble_eq_true rfl) (Nat.le_of_ble_eq_true rfl) E_X1_init_15 (fun h => absurd h (by decide)) rfl (Nat.le_of_ble_eq_true rfl) (Nat.le_of_ble_eq_true rfl) rfl ?_
    refine oSeg.putR 26 dX8_init_23 rfl ff_RX8_18 (Nat.le_of_ble_eq_true rfl) rfl rfl (Nat.le_of_ble_eq_true rfl) rfl ?_
    refine oSeg.aload_n 27 dX8_init_26 0 rfl rfl (Nat.le_of_ble_eq_true rfl) rfl ?_
    refine oSeg.new 30 dX8_init_27 rfl rfl tyX1_ok inX1 wd_1_24 wd_1_25 wd_1_2 (dfX1 _ _ _ _ _) (fun h => absurd h (by decide)) (Nat.le_of_ble_eq_true rfl) (Nat.le_of_ble_eq_true rfl) (Nat.le_of_ble_eq_true rfl) rfl ?_
    refine oSeg.dup 31 dX8_init_30 rfl ?_
    refine oSeg.callI (Nd := M_X1_init) 34 dX8_init_31 (Or.inl (by decide +kernel)) mc_X1_init (oFit_i (Nat.le_of_ble_eq_true rfl) (Nat.le_of_ble_eq_true rfl)) (Nat.le_of_ble_eq_true rfl) (Nat.le_of_ble_eq_true rfl) E_X1_init_29 (fun h => absurd h (by decide)) rfl (Nat.le_of_ble_eq_true rfl) (Nat.le_of_ble_eq_true rfl) rfl ?_
    refine oSeg.putR 37 dX8_init_34 rfl ff_RX8_21 (Nat.le_of_ble_eq_true rfl) rfl rfl (Nat.le_of_ble_eq_true rfl) rfl ?_
    refine oSeg.aload_n 38 dX8_init_37 0 rfl rfl (Nat.le_of_ble_eq_true rfl) rfl ?_
    refine oSeg.iconst 39 dX8_init_38 oc_i0 rfl ?_
    refine oSeg.putZ 42 dX8_init_39 fp_RX8_24 (Nat.le_of_ble_eq_true rfl) rfl rfl rfl ?_
    refine oSeg.aload_n 43 dX8_init_42 0 rfl rfl (Nat.le_of_ble_eq_true rfl) rfl ?_
    refine oSeg.new 46 dX8_init_43 rfl rfl tyX6_ok inX6 wd_1_134 wd_1_135 wd_1_6 (dfX6 _) (fun h => absurd h (by decide)) (Nat.le_of_ble_eq_true rfl) (Nat.le_of_ble_eq_true rfl) (Nat.le_of_ble_eq_true rfl) rfl ?_
    refine oSeg.dup 47 dX8_init_46 rfl ?_
    refine oSeg.callI (Nd := M_X6_init) 50 dX8_init_47 (Or.inl (by decide +kernel)) mc_X6_init (oFit_i (Nat.le_of_ble_eq_true rfl) (Nat.le_of_ble_eq_true rfl)) (Nat.le_of_ble_eq_true rfl) (Nat.le_of_ble_eq_true rfl) E_X6_init_43 (fun h => absurd h (by decide)) rfl (Nat.le_of_ble_eq_true rfl) (Nat.le_of_ble_eq_true rfl) rfl ?_
    refine oSeg.putR 53 dX8_init_50 rfl ff_RX8_31 (Nat.le_of_ble_eq_true rfl) rfl rfl (Nat.le_of_ble_eq_true rfl) rfl ?_
    refine oSeg.aload_n 54 dX8_init_53 0 rfl rfl (Nat.le_of_ble_eq_true rfl) rfl ?_
    refine oSeg.new 57 dX8_init_54 rfl rfl tyX5_ok inX5 wd_1_149 wd_1_150 wd_1_7 (dfX5 _) (fun h => absurd h (by decide)) (Nat.le_of_ble_eq_true rfl) (Nat.le_of_ble_eq_true rfl) (Nat.le_of_ble_eq_true rfl) rfl ?_
    refine oSeg.dup 58 dX8_init_57 rfl ?_
    refine oSeg.callI (Nd := M_X5_init) 61 dX8_init_58 (Or.inl (by decide +kernel)) mc_X5_init (oFit_i (Nat.le_of_ble_eq_true rfl) (Nat.le_of_ble_eq_true rfl)) (Nat.le_of_ble_eq_true rfl) (Nat.le_of_ble_eq_true rfl) E_X5_init_45 (fun h => absurd h (by decide)) rfl (Nat.le_of_ble_eq_true rfl) (Nat.le_of_ble_eq_true rfl) rfl ?_
    refine oSeg.putR 64 dX8_init_61 rfl ff_RX8_38 (Nat.le_of_ble_eq_true rfl) rfl rfl (Nat.le_of_ble_eq_true rfl) rfl ?_
    refine oSeg.aload_n 65 dX8_init_64 0 rfl rfl (Nat.le_of_ble_eq_true rfl) rfl ?_
    refine oSeg.new 68 dX8_init_65 rfl rfl tyX4_ok inX4 wd_1_164 wd_1_165 wd_1_8 (dfX4 _ _) (fun h => absurd h (by decide)) (Nat.le_of_ble_eq_true rfl) (Nat.le_of_ble_eq_true rfl) (Nat.le_of_ble_eq_true rfl) rfl ?_
    refine oSeg.dup 69 dX8_init_68 rfl ?_
    refine oSeg.callI (Nd := M_X4_init) 72 dX8_init_69 (Or.inl (by decide +kernel)) mc_X4_init (oFit_i (Nat.le_of_ble_eq_true rfl) (Nat.le_of_ble_eq_true rfl)) (Nat.le_of_ble_eq_true rfl) (Nat.le_of_ble_eq_true rfl) E_X4_init_47 (fun h => absurd h (by decide)) rfl (Nat.le_of_ble_eq_true rfl) (Nat.le_of_ble_eq_true rfl) rfl ?_
    refine oSeg.putR 75 dX8_init_72 rfl ff_RX8_45 (Nat.le_of_ble_eq_true rfl) rfl rfl (Nat.le_of_ble_eq_true rfl) rfl ?_
    refine oSeg.aload_n 76 dX8_init_75 0 rfl rfl (Nat.le_of_ble_eq_true rfl) rfl ?_
    refine oSeg.new 79 dX8_init_76 rfl rfl tyX0_ok inX0 wd_1_178 wd_1_179 wd_1_9 (dfX0 ) (fun h => absurd h (by decide)) (Nat.le_of_ble_eq_true rfl) (Nat.le_of_ble_eq_true rfl) (Nat.le_of_ble_eq_true rfl) rfl ?_
    refine oSeg.dup 80 dX8_init_79 rfl ?_
    refine oSeg.callI (Nd := M_X0_init) 83 dX8_init_80 (Or.inl (by decide +kernel)) mc_X0_init (oFit_i (Nat.le_of_ble_eq_true rfl) (Nat.le_of_ble_eq_true rfl)) (Nat.le_of_ble_eq_true rfl) (Nat.le_of_ble_eq_true rfl) E_X0_init_50 (fun h => absurd h (by decide)) rfl (Nat.le_of_ble_eq_true rfl) (Nat.le_of_ble_eq_true rfl) rfl ?_
    refine oSeg.putR 86 dX8_init_83 rfl ff_RX8_52 (Nat.le_of_ble_eq_true rfl) rfl rfl (Nat.le_of_ble_eq_true rfl) rfl ?_
    exact oSeg.done
  · intro hz
    unfold K_X8_init_0
    refine oZr_SI (Nat.le_of_ble_eq_true rfl) ?_
    refine oZr_le (N := 51) (Nat.le_of_ble_eq_true rfl) ((E_X0_init_50 (G := G)).2 ?_)
    refine oZr_SI (Nat.le_of_ble_eq_true rfl) ?_
    refine oZr_le (N := 50) (Nat.le_of_ble_eq_true rfl) ((E_X4_init_47 (G := G)).2 ?_)
    refine oZr_SI (Nat.le_of_ble_eq_true rfl) ?_
    refine oZr_le (N := 47) (Nat.le_of_ble_eq_true rfl) ((E_X5_init_45 (G := G)).2 ?_)
    refine oZr_SI (Nat.le_of_ble_eq_true rfl) ?_
    refine oZr_le (N := 45) (Nat.le_of_ble_eq_true rfl) ((E_X6_init_43 (G := G)).2 ?_)
    refine oZr_SI (Nat.le_of_ble_eq_true rfl) ?_
    refine oZr_SI (Nat.le_of_ble_eq_true rfl) ?_
    refine oZr_le (N := 43) (Nat.le_of_ble_eq_true rfl) ((E_X1_init_29 (G := G)).2 ?_)
    refine oZr_SI (Nat.le_of_ble_eq_true rfl) ?_
    refine oZr_le (N := 29) (Nat.le_of_ble_eq_true rfl) ((E_X1_init_15 (G := G)).2 ?_)
    refine oZr_SI (Nat.le_of_ble_eq_true rfl) ?_
    refine oZr_le (N := 15) (Nat.le_of_ble_eq_true rfl) ((E_X1_init_1 (G := G)).2 ?_)
    exact oZr_le (Nat.le_of_ble_eq_true rfl) hz
abbrev M_X9_init : oD := (yX9_init, cX9_init, 2, none, { frames := 1, cells := 9, slots := 717, locals := 12 })
theorem mc_X9_init : oMc M_X9_init := ⟨wd_1_10, wd_4_88, ⟨by decide +kernel, by decide +kernel⟩, by decide +kernel, by decide +kernel, rfl, wd_4_87, rfl, (Nat.le_of_ble_eq_true rfl)⟩
def K_X9_init_51 (m : oM) : oM := (oSI (oSI (oSI (oSI (oSI (oSI (oSI (oSI (oSI (oSI (oSI (oSI (oSI (oSI (oSI m 51 0 1) 51 1 1) 51 2 1) 51 4 1) 51 5 1) 51 6 1) 51 7 1) 51 10 1) 51 13 1) 52 1 20) 52 2 30) 57 0 (-1)) 57 1 (-1)) 57 2 (-1)) 57 3 (-1))
set_option maxRecDepth 100000 in
set_option maxHeartbeats 4000000 in
theorem E_X9_init_51 {G : oG} {m : oM} : oEvM G M_X9_init 51 52 m 61 (K_X9_init_51 m) := by
  refine ⟨⟨112, [(1, .int 4), (0, .ref 51)], dX9_init_112, ?_⟩, ?_⟩
  · refine oSeg.aload_n 1 dX9_init_0 0 rfl rfl (Nat.le_of_ble_eq_true rfl) rfl ?_
    refine oSeg.objInit 4 (Nat.le_of_ble_eq_true rfl) dX9_init_1 wd_4_89 wd_1_22 wd_1_23 (Nat.le_of_ble_eq_true rfl) (Nat.le_of_ble_eq_true rfl) rfl ?_
    refine oSeg.aload_n 5 dX9_init_4 0 rfl rfl (Nat.le_of_ble_eq_true rfl) rfl ?_
    refine oSeg.bipush 7 dX9_init_5 oc_b99 rfl ?_
    refine oSeg.newi 9 dX9_init_7 rfl acI (by decide) rfl (Nat.le_of_ble_eq_true rfl) (fun _ => rfl) (Nat.le_of_ble_eq_true rfl) (Nat.le_of_ble_eq_true rfl) (Nat.le_of_ble_eq_true rfl) rfl ?_
    refine oSeg.putR 12 dX9_init_9 rfl ff_RX9_11 (Nat.le_of_ble_eq_true rfl) rfl rfl (Nat.le_of_ble_eq_true rfl) rfl ?_
    refine oSeg.aload_n 13 dX9_init_12 0 rfl rfl (Nat.le_of_ble_eq_true rfl) rfl ?_
    refine oSeg.bipush 15 dX9_init_13 oc_b99 rfl ?_
    refine oSeg.newi 17 dX9_init_15 rfl acI (by decide) rfl (Nat.le_of_ble_eq_true rfl) (fun h => absurd h (by decide)) (Nat.le_of_ble_eq_true rfl) (Nat.le_of_ble_eq_true rfl) (Nat.le_of_ble_eq_true rfl) rfl ?_
    refine oSeg.putR 20 dX9_init_17 rfl ff_RX9_15 (Nat.le_of_ble_eq_true rfl) rfl rfl (Nat.le_of_ble_eq_true rfl) rfl ?_
    refine oSeg.aload_n 21 dX9_init_20 0 rfl rfl (Nat.le_of_ble_eq_true rfl) rfl ?_
    refine oSeg.bipush 23 dX9_init_21 oc_b99 rfl ?_
    refine oSeg.newi 25 dX9_init_23 rfl acI (by decide) rfl (Nat.le_of_ble_eq_true rfl) (fun h => absurd h (by decide)) (Nat.le_of_ble_eq_true rfl) (Nat.le_of_ble_eq_true rfl) (Nat.le_of_ble_eq_true rfl) rfl ?_
    refine oSeg.putR 28 dX9_init_25 rfl ff_RX9_18 (Nat.le_of_ble_eq_true rfl) rfl rfl (Nat.le_of_ble_eq_true rfl) rfl ?_
    refine oSeg.aload_n 29 dX9_init_28 0 rfl rfl (Nat.le_of_ble_eq_true rfl) rfl ?_
    refine oSeg.bipush 31 dX9_init_29 oc_b60 rfl ?_
    refine oSeg.newi 33 dX9_init_31 rfl acI (by decide) rfl (Nat.le_of_ble_eq_true rfl) (fun h => absurd h (by decide)) (Nat.le_of_ble_eq_true rfl) (Nat.le_of_ble_eq_true rfl) (Nat.le_of_ble_eq_true rfl) rfl ?_
    refine oSeg.putR 36 dX9_init_33 rfl ff_RX9_21 (Nat.le_of_ble_eq_true rfl) rfl rfl (Nat.le_of_ble_eq_true rfl) rfl ?_
    refine oSeg.aload_n 37 dX9_init_36 0 rfl rfl (Nat.le_of_ble_eq_true rfl) rfl ?_
    refine oSeg.bipush 39 dX9_init_37 oc_b8 rfl ?_
    refine oSeg.newi 41 dX9_init_39 rfl acI (by decide) rfl (Nat.le_of_ble_eq_true rfl) (fun h => absurd h (by decide)) (Nat.le_of_ble_eq_true rfl) (Nat.le_of_ble_eq_true rfl) (Nat.le_of_ble_eq_true rfl) rfl ?_
    refine oSeg.putR 44 dX9_init_41 rfl ff_RX9_24 (Nat.le_of_ble_eq_true rfl) rfl rfl (Nat.le_of_ble_eq_true rfl) rfl ?_
    refine oSeg.aload_n 45 dX9_init_44 0 rfl rfl (Nat.le_of_ble_eq_true rfl) rfl ?_
    refine oSeg.iconst 46 dX9_init_45 oc_i4 rfl ?_
    refine oSeg.newi 48 dX9_init_46 rfl acI (by decide) rfl (Nat.le_of_ble_eq_true rfl) (fun h => absurd h (by decide)) (Nat.le_of_ble_eq_true rfl) (Nat.le_of_ble_eq_true rfl) (Nat.le_of_ble_eq_true rfl) rfl ?_
    refine oSeg.putR 51 dX9_init_48 rfl ff_RX9_27 (Nat.le_of_ble_eq_true rfl) rfl rfl (Nat.le_of_ble_eq_true rfl) rfl ?_
    refine oSeg.aload_n 52 dX9_init_51 0 rfl rfl (Nat.le_of_ble_eq_true rfl) rfl ?_
    refine oSeg.bipush 54 dX9_init_52 oc_b48 rfl ?_
    refine oSeg.newl 56 dX9_init_54 rfl acL (by decide) rfl (Nat.le_of_ble_eq_true rfl) (fun h => absurd h (by decide)) (Nat.le_of_ble_eq_true rfl) (Nat.le_of_ble_eq_true rfl) (Nat.le_of_ble_eq_true rfl) rfl ?_
    refine oSeg.putR 59 dX9_init_56 rfl ff_RX9_30 (Nat.le_of_ble_eq_true rfl) rfl rfl (Nat.le_of_ble_eq_true rfl) rfl ?_
    refine oSeg.aload_n 60 dX9_init_59 0 rfl rfl (Nat.le_of_ble_eq_true rfl) rfl ?_
    refine oSeg.bipush 62 dX9_init_60 oc_b60 rfl ?_
    refine oSeg.newi 64 dX9_init_62 rfl acI (by decide) rfl (Nat.le_of_ble_eq_true rfl) (fun h => absurd h (by decide)) (Nat.le_of_ble_eq_true rfl) (Nat.le_of_ble_eq_true rfl) (Nat.le_of_ble_eq_true rfl) rfl ?_
    refine oSeg.putR 67 dX9_init_64 rfl ff_RX9_34 (Nat.le_of_ble_eq_true rfl) rfl rfl (Nat.le_of_ble_eq_true rfl) rfl ?_
    refine oSeg.aload_n 68 dX9_init_67 0 rfl rfl (Nat.le_of_ble_eq_true rfl) rfl ?_
    refine oSeg.sipush 71 dX9_init_68 oc_s240 rfl ?_
    refine oSeg.newi 73 dX9_init_71 rfl acI (by decide) rfl (Nat.le_of_ble_eq_true rfl) (fun h => absurd h (by decide)) (Nat.le_of_ble_eq_true rfl) (Nat.le_of_ble_eq_true rfl) (Nat.le_of_ble_eq_true rfl) rfl ?_
    refine oSeg.putR 76 dX9_init_73 rfl ff_RX9_37 (Nat.le_of_ble_eq_true rfl) rfl rfl (Nat.le_of_ble_eq_true rfl) rfl ?_
    refine oSeg.aload_n 77 dX9_init_76 0 rfl rfl (Nat.le_of_ble_eq_true rfl) rfl ?_
    refine oSeg.getR 80 dX9_init_77 fd_RX9_11 (Nat.le_of_ble_eq_true rfl) rfl rfl (Nat.le_of_ble_eq_true rfl) rfl rfl ?_
    refine oSeg.iconst 81 dX9_init_80 oc_i1 rfl ?_
    refine oSeg.bipush 83 dX9_init_81 oc_b20 rfl ?_
    refine oSeg.iastore 84 dX9_init_83 (Nat.le_of_ble_eq_true rfl) rfl (show ¬ (_ ∨ _) by decide) rfl rfl ?_
    refine oSeg.aload_n 85 dX9_init_84 0 rfl rfl (Nat.le_of_ble_eq_true rfl) rfl ?_
    refine oSeg.getR 88 dX9_init_85 fd_RX9_11 (Nat.le_of_ble_eq_true rfl) rfl rfl (Nat.le_of_ble_eq_true rfl) rfl rfl ?_
    refine oSeg.iconst 89 dX9_init_88 oc_i2 rfl ?_
    refine oSeg.bipush 91 dX9_init_89 oc_b30 rfl ?_
    refine oSeg.iastore 92 dX9_init_91 (Nat.le_of_ble_eq_true rfl) rfl (show ¬ (_ ∨ _) by decide) rfl rfl ?_
    refine oSeg.iconst 93 dX9_init_92 oc_i0 rfl ?_
    refine oSeg.istore_n 94 dX9_init_93 rfl (Nat.le_of_ble_eq_true rfl) rfl rfl ?_
    refine oSeg.iload_n 95 dX9_init_94 0 rfl rfl rfl ?_
    refine oSeg.iconst 96 dX9_init_95 oc_i4 rfl ?_
    refine oSeg.ge_f 99 dX9_init_96 rfl (by decide) rfl ?_
    refine oSeg.aload_n 100 dX9_init_99 1 rfl rfl (Nat.le_of_ble_eq_true rfl) rfl ?_
    refine oSeg.getR 103 dX9_init_100 fd_RX9_27 (Nat.le_of_ble_eq_true rfl) rfl rfl (Nat.le_of_ble_eq_true rfl) rfl rfl ?_
    refine oSeg.iload_n 104 dX9_init_103 0 rfl rfl rfl ?_
    refine oSeg.iconst 105 dX9_init_104 oc_im1 rfl ?_
    refine oSeg.iastore 106 dX9_init_105 (Nat.le_of_ble_eq_true rfl) rfl (show ¬ (_ ∨ _) by decide) rfl rfl ?_
    refine oSeg.iinc (v := 1) 109 dX9_init_106 0 rfl (by decide) (Nat.le_of_ble_eq_true rfl) rfl rfl ?_
    refine oSeg.goto 94 dX9_init_109 rfl ?_
    refine oSeg.iload_n 95 dX9_init_94 0 rfl rfl rfl ?_
    refine oSeg.iconst 96 dX9_init_95 oc_i4 rfl ?_
    refine oSeg.ge_f 99 dX9_init_96 rfl (by decide) rfl ?_
    refine oSeg.aload_n 100 dX9_init_99 1 rfl rfl (Nat.le_of_ble_eq_true rfl) rfl ?_
    refine oSeg.getR 103 dX9_init_100 fd_RX9_27 (Nat.le_of_ble_eq_true rfl) rfl rfl (Nat.le_of_ble_eq_true rfl) rfl rfl ?_
    refine oSeg.iload_n 104 dX9_init_103 0 rfl rfl rfl ?_
    refine oSeg.iconst 105 dX9_init_104 oc_im1 rfl ?_
    refine oSeg.iastore 106 dX9_init_105 (Nat.le_of_ble_eq_true rfl) rfl (show ¬ (_ ∨ _) by decide) rfl rfl ?_
    refine oSeg.iinc (v := 2) 109 dX9_init_106 0 rfl (by decide) (Nat.le_of_ble_eq_true rfl) rfl rfl ?_
    refine oSeg.goto 94 dX9_init_109 rfl ?_
    refine oSeg.iload_n 95 dX9_init_94 0 rfl rfl rfl ?_
    refine oSeg.iconst 96 dX9_init_95 oc_i4 rfl ?_
    refine oSeg.ge_f 99 dX9_init_96 rfl (by decide) rfl ?_
    refine oSeg.aload_n 100 dX9_init_99 1 rfl rfl (Nat.le_of_ble_eq_true rfl) rfl ?_
    refine oSeg.getR 103 dX9_init_100 fd_RX9_27 (Nat.le_of_ble_eq_true rfl) rfl rfl (Nat.le_of_ble_eq_true rfl) rfl rfl ?_
    refine oSeg.iload_n 104 dX9_init_103 0 rfl rfl rfl ?_
    refine oSeg.iconst 105 dX9_init_104 oc_im1 rfl ?_
    refine oSeg.iastore 106 dX9_init_105 (Nat.le_of_ble_eq_true rfl) rfl (show ¬ (_ ∨ _) by decide) rfl rfl ?_
    refine oSeg.iinc (v := 3) 109 dX9_init_106 0 rfl (by decide) (Nat.le_of_ble_eq_true rfl) rfl rfl ?_
    refine oSeg.goto 94 dX9_init_109 rfl ?_
    refine oSeg.iload_n 95 dX9_init_94 0 rfl rfl rfl ?_
    refine oSeg.iconst 96 dX9_init_95 oc_i4 rfl ?_
    refine oSeg.ge_f 99 dX9_init_96 rfl (by decide) rfl ?_
    refine oSeg.aload_n 100 dX9_init_99 1 rfl rfl (Nat.le_of_ble_eq_true rfl) rfl ?_
    refine oSeg.getR 103 dX9_init_100 fd_RX9_27 (Nat.le_of_ble_eq_true rfl) rfl rfl (Nat.le_of_ble_eq_true rfl) rfl rfl ?_
    refine oSeg.iload_n 104 dX9_init_103 0 rfl rfl rfl ?_
    refine oSeg.iconst 105 dX9_init_104 oc_im1 rfl ?_
    refine oSeg.iastore 106 dX9_init_105 (Nat.le_of_ble_eq_true rfl) rfl (show ¬ (_ ∨ _) by decide) rfl rfl ?_
    refine oSeg.iinc (v := 4) 109 dX9_init_106 0 rfl (by decide) (Nat.le_of_ble_eq_true rfl) rfl rfl ?_
    refine oSeg.goto 94 dX9_init_109 rfl ?_
    refine oSeg.iload_n 95 dX9_init_94 0 rfl rfl rfl ?_
    refine oSeg.iconst 96 dX9_init_95 oc_i4 rfl ?_
    refine oSeg.ge_t 112 dX9_init_96 (by decide) rfl ?_
    exact oSeg.done
  · intro hz
    unfold K_X9_init_51
    refine oZr_SI (Nat.le_of_ble_eq_true rfl) ?_
    refine oZr_SI (Nat.le_of_ble_eq_true rfl) ?_
    refine oZr_SI (Nat.le_of_ble_eq_true rfl) ?_
    refine oZr_SI (Nat.le_of_ble_eq_true rfl) ?_
    refine oZr_SI (Nat.le_of_ble_eq_true rfl) ?_
    refine oZr_SI (Nat.le_of_ble_eq_true rfl) ?_
    refine oZr_SI (Nat.le_of_ble_eq_true rfl) ?_
    refine oZr_SI (Nat.le_of_ble_eq_true rfl) ?_
    refine oZr_SI (Nat.le_of_ble_eq_true rfl) ?_
    refine oZr_SI (Nat.le_of_ble_eq_true rfl) ?_
    refine oZr_SI (Nat.le_of_ble_eq_true rfl) ?_
    refine oZr_SI (Nat.le_of_ble_eq_true rfl) ?_
    refine oZr_SI (Nat.le_of_ble_eq_true rfl) ?_
    refine oZr_SI (Nat.le_of_ble_eq_true rfl) ?_
    refine oZr_SI (Nat.le_of_ble_eq_true rfl) ?_
    exact oZr_le (Nat.le_of_ble_eq_true rfl) hz
def oM0 : oM := (fun _ _ => 0, fun _ _ => 0)
def oM1 : oM := (K_X9_init_51 (K_X8_init_0 oM0))
set_option maxRecDepth 100000 in
set_option maxHeartbeats 4000000 in
theorem E_law_start {G : oG} : oSeg G M_L_law 0 0 0 0 [(0, .ref 64)] [] oM0 61 61 1220 16 [(2, .ref 51), (1, .ref 0), (0, .ref 64)] oM1 := by
  refine oSeg.new 3 dL_law_0 rfl rfl tyX8_ok inX8 wd_1_16 wd_1_17 wd_1_1 (dfX8 _ _ _ _ _ _ _) (fun _ => rfl) (Nat.le_of_ble_eq_true rfl) (Nat.le_of_ble_eq_true rfl) (Nat.le_of_ble_eq_true rfl) rfl ?_
  refine oSeg.dup 4 dL_law_3 rfl ?_
  refine oSeg.callI (Nd := M_X8_init) 7 dL_law_4 (Or.inr wd_1_18) mc_X8_init (oFit_i (Nat.le_of_ble_eq_true rfl) (Nat.le_of_ble_eq_true rfl)) (Nat.le_of_ble_eq_true rfl) (Nat.le_of_ble_eq_true rfl) E_X8_init_0 (fun h => absurd h (by decide)) rfl (Nat.le_of_ble_eq_true rfl) (Nat.le_of_ble_eq_true rfl) rfl ?_
  refine oSeg.astore_n 8 dL_law_7 rfl (Nat.le_of_ble_eq_true rfl) (Nat.le_of_ble_eq_true rfl) rfl rfl ?_
  refine oSeg.new 11 dL_law_8 rfl rfl tyX9_ok inX9 wd_4_84 wd_4_85 wd_1_10 (dfX9 _ _ _ _ _ _ _ _ _) (fun h => absurd h (by decide)) (Nat.le_of_ble_eq_true rfl) (Nat.le_of_ble_eq_true rfl) (Nat.le_of_ble_eq_true rfl) rfl ?_
  refine oSeg.dup 12 dL_law_11 rfl ?_
  refine oSeg.callI (Nd := M_X9_init) 15 dL_law_12 (Or.inr wd_4_86) mc_X9_init (oFit_i (Nat.le_of_ble_eq_true rfl) (Nat.le_of_ble_eq_true rfl)) (Nat.le_of_ble_eq_true rfl) (Nat.le_of_ble_eq_true rfl) E_X9_init_51 (fun h => absurd h (by decide)) rfl (Nat.le_of_ble_eq_true rfl) (Nat.le_of_ble_eq_true rfl) rfl ?_
  refine oSeg.astore_n 16 dL_law_15 rfl (Nat.le_of_ble_eq_true rfl) (Nat.le_of_ble_eq_true rfl) rfl rfl ?_
  exact oSeg.done
