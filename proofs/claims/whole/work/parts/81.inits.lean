/-! the constructors -/
theorem inw_X0_init_0 : ∀ w ∈ u_ws RX0 TX0 12, w ∈ wsX0_init := by decide +kernel
theorem fl_X0_init_9 : zfl wsX0_init RX0 9 0 0 RX0 TX0 12 := ⟨inw_X0_init_0, rfl, by decide, by decide +kernel⟩
theorem fl_X0_init_15 : zfl wsX0_init RX0 15 0 1 RX0 TX0 12 := ⟨inw_X0_init_0, rfl, by decide, by decide +kernel⟩
theorem fl_X0_init_18 : zfl wsX0_init RX0 18 0 9 RX0 TX0 12 := ⟨inw_X0_init_0, rfl, by decide, by decide +kernel⟩
theorem fl_X0_init_21 : zfl wsX0_init RX0 21 0 10 RX0 TX0 12 := ⟨inw_X0_init_0, rfl, by decide, by decide +kernel⟩
theorem fl_X0_init_24 : zfl wsX0_init RX0 24 0 11 RX0 TX0 12 := ⟨inw_X0_init_0, rfl, by decide, by decide +kernel⟩
theorem dfX0 : ∀ j, j < 12 → defaultValue (tyX0 j) = vp_V [.null, .null, .int (zI 0), .int (zI 0), .int (zI 0), .int (zI 0), .int (zI 0), .int (zI 0), .int (zI 0), .null, .null, .null] j := fun j hj => match j, hj with
  | 0, _ => rfl
  | 1, _ => rfl
  | 2, _ => rfl
  | 3, _ => rfl
  | 4, _ => rfl
  | 5, _ => rfl
  | 6, _ => rfl
  | 7, _ => rfl
  | 8, _ => rfl
  | 9, _ => rfl
  | 10, _ => rfl
  | 11, _ => rfl
  | j + 12, h => absurd h (by omega)
abbrev rmX0_init : Room := { frames := 1, cells := 5, slots := 5307, locals := 12 }
theorem mX0_init : zY yX0_init cX0_init 1 none wsX0_init 0 := ⟨⟨_, rfl⟩, by decide +kernel, by decide +kernel, by decide +kernel⟩
set_option maxRecDepth 20000 in
set_option maxHeartbeats 2000000 in
theorem k_X0_init (l : Launch) (D : va_G) (aI aZ : ClassId) (o : Nat) : zC l D aI aZ yX0_init wsX0_init rmX0_init [.ref o] [(o, .inr (0, [.null, .null, .int (zI 0), .int (zI 0), .int (zI 0), .int (zI 0), .int (zI 0), .int (zI 0), .int (zI 0), .null, .null, .null]))] (fun r w => r = none ∧ ∃ (a1 a2 a3 a4 a5 : Nat), w = wX0 aI o a1 a2 a3 a4 a5 (fun _ => 0) (fun _ => 0) 0 0 0 0 0 0 0 (fun _ => 0) (fun _ => 0) (fun _ => 0)) 5 5307 := by
  refine z_metI (cc := cX0_init) (maxL := 1) (ret := none) (by decide +kernel) rfl rfl (Nat.le_of_ble_eq_true rfl) (fun X hX hin F E => ?_)
  show zG X D 0 0 [(o, .inr (0, [.null, .null, .int (zI 0), .int (zI 0), .int (zI 0), .int (zI 0), .int (zI 0), .int (zI 0), .int (zI 0), .null, .null, .null]))] 0 [(0, .ref o)] []
  refine z_aload_n 0 F (dX0_init_0 0 rfl) rfl ?_
  refine z_objInit F (dX0_init_0 1 rfl) (by decide +kernel) (by decide +kernel) (by decide +kernel) ⟨Nat.le_of_ble_eq_true rfl, Nat.le_of_ble_eq_true rfl⟩ ?_
  refine z_aload_n 0 F (dX0_init_0 2 rfl) rfl ?_
  refine z_sipush F (dX0_init_0 3 rfl) (by decide) ?_
  refine z_newaI (N := 1440) F (dX0_init_0 4 rfl) (by decide +kernel) (by decide) (Nat.le_of_ble_eq_true rfl) ⟨Nat.le_of_ble_eq_true rfl, Nat.le_of_ble_eq_true rfl⟩ (fun a1 => ?_)
  refine z_putF (ws' := [(o, .inr (0, [.ref a1, .null, .int (zI 0), .int (zI 0), .int (zI 0), .int (zI 0), .int (zI 0), .int (zI 0), .int (zI 0), .null, .null, .null])), (a1, .inl (aI, 1440, .inl (fun _ => zI 0)))]) 0 F hin (dX0_init_0 5 rfl) fl_X0_init_9 tyX0_ok nmX0 rfl rfl rfl rfl rfl rfl (Nat.le_of_ble_eq_true rfl) rfl ?_
  refine z_aload_n 0 F (dX0_init_0 6 rfl) rfl ?_
  refine z_bipush F (dX0_init_0 7 rfl) (by decide) ?_
  refine z_newaI (N := 24) F (dX0_init_0 8 rfl) (by decide +kernel) (by decide) (Nat.le_of_ble_eq_true rfl) ⟨Nat.le_of_ble_eq_true rfl, Nat.le_of_ble_eq_true rfl⟩ (fun a2 => ?_)
  refine z_putF (ws' := [(o, .inr (0, [.ref a1, .ref a2, .int (zI 0), .int (zI 0), .int (zI 0), .int (zI 0), .int (zI 0), .int (zI 0), .int (zI 0), .null, .null, .null])), (a1, .inl (aI, 1440, .inl (fun _ => zI 0))), (a2, .inl (aI, 24, .inl (fun _ => zI 0)))]) 0 F hin (dX0_init_0 9 rfl) fl_X0_init_15 tyX0_ok nmX0 rfl rfl rfl rfl rfl rfl (Nat.le_of_ble_eq_true rfl) rfl ?_
  refine z_aload_n 0 F (dX0_init_0 10 rfl) rfl ?_
  refine z_bipush F (dX0_init_0 11 rfl) (by decide) ?_
  refine z_newaI (N := 61) F (dX0_init_0 12 rfl) (by decide +kernel) (by decide) (Nat.le_of_ble_eq_true rfl) ⟨Nat.le_of_ble_eq_true rfl, Nat.le_of_ble_eq_true rfl⟩ (fun a3 => ?_)
  refine z_putF (ws' := [(o, .inr (0, [.ref a1, .ref a2, .int (zI 0), .int (zI 0), .int (zI 0), .int (zI 0), .int (zI 0), .int (zI 0), .int (zI 0), .ref a3, .null, .null])), (a1, .inl (aI, 1440, .inl (fun _ => zI 0))), (a2, .inl (aI, 24, .inl (fun _ => zI 0))), (a3, .inl (aI, 61, .inl (fun _ => zI 0)))]) 0 F hin (dX0_init_0 13 rfl) fl_X0_init_18 tyX0_ok nmX0 rfl rfl rfl rfl rfl rfl (Nat.le_of_ble_eq_true rfl) rfl ?_
  refine z_aload_n 0 F (dX0_init_0 14 rfl) rfl ?_
  refine z_bipush F (dX0_init_0 15 rfl) (by decide) ?_
  refine z_newaI (N := 61) F (dX0_init_0 16 rfl) (by decide +kernel) (by decide) (Nat.le_of_ble_eq_true rfl) ⟨Nat.le_of_ble_eq_true rfl, Nat.le_of_ble_eq_true rfl⟩ (fun a4 => ?_)
  refine z_putF (ws' := [(o, .inr (0, [.ref a1, .ref a2, .int (zI 0), .int (zI 0), .int (zI 0), .int (zI 0), .int (zI 0), .int (zI 0), .int (zI 0), .ref a3, .ref a4, .null])), (a1, .inl (aI, 1440, .inl (fun _ => zI 0))), (a2, .inl (aI, 24, .inl (fun _ => zI 0))), (a3, .inl (aI, 61, .inl (fun _ => zI 0))), (a4, .inl (aI, 61, .inl (fun _ => zI 0)))]) 0 F hin (dX0_init_0 17 rfl) fl_X0_init_21 tyX0_ok nmX0 rfl rfl rfl rfl rfl rfl (Nat.le_of_ble_eq_true rfl) rfl ?_
  refine z_aload_n 0 F (dX0_init_0 18 rfl) rfl ?_
  refine z_sipush F (dX0_init_0 19 rfl) (by decide) ?_
  refine z_newaI (N := 3721) F (dX0_init_0 20 rfl) (by decide +kernel) (by decide) (Nat.le_of_ble_eq_true rfl) ⟨Nat.le_of_ble_eq_true rfl, Nat.le_of_ble_eq_true rfl⟩ (fun a5 => ?_)
  refine z_putF (ws' := [(o, .inr (0, [.ref a1, .ref a2, .int (zI 0), .int (zI 0), .int (zI 0), .int (zI 0), .int (zI 0), .int (zI 0), .int (zI 0), .ref a3, .ref a4, .ref a5])), (a1, .inl (aI, 1440, .inl (fun _ => zI 0))), (a2, .inl (aI, 24, .inl (fun _ => zI 0))), (a3, .inl (aI, 61, .inl (fun _ => zI 0))), (a4, .inl (aI, 61, .inl (fun _ => zI 0))), (a5, .inl (aI, 3721, .inl (fun _ => zI 0)))]) 0 F hin (dX0_init_0 21 rfl) fl_X0_init_24 tyX0_ok nmX0 rfl rfl rfl rfl rfl rfl (Nat.le_of_ble_eq_true rfl) rfl ?_
  exact z_vret [0, 1, 2, 3, 4, 5] F E (dX0_init_0 22 rfl) rfl (by decide) ⟨rfl, a1, a2, a3, a4, a5, rfl⟩
theorem inw_X1_init_1 : ∀ w ∈ u_ws RX1 TX1 7, w ∈ wsX1_init := by decide +kernel
theorem fl_X1_init_9 : zfl wsX1_init RX1 9 1 0 RX1 TX1 7 := ⟨inw_X1_init_1, rfl, by decide, by decide +kernel⟩
theorem dfX1 : ∀ j, j < 7 → defaultValue (tyX1 j) = vp_V [.null, .int (zI 0), .int (zI 0), .int (zI 0), .int (zI 0), .int (zI 0), .int (zI 0)] j := fun j hj => match j, hj with
  | 0, _ => rfl
  | 1, _ => rfl
  | 2, _ => rfl
  | 3, _ => rfl
  | 4, _ => rfl
  | 5, _ => rfl
  | 6, _ => rfl
  | j + 7, h => absurd h (by omega)
abbrev rmX1_init : Room := { frames := 1, cells := 1, slots := 9, locals := 12 }
theorem mX1_init : zY yX1_init cX1_init 1 none wsX1_init 0 := ⟨⟨_, rfl⟩, by decide +kernel, by decide +kernel, by decide +kernel⟩
set_option maxRecDepth 20000 in
set_option maxHeartbeats 2000000 in
theorem k_X1_init (l : Launch) (D : va_G) (aI aZ : ClassId) (o : Nat) : zC l D aI aZ yX1_init wsX1_init rmX1_init [.ref o] [(o, .inr (1, [.null, .int (zI 0), .int (zI 0), .int (zI 0), .int (zI 0), .int (zI 0), .int (zI 0)]))] (fun r w => r = none ∧ ∃ (a1 : Nat), w = wX1 aI o a1 (fun _ => 0) 0 0 0 0 0 0) 1 9 := by
  refine z_metI (cc := cX1_init) (maxL := 1) (ret := none) (by decide +kernel) rfl rfl (Nat.le_of_ble_eq_true rfl) (fun X hX hin F E => ?_)
  show zG X D 0 0 [(o, .inr (1, [.null, .int (zI 0), .int (zI 0), .int (zI 0), .int (zI 0), .int (zI 0), .int (zI 0)]))] 0 [(0, .ref o)] []
  refine z_aload_n 0 F (dX1_init_0 0 rfl) rfl ?_
  refine z_objInit F (dX1_init_0 1 rfl) (by decide +kernel) (by decide +kernel) (by decide +kernel) ⟨Nat.le_of_ble_eq_true rfl, Nat.le_of_ble_eq_true rfl⟩ ?_
  refine z_aload_n 0 F (dX1_init_0 2 rfl) rfl ?_
  refine z_bipush F (dX1_init_0 3 rfl) (by decide) ?_
  refine z_newaI (N := 9) F (dX1_init_0 4 rfl) (by decide +kernel) (by decide) (Nat.le_of_ble_eq_true rfl) ⟨Nat.le_of_ble_eq_true rfl, Nat.le_of_ble_eq_true rfl⟩ (fun a1 => ?_)
  refine z_putF (ws' := [(o, .inr (1, [.ref a1, .int (zI 0), .int (zI 0), .int (zI 0), .int (zI 0), .int (zI 0), .int (zI 0)])), (a1, .inl (aI, 9, .inl (fun _ => zI 0)))]) 0 F hin (dX1_init_0 5 rfl) fl_X1_init_9 tyX1_ok nmX1 rfl rfl rfl rfl rfl rfl (Nat.le_of_ble_eq_true rfl) rfl ?_
  exact z_vret [0, 1] F E (dX1_init_0 6 rfl) rfl (by decide) ⟨rfl, a1, rfl⟩
theorem inw_X2_init_2 : ∀ w ∈ u_ws RX2 TX2 3, w ∈ wsX2_init := by decide +kernel
theorem fl_X2_init_9 : zfl wsX2_init RX2 9 2 0 RX2 TX2 3 := ⟨inw_X2_init_2, rfl, by decide, by decide +kernel⟩
theorem fl_X2_init_15 : zfl wsX2_init RX2 15 2 1 RX2 TX2 3 := ⟨inw_X2_init_2, rfl, by decide, by decide +kernel⟩
theorem dfX2 : ∀ j, j < 3 → defaultValue (tyX2 j) = vp_V [.null, .null, .int (zI 0)] j := fun j hj => match j, hj with
  | 0, _ => rfl
  | 1, _ => rfl
  | 2, _ => rfl
  | j + 3, h => absurd h (by omega)
abbrev rmX2_init : Room := { frames := 1, cells := 2, slots := 1464, locals := 12 }
theorem mX2_init : zY yX2_init cX2_init 1 none wsX2_init 0 := ⟨⟨_, rfl⟩, by decide +kernel, by decide +kernel, by decide +kernel⟩
set_option maxRecDepth 20000 in
set_option maxHeartbeats 2000000 in
theorem k_X2_init (l : Launch) (D : va_G) (aI aZ : ClassId) (o : Nat) : zC l D aI aZ yX2_init wsX2_init rmX2_init [.ref o] [(o, .inr (2, [.null, .null, .int (zI 0)]))] (fun r w => r = none ∧ ∃ (a1 a2 : Nat), w = wX2 aI o a1 a2 (fun _ => 0) (fun _ => 0) 0) 2 1464 := by
  refine z_metI (cc := cX2_init) (maxL := 1) (ret := none) (by decide +kernel) rfl rfl (Nat.le_of_ble_eq_true rfl) (fun X hX hin F E => ?_)
  show zG X D 0 0 [(o, .inr (2, [.null, .null, .int (zI 0)]))] 0 [(0, .ref o)] []
  refine z_aload_n 0 F (dX2_init_0 0 rfl) rfl ?_
  refine z_objInit F (dX2_init_0 1 rfl) (by decide +kernel) (by decide +kernel) (by decide +kernel) ⟨Nat.le_of_ble_eq_true rfl, Nat.le_of_ble_eq_true rfl⟩ ?_
  refine z_aload_n 0 F (dX2_init_0 2 rfl) rfl ?_
  refine z_sipush F (dX2_init_0 3 rfl) (by decide) ?_
  refine z_newaI (N := 1440) F (dX2_init_0 4 rfl) (by decide +kernel) (by decide) (Nat.le_of_ble_eq_true rfl) ⟨Nat.le_of_ble_eq_true rfl, Nat.le_of_ble_eq_true rfl⟩ (fun a1 => ?_)
  refine z_putF (ws' := [(o, .inr (2, [.ref a1, .null, .int (zI 0)])), (a1, .inl (aI, 1440, .inl (fun _ => zI 0)))]) 0 F hin (dX2_init_0 5 rfl) fl_X2_init_9 tyX2_ok nmX2 rfl rfl rfl rfl rfl rfl (Nat.le_of_ble_eq_true rfl) rfl ?_
  refine z_aload_n 0 F (dX2_init_0 6 rfl) rfl ?_
  refine z_bipush F (dX2_init_0 7 rfl) (by decide) ?_
  refine z_newaI (N := 24) F (dX2_init_0 8 rfl) (by decide +kernel) (by decide) (Nat.le_of_ble_eq_true rfl) ⟨Nat.le_of_ble_eq_true rfl, Nat.le_of_ble_eq_true rfl⟩ (fun a2 => ?_)
  refine z_putF (ws' := [(o, .inr (2, [.ref a1, .ref a2, .int (zI 0)])), (a1, .inl (aI, 1440, .inl (fun _ => zI 0))), (a2, .inl (aI, 24, .inl (fun _ => zI 0)))]) 0 F hin (dX2_init_0 9 rfl) fl_X2_init_15 tyX2_ok nmX2 rfl rfl rfl rfl rfl rfl (Nat.le_of_ble_eq_true rfl) rfl ?_
  exact z_vret [0, 1, 2] F E (dX2_init_0 10 rfl) rfl (by decide) ⟨rfl, a1, a2, rfl⟩
theorem inw_X3_init_3 : ∀ w ∈ u_ws RX3 TX3 3, w ∈ wsX3_init := by decide +kernel
theorem fl_X3_init_9 : zfl wsX3_init RX3 9 3 0 RX3 TX3 3 := ⟨inw_X3_init_3, rfl, by decide, by decide +kernel⟩
theorem fl_X3_init_15 : zfl wsX3_init RX3 15 3 1 RX3 TX3 3 := ⟨inw_X3_init_3, rfl, by decide, by decide +kernel⟩
theorem fl_X3_init_18 : zfl wsX3_init RX3 18 3 2 RX3 TX3 3 := ⟨inw_X3_init_3, rfl, by decide, by decide +kernel⟩
theorem dfX3 : ∀ j, j < 3 → defaultValue (tyX3 j) = vp_V [.null, .null, .null] j := fun j hj => match j, hj with
  | 0, _ => rfl
  | 1, _ => rfl
  | 2, _ => rfl
  | j + 3, h => absurd h (by omega)
abbrev rmX3_init : Room := { frames := 1, cells := 3, slots := 1647, locals := 12 }
theorem mX3_init : zY yX3_init cX3_init 2 none wsX3_init 0 := ⟨⟨_, rfl⟩, by decide +kernel, by decide +kernel, by decide +kernel⟩
set_option maxRecDepth 20000 in
set_option maxHeartbeats 2000000 in
theorem k_X3_init (l : Launch) (D : va_G) (aI aZ : ClassId) (o : Nat) : zC l D aI aZ yX3_init wsX3_init rmX3_init [.ref o] [(o, .inr (3, [.null, .null, .null]))] (fun r w => r = none ∧ ∃ (a1 a2 a3 : Nat), w = wX3 aI o a1 a2 a3 (fun _ => 0) (fun _ => 0) (fun _ => 0)) 3 1647 := by
  refine z_metI (cc := cX3_init) (maxL := 2) (ret := none) (by decide +kernel) rfl rfl (Nat.le_of_ble_eq_true rfl) (fun X hX hin F E => ?_)
  show zG X D 0 0 [(o, .inr (3, [.null, .null, .null]))] 0 [(0, .ref o)] []
  refine z_aload_n 0 F (dX3_init_0 0 rfl) rfl ?_
  refine z_objInit F (dX3_init_0 1 rfl) (by decide +kernel) (by decide +kernel) (by decide +kernel) ⟨Nat.le_of_ble_eq_true rfl, Nat.le_of_ble_eq_true rfl⟩ ?_
  refine z_sipush F (dX3_init_0 2 rfl) (by decide) ?_
  refine z_istore_n (lv' := [(1, .int (zI 549)), (0, .ref o)]) F (dX3_init_0 3 rfl) (by decide) rfl ?_
  refine z_aload_n 1 F (dX3_init_0 4 rfl) rfl ?_
  refine z_iload_n (x := 549) 0 F (dX3_init_0 5 rfl) rfl ?_
  refine z_newaI (N := 549) F (dX3_init_0 6 rfl) (by decide +kernel) (by decide) (Nat.le_of_ble_eq_true rfl) ⟨Nat.le_of_ble_eq_true rfl, Nat.le_of_ble_eq_true rfl⟩ (fun a1 => ?_)
  refine z_putF (ws' := [(o, .inr (3, [.ref a1, .null, .null])), (a1, .inl (aI, 549, .inl (fun _ => zI 0)))]) 0 F hin (dX3_init_0 7 rfl) fl_X3_init_9 tyX3_ok nmX3 rfl rfl rfl rfl rfl rfl (Nat.le_of_ble_eq_true rfl) rfl ?_
  refine z_aload_n 1 F (dX3_init_0 8 rfl) rfl ?_
  refine z_iload_n (x := 549) 0 F (dX3_init_0 9 rfl) rfl ?_
  refine z_newaI (N := 549) F (dX3_init_0 10 rfl) (by decide +kernel) (by decide) (Nat.le_of_ble_eq_true rfl) ⟨Nat.le_of_ble_eq_true rfl, Nat.le_of_ble_eq_true rfl⟩ (fun a2 => ?_)
  refine z_putF (ws' := [(o, .inr (3, [.ref a1, .ref a2, .null])), (a1, .inl (aI, 549, .inl (fun _ => zI 0))), (a2, .inl (aI, 549, .inl (fun _ => zI 0)))]) 0 F hin (dX3_init_0 11 rfl) fl_X3_init_15 tyX3_ok nmX3 rfl rfl rfl rfl rfl rfl (Nat.le_of_ble_eq_true rfl) rfl ?_
  refine z_aload_n 1 F (dX3_init_0 12 rfl) rfl ?_
  refine z_iload_n (x := 549) 0 F (dX3_init_0 13 rfl) rfl ?_
  refine z_newaI (N := 549) F (dX3_init_0 14 rfl) (by decide +kernel) (by decide) (Nat.le_of_ble_eq_true rfl) ⟨Nat.le_of_ble_eq_true rfl, Nat.le_of_ble_eq_true rfl⟩ (fun a3 => ?_)
  refine z_putF (ws' := [(o, .inr (3, [.ref a1, .ref a2, .ref a3])), (a1, .inl (aI, 549, .inl (fun _ => zI 0))), (a2, .inl (aI, 549, .inl (fun _ => zI 0))), (a3, .inl (aI, 549, .inl (fun _ => zI 0)))]) 0 F hin (dX3_init_0 15 rfl) fl_X3_init_18 tyX3_ok nmX3 rfl rfl rfl rfl rfl rfl (Nat.le_of_ble_eq_true rfl) rfl ?_
  exact z_vret [0, 1, 2, 3] F E (dX3_init_0 16 rfl) rfl (by decide) ⟨rfl, a1, a2, a3, rfl⟩
theorem inw_X4_init_4 : ∀ w ∈ u_ws RX4 TX4 7, w ∈ wsX4_init := by decide +kernel
theorem fl_X4_init_9 : zfl wsX4_init RX4 9 4 0 RX4 TX4 7 := ⟨inw_X4_init_4, rfl, by decide, by decide +kernel⟩
theorem fl_X4_init_15 : zfl wsX4_init RX4 15 4 1 RX4 TX4 7 := ⟨inw_X4_init_4, rfl, by decide, by decide +kernel⟩
theorem fl_X4_init_18 : zfl wsX4_init RX4 18 4 4 RX4 TX4 7 := ⟨inw_X4_init_4, rfl, by decide, by decide +kernel⟩
theorem fl_X4_init_21 : zfl wsX4_init RX4 21 4 5 RX4 TX4 7 := ⟨inw_X4_init_4, rfl, by decide, by decide +kernel⟩
theorem dfX4 : ∀ j, j < 7 → defaultValue (tyX4 j) = vp_V [.null, .null, .int (zI 0), .int (zI 0), .null, .null, .int (zI 0)] j := fun j hj => match j, hj with
  | 0, _ => rfl
  | 1, _ => rfl
  | 2, _ => rfl
  | 3, _ => rfl
  | 4, _ => rfl
  | 5, _ => rfl
  | 6, _ => rfl
  | j + 7, h => absurd h (by omega)
abbrev rmX4_init : Room := { frames := 1, cells := 4, slots := 20512, locals := 12 }
theorem mX4_init : zY yX4_init cX4_init 2 none wsX4_init 0 := ⟨⟨_, rfl⟩, by decide +kernel, by decide +kernel, by decide +kernel⟩
set_option maxRecDepth 20000 in
set_option maxHeartbeats 2000000 in
theorem k_X4_init (l : Launch) (D : va_G) (aI aZ : ClassId) (o : Nat) : zC l D aI aZ yX4_init wsX4_init rmX4_init [.ref o] [(o, .inr (4, [.null, .null, .int (zI 0), .int (zI 0), .null, .null, .int (zI 0)]))] (fun r w => r = none ∧ ∃ (a1 a2 a3 a4 : Nat), w = wX4 aI o a1 a2 a3 a4 (fun _ => 0) (fun _ => 0) 0 0 (fun _ => 0) (fun _ => 0) 0) 4 20512 := by
  refine z_metI (cc := cX4_init) (maxL := 2) (ret := none) (by decide +kernel) rfl rfl (Nat.le_of_ble_eq_true rfl) (fun X hX hin F E => ?_)
  show zG X D 0 0 [(o, .inr (4, [.null, .null, .int (zI 0), .int (zI 0), .null, .null, .int (zI 0)]))] 0 [(0, .ref o)] []
  refine z_aload_n 0 F (dX4_init_0 0 rfl) rfl ?_
  refine z_objInit F (dX4_init_0 1 rfl) (by decide +kernel) (by decide +kernel) (by decide +kernel) ⟨Nat.le_of_ble_eq_true rfl, Nat.le_of_ble_eq_true rfl⟩ ?_
  refine z_sipush F (dX4_init_0 2 rfl) (by decide) ?_
  refine z_istore_n (lv' := [(1, .int (zI 336)), (0, .ref o)]) F (dX4_init_0 3 rfl) (by decide) rfl ?_
  refine z_aload_n 1 F (dX4_init_0 4 rfl) rfl ?_
  refine z_iload_n (x := 336) 0 F (dX4_init_0 5 rfl) rfl ?_
  refine z_bipush F (dX4_init_0 6 rfl) (by decide) ?_
  refine z_imul F (dX4_init_0 7 rfl) ?_
  refine z_newaI (N := 20160) F (dX4_init_0 8 rfl) (by decide +kernel) (by decide) (Nat.le_of_ble_eq_true rfl) ⟨Nat.le_of_ble_eq_true rfl, Nat.le_of_ble_eq_true rfl⟩ (fun a1 => ?_)
  refine z_putF (ws' := [(o, .inr (4, [.ref a1, .null, .int (zI 0), .int (zI 0), .null, .null, .int (zI 0)])), (a1, .inl (aI, 20160, .inl (fun _ => zI 0)))]) 0 F hin (dX4_init_0 9 rfl) fl_X4_init_9 tyX4_ok nmX4 rfl rfl rfl rfl rfl rfl (Nat.le_of_ble_eq_true rfl) rfl ?_
  refine z_aload_n 1 F (dX4_init_0 10 rfl) rfl ?_
  refine z_iload_n (x := 336) 0 F (dX4_init_0 11 rfl) rfl ?_
  refine z_newaI (N := 336) F (dX4_init_0 12 rfl) (by decide +kernel) (by decide) (Nat.le_of_ble_eq_true rfl) ⟨Nat.le_of_ble_eq_true rfl, Nat.le_of_ble_eq_true rfl⟩ (fun a2 => ?_)
  refine z_putF (ws' := [(o, .inr (4, [.ref a1, .ref a2, .int (zI 0), .int (zI 0), .null, .null, .int (zI 0)])), (a1, .inl (aI, 20160, .inl (fun _ => zI 0))), (a2, .inl (aI, 336, .inl (fun _ => zI 0)))]) 0 F hin (dX4_init_0 13 rfl) fl_X4_init_15 tyX4_ok nmX4 rfl rfl rfl rfl rfl rfl (Nat.le_of_ble_eq_true rfl) rfl ?_
  refine z_aload_n 1 F (dX4_init_0 14 rfl) rfl ?_
  refine z_bipush F (dX4_init_0 15 rfl) (by decide) ?_
  refine z_newaI (N := 8) F (dX4_init_0 16 rfl) (by decide +kernel) (by decide) (Nat.le_of_ble_eq_true rfl) ⟨Nat.le_of_ble_eq_true rfl, Nat.le_of_ble_eq_true rfl⟩ (fun a3 => ?_)
  refine z_putF (ws' := [(o, .inr (4, [.ref a1, .ref a2, .int (zI 0), .int (zI 0), .ref a3, .null, .int (zI 0)])), (a1, .inl (aI, 20160, .inl (fun _ => zI 0))), (a2, .inl (aI, 336, .inl (fun _ => zI 0))), (a3, .inl (aI, 8, .inl (fun _ => zI 0)))]) 0 F hin (dX4_init_0 17 rfl) fl_X4_init_18 tyX4_ok nmX4 rfl rfl rfl rfl rfl rfl (Nat.le_of_ble_eq_true rfl) rfl ?_
  refine z_aload_n 1 F (dX4_init_0 18 rfl) rfl ?_
  refine z_bipush F (dX4_init_0 19 rfl) (by decide) ?_
  refine z_newaI (N := 8) F (dX4_init_0 20 rfl) (by decide +kernel) (by decide) (Nat.le_of_ble_eq_true rfl) ⟨Nat.le_of_ble_eq_true rfl, Nat.le_of_ble_eq_true rfl⟩ (fun a4 => ?_)
  refine z_putF (ws' := [(o, .inr (4, [.ref a1, .ref a2, .int (zI 0), .int (zI 0), .ref a3, .ref a4, .int (zI 0)])), (a1, .inl (aI, 20160, .inl (fun _ => zI 0))), (a2, .inl (aI, 336, .inl (fun _ => zI 0))), (a3, .inl (aI, 8, .inl (fun _ => zI 0))), (a4, .inl (aI, 8, .inl (fun _ => zI 0)))]) 0 F hin (dX4_init_0 21 rfl) fl_X4_init_21 tyX4_ok nmX4 rfl rfl rfl rfl rfl rfl (Nat.le_of_ble_eq_true rfl) rfl ?_
  exact z_vret [0, 1, 2, 3, 4] F E (dX4_init_0 22 rfl) rfl (by decide) ⟨rfl, a1, a2, a3, a4, rfl⟩
theorem inw_X6_init_6 : ∀ w ∈ u_ws RX6 TX6 34, w ∈ wsX6_init := by decide +kernel
theorem fl_X6_init_7 : zfl wsX6_init RX6 7 6 0 RX6 TX6 34 := ⟨inw_X6_init_6, rfl, by decide, by decide +kernel⟩
theorem fl_X6_init_13 : zfl wsX6_init RX6 13 6 3 RX6 TX6 34 := ⟨inw_X6_init_6, rfl, by decide, by decide +kernel⟩
theorem fl_X6_init_16 : zfl wsX6_init RX6 16 6 4 RX6 TX6 34 := ⟨inw_X6_init_6, rfl, by decide, by decide +kernel⟩
theorem fl_X6_init_19 : zfl wsX6_init RX6 19 6 8 RX6 TX6 34 := ⟨inw_X6_init_6, rfl, by decide, by decide +kernel⟩
theorem fl_X6_init_23 : zfl wsX6_init RX6 23 6 9 RX6 TX6 34 := ⟨inw_X6_init_6, rfl, by decide, by decide +kernel⟩
theorem fl_X6_init_26 : zfl wsX6_init RX6 26 6 10 RX6 TX6 34 := ⟨inw_X6_init_6, rfl, by decide, by decide +kernel⟩
theorem fl_X6_init_29 : zfl wsX6_init RX6 29 6 11 RX6 TX6 34 := ⟨inw_X6_init_6, rfl, by decide, by decide +kernel⟩
theorem fl_X6_init_32 : zfl wsX6_init RX6 32 6 12 RX6 TX6 34 := ⟨inw_X6_init_6, rfl, by decide, by decide +kernel⟩
theorem fl_X6_init_35 : zfl wsX6_init RX6 35 6 16 RX6 TX6 34 := ⟨inw_X6_init_6, rfl, by decide, by decide +kernel⟩
theorem fl_X6_init_38 : zfl wsX6_init RX6 38 6 17 RX6 TX6 34 := ⟨inw_X6_init_6, rfl, by decide, by decide +kernel⟩
theorem fl_X6_init_41 : zfl wsX6_init RX6 41 6 18 RX6 TX6 34 := ⟨inw_X6_init_6, rfl, by decide, by decide +kernel⟩
theorem fl_X6_init_44 : zfl wsX6_init RX6 44 6 27 RX6 TX6 34 := ⟨inw_X6_init_6, rfl, by decide, by decide +kernel⟩
theorem fl_X6_init_47 : zfl wsX6_init RX6 47 6 28 RX6 TX6 34 := ⟨inw_X6_init_6, rfl, by decide, by decide +kernel⟩
theorem fl_X6_init_50 : zfl wsX6_init RX6 50 6 30 RX6 TX6 34 := ⟨inw_X6_init_6, rfl, by decide, by decide +kernel⟩
theorem fl_X6_init_53 : zfl wsX6_init RX6 53 6 32 RX6 TX6 34 := ⟨inw_X6_init_6, rfl, by decide, by decide +kernel⟩
theorem dfX6 : ∀ j, j < 34 → defaultValue (tyX6 j) = vp_V [.null, .int (zI 0), .int (zI 0), .null, .null, .int (zI 0), .int (zI 0), .int (zI 0), .null, .null, .null, .null, .null, .int (zI 0), .int (zI 0), .int (zI 0), .null, .null, .null, .int (zI 0), .int (zI 0), .int (zI 0), .int (zI 0), .int (zI 0), .int (zI 0), .int (zI 0), .int (zI 0), .null, .null, .int (zI 0), .null, .int (zI 0), .null, .int (zI 0)] j := fun j hj => match j, hj with
  | 0, _ => rfl
  | 1, _ => rfl
  | 2, _ => rfl
  | 3, _ => rfl
  | 4, _ => rfl
  | 5, _ => rfl
  | 6, _ => rfl
  | 7, _ => rfl
  | 8, _ => rfl
  | 9, _ => rfl
  | 10, _ => rfl
  | 11, _ => rfl
  | 12, _ => rfl
  | 13, _ => rfl
  | 14, _ => rfl
  | 15, _ => rfl
  | 16, _ => rfl
  | 17, _ => rfl
  | 18, _ => rfl
  | 19, _ => rfl
  | 20, _ => rfl
  | 21, _ => rfl
  | 22, _ => rfl
  | 23, _ => rfl
  | 24, _ => rfl
  | 25, _ => rfl
  | 26, _ => rfl
  | 27, _ => rfl
  | 28, _ => rfl
  | 29, _ => rfl
  | 30, _ => rfl
  | 31, _ => rfl
  | 32, _ => rfl
  | 33, _ => rfl
  | j + 34, h => absurd h (by omega)
abbrev rmX6_init : Room := { frames := 1, cells := 15, slots := 47443, locals := 12 }
theorem mX6_init : zY yX6_init cX6_init 1 none wsX6_init 0 := ⟨⟨_, rfl⟩, by decide +kernel, by decide +kernel, by decide +kernel⟩
set_option maxRecDepth 20000 in
set_option maxHeartbeats 2000000 in
theorem k_X6_init (l : Launch) (D : va_G) (aI aZ : ClassId) (o : Nat) : zC l D aI aZ yX6_init wsX6_init rmX6_init [.ref o] [(o, .inr (6, [.null, .int (zI 0), .int (zI 0), .null, .null, .int (zI 0), .int (zI 0), .int (zI 0), .null, .null, .null, .null, .null, .int (zI 0), .int (zI 0), .int (zI 0), .null, .null, .null, .int (zI 0), .int (zI 0), .int (zI 0), .int (zI 0), .int (zI 0), .int (zI 0), .int (zI 0), .int (zI 0), .null, .null, .int (zI 0), .null, .int (zI 0), .null, .int (zI 0)]))] (fun r w => r = none ∧ ∃ (a1 a2 a3 a4 a5 a6 a7 a8 a9 a10 a11 a12 a13 a14 a15 : Nat), w = wX6 aI aZ o a1 a2 a3 a4 a5 a6 a7 a8 a9 a10 a11 a12 a13 a14 a15 (fun _ => 0) 0 0 (fun _ => 0) (fun _ => 0) 0 0 0 (fun _ => 0) (fun _ => 0) (fun _ => 0) (fun _ => 0) (fun _ => 0) 0 0 0 (fun _ => 0) (fun _ => 0) (fun _ => 0) 0 0 0 0 0 0 0 0 (fun _ => 0) (fun _ => 0) 0 (fun _ => 0) 0 (fun _ => 0) 0) 15 47443 := by
  refine z_metI (cc := cX6_init) (maxL := 1) (ret := none) (by decide +kernel) rfl rfl (Nat.le_of_ble_eq_true rfl) (fun X hX hin F E => ?_)
  show zG X D 0 0 [(o, .inr (6, [.null, .int (zI 0), .int (zI 0), .null, .null, .int (zI 0), .int (zI 0), .int (zI 0), .null, .null, .null, .null, .null, .int (zI 0), .int (zI 0), .int (zI 0), .null, .null, .null, .int (zI 0), .int (zI 0), .int (zI 0), .int (zI 0), .int (zI 0), .int (zI 0), .int (zI 0), .int (zI 0), .null, .null, .int (zI 0), .null, .int (zI 0), .null, .int (zI 0)]))] 0 [(0, .ref o)] []
  refine z_aload_n 0 F (dX6_init_0 0 rfl) rfl ?_
  refine z_objInit F (dX6_init_0 1 rfl) (by decide +kernel) (by decide +kernel) (by decide +kernel) ⟨Nat.le_of_ble_eq_true rfl, Nat.le_of_ble_eq_true rfl⟩ ?_
  refine z_aload_n 0 F (dX6_init_0 2 rfl) rfl ?_
  refine z_bipush F (dX6_init_0 3 rfl) (by decide) ?_
  refine z_newaI (N := 60) F (dX6_init_0 4 rfl) (by decide +kernel) (by decide) (Nat.le_of_ble_eq_true rfl) ⟨Nat.le_of_ble_eq_true rfl, Nat.le_of_ble_eq_true rfl⟩ (fun a1 => ?_)
  refine z_putF (ws' := [(o, .inr (6, [.ref a1, .int (zI 0), .int (zI 0), .null, .null, .int (zI 0), .int (zI 0), .int (zI 0), .null, .null, .null, .null, .null, .int (zI 0), .int (zI 0), .int (zI 0), .null, .null, .null, .int (zI 0), .int (zI 0), .int (zI 0), .int (zI 0), .int (zI 0), .int (zI 0), .int (zI 0), .int (zI 0), .null, .null, .int (zI 0), .null, .int (zI 0), .null, .int (zI 0)])), (a1, .inl (aI, 60, .inl (fun _ => zI 0)))]) 0 F hin (dX6_init_0 5 rfl) fl_X6_init_7 tyX6_ok nmX6 rfl rfl rfl rfl rfl rfl (Nat.le_of_ble_eq_true rfl) rfl ?_
  refine z_aload_n 0 F (dX6_init_0 6 rfl) rfl ?_
  refine z_bipush F (dX6_init_0 7 rfl) (by decide) ?_
  refine z_newaI (N := 24) F (dX6_init_0 8 rfl) (by decide +kernel) (by decide) (Nat.le_of_ble_eq_true rfl) ⟨Nat.le_of_ble_eq_true rfl, Nat.le_of_ble_eq_true rfl⟩ (fun a2 => ?_)
  refine z_putF (ws' := [(o, .inr (6, [.ref a1, .int (zI 0), .int (zI 0), .ref a2, .null, .int (zI 0), .int (zI 0), .int (zI 0), .null, .null, .null, .null, .null, .int (zI 0), .int (zI 0), .int (zI 0), .null, .null, .null, .int (zI 0), .int (zI 0), .int (zI 0), .int (zI 0), .int (zI 0), .int (zI 0), .int (zI 0), .int (zI 0), .null, .null, .int (zI 0), .null, .int (zI 0), .null, .int (zI 0)])), (a1, .inl (aI, 60, .inl (fun _ => zI 0))), (a2, .inl (aI, 24, .inl (fun _ => zI 0)))]) 0 F hin (dX6_init_0 9 rfl) fl_X6_init_13 tyX6_ok nmX6 rfl rfl rfl rfl rfl rfl (Nat.le_of_ble_eq_true rfl) rfl ?_
  refine z_aload_n 0 F (dX6_init_0 10 rfl) rfl ?_
  refine z_sipush F (dX6_init_0 11 rfl) (by decide) ?_
  refine z_newaI (N := 1440) F (dX6_init_0 12 rfl) (by decide +kernel) (by decide) (Nat.le_of_ble_eq_true rfl) ⟨Nat.le_of_ble_eq_true rfl, Nat.le_of_ble_eq_true rfl⟩ (fun a3 => ?_)
  refine z_putF (ws' := [(o, .inr (6, [.ref a1, .int (zI 0), .int (zI 0), .ref a2, .ref a3, .int (zI 0), .int (zI 0), .int (zI 0), .null, .null, .null, .null, .null, .int (zI 0), .int (zI 0), .int (zI 0), .null, .null, .null, .int (zI 0), .int (zI 0), .int (zI 0), .int (zI 0), .int (zI 0), .int (zI 0), .int (zI 0), .int (zI 0), .null, .null, .int (zI 0), .null, .int (zI 0), .null, .int (zI 0)])), (a1, .inl (aI, 60, .inl (fun _ => zI 0))), (a2, .inl (aI, 24, .inl (fun _ => zI 0))), (a3, .inl (aI, 1440, .inl (fun _ => zI 0)))]) 0 F hin (dX6_init_0 13 rfl) fl_X6_init_16 tyX6_ok nmX6 rfl rfl rfl rfl rfl rfl (Nat.le_of_ble_eq_true rfl) rfl ?_
  refine z_aload_n 0 F (dX6_init_0 14 rfl) rfl ?_
  refine z_bipush F (dX6_init_0 15 rfl) (by decide) ?_
  refine z_newaZ (N := 24) F (dX6_init_0 16 rfl) (by decide +kernel) (by decide) (Nat.le_of_ble_eq_true rfl) ⟨Nat.le_of_ble_eq_true rfl, Nat.le_of_ble_eq_true rfl⟩ (fun a4 => ?_)
  refine z_putF (ws' := [(o, .inr (6, [.ref a1, .int (zI 0), .int (zI 0), .ref a2, .ref a3, .int (zI 0), .int (zI 0), .int (zI 0), .ref a4, .null, .null, .null, .null, .int (zI 0), .int (zI 0), .int (zI 0), .null, .null, .null, .int (zI 0), .int (zI 0), .int (zI 0), .int (zI 0), .int (zI 0), .int (zI 0), .int (zI 0), .int (zI 0), .null, .null, .int (zI 0), .null, .int (zI 0), .null, .int (zI 0)])), (a1, .inl (aI, 60, .inl (fun _ => zI 0))), (a2, .inl (aI, 24, .inl (fun _ => zI 0))), (a3, .inl (aI, 1440, .inl (fun _ => zI 0))), (a4, .inl (aZ, 24, .inl (fun _ => zI 0)))]) 0 F hin (dX6_init_0 17 rfl) fl_X6_init_19 tyX6_ok nmX6 rfl rfl rfl rfl rfl rfl (Nat.le_of_ble_eq_true rfl) rfl ?_
  refine z_aload_n 0 F (dX6_init_0 18 rfl) rfl ?_
  refine z_sipush F (dX6_init_0 19 rfl) (by decide) ?_
  refine z_newaI (N := 549) F (dX6_init_0 20 rfl) (by decide +kernel) (by decide) (Nat.le_of_ble_eq_true rfl) ⟨Nat.le_of_ble_eq_true rfl, Nat.le_of_ble_eq_true rfl⟩ (fun a5 => ?_)
  refine z_putF (ws' := [(o, .inr (6, [.ref a1, .int (zI 0), .int (zI 0), .ref a2, .ref a3, .int (zI 0), .int (zI 0), .int (zI 0), .ref a4, .ref a5, .null, .null, .null, .int (zI 0), .int (zI 0), .int (zI 0), .null, .null, .null, .int (zI 0), .int (zI 0), .int (zI 0), .int (zI 0), .int (zI 0), .int (zI 0), .int (zI 0), .int (zI 0), .null, .null, .int (zI 0), .null, .int (zI 0), .null, .int (zI 0)])), (a1, .inl (aI, 60, .inl (fun _ => zI 0))), (a2, .inl (aI, 24, .inl (fun _ => zI 0))), (a3, .inl (aI, 1440, .inl (fun _ => zI 0))), (a4, .inl (aZ, 24, .inl (fun _ => zI 0))), (a5, .inl (aI, 549, .inl (fun _ => zI 0)))]) 0 F hin (dX6_init_0 21 rfl) fl_X6_init_23 tyX6_ok nmX6 rfl rfl rfl rfl rfl rfl (Nat.le_of_ble_eq_true rfl) rfl ?_
  refine z_aload_n 0 F (dX6_init_0 22 rfl) rfl ?_
  refine z_sipush F (dX6_init_0 23 rfl) (by decide) ?_
  refine z_newaI (N := 549) F (dX6_init_0 24 rfl) (by decide +kernel) (by decide) (Nat.le_of_ble_eq_true rfl) ⟨Nat.le_of_ble_eq_true rfl, Nat.le_of_ble_eq_true rfl⟩ (fun a6 => ?_)
  refine z_putF (ws' := [(o, .inr (6, [.ref a1, .int (zI 0), .int (zI 0), .ref a2, .ref a3, .int (zI 0), .int (zI 0), .int (zI 0), .ref a4, .ref a5, .ref a6, .null, .null, .int (zI 0), .int (zI 0), .int (zI 0), .null, .null, .null, .int (zI 0), .int (zI 0), .int (zI 0), .int (zI 0), .int (zI 0), .int (zI 0), .int (zI 0), .int (zI 0), .null, .null, .int (zI 0), .null, .int (zI 0), .null, .int (zI 0)])), (a1, .inl (aI, 60, .inl (fun _ => zI 0))), (a2, .inl (aI, 24, .inl (fun _ => zI 0))), (a3, .inl (aI, 1440, .inl (fun _ => zI 0))), (a4, .inl (aZ, 24, .inl (fun _ => zI 0))), (a5, .inl (aI, 549, .inl (fun _ => zI 0))), (a6, .inl (aI, 549, .inl (fun _ => zI 0)))]) 0 F hin (dX6_init_0 25 rfl) fl_X6_init_26 tyX6_ok nmX6 rfl rfl rfl rfl rfl rfl (Nat.le_of_ble_eq_true rfl) rfl ?_
  refine z_aload_n 0 F (dX6_init_0 26 rfl) rfl ?_
  refine z_sipush F (dX6_init_0 27 rfl) (by decide) ?_
  refine z_newaI (N := 3721) F (dX6_init_0 28 rfl) (by decide +kernel) (by decide) (Nat.le_of_ble_eq_true rfl) ⟨Nat.le_of_ble_eq_true rfl, Nat.le_of_ble_eq_true rfl⟩ (fun a7 => ?_)
  refine z_putF (ws' := [(o, .inr (6, [.ref a1, .int (zI 0), .int (zI 0), .ref a2, .ref a3, .int (zI 0), .int (zI 0), .int (zI 0), .ref a4, .ref a5, .ref a6, .ref a7, .null, .int (zI 0), .int (zI 0), .int (zI 0), .null, .null, .null, .int (zI 0), .int (zI 0), .int (zI 0), .int (zI 0), .int (zI 0), .int (zI 0), .int (zI 0), .int (zI 0), .null, .null, .int (zI 0), .null, .int (zI 0), .null, .int (zI 0)])), (a1, .inl (aI, 60, .inl (fun _ => zI 0))), (a2, .inl (aI, 24, .inl (fun _ => zI 0))), (a3, .inl (aI, 1440, .inl (fun _ => zI 0))), (a4, .inl (aZ, 24, .inl (fun _ => zI 0))), (a5, .inl (aI, 549, .inl (fun _ => zI 0))), (a6, .inl (aI, 549, .inl (fun _ => zI 0))), (a7, .inl (aI, 3721, .inl (fun _ => zI 0)))]) 0 F hin (dX6_init_0 29 rfl) fl_X6_init_29 tyX6_ok nmX6 rfl rfl rfl rfl rfl rfl (Nat.le_of_ble_eq_true rfl) rfl ?_
  refine z_aload_n 0 F (dX6_init_0 30 rfl) rfl ?_
  refine z_bipush F (dX6_init_0 31 rfl) (by decide) ?_
  refine z_newaI (N := 61) F (dX6_init_0 32 rfl) (by decide +kernel) (by decide) (Nat.le_of_ble_eq_true rfl) ⟨Nat.le_of_ble_eq_true rfl, Nat.le_of_ble_eq_true rfl⟩ (fun a8 => ?_)
  refine z_putF (ws' := [(o, .inr (6, [.ref a1, .int (zI 0), .int (zI 0), .ref a2, .ref a3, .int (zI 0), .int (zI 0), .int (zI 0), .ref a4, .ref a5, .ref a6, .ref a7, .ref a8, .int (zI 0), .int (zI 0), .int (zI 0), .null, .null, .null, .int (zI 0), .int (zI 0), .int (zI 0), .int (zI 0), .int (zI 0), .int (zI 0), .int (zI 0), .int (zI 0), .null, .null, .int (zI 0), .null, .int (zI 0), .null, .int (zI 0)])), (a1, .inl (aI, 60, .inl (fun _ => zI 0))), (a2, .inl (aI, 24, .inl (fun _ => zI 0))), (a3, .inl (aI, 1440, .inl (fun _ => zI 0))), (a4, .inl (aZ, 24, .inl (fun _ => zI 0))), (a5, .inl (aI, 549, .inl (fun _ => zI 0))), (a6, .inl (aI, 549, .inl (fun _ => zI 0))), (a7, .inl (aI, 3721, .inl (fun _ => zI 0))), (a8, .inl (aI, 61, .inl (fun _ => zI 0)))]) 0 F hin (dX6_init_0 33 rfl) fl_X6_init_32 tyX6_ok nmX6 rfl rfl rfl rfl rfl rfl (Nat.le_of_ble_eq_true rfl) rfl ?_
  refine z_aload_n 0 F (dX6_init_0 34 rfl) rfl ?_
  refine z_bipush F (dX6_init_0 35 rfl) (by decide) ?_
  refine z_newaI (N := 9) F (dX6_init_0 36 rfl) (by decide +kernel) (by decide) (Nat.le_of_ble_eq_true rfl) ⟨Nat.le_of_ble_eq_true rfl, Nat.le_of_ble_eq_true rfl⟩ (fun a9 => ?_)
  refine z_putF (ws' := [(o, .inr (6, [.ref a1, .int (zI 0), .int (zI 0), .ref a2, .ref a3, .int (zI 0), .int (zI 0), .int (zI 0), .ref a4, .ref a5, .ref a6, .ref a7, .ref a8, .int (zI 0), .int (zI 0), .int (zI 0), .ref a9, .null, .null, .int (zI 0), .int (zI 0), .int (zI 0), .int (zI 0), .int (zI 0), .int (zI 0), .int (zI 0), .int (zI 0), .null, .null, .int (zI 0), .null, .int (zI 0), .null, .int (zI 0)])), (a1, .inl (aI, 60, .inl (fun _ => zI 0))), (a2, .inl (aI, 24, .inl (fun _ => zI 0))), (a3, .inl (aI, 1440, .inl (fun _ => zI 0))), (a4, .inl (aZ, 24, .inl (fun _ => zI 0))), (a5, .inl (aI, 549, .inl (fun _ => zI 0))), (a6, .inl (aI, 549, .inl (fun _ => zI 0))), (a7, .inl (aI, 3721, .inl (fun _ => zI 0))), (a8, .inl (aI, 61, .inl (fun _ => zI 0))), (a9, .inl (aI, 9, .inl (fun _ => zI 0)))]) 0 F hin (dX6_init_0 37 rfl) fl_X6_init_35 tyX6_ok nmX6 rfl rfl rfl rfl rfl rfl (Nat.le_of_ble_eq_true rfl) rfl ?_
  refine z_aload_n 0 F (dX6_init_0 38 rfl) rfl ?_
  refine z_sipush F (dX6_init_0 39 rfl) (by decide) ?_
  refine z_newaI (N := 336) F (dX6_init_1 0 rfl) (by decide +kernel) (by decide) (Nat.le_of_ble_eq_true rfl) ⟨Nat.le_of_ble_eq_true rfl, Nat.le_of_ble_eq_true rfl⟩ (fun a10 => ?_)
  refine z_putF (ws' := [(o, .inr (6, [.ref a1, .int (zI 0), .int (zI 0), .ref a2, .ref a3, .int (zI 0), .int (zI 0), .int (zI 0), .ref a4, .ref a5, .ref a6, .ref a7, .ref a8, .int (zI 0), .int (zI 0), .int (zI 0), .ref a9, .ref a10, .null, .int (zI 0), .int (zI 0), .int (zI 0), .int (zI 0), .int (zI 0), .int (zI 0), .int (zI 0), .int (zI 0), .null, .null, .int (zI 0), .null, .int (zI 0), .null, .int (zI 0)])), (a1, .inl (aI, 60, .inl (fun _ => zI 0))), (a2, .inl (aI, 24, .inl (fun _ => zI 0))), (a3, .inl (aI, 1440, .inl (fun _ => zI 0))), (a4, .inl (aZ, 24, .inl (fun _ => zI 0))), (a5, .inl (aI, 549, .inl (fun _ => zI 0))), (a6, .inl (aI, 549, .inl (fun _ => zI 0))), (a7, .inl (aI, 3721, .inl (fun _ => zI 0))), (a8, .inl (aI, 61, .inl (fun _ => zI 0))), (a9, .inl (aI, 9, .inl (fun _ => zI 0))), (a10, .inl (aI, 336, .inl (fun _ => zI 0)))]) 0 F hin (dX6_init_1 1 rfl) fl_X6_init_38 tyX6_ok nmX6 rfl rfl rfl rfl rfl rfl (Nat.le_of_ble_eq_true rfl) rfl ?_
  refine z_aload_n 0 F (dX6_init_1 2 rfl) rfl ?_
  refine z_sipush F (dX6_init_1 3 rfl) (by decide) ?_
  refine z_newaI (N := 20160) F (dX6_init_1 4 rfl) (by decide +kernel) (by decide) (Nat.le_of_ble_eq_true rfl) ⟨Nat.le_of_ble_eq_true rfl, Nat.le_of_ble_eq_true rfl⟩ (fun a11 => ?_)
  refine z_putF (ws' := [(o, .inr (6, [.ref a1, .int (zI 0), .int (zI 0), .ref a2, .ref a3, .int (zI 0), .int (zI 0), .int (zI 0), .ref a4, .ref a5, .ref a6, .ref a7, .ref a8, .int (zI 0), .int (zI 0), .int (zI 0), .ref a9, .ref a10, .ref a11, .int (zI 0), .int (zI 0), .int (zI 0), .int (zI 0), .int (zI 0), .int (zI 0), .int (zI 0), .int (zI 0), .null, .null, .int (zI 0), .null, .int (zI 0), .null, .int (zI 0)])), (a1, .inl (aI, 60, .inl (fun _ => zI 0))), (a2, .inl (aI, 24, .inl (fun _ => zI 0))), (a3, .inl (aI, 1440, .inl (fun _ => zI 0))), (a4, .inl (aZ, 24, .inl (fun _ => zI 0))), (a5, .inl (aI, 549, .inl (fun _ => zI 0))), (a6, .inl (aI, 549, .inl (fun _ => zI 0))), (a7, .inl (aI, 3721, .inl (fun _ => zI 0))), (a8, .inl (aI, 61, .inl (fun _ => zI 0))), (a9, .inl (aI, 9, .inl (fun _ => zI 0))), (a10, .inl (aI, 336, .inl (fun _ => zI 0))), (a11, .inl (aI, 20160, .inl (fun _ => zI 0)))]) 0 F hin (dX6_init_1 5 rfl) fl_X6_init_41 tyX6_ok nmX6 rfl rfl rfl rfl rfl rfl (Nat.le_of_ble_eq_true rfl) rfl ?_
  refine z_aload_n 0 F (dX6_init_1 6 rfl) rfl ?_
  refine z_sipush F (dX6_init_1 7 rfl) (by decide) ?_
  refine z_newaI (N := 336) F (dX6_init_1 8 rfl) (by decide +kernel) (by decide) (Nat.le_of_ble_eq_true rfl) ⟨Nat.le_of_ble_eq_true rfl, Nat.le_of_ble_eq_true rfl⟩ (fun a12 => ?_)
  refine z_putF (ws' := [(o, .inr (6, [.ref a1, .int (zI 0), .int (zI 0), .ref a2, .ref a3, .int (zI 0), .int (zI 0), .int (zI 0), .ref a4, .ref a5, .ref a6, .ref a7, .ref a8, .int (zI 0), .int (zI 0), .int (zI 0), .ref a9, .ref a10, .ref a11, .int (zI 0), .int (zI 0), .int (zI 0), .int (zI 0), .int (zI 0), .int (zI 0), .int (zI 0), .int (zI 0), .ref a12, .null, .int (zI 0), .null, .int (zI 0), .null, .int (zI 0)])), (a1, .inl (aI, 60, .inl (fun _ => zI 0))), (a2, .inl (aI, 24, .inl (fun _ => zI 0))), (a3, .inl (aI, 1440, .inl (fun _ => zI 0))), (a4, .inl (aZ, 24, .inl (fun _ => zI 0))), (a5, .inl (aI, 549, .inl (fun _ => zI 0))), (a6, .inl (aI, 549, .inl (fun _ => zI 0))), (a7, .inl (aI, 3721, .inl (fun _ => zI 0))), (a8, .inl (aI, 61, .inl (fun _ => zI 0))), (a9, .inl (aI, 9, .inl (fun _ => zI 0))), (a10, .inl (aI, 336, .inl (fun _ => zI 0))), (a11, .inl (aI, 20160, .inl (fun _ => zI 0))), (a12, .inl (aI, 336, .inl (fun _ => zI 0)))]) 0 F hin (dX6_init_1 9 rfl) fl_X6_init_44 tyX6_ok nmX6 rfl rfl rfl rfl rfl rfl (Nat.le_of_ble_eq_true rfl) rfl ?_
  refine z_aload_n 0 F (dX6_init_1 10 rfl) rfl ?_
  refine z_sipush F (dX6_init_1 11 rfl) (by decide) ?_
  refine z_newaI (N := 20160) F (dX6_init_1 12 rfl) (by decide +kernel) (by decide) (Nat.le_of_ble_eq_true rfl) ⟨Nat.le_of_ble_eq_true rfl, Nat.le_of_ble_eq_true rfl⟩ (fun a13 => ?_)
  refine z_putF (ws' := [(o, .inr (6, [.ref a1, .int (zI 0), .int (zI 0), .ref a2, .ref a3, .int (zI 0), .int (zI 0), .int (zI 0), .ref a4, .ref a5, .ref a6, .ref a7, .ref a8, .int (zI 0), .int (zI 0), .int (zI 0), .ref a9, .ref a10, .ref a11, .int (zI 0), .int (zI 0), .int (zI 0), .int (zI 0), .int (zI 0), .int (zI 0), .int (zI 0), .int (zI 0), .ref a12, .ref a13, .int (zI 0), .null, .int (zI 0), .null, .int (zI 0)])), (a1, .inl (aI, 60, .inl (fun _ => zI 0))), (a2, .inl (aI, 24, .inl (fun _ => zI 0))), (a3, .inl (aI, 1440, .inl (fun _ => zI 0))), (a4, .inl (aZ, 24, .inl (fun _ => zI 0))), (a5, .inl (aI, 549, .inl (fun _ => zI 0))), (a6, .inl (aI, 549, .inl (fun _ => zI 0))), (a7, .inl (aI, 3721, .inl (fun _ => zI 0))), (a8, .inl (aI, 61, .inl (fun _ => zI 0))), (a9, .inl (aI, 9, .inl (fun _ => zI 0))), (a10, .inl (aI, 336, .inl (fun _ => zI 0))), (a11, .inl (aI, 20160, .inl (fun _ => zI 0))), (a12, .inl (aI, 336, .inl (fun _ => zI 0))), (a13, .inl (aI, 20160, .inl (fun _ => zI 0)))]) 0 F hin (dX6_init_1 13 rfl) fl_X6_init_47 tyX6_ok nmX6 rfl rfl rfl rfl rfl rfl (Nat.le_of_ble_eq_true rfl) rfl ?_
  refine z_aload_n 0 F (dX6_init_1 14 rfl) rfl ?_
  refine z_iconst F (dX6_init_1 15 rfl) ?_
  refine z_newaI (N := 5) F (dX6_init_1 16 rfl) (by decide +kernel) (by decide) (Nat.le_of_ble_eq_true rfl) ⟨Nat.le_of_ble_eq_true rfl, Nat.le_of_ble_eq_true rfl⟩ (fun a14 => ?_)
  refine z_putF (ws' := [(o, .inr (6, [.ref a1, .int (zI 0), .int (zI 0), .ref a2, .ref a3, .int (zI 0), .int (zI 0), .int (zI 0), .ref a4, .ref a5, .ref a6, .ref a7, .ref a8, .int (zI 0), .int (zI 0), .int (zI 0), .ref a9, .ref a10, .ref a11, .int (zI 0), .int (zI 0), .int (zI 0), .int (zI 0), .int (zI 0), .int (zI 0), .int (zI 0), .int (zI 0), .ref a12, .ref a13, .int (zI 0), .ref a14, .int (zI 0), .null, .int (zI 0)])), (a1, .inl (aI, 60, .inl (fun _ => zI 0))), (a2, .inl (aI, 24, .inl (fun _ => zI 0))), (a3, .inl (aI, 1440, .inl (fun _ => zI 0))), (a4, .inl (aZ, 24, .inl (fun _ => zI 0))), (a5, .inl (aI, 549, .inl (fun _ => zI 0))), (a6, .inl (aI, 549, .inl (fun _ => zI 0))), (a7, .inl (aI, 3721, .inl (fun _ => zI 0))), (a8, .inl (aI, 61, .inl (fun _ => zI 0))), (a9, .inl (aI, 9, .inl (fun _ => zI 0))), (a10, .inl (aI, 336, .inl (fun _ => zI 0))), (a11, .inl (aI, 20160, .inl (fun _ => zI 0))), (a12, .inl (aI, 336, .inl (fun _ => zI 0))), (a13, .inl (aI, 20160, .inl (fun _ => zI 0))), (a14, .inl (aI, 5, .inl (fun _ => zI 0)))]) 0 F hin (dX6_init_1 17 rfl) fl_X6_init_50 tyX6_ok nmX6 rfl rfl rfl rfl rfl rfl (Nat.le_of_ble_eq_true rfl) rfl ?_
  refine z_aload_n 0 F (dX6_init_1 18 rfl) rfl ?_
  refine z_bipush F (dX6_init_1 19 rfl) (by decide) ?_
  refine z_newaI (N := 9) F (dX6_init_1 20 rfl) (by decide +kernel) (by decide) (Nat.le_of_ble_eq_true rfl) ⟨Nat.le_of_ble_eq_true rfl, Nat.le_of_ble_eq_true rfl⟩ (fun a15 => ?_)
  refine z_putF (ws' := [(o, .inr (6, [.ref a1, .int (zI 0), .int (zI 0), .ref a2, .ref a3, .int (zI 0), .int (zI 0), .int (zI 0), .ref a4, .ref a5, .ref a6, .ref a7, .ref a8, .int (zI 0), .int (zI 0), .int (zI 0), .ref a9, .ref a10, .ref a11, .int (zI 0), .int (zI 0), .int (zI 0), .int (zI 0), .int (zI 0), .int (zI 0), .int (zI 0), .int (zI 0), .ref a12, .ref a13, .int (zI 0), .ref a14, .int (zI 0), .ref a15, .int (zI 0)])), (a1, .inl (aI, 60, .inl (fun _ => zI 0))), (a2, .inl (aI, 24, .inl (fun _ => zI 0))), (a3, .inl (aI, 1440, .inl (fun _ => zI 0))), (a4, .inl (aZ, 24, .inl (fun _ => zI 0))), (a5, .inl (aI, 549, .inl (fun _ => zI 0))), (a6, .inl (aI, 549, .inl (fun _ => zI 0))), (a7, .inl (aI, 3721, .inl (fun _ => zI 0))), (a8, .inl (aI, 61, .inl (fun _ => zI 0))), (a9, .inl (aI, 9, .inl (fun _ => zI 0))), (a10, .inl (aI, 336, .inl (fun _ => zI 0))), (a11, .inl (aI, 20160, .inl (fun _ => zI 0))), (a12, .inl (aI, 336, .inl (fun _ => zI 0))), (a13, .inl (aI, 20160, .inl (fun _ => zI 0))), (a14, .inl (aI, 5, .inl (fun _ => zI 0))), (a15, .inl (aI, 9, .inl (fun _ => zI 0)))]) 0 F hin (dX6_init_1 21 rfl) fl_X6_init_53 tyX6_ok nmX6 rfl rfl rfl rfl rfl rfl (Nat.le_of_ble_eq_true rfl) rfl ?_
  exact z_vret [0, 1, 2, 3, 4, 5, 6, 7, 8, 9, 10, 11, 12, 13, 14, 15] F E (dX6_init_1 22 rfl) rfl (by decide) ⟨rfl, a1, a2, a3, a4, a5, a6, a7, a8, a9, a10, a11, a12, a13, a14, a15, rfl⟩
theorem inw_X5_init_5 : ∀ w ∈ u_ws RX5 TX5 9, w ∈ wsX5_init := by decide +kernel
theorem inw_X5_init_4 : ∀ w ∈ u_ws RX4 TX4 7, w ∈ wsX5_init := by decide +kernel
theorem inw_X5_init_3 : ∀ w ∈ u_ws RX3 TX3 3, w ∈ wsX5_init := by decide +kernel
theorem inw_X5_init_2 : ∀ w ∈ u_ws RX2 TX2 3, w ∈ wsX5_init := by decide +kernel
theorem inw_X5_init_1 : ∀ w ∈ u_ws RX1 TX1 7, w ∈ wsX5_init := by decide +kernel
theorem inw_X5_init_0 : ∀ w ∈ u_ws RX0 TX0 12, w ∈ wsX5_init := by decide +kernel
theorem fl_X5_init_9 : zfl wsX5_init RX5 9 5 0 RX5 TX5 9 := ⟨inw_X5_init_5, rfl, by decide, by decide +kernel⟩
theorem fl_X5_init_16 : zfl wsX5_init RX5 16 5 2 RX5 TX5 9 := ⟨inw_X5_init_5, rfl, by decide, by decide +kernel⟩
theorem fl_X5_init_23 : zfl wsX5_init RX5 23 5 3 RX5 TX5 9 := ⟨inw_X5_init_5, rfl, by decide, by decide +kernel⟩
theorem fl_X5_init_30 : zfl wsX5_init RX5 30 5 4 RX5 TX5 9 := ⟨inw_X5_init_5, rfl, by decide, by decide +kernel⟩
theorem fl_X5_init_37 : zfl wsX5_init RX5 37 5 5 RX5 TX5 9 := ⟨inw_X5_init_5, rfl, by decide, by decide +kernel⟩
theorem fl_X5_init_41 : zfl wsX5_init RX5 41 5 6 RX5 TX5 9 := ⟨inw_X5_init_5, rfl, by decide, by decide +kernel⟩
theorem fl_X5_init_47 : zfl wsX5_init RX5 47 5 7 RX5 TX5 9 := ⟨inw_X5_init_5, rfl, by decide, by decide +kernel⟩
theorem fl_X5_init_51 : zfl wsX5_init RX5 51 5 8 RX5 TX5 9 := ⟨inw_X5_init_5, rfl, by decide, by decide +kernel⟩
theorem dfX5 : ∀ j, j < 9 → defaultValue (tyX5 j) = vp_V [.null, .int (zI 0), .null, .null, .null, .null, .null, .null, .null] j := fun j hj => match j, hj with
  | 0, _ => rfl
  | 1, _ => rfl
  | 2, _ => rfl
  | 3, _ => rfl
  | 4, _ => rfl
  | 5, _ => rfl
  | 6, _ => rfl
  | 7, _ => rfl
  | 8, _ => rfl
  | j + 9, h => absurd h (by omega)
abbrev rmX5_init : Room := { frames := 2, cells := 28, slots := 49566, locals := 33 }
theorem mX5_init : zY yX5_init cX5_init 1 none wsX5_init 0 := ⟨⟨_, rfl⟩, by decide +kernel, by decide +kernel, by decide +kernel⟩
set_option maxRecDepth 20000 in
set_option maxHeartbeats 2000000 in
theorem k_X5_init (l : Launch) (D : va_G) (aI aZ : ClassId) (o : Nat) : zC l D aI aZ yX5_init wsX5_init rmX5_init [.ref o] [(o, .inr (5, [.null, .int (zI 0), .null, .null, .null, .null, .null, .null, .null]))] (fun r w => r = none ∧ ∃ (a1 b1 a2 a3 b2 a4 a5 a6 a7 a8 b3 a9 a10 a11 b4 a12 b5 a13 b6 a14 a15 a16 a17 b7 a18 a19 a20 a21 : Nat), w = wX5 aI o a1 b1 b2 b3 b4 b5 b6 b7 (fun _ => 0) 0 ++ (wX2 aI b1 a2 a3 (fun _ => 0) (fun _ => 0) 0 ++ (wX0 aI b2 a4 a5 a6 a7 a8 (fun _ => 0) (fun _ => 0) 0 0 0 0 0 0 0 (fun _ => 0) (fun _ => 0) (fun _ => 0) ++ (wX3 aI b3 a9 a10 a11 (fun _ => 0) (fun _ => 0) (fun _ => 0) ++ (wX1 aI b4 a12 (fun _ => 0) 0 0 0 0 0 0 ++ (wX1 aI b5 a13 (fun _ => 0) 0 0 0 0 0 0 ++ (wX4 aI b6 a14 a15 a16 a17 (fun _ => 0) (fun _ => 0) 0 0 (fun _ => 0) (fun _ => 0) 0 ++ wX4 aI b7 a18 a19 a20 a21 (fun _ => 0) (fun _ => 0) 0 0 (fun _ => 0) (fun _ => 0) 0))))))) 28 49566 := by
  refine z_metI (cc := cX5_init) (maxL := 1) (ret := none) (by decide +kernel) rfl rfl (Nat.le_of_ble_eq_true rfl) (fun X hX hin F E => ?_)
  show zG X D 0 0 [(o, .inr (5, [.null, .int (zI 0), .null, .null, .null, .null, .null, .null, .null]))] 0 [(0, .ref o)] []
  refine z_aload_n 0 F (dX5_init_0 0 rfl) rfl ?_
  refine z_objInit F (dX5_init_0 1 rfl) (by decide +kernel) (by decide +kernel) (by decide +kernel) ⟨Nat.le_of_ble_eq_true rfl, Nat.le_of_ble_eq_true rfl⟩ ?_
  refine z_aload_n 0 F (dX5_init_0 2 rfl) rfl ?_
  refine z_bipush F (dX5_init_0 3 rfl) (by decide) ?_
  refine z_newaI (N := 60) F (dX5_init_0 4 rfl) (by decide +kernel) (by decide) (Nat.le_of_ble_eq_true rfl) ⟨Nat.le_of_ble_eq_true rfl, Nat.le_of_ble_eq_true rfl⟩ (fun a1 => ?_)
  refine z_putF (ws' := [(o, .inr (5, [.ref a1, .int (zI 0), .null, .null, .null, .null, .null, .null, .null])), (a1, .inl (aI, 60, .inl (fun _ => zI 0)))]) 0 F hin (dX5_init_0 5 rfl) fl_X5_init_9 tyX5_ok nmX5 rfl rfl rfl rfl rfl rfl (Nat.le_of_ble_eq_true rfl) rfl ?_
  refine z_aload_n 0 F (dX5_init_0 6 rfl) rfl ?_
  refine z_new (ci := 2) (fs := [.null, .null, .int (zI 0)]) F (dX5_init_0 7 rfl) inw_X5_init_2 tyX2_ok (by decide +kernel) (by decide +kernel) (by decide +kernel) rfl dfX2 ⟨Nat.le_of_ble_eq_true rfl, Nat.le_of_ble_eq_true rfl⟩ (fun b1 => ?_)
  refine z_dup F (dX5_init_0 8 rfl) rfl ?_
  refine z_callI (rest := [.ref b1, .ref o]) (wc := [(b1, .inr (2, [.null, .null, .int (zI 0)]))]) (wr := [(o, .inr (5, [.ref a1, .int (zI 0), .null, .null, .null, .null, .null, .null, .null])), (a1, .inl (aI, 60, .inl (fun _ => zI 0)))]) F (dX5_init_0 9 rfl) (k_X2_init (zL X) D aI aZ b1) gX5_init_X2_init mX2_init rfl (by decide +kernel) (by decide +kernel) (by decide +kernel) [2] [0, 1] rfl rfl (by decide) (Nat.le_of_ble_eq_true rfl) ⟨Nat.le_of_ble_eq_true rfl, Nat.le_of_ble_eq_true rfl⟩ ⟨rfl, rfl⟩ ⟨Nat.le_of_ble_eq_true rfl, Nat.le_of_ble_eq_true rfl⟩ (fun rv w1 hq => ?_)
  obtain ⟨rfl, a2, a3, rfl⟩ := hq
  show zG X D _ _ [(o, .inr (5, [.ref a1, .int (zI 0), .null, .null, .null, .null, .null, .null, .null])), (a1, .inl (aI, 60, .inl (fun _ => zI 0))), (b1, .inr (2, [.ref a2, .ref a3, .int (zI 0)])), (a2, .inl (aI, 1440, .inl (fun _ => zI 0))), (a3, .inl (aI, 24, .inl (fun _ => zI 0)))] 20 [(0, .ref o)] [.ref b1, .ref o]
  refine z_putF (ws' := [(o, .inr (5, [.ref a1, .int (zI 0), .ref b1, .null, .null, .null, .null, .null, .null])), (a1, .inl (aI, 60, .inl (fun _ => zI 0))), (b1, .inr (2, [.ref a2, .ref a3, .int (zI 0)])), (a2, .inl (aI, 1440, .inl (fun _ => zI 0))), (a3, .inl (aI, 24, .inl (fun _ => zI 0)))]) 0 F hin (dX5_init_0 10 rfl) fl_X5_init_16 tyX5_ok nmX5 rfl rfl rfl rfl rfl rfl (Nat.le_of_ble_eq_true rfl) rfl ?_
  refine z_aload_n 0 F (dX5_init_0 11 rfl) rfl ?_
  refine z_new (ci := 0) (fs := [.null, .null, .int (zI 0), .int (zI 0), .int (zI 0), .int (zI 0), .int (zI 0), .int (zI 0), .int (zI 0), .null, .null, .null]) F (dX5_init_0 12 rfl) inw_X5_init_0 tyX0_ok (by decide +kernel) (by decide +kernel) (by decide +kernel) rfl dfX0 ⟨Nat.le_of_ble_eq_true rfl, Nat.le_of_ble_eq_true rfl⟩ (fun b2 => ?_)
  refine z_dup F (dX5_init_0 13 rfl) rfl ?_
  refine z_callI (rest := [.ref b2, .ref o]) (wc := [(b2, .inr (0, [.null, .null, .int (zI 0), .int (zI 0), .int (zI 0), .int (zI 0), .int (zI 0), .int (zI 0), .int (zI 0), .null, .null, .null]))]) (wr := [(o, .inr (5, [.ref a1, .int (zI 0), .ref b1, .null, .null, .null, .null, .null, .null])), (a1, .inl (aI, 60, .inl (fun _ => zI 0))), (b1, .inr (2, [.ref a2, .ref a3, .int (zI 0)])), (a2, .inl (aI, 1440, .inl (fun _ => zI 0))), (a3, .inl (aI, 24, .inl (fun _ => zI 0)))]) F (dX5_init_0 14 rfl) (k_X0_init (zL X) D aI aZ b2) gX5_init_X0_init mX0_init rfl (by decide +kernel) (by decide +kernel) (by decide +kernel) [5] [0, 1, 2, 3, 4] rfl rfl (by decide) (Nat.le_of_ble_eq_true rfl) ⟨Nat.le_of_ble_eq_true rfl, Nat.le_of_ble_eq_true rfl⟩ ⟨rfl, rfl⟩ ⟨Nat.le_of_ble_eq_true rfl, Nat.le_of_ble_eq_true rfl⟩ (fun rv w1 hq => ?_)
  obtain ⟨rfl, a4, a5, a6, a7, a8, rfl⟩ := hq
  show zG X D _ _ [(o, .inr (5, [.ref a1, .int (zI 0), .ref b1, .null, .null, .null, .null, .null, .null])), (a1, .inl (aI, 60, .inl (fun _ => zI 0))), (b1, .inr (2, [.ref a2, .ref a3, .int (zI 0)])), (a2, .inl (aI, 1440, .inl (fun _ => zI 0))), (a3, .inl (aI, 24, .inl (fun _ => zI 0))), (b2, .inr (0, [.ref a4, .ref a5, .int (zI 0), .int (zI 0), .int (zI 0), .int (zI 0), .int (zI 0), .int (zI 0), .int (zI 0), .ref a6, .ref a7, .ref a8])), (a4, .inl (aI, 1440, .inl (fun _ => zI 0))), (a5, .inl (aI, 24, .inl (fun _ => zI 0))), (a6, .inl (aI, 61, .inl (fun _ => zI 0))), (a7, .inl (aI, 61, .inl (fun _ => zI 0))), (a8, .inl (aI, 3721, .inl (fun _ => zI 0)))] 31 [(0, .ref o)] [.ref b2, .ref o]
  refine z_putF (ws' := [(o, .inr (5, [.ref a1, .int (zI 0), .ref b1, .ref b2, .null, .null, .null, .null, .null])), (a1, .inl (aI, 60, .inl (fun _ => zI 0))), (b1, .inr (2, [.ref a2, .ref a3, .int (zI 0)])), (a2, .inl (aI, 1440, .inl (fun _ => zI 0))), (a3, .inl (aI, 24, .inl (fun _ => zI 0))), (b2, .inr (0, [.ref a4, .ref a5, .int (zI 0), .int (zI 0), .int (zI 0), .int (zI 0), .int (zI 0), .int (zI 0), .int (zI 0), .ref a6, .ref a7, .ref a8])), (a4, .inl (aI, 1440, .inl (fun _ => zI 0))), (a5, .inl (aI, 24, .inl (fun _ => zI 0))), (a6, .inl (aI, 61, .inl (fun _ => zI 0))), (a7, .inl (aI, 61, .inl (fun _ => zI 0))), (a8, .inl (aI, 3721, .inl (fun _ => zI 0)))]) 0 F hin (dX5_init_0 15 rfl) fl_X5_init_23 tyX5_ok nmX5 rfl rfl rfl rfl rfl rfl (Nat.le_of_ble_eq_true rfl) rfl ?_
  refine z_aload_n 0 F (dX5_init_0 16 rfl) rfl ?_
  refine z_new (ci := 3) (fs := [.null, .null, .null]) F (dX5_init_0 17 rfl) inw_X5_init_3 tyX3_ok (by decide +kernel) (by decide +kernel) (by decide +kernel) rfl dfX3 ⟨Nat.le_of_ble_eq_true rfl, Nat.le_of_ble_eq_true rfl⟩ (fun b3 => ?_)
  refine z_dup F (dX5_init_0 18 rfl) rfl ?_
  refine z_callI (rest := [.ref b3, .ref o]) (wc := [(b3, .inr (3, [.null, .null, .null]))]) (wr := [(o, .inr (5, [.ref a1, .int (zI 0), .ref b1, .ref b2, .null, .null, .null, .null, .null])), (a1, .inl (aI, 60, .inl (fun _ => zI 0))), (b1, .inr (2, [.ref a2, .ref a3, .int (zI 0)])), (a2, .inl (aI, 1440, .inl (fun _ => zI 0))), (a3, .inl (aI, 24, .inl (fun _ => zI 0))), (b2, .inr (0, [.ref a4, .ref a5, .int (zI 0), .int (zI 0), .int (zI 0), .int (zI 0), .int (zI 0), .int (zI 0), .int (zI 0), .ref a6, .ref a7, .ref a8])), (a4, .inl (aI, 1440, .inl (fun _ => zI 0))), (a5, .inl (aI, 24, .inl (fun _ => zI 0))), (a6, .inl (aI, 61, .inl (fun _ => zI 0))), (a7, .inl (aI, 61, .inl (fun _ => zI 0))), (a8, .inl (aI, 3721, .inl (fun _ => zI 0)))]) F (dX5_init_0 19 rfl) (k_X3_init (zL X) D aI aZ b3) gX5_init_X3_init mX3_init rfl (by decide +kernel) (by decide +kernel) (by decide +kernel) [11] [0, 1, 2, 3, 4, 5, 6, 7, 8, 9, 10] rfl rfl (by decide) (Nat.le_of_ble_eq_true rfl) ⟨Nat.le_of_ble_eq_true rfl, Nat.le_of_ble_eq_true rfl⟩ ⟨rfl, rfl⟩ ⟨Nat.le_of_ble_eq_true rfl, Nat.le_of_ble_eq_true rfl⟩ (fun rv w1 hq => ?_)
  obtain ⟨rfl, a9, a10, a11, rfl⟩ := hq
  show zG X D _ _ [(o, .inr (5, [.ref a1, .int (zI 0), .ref b1, .ref b2, .null, .null, .null, .null, .null])), (a1, .inl (aI, 60, .inl (fun _ => zI 0))), (b1, .inr (2, [.ref a2, .ref a3, .int (zI 0)])), (a2, .inl (aI, 1440, .inl (fun _ => zI 0))), (a3, .inl (aI, 24, .inl (fun _ => zI 0))), (b2, .inr (0, [.ref a4, .ref a5, .int (zI 0), .int (zI 0), .int (zI 0), .int (zI 0), .int (zI 0), .int (zI 0), .int (zI 0), .ref a6, .ref a7, .ref a8])), (a4, .inl (aI, 1440, .inl (fun _ => zI 0))), (a5, .inl (aI, 24, .inl (fun _ => zI 0))), (a6, .inl (aI, 61, .inl (fun _ => zI 0))), (a7, .inl (aI, 61, .inl (fun _ => zI 0))), (a8, .inl (aI, 3721, .inl (fun _ => zI 0))), (b3, .inr (3, [.ref a9, .ref a10, .ref a11])), (a9, .inl (aI, 549, .inl (fun _ => zI 0))), (a10, .inl (aI, 549, .inl (fun _ => zI 0))), (a11, .inl (aI, 549, .inl (fun _ => zI 0)))] 42 [(0, .ref o)] [.ref b3, .ref o]
  refine z_putF (ws' := [(o, .inr (5, [.ref a1, .int (zI 0), .ref b1, .ref b2, .ref b3, .null, .null, .null, .null])), (a1, .inl (aI, 60, .inl (fun _ => zI 0))), (b1, .inr (2, [.ref a2, .ref a3, .int (zI 0)])), (a2, .inl (aI, 1440, .inl (fun _ => zI 0))), (a3, .inl (aI, 24, .inl (fun _ => zI 0))), (b2, .inr (0, [.ref a4, .ref a5, .int (zI 0), .int (zI 0), .int (zI 0), .int (zI 0), .int (zI 0), .int (zI 0), .int (zI 0), .ref a6, .ref a7, .ref a8])), (a4, .inl (aI, 1440, .inl (fun _ => zI 0))), (a5, .inl (aI, 24, .inl (fun _ => zI 0))), (a6, .inl (aI, 61, .inl (fun _ => zI 0))), (a7, .inl (aI, 61, .inl (fun _ => zI 0))), (a8, .inl (aI, 3721, .inl (fun _ => zI 0))), (b3, .inr (3, [.ref a9, .ref a10, .ref a11])), (a9, .inl (aI, 549, .inl (fun _ => zI 0))), (a10, .inl (aI, 549, .inl (fun _ => zI 0))), (a11, .inl (aI, 549, .inl (fun _ => zI 0)))]) 0 F hin (dX5_init_0 20 rfl) fl_X5_init_30 tyX5_ok nmX5 rfl rfl rfl rfl rfl rfl (Nat.le_of_ble_eq_true rfl) rfl ?_
  refine z_aload_n 0 F (dX5_init_0 21 rfl) rfl ?_
  refine z_new (ci := 1) (fs := [.null, .int (zI 0), .int (zI 0), .int (zI 0), .int (zI 0), .int (zI 0), .int (zI 0)]) F (dX5_init_0 22 rfl) inw_X5_init_1 tyX1_ok (by decide +kernel) (by decide +kernel) (by decide +kernel) rfl dfX1 ⟨Nat.le_of_ble_eq_true rfl, Nat.le_of_ble_eq_true rfl⟩ (fun b4 => ?_)
  refine z_dup F (dX5_init_0 23 rfl) rfl ?_
  refine z_callI (rest := [.ref b4, .ref o]) (wc := [(b4, .inr (1, [.null, .int (zI 0), .int (zI 0), .int (zI 0), .int (zI 0), .int (zI 0), .int (zI 0)]))]) (wr := [(o, .inr (5, [.ref a1, .int (zI 0), .ref b1, .ref b2, .ref b3, .null, .null, .null, .null])), (a1, .inl (aI, 60, .inl (fun _ => zI 0))), (b1, .inr (2, [.ref a2, .ref a3, .int (zI 0)])), (a2, .inl (aI, 1440, .inl (fun _ => zI 0))), (a3, .inl (aI, 24, .inl (fun _ => zI 0))), (b2, .inr (0, [.ref a4, .ref a5, .int (zI 0), .int (zI 0), .int (zI 0), .int (zI 0), .int (zI 0), .int (zI 0), .int (zI 0), .ref a6, .ref a7, .ref a8])), (a4, .inl (aI, 1440, .inl (fun _ => zI 0))), (a5, .inl (aI, 24, .inl (fun _ => zI 0))), (a6, .inl (aI, 61, .inl (fun _ => zI 0))), (a7, .inl (aI, 61, .inl (fun _ => zI 0))), (a8, .inl (aI, 3721, .inl (fun _ => zI 0))), (b3, .inr (3, [.ref a9, .ref a10, .ref a11])), (a9, .inl (aI, 549, .inl (fun _ => zI 0))), (a10, .inl (aI, 549, .inl (fun _ => zI 0))), (a11, .inl (aI, 549, .inl (fun _ => zI 0)))]) F (dX5_init_0 24 rfl) (k_X1_init (zL X) D aI aZ b4) gX5_init_X1_init mX1_init rfl (by decide +kernel) (by decide +kernel) (by decide +kernel) [15] [0, 1, 2, 3, 4, 5, 6, 7, 8, 9, 10, 11, 12, 13, 14] rfl rfl (by decide) (Nat.le_of_ble_eq_true rfl) ⟨Nat.le_of_ble_eq_true rfl, Nat.le_of_ble_eq_true rfl⟩ ⟨rfl, rfl⟩ ⟨Nat.le_of_ble_eq_true rfl, Nat.le_of_ble_eq_true rfl⟩ (fun rv w1 hq => ?_)
  obtain ⟨rfl, a12, rfl⟩ := hq
  show zG X D _ _ [(o, .inr (5, [.ref a1, .int (zI 0), .ref b1, .ref b2, .ref b3, .null, .null, .null, .null])), (a1, .inl (aI, 60, .inl (fun _ => zI 0))), (b1, .inr (2, [.ref a2, .ref a3, .int (zI 0)])), (a2, .inl (aI, 1440, .inl (fun _ => zI 0))), (a3, .inl (aI, 24, .inl (fun _ => zI 0))), (b2, .inr (0, [.ref a4, .ref a5, .int (zI 0), .int (zI 0), .int (zI 0), .int (zI 0), .int (zI 0), .int (zI 0), .int (zI 0), .ref a6, .ref a7, .ref a8])), (a4, .inl (aI, 1440, .inl (fun _ => zI 0))), (a5, .inl (aI, 24, .inl (fun _ => zI 0))), (a6, .inl (aI, 61, .inl (fun _ => zI 0))), (a7, .inl (aI, 61, .inl (fun _ => zI 0))), (a8, .inl (aI, 3721, .inl (fun _ => zI 0))), (b3, .inr (3, [.ref a9, .ref a10, .ref a11])), (a9, .inl (aI, 549, .inl (fun _ => zI 0))), (a10, .inl (aI, 549, .inl (fun _ => zI 0))), (a11, .inl (aI, 549, .inl (fun _ => zI 0))), (b4, .inr (1, [.ref a12, .int (zI 0), .int (zI 0), .int (zI 0), .int (zI 0), .int (zI 0), .int (zI 0)])), (a12, .inl (aI, 9, .inl (fun _ => zI 0)))] 53 [(0, .ref o)] [.ref b4, .ref o]
  refine z_put (ws' := [(o, .inr (5, [.ref a1, .int (zI 0), .ref b1, .ref b2, .ref b3, .ref b4, .null, .null, .null])), (a1, .inl (aI, 60, .inl (fun _ => zI 0))), (b1, .inr (2, [.ref a2, .ref a3, .int (zI 0)])), (a2, .inl (aI, 1440, .inl (fun _ => zI 0))), (a3, .inl (aI, 24, .inl (fun _ => zI 0))), (b2, .inr (0, [.ref a4, .ref a5, .int (zI 0), .int (zI 0), .int (zI 0), .int (zI 0), .int (zI 0), .int (zI 0), .int (zI 0), .ref a6, .ref a7, .ref a8])), (a4, .inl (aI, 1440, .inl (fun _ => zI 0))), (a5, .inl (aI, 24, .inl (fun _ => zI 0))), (a6, .inl (aI, 61, .inl (fun _ => zI 0))), (a7, .inl (aI, 61, .inl (fun _ => zI 0))), (a8, .inl (aI, 3721, .inl (fun _ => zI 0))), (b3, .inr (3, [.ref a9, .ref a10, .ref a11])), (a9, .inl (aI, 549, .inl (fun _ => zI 0))), (a10, .inl (aI, 549, .inl (fun _ => zI 0))), (a11, .inl (aI, 549, .inl (fun _ => zI 0))), (b4, .inr (1, [.ref a12, .int (zI 0), .int (zI 0), .int (zI 0), .int (zI 0), .int (zI 0), .int (zI 0)])), (a12, .inl (aI, 9, .inl (fun _ => zI 0)))]) 0 F (dX5_init_0 25 rfl) fl_X5_init_37 tyX5_ok nmX5 rfl rfl rfl rfl rfl (Nat.le_of_ble_eq_true rfl) rfl ?_
  refine z_aload_n 0 F (dX5_init_0 26 rfl) rfl ?_
  refine z_new (ci := 1) (fs := [.null, .int (zI 0), .int (zI 0), .int (zI 0), .int (zI 0), .int (zI 0), .int (zI 0)]) F (dX5_init_0 27 rfl) inw_X5_init_1 tyX1_ok (by decide +kernel) (by decide +kernel) (by decide +kernel) rfl dfX1 ⟨Nat.le_of_ble_eq_true rfl, Nat.le_of_ble_eq_true rfl⟩ (fun b5 => ?_)
  refine z_dup F (dX5_init_0 28 rfl) rfl ?_
  refine z_callI (rest := [.ref b5, .ref o]) (wc := [(b5, .inr (1, [.null, .int (zI 0), .int (zI 0), .int (zI 0), .int (zI 0), .int (zI 0), .int (zI 0)]))]) (wr := [(o, .inr (5, [.ref a1, .int (zI 0), .ref b1, .ref b2, .ref b3, .ref b4, .null, .null, .null])), (a1, .inl (aI, 60, .inl (fun _ => zI 0))), (b1, .inr (2, [.ref a2, .ref a3, .int (zI 0)])), (a2, .inl (aI, 1440, .inl (fun _ => zI 0))), (a3, .inl (aI, 24, .inl (fun _ => zI 0))), (b2, .inr (0, [.ref a4, .ref a5, .int (zI 0), .int (zI 0), .int (zI 0), .int (zI 0), .int (zI 0), .int (zI 0), .int (zI 0), .ref a6, .ref a7, .ref a8])), (a4, .inl (aI, 1440, .inl (fun _ => zI 0))), (a5, .inl (aI, 24, .inl (fun _ => zI 0))), (a6, .inl (aI, 61, .inl (fun _ => zI 0))), (a7, .inl (aI, 61, .inl (fun _ => zI 0))), (a8, .inl (aI, 3721, .inl (fun _ => zI 0))), (b3, .inr (3, [.ref a9, .ref a10, .ref a11])), (a9, .inl (aI, 549, .inl (fun _ => zI 0))), (a10, .inl (aI, 549, .inl (fun _ => zI 0))), (a11, .inl (aI, 549, .inl (fun _ => zI 0))), (b4, .inr (1, [.ref a12, .int (zI 0), .int (zI 0), .int (zI 0), .int (zI 0), .int (zI 0), .int (zI 0)])), (a12, .inl (aI, 9, .inl (fun _ => zI 0)))]) F (dX5_init_0 29 rfl) (k_X1_init (zL X) D aI aZ b5) gX5_init_X1_init mX1_init rfl (by decide +kernel) (by decide +kernel) (by decide +kernel) [17] [0, 1, 2, 3, 4, 5, 6, 7, 8, 9, 10, 11, 12, 13, 14, 15, 16] rfl rfl (by decide) (Nat.le_of_ble_eq_true rfl) ⟨Nat.le_of_ble_eq_true rfl, Nat.le_of_ble_eq_true rfl⟩ ⟨rfl, rfl⟩ ⟨Nat.le_of_ble_eq_true rfl, Nat.le_of_ble_eq_true rfl⟩ (fun rv w1 hq => ?_)
  obtain ⟨rfl, a13, rfl⟩ := hq
  show zG X D _ _ [(o, .inr (5, [.ref a1, .int (zI 0), .ref b1, .ref b2, .ref b3, .ref b4, .null, .null, .null])), (a1, .inl (aI, 60, .inl (fun _ => zI 0))), (b1, .inr (2, [.ref a2, .ref a3, .int (zI 0)])), (a2, .inl (aI, 1440, .inl (fun _ => zI 0))), (a3, .inl (aI, 24, .inl (fun _ => zI 0))), (b2, .inr (0, [.ref a4, .ref a5, .int (zI 0), .int (zI 0), .int (zI 0), .int (zI 0), .int (zI 0), .int (zI 0), .int (zI 0), .ref a6, .ref a7, .ref a8])), (a4, .inl (aI, 1440, .inl (fun _ => zI 0))), (a5, .inl (aI, 24, .inl (fun _ => zI 0))), (a6, .inl (aI, 61, .inl (fun _ => zI 0))), (a7, .inl (aI, 61, .inl (fun _ => zI 0))), (a8, .inl (aI, 3721, .inl (fun _ => zI 0))), (b3, .inr (3, [.ref a9, .ref a10, .ref a11])), (a9, .inl (aI, 549, .inl (fun _ => zI 0))), (a10, .inl (aI, 549, .inl (fun _ => zI 0))), (a11, .inl (aI, 549, .inl (fun _ => zI 0))), (b4, .inr (1, [.ref a12, .int (zI 0), .int (zI 0), .int (zI 0), .int (zI 0), .int (zI 0), .int (zI 0)])), (a12, .inl (aI, 9, .inl (fun _ => zI 0))), (b5, .inr (1, [.ref a13, .int (zI 0), .int (zI 0), .int (zI 0), .int (zI 0), .int (zI 0), .int (zI 0)])), (a13, .inl (aI, 9, .inl (fun _ => zI 0)))] 64 [(0, .ref o)] [.ref b5, .ref o]
  refine z_put (ws' := [(o, .inr (5, [.ref a1, .int (zI 0), .ref b1, .ref b2, .ref b3, .ref b4, .ref b5, .null, .null])), (a1, .inl (aI, 60, .inl (fun _ => zI 0))), (b1, .inr (2, [.ref a2, .ref a3, .int (zI 0)])), (a2, .inl (aI, 1440, .inl (fun _ => zI 0))), (a3, .inl (aI, 24, .inl (fun _ => zI 0))), (b2, .inr (0, [.ref a4, .ref a5, .int (zI 0), .int (zI 0), .int (zI 0), .int (zI 0), .int (zI 0), .int (zI 0), .int (zI 0), .ref a6, .ref a7, .ref a8])), (a4, .inl (aI, 1440, .inl (fun _ => zI 0))), (a5, .inl (aI, 24, .inl (fun _ => zI 0))), (a6, .inl (aI, 61, .inl (fun _ => zI 0))), (a7, .inl (aI, 61, .inl (fun _ => zI 0))), (a8, .inl (aI, 3721, .inl (fun _ => zI 0))), (b3, .inr (3, [.ref a9, .ref a10, .ref a11])), (a9, .inl (aI, 549, .inl (fun _ => zI 0))), (a10, .inl (aI, 549, .inl (fun _ => zI 0))), (a11, .inl (aI, 549, .inl (fun _ => zI 0))), (b4, .inr (1, [.ref a12, .int (zI 0), .int (zI 0), .int (zI 0), .int (zI 0), .int (zI 0), .int (zI 0)])), (a12, .inl (aI, 9, .inl (fun _ => zI 0))), (b5, .inr (1, [.ref a13, .int (zI 0), .int (zI 0), .int (zI 0), .int (zI 0), .int (zI 0), .int (zI 0)])), (a13, .inl (aI, 9, .inl (fun _ => zI 0)))]) 0 F (dX5_init_0 30 rfl) fl_X5_init_41 tyX5_ok nmX5 rfl rfl rfl rfl rfl (Nat.le_of_ble_eq_true rfl) rfl ?_
  refine z_aload_n 0 F (dX5_init_0 31 rfl) rfl ?_
  refine z_new (ci := 4) (fs := [.null, .null, .int (zI 0), .int (zI 0), .null, .null, .int (zI 0)]) F (dX5_init_0 32 rfl) inw_X5_init_4 tyX4_ok (by decide +kernel) (by decide +kernel) (by decide +kernel) rfl dfX4 ⟨Nat.le_of_ble_eq_true rfl, Nat.le_of_ble_eq_true rfl⟩ (fun b6 => ?_)
  refine z_dup F (dX5_init_0 33 rfl) rfl ?_
  refine z_callI (rest := [.ref b6, .ref o]) (wc := [(b6, .inr (4, [.null, .null, .int (zI 0), .int (zI 0), .null, .null, .int (zI 0)]))]) (wr := [(o, .inr (5, [.ref a1, .int (zI 0), .ref b1, .ref b2, .ref b3, .ref b4, .ref b5, .null, .null])), (a1, .inl (aI, 60, .inl (fun _ => zI 0))), (b1, .inr (2, [.ref a2, .ref a3, .int (zI 0)])), (a2, .inl (aI, 1440, .inl (fun _ => zI 0))), (a3, .inl (aI, 24, .inl (fun _ => zI 0))), (b2, .inr (0, [.ref a4, .ref a5, .int (zI 0), .int (zI 0), .int (zI 0), .int (zI 0), .int (zI 0), .int (zI 0), .int (zI 0), .ref a6, .ref a7, .ref a8])), (a4, .inl (aI, 1440, .inl (fun _ => zI 0))), (a5, .inl (aI, 24, .inl (fun _ => zI 0))), (a6, .inl (aI, 61, .inl (fun _ => zI 0))), (a7, .inl (aI, 61, .inl (fun _ => zI 0))), (a8, .inl (aI, 3721, .inl (fun _ => zI 0))), (b3, .inr (3, [.ref a9, .ref a10, .ref a11])), (a9, .inl (aI, 549, .inl (fun _ => zI 0))), (a10, .inl (aI, 549, .inl (fun _ => zI 0))), (a11, .inl (aI, 549, .inl (fun _ => zI 0))), (b4, .inr (1, [.ref a12, .int (zI 0), .int (zI 0), .int (zI 0), .int (zI 0), .int (zI 0), .int (zI 0)])), (a12, .inl (aI, 9, .inl (fun _ => zI 0))), (b5, .inr (1, [.ref a13, .int (zI 0), .int (zI 0), .int (zI 0), .int (zI 0), .int (zI 0), .int (zI 0)])), (a13, .inl (aI, 9, .inl (fun _ => zI 0)))]) F (dX5_init_0 34 rfl) (k_X4_init (zL X) D aI aZ b6) gX5_init_X4_init mX4_init rfl (by decide +kernel) (by decide +kernel) (by decide +kernel) [19] [0, 1, 2, 3, 4, 5, 6, 7, 8, 9, 10, 11, 12, 13, 14, 15, 16, 17, 18] rfl rfl (by decide) (Nat.le_of_ble_eq_true rfl) ⟨Nat.le_of_ble_eq_true rfl, Nat.le_of_ble_eq_true rfl⟩ ⟨rfl, rfl⟩ ⟨Nat.le_of_ble_eq_true rfl, Nat.le_of_ble_eq_true rfl⟩ (fun rv w1 hq => ?_)
  obtain ⟨rfl, a14, a15, a16, a17, rfl⟩ := hq
  show zG X D _ _ [(o, .inr (5, [.ref a1, .int (zI 0), .ref b1, .ref b2, .ref b3, .ref b4, .ref b5, .null, .null])), (a1, .inl (aI, 60, .inl (fun _ => zI 0))), (b1, .inr (2, [.ref a2, .ref a3, .int (zI 0)])), (a2, .inl (aI, 1440, .inl (fun _ => zI 0))), (a3, .inl (aI, 24, .inl (fun _ => zI 0))), (b2, .inr (0, [.ref a4, .ref a5, .int (zI 0), .int (zI 0), .int (zI 0), .int (zI 0), .int (zI 0), .int (zI 0), .int (zI 0), .ref a6, .ref a7, .ref a8])), (a4, .inl (aI, 1440, .inl (fun _ => zI 0))), (a5, .inl (aI, 24, .inl (fun _ => zI 0))), (a6, .inl (aI, 61, .inl (fun _ => zI 0))), (a7, .inl (aI, 61, .inl (fun _ => zI 0))), (a8, .inl (aI, 3721, .inl (fun _ => zI 0))), (b3, .inr (3, [.ref a9, .ref a10, .ref a11])), (a9, .inl (aI, 549, .inl (fun _ => zI 0))), (a10, .inl (aI, 549, .inl (fun _ => zI 0))), (a11, .inl (aI, 549, .inl (fun _ => zI 0))), (b4, .inr (1, [.ref a12, .int (zI 0), .int (zI 0), .int (zI 0), .int (zI 0), .int (zI 0), .int (zI 0)])), (a12, .inl (aI, 9, .inl (fun _ => zI 0))), (b5, .inr (1, [.ref a13, .int (zI 0), .int (zI 0), .int (zI 0), .int (zI 0), .int (zI 0), .int (zI 0)])), (a13, .inl (aI, 9, .inl (fun _ => zI 0))), (b6, .inr (4, [.ref a14, .ref a15, .int (zI 0), .int (zI 0), .ref a16, .ref a17, .int (zI 0)])), (a14, .inl (aI, 20160, .inl (fun _ => zI 0))), (a15, .inl (aI, 336, .inl (fun _ => zI 0))), (a16, .inl (aI, 8, .inl (fun _ => zI 0))), (a17, .inl (aI, 8, .inl (fun _ => zI 0)))] 75 [(0, .ref o)] [.ref b6, .ref o]
  refine z_put (ws' := [(o, .inr (5, [.ref a1, .int (zI 0), .ref b1, .ref b2, .ref b3, .ref b4, .ref b5, .ref b6, .null])), (a1, .inl (aI, 60, .inl (fun _ => zI 0))), (b1, .inr (2, [.ref a2, .ref a3, .int (zI 0)])), (a2, .inl (aI, 1440, .inl (fun _ => zI 0))), (a3, .inl (aI, 24, .inl (fun _ => zI 0))), (b2, .inr (0, [.ref a4, .ref a5, .int (zI 0), .int (zI 0), .int (zI 0), .int (zI 0), .int (zI 0), .int (zI 0), .int (zI 0), .ref a6, .ref a7, .ref a8])), (a4, .inl (aI, 1440, .inl (fun _ => zI 0))), (a5, .inl (aI, 24, .inl (fun _ => zI 0))), (a6, .inl (aI, 61, .inl (fun _ => zI 0))), (a7, .inl (aI, 61, .inl (fun _ => zI 0))), (a8, .inl (aI, 3721, .inl (fun _ => zI 0))), (b3, .inr (3, [.ref a9, .ref a10, .ref a11])), (a9, .inl (aI, 549, .inl (fun _ => zI 0))), (a10, .inl (aI, 549, .inl (fun _ => zI 0))), (a11, .inl (aI, 549, .inl (fun _ => zI 0))), (b4, .inr (1, [.ref a12, .int (zI 0), .int (zI 0), .int (zI 0), .int (zI 0), .int (zI 0), .int (zI 0)])), (a12, .inl (aI, 9, .inl (fun _ => zI 0))), (b5, .inr (1, [.ref a13, .int (zI 0), .int (zI 0), .int (zI 0), .int (zI 0), .int (zI 0), .int (zI 0)])), (a13, .inl (aI, 9, .inl (fun _ => zI 0))), (b6, .inr (4, [.ref a14, .ref a15, .int (zI 0), .int (zI 0), .ref a16, .ref a17, .int (zI 0)])), (a14, .inl (aI, 20160, .inl (fun _ => zI 0))), (a15, .inl (aI, 336, .inl (fun _ => zI 0))), (a16, .inl (aI, 8, .inl (fun _ => zI 0))), (a17, .inl (aI, 8, .inl (fun _ => zI 0)))]) 0 F (dX5_init_0 35 rfl) fl_X5_init_47 tyX5_ok nmX5 rfl rfl rfl rfl rfl (Nat.le_of_ble_eq_true rfl) rfl ?_
  refine z_aload_n 0 F (dX5_init_0 36 rfl) rfl ?_
  refine z_new (ci := 4) (fs := [.null, .null, .int (zI 0), .int (zI 0), .null, .null, .int (zI 0)]) F (dX5_init_0 37 rfl) inw_X5_init_4 tyX4_ok (by decide +kernel) (by decide +kernel) (by decide +kernel) rfl dfX4 ⟨Nat.le_of_ble_eq_true rfl, Nat.le_of_ble_eq_true rfl⟩ (fun b7 => ?_)
  refine z_dup F (dX5_init_0 38 rfl) rfl ?_
  refine z_callI (rest := [.ref b7, .ref o]) (wc := [(b7, .inr (4, [.null, .null, .int (zI 0), .int (zI 0), .null, .null, .int (zI 0)]))]) (wr := [(o, .inr (5, [.ref a1, .int (zI 0), .ref b1, .ref b2, .ref b3, .ref b4, .ref b5, .ref b6, .null])), (a1, .inl (aI, 60, .inl (fun _ => zI 0))), (b1, .inr (2, [.ref a2, .ref a3, .int (zI 0)])), (a2, .inl (aI, 1440, .inl (fun _ => zI 0))), (a3, .inl (aI, 24, .inl (fun _ => zI 0))), (b2, .inr (0, [.ref a4, .ref a5, .int (zI 0), .int (zI 0), .int (zI 0), .int (zI 0), .int (zI 0), .int (zI 0), .int (zI 0), .ref a6, .ref a7, .ref a8])), (a4, .inl (aI, 1440, .inl (fun _ => zI 0))), (a5, .inl (aI, 24, .inl (fun _ => zI 0))), (a6, .inl (aI, 61, .inl (fun _ => zI 0))), (a7, .inl (aI, 61, .inl (fun _ => zI 0))), (a8, .inl (aI, 3721, .inl (fun _ => zI 0))), (b3, .inr (3, [.ref a9, .ref a10, .ref a11])), (a9, .inl (aI, 549, .inl (fun _ => zI 0))), (a10, .inl (aI, 549, .inl (fun _ => zI 0))), (a11, .inl (aI, 549, .inl (fun _ => zI 0))), (b4, .inr (1, [.ref a12, .int (zI 0), .int (zI 0), .int (zI 0), .int (zI 0), .int (zI 0), .int (zI 0)])), (a12, .inl (aI, 9, .inl (fun _ => zI 0))), (b5, .inr (1, [.ref a13, .int (zI 0), .int (zI 0), .int (zI 0), .int (zI 0), .int (zI 0), .int (zI 0)])), (a13, .inl (aI, 9, .inl (fun _ => zI 0))), (b6, .inr (4, [.ref a14, .ref a15, .int (zI 0), .int (zI 0), .ref a16, .ref a17, .int (zI 0)])), (a14, .inl (aI, 20160, .inl (fun _ => zI 0))), (a15, .inl (aI, 336, .inl (fun _ => zI 0))), (a16, .inl (aI, 8, .inl (fun _ => zI 0))), (a17, .inl (aI, 8, .inl (fun _ => zI 0)))]) F (dX5_init_0 39 rfl) (k_X4_init (zL X) D aI aZ b7) gX5_init_X4_init mX4_init rfl (by decide +kernel) (by decide +kernel) (by decide +kernel) [24] [0, 1, 2, 3, 4, 5, 6, 7, 8, 9, 10, 11, 12, 13, 14, 15, 16, 17, 18, 19, 20, 21, 22, 23] rfl rfl (by decide) (Nat.le_of_ble_eq_true rfl) ⟨Nat.le_of_ble_eq_true rfl, Nat.le_of_ble_eq_true rfl⟩ ⟨rfl, rfl⟩ ⟨Nat.le_of_ble_eq_true rfl, Nat.le_of_ble_eq_true rfl⟩ (fun rv w1 hq => ?_)
  obtain ⟨rfl, a18, a19, a20, a21, rfl⟩ := hq
  show zG X D _ _ [(o, .inr (5, [.ref a1, .int (zI 0), .ref b1, .ref b2, .ref b3, .ref b4, .ref b5, .ref b6, .null])), (a1, .inl (aI, 60, .inl (fun _ => zI 0))), (b1, .inr (2, [.ref a2, .ref a3, .int (zI 0)])), (a2, .inl (aI, 1440, .inl (fun _ => zI 0))), (a3, .inl (aI, 24, .inl (fun _ => zI 0))), (b2, .inr (0, [.ref a4, .ref a5, .int (zI 0), .int (zI 0), .int (zI 0), .int (zI 0), .int (zI 0), .int (zI 0), .int (zI 0), .ref a6, .ref a7, .ref a8])), (a4, .inl (aI, 1440, .inl (fun _ => zI 0))), (a5, .inl (aI, 24, .inl (fun _ => zI 0))), (a6, .inl (aI, 61, .inl (fun _ => zI 0))), (a7, .inl (aI, 61, .inl (fun _ => zI 0))), (a8, .inl (aI, 3721, .inl (fun _ => zI 0))), (b3, .inr (3, [.ref a9, .ref a10, .ref a11])), (a9, .inl (aI, 549, .inl (fun _ => zI 0))), (a10, .inl (aI, 549, .inl (fun _ => zI 0))), (a11, .inl (aI, 549, .inl (fun _ => zI 0))), (b4, .inr (1, [.ref a12, .int (zI 0), .int (zI 0), .int (zI 0), .int (zI 0), .int (zI 0), .int (zI 0)])), (a12, .inl (aI, 9, .inl (fun _ => zI 0))), (b5, .inr (1, [.ref a13, .int (zI 0), .int (zI 0), .int (zI 0), .int (zI 0), .int (zI 0), .int (zI 0)])), (a13, .inl (aI, 9, .inl (fun _ => zI 0))), (b6, .inr (4, [.ref a14, .ref a15, .int (zI 0), .int (zI 0), .ref a16, .ref a17, .int (zI 0)])), (a14, .inl (aI, 20160, .inl (fun _ => zI 0))), (a15, .inl (aI, 336, .inl (fun _ => zI 0))), (a16, .inl (aI, 8, .inl (fun _ => zI 0))), (a17, .inl (aI, 8, .inl (fun _ => zI 0))), (b7, .inr (4, [.ref a18, .ref a19, .int (zI 0), .int (zI 0), .ref a20, .ref a21, .int (zI 0)])), (a18, .inl (aI, 20160, .inl (fun _ => zI 0))), (a19, .inl (aI, 336, .inl (fun _ => zI 0))), (a20, .inl (aI, 8, .inl (fun _ => zI 0))), (a21, .inl (aI, 8, .inl (fun _ => zI 0)))] 86 [(0, .ref o)] [.ref b7, .ref o]
  refine z_put (ws' := [(o, .inr (5, [.ref a1, .int (zI 0), .ref b1, .ref b2, .ref b3, .ref b4, .ref b5, .ref b6, .ref b7])), (a1, .inl (aI, 60, .inl (fun _ => zI 0))), (b1, .inr (2, [.ref a2, .ref a3, .int (zI 0)])), (a2, .inl (aI, 1440, .inl (fun _ => zI 0))), (a3, .inl (aI, 24, .inl (fun _ => zI 0))), (b2, .inr (0, [.ref a4, .ref a5, .int (zI 0), .int (zI 0), .int (zI 0), .int (zI 0), .int (zI 0), .int (zI 0), .int (zI 0), .ref a6, .ref a7, .ref a8])), (a4, .inl (aI, 1440, .inl (fun _ => zI 0))), (a5, .inl (aI, 24, .inl (fun _ => zI 0))), (a6, .inl (aI, 61, .inl (fun _ => zI 0))), (a7, .inl (aI, 61, .inl (fun _ => zI 0))), (a8, .inl (aI, 3721, .inl (fun _ => zI 0))), (b3, .inr (3, [.ref a9, .ref a10, .ref a11])), (a9, .inl (aI, 549, .inl (fun _ => zI 0))), (a10, .inl (aI, 549, .inl (fun _ => zI 0))), (a11, .inl (aI, 549, .inl (fun _ => zI 0))), (b4, .inr (1, [.ref a12, .int (zI 0), .int (zI 0), .int (zI 0), .int (zI 0), .int (zI 0), .int (zI 0)])), (a12, .inl (aI, 9, .inl (fun _ => zI 0))), (b5, .inr (1, [.ref a13, .int (zI 0), .int (zI 0), .int (zI 0), .int (zI 0), .int (zI 0), .int (zI 0)])), (a13, .inl (aI, 9, .inl (fun _ => zI 0))), (b6, .inr (4, [.ref a14, .ref a15, .int (zI 0), .int (zI 0), .ref a16, .ref a17, .int (zI 0)])), (a14, .inl (aI, 20160, .inl (fun _ => zI 0))), (a15, .inl (aI, 336, .inl (fun _ => zI 0))), (a16, .inl (aI, 8, .inl (fun _ => zI 0))), (a17, .inl (aI, 8, .inl (fun _ => zI 0))), (b7, .inr (4, [.ref a18, .ref a19, .int (zI 0), .int (zI 0), .ref a20, .ref a21, .int (zI 0)])), (a18, .inl (aI, 20160, .inl (fun _ => zI 0))), (a19, .inl (aI, 336, .inl (fun _ => zI 0))), (a20, .inl (aI, 8, .inl (fun _ => zI 0))), (a21, .inl (aI, 8, .inl (fun _ => zI 0)))]) 0 F (dX5_init_1 0 rfl) fl_X5_init_51 tyX5_ok nmX5 rfl rfl rfl rfl rfl (Nat.le_of_ble_eq_true rfl) rfl ?_
  exact z_vret [0, 1, 2, 3, 4, 5, 6, 7, 8, 9, 10, 11, 12, 13, 14, 15, 16, 17, 18, 19, 20, 21, 22, 23, 24, 25, 26, 27, 28] F E (dX5_init_1 1 rfl) rfl (by decide) ⟨rfl, a1, b1, a2, a3, b2, a4, a5, a6, a7, a8, b3, a9, a10, a11, b4, a12, b5, a13, b6, a14, a15, a16, a17, b7, a18, a19, a20, a21, rfl⟩
