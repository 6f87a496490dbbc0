theorem inw_X4_holds_4 : ∀ w ∈ u_ws RX4 TX4 7, w ∈ wsX4_holds := by decide +kernel
theorem fl_X4_holds_24 : zfl wsX4_holds RX4 24 4 2 RX4 TX4 7 := ⟨inw_X4_holds_4, rfl, by decide, by decide +kernel⟩
theorem fl_X4_holds_28 : zfl wsX4_holds RX4 28 4 3 RX4 TX4 7 := ⟨inw_X4_holds_4, rfl, by decide, by decide +kernel⟩
abbrev rmX4_holds : Room := { frames := 0, cells := 0, slots := 0, locals := 0 }
theorem mX4_holds : zY yX4_holds cX4_holds 3 (some .boolean) wsX4_holds 2 := ⟨⟨_, rfl⟩, by decide +kernel, by decide +kernel, by decide +kernel⟩
set_option maxRecDepth 20000 in
set_option maxHeartbeats 2000000 in
theorem b_X4_holds_j30 {X : zX} {D : va_G} {aI aZ : ClassId} {w0 : va_W} {Qp : Option Value → va_W → Prop} (F : zF X D aI aZ cX4_holds 3 RX4 wsX4_holds rmX4_holds) (E : zT X D w0 Qp 0 0 (some .boolean)) (q_t q_t_bytes q_t_lengths q_t_widths q_t_ofNumbers : Nat) (t_bytes : (Nat → Int)) (t_lengths : (Nat → Int)) (t_columns : Int) (t_rows : Int) (t_widths : (Nat → Int)) (t_ofNumbers : (Nat → Int)) (t_laidWidth : Int) {R : Int} (hQ : Qp (some (.int (zI R))) (wX4 aI q_t q_t_bytes q_t_lengths q_t_widths q_t_ofNumbers t_bytes t_lengths t_columns t_rows t_widths t_ofNumbers t_laidWidth)) (hf : f_X4_holds_j30 = some R) : zG X D 0 0 (wX4 aI q_t q_t_bytes q_t_lengths q_t_widths q_t_ofNumbers t_bytes t_lengths t_columns t_rows t_widths t_ofNumbers t_laidWidth) 30 [] [] := by
  unfold f_X4_holds_j30 at hf
  refine z_iconst F (dX4_holds_0 16 rfl) ?_
  cases hf
  exact z_zret [0, 1, 2, 3, 4] F E (dX4_holds_0 17 rfl) (Or.inl rfl) rfl (by decide) hQ
set_option maxRecDepth 20000 in
set_option maxHeartbeats 2000000 in
theorem b_X4_holds_0 {X : zX} {D : va_G} {aI aZ : ClassId} {w0 : va_W} {Qp : Option Value → va_W → Prop} (F : zF X D aI aZ cX4_holds 3 RX4 wsX4_holds rmX4_holds) (E : zT X D w0 Qp 0 0 (some .boolean)) (q_t q_t_bytes q_t_lengths q_t_widths q_t_ofNumbers : Nat) (t_bytes : (Nat → Int)) (t_lengths : (Nat → Int)) (t_columns : Int) (t_rows : Int) (t_widths : (Nat → Int)) (t_ofNumbers : (Nat → Int)) (t_laidWidth : Int) (v1 : Int) (v2 : Int) {R : Int} (hQ : Qp (some (.int (zI R))) (wX4 aI q_t q_t_bytes q_t_lengths q_t_widths q_t_ofNumbers t_bytes t_lengths t_columns t_rows t_widths t_ofNumbers t_laidWidth)) (hf : f_X4_holds t_columns t_rows v1 v2 = some R) : zG X D 0 0 (wX4 aI q_t q_t_bytes q_t_lengths q_t_widths q_t_ofNumbers t_bytes t_lengths t_columns t_rows t_widths t_ofNumbers t_laidWidth) 0 [(0, .ref q_t), (1, .int (zI v1)), (2, .int (zI v2))] [] := by
  unfold f_X4_holds at hf
  refine z_iload_n 2 F (dX4_holds_0 0 rfl) rfl ?_
  refine z_if_lt (tgt := 30) F (dX4_holds_0 1 rfl) rfl (fun c1 => ?_) (fun c1 => ?_)
  · replace hf := zif_t c1 hf
    refine z_lv [] rfl ?_
    exact b_X4_holds_j30 F E q_t q_t_bytes q_t_lengths q_t_widths q_t_ofNumbers t_bytes t_lengths t_columns t_rows t_widths t_ofNumbers t_laidWidth hQ hf
  · replace hf := zif_f c1 hf
    refine z_iload_n 2 F (dX4_holds_0 2 rfl) rfl ?_
    refine z_aload_n 0 F (dX4_holds_0 3 rfl) rfl ?_
    refine z_get (v := .int (zI t_columns)) 0 F (dX4_holds_0 4 rfl) fl_X4_holds_24 rfl rfl ?_
    refine z_icmp_ge (tgt := 30) F (dX4_holds_0 5 rfl) rfl (fun c9 => ?_) (fun c9 => ?_)
    · replace hf := zif_f c9 hf
      refine z_lv [] rfl ?_
      exact b_X4_holds_j30 F E q_t q_t_bytes q_t_lengths q_t_widths q_t_ofNumbers t_bytes t_lengths t_columns t_rows t_widths t_ofNumbers t_laidWidth hQ hf
    · replace hf := zif_t c9 hf
      refine z_iload_n 1 F (dX4_holds_0 6 rfl) rfl ?_
      refine z_if_lt (tgt := 30) F (dX4_holds_0 7 rfl) rfl (fun c13 => ?_) (fun c13 => ?_)
      · replace hf := zif_t c13 hf
        refine z_lv [] rfl ?_
        exact b_X4_holds_j30 F E q_t q_t_bytes q_t_lengths q_t_widths q_t_ofNumbers t_bytes t_lengths t_columns t_rows t_widths t_ofNumbers t_laidWidth hQ hf
      · replace hf := zif_f c13 hf
        refine z_iload_n 1 F (dX4_holds_0 8 rfl) rfl ?_
        refine z_aload_n 0 F (dX4_holds_0 9 rfl) rfl ?_
        refine z_get (v := .int (zI t_rows)) 0 F (dX4_holds_0 10 rfl) fl_X4_holds_28 rfl rfl ?_
        refine z_iconst F (dX4_holds_0 11 rfl) ?_
        refine z_iadd F (dX4_holds_0 12 rfl) ?_
        refine z_icmp_gt (tgt := 30) F (dX4_holds_0 13 rfl) rfl (fun c23 => ?_) (fun c23 => ?_)
        · replace hf := zif_t c23 hf
          refine z_lv [] rfl ?_
          exact b_X4_holds_j30 F E q_t q_t_bytes q_t_lengths q_t_widths q_t_ofNumbers t_bytes t_lengths t_columns t_rows t_widths t_ofNumbers t_laidWidth hQ hf
        · replace hf := zif_f c23 hf
          refine z_iconst F (dX4_holds_0 14 rfl) ?_
          refine z_goto (tgt := 31) F (dX4_holds_0 15 rfl) rfl ?_
          cases hf
          exact z_zret [0, 1, 2, 3, 4] F E (dX4_holds_0 17 rfl) (Or.inr rfl) rfl (by decide) hQ
set_option maxRecDepth 20000 in
set_option maxHeartbeats 2000000 in
theorem k_X4_holds (l : Launch) (D : va_G) (aI aZ : ClassId) (q_t q_t_bytes q_t_lengths q_t_widths q_t_ofNumbers : Nat) (t_bytes : (Nat → Int)) (t_lengths : (Nat → Int)) (t_columns : Int) (t_rows : Int) (t_widths : (Nat → Int)) (t_ofNumbers : (Nat → Int)) (t_laidWidth : Int) (v1 : Int) (v2 : Int) {R : Int} (hf : f_X4_holds t_columns t_rows v1 v2 = some R) : zC l D aI aZ yX4_holds wsX4_holds rmX4_holds [.ref q_t, .int (zI v1), .int (zI v2)] (wX4 aI q_t q_t_bytes q_t_lengths q_t_widths q_t_ofNumbers t_bytes t_lengths t_columns t_rows t_widths t_ofNumbers t_laidWidth) (fun r w => r = (some (.int (zI R))) ∧ w = wX4 aI q_t q_t_bytes q_t_lengths q_t_widths q_t_ofNumbers t_bytes t_lengths t_columns t_rows t_widths t_ofNumbers t_laidWidth) 0 0 := by
  refine z_met (cc := cX4_holds) (maxL := 3) (ret := (some .boolean)) (by decide +kernel) rfl (Nat.le_of_ble_eq_true rfl) (fun X hX F E => ?_)
  exact b_X4_holds_0 F E q_t q_t_bytes q_t_lengths q_t_widths q_t_ofNumbers t_bytes t_lengths t_columns t_rows t_widths t_ofNumbers t_laidWidth v1 v2 ⟨rfl, rfl⟩ hf
theorem inw_X4_slotOf_4 : ∀ w ∈ u_ws RX4 TX4 7, w ∈ wsX4_slotOf := by decide +kernel
theorem fl_X4_slotOf_28 : zfl wsX4_slotOf RX4 28 4 3 RX4 TX4 7 := ⟨inw_X4_slotOf_4, rfl, by decide, by decide +kernel⟩
abbrev rmX4_slotOf : Room := { frames := 0, cells := 0, slots := 0, locals := 0 }
theorem mX4_slotOf : zY yX4_slotOf cX4_slotOf 3 (some .int) wsX4_slotOf 2 := ⟨⟨_, rfl⟩, by decide +kernel, by decide +kernel, by decide +kernel⟩
set_option maxRecDepth 20000 in
set_option maxHeartbeats 2000000 in
theorem b_X4_slotOf_j14 {X : zX} {D : va_G} {aI aZ : ClassId} {w0 : va_W} {Qp : Option Value → va_W → Prop} (F : zF X D aI aZ cX4_slotOf 3 RX4 wsX4_slotOf rmX4_slotOf) (E : zT X D w0 Qp 0 0 (some .int)) (q_t q_t_bytes q_t_lengths q_t_widths q_t_ofNumbers : Nat) (s0 : Int) (v2 : Int) (t_bytes : (Nat → Int)) (t_lengths : (Nat → Int)) (t_columns : Int) (t_rows : Int) (t_widths : (Nat → Int)) (t_ofNumbers : (Nat → Int)) (t_laidWidth : Int) {R : Int} (hQ : Qp (some (.int (zI R))) (wX4 aI q_t q_t_bytes q_t_lengths q_t_widths q_t_ofNumbers t_bytes t_lengths t_columns t_rows t_widths t_ofNumbers t_laidWidth)) (hf : f_X4_slotOf_j14 s0 v2 = some R) : zG X D 0 0 (wX4 aI q_t q_t_bytes q_t_lengths q_t_widths q_t_ofNumbers t_bytes t_lengths t_columns t_rows t_widths t_ofNumbers t_laidWidth) 14 [(2, .int (zI v2))] [.int (zI s0)] := by
  unfold f_X4_slotOf_j14 at hf
  refine z_bipush F (dX4_slotOf_0 7 rfl) rfl ?_
  refine z_imul F (dX4_slotOf_0 8 rfl) ?_
  refine z_iload_n 0 F (dX4_slotOf_0 9 rfl) rfl ?_
  refine z_iadd F (dX4_slotOf_0 10 rfl) ?_
  cases hf
  exact z_iret [0, 1, 2, 3, 4] F E (dX4_slotOf_0 11 rfl) rfl (by decide) hQ
set_option maxRecDepth 20000 in
set_option maxHeartbeats 2000000 in
theorem b_X4_slotOf_0 {X : zX} {D : va_G} {aI aZ : ClassId} {w0 : va_W} {Qp : Option Value → va_W → Prop} (F : zF X D aI aZ cX4_slotOf 3 RX4 wsX4_slotOf rmX4_slotOf) (E : zT X D w0 Qp 0 0 (some .int)) (q_t q_t_bytes q_t_lengths q_t_widths q_t_ofNumbers : Nat) (t_bytes : (Nat → Int)) (t_lengths : (Nat → Int)) (t_columns : Int) (t_rows : Int) (t_widths : (Nat → Int)) (t_ofNumbers : (Nat → Int)) (t_laidWidth : Int) (v1 : Int) (v2 : Int) {R : Int} (hQ : Qp (some (.int (zI R))) (wX4 aI q_t q_t_bytes q_t_lengths q_t_widths q_t_ofNumbers t_bytes t_lengths t_columns t_rows t_widths t_ofNumbers t_laidWidth)) (hf : f_X4_slotOf t_rows v1 v2 = some R) : zG X D 0 0 (wX4 aI q_t q_t_bytes q_t_lengths q_t_widths q_t_ofNumbers t_bytes t_lengths t_columns t_rows t_widths t_ofNumbers t_laidWidth) 0 [(0, .ref q_t), (1, .int (zI v1)), (2, .int (zI v2))] [] := by
  unfold f_X4_slotOf at hf
  refine z_iload_n 1 F (dX4_slotOf_0 0 rfl) rfl ?_
  refine z_aload_n 0 F (dX4_slotOf_0 1 rfl) rfl ?_
  refine z_get (v := .int (zI t_rows)) 0 F (dX4_slotOf_0 2 rfl) fl_X4_slotOf_28 rfl rfl ?_
  refine z_icmp_le (tgt := 13) F (dX4_slotOf_0 3 rfl) rfl (fun c5 => ?_) (fun c5 => ?_)
  · replace hf := zif_f c5 hf
    refine z_iload_n 1 F (dX4_slotOf_0 6 rfl) rfl ?_
    refine z_lv [2] rfl ?_
    exact b_X4_slotOf_j14 F E q_t q_t_bytes q_t_lengths q_t_widths q_t_ofNumbers v1 v2 t_bytes t_lengths t_columns t_rows t_widths t_ofNumbers t_laidWidth hQ hf
  · replace hf := zif_t c5 hf
    refine z_bipush F (dX4_slotOf_0 4 rfl) rfl ?_
    refine z_goto (tgt := 14) F (dX4_slotOf_0 5 rfl) rfl ?_
    refine z_lv [2] rfl ?_
    exact b_X4_slotOf_j14 F E q_t q_t_bytes q_t_lengths q_t_widths q_t_ofNumbers 41 v2 t_bytes t_lengths t_columns t_rows t_widths t_ofNumbers t_laidWidth hQ hf
set_option maxRecDepth 20000 in
set_option maxHeartbeats 2000000 in
theorem k_X4_slotOf (l : Launch) (D : va_G) (aI aZ : ClassId) (q_t q_t_bytes q_t_lengths q_t_widths q_t_ofNumbers : Nat) (t_bytes : (Nat → Int)) (t_lengths : (Nat → Int)) (t_columns : Int) (t_rows : Int) (t_widths : (Nat → Int)) (t_ofNumbers : (Nat → Int)) (t_laidWidth : Int) (v1 : Int) (v2 : Int) {R : Int} (hf : f_X4_slotOf t_rows v1 v2 = some R) : zC l D aI aZ yX4_slotOf wsX4_slotOf rmX4_slotOf [.ref q_t, .int (zI v1), .int (zI v2)] (wX4 aI q_t q_t_bytes q_t_lengths q_t_widths q_t_ofNumbers t_bytes t_lengths t_columns t_rows t_widths t_ofNumbers t_laidWidth) (fun r w => r = (some (.int (zI R))) ∧ w = wX4 aI q_t q_t_bytes q_t_lengths q_t_widths q_t_ofNumbers t_bytes t_lengths t_columns t_rows t_widths t_ofNumbers t_laidWidth) 0 0 := by
  refine z_met (cc := cX4_slotOf) (maxL := 3) (ret := (some .int)) (by decide +kernel) rfl (Nat.le_of_ble_eq_true rfl) (fun X hX F E => ?_)
  exact b_X4_slotOf_0 F E q_t q_t_bytes q_t_lengths q_t_widths q_t_ofNumbers t_bytes t_lengths t_columns t_rows t_widths t_ofNumbers t_laidWidth v1 v2 ⟨rfl, rfl⟩ hf
theorem inw_X4_lengthOf_4 : ∀ w ∈ u_ws RX4 TX4 7, w ∈ wsX4_lengthOf := by decide +kernel
theorem fl_X4_lengthOf_15 : zfl wsX4_lengthOf RX4 15 4 1 RX4 TX4 7 := ⟨inw_X4_lengthOf_4, rfl, by decide, by decide +kernel⟩
theorem sw1_X4_lengthOf_X5_pick : Cond.static yX5_pick ∈ wsX4_lengthOf := by decide +kernel
theorem sw2_X4_lengthOf_X5_pick : Cond.initialized yX5_pick.cls ∈ wsX4_lengthOf := by decide +kernel
abbrev rmX4_lengthOf : Room := { frames := 1, cells := 0, slots := 0, locals := 22 }
theorem mX4_lengthOf : zY yX4_lengthOf cX4_lengthOf 3 (some .int) wsX4_lengthOf 2 := ⟨⟨_, rfl⟩, by decide +kernel, by decide +kernel, by decide +kernel⟩
set_option maxRecDepth 20000 in
set_option maxHeartbeats 2000000 in
theorem b_X4_lengthOf_0 {X : zX} {D : va_G} {aI aZ : ClassId} {w0 : va_W} {Qp : Option Value → va_W → Prop} (F : zF X D aI aZ cX4_lengthOf 3 RX4 wsX4_lengthOf rmX4_lengthOf) (E : zT X D w0 Qp 0 0 (some .int)) (q_t q_t_bytes q_t_lengths q_t_widths q_t_ofNumbers : Nat) (t_bytes : (Nat → Int)) (t_lengths : (Nat → Int)) (t_columns : Int) (t_rows : Int) (t_widths : (Nat → Int)) (t_ofNumbers : (Nat → Int)) (t_laidWidth : Int) (v1 : Int) (v2 : Int) {R : Int} (hQ : Qp (some (.int (zI R))) (wX4 aI q_t q_t_bytes q_t_lengths q_t_widths q_t_ofNumbers t_bytes t_lengths t_columns t_rows t_widths t_ofNumbers t_laidWidth)) (hf : f_X4_lengthOf t_lengths t_rows v1 v2 = some R) : zG X D 0 0 (wX4 aI q_t q_t_bytes q_t_lengths q_t_widths q_t_ofNumbers t_bytes t_lengths t_columns t_rows t_widths t_ofNumbers t_laidWidth) 0 [(0, .ref q_t), (1, .int (zI v1)), (2, .int (zI v2))] [] := by
  unfold f_X4_lengthOf at hf
  refine z_aload_n 0 F (dX4_lengthOf_0 0 rfl) rfl ?_
  refine z_get (v := .ref q_t_lengths) 0 F (dX4_lengthOf_0 1 rfl) fl_X4_lengthOf_15 rfl rfl ?_
  refine z_aload_n 0 F (dX4_lengthOf_0 2 rfl) rfl ?_
  refine z_iload_n 1 F (dX4_lengthOf_0 3 rfl) rfl ?_
  refine z_iload_n 2 F (dX4_lengthOf_0 4 rfl) rfl ?_
  obtain ⟨o_1, h_2, hf⟩ := zb_some hf
  refine z_callV (As := [.int (zI v1), .int (zI v2)]) (rest := [.ref q_t_lengths]) (wr := []) F (dX4_lengthOf_0 5 rfl) (k_X4_slotOf (zL X) D aI aZ q_t q_t_bytes q_t_lengths q_t_widths q_t_ofNumbers t_bytes t_lengths t_columns t_rows t_widths t_ofNumbers t_laidWidth v1 v2 h_2) gX4_lengthOf_X4_slotOf mX4_slotOf rfl (ci := 4) rfl [0, 1, 2, 3, 4] [] 0 rfl rfl rfl (by decide) rfl rfl (Nat.le_of_ble_eq_true rfl) ⟨Nat.le_of_ble_eq_true rfl, Nat.le_of_ble_eq_true rfl⟩ ⟨rfl, rfl⟩ ⟨Nat.le_of_ble_eq_true rfl, Nat.le_of_ble_eq_true rfl⟩ (z_plain (ws' := wX4 aI q_t q_t_bytes q_t_lengths q_t_widths q_t_ofNumbers t_bytes t_lengths t_columns t_rows t_widths t_ofNumbers t_laidWidth) (st' := [.int (zI o_1), .ref q_t_lengths]) [0, 1, 2, 3, 4] rfl (by decide) rfl ?_)
  obtain ⟨o_3, h_4, hf⟩ := zb_some hf
  refine z_callN (As := [.ref q_t_lengths, .int (zI o_1)]) (rest := []) (wr := [(q_t, .inr (4, [.ref q_t_bytes, .ref q_t_lengths, .int (zI t_columns), .int (zI t_rows), .ref q_t_widths, .ref q_t_ofNumbers, .int (zI t_laidWidth)]))] ++ ([(q_t_bytes, .inl (aI, 20160, .inl (fun j => zI (t_bytes j))))] ++ ([(q_t_widths, .inl (aI, 8, .inl (fun j => zI (t_widths j))))] ++ [(q_t_ofNumbers, .inl (aI, 8, .inl (fun j => zI (t_ofNumbers j))))]))) F (dX4_lengthOf_0 6 rfl) (k_X5_pick (zL X) D aI aZ q_t_lengths 336 (by decide) t_lengths o_1 h_4) gX4_lengthOf_X5_pick_n35 mX5_pick nst_X4_X5_pick sw1_X4_lengthOf_X5_pick sw2_X4_lengthOf_X5_pick [2] [0, 1, 3, 4] rfl rfl (by decide) rfl rfl (Nat.le_of_ble_eq_true rfl) ⟨Nat.le_of_ble_eq_true rfl, Nat.le_of_ble_eq_true rfl⟩ ⟨rfl, rfl⟩ ⟨Nat.le_of_ble_eq_true rfl, Nat.le_of_ble_eq_true rfl⟩ (z_plain (ws' := wX4 aI q_t q_t_bytes q_t_lengths q_t_widths q_t_ofNumbers t_bytes t_lengths t_columns t_rows t_widths t_ofNumbers t_laidWidth) (st' := [.int (zI o_3)]) [0, 1, 4, 2, 3] rfl (by decide) rfl ?_)
  cases hf
  exact z_iret [0, 1, 2, 3, 4] F E (dX4_lengthOf_0 7 rfl) rfl (by decide) hQ
set_option maxRecDepth 20000 in
set_option maxHeartbeats 2000000 in
theorem k_X4_lengthOf (l : Launch) (D : va_G) (aI aZ : ClassId) (q_t q_t_bytes q_t_lengths q_t_widths q_t_ofNumbers : Nat) (t_bytes : (Nat → Int)) (t_lengths : (Nat → Int)) (t_columns : Int) (t_rows : Int) (t_widths : (Nat → Int)) (t_ofNumbers : (Nat → Int)) (t_laidWidth : Int) (v1 : Int) (v2 : Int) {R : Int} (hf : f_X4_lengthOf t_lengths t_rows v1 v2 = some R) : zC l D aI aZ yX4_lengthOf wsX4_lengthOf rmX4_lengthOf [.ref q_t, .int (zI v1), .int (zI v2)] (wX4 aI q_t q_t_bytes q_t_lengths q_t_widths q_t_ofNumbers t_bytes t_lengths t_columns t_rows t_widths t_ofNumbers t_laidWidth) (fun r w => r = (some (.int (zI R))) ∧ w = wX4 aI q_t q_t_bytes q_t_lengths q_t_widths q_t_ofNumbers t_bytes t_lengths t_columns t_rows t_widths t_ofNumbers t_laidWidth) 0 0 := by
  refine z_met (cc := cX4_lengthOf) (maxL := 3) (ret := (some .int)) (by decide +kernel) rfl (Nat.le_of_ble_eq_true rfl) (fun X hX F E => ?_)
  exact b_X4_lengthOf_0 F E q_t q_t_bytes q_t_lengths q_t_widths q_t_ofNumbers t_bytes t_lengths t_columns t_rows t_widths t_ofNumbers t_laidWidth v1 v2 ⟨rfl, rfl⟩ hf
theorem inw_X4_byteOf_4 : ∀ w ∈ u_ws RX4 TX4 7, w ∈ wsX4_byteOf := by decide +kernel
theorem fl_X4_byteOf_15 : zfl wsX4_byteOf RX4 15 4 1 RX4 TX4 7 := ⟨inw_X4_byteOf_4, rfl, by decide, by decide +kernel⟩
theorem sw1_X4_byteOf_X5_pick : Cond.static yX5_pick ∈ wsX4_byteOf := by decide +kernel
theorem sw2_X4_byteOf_X5_pick : Cond.initialized yX5_pick.cls ∈ wsX4_byteOf := by decide +kernel
theorem fl_X4_byteOf_9 : zfl wsX4_byteOf RX4 9 4 0 RX4 TX4 7 := ⟨inw_X4_byteOf_4, rfl, by decide, by decide +kernel⟩
abbrev rmX4_byteOf : Room := { frames := 1, cells := 0, slots := 0, locals := 22 }
theorem mX4_byteOf : zY yX4_byteOf cX4_byteOf 5 (some .int) wsX4_byteOf 3 := ⟨⟨_, rfl⟩, by decide +kernel, by decide +kernel, by decide +kernel⟩
set_option maxRecDepth 20000 in
set_option maxHeartbeats 2000000 in
theorem b_X4_byteOf_0 {X : zX} {D : va_G} {aI aZ : ClassId} {w0 : va_W} {Qp : Option Value → va_W → Prop} (F : zF X D aI aZ cX4_byteOf 5 RX4 wsX4_byteOf rmX4_byteOf) (E : zT X D w0 Qp 0 0 (some .int)) (q_t q_t_bytes q_t_lengths q_t_widths q_t_ofNumbers : Nat) (t_bytes : (Nat → Int)) (t_lengths : (Nat → Int)) (t_columns : Int) (t_rows : Int) (t_widths : (Nat → Int)) (t_ofNumbers : (Nat → Int)) (t_laidWidth : Int) (v1 : Int) (v2 : Int) (v3 : Int) {R : Int} (hQ : Qp (some (.int (zI R))) (wX4 aI q_t q_t_bytes q_t_lengths q_t_widths q_t_ofNumbers t_bytes t_lengths t_columns t_rows t_widths t_ofNumbers t_laidWidth)) (hf : f_X4_byteOf t_bytes t_lengths t_rows v1 v2 v3 = some R) : zG X D 0 0 (wX4 aI q_t q_t_bytes q_t_lengths q_t_widths q_t_ofNumbers t_bytes t_lengths t_columns t_rows t_widths t_ofNumbers t_laidWidth) 0 [(0, .ref q_t), (1, .int (zI v1)), (2, .int (zI v2)), (3, .int (zI v3))] [] := by
  unfold f_X4_byteOf at hf
  refine z_aload_n 0 F (dX4_byteOf_0 0 rfl) rfl ?_
  refine z_iload_n 1 F (dX4_byteOf_0 1 rfl) rfl ?_
  refine z_iload_n 2 F (dX4_byteOf_0 2 rfl) rfl ?_
  obtain ⟨o_1, h_2, hf⟩ := zb_some hf
  refine z_callV (As := [.int (zI v1), .int (zI v2)]) (rest := []) (wr := []) F (dX4_byteOf_0 3 rfl) (k_X4_slotOf (zL X) D aI aZ q_t q_t_bytes q_t_lengths q_t_widths q_t_ofNumbers t_bytes t_lengths t_columns t_rows t_widths t_ofNumbers t_laidWidth v1 v2 h_2) gX4_byteOf_X4_slotOf mX4_slotOf rfl (ci := 4) rfl [0, 1, 2, 3, 4] [] 0 rfl rfl rfl (by decide) rfl rfl (Nat.le_of_ble_eq_true rfl) ⟨Nat.le_of_ble_eq_true rfl, Nat.le_of_ble_eq_true rfl⟩ ⟨rfl, rfl⟩ ⟨Nat.le_of_ble_eq_true rfl, Nat.le_of_ble_eq_true rfl⟩ (z_plain (ws' := wX4 aI q_t q_t_bytes q_t_lengths q_t_widths q_t_ofNumbers t_bytes t_lengths t_columns t_rows t_widths t_ofNumbers t_laidWidth) (st' := [.int (zI o_1)]) [0, 1, 2, 3, 4] rfl (by decide) rfl ?_)
  refine z_istore (lv' := [(4, .int (zI o_1)), (0, .ref q_t), (1, .int (zI v1)), (2, .int (zI v2)), (3, .int (zI v3))]) F (dX4_byteOf_0 4 rfl) (by decide) rfl ?_
  refine z_iload_n 4 F (dX4_byteOf_0 5 rfl) rfl ?_
  refine z_if_lt (tgt := 25) F (dX4_byteOf_0 6 rfl) rfl (fun c9 => ?_) (fun c9 => ?_)
  · replace hf := zif_t c9 hf
    refine z_iconst F (dX4_byteOf_0 13 rfl) ?_
    cases hf
    exact z_iret [0, 1, 2, 3, 4] F E (dX4_byteOf_0 14 rfl) rfl (by decide) hQ
  · replace hf := zif_f c9 hf
    refine z_iload_n 4 F (dX4_byteOf_0 7 rfl) rfl ?_
    refine z_aload_n 1 F (dX4_byteOf_0 8 rfl) rfl ?_
    refine z_get (v := .ref q_t_lengths) 0 F (dX4_byteOf_0 9 rfl) fl_X4_byteOf_15 rfl rfl ?_
    refine z_iload 0 F (dX4_byteOf_0 10 rfl) rfl ?_
    obtain ⟨o_3, h_4, hf⟩ := zb_some hf
    refine z_callN (As := [.ref q_t_lengths, .int (zI o_1)]) (rest := [.int (zI v3)]) (wr := [(q_t, .inr (4, [.ref q_t_bytes, .ref q_t_lengths, .int (zI t_columns), .int (zI t_rows), .ref q_t_widths, .ref q_t_ofNumbers, .int (zI t_laidWidth)]))] ++ ([(q_t_bytes, .inl (aI, 20160, .inl (fun j => zI (t_bytes j))))] ++ ([(q_t_widths, .inl (aI, 8, .inl (fun j => zI (t_widths j))))] ++ [(q_t_ofNumbers, .inl (aI, 8, .inl (fun j => zI (t_ofNumbers j))))]))) F (dX4_byteOf_0 11 rfl) (k_X5_pick (zL X) D aI aZ q_t_lengths 336 (by decide) t_lengths o_1 h_4) gX4_byteOf_X5_pick_n35 mX5_pick nst_X4_X5_pick sw1_X4_byteOf_X5_pick sw2_X4_byteOf_X5_pick [2] [0, 1, 3, 4] rfl rfl (by decide) rfl rfl (Nat.le_of_ble_eq_true rfl) ⟨Nat.le_of_ble_eq_true rfl, Nat.le_of_ble_eq_true rfl⟩ ⟨rfl, rfl⟩ ⟨Nat.le_of_ble_eq_true rfl, Nat.le_of_ble_eq_true rfl⟩ (z_plain (ws' := wX4 aI q_t q_t_bytes q_t_lengths q_t_widths q_t_ofNumbers t_bytes t_lengths t_columns t_rows t_widths t_ofNumbers t_laidWidth) (st' := [.int (zI o_3), .int (zI v3)]) [0, 1, 4, 2, 3] rfl (by decide) rfl ?_)
    refine z_icmp_lt (tgt := 27) F (dX4_byteOf_0 12 rfl) rfl (fun c22 => ?_) (fun c22 => ?_)
    · replace hf := zif_t c22 hf
      refine z_aload_n 1 F (dX4_byteOf_0 15 rfl) rfl ?_
      refine z_get (v := .ref q_t_bytes) 0 F (dX4_byteOf_0 16 rfl) fl_X4_byteOf_9 rfl rfl ?_
      refine z_iload 0 F (dX4_byteOf_0 17 rfl) rfl ?_
      refine z_bipush F (dX4_byteOf_0 18 rfl) rfl ?_
      refine z_imul F (dX4_byteOf_0 19 rfl) ?_
      refine z_iload_n 4 F (dX4_byteOf_0 20 rfl) rfl ?_
      refine z_iadd F (dX4_byteOf_0 21 rfl) ?_
      obtain ⟨o_5, h_6, hf⟩ := zb_some hf
      refine z_callN (As := [.ref q_t_bytes, .int (zI ((o_1 * 60) + v3))]) (rest := []) (wr := [(q_t, .inr (4, [.ref q_t_bytes, .ref q_t_lengths, .int (zI t_columns), .int (zI t_rows), .ref q_t_widths, .ref q_t_ofNumbers, .int (zI t_laidWidth)]))] ++ ([(q_t_lengths, .inl (aI, 336, .inl (fun j => zI (t_lengths j))))] ++ ([(q_t_widths, .inl (aI, 8, .inl (fun j => zI (t_widths j))))] ++ [(q_t_ofNumbers, .inl (aI, 8, .inl (fun j => zI (t_ofNumbers j))))]))) F (dX4_byteOf_0 22 rfl) (k_X5_pick (zL X) D aI aZ q_t_bytes 20160 (by decide) t_bytes ((o_1 * 60) + v3) h_6) gX4_byteOf_X5_pick_n35 mX5_pick nst_X4_X5_pick sw1_X4_byteOf_X5_pick sw2_X4_byteOf_X5_pick [1] [0, 2, 3, 4] rfl rfl (by decide) rfl rfl (Nat.le_of_ble_eq_true rfl) ⟨Nat.le_of_ble_eq_true rfl, Nat.le_of_ble_eq_true rfl⟩ ⟨rfl, rfl⟩ ⟨Nat.le_of_ble_eq_true rfl, Nat.le_of_ble_eq_true rfl⟩ (z_plain (ws' := wX4 aI q_t q_t_bytes q_t_lengths q_t_widths q_t_ofNumbers t_bytes t_lengths t_columns t_rows t_widths t_ofNumbers t_laidWidth) (st' := [.int (zI o_5)]) [0, 4, 1, 2, 3] rfl (by decide) rfl ?_)
      cases hf
      exact z_iret [0, 1, 2, 3, 4] F E (dX4_byteOf_0 23 rfl) rfl (by decide) hQ
    · replace hf := zif_f c22 hf
      refine z_iconst F (dX4_byteOf_0 13 rfl) ?_
      cases hf
      exact z_iret [0, 1, 2, 3, 4] F E (dX4_byteOf_0 14 rfl) rfl (by decide) hQ
set_option maxRecDepth 20000 in
set_option maxHeartbeats 2000000 in
theorem k_X4_byteOf (l : Launch) (D : va_G) (aI aZ : ClassId) (q_t q_t_bytes q_t_lengths q_t_widths q_t_ofNumbers : Nat) (t_bytes : (Nat → Int)) (t_lengths : (Nat → Int)) (t_columns : Int) (t_rows : Int) (t_widths : (Nat → Int)) (t_ofNumbers : (Nat → Int)) (t_laidWidth : Int) (v1 : Int) (v2 : Int) (v3 : Int) {R : Int} (hf : f_X4_byteOf t_bytes t_lengths t_rows v1 v2 v3 = some R) : zC l D aI aZ yX4_byteOf wsX4_byteOf rmX4_byteOf [.ref q_t, .int (zI v1), .int (zI v2), .int (zI v3)] (wX4 aI q_t q_t_bytes q_t_lengths q_t_widths q_t_ofNumbers t_bytes t_lengths t_columns t_rows t_widths t_ofNumbers t_laidWidth) (fun r w => r = (some (.int (zI R))) ∧ w = wX4 aI q_t q_t_bytes q_t_lengths q_t_widths q_t_ofNumbers t_bytes t_lengths t_columns t_rows t_widths t_ofNumbers t_laidWidth) 0 0 := by
  refine z_met (cc := cX4_byteOf) (maxL := 5) (ret := (some .int)) (by decide +kernel) rfl (Nat.le_of_ble_eq_true rfl) (fun X hX F E => ?_)
  exact b_X4_byteOf_0 F E q_t q_t_bytes q_t_lengths q_t_widths q_t_ofNumbers t_bytes t_lengths t_columns t_rows t_widths t_ofNumbers t_laidWidth v1 v2 v3 ⟨rfl, rfl⟩ hf
theorem inw_X4_hasText_4 : ∀ w ∈ u_ws RX4 TX4 7, w ∈ wsX4_hasText := by decide +kernel
theorem fl_X4_hasText_24 : zfl wsX4_hasText RX4 24 4 2 RX4 TX4 7 := ⟨inw_X4_hasText_4, rfl, by decide, by decide +kernel⟩
abbrev rmX4_hasText : Room := { frames := 2, cells := 0, slots := 0, locals := 44 }
theorem mX4_hasText : zY yX4_hasText cX4_hasText 3 (some .boolean) wsX4_hasText 1 := ⟨⟨_, rfl⟩, by decide +kernel, by decide +kernel, by decide +kernel⟩
set_option maxRecDepth 20000 in
set_option maxHeartbeats 2000000 in
theorem b_X4_hasText_l2 {X : zX} {D : va_G} {aI aZ : ClassId} {w0 : va_W} {Qp : Option Value → va_W → Prop} (F : zF X D aI aZ cX4_hasText 3 RX4 wsX4_hasText rmX4_hasText) (E : zT X D w0 Qp 0 0 (some .boolean)) (q_t q_t_bytes q_t_lengths q_t_widths q_t_ofNumbers : Nat) (v1 : Int) (t_bytes : (Nat → Int)) (t_lengths : (Nat → Int)) (t_columns : Int) (t_rows : Int) (t_widths : (Nat → Int)) (t_ofNumbers : (Nat → Int)) (t_laidWidth : Int) {R : Int} (hQ : Qp (some (.int (zI R))) (wX4 aI q_t q_t_bytes q_t_lengths q_t_widths q_t_ofNumbers t_bytes t_lengths t_columns t_rows t_widths t_ofNumbers t_laidWidth)) (K : Option (Int)) (hK : K  = some R → zG X D 0 0 (wX4 aI q_t q_t_bytes q_t_lengths q_t_widths q_t_ofNumbers t_bytes t_lengths t_columns t_rows t_widths t_ofNumbers t_laidWidth) 27 [] []) : ∀ (n : Nat) (v2 : Int), f_X4_hasText_l2 K v1 t_lengths t_columns t_rows n v2 = some R → zG X D 0 0 (wX4 aI q_t q_t_bytes q_t_lengths q_t_widths q_t_ofNumbers t_bytes t_lengths t_columns t_rows t_widths t_ofNumbers t_laidWidth) 2 [(0, .ref q_t), (1, .int (zI v1)), (2, .int (zI v2))] [] := by
  intro n
  induction n with
  | zero => intro v2 hf; rw [f_X4_hasText_l2_z] at hf; cases hf
  | succ n ih =>
    intro v2 hf
    rw [f_X4_hasText_l2_s] at hf
    refine z_iload_n 2 F (dX4_hasText_0 2 rfl) rfl ?_
    refine z_aload_n 0 F (dX4_hasText_0 3 rfl) rfl ?_
    refine z_get (v := .int (zI t_columns)) 0 F (dX4_hasText_0 4 rfl) fl_X4_hasText_24 rfl rfl ?_
    refine z_icmp_ge (tgt := 27) F (dX4_hasText_0 5 rfl) rfl (fun c7 => ?_) (fun c7 => ?_)
    · replace hf := zif_f c7 hf
      refine z_lv [] rfl ?_
      exact hK  hf
    · replace hf := zif_t c7 hf
      refine z_aload_n 0 F (dX4_hasText_0 6 rfl) rfl ?_
      refine z_iload_n 1 F (dX4_hasText_0 7 rfl) rfl ?_
      refine z_iload_n 2 F (dX4_hasText_0 8 rfl) rfl ?_
      obtain ⟨o_1, h_2, hf⟩ := zb_some hf
      refine z_callV (As := [.int (zI v1), .int (zI v2)]) (rest := []) (wr := []) F (dX4_hasText_0 9 rfl) (k_X4_lengthOf (zL X) D aI aZ q_t q_t_bytes q_t_lengths q_t_widths q_t_ofNumbers t_bytes t_lengths t_columns t_rows t_widths t_ofNumbers t_laidWidth v1 v2 h_2) gX4_hasText_X4_lengthOf mX4_lengthOf rfl (ci := 4) rfl [0, 1, 2, 3, 4] [] 0 rfl rfl rfl (by decide) rfl rfl (Nat.le_of_ble_eq_true rfl) ⟨Nat.le_of_ble_eq_true rfl, Nat.le_of_ble_eq_true rfl⟩ ⟨rfl, rfl⟩ ⟨Nat.le_of_ble_eq_true rfl, Nat.le_of_ble_eq_true rfl⟩ (z_plain (ws' := wX4 aI q_t q_t_bytes q_t_lengths q_t_widths q_t_ofNumbers t_bytes t_lengths t_columns t_rows t_widths t_ofNumbers t_laidWidth) (st' := [.int (zI o_1)]) [0, 1, 2, 3, 4] rfl (by decide) rfl ?_)
      refine z_if_le (tgt := 21) F (dX4_hasText_0 10 rfl) rfl (fun c16 => ?_) (fun c16 => ?_)
      · replace hf := zif_f c16 hf
        refine z_iinc (lv' := [(2, .int (zI (v2 + 1))), (0, .ref q_t), (1, .int (zI v1))]) 2 F (dX4_hasText_0 13 rfl) rfl (by decide) rfl ?_
        refine z_goto (tgt := 2) F (dX4_hasText_0 14 rfl) rfl ?_
        refine z_lv [1, 2, 0] rfl ?_
        exact ih (v2 + 1) hf
      · replace hf := zif_t c16 hf
        refine z_iconst F (dX4_hasText_0 11 rfl) ?_
        cases hf
        exact z_zret [0, 1, 2, 3, 4] F E (dX4_hasText_0 12 rfl) (Or.inr rfl) rfl (by decide) hQ
set_option maxRecDepth 20000 in
set_option maxHeartbeats 2000000 in
theorem b_X4_hasText_0 {X : zX} {D : va_G} {aI aZ : ClassId} {w0 : va_W} {Qp : Option Value → va_W → Prop} (F : zF X D aI aZ cX4_hasText 3 RX4 wsX4_hasText rmX4_hasText) (E : zT X D w0 Qp 0 0 (some .boolean)) (q_t q_t_bytes q_t_lengths q_t_widths q_t_ofNumbers : Nat) (t_bytes : (Nat → Int)) (t_lengths : (Nat → Int)) (t_columns : Int) (t_rows : Int) (t_widths : (Nat → Int)) (t_ofNumbers : (Nat → Int)) (t_laidWidth : Int) (v1 : Int) {R : Int} (hQ : Qp (some (.int (zI R))) (wX4 aI q_t q_t_bytes q_t_lengths q_t_widths q_t_ofNumbers t_bytes t_lengths t_columns t_rows t_widths t_ofNumbers t_laidWidth)) (hf : f_X4_hasText t_lengths t_columns t_rows v1 = some R) : zG X D 0 0 (wX4 aI q_t q_t_bytes q_t_lengths q_t_widths q_t_ofNumbers t_bytes t_lengths t_columns t_rows t_widths t_ofNumbers t_laidWidth) 0 [(0, .ref q_t), (1, .int (zI v1))] [] := by
  unfold f_X4_hasText at hf
  refine z_iconst F (dX4_hasText_0 0 rfl) ?_
  refine z_istore_n (lv' := [(2, .int (zI 0)), (0, .ref q_t), (1, .int (zI v1))]) F (dX4_hasText_0 1 rfl) (by decide) rfl ?_
  refine z_lv [1, 2, 0] rfl ?_
  refine b_X4_hasText_l2 F E q_t q_t_bytes q_t_lengths q_t_widths q_t_ofNumbers v1 t_bytes t_lengths t_columns t_rows t_widths t_ofNumbers t_laidWidth hQ _ ?_ zN 0 hf
  intro hf
  refine z_iconst F (dX4_hasText_0 15 rfl) ?_
  cases hf
  exact z_zret [0, 1, 2, 3, 4] F E (dX4_hasText_0 16 rfl) (Or.inl rfl) rfl (by decide) hQ
set_option maxRecDepth 20000 in
set_option maxHeartbeats 2000000 in
theorem k_X4_hasText (l : Launch) (D : va_G) (aI aZ : ClassId) (q_t q_t_bytes q_t_lengths q_t_widths q_t_ofNumbers : Nat) (t_bytes : (Nat → Int)) (t_lengths : (Nat → Int)) (t_columns : Int) (t_rows : Int) (t_widths : (Nat → Int)) (t_ofNumbers : (Nat → Int)) (t_laidWidth : Int) (v1 : Int) {R : Int} (hf : f_X4_hasText t_lengths t_columns t_rows v1 = some R) : zC l D aI aZ yX4_hasText wsX4_hasText rmX4_hasText [.ref q_t, .int (zI v1)] (wX4 aI q_t q_t_bytes q_t_lengths q_t_widths q_t_ofNumbers t_bytes t_lengths t_columns t_rows t_widths t_ofNumbers t_laidWidth) (fun r w => r = (some (.int (zI R))) ∧ w = wX4 aI q_t q_t_bytes q_t_lengths q_t_widths q_t_ofNumbers t_bytes t_lengths t_columns t_rows t_widths t_ofNumbers t_laidWidth) 0 0 := by
  refine z_met (cc := cX4_hasText) (maxL := 3) (ret := (some .boolean)) (by decide +kernel) rfl (Nat.le_of_ble_eq_true rfl) (fun X hX F E => ?_)
  exact b_X4_hasText_0 F E q_t q_t_bytes q_t_lengths q_t_widths q_t_ofNumbers t_bytes t_lengths t_columns t_rows t_widths t_ofNumbers t_laidWidth v1 ⟨rfl, rfl⟩ hf
abbrev rmX4_hasHead : Room := { frames := 3, cells := 0, slots := 0, locals := 66 }
theorem mX4_hasHead : zY yX4_hasHead cX4_hasHead 1 (some .boolean) wsX4_hasHead 0 := ⟨⟨_, rfl⟩, by decide +kernel, by decide +kernel, by decide +kernel⟩
set_option maxRecDepth 20000 in
set_option maxHeartbeats 2000000 in
theorem b_X4_hasHead_0 {X : zX} {D : va_G} {aI aZ : ClassId} {w0 : va_W} {Qp : Option Value → va_W → Prop} (F : zF X D aI aZ cX4_hasHead 1 RX4 wsX4_hasHead rmX4_hasHead) (E : zT X D w0 Qp 0 0 (some .boolean)) (q_t q_t_bytes q_t_lengths q_t_widths q_t_ofNumbers : Nat) (t_bytes : (Nat → Int)) (t_lengths : (Nat → Int)) (t_columns : Int) (t_rows : Int) (t_widths : (Nat → Int)) (t_ofNumbers : (Nat → Int)) (t_laidWidth : Int) {R : Int} (hQ : Qp (some (.int (zI R))) (wX4 aI q_t q_t_bytes q_t_lengths q_t_widths q_t_ofNumbers t_bytes t_lengths t_columns t_rows t_widths t_ofNumbers t_laidWidth)) (hf : f_X4_hasHead t_lengths t_columns t_rows = some R) : zG X D 0 0 (wX4 aI q_t q_t_bytes q_t_lengths q_t_widths q_t_ofNumbers t_bytes t_lengths t_columns t_rows t_widths t_ofNumbers t_laidWidth) 0 [(0, .ref q_t)] [] := by
  unfold f_X4_hasHead at hf
  refine z_aload_n 0 F (dX4_hasHead_0 0 rfl) rfl ?_
  refine z_iconst F (dX4_hasHead_0 1 rfl) ?_
  obtain ⟨o_1, h_2, hf⟩ := zb_some hf
  refine z_callV (As := [.int (zI 0)]) (rest := []) (wr := []) F (dX4_hasHead_0 2 rfl) (k_X4_hasText (zL X) D aI aZ q_t q_t_bytes q_t_lengths q_t_widths q_t_ofNumbers t_bytes t_lengths t_columns t_rows t_widths t_ofNumbers t_laidWidth 0 h_2) gX4_hasHead_X4_hasText mX4_hasText rfl (ci := 4) rfl [0, 1, 2, 3, 4] [] 0 rfl rfl rfl (by decide) rfl rfl (Nat.le_of_ble_eq_true rfl) ⟨Nat.le_of_ble_eq_true rfl, Nat.le_of_ble_eq_true rfl⟩ ⟨rfl, rfl⟩ ⟨Nat.le_of_ble_eq_true rfl, Nat.le_of_ble_eq_true rfl⟩ (z_plain (ws' := wX4 aI q_t q_t_bytes q_t_lengths q_t_widths q_t_ofNumbers t_bytes t_lengths t_columns t_rows t_widths t_ofNumbers t_laidWidth) (st' := [.int (zI o_1)]) [0, 1, 2, 3, 4] rfl (by decide) rfl ?_)
  obtain ⟨hb_3, hf⟩ := zch_some hf
  cases hf
  exact z_zret [0, 1, 2, 3, 4] F E (dX4_hasHead_0 3 rfl) hb_3 rfl (by decide) hQ
set_option maxRecDepth 20000 in
set_option maxHeartbeats 2000000 in
theorem k_X4_hasHead (l : Launch) (D : va_G) (aI aZ : ClassId) (q_t q_t_bytes q_t_lengths q_t_widths q_t_ofNumbers : Nat) (t_bytes : (Nat → Int)) (t_lengths : (Nat → Int)) (t_columns : Int) (t_rows : Int) (t_widths : (Nat → Int)) (t_ofNumbers : (Nat → Int)) (t_laidWidth : Int) {R : Int} (hf : f_X4_hasHead t_lengths t_columns t_rows = some R) : zC l D aI aZ yX4_hasHead wsX4_hasHead rmX4_hasHead [.ref q_t] (wX4 aI q_t q_t_bytes q_t_lengths q_t_widths q_t_ofNumbers t_bytes t_lengths t_columns t_rows t_widths t_ofNumbers t_laidWidth) (fun r w => r = (some (.int (zI R))) ∧ w = wX4 aI q_t q_t_bytes q_t_lengths q_t_widths q_t_ofNumbers t_bytes t_lengths t_columns t_rows t_widths t_ofNumbers t_laidWidth) 0 0 := by
  refine z_met (cc := cX4_hasHead) (maxL := 1) (ret := (some .boolean)) (by decide +kernel) rfl (Nat.le_of_ble_eq_true rfl) (fun X hX F E => ?_)
  exact b_X4_hasHead_0 F E q_t q_t_bytes q_t_lengths q_t_widths q_t_ofNumbers t_bytes t_lengths t_columns t_rows t_widths t_ofNumbers t_laidWidth ⟨rfl, rfl⟩ hf
theorem inw_X4_hasFoot_4 : ∀ w ∈ u_ws RX4 TX4 7, w ∈ wsX4_hasFoot := by decide +kernel
theorem fl_X4_hasFoot_28 : zfl wsX4_hasFoot RX4 28 4 3 RX4 TX4 7 := ⟨inw_X4_hasFoot_4, rfl, by decide, by decide +kernel⟩
abbrev rmX4_hasFoot : Room := { frames := 3, cells := 0, slots := 0, locals := 66 }
theorem mX4_hasFoot : zY yX4_hasFoot cX4_hasFoot 1 (some .boolean) wsX4_hasFoot 0 := ⟨⟨_, rfl⟩, by decide +kernel, by decide +kernel, by decide +kernel⟩
set_option maxRecDepth 20000 in
set_option maxHeartbeats 2000000 in
theorem b_X4_hasFoot_0 {X : zX} {D : va_G} {aI aZ : ClassId} {w0 : va_W} {Qp : Option Value → va_W → Prop} (F : zF X D aI aZ cX4_hasFoot 1 RX4 wsX4_hasFoot rmX4_hasFoot) (E : zT X D w0 Qp 0 0 (some .boolean)) (q_t q_t_bytes q_t_lengths q_t_widths q_t_ofNumbers : Nat) (t_bytes : (Nat → Int)) (t_lengths : (Nat → Int)) (t_columns : Int) (t_rows : Int) (t_widths : (Nat → Int)) (t_ofNumbers : (Nat → Int)) (t_laidWidth : Int) {R : Int} (hQ : Qp (some (.int (zI R))) (wX4 aI q_t q_t_bytes q_t_lengths q_t_widths q_t_ofNumbers t_bytes t_lengths t_columns t_rows t_widths t_ofNumbers t_laidWidth)) (hf : f_X4_hasFoot t_lengths t_columns t_rows = some R) : zG X D 0 0 (wX4 aI q_t q_t_bytes q_t_lengths q_t_widths q_t_ofNumbers t_bytes t_lengths t_columns t_rows t_widths t_ofNumbers t_laidWidth) 0 [(0, .ref q_t)] [] := by
  unfold f_X4_hasFoot at hf
  refine z_aload_n 0 F (dX4_hasFoot_0 0 rfl) rfl ?_
  refine z_aload_n 0 F (dX4_hasFoot_0 1 rfl) rfl ?_
  refine z_get (v := .int (zI t_rows)) 0 F (dX4_hasFoot_0 2 rfl) fl_X4_hasFoot_28 rfl rfl ?_
  refine z_iconst F (dX4_hasFoot_0 3 rfl) ?_
  refine z_iadd F (dX4_hasFoot_0 4 rfl) ?_
  obtain ⟨o_1, h_2, hf⟩ := zb_some hf
  refine z_callV (As := [.int (zI (t_rows + 1))]) (rest := []) (wr := []) F (dX4_hasFoot_0 5 rfl) (k_X4_hasText (zL X) D aI aZ q_t q_t_bytes q_t_lengths q_t_widths q_t_ofNumbers t_bytes t_lengths t_columns t_rows t_widths t_ofNumbers t_laidWidth (t_rows + 1) h_2) gX4_hasFoot_X4_hasText mX4_hasText rfl (ci := 4) rfl [0, 1, 2, 3, 4] [] 0 rfl rfl rfl (by decide) rfl rfl (Nat.le_of_ble_eq_true rfl) ⟨Nat.le_of_ble_eq_true rfl, Nat.le_of_ble_eq_true rfl⟩ ⟨rfl, rfl⟩ ⟨Nat.le_of_ble_eq_true rfl, Nat.le_of_ble_eq_true rfl⟩ (z_plain (ws' := wX4 aI q_t q_t_bytes q_t_lengths q_t_widths q_t_ofNumbers t_bytes t_lengths t_columns t_rows t_widths t_ofNumbers t_laidWidth) (st' := [.int (zI o_1)]) [0, 1, 2, 3, 4] rfl (by decide) rfl ?_)
  obtain ⟨hb_3, hf⟩ := zch_some hf
  cases hf
  exact z_zret [0, 1, 2, 3, 4] F E (dX4_hasFoot_0 6 rfl) hb_3 rfl (by decide) hQ
set_option maxRecDepth 20000 in
set_option maxHeartbeats 2000000 in
theorem k_X4_hasFoot (l : Launch) (D : va_G) (aI aZ : ClassId) (q_t q_t_bytes q_t_lengths q_t_widths q_t_ofNumbers : Nat) (t_bytes : (Nat → Int)) (t_lengths : (Nat → Int)) (t_columns : Int) (t_rows : Int) (t_widths : (Nat → Int)) (t_ofNumbers : (Nat → Int)) (t_laidWidth : Int) {R : Int} (hf : f_X4_hasFoot t_lengths t_columns t_rows = some R) : zC l D aI aZ yX4_hasFoot wsX4_hasFoot rmX4_hasFoot [.ref q_t] (wX4 aI q_t q_t_bytes q_t_lengths q_t_widths q_t_ofNumbers t_bytes t_lengths t_columns t_rows t_widths t_ofNumbers t_laidWidth) (fun r w => r = (some (.int (zI R))) ∧ w = wX4 aI q_t q_t_bytes q_t_lengths q_t_widths q_t_ofNumbers t_bytes t_lengths t_columns t_rows t_widths t_ofNumbers t_laidWidth) 0 0 := by
  refine z_met (cc := cX4_hasFoot) (maxL := 1) (ret := (some .boolean)) (by decide +kernel) rfl (Nat.le_of_ble_eq_true rfl) (fun X hX F E => ?_)
  exact b_X4_hasFoot_0 F E q_t q_t_bytes q_t_lengths q_t_widths q_t_ofNumbers t_bytes t_lengths t_columns t_rows t_widths t_ofNumbers t_laidWidth ⟨rfl, rfl⟩ hf
abbrev rmX4_firstInk : Room := { frames := 2, cells := 0, slots := 0, locals := 43 }
theorem mX4_firstInk : zY yX4_firstInk cX4_firstInk 5 (some .int) wsX4_firstInk 4 := ⟨⟨_, rfl⟩, by decide +kernel, by decide +kernel, by decide +kernel⟩
set_option maxRecDepth 20000 in
set_option maxHeartbeats 2000000 in
theorem b_X4_firstInk_l3 {X : zX} {D : va_G} {aI aZ : ClassId} {w0 : va_W} {Qp : Option Value → va_W → Prop} (F : zF X D aI aZ cX4_firstInk 5 RX4 wsX4_firstInk rmX4_firstInk) (E : zT X D w0 Qp 0 0 (some .int)) (q_p0 q_p0_bytes q_p0_numbersOfLines q_p0_crossings q_p0_nextInks q_p0_gaps : Nat) (v1 : Int) (v3 : Int) (p0_bytes : (Nat → Int)) (p0_numbersOfLines : (Nat → Int)) (p0_plainCount : Int) (p0_rules : Int) (p0_firstRule : Int) (p0_lastRule : Int) (p0_headed : Int) (p0_footed : Int) (p0_width : Int) (p0_crossings : (Nat → Int)) (p0_nextInks : (Nat → Int)) (p0_gaps : (Nat → Int)) {R : Int} (hQ : Qp (some (.int (zI R))) (wX0 aI q_p0 q_p0_bytes q_p0_numbersOfLines q_p0_crossings q_p0_nextInks q_p0_gaps p0_bytes p0_numbersOfLines p0_plainCount p0_rules p0_firstRule p0_lastRule p0_headed p0_footed p0_width p0_crossings p0_nextInks p0_gaps)) (K : Int → Option (Int)) (hK : ∀ (v4 : Int), K v4 = some R → zG X D 0 0 (wX0 aI q_p0 q_p0_bytes q_p0_numbersOfLines q_p0_crossings q_p0_nextInks q_p0_gaps p0_bytes p0_numbersOfLines p0_plainCount p0_rules p0_firstRule p0_lastRule p0_headed p0_footed p0_width p0_crossings p0_nextInks p0_gaps) 25 [(4, .int (zI v4))] []) : ∀ (n : Nat) (v4 : Int), f_X4_firstInk_l3 K v1 v3 p0_bytes n v4 = some R → zG X D 0 0 (wX0 aI q_p0 q_p0_bytes q_p0_numbersOfLines q_p0_crossings q_p0_nextInks q_p0_gaps p0_bytes p0_numbersOfLines p0_plainCount p0_rules p0_firstRule p0_lastRule p0_headed p0_footed p0_width p0_crossings p0_nextInks p0_gaps) 3 [(0, .ref q_p0), (1, .int (zI v1)), (3, .int (zI v3)), (4, .int (zI v4))] [] := by
  intro n
  induction n with
  | zero => intro v4 hf; rw [f_X4_firstInk_l3_z] at hf; cases hf
  | succ n ih =>
    intro v4 hf
    rw [f_X4_firstInk_l3_s] at hf
    refine z_iload 3 F (dX4_firstInk_0 2 rfl) rfl ?_
    refine z_iload_n 2 F (dX4_firstInk_0 3 rfl) rfl ?_
    refine z_icmp_ge (tgt := 25) F (dX4_firstInk_0 4 rfl) rfl (fun c6 => ?_) (fun c6 => ?_)
    · replace hf := zif_f c6 hf
      refine z_lv [3] rfl ?_
      exact hK v4 hf
    · replace hf := zif_t c6 hf
      refine z_aload_n 0 F (dX4_firstInk_0 5 rfl) rfl ?_
      refine z_iload_n 1 F (dX4_firstInk_0 6 rfl) rfl ?_
      refine z_iload 3 F (dX4_firstInk_0 7 rfl) rfl ?_
      obtain ⟨o_1, h_2, hf⟩ := zb_some hf
      refine z_callV (As := [.int (zI v1), .int (zI v4)]) (rest := []) (wr := []) F (dX4_firstInk_0 8 rfl) (k_X0_hasInk (zL X) D aI aZ q_p0 q_p0_bytes q_p0_numbersOfLines q_p0_crossings q_p0_nextInks q_p0_gaps p0_bytes p0_numbersOfLines p0_plainCount p0_rules p0_firstRule p0_lastRule p0_headed p0_footed p0_width p0_crossings p0_nextInks p0_gaps v1 v4 h_2) gX4_firstInk_X0_hasInk mX0_hasInk rfl (ci := 0) rfl [0, 1, 2, 3, 4, 5] [] 0 rfl rfl rfl (by decide) rfl rfl (Nat.le_of_ble_eq_true rfl) ⟨Nat.le_of_ble_eq_true rfl, Nat.le_of_ble_eq_true rfl⟩ ⟨rfl, rfl⟩ ⟨Nat.le_of_ble_eq_true rfl, Nat.le_of_ble_eq_true rfl⟩ (z_plain (ws' := wX0 aI q_p0 q_p0_bytes q_p0_numbersOfLines q_p0_crossings q_p0_nextInks q_p0_gaps p0_bytes p0_numbersOfLines p0_plainCount p0_rules p0_firstRule p0_lastRule p0_headed p0_footed p0_width p0_crossings p0_nextInks p0_gaps) (st' := [.int (zI o_1)]) [0, 1, 2, 3, 4, 5] rfl (by decide) rfl ?_)
      refine z_if_ne (tgt := 25) F (dX4_firstInk_0 9 rfl) rfl (fun c16 => ?_) (fun c16 => ?_)
      · replace hf := zif_f c16 hf
        refine z_lv [3] rfl ?_
        exact hK v4 hf
      · replace hf := zif_t c16 hf
        refine z_iinc (lv' := [(4, .int (zI (v4 + 1))), (0, .ref q_p0), (1, .int (zI v1)), (3, .int (zI v3))]) 3 F (dX4_firstInk_0 10 rfl) rfl (by decide) rfl ?_
        refine z_goto (tgt := 3) F (dX4_firstInk_0 11 rfl) rfl ?_
        refine z_lv [1, 2, 3, 0] rfl ?_
        exact ih (v4 + 1) hf
set_option maxRecDepth 20000 in
set_option maxHeartbeats 2000000 in
theorem b_X4_firstInk_0 {X : zX} {D : va_G} {aI aZ : ClassId} {w0 : va_W} {Qp : Option Value → va_W → Prop} (F : zF X D aI aZ cX4_firstInk 5 RX4 wsX4_firstInk rmX4_firstInk) (E : zT X D w0 Qp 0 0 (some .int)) (q_p0 q_p0_bytes q_p0_numbersOfLines q_p0_crossings q_p0_nextInks q_p0_gaps : Nat) (p0_bytes : (Nat → Int)) (p0_numbersOfLines : (Nat → Int)) (p0_plainCount : Int) (p0_rules : Int) (p0_firstRule : Int) (p0_lastRule : Int) (p0_headed : Int) (p0_footed : Int) (p0_width : Int) (p0_crossings : (Nat → Int)) (p0_nextInks : (Nat → Int)) (p0_gaps : (Nat → Int)) (v1 : Int) (v2 : Int) (v3 : Int) {R : Int} (hQ : Qp (some (.int (zI R))) (wX0 aI q_p0 q_p0_bytes q_p0_numbersOfLines q_p0_crossings q_p0_nextInks q_p0_gaps p0_bytes p0_numbersOfLines p0_plainCount p0_rules p0_firstRule p0_lastRule p0_headed p0_footed p0_width p0_crossings p0_nextInks p0_gaps)) (hf : f_X4_firstInk p0_bytes v1 v2 v3 = some R) : zG X D 0 0 (wX0 aI q_p0 q_p0_bytes q_p0_numbersOfLines q_p0_crossings q_p0_nextInks q_p0_gaps p0_bytes p0_numbersOfLines p0_plainCount p0_rules p0_firstRule p0_lastRule p0_headed p0_footed p0_width p0_crossings p0_nextInks p0_gaps) 0 [(0, .ref q_p0), (1, .int (zI v1)), (2, .int (zI v2)), (3, .int (zI v3))] [] := by
  unfold f_X4_firstInk at hf
  refine z_iload_n 2 F (dX4_firstInk_0 0 rfl) rfl ?_
  refine z_istore (lv' := [(4, .int (zI v2)), (0, .ref q_p0), (1, .int (zI v1)), (2, .int (zI v2)), (3, .int (zI v3))]) F (dX4_firstInk_0 1 rfl) (by decide) rfl ?_
  refine z_lv [1, 2, 4, 0] rfl ?_
  refine b_X4_firstInk_l3 F E q_p0 q_p0_bytes q_p0_numbersOfLines q_p0_crossings q_p0_nextInks q_p0_gaps v1 v3 p0_bytes p0_numbersOfLines p0_plainCount p0_rules p0_firstRule p0_lastRule p0_headed p0_footed p0_width p0_crossings p0_nextInks p0_gaps hQ _ ?_ zN v2 hf
  intro v4_3 hf
  refine z_iload 0 F (dX4_firstInk_0 12 rfl) rfl ?_
  cases hf
  exact z_iret [0, 1, 2, 3, 4, 5] F E (dX4_firstInk_0 13 rfl) rfl (by decide) hQ
set_option maxRecDepth 20000 in
set_option maxHeartbeats 2000000 in
theorem k_X4_firstInk (l : Launch) (D : va_G) (aI aZ : ClassId) (q_p0 q_p0_bytes q_p0_numbersOfLines q_p0_crossings q_p0_nextInks q_p0_gaps : Nat) (p0_bytes : (Nat → Int)) (p0_numbersOfLines : (Nat → Int)) (p0_plainCount : Int) (p0_rules : Int) (p0_firstRule : Int) (p0_lastRule : Int) (p0_headed : Int) (p0_footed : Int) (p0_width : Int) (p0_crossings : (Nat → Int)) (p0_nextInks : (Nat → Int)) (p0_gaps : (Nat → Int)) (v1 : Int) (v2 : Int) (v3 : Int) {R : Int} (hf : f_X4_firstInk p0_bytes v1 v2 v3 = some R) : zC l D aI aZ yX4_firstInk wsX4_firstInk rmX4_firstInk [.ref q_p0, .int (zI v1), .int (zI v2), .int (zI v3)] (wX0 aI q_p0 q_p0_bytes q_p0_numbersOfLines q_p0_crossings q_p0_nextInks q_p0_gaps p0_bytes p0_numbersOfLines p0_plainCount p0_rules p0_firstRule p0_lastRule p0_headed p0_footed p0_width p0_crossings p0_nextInks p0_gaps) (fun r w => r = (some (.int (zI R))) ∧ w = wX0 aI q_p0 q_p0_bytes q_p0_numbersOfLines q_p0_crossings q_p0_nextInks q_p0_gaps p0_bytes p0_numbersOfLines p0_plainCount p0_rules p0_firstRule p0_lastRule p0_headed p0_footed p0_width p0_crossings p0_nextInks p0_gaps) 0 0 := by
  refine z_met (cc := cX4_firstInk) (maxL := 5) (ret := (some .int)) (by decide +kernel) rfl (Nat.le_of_ble_eq_true rfl) (fun X hX F E => ?_)
  exact b_X4_firstInk_0 F E q_p0 q_p0_bytes q_p0_numbersOfLines q_p0_crossings q_p0_nextInks q_p0_gaps p0_bytes p0_numbersOfLines p0_plainCount p0_rules p0_firstRule p0_lastRule p0_headed p0_footed p0_width p0_crossings p0_nextInks p0_gaps v1 v2 v3 ⟨rfl, rfl⟩ hf
theorem inw_X4_rowOfLine_1 : ∀ w ∈ u_ws RX1 TX1 7, w ∈ wsX4_rowOfLine := by decide +kernel
theorem fl_X4_rowOfLine_62 : zfn wsX4_rowOfLine RX4 62 1 0 RX1 TX1 7 := ⟨inw_X4_rowOfLine_1, rfl, by decide, by decide +kernel⟩
theorem sw1_X4_rowOfLine_X5_pick : Cond.static yX5_pick ∈ wsX4_rowOfLine := by decide +kernel
theorem sw2_X4_rowOfLine_X5_pick : Cond.initialized yX5_pick.cls ∈ wsX4_rowOfLine := by decide +kernel
theorem inw_X4_rowOfLine_4 : ∀ w ∈ u_ws RX4 TX4 7, w ∈ wsX4_rowOfLine := by decide +kernel
theorem fl_X4_rowOfLine_28 : zfl wsX4_rowOfLine RX4 28 4 3 RX4 TX4 7 := ⟨inw_X4_rowOfLine_4, rfl, by decide, by decide +kernel⟩
theorem fl_X4_rowOfLine_79 : zfn wsX4_rowOfLine RX4 79 1 6 RX1 TX1 7 := ⟨inw_X4_rowOfLine_1, rfl, by decide, by decide +kernel⟩
abbrev rmX4_rowOfLine : Room := { frames := 3, cells := 0, slots := 0, locals := 67 }
theorem mX4_rowOfLine : zY yX4_rowOfLine cX4_rowOfLine 5 (some .int) wsX4_rowOfLine 3 := ⟨⟨_, rfl⟩, by decide +kernel, by decide +kernel, by decide +kernel⟩
set_option maxRecDepth 20000 in
set_option maxHeartbeats 2000000 in
theorem b_X4_rowOfLine_j51 {X : zX} {D : va_G} {aI aZ : ClassId} {w0 : va_W} {Qp : Option Value → va_W → Prop} (F : zF X D aI aZ cX4_rowOfLine 5 RX4 wsX4_rowOfLine rmX4_rowOfLine) (E : zT X D w0 Qp 0 0 (some .int)) (q_t q_t_bytes q_t_lengths q_t_widths q_t_ofNumbers q_p1 q_p1_bytes q_p1_numbersOfLines q_p1_crossings q_p1_nextInks q_p1_gaps q_p2 q_p2_cuts : Nat) (t_bytes : (Nat → Int)) (t_lengths : (Nat → Int)) (t_columns : Int) (t_rows : Int) (t_widths : (Nat → Int)) (t_ofNumbers : (Nat → Int)) (t_laidWidth : Int) (p1_bytes : (Nat → Int)) (p1_numbersOfLines : (Nat → Int)) (p1_plainCount : Int) (p1_rules : Int) (p1_firstRule : Int) (p1_lastRule : Int) (p1_headed : Int) (p1_footed : Int) (p1_width : Int) (p1_crossings : (Nat → Int)) (p1_nextInks : (Nat → Int)) (p1_gaps : (Nat → Int)) (p2_cuts : (Nat → Int)) (p2_columns : Int) (p2_best : Int) (p2_next : Int) (p2_plainLines : Int) (p2_rules : Int) (p2_joinedLines : Int) {R : Int × Int × Int} (hQ : Qp (some (.int (zI R.1))) (wX4 aI q_t q_t_bytes q_t_lengths q_t_widths q_t_ofNumbers t_bytes t_lengths t_columns R.2.1 t_widths t_ofNumbers t_laidWidth ++ (wX0 aI q_p1 q_p1_bytes q_p1_numbersOfLines q_p1_crossings q_p1_nextInks q_p1_gaps p1_bytes p1_numbersOfLines p1_plainCount p1_rules p1_firstRule p1_lastRule p1_headed p1_footed p1_width p1_crossings p1_nextInks p1_gaps ++ wX1 aI q_p2 q_p2_cuts p2_cuts p2_columns p2_best p2_next p2_plainLines p2_rules R.2.2))) (hf : f_X4_rowOfLine_j51 t_rows p2_joinedLines = some R) : zG X D 0 0 (wX4 aI q_t q_t_bytes q_t_lengths q_t_widths q_t_ofNumbers t_bytes t_lengths t_columns t_rows t_widths t_ofNumbers t_laidWidth ++ (wX0 aI q_p1 q_p1_bytes q_p1_numbersOfLines q_p1_crossings q_p1_nextInks q_p1_gaps p1_bytes p1_numbersOfLines p1_plainCount p1_rules p1_firstRule p1_lastRule p1_headed p1_footed p1_width p1_crossings p1_nextInks p1_gaps ++ wX1 aI q_p2 q_p2_cuts p2_cuts p2_columns p2_best p2_next p2_plainLines p2_rules p2_joinedLines)) 51 [(0, .ref q_t)] [] := by
  unfold f_X4_rowOfLine_j51 at hf
  refine z_aload_n 0 F (dX4_rowOfLine_0 27 rfl) rfl ?_
  refine z_dup F (dX4_rowOfLine_0 28 rfl) rfl ?_
  refine z_get (v := .int (zI t_rows)) 0 F (dX4_rowOfLine_0 29 rfl) fl_X4_rowOfLine_28 rfl rfl ?_
  refine z_iconst F (dX4_rowOfLine_0 30 rfl) ?_
  refine z_iadd F (dX4_rowOfLine_0 31 rfl) ?_
  refine z_put (ws' := wX4 aI q_t q_t_bytes q_t_lengths q_t_widths q_t_ofNumbers t_bytes t_lengths t_columns (t_rows + 1) t_widths t_ofNumbers t_laidWidth ++ (wX0 aI q_p1 q_p1_bytes q_p1_numbersOfLines q_p1_crossings q_p1_nextInks q_p1_gaps p1_bytes p1_numbersOfLines p1_plainCount p1_rules p1_firstRule p1_lastRule p1_headed p1_footed p1_width p1_crossings p1_nextInks p1_gaps ++ wX1 aI q_p2 q_p2_cuts p2_cuts p2_columns p2_best p2_next p2_plainLines p2_rules p2_joinedLines)) 0 F (dX4_rowOfLine_0 32 rfl) fl_X4_rowOfLine_28 tyX4_ok nmX4 rfl rfl rfl rfl rfl (Nat.le_of_ble_eq_true rfl) rfl ?_
  refine z_goto (tgt := 74) F (dX4_rowOfLine_0 33 rfl) rfl ?_
  refine z_aload_n 0 F (dX4_rowOfLine_1 0 rfl) rfl ?_
  refine z_get (v := .int (zI (t_rows + 1))) 0 F (dX4_rowOfLine_1 1 rfl) fl_X4_rowOfLine_28 rfl rfl ?_
  cases hf
  exact z_iret [0, 1, 2, 3, 4, 5, 6, 7, 8, 9, 10, 11, 12] F E (dX4_rowOfLine_1 2 rfl) rfl (by decide) hQ
set_option maxRecDepth 20000 in
set_option maxHeartbeats 2000000 in
theorem b_X4_rowOfLine_0 {X : zX} {D : va_G} {aI aZ : ClassId} {w0 : va_W} {Qp : Option Value → va_W → Prop} (F : zF X D aI aZ cX4_rowOfLine 5 RX4 wsX4_rowOfLine rmX4_rowOfLine) (E : zT X D w0 Qp 0 0 (some .int)) (q_t q_t_bytes q_t_lengths q_t_widths q_t_ofNumbers q_p1 q_p1_bytes q_p1_numbersOfLines q_p1_crossings q_p1_nextInks q_p1_gaps q_p2 q_p2_cuts : Nat) (t_bytes : (Nat → Int)) (t_lengths : (Nat → Int)) (t_columns : Int) (t_rows : Int) (t_widths : (Nat → Int)) (t_ofNumbers : (Nat → Int)) (t_laidWidth : Int) (p1_bytes : (Nat → Int)) (p1_numbersOfLines : (Nat → Int)) (p1_plainCount : Int) (p1_rules : Int) (p1_firstRule : Int) (p1_lastRule : Int) (p1_headed : Int) (p1_footed : Int) (p1_width : Int) (p1_crossings : (Nat → Int)) (p1_nextInks : (Nat → Int)) (p1_gaps : (Nat → Int)) (p2_cuts : (Nat → Int)) (p2_columns : Int) (p2_best : Int) (p2_next : Int) (p2_plainLines : Int) (p2_rules : Int) (p2_joinedLines : Int) (v3 : Int) {R : Int × Int × Int} (hQ : Qp (some (.int (zI R.1))) (wX4 aI q_t q_t_bytes q_t_lengths q_t_widths q_t_ofNumbers t_bytes t_lengths t_columns R.2.1 t_widths t_ofNumbers t_laidWidth ++ (wX0 aI q_p1 q_p1_bytes q_p1_numbersOfLines q_p1_crossings q_p1_nextInks q_p1_gaps p1_bytes p1_numbersOfLines p1_plainCount p1_rules p1_firstRule p1_lastRule p1_headed p1_footed p1_width p1_crossings p1_nextInks p1_gaps ++ wX1 aI q_p2 q_p2_cuts p2_cuts p2_columns p2_best p2_next p2_plainLines p2_rules R.2.2))) (hf : f_X4_rowOfLine t_rows p1_bytes p1_numbersOfLines p1_firstRule p1_lastRule p1_headed p1_footed p2_cuts p2_joinedLines v3 = some R) : zG X D 0 0 (wX4 aI q_t q_t_bytes q_t_lengths q_t_widths q_t_ofNumbers t_bytes t_lengths t_columns t_rows t_widths t_ofNumbers t_laidWidth ++ (wX0 aI q_p1 q_p1_bytes q_p1_numbersOfLines q_p1_crossings q_p1_nextInks q_p1_gaps p1_bytes p1_numbersOfLines p1_plainCount p1_rules p1_firstRule p1_lastRule p1_headed p1_footed p1_width p1_crossings p1_nextInks p1_gaps ++ wX1 aI q_p2 q_p2_cuts p2_cuts p2_columns p2_best p2_next p2_plainLines p2_rules p2_joinedLines)) 0 [(0, .ref q_t), (1, .ref q_p1), (2, .ref q_p2), (3, .int (zI v3))] [] := by
  unfold f_X4_rowOfLine at hf
  refine z_aload_n 1 F (dX4_rowOfLine_0 0 rfl) rfl ?_
  refine z_iload_n 3 F (dX4_rowOfLine_0 1 rfl) rfl ?_
  obtain ⟨o_1, h_2, hf⟩ := zb_some hf
  refine z_callV (As := [.int (zI v3)]) (rest := []) (wr := wX4 aI q_t q_t_bytes q_t_lengths q_t_widths q_t_ofNumbers t_bytes t_lengths t_columns t_rows t_widths t_ofNumbers t_laidWidth ++ wX1 aI q_p2 q_p2_cuts p2_cuts p2_columns p2_best p2_next p2_plainLines p2_rules p2_joinedLines) F (dX4_rowOfLine_0 2 rfl) (k_X0_isHead (zL X) D aI aZ q_p1 q_p1_bytes q_p1_numbersOfLines q_p1_crossings q_p1_nextInks q_p1_gaps p1_bytes p1_numbersOfLines p1_plainCount p1_rules p1_firstRule p1_lastRule p1_headed p1_footed p1_width p1_crossings p1_nextInks p1_gaps v3 h_2) gX4_rowOfLine_X0_isHead mX0_isHead rfl (ci := 0) rfl [5, 6, 7, 8, 9, 10] [0, 1, 2, 3, 4, 11, 12] 0 rfl rfl rfl (by decide) rfl rfl (Nat.le_of_ble_eq_true rfl) ⟨Nat.le_of_ble_eq_true rfl, Nat.le_of_ble_eq_true rfl⟩ ⟨rfl, rfl⟩ ⟨Nat.le_of_ble_eq_true rfl, Nat.le_of_ble_eq_true rfl⟩ (z_plain (ws' := wX4 aI q_t q_t_bytes q_t_lengths q_t_widths q_t_ofNumbers t_bytes t_lengths t_columns t_rows t_widths t_ofNumbers t_laidWidth ++ (wX0 aI q_p1 q_p1_bytes q_p1_numbersOfLines q_p1_crossings q_p1_nextInks q_p1_gaps p1_bytes p1_numbersOfLines p1_plainCount p1_rules p1_firstRule p1_lastRule p1_headed p1_footed p1_width p1_crossings p1_nextInks p1_gaps ++ wX1 aI q_p2 q_p2_cuts p2_cuts p2_columns p2_best p2_next p2_plainLines p2_rules p2_joinedLines)) (st' := [.int (zI o_1)]) [0, 1, 2, 3, 4, 7, 8, 9, 10, 11, 12, 5, 6] rfl (by decide) rfl ?_)
  refine z_if_eq (tgt := 10) F (dX4_rowOfLine_0 3 rfl) rfl (fun c5 => ?_) (fun c5 => ?_)
  · replace hf := zif_t c5 hf
    refine z_aload_n 1 F (dX4_rowOfLine_0 6 rfl) rfl ?_
    refine z_iload_n 3 F (dX4_rowOfLine_0 7 rfl) rfl ?_
    obtain ⟨o_3, h_4, hf⟩ := zb_some hf
    refine z_callV (As := [.int (zI v3)]) (rest := []) (wr := wX4 aI q_t q_t_bytes q_t_lengths q_t_widths q_t_ofNumbers t_bytes t_lengths t_columns t_rows t_widths t_ofNumbers t_laidWidth ++ wX1 aI q_p2 q_p2_cuts p2_cuts p2_columns p2_best p2_next p2_plainLines p2_rules p2_joinedLines) F (dX4_rowOfLine_0 8 rfl) (k_X0_isFoot (zL X) D aI aZ q_p1 q_p1_bytes q_p1_numbersOfLines q_p1_crossings q_p1_nextInks q_p1_gaps p1_bytes p1_numbersOfLines p1_plainCount p1_rules p1_firstRule p1_lastRule p1_headed p1_footed p1_width p1_crossings p1_nextInks p1_gaps v3 h_4) gX4_rowOfLine_X0_isFoot mX0_isFoot rfl (ci := 0) rfl [5, 6, 7, 8, 9, 10] [0, 1, 2, 3, 4, 11, 12] 0 rfl rfl rfl (by decide) rfl rfl (Nat.le_of_ble_eq_true rfl) ⟨Nat.le_of_ble_eq_true rfl, Nat.le_of_ble_eq_true rfl⟩ ⟨rfl, rfl⟩ ⟨Nat.le_of_ble_eq_true rfl, Nat.le_of_ble_eq_true rfl⟩ (z_plain (ws' := wX4 aI q_t q_t_bytes q_t_lengths q_t_widths q_t_ofNumbers t_bytes t_lengths t_columns t_rows t_widths t_ofNumbers t_laidWidth ++ (wX0 aI q_p1 q_p1_bytes q_p1_numbersOfLines q_p1_crossings q_p1_nextInks q_p1_gaps p1_bytes p1_numbersOfLines p1_plainCount p1_rules p1_firstRule p1_lastRule p1_headed p1_footed p1_width p1_crossings p1_nextInks p1_gaps ++ wX1 aI q_p2 q_p2_cuts p2_cuts p2_columns p2_best p2_next p2_plainLines p2_rules p2_joinedLines)) (st' := [.int (zI o_3)]) [0, 1, 2, 3, 4, 7, 8, 9, 10, 11, 12, 5, 6] rfl (by decide) rfl ?_)
    refine z_if_eq (tgt := 21) F (dX4_rowOfLine_0 9 rfl) rfl (fun c15 => ?_) (fun c15 => ?_)
    · replace hf := zif_t c15 hf
      refine z_aload_n 2 F (dX4_rowOfLine_0 12 rfl) rfl ?_
      refine z_getN (v := .ref q_p2_cuts) 11 F (dX4_rowOfLine_0 13 rfl) fl_X4_rowOfLine_62 rfl rfl ?_
      refine z_iconst F (dX4_rowOfLine_0 14 rfl) ?_
      obtain ⟨o_5, h_6, hf⟩ := zb_some hf
      refine z_callN (As := [.ref q_p2_cuts, .int (zI 1)]) (rest := []) (wr := wX4 aI q_t q_t_bytes q_t_lengths q_t_widths q_t_ofNumbers t_bytes t_lengths t_columns t_rows t_widths t_ofNumbers t_laidWidth ++ (wX0 aI q_p1 q_p1_bytes q_p1_numbersOfLines q_p1_crossings q_p1_nextInks q_p1_gaps p1_bytes p1_numbersOfLines p1_plainCount p1_rules p1_firstRule p1_lastRule p1_headed p1_footed p1_width p1_crossings p1_nextInks p1_gaps ++ [(q_p2, .inr (1, [.ref q_p2_cuts, .int (zI p2_columns), .int (zI p2_best), .int (zI p2_next), .int (zI p2_plainLines), .int (zI p2_rules), .int (zI p2_joinedLines)]))])) F (dX4_rowOfLine_0 15 rfl) (k_X5_pick (zL X) D aI aZ q_p2_cuts 9 (by decide) p2_cuts 1 h_6) gX4_rowOfLine_X5_pick_n35 mX5_pick nst_X4_X5_pick sw1_X4_rowOfLine_X5_pick sw2_X4_rowOfLine_X5_pick [12] [0, 1, 2, 3, 4, 5, 6, 7, 8, 9, 10, 11] rfl rfl (by decide) rfl rfl (Nat.le_of_ble_eq_true rfl) ⟨Nat.le_of_ble_eq_true rfl, Nat.le_of_ble_eq_true rfl⟩ ⟨rfl, rfl⟩ ⟨Nat.le_of_ble_eq_true rfl, Nat.le_of_ble_eq_true rfl⟩ (z_plain (ws' := wX4 aI q_t q_t_bytes q_t_lengths q_t_widths q_t_ofNumbers t_bytes t_lengths t_columns t_rows t_widths t_ofNumbers t_laidWidth ++ (wX0 aI q_p1 q_p1_bytes q_p1_numbersOfLines q_p1_crossings q_p1_nextInks q_p1_gaps p1_bytes p1_numbersOfLines p1_plainCount p1_rules p1_firstRule p1_lastRule p1_headed p1_footed p1_width p1_crossings p1_nextInks p1_gaps ++ wX1 aI q_p2 q_p2_cuts p2_cuts p2_columns p2_best p2_next p2_plainLines p2_rules p2_joinedLines)) (st' := [.int (zI o_5)]) [0, 1, 2, 3, 4, 5, 6, 7, 8, 9, 10, 11, 12] rfl (by decide) rfl ?_)
      refine z_istore (lv' := [(4, .int (zI o_5)), (0, .ref q_t), (1, .ref q_p1), (2, .ref q_p2), (3, .int (zI v3))]) F (dX4_rowOfLine_0 16 rfl) (by decide) rfl ?_
      refine z_aload_n 1 F (dX4_rowOfLine_0 17 rfl) rfl ?_
      refine z_get (v := .int (zI t_rows)) 0 F (dX4_rowOfLine_0 18 rfl) fl_X4_rowOfLine_28 rfl rfl ?_
      refine z_if_eq (tgt := 51) F (dX4_rowOfLine_0 19 rfl) rfl (fun c35 => ?_) (fun c35 => ?_)
      · replace hf := zif_t c35 hf
        refine z_lv [1] rfl ?_
        exact b_X4_rowOfLine_j51 F E q_t q_t_bytes q_t_lengths q_t_widths q_t_ofNumbers q_p1 q_p1_bytes q_p1_numbersOfLines q_p1_crossings q_p1_nextInks q_p1_gaps q_p2 q_p2_cuts t_bytes t_lengths t_columns t_rows t_widths t_ofNumbers t_laidWidth p1_bytes p1_numbersOfLines p1_plainCount p1_rules p1_firstRule p1_lastRule p1_headed p1_footed p1_width p1_crossings p1_nextInks p1_gaps p2_cuts p2_columns p2_best p2_next p2_plainLines p2_rules p2_joinedLines hQ hf
      · replace hf := zif_f c35 hf
        refine z_aload_n 2 F (dX4_rowOfLine_0 20 rfl) rfl ?_
        refine z_iload_n 4 F (dX4_rowOfLine_0 21 rfl) rfl ?_
        refine z_iconst F (dX4_rowOfLine_0 22 rfl) ?_
        refine z_iload 0 F (dX4_rowOfLine_0 23 rfl) rfl ?_
        obtain ⟨o_7, h_8, hf⟩ := zb_some hf
        refine z_callS (As := [.ref q_p1, .int (zI v3), .int (zI 0), .int (zI o_5)]) (rest := []) (wr := wX4 aI q_t q_t_bytes q_t_lengths q_t_widths q_t_ofNumbers t_bytes t_lengths t_columns t_rows t_widths t_ofNumbers t_laidWidth ++ wX1 aI q_p2 q_p2_cuts p2_cuts p2_columns p2_best p2_next p2_plainLines p2_rules p2_joinedLines) F (dX4_rowOfLine_0 24 rfl) (k_X4_firstInk (zL X) D aI aZ q_p1 q_p1_bytes q_p1_numbersOfLines q_p1_crossings q_p1_nextInks q_p1_gaps p1_bytes p1_numbersOfLines p1_plainCount p1_rules p1_firstRule p1_lastRule p1_headed p1_footed p1_width p1_crossings p1_nextInks p1_gaps v3 0 o_5 h_8) gX4_rowOfLine_X4_firstInk mX4_firstInk rfl [5, 6, 7, 8, 9, 10] [0, 1, 2, 3, 4, 11, 12] rfl rfl (by decide) rfl rfl (Nat.le_of_ble_eq_true rfl) ⟨Nat.le_of_ble_eq_true rfl, Nat.le_of_ble_eq_true rfl⟩ ⟨rfl, rfl⟩ ⟨Nat.le_of_ble_eq_true rfl, Nat.le_of_ble_eq_true rfl⟩ (z_plain (ws' := wX4 aI q_t q_t_bytes q_t_lengths q_t_widths q_t_ofNumbers t_bytes t_lengths t_columns t_rows t_widths t_ofNumbers t_laidWidth ++ (wX0 aI q_p1 q_p1_bytes q_p1_numbersOfLines q_p1_crossings q_p1_nextInks q_p1_gaps p1_bytes p1_numbersOfLines p1_plainCount p1_rules p1_firstRule p1_lastRule p1_headed p1_footed p1_width p1_crossings p1_nextInks p1_gaps ++ wX1 aI q_p2 q_p2_cuts p2_cuts p2_columns p2_best p2_next p2_plainLines p2_rules p2_joinedLines)) (st' := [.int (zI o_7)]) [0, 1, 2, 3, 4, 7, 8, 9, 10, 11, 12, 5, 6] rfl (by decide) rfl ?_)
        refine z_iload 0 F (dX4_rowOfLine_0 25 rfl) rfl ?_
        refine z_icmp_ge (tgt := 64) F (dX4_rowOfLine_0 26 rfl) rfl (fun c48 => ?_) (fun c48 => ?_)
        · replace hf := zif_f c48 hf
          refine z_aload_n 3 F (dX4_rowOfLine_0 34 rfl) rfl ?_
          refine z_dup F (dX4_rowOfLine_0 35 rfl) rfl ?_
          refine z_getN (v := .int (zI p2_joinedLines)) 11 F (dX4_rowOfLine_0 36 rfl) fl_X4_rowOfLine_79 rfl rfl ?_
          refine z_iconst F (dX4_rowOfLine_0 37 rfl) ?_
          refine z_iadd F (dX4_rowOfLine_0 38 rfl) ?_
          refine z_putN (ws' := wX4 aI q_t q_t_bytes q_t_lengths q_t_widths q_t_ofNumbers t_bytes t_lengths t_columns t_rows t_widths t_ofNumbers t_laidWidth ++ (wX0 aI q_p1 q_p1_bytes q_p1_numbersOfLines q_p1_crossings q_p1_nextInks q_p1_gaps p1_bytes p1_numbersOfLines p1_plainCount p1_rules p1_firstRule p1_lastRule p1_headed p1_footed p1_width p1_crossings p1_nextInks p1_gaps ++ wX1 aI q_p2 q_p2_cuts p2_cuts p2_columns p2_best p2_next p2_plainLines p2_rules (p2_joinedLines + 1))) 11 F (dX4_rowOfLine_0 39 rfl) fl_X4_rowOfLine_79 tyX1_ok nmX1 rfl rfl rfl rfl rfl (Nat.le_of_ble_eq_true rfl) rfl ?_
          refine z_aload_n 1 F (dX4_rowOfLine_1 0 rfl) rfl ?_
          refine z_get (v := .int (zI t_rows)) 0 F (dX4_rowOfLine_1 1 rfl) fl_X4_rowOfLine_28 rfl rfl ?_
          cases hf
          exact z_iret [0, 1, 2, 3, 4, 5, 6, 7, 8, 9, 10, 11, 12] F E (dX4_rowOfLine_1 2 rfl) rfl (by decide) hQ
        · replace hf := zif_t c48 hf
          refine z_lv [1] rfl ?_
          exact b_X4_rowOfLine_j51 F E q_t q_t_bytes q_t_lengths q_t_widths q_t_ofNumbers q_p1 q_p1_bytes q_p1_numbersOfLines q_p1_crossings q_p1_nextInks q_p1_gaps q_p2 q_p2_cuts t_bytes t_lengths t_columns t_rows t_widths t_ofNumbers t_laidWidth p1_bytes p1_numbersOfLines p1_plainCount p1_rules p1_firstRule p1_lastRule p1_headed p1_footed p1_width p1_crossings p1_nextInks p1_gaps p2_cuts p2_columns p2_best p2_next p2_plainLines p2_rules p2_joinedLines hQ hf
    · replace hf := zif_f c15 hf
      refine z_bipush F (dX4_rowOfLine_0 10 rfl) rfl ?_
      cases hf
      exact z_iret [0, 1, 2, 3, 4, 5, 6, 7, 8, 9, 10, 11, 12] F E (dX4_rowOfLine_0 11 rfl) rfl (by decide) hQ
  · replace hf := zif_f c5 hf
    refine z_iconst F (dX4_rowOfLine_0 4 rfl) ?_
    cases hf
    exact z_iret [0, 1, 2, 3, 4, 5, 6, 7, 8, 9, 10, 11, 12] F E (dX4_rowOfLine_0 5 rfl) rfl (by decide) hQ
set_option maxRecDepth 20000 in
set_option maxHeartbeats 2000000 in
theorem k_X4_rowOfLine (l : Launch) (D : va_G) (aI aZ : ClassId) (q_t q_t_bytes q_t_lengths q_t_widths q_t_ofNumbers q_p1 q_p1_bytes q_p1_numbersOfLines q_p1_crossings q_p1_nextInks q_p1_gaps q_p2 q_p2_cuts : Nat) (t_bytes : (Nat → Int)) (t_lengths : (Nat → Int)) (t_columns : Int) (t_rows : Int) (t_widths : (Nat → Int)) (t_ofNumbers : (Nat → Int)) (t_laidWidth : Int) (p1_bytes : (Nat → Int)) (p1_numbersOfLines : (Nat → Int)) (p1_plainCount : Int) (p1_rules : Int) (p1_firstRule : Int) (p1_lastRule : Int) (p1_headed : Int) (p1_footed : Int) (p1_width : Int) (p1_crossings : (Nat → Int)) (p1_nextInks : (Nat → Int)) (p1_gaps : (Nat → Int)) (p2_cuts : (Nat → Int)) (p2_columns : Int) (p2_best : Int) (p2_next : Int) (p2_plainLines : Int) (p2_rules : Int) (p2_joinedLines : Int) (v3 : Int) {R : Int × Int × Int} (hf : f_X4_rowOfLine t_rows p1_bytes p1_numbersOfLines p1_firstRule p1_lastRule p1_headed p1_footed p2_cuts p2_joinedLines v3 = some R) : zC l D aI aZ yX4_rowOfLine wsX4_rowOfLine rmX4_rowOfLine [.ref q_t, .ref q_p1, .ref q_p2, .int (zI v3)] (wX4 aI q_t q_t_bytes q_t_lengths q_t_widths q_t_ofNumbers t_bytes t_lengths t_columns t_rows t_widths t_ofNumbers t_laidWidth ++ (wX0 aI q_p1 q_p1_bytes q_p1_numbersOfLines q_p1_crossings q_p1_nextInks q_p1_gaps p1_bytes p1_numbersOfLines p1_plainCount p1_rules p1_firstRule p1_lastRule p1_headed p1_footed p1_width p1_crossings p1_nextInks p1_gaps ++ wX1 aI q_p2 q_p2_cuts p2_cuts p2_columns p2_best p2_next p2_plainLines p2_rules p2_joinedLines)) (fun r w => r = (some (.int (zI R.1))) ∧ w = wX4 aI q_t q_t_bytes q_t_lengths q_t_widths q_t_ofNumbers t_bytes t_lengths t_columns R.2.1 t_widths t_ofNumbers t_laidWidth ++ (wX0 aI q_p1 q_p1_bytes q_p1_numbersOfLines q_p1_crossings q_p1_nextInks q_p1_gaps p1_bytes p1_numbersOfLines p1_plainCount p1_rules p1_firstRule p1_lastRule p1_headed p1_footed p1_width p1_crossings p1_nextInks p1_gaps ++ wX1 aI q_p2 q_p2_cuts p2_cuts p2_columns p2_best p2_next p2_plainLines p2_rules R.2.2)) 0 0 := by
  refine z_met (cc := cX4_rowOfLine) (maxL := 5) (ret := (some .int)) (by decide +kernel) rfl (Nat.le_of_ble_eq_true rfl) (fun X hX F E => ?_)
  exact b_X4_rowOfLine_0 F E q_t q_t_bytes q_t_lengths q_t_widths q_t_ofNumbers q_p1 q_p1_bytes q_p1_numbersOfLines q_p1_crossings q_p1_nextInks q_p1_gaps q_p2 q_p2_cuts t_bytes t_lengths t_columns t_rows t_widths t_ofNumbers t_laidWidth p1_bytes p1_numbersOfLines p1_plainCount p1_rules p1_firstRule p1_lastRule p1_headed p1_footed p1_width p1_crossings p1_nextInks p1_gaps p2_cuts p2_columns p2_best p2_next p2_plainLines p2_rules p2_joinedLines v3 ⟨rfl, rfl⟩ hf
theorem inw_X4_addByte_4 : ∀ w ∈ u_ws RX4 TX4 7, w ∈ wsX4_addByte := by decide +kernel
theorem fl_X4_addByte_15 : zfl wsX4_addByte RX4 15 4 1 RX4 TX4 7 := ⟨inw_X4_addByte_4, rfl, by decide, by decide +kernel⟩
theorem sw1_X4_addByte_X5_pick : Cond.static yX5_pick ∈ wsX4_addByte := by decide +kernel
theorem sw2_X4_addByte_X5_pick : Cond.initialized yX5_pick.cls ∈ wsX4_addByte := by decide +kernel
theorem fl_X4_addByte_9 : zfl wsX4_addByte RX4 9 4 0 RX4 TX4 7 := ⟨inw_X4_addByte_4, rfl, by decide, by decide +kernel⟩
theorem sw1_X4_addByte_X5_put : Cond.static yX5_put ∈ wsX4_addByte := by decide +kernel
theorem sw2_X4_addByte_X5_put : Cond.initialized yX5_put.cls ∈ wsX4_addByte := by decide +kernel
abbrev rmX4_addByte : Room := { frames := 1, cells := 0, slots := 0, locals := 22 }
theorem mX4_addByte : zY yX4_addByte cX4_addByte 4 (some .boolean) wsX4_addByte 2 := ⟨⟨_, rfl⟩, by decide +kernel, by decide +kernel, by decide +kernel⟩
set_option maxRecDepth 20000 in
set_option maxHeartbeats 2000000 in
theorem b_X4_addByte_0 {X : zX} {D : va_G} {aI aZ : ClassId} {w0 : va_W} {Qp : Option Value → va_W → Prop} (F : zF X D aI aZ cX4_addByte 4 RX4 wsX4_addByte rmX4_addByte) (E : zT X D w0 Qp 0 0 (some .boolean)) (q_t q_t_bytes q_t_lengths q_t_widths q_t_ofNumbers : Nat) (t_bytes : (Nat → Int)) (t_lengths : (Nat → Int)) (t_columns : Int) (t_rows : Int) (t_widths : (Nat → Int)) (t_ofNumbers : (Nat → Int)) (t_laidWidth : Int) (v1 : Int) (v2 : Int) {R : Int × (Nat → Int) × (Nat → Int)} (hQ : Qp (some (.int (zI R.1))) (wX4 aI q_t q_t_bytes q_t_lengths q_t_widths q_t_ofNumbers R.2.1 R.2.2 t_columns t_rows t_widths t_ofNumbers t_laidWidth)) (hf : f_X4_addByte t_bytes t_lengths v1 v2 = some R) : zG X D 0 0 (wX4 aI q_t q_t_bytes q_t_lengths q_t_widths q_t_ofNumbers t_bytes t_lengths t_columns t_rows t_widths t_ofNumbers t_laidWidth) 0 [(0, .ref q_t), (1, .int (zI v1)), (2, .int (zI v2))] [] := by
  unfold f_X4_addByte at hf
  refine z_aload_n 0 F (dX4_addByte_0 0 rfl) rfl ?_
  refine z_get (v := .ref q_t_lengths) 0 F (dX4_addByte_0 1 rfl) fl_X4_addByte_15 rfl rfl ?_
  refine z_iload_n 1 F (dX4_addByte_0 2 rfl) rfl ?_
  obtain ⟨o_1, h_2, hf⟩ := zb_some hf
  refine z_callN (As := [.ref q_t_lengths, .int (zI v1)]) (rest := []) (wr := [(q_t, .inr (4, [.ref q_t_bytes, .ref q_t_lengths, .int (zI t_columns), .int (zI t_rows), .ref q_t_widths, .ref q_t_ofNumbers, .int (zI t_laidWidth)]))] ++ ([(q_t_bytes, .inl (aI, 20160, .inl (fun j => zI (t_bytes j))))] ++ ([(q_t_widths, .inl (aI, 8, .inl (fun j => zI (t_widths j))))] ++ [(q_t_ofNumbers, .inl (aI, 8, .inl (fun j => zI (t_ofNumbers j))))]))) F (dX4_addByte_0 3 rfl) (k_X5_pick (zL X) D aI aZ q_t_lengths 336 (by decide) t_lengths v1 h_2) gX4_addByte_X5_pick_n35 mX5_pick nst_X4_X5_pick sw1_X4_addByte_X5_pick sw2_X4_addByte_X5_pick [2] [0, 1, 3, 4] rfl rfl (by decide) rfl rfl (Nat.le_of_ble_eq_true rfl) ⟨Nat.le_of_ble_eq_true rfl, Nat.le_of_ble_eq_true rfl⟩ ⟨rfl, rfl⟩ ⟨Nat.le_of_ble_eq_true rfl, Nat.le_of_ble_eq_true rfl⟩ (z_plain (ws' := wX4 aI q_t q_t_bytes q_t_lengths q_t_widths q_t_ofNumbers t_bytes t_lengths t_columns t_rows t_widths t_ofNumbers t_laidWidth) (st' := [.int (zI o_1)]) [0, 1, 4, 2, 3] rfl (by decide) rfl ?_)
  refine z_istore_n (lv' := [(3, .int (zI o_1)), (0, .ref q_t), (1, .int (zI v1)), (2, .int (zI v2))]) F (dX4_addByte_0 4 rfl) (by decide) rfl ?_
  refine z_iload_n 0 F (dX4_addByte_0 5 rfl) rfl ?_
  refine z_bipush F (dX4_addByte_0 6 rfl) rfl ?_
  refine z_icmp_lt (tgt := 17) F (dX4_addByte_0 7 rfl) rfl (fun c12 => ?_) (fun c12 => ?_)
  · replace hf := zif_t c12 hf
    refine z_aload_n 1 F (dX4_addByte_0 10 rfl) rfl ?_
    refine z_get (v := .ref q_t_bytes) 0 F (dX4_addByte_0 11 rfl) fl_X4_addByte_9 rfl rfl ?_
    refine z_iload_n 2 F (dX4_addByte_0 12 rfl) rfl ?_
    refine z_bipush F (dX4_addByte_0 13 rfl) rfl ?_
    refine z_imul F (dX4_addByte_0 14 rfl) ?_
    refine z_iload_n 0 F (dX4_addByte_0 15 rfl) rfl ?_
    refine z_iadd F (dX4_addByte_0 16 rfl) ?_
    refine z_iload_n 3 F (dX4_addByte_0 17 rfl) rfl ?_
    obtain ⟨o_3, h_4, hf⟩ := zb_some hf
    refine z_callN (As := [.ref q_t_bytes, .int (zI ((v1 * 60) + o_1)), .int (zI v2)]) (rest := []) (wr := [(q_t, .inr (4, [.ref q_t_bytes, .ref q_t_lengths, .int (zI t_columns), .int (zI t_rows), .ref q_t_widths, .ref q_t_ofNumbers, .int (zI t_laidWidth)]))] ++ ([(q_t_lengths, .inl (aI, 336, .inl (fun j => zI (t_lengths j))))] ++ ([(q_t_widths, .inl (aI, 8, .inl (fun j => zI (t_widths j))))] ++ [(q_t_ofNumbers, .inl (aI, 8, .inl (fun j => zI (t_ofNumbers j))))]))) F (dX4_addByte_0 18 rfl) (k_X5_put (zL X) D aI aZ q_t_bytes 20160 (by decide) t_bytes ((v1 * 60) + o_1) v2 h_4) gX4_addByte_X5_put_n49 mX5_put nst_X4_X5_put sw1_X4_addByte_X5_put sw2_X4_addByte_X5_put [1] [0, 2, 3, 4] rfl rfl (by decide) rfl rfl (Nat.le_of_ble_eq_true rfl) ⟨Nat.le_of_ble_eq_true rfl, Nat.le_of_ble_eq_true rfl⟩ ⟨rfl, rfl⟩ ⟨Nat.le_of_ble_eq_true rfl, Nat.le_of_ble_eq_true rfl⟩ (z_plain (ws' := wX4 aI q_t q_t_bytes q_t_lengths q_t_widths q_t_ofNumbers o_3 t_lengths t_columns t_rows t_widths t_ofNumbers t_laidWidth) (st' := []) [0, 4, 1, 2, 3] rfl (by decide) rfl ?_)
    refine z_aload_n 1 F (dX4_addByte_0 19 rfl) rfl ?_
    refine z_get (v := .ref q_t_lengths) 0 F (dX4_addByte_0 20 rfl) fl_X4_addByte_15 rfl rfl ?_
    refine z_iload_n 2 F (dX4_addByte_0 21 rfl) rfl ?_
    refine z_iload_n 0 F (dX4_addByte_0 22 rfl) rfl ?_
    refine z_iconst F (dX4_addByte_0 23 rfl) ?_
    refine z_iadd F (dX4_addByte_0 24 rfl) ?_
    obtain ⟨o_5, h_6, hf⟩ := zb_some hf
    refine z_callN (As := [.ref q_t_lengths, .int (zI v1), .int (zI (o_1 + 1))]) (rest := []) (wr := [(q_t, .inr (4, [.ref q_t_bytes, .ref q_t_lengths, .int (zI t_columns), .int (zI t_rows), .ref q_t_widths, .ref q_t_ofNumbers, .int (zI t_laidWidth)]))] ++ ([(q_t_bytes, .inl (aI, 20160, .inl (fun j => zI (o_3 j))))] ++ ([(q_t_widths, .inl (aI, 8, .inl (fun j => zI (t_widths j))))] ++ [(q_t_ofNumbers, .inl (aI, 8, .inl (fun j => zI (t_ofNumbers j))))]))) F (dX4_addByte_0 25 rfl) (k_X5_put (zL X) D aI aZ q_t_lengths 336 (by decide) t_lengths v1 (o_1 + 1) h_6) gX4_addByte_X5_put_n49 mX5_put nst_X4_X5_put sw1_X4_addByte_X5_put sw2_X4_addByte_X5_put [2] [0, 1, 3, 4] rfl rfl (by decide) rfl rfl (Nat.le_of_ble_eq_true rfl) ⟨Nat.le_of_ble_eq_true rfl, Nat.le_of_ble_eq_true rfl⟩ ⟨rfl, rfl⟩ ⟨Nat.le_of_ble_eq_true rfl, Nat.le_of_ble_eq_true rfl⟩ (z_plain (ws' := wX4 aI q_t q_t_bytes q_t_lengths q_t_widths q_t_ofNumbers o_3 o_5 t_columns t_rows t_widths t_ofNumbers t_laidWidth) (st' := []) [0, 1, 4, 2, 3] rfl (by decide) rfl ?_)
    refine z_iconst F (dX4_addByte_0 26 rfl) ?_
    cases hf
    exact z_zret [0, 1, 2, 3, 4] F E (dX4_addByte_0 27 rfl) (Or.inr rfl) rfl (by decide) hQ
  · replace hf := zif_f c12 hf
    refine z_iconst F (dX4_addByte_0 8 rfl) ?_
    cases hf
    exact z_zret [0, 1, 2, 3, 4] F E (dX4_addByte_0 9 rfl) (Or.inl rfl) rfl (by decide) hQ
set_option maxRecDepth 20000 in
set_option maxHeartbeats 2000000 in
theorem k_X4_addByte (l : Launch) (D : va_G) (aI aZ : ClassId) (q_t q_t_bytes q_t_lengths q_t_widths q_t_ofNumbers : Nat) (t_bytes : (Nat → Int)) (t_lengths : (Nat → Int)) (t_columns : Int) (t_rows : Int) (t_widths : (Nat → Int)) (t_ofNumbers : (Nat → Int)) (t_laidWidth : Int) (v1 : Int) (v2 : Int) {R : Int × (Nat → Int) × (Nat → Int)} (hf : f_X4_addByte t_bytes t_lengths v1 v2 = some R) : zC l D aI aZ yX4_addByte wsX4_addByte rmX4_addByte [.ref q_t, .int (zI v1), .int (zI v2)] (wX4 aI q_t q_t_bytes q_t_lengths q_t_widths q_t_ofNumbers t_bytes t_lengths t_columns t_rows t_widths t_ofNumbers t_laidWidth) (fun r w => r = (some (.int (zI R.1))) ∧ w = wX4 aI q_t q_t_bytes q_t_lengths q_t_widths q_t_ofNumbers R.2.1 R.2.2 t_columns t_rows t_widths t_ofNumbers t_laidWidth) 0 0 := by
  refine z_met (cc := cX4_addByte) (maxL := 4) (ret := (some .boolean)) (by decide +kernel) rfl (Nat.le_of_ble_eq_true rfl) (fun X hX F E => ?_)
  exact b_X4_addByte_0 F E q_t q_t_bytes q_t_lengths q_t_widths q_t_ofNumbers t_bytes t_lengths t_columns t_rows t_widths t_ofNumbers t_laidWidth v1 v2 ⟨rfl, rfl⟩ hf
theorem inw_X4_joinCell_4 : ∀ w ∈ u_ws RX4 TX4 7, w ∈ wsX4_joinCell := by decide +kernel
theorem fl_X4_joinCell_15 : zfl wsX4_joinCell RX4 15 4 1 RX4 TX4 7 := ⟨inw_X4_joinCell_4, rfl, by decide, by decide +kernel⟩
theorem sw1_X4_joinCell_X5_pick : Cond.static yX5_pick ∈ wsX4_joinCell := by decide +kernel
theorem sw2_X4_joinCell_X5_pick : Cond.initialized yX5_pick.cls ∈ wsX4_joinCell := by decide +kernel
abbrev rmX4_joinCell : Room := { frames := 3, cells := 0, slots := 0, locals := 67 }
theorem mX4_joinCell : zY yX4_joinCell cX4_joinCell 10 (some .boolean) wsX4_joinCell 5 := ⟨⟨_, rfl⟩, by decide +kernel, by decide +kernel, by decide +kernel⟩
set_option maxRecDepth 20000 in
set_option maxHeartbeats 2000000 in
theorem b_X4_joinCell_l14 {X : zX} {D : va_G} {aI aZ : ClassId} {w0 : va_W} {Qp : Option Value → va_W → Prop} (F : zF X D aI aZ cX4_joinCell 10 RX4 wsX4_joinCell rmX4_joinCell) (E : zT X D w0 Qp 0 0 (some .boolean)) (q_t q_t_bytes q_t_lengths q_t_widths q_t_ofNumbers q_p1 q_p1_bytes q_p1_numbersOfLines q_p1_crossings q_p1_nextInks q_p1_gaps : Nat) (v2 : Int) (v5 : Int) (v6 : Int) (t_bytes : (Nat → Int)) (t_lengths : (Nat → Int)) (t_columns : Int) (t_rows : Int) (t_widths : (Nat → Int)) (t_ofNumbers : (Nat → Int)) (t_laidWidth : Int) (p1_bytes : (Nat → Int)) (p1_numbersOfLines : (Nat → Int)) (p1_plainCount : Int) (p1_rules : Int) (p1_firstRule : Int) (p1_lastRule : Int) (p1_headed : Int) (p1_footed : Int) (p1_width : Int) (p1_crossings : (Nat → Int)) (p1_nextInks : (Nat → Int)) (p1_gaps : (Nat → Int)) {R : Int × (Nat → Int) × (Nat → Int)} (hQ : Qp (some (.int (zI R.1))) (wX4 aI q_t q_t_bytes q_t_lengths q_t_widths q_t_ofNumbers R.2.1 R.2.2 t_columns t_rows t_widths t_ofNumbers t_laidWidth ++ wX0 aI q_p1 q_p1_bytes q_p1_numbersOfLines q_p1_crossings q_p1_nextInks q_p1_gaps p1_bytes p1_numbersOfLines p1_plainCount p1_rules p1_firstRule p1_lastRule p1_headed p1_footed p1_width p1_crossings p1_nextInks p1_gaps)) (K : Int → Option (Int × (Nat → Int) × (Nat → Int))) (hK : ∀ (v7 : Int), K v7 = some R → zG X D 0 0 (wX4 aI q_t q_t_bytes q_t_lengths q_t_widths q_t_ofNumbers t_bytes t_lengths t_columns t_rows t_widths t_ofNumbers t_laidWidth ++ wX0 aI q_p1 q_p1_bytes q_p1_numbersOfLines q_p1_crossings q_p1_nextInks q_p1_gaps p1_bytes p1_numbersOfLines p1_plainCount p1_rules p1_firstRule p1_lastRule p1_headed p1_footed p1_width p1_crossings p1_nextInks p1_gaps) 39 [(0, .ref q_t), (1, .ref q_p1), (2, .int (zI v2)), (5, .int (zI v5)), (6, .int (zI v6)), (7, .int (zI v7))] []) : ∀ (n : Nat) (v7 : Int), f_X4_joinCell_l14 K v2 v6 p1_bytes n v7 = some R → zG X D 0 0 (wX4 aI q_t q_t_bytes q_t_lengths q_t_widths q_t_ofNumbers t_bytes t_lengths t_columns t_rows t_widths t_ofNumbers t_laidWidth ++ wX0 aI q_p1 q_p1_bytes q_p1_numbersOfLines q_p1_crossings q_p1_nextInks q_p1_gaps p1_bytes p1_numbersOfLines p1_plainCount p1_rules p1_firstRule p1_lastRule p1_headed p1_footed p1_width p1_crossings p1_nextInks p1_gaps) 14 [(0, .ref q_t), (1, .ref q_p1), (2, .int (zI v2)), (5, .int (zI v5)), (6, .int (zI v6)), (7, .int (zI v7))] [] := by
  intro n
  induction n with
  | zero => intro v7 hf; rw [f_X4_joinCell_l14_z] at hf; cases hf
  | succ n ih =>
    intro v7 hf
    rw [f_X4_joinCell_l14_s] at hf
    refine z_iload 5 F (dX4_joinCell_0 8 rfl) rfl ?_
    refine z_iload 4 F (dX4_joinCell_0 9 rfl) rfl ?_
    refine z_icmp_le (tgt := 39) F (dX4_joinCell_0 10 rfl) rfl (fun c18 => ?_) (fun c18 => ?_)
    · replace hf := zif_f c18 hf
      exact hK v7 hf
    · replace hf := zif_t c18 hf
      refine z_aload_n 1 F (dX4_joinCell_0 11 rfl) rfl ?_
      refine z_iload_n 2 F (dX4_joinCell_0 12 rfl) rfl ?_
      refine z_iload 5 F (dX4_joinCell_0 13 rfl) rfl ?_
      refine z_iconst F (dX4_joinCell_0 14 rfl) ?_
      refine z_isub F (dX4_joinCell_0 15 rfl) ?_
      obtain ⟨o_3, h_4, hf⟩ := zb_some hf
      refine z_callV (As := [.int (zI v2), .int (zI (v7 - 1))]) (rest := []) (wr := wX4 aI q_t q_t_bytes q_t_lengths q_t_widths q_t_ofNumbers t_bytes t_lengths t_columns t_rows t_widths t_ofNumbers t_laidWidth) F (dX4_joinCell_0 16 rfl) (k_X0_hasInk (zL X) D aI aZ q_p1 q_p1_bytes q_p1_numbersOfLines q_p1_crossings q_p1_nextInks q_p1_gaps p1_bytes p1_numbersOfLines p1_plainCount p1_rules p1_firstRule p1_lastRule p1_headed p1_footed p1_width p1_crossings p1_nextInks p1_gaps v2 (v7 - 1) h_4) gX4_joinCell_X0_hasInk mX0_hasInk rfl (ci := 0) rfl [5, 6, 7, 8, 9, 10] [0, 1, 2, 3, 4] 0 rfl rfl rfl (by decide) rfl rfl (Nat.le_of_ble_eq_true rfl) ⟨Nat.le_of_ble_eq_true rfl, Nat.le_of_ble_eq_true rfl⟩ ⟨rfl, rfl⟩ ⟨Nat.le_of_ble_eq_true rfl, Nat.le_of_ble_eq_true rfl⟩ (z_plain (ws' := wX4 aI q_t q_t_bytes q_t_lengths q_t_widths q_t_ofNumbers t_bytes t_lengths t_columns t_rows t_widths t_ofNumbers t_laidWidth ++ wX0 aI q_p1 q_p1_bytes q_p1_numbersOfLines q_p1_crossings q_p1_nextInks q_p1_gaps p1_bytes p1_numbersOfLines p1_plainCount p1_rules p1_firstRule p1_lastRule p1_headed p1_footed p1_width p1_crossings p1_nextInks p1_gaps) (st' := [.int (zI o_3)]) [0, 1, 2, 3, 4, 5, 6, 7, 8, 9, 10] rfl (by decide) rfl ?_)
      refine z_if_ne (tgt := 39) F (dX4_joinCell_0 17 rfl) rfl (fun c30 => ?_) (fun c30 => ?_)
      · replace hf := zif_f c30 hf
        exact hK v7 hf
      · replace hf := zif_t c30 hf
        refine z_iinc (lv' := [(7, .int (zI (v7 + (-1)))), (0, .ref q_t), (1, .ref q_p1), (2, .int (zI v2)), (5, .int (zI v5)), (6, .int (zI v6))]) 5 F (dX4_joinCell_0 18 rfl) rfl (by decide) rfl ?_
        refine z_goto (tgt := 14) F (dX4_joinCell_0 19 rfl) rfl ?_
        refine z_lv [1, 2, 3, 4, 5, 0] rfl ?_
        exact ih (v7 + (-1)) hf
set_option maxRecDepth 20000 in
set_option maxHeartbeats 2000000 in
theorem b_X4_joinCell_l82 {X : zX} {D : va_G} {aI aZ : ClassId} {w0 : va_W} {Qp : Option Value → va_W → Prop} (F : zF X D aI aZ cX4_joinCell 10 RX4 wsX4_joinCell rmX4_joinCell) (E : zT X D w0 Qp 0 0 (some .boolean)) (q_t q_t_bytes q_t_lengths q_t_widths q_t_ofNumbers q_p1 q_p1_bytes q_p1_numbersOfLines q_p1_crossings q_p1_nextInks q_p1_gaps : Nat) (v2 : Int) (v5 : Int) (v7 : Int) (t_columns : Int) (t_rows : Int) (t_widths : (Nat → Int)) (t_ofNumbers : (Nat → Int)) (t_laidWidth : Int) (p1_bytes : (Nat → Int)) (p1_numbersOfLines : (Nat → Int)) (p1_plainCount : Int) (p1_rules : Int) (p1_firstRule : Int) (p1_lastRule : Int) (p1_headed : Int) (p1_footed : Int) (p1_width : Int) (p1_crossings : (Nat → Int)) (p1_nextInks : (Nat → Int)) (p1_gaps : (Nat → Int)) {R : Int × (Nat → Int) × (Nat → Int)} (hQ : Qp (some (.int (zI R.1))) (wX4 aI q_t q_t_bytes q_t_lengths q_t_widths q_t_ofNumbers R.2.1 R.2.2 t_columns t_rows t_widths t_ofNumbers t_laidWidth ++ wX0 aI q_p1 q_p1_bytes q_p1_numbersOfLines q_p1_crossings q_p1_nextInks q_p1_gaps p1_bytes p1_numbersOfLines p1_plainCount p1_rules p1_firstRule p1_lastRule p1_headed p1_footed p1_width p1_crossings p1_nextInks p1_gaps)) (K : Int → (Nat → Int) → (Nat → Int) → Option (Int × (Nat → Int) × (Nat → Int))) (hK : ∀ (v8 : Int) (t_bytes : (Nat → Int)) (t_lengths : (Nat → Int)), K v8 t_bytes t_lengths = some R → zG X D 0 0 (wX4 aI q_t q_t_bytes q_t_lengths q_t_widths q_t_ofNumbers t_bytes t_lengths t_columns t_rows t_widths t_ofNumbers t_laidWidth ++ wX0 aI q_p1 q_p1_bytes q_p1_numbersOfLines q_p1_crossings q_p1_nextInks q_p1_gaps p1_bytes p1_numbersOfLines p1_plainCount p1_rules p1_firstRule p1_lastRule p1_headed p1_footed p1_width p1_crossings p1_nextInks p1_gaps) 115 [(8, .int (zI v8))] []) : ∀ (n : Nat) (v8 : Int) (v9 : Int) (t_bytes : (Nat → Int)) (t_lengths : (Nat → Int)), f_X4_joinCell_l82 K v2 v5 v7 p1_bytes n v8 v9 t_bytes t_lengths = some R → zG X D 0 0 (wX4 aI q_t q_t_bytes q_t_lengths q_t_widths q_t_ofNumbers t_bytes t_lengths t_columns t_rows t_widths t_ofNumbers t_laidWidth ++ wX0 aI q_p1 q_p1_bytes q_p1_numbersOfLines q_p1_crossings q_p1_nextInks q_p1_gaps p1_bytes p1_numbersOfLines p1_plainCount p1_rules p1_firstRule p1_lastRule p1_headed p1_footed p1_width p1_crossings p1_nextInks p1_gaps) 82 [(0, .ref q_t), (1, .ref q_p1), (2, .int (zI v2)), (5, .int (zI v5)), (7, .int (zI v7)), (8, .int (zI v8)), (9, .int (zI v9))] [] := by
  intro n
  induction n with
  | zero => intro v8 v9 t_bytes t_lengths hf; rw [f_X4_joinCell_l82_z] at hf; cases hf
  | succ n ih =>
    intro v8 v9 t_bytes t_lengths hf
    rw [f_X4_joinCell_l82_s] at hf
    refine z_iload 6 F (dX4_joinCell_1 1 rfl) rfl ?_
    refine z_iload 4 F (dX4_joinCell_1 2 rfl) rfl ?_
    refine z_icmp_ge (tgt := 115) F (dX4_joinCell_1 3 rfl) rfl (fun c86 => ?_) (fun c86 => ?_)
    · replace hf := zif_f c86 hf
      refine z_lv [5] rfl ?_
      exact hK v8 t_bytes t_lengths hf
    · replace hf := zif_t c86 hf
      refine z_iload 5 F (dX4_joinCell_1 4 rfl) rfl ?_
      refine z_if_eq (tgt := 115) F (dX4_joinCell_1 5 rfl) rfl (fun c91 => ?_) (fun c91 => ?_)
      · replace hf := zif_t c91 hf
        refine z_lv [5] rfl ?_
        exact hK v8 t_bytes t_lengths hf
      · replace hf := zif_f c91 hf
        refine z_aload_n 0 F (dX4_joinCell_1 6 rfl) rfl ?_
        refine z_iload 3 F (dX4_joinCell_1 7 rfl) rfl ?_
        refine z_aload_n 1 F (dX4_joinCell_1 8 rfl) rfl ?_
        refine z_iload_n 2 F (dX4_joinCell_1 9 rfl) rfl ?_
        refine z_iload 6 F (dX4_joinCell_1 10 rfl) rfl ?_
        obtain ⟨o_8, h_9, hf⟩ := zb_some hf
        refine z_callV (As := [.int (zI v2), .int (zI v9)]) (rest := [.int (zI v5), .ref q_t]) (wr := wX4 aI q_t q_t_bytes q_t_lengths q_t_widths q_t_ofNumbers t_bytes t_lengths t_columns t_rows t_widths t_ofNumbers t_laidWidth) F (dX4_joinCell_1 11 rfl) (k_X0_byteAt (zL X) D aI aZ q_p1 q_p1_bytes q_p1_numbersOfLines q_p1_crossings q_p1_nextInks q_p1_gaps p1_bytes p1_numbersOfLines p1_plainCount p1_rules p1_firstRule p1_lastRule p1_headed p1_footed p1_width p1_crossings p1_nextInks p1_gaps v2 v9 h_9) gX4_joinCell_X0_byteAt mX0_byteAt rfl (ci := 0) rfl [5, 6, 7, 8, 9, 10] [0, 1, 2, 3, 4] 0 rfl rfl rfl (by decide) rfl rfl (Nat.le_of_ble_eq_true rfl) ⟨Nat.le_of_ble_eq_true rfl, Nat.le_of_ble_eq_true rfl⟩ ⟨rfl, rfl⟩ ⟨Nat.le_of_ble_eq_true rfl, Nat.le_of_ble_eq_true rfl⟩ (z_plain (ws' := wX4 aI q_t q_t_bytes q_t_lengths q_t_widths q_t_ofNumbers t_bytes t_lengths t_columns t_rows t_widths t_ofNumbers t_laidWidth ++ wX0 aI q_p1 q_p1_bytes q_p1_numbersOfLines q_p1_crossings q_p1_nextInks q_p1_gaps p1_bytes p1_numbersOfLines p1_plainCount p1_rules p1_firstRule p1_lastRule p1_headed p1_footed p1_width p1_crossings p1_nextInks p1_gaps) (st' := [.int (zI o_8), .int (zI v5), .ref q_t]) [0, 1, 2, 3, 4, 5, 6, 7, 8, 9, 10] rfl (by decide) rfl ?_)
        obtain ⟨o_10, h_11, hf⟩ := zb_some hf
        refine z_callV (As := [.int (zI v5), .int (zI o_8)]) (rest := []) (wr := wX0 aI q_p1 q_p1_bytes q_p1_numbersOfLines q_p1_crossings q_p1_nextInks q_p1_gaps p1_bytes p1_numbersOfLines p1_plainCount p1_rules p1_firstRule p1_lastRule p1_headed p1_footed p1_width p1_crossings p1_nextInks p1_gaps) F (dX4_joinCell_1 12 rfl) (k_X4_addByte (zL X) D aI aZ q_t q_t_bytes q_t_lengths q_t_widths q_t_ofNumbers t_bytes t_lengths t_columns t_rows t_widths t_ofNumbers t_laidWidth v5 o_8 h_11) gX4_joinCell_X4_addByte mX4_addByte rfl (ci := 4) rfl [0, 1, 2, 3, 4] [5, 6, 7, 8, 9, 10] 0 rfl rfl rfl (by decide) rfl rfl (Nat.le_of_ble_eq_true rfl) ⟨Nat.le_of_ble_eq_true rfl, Nat.le_of_ble_eq_true rfl⟩ ⟨rfl, rfl⟩ ⟨Nat.le_of_ble_eq_true rfl, Nat.le_of_ble_eq_true rfl⟩ (z_plain (ws' := wX4 aI q_t q_t_bytes q_t_lengths q_t_widths q_t_ofNumbers o_10.2.1 o_10.2.2 t_columns t_rows t_widths t_ofNumbers t_laidWidth ++ wX0 aI q_p1 q_p1_bytes q_p1_numbersOfLines q_p1_crossings q_p1_nextInks q_p1_gaps p1_bytes p1_numbersOfLines p1_plainCount p1_rules p1_firstRule p1_lastRule p1_headed p1_footed p1_width p1_crossings p1_nextInks p1_gaps) (st' := [.int (zI o_10.1)]) [6, 7, 8, 9, 10, 0, 1, 2, 3, 4, 5] rfl (by decide) rfl ?_)
        refine z_istore (lv' := [(8, .int (zI o_10.1)), (0, .ref q_t), (1, .ref q_p1), (2, .int (zI v2)), (5, .int (zI v5)), (7, .int (zI v7)), (9, .int (zI v9))]) F (dX4_joinCell_1 13 rfl) (by decide) rfl ?_
        refine z_iinc (lv' := [(9, .int (zI (v9 + 1))), (8, .int (zI o_10.1)), (0, .ref q_t), (1, .ref q_p1), (2, .int (zI v2)), (5, .int (zI v5)), (7, .int (zI v7))]) 6 F (dX4_joinCell_1 14 rfl) rfl (by decide) rfl ?_
        refine z_goto (tgt := 82) F (dX4_joinCell_1 15 rfl) rfl ?_
        refine z_lv [2, 3, 4, 5, 6, 1, 0] rfl ?_
        exact ih o_10.1 (v9 + 1) o_10.2.1 o_10.2.2 hf
set_option maxRecDepth 20000 in
set_option maxHeartbeats 2000000 in
theorem b_X4_joinCell_j76 {X : zX} {D : va_G} {aI aZ : ClassId} {w0 : va_W} {Qp : Option Value → va_W → Prop} (F : zF X D aI aZ cX4_joinCell 10 RX4 wsX4_joinCell rmX4_joinCell) (E : zT X D w0 Qp 0 0 (some .boolean)) (q_t q_t_bytes q_t_lengths q_t_widths q_t_ofNumbers q_p1 q_p1_bytes q_p1_numbersOfLines q_p1_crossings q_p1_nextInks q_p1_gaps : Nat) (s0 : Int) (v2 : Int) (v5 : Int) (v6 : Int) (v7 : Int) (t_bytes : (Nat → Int)) (t_lengths : (Nat → Int)) (t_columns : Int) (t_rows : Int) (t_widths : (Nat → Int)) (t_ofNumbers : (Nat → Int)) (t_laidWidth : Int) (p1_bytes : (Nat → Int)) (p1_numbersOfLines : (Nat → Int)) (p1_plainCount : Int) (p1_rules : Int) (p1_firstRule : Int) (p1_lastRule : Int) (p1_headed : Int) (p1_footed : Int) (p1_width : Int) (p1_crossings : (Nat → Int)) (p1_nextInks : (Nat → Int)) (p1_gaps : (Nat → Int)) {R : Int × (Nat → Int) × (Nat → Int)} (hQ : Qp (some (.int (zI R.1))) (wX4 aI q_t q_t_bytes q_t_lengths q_t_widths q_t_ofNumbers R.2.1 R.2.2 t_columns t_rows t_widths t_ofNumbers t_laidWidth ++ wX0 aI q_p1 q_p1_bytes q_p1_numbersOfLines q_p1_crossings q_p1_nextInks q_p1_gaps p1_bytes p1_numbersOfLines p1_plainCount p1_rules p1_firstRule p1_lastRule p1_headed p1_footed p1_width p1_crossings p1_nextInks p1_gaps)) (hf : f_X4_joinCell_j76 s0 v2 v5 v6 v7 t_bytes t_lengths p1_bytes = some R) : zG X D 0 0 (wX4 aI q_t q_t_bytes q_t_lengths q_t_widths q_t_ofNumbers t_bytes t_lengths t_columns t_rows t_widths t_ofNumbers t_laidWidth ++ wX0 aI q_p1 q_p1_bytes q_p1_numbersOfLines q_p1_crossings q_p1_nextInks q_p1_gaps p1_bytes p1_numbersOfLines p1_plainCount p1_rules p1_firstRule p1_lastRule p1_headed p1_footed p1_width p1_crossings p1_nextInks p1_gaps) 76 [(0, .ref q_t), (1, .ref q_p1), (2, .int (zI v2)), (5, .int (zI v5)), (6, .int (zI v6)), (7, .int (zI v7))] [.int (zI s0)] := by
  unfold f_X4_joinCell_j76 at hf
  refine z_istore (lv' := [(8, .int (zI s0)), (0, .ref q_t), (1, .ref q_p1), (2, .int (zI v2)), (5, .int (zI v5)), (6, .int (zI v6)), (7, .int (zI v7))]) F (dX4_joinCell_0 38 rfl) (by decide) rfl ?_
  refine z_iload 5 F (dX4_joinCell_0 39 rfl) rfl ?_
  refine z_istore (lv' := [(9, .int (zI v6)), (8, .int (zI s0)), (0, .ref q_t), (1, .ref q_p1), (2, .int (zI v2)), (5, .int (zI v5)), (6, .int (zI v6)), (7, .int (zI v7))]) F (dX4_joinCell_1 0 rfl) (by decide) rfl ?_
  refine z_lv [2, 3, 4, 5, 7, 1, 0] rfl ?_
  refine b_X4_joinCell_l82 F E q_t q_t_bytes q_t_lengths q_t_widths q_t_ofNumbers q_p1 q_p1_bytes q_p1_numbersOfLines q_p1_crossings q_p1_nextInks q_p1_gaps v2 v5 v7 t_columns t_rows t_widths t_ofNumbers t_laidWidth p1_bytes p1_numbersOfLines p1_plainCount p1_rules p1_firstRule p1_lastRule p1_headed p1_footed p1_width p1_crossings p1_nextInks p1_gaps hQ _ ?_ zN s0 v6 t_bytes t_lengths hf
  intro v8_12 t_bytes_13 t_lengths_14 hf
  refine z_iload 0 F (dX4_joinCell_1 16 rfl) rfl ?_
  obtain ⟨hb_15, hf⟩ := zch_some hf
  cases hf
  exact z_zret [0, 1, 2, 3, 4, 5, 6, 7, 8, 9, 10] F E (dX4_joinCell_1 17 rfl) hb_15 rfl (by decide) hQ
set_option maxRecDepth 20000 in
set_option maxHeartbeats 2000000 in
theorem b_X4_joinCell_j71 {X : zX} {D : va_G} {aI aZ : ClassId} {w0 : va_W} {Qp : Option Value → va_W → Prop} (F : zF X D aI aZ cX4_joinCell 10 RX4 wsX4_joinCell rmX4_joinCell) (E : zT X D w0 Qp 0 0 (some .boolean)) (q_t q_t_bytes q_t_lengths q_t_widths q_t_ofNumbers q_p1 q_p1_bytes q_p1_numbersOfLines q_p1_crossings q_p1_nextInks q_p1_gaps : Nat) (v2 : Int) (v5 : Int) (v6 : Int) (v7 : Int) (t_bytes : (Nat → Int)) (t_lengths : (Nat → Int)) (t_columns : Int) (t_rows : Int) (t_widths : (Nat → Int)) (t_ofNumbers : (Nat → Int)) (t_laidWidth : Int) (p1_bytes : (Nat → Int)) (p1_numbersOfLines : (Nat → Int)) (p1_plainCount : Int) (p1_rules : Int) (p1_firstRule : Int) (p1_lastRule : Int) (p1_headed : Int) (p1_footed : Int) (p1_width : Int) (p1_crossings : (Nat → Int)) (p1_nextInks : (Nat → Int)) (p1_gaps : (Nat → Int)) {R : Int × (Nat → Int) × (Nat → Int)} (hQ : Qp (some (.int (zI R.1))) (wX4 aI q_t q_t_bytes q_t_lengths q_t_widths q_t_ofNumbers R.2.1 R.2.2 t_columns t_rows t_widths t_ofNumbers t_laidWidth ++ wX0 aI q_p1 q_p1_bytes q_p1_numbersOfLines q_p1_crossings q_p1_nextInks q_p1_gaps p1_bytes p1_numbersOfLines p1_plainCount p1_rules p1_firstRule p1_lastRule p1_headed p1_footed p1_width p1_crossings p1_nextInks p1_gaps)) (hf : f_X4_joinCell_j71 v2 v5 v6 v7 t_bytes t_lengths p1_bytes = some R) : zG X D 0 0 (wX4 aI q_t q_t_bytes q_t_lengths q_t_widths q_t_ofNumbers t_bytes t_lengths t_columns t_rows t_widths t_ofNumbers t_laidWidth ++ wX0 aI q_p1 q_p1_bytes q_p1_numbersOfLines q_p1_crossings q_p1_nextInks q_p1_gaps p1_bytes p1_numbersOfLines p1_plainCount p1_rules p1_firstRule p1_lastRule p1_headed p1_footed p1_width p1_crossings p1_nextInks p1_gaps) 71 [(0, .ref q_t), (1, .ref q_p1), (2, .int (zI v2)), (5, .int (zI v5)), (6, .int (zI v6)), (7, .int (zI v7))] [] := by
  unfold f_X4_joinCell_j71 at hf
  refine z_iconst F (dX4_joinCell_0 35 rfl) ?_
  refine z_goto (tgt := 76) F (dX4_joinCell_0 36 rfl) rfl ?_
  exact b_X4_joinCell_j76 F E q_t q_t_bytes q_t_lengths q_t_widths q_t_ofNumbers q_p1 q_p1_bytes q_p1_numbersOfLines q_p1_crossings q_p1_nextInks q_p1_gaps 1 v2 v5 v6 v7 t_bytes t_lengths t_columns t_rows t_widths t_ofNumbers t_laidWidth p1_bytes p1_numbersOfLines p1_plainCount p1_rules p1_firstRule p1_lastRule p1_headed p1_footed p1_width p1_crossings p1_nextInks p1_gaps hQ hf
set_option maxRecDepth 20000 in
set_option maxHeartbeats 2000000 in
theorem b_X4_joinCell_j39 {X : zX} {D : va_G} {aI aZ : ClassId} {w0 : va_W} {Qp : Option Value → va_W → Prop} (F : zF X D aI aZ cX4_joinCell 10 RX4 wsX4_joinCell rmX4_joinCell) (E : zT X D w0 Qp 0 0 (some .boolean)) (q_t q_t_bytes q_t_lengths q_t_widths q_t_ofNumbers q_p1 q_p1_bytes q_p1_numbersOfLines q_p1_crossings q_p1_nextInks q_p1_gaps : Nat) (v2 : Int) (v5 : Int) (v6 : Int) (v7 : Int) (t_bytes : (Nat → Int)) (t_lengths : (Nat → Int)) (t_columns : Int) (t_rows : Int) (t_widths : (Nat → Int)) (t_ofNumbers : (Nat → Int)) (t_laidWidth : Int) (p1_bytes : (Nat → Int)) (p1_numbersOfLines : (Nat → Int)) (p1_plainCount : Int) (p1_rules : Int) (p1_firstRule : Int) (p1_lastRule : Int) (p1_headed : Int) (p1_footed : Int) (p1_width : Int) (p1_crossings : (Nat → Int)) (p1_nextInks : (Nat → Int)) (p1_gaps : (Nat → Int)) {R : Int × (Nat → Int) × (Nat → Int)} (hQ : Qp (some (.int (zI R.1))) (wX4 aI q_t q_t_bytes q_t_lengths q_t_widths q_t_ofNumbers R.2.1 R.2.2 t_columns t_rows t_widths t_ofNumbers t_laidWidth ++ wX0 aI q_p1 q_p1_bytes q_p1_numbersOfLines q_p1_crossings q_p1_nextInks q_p1_gaps p1_bytes p1_numbersOfLines p1_plainCount p1_rules p1_firstRule p1_lastRule p1_headed p1_footed p1_width p1_crossings p1_nextInks p1_gaps)) (hf : f_X4_joinCell_j39 v2 v5 v6 v7 t_bytes t_lengths p1_bytes = some R) : zG X D 0 0 (wX4 aI q_t q_t_bytes q_t_lengths q_t_widths q_t_ofNumbers t_bytes t_lengths t_columns t_rows t_widths t_ofNumbers t_laidWidth ++ wX0 aI q_p1 q_p1_bytes q_p1_numbersOfLines q_p1_crossings q_p1_nextInks q_p1_gaps p1_bytes p1_numbersOfLines p1_plainCount p1_rules p1_firstRule p1_lastRule p1_headed p1_footed p1_width p1_crossings p1_nextInks p1_gaps) 39 [(0, .ref q_t), (1, .ref q_p1), (2, .int (zI v2)), (5, .int (zI v5)), (6, .int (zI v6)), (7, .int (zI v7))] [] := by
  unfold f_X4_joinCell_j39 at hf
  refine z_iload 4 F (dX4_joinCell_0 20 rfl) rfl ?_
  refine z_iload 5 F (dX4_joinCell_0 21 rfl) rfl ?_
  refine z_icmp_ne (tgt := 48) F (dX4_joinCell_0 22 rfl) rfl (fun c43 => ?_) (fun c43 => ?_)
  · replace hf := zif_f c43 hf
    refine z_aload_n 0 F (dX4_joinCell_0 25 rfl) rfl ?_
    refine z_get (v := .ref q_t_lengths) 0 F (dX4_joinCell_0 26 rfl) fl_X4_joinCell_15 rfl rfl ?_
    refine z_iload 3 F (dX4_joinCell_0 27 rfl) rfl ?_
    obtain ⟨o_6, h_7, hf⟩ := zb_some hf
    refine z_callN (As := [.ref q_t_lengths, .int (zI v5)]) (rest := []) (wr := [(q_t, .inr (4, [.ref q_t_bytes, .ref q_t_lengths, .int (zI t_columns), .int (zI t_rows), .ref q_t_widths, .ref q_t_ofNumbers, .int (zI t_laidWidth)]))] ++ ([(q_t_bytes, .inl (aI, 20160, .inl (fun j => zI (t_bytes j))))] ++ ([(q_t_widths, .inl (aI, 8, .inl (fun j => zI (t_widths j))))] ++ ([(q_t_ofNumbers, .inl (aI, 8, .inl (fun j => zI (t_ofNumbers j))))] ++ wX0 aI q_p1 q_p1_bytes q_p1_numbersOfLines q_p1_crossings q_p1_nextInks q_p1_gaps p1_bytes p1_numbersOfLines p1_plainCount p1_rules p1_firstRule p1_lastRule p1_headed p1_footed p1_width p1_crossings p1_nextInks p1_gaps)))) F (dX4_joinCell_0 28 rfl) (k_X5_pick (zL X) D aI aZ q_t_lengths 336 (by decide) t_lengths v5 h_7) gX4_joinCell_X5_pick_n35 mX5_pick nst_X4_X5_pick sw1_X4_joinCell_X5_pick sw2_X4_joinCell_X5_pick [2] [0, 1, 3, 4, 5, 6, 7, 8, 9, 10] rfl rfl (by decide) rfl rfl (Nat.le_of_ble_eq_true rfl) ⟨Nat.le_of_ble_eq_true rfl, Nat.le_of_ble_eq_true rfl⟩ ⟨rfl, rfl⟩ ⟨Nat.le_of_ble_eq_true rfl, Nat.le_of_ble_eq_true rfl⟩ (z_plain (ws' := wX4 aI q_t q_t_bytes q_t_lengths q_t_widths q_t_ofNumbers t_bytes t_lengths t_columns t_rows t_widths t_ofNumbers t_laidWidth ++ wX0 aI q_p1 q_p1_bytes q_p1_numbersOfLines q_p1_crossings q_p1_nextInks q_p1_gaps p1_bytes p1_numbersOfLines p1_plainCount p1_rules p1_firstRule p1_lastRule p1_headed p1_footed p1_width p1_crossings p1_nextInks p1_gaps) (st' := [.int (zI o_6)]) [0, 1, 10, 2, 3, 4, 5, 6, 7, 8, 9] rfl (by decide) rfl ?_)
    refine z_if_eq (tgt := 71) F (dX4_joinCell_0 29 rfl) rfl (fun c57 => ?_) (fun c57 => ?_)
    · replace hf := zif_t c57 hf
      exact b_X4_joinCell_j71 F E q_t q_t_bytes q_t_lengths q_t_widths q_t_ofNumbers q_p1 q_p1_bytes q_p1_numbersOfLines q_p1_crossings q_p1_nextInks q_p1_gaps v2 v5 v6 v7 t_bytes t_lengths t_columns t_rows t_widths t_ofNumbers t_laidWidth p1_bytes p1_numbersOfLines p1_plainCount p1_rules p1_firstRule p1_lastRule p1_headed p1_footed p1_width p1_crossings p1_nextInks p1_gaps hQ hf
    · replace hf := zif_f c57 hf
      refine z_aload_n 0 F (dX4_joinCell_0 30 rfl) rfl ?_
      refine z_iload 3 F (dX4_joinCell_0 31 rfl) rfl ?_
      refine z_bipush F (dX4_joinCell_0 32 rfl) rfl ?_
      obtain ⟨o_16, h_17, hf⟩ := zb_some hf
      refine z_callV (As := [.int (zI v5), .int (zI 32)]) (rest := []) (wr := wX0 aI q_p1 q_p1_bytes q_p1_numbersOfLines q_p1_crossings q_p1_nextInks q_p1_gaps p1_bytes p1_numbersOfLines p1_plainCount p1_rules p1_firstRule p1_lastRule p1_headed p1_footed p1_width p1_crossings p1_nextInks p1_gaps) F (dX4_joinCell_0 33 rfl) (k_X4_addByte (zL X) D aI aZ q_t q_t_bytes q_t_lengths q_t_widths q_t_ofNumbers t_bytes t_lengths t_columns t_rows t_widths t_ofNumbers t_laidWidth v5 32 h_17) gX4_joinCell_X4_addByte mX4_addByte rfl (ci := 4) rfl [0, 1, 2, 3, 4] [5, 6, 7, 8, 9, 10] 0 rfl rfl rfl (by decide) rfl rfl (Nat.le_of_ble_eq_true rfl) ⟨Nat.le_of_ble_eq_true rfl, Nat.le_of_ble_eq_true rfl⟩ ⟨rfl, rfl⟩ ⟨Nat.le_of_ble_eq_true rfl, Nat.le_of_ble_eq_true rfl⟩ (z_plain (ws' := wX4 aI q_t q_t_bytes q_t_lengths q_t_widths q_t_ofNumbers o_16.2.1 o_16.2.2 t_columns t_rows t_widths t_ofNumbers t_laidWidth ++ wX0 aI q_p1 q_p1_bytes q_p1_numbersOfLines q_p1_crossings q_p1_nextInks q_p1_gaps p1_bytes p1_numbersOfLines p1_plainCount p1_rules p1_firstRule p1_lastRule p1_headed p1_footed p1_width p1_crossings p1_nextInks p1_gaps) (st' := [.int (zI o_16.1)]) [6, 7, 8, 9, 10, 0, 1, 2, 3, 4, 5] rfl (by decide) rfl ?_)
      refine z_if_eq (tgt := 75) F (dX4_joinCell_0 34 rfl) rfl (fun c68 => ?_) (fun c68 => ?_)
      · replace hf := zif_t c68 hf
        refine z_iconst F (dX4_joinCell_0 37 rfl) ?_
        exact b_X4_joinCell_j76 F E q_t q_t_bytes q_t_lengths q_t_widths q_t_ofNumbers q_p1 q_p1_bytes q_p1_numbersOfLines q_p1_crossings q_p1_nextInks q_p1_gaps 0 v2 v5 v6 v7 o_16.2.1 o_16.2.2 t_columns t_rows t_widths t_ofNumbers t_laidWidth p1_bytes p1_numbersOfLines p1_plainCount p1_rules p1_firstRule p1_lastRule p1_headed p1_footed p1_width p1_crossings p1_nextInks p1_gaps hQ hf
      · replace hf := zif_f c68 hf
        exact b_X4_joinCell_j71 F E q_t q_t_bytes q_t_lengths q_t_widths q_t_ofNumbers q_p1 q_p1_bytes q_p1_numbersOfLines q_p1_crossings q_p1_nextInks q_p1_gaps v2 v5 v6 v7 o_16.2.1 o_16.2.2 t_columns t_rows t_widths t_ofNumbers t_laidWidth p1_bytes p1_numbersOfLines p1_plainCount p1_rules p1_firstRule p1_lastRule p1_headed p1_footed p1_width p1_crossings p1_nextInks p1_gaps hQ hf
  · replace hf := zif_t c43 hf
    refine z_iconst F (dX4_joinCell_0 23 rfl) ?_
    cases hf
    exact z_zret [0, 1, 2, 3, 4, 5, 6, 7, 8, 9, 10] F E (dX4_joinCell_0 24 rfl) (Or.inr rfl) rfl (by decide) hQ
set_option maxRecDepth 20000 in
set_option maxHeartbeats 2000000 in
theorem b_X4_joinCell_0 {X : zX} {D : va_G} {aI aZ : ClassId} {w0 : va_W} {Qp : Option Value → va_W → Prop} (F : zF X D aI aZ cX4_joinCell 10 RX4 wsX4_joinCell rmX4_joinCell) (E : zT X D w0 Qp 0 0 (some .boolean)) (q_t q_t_bytes q_t_lengths q_t_widths q_t_ofNumbers q_p1 q_p1_bytes q_p1_numbersOfLines q_p1_crossings q_p1_nextInks q_p1_gaps : Nat) (t_bytes : (Nat → Int)) (t_lengths : (Nat → Int)) (t_columns : Int) (t_rows : Int) (t_widths : (Nat → Int)) (t_ofNumbers : (Nat → Int)) (t_laidWidth : Int) (p1_bytes : (Nat → Int)) (p1_numbersOfLines : (Nat → Int)) (p1_plainCount : Int) (p1_rules : Int) (p1_firstRule : Int) (p1_lastRule : Int) (p1_headed : Int) (p1_footed : Int) (p1_width : Int) (p1_crossings : (Nat → Int)) (p1_nextInks : (Nat → Int)) (p1_gaps : (Nat → Int)) (v2 : Int) (v3 : Int) (v4 : Int) (v5 : Int) {R : Int × (Nat → Int) × (Nat → Int)} (hQ : Qp (some (.int (zI R.1))) (wX4 aI q_t q_t_bytes q_t_lengths q_t_widths q_t_ofNumbers R.2.1 R.2.2 t_columns t_rows t_widths t_ofNumbers t_laidWidth ++ wX0 aI q_p1 q_p1_bytes q_p1_numbersOfLines q_p1_crossings q_p1_nextInks q_p1_gaps p1_bytes p1_numbersOfLines p1_plainCount p1_rules p1_firstRule p1_lastRule p1_headed p1_footed p1_width p1_crossings p1_nextInks p1_gaps)) (hf : f_X4_joinCell t_bytes t_lengths p1_bytes v2 v3 v4 v5 = some R) : zG X D 0 0 (wX4 aI q_t q_t_bytes q_t_lengths q_t_widths q_t_ofNumbers t_bytes t_lengths t_columns t_rows t_widths t_ofNumbers t_laidWidth ++ wX0 aI q_p1 q_p1_bytes q_p1_numbersOfLines q_p1_crossings q_p1_nextInks q_p1_gaps p1_bytes p1_numbersOfLines p1_plainCount p1_rules p1_firstRule p1_lastRule p1_headed p1_footed p1_width p1_crossings p1_nextInks p1_gaps) 0 [(0, .ref q_t), (1, .ref q_p1), (2, .int (zI v2)), (3, .int (zI v3)), (4, .int (zI v4)), (5, .int (zI v5))] [] := by
  unfold f_X4_joinCell at hf
  refine z_aload_n 1 F (dX4_joinCell_0 0 rfl) rfl ?_
  refine z_iload_n 2 F (dX4_joinCell_0 1 rfl) rfl ?_
  refine z_iload_n 3 F (dX4_joinCell_0 2 rfl) rfl ?_
  refine z_iload 4 F (dX4_joinCell_0 3 rfl) rfl ?_
  obtain ⟨o_1, h_2, hf⟩ := zb_some hf
  refine z_callS (As := [.ref q_p1, .int (zI v2), .int (zI v3), .int (zI v4)]) (rest := []) (wr := wX4 aI q_t q_t_bytes q_t_lengths q_t_widths q_t_ofNumbers t_bytes t_lengths t_columns t_rows t_widths t_ofNumbers t_laidWidth) F (dX4_joinCell_0 4 rfl) (k_X4_firstInk (zL X) D aI aZ q_p1 q_p1_bytes q_p1_numbersOfLines q_p1_crossings q_p1_nextInks q_p1_gaps p1_bytes p1_numbersOfLines p1_plainCount p1_rules p1_firstRule p1_lastRule p1_headed p1_footed p1_width p1_crossings p1_nextInks p1_gaps v2 v3 v4 h_2) gX4_joinCell_X4_firstInk mX4_firstInk rfl [5, 6, 7, 8, 9, 10] [0, 1, 2, 3, 4] rfl rfl (by decide) rfl rfl (Nat.le_of_ble_eq_true rfl) ⟨Nat.le_of_ble_eq_true rfl, Nat.le_of_ble_eq_true rfl⟩ ⟨rfl, rfl⟩ ⟨Nat.le_of_ble_eq_true rfl, Nat.le_of_ble_eq_true rfl⟩ (z_plain (ws' := wX4 aI q_t q_t_bytes q_t_lengths q_t_widths q_t_ofNumbers t_bytes t_lengths t_columns t_rows t_widths t_ofNumbers t_laidWidth ++ wX0 aI q_p1 q_p1_bytes q_p1_numbersOfLines q_p1_crossings q_p1_nextInks q_p1_gaps p1_bytes p1_numbersOfLines p1_plainCount p1_rules p1_firstRule p1_lastRule p1_headed p1_footed p1_width p1_crossings p1_nextInks p1_gaps) (st' := [.int (zI o_1)]) [0, 1, 2, 3, 4, 5, 6, 7, 8, 9, 10] rfl (by decide) rfl ?_)
  refine z_istore (lv' := [(6, .int (zI o_1)), (0, .ref q_t), (1, .ref q_p1), (2, .int (zI v2)), (3, .int (zI v3)), (4, .int (zI v4)), (5, .int (zI v5))]) F (dX4_joinCell_0 5 rfl) (by decide) rfl ?_
  refine z_iload 5 F (dX4_joinCell_0 6 rfl) rfl ?_
  refine z_istore (lv' := [(7, .int (zI v4)), (6, .int (zI o_1)), (0, .ref q_t), (1, .ref q_p1), (2, .int (zI v2)), (3, .int (zI v3)), (4, .int (zI v4)), (5, .int (zI v5))]) F (dX4_joinCell_0 7 rfl) (by decide) rfl ?_
  refine z_lv [2, 3, 4, 7, 1, 0] rfl ?_
  refine b_X4_joinCell_l14 F E q_t q_t_bytes q_t_lengths q_t_widths q_t_ofNumbers q_p1 q_p1_bytes q_p1_numbersOfLines q_p1_crossings q_p1_nextInks q_p1_gaps v2 v5 o_1 t_bytes t_lengths t_columns t_rows t_widths t_ofNumbers t_laidWidth p1_bytes p1_numbersOfLines p1_plainCount p1_rules p1_firstRule p1_lastRule p1_headed p1_footed p1_width p1_crossings p1_nextInks p1_gaps hQ _ ?_ zN v4 hf
  intro v7_5 hf
  exact b_X4_joinCell_j39 F E q_t q_t_bytes q_t_lengths q_t_widths q_t_ofNumbers q_p1 q_p1_bytes q_p1_numbersOfLines q_p1_crossings q_p1_nextInks q_p1_gaps v2 v5 o_1 v7_5 t_bytes t_lengths t_columns t_rows t_widths t_ofNumbers t_laidWidth p1_bytes p1_numbersOfLines p1_plainCount p1_rules p1_firstRule p1_lastRule p1_headed p1_footed p1_width p1_crossings p1_nextInks p1_gaps hQ hf
set_option maxRecDepth 20000 in
set_option maxHeartbeats 2000000 in
theorem k_X4_joinCell (l : Launch) (D : va_G) (aI aZ : ClassId) (q_t q_t_bytes q_t_lengths q_t_widths q_t_ofNumbers q_p1 q_p1_bytes q_p1_numbersOfLines q_p1_crossings q_p1_nextInks q_p1_gaps : Nat) (t_bytes : (Nat → Int)) (t_lengths : (Nat → Int)) (t_columns : Int) (t_rows : Int) (t_widths : (Nat → Int)) (t_ofNumbers : (Nat → Int)) (t_laidWidth : Int) (p1_bytes : (Nat → Int)) (p1_numbersOfLines : (Nat → Int)) (p1_plainCount : Int) (p1_rules : Int) (p1_firstRule : Int) (p1_lastRule : Int) (p1_headed : Int) (p1_footed : Int) (p1_width : Int) (p1_crossings : (Nat → Int)) (p1_nextInks : (Nat → Int)) (p1_gaps : (Nat → Int)) (v2 : Int) (v3 : Int) (v4 : Int) (v5 : Int) {R : Int × (Nat → Int) × (Nat → Int)} (hf : f_X4_joinCell t_bytes t_lengths p1_bytes v2 v3 v4 v5 = some R) : zC l D aI aZ yX4_joinCell wsX4_joinCell rmX4_joinCell [.ref q_t, .ref q_p1, .int (zI v2), .int (zI v3), .int (zI v4), .int (zI v5)] (wX4 aI q_t q_t_bytes q_t_lengths q_t_widths q_t_ofNumbers t_bytes t_lengths t_columns t_rows t_widths t_ofNumbers t_laidWidth ++ wX0 aI q_p1 q_p1_bytes q_p1_numbersOfLines q_p1_crossings q_p1_nextInks q_p1_gaps p1_bytes p1_numbersOfLines p1_plainCount p1_rules p1_firstRule p1_lastRule p1_headed p1_footed p1_width p1_crossings p1_nextInks p1_gaps) (fun r w => r = (some (.int (zI R.1))) ∧ w = wX4 aI q_t q_t_bytes q_t_lengths q_t_widths q_t_ofNumbers R.2.1 R.2.2 t_columns t_rows t_widths t_ofNumbers t_laidWidth ++ wX0 aI q_p1 q_p1_bytes q_p1_numbersOfLines q_p1_crossings q_p1_nextInks q_p1_gaps p1_bytes p1_numbersOfLines p1_plainCount p1_rules p1_firstRule p1_lastRule p1_headed p1_footed p1_width p1_crossings p1_nextInks p1_gaps) 0 0 := by
  refine z_met (cc := cX4_joinCell) (maxL := 10) (ret := (some .boolean)) (by decide +kernel) rfl (Nat.le_of_ble_eq_true rfl) (fun X hX F E => ?_)
  exact b_X4_joinCell_0 F E q_t q_t_bytes q_t_lengths q_t_widths q_t_ofNumbers q_p1 q_p1_bytes q_p1_numbersOfLines q_p1_crossings q_p1_nextInks q_p1_gaps t_bytes t_lengths t_columns t_rows t_widths t_ofNumbers t_laidWidth p1_bytes p1_numbersOfLines p1_plainCount p1_rules p1_firstRule p1_lastRule p1_headed p1_footed p1_width p1_crossings p1_nextInks p1_gaps v2 v3 v4 v5 ⟨rfl, rfl⟩ hf
theorem inw_X4_fill_1 : ∀ w ∈ u_ws RX1 TX1 7, w ∈ wsX4_fill := by decide +kernel
theorem fl_X4_fill_46 : zfn wsX4_fill RX4 46 1 1 RX1 TX1 7 := ⟨inw_X4_fill_1, rfl, by decide, by decide +kernel⟩
theorem inw_X4_fill_4 : ∀ w ∈ u_ws RX4 TX4 7, w ∈ wsX4_fill := by decide +kernel
theorem fl_X4_fill_24 : zfl wsX4_fill RX4 24 4 2 RX4 TX4 7 := ⟨inw_X4_fill_4, rfl, by decide, by decide +kernel⟩
theorem fl_X4_fill_28 : zfl wsX4_fill RX4 28 4 3 RX4 TX4 7 := ⟨inw_X4_fill_4, rfl, by decide, by decide +kernel⟩
theorem fl_X4_fill_15 : zfl wsX4_fill RX4 15 4 1 RX4 TX4 7 := ⟨inw_X4_fill_4, rfl, by decide, by decide +kernel⟩
theorem sw1_X4_fill_X5_put : Cond.static yX5_put ∈ wsX4_fill := by decide +kernel
theorem sw2_X4_fill_X5_put : Cond.initialized yX5_put.cls ∈ wsX4_fill := by decide +kernel
theorem inw_X4_fill_0 : ∀ w ∈ u_ws RX0 TX0 12, w ∈ wsX4_fill := by decide +kernel
theorem fl_X4_fill_53 : zfn wsX4_fill RX4 53 0 2 RX0 TX0 12 := ⟨inw_X4_fill_0, rfl, by decide, by decide +kernel⟩
theorem fl_X4_fill_62 : zfn wsX4_fill RX4 62 1 0 RX1 TX1 7 := ⟨inw_X4_fill_1, rfl, by decide, by decide +kernel⟩
theorem sw1_X4_fill_X5_pick : Cond.static yX5_pick ∈ wsX4_fill := by decide +kernel
theorem sw2_X4_fill_X5_pick : Cond.initialized yX5_pick.cls ∈ wsX4_fill := by decide +kernel
abbrev rmX4_fill : Room := { frames := 4, cells := 0, slots := 0, locals := 96 }
theorem mX4_fill : zY yX4_fill cX4_fill 8 (some .boolean) wsX4_fill 2 := ⟨⟨_, rfl⟩, by decide +kernel, by decide +kernel, by decide +kernel⟩
set_option maxRecDepth 20000 in
set_option maxHeartbeats 2000000 in
theorem b_X4_fill_l15 {X : zX} {D : va_G} {aI aZ : ClassId} {w0 : va_W} {Qp : Option Value → va_W → Prop} (F : zF X D aI aZ cX4_fill 8 RX4 wsX4_fill rmX4_fill) (E : zT X D w0 Qp 0 0 (some .boolean)) (q_t q_t_bytes q_t_lengths q_t_widths q_t_ofNumbers q_p1 q_p1_bytes q_p1_numbersOfLines q_p1_crossings q_p1_nextInks q_p1_gaps q_p2 q_p2_cuts : Nat) (t_bytes : (Nat → Int)) (t_columns : Int) (t_rows : Int) (t_widths : (Nat → Int)) (t_ofNumbers : (Nat → Int)) (t_laidWidth : Int) (p1_bytes : (Nat → Int)) (p1_numbersOfLines : (Nat → Int)) (p1_plainCount : Int) (p1_rules : Int) (p1_firstRule : Int) (p1_lastRule : Int) (p1_headed : Int) (p1_footed : Int) (p1_width : Int) (p1_crossings : (Nat → Int)) (p1_nextInks : (Nat → Int)) (p1_gaps : (Nat → Int)) (p2_cuts : (Nat → Int)) (p2_columns : Int) (p2_best : Int) (p2_next : Int) (p2_plainLines : Int) (p2_rules : Int) (p2_joinedLines : Int) {R : Int × (Nat → Int) × (Nat → Int) × Int × Int × Int} (hQ : Qp (some (.int (zI R.1))) (wX4 aI q_t q_t_bytes q_t_lengths q_t_widths q_t_ofNumbers R.2.1 R.2.2.1 R.2.2.2.1 R.2.2.2.2.1 t_widths t_ofNumbers t_laidWidth ++ (wX0 aI q_p1 q_p1_bytes q_p1_numbersOfLines q_p1_crossings q_p1_nextInks q_p1_gaps p1_bytes p1_numbersOfLines p1_plainCount p1_rules p1_firstRule p1_lastRule p1_headed p1_footed p1_width p1_crossings p1_nextInks p1_gaps ++ wX1 aI q_p2 q_p2_cuts p2_cuts p2_columns p2_best p2_next p2_plainLines p2_rules R.2.2.2.2.2))) (K : (Nat → Int) → Option (Int × (Nat → Int) × (Nat → Int) × Int × Int × Int)) (hK : ∀ (t_lengths : (Nat → Int)), K t_lengths = some R → zG X D 0 0 (wX4 aI q_t q_t_bytes q_t_lengths q_t_widths q_t_ofNumbers t_bytes t_lengths t_columns t_rows t_widths t_ofNumbers t_laidWidth ++ (wX0 aI q_p1 q_p1_bytes q_p1_numbersOfLines q_p1_crossings q_p1_nextInks q_p1_gaps p1_bytes p1_numbersOfLines p1_plainCount p1_rules p1_firstRule p1_lastRule p1_headed p1_footed p1_width p1_crossings p1_nextInks p1_gaps ++ wX1 aI q_p2 q_p2_cuts p2_cuts p2_columns p2_best p2_next p2_plainLines p2_rules p2_joinedLines)) 39 [(0, .ref q_t), (1, .ref q_p1), (2, .ref q_p2)] []) : ∀ (n : Nat) (v3 : Int) (t_lengths : (Nat → Int)), f_X4_fill_l15 K n v3 t_lengths = some R → zG X D 0 0 (wX4 aI q_t q_t_bytes q_t_lengths q_t_widths q_t_ofNumbers t_bytes t_lengths t_columns t_rows t_widths t_ofNumbers t_laidWidth ++ (wX0 aI q_p1 q_p1_bytes q_p1_numbersOfLines q_p1_crossings q_p1_nextInks q_p1_gaps p1_bytes p1_numbersOfLines p1_plainCount p1_rules p1_firstRule p1_lastRule p1_headed p1_footed p1_width p1_crossings p1_nextInks p1_gaps ++ wX1 aI q_p2 q_p2_cuts p2_cuts p2_columns p2_best p2_next p2_plainLines p2_rules p2_joinedLines)) 15 [(0, .ref q_t), (1, .ref q_p1), (2, .ref q_p2), (3, .int (zI v3))] [] := by
  intro n
  induction n with
  | zero => intro v3 t_lengths hf; rw [f_X4_fill_l15_z] at hf; cases hf
  | succ n ih =>
    intro v3 t_lengths hf
    rw [f_X4_fill_l15_s] at hf
    refine z_iload_n 3 F (dX4_fill_0 9 rfl) rfl ?_
    refine z_aload_n 0 F (dX4_fill_0 10 rfl) rfl ?_
    refine z_get (v := .ref q_t_lengths) 0 F (dX4_fill_0 11 rfl) fl_X4_fill_15 rfl rfl ?_
    refine z_alen (nn := 336) 2 F (dX4_fill_0 12 rfl) rfl rfl ?_
    refine z_icmp_ge (tgt := 39) F (dX4_fill_0 13 rfl) rfl (fun c21 => ?_) (fun c21 => ?_)
    · replace hf := zif_f c21 hf
      refine z_lv [0, 1, 2] rfl ?_
      exact hK t_lengths hf
    · replace hf := zif_t c21 hf
      refine z_aload_n 0 F (dX4_fill_0 14 rfl) rfl ?_
      refine z_get (v := .ref q_t_lengths) 0 F (dX4_fill_0 15 rfl) fl_X4_fill_15 rfl rfl ?_
      refine z_iload_n 3 F (dX4_fill_0 16 rfl) rfl ?_
      refine z_iconst F (dX4_fill_0 17 rfl) ?_
      obtain ⟨o_1, h_2, hf⟩ := zb_some hf
      refine z_callN (As := [.ref q_t_lengths, .int (zI v3), .int (zI 0)]) (rest := []) (wr := [(q_t, .inr (4, [.ref q_t_bytes, .ref q_t_lengths, .int (zI t_columns), .int (zI t_rows), .ref q_t_widths, .ref q_t_ofNumbers, .int (zI t_laidWidth)]))] ++ ([(q_t_bytes, .inl (aI, 20160, .inl (fun j => zI (t_bytes j))))] ++ ([(q_t_widths, .inl (aI, 8, .inl (fun j => zI (t_widths j))))] ++ ([(q_t_ofNumbers, .inl (aI, 8, .inl (fun j => zI (t_ofNumbers j))))] ++ (wX0 aI q_p1 q_p1_bytes q_p1_numbersOfLines q_p1_crossings q_p1_nextInks q_p1_gaps p1_bytes p1_numbersOfLines p1_plainCount p1_rules p1_firstRule p1_lastRule p1_headed p1_footed p1_width p1_crossings p1_nextInks p1_gaps ++ wX1 aI q_p2 q_p2_cuts p2_cuts p2_columns p2_best p2_next p2_plainLines p2_rules p2_joinedLines))))) F (dX4_fill_0 18 rfl) (k_X5_put (zL X) D aI aZ q_t_lengths 336 (by decide) t_lengths v3 0 h_2) gX4_fill_X5_put_n49 mX5_put nst_X4_X5_put sw1_X4_fill_X5_put sw2_X4_fill_X5_put [2] [0, 1, 3, 4, 5, 6, 7, 8, 9, 10, 11, 12] rfl rfl (by decide) rfl rfl (Nat.le_of_ble_eq_true rfl) ⟨Nat.le_of_ble_eq_true rfl, Nat.le_of_ble_eq_true rfl⟩ ⟨rfl, rfl⟩ ⟨Nat.le_of_ble_eq_true rfl, Nat.le_of_ble_eq_true rfl⟩ (z_plain (ws' := wX4 aI q_t q_t_bytes q_t_lengths q_t_widths q_t_ofNumbers t_bytes o_1 t_columns t_rows t_widths t_ofNumbers t_laidWidth ++ (wX0 aI q_p1 q_p1_bytes q_p1_numbersOfLines q_p1_crossings q_p1_nextInks q_p1_gaps p1_bytes p1_numbersOfLines p1_plainCount p1_rules p1_firstRule p1_lastRule p1_headed p1_footed p1_width p1_crossings p1_nextInks p1_gaps ++ wX1 aI q_p2 q_p2_cuts p2_cuts p2_columns p2_best p2_next p2_plainLines p2_rules p2_joinedLines)) (st' := []) [0, 1, 12, 2, 3, 4, 5, 6, 7, 8, 9, 10, 11] rfl (by decide) rfl ?_)
      refine z_iinc (lv' := [(3, .int (zI (v3 + 1))), (0, .ref q_t), (1, .ref q_p1), (2, .ref q_p2)]) 3 F (dX4_fill_0 19 rfl) rfl (by decide) rfl ?_
      refine z_goto (tgt := 15) F (dX4_fill_0 20 rfl) rfl ?_
      refine z_lv [1, 2, 3, 0] rfl ?_
      exact ih (v3 + 1) o_1 hf
set_option maxRecDepth 20000 in
set_option maxHeartbeats 2000000 in
theorem b_X4_fill_l61 {X : zX} {D : va_G} {aI aZ : ClassId} {w0 : va_W} {Qp : Option Value → va_W → Prop} (F : zF X D aI aZ cX4_fill 8 RX4 wsX4_fill rmX4_fill) (E : zT X D w0 Qp 0 0 (some .boolean)) (q_t q_t_bytes q_t_lengths q_t_widths q_t_ofNumbers q_p1 q_p1_bytes q_p1_numbersOfLines q_p1_crossings q_p1_nextInks q_p1_gaps q_p2 q_p2_cuts : Nat) (v3 : Int) (v4 : Int) (t_columns : Int) (t_rows : Int) (t_widths : (Nat → Int)) (t_ofNumbers : (Nat → Int)) (t_laidWidth : Int) (p1_bytes : (Nat → Int)) (p1_numbersOfLines : (Nat → Int)) (p1_plainCount : Int) (p1_rules : Int) (p1_firstRule : Int) (p1_lastRule : Int) (p1_headed : Int) (p1_footed : Int) (p1_width : Int) (p1_crossings : (Nat → Int)) (p1_nextInks : (Nat → Int)) (p1_gaps : (Nat → Int)) (p2_cuts : (Nat → Int)) (p2_columns : Int) (p2_best : Int) (p2_next : Int) (p2_plainLines : Int) (p2_rules : Int) (p2_joinedLines : Int) {R : Int × (Nat → Int) × (Nat → Int) × Int × Int × Int} (hQ : Qp (some (.int (zI R.1))) (wX4 aI q_t q_t_bytes q_t_lengths q_t_widths q_t_ofNumbers R.2.1 R.2.2.1 R.2.2.2.1 R.2.2.2.2.1 t_widths t_ofNumbers t_laidWidth ++ (wX0 aI q_p1 q_p1_bytes q_p1_numbersOfLines q_p1_crossings q_p1_nextInks q_p1_gaps p1_bytes p1_numbersOfLines p1_plainCount p1_rules p1_firstRule p1_lastRule p1_headed p1_footed p1_width p1_crossings p1_nextInks p1_gaps ++ wX1 aI q_p2 q_p2_cuts p2_cuts p2_columns p2_best p2_next p2_plainLines p2_rules R.2.2.2.2.2))) (K : (Nat → Int) → (Nat → Int) → Option (Int × (Nat → Int) × (Nat → Int) × Int × Int × Int)) (hK : ∀ (t_bytes : (Nat → Int)) (t_lengths : (Nat → Int)), K t_bytes t_lengths = some R → zG X D 0 0 (wX4 aI q_t q_t_bytes q_t_lengths q_t_widths q_t_ofNumbers t_bytes t_lengths t_columns t_rows t_widths t_ofNumbers t_laidWidth ++ (wX0 aI q_p1 q_p1_bytes q_p1_numbersOfLines q_p1_crossings q_p1_nextInks q_p1_gaps p1_bytes p1_numbersOfLines p1_plainCount p1_rules p1_firstRule p1_lastRule p1_headed p1_footed p1_width p1_crossings p1_nextInks p1_gaps ++ wX1 aI q_p2 q_p2_cuts p2_cuts p2_columns p2_best p2_next p2_plainLines p2_rules p2_joinedLines)) 123 [(0, .ref q_t), (1, .ref q_p1), (2, .ref q_p2), (3, .int (zI v3))] []) : ∀ (n : Nat) (v5 : Int) (t_bytes : (Nat → Int)) (t_lengths : (Nat → Int)), f_X4_fill_l61 K v3 v4 t_columns t_rows p1_bytes p2_cuts p2_joinedLines n v5 t_bytes t_lengths = some R → zG X D 0 0 (wX4 aI q_t q_t_bytes q_t_lengths q_t_widths q_t_ofNumbers t_bytes t_lengths t_columns t_rows t_widths t_ofNumbers t_laidWidth ++ (wX0 aI q_p1 q_p1_bytes q_p1_numbersOfLines q_p1_crossings q_p1_nextInks q_p1_gaps p1_bytes p1_numbersOfLines p1_plainCount p1_rules p1_firstRule p1_lastRule p1_headed p1_footed p1_width p1_crossings p1_nextInks p1_gaps ++ wX1 aI q_p2 q_p2_cuts p2_cuts p2_columns p2_best p2_next p2_plainLines p2_rules p2_joinedLines)) 61 [(0, .ref q_t), (1, .ref q_p1), (2, .ref q_p2), (3, .int (zI v3)), (4, .int (zI v4)), (5, .int (zI v5))] [] := by
  intro n
  induction n with
  | zero => intro v5 t_bytes t_lengths hf; rw [f_X4_fill_l61_z] at hf; cases hf
  | succ n ih =>
    intro v5 t_bytes t_lengths hf
    rw [f_X4_fill_l61_s] at hf
    refine z_iload 5 F (dX4_fill_0 35 rfl) rfl ?_
    refine z_aload_n 0 F (dX4_fill_0 36 rfl) rfl ?_
    refine z_get (v := .int (zI t_columns)) 0 F (dX4_fill_0 37 rfl) fl_X4_fill_24 rfl rfl ?_
    refine z_icmp_ge (tgt := 123) F (dX4_fill_0 38 rfl) rfl (fun c67 => ?_) (fun c67 => ?_)
    · replace hf := zif_f c67 hf
      refine z_lv [0, 1, 2, 3] rfl ?_
      exact hK t_bytes t_lengths hf
    · replace hf := zif_t c67 hf
      refine z_aload_n 2 F (dX4_fill_0 39 rfl) rfl ?_
      refine z_getN (v := .ref q_p2_cuts) 11 F (dX4_fill_1 0 rfl) fl_X4_fill_62 rfl rfl ?_
      refine z_iload 5 F (dX4_fill_1 1 rfl) rfl ?_
      obtain ⟨o_6, h_7, hf⟩ := zb_some hf
      refine z_callN (As := [.ref q_p2_cuts, .int (zI v5)]) (rest := []) (wr := wX4 aI q_t q_t_bytes q_t_lengths q_t_widths q_t_ofNumbers t_bytes t_lengths t_columns t_rows t_widths t_ofNumbers t_laidWidth ++ (wX0 aI q_p1 q_p1_bytes q_p1_numbersOfLines q_p1_crossings q_p1_nextInks q_p1_gaps p1_bytes p1_numbersOfLines p1_plainCount p1_rules p1_firstRule p1_lastRule p1_headed p1_footed p1_width p1_crossings p1_nextInks p1_gaps ++ [(q_p2, .inr (1, [.ref q_p2_cuts, .int (zI p2_columns), .int (zI p2_best), .int (zI p2_next), .int (zI p2_plainLines), .int (zI p2_rules), .int (zI p2_joinedLines)]))])) F (dX4_fill_1 2 rfl) (k_X5_pick (zL X) D aI aZ q_p2_cuts 9 (by decide) p2_cuts v5 h_7) gX4_fill_X5_pick_n35 mX5_pick nst_X4_X5_pick sw1_X4_fill_X5_pick sw2_X4_fill_X5_pick [12] [0, 1, 2, 3, 4, 5, 6, 7, 8, 9, 10, 11] rfl rfl (by decide) rfl rfl (Nat.le_of_ble_eq_true rfl) ⟨Nat.le_of_ble_eq_true rfl, Nat.le_of_ble_eq_true rfl⟩ ⟨rfl, rfl⟩ ⟨Nat.le_of_ble_eq_true rfl, Nat.le_of_ble_eq_true rfl⟩ (z_plain (ws' := wX4 aI q_t q_t_bytes q_t_lengths q_t_widths q_t_ofNumbers t_bytes t_lengths t_columns t_rows t_widths t_ofNumbers t_laidWidth ++ (wX0 aI q_p1 q_p1_bytes q_p1_numbersOfLines q_p1_crossings q_p1_nextInks q_p1_gaps p1_bytes p1_numbersOfLines p1_plainCount p1_rules p1_firstRule p1_lastRule p1_headed p1_footed p1_width p1_crossings p1_nextInks p1_gaps ++ wX1 aI q_p2 q_p2_cuts p2_cuts p2_columns p2_best p2_next p2_plainLines p2_rules p2_joinedLines)) (st' := [.int (zI o_6)]) [0, 1, 2, 3, 4, 5, 6, 7, 8, 9, 10, 11, 12] rfl (by decide) rfl ?_)
      refine z_istore (lv' := [(6, .int (zI o_6)), (0, .ref q_t), (1, .ref q_p1), (2, .ref q_p2), (3, .int (zI v3)), (4, .int (zI v4)), (5, .int (zI v5))]) F (dX4_fill_1 3 rfl) (by decide) rfl ?_
      refine z_aload_n 3 F (dX4_fill_1 4 rfl) rfl ?_
      refine z_getN (v := .ref q_p2_cuts) 11 F (dX4_fill_1 5 rfl) fl_X4_fill_62 rfl rfl ?_
      refine z_iload 6 F (dX4_fill_1 6 rfl) rfl ?_
      refine z_iconst F (dX4_fill_1 7 rfl) ?_
      refine z_iadd F (dX4_fill_1 8 rfl) ?_
      obtain ⟨o_8, h_9, hf⟩ := zb_some hf
      refine z_callN (As := [.ref q_p2_cuts, .int (zI (v5 + 1))]) (rest := []) (wr := wX4 aI q_t q_t_bytes q_t_lengths q_t_widths q_t_ofNumbers t_bytes t_lengths t_columns t_rows t_widths t_ofNumbers t_laidWidth ++ (wX0 aI q_p1 q_p1_bytes q_p1_numbersOfLines q_p1_crossings q_p1_nextInks q_p1_gaps p1_bytes p1_numbersOfLines p1_plainCount p1_rules p1_firstRule p1_lastRule p1_headed p1_footed p1_width p1_crossings p1_nextInks p1_gaps ++ [(q_p2, .inr (1, [.ref q_p2_cuts, .int (zI p2_columns), .int (zI p2_best), .int (zI p2_next), .int (zI p2_plainLines), .int (zI p2_rules), .int (zI p2_joinedLines)]))])) F (dX4_fill_1 9 rfl) (k_X5_pick (zL X) D aI aZ q_p2_cuts 9 (by decide) p2_cuts (v5 + 1) h_9) gX4_fill_X5_pick_n35 mX5_pick nst_X4_X5_pick sw1_X4_fill_X5_pick sw2_X4_fill_X5_pick [12] [0, 1, 2, 3, 4, 5, 6, 7, 8, 9, 10, 11] rfl rfl (by decide) rfl rfl (Nat.le_of_ble_eq_true rfl) ⟨Nat.le_of_ble_eq_true rfl, Nat.le_of_ble_eq_true rfl⟩ ⟨rfl, rfl⟩ ⟨Nat.le_of_ble_eq_true rfl, Nat.le_of_ble_eq_true rfl⟩ (z_plain (ws' := wX4 aI q_t q_t_bytes q_t_lengths q_t_widths q_t_ofNumbers t_bytes t_lengths t_columns t_rows t_widths t_ofNumbers t_laidWidth ++ (wX0 aI q_p1 q_p1_bytes q_p1_numbersOfLines q_p1_crossings q_p1_nextInks q_p1_gaps p1_bytes p1_numbersOfLines p1_plainCount p1_rules p1_firstRule p1_lastRule p1_headed p1_footed p1_width p1_crossings p1_nextInks p1_gaps ++ wX1 aI q_p2 q_p2_cuts p2_cuts p2_columns p2_best p2_next p2_plainLines p2_rules p2_joinedLines)) (st' := [.int (zI o_8)]) [0, 1, 2, 3, 4, 5, 6, 7, 8, 9, 10, 11, 12] rfl (by decide) rfl ?_)
      refine z_istore (lv' := [(7, .int (zI o_8)), (6, .int (zI o_6)), (0, .ref q_t), (1, .ref q_p1), (2, .ref q_p2), (3, .int (zI v3)), (4, .int (zI v4)), (5, .int (zI v5))]) F (dX4_fill_1 10 rfl) (by decide) rfl ?_
      refine z_aload_n 2 F (dX4_fill_1 11 rfl) rfl ?_
      refine z_aload_n 3 F (dX4_fill_1 12 rfl) rfl ?_
      refine z_iload_n 5 F (dX4_fill_1 13 rfl) rfl ?_
      refine z_iload 1 F (dX4_fill_1 14 rfl) rfl ?_
      refine z_iload 0 F (dX4_fill_1 15 rfl) rfl ?_
      refine z_aload_n 2 F (dX4_fill_1 16 rfl) rfl ?_
      refine z_iload 6 F (dX4_fill_1 17 rfl) rfl ?_
      refine z_iload 7 F (dX4_fill_1 18 rfl) rfl ?_
      obtain ⟨o_10, h_11, hf⟩ := zb_some hf
      refine z_callV (As := [.int (zI v4), .int (zI v5)]) (rest := [.int (zI o_8), .int (zI o_6), .int (zI v3), .ref q_p1, .ref q_t]) (wr := wX0 aI q_p1 q_p1_bytes q_p1_numbersOfLines q_p1_crossings q_p1_nextInks q_p1_gaps p1_bytes p1_numbersOfLines p1_plainCount p1_rules p1_firstRule p1_lastRule p1_headed p1_footed p1_width p1_crossings p1_nextInks p1_gaps ++ wX1 aI q_p2 q_p2_cuts p2_cuts p2_columns p2_best p2_next p2_plainLines p2_rules p2_joinedLines) F (dX4_fill_1 19 rfl) (k_X4_slotOf (zL X) D aI aZ q_t q_t_bytes q_t_lengths q_t_widths q_t_ofNumbers t_bytes t_lengths t_columns t_rows t_widths t_ofNumbers t_laidWidth v4 v5 h_11) gX4_fill_X4_slotOf mX4_slotOf rfl (ci := 4) rfl [0, 1, 2, 3, 4] [5, 6, 7, 8, 9, 10, 11, 12] 0 rfl rfl rfl (by decide) rfl rfl (Nat.le_of_ble_eq_true rfl) ⟨Nat.le_of_ble_eq_true rfl, Nat.le_of_ble_eq_true rfl⟩ ⟨rfl, rfl⟩ ⟨Nat.le_of_ble_eq_true rfl, Nat.le_of_ble_eq_true rfl⟩ (z_plain (ws' := wX4 aI q_t q_t_bytes q_t_lengths q_t_widths q_t_ofNumbers t_bytes t_lengths t_columns t_rows t_widths t_ofNumbers t_laidWidth ++ (wX0 aI q_p1 q_p1_bytes q_p1_numbersOfLines q_p1_crossings q_p1_nextInks q_p1_gaps p1_bytes p1_numbersOfLines p1_plainCount p1_rules p1_firstRule p1_lastRule p1_headed p1_footed p1_width p1_crossings p1_nextInks p1_gaps ++ wX1 aI q_p2 q_p2_cuts p2_cuts p2_columns p2_best p2_next p2_plainLines p2_rules p2_joinedLines)) (st' := [.int (zI o_10), .int (zI o_8), .int (zI o_6), .int (zI v3), .ref q_p1, .ref q_t]) [8, 9, 10, 11, 12, 0, 1, 2, 3, 4, 5, 6, 7] rfl (by decide) rfl ?_)
      obtain ⟨o_12, h_13, hf⟩ := zb_some hf
      refine z_callV (As := [.ref q_p1, .int (zI v3), .int (zI o_6), .int (zI o_8), .int (zI o_10)]) (rest := []) (wr := wX1 aI q_p2 q_p2_cuts p2_cuts p2_columns p2_best p2_next p2_plainLines p2_rules p2_joinedLines) F (dX4_fill_1 20 rfl) (k_X4_joinCell (zL X) D aI aZ q_t q_t_bytes q_t_lengths q_t_widths q_t_ofNumbers q_p1 q_p1_bytes q_p1_numbersOfLines q_p1_crossings q_p1_nextInks q_p1_gaps t_bytes t_lengths t_columns t_rows t_widths t_ofNumbers t_laidWidth p1_bytes p1_numbersOfLines p1_plainCount p1_rules p1_firstRule p1_lastRule p1_headed p1_footed p1_width p1_crossings p1_nextInks p1_gaps v3 o_6 o_8 o_10 h_13) gX4_fill_X4_joinCell mX4_joinCell rfl (ci := 4) rfl [0, 1, 2, 3, 4, 5, 6, 7, 8, 9, 10] [11, 12] 0 rfl rfl rfl (by decide) rfl rfl (Nat.le_of_ble_eq_true rfl) ⟨Nat.le_of_ble_eq_true rfl, Nat.le_of_ble_eq_true rfl⟩ ⟨rfl, rfl⟩ ⟨Nat.le_of_ble_eq_true rfl, Nat.le_of_ble_eq_true rfl⟩ (z_plain (ws' := wX4 aI q_t q_t_bytes q_t_lengths q_t_widths q_t_ofNumbers o_12.2.1 o_12.2.2 t_columns t_rows t_widths t_ofNumbers t_laidWidth ++ (wX0 aI q_p1 q_p1_bytes q_p1_numbersOfLines q_p1_crossings q_p1_nextInks q_p1_gaps p1_bytes p1_numbersOfLines p1_plainCount p1_rules p1_firstRule p1_lastRule p1_headed p1_footed p1_width p1_crossings p1_nextInks p1_gaps ++ wX1 aI q_p2 q_p2_cuts p2_cuts p2_columns p2_best p2_next p2_plainLines p2_rules p2_joinedLines)) (st' := [.int (zI o_12.1)]) [2, 3, 4, 5, 6, 7, 8, 9, 10, 11, 12, 0, 1] rfl (by decide) rfl ?_)
      refine z_if_ne (tgt := 117) F (dX4_fill_1 21 rfl) rfl (fun c112 => ?_) (fun c112 => ?_)
      · replace hf := zif_f c112 hf
        refine z_iinc (lv' := [(5, .int (zI (v5 + 1))), (7, .int (zI o_8)), (6, .int (zI o_6)), (0, .ref q_t), (1, .ref q_p1), (2, .ref q_p2), (3, .int (zI v3)), (4, .int (zI v4))]) 7 F (dX4_fill_1 24 rfl) rfl (by decide) rfl ?_
        refine z_goto (tgt := 61) F (dX4_fill_1 25 rfl) rfl ?_
        refine z_lv [3, 4, 5, 6, 7, 0] rfl ?_
        exact ih (v5 + 1) o_12.2.1 o_12.2.2 hf
      · replace hf := zif_t c112 hf
        refine z_iconst F (dX4_fill_1 22 rfl) ?_
        cases hf
        exact z_zret [0, 1, 2, 3, 4, 5, 6, 7, 8, 9, 10, 11, 12] F E (dX4_fill_1 23 rfl) (Or.inl rfl) rfl (by decide) hQ
set_option maxRecDepth 20000 in
set_option maxHeartbeats 2000000 in
theorem b_X4_fill_l41 {X : zX} {D : va_G} {aI aZ : ClassId} {w0 : va_W} {Qp : Option Value → va_W → Prop} (F : zF X D aI aZ cX4_fill 8 RX4 wsX4_fill rmX4_fill) (E : zT X D w0 Qp 0 0 (some .boolean)) (q_t q_t_bytes q_t_lengths q_t_widths q_t_ofNumbers q_p1 q_p1_bytes q_p1_numbersOfLines q_p1_crossings q_p1_nextInks q_p1_gaps q_p2 q_p2_cuts : Nat) (t_columns : Int) (t_widths : (Nat → Int)) (t_ofNumbers : (Nat → Int)) (t_laidWidth : Int) (p1_bytes : (Nat → Int)) (p1_numbersOfLines : (Nat → Int)) (p1_plainCount : Int) (p1_rules : Int) (p1_firstRule : Int) (p1_lastRule : Int) (p1_headed : Int) (p1_footed : Int) (p1_width : Int) (p1_crossings : (Nat → Int)) (p1_nextInks : (Nat → Int)) (p1_gaps : (Nat → Int)) (p2_cuts : (Nat → Int)) (p2_columns : Int) (p2_best : Int) (p2_next : Int) (p2_plainLines : Int) (p2_rules : Int) {R : Int × (Nat → Int) × (Nat → Int) × Int × Int × Int} (hQ : Qp (some (.int (zI R.1))) (wX4 aI q_t q_t_bytes q_t_lengths q_t_widths q_t_ofNumbers R.2.1 R.2.2.1 R.2.2.2.1 R.2.2.2.2.1 t_widths t_ofNumbers t_laidWidth ++ (wX0 aI q_p1 q_p1_bytes q_p1_numbersOfLines q_p1_crossings q_p1_nextInks q_p1_gaps p1_bytes p1_numbersOfLines p1_plainCount p1_rules p1_firstRule p1_lastRule p1_headed p1_footed p1_width p1_crossings p1_nextInks p1_gaps ++ wX1 aI q_p2 q_p2_cuts p2_cuts p2_columns p2_best p2_next p2_plainLines p2_rules R.2.2.2.2.2))) (K : (Nat → Int) → (Nat → Int) → Int → Int → Option (Int × (Nat → Int) × (Nat → Int) × Int × Int × Int)) (hK : ∀ (t_bytes : (Nat → Int)) (t_lengths : (Nat → Int)) (t_rows : Int) (p2_joinedLines : Int), K t_bytes t_lengths t_rows p2_joinedLines = some R → zG X D 0 0 (wX4 aI q_t q_t_bytes q_t_lengths q_t_widths q_t_ofNumbers t_bytes t_lengths t_columns t_rows t_widths t_ofNumbers t_laidWidth ++ (wX0 aI q_p1 q_p1_bytes q_p1_numbersOfLines q_p1_crossings q_p1_nextInks q_p1_gaps p1_bytes p1_numbersOfLines p1_plainCount p1_rules p1_firstRule p1_lastRule p1_headed p1_footed p1_width p1_crossings p1_nextInks p1_gaps ++ wX1 aI q_p2 q_p2_cuts p2_cuts p2_columns p2_best p2_next p2_plainLines p2_rules p2_joinedLines)) 129 [] []) : ∀ (n : Nat) (v3 : Int) (t_bytes : (Nat → Int)) (t_lengths : (Nat → Int)) (t_rows : Int) (p2_joinedLines : Int), f_X4_fill_l41 K t_columns p1_bytes p1_numbersOfLines p1_plainCount p1_firstRule p1_lastRule p1_headed p1_footed p2_cuts n v3 t_bytes t_lengths t_rows p2_joinedLines = some R → zG X D 0 0 (wX4 aI q_t q_t_bytes q_t_lengths q_t_widths q_t_ofNumbers t_bytes t_lengths t_columns t_rows t_widths t_ofNumbers t_laidWidth ++ (wX0 aI q_p1 q_p1_bytes q_p1_numbersOfLines q_p1_crossings q_p1_nextInks q_p1_gaps p1_bytes p1_numbersOfLines p1_plainCount p1_rules p1_firstRule p1_lastRule p1_headed p1_footed p1_width p1_crossings p1_nextInks p1_gaps ++ wX1 aI q_p2 q_p2_cuts p2_cuts p2_columns p2_best p2_next p2_plainLines p2_rules p2_joinedLines)) 41 [(0, .ref q_t), (1, .ref q_p1), (2, .ref q_p2), (3, .int (zI v3))] [] := by
  intro n
  induction n with
  | zero => intro v3 t_bytes t_lengths t_rows p2_joinedLines hf; rw [f_X4_fill_l41_z] at hf; cases hf
  | succ n ih =>
    intro v3 t_bytes t_lengths t_rows p2_joinedLines hf
    rw [f_X4_fill_l41_s] at hf
    refine z_iload_n 3 F (dX4_fill_0 23 rfl) rfl ?_
    refine z_aload_n 1 F (dX4_fill_0 24 rfl) rfl ?_
    refine z_getN (v := .int (zI p1_plainCount)) 5 F (dX4_fill_0 25 rfl) fl_X4_fill_53 rfl rfl ?_
    refine z_icmp_ge (tgt := 129) F (dX4_fill_0 26 rfl) rfl (fun c46 => ?_) (fun c46 => ?_)
    · replace hf := zif_f c46 hf
      refine z_lv [] rfl ?_
      exact hK t_bytes t_lengths t_rows p2_joinedLines hf
    · replace hf := zif_t c46 hf
      refine z_aload_n 0 F (dX4_fill_0 27 rfl) rfl ?_
      refine z_aload_n 1 F (dX4_fill_0 28 rfl) rfl ?_
      refine z_aload_n 2 F (dX4_fill_0 29 rfl) rfl ?_
      refine z_iload_n 3 F (dX4_fill_0 30 rfl) rfl ?_
      obtain ⟨o_4, h_5, hf⟩ := zb_some hf
      refine z_callV (As := [.ref q_p1, .ref q_p2, .int (zI v3)]) (rest := []) (wr := []) F (dX4_fill_0 31 rfl) (k_X4_rowOfLine (zL X) D aI aZ q_t q_t_bytes q_t_lengths q_t_widths q_t_ofNumbers q_p1 q_p1_bytes q_p1_numbersOfLines q_p1_crossings q_p1_nextInks q_p1_gaps q_p2 q_p2_cuts t_bytes t_lengths t_columns t_rows t_widths t_ofNumbers t_laidWidth p1_bytes p1_numbersOfLines p1_plainCount p1_rules p1_firstRule p1_lastRule p1_headed p1_footed p1_width p1_crossings p1_nextInks p1_gaps p2_cuts p2_columns p2_best p2_next p2_plainLines p2_rules p2_joinedLines v3 h_5) gX4_fill_X4_rowOfLine mX4_rowOfLine rfl (ci := 4) rfl [0, 1, 2, 3, 4, 5, 6, 7, 8, 9, 10, 11, 12] [] 0 rfl rfl rfl (by decide) rfl rfl (Nat.le_of_ble_eq_true rfl) ⟨Nat.le_of_ble_eq_true rfl, Nat.le_of_ble_eq_true rfl⟩ ⟨rfl, rfl⟩ ⟨Nat.le_of_ble_eq_true rfl, Nat.le_of_ble_eq_true rfl⟩ (z_plain (ws' := wX4 aI q_t q_t_bytes q_t_lengths q_t_widths q_t_ofNumbers t_bytes t_lengths t_columns o_4.2.1 t_widths t_ofNumbers t_laidWidth ++ (wX0 aI q_p1 q_p1_bytes q_p1_numbersOfLines q_p1_crossings q_p1_nextInks q_p1_gaps p1_bytes p1_numbersOfLines p1_plainCount p1_rules p1_firstRule p1_lastRule p1_headed p1_footed p1_width p1_crossings p1_nextInks p1_gaps ++ wX1 aI q_p2 q_p2_cuts p2_cuts p2_columns p2_best p2_next p2_plainLines p2_rules o_4.2.2)) (st' := [.int (zI o_4.1)]) [0, 1, 2, 3, 4, 5, 6, 7, 8, 9, 10, 11, 12] rfl (by decide) rfl ?_)
      refine z_istore (lv' := [(4, .int (zI o_4.1)), (0, .ref q_t), (1, .ref q_p1), (2, .ref q_p2), (3, .int (zI v3))]) F (dX4_fill_0 32 rfl) (by decide) rfl ?_
      refine z_iconst F (dX4_fill_0 33 rfl) ?_
      refine z_istore (lv' := [(5, .int (zI 0)), (4, .int (zI o_4.1)), (0, .ref q_t), (1, .ref q_p1), (2, .ref q_p2), (3, .int (zI v3))]) F (dX4_fill_0 34 rfl) (by decide) rfl ?_
      refine z_lv [2, 3, 4, 5, 1, 0] rfl ?_
      refine b_X4_fill_l61 F E q_t q_t_bytes q_t_lengths q_t_widths q_t_ofNumbers q_p1 q_p1_bytes q_p1_numbersOfLines q_p1_crossings q_p1_nextInks q_p1_gaps q_p2 q_p2_cuts v3 o_4.1 t_columns o_4.2.1 t_widths t_ofNumbers t_laidWidth p1_bytes p1_numbersOfLines p1_plainCount p1_rules p1_firstRule p1_lastRule p1_headed p1_footed p1_width p1_crossings p1_nextInks p1_gaps p2_cuts p2_columns p2_best p2_next p2_plainLines p2_rules o_4.2.2 hQ _ ?_ zN 0 t_bytes t_lengths hf
      intro t_bytes_14 t_lengths_15 hf
      refine z_iinc (lv' := [(3, .int (zI (v3 + 1))), (0, .ref q_t), (1, .ref q_p1), (2, .ref q_p2)]) 3 F (dX4_fill_1 26 rfl) rfl (by decide) rfl ?_
      refine z_goto (tgt := 41) F (dX4_fill_1 27 rfl) rfl ?_
      refine z_lv [1, 2, 3, 0] rfl ?_
      exact ih (v3 + 1) t_bytes_14 t_lengths_15 o_4.2.1 o_4.2.2 hf
set_option maxRecDepth 20000 in
set_option maxHeartbeats 2000000 in
theorem b_X4_fill_0 {X : zX} {D : va_G} {aI aZ : ClassId} {w0 : va_W} {Qp : Option Value → va_W → Prop} (F : zF X D aI aZ cX4_fill 8 RX4 wsX4_fill rmX4_fill) (E : zT X D w0 Qp 0 0 (some .boolean)) (q_t q_t_bytes q_t_lengths q_t_widths q_t_ofNumbers q_p1 q_p1_bytes q_p1_numbersOfLines q_p1_crossings q_p1_nextInks q_p1_gaps q_p2 q_p2_cuts : Nat) (t_bytes : (Nat → Int)) (t_lengths : (Nat → Int)) (t_columns : Int) (t_rows : Int) (t_widths : (Nat → Int)) (t_ofNumbers : (Nat → Int)) (t_laidWidth : Int) (p1_bytes : (Nat → Int)) (p1_numbersOfLines : (Nat → Int)) (p1_plainCount : Int) (p1_rules : Int) (p1_firstRule : Int) (p1_lastRule : Int) (p1_headed : Int) (p1_footed : Int) (p1_width : Int) (p1_crossings : (Nat → Int)) (p1_nextInks : (Nat → Int)) (p1_gaps : (Nat → Int)) (p2_cuts : (Nat → Int)) (p2_columns : Int) (p2_best : Int) (p2_next : Int) (p2_plainLines : Int) (p2_rules : Int) (p2_joinedLines : Int) {R : Int × (Nat → Int) × (Nat → Int) × Int × Int × Int} (hQ : Qp (some (.int (zI R.1))) (wX4 aI q_t q_t_bytes q_t_lengths q_t_widths q_t_ofNumbers R.2.1 R.2.2.1 R.2.2.2.1 R.2.2.2.2.1 t_widths t_ofNumbers t_laidWidth ++ (wX0 aI q_p1 q_p1_bytes q_p1_numbersOfLines q_p1_crossings q_p1_nextInks q_p1_gaps p1_bytes p1_numbersOfLines p1_plainCount p1_rules p1_firstRule p1_lastRule p1_headed p1_footed p1_width p1_crossings p1_nextInks p1_gaps ++ wX1 aI q_p2 q_p2_cuts p2_cuts p2_columns p2_best p2_next p2_plainLines p2_rules R.2.2.2.2.2))) (hf : f_X4_fill t_bytes t_lengths p1_bytes p1_numbersOfLines p1_plainCount p1_firstRule p1_lastRule p1_headed p1_footed p2_cuts p2_columns p2_joinedLines = some R) : zG X D 0 0 (wX4 aI q_t q_t_bytes q_t_lengths q_t_widths q_t_ofNumbers t_bytes t_lengths t_columns t_rows t_widths t_ofNumbers t_laidWidth ++ (wX0 aI q_p1 q_p1_bytes q_p1_numbersOfLines q_p1_crossings q_p1_nextInks q_p1_gaps p1_bytes p1_numbersOfLines p1_plainCount p1_rules p1_firstRule p1_lastRule p1_headed p1_footed p1_width p1_crossings p1_nextInks p1_gaps ++ wX1 aI q_p2 q_p2_cuts p2_cuts p2_columns p2_best p2_next p2_plainLines p2_rules p2_joinedLines)) 0 [(0, .ref q_t), (1, .ref q_p1), (2, .ref q_p2)] [] := by
  unfold f_X4_fill at hf
  refine z_aload_n 0 F (dX4_fill_0 0 rfl) rfl ?_
  refine z_aload_n 2 F (dX4_fill_0 1 rfl) rfl ?_
  refine z_getN (v := .int (zI p2_columns)) 11 F (dX4_fill_0 2 rfl) fl_X4_fill_46 rfl rfl ?_
  refine z_put (ws' := wX4 aI q_t q_t_bytes q_t_lengths q_t_widths q_t_ofNumbers t_bytes t_lengths p2_columns t_rows t_widths t_ofNumbers t_laidWidth ++ (wX0 aI q_p1 q_p1_bytes q_p1_numbersOfLines q_p1_crossings q_p1_nextInks q_p1_gaps p1_bytes p1_numbersOfLines p1_plainCount p1_rules p1_firstRule p1_lastRule p1_headed p1_footed p1_width p1_crossings p1_nextInks p1_gaps ++ wX1 aI q_p2 q_p2_cuts p2_cuts p2_columns p2_best p2_next p2_plainLines p2_rules p2_joinedLines)) 0 F (dX4_fill_0 3 rfl) fl_X4_fill_24 tyX4_ok nmX4 rfl rfl rfl rfl rfl (Nat.le_of_ble_eq_true rfl) rfl ?_
  refine z_aload_n 0 F (dX4_fill_0 4 rfl) rfl ?_
  refine z_iconst F (dX4_fill_0 5 rfl) ?_
  refine z_put (ws' := wX4 aI q_t q_t_bytes q_t_lengths q_t_widths q_t_ofNumbers t_bytes t_lengths p2_columns 0 t_widths t_ofNumbers t_laidWidth ++ (wX0 aI q_p1 q_p1_bytes q_p1_numbersOfLines q_p1_crossings q_p1_nextInks q_p1_gaps p1_bytes p1_numbersOfLines p1_plainCount p1_rules p1_firstRule p1_lastRule p1_headed p1_footed p1_width p1_crossings p1_nextInks p1_gaps ++ wX1 aI q_p2 q_p2_cuts p2_cuts p2_columns p2_best p2_next p2_plainLines p2_rules p2_joinedLines)) 0 F (dX4_fill_0 6 rfl) fl_X4_fill_28 tyX4_ok nmX4 rfl rfl rfl rfl rfl (Nat.le_of_ble_eq_true rfl) rfl ?_
  refine z_iconst F (dX4_fill_0 7 rfl) ?_
  refine z_istore_n (lv' := [(3, .int (zI 0)), (0, .ref q_t), (1, .ref q_p1), (2, .ref q_p2)]) F (dX4_fill_0 8 rfl) (by decide) rfl ?_
  refine z_lv [1, 2, 3, 0] rfl ?_
  refine b_X4_fill_l15 F E q_t q_t_bytes q_t_lengths q_t_widths q_t_ofNumbers q_p1 q_p1_bytes q_p1_numbersOfLines q_p1_crossings q_p1_nextInks q_p1_gaps q_p2 q_p2_cuts t_bytes p2_columns 0 t_widths t_ofNumbers t_laidWidth p1_bytes p1_numbersOfLines p1_plainCount p1_rules p1_firstRule p1_lastRule p1_headed p1_footed p1_width p1_crossings p1_nextInks p1_gaps p2_cuts p2_columns p2_best p2_next p2_plainLines p2_rules p2_joinedLines hQ _ ?_ zN 0 t_lengths hf
  intro t_lengths_3 hf
  refine z_iconst F (dX4_fill_0 21 rfl) ?_
  refine z_istore_n (lv' := [(3, .int (zI 0)), (0, .ref q_t), (1, .ref q_p1), (2, .ref q_p2)]) F (dX4_fill_0 22 rfl) (by decide) rfl ?_
  refine z_lv [1, 2, 3, 0] rfl ?_
  refine b_X4_fill_l41 F E q_t q_t_bytes q_t_lengths q_t_widths q_t_ofNumbers q_p1 q_p1_bytes q_p1_numbersOfLines q_p1_crossings q_p1_nextInks q_p1_gaps q_p2 q_p2_cuts p2_columns t_widths t_ofNumbers t_laidWidth p1_bytes p1_numbersOfLines p1_plainCount p1_rules p1_firstRule p1_lastRule p1_headed p1_footed p1_width p1_crossings p1_nextInks p1_gaps p2_cuts p2_columns p2_best p2_next p2_plainLines p2_rules hQ _ ?_ zN 0 t_bytes t_lengths_3 0 p2_joinedLines hf
  intro t_bytes_16 t_lengths_17 t_rows_18 p2_joinedLines_19 hf
  refine z_iconst F (dX4_fill_1 28 rfl) ?_
  cases hf
  exact z_zret [0, 1, 2, 3, 4, 5, 6, 7, 8, 9, 10, 11, 12] F E (dX4_fill_1 29 rfl) (Or.inr rfl) rfl (by decide) hQ
set_option maxRecDepth 20000 in
set_option maxHeartbeats 2000000 in
theorem k_X4_fill (l : Launch) (D : va_G) (aI aZ : ClassId) (q_t q_t_bytes q_t_lengths q_t_widths q_t_ofNumbers q_p1 q_p1_bytes q_p1_numbersOfLines q_p1_crossings q_p1_nextInks q_p1_gaps q_p2 q_p2_cuts : Nat) (t_bytes : (Nat → Int)) (t_lengths : (Nat → Int)) (t_columns : Int) (t_rows : Int) (t_widths : (Nat → Int)) (t_ofNumbers : (Nat → Int)) (t_laidWidth : Int) (p1_bytes : (Nat → Int)) (p1_numbersOfLines : (Nat → Int)) (p1_plainCount : Int) (p1_rules : Int) (p1_firstRule : Int) (p1_lastRule : Int) (p1_headed : Int) (p1_footed : Int) (p1_width : Int) (p1_crossings : (Nat → Int)) (p1_nextInks : (Nat → Int)) (p1_gaps : (Nat → Int)) (p2_cuts : (Nat → Int)) (p2_columns : Int) (p2_best : Int) (p2_next : Int) (p2_plainLines : Int) (p2_rules : Int) (p2_joinedLines : Int) {R : Int × (Nat → Int) × (Nat → Int) × Int × Int × Int} (hf : f_X4_fill t_bytes t_lengths p1_bytes p1_numbersOfLines p1_plainCount p1_firstRule p1_lastRule p1_headed p1_footed p2_cuts p2_columns p2_joinedLines = some R) : zC l D aI aZ yX4_fill wsX4_fill rmX4_fill [.ref q_t, .ref q_p1, .ref q_p2] (wX4 aI q_t q_t_bytes q_t_lengths q_t_widths q_t_ofNumbers t_bytes t_lengths t_columns t_rows t_widths t_ofNumbers t_laidWidth ++ (wX0 aI q_p1 q_p1_bytes q_p1_numbersOfLines q_p1_crossings q_p1_nextInks q_p1_gaps p1_bytes p1_numbersOfLines p1_plainCount p1_rules p1_firstRule p1_lastRule p1_headed p1_footed p1_width p1_crossings p1_nextInks p1_gaps ++ wX1 aI q_p2 q_p2_cuts p2_cuts p2_columns p2_best p2_next p2_plainLines p2_rules p2_joinedLines)) (fun r w => r = (some (.int (zI R.1))) ∧ w = wX4 aI q_t q_t_bytes q_t_lengths q_t_widths q_t_ofNumbers R.2.1 R.2.2.1 R.2.2.2.1 R.2.2.2.2.1 t_widths t_ofNumbers t_laidWidth ++ (wX0 aI q_p1 q_p1_bytes q_p1_numbersOfLines q_p1_crossings q_p1_nextInks q_p1_gaps p1_bytes p1_numbersOfLines p1_plainCount p1_rules p1_firstRule p1_lastRule p1_headed p1_footed p1_width p1_crossings p1_nextInks p1_gaps ++ wX1 aI q_p2 q_p2_cuts p2_cuts p2_columns p2_best p2_next p2_plainLines p2_rules R.2.2.2.2.2)) 0 0 := by
  refine z_met (cc := cX4_fill) (maxL := 8) (ret := (some .boolean)) (by decide +kernel) rfl (Nat.le_of_ble_eq_true rfl) (fun X hX F E => ?_)
  exact b_X4_fill_0 F E q_t q_t_bytes q_t_lengths q_t_widths q_t_ofNumbers q_p1 q_p1_bytes q_p1_numbersOfLines q_p1_crossings q_p1_nextInks q_p1_gaps q_p2 q_p2_cuts t_bytes t_lengths t_columns t_rows t_widths t_ofNumbers t_laidWidth p1_bytes p1_numbersOfLines p1_plainCount p1_rules p1_firstRule p1_lastRule p1_headed p1_footed p1_width p1_crossings p1_nextInks p1_gaps p2_cuts p2_columns p2_best p2_next p2_plainLines p2_rules p2_joinedLines ⟨rfl, rfl⟩ hf
theorem inw_X4_hasSameHead_4 : ∀ w ∈ u_ws RX4 TX4 7, w ∈ wsX4_hasSameHead := by decide +kernel
theorem fl_X4_hasSameHead_24 : zfl wsX4_hasSameHead RX4 24 4 2 RX4 TX4 7 := ⟨inw_X4_hasSameHead_4, rfl, by decide, by decide +kernel⟩
abbrev rmX4_hasSameHead : Room := { frames := 2, cells := 0, slots := 0, locals := 46 }
theorem mX4_hasSameHead : zY yX4_hasSameHead cX4_hasSameHead 5 (some .boolean) wsX4_hasSameHead 1 := ⟨⟨_, rfl⟩, by decide +kernel, by decide +kernel, by decide +kernel⟩
set_option maxRecDepth 20000 in
set_option maxHeartbeats 2000000 in
theorem b_X4_hasSameHead_l32 {X : zX} {D : va_G} {aI aZ : ClassId} {w0 : va_W} {Qp : Option Value → va_W → Prop} (F : zF X D aI aZ cX4_hasSameHead 5 RX4 wsX4_hasSameHead rmX4_hasSameHead) (E : zT X D w0 Qp 0 0 (some .boolean)) (q_t q_t_bytes q_t_lengths q_t_widths q_t_ofNumbers q_p1 q_p1_bytes q_p1_lengths q_p1_widths q_p1_ofNumbers : Nat) (v2 : Int) (v3 : Int) (t_bytes : (Nat → Int)) (t_lengths : (Nat → Int)) (t_columns : Int) (t_rows : Int) (t_widths : (Nat → Int)) (t_ofNumbers : (Nat → Int)) (t_laidWidth : Int) (p1_bytes : (Nat → Int)) (p1_lengths : (Nat → Int)) (p1_columns : Int) (p1_rows : Int) (p1_widths : (Nat → Int)) (p1_ofNumbers : (Nat → Int)) (p1_laidWidth : Int) {R : Int} (hQ : Qp (some (.int (zI R))) (wX4 aI q_t q_t_bytes q_t_lengths q_t_widths q_t_ofNumbers t_bytes t_lengths t_columns t_rows t_widths t_ofNumbers t_laidWidth ++ wX4 aI q_p1 q_p1_bytes q_p1_lengths q_p1_widths q_p1_ofNumbers p1_bytes p1_lengths p1_columns p1_rows p1_widths p1_ofNumbers p1_laidWidth)) (K : Option (Int)) (hK : K  = some R → zG X D 0 0 (wX4 aI q_t q_t_bytes q_t_lengths q_t_widths q_t_ofNumbers t_bytes t_lengths t_columns t_rows t_widths t_ofNumbers t_laidWidth ++ wX4 aI q_p1 q_p1_bytes q_p1_lengths q_p1_widths q_p1_ofNumbers p1_bytes p1_lengths p1_columns p1_rows p1_widths p1_ofNumbers p1_laidWidth) 65 [(0, .ref q_t), (1, .ref q_p1), (2, .int (zI v2))] []) : ∀ (n : Nat) (v4 : Int), f_X4_hasSameHead_l32 K v2 v3 t_bytes t_lengths t_rows p1_bytes p1_lengths p1_rows n v4 = some R → zG X D 0 0 (wX4 aI q_t q_t_bytes q_t_lengths q_t_widths q_t_ofNumbers t_bytes t_lengths t_columns t_rows t_widths t_ofNumbers t_laidWidth ++ wX4 aI q_p1 q_p1_bytes q_p1_lengths q_p1_widths q_p1_ofNumbers p1_bytes p1_lengths p1_columns p1_rows p1_widths p1_ofNumbers p1_laidWidth) 32 [(0, .ref q_t), (1, .ref q_p1), (2, .int (zI v2)), (3, .int (zI v3)), (4, .int (zI v4))] [] := by
  intro n
  induction n with
  | zero => intro v4 hf; rw [f_X4_hasSameHead_l32_z] at hf; cases hf
  | succ n ih =>
    intro v4 hf
    rw [f_X4_hasSameHead_l32_s] at hf
    refine z_iload 4 F (dX4_hasSameHead_0 21 rfl) rfl ?_
    refine z_iload_n 3 F (dX4_hasSameHead_0 22 rfl) rfl ?_
    refine z_icmp_ge (tgt := 65) F (dX4_hasSameHead_0 23 rfl) rfl (fun c35 => ?_) (fun c35 => ?_)
    · replace hf := zif_f c35 hf
      refine z_lv [0, 1, 2] rfl ?_
      exact hK  hf
    · replace hf := zif_t c35 hf
      refine z_aload_n 0 F (dX4_hasSameHead_0 24 rfl) rfl ?_
      refine z_iconst F (dX4_hasSameHead_0 25 rfl) ?_
      refine z_iload_n 2 F (dX4_hasSameHead_0 26 rfl) rfl ?_
      refine z_iload 4 F (dX4_hasSameHead_0 27 rfl) rfl ?_
      obtain ⟨o_5, h_6, hf⟩ := zb_some hf
      refine z_callV (As := [.int (zI 0), .int (zI v2), .int (zI v4)]) (rest := []) (wr := wX4 aI q_p1 q_p1_bytes q_p1_lengths q_p1_widths q_p1_ofNumbers p1_bytes p1_lengths p1_columns p1_rows p1_widths p1_ofNumbers p1_laidWidth) F (dX4_hasSameHead_0 28 rfl) (k_X4_byteOf (zL X) D aI aZ q_t q_t_bytes q_t_lengths q_t_widths q_t_ofNumbers t_bytes t_lengths t_columns t_rows t_widths t_ofNumbers t_laidWidth 0 v2 v4 h_6) gX4_hasSameHead_X4_byteOf mX4_byteOf rfl (ci := 4) rfl [0, 1, 2, 3, 4] [5, 6, 7, 8, 9] 0 rfl rfl rfl (by decide) rfl rfl (Nat.le_of_ble_eq_true rfl) ⟨Nat.le_of_ble_eq_true rfl, Nat.le_of_ble_eq_true rfl⟩ ⟨rfl, rfl⟩ ⟨Nat.le_of_ble_eq_true rfl, Nat.le_of_ble_eq_true rfl⟩ (z_plain (ws' := wX4 aI q_t q_t_bytes q_t_lengths q_t_widths q_t_ofNumbers t_bytes t_lengths t_columns t_rows t_widths t_ofNumbers t_laidWidth ++ wX4 aI q_p1 q_p1_bytes q_p1_lengths q_p1_widths q_p1_ofNumbers p1_bytes p1_lengths p1_columns p1_rows p1_widths p1_ofNumbers p1_laidWidth) (st' := [.int (zI o_5)]) [5, 6, 7, 8, 9, 0, 1, 2, 3, 4] rfl (by decide) rfl ?_)
      refine z_aload_n 1 F (dX4_hasSameHead_0 29 rfl) rfl ?_
      refine z_iconst F (dX4_hasSameHead_0 30 rfl) ?_
      refine z_iload_n 2 F (dX4_hasSameHead_0 31 rfl) rfl ?_
      refine z_iload 4 F (dX4_hasSameHead_0 32 rfl) rfl ?_
      obtain ⟨o_7, h_8, hf⟩ := zb_some hf
      refine z_callV (As := [.int (zI 0), .int (zI v2), .int (zI v4)]) (rest := [.int (zI o_5)]) (wr := wX4 aI q_t q_t_bytes q_t_lengths q_t_widths q_t_ofNumbers t_bytes t_lengths t_columns t_rows t_widths t_ofNumbers t_laidWidth) F (dX4_hasSameHead_0 33 rfl) (k_X4_byteOf (zL X) D aI aZ q_p1 q_p1_bytes q_p1_lengths q_p1_widths q_p1_ofNumbers p1_bytes p1_lengths p1_columns p1_rows p1_widths p1_ofNumbers p1_laidWidth 0 v2 v4 h_8) gX4_hasSameHead_X4_byteOf mX4_byteOf rfl (ci := 4) rfl [5, 6, 7, 8, 9] [0, 1, 2, 3, 4] 0 rfl rfl rfl (by decide) rfl rfl (Nat.le_of_ble_eq_true rfl) ⟨Nat.le_of_ble_eq_true rfl, Nat.le_of_ble_eq_true rfl⟩ ⟨rfl, rfl⟩ ⟨Nat.le_of_ble_eq_true rfl, Nat.le_of_ble_eq_true rfl⟩ (z_plain (ws' := wX4 aI q_t q_t_bytes q_t_lengths q_t_widths q_t_ofNumbers t_bytes t_lengths t_columns t_rows t_widths t_ofNumbers t_laidWidth ++ wX4 aI q_p1 q_p1_bytes q_p1_lengths q_p1_widths q_p1_ofNumbers p1_bytes p1_lengths p1_columns p1_rows p1_widths p1_ofNumbers p1_laidWidth) (st' := [.int (zI o_7), .int (zI o_5)]) [0, 1, 2, 3, 4, 5, 6, 7, 8, 9] rfl (by decide) rfl ?_)
      refine z_icmp_eq (tgt := 59) F (dX4_hasSameHead_0 34 rfl) rfl (fun c54 => ?_) (fun c54 => ?_)
      · replace hf := zif_t c54 hf
        refine z_iinc (lv' := [(4, .int (zI (v4 + 1))), (0, .ref q_t), (1, .ref q_p1), (2, .int (zI v2)), (3, .int (zI v3))]) 4 F (dX4_hasSameHead_0 37 rfl) rfl (by decide) rfl ?_
        refine z_goto (tgt := 32) F (dX4_hasSameHead_0 38 rfl) rfl ?_
        refine z_lv [1, 2, 3, 4, 0] rfl ?_
        exact ih (v4 + 1) hf
      · replace hf := zif_f c54 hf
        refine z_iconst F (dX4_hasSameHead_0 35 rfl) ?_
        cases hf
        exact z_zret [0, 1, 2, 3, 4, 5, 6, 7, 8, 9] F E (dX4_hasSameHead_0 36 rfl) (Or.inl rfl) rfl (by decide) hQ
set_option maxRecDepth 20000 in
set_option maxHeartbeats 2000000 in
theorem b_X4_hasSameHead_l2 {X : zX} {D : va_G} {aI aZ : ClassId} {w0 : va_W} {Qp : Option Value → va_W → Prop} (F : zF X D aI aZ cX4_hasSameHead 5 RX4 wsX4_hasSameHead rmX4_hasSameHead) (E : zT X D w0 Qp 0 0 (some .boolean)) (q_t q_t_bytes q_t_lengths q_t_widths q_t_ofNumbers q_p1 q_p1_bytes q_p1_lengths q_p1_widths q_p1_ofNumbers : Nat) (t_bytes : (Nat → Int)) (t_lengths : (Nat → Int)) (t_columns : Int) (t_rows : Int) (t_widths : (Nat → Int)) (t_ofNumbers : (Nat → Int)) (t_laidWidth : Int) (p1_bytes : (Nat → Int)) (p1_lengths : (Nat → Int)) (p1_columns : Int) (p1_rows : Int) (p1_widths : (Nat → Int)) (p1_ofNumbers : (Nat → Int)) (p1_laidWidth : Int) {R : Int} (hQ : Qp (some (.int (zI R))) (wX4 aI q_t q_t_bytes q_t_lengths q_t_widths q_t_ofNumbers t_bytes t_lengths t_columns t_rows t_widths t_ofNumbers t_laidWidth ++ wX4 aI q_p1 q_p1_bytes q_p1_lengths q_p1_widths q_p1_ofNumbers p1_bytes p1_lengths p1_columns p1_rows p1_widths p1_ofNumbers p1_laidWidth)) (K : Option (Int)) (hK : K  = some R → zG X D 0 0 (wX4 aI q_t q_t_bytes q_t_lengths q_t_widths q_t_ofNumbers t_bytes t_lengths t_columns t_rows t_widths t_ofNumbers t_laidWidth ++ wX4 aI q_p1 q_p1_bytes q_p1_lengths q_p1_widths q_p1_ofNumbers p1_bytes p1_lengths p1_columns p1_rows p1_widths p1_ofNumbers p1_laidWidth) 71 [] []) : ∀ (n : Nat) (v2 : Int), f_X4_hasSameHead_l2 K t_bytes t_lengths t_columns t_rows p1_bytes p1_lengths p1_rows n v2 = some R → zG X D 0 0 (wX4 aI q_t q_t_bytes q_t_lengths q_t_widths q_t_ofNumbers t_bytes t_lengths t_columns t_rows t_widths t_ofNumbers t_laidWidth ++ wX4 aI q_p1 q_p1_bytes q_p1_lengths q_p1_widths q_p1_ofNumbers p1_bytes p1_lengths p1_columns p1_rows p1_widths p1_ofNumbers p1_laidWidth) 2 [(0, .ref q_t), (1, .ref q_p1), (2, .int (zI v2))] [] := by
  intro n
  induction n with
  | zero => intro v2 hf; rw [f_X4_hasSameHead_l2_z] at hf; cases hf
  | succ n ih =>
    intro v2 hf
    rw [f_X4_hasSameHead_l2_s] at hf
    refine z_iload_n 2 F (dX4_hasSameHead_0 2 rfl) rfl ?_
    refine z_aload_n 0 F (dX4_hasSameHead_0 3 rfl) rfl ?_
    refine z_get (v := .int (zI t_columns)) 0 F (dX4_hasSameHead_0 4 rfl) fl_X4_hasSameHead_24 rfl rfl ?_
    refine z_icmp_ge (tgt := 71) F (dX4_hasSameHead_0 5 rfl) rfl (fun c7 => ?_) (fun c7 => ?_)
    · replace hf := zif_f c7 hf
      refine z_lv [] rfl ?_
      exact hK  hf
    · replace hf := zif_t c7 hf
      refine z_aload_n 0 F (dX4_hasSameHead_0 6 rfl) rfl ?_
      refine z_iconst F (dX4_hasSameHead_0 7 rfl) ?_
      refine z_iload_n 2 F (dX4_hasSameHead_0 8 rfl) rfl ?_
      obtain ⟨o_1, h_2, hf⟩ := zb_some hf
      refine z_callV (As := [.int (zI 0), .int (zI v2)]) (rest := []) (wr := wX4 aI q_p1 q_p1_bytes q_p1_lengths q_p1_widths q_p1_ofNumbers p1_bytes p1_lengths p1_columns p1_rows p1_widths p1_ofNumbers p1_laidWidth) F (dX4_hasSameHead_0 9 rfl) (k_X4_lengthOf (zL X) D aI aZ q_t q_t_bytes q_t_lengths q_t_widths q_t_ofNumbers t_bytes t_lengths t_columns t_rows t_widths t_ofNumbers t_laidWidth 0 v2 h_2) gX4_hasSameHead_X4_lengthOf mX4_lengthOf rfl (ci := 4) rfl [0, 1, 2, 3, 4] [5, 6, 7, 8, 9] 0 rfl rfl rfl (by decide) rfl rfl (Nat.le_of_ble_eq_true rfl) ⟨Nat.le_of_ble_eq_true rfl, Nat.le_of_ble_eq_true rfl⟩ ⟨rfl, rfl⟩ ⟨Nat.le_of_ble_eq_true rfl, Nat.le_of_ble_eq_true rfl⟩ (z_plain (ws' := wX4 aI q_t q_t_bytes q_t_lengths q_t_widths q_t_ofNumbers t_bytes t_lengths t_columns t_rows t_widths t_ofNumbers t_laidWidth ++ wX4 aI q_p1 q_p1_bytes q_p1_lengths q_p1_widths q_p1_ofNumbers p1_bytes p1_lengths p1_columns p1_rows p1_widths p1_ofNumbers p1_laidWidth) (st' := [.int (zI o_1)]) [5, 6, 7, 8, 9, 0, 1, 2, 3, 4] rfl (by decide) rfl ?_)
      refine z_istore_n (lv' := [(3, .int (zI o_1)), (0, .ref q_t), (1, .ref q_p1), (2, .int (zI v2))]) F (dX4_hasSameHead_0 10 rfl) (by decide) rfl ?_
      refine z_iload_n 0 F (dX4_hasSameHead_0 11 rfl) rfl ?_
      refine z_aload_n 2 F (dX4_hasSameHead_0 12 rfl) rfl ?_
      refine z_iconst F (dX4_hasSameHead_0 13 rfl) ?_
      refine z_iload_n 3 F (dX4_hasSameHead_0 14 rfl) rfl ?_
      obtain ⟨o_3, h_4, hf⟩ := zb_some hf
      refine z_callV (As := [.int (zI 0), .int (zI v2)]) (rest := [.int (zI o_1)]) (wr := wX4 aI q_t q_t_bytes q_t_lengths q_t_widths q_t_ofNumbers t_bytes t_lengths t_columns t_rows t_widths t_ofNumbers t_laidWidth) F (dX4_hasSameHead_0 15 rfl) (k_X4_lengthOf (zL X) D aI aZ q_p1 q_p1_bytes q_p1_lengths q_p1_widths q_p1_ofNumbers p1_bytes p1_lengths p1_columns p1_rows p1_widths p1_ofNumbers p1_laidWidth 0 v2 h_4) gX4_hasSameHead_X4_lengthOf mX4_lengthOf rfl (ci := 4) rfl [5, 6, 7, 8, 9] [0, 1, 2, 3, 4] 0 rfl rfl rfl (by decide) rfl rfl (Nat.le_of_ble_eq_true rfl) ⟨Nat.le_of_ble_eq_true rfl, Nat.le_of_ble_eq_true rfl⟩ ⟨rfl, rfl⟩ ⟨Nat.le_of_ble_eq_true rfl, Nat.le_of_ble_eq_true rfl⟩ (z_plain (ws' := wX4 aI q_t q_t_bytes q_t_lengths q_t_widths q_t_ofNumbers t_bytes t_lengths t_columns t_rows t_widths t_ofNumbers t_laidWidth ++ wX4 aI q_p1 q_p1_bytes q_p1_lengths q_p1_widths q_p1_ofNumbers p1_bytes p1_lengths p1_columns p1_rows p1_widths p1_ofNumbers p1_laidWidth) (st' := [.int (zI o_3), .int (zI o_1)]) [0, 1, 2, 3, 4, 5, 6, 7, 8, 9] rfl (by decide) rfl ?_)
      refine z_icmp_eq (tgt := 29) F (dX4_hasSameHead_0 16 rfl) rfl (fun c24 => ?_) (fun c24 => ?_)
      · replace hf := zif_t c24 hf
        refine z_iconst F (dX4_hasSameHead_0 19 rfl) ?_
        refine z_istore (lv' := [(4, .int (zI 0)), (3, .int (zI o_1)), (0, .ref q_t), (1, .ref q_p1), (2, .int (zI v2))]) F (dX4_hasSameHead_0 20 rfl) (by decide) rfl ?_
        refine z_lv [2, 3, 4, 1, 0] rfl ?_
        refine b_X4_hasSameHead_l32 F E q_t q_t_bytes q_t_lengths q_t_widths q_t_ofNumbers q_p1 q_p1_bytes q_p1_lengths q_p1_widths q_p1_ofNumbers v2 o_1 t_bytes t_lengths t_columns t_rows t_widths t_ofNumbers t_laidWidth p1_bytes p1_lengths p1_columns p1_rows p1_widths p1_ofNumbers p1_laidWidth hQ _ ?_ zN 0 hf
        intro hf
        refine z_iinc (lv' := [(2, .int (zI (v2 + 1))), (0, .ref q_t), (1, .ref q_p1)]) 2 F (dX4_hasSameHead_0 39 rfl) rfl (by decide) rfl ?_
        refine z_goto (tgt := 2) F (dX4_hasSameHead_1 0 rfl) rfl ?_
        refine z_lv [1, 2, 0] rfl ?_
        exact ih (v2 + 1) hf
      · replace hf := zif_f c24 hf
        refine z_iconst F (dX4_hasSameHead_0 17 rfl) ?_
        cases hf
        exact z_zret [0, 1, 2, 3, 4, 5, 6, 7, 8, 9] F E (dX4_hasSameHead_0 18 rfl) (Or.inl rfl) rfl (by decide) hQ
set_option maxRecDepth 20000 in
set_option maxHeartbeats 2000000 in
theorem b_X4_hasSameHead_0 {X : zX} {D : va_G} {aI aZ : ClassId} {w0 : va_W} {Qp : Option Value → va_W → Prop} (F : zF X D aI aZ cX4_hasSameHead 5 RX4 wsX4_hasSameHead rmX4_hasSameHead) (E : zT X D w0 Qp 0 0 (some .boolean)) (q_t q_t_bytes q_t_lengths q_t_widths q_t_ofNumbers q_p1 q_p1_bytes q_p1_lengths q_p1_widths q_p1_ofNumbers : Nat) (t_bytes : (Nat → Int)) (t_lengths : (Nat → Int)) (t_columns : Int) (t_rows : Int) (t_widths : (Nat → Int)) (t_ofNumbers : (Nat → Int)) (t_laidWidth : Int) (p1_bytes : (Nat → Int)) (p1_lengths : (Nat → Int)) (p1_columns : Int) (p1_rows : Int) (p1_widths : (Nat → Int)) (p1_ofNumbers : (Nat → Int)) (p1_laidWidth : Int) {R : Int} (hQ : Qp (some (.int (zI R))) (wX4 aI q_t q_t_bytes q_t_lengths q_t_widths q_t_ofNumbers t_bytes t_lengths t_columns t_rows t_widths t_ofNumbers t_laidWidth ++ wX4 aI q_p1 q_p1_bytes q_p1_lengths q_p1_widths q_p1_ofNumbers p1_bytes p1_lengths p1_columns p1_rows p1_widths p1_ofNumbers p1_laidWidth)) (hf : f_X4_hasSameHead t_bytes t_lengths t_columns t_rows p1_bytes p1_lengths p1_rows = some R) : zG X D 0 0 (wX4 aI q_t q_t_bytes q_t_lengths q_t_widths q_t_ofNumbers t_bytes t_lengths t_columns t_rows t_widths t_ofNumbers t_laidWidth ++ wX4 aI q_p1 q_p1_bytes q_p1_lengths q_p1_widths q_p1_ofNumbers p1_bytes p1_lengths p1_columns p1_rows p1_widths p1_ofNumbers p1_laidWidth) 0 [(0, .ref q_t), (1, .ref q_p1)] [] := by
  unfold f_X4_hasSameHead at hf
  refine z_iconst F (dX4_hasSameHead_0 0 rfl) ?_
  refine z_istore_n (lv' := [(2, .int (zI 0)), (0, .ref q_t), (1, .ref q_p1)]) F (dX4_hasSameHead_0 1 rfl) (by decide) rfl ?_
  refine z_lv [1, 2, 0] rfl ?_
  refine b_X4_hasSameHead_l2 F E q_t q_t_bytes q_t_lengths q_t_widths q_t_ofNumbers q_p1 q_p1_bytes q_p1_lengths q_p1_widths q_p1_ofNumbers t_bytes t_lengths t_columns t_rows t_widths t_ofNumbers t_laidWidth p1_bytes p1_lengths p1_columns p1_rows p1_widths p1_ofNumbers p1_laidWidth hQ _ ?_ zN 0 hf
  intro hf
  refine z_iconst F (dX4_hasSameHead_1 1 rfl) ?_
  cases hf
  exact z_zret [0, 1, 2, 3, 4, 5, 6, 7, 8, 9] F E (dX4_hasSameHead_1 2 rfl) (Or.inr rfl) rfl (by decide) hQ
set_option maxRecDepth 20000 in
set_option maxHeartbeats 2000000 in
theorem k_X4_hasSameHead (l : Launch) (D : va_G) (aI aZ : ClassId) (q_t q_t_bytes q_t_lengths q_t_widths q_t_ofNumbers q_p1 q_p1_bytes q_p1_lengths q_p1_widths q_p1_ofNumbers : Nat) (t_bytes : (Nat → Int)) (t_lengths : (Nat → Int)) (t_columns : Int) (t_rows : Int) (t_widths : (Nat → Int)) (t_ofNumbers : (Nat → Int)) (t_laidWidth : Int) (p1_bytes : (Nat → Int)) (p1_lengths : (Nat → Int)) (p1_columns : Int) (p1_rows : Int) (p1_widths : (Nat → Int)) (p1_ofNumbers : (Nat → Int)) (p1_laidWidth : Int) {R : Int} (hf : f_X4_hasSameHead t_bytes t_lengths t_columns t_rows p1_bytes p1_lengths p1_rows = some R) : zC l D aI aZ yX4_hasSameHead wsX4_hasSameHead rmX4_hasSameHead [.ref q_t, .ref q_p1] (wX4 aI q_t q_t_bytes q_t_lengths q_t_widths q_t_ofNumbers t_bytes t_lengths t_columns t_rows t_widths t_ofNumbers t_laidWidth ++ wX4 aI q_p1 q_p1_bytes q_p1_lengths q_p1_widths q_p1_ofNumbers p1_bytes p1_lengths p1_columns p1_rows p1_widths p1_ofNumbers p1_laidWidth) (fun r w => r = (some (.int (zI R))) ∧ w = wX4 aI q_t q_t_bytes q_t_lengths q_t_widths q_t_ofNumbers t_bytes t_lengths t_columns t_rows t_widths t_ofNumbers t_laidWidth ++ wX4 aI q_p1 q_p1_bytes q_p1_lengths q_p1_widths q_p1_ofNumbers p1_bytes p1_lengths p1_columns p1_rows p1_widths p1_ofNumbers p1_laidWidth) 0 0 := by
  refine z_met (cc := cX4_hasSameHead) (maxL := 5) (ret := (some .boolean)) (by decide +kernel) rfl (Nat.le_of_ble_eq_true rfl) (fun X hX F E => ?_)
  exact b_X4_hasSameHead_0 F E q_t q_t_bytes q_t_lengths q_t_widths q_t_ofNumbers q_p1 q_p1_bytes q_p1_lengths q_p1_widths q_p1_ofNumbers t_bytes t_lengths t_columns t_rows t_widths t_ofNumbers t_laidWidth p1_bytes p1_lengths p1_columns p1_rows p1_widths p1_ofNumbers p1_laidWidth ⟨rfl, rfl⟩ hf
theorem inw_X4_goesTogetherWith_4 : ∀ w ∈ u_ws RX4 TX4 7, w ∈ wsX4_goesTogetherWith := by decide +kernel
theorem fl_X4_goesTogetherWith_24 : zfl wsX4_goesTogetherWith RX4 24 4 2 RX4 TX4 7 := ⟨inw_X4_goesTogetherWith_4, rfl, by decide, by decide +kernel⟩
abbrev rmX4_goesTogetherWith : Room := { frames := 4, cells := 0, slots := 0, locals := 86 }
theorem mX4_goesTogetherWith : zY yX4_goesTogetherWith cX4_goesTogetherWith 2 (some .boolean) wsX4_goesTogetherWith 1 := ⟨⟨_, rfl⟩, by decide +kernel, by decide +kernel, by decide +kernel⟩
set_option maxRecDepth 20000 in
set_option maxHeartbeats 2000000 in
theorem b_X4_goesTogetherWith_j30 {X : zX} {D : va_G} {aI aZ : ClassId} {w0 : va_W} {Qp : Option Value → va_W → Prop} (F : zF X D aI aZ cX4_goesTogetherWith 2 RX4 wsX4_goesTogetherWith rmX4_goesTogetherWith) (E : zT X D w0 Qp 0 0 (some .boolean)) (q_t q_t_bytes q_t_lengths q_t_widths q_t_ofNumbers q_p1 q_p1_bytes q_p1_lengths q_p1_widths q_p1_ofNumbers : Nat) (t_bytes : (Nat → Int)) (t_lengths : (Nat → Int)) (t_columns : Int) (t_rows : Int) (t_widths : (Nat → Int)) (t_ofNumbers : (Nat → Int)) (t_laidWidth : Int) (p1_bytes : (Nat → Int)) (p1_lengths : (Nat → Int)) (p1_columns : Int) (p1_rows : Int) (p1_widths : (Nat → Int)) (p1_ofNumbers : (Nat → Int)) (p1_laidWidth : Int) {R : Int} (hQ : Qp (some (.int (zI R))) (wX4 aI q_t q_t_bytes q_t_lengths q_t_widths q_t_ofNumbers t_bytes t_lengths t_columns t_rows t_widths t_ofNumbers t_laidWidth ++ wX4 aI q_p1 q_p1_bytes q_p1_lengths q_p1_widths q_p1_ofNumbers p1_bytes p1_lengths p1_columns p1_rows p1_widths p1_ofNumbers p1_laidWidth)) (hf : f_X4_goesTogetherWith_j30 = some R) : zG X D 0 0 (wX4 aI q_t q_t_bytes q_t_lengths q_t_widths q_t_ofNumbers t_bytes t_lengths t_columns t_rows t_widths t_ofNumbers t_laidWidth ++ wX4 aI q_p1 q_p1_bytes q_p1_lengths q_p1_widths q_p1_ofNumbers p1_bytes p1_lengths p1_columns p1_rows p1_widths p1_ofNumbers p1_laidWidth) 30 [] [] := by
  unfold f_X4_goesTogetherWith_j30 at hf
  refine z_iconst F (dX4_goesTogetherWith_0 14 rfl) ?_
  cases hf
  exact z_zret [0, 1, 2, 3, 4, 5, 6, 7, 8, 9] F E (dX4_goesTogetherWith_0 15 rfl) (Or.inl rfl) rfl (by decide) hQ
set_option maxRecDepth 20000 in
set_option maxHeartbeats 2000000 in
theorem b_X4_goesTogetherWith_j26 {X : zX} {D : va_G} {aI aZ : ClassId} {w0 : va_W} {Qp : Option Value → va_W → Prop} (F : zF X D aI aZ cX4_goesTogetherWith 2 RX4 wsX4_goesTogetherWith rmX4_goesTogetherWith) (E : zT X D w0 Qp 0 0 (some .boolean)) (q_t q_t_bytes q_t_lengths q_t_widths q_t_ofNumbers q_p1 q_p1_bytes q_p1_lengths q_p1_widths q_p1_ofNumbers : Nat) (t_bytes : (Nat → Int)) (t_lengths : (Nat → Int)) (t_columns : Int) (t_rows : Int) (t_widths : (Nat → Int)) (t_ofNumbers : (Nat → Int)) (t_laidWidth : Int) (p1_bytes : (Nat → Int)) (p1_lengths : (Nat → Int)) (p1_columns : Int) (p1_rows : Int) (p1_widths : (Nat → Int)) (p1_ofNumbers : (Nat → Int)) (p1_laidWidth : Int) {R : Int} (hQ : Qp (some (.int (zI R))) (wX4 aI q_t q_t_bytes q_t_lengths q_t_widths q_t_ofNumbers t_bytes t_lengths t_columns t_rows t_widths t_ofNumbers t_laidWidth ++ wX4 aI q_p1 q_p1_bytes q_p1_lengths q_p1_widths q_p1_ofNumbers p1_bytes p1_lengths p1_columns p1_rows p1_widths p1_ofNumbers p1_laidWidth)) (hf : f_X4_goesTogetherWith_j26 = some R) : zG X D 0 0 (wX4 aI q_t q_t_bytes q_t_lengths q_t_widths q_t_ofNumbers t_bytes t_lengths t_columns t_rows t_widths t_ofNumbers t_laidWidth ++ wX4 aI q_p1 q_p1_bytes q_p1_lengths q_p1_widths q_p1_ofNumbers p1_bytes p1_lengths p1_columns p1_rows p1_widths p1_ofNumbers p1_laidWidth) 26 [] [] := by
  unfold f_X4_goesTogetherWith_j26 at hf
  refine z_iconst F (dX4_goesTogetherWith_0 12 rfl) ?_
  refine z_goto (tgt := 31) F (dX4_goesTogetherWith_0 13 rfl) rfl ?_
  cases hf
  exact z_zret [0, 1, 2, 3, 4, 5, 6, 7, 8, 9] F E (dX4_goesTogetherWith_0 15 rfl) (Or.inr rfl) rfl (by decide) hQ
set_option maxRecDepth 20000 in
set_option maxHeartbeats 2000000 in
theorem b_X4_goesTogetherWith_0 {X : zX} {D : va_G} {aI aZ : ClassId} {w0 : va_W} {Qp : Option Value → va_W → Prop} (F : zF X D aI aZ cX4_goesTogetherWith 2 RX4 wsX4_goesTogetherWith rmX4_goesTogetherWith) (E : zT X D w0 Qp 0 0 (some .boolean)) (q_t q_t_bytes q_t_lengths q_t_widths q_t_ofNumbers q_p1 q_p1_bytes q_p1_lengths q_p1_widths q_p1_ofNumbers : Nat) (t_bytes : (Nat → Int)) (t_lengths : (Nat → Int)) (t_columns : Int) (t_rows : Int) (t_widths : (Nat → Int)) (t_ofNumbers : (Nat → Int)) (t_laidWidth : Int) (p1_bytes : (Nat → Int)) (p1_lengths : (Nat → Int)) (p1_columns : Int) (p1_rows : Int) (p1_widths : (Nat → Int)) (p1_ofNumbers : (Nat → Int)) (p1_laidWidth : Int) {R : Int} (hQ : Qp (some (.int (zI R))) (wX4 aI q_t q_t_bytes q_t_lengths q_t_widths q_t_ofNumbers t_bytes t_lengths t_columns t_rows t_widths t_ofNumbers t_laidWidth ++ wX4 aI q_p1 q_p1_bytes q_p1_lengths q_p1_widths q_p1_ofNumbers p1_bytes p1_lengths p1_columns p1_rows p1_widths p1_ofNumbers p1_laidWidth)) (hf : f_X4_goesTogetherWith t_bytes t_lengths t_columns t_rows p1_bytes p1_lengths p1_columns p1_rows = some R) : zG X D 0 0 (wX4 aI q_t q_t_bytes q_t_lengths q_t_widths q_t_ofNumbers t_bytes t_lengths t_columns t_rows t_widths t_ofNumbers t_laidWidth ++ wX4 aI q_p1 q_p1_bytes q_p1_lengths q_p1_widths q_p1_ofNumbers p1_bytes p1_lengths p1_columns p1_rows p1_widths p1_ofNumbers p1_laidWidth) 0 [(0, .ref q_t), (1, .ref q_p1)] [] := by
  unfold f_X4_goesTogetherWith at hf
  refine z_aload_n 0 F (dX4_goesTogetherWith_0 0 rfl) rfl ?_
  refine z_get (v := .int (zI t_columns)) 0 F (dX4_goesTogetherWith_0 1 rfl) fl_X4_goesTogetherWith_24 rfl rfl ?_
  refine z_aload_n 1 F (dX4_goesTogetherWith_0 2 rfl) rfl ?_
  refine z_get (v := .int (zI p1_columns)) 5 F (dX4_goesTogetherWith_0 3 rfl) fl_X4_goesTogetherWith_24 rfl rfl ?_
  refine z_icmp_ne (tgt := 30) F (dX4_goesTogetherWith_0 4 rfl) rfl (fun c8 => ?_) (fun c8 => ?_)
  · replace hf := zif_f c8 hf
    refine z_lv [] rfl ?_
    exact b_X4_goesTogetherWith_j30 F E q_t q_t_bytes q_t_lengths q_t_widths q_t_ofNumbers q_p1 q_p1_bytes q_p1_lengths q_p1_widths q_p1_ofNumbers t_bytes t_lengths t_columns t_rows t_widths t_ofNumbers t_laidWidth p1_bytes p1_lengths p1_columns p1_rows p1_widths p1_ofNumbers p1_laidWidth hQ hf
  · replace hf := zif_t c8 hf
    refine z_aload_n 1 F (dX4_goesTogetherWith_0 5 rfl) rfl ?_
    obtain ⟨o_1, h_2, hf⟩ := zb_some hf
    refine z_callV (As := []) (rest := []) (wr := wX4 aI q_t q_t_bytes q_t_lengths q_t_widths q_t_ofNumbers t_bytes t_lengths t_columns t_rows t_widths t_ofNumbers t_laidWidth) F (dX4_goesTogetherWith_0 6 rfl) (k_X4_hasHead (zL X) D aI aZ q_p1 q_p1_bytes q_p1_lengths q_p1_widths q_p1_ofNumbers p1_bytes p1_lengths p1_columns p1_rows p1_widths p1_ofNumbers p1_laidWidth h_2) gX4_goesTogetherWith_X4_hasHead mX4_hasHead rfl (ci := 4) rfl [5, 6, 7, 8, 9] [0, 1, 2, 3, 4] 0 rfl rfl rfl (by decide) rfl rfl (Nat.le_of_ble_eq_true rfl) ⟨Nat.le_of_ble_eq_true rfl, Nat.le_of_ble_eq_true rfl⟩ ⟨rfl, rfl⟩ ⟨Nat.le_of_ble_eq_true rfl, Nat.le_of_ble_eq_true rfl⟩ (z_plain (ws' := wX4 aI q_t q_t_bytes q_t_lengths q_t_widths q_t_ofNumbers t_bytes t_lengths t_columns t_rows t_widths t_ofNumbers t_laidWidth ++ wX4 aI q_p1 q_p1_bytes q_p1_lengths q_p1_widths q_p1_ofNumbers p1_bytes p1_lengths p1_columns p1_rows p1_widths p1_ofNumbers p1_laidWidth) (st' := [.int (zI o_1)]) [0, 1, 2, 3, 4, 5, 6, 7, 8, 9] rfl (by decide) rfl ?_)
    refine z_if_eq (tgt := 26) F (dX4_goesTogetherWith_0 7 rfl) rfl (fun c15 => ?_) (fun c15 => ?_)
    · replace hf := zif_t c15 hf
      refine z_lv [] rfl ?_
      exact b_X4_goesTogetherWith_j26 F E q_t q_t_bytes q_t_lengths q_t_widths q_t_ofNumbers q_p1 q_p1_bytes q_p1_lengths q_p1_widths q_p1_ofNumbers t_bytes t_lengths t_columns t_rows t_widths t_ofNumbers t_laidWidth p1_bytes p1_lengths p1_columns p1_rows p1_widths p1_ofNumbers p1_laidWidth hQ hf
    · replace hf := zif_f c15 hf
      refine z_aload_n 0 F (dX4_goesTogetherWith_0 8 rfl) rfl ?_
      refine z_aload_n 1 F (dX4_goesTogetherWith_0 9 rfl) rfl ?_
      obtain ⟨o_3, h_4, hf⟩ := zb_some hf
      refine z_callV (As := [.ref q_p1]) (rest := []) (wr := []) F (dX4_goesTogetherWith_0 10 rfl) (k_X4_hasSameHead (zL X) D aI aZ q_t q_t_bytes q_t_lengths q_t_widths q_t_ofNumbers q_p1 q_p1_bytes q_p1_lengths q_p1_widths q_p1_ofNumbers t_bytes t_lengths t_columns t_rows t_widths t_ofNumbers t_laidWidth p1_bytes p1_lengths p1_columns p1_rows p1_widths p1_ofNumbers p1_laidWidth h_4) gX4_goesTogetherWith_X4_hasSameHead mX4_hasSameHead rfl (ci := 4) rfl [0, 1, 2, 3, 4, 5, 6, 7, 8, 9] [] 0 rfl rfl rfl (by decide) rfl rfl (Nat.le_of_ble_eq_true rfl) ⟨Nat.le_of_ble_eq_true rfl, Nat.le_of_ble_eq_true rfl⟩ ⟨rfl, rfl⟩ ⟨Nat.le_of_ble_eq_true rfl, Nat.le_of_ble_eq_true rfl⟩ (z_plain (ws' := wX4 aI q_t q_t_bytes q_t_lengths q_t_widths q_t_ofNumbers t_bytes t_lengths t_columns t_rows t_widths t_ofNumbers t_laidWidth ++ wX4 aI q_p1 q_p1_bytes q_p1_lengths q_p1_widths q_p1_ofNumbers p1_bytes p1_lengths p1_columns p1_rows p1_widths p1_ofNumbers p1_laidWidth) (st' := [.int (zI o_3)]) [0, 1, 2, 3, 4, 5, 6, 7, 8, 9] rfl (by decide) rfl ?_)
      refine z_if_eq (tgt := 30) F (dX4_goesTogetherWith_0 11 rfl) rfl (fun c23 => ?_) (fun c23 => ?_)
      · replace hf := zif_t c23 hf
        refine z_lv [] rfl ?_
        exact b_X4_goesTogetherWith_j30 F E q_t q_t_bytes q_t_lengths q_t_widths q_t_ofNumbers q_p1 q_p1_bytes q_p1_lengths q_p1_widths q_p1_ofNumbers t_bytes t_lengths t_columns t_rows t_widths t_ofNumbers t_laidWidth p1_bytes p1_lengths p1_columns p1_rows p1_widths p1_ofNumbers p1_laidWidth hQ hf
      · replace hf := zif_f c23 hf
        refine z_lv [] rfl ?_
        exact b_X4_goesTogetherWith_j26 F E q_t q_t_bytes q_t_lengths q_t_widths q_t_ofNumbers q_p1 q_p1_bytes q_p1_lengths q_p1_widths q_p1_ofNumbers t_bytes t_lengths t_columns t_rows t_widths t_ofNumbers t_laidWidth p1_bytes p1_lengths p1_columns p1_rows p1_widths p1_ofNumbers p1_laidWidth hQ hf
set_option maxRecDepth 20000 in
set_option maxHeartbeats 2000000 in
theorem k_X4_goesTogetherWith (l : Launch) (D : va_G) (aI aZ : ClassId) (q_t q_t_bytes q_t_lengths q_t_widths q_t_ofNumbers q_p1 q_p1_bytes q_p1_lengths q_p1_widths q_p1_ofNumbers : Nat) (t_bytes : (Nat → Int)) (t_lengths : (Nat → Int)) (t_columns : Int) (t_rows : Int) (t_widths : (Nat → Int)) (t_ofNumbers : (Nat → Int)) (t_laidWidth : Int) (p1_bytes : (Nat → Int)) (p1_lengths : (Nat → Int)) (p1_columns : Int) (p1_rows : Int) (p1_widths : (Nat → Int)) (p1_ofNumbers : (Nat → Int)) (p1_laidWidth : Int) {R : Int} (hf : f_X4_goesTogetherWith t_bytes t_lengths t_columns t_rows p1_bytes p1_lengths p1_columns p1_rows = some R) : zC l D aI aZ yX4_goesTogetherWith wsX4_goesTogetherWith rmX4_goesTogetherWith [.ref q_t, .ref q_p1] (wX4 aI q_t q_t_bytes q_t_lengths q_t_widths q_t_ofNumbers t_bytes t_lengths t_columns t_rows t_widths t_ofNumbers t_laidWidth ++ wX4 aI q_p1 q_p1_bytes q_p1_lengths q_p1_widths q_p1_ofNumbers p1_bytes p1_lengths p1_columns p1_rows p1_widths p1_ofNumbers p1_laidWidth) (fun r w => r = (some (.int (zI R))) ∧ w = wX4 aI q_t q_t_bytes q_t_lengths q_t_widths q_t_ofNumbers t_bytes t_lengths t_columns t_rows t_widths t_ofNumbers t_laidWidth ++ wX4 aI q_p1 q_p1_bytes q_p1_lengths q_p1_widths q_p1_ofNumbers p1_bytes p1_lengths p1_columns p1_rows p1_widths p1_ofNumbers p1_laidWidth) 0 0 := by
  refine z_met (cc := cX4_goesTogetherWith) (maxL := 2) (ret := (some .boolean)) (by decide +kernel) rfl (Nat.le_of_ble_eq_true rfl) (fun X hX F E => ?_)
  exact b_X4_goesTogetherWith_0 F E q_t q_t_bytes q_t_lengths q_t_widths q_t_ofNumbers q_p1 q_p1_bytes q_p1_lengths q_p1_widths q_p1_ofNumbers t_bytes t_lengths t_columns t_rows t_widths t_ofNumbers t_laidWidth p1_bytes p1_lengths p1_columns p1_rows p1_widths p1_ofNumbers p1_laidWidth ⟨rfl, rfl⟩ hf
theorem inw_X4_takeRow_4 : ∀ w ∈ u_ws RX4 TX4 7, w ∈ wsX4_takeRow := by decide +kernel
theorem fl_X4_takeRow_24 : zfl wsX4_takeRow RX4 24 4 2 RX4 TX4 7 := ⟨inw_X4_takeRow_4, rfl, by decide, by decide +kernel⟩
theorem fl_X4_takeRow_15 : zfl wsX4_takeRow RX4 15 4 1 RX4 TX4 7 := ⟨inw_X4_takeRow_4, rfl, by decide, by decide +kernel⟩
theorem sw1_X4_takeRow_X5_put : Cond.static yX5_put ∈ wsX4_takeRow := by decide +kernel
theorem sw2_X4_takeRow_X5_put : Cond.initialized yX5_put.cls ∈ wsX4_takeRow := by decide +kernel
theorem fl_X4_takeRow_9 : zfl wsX4_takeRow RX4 9 4 0 RX4 TX4 7 := ⟨inw_X4_takeRow_4, rfl, by decide, by decide +kernel⟩
abbrev rmX4_takeRow : Room := { frames := 2, cells := 0, slots := 0, locals := 46 }
theorem mX4_takeRow : zY yX4_takeRow cX4_takeRow 8 none wsX4_takeRow 3 := ⟨⟨_, rfl⟩, by decide +kernel, by decide +kernel, by decide +kernel⟩
set_option maxRecDepth 20000 in
set_option maxHeartbeats 2000000 in
theorem b_X4_takeRow_l44 {X : zX} {D : va_G} {aI aZ : ClassId} {w0 : va_W} {Qp : Option Value → va_W → Prop} (F : zF X D aI aZ cX4_takeRow 8 RX4 wsX4_takeRow rmX4_takeRow) (E : zT X D w0 Qp 0 0 none) (q_t q_t_bytes q_t_lengths q_t_widths q_t_ofNumbers q_p2 q_p2_bytes q_p2_lengths q_p2_widths q_p2_ofNumbers : Nat) (v1 : Int) (v3 : Int) (v4 : Int) (v5 : Int) (v6 : Int) (t_lengths : (Nat → Int)) (t_columns : Int) (t_rows : Int) (t_widths : (Nat → Int)) (t_ofNumbers : (Nat → Int)) (t_laidWidth : Int) (p2_bytes : (Nat → Int)) (p2_lengths : (Nat → Int)) (p2_columns : Int) (p2_rows : Int) (p2_widths : (Nat → Int)) (p2_ofNumbers : (Nat → Int)) (p2_laidWidth : Int) {R : (Nat → Int) × (Nat → Int)} (hQ : Qp none (wX4 aI q_t q_t_bytes q_t_lengths q_t_widths q_t_ofNumbers R.1 R.2 t_columns t_rows t_widths t_ofNumbers t_laidWidth ++ wX4 aI q_p2 q_p2_bytes q_p2_lengths q_p2_widths q_p2_ofNumbers p2_bytes p2_lengths p2_columns p2_rows p2_widths p2_ofNumbers p2_laidWidth)) (K : (Nat → Int) → Option ((Nat → Int) × (Nat → Int))) (hK : ∀ (t_bytes : (Nat → Int)), K t_bytes = some R → zG X D 0 0 (wX4 aI q_t q_t_bytes q_t_lengths q_t_widths q_t_ofNumbers t_bytes t_lengths t_columns t_rows t_widths t_ofNumbers t_laidWidth ++ wX4 aI q_p2 q_p2_bytes q_p2_lengths q_p2_widths q_p2_ofNumbers p2_bytes p2_lengths p2_columns p2_rows p2_widths p2_ofNumbers p2_laidWidth) 81 [(0, .ref q_t), (1, .int (zI v1)), (2, .ref q_p2), (3, .int (zI v3)), (4, .int (zI v4))] []) : ∀ (n : Nat) (v7 : Int) (t_bytes : (Nat → Int)), f_X4_takeRow_l44 K v3 v4 v5 v6 p2_bytes p2_lengths p2_rows n v7 t_bytes = some R → zG X D 0 0 (wX4 aI q_t q_t_bytes q_t_lengths q_t_widths q_t_ofNumbers t_bytes t_lengths t_columns t_rows t_widths t_ofNumbers t_laidWidth ++ wX4 aI q_p2 q_p2_bytes q_p2_lengths q_p2_widths q_p2_ofNumbers p2_bytes p2_lengths p2_columns p2_rows p2_widths p2_ofNumbers p2_laidWidth) 44 [(0, .ref q_t), (1, .int (zI v1)), (2, .ref q_p2), (3, .int (zI v3)), (4, .int (zI v4)), (5, .int (zI v5)), (6, .int (zI v6)), (7, .int (zI v7))] [] := by
  intro n
  induction n with
  | zero => intro v7 t_bytes hf; rw [f_X4_takeRow_l44_z] at hf; cases hf
  | succ n ih =>
    intro v7 t_bytes hf
    rw [f_X4_takeRow_l44_s] at hf
    refine z_iload 7 F (dX4_takeRow_0 23 rfl) rfl ?_
    refine z_iload 6 F (dX4_takeRow_0 24 rfl) rfl ?_
    refine z_icmp_ge (tgt := 81) F (dX4_takeRow_0 25 rfl) rfl (fun c48 => ?_) (fun c48 => ?_)
    · replace hf := zif_f c48 hf
      refine z_lv [0, 1, 2, 3, 4] rfl ?_
      exact hK t_bytes hf
    · replace hf := zif_t c48 hf
      refine z_aload_n 0 F (dX4_takeRow_0 26 rfl) rfl ?_
      refine z_get (v := .ref q_t_bytes) 0 F (dX4_takeRow_0 27 rfl) fl_X4_takeRow_9 rfl rfl ?_
      refine z_iload 5 F (dX4_takeRow_0 28 rfl) rfl ?_
      refine z_bipush F (dX4_takeRow_0 29 rfl) rfl ?_
      refine z_imul F (dX4_takeRow_0 30 rfl) ?_
      refine z_iload 7 F (dX4_takeRow_0 31 rfl) rfl ?_
      refine z_iadd F (dX4_takeRow_0 32 rfl) ?_
      refine z_aload_n 2 F (dX4_takeRow_0 33 rfl) rfl ?_
      refine z_iload_n 3 F (dX4_takeRow_0 34 rfl) rfl ?_
      refine z_iload 4 F (dX4_takeRow_0 35 rfl) rfl ?_
      refine z_iload 7 F (dX4_takeRow_0 36 rfl) rfl ?_
      obtain ⟨o_7, h_8, hf⟩ := zb_some hf
      refine z_callV (As := [.int (zI v3), .int (zI v4), .int (zI v7)]) (rest := [.int (zI ((v5 * 60) + v7)), .ref q_t_bytes]) (wr := wX4 aI q_t q_t_bytes q_t_lengths q_t_widths q_t_ofNumbers t_bytes t_lengths t_columns t_rows t_widths t_ofNumbers t_laidWidth) F (dX4_takeRow_0 37 rfl) (k_X4_byteOf (zL X) D aI aZ q_p2 q_p2_bytes q_p2_lengths q_p2_widths q_p2_ofNumbers p2_bytes p2_lengths p2_columns p2_rows p2_widths p2_ofNumbers p2_laidWidth v3 v4 v7 h_8) gX4_takeRow_X4_byteOf mX4_byteOf rfl (ci := 4) rfl [5, 6, 7, 8, 9] [0, 1, 2, 3, 4] 0 rfl rfl rfl (by decide) rfl rfl (Nat.le_of_ble_eq_true rfl) ⟨Nat.le_of_ble_eq_true rfl, Nat.le_of_ble_eq_true rfl⟩ ⟨rfl, rfl⟩ ⟨Nat.le_of_ble_eq_true rfl, Nat.le_of_ble_eq_true rfl⟩ (z_plain (ws' := wX4 aI q_t q_t_bytes q_t_lengths q_t_widths q_t_ofNumbers t_bytes t_lengths t_columns t_rows t_widths t_ofNumbers t_laidWidth ++ wX4 aI q_p2 q_p2_bytes q_p2_lengths q_p2_widths q_p2_ofNumbers p2_bytes p2_lengths p2_columns p2_rows p2_widths p2_ofNumbers p2_laidWidth) (st' := [.int (zI o_7), .int (zI ((v5 * 60) + v7)), .ref q_t_bytes]) [0, 1, 2, 3, 4, 5, 6, 7, 8, 9] rfl (by decide) rfl ?_)
      obtain ⟨o_9, h_10, hf⟩ := zb_some hf
      refine z_callN (As := [.ref q_t_bytes, .int (zI ((v5 * 60) + v7)), .int (zI o_7)]) (rest := []) (wr := [(q_t, .inr (4, [.ref q_t_bytes, .ref q_t_lengths, .int (zI t_columns), .int (zI t_rows), .ref q_t_widths, .ref q_t_ofNumbers, .int (zI t_laidWidth)]))] ++ ([(q_t_lengths, .inl (aI, 336, .inl (fun j => zI (t_lengths j))))] ++ ([(q_t_widths, .inl (aI, 8, .inl (fun j => zI (t_widths j))))] ++ ([(q_t_ofNumbers, .inl (aI, 8, .inl (fun j => zI (t_ofNumbers j))))] ++ wX4 aI q_p2 q_p2_bytes q_p2_lengths q_p2_widths q_p2_ofNumbers p2_bytes p2_lengths p2_columns p2_rows p2_widths p2_ofNumbers p2_laidWidth)))) F (dX4_takeRow_0 38 rfl) (k_X5_put (zL X) D aI aZ q_t_bytes 20160 (by decide) t_bytes ((v5 * 60) + v7) o_7 h_10) gX4_takeRow_X5_put_n49 mX5_put nst_X4_X5_put sw1_X4_takeRow_X5_put sw2_X4_takeRow_X5_put [1] [0, 2, 3, 4, 5, 6, 7, 8, 9] rfl rfl (by decide) rfl rfl (Nat.le_of_ble_eq_true rfl) ⟨Nat.le_of_ble_eq_true rfl, Nat.le_of_ble_eq_true rfl⟩ ⟨rfl, rfl⟩ ⟨Nat.le_of_ble_eq_true rfl, Nat.le_of_ble_eq_true rfl⟩ (z_plain (ws' := wX4 aI q_t q_t_bytes q_t_lengths q_t_widths q_t_ofNumbers o_9 t_lengths t_columns t_rows t_widths t_ofNumbers t_laidWidth ++ wX4 aI q_p2 q_p2_bytes q_p2_lengths q_p2_widths q_p2_ofNumbers p2_bytes p2_lengths p2_columns p2_rows p2_widths p2_ofNumbers p2_laidWidth) (st' := []) [0, 9, 1, 2, 3, 4, 5, 6, 7, 8] rfl (by decide) rfl ?_)
      refine z_iinc (lv' := [(7, .int (zI (v7 + 1))), (0, .ref q_t), (1, .int (zI v1)), (2, .ref q_p2), (3, .int (zI v3)), (4, .int (zI v4)), (5, .int (zI v5)), (6, .int (zI v6))]) 7 F (dX4_takeRow_0 39 rfl) rfl (by decide) rfl ?_
      refine z_goto (tgt := 44) F (dX4_takeRow_1 0 rfl) rfl ?_
      refine z_lv [1, 2, 3, 4, 5, 6, 7, 0] rfl ?_
      exact ih (v7 + 1) o_9 hf
set_option maxRecDepth 20000 in
set_option maxHeartbeats 2000000 in
theorem b_X4_takeRow_l3 {X : zX} {D : va_G} {aI aZ : ClassId} {w0 : va_W} {Qp : Option Value → va_W → Prop} (F : zF X D aI aZ cX4_takeRow 8 RX4 wsX4_takeRow rmX4_takeRow) (E : zT X D w0 Qp 0 0 none) (q_t q_t_bytes q_t_lengths q_t_widths q_t_ofNumbers q_p2 q_p2_bytes q_p2_lengths q_p2_widths q_p2_ofNumbers : Nat) (v1 : Int) (v3 : Int) (t_columns : Int) (t_rows : Int) (t_widths : (Nat → Int)) (t_ofNumbers : (Nat → Int)) (t_laidWidth : Int) (p2_bytes : (Nat → Int)) (p2_lengths : (Nat → Int)) (p2_columns : Int) (p2_rows : Int) (p2_widths : (Nat → Int)) (p2_ofNumbers : (Nat → Int)) (p2_laidWidth : Int) {R : (Nat → Int) × (Nat → Int)} (hQ : Qp none (wX4 aI q_t q_t_bytes q_t_lengths q_t_widths q_t_ofNumbers R.1 R.2 t_columns t_rows t_widths t_ofNumbers t_laidWidth ++ wX4 aI q_p2 q_p2_bytes q_p2_lengths q_p2_widths q_p2_ofNumbers p2_bytes p2_lengths p2_columns p2_rows p2_widths p2_ofNumbers p2_laidWidth)) (K : (Nat → Int) → (Nat → Int) → Option ((Nat → Int) × (Nat → Int))) (hK : ∀ (t_bytes : (Nat → Int)) (t_lengths : (Nat → Int)), K t_bytes t_lengths = some R → zG X D 0 0 (wX4 aI q_t q_t_bytes q_t_lengths q_t_widths q_t_ofNumbers t_bytes t_lengths t_columns t_rows t_widths t_ofNumbers t_laidWidth ++ wX4 aI q_p2 q_p2_bytes q_p2_lengths q_p2_widths q_p2_ofNumbers p2_bytes p2_lengths p2_columns p2_rows p2_widths p2_ofNumbers p2_laidWidth) 87 [] []) : ∀ (n : Nat) (v4 : Int) (t_bytes : (Nat → Int)) (t_lengths : (Nat → Int)), f_X4_takeRow_l3 K v1 v3 t_columns t_rows p2_bytes p2_lengths p2_rows n v4 t_bytes t_lengths = some R → zG X D 0 0 (wX4 aI q_t q_t_bytes q_t_lengths q_t_widths q_t_ofNumbers t_bytes t_lengths t_columns t_rows t_widths t_ofNumbers t_laidWidth ++ wX4 aI q_p2 q_p2_bytes q_p2_lengths q_p2_widths q_p2_ofNumbers p2_bytes p2_lengths p2_columns p2_rows p2_widths p2_ofNumbers p2_laidWidth) 3 [(0, .ref q_t), (1, .int (zI v1)), (2, .ref q_p2), (3, .int (zI v3)), (4, .int (zI v4))] [] := by
  intro n
  induction n with
  | zero => intro v4 t_bytes t_lengths hf; rw [f_X4_takeRow_l3_z] at hf; cases hf
  | succ n ih =>
    intro v4 t_bytes t_lengths hf
    rw [f_X4_takeRow_l3_s] at hf
    refine z_iload 4 F (dX4_takeRow_0 2 rfl) rfl ?_
    refine z_aload_n 0 F (dX4_takeRow_0 3 rfl) rfl ?_
    refine z_get (v := .int (zI t_columns)) 0 F (dX4_takeRow_0 4 rfl) fl_X4_takeRow_24 rfl rfl ?_
    refine z_icmp_ge (tgt := 87) F (dX4_takeRow_0 5 rfl) rfl (fun c9 => ?_) (fun c9 => ?_)
    · replace hf := zif_f c9 hf
      refine z_lv [] rfl ?_
      exact hK t_bytes t_lengths hf
    · replace hf := zif_t c9 hf
      refine z_aload_n 0 F (dX4_takeRow_0 6 rfl) rfl ?_
      refine z_iload_n 1 F (dX4_takeRow_0 7 rfl) rfl ?_
      refine z_iload 4 F (dX4_takeRow_0 8 rfl) rfl ?_
      obtain ⟨o_1, h_2, hf⟩ := zb_some hf
      refine z_callV (As := [.int (zI v1), .int (zI v4)]) (rest := []) (wr := wX4 aI q_p2 q_p2_bytes q_p2_lengths q_p2_widths q_p2_ofNumbers p2_bytes p2_lengths p2_columns p2_rows p2_widths p2_ofNumbers p2_laidWidth) F (dX4_takeRow_0 9 rfl) (k_X4_slotOf (zL X) D aI aZ q_t q_t_bytes q_t_lengths q_t_widths q_t_ofNumbers t_bytes t_lengths t_columns t_rows t_widths t_ofNumbers t_laidWidth v1 v4 h_2) gX4_takeRow_X4_slotOf mX4_slotOf rfl (ci := 4) rfl [0, 1, 2, 3, 4] [5, 6, 7, 8, 9] 0 rfl rfl rfl (by decide) rfl rfl (Nat.le_of_ble_eq_true rfl) ⟨Nat.le_of_ble_eq_true rfl, Nat.le_of_ble_eq_true rfl⟩ ⟨rfl, rfl⟩ ⟨Nat.le_of_ble_eq_true rfl, Nat.le_of_ble_eq_true rfl⟩ (z_plain (ws' := wX4 aI q_t q_t_bytes q_t_lengths q_t_widths q_t_ofNumbers t_bytes t_lengths t_columns t_rows t_widths t_ofNumbers t_laidWidth ++ wX4 aI q_p2 q_p2_bytes q_p2_lengths q_p2_widths q_p2_ofNumbers p2_bytes p2_lengths p2_columns p2_rows p2_widths p2_ofNumbers p2_laidWidth) (st' := [.int (zI o_1)]) [5, 6, 7, 8, 9, 0, 1, 2, 3, 4] rfl (by decide) rfl ?_)
      refine z_istore (lv' := [(5, .int (zI o_1)), (0, .ref q_t), (1, .int (zI v1)), (2, .ref q_p2), (3, .int (zI v3)), (4, .int (zI v4))]) F (dX4_takeRow_0 10 rfl) (by decide) rfl ?_
      refine z_aload_n 3 F (dX4_takeRow_0 11 rfl) rfl ?_
      refine z_iload_n 4 F (dX4_takeRow_0 12 rfl) rfl ?_
      refine z_iload 5 F (dX4_takeRow_0 13 rfl) rfl ?_
      obtain ⟨o_3, h_4, hf⟩ := zb_some hf
      refine z_callV (As := [.int (zI v3), .int (zI v4)]) (rest := []) (wr := wX4 aI q_t q_t_bytes q_t_lengths q_t_widths q_t_ofNumbers t_bytes t_lengths t_columns t_rows t_widths t_ofNumbers t_laidWidth) F (dX4_takeRow_0 14 rfl) (k_X4_lengthOf (zL X) D aI aZ q_p2 q_p2_bytes q_p2_lengths q_p2_widths q_p2_ofNumbers p2_bytes p2_lengths p2_columns p2_rows p2_widths p2_ofNumbers p2_laidWidth v3 v4 h_4) gX4_takeRow_X4_lengthOf mX4_lengthOf rfl (ci := 4) rfl [5, 6, 7, 8, 9] [0, 1, 2, 3, 4] 0 rfl rfl rfl (by decide) rfl rfl (Nat.le_of_ble_eq_true rfl) ⟨Nat.le_of_ble_eq_true rfl, Nat.le_of_ble_eq_true rfl⟩ ⟨rfl, rfl⟩ ⟨Nat.le_of_ble_eq_true rfl, Nat.le_of_ble_eq_true rfl⟩ (z_plain (ws' := wX4 aI q_t q_t_bytes q_t_lengths q_t_widths q_t_ofNumbers t_bytes t_lengths t_columns t_rows t_widths t_ofNumbers t_laidWidth ++ wX4 aI q_p2 q_p2_bytes q_p2_lengths q_p2_widths q_p2_ofNumbers p2_bytes p2_lengths p2_columns p2_rows p2_widths p2_ofNumbers p2_laidWidth) (st' := [.int (zI o_3)]) [0, 1, 2, 3, 4, 5, 6, 7, 8, 9] rfl (by decide) rfl ?_)
      refine z_istore (lv' := [(6, .int (zI o_3)), (5, .int (zI o_1)), (0, .ref q_t), (1, .int (zI v1)), (2, .ref q_p2), (3, .int (zI v3)), (4, .int (zI v4))]) F (dX4_takeRow_0 15 rfl) (by decide) rfl ?_
      refine z_aload_n 2 F (dX4_takeRow_0 16 rfl) rfl ?_
      refine z_get (v := .ref q_t_lengths) 0 F (dX4_takeRow_0 17 rfl) fl_X4_takeRow_15 rfl rfl ?_
      refine z_iload 1 F (dX4_takeRow_0 18 rfl) rfl ?_
      refine z_iload 0 F (dX4_takeRow_0 19 rfl) rfl ?_
      obtain ⟨o_5, h_6, hf⟩ := zb_some hf
      refine z_callN (As := [.ref q_t_lengths, .int (zI o_1), .int (zI o_3)]) (rest := []) (wr := [(q_t, .inr (4, [.ref q_t_bytes, .ref q_t_lengths, .int (zI t_columns), .int (zI t_rows), .ref q_t_widths, .ref q_t_ofNumbers, .int (zI t_laidWidth)]))] ++ ([(q_t_bytes, .inl (aI, 20160, .inl (fun j => zI (t_bytes j))))] ++ ([(q_t_widths, .inl (aI, 8, .inl (fun j => zI (t_widths j))))] ++ ([(q_t_ofNumbers, .inl (aI, 8, .inl (fun j => zI (t_ofNumbers j))))] ++ wX4 aI q_p2 q_p2_bytes q_p2_lengths q_p2_widths q_p2_ofNumbers p2_bytes p2_lengths p2_columns p2_rows p2_widths p2_ofNumbers p2_laidWidth)))) F (dX4_takeRow_0 20 rfl) (k_X5_put (zL X) D aI aZ q_t_lengths 336 (by decide) t_lengths o_1 o_3 h_6) gX4_takeRow_X5_put_n49 mX5_put nst_X4_X5_put sw1_X4_takeRow_X5_put sw2_X4_takeRow_X5_put [2] [0, 1, 3, 4, 5, 6, 7, 8, 9] rfl rfl (by decide) rfl rfl (Nat.le_of_ble_eq_true rfl) ⟨Nat.le_of_ble_eq_true rfl, Nat.le_of_ble_eq_true rfl⟩ ⟨rfl, rfl⟩ ⟨Nat.le_of_ble_eq_true rfl, Nat.le_of_ble_eq_true rfl⟩ (z_plain (ws' := wX4 aI q_t q_t_bytes q_t_lengths q_t_widths q_t_ofNumbers t_bytes o_5 t_columns t_rows t_widths t_ofNumbers t_laidWidth ++ wX4 aI q_p2 q_p2_bytes q_p2_lengths q_p2_widths q_p2_ofNumbers p2_bytes p2_lengths p2_columns p2_rows p2_widths p2_ofNumbers p2_laidWidth) (st' := []) [0, 1, 9, 2, 3, 4, 5, 6, 7, 8] rfl (by decide) rfl ?_)
      refine z_iconst F (dX4_takeRow_0 21 rfl) ?_
      refine z_istore (lv' := [(7, .int (zI 0)), (6, .int (zI o_3)), (5, .int (zI o_1)), (0, .ref q_t), (1, .int (zI v1)), (2, .ref q_p2), (3, .int (zI v3)), (4, .int (zI v4))]) F (dX4_takeRow_0 22 rfl) (by decide) rfl ?_
      refine z_lv [3, 4, 5, 6, 7, 2, 1, 0] rfl ?_
      refine b_X4_takeRow_l44 F E q_t q_t_bytes q_t_lengths q_t_widths q_t_ofNumbers q_p2 q_p2_bytes q_p2_lengths q_p2_widths q_p2_ofNumbers v1 v3 v4 o_1 o_3 o_5 t_columns t_rows t_widths t_ofNumbers t_laidWidth p2_bytes p2_lengths p2_columns p2_rows p2_widths p2_ofNumbers p2_laidWidth hQ _ ?_ zN 0 t_bytes hf
      intro t_bytes_11 hf
      refine z_iinc (lv' := [(4, .int (zI (v4 + 1))), (0, .ref q_t), (1, .int (zI v1)), (2, .ref q_p2), (3, .int (zI v3))]) 4 F (dX4_takeRow_1 1 rfl) rfl (by decide) rfl ?_
      refine z_goto (tgt := 3) F (dX4_takeRow_1 2 rfl) rfl ?_
      refine z_lv [1, 2, 3, 4, 0] rfl ?_
      exact ih (v4 + 1) t_bytes_11 o_5 hf
set_option maxRecDepth 20000 in
set_option maxHeartbeats 2000000 in
theorem b_X4_takeRow_0 {X : zX} {D : va_G} {aI aZ : ClassId} {w0 : va_W} {Qp : Option Value → va_W → Prop} (F : zF X D aI aZ cX4_takeRow 8 RX4 wsX4_takeRow rmX4_takeRow) (E : zT X D w0 Qp 0 0 none) (q_t q_t_bytes q_t_lengths q_t_widths q_t_ofNumbers q_p2 q_p2_bytes q_p2_lengths q_p2_widths q_p2_ofNumbers : Nat) (t_bytes : (Nat → Int)) (t_lengths : (Nat → Int)) (t_columns : Int) (t_rows : Int) (t_widths : (Nat → Int)) (t_ofNumbers : (Nat → Int)) (t_laidWidth : Int) (p2_bytes : (Nat → Int)) (p2_lengths : (Nat → Int)) (p2_columns : Int) (p2_rows : Int) (p2_widths : (Nat → Int)) (p2_ofNumbers : (Nat → Int)) (p2_laidWidth : Int) (v1 : Int) (v3 : Int) {R : (Nat → Int) × (Nat → Int)} (hQ : Qp none (wX4 aI q_t q_t_bytes q_t_lengths q_t_widths q_t_ofNumbers R.1 R.2 t_columns t_rows t_widths t_ofNumbers t_laidWidth ++ wX4 aI q_p2 q_p2_bytes q_p2_lengths q_p2_widths q_p2_ofNumbers p2_bytes p2_lengths p2_columns p2_rows p2_widths p2_ofNumbers p2_laidWidth)) (hf : f_X4_takeRow t_bytes t_lengths t_columns t_rows p2_bytes p2_lengths p2_rows v1 v3 = some R) : zG X D 0 0 (wX4 aI q_t q_t_bytes q_t_lengths q_t_widths q_t_ofNumbers t_bytes t_lengths t_columns t_rows t_widths t_ofNumbers t_laidWidth ++ wX4 aI q_p2 q_p2_bytes q_p2_lengths q_p2_widths q_p2_ofNumbers p2_bytes p2_lengths p2_columns p2_rows p2_widths p2_ofNumbers p2_laidWidth) 0 [(0, .ref q_t), (1, .int (zI v1)), (2, .ref q_p2), (3, .int (zI v3))] [] := by
  unfold f_X4_takeRow at hf
  refine z_iconst F (dX4_takeRow_0 0 rfl) ?_
  refine z_istore (lv' := [(4, .int (zI 0)), (0, .ref q_t), (1, .int (zI v1)), (2, .ref q_p2), (3, .int (zI v3))]) F (dX4_takeRow_0 1 rfl) (by decide) rfl ?_
  refine z_lv [1, 2, 3, 4, 0] rfl ?_
  refine b_X4_takeRow_l3 F E q_t q_t_bytes q_t_lengths q_t_widths q_t_ofNumbers q_p2 q_p2_bytes q_p2_lengths q_p2_widths q_p2_ofNumbers v1 v3 t_columns t_rows t_widths t_ofNumbers t_laidWidth p2_bytes p2_lengths p2_columns p2_rows p2_widths p2_ofNumbers p2_laidWidth hQ _ ?_ zN 0 t_bytes t_lengths hf
  intro t_bytes_12 t_lengths_13 hf
  cases hf
  exact z_vret [0, 1, 2, 3, 4, 5, 6, 7, 8, 9] F E (dX4_takeRow_1 3 rfl) rfl (by decide) hQ
set_option maxRecDepth 20000 in
set_option maxHeartbeats 2000000 in
theorem k_X4_takeRow (l : Launch) (D : va_G) (aI aZ : ClassId) (q_t q_t_bytes q_t_lengths q_t_widths q_t_ofNumbers q_p2 q_p2_bytes q_p2_lengths q_p2_widths q_p2_ofNumbers : Nat) (t_bytes : (Nat → Int)) (t_lengths : (Nat → Int)) (t_columns : Int) (t_rows : Int) (t_widths : (Nat → Int)) (t_ofNumbers : (Nat → Int)) (t_laidWidth : Int) (p2_bytes : (Nat → Int)) (p2_lengths : (Nat → Int)) (p2_columns : Int) (p2_rows : Int) (p2_widths : (Nat → Int)) (p2_ofNumbers : (Nat → Int)) (p2_laidWidth : Int) (v1 : Int) (v3 : Int) {R : (Nat → Int) × (Nat → Int)} (hf : f_X4_takeRow t_bytes t_lengths t_columns t_rows p2_bytes p2_lengths p2_rows v1 v3 = some R) : zC l D aI aZ yX4_takeRow wsX4_takeRow rmX4_takeRow [.ref q_t, .int (zI v1), .ref q_p2, .int (zI v3)] (wX4 aI q_t q_t_bytes q_t_lengths q_t_widths q_t_ofNumbers t_bytes t_lengths t_columns t_rows t_widths t_ofNumbers t_laidWidth ++ wX4 aI q_p2 q_p2_bytes q_p2_lengths q_p2_widths q_p2_ofNumbers p2_bytes p2_lengths p2_columns p2_rows p2_widths p2_ofNumbers p2_laidWidth) (fun r w => r = none ∧ w = wX4 aI q_t q_t_bytes q_t_lengths q_t_widths q_t_ofNumbers R.1 R.2 t_columns t_rows t_widths t_ofNumbers t_laidWidth ++ wX4 aI q_p2 q_p2_bytes q_p2_lengths q_p2_widths q_p2_ofNumbers p2_bytes p2_lengths p2_columns p2_rows p2_widths p2_ofNumbers p2_laidWidth) 0 0 := by
  refine z_met (cc := cX4_takeRow) (maxL := 8) (ret := none) (by decide +kernel) rfl (Nat.le_of_ble_eq_true rfl) (fun X hX F E => ?_)
  exact b_X4_takeRow_0 F E q_t q_t_bytes q_t_lengths q_t_widths q_t_ofNumbers q_p2 q_p2_bytes q_p2_lengths q_p2_widths q_p2_ofNumbers t_bytes t_lengths t_columns t_rows t_widths t_ofNumbers t_laidWidth p2_bytes p2_lengths p2_columns p2_rows p2_widths p2_ofNumbers p2_laidWidth v1 v3 ⟨rfl, rfl⟩ hf
theorem inw_X4_putBehind_4 : ∀ w ∈ u_ws RX4 TX4 7, w ∈ wsX4_putBehind := by decide +kernel
theorem fl_X4_putBehind_28 : zfl wsX4_putBehind RX4 28 4 3 RX4 TX4 7 := ⟨inw_X4_putBehind_4, rfl, by decide, by decide +kernel⟩
abbrev rmX4_putBehind : Room := { frames := 3, cells := 0, slots := 0, locals := 73 }
theorem mX4_putBehind : zY yX4_putBehind cX4_putBehind 4 none wsX4_putBehind 1 := ⟨⟨_, rfl⟩, by decide +kernel, by decide +kernel, by decide +kernel⟩
set_option maxRecDepth 20000 in
set_option maxHeartbeats 2000000 in
theorem b_X4_putBehind_l7 {X : zX} {D : va_G} {aI aZ : ClassId} {w0 : va_W} {Qp : Option Value → va_W → Prop} (F : zF X D aI aZ cX4_putBehind 4 RX4 wsX4_putBehind rmX4_putBehind) (E : zT X D w0 Qp 0 0 none) (q_t q_t_bytes q_t_lengths q_t_widths q_t_ofNumbers q_p1 q_p1_bytes q_p1_lengths q_p1_widths q_p1_ofNumbers : Nat) (v2 : Int) (t_columns : Int) (t_widths : (Nat → Int)) (t_ofNumbers : (Nat → Int)) (t_laidWidth : Int) (p1_bytes : (Nat → Int)) (p1_lengths : (Nat → Int)) (p1_columns : Int) (p1_rows : Int) (p1_widths : (Nat → Int)) (p1_ofNumbers : (Nat → Int)) (p1_laidWidth : Int) {R : (Nat → Int) × (Nat → Int) × Int} (hQ : Qp none (wX4 aI q_t q_t_bytes q_t_lengths q_t_widths q_t_ofNumbers R.1 R.2.1 t_columns R.2.2 t_widths t_ofNumbers t_laidWidth ++ wX4 aI q_p1 q_p1_bytes q_p1_lengths q_p1_widths q_p1_ofNumbers p1_bytes p1_lengths p1_columns p1_rows p1_widths p1_ofNumbers p1_laidWidth)) (K : (Nat → Int) → (Nat → Int) → Int → Option ((Nat → Int) × (Nat → Int) × Int)) (hK : ∀ (t_bytes : (Nat → Int)) (t_lengths : (Nat → Int)) (t_rows : Int), K t_bytes t_lengths t_rows = some R → zG X D 0 0 (wX4 aI q_t q_t_bytes q_t_lengths q_t_widths q_t_ofNumbers t_bytes t_lengths t_columns t_rows t_widths t_ofNumbers t_laidWidth ++ wX4 aI q_p1 q_p1_bytes q_p1_lengths q_p1_widths q_p1_ofNumbers p1_bytes p1_lengths p1_columns p1_rows p1_widths p1_ofNumbers p1_laidWidth) 38 [(0, .ref q_t), (1, .ref q_p1), (2, .int (zI v2))] []) : ∀ (n : Nat) (v3 : Int) (t_bytes : (Nat → Int)) (t_lengths : (Nat → Int)) (t_rows : Int), f_X4_putBehind_l7 K v2 t_columns p1_bytes p1_lengths p1_rows n v3 t_bytes t_lengths t_rows = some R → zG X D 0 0 (wX4 aI q_t q_t_bytes q_t_lengths q_t_widths q_t_ofNumbers t_bytes t_lengths t_columns t_rows t_widths t_ofNumbers t_laidWidth ++ wX4 aI q_p1 q_p1_bytes q_p1_lengths q_p1_widths q_p1_ofNumbers p1_bytes p1_lengths p1_columns p1_rows p1_widths p1_ofNumbers p1_laidWidth) 7 [(0, .ref q_t), (1, .ref q_p1), (2, .int (zI v2)), (3, .int (zI v3))] [] := by
  intro n
  induction n with
  | zero => intro v3 t_bytes t_lengths t_rows hf; rw [f_X4_putBehind_l7_z] at hf; cases hf
  | succ n ih =>
    intro v3 t_bytes t_lengths t_rows hf
    rw [f_X4_putBehind_l7_s] at hf
    refine z_iload_n 3 F (dX4_putBehind_0 5 rfl) rfl ?_
    refine z_iload_n 2 F (dX4_putBehind_0 6 rfl) rfl ?_
    refine z_icmp_gt (tgt := 38) F (dX4_putBehind_0 7 rfl) rfl (fun c9 => ?_) (fun c9 => ?_)
    · replace hf := zif_t c9 hf
      refine z_lv [0, 1, 2] rfl ?_
      exact hK t_bytes t_lengths t_rows hf
    · replace hf := zif_f c9 hf
      refine z_aload_n 0 F (dX4_putBehind_0 8 rfl) rfl ?_
      refine z_dup F (dX4_putBehind_0 9 rfl) rfl ?_
      refine z_get (v := .int (zI t_rows)) 0 F (dX4_putBehind_0 10 rfl) fl_X4_putBehind_28 rfl rfl ?_
      refine z_iconst F (dX4_putBehind_0 11 rfl) ?_
      refine z_iadd F (dX4_putBehind_0 12 rfl) ?_
      refine z_put (ws' := wX4 aI q_t q_t_bytes q_t_lengths q_t_widths q_t_ofNumbers t_bytes t_lengths t_columns (t_rows + 1) t_widths t_ofNumbers t_laidWidth ++ wX4 aI q_p1 q_p1_bytes q_p1_lengths q_p1_widths q_p1_ofNumbers p1_bytes p1_lengths p1_columns p1_rows p1_widths p1_ofNumbers p1_laidWidth) 0 F (dX4_putBehind_0 13 rfl) fl_X4_putBehind_28 tyX4_ok nmX4 rfl rfl rfl rfl rfl (Nat.le_of_ble_eq_true rfl) rfl ?_
      refine z_aload_n 0 F (dX4_putBehind_0 14 rfl) rfl ?_
      refine z_aload_n 0 F (dX4_putBehind_0 15 rfl) rfl ?_
      refine z_get (v := .int (zI (t_rows + 1))) 0 F (dX4_putBehind_0 16 rfl) fl_X4_putBehind_28 rfl rfl ?_
      refine z_aload_n 1 F (dX4_putBehind_0 17 rfl) rfl ?_
      refine z_iload_n 3 F (dX4_putBehind_0 18 rfl) rfl ?_
      obtain ⟨o_1, h_2, hf⟩ := zb_some hf
      refine z_callV (As := [.int (zI (t_rows + 1)), .ref q_p1, .int (zI v3)]) (rest := []) (wr := []) F (dX4_putBehind_0 19 rfl) (k_X4_takeRow (zL X) D aI aZ q_t q_t_bytes q_t_lengths q_t_widths q_t_ofNumbers q_p1 q_p1_bytes q_p1_lengths q_p1_widths q_p1_ofNumbers t_bytes t_lengths t_columns (t_rows + 1) t_widths t_ofNumbers t_laidWidth p1_bytes p1_lengths p1_columns p1_rows p1_widths p1_ofNumbers p1_laidWidth (t_rows + 1) v3 h_2) gX4_putBehind_X4_takeRow mX4_takeRow rfl (ci := 4) rfl [0, 1, 2, 3, 4, 5, 6, 7, 8, 9] [] 0 rfl rfl rfl (by decide) rfl rfl (Nat.le_of_ble_eq_true rfl) ⟨Nat.le_of_ble_eq_true rfl, Nat.le_of_ble_eq_true rfl⟩ ⟨rfl, rfl⟩ ⟨Nat.le_of_ble_eq_true rfl, Nat.le_of_ble_eq_true rfl⟩ (z_plain (ws' := wX4 aI q_t q_t_bytes q_t_lengths q_t_widths q_t_ofNumbers o_1.1 o_1.2 t_columns (t_rows + 1) t_widths t_ofNumbers t_laidWidth ++ wX4 aI q_p1 q_p1_bytes q_p1_lengths q_p1_widths q_p1_ofNumbers p1_bytes p1_lengths p1_columns p1_rows p1_widths p1_ofNumbers p1_laidWidth) (st' := []) [0, 1, 2, 3, 4, 5, 6, 7, 8, 9] rfl (by decide) rfl ?_)
      refine z_iinc (lv' := [(3, .int (zI (v3 + 1))), (0, .ref q_t), (1, .ref q_p1), (2, .int (zI v2))]) 3 F (dX4_putBehind_0 20 rfl) rfl (by decide) rfl ?_
      refine z_goto (tgt := 7) F (dX4_putBehind_0 21 rfl) rfl ?_
      refine z_lv [1, 2, 3, 0] rfl ?_
      exact ih (v3 + 1) o_1.1 o_1.2 (t_rows + 1) hf
set_option maxRecDepth 20000 in
set_option maxHeartbeats 2000000 in
theorem b_X4_putBehind_0 {X : zX} {D : va_G} {aI aZ : ClassId} {w0 : va_W} {Qp : Option Value → va_W → Prop} (F : zF X D aI aZ cX4_putBehind 4 RX4 wsX4_putBehind rmX4_putBehind) (E : zT X D w0 Qp 0 0 none) (q_t q_t_bytes q_t_lengths q_t_widths q_t_ofNumbers q_p1 q_p1_bytes q_p1_lengths q_p1_widths q_p1_ofNumbers : Nat) (t_bytes : (Nat → Int)) (t_lengths : (Nat → Int)) (t_columns : Int) (t_rows : Int) (t_widths : (Nat → Int)) (t_ofNumbers : (Nat → Int)) (t_laidWidth : Int) (p1_bytes : (Nat → Int)) (p1_lengths : (Nat → Int)) (p1_columns : Int) (p1_rows : Int) (p1_widths : (Nat → Int)) (p1_ofNumbers : (Nat → Int)) (p1_laidWidth : Int) {R : (Nat → Int) × (Nat → Int) × Int} (hQ : Qp none (wX4 aI q_t q_t_bytes q_t_lengths q_t_widths q_t_ofNumbers R.1 R.2.1 t_columns R.2.2 t_widths t_ofNumbers t_laidWidth ++ wX4 aI q_p1 q_p1_bytes q_p1_lengths q_p1_widths q_p1_ofNumbers p1_bytes p1_lengths p1_columns p1_rows p1_widths p1_ofNumbers p1_laidWidth)) (hf : f_X4_putBehind t_bytes t_lengths t_columns t_rows p1_bytes p1_lengths p1_rows = some R) : zG X D 0 0 (wX4 aI q_t q_t_bytes q_t_lengths q_t_widths q_t_ofNumbers t_bytes t_lengths t_columns t_rows t_widths t_ofNumbers t_laidWidth ++ wX4 aI q_p1 q_p1_bytes q_p1_lengths q_p1_widths q_p1_ofNumbers p1_bytes p1_lengths p1_columns p1_rows p1_widths p1_ofNumbers p1_laidWidth) 0 [(0, .ref q_t), (1, .ref q_p1)] [] := by
  unfold f_X4_putBehind at hf
  refine z_aload_n 1 F (dX4_putBehind_0 0 rfl) rfl ?_
  refine z_get (v := .int (zI p1_rows)) 5 F (dX4_putBehind_0 1 rfl) fl_X4_putBehind_28 rfl rfl ?_
  refine z_istore_n (lv' := [(2, .int (zI p1_rows)), (0, .ref q_t), (1, .ref q_p1)]) F (dX4_putBehind_0 2 rfl) (by decide) rfl ?_
  refine z_iconst F (dX4_putBehind_0 3 rfl) ?_
  refine z_istore_n (lv' := [(3, .int (zI 1)), (2, .int (zI p1_rows)), (0, .ref q_t), (1, .ref q_p1)]) F (dX4_putBehind_0 4 rfl) (by decide) rfl ?_
  refine z_lv [2, 3, 1, 0] rfl ?_
  refine b_X4_putBehind_l7 F E q_t q_t_bytes q_t_lengths q_t_widths q_t_ofNumbers q_p1 q_p1_bytes q_p1_lengths q_p1_widths q_p1_ofNumbers p1_rows t_columns t_widths t_ofNumbers t_laidWidth p1_bytes p1_lengths p1_columns p1_rows p1_widths p1_ofNumbers p1_laidWidth hQ _ ?_ zN 1 t_bytes t_lengths t_rows hf
  intro t_bytes_3 t_lengths_4 t_rows_5 hf
  refine z_aload_n 0 F (dX4_putBehind_0 22 rfl) rfl ?_
  refine z_aload_n 0 F (dX4_putBehind_0 23 rfl) rfl ?_
  refine z_get (v := .int (zI t_rows_5)) 0 F (dX4_putBehind_0 24 rfl) fl_X4_putBehind_28 rfl rfl ?_
  refine z_iconst F (dX4_putBehind_0 25 rfl) ?_
  refine z_iadd F (dX4_putBehind_0 26 rfl) ?_
  refine z_aload_n 1 F (dX4_putBehind_0 27 rfl) rfl ?_
  refine z_iload_n 2 F (dX4_putBehind_0 28 rfl) rfl ?_
  refine z_iconst F (dX4_putBehind_0 29 rfl) ?_
  refine z_iadd F (dX4_putBehind_0 30 rfl) ?_
  obtain ⟨o_6, h_7, hf⟩ := zb_some hf
  refine z_callV (As := [.int (zI (t_rows_5 + 1)), .ref q_p1, .int (zI (p1_rows + 1))]) (rest := []) (wr := []) F (dX4_putBehind_0 31 rfl) (k_X4_takeRow (zL X) D aI aZ q_t q_t_bytes q_t_lengths q_t_widths q_t_ofNumbers q_p1 q_p1_bytes q_p1_lengths q_p1_widths q_p1_ofNumbers t_bytes_3 t_lengths_4 t_columns t_rows_5 t_widths t_ofNumbers t_laidWidth p1_bytes p1_lengths p1_columns p1_rows p1_widths p1_ofNumbers p1_laidWidth (t_rows_5 + 1) (p1_rows + 1) h_7) gX4_putBehind_X4_takeRow mX4_takeRow rfl (ci := 4) rfl [0, 1, 2, 3, 4, 5, 6, 7, 8, 9] [] 0 rfl rfl rfl (by decide) rfl rfl (Nat.le_of_ble_eq_true rfl) ⟨Nat.le_of_ble_eq_true rfl, Nat.le_of_ble_eq_true rfl⟩ ⟨rfl, rfl⟩ ⟨Nat.le_of_ble_eq_true rfl, Nat.le_of_ble_eq_true rfl⟩ (z_plain (ws' := wX4 aI q_t q_t_bytes q_t_lengths q_t_widths q_t_ofNumbers o_6.1 o_6.2 t_columns t_rows_5 t_widths t_ofNumbers t_laidWidth ++ wX4 aI q_p1 q_p1_bytes q_p1_lengths q_p1_widths q_p1_ofNumbers p1_bytes p1_lengths p1_columns p1_rows p1_widths p1_ofNumbers p1_laidWidth) (st' := []) [0, 1, 2, 3, 4, 5, 6, 7, 8, 9] rfl (by decide) rfl ?_)
  cases hf
  exact z_vret [0, 1, 2, 3, 4, 5, 6, 7, 8, 9] F E (dX4_putBehind_0 32 rfl) rfl (by decide) hQ
set_option maxRecDepth 20000 in
set_option maxHeartbeats 2000000 in
theorem k_X4_putBehind (l : Launch) (D : va_G) (aI aZ : ClassId) (q_t q_t_bytes q_t_lengths q_t_widths q_t_ofNumbers q_p1 q_p1_bytes q_p1_lengths q_p1_widths q_p1_ofNumbers : Nat) (t_bytes : (Nat → Int)) (t_lengths : (Nat → Int)) (t_columns : Int) (t_rows : Int) (t_widths : (Nat → Int)) (t_ofNumbers : (Nat → Int)) (t_laidWidth : Int) (p1_bytes : (Nat → Int)) (p1_lengths : (Nat → Int)) (p1_columns : Int) (p1_rows : Int) (p1_widths : (Nat → Int)) (p1_ofNumbers : (Nat → Int)) (p1_laidWidth : Int) {R : (Nat → Int) × (Nat → Int) × Int} (hf : f_X4_putBehind t_bytes t_lengths t_columns t_rows p1_bytes p1_lengths p1_rows = some R) : zC l D aI aZ yX4_putBehind wsX4_putBehind rmX4_putBehind [.ref q_t, .ref q_p1] (wX4 aI q_t q_t_bytes q_t_lengths q_t_widths q_t_ofNumbers t_bytes t_lengths t_columns t_rows t_widths t_ofNumbers t_laidWidth ++ wX4 aI q_p1 q_p1_bytes q_p1_lengths q_p1_widths q_p1_ofNumbers p1_bytes p1_lengths p1_columns p1_rows p1_widths p1_ofNumbers p1_laidWidth) (fun r w => r = none ∧ w = wX4 aI q_t q_t_bytes q_t_lengths q_t_widths q_t_ofNumbers R.1 R.2.1 t_columns R.2.2 t_widths t_ofNumbers t_laidWidth ++ wX4 aI q_p1 q_p1_bytes q_p1_lengths q_p1_widths q_p1_ofNumbers p1_bytes p1_lengths p1_columns p1_rows p1_widths p1_ofNumbers p1_laidWidth) 0 0 := by
  refine z_met (cc := cX4_putBehind) (maxL := 4) (ret := none) (by decide +kernel) rfl (Nat.le_of_ble_eq_true rfl) (fun X hX F E => ?_)
  exact b_X4_putBehind_0 F E q_t q_t_bytes q_t_lengths q_t_widths q_t_ofNumbers q_p1 q_p1_bytes q_p1_lengths q_p1_widths q_p1_ofNumbers t_bytes t_lengths t_columns t_rows t_widths t_ofNumbers t_laidWidth p1_bytes p1_lengths p1_columns p1_rows p1_widths p1_ofNumbers p1_laidWidth ⟨rfl, rfl⟩ hf
theorem sw1_X4_countDigits_X5_isDigit : Cond.static yX5_isDigit ∈ wsX4_countDigits := by decide +kernel
theorem sw2_X4_countDigits_X5_isDigit : Cond.initialized yX5_isDigit.cls ∈ wsX4_countDigits := by decide +kernel
abbrev rmX4_countDigits : Room := { frames := 2, cells := 0, slots := 0, locals := 46 }
theorem mX4_countDigits : zY yX4_countDigits cX4_countDigits 5 (some .int) wsX4_countDigits 3 := ⟨⟨_, rfl⟩, by decide +kernel, by decide +kernel, by decide +kernel⟩
set_option maxRecDepth 20000 in
set_option maxHeartbeats 2000000 in
theorem b_X4_countDigits_l3 {X : zX} {D : va_G} {aI aZ : ClassId} {w0 : va_W} {Qp : Option Value → va_W → Prop} (F : zF X D aI aZ cX4_countDigits 5 RX4 wsX4_countDigits rmX4_countDigits) (E : zT X D w0 Qp 0 0 (some .int)) (q_t q_t_bytes q_t_lengths q_t_widths q_t_ofNumbers : Nat) (v1 : Int) (v2 : Int) (v3 : Int) (t_bytes : (Nat → Int)) (t_lengths : (Nat → Int)) (t_columns : Int) (t_rows : Int) (t_widths : (Nat → Int)) (t_ofNumbers : (Nat → Int)) (t_laidWidth : Int) {R : Int} (hQ : Qp (some (.int (zI R))) (wX4 aI q_t q_t_bytes q_t_lengths q_t_widths q_t_ofNumbers t_bytes t_lengths t_columns t_rows t_widths t_ofNumbers t_laidWidth)) (K : Int → Option (Int)) (hK : ∀ (v4 : Int), K v4 = some R → zG X D 0 0 (wX4 aI q_t q_t_bytes q_t_lengths q_t_widths q_t_ofNumbers t_bytes t_lengths t_columns t_rows t_widths t_ofNumbers t_laidWidth) 32 [(4, .int (zI v4))] []) : ∀ (n : Nat) (v4 : Int), f_X4_countDigits_l3 K v1 v2 v3 t_bytes t_lengths t_rows n v4 = some R → zG X D 0 0 (wX4 aI q_t q_t_bytes q_t_lengths q_t_widths q_t_ofNumbers t_bytes t_lengths t_columns t_rows t_widths t_ofNumbers t_laidWidth) 3 [(0, .ref q_t), (1, .int (zI v1)), (2, .int (zI v2)), (3, .int (zI v3)), (4, .int (zI v4))] [] := by
  intro n
  induction n with
  | zero => intro v4 hf; rw [f_X4_countDigits_l3_z] at hf; cases hf
  | succ n ih =>
    intro v4 hf
    rw [f_X4_countDigits_l3_s] at hf
    refine z_iload 4 F (dX4_countDigits_0 2 rfl) rfl ?_
    refine z_bipush F (dX4_countDigits_0 3 rfl) rfl ?_
    refine z_icmp_ge (tgt := 32) F (dX4_countDigits_0 4 rfl) rfl (fun c7 => ?_) (fun c7 => ?_)
    · replace hf := zif_f c7 hf
      refine z_lv [4] rfl ?_
      exact hK v4 hf
    · replace hf := zif_t c7 hf
      refine z_aload_n 0 F (dX4_countDigits_0 5 rfl) rfl ?_
      refine z_iload_n 1 F (dX4_countDigits_0 6 rfl) rfl ?_
      refine z_iload_n 2 F (dX4_countDigits_0 7 rfl) rfl ?_
      refine z_iload_n 3 F (dX4_countDigits_0 8 rfl) rfl ?_
      refine z_iload 4 F (dX4_countDigits_0 9 rfl) rfl ?_
      refine z_iadd F (dX4_countDigits_0 10 rfl) ?_
      obtain ⟨o_1, h_2, hf⟩ := zb_some hf
      refine z_callV (As := [.int (zI v1), .int (zI v2), .int (zI (v3 + v4))]) (rest := []) (wr := []) F (dX4_countDigits_0 11 rfl) (k_X4_byteOf (zL X) D aI aZ q_t q_t_bytes q_t_lengths q_t_widths q_t_ofNumbers t_bytes t_lengths t_columns t_rows t_widths t_ofNumbers t_laidWidth v1 v2 (v3 + v4) h_2) gX4_countDigits_X4_byteOf mX4_byteOf rfl (ci := 4) rfl [0, 1, 2, 3, 4] [] 0 rfl rfl rfl (by decide) rfl rfl (Nat.le_of_ble_eq_true rfl) ⟨Nat.le_of_ble_eq_true rfl, Nat.le_of_ble_eq_true rfl⟩ ⟨rfl, rfl⟩ ⟨Nat.le_of_ble_eq_true rfl, Nat.le_of_ble_eq_true rfl⟩ (z_plain (ws' := wX4 aI q_t q_t_bytes q_t_lengths q_t_widths q_t_ofNumbers t_bytes t_lengths t_columns t_rows t_widths t_ofNumbers t_laidWidth) (st' := [.int (zI o_1)]) [0, 1, 2, 3, 4] rfl (by decide) rfl ?_)
      obtain ⟨o_3, h_4, hf⟩ := zb_some hf
      refine z_callN (As := [.int (zI o_1)]) (rest := []) (wr := wX4 aI q_t q_t_bytes q_t_lengths q_t_widths q_t_ofNumbers t_bytes t_lengths t_columns t_rows t_widths t_ofNumbers t_laidWidth) F (dX4_countDigits_0 12 rfl) (k_X5_isDigit (zL X) D aI aZ o_1 h_4) gX4_countDigits_X5_isDigit_n116 mX5_isDigit nst_X4_X5_isDigit sw1_X4_countDigits_X5_isDigit sw2_X4_countDigits_X5_isDigit [] [0, 1, 2, 3, 4] rfl rfl (by decide) rfl rfl (Nat.le_of_ble_eq_true rfl) ⟨Nat.le_of_ble_eq_true rfl, Nat.le_of_ble_eq_true rfl⟩ ⟨rfl, rfl⟩ ⟨Nat.le_of_ble_eq_true rfl, Nat.le_of_ble_eq_true rfl⟩ (z_plain (ws' := wX4 aI q_t q_t_bytes q_t_lengths q_t_widths q_t_ofNumbers t_bytes t_lengths t_columns t_rows t_widths t_ofNumbers t_laidWidth) (st' := [.int (zI o_3)]) [0, 1, 2, 3, 4] rfl (by decide) rfl ?_)
      refine z_if_eq (tgt := 32) F (dX4_countDigits_0 13 rfl) rfl (fun c23 => ?_) (fun c23 => ?_)
      · replace hf := zif_t c23 hf
        refine z_lv [4] rfl ?_
        exact hK v4 hf
      · replace hf := zif_f c23 hf
        refine z_iinc (lv' := [(4, .int (zI (v4 + 1))), (0, .ref q_t), (1, .int (zI v1)), (2, .int (zI v2)), (3, .int (zI v3))]) 4 F (dX4_countDigits_0 14 rfl) rfl (by decide) rfl ?_
        refine z_goto (tgt := 3) F (dX4_countDigits_0 15 rfl) rfl ?_
        refine z_lv [1, 2, 3, 4, 0] rfl ?_
        exact ih (v4 + 1) hf
set_option maxRecDepth 20000 in
set_option maxHeartbeats 2000000 in
theorem b_X4_countDigits_0 {X : zX} {D : va_G} {aI aZ : ClassId} {w0 : va_W} {Qp : Option Value → va_W → Prop} (F : zF X D aI aZ cX4_countDigits 5 RX4 wsX4_countDigits rmX4_countDigits) (E : zT X D w0 Qp 0 0 (some .int)) (q_t q_t_bytes q_t_lengths q_t_widths q_t_ofNumbers : Nat) (t_bytes : (Nat → Int)) (t_lengths : (Nat → Int)) (t_columns : Int) (t_rows : Int) (t_widths : (Nat → Int)) (t_ofNumbers : (Nat → Int)) (t_laidWidth : Int) (v1 : Int) (v2 : Int) (v3 : Int) {R : Int} (hQ : Qp (some (.int (zI R))) (wX4 aI q_t q_t_bytes q_t_lengths q_t_widths q_t_ofNumbers t_bytes t_lengths t_columns t_rows t_widths t_ofNumbers t_laidWidth)) (hf : f_X4_countDigits t_bytes t_lengths t_rows v1 v2 v3 = some R) : zG X D 0 0 (wX4 aI q_t q_t_bytes q_t_lengths q_t_widths q_t_ofNumbers t_bytes t_lengths t_columns t_rows t_widths t_ofNumbers t_laidWidth) 0 [(0, .ref q_t), (1, .int (zI v1)), (2, .int (zI v2)), (3, .int (zI v3))] [] := by
  unfold f_X4_countDigits at hf
  refine z_iconst F (dX4_countDigits_0 0 rfl) ?_
  refine z_istore (lv' := [(4, .int (zI 0)), (0, .ref q_t), (1, .int (zI v1)), (2, .int (zI v2)), (3, .int (zI v3))]) F (dX4_countDigits_0 1 rfl) (by decide) rfl ?_
  refine z_lv [1, 2, 3, 4, 0] rfl ?_
  refine b_X4_countDigits_l3 F E q_t q_t_bytes q_t_lengths q_t_widths q_t_ofNumbers v1 v2 v3 t_bytes t_lengths t_columns t_rows t_widths t_ofNumbers t_laidWidth hQ _ ?_ zN 0 hf
  intro v4_5 hf
  refine z_iload 0 F (dX4_countDigits_0 16 rfl) rfl ?_
  cases hf
  exact z_iret [0, 1, 2, 3, 4] F E (dX4_countDigits_0 17 rfl) rfl (by decide) hQ
set_option maxRecDepth 20000 in
set_option maxHeartbeats 2000000 in
theorem k_X4_countDigits (l : Launch) (D : va_G) (aI aZ : ClassId) (q_t q_t_bytes q_t_lengths q_t_widths q_t_ofNumbers : Nat) (t_bytes : (Nat → Int)) (t_lengths : (Nat → Int)) (t_columns : Int) (t_rows : Int) (t_widths : (Nat → Int)) (t_ofNumbers : (Nat → Int)) (t_laidWidth : Int) (v1 : Int) (v2 : Int) (v3 : Int) {R : Int} (hf : f_X4_countDigits t_bytes t_lengths t_rows v1 v2 v3 = some R) : zC l D aI aZ yX4_countDigits wsX4_countDigits rmX4_countDigits [.ref q_t, .int (zI v1), .int (zI v2), .int (zI v3)] (wX4 aI q_t q_t_bytes q_t_lengths q_t_widths q_t_ofNumbers t_bytes t_lengths t_columns t_rows t_widths t_ofNumbers t_laidWidth) (fun r w => r = (some (.int (zI R))) ∧ w = wX4 aI q_t q_t_bytes q_t_lengths q_t_widths q_t_ofNumbers t_bytes t_lengths t_columns t_rows t_widths t_ofNumbers t_laidWidth) 0 0 := by
  refine z_met (cc := cX4_countDigits) (maxL := 5) (ret := (some .int)) (by decide +kernel) rfl (Nat.le_of_ble_eq_true rfl) (fun X hX F E => ?_)
  exact b_X4_countDigits_0 F E q_t q_t_bytes q_t_lengths q_t_widths q_t_ofNumbers t_bytes t_lengths t_columns t_rows t_widths t_ofNumbers t_laidWidth v1 v2 v3 ⟨rfl, rfl⟩ hf
abbrev rmX4_readDigits : Room := { frames := 2, cells := 0, slots := 0, locals := 46 }
theorem mX4_readDigits : zY yX4_readDigits cX4_readDigits 7 (some .int) wsX4_readDigits 4 := ⟨⟨_, rfl⟩, by decide +kernel, by decide +kernel, by decide +kernel⟩
set_option maxRecDepth 20000 in
set_option maxHeartbeats 2000000 in
theorem b_X4_readDigits_l6 {X : zX} {D : va_G} {aI aZ : ClassId} {w0 : va_W} {Qp : Option Value → va_W → Prop} (F : zF X D aI aZ cX4_readDigits 7 RX4 wsX4_readDigits rmX4_readDigits) (E : zT X D w0 Qp 0 0 (some .int)) (q_t q_t_bytes q_t_lengths q_t_widths q_t_ofNumbers : Nat) (v1 : Int) (v2 : Int) (v3 : Int) (v4 : Int) (t_bytes : (Nat → Int)) (t_lengths : (Nat → Int)) (t_columns : Int) (t_rows : Int) (t_widths : (Nat → Int)) (t_ofNumbers : (Nat → Int)) (t_laidWidth : Int) {R : Int} (hQ : Qp (some (.int (zI R))) (wX4 aI q_t q_t_bytes q_t_lengths q_t_widths q_t_ofNumbers t_bytes t_lengths t_columns t_rows t_widths t_ofNumbers t_laidWidth)) (K : Int → Option (Int)) (hK : ∀ (v5 : Int), K v5 = some R → zG X D 0 0 (wX4 aI q_t q_t_bytes q_t_lengths q_t_widths q_t_ofNumbers t_bytes t_lengths t_columns t_rows t_widths t_ofNumbers t_laidWidth) 40 [(5, .int (zI v5))] []) : ∀ (n : Nat) (v5 : Int) (v6 : Int), f_X4_readDigits_l6 K v1 v2 v3 v4 t_bytes t_lengths t_rows n v5 v6 = some R → zG X D 0 0 (wX4 aI q_t q_t_bytes q_t_lengths q_t_widths q_t_ofNumbers t_bytes t_lengths t_columns t_rows t_widths t_ofNumbers t_laidWidth) 6 [(0, .ref q_t), (1, .int (zI v1)), (2, .int (zI v2)), (3, .int (zI v3)), (4, .int (zI v4)), (5, .int (zI v5)), (6, .int (zI v6))] [] := by
  intro n
  induction n with
  | zero => intro v5 v6 hf; rw [f_X4_readDigits_l6_z] at hf; cases hf
  | succ n ih =>
    intro v5 v6 hf
    rw [f_X4_readDigits_l6_s] at hf
    refine z_iload 6 F (dX4_readDigits_0 4 rfl) rfl ?_
    refine z_iload_n 3 F (dX4_readDigits_0 5 rfl) rfl ?_
    refine z_iload 4 F (dX4_readDigits_0 6 rfl) rfl ?_
    refine z_iadd F (dX4_readDigits_0 7 rfl) ?_
    refine z_icmp_ge (tgt := 40) F (dX4_readDigits_0 8 rfl) rfl (fun c12 => ?_) (fun c12 => ?_)
    · replace hf := zif_f c12 hf
      refine z_lv [5] rfl ?_
      exact hK v5 hf
    · replace hf := zif_t c12 hf
      refine z_bipush F (dX4_readDigits_0 9 rfl) rfl ?_
      refine z_iload 5 F (dX4_readDigits_0 10 rfl) rfl ?_
      refine z_imul F (dX4_readDigits_0 11 rfl) ?_
      refine z_aload_n 0 F (dX4_readDigits_0 12 rfl) rfl ?_
      refine z_iload_n 1 F (dX4_readDigits_0 13 rfl) rfl ?_
      refine z_iload_n 2 F (dX4_readDigits_0 14 rfl) rfl ?_
      refine z_iload 6 F (dX4_readDigits_0 15 rfl) rfl ?_
      obtain ⟨o_1, h_2, hf⟩ := zb_some hf
      refine z_callV (As := [.int (zI v1), .int (zI v2), .int (zI v6)]) (rest := [.int (zI (10 * v5))]) (wr := []) F (dX4_readDigits_0 16 rfl) (k_X4_byteOf (zL X) D aI aZ q_t q_t_bytes q_t_lengths q_t_widths q_t_ofNumbers t_bytes t_lengths t_columns t_rows t_widths t_ofNumbers t_laidWidth v1 v2 v6 h_2) gX4_readDigits_X4_byteOf mX4_byteOf rfl (ci := 4) rfl [0, 1, 2, 3, 4] [] 0 rfl rfl rfl (by decide) rfl rfl (Nat.le_of_ble_eq_true rfl) ⟨Nat.le_of_ble_eq_true rfl, Nat.le_of_ble_eq_true rfl⟩ ⟨rfl, rfl⟩ ⟨Nat.le_of_ble_eq_true rfl, Nat.le_of_ble_eq_true rfl⟩ (z_plain (ws' := wX4 aI q_t q_t_bytes q_t_lengths q_t_widths q_t_ofNumbers t_bytes t_lengths t_columns t_rows t_widths t_ofNumbers t_laidWidth) (st' := [.int (zI o_1), .int (zI (10 * v5))]) [0, 1, 2, 3, 4] rfl (by decide) rfl ?_)
      refine z_iadd F (dX4_readDigits_0 17 rfl) ?_
      refine z_bipush F (dX4_readDigits_0 18 rfl) rfl ?_
      refine z_isub F (dX4_readDigits_0 19 rfl) ?_
      refine z_istore (lv' := [(5, .int (zI (((10 * v5) + o_1) - 48))), (0, .ref q_t), (1, .int (zI v1)), (2, .int (zI v2)), (3, .int (zI v3)), (4, .int (zI v4)), (6, .int (zI v6))]) F (dX4_readDigits_0 20 rfl) (by decide) rfl ?_
      refine z_iinc (lv' := [(6, .int (zI (v6 + 1))), (5, .int (zI (((10 * v5) + o_1) - 48))), (0, .ref q_t), (1, .int (zI v1)), (2, .int (zI v2)), (3, .int (zI v3)), (4, .int (zI v4))]) 6 F (dX4_readDigits_0 21 rfl) rfl (by decide) rfl ?_
      refine z_goto (tgt := 6) F (dX4_readDigits_0 22 rfl) rfl ?_
      refine z_lv [2, 3, 4, 5, 6, 1, 0] rfl ?_
      exact ih (((10 * v5) + o_1) - 48) (v6 + 1) hf
set_option maxRecDepth 20000 in
set_option maxHeartbeats 2000000 in
theorem b_X4_readDigits_0 {X : zX} {D : va_G} {aI aZ : ClassId} {w0 : va_W} {Qp : Option Value → va_W → Prop} (F : zF X D aI aZ cX4_readDigits 7 RX4 wsX4_readDigits rmX4_readDigits) (E : zT X D w0 Qp 0 0 (some .int)) (q_t q_t_bytes q_t_lengths q_t_widths q_t_ofNumbers : Nat) (t_bytes : (Nat → Int)) (t_lengths : (Nat → Int)) (t_columns : Int) (t_rows : Int) (t_widths : (Nat → Int)) (t_ofNumbers : (Nat → Int)) (t_laidWidth : Int) (v1 : Int) (v2 : Int) (v3 : Int) (v4 : Int) {R : Int} (hQ : Qp (some (.int (zI R))) (wX4 aI q_t q_t_bytes q_t_lengths q_t_widths q_t_ofNumbers t_bytes t_lengths t_columns t_rows t_widths t_ofNumbers t_laidWidth)) (hf : f_X4_readDigits t_bytes t_lengths t_rows v1 v2 v3 v4 = some R) : zG X D 0 0 (wX4 aI q_t q_t_bytes q_t_lengths q_t_widths q_t_ofNumbers t_bytes t_lengths t_columns t_rows t_widths t_ofNumbers t_laidWidth) 0 [(0, .ref q_t), (1, .int (zI v1)), (2, .int (zI v2)), (3, .int (zI v3)), (4, .int (zI v4))] [] := by
  unfold f_X4_readDigits at hf
  refine z_iconst F (dX4_readDigits_0 0 rfl) ?_
  refine z_istore (lv' := [(5, .int (zI 0)), (0, .ref q_t), (1, .int (zI v1)), (2, .int (zI v2)), (3, .int (zI v3)), (4, .int (zI v4))]) F (dX4_readDigits_0 1 rfl) (by decide) rfl ?_
  refine z_iload_n 4 F (dX4_readDigits_0 2 rfl) rfl ?_
  refine z_istore (lv' := [(6, .int (zI v3)), (5, .int (zI 0)), (0, .ref q_t), (1, .int (zI v1)), (2, .int (zI v2)), (3, .int (zI v3)), (4, .int (zI v4))]) F (dX4_readDigits_0 3 rfl) (by decide) rfl ?_
  refine z_lv [2, 3, 4, 5, 6, 1, 0] rfl ?_
  refine b_X4_readDigits_l6 F E q_t q_t_bytes q_t_lengths q_t_widths q_t_ofNumbers v1 v2 v3 v4 t_bytes t_lengths t_columns t_rows t_widths t_ofNumbers t_laidWidth hQ _ ?_ zN 0 v3 hf
  intro v5_3 hf
  refine z_iload 0 F (dX4_readDigits_0 23 rfl) rfl ?_
  cases hf
  exact z_iret [0, 1, 2, 3, 4] F E (dX4_readDigits_0 24 rfl) rfl (by decide) hQ
set_option maxRecDepth 20000 in
set_option maxHeartbeats 2000000 in
theorem k_X4_readDigits (l : Launch) (D : va_G) (aI aZ : ClassId) (q_t q_t_bytes q_t_lengths q_t_widths q_t_ofNumbers : Nat) (t_bytes : (Nat → Int)) (t_lengths : (Nat → Int)) (t_columns : Int) (t_rows : Int) (t_widths : (Nat → Int)) (t_ofNumbers : (Nat → Int)) (t_laidWidth : Int) (v1 : Int) (v2 : Int) (v3 : Int) (v4 : Int) {R : Int} (hf : f_X4_readDigits t_bytes t_lengths t_rows v1 v2 v3 v4 = some R) : zC l D aI aZ yX4_readDigits wsX4_readDigits rmX4_readDigits [.ref q_t, .int (zI v1), .int (zI v2), .int (zI v3), .int (zI v4)] (wX4 aI q_t q_t_bytes q_t_lengths q_t_widths q_t_ofNumbers t_bytes t_lengths t_columns t_rows t_widths t_ofNumbers t_laidWidth) (fun r w => r = (some (.int (zI R))) ∧ w = wX4 aI q_t q_t_bytes q_t_lengths q_t_widths q_t_ofNumbers t_bytes t_lengths t_columns t_rows t_widths t_ofNumbers t_laidWidth) 0 0 := by
  refine z_met (cc := cX4_readDigits) (maxL := 7) (ret := (some .int)) (by decide +kernel) rfl (Nat.le_of_ble_eq_true rfl) (fun X hX F E => ?_)
  exact b_X4_readDigits_0 F E q_t q_t_bytes q_t_lengths q_t_widths q_t_ofNumbers t_bytes t_lengths t_columns t_rows t_widths t_ofNumbers t_laidWidth v1 v2 v3 v4 ⟨rfl, rfl⟩ hf
abbrev rmX4_valueOf : Room := { frames := 3, cells := 0, slots := 0, locals := 72 }
theorem mX4_valueOf : zY yX4_valueOf cX4_valueOf 9 (some .int) wsX4_valueOf 2 := ⟨⟨_, rfl⟩, by decide +kernel, by decide +kernel, by decide +kernel⟩
set_option maxRecDepth 20000 in
set_option maxHeartbeats 2000000 in
theorem b_X4_valueOf_j158 {X : zX} {D : va_G} {aI aZ : ClassId} {w0 : va_W} {Qp : Option Value → va_W → Prop} (F : zF X D aI aZ cX4_valueOf 9 RX4 wsX4_valueOf rmX4_valueOf) (E : zT X D w0 Qp 0 0 (some .int)) (q_t q_t_bytes q_t_lengths q_t_widths q_t_ofNumbers : Nat) (v1 : Int) (v2 : Int) (v3 : Int) (v5 : Int) (v6 : Int) (t_bytes : (Nat → Int)) (t_lengths : (Nat → Int)) (t_columns : Int) (t_rows : Int) (t_widths : (Nat → Int)) (t_ofNumbers : (Nat → Int)) (t_laidWidth : Int) {R : Int} (hQ : Qp (some (.int (zI R))) (wX4 aI q_t q_t_bytes q_t_lengths q_t_widths q_t_ofNumbers t_bytes t_lengths t_columns t_rows t_widths t_ofNumbers t_laidWidth)) (hf : f_X4_valueOf_j158 v1 v2 v3 v5 v6 t_lengths t_rows = some R) : zG X D 0 0 (wX4 aI q_t q_t_bytes q_t_lengths q_t_widths q_t_ofNumbers t_bytes t_lengths t_columns t_rows t_widths t_ofNumbers t_laidWidth) 158 [(0, .ref q_t), (1, .int (zI v1)), (2, .int (zI v2)), (3, .int (zI v3)), (5, .int (zI v5)), (6, .int (zI v6))] [] := by
  unfold f_X4_valueOf_j158 at hf
  refine z_iload 5 F (dX4_valueOf_2 12 rfl) rfl ?_
  refine z_aload_n 0 F (dX4_valueOf_2 13 rfl) rfl ?_
  refine z_iload_n 1 F (dX4_valueOf_2 14 rfl) rfl ?_
  refine z_iload_n 2 F (dX4_valueOf_2 15 rfl) rfl ?_
  obtain ⟨o_9, h_10, hf⟩ := zb_some hf
  refine z_callV (As := [.int (zI v1), .int (zI v2)]) (rest := [.int (zI v6)]) (wr := []) F (dX4_valueOf_2 16 rfl) (k_X4_lengthOf (zL X) D aI aZ q_t q_t_bytes q_t_lengths q_t_widths q_t_ofNumbers t_bytes t_lengths t_columns t_rows t_widths t_ofNumbers t_laidWidth v1 v2 h_10) gX4_valueOf_X4_lengthOf mX4_lengthOf rfl (ci := 4) rfl [0, 1, 2, 3, 4] [] 0 rfl rfl rfl (by decide) rfl rfl (Nat.le_of_ble_eq_true rfl) ⟨Nat.le_of_ble_eq_true rfl, Nat.le_of_ble_eq_true rfl⟩ ⟨rfl, rfl⟩ ⟨Nat.le_of_ble_eq_true rfl, Nat.le_of_ble_eq_true rfl⟩ (z_plain (ws' := wX4 aI q_t q_t_bytes q_t_lengths q_t_widths q_t_ofNumbers t_bytes t_lengths t_columns t_rows t_widths t_ofNumbers t_laidWidth) (st' := [.int (zI o_9), .int (zI v6)]) [0, 1, 2, 3, 4] rfl (by decide) rfl ?_)
  refine z_icmp_eq (tgt := 172) F (dX4_valueOf_2 17 rfl) rfl (fun c166 => ?_) (fun c166 => ?_)
  · replace hf := zif_t c166 hf
    refine z_iload_n 3 F (dX4_valueOf_2 20 rfl) rfl ?_
    refine z_iconst F (dX4_valueOf_2 21 rfl) ?_
    refine z_icmp_ne (tgt := 183) F (dX4_valueOf_2 22 rfl) rfl (fun c174 => ?_) (fun c174 => ?_)
    · replace hf := zif_f c174 hf
      refine z_iload 4 F (dX4_valueOf_2 26 rfl) rfl ?_
      cases hf
      exact z_iret [0, 1, 2, 3, 4] F E (dX4_valueOf_2 27 rfl) rfl (by decide) hQ
    · replace hf := zif_t c174 hf
      refine z_iload 4 F (dX4_valueOf_2 23 rfl) rfl ?_
      refine z_ineg F (dX4_valueOf_2 24 rfl) ?_
      refine z_goto (tgt := 185) F (dX4_valueOf_2 25 rfl) rfl ?_
      cases hf
      exact z_iret [0, 1, 2, 3, 4] F E (dX4_valueOf_2 27 rfl) rfl (by decide) hQ
  · replace hf := zif_f c166 hf
    refine z_ldc (x := (-2000000000)) (x' := (-2000000000)) F (dX4_valueOf_2 18 rfl) (by decide +kernel) rfl ?_
    cases hf
    exact z_iret [0, 1, 2, 3, 4] F E (dX4_valueOf_2 19 rfl) rfl (by decide) hQ
set_option maxRecDepth 20000 in
set_option maxHeartbeats 2000000 in
theorem b_X4_valueOf_j127 {X : zX} {D : va_G} {aI aZ : ClassId} {w0 : va_W} {Qp : Option Value → va_W → Prop} (F : zF X D aI aZ cX4_valueOf 9 RX4 wsX4_valueOf rmX4_valueOf) (E : zT X D w0 Qp 0 0 (some .int)) (q_t q_t_bytes q_t_lengths q_t_widths q_t_ofNumbers : Nat) (s0 : Int) (v1 : Int) (v2 : Int) (v3 : Int) (v5 : Int) (v6 : Int) (v7 : Int) (t_bytes : (Nat → Int)) (t_lengths : (Nat → Int)) (t_columns : Int) (t_rows : Int) (t_widths : (Nat → Int)) (t_ofNumbers : (Nat → Int)) (t_laidWidth : Int) {R : Int} (hQ : Qp (some (.int (zI R))) (wX4 aI q_t q_t_bytes q_t_lengths q_t_widths q_t_ofNumbers t_bytes t_lengths t_columns t_rows t_widths t_ofNumbers t_laidWidth)) (hf : f_X4_valueOf_j127 s0 v1 v2 v3 v5 v6 v7 t_bytes t_lengths t_rows = some R) : zG X D 0 0 (wX4 aI q_t q_t_bytes q_t_lengths q_t_widths q_t_ofNumbers t_bytes t_lengths t_columns t_rows t_widths t_ofNumbers t_laidWidth) 127 [(0, .ref q_t), (1, .int (zI v1)), (2, .int (zI v2)), (3, .int (zI v3)), (5, .int (zI v5)), (6, .int (zI v6)), (7, .int (zI v7))] [.int (zI s0)] := by
  unfold f_X4_valueOf_j127 at hf
  refine z_istore (lv' := [(8, .int (zI s0)), (0, .ref q_t), (1, .int (zI v1)), (2, .int (zI v2)), (3, .int (zI v3)), (5, .int (zI v5)), (6, .int (zI v6)), (7, .int (zI v7))]) F (dX4_valueOf_1 32 rfl) (by decide) rfl ?_
  refine z_iload 5 F (dX4_valueOf_1 33 rfl) rfl ?_
  refine z_iload 0 F (dX4_valueOf_1 34 rfl) rfl ?_
  refine z_aload_n 1 F (dX4_valueOf_1 35 rfl) rfl ?_
  refine z_iload_n 2 F (dX4_valueOf_1 36 rfl) rfl ?_
  refine z_iload_n 3 F (dX4_valueOf_1 37 rfl) rfl ?_
  refine z_iload 6 F (dX4_valueOf_1 38 rfl) rfl ?_
  refine z_iconst F (dX4_valueOf_1 39 rfl) ?_
  refine z_iadd F (dX4_valueOf_2 0 rfl) ?_
  refine z_iload 7 F (dX4_valueOf_2 1 rfl) rfl ?_
  obtain ⟨o_13, h_14, hf⟩ := zb_some hf
  refine z_callV (As := [.int (zI v1), .int (zI v2), .int (zI (v6 + 1)), .int (zI v7)]) (rest := [.int (zI s0), .int (zI v5)]) (wr := []) F (dX4_valueOf_2 2 rfl) (k_X4_readDigits (zL X) D aI aZ q_t q_t_bytes q_t_lengths q_t_widths q_t_ofNumbers t_bytes t_lengths t_columns t_rows t_widths t_ofNumbers t_laidWidth v1 v2 (v6 + 1) v7 h_14) gX4_valueOf_X4_readDigits mX4_readDigits rfl (ci := 4) rfl [0, 1, 2, 3, 4] [] 0 rfl rfl rfl (by decide) rfl rfl (Nat.le_of_ble_eq_true rfl) ⟨Nat.le_of_ble_eq_true rfl, Nat.le_of_ble_eq_true rfl⟩ ⟨rfl, rfl⟩ ⟨Nat.le_of_ble_eq_true rfl, Nat.le_of_ble_eq_true rfl⟩ (z_plain (ws' := wX4 aI q_t q_t_bytes q_t_lengths q_t_widths q_t_ofNumbers t_bytes t_lengths t_columns t_rows t_widths t_ofNumbers t_laidWidth) (st' := [.int (zI o_13), .int (zI s0), .int (zI v5)]) [0, 1, 2, 3, 4] rfl (by decide) rfl ?_)
  refine z_imul F (dX4_valueOf_2 3 rfl) ?_
  refine z_iadd F (dX4_valueOf_2 4 rfl) ?_
  refine z_istore (lv' := [(5, .int (zI (v5 + (s0 * o_13)))), (8, .int (zI s0)), (0, .ref q_t), (1, .int (zI v1)), (2, .int (zI v2)), (3, .int (zI v3)), (6, .int (zI v6)), (7, .int (zI v7))]) F (dX4_valueOf_2 5 rfl) (by decide) rfl ?_
  refine z_iload 6 F (dX4_valueOf_2 6 rfl) rfl ?_
  refine z_iconst F (dX4_valueOf_2 7 rfl) ?_
  refine z_iload 7 F (dX4_valueOf_2 8 rfl) rfl ?_
  refine z_iadd F (dX4_valueOf_2 9 rfl) ?_
  refine z_iadd F (dX4_valueOf_2 10 rfl) ?_
  refine z_istore (lv' := [(6, .int (zI (v6 + (1 + v7)))), (5, .int (zI (v5 + (s0 * o_13)))), (8, .int (zI s0)), (0, .ref q_t), (1, .int (zI v1)), (2, .int (zI v2)), (3, .int (zI v3)), (7, .int (zI v7))]) F (dX4_valueOf_2 11 rfl) (by decide) rfl ?_
  refine z_lv [3, 4, 5, 6, 1, 0] rfl ?_
  exact b_X4_valueOf_j158 F E q_t q_t_bytes q_t_lengths q_t_widths q_t_ofNumbers v1 v2 v3 (v5 + (s0 * o_13)) (v6 + (1 + v7)) t_bytes t_lengths t_columns t_rows t_widths t_ofNumbers t_laidWidth hQ hf
set_option maxRecDepth 20000 in
set_option maxHeartbeats 2000000 in
theorem b_X4_valueOf_j17 {X : zX} {D : va_G} {aI aZ : ClassId} {w0 : va_W} {Qp : Option Value → va_W → Prop} (F : zF X D aI aZ cX4_valueOf 9 RX4 wsX4_valueOf rmX4_valueOf) (E : zT X D w0 Qp 0 0 (some .int)) (q_t q_t_bytes q_t_lengths q_t_widths q_t_ofNumbers : Nat) (s0 : Int) (v1 : Int) (v2 : Int) (t_bytes : (Nat → Int)) (t_lengths : (Nat → Int)) (t_columns : Int) (t_rows : Int) (t_widths : (Nat → Int)) (t_ofNumbers : (Nat → Int)) (t_laidWidth : Int) {R : Int} (hQ : Qp (some (.int (zI R))) (wX4 aI q_t q_t_bytes q_t_lengths q_t_widths q_t_ofNumbers t_bytes t_lengths t_columns t_rows t_widths t_ofNumbers t_laidWidth)) (hf : f_X4_valueOf_j17 s0 v1 v2 t_bytes t_lengths t_rows = some R) : zG X D 0 0 (wX4 aI q_t q_t_bytes q_t_lengths q_t_widths q_t_ofNumbers t_bytes t_lengths t_columns t_rows t_widths t_ofNumbers t_laidWidth) 17 [(0, .ref q_t), (1, .int (zI v1)), (2, .int (zI v2))] [.int (zI s0)] := by
  unfold f_X4_valueOf_j17 at hf
  refine z_istore_n (lv' := [(3, .int (zI s0)), (0, .ref q_t), (1, .int (zI v1)), (2, .int (zI v2))]) F (dX4_valueOf_0 10 rfl) (by decide) rfl ?_
  refine z_aload_n 1 F (dX4_valueOf_0 11 rfl) rfl ?_
  refine z_iload_n 2 F (dX4_valueOf_0 12 rfl) rfl ?_
  refine z_iload_n 3 F (dX4_valueOf_0 13 rfl) rfl ?_
  refine z_iload_n 0 F (dX4_valueOf_0 14 rfl) rfl ?_
  obtain ⟨o_3, h_4, hf⟩ := zb_some hf
  refine z_callV (As := [.int (zI v1), .int (zI v2), .int (zI s0)]) (rest := []) (wr := []) F (dX4_valueOf_0 15 rfl) (k_X4_countDigits (zL X) D aI aZ q_t q_t_bytes q_t_lengths q_t_widths q_t_ofNumbers t_bytes t_lengths t_columns t_rows t_widths t_ofNumbers t_laidWidth v1 v2 s0 h_4) gX4_valueOf_X4_countDigits mX4_countDigits rfl (ci := 4) rfl [0, 1, 2, 3, 4] [] 0 rfl rfl rfl (by decide) rfl rfl (Nat.le_of_ble_eq_true rfl) ⟨Nat.le_of_ble_eq_true rfl, Nat.le_of_ble_eq_true rfl⟩ ⟨rfl, rfl⟩ ⟨Nat.le_of_ble_eq_true rfl, Nat.le_of_ble_eq_true rfl⟩ (z_plain (ws' := wX4 aI q_t q_t_bytes q_t_lengths q_t_widths q_t_ofNumbers t_bytes t_lengths t_columns t_rows t_widths t_ofNumbers t_laidWidth) (st' := [.int (zI o_3)]) [0, 1, 2, 3, 4] rfl (by decide) rfl ?_)
  refine z_istore (lv' := [(4, .int (zI o_3)), (3, .int (zI s0)), (0, .ref q_t), (1, .int (zI v1)), (2, .int (zI v2))]) F (dX4_valueOf_0 16 rfl) (by decide) rfl ?_
  refine z_iload 0 F (dX4_valueOf_0 17 rfl) rfl ?_
  refine z_iconst F (dX4_valueOf_0 18 rfl) ?_
  refine z_icmp_lt (tgt := 40) F (dX4_valueOf_0 19 rfl) rfl (fun c30 => ?_) (fun c30 => ?_)
  · replace hf := zif_t c30 hf
    refine z_ldc (x := (-2000000000)) (x' := (-2000000000)) F (dX4_valueOf_0 23 rfl) (by decide +kernel) rfl ?_
    cases hf
    exact z_iret [0, 1, 2, 3, 4] F E (dX4_valueOf_0 24 rfl) rfl (by decide) hQ
  · replace hf := zif_f c30 hf
    refine z_iload 0 F (dX4_valueOf_0 20 rfl) rfl ?_
    refine z_bipush F (dX4_valueOf_0 21 rfl) rfl ?_
    refine z_icmp_le (tgt := 43) F (dX4_valueOf_0 22 rfl) rfl (fun c37 => ?_) (fun c37 => ?_)
    · replace hf := zif_f c37 hf
      refine z_sipush F (dX4_valueOf_0 25 rfl) rfl ?_
      refine z_aload_n 2 F (dX4_valueOf_0 26 rfl) rfl ?_
      refine z_iload_n 3 F (dX4_valueOf_0 27 rfl) rfl ?_
      refine z_iload_n 4 F (dX4_valueOf_0 28 rfl) rfl ?_
      refine z_iload_n 1 F (dX4_valueOf_0 29 rfl) rfl ?_
      refine z_iload 0 F (dX4_valueOf_0 30 rfl) rfl ?_
      obtain ⟨o_5, h_6, hf⟩ := zb_some hf
      refine z_callV (As := [.int (zI v1), .int (zI v2), .int (zI s0), .int (zI o_3)]) (rest := [.int (zI 1000)]) (wr := []) F (dX4_valueOf_0 31 rfl) (k_X4_readDigits (zL X) D aI aZ q_t q_t_bytes q_t_lengths q_t_widths q_t_ofNumbers t_bytes t_lengths t_columns t_rows t_widths t_ofNumbers t_laidWidth v1 v2 s0 o_3 h_6) gX4_valueOf_X4_readDigits mX4_readDigits rfl (ci := 4) rfl [0, 1, 2, 3, 4] [] 0 rfl rfl rfl (by decide) rfl rfl (Nat.le_of_ble_eq_true rfl) ⟨Nat.le_of_ble_eq_true rfl, Nat.le_of_ble_eq_true rfl⟩ ⟨rfl, rfl⟩ ⟨Nat.le_of_ble_eq_true rfl, Nat.le_of_ble_eq_true rfl⟩ (z_plain (ws' := wX4 aI q_t q_t_bytes q_t_lengths q_t_widths q_t_ofNumbers t_bytes t_lengths t_columns t_rows t_widths t_ofNumbers t_laidWidth) (st' := [.int (zI o_5), .int (zI 1000)]) [0, 1, 2, 3, 4] rfl (by decide) rfl ?_)
      refine z_imul F (dX4_valueOf_0 32 rfl) ?_
      refine z_istore (lv' := [(5, .int (zI (1000 * o_5))), (4, .int (zI o_3)), (3, .int (zI s0)), (0, .ref q_t), (1, .int (zI v1)), (2, .int (zI v2))]) F (dX4_valueOf_0 33 rfl) (by decide) rfl ?_
      refine z_iload_n 2 F (dX4_valueOf_0 34 rfl) rfl ?_
      refine z_iload 1 F (dX4_valueOf_0 35 rfl) rfl ?_
      refine z_iadd F (dX4_valueOf_0 36 rfl) ?_
      refine z_istore (lv' := [(6, .int (zI (s0 + o_3))), (5, .int (zI (1000 * o_5))), (4, .int (zI o_3)), (3, .int (zI s0)), (0, .ref q_t), (1, .int (zI v1)), (2, .int (zI v2))]) F (dX4_valueOf_0 37 rfl) (by decide) rfl ?_
      refine z_aload_n 4 F (dX4_valueOf_0 38 rfl) rfl ?_
      refine z_iload_n 5 F (dX4_valueOf_0 39 rfl) rfl ?_
      refine z_iload_n 6 F (dX4_valueOf_1 0 rfl) rfl ?_
      refine z_iload 0 F (dX4_valueOf_1 1 rfl) rfl ?_
      obtain ⟨o_7, h_8, hf⟩ := zb_some hf
      refine z_callV (As := [.int (zI v1), .int (zI v2), .int (zI (s0 + o_3))]) (rest := []) (wr := []) F (dX4_valueOf_1 2 rfl) (k_X4_byteOf (zL X) D aI aZ q_t q_t_bytes q_t_lengths q_t_widths q_t_ofNumbers t_bytes t_lengths t_columns t_rows t_widths t_ofNumbers t_laidWidth v1 v2 (s0 + o_3) h_8) gX4_valueOf_X4_byteOf mX4_byteOf rfl (ci := 4) rfl [0, 1, 2, 3, 4] [] 0 rfl rfl rfl (by decide) rfl rfl (Nat.le_of_ble_eq_true rfl) ⟨Nat.le_of_ble_eq_true rfl, Nat.le_of_ble_eq_true rfl⟩ ⟨rfl, rfl⟩ ⟨Nat.le_of_ble_eq_true rfl, Nat.le_of_ble_eq_true rfl⟩ (z_plain (ws' := wX4 aI q_t q_t_bytes q_t_lengths q_t_widths q_t_ofNumbers t_bytes t_lengths t_columns t_rows t_widths t_ofNumbers t_laidWidth) (st' := [.int (zI o_7)]) [0, 1, 2, 3, 4] rfl (by decide) rfl ?_)
      refine z_bipush F (dX4_valueOf_1 3 rfl) rfl ?_
      refine z_icmp_ne (tgt := 158) F (dX4_valueOf_1 4 rfl) rfl (fun c74 => ?_) (fun c74 => ?_)
      · replace hf := zif_f c74 hf
        refine z_lv [4, 5, 6, 3, 1, 0] rfl ?_
        exact b_X4_valueOf_j158 F E q_t q_t_bytes q_t_lengths q_t_widths q_t_ofNumbers v1 v2 s0 (1000 * o_5) (s0 + o_3) t_bytes t_lengths t_columns t_rows t_widths t_ofNumbers t_laidWidth hQ hf
      · replace hf := zif_t c74 hf
        refine z_aload_n 4 F (dX4_valueOf_1 5 rfl) rfl ?_
        refine z_iload_n 5 F (dX4_valueOf_1 6 rfl) rfl ?_
        refine z_iload_n 6 F (dX4_valueOf_1 7 rfl) rfl ?_
        refine z_iload 0 F (dX4_valueOf_1 8 rfl) rfl ?_
        refine z_iconst F (dX4_valueOf_1 9 rfl) ?_
        refine z_iadd F (dX4_valueOf_1 10 rfl) ?_
        obtain ⟨o_11, h_12, hf⟩ := zb_some hf
        refine z_callV (As := [.int (zI v1), .int (zI v2), .int (zI ((s0 + o_3) + 1))]) (rest := []) (wr := []) F (dX4_valueOf_1 11 rfl) (k_X4_countDigits (zL X) D aI aZ q_t q_t_bytes q_t_lengths q_t_widths q_t_ofNumbers t_bytes t_lengths t_columns t_rows t_widths t_ofNumbers t_laidWidth v1 v2 ((s0 + o_3) + 1) h_12) gX4_valueOf_X4_countDigits mX4_countDigits rfl (ci := 4) rfl [0, 1, 2, 3, 4] [] 0 rfl rfl rfl (by decide) rfl rfl (Nat.le_of_ble_eq_true rfl) ⟨Nat.le_of_ble_eq_true rfl, Nat.le_of_ble_eq_true rfl⟩ ⟨rfl, rfl⟩ ⟨Nat.le_of_ble_eq_true rfl, Nat.le_of_ble_eq_true rfl⟩ (z_plain (ws' := wX4 aI q_t q_t_bytes q_t_lengths q_t_widths q_t_ofNumbers t_bytes t_lengths t_columns t_rows t_widths t_ofNumbers t_laidWidth) (st' := [.int (zI o_11)]) [0, 1, 2, 3, 4] rfl (by decide) rfl ?_)
        refine z_istore (lv' := [(7, .int (zI o_11)), (6, .int (zI (s0 + o_3))), (5, .int (zI (1000 * o_5))), (4, .int (zI o_3)), (3, .int (zI s0)), (0, .ref q_t), (1, .int (zI v1)), (2, .int (zI v2))]) F (dX4_valueOf_1 12 rfl) (by decide) rfl ?_
        refine z_iload 0 F (dX4_valueOf_1 13 rfl) rfl ?_
        refine z_iconst F (dX4_valueOf_1 14 rfl) ?_
        refine z_icmp_lt (tgt := 101) F (dX4_valueOf_1 15 rfl) rfl (fun c92 => ?_) (fun c92 => ?_)
        · replace hf := zif_t c92 hf
          refine z_ldc (x := (-2000000000)) (x' := (-2000000000)) F (dX4_valueOf_1 19 rfl) (by decide +kernel) rfl ?_
          cases hf
          exact z_iret [0, 1, 2, 3, 4] F E (dX4_valueOf_1 20 rfl) rfl (by decide) hQ
        · replace hf := zif_f c92 hf
          refine z_iload 0 F (dX4_valueOf_1 16 rfl) rfl ?_
          refine z_iconst F (dX4_valueOf_1 17 rfl) ?_
          refine z_icmp_le (tgt := 104) F (dX4_valueOf_1 18 rfl) rfl (fun c98 => ?_) (fun c98 => ?_)
          · replace hf := zif_f c98 hf
            refine z_iload 0 F (dX4_valueOf_1 21 rfl) rfl ?_
            refine z_iconst F (dX4_valueOf_1 22 rfl) ?_
            refine z_icmp_ne (tgt := 115) F (dX4_valueOf_1 23 rfl) rfl (fun c107 => ?_) (fun c107 => ?_)
            · replace hf := zif_f c107 hf
              refine z_iload 0 F (dX4_valueOf_1 26 rfl) rfl ?_
              refine z_iconst F (dX4_valueOf_1 27 rfl) ?_
              refine z_icmp_ne (tgt := 126) F (dX4_valueOf_1 28 rfl) rfl (fun c118 => ?_) (fun c118 => ?_)
              · replace hf := zif_f c118 hf
                refine z_iconst F (dX4_valueOf_1 31 rfl) ?_
                refine z_lv [5, 6, 7, 4, 2, 1, 0] rfl ?_
                exact b_X4_valueOf_j127 F E q_t q_t_bytes q_t_lengths q_t_widths q_t_ofNumbers 1 v1 v2 s0 (1000 * o_5) (s0 + o_3) o_11 t_bytes t_lengths t_columns t_rows t_widths t_ofNumbers t_laidWidth hQ hf
              · replace hf := zif_t c118 hf
                refine z_bipush F (dX4_valueOf_1 29 rfl) rfl ?_
                refine z_goto (tgt := 127) F (dX4_valueOf_1 30 rfl) rfl ?_
                refine z_lv [5, 6, 7, 4, 2, 1, 0] rfl ?_
                exact b_X4_valueOf_j127 F E q_t q_t_bytes q_t_lengths q_t_widths q_t_ofNumbers 10 v1 v2 s0 (1000 * o_5) (s0 + o_3) o_11 t_bytes t_lengths t_columns t_rows t_widths t_ofNumbers t_laidWidth hQ hf
            · replace hf := zif_t c107 hf
              refine z_bipush F (dX4_valueOf_1 24 rfl) rfl ?_
              refine z_goto (tgt := 127) F (dX4_valueOf_1 25 rfl) rfl ?_
              refine z_lv [5, 6, 7, 4, 2, 1, 0] rfl ?_
              exact b_X4_valueOf_j127 F E q_t q_t_bytes q_t_lengths q_t_widths q_t_ofNumbers 100 v1 v2 s0 (1000 * o_5) (s0 + o_3) o_11 t_bytes t_lengths t_columns t_rows t_widths t_ofNumbers t_laidWidth hQ hf
          · replace hf := zif_t c98 hf
            refine z_ldc (x := (-2000000000)) (x' := (-2000000000)) F (dX4_valueOf_1 19 rfl) (by decide +kernel) rfl ?_
            cases hf
            exact z_iret [0, 1, 2, 3, 4] F E (dX4_valueOf_1 20 rfl) rfl (by decide) hQ
    · replace hf := zif_t c37 hf
      refine z_ldc (x := (-2000000000)) (x' := (-2000000000)) F (dX4_valueOf_0 23 rfl) (by decide +kernel) rfl ?_
      cases hf
      exact z_iret [0, 1, 2, 3, 4] F E (dX4_valueOf_0 24 rfl) rfl (by decide) hQ
set_option maxRecDepth 20000 in
set_option maxHeartbeats 2000000 in
theorem b_X4_valueOf_0 {X : zX} {D : va_G} {aI aZ : ClassId} {w0 : va_W} {Qp : Option Value → va_W → Prop} (F : zF X D aI aZ cX4_valueOf 9 RX4 wsX4_valueOf rmX4_valueOf) (E : zT X D w0 Qp 0 0 (some .int)) (q_t q_t_bytes q_t_lengths q_t_widths q_t_ofNumbers : Nat) (t_bytes : (Nat → Int)) (t_lengths : (Nat → Int)) (t_columns : Int) (t_rows : Int) (t_widths : (Nat → Int)) (t_ofNumbers : (Nat → Int)) (t_laidWidth : Int) (v1 : Int) (v2 : Int) {R : Int} (hQ : Qp (some (.int (zI R))) (wX4 aI q_t q_t_bytes q_t_lengths q_t_widths q_t_ofNumbers t_bytes t_lengths t_columns t_rows t_widths t_ofNumbers t_laidWidth)) (hf : f_X4_valueOf t_bytes t_lengths t_rows v1 v2 = some R) : zG X D 0 0 (wX4 aI q_t q_t_bytes q_t_lengths q_t_widths q_t_ofNumbers t_bytes t_lengths t_columns t_rows t_widths t_ofNumbers t_laidWidth) 0 [(0, .ref q_t), (1, .int (zI v1)), (2, .int (zI v2))] [] := by
  unfold f_X4_valueOf at hf
  refine z_aload_n 0 F (dX4_valueOf_0 0 rfl) rfl ?_
  refine z_iload_n 1 F (dX4_valueOf_0 1 rfl) rfl ?_
  refine z_iload_n 2 F (dX4_valueOf_0 2 rfl) rfl ?_
  refine z_iconst F (dX4_valueOf_0 3 rfl) ?_
  obtain ⟨o_1, h_2, hf⟩ := zb_some hf
  refine z_callV (As := [.int (zI v1), .int (zI v2), .int (zI 0)]) (rest := []) (wr := []) F (dX4_valueOf_0 4 rfl) (k_X4_byteOf (zL X) D aI aZ q_t q_t_bytes q_t_lengths q_t_widths q_t_ofNumbers t_bytes t_lengths t_columns t_rows t_widths t_ofNumbers t_laidWidth v1 v2 0 h_2) gX4_valueOf_X4_byteOf mX4_byteOf rfl (ci := 4) rfl [0, 1, 2, 3, 4] [] 0 rfl rfl rfl (by decide) rfl rfl (Nat.le_of_ble_eq_true rfl) ⟨Nat.le_of_ble_eq_true rfl, Nat.le_of_ble_eq_true rfl⟩ ⟨rfl, rfl⟩ ⟨Nat.le_of_ble_eq_true rfl, Nat.le_of_ble_eq_true rfl⟩ (z_plain (ws' := wX4 aI q_t q_t_bytes q_t_lengths q_t_widths q_t_ofNumbers t_bytes t_lengths t_columns t_rows t_widths t_ofNumbers t_laidWidth) (st' := [.int (zI o_1)]) [0, 1, 2, 3, 4] rfl (by decide) rfl ?_)
  refine z_bipush F (dX4_valueOf_0 5 rfl) rfl ?_
  refine z_icmp_ne (tgt := 16) F (dX4_valueOf_0 6 rfl) rfl (fun c9 => ?_) (fun c9 => ?_)
  · replace hf := zif_f c9 hf
    refine z_iconst F (dX4_valueOf_0 9 rfl) ?_
    exact b_X4_valueOf_j17 F E q_t q_t_bytes q_t_lengths q_t_widths q_t_ofNumbers 0 v1 v2 t_bytes t_lengths t_columns t_rows t_widths t_ofNumbers t_laidWidth hQ hf
  · replace hf := zif_t c9 hf
    refine z_iconst F (dX4_valueOf_0 7 rfl) ?_
    refine z_goto (tgt := 17) F (dX4_valueOf_0 8 rfl) rfl ?_
    exact b_X4_valueOf_j17 F E q_t q_t_bytes q_t_lengths q_t_widths q_t_ofNumbers 1 v1 v2 t_bytes t_lengths t_columns t_rows t_widths t_ofNumbers t_laidWidth hQ hf
set_option maxRecDepth 20000 in
set_option maxHeartbeats 2000000 in
theorem k_X4_valueOf (l : Launch) (D : va_G) (aI aZ : ClassId) (q_t q_t_bytes q_t_lengths q_t_widths q_t_ofNumbers : Nat) (t_bytes : (Nat → Int)) (t_lengths : (Nat → Int)) (t_columns : Int) (t_rows : Int) (t_widths : (Nat → Int)) (t_ofNumbers : (Nat → Int)) (t_laidWidth : Int) (v1 : Int) (v2 : Int) {R : Int} (hf : f_X4_valueOf t_bytes t_lengths t_rows v1 v2 = some R) : zC l D aI aZ yX4_valueOf wsX4_valueOf rmX4_valueOf [.ref q_t, .int (zI v1), .int (zI v2)] (wX4 aI q_t q_t_bytes q_t_lengths q_t_widths q_t_ofNumbers t_bytes t_lengths t_columns t_rows t_widths t_ofNumbers t_laidWidth) (fun r w => r = (some (.int (zI R))) ∧ w = wX4 aI q_t q_t_bytes q_t_lengths q_t_widths q_t_ofNumbers t_bytes t_lengths t_columns t_rows t_widths t_ofNumbers t_laidWidth) 0 0 := by
  refine z_met (cc := cX4_valueOf) (maxL := 9) (ret := (some .int)) (by decide +kernel) rfl (Nat.le_of_ble_eq_true rfl) (fun X hX F E => ?_)
  exact b_X4_valueOf_0 F E q_t q_t_bytes q_t_lengths q_t_widths q_t_ofNumbers t_bytes t_lengths t_columns t_rows t_widths t_ofNumbers t_laidWidth v1 v2 ⟨rfl, rfl⟩ hf
theorem inw_X4_isOfNumbers_4 : ∀ w ∈ u_ws RX4 TX4 7, w ∈ wsX4_isOfNumbers := by decide +kernel
theorem fl_X4_isOfNumbers_28 : zfl wsX4_isOfNumbers RX4 28 4 3 RX4 TX4 7 := ⟨inw_X4_isOfNumbers_4, rfl, by decide, by decide +kernel⟩
abbrev rmX4_isOfNumbers : Room := { frames := 4, cells := 0, slots := 0, locals := 100 }
theorem mX4_isOfNumbers : zY yX4_isOfNumbers cX4_isOfNumbers 4 (some .boolean) wsX4_isOfNumbers 1 := ⟨⟨_, rfl⟩, by decide +kernel, by decide +kernel, by decide +kernel⟩
set_option maxRecDepth 20000 in
set_option maxHeartbeats 2000000 in
theorem b_X4_isOfNumbers_l4 {X : zX} {D : va_G} {aI aZ : ClassId} {w0 : va_W} {Qp : Option Value → va_W → Prop} (F : zF X D aI aZ cX4_isOfNumbers 4 RX4 wsX4_isOfNumbers rmX4_isOfNumbers) (E : zT X D w0 Qp 0 0 (some .boolean)) (q_t q_t_bytes q_t_lengths q_t_widths q_t_ofNumbers : Nat) (v1 : Int) (t_bytes : (Nat → Int)) (t_lengths : (Nat → Int)) (t_columns : Int) (t_rows : Int) (t_widths : (Nat → Int)) (t_ofNumbers : (Nat → Int)) (t_laidWidth : Int) {R : Int} (hQ : Qp (some (.int (zI R))) (wX4 aI q_t q_t_bytes q_t_lengths q_t_widths q_t_ofNumbers t_bytes t_lengths t_columns t_rows t_widths t_ofNumbers t_laidWidth)) (K : Int → Option (Int)) (hK : ∀ (v2 : Int), K v2 = some R → zG X D 0 0 (wX4 aI q_t q_t_bytes q_t_lengths q_t_widths q_t_ofNumbers t_bytes t_lengths t_columns t_rows t_widths t_ofNumbers t_laidWidth) 42 [(2, .int (zI v2))] []) : ∀ (n : Nat) (v2 : Int) (v3 : Int), f_X4_isOfNumbers_l4 K v1 t_bytes t_lengths t_rows n v2 v3 = some R → zG X D 0 0 (wX4 aI q_t q_t_bytes q_t_lengths q_t_widths q_t_ofNumbers t_bytes t_lengths t_columns t_rows t_widths t_ofNumbers t_laidWidth) 4 [(0, .ref q_t), (1, .int (zI v1)), (2, .int (zI v2)), (3, .int (zI v3))] [] := by
  intro n
  induction n with
  | zero => intro v2 v3 hf; rw [f_X4_isOfNumbers_l4_z] at hf; cases hf
  | succ n ih =>
    intro v2 v3 hf
    rw [f_X4_isOfNumbers_l4_s] at hf
    refine z_iload_n 3 F (dX4_isOfNumbers_0 4 rfl) rfl ?_
    refine z_aload_n 0 F (dX4_isOfNumbers_0 5 rfl) rfl ?_
    refine z_get (v := .int (zI t_rows)) 0 F (dX4_isOfNumbers_0 6 rfl) fl_X4_isOfNumbers_28 rfl rfl ?_
    refine z_icmp_gt (tgt := 42) F (dX4_isOfNumbers_0 7 rfl) rfl (fun c9 => ?_) (fun c9 => ?_)
    · replace hf := zif_t c9 hf
      refine z_lv [2] rfl ?_
      exact hK v2 hf
    · replace hf := zif_f c9 hf
      refine z_aload_n 0 F (dX4_isOfNumbers_0 8 rfl) rfl ?_
      refine z_iload_n 3 F (dX4_isOfNumbers_0 9 rfl) rfl ?_
      refine z_iload_n 1 F (dX4_isOfNumbers_0 10 rfl) rfl ?_
      obtain ⟨o_1, h_2, hf⟩ := zb_some hf
      refine z_callV (As := [.int (zI v3), .int (zI v1)]) (rest := []) (wr := []) F (dX4_isOfNumbers_0 11 rfl) (k_X4_lengthOf (zL X) D aI aZ q_t q_t_bytes q_t_lengths q_t_widths q_t_ofNumbers t_bytes t_lengths t_columns t_rows t_widths t_ofNumbers t_laidWidth v3 v1 h_2) gX4_isOfNumbers_X4_lengthOf mX4_lengthOf rfl (ci := 4) rfl [0, 1, 2, 3, 4] [] 0 rfl rfl rfl (by decide) rfl rfl (Nat.le_of_ble_eq_true rfl) ⟨Nat.le_of_ble_eq_true rfl, Nat.le_of_ble_eq_true rfl⟩ ⟨rfl, rfl⟩ ⟨Nat.le_of_ble_eq_true rfl, Nat.le_of_ble_eq_true rfl⟩ (z_plain (ws' := wX4 aI q_t q_t_bytes q_t_lengths q_t_widths q_t_ofNumbers t_bytes t_lengths t_columns t_rows t_widths t_ofNumbers t_laidWidth) (st' := [.int (zI o_1)]) [0, 1, 2, 3, 4] rfl (by decide) rfl ?_)
      refine z_if_le (tgt := 36) F (dX4_isOfNumbers_0 12 rfl) rfl (fun c18 => ?_) (fun c18 => ?_)
      · replace hf := zif_f c18 hf
        refine z_iinc (lv' := [(3, .int (zI (v3 + 1))), (0, .ref q_t), (1, .int (zI v1)), (2, .int (zI v2))]) 3 F (dX4_isOfNumbers_0 23 rfl) rfl (by decide) rfl ?_
        refine z_goto (tgt := 4) F (dX4_isOfNumbers_0 24 rfl) rfl ?_
        refine z_lv [1, 2, 3, 0] rfl ?_
        exact ih v2 (v3 + 1) hf
      · replace hf := zif_t c18 hf
        refine z_aload_n 0 F (dX4_isOfNumbers_0 13 rfl) rfl ?_
        refine z_iload_n 3 F (dX4_isOfNumbers_0 14 rfl) rfl ?_
        refine z_iload_n 1 F (dX4_isOfNumbers_0 15 rfl) rfl ?_
        obtain ⟨o_3, h_4, hf⟩ := zb_some hf
        refine z_callV (As := [.int (zI v3), .int (zI v1)]) (rest := []) (wr := []) F (dX4_isOfNumbers_0 16 rfl) (k_X4_valueOf (zL X) D aI aZ q_t q_t_bytes q_t_lengths q_t_widths q_t_ofNumbers t_bytes t_lengths t_columns t_rows t_widths t_ofNumbers t_laidWidth v3 v1 h_4) gX4_isOfNumbers_X4_valueOf mX4_valueOf rfl (ci := 4) rfl [0, 1, 2, 3, 4] [] 0 rfl rfl rfl (by decide) rfl rfl (Nat.le_of_ble_eq_true rfl) ⟨Nat.le_of_ble_eq_true rfl, Nat.le_of_ble_eq_true rfl⟩ ⟨rfl, rfl⟩ ⟨Nat.le_of_ble_eq_true rfl, Nat.le_of_ble_eq_true rfl⟩ (z_plain (ws' := wX4 aI q_t q_t_bytes q_t_lengths q_t_widths q_t_ofNumbers t_bytes t_lengths t_columns t_rows t_widths t_ofNumbers t_laidWidth) (st' := [.int (zI o_3)]) [0, 1, 2, 3, 4] rfl (by decide) rfl ?_)
        refine z_ldc (x := (-2000000000)) (x' := (-2000000000)) F (dX4_isOfNumbers_0 17 rfl) (by decide +kernel) rfl ?_
        refine z_icmp_ne (tgt := 34) F (dX4_isOfNumbers_0 18 rfl) rfl (fun c29 => ?_) (fun c29 => ?_)
        · replace hf := zif_f c29 hf
          refine z_iconst F (dX4_isOfNumbers_0 21 rfl) ?_
          refine z_istore_n (lv' := [(2, .int (zI 1)), (0, .ref q_t), (1, .int (zI v1)), (3, .int (zI v3))]) F (dX4_isOfNumbers_0 22 rfl) (by decide) rfl ?_
          refine z_iinc (lv' := [(3, .int (zI (v3 + 1))), (2, .int (zI 1)), (0, .ref q_t), (1, .int (zI v1))]) 3 F (dX4_isOfNumbers_0 23 rfl) rfl (by decide) rfl ?_
          refine z_goto (tgt := 4) F (dX4_isOfNumbers_0 24 rfl) rfl ?_
          refine z_lv [2, 3, 1, 0] rfl ?_
          exact ih 1 (v3 + 1) hf
        · replace hf := zif_t c29 hf
          refine z_iconst F (dX4_isOfNumbers_0 19 rfl) ?_
          cases hf
          exact z_zret [0, 1, 2, 3, 4] F E (dX4_isOfNumbers_0 20 rfl) (Or.inl rfl) rfl (by decide) hQ
set_option maxRecDepth 20000 in
set_option maxHeartbeats 2000000 in
theorem b_X4_isOfNumbers_0 {X : zX} {D : va_G} {aI aZ : ClassId} {w0 : va_W} {Qp : Option Value → va_W → Prop} (F : zF X D aI aZ cX4_isOfNumbers 4 RX4 wsX4_isOfNumbers rmX4_isOfNumbers) (E : zT X D w0 Qp 0 0 (some .boolean)) (q_t q_t_bytes q_t_lengths q_t_widths q_t_ofNumbers : Nat) (t_bytes : (Nat → Int)) (t_lengths : (Nat → Int)) (t_columns : Int) (t_rows : Int) (t_widths : (Nat → Int)) (t_ofNumbers : (Nat → Int)) (t_laidWidth : Int) (v1 : Int) {R : Int} (hQ : Qp (some (.int (zI R))) (wX4 aI q_t q_t_bytes q_t_lengths q_t_widths q_t_ofNumbers t_bytes t_lengths t_columns t_rows t_widths t_ofNumbers t_laidWidth)) (hf : f_X4_isOfNumbers t_bytes t_lengths t_rows v1 = some R) : zG X D 0 0 (wX4 aI q_t q_t_bytes q_t_lengths q_t_widths q_t_ofNumbers t_bytes t_lengths t_columns t_rows t_widths t_ofNumbers t_laidWidth) 0 [(0, .ref q_t), (1, .int (zI v1))] [] := by
  unfold f_X4_isOfNumbers at hf
  refine z_iconst F (dX4_isOfNumbers_0 0 rfl) ?_
  refine z_istore_n (lv' := [(2, .int (zI 0)), (0, .ref q_t), (1, .int (zI v1))]) F (dX4_isOfNumbers_0 1 rfl) (by decide) rfl ?_
  refine z_iconst F (dX4_isOfNumbers_0 2 rfl) ?_
  refine z_istore_n (lv' := [(3, .int (zI 1)), (2, .int (zI 0)), (0, .ref q_t), (1, .int (zI v1))]) F (dX4_isOfNumbers_0 3 rfl) (by decide) rfl ?_
  refine z_lv [2, 3, 1, 0] rfl ?_
  refine b_X4_isOfNumbers_l4 F E q_t q_t_bytes q_t_lengths q_t_widths q_t_ofNumbers v1 t_bytes t_lengths t_columns t_rows t_widths t_ofNumbers t_laidWidth hQ _ ?_ zN 0 1 hf
  intro v2_5 hf
  refine z_iload_n 0 F (dX4_isOfNumbers_0 25 rfl) rfl ?_
  obtain ⟨hb_6, hf⟩ := zch_some hf
  cases hf
  exact z_zret [0, 1, 2, 3, 4] F E (dX4_isOfNumbers_0 26 rfl) hb_6 rfl (by decide) hQ
set_option maxRecDepth 20000 in
set_option maxHeartbeats 2000000 in
theorem k_X4_isOfNumbers (l : Launch) (D : va_G) (aI aZ : ClassId) (q_t q_t_bytes q_t_lengths q_t_widths q_t_ofNumbers : Nat) (t_bytes : (Nat → Int)) (t_lengths : (Nat → Int)) (t_columns : Int) (t_rows : Int) (t_widths : (Nat → Int)) (t_ofNumbers : (Nat → Int)) (t_laidWidth : Int) (v1 : Int) {R : Int} (hf : f_X4_isOfNumbers t_bytes t_lengths t_rows v1 = some R) : zC l D aI aZ yX4_isOfNumbers wsX4_isOfNumbers rmX4_isOfNumbers [.ref q_t, .int (zI v1)] (wX4 aI q_t q_t_bytes q_t_lengths q_t_widths q_t_ofNumbers t_bytes t_lengths t_columns t_rows t_widths t_ofNumbers t_laidWidth) (fun r w => r = (some (.int (zI R))) ∧ w = wX4 aI q_t q_t_bytes q_t_lengths q_t_widths q_t_ofNumbers t_bytes t_lengths t_columns t_rows t_widths t_ofNumbers t_laidWidth) 0 0 := by
  refine z_met (cc := cX4_isOfNumbers) (maxL := 4) (ret := (some .boolean)) (by decide +kernel) rfl (Nat.le_of_ble_eq_true rfl) (fun X hX F E => ?_)
  exact b_X4_isOfNumbers_0 F E q_t q_t_bytes q_t_lengths q_t_widths q_t_ofNumbers t_bytes t_lengths t_columns t_rows t_widths t_ofNumbers t_laidWidth v1 ⟨rfl, rfl⟩ hf
theorem inw_X4_sumOf_4 : ∀ w ∈ u_ws RX4 TX4 7, w ∈ wsX4_sumOf := by decide +kernel
theorem fl_X4_sumOf_28 : zfl wsX4_sumOf RX4 28 4 3 RX4 TX4 7 := ⟨inw_X4_sumOf_4, rfl, by decide, by decide +kernel⟩
abbrev rmX4_sumOf : Room := { frames := 4, cells := 0, slots := 0, locals := 100 }
theorem mX4_sumOf : zY yX4_sumOf cX4_sumOf 5 (some .long) wsX4_sumOf 1 := ⟨⟨_, rfl⟩, by decide +kernel, by decide +kernel, by decide +kernel⟩
set_option maxRecDepth 20000 in
set_option maxHeartbeats 2000000 in
theorem b_X4_sumOf_l5 {X : zX} {D : va_G} {aI aZ : ClassId} {w0 : va_W} {Qp : Option Value → va_W → Prop} (F : zF X D aI aZ cX4_sumOf 5 RX4 wsX4_sumOf rmX4_sumOf) (E : zT X D w0 Qp 0 0 (some .long)) (q_t q_t_bytes q_t_lengths q_t_widths q_t_ofNumbers : Nat) (v1 : Int) (t_bytes : (Nat → Int)) (t_lengths : (Nat → Int)) (t_columns : Int) (t_rows : Int) (t_widths : (Nat → Int)) (t_ofNumbers : (Nat → Int)) (t_laidWidth : Int) {R : Int} (hQ : Qp (some (.long (zJ R))) (wX4 aI q_t q_t_bytes q_t_lengths q_t_widths q_t_ofNumbers t_bytes t_lengths t_columns t_rows t_widths t_ofNumbers t_laidWidth)) (K : Int → Option (Int)) (hK : ∀ (v2 : Int), K v2 = some R → zG X D 0 0 (wX4 aI q_t q_t_bytes q_t_lengths q_t_widths q_t_ofNumbers t_bytes t_lengths t_columns t_rows t_widths t_ofNumbers t_laidWidth) 41 [(2, .long (zJ v2))] []) : ∀ (n : Nat) (v2 : Int) (v4 : Int), f_X4_sumOf_l5 K v1 t_bytes t_lengths t_rows n v2 v4 = some R → zG X D 0 0 (wX4 aI q_t q_t_bytes q_t_lengths q_t_widths q_t_ofNumbers t_bytes t_lengths t_columns t_rows t_widths t_ofNumbers t_laidWidth) 5 [(0, .ref q_t), (1, .int (zI v1)), (2, .long (zJ v2)), (4, .int (zI v4))] [] := by
  intro n
  induction n with
  | zero => intro v2 v4 hf; rw [f_X4_sumOf_l5_z] at hf; cases hf
  | succ n ih =>
    intro v2 v4 hf
    rw [f_X4_sumOf_l5_s] at hf
    refine z_iload 3 F (dX4_sumOf_0 4 rfl) rfl ?_
    refine z_aload_n 0 F (dX4_sumOf_0 5 rfl) rfl ?_
    refine z_get (v := .int (zI t_rows)) 0 F (dX4_sumOf_0 6 rfl) fl_X4_sumOf_28 rfl rfl ?_
    refine z_icmp_gt (tgt := 41) F (dX4_sumOf_0 7 rfl) rfl (fun c11 => ?_) (fun c11 => ?_)
    · replace hf := zif_t c11 hf
      refine z_lv [2] rfl ?_
      exact hK v2 hf
    · replace hf := zif_f c11 hf
      refine z_aload_n 0 F (dX4_sumOf_0 8 rfl) rfl ?_
      refine z_iload 3 F (dX4_sumOf_0 9 rfl) rfl ?_
      refine z_iload_n 1 F (dX4_sumOf_0 10 rfl) rfl ?_
      obtain ⟨o_1, h_2, hf⟩ := zb_some hf
      refine z_callV (As := [.int (zI v4), .int (zI v1)]) (rest := []) (wr := []) F (dX4_sumOf_0 11 rfl) (k_X4_lengthOf (zL X) D aI aZ q_t q_t_bytes q_t_lengths q_t_widths q_t_ofNumbers t_bytes t_lengths t_columns t_rows t_widths t_ofNumbers t_laidWidth v4 v1 h_2) gX4_sumOf_X4_lengthOf mX4_lengthOf rfl (ci := 4) rfl [0, 1, 2, 3, 4] [] 0 rfl rfl rfl (by decide) rfl rfl (Nat.le_of_ble_eq_true rfl) ⟨Nat.le_of_ble_eq_true rfl, Nat.le_of_ble_eq_true rfl⟩ ⟨rfl, rfl⟩ ⟨Nat.le_of_ble_eq_true rfl, Nat.le_of_ble_eq_true rfl⟩ (z_plain (ws' := wX4 aI q_t q_t_bytes q_t_lengths q_t_widths q_t_ofNumbers t_bytes t_lengths t_columns t_rows t_widths t_ofNumbers t_laidWidth) (st' := [.int (zI o_1)]) [0, 1, 2, 3, 4] rfl (by decide) rfl ?_)
      refine z_if_le (tgt := 35) F (dX4_sumOf_0 12 rfl) rfl (fun c21 => ?_) (fun c21 => ?_)
      · replace hf := zif_f c21 hf
        refine z_iinc (lv' := [(4, .int (zI (v4 + 1))), (0, .ref q_t), (1, .int (zI v1)), (2, .long (zJ v2))]) 3 F (dX4_sumOf_0 21 rfl) rfl (by decide) rfl ?_
        refine z_goto (tgt := 5) F (dX4_sumOf_0 22 rfl) rfl ?_
        refine z_lv [1, 2, 3, 0] rfl ?_
        exact ih v2 (v4 + 1) hf
      · replace hf := zif_t c21 hf
        refine z_lload_n 2 F (dX4_sumOf_0 13 rfl) rfl ?_
        refine z_aload_n 0 F (dX4_sumOf_0 14 rfl) rfl ?_
        refine z_iload 3 F (dX4_sumOf_0 15 rfl) rfl ?_
        refine z_iload_n 1 F (dX4_sumOf_0 16 rfl) rfl ?_
        obtain ⟨o_3, h_4, hf⟩ := zb_some hf
        refine z_callV (As := [.int (zI v4), .int (zI v1)]) (rest := [.long (zJ v2)]) (wr := []) F (dX4_sumOf_0 17 rfl) (k_X4_valueOf (zL X) D aI aZ q_t q_t_bytes q_t_lengths q_t_widths q_t_ofNumbers t_bytes t_lengths t_columns t_rows t_widths t_ofNumbers t_laidWidth v4 v1 h_4) gX4_sumOf_X4_valueOf mX4_valueOf rfl (ci := 4) rfl [0, 1, 2, 3, 4] [] 0 rfl rfl rfl (by decide) rfl rfl (Nat.le_of_ble_eq_true rfl) ⟨Nat.le_of_ble_eq_true rfl, Nat.le_of_ble_eq_true rfl⟩ ⟨rfl, rfl⟩ ⟨Nat.le_of_ble_eq_true rfl, Nat.le_of_ble_eq_true rfl⟩ (z_plain (ws' := wX4 aI q_t q_t_bytes q_t_lengths q_t_widths q_t_ofNumbers t_bytes t_lengths t_columns t_rows t_widths t_ofNumbers t_laidWidth) (st' := [.int (zI o_3), .long (zJ v2)]) [0, 1, 2, 3, 4] rfl (by decide) rfl ?_)
        refine z_i2l F (dX4_sumOf_0 18 rfl) ?_
        refine z_ladd F (dX4_sumOf_0 19 rfl) ?_
        refine z_lstore_n (lv' := [(2, .long (zJ (v2 + (zw32 o_3)))), (0, .ref q_t), (1, .int (zI v1)), (4, .int (zI v4))]) F (dX4_sumOf_0 20 rfl) (by decide) rfl ?_
        refine z_iinc (lv' := [(4, .int (zI (v4 + 1))), (2, .long (zJ (v2 + (zw32 o_3)))), (0, .ref q_t), (1, .int (zI v1))]) 3 F (dX4_sumOf_0 21 rfl) rfl (by decide) rfl ?_
        refine z_goto (tgt := 5) F (dX4_sumOf_0 22 rfl) rfl ?_
        refine z_lv [2, 3, 1, 0] rfl ?_
        exact ih (v2 + (zw32 o_3)) (v4 + 1) hf
set_option maxRecDepth 20000 in
set_option maxHeartbeats 2000000 in
theorem b_X4_sumOf_0 {X : zX} {D : va_G} {aI aZ : ClassId} {w0 : va_W} {Qp : Option Value → va_W → Prop} (F : zF X D aI aZ cX4_sumOf 5 RX4 wsX4_sumOf rmX4_sumOf) (E : zT X D w0 Qp 0 0 (some .long)) (q_t q_t_bytes q_t_lengths q_t_widths q_t_ofNumbers : Nat) (t_bytes : (Nat → Int)) (t_lengths : (Nat → Int)) (t_columns : Int) (t_rows : Int) (t_widths : (Nat → Int)) (t_ofNumbers : (Nat → Int)) (t_laidWidth : Int) (v1 : Int) {R : Int} (hQ : Qp (some (.long (zJ R))) (wX4 aI q_t q_t_bytes q_t_lengths q_t_widths q_t_ofNumbers t_bytes t_lengths t_columns t_rows t_widths t_ofNumbers t_laidWidth)) (hf : f_X4_sumOf t_bytes t_lengths t_rows v1 = some R) : zG X D 0 0 (wX4 aI q_t q_t_bytes q_t_lengths q_t_widths q_t_ofNumbers t_bytes t_lengths t_columns t_rows t_widths t_ofNumbers t_laidWidth) 0 [(0, .ref q_t), (1, .int (zI v1))] [] := by
  unfold f_X4_sumOf at hf
  refine z_lconst (x := 0) F (dX4_sumOf_0 0 rfl) rfl ?_
  refine z_lstore_n (lv' := [(2, .long (zJ 0)), (0, .ref q_t), (1, .int (zI v1))]) F (dX4_sumOf_0 1 rfl) (by decide) rfl ?_
  refine z_iconst F (dX4_sumOf_0 2 rfl) ?_
  refine z_istore (lv' := [(4, .int (zI 1)), (2, .long (zJ 0)), (0, .ref q_t), (1, .int (zI v1))]) F (dX4_sumOf_0 3 rfl) (by decide) rfl ?_
  refine z_lv [2, 3, 1, 0] rfl ?_
  refine b_X4_sumOf_l5 F E q_t q_t_bytes q_t_lengths q_t_widths q_t_ofNumbers v1 t_bytes t_lengths t_columns t_rows t_widths t_ofNumbers t_laidWidth hQ _ ?_ zN 0 1 hf
  intro v2_5 hf
  refine z_lload_n 0 F (dX4_sumOf_0 23 rfl) rfl ?_
  cases hf
  exact z_lret [0, 1, 2, 3, 4] F E (dX4_sumOf_0 24 rfl) rfl (by decide) hQ
set_option maxRecDepth 20000 in
set_option maxHeartbeats 2000000 in
theorem k_X4_sumOf (l : Launch) (D : va_G) (aI aZ : ClassId) (q_t q_t_bytes q_t_lengths q_t_widths q_t_ofNumbers : Nat) (t_bytes : (Nat → Int)) (t_lengths : (Nat → Int)) (t_columns : Int) (t_rows : Int) (t_widths : (Nat → Int)) (t_ofNumbers : (Nat → Int)) (t_laidWidth : Int) (v1 : Int) {R : Int} (hf : f_X4_sumOf t_bytes t_lengths t_rows v1 = some R) : zC l D aI aZ yX4_sumOf wsX4_sumOf rmX4_sumOf [.ref q_t, .int (zI v1)] (wX4 aI q_t q_t_bytes q_t_lengths q_t_widths q_t_ofNumbers t_bytes t_lengths t_columns t_rows t_widths t_ofNumbers t_laidWidth) (fun r w => r = (some (.long (zJ R))) ∧ w = wX4 aI q_t q_t_bytes q_t_lengths q_t_widths q_t_ofNumbers t_bytes t_lengths t_columns t_rows t_widths t_ofNumbers t_laidWidth) 0 0 := by
  refine z_met (cc := cX4_sumOf) (maxL := 5) (ret := (some .long)) (by decide +kernel) rfl (Nat.le_of_ble_eq_true rfl) (fun X hX F E => ?_)
  exact b_X4_sumOf_0 F E q_t q_t_bytes q_t_lengths q_t_widths q_t_ofNumbers t_bytes t_lengths t_columns t_rows t_widths t_ofNumbers t_laidWidth v1 ⟨rfl, rfl⟩ hf
theorem inw_X4_laidLines_4 : ∀ w ∈ u_ws RX4 TX4 7, w ∈ wsX4_laidLines := by decide +kernel
theorem fl_X4_laidLines_28 : zfl wsX4_laidLines RX4 28 4 3 RX4 TX4 7 := ⟨inw_X4_laidLines_4, rfl, by decide, by decide +kernel⟩
abbrev rmX4_laidLines : Room := { frames := 4, cells := 0, slots := 0, locals := 86 }
theorem mX4_laidLines : zY yX4_laidLines cX4_laidLines 4 (some .int) wsX4_laidLines 0 := ⟨⟨_, rfl⟩, by decide +kernel, by decide +kernel, by decide +kernel⟩
set_option maxRecDepth 20000 in
set_option maxHeartbeats 2000000 in
theorem b_X4_laidLines_j45 {X : zX} {D : va_G} {aI aZ : ClassId} {w0 : va_W} {Qp : Option Value → va_W → Prop} (F : zF X D aI aZ cX4_laidLines 4 RX4 wsX4_laidLines rmX4_laidLines) (E : zT X D w0 Qp 0 0 (some .int)) (q_t q_t_bytes q_t_lengths q_t_widths q_t_ofNumbers : Nat) (s0 : Int) (v1 : Int) (v2 : Int) (t_bytes : (Nat → Int)) (t_lengths : (Nat → Int)) (t_columns : Int) (t_rows : Int) (t_widths : (Nat → Int)) (t_ofNumbers : (Nat → Int)) (t_laidWidth : Int) {R : Int} (hQ : Qp (some (.int (zI R))) (wX4 aI q_t q_t_bytes q_t_lengths q_t_widths q_t_ofNumbers t_bytes t_lengths t_columns t_rows t_widths t_ofNumbers t_laidWidth)) (hf : f_X4_laidLines_j45 s0 v1 v2 t_rows = some R) : zG X D 0 0 (wX4 aI q_t q_t_bytes q_t_lengths q_t_widths q_t_ofNumbers t_bytes t_lengths t_columns t_rows t_widths t_ofNumbers t_laidWidth) 45 [(0, .ref q_t), (1, .int (zI v1)), (2, .int (zI v2))] [.int (zI s0)] := by
  unfold f_X4_laidLines_j45 at hf
  refine z_istore_n (lv' := [(3, .int (zI s0)), (0, .ref q_t), (1, .int (zI v1)), (2, .int (zI v2))]) F (dX4_laidLines_0 23 rfl) (by decide) rfl ?_
  refine z_iload_n 2 F (dX4_laidLines_0 24 rfl) rfl ?_
  refine z_iload_n 0 F (dX4_laidLines_0 25 rfl) rfl ?_
  refine z_iadd F (dX4_laidLines_0 26 rfl) ?_
  refine z_aload_n 1 F (dX4_laidLines_0 27 rfl) rfl ?_
  refine z_get (v := .int (zI t_rows)) 0 F (dX4_laidLines_0 28 rfl) fl_X4_laidLines_28 rfl rfl ?_
  refine z_iadd F (dX4_laidLines_0 29 rfl) ?_
  refine z_iload_n 3 F (dX4_laidLines_0 30 rfl) rfl ?_
  refine z_iadd F (dX4_laidLines_0 31 rfl) ?_
  cases hf
  exact z_iret [0, 1, 2, 3, 4] F E (dX4_laidLines_0 32 rfl) rfl (by decide) hQ
set_option maxRecDepth 20000 in
set_option maxHeartbeats 2000000 in
theorem b_X4_laidLines_j44 {X : zX} {D : va_G} {aI aZ : ClassId} {w0 : va_W} {Qp : Option Value → va_W → Prop} (F : zF X D aI aZ cX4_laidLines 4 RX4 wsX4_laidLines rmX4_laidLines) (E : zT X D w0 Qp 0 0 (some .int)) (q_t q_t_bytes q_t_lengths q_t_widths q_t_ofNumbers : Nat) (v1 : Int) (v2 : Int) (t_bytes : (Nat → Int)) (t_lengths : (Nat → Int)) (t_columns : Int) (t_rows : Int) (t_widths : (Nat → Int)) (t_ofNumbers : (Nat → Int)) (t_laidWidth : Int) {R : Int} (hQ : Qp (some (.int (zI R))) (wX4 aI q_t q_t_bytes q_t_lengths q_t_widths q_t_ofNumbers t_bytes t_lengths t_columns t_rows t_widths t_ofNumbers t_laidWidth)) (hf : f_X4_laidLines_j44 v1 v2 t_rows = some R) : zG X D 0 0 (wX4 aI q_t q_t_bytes q_t_lengths q_t_widths q_t_ofNumbers t_bytes t_lengths t_columns t_rows t_widths t_ofNumbers t_laidWidth) 44 [(0, .ref q_t), (1, .int (zI v1)), (2, .int (zI v2))] [] := by
  unfold f_X4_laidLines_j44 at hf
  refine z_iconst F (dX4_laidLines_0 22 rfl) ?_
  exact b_X4_laidLines_j45 F E q_t q_t_bytes q_t_lengths q_t_widths q_t_ofNumbers 0 v1 v2 t_bytes t_lengths t_columns t_rows t_widths t_ofNumbers t_laidWidth hQ hf
set_option maxRecDepth 20000 in
set_option maxHeartbeats 2000000 in
theorem b_X4_laidLines_j25 {X : zX} {D : va_G} {aI aZ : ClassId} {w0 : va_W} {Qp : Option Value → va_W → Prop} (F : zF X D aI aZ cX4_laidLines 4 RX4 wsX4_laidLines rmX4_laidLines) (E : zT X D w0 Qp 0 0 (some .int)) (q_t q_t_bytes q_t_lengths q_t_widths q_t_ofNumbers : Nat) (s0 : Int) (v1 : Int) (t_bytes : (Nat → Int)) (t_lengths : (Nat → Int)) (t_columns : Int) (t_rows : Int) (t_widths : (Nat → Int)) (t_ofNumbers : (Nat → Int)) (t_laidWidth : Int) {R : Int} (hQ : Qp (some (.int (zI R))) (wX4 aI q_t q_t_bytes q_t_lengths q_t_widths q_t_ofNumbers t_bytes t_lengths t_columns t_rows t_widths t_ofNumbers t_laidWidth)) (hf : f_X4_laidLines_j25 s0 v1 t_lengths t_columns t_rows = some R) : zG X D 0 0 (wX4 aI q_t q_t_bytes q_t_lengths q_t_widths q_t_ofNumbers t_bytes t_lengths t_columns t_rows t_widths t_ofNumbers t_laidWidth) 25 [(0, .ref q_t), (1, .int (zI v1))] [.int (zI s0)] := by
  unfold f_X4_laidLines_j25 at hf
  refine z_istore_n (lv' := [(2, .int (zI s0)), (0, .ref q_t), (1, .int (zI v1))]) F (dX4_laidLines_0 13 rfl) (by decide) rfl ?_
  refine z_aload_n 1 F (dX4_laidLines_0 14 rfl) rfl ?_
  obtain ⟨o_5, h_6, hf⟩ := zb_some hf
  refine z_callV (As := []) (rest := []) (wr := []) F (dX4_laidLines_0 15 rfl) (k_X4_hasFoot (zL X) D aI aZ q_t q_t_bytes q_t_lengths q_t_widths q_t_ofNumbers t_bytes t_lengths t_columns t_rows t_widths t_ofNumbers t_laidWidth h_6) gX4_laidLines_X4_hasFoot mX4_hasFoot rfl (ci := 4) rfl [0, 1, 2, 3, 4] [] 0 rfl rfl rfl (by decide) rfl rfl (Nat.le_of_ble_eq_true rfl) ⟨Nat.le_of_ble_eq_true rfl, Nat.le_of_ble_eq_true rfl⟩ ⟨rfl, rfl⟩ ⟨Nat.le_of_ble_eq_true rfl, Nat.le_of_ble_eq_true rfl⟩ (z_plain (ws' := wX4 aI q_t q_t_bytes q_t_lengths q_t_widths q_t_ofNumbers t_bytes t_lengths t_columns t_rows t_widths t_ofNumbers t_laidWidth) (st' := [.int (zI o_5)]) [0, 1, 2, 3, 4] rfl (by decide) rfl ?_)
  refine z_if_eq (tgt := 44) F (dX4_laidLines_0 16 rfl) rfl (fun c30 => ?_) (fun c30 => ?_)
  · replace hf := zif_t c30 hf
    refine z_lv [1, 2, 0] rfl ?_
    exact b_X4_laidLines_j44 F E q_t q_t_bytes q_t_lengths q_t_widths q_t_ofNumbers v1 s0 t_bytes t_lengths t_columns t_rows t_widths t_ofNumbers t_laidWidth hQ hf
  · replace hf := zif_f c30 hf
    refine z_aload_n 1 F (dX4_laidLines_0 17 rfl) rfl ?_
    obtain ⟨o_7, h_8, hf⟩ := zb_some hf
    refine z_callV (As := []) (rest := []) (wr := []) F (dX4_laidLines_0 18 rfl) (k_X4_hasHead (zL X) D aI aZ q_t q_t_bytes q_t_lengths q_t_widths q_t_ofNumbers t_bytes t_lengths t_columns t_rows t_widths t_ofNumbers t_laidWidth h_8) gX4_laidLines_X4_hasHead mX4_hasHead rfl (ci := 4) rfl [0, 1, 2, 3, 4] [] 0 rfl rfl rfl (by decide) rfl rfl (Nat.le_of_ble_eq_true rfl) ⟨Nat.le_of_ble_eq_true rfl, Nat.le_of_ble_eq_true rfl⟩ ⟨rfl, rfl⟩ ⟨Nat.le_of_ble_eq_true rfl, Nat.le_of_ble_eq_true rfl⟩ (z_plain (ws' := wX4 aI q_t q_t_bytes q_t_lengths q_t_widths q_t_ofNumbers t_bytes t_lengths t_columns t_rows t_widths t_ofNumbers t_laidWidth) (st' := [.int (zI o_7)]) [0, 1, 2, 3, 4] rfl (by decide) rfl ?_)
    refine z_if_ne (tgt := 44) F (dX4_laidLines_0 19 rfl) rfl (fun c37 => ?_) (fun c37 => ?_)
    · replace hf := zif_f c37 hf
      refine z_lv [1, 2, 0] rfl ?_
      exact b_X4_laidLines_j44 F E q_t q_t_bytes q_t_lengths q_t_widths q_t_ofNumbers v1 s0 t_bytes t_lengths t_columns t_rows t_widths t_ofNumbers t_laidWidth hQ hf
    · replace hf := zif_t c37 hf
      refine z_iconst F (dX4_laidLines_0 20 rfl) ?_
      refine z_goto (tgt := 45) F (dX4_laidLines_0 21 rfl) rfl ?_
      refine z_lv [1, 2, 0] rfl ?_
      exact b_X4_laidLines_j45 F E q_t q_t_bytes q_t_lengths q_t_widths q_t_ofNumbers 1 v1 s0 t_bytes t_lengths t_columns t_rows t_widths t_ofNumbers t_laidWidth hQ hf
set_option maxRecDepth 20000 in
set_option maxHeartbeats 2000000 in
theorem b_X4_laidLines_j12 {X : zX} {D : va_G} {aI aZ : ClassId} {w0 : va_W} {Qp : Option Value → va_W → Prop} (F : zF X D aI aZ cX4_laidLines 4 RX4 wsX4_laidLines rmX4_laidLines) (E : zT X D w0 Qp 0 0 (some .int)) (q_t q_t_bytes q_t_lengths q_t_widths q_t_ofNumbers : Nat) (s0 : Int) (t_bytes : (Nat → Int)) (t_lengths : (Nat → Int)) (t_columns : Int) (t_rows : Int) (t_widths : (Nat → Int)) (t_ofNumbers : (Nat → Int)) (t_laidWidth : Int) {R : Int} (hQ : Qp (some (.int (zI R))) (wX4 aI q_t q_t_bytes q_t_lengths q_t_widths q_t_ofNumbers t_bytes t_lengths t_columns t_rows t_widths t_ofNumbers t_laidWidth)) (hf : f_X4_laidLines_j12 s0 t_lengths t_columns t_rows = some R) : zG X D 0 0 (wX4 aI q_t q_t_bytes q_t_lengths q_t_widths q_t_ofNumbers t_bytes t_lengths t_columns t_rows t_widths t_ofNumbers t_laidWidth) 12 [(0, .ref q_t)] [.int (zI s0)] := by
  unfold f_X4_laidLines_j12 at hf
  refine z_istore_n (lv' := [(1, .int (zI s0)), (0, .ref q_t)]) F (dX4_laidLines_0 6 rfl) (by decide) rfl ?_
  refine z_aload_n 1 F (dX4_laidLines_0 7 rfl) rfl ?_
  obtain ⟨o_3, h_4, hf⟩ := zb_some hf
  refine z_callV (As := []) (rest := []) (wr := []) F (dX4_laidLines_0 8 rfl) (k_X4_hasFoot (zL X) D aI aZ q_t q_t_bytes q_t_lengths q_t_widths q_t_ofNumbers t_bytes t_lengths t_columns t_rows t_widths t_ofNumbers t_laidWidth h_4) gX4_laidLines_X4_hasFoot mX4_hasFoot rfl (ci := 4) rfl [0, 1, 2, 3, 4] [] 0 rfl rfl rfl (by decide) rfl rfl (Nat.le_of_ble_eq_true rfl) ⟨Nat.le_of_ble_eq_true rfl, Nat.le_of_ble_eq_true rfl⟩ ⟨rfl, rfl⟩ ⟨Nat.le_of_ble_eq_true rfl, Nat.le_of_ble_eq_true rfl⟩ (z_plain (ws' := wX4 aI q_t q_t_bytes q_t_lengths q_t_widths q_t_ofNumbers t_bytes t_lengths t_columns t_rows t_widths t_ofNumbers t_laidWidth) (st' := [.int (zI o_3)]) [0, 1, 2, 3, 4] rfl (by decide) rfl ?_)
  refine z_if_eq (tgt := 24) F (dX4_laidLines_0 9 rfl) rfl (fun c17 => ?_) (fun c17 => ?_)
  · replace hf := zif_t c17 hf
    refine z_iconst F (dX4_laidLines_0 12 rfl) ?_
    refine z_lv [1, 0] rfl ?_
    exact b_X4_laidLines_j25 F E q_t q_t_bytes q_t_lengths q_t_widths q_t_ofNumbers 0 s0 t_bytes t_lengths t_columns t_rows t_widths t_ofNumbers t_laidWidth hQ hf
  · replace hf := zif_f c17 hf
    refine z_iconst F (dX4_laidLines_0 10 rfl) ?_
    refine z_goto (tgt := 25) F (dX4_laidLines_0 11 rfl) rfl ?_
    refine z_lv [1, 0] rfl ?_
    exact b_X4_laidLines_j25 F E q_t q_t_bytes q_t_lengths q_t_widths q_t_ofNumbers 2 s0 t_bytes t_lengths t_columns t_rows t_widths t_ofNumbers t_laidWidth hQ hf
set_option maxRecDepth 20000 in
set_option maxHeartbeats 2000000 in
theorem b_X4_laidLines_0 {X : zX} {D : va_G} {aI aZ : ClassId} {w0 : va_W} {Qp : Option Value → va_W → Prop} (F : zF X D aI aZ cX4_laidLines 4 RX4 wsX4_laidLines rmX4_laidLines) (E : zT X D w0 Qp 0 0 (some .int)) (q_t q_t_bytes q_t_lengths q_t_widths q_t_ofNumbers : Nat) (t_bytes : (Nat → Int)) (t_lengths : (Nat → Int)) (t_columns : Int) (t_rows : Int) (t_widths : (Nat → Int)) (t_ofNumbers : (Nat → Int)) (t_laidWidth : Int) {R : Int} (hQ : Qp (some (.int (zI R))) (wX4 aI q_t q_t_bytes q_t_lengths q_t_widths q_t_ofNumbers t_bytes t_lengths t_columns t_rows t_widths t_ofNumbers t_laidWidth)) (hf : f_X4_laidLines t_lengths t_columns t_rows = some R) : zG X D 0 0 (wX4 aI q_t q_t_bytes q_t_lengths q_t_widths q_t_ofNumbers t_bytes t_lengths t_columns t_rows t_widths t_ofNumbers t_laidWidth) 0 [(0, .ref q_t)] [] := by
  unfold f_X4_laidLines at hf
  refine z_aload_n 0 F (dX4_laidLines_0 0 rfl) rfl ?_
  obtain ⟨o_1, h_2, hf⟩ := zb_some hf
  refine z_callV (As := []) (rest := []) (wr := []) F (dX4_laidLines_0 1 rfl) (k_X4_hasHead (zL X) D aI aZ q_t q_t_bytes q_t_lengths q_t_widths q_t_ofNumbers t_bytes t_lengths t_columns t_rows t_widths t_ofNumbers t_laidWidth h_2) gX4_laidLines_X4_hasHead mX4_hasHead rfl (ci := 4) rfl [0, 1, 2, 3, 4] [] 0 rfl rfl rfl (by decide) rfl rfl (Nat.le_of_ble_eq_true rfl) ⟨Nat.le_of_ble_eq_true rfl, Nat.le_of_ble_eq_true rfl⟩ ⟨rfl, rfl⟩ ⟨Nat.le_of_ble_eq_true rfl, Nat.le_of_ble_eq_true rfl⟩ (z_plain (ws' := wX4 aI q_t q_t_bytes q_t_lengths q_t_widths q_t_ofNumbers t_bytes t_lengths t_columns t_rows t_widths t_ofNumbers t_laidWidth) (st' := [.int (zI o_1)]) [0, 1, 2, 3, 4] rfl (by decide) rfl ?_)
  refine z_if_eq (tgt := 11) F (dX4_laidLines_0 2 rfl) rfl (fun c4 => ?_) (fun c4 => ?_)
  · replace hf := zif_t c4 hf
    refine z_iconst F (dX4_laidLines_0 5 rfl) ?_
    exact b_X4_laidLines_j12 F E q_t q_t_bytes q_t_lengths q_t_widths q_t_ofNumbers 0 t_bytes t_lengths t_columns t_rows t_widths t_ofNumbers t_laidWidth hQ hf
  · replace hf := zif_f c4 hf
    refine z_iconst F (dX4_laidLines_0 3 rfl) ?_
    refine z_goto (tgt := 12) F (dX4_laidLines_0 4 rfl) rfl ?_
    exact b_X4_laidLines_j12 F E q_t q_t_bytes q_t_lengths q_t_widths q_t_ofNumbers 2 t_bytes t_lengths t_columns t_rows t_widths t_ofNumbers t_laidWidth hQ hf
set_option maxRecDepth 20000 in
set_option maxHeartbeats 2000000 in
theorem k_X4_laidLines (l : Launch) (D : va_G) (aI aZ : ClassId) (q_t q_t_bytes q_t_lengths q_t_widths q_t_ofNumbers : Nat) (t_bytes : (Nat → Int)) (t_lengths : (Nat → Int)) (t_columns : Int) (t_rows : Int) (t_widths : (Nat → Int)) (t_ofNumbers : (Nat → Int)) (t_laidWidth : Int) {R : Int} (hf : f_X4_laidLines t_lengths t_columns t_rows = some R) : zC l D aI aZ yX4_laidLines wsX4_laidLines rmX4_laidLines [.ref q_t] (wX4 aI q_t q_t_bytes q_t_lengths q_t_widths q_t_ofNumbers t_bytes t_lengths t_columns t_rows t_widths t_ofNumbers t_laidWidth) (fun r w => r = (some (.int (zI R))) ∧ w = wX4 aI q_t q_t_bytes q_t_lengths q_t_widths q_t_ofNumbers t_bytes t_lengths t_columns t_rows t_widths t_ofNumbers t_laidWidth) 0 0 := by
  refine z_met (cc := cX4_laidLines) (maxL := 4) (ret := (some .int)) (by decide +kernel) rfl (Nat.le_of_ble_eq_true rfl) (fun X hX F E => ?_)
  exact b_X4_laidLines_0 F E q_t q_t_bytes q_t_lengths q_t_widths q_t_ofNumbers t_bytes t_lengths t_columns t_rows t_widths t_ofNumbers t_laidWidth ⟨rfl, rfl⟩ hf
theorem inw_X4_measure_4 : ∀ w ∈ u_ws RX4 TX4 7, w ∈ wsX4_measure := by decide +kernel
theorem fl_X4_measure_24 : zfl wsX4_measure RX4 24 4 2 RX4 TX4 7 := ⟨inw_X4_measure_4, rfl, by decide, by decide +kernel⟩
theorem fl_X4_measure_125 : zfl wsX4_measure RX4 125 4 6 RX4 TX4 7 := ⟨inw_X4_measure_4, rfl, by decide, by decide +kernel⟩
theorem fl_X4_measure_28 : zfl wsX4_measure RX4 28 4 3 RX4 TX4 7 := ⟨inw_X4_measure_4, rfl, by decide, by decide +kernel⟩
theorem fl_X4_measure_18 : zfl wsX4_measure RX4 18 4 4 RX4 TX4 7 := ⟨inw_X4_measure_4, rfl, by decide, by decide +kernel⟩
theorem sw1_X4_measure_X5_put : Cond.static yX5_put ∈ wsX4_measure := by decide +kernel
theorem sw2_X4_measure_X5_put : Cond.initialized yX5_put.cls ∈ wsX4_measure := by decide +kernel
theorem fl_X4_measure_21 : zfl wsX4_measure RX4 21 4 5 RX4 TX4 7 := ⟨inw_X4_measure_4, rfl, by decide, by decide +kernel⟩
abbrev rmX4_measure : Room := { frames := 5, cells := 0, slots := 0, locals := 123 }
theorem mX4_measure : zY yX4_measure cX4_measure 4 none wsX4_measure 0 := ⟨⟨_, rfl⟩, by decide +kernel, by decide +kernel, by decide +kernel⟩
set_option maxRecDepth 20000 in
set_option maxHeartbeats 2000000 in
theorem b_X4_measure_l26 {X : zX} {D : va_G} {aI aZ : ClassId} {w0 : va_W} {Qp : Option Value → va_W → Prop} (F : zF X D aI aZ cX4_measure 4 RX4 wsX4_measure rmX4_measure) (E : zT X D w0 Qp 0 0 none) (q_t q_t_bytes q_t_lengths q_t_widths q_t_ofNumbers : Nat) (v1 : Int) (t_bytes : (Nat → Int)) (t_lengths : (Nat → Int)) (t_columns : Int) (t_rows : Int) (t_widths : (Nat → Int)) (t_ofNumbers : (Nat → Int)) (t_laidWidth : Int) {R : (Nat → Int) × (Nat → Int) × Int} (hQ : Qp none (wX4 aI q_t q_t_bytes q_t_lengths q_t_widths q_t_ofNumbers t_bytes t_lengths t_columns t_rows R.1 R.2.1 R.2.2)) (K : Int → Option ((Nat → Int) × (Nat → Int) × Int)) (hK : ∀ (v2 : Int), K v2 = some R → zG X D 0 0 (wX4 aI q_t q_t_bytes q_t_lengths q_t_widths q_t_ofNumbers t_bytes t_lengths t_columns t_rows t_widths t_ofNumbers t_laidWidth) 53 [(0, .ref q_t), (1, .int (zI v1)), (2, .int (zI v2))] []) : ∀ (n : Nat) (v2 : Int) (v3 : Int), f_X4_measure_l26 K v1 t_lengths t_rows n v2 v3 = some R → zG X D 0 0 (wX4 aI q_t q_t_bytes q_t_lengths q_t_widths q_t_ofNumbers t_bytes t_lengths t_columns t_rows t_widths t_ofNumbers t_laidWidth) 26 [(0, .ref q_t), (1, .int (zI v1)), (2, .int (zI v2)), (3, .int (zI v3))] [] := by
  intro n
  induction n with
  | zero => intro v2 v3 hf; rw [f_X4_measure_l26_z] at hf; cases hf
  | succ n ih =>
    intro v2 v3 hf
    rw [f_X4_measure_l26_s] at hf
    refine z_iload_n 3 F (dX4_measure_0 18 rfl) rfl ?_
    refine z_aload_n 0 F (dX4_measure_0 19 rfl) rfl ?_
    refine z_get (v := .int (zI t_rows)) 0 F (dX4_measure_0 20 rfl) fl_X4_measure_28 rfl rfl ?_
    refine z_iconst F (dX4_measure_0 21 rfl) ?_
    refine z_iadd F (dX4_measure_0 22 rfl) ?_
    refine z_icmp_gt (tgt := 53) F (dX4_measure_0 23 rfl) rfl (fun c33 => ?_) (fun c33 => ?_)
    · replace hf := zif_t c33 hf
      refine z_lv [0, 1, 2] rfl ?_
      exact hK v2 hf
    · replace hf := zif_f c33 hf
      refine z_iload_n 2 F (dX4_measure_0 24 rfl) rfl ?_
      refine z_aload_n 0 F (dX4_measure_0 25 rfl) rfl ?_
      refine z_iload_n 3 F (dX4_measure_0 26 rfl) rfl ?_
      refine z_iload_n 1 F (dX4_measure_0 27 rfl) rfl ?_
      obtain ⟨o_1, h_2, hf⟩ := zb_some hf
      refine z_callV (As := [.int (zI v3), .int (zI v1)]) (rest := [.int (zI v2)]) (wr := []) F (dX4_measure_0 28 rfl) (k_X4_lengthOf (zL X) D aI aZ q_t q_t_bytes q_t_lengths q_t_widths q_t_ofNumbers t_bytes t_lengths t_columns t_rows t_widths t_ofNumbers t_laidWidth v3 v1 h_2) gX4_measure_X4_lengthOf mX4_lengthOf rfl (ci := 4) rfl [0, 1, 2, 3, 4] [] 0 rfl rfl rfl (by decide) rfl rfl (Nat.le_of_ble_eq_true rfl) ⟨Nat.le_of_ble_eq_true rfl, Nat.le_of_ble_eq_true rfl⟩ ⟨rfl, rfl⟩ ⟨Nat.le_of_ble_eq_true rfl, Nat.le_of_ble_eq_true rfl⟩ (z_plain (ws' := wX4 aI q_t q_t_bytes q_t_lengths q_t_widths q_t_ofNumbers t_bytes t_lengths t_columns t_rows t_widths t_ofNumbers t_laidWidth) (st' := [.int (zI o_1), .int (zI v2)]) [0, 1, 2, 3, 4] rfl (by decide) rfl ?_)
      refine z_mmax F (dX4_measure_0 29 rfl) (by decide +kernel) (by decide +kernel) (by decide +kernel) (by decide +kernel) ⟨Nat.le_of_ble_eq_true rfl, Nat.le_of_ble_eq_true rfl⟩ (Nat.zero_le _) (Nat.zero_le _) ?_
      refine z_istore_n (lv' := [(2, .int (zI (zmax v2 o_1))), (0, .ref q_t), (1, .int (zI v1)), (3, .int (zI v3))]) F (dX4_measure_0 30 rfl) (by decide) rfl ?_
      refine z_iinc (lv' := [(3, .int (zI (v3 + 1))), (2, .int (zI (zmax v2 o_1))), (0, .ref q_t), (1, .int (zI v1))]) 3 F (dX4_measure_0 31 rfl) rfl (by decide) rfl ?_
      refine z_goto (tgt := 26) F (dX4_measure_0 32 rfl) rfl ?_
      refine z_lv [2, 3, 1, 0] rfl ?_
      exact ih (zmax v2 o_1) (v3 + 1) hf
set_option maxRecDepth 20000 in
set_option maxHeartbeats 2000000 in
theorem b_X4_measure_j80 {X : zX} {D : va_G} {aI aZ : ClassId} {w0 : va_W} {Qp : Option Value → va_W → Prop} (F : zF X D aI aZ cX4_measure 4 RX4 wsX4_measure rmX4_measure) (E : zT X D w0 Qp 0 0 none) (q_t q_t_bytes q_t_lengths q_t_widths q_t_ofNumbers : Nat) (s0 : Int) (s1 : Int) (v1 : Int) (v2 : Int) (t_bytes : (Nat → Int)) (t_lengths : (Nat → Int)) (t_columns : Int) (t_rows : Int) (t_widths : (Nat → Int)) (t_ofNumbers : (Nat → Int)) (t_laidWidth : Int) {R : (Nat → Int) × (Nat → Int) × Int} (hQ : Qp none (wX4 aI q_t q_t_bytes q_t_lengths q_t_widths q_t_ofNumbers t_bytes t_lengths t_columns t_rows R.1 R.2.1 R.2.2)) (rec : Int → (Nat → Int) → (Nat → Int) → Int → Option ((Nat → Int) × (Nat → Int) × Int)) (hrec : ∀ (v1 : Int) (t_widths : (Nat → Int)) (t_ofNumbers : (Nat → Int)) (t_laidWidth : Int), rec v1 t_widths t_ofNumbers t_laidWidth = some R → zG X D 0 0 (wX4 aI q_t q_t_bytes q_t_lengths q_t_widths q_t_ofNumbers t_bytes t_lengths t_columns t_rows t_widths t_ofNumbers t_laidWidth) 14 [(0, .ref q_t), (1, .int (zI v1))] []) (hf : f_X4_measure_j80 rec s0 s1 v1 v2 t_widths t_ofNumbers t_laidWidth = some R) : zG X D 0 0 (wX4 aI q_t q_t_bytes q_t_lengths q_t_widths q_t_ofNumbers t_bytes t_lengths t_columns t_rows t_widths t_ofNumbers t_laidWidth) 80 [(0, .ref q_t), (1, .int (zI v1)), (2, .int (zI v2))] [.int (zI s0), .int (zI s1), .ref q_t_ofNumbers] := by
  unfold f_X4_measure_j80 at hf
  obtain ⟨o_8, h_9, hf⟩ := zb_some hf
  refine z_callN (As := [.ref q_t_ofNumbers, .int (zI s1), .int (zI s0)]) (rest := []) (wr := [(q_t, .inr (4, [.ref q_t_bytes, .ref q_t_lengths, .int (zI t_columns), .int (zI t_rows), .ref q_t_widths, .ref q_t_ofNumbers, .int (zI t_laidWidth)]))] ++ ([(q_t_bytes, .inl (aI, 20160, .inl (fun j => zI (t_bytes j))))] ++ ([(q_t_lengths, .inl (aI, 336, .inl (fun j => zI (t_lengths j))))] ++ [(q_t_widths, .inl (aI, 8, .inl (fun j => zI (t_widths j))))]))) F (dX4_measure_1 8 rfl) (k_X5_put (zL X) D aI aZ q_t_ofNumbers 8 (by decide) t_ofNumbers s1 s0 h_9) gX4_measure_X5_put_n49 mX5_put nst_X4_X5_put sw1_X4_measure_X5_put sw2_X4_measure_X5_put [4] [0, 1, 2, 3] rfl rfl (by decide) rfl rfl (Nat.le_of_ble_eq_true rfl) ⟨Nat.le_of_ble_eq_true rfl, Nat.le_of_ble_eq_true rfl⟩ ⟨rfl, rfl⟩ ⟨Nat.le_of_ble_eq_true rfl, Nat.le_of_ble_eq_true rfl⟩ (z_plain (ws' := wX4 aI q_t q_t_bytes q_t_lengths q_t_widths q_t_ofNumbers t_bytes t_lengths t_columns t_rows t_widths o_8 t_laidWidth) (st' := []) [0, 1, 2, 3, 4] rfl (by decide) rfl ?_)
  refine z_aload_n 0 F (dX4_measure_1 9 rfl) rfl ?_
  refine z_dup F (dX4_measure_1 10 rfl) rfl ?_
  refine z_get (v := .int (zI t_laidWidth)) 0 F (dX4_measure_1 11 rfl) fl_X4_measure_125 rfl rfl ?_
  refine z_iload_n 2 F (dX4_measure_1 12 rfl) rfl ?_
  refine z_iadd F (dX4_measure_1 13 rfl) ?_
  refine z_put (ws' := wX4 aI q_t q_t_bytes q_t_lengths q_t_widths q_t_ofNumbers t_bytes t_lengths t_columns t_rows t_widths o_8 (t_laidWidth + v2)) 0 F (dX4_measure_1 14 rfl) fl_X4_measure_125 tyX4_ok nmX4 rfl rfl rfl rfl rfl (Nat.le_of_ble_eq_true rfl) rfl ?_
  refine z_iinc (lv' := [(1, .int (zI (v1 + 1))), (0, .ref q_t), (2, .int (zI v2))]) 1 F (dX4_measure_1 15 rfl) rfl (by decide) rfl ?_
  refine z_goto (tgt := 14) F (dX4_measure_1 16 rfl) rfl ?_
  refine z_lv [1, 0] rfl ?_
  exact hrec (v1 + 1) t_widths o_8 (t_laidWidth + v2) hf
set_option maxRecDepth 20000 in
set_option maxHeartbeats 2000000 in
theorem b_X4_measure_l14 {X : zX} {D : va_G} {aI aZ : ClassId} {w0 : va_W} {Qp : Option Value → va_W → Prop} (F : zF X D aI aZ cX4_measure 4 RX4 wsX4_measure rmX4_measure) (E : zT X D w0 Qp 0 0 none) (q_t q_t_bytes q_t_lengths q_t_widths q_t_ofNumbers : Nat) (t_bytes : (Nat → Int)) (t_lengths : (Nat → Int)) (t_columns : Int) (t_rows : Int) {R : (Nat → Int) × (Nat → Int) × Int} (hQ : Qp none (wX4 aI q_t q_t_bytes q_t_lengths q_t_widths q_t_ofNumbers t_bytes t_lengths t_columns t_rows R.1 R.2.1 R.2.2)) (K : (Nat → Int) → (Nat → Int) → Int → Option ((Nat → Int) × (Nat → Int) × Int)) (hK : ∀ (t_widths : (Nat → Int)) (t_ofNumbers : (Nat → Int)) (t_laidWidth : Int), K t_widths t_ofNumbers t_laidWidth = some R → zG X D 0 0 (wX4 aI q_t q_t_bytes q_t_lengths q_t_widths q_t_ofNumbers t_bytes t_lengths t_columns t_rows t_widths t_ofNumbers t_laidWidth) 99 [] []) : ∀ (n : Nat) (v1 : Int) (t_widths : (Nat → Int)) (t_ofNumbers : (Nat → Int)) (t_laidWidth : Int), f_X4_measure_l14 K t_bytes t_lengths t_columns t_rows n v1 t_widths t_ofNumbers t_laidWidth = some R → zG X D 0 0 (wX4 aI q_t q_t_bytes q_t_lengths q_t_widths q_t_ofNumbers t_bytes t_lengths t_columns t_rows t_widths t_ofNumbers t_laidWidth) 14 [(0, .ref q_t), (1, .int (zI v1))] [] := by
  intro n
  induction n with
  | zero => intro v1 t_widths t_ofNumbers t_laidWidth hf; rw [f_X4_measure_l14_z] at hf; cases hf
  | succ n ih =>
    intro v1 t_widths t_ofNumbers t_laidWidth hf
    rw [f_X4_measure_l14_s] at hf
    refine z_iload_n 1 F (dX4_measure_0 10 rfl) rfl ?_
    refine z_aload_n 0 F (dX4_measure_0 11 rfl) rfl ?_
    refine z_get (v := .int (zI t_columns)) 0 F (dX4_measure_0 12 rfl) fl_X4_measure_24 rfl rfl ?_
    refine z_icmp_ge (tgt := 99) F (dX4_measure_0 13 rfl) rfl (fun c19 => ?_) (fun c19 => ?_)
    · replace hf := zif_f c19 hf
      refine z_lv [] rfl ?_
      exact hK t_widths t_ofNumbers t_laidWidth hf
    · replace hf := zif_t c19 hf
      refine z_iconst F (dX4_measure_0 14 rfl) ?_
      refine z_istore_n (lv' := [(2, .int (zI 1)), (0, .ref q_t), (1, .int (zI v1))]) F (dX4_measure_0 15 rfl) (by decide) rfl ?_
      refine z_iconst F (dX4_measure_0 16 rfl) ?_
      refine z_istore_n (lv' := [(3, .int (zI 0)), (2, .int (zI 1)), (0, .ref q_t), (1, .int (zI v1))]) F (dX4_measure_0 17 rfl) (by decide) rfl ?_
      refine z_lv [2, 3, 1, 0] rfl ?_
      refine b_X4_measure_l26 F E q_t q_t_bytes q_t_lengths q_t_widths q_t_ofNumbers v1 t_bytes t_lengths t_columns t_rows t_widths t_ofNumbers t_laidWidth hQ _ ?_ zN 1 0 hf
      intro v2_3 hf
      refine z_aload_n 0 F (dX4_measure_0 33 rfl) rfl ?_
      refine z_get (v := .ref q_t_widths) 0 F (dX4_measure_0 34 rfl) fl_X4_measure_18 rfl rfl ?_
      refine z_iload_n 1 F (dX4_measure_0 35 rfl) rfl ?_
      refine z_iload_n 2 F (dX4_measure_0 36 rfl) rfl ?_
      obtain ⟨o_4, h_5, hf⟩ := zb_some hf
      refine z_callN (As := [.ref q_t_widths, .int (zI v1), .int (zI v2_3)]) (rest := []) (wr := [(q_t, .inr (4, [.ref q_t_bytes, .ref q_t_lengths, .int (zI t_columns), .int (zI t_rows), .ref q_t_widths, .ref q_t_ofNumbers, .int (zI t_laidWidth)]))] ++ ([(q_t_bytes, .inl (aI, 20160, .inl (fun j => zI (t_bytes j))))] ++ ([(q_t_lengths, .inl (aI, 336, .inl (fun j => zI (t_lengths j))))] ++ [(q_t_ofNumbers, .inl (aI, 8, .inl (fun j => zI (t_ofNumbers j))))]))) F (dX4_measure_0 37 rfl) (k_X5_put (zL X) D aI aZ q_t_widths 8 (by decide) t_widths v1 v2_3 h_5) gX4_measure_X5_put_n49 mX5_put nst_X4_X5_put sw1_X4_measure_X5_put sw2_X4_measure_X5_put [3] [0, 1, 2, 4] rfl rfl (by decide) rfl rfl (Nat.le_of_ble_eq_true rfl) ⟨Nat.le_of_ble_eq_true rfl, Nat.le_of_ble_eq_true rfl⟩ ⟨rfl, rfl⟩ ⟨Nat.le_of_ble_eq_true rfl, Nat.le_of_ble_eq_true rfl⟩ (z_plain (ws' := wX4 aI q_t q_t_bytes q_t_lengths q_t_widths q_t_ofNumbers t_bytes t_lengths t_columns t_rows o_4 t_ofNumbers t_laidWidth) (st' := []) [0, 1, 2, 4, 3] rfl (by decide) rfl ?_)
      refine z_aload_n 0 F (dX4_measure_0 38 rfl) rfl ?_
      refine z_get (v := .ref q_t_ofNumbers) 0 F (dX4_measure_0 39 rfl) fl_X4_measure_21 rfl rfl ?_
      refine z_iload_n 1 F (dX4_measure_1 0 rfl) rfl ?_
      refine z_aload_n 0 F (dX4_measure_1 1 rfl) rfl ?_
      refine z_iload_n 1 F (dX4_measure_1 2 rfl) rfl ?_
      obtain ⟨o_6, h_7, hf⟩ := zb_some hf
      refine z_callV (As := [.int (zI v1)]) (rest := [.int (zI v1), .ref q_t_ofNumbers]) (wr := []) F (dX4_measure_1 3 rfl) (k_X4_isOfNumbers (zL X) D aI aZ q_t q_t_bytes q_t_lengths q_t_widths q_t_ofNumbers t_bytes t_lengths t_columns t_rows o_4 t_ofNumbers t_laidWidth v1 h_7) gX4_measure_X4_isOfNumbers mX4_isOfNumbers rfl (ci := 4) rfl [0, 1, 2, 3, 4] [] 0 rfl rfl rfl (by decide) rfl rfl (Nat.le_of_ble_eq_true rfl) ⟨Nat.le_of_ble_eq_true rfl, Nat.le_of_ble_eq_true rfl⟩ ⟨rfl, rfl⟩ ⟨Nat.le_of_ble_eq_true rfl, Nat.le_of_ble_eq_true rfl⟩ (z_plain (ws' := wX4 aI q_t q_t_bytes q_t_lengths q_t_widths q_t_ofNumbers t_bytes t_lengths t_columns t_rows o_4 t_ofNumbers t_laidWidth) (st' := [.int (zI o_6), .int (zI v1), .ref q_t_ofNumbers]) [0, 1, 2, 3, 4] rfl (by decide) rfl ?_)
      refine z_if_eq (tgt := 79) F (dX4_measure_1 4 rfl) rfl (fun c72 => ?_) (fun c72 => ?_)
      · replace hf := zif_t c72 hf
        refine z_iconst F (dX4_measure_1 7 rfl) ?_
        exact b_X4_measure_j80 F E q_t q_t_bytes q_t_lengths q_t_widths q_t_ofNumbers 0 v1 v1 v2_3 t_bytes t_lengths t_columns t_rows o_4 t_ofNumbers t_laidWidth hQ _ ih hf
      · replace hf := zif_f c72 hf
        refine z_iconst F (dX4_measure_1 5 rfl) ?_
        refine z_goto (tgt := 80) F (dX4_measure_1 6 rfl) rfl ?_
        exact b_X4_measure_j80 F E q_t q_t_bytes q_t_lengths q_t_widths q_t_ofNumbers 1 v1 v1 v2_3 t_bytes t_lengths t_columns t_rows o_4 t_ofNumbers t_laidWidth hQ _ ih hf
set_option maxRecDepth 20000 in
set_option maxHeartbeats 2000000 in
theorem b_X4_measure_0 {X : zX} {D : va_G} {aI aZ : ClassId} {w0 : va_W} {Qp : Option Value → va_W → Prop} (F : zF X D aI aZ cX4_measure 4 RX4 wsX4_measure rmX4_measure) (E : zT X D w0 Qp 0 0 none) (q_t q_t_bytes q_t_lengths q_t_widths q_t_ofNumbers : Nat) (t_bytes : (Nat → Int)) (t_lengths : (Nat → Int)) (t_columns : Int) (t_rows : Int) (t_widths : (Nat → Int)) (t_ofNumbers : (Nat → Int)) (t_laidWidth : Int) {R : (Nat → Int) × (Nat → Int) × Int} (hQ : Qp none (wX4 aI q_t q_t_bytes q_t_lengths q_t_widths q_t_ofNumbers t_bytes t_lengths t_columns t_rows R.1 R.2.1 R.2.2)) (hf : f_X4_measure t_bytes t_lengths t_columns t_rows t_widths t_ofNumbers = some R) : zG X D 0 0 (wX4 aI q_t q_t_bytes q_t_lengths q_t_widths q_t_ofNumbers t_bytes t_lengths t_columns t_rows t_widths t_ofNumbers t_laidWidth) 0 [(0, .ref q_t)] [] := by
  unfold f_X4_measure at hf
  refine z_aload_n 0 F (dX4_measure_0 0 rfl) rfl ?_
  refine z_iconst F (dX4_measure_0 1 rfl) ?_
  refine z_aload_n 0 F (dX4_measure_0 2 rfl) rfl ?_
  refine z_get (v := .int (zI t_columns)) 0 F (dX4_measure_0 3 rfl) fl_X4_measure_24 rfl rfl ?_
  refine z_iconst F (dX4_measure_0 4 rfl) ?_
  refine z_isub F (dX4_measure_0 5 rfl) ?_
  refine z_imul F (dX4_measure_0 6 rfl) ?_
  refine z_put (ws' := wX4 aI q_t q_t_bytes q_t_lengths q_t_widths q_t_ofNumbers t_bytes t_lengths t_columns t_rows t_widths t_ofNumbers (2 * (t_columns - 1))) 0 F (dX4_measure_0 7 rfl) fl_X4_measure_125 tyX4_ok nmX4 rfl rfl rfl rfl rfl (Nat.le_of_ble_eq_true rfl) rfl ?_
  refine z_iconst F (dX4_measure_0 8 rfl) ?_
  refine z_istore_n (lv' := [(1, .int (zI 0)), (0, .ref q_t)]) F (dX4_measure_0 9 rfl) (by decide) rfl ?_
  refine z_lv [1, 0] rfl ?_
  refine b_X4_measure_l14 F E q_t q_t_bytes q_t_lengths q_t_widths q_t_ofNumbers t_bytes t_lengths t_columns t_rows hQ _ ?_ zN 0 t_widths t_ofNumbers (2 * (t_columns - 1)) hf
  intro t_widths_10 t_ofNumbers_11 t_laidWidth_12 hf
  cases hf
  exact z_vret [0, 1, 2, 3, 4] F E (dX4_measure_1 17 rfl) rfl (by decide) hQ
set_option maxRecDepth 20000 in
set_option maxHeartbeats 2000000 in
theorem k_X4_measure (l : Launch) (D : va_G) (aI aZ : ClassId) (q_t q_t_bytes q_t_lengths q_t_widths q_t_ofNumbers : Nat) (t_bytes : (Nat → Int)) (t_lengths : (Nat → Int)) (t_columns : Int) (t_rows : Int) (t_widths : (Nat → Int)) (t_ofNumbers : (Nat → Int)) (t_laidWidth : Int) {R : (Nat → Int) × (Nat → Int) × Int} (hf : f_X4_measure t_bytes t_lengths t_columns t_rows t_widths t_ofNumbers = some R) : zC l D aI aZ yX4_measure wsX4_measure rmX4_measure [.ref q_t] (wX4 aI q_t q_t_bytes q_t_lengths q_t_widths q_t_ofNumbers t_bytes t_lengths t_columns t_rows t_widths t_ofNumbers t_laidWidth) (fun r w => r = none ∧ w = wX4 aI q_t q_t_bytes q_t_lengths q_t_widths q_t_ofNumbers t_bytes t_lengths t_columns t_rows R.1 R.2.1 R.2.2) 0 0 := by
  refine z_met (cc := cX4_measure) (maxL := 4) (ret := none) (by decide +kernel) rfl (Nat.le_of_ble_eq_true rfl) (fun X hX F E => ?_)
  exact b_X4_measure_0 F E q_t q_t_bytes q_t_lengths q_t_widths q_t_ofNumbers t_bytes t_lengths t_columns t_rows t_widths t_ofNumbers t_laidWidth ⟨rfl, rfl⟩ hf
theorem inw_X4_layRow_4 : ∀ w ∈ u_ws RX4 TX4 7, w ∈ wsX4_layRow := by decide +kernel
theorem fl_X4_layRow_125 : zfl wsX4_layRow RX4 125 4 6 RX4 TX4 7 := ⟨inw_X4_layRow_4, rfl, by decide, by decide +kernel⟩
theorem fl_X4_layRow_24 : zfl wsX4_layRow RX4 24 4 2 RX4 TX4 7 := ⟨inw_X4_layRow_4, rfl, by decide, by decide +kernel⟩
theorem fl_X4_layRow_18 : zfl wsX4_layRow RX4 18 4 4 RX4 TX4 7 := ⟨inw_X4_layRow_4, rfl, by decide, by decide +kernel⟩
theorem sw1_X4_layRow_X5_pick : Cond.static yX5_pick ∈ wsX4_layRow := by decide +kernel
theorem sw2_X4_layRow_X5_pick : Cond.initialized yX5_pick.cls ∈ wsX4_layRow := by decide +kernel
theorem fl_X4_layRow_21 : zfl wsX4_layRow RX4 21 4 5 RX4 TX4 7 := ⟨inw_X4_layRow_4, rfl, by decide, by decide +kernel⟩
abbrev rmX4_layRow : Room := { frames := 3, cells := 0, slots := 0, locals := 69 }
theorem mX4_layRow : zY yX4_layRow cX4_layRow 10 none wsX4_layRow 2 := ⟨⟨_, rfl⟩, by decide +kernel, by decide +kernel, by decide +kernel⟩
set_option maxRecDepth 20000 in
set_option maxHeartbeats 2000000 in
theorem b_X4_layRow_l73 {X : zX} {D : va_G} {aI aZ : ClassId} {w0 : va_W} {Qp : Option Value → va_W → Prop} (F : zF X D aI aZ cX4_layRow 10 RX4 wsX4_layRow rmX4_layRow) (E : zT X D w0 Qp 0 0 none) (q_t q_t_bytes q_t_lengths q_t_widths q_t_ofNumbers q_p1 q_p1_bytes q_p1_lengths : Nat) (v2 : Int) (v3 : Int) (v4 : Int) (v5 : Int) (v6 : Int) (v7 : Int) (v8 : Int) (t_bytes : (Nat → Int)) (t_lengths : (Nat → Int)) (t_columns : Int) (t_rows : Int) (t_widths : (Nat → Int)) (t_ofNumbers : (Nat → Int)) (t_laidWidth : Int) (p1_lengths : (Nat → Int)) (p1_count : Int) {R : (Nat → Int) × (Nat → Int) × Int} (hQ : Qp none (wX4 aI q_t q_t_bytes q_t_lengths q_t_widths q_t_ofNumbers t_bytes t_lengths t_columns t_rows t_widths t_ofNumbers t_laidWidth ++ wX2 aI q_p1 q_p1_bytes q_p1_lengths R.1 R.2.1 R.2.2)) (K : (Nat → Int) → Option ((Nat → Int) × (Nat → Int) × Int)) (hK : ∀ (p1_bytes : (Nat → Int)), K p1_bytes = some R → zG X D 0 0 (wX4 aI q_t q_t_bytes q_t_lengths q_t_widths q_t_ofNumbers t_bytes t_lengths t_columns t_rows t_widths t_ofNumbers t_laidWidth ++ wX2 aI q_p1 q_p1_bytes q_p1_lengths p1_bytes p1_lengths p1_count) 108 [(0, .ref q_t), (1, .ref q_p1), (2, .int (zI v2)), (3, .int (zI v3)), (4, .int (zI v4)), (5, .int (zI v5)), (7, .int (zI v7))] []) : ∀ (n : Nat) (v9 : Int) (p1_bytes : (Nat → Int)), f_X4_layRow_l73 K v2 v3 v4 v5 v6 v8 t_bytes t_lengths t_rows p1_lengths n v9 p1_bytes = some R → zG X D 0 0 (wX4 aI q_t q_t_bytes q_t_lengths q_t_widths q_t_ofNumbers t_bytes t_lengths t_columns t_rows t_widths t_ofNumbers t_laidWidth ++ wX2 aI q_p1 q_p1_bytes q_p1_lengths p1_bytes p1_lengths p1_count) 73 [(0, .ref q_t), (1, .ref q_p1), (2, .int (zI v2)), (3, .int (zI v3)), (4, .int (zI v4)), (5, .int (zI v5)), (6, .int (zI v6)), (7, .int (zI v7)), (8, .int (zI v8)), (9, .int (zI v9))] [] := by
  intro n
  induction n with
  | zero => intro v9 p1_bytes hf; rw [f_X4_layRow_l73_z] at hf; cases hf
  | succ n ih =>
    intro v9 p1_bytes hf
    rw [f_X4_layRow_l73_s] at hf
    refine z_iload 9 F (dX4_layRow_0 38 rfl) rfl ?_
    refine z_iload 6 F (dX4_layRow_0 39 rfl) rfl ?_
    refine z_icmp_ge (tgt := 108) F (dX4_layRow_1 0 rfl) rfl (fun c77 => ?_) (fun c77 => ?_)
    · replace hf := zif_f c77 hf
      refine z_lv [0, 1, 2, 3, 4, 5, 7] rfl ?_
      exact hK p1_bytes hf
    · replace hf := zif_t c77 hf
      refine z_aload_n 1 F (dX4_layRow_1 1 rfl) rfl ?_
      refine z_iload_n 3 F (dX4_layRow_1 2 rfl) rfl ?_
      refine z_iload 4 F (dX4_layRow_1 3 rfl) rfl ?_
      refine z_iload 8 F (dX4_layRow_1 4 rfl) rfl ?_
      refine z_iadd F (dX4_layRow_1 5 rfl) ?_
      refine z_iload 9 F (dX4_layRow_1 6 rfl) rfl ?_
      refine z_iadd F (dX4_layRow_1 7 rfl) ?_
      refine z_aload_n 0 F (dX4_layRow_1 8 rfl) rfl ?_
      refine z_iload_n 2 F (dX4_layRow_1 9 rfl) rfl ?_
      refine z_iload 5 F (dX4_layRow_1 10 rfl) rfl ?_
      refine z_iload 9 F (dX4_layRow_1 11 rfl) rfl ?_
      obtain ⟨o_9, h_10, hf⟩ := zb_some hf
      refine z_callV (As := [.int (zI v2), .int (zI v5), .int (zI v9)]) (rest := [.int (zI ((v4 + v8) + v9)), .int (zI v3), .ref q_p1]) (wr := wX2 aI q_p1 q_p1_bytes q_p1_lengths p1_bytes p1_lengths p1_count) F (dX4_layRow_1 12 rfl) (k_X4_byteOf (zL X) D aI aZ q_t q_t_bytes q_t_lengths q_t_widths q_t_ofNumbers t_bytes t_lengths t_columns t_rows t_widths t_ofNumbers t_laidWidth v2 v5 v9 h_10) gX4_layRow_X4_byteOf mX4_byteOf rfl (ci := 4) rfl [0, 1, 2, 3, 4] [5, 6, 7] 0 rfl rfl rfl (by decide) rfl rfl (Nat.le_of_ble_eq_true rfl) ⟨Nat.le_of_ble_eq_true rfl, Nat.le_of_ble_eq_true rfl⟩ ⟨rfl, rfl⟩ ⟨Nat.le_of_ble_eq_true rfl, Nat.le_of_ble_eq_true rfl⟩ (z_plain (ws' := wX4 aI q_t q_t_bytes q_t_lengths q_t_widths q_t_ofNumbers t_bytes t_lengths t_columns t_rows t_widths t_ofNumbers t_laidWidth ++ wX2 aI q_p1 q_p1_bytes q_p1_lengths p1_bytes p1_lengths p1_count) (st' := [.int (zI o_9), .int (zI ((v4 + v8) + v9)), .int (zI v3), .ref q_p1]) [3, 4, 5, 6, 7, 0, 1, 2] rfl (by decide) rfl ?_)
      obtain ⟨o_11, h_12, hf⟩ := zb_some hf
      refine z_callV (As := [.int (zI v3), .int (zI ((v4 + v8) + v9)), .int (zI o_9)]) (rest := []) (wr := wX4 aI q_t q_t_bytes q_t_lengths q_t_widths q_t_ofNumbers t_bytes t_lengths t_columns t_rows t_widths t_ofNumbers t_laidWidth) F (dX4_layRow_1 13 rfl) (k_X2_putByte (zL X) D aI aZ q_p1 q_p1_bytes q_p1_lengths p1_bytes p1_lengths p1_count v3 ((v4 + v8) + v9) o_9 h_12) gX4_layRow_X2_putByte mX2_putByte rfl (ci := 2) rfl [5, 6, 7] [0, 1, 2, 3, 4] 0 rfl rfl rfl (by decide) rfl rfl (Nat.le_of_ble_eq_true rfl) ⟨Nat.le_of_ble_eq_true rfl, Nat.le_of_ble_eq_true rfl⟩ ⟨rfl, rfl⟩ ⟨Nat.le_of_ble_eq_true rfl, Nat.le_of_ble_eq_true rfl⟩ (z_plain (ws' := wX4 aI q_t q_t_bytes q_t_lengths q_t_widths q_t_ofNumbers t_bytes t_lengths t_columns t_rows t_widths t_ofNumbers t_laidWidth ++ wX2 aI q_p1 q_p1_bytes q_p1_lengths o_11 p1_lengths p1_count) (st' := []) [0, 1, 2, 3, 4, 5, 6, 7] rfl (by decide) rfl ?_)
      refine z_iinc (lv' := [(9, .int (zI (v9 + 1))), (0, .ref q_t), (1, .ref q_p1), (2, .int (zI v2)), (3, .int (zI v3)), (4, .int (zI v4)), (5, .int (zI v5)), (6, .int (zI v6)), (7, .int (zI v7)), (8, .int (zI v8))]) 9 F (dX4_layRow_1 14 rfl) rfl (by decide) rfl ?_
      refine z_goto (tgt := 73) F (dX4_layRow_1 15 rfl) rfl ?_
      refine z_lv [1, 2, 3, 4, 5, 6, 7, 8, 9, 0] rfl ?_
      exact ih (v9 + 1) o_11 hf
set_option maxRecDepth 20000 in
set_option maxHeartbeats 2000000 in
theorem b_X4_layRow_j68 {X : zX} {D : va_G} {aI aZ : ClassId} {w0 : va_W} {Qp : Option Value → va_W → Prop} (F : zF X D aI aZ cX4_layRow 10 RX4 wsX4_layRow rmX4_layRow) (E : zT X D w0 Qp 0 0 none) (q_t q_t_bytes q_t_lengths q_t_widths q_t_ofNumbers q_p1 q_p1_bytes q_p1_lengths : Nat) (s0 : Int) (v2 : Int) (v3 : Int) (v4 : Int) (v5 : Int) (v6 : Int) (v7 : Int) (t_bytes : (Nat → Int)) (t_lengths : (Nat → Int)) (t_columns : Int) (t_rows : Int) (t_widths : (Nat → Int)) (t_ofNumbers : (Nat → Int)) (t_laidWidth : Int) (p1_bytes : (Nat → Int)) (p1_lengths : (Nat → Int)) (p1_count : Int) {R : (Nat → Int) × (Nat → Int) × Int} (hQ : Qp none (wX4 aI q_t q_t_bytes q_t_lengths q_t_widths q_t_ofNumbers t_bytes t_lengths t_columns t_rows t_widths t_ofNumbers t_laidWidth ++ wX2 aI q_p1 q_p1_bytes q_p1_lengths R.1 R.2.1 R.2.2)) (rec : Int → Int → (Nat → Int) → Option ((Nat → Int) × (Nat → Int) × Int)) (hrec : ∀ (v4 : Int) (v5 : Int) (p1_bytes : (Nat → Int)), rec v4 v5 p1_bytes = some R → zG X D 0 0 (wX4 aI q_t q_t_bytes q_t_lengths q_t_widths q_t_ofNumbers t_bytes t_lengths t_columns t_rows t_widths t_ofNumbers t_laidWidth ++ wX2 aI q_p1 q_p1_bytes q_p1_lengths p1_bytes p1_lengths p1_count) 17 [(0, .ref q_t), (1, .ref q_p1), (2, .int (zI v2)), (3, .int (zI v3)), (4, .int (zI v4)), (5, .int (zI v5))] []) (hf : f_X4_layRow_j68 rec s0 v2 v3 v4 v5 v6 v7 t_bytes t_lengths t_rows p1_bytes p1_lengths = some R) : zG X D 0 0 (wX4 aI q_t q_t_bytes q_t_lengths q_t_widths q_t_ofNumbers t_bytes t_lengths t_columns t_rows t_widths t_ofNumbers t_laidWidth ++ wX2 aI q_p1 q_p1_bytes q_p1_lengths p1_bytes p1_lengths p1_count) 68 [(0, .ref q_t), (1, .ref q_p1), (2, .int (zI v2)), (3, .int (zI v3)), (4, .int (zI v4)), (5, .int (zI v5)), (6, .int (zI v6)), (7, .int (zI v7))] [.int (zI s0)] := by
  unfold f_X4_layRow_j68 at hf
  refine z_istore (lv' := [(8, .int (zI s0)), (0, .ref q_t), (1, .ref q_p1), (2, .int (zI v2)), (3, .int (zI v3)), (4, .int (zI v4)), (5, .int (zI v5)), (6, .int (zI v6)), (7, .int (zI v7))]) F (dX4_layRow_0 35 rfl) (by decide) rfl ?_
  refine z_iconst F (dX4_layRow_0 36 rfl) ?_
  refine z_istore (lv' := [(9, .int (zI 0)), (8, .int (zI s0)), (0, .ref q_t), (1, .ref q_p1), (2, .int (zI v2)), (3, .int (zI v3)), (4, .int (zI v4)), (5, .int (zI v5)), (6, .int (zI v6)), (7, .int (zI v7))]) F (dX4_layRow_0 37 rfl) (by decide) rfl ?_
  refine z_lv [2, 3, 4, 5, 6, 7, 8, 9, 1, 0] rfl ?_
  refine b_X4_layRow_l73 F E q_t q_t_bytes q_t_lengths q_t_widths q_t_ofNumbers q_p1 q_p1_bytes q_p1_lengths v2 v3 v4 v5 v6 v7 s0 t_bytes t_lengths t_columns t_rows t_widths t_ofNumbers t_laidWidth p1_lengths p1_count hQ _ ?_ zN 0 p1_bytes hf
  intro p1_bytes_13 hf
  refine z_iload 4 F (dX4_layRow_1 16 rfl) rfl ?_
  refine z_iload 6 F (dX4_layRow_1 17 rfl) rfl ?_
  refine z_iconst F (dX4_layRow_1 18 rfl) ?_
  refine z_iadd F (dX4_layRow_1 19 rfl) ?_
  refine z_iadd F (dX4_layRow_1 20 rfl) ?_
  refine z_istore (lv' := [(4, .int (zI (v4 + (v7 + 2)))), (0, .ref q_t), (1, .ref q_p1), (2, .int (zI v2)), (3, .int (zI v3)), (5, .int (zI v5)), (7, .int (zI v7))]) F (dX4_layRow_1 21 rfl) (by decide) rfl ?_
  refine z_iinc (lv' := [(5, .int (zI (v5 + 1))), (4, .int (zI (v4 + (v7 + 2)))), (0, .ref q_t), (1, .ref q_p1), (2, .int (zI v2)), (3, .int (zI v3)), (7, .int (zI v7))]) 5 F (dX4_layRow_1 22 rfl) rfl (by decide) rfl ?_
  refine z_goto (tgt := 17) F (dX4_layRow_1 23 rfl) rfl ?_
  refine z_lv [2, 3, 4, 5, 1, 0] rfl ?_
  exact hrec (v4 + (v7 + 2)) (v5 + 1) p1_bytes_13 hf
set_option maxRecDepth 20000 in
set_option maxHeartbeats 2000000 in
theorem b_X4_layRow_l17 {X : zX} {D : va_G} {aI aZ : ClassId} {w0 : va_W} {Qp : Option Value → va_W → Prop} (F : zF X D aI aZ cX4_layRow 10 RX4 wsX4_layRow rmX4_layRow) (E : zT X D w0 Qp 0 0 none) (q_t q_t_bytes q_t_lengths q_t_widths q_t_ofNumbers q_p1 q_p1_bytes q_p1_lengths : Nat) (v2 : Int) (v3 : Int) (t_bytes : (Nat → Int)) (t_lengths : (Nat → Int)) (t_columns : Int) (t_rows : Int) (t_widths : (Nat → Int)) (t_ofNumbers : (Nat → Int)) (t_laidWidth : Int) (p1_lengths : (Nat → Int)) (p1_count : Int) {R : (Nat → Int) × (Nat → Int) × Int} (hQ : Qp none (wX4 aI q_t q_t_bytes q_t_lengths q_t_widths q_t_ofNumbers t_bytes t_lengths t_columns t_rows t_widths t_ofNumbers t_laidWidth ++ wX2 aI q_p1 q_p1_bytes q_p1_lengths R.1 R.2.1 R.2.2)) (K : (Nat → Int) → Option ((Nat → Int) × (Nat → Int) × Int)) (hK : ∀ (p1_bytes : (Nat → Int)), K p1_bytes = some R → zG X D 0 0 (wX4 aI q_t q_t_bytes q_t_lengths q_t_widths q_t_ofNumbers t_bytes t_lengths t_columns t_rows t_widths t_ofNumbers t_laidWidth ++ wX2 aI q_p1 q_p1_bytes q_p1_lengths p1_bytes p1_lengths p1_count) 123 [] []) : ∀ (n : Nat) (v4 : Int) (v5 : Int) (p1_bytes : (Nat → Int)), f_X4_layRow_l17 K v2 v3 t_bytes t_lengths t_columns t_rows t_widths t_ofNumbers p1_lengths n v4 v5 p1_bytes = some R → zG X D 0 0 (wX4 aI q_t q_t_bytes q_t_lengths q_t_widths q_t_ofNumbers t_bytes t_lengths t_columns t_rows t_widths t_ofNumbers t_laidWidth ++ wX2 aI q_p1 q_p1_bytes q_p1_lengths p1_bytes p1_lengths p1_count) 17 [(0, .ref q_t), (1, .ref q_p1), (2, .int (zI v2)), (3, .int (zI v3)), (4, .int (zI v4)), (5, .int (zI v5))] [] := by
  intro n
  induction n with
  | zero => intro v4 v5 p1_bytes hf; rw [f_X4_layRow_l17_z] at hf; cases hf
  | succ n ih =>
    intro v4 v5 p1_bytes hf
    rw [f_X4_layRow_l17_s] at hf
    refine z_iload 5 F (dX4_layRow_0 10 rfl) rfl ?_
    refine z_aload_n 0 F (dX4_layRow_0 11 rfl) rfl ?_
    refine z_get (v := .int (zI t_columns)) 0 F (dX4_layRow_0 12 rfl) fl_X4_layRow_24 rfl rfl ?_
    refine z_icmp_ge (tgt := 123) F (dX4_layRow_0 13 rfl) rfl (fun c23 => ?_) (fun c23 => ?_)
    · replace hf := zif_f c23 hf
      refine z_lv [] rfl ?_
      exact hK p1_bytes hf
    · replace hf := zif_t c23 hf
      refine z_aload_n 0 F (dX4_layRow_0 14 rfl) rfl ?_
      refine z_iload_n 2 F (dX4_layRow_0 15 rfl) rfl ?_
      refine z_iload 5 F (dX4_layRow_0 16 rfl) rfl ?_
      obtain ⟨o_3, h_4, hf⟩ := zb_some hf
      refine z_callV (As := [.int (zI v2), .int (zI v5)]) (rest := []) (wr := wX2 aI q_p1 q_p1_bytes q_p1_lengths p1_bytes p1_lengths p1_count) F (dX4_layRow_0 17 rfl) (k_X4_lengthOf (zL X) D aI aZ q_t q_t_bytes q_t_lengths q_t_widths q_t_ofNumbers t_bytes t_lengths t_columns t_rows t_widths t_ofNumbers t_laidWidth v2 v5 h_4) gX4_layRow_X4_lengthOf mX4_lengthOf rfl (ci := 4) rfl [0, 1, 2, 3, 4] [5, 6, 7] 0 rfl rfl rfl (by decide) rfl rfl (Nat.le_of_ble_eq_true rfl) ⟨Nat.le_of_ble_eq_true rfl, Nat.le_of_ble_eq_true rfl⟩ ⟨rfl, rfl⟩ ⟨Nat.le_of_ble_eq_true rfl, Nat.le_of_ble_eq_true rfl⟩ (z_plain (ws' := wX4 aI q_t q_t_bytes q_t_lengths q_t_widths q_t_ofNumbers t_bytes t_lengths t_columns t_rows t_widths t_ofNumbers t_laidWidth ++ wX2 aI q_p1 q_p1_bytes q_p1_lengths p1_bytes p1_lengths p1_count) (st' := [.int (zI o_3)]) [3, 4, 5, 6, 7, 0, 1, 2] rfl (by decide) rfl ?_)
      refine z_istore (lv' := [(6, .int (zI o_3)), (0, .ref q_t), (1, .ref q_p1), (2, .int (zI v2)), (3, .int (zI v3)), (4, .int (zI v4)), (5, .int (zI v5))]) F (dX4_layRow_0 18 rfl) (by decide) rfl ?_
      refine z_aload_n 1 F (dX4_layRow_0 19 rfl) rfl ?_
      refine z_get (v := .ref q_t_widths) 0 F (dX4_layRow_0 20 rfl) fl_X4_layRow_18 rfl rfl ?_
      refine z_iload 6 F (dX4_layRow_0 21 rfl) rfl ?_
      obtain ⟨o_5, h_6, hf⟩ := zb_some hf
      refine z_callN (As := [.ref q_t_widths, .int (zI v5)]) (rest := []) (wr := [(q_t, .inr (4, [.ref q_t_bytes, .ref q_t_lengths, .int (zI t_columns), .int (zI t_rows), .ref q_t_widths, .ref q_t_ofNumbers, .int (zI t_laidWidth)]))] ++ ([(q_t_bytes, .inl (aI, 20160, .inl (fun j => zI (t_bytes j))))] ++ ([(q_t_lengths, .inl (aI, 336, .inl (fun j => zI (t_lengths j))))] ++ ([(q_t_ofNumbers, .inl (aI, 8, .inl (fun j => zI (t_ofNumbers j))))] ++ wX2 aI q_p1 q_p1_bytes q_p1_lengths p1_bytes p1_lengths p1_count)))) F (dX4_layRow_0 22 rfl) (k_X5_pick (zL X) D aI aZ q_t_widths 8 (by decide) t_widths v5 h_6) gX4_layRow_X5_pick_n35 mX5_pick nst_X4_X5_pick sw1_X4_layRow_X5_pick sw2_X4_layRow_X5_pick [3] [0, 1, 2, 4, 5, 6, 7] rfl rfl (by decide) rfl rfl (Nat.le_of_ble_eq_true rfl) ⟨Nat.le_of_ble_eq_true rfl, Nat.le_of_ble_eq_true rfl⟩ ⟨rfl, rfl⟩ ⟨Nat.le_of_ble_eq_true rfl, Nat.le_of_ble_eq_true rfl⟩ (z_plain (ws' := wX4 aI q_t q_t_bytes q_t_lengths q_t_widths q_t_ofNumbers t_bytes t_lengths t_columns t_rows t_widths t_ofNumbers t_laidWidth ++ wX2 aI q_p1 q_p1_bytes q_p1_lengths p1_bytes p1_lengths p1_count) (st' := [.int (zI o_5)]) [0, 1, 2, 7, 3, 4, 5, 6] rfl (by decide) rfl ?_)
      refine z_istore (lv' := [(7, .int (zI o_5)), (6, .int (zI o_3)), (0, .ref q_t), (1, .ref q_p1), (2, .int (zI v2)), (3, .int (zI v3)), (4, .int (zI v4)), (5, .int (zI v5))]) F (dX4_layRow_0 23 rfl) (by decide) rfl ?_
      refine z_aload_n 2 F (dX4_layRow_0 24 rfl) rfl ?_
      refine z_get (v := .ref q_t_ofNumbers) 0 F (dX4_layRow_0 25 rfl) fl_X4_layRow_21 rfl rfl ?_
      refine z_iload 7 F (dX4_layRow_0 26 rfl) rfl ?_
      obtain ⟨o_7, h_8, hf⟩ := zb_some hf
      refine z_callN (As := [.ref q_t_ofNumbers, .int (zI v5)]) (rest := []) (wr := [(q_t, .inr (4, [.ref q_t_bytes, .ref q_t_lengths, .int (zI t_columns), .int (zI t_rows), .ref q_t_widths, .ref q_t_ofNumbers, .int (zI t_laidWidth)]))] ++ ([(q_t_bytes, .inl (aI, 20160, .inl (fun j => zI (t_bytes j))))] ++ ([(q_t_lengths, .inl (aI, 336, .inl (fun j => zI (t_lengths j))))] ++ ([(q_t_widths, .inl (aI, 8, .inl (fun j => zI (t_widths j))))] ++ wX2 aI q_p1 q_p1_bytes q_p1_lengths p1_bytes p1_lengths p1_count)))) F (dX4_layRow_0 27 rfl) (k_X5_pick (zL X) D aI aZ q_t_ofNumbers 8 (by decide) t_ofNumbers v5 h_8) gX4_layRow_X5_pick_n35 mX5_pick nst_X4_X5_pick sw1_X4_layRow_X5_pick sw2_X4_layRow_X5_pick [4] [0, 1, 2, 3, 5, 6, 7] rfl rfl (by decide) rfl rfl (Nat.le_of_ble_eq_true rfl) ⟨Nat.le_of_ble_eq_true rfl, Nat.le_of_ble_eq_true rfl⟩ ⟨rfl, rfl⟩ ⟨Nat.le_of_ble_eq_true rfl, Nat.le_of_ble_eq_true rfl⟩ (z_plain (ws' := wX4 aI q_t q_t_bytes q_t_lengths q_t_widths q_t_ofNumbers t_bytes t_lengths t_columns t_rows t_widths t_ofNumbers t_laidWidth ++ wX2 aI q_p1 q_p1_bytes q_p1_lengths p1_bytes p1_lengths p1_count) (st' := [.int (zI o_7)]) [0, 1, 2, 3, 7, 4, 5, 6] rfl (by decide) rfl ?_)
      refine z_iconst F (dX4_layRow_0 28 rfl) ?_
      refine z_icmp_ne (tgt := 67) F (dX4_layRow_0 29 rfl) rfl (fun c56 => ?_) (fun c56 => ?_)
      · replace hf := zif_f c56 hf
        refine z_iconst F (dX4_layRow_0 34 rfl) ?_
        refine z_lv [2, 3, 4, 5, 6, 7, 1, 0] rfl ?_
        exact b_X4_layRow_j68 F E q_t q_t_bytes q_t_lengths q_t_widths q_t_ofNumbers q_p1 q_p1_bytes q_p1_lengths 0 v2 v3 v4 v5 o_3 o_5 t_bytes t_lengths t_columns t_rows t_widths t_ofNumbers t_laidWidth p1_bytes p1_lengths p1_count hQ _ ih hf
      · replace hf := zif_t c56 hf
        refine z_iload 0 F (dX4_layRow_0 30 rfl) rfl ?_
        refine z_iload 1 F (dX4_layRow_0 31 rfl) rfl ?_
        refine z_isub F (dX4_layRow_0 32 rfl) ?_
        refine z_goto (tgt := 68) F (dX4_layRow_0 33 rfl) rfl ?_
        refine z_lv [2, 3, 4, 5, 6, 7, 1, 0] rfl ?_
        exact b_X4_layRow_j68 F E q_t q_t_bytes q_t_lengths q_t_widths q_t_ofNumbers q_p1 q_p1_bytes q_p1_lengths (o_5 - o_3) v2 v3 v4 v5 o_3 o_5 t_bytes t_lengths t_columns t_rows t_widths t_ofNumbers t_laidWidth p1_bytes p1_lengths p1_count hQ _ ih hf
set_option maxRecDepth 20000 in
set_option maxHeartbeats 2000000 in
theorem b_X4_layRow_0 {X : zX} {D : va_G} {aI aZ : ClassId} {w0 : va_W} {Qp : Option Value → va_W → Prop} (F : zF X D aI aZ cX4_layRow 10 RX4 wsX4_layRow rmX4_layRow) (E : zT X D w0 Qp 0 0 none) (q_t q_t_bytes q_t_lengths q_t_widths q_t_ofNumbers q_p1 q_p1_bytes q_p1_lengths : Nat) (t_bytes : (Nat → Int)) (t_lengths : (Nat → Int)) (t_columns : Int) (t_rows : Int) (t_widths : (Nat → Int)) (t_ofNumbers : (Nat → Int)) (t_laidWidth : Int) (p1_bytes : (Nat → Int)) (p1_lengths : (Nat → Int)) (p1_count : Int) (v2 : Int) {R : (Nat → Int) × (Nat → Int) × Int} (hQ : Qp none (wX4 aI q_t q_t_bytes q_t_lengths q_t_widths q_t_ofNumbers t_bytes t_lengths t_columns t_rows t_widths t_ofNumbers t_laidWidth ++ wX2 aI q_p1 q_p1_bytes q_p1_lengths R.1 R.2.1 R.2.2)) (hf : f_X4_layRow t_bytes t_lengths t_columns t_rows t_widths t_ofNumbers t_laidWidth p1_bytes p1_lengths p1_count v2 = some R) : zG X D 0 0 (wX4 aI q_t q_t_bytes q_t_lengths q_t_widths q_t_ofNumbers t_bytes t_lengths t_columns t_rows t_widths t_ofNumbers t_laidWidth ++ wX2 aI q_p1 q_p1_bytes q_p1_lengths p1_bytes p1_lengths p1_count) 0 [(0, .ref q_t), (1, .ref q_p1), (2, .int (zI v2))] [] := by
  unfold f_X4_layRow at hf
  refine z_aload_n 1 F (dX4_layRow_0 0 rfl) rfl ?_
  refine z_aload_n 0 F (dX4_layRow_0 1 rfl) rfl ?_
  refine z_get (v := .int (zI t_laidWidth)) 0 F (dX4_layRow_0 2 rfl) fl_X4_layRow_125 rfl rfl ?_
  refine z_bipush F (dX4_layRow_0 3 rfl) rfl ?_
  obtain ⟨o_1, h_2, hf⟩ := zb_some hf
  refine z_callV (As := [.int (zI t_laidWidth), .int (zI 32)]) (rest := []) (wr := wX4 aI q_t q_t_bytes q_t_lengths q_t_widths q_t_ofNumbers t_bytes t_lengths t_columns t_rows t_widths t_ofNumbers t_laidWidth) F (dX4_layRow_0 4 rfl) (k_X2_addLine (zL X) D aI aZ q_p1 q_p1_bytes q_p1_lengths p1_bytes p1_lengths p1_count t_laidWidth 32 h_2) gX4_layRow_X2_addLine mX2_addLine rfl (ci := 2) rfl [5, 6, 7] [0, 1, 2, 3, 4] 0 rfl rfl rfl (by decide) rfl rfl (Nat.le_of_ble_eq_true rfl) ⟨Nat.le_of_ble_eq_true rfl, Nat.le_of_ble_eq_true rfl⟩ ⟨rfl, rfl⟩ ⟨Nat.le_of_ble_eq_true rfl, Nat.le_of_ble_eq_true rfl⟩ (z_plain (ws' := wX4 aI q_t q_t_bytes q_t_lengths q_t_widths q_t_ofNumbers t_bytes t_lengths t_columns t_rows t_widths t_ofNumbers t_laidWidth ++ wX2 aI q_p1 q_p1_bytes q_p1_lengths o_1.2.1 o_1.2.2.1 o_1.2.2.2) (st' := [.int (zI o_1.1)]) [0, 1, 2, 3, 4, 5, 6, 7] rfl (by decide) rfl ?_)
  refine z_istore_n (lv' := [(3, .int (zI o_1.1)), (0, .ref q_t), (1, .ref q_p1), (2, .int (zI v2))]) F (dX4_layRow_0 5 rfl) (by decide) rfl ?_
  refine z_iconst F (dX4_layRow_0 6 rfl) ?_
  refine z_istore (lv' := [(4, .int (zI 0)), (3, .int (zI o_1.1)), (0, .ref q_t), (1, .ref q_p1), (2, .int (zI v2))]) F (dX4_layRow_0 7 rfl) (by decide) rfl ?_
  refine z_iconst F (dX4_layRow_0 8 rfl) ?_
  refine z_istore (lv' := [(5, .int (zI 0)), (4, .int (zI 0)), (3, .int (zI o_1.1)), (0, .ref q_t), (1, .ref q_p1), (2, .int (zI v2))]) F (dX4_layRow_0 9 rfl) (by decide) rfl ?_
  refine z_lv [3, 4, 5, 2, 1, 0] rfl ?_
  refine b_X4_layRow_l17 F E q_t q_t_bytes q_t_lengths q_t_widths q_t_ofNumbers q_p1 q_p1_bytes q_p1_lengths v2 o_1.1 t_bytes t_lengths t_columns t_rows t_widths t_ofNumbers t_laidWidth o_1.2.2.1 o_1.2.2.2 hQ _ ?_ zN 0 0 o_1.2.1 hf
  intro p1_bytes_14 hf
  cases hf
  exact z_vret [0, 1, 2, 3, 4, 5, 6, 7] F E (dX4_layRow_1 24 rfl) rfl (by decide) hQ
set_option maxRecDepth 20000 in
set_option maxHeartbeats 2000000 in
theorem k_X4_layRow (l : Launch) (D : va_G) (aI aZ : ClassId) (q_t q_t_bytes q_t_lengths q_t_widths q_t_ofNumbers q_p1 q_p1_bytes q_p1_lengths : Nat) (t_bytes : (Nat → Int)) (t_lengths : (Nat → Int)) (t_columns : Int) (t_rows : Int) (t_widths : (Nat → Int)) (t_ofNumbers : (Nat → Int)) (t_laidWidth : Int) (p1_bytes : (Nat → Int)) (p1_lengths : (Nat → Int)) (p1_count : Int) (v2 : Int) {R : (Nat → Int) × (Nat → Int) × Int} (hf : f_X4_layRow t_bytes t_lengths t_columns t_rows t_widths t_ofNumbers t_laidWidth p1_bytes p1_lengths p1_count v2 = some R) : zC l D aI aZ yX4_layRow wsX4_layRow rmX4_layRow [.ref q_t, .ref q_p1, .int (zI v2)] (wX4 aI q_t q_t_bytes q_t_lengths q_t_widths q_t_ofNumbers t_bytes t_lengths t_columns t_rows t_widths t_ofNumbers t_laidWidth ++ wX2 aI q_p1 q_p1_bytes q_p1_lengths p1_bytes p1_lengths p1_count) (fun r w => r = none ∧ w = wX4 aI q_t q_t_bytes q_t_lengths q_t_widths q_t_ofNumbers t_bytes t_lengths t_columns t_rows t_widths t_ofNumbers t_laidWidth ++ wX2 aI q_p1 q_p1_bytes q_p1_lengths R.1 R.2.1 R.2.2) 0 0 := by
  refine z_met (cc := cX4_layRow) (maxL := 10) (ret := none) (by decide +kernel) rfl (Nat.le_of_ble_eq_true rfl) (fun X hX F E => ?_)
  exact b_X4_layRow_0 F E q_t q_t_bytes q_t_lengths q_t_widths q_t_ofNumbers q_p1 q_p1_bytes q_p1_lengths t_bytes t_lengths t_columns t_rows t_widths t_ofNumbers t_laidWidth p1_bytes p1_lengths p1_count v2 ⟨rfl, rfl⟩ hf
theorem inw_X4_layOn_4 : ∀ w ∈ u_ws RX4 TX4 7, w ∈ wsX4_layOn := by decide +kernel
theorem fl_X4_layOn_125 : zfl wsX4_layOn RX4 125 4 6 RX4 TX4 7 := ⟨inw_X4_layOn_4, rfl, by decide, by decide +kernel⟩
theorem fl_X4_layOn_28 : zfl wsX4_layOn RX4 28 4 3 RX4 TX4 7 := ⟨inw_X4_layOn_4, rfl, by decide, by decide +kernel⟩
abbrev rmX4_layOn : Room := { frames := 4, cells := 0, slots := 0, locals := 98 }
theorem mX4_layOn : zY yX4_layOn cX4_layOn 3 none wsX4_layOn 1 := ⟨⟨_, rfl⟩, by decide +kernel, by decide +kernel, by decide +kernel⟩
set_option maxRecDepth 20000 in
set_option maxHeartbeats 2000000 in
theorem b_X4_layOn_l44 {X : zX} {D : va_G} {aI aZ : ClassId} {w0 : va_W} {Qp : Option Value → va_W → Prop} (F : zF X D aI aZ cX4_layOn 3 RX4 wsX4_layOn rmX4_layOn) (E : zT X D w0 Qp 0 0 none) (q_t q_t_bytes q_t_lengths q_t_widths q_t_ofNumbers q_p1 q_p1_bytes q_p1_lengths : Nat) (t_bytes : (Nat → Int)) (t_lengths : (Nat → Int)) (t_columns : Int) (t_rows : Int) (t_widths : (Nat → Int)) (t_ofNumbers : (Nat → Int)) (t_laidWidth : Int) {R : (Nat → Int) × (Nat → Int) × Int} (hQ : Qp none (wX4 aI q_t q_t_bytes q_t_lengths q_t_widths q_t_ofNumbers t_bytes t_lengths t_columns t_rows t_widths t_ofNumbers t_laidWidth ++ wX2 aI q_p1 q_p1_bytes q_p1_lengths R.1 R.2.1 R.2.2)) (K : (Nat → Int) → (Nat → Int) → Int → Option ((Nat → Int) × (Nat → Int) × Int)) (hK : ∀ (p1_bytes : (Nat → Int)) (p1_lengths : (Nat → Int)) (p1_count : Int), K p1_bytes p1_lengths p1_count = some R → zG X D 0 0 (wX4 aI q_t q_t_bytes q_t_lengths q_t_widths q_t_ofNumbers t_bytes t_lengths t_columns t_rows t_widths t_ofNumbers t_laidWidth ++ wX2 aI q_p1 q_p1_bytes q_p1_lengths p1_bytes p1_lengths p1_count) 64 [(0, .ref q_t), (1, .ref q_p1)] []) : ∀ (n : Nat) (v2 : Int) (p1_bytes : (Nat → Int)) (p1_lengths : (Nat → Int)) (p1_count : Int), f_X4_layOn_l44 K t_bytes t_lengths t_columns t_rows t_widths t_ofNumbers t_laidWidth n v2 p1_bytes p1_lengths p1_count = some R → zG X D 0 0 (wX4 aI q_t q_t_bytes q_t_lengths q_t_widths q_t_ofNumbers t_bytes t_lengths t_columns t_rows t_widths t_ofNumbers t_laidWidth ++ wX2 aI q_p1 q_p1_bytes q_p1_lengths p1_bytes p1_lengths p1_count) 44 [(0, .ref q_t), (1, .ref q_p1), (2, .int (zI v2))] [] := by
  intro n
  induction n with
  | zero => intro v2 p1_bytes p1_lengths p1_count hf; rw [f_X4_layOn_l44_z] at hf; cases hf
  | succ n ih =>
    intro v2 p1_bytes p1_lengths p1_count hf
    rw [f_X4_layOn_l44_s] at hf
    refine z_iload_n 2 F (dX4_layOn_0 23 rfl) rfl ?_
    refine z_aload_n 0 F (dX4_layOn_0 24 rfl) rfl ?_
    refine z_get (v := .int (zI t_rows)) 0 F (dX4_layOn_0 25 rfl) fl_X4_layOn_28 rfl rfl ?_
    refine z_icmp_gt (tgt := 64) F (dX4_layOn_0 26 rfl) rfl (fun c49 => ?_) (fun c49 => ?_)
    · replace hf := zif_t c49 hf
      refine z_lv [0, 1] rfl ?_
      exact hK p1_bytes p1_lengths p1_count hf
    · replace hf := zif_f c49 hf
      refine z_aload_n 0 F (dX4_layOn_0 27 rfl) rfl ?_
      refine z_aload_n 1 F (dX4_layOn_0 28 rfl) rfl ?_
      refine z_iload_n 2 F (dX4_layOn_0 29 rfl) rfl ?_
      obtain ⟨o_7, h_8, hf⟩ := zb_some hf
      refine z_callV (As := [.ref q_p1, .int (zI v2)]) (rest := []) (wr := []) F (dX4_layOn_0 30 rfl) (k_X4_layRow (zL X) D aI aZ q_t q_t_bytes q_t_lengths q_t_widths q_t_ofNumbers q_p1 q_p1_bytes q_p1_lengths t_bytes t_lengths t_columns t_rows t_widths t_ofNumbers t_laidWidth p1_bytes p1_lengths p1_count v2 h_8) gX4_layOn_X4_layRow mX4_layRow rfl (ci := 4) rfl [0, 1, 2, 3, 4, 5, 6, 7] [] 0 rfl rfl rfl (by decide) rfl rfl (Nat.le_of_ble_eq_true rfl) ⟨Nat.le_of_ble_eq_true rfl, Nat.le_of_ble_eq_true rfl⟩ ⟨rfl, rfl⟩ ⟨Nat.le_of_ble_eq_true rfl, Nat.le_of_ble_eq_true rfl⟩ (z_plain (ws' := wX4 aI q_t q_t_bytes q_t_lengths q_t_widths q_t_ofNumbers t_bytes t_lengths t_columns t_rows t_widths t_ofNumbers t_laidWidth ++ wX2 aI q_p1 q_p1_bytes q_p1_lengths o_7.1 o_7.2.1 o_7.2.2) (st' := []) [0, 1, 2, 3, 4, 5, 6, 7] rfl (by decide) rfl ?_)
      refine z_iinc (lv' := [(2, .int (zI (v2 + 1))), (0, .ref q_t), (1, .ref q_p1)]) 2 F (dX4_layOn_0 31 rfl) rfl (by decide) rfl ?_
      refine z_goto (tgt := 44) F (dX4_layOn_0 32 rfl) rfl ?_
      refine z_lv [1, 2, 0] rfl ?_
      exact ih (v2 + 1) o_7.1 o_7.2.1 o_7.2.2 hf
set_option maxRecDepth 20000 in
set_option maxHeartbeats 2000000 in
theorem b_X4_layOn_j42 {X : zX} {D : va_G} {aI aZ : ClassId} {w0 : va_W} {Qp : Option Value → va_W → Prop} (F : zF X D aI aZ cX4_layOn 3 RX4 wsX4_layOn rmX4_layOn) (E : zT X D w0 Qp 0 0 none) (q_t q_t_bytes q_t_lengths q_t_widths q_t_ofNumbers q_p1 q_p1_bytes q_p1_lengths : Nat) (t_bytes : (Nat → Int)) (t_lengths : (Nat → Int)) (t_columns : Int) (t_rows : Int) (t_widths : (Nat → Int)) (t_ofNumbers : (Nat → Int)) (t_laidWidth : Int) (p1_bytes : (Nat → Int)) (p1_lengths : (Nat → Int)) (p1_count : Int) {R : (Nat → Int) × (Nat → Int) × Int} (hQ : Qp none (wX4 aI q_t q_t_bytes q_t_lengths q_t_widths q_t_ofNumbers t_bytes t_lengths t_columns t_rows t_widths t_ofNumbers t_laidWidth ++ wX2 aI q_p1 q_p1_bytes q_p1_lengths R.1 R.2.1 R.2.2)) (hf : f_X4_layOn_j42 t_bytes t_lengths t_columns t_rows t_widths t_ofNumbers t_laidWidth p1_bytes p1_lengths p1_count = some R) : zG X D 0 0 (wX4 aI q_t q_t_bytes q_t_lengths q_t_widths q_t_ofNumbers t_bytes t_lengths t_columns t_rows t_widths t_ofNumbers t_laidWidth ++ wX2 aI q_p1 q_p1_bytes q_p1_lengths p1_bytes p1_lengths p1_count) 42 [(0, .ref q_t), (1, .ref q_p1)] [] := by
  unfold f_X4_layOn_j42 at hf
  refine z_iconst F (dX4_layOn_0 21 rfl) ?_
  refine z_istore_n (lv' := [(2, .int (zI 1)), (0, .ref q_t), (1, .ref q_p1)]) F (dX4_layOn_0 22 rfl) (by decide) rfl ?_
  refine z_lv [1, 2, 0] rfl ?_
  refine b_X4_layOn_l44 F E q_t q_t_bytes q_t_lengths q_t_widths q_t_ofNumbers q_p1 q_p1_bytes q_p1_lengths t_bytes t_lengths t_columns t_rows t_widths t_ofNumbers t_laidWidth hQ _ ?_ zN 1 p1_bytes p1_lengths p1_count hf
  intro p1_bytes_9 p1_lengths_10 p1_count_11 hf
  refine z_aload_n 0 F (dX4_layOn_0 33 rfl) rfl ?_
  obtain ⟨o_12, h_13, hf⟩ := zb_some hf
  refine z_callV (As := []) (rest := []) (wr := wX2 aI q_p1 q_p1_bytes q_p1_lengths p1_bytes_9 p1_lengths_10 p1_count_11) F (dX4_layOn_0 34 rfl) (k_X4_hasFoot (zL X) D aI aZ q_t q_t_bytes q_t_lengths q_t_widths q_t_ofNumbers t_bytes t_lengths t_columns t_rows t_widths t_ofNumbers t_laidWidth h_13) gX4_layOn_X4_hasFoot mX4_hasFoot rfl (ci := 4) rfl [0, 1, 2, 3, 4] [5, 6, 7] 0 rfl rfl rfl (by decide) rfl rfl (Nat.le_of_ble_eq_true rfl) ⟨Nat.le_of_ble_eq_true rfl, Nat.le_of_ble_eq_true rfl⟩ ⟨rfl, rfl⟩ ⟨Nat.le_of_ble_eq_true rfl, Nat.le_of_ble_eq_true rfl⟩ (z_plain (ws' := wX4 aI q_t q_t_bytes q_t_lengths q_t_widths q_t_ofNumbers t_bytes t_lengths t_columns t_rows t_widths t_ofNumbers t_laidWidth ++ wX2 aI q_p1 q_p1_bytes q_p1_lengths p1_bytes_9 p1_lengths_10 p1_count_11) (st' := [.int (zI o_12)]) [3, 4, 5, 6, 7, 0, 1, 2] rfl (by decide) rfl ?_)
  refine z_if_eq (tgt := 97) F (dX4_layOn_0 35 rfl) rfl (fun c68 => ?_) (fun c68 => ?_)
  · replace hf := zif_t c68 hf
    cases hf
    exact z_vret [0, 1, 2, 3, 4, 5, 6, 7] F E (dX4_layOn_1 11 rfl) rfl (by decide) hQ
  · replace hf := zif_f c68 hf
    refine z_aload_n 1 F (dX4_layOn_0 36 rfl) rfl ?_
    refine z_iconst F (dX4_layOn_0 37 rfl) ?_
    refine z_aload_n 0 F (dX4_layOn_0 38 rfl) rfl ?_
    refine z_get (v := .int (zI t_laidWidth)) 0 F (dX4_layOn_0 39 rfl) fl_X4_layOn_125 rfl rfl ?_
    refine z_mmax F (dX4_layOn_1 0 rfl) (by decide +kernel) (by decide +kernel) (by decide +kernel) (by decide +kernel) ⟨Nat.le_of_ble_eq_true rfl, Nat.le_of_ble_eq_true rfl⟩ (Nat.zero_le _) (Nat.zero_le _) ?_
    refine z_bipush F (dX4_layOn_1 1 rfl) rfl ?_
    obtain ⟨o_14, h_15, hf⟩ := zb_some hf
    refine z_callV (As := [.int (zI (zmax 3 t_laidWidth)), .int (zI 45)]) (rest := []) (wr := wX4 aI q_t q_t_bytes q_t_lengths q_t_widths q_t_ofNumbers t_bytes t_lengths t_columns t_rows t_widths t_ofNumbers t_laidWidth) F (dX4_layOn_1 2 rfl) (k_X2_addLine (zL X) D aI aZ q_p1 q_p1_bytes q_p1_lengths p1_bytes_9 p1_lengths_10 p1_count_11 (zmax 3 t_laidWidth) 45 h_15) gX4_layOn_X2_addLine mX2_addLine rfl (ci := 2) rfl [5, 6, 7] [0, 1, 2, 3, 4] 0 rfl rfl rfl (by decide) rfl rfl (Nat.le_of_ble_eq_true rfl) ⟨Nat.le_of_ble_eq_true rfl, Nat.le_of_ble_eq_true rfl⟩ ⟨rfl, rfl⟩ ⟨Nat.le_of_ble_eq_true rfl, Nat.le_of_ble_eq_true rfl⟩ (z_plain (ws' := wX4 aI q_t q_t_bytes q_t_lengths q_t_widths q_t_ofNumbers t_bytes t_lengths t_columns t_rows t_widths t_ofNumbers t_laidWidth ++ wX2 aI q_p1 q_p1_bytes q_p1_lengths o_14.2.1 o_14.2.2.1 o_14.2.2.2) (st' := [.int (zI o_14.1)]) [0, 1, 2, 3, 4, 5, 6, 7] rfl (by decide) rfl ?_)
    refine z_pop F (dX4_layOn_1 3 rfl) rfl ?_
    refine z_aload_n 0 F (dX4_layOn_1 4 rfl) rfl ?_
    refine z_aload_n 1 F (dX4_layOn_1 5 rfl) rfl ?_
    refine z_aload_n 0 F (dX4_layOn_1 6 rfl) rfl ?_
    refine z_get (v := .int (zI t_rows)) 0 F (dX4_layOn_1 7 rfl) fl_X4_layOn_28 rfl rfl ?_
    refine z_iconst F (dX4_layOn_1 8 rfl) ?_
    refine z_iadd F (dX4_layOn_1 9 rfl) ?_
    obtain ⟨o_16, h_17, hf⟩ := zb_some hf
    refine z_callV (As := [.ref q_p1, .int (zI (t_rows + 1))]) (rest := []) (wr := []) F (dX4_layOn_1 10 rfl) (k_X4_layRow (zL X) D aI aZ q_t q_t_bytes q_t_lengths q_t_widths q_t_ofNumbers q_p1 q_p1_bytes q_p1_lengths t_bytes t_lengths t_columns t_rows t_widths t_ofNumbers t_laidWidth o_14.2.1 o_14.2.2.1 o_14.2.2.2 (t_rows + 1) h_17) gX4_layOn_X4_layRow mX4_layRow rfl (ci := 4) rfl [0, 1, 2, 3, 4, 5, 6, 7] [] 0 rfl rfl rfl (by decide) rfl rfl (Nat.le_of_ble_eq_true rfl) ⟨Nat.le_of_ble_eq_true rfl, Nat.le_of_ble_eq_true rfl⟩ ⟨rfl, rfl⟩ ⟨Nat.le_of_ble_eq_true rfl, Nat.le_of_ble_eq_true rfl⟩ (z_plain (ws' := wX4 aI q_t q_t_bytes q_t_lengths q_t_widths q_t_ofNumbers t_bytes t_lengths t_columns t_rows t_widths t_ofNumbers t_laidWidth ++ wX2 aI q_p1 q_p1_bytes q_p1_lengths o_16.1 o_16.2.1 o_16.2.2) (st' := []) [0, 1, 2, 3, 4, 5, 6, 7] rfl (by decide) rfl ?_)
    cases hf
    exact z_vret [0, 1, 2, 3, 4, 5, 6, 7] F E (dX4_layOn_1 11 rfl) rfl (by decide) hQ
set_option maxRecDepth 20000 in
set_option maxHeartbeats 2000000 in
theorem b_X4_layOn_j27 {X : zX} {D : va_G} {aI aZ : ClassId} {w0 : va_W} {Qp : Option Value → va_W → Prop} (F : zF X D aI aZ cX4_layOn 3 RX4 wsX4_layOn rmX4_layOn) (E : zT X D w0 Qp 0 0 none) (q_t q_t_bytes q_t_lengths q_t_widths q_t_ofNumbers q_p1 q_p1_bytes q_p1_lengths : Nat) (t_bytes : (Nat → Int)) (t_lengths : (Nat → Int)) (t_columns : Int) (t_rows : Int) (t_widths : (Nat → Int)) (t_ofNumbers : (Nat → Int)) (t_laidWidth : Int) (p1_bytes : (Nat → Int)) (p1_lengths : (Nat → Int)) (p1_count : Int) {R : (Nat → Int) × (Nat → Int) × Int} (hQ : Qp none (wX4 aI q_t q_t_bytes q_t_lengths q_t_widths q_t_ofNumbers t_bytes t_lengths t_columns t_rows t_widths t_ofNumbers t_laidWidth ++ wX2 aI q_p1 q_p1_bytes q_p1_lengths R.1 R.2.1 R.2.2)) (hf : f_X4_layOn_j27 t_bytes t_lengths t_columns t_rows t_widths t_ofNumbers t_laidWidth p1_bytes p1_lengths p1_count = some R) : zG X D 0 0 (wX4 aI q_t q_t_bytes q_t_lengths q_t_widths q_t_ofNumbers t_bytes t_lengths t_columns t_rows t_widths t_ofNumbers t_laidWidth ++ wX2 aI q_p1 q_p1_bytes q_p1_lengths p1_bytes p1_lengths p1_count) 27 [(0, .ref q_t), (1, .ref q_p1)] [] := by
  unfold f_X4_layOn_j27 at hf
  refine z_aload_n 1 F (dX4_layOn_0 13 rfl) rfl ?_
  refine z_iconst F (dX4_layOn_0 14 rfl) ?_
  refine z_aload_n 0 F (dX4_layOn_0 15 rfl) rfl ?_
  refine z_get (v := .int (zI t_laidWidth)) 0 F (dX4_layOn_0 16 rfl) fl_X4_layOn_125 rfl rfl ?_
  refine z_mmax F (dX4_layOn_0 17 rfl) (by decide +kernel) (by decide +kernel) (by decide +kernel) (by decide +kernel) ⟨Nat.le_of_ble_eq_true rfl, Nat.le_of_ble_eq_true rfl⟩ (Nat.zero_le _) (Nat.zero_le _) ?_
  refine z_bipush F (dX4_layOn_0 18 rfl) rfl ?_
  obtain ⟨o_5, h_6, hf⟩ := zb_some hf
  refine z_callV (As := [.int (zI (zmax 3 t_laidWidth)), .int (zI 45)]) (rest := []) (wr := wX4 aI q_t q_t_bytes q_t_lengths q_t_widths q_t_ofNumbers t_bytes t_lengths t_columns t_rows t_widths t_ofNumbers t_laidWidth) F (dX4_layOn_0 19 rfl) (k_X2_addLine (zL X) D aI aZ q_p1 q_p1_bytes q_p1_lengths p1_bytes p1_lengths p1_count (zmax 3 t_laidWidth) 45 h_6) gX4_layOn_X2_addLine mX2_addLine rfl (ci := 2) rfl [5, 6, 7] [0, 1, 2, 3, 4] 0 rfl rfl rfl (by decide) rfl rfl (Nat.le_of_ble_eq_true rfl) ⟨Nat.le_of_ble_eq_true rfl, Nat.le_of_ble_eq_true rfl⟩ ⟨rfl, rfl⟩ ⟨Nat.le_of_ble_eq_true rfl, Nat.le_of_ble_eq_true rfl⟩ (z_plain (ws' := wX4 aI q_t q_t_bytes q_t_lengths q_t_widths q_t_ofNumbers t_bytes t_lengths t_columns t_rows t_widths t_ofNumbers t_laidWidth ++ wX2 aI q_p1 q_p1_bytes q_p1_lengths o_5.2.1 o_5.2.2.1 o_5.2.2.2) (st' := [.int (zI o_5.1)]) [0, 1, 2, 3, 4, 5, 6, 7] rfl (by decide) rfl ?_)
  refine z_pop F (dX4_layOn_0 20 rfl) rfl ?_
  exact b_X4_layOn_j42 F E q_t q_t_bytes q_t_lengths q_t_widths q_t_ofNumbers q_p1 q_p1_bytes q_p1_lengths t_bytes t_lengths t_columns t_rows t_widths t_ofNumbers t_laidWidth o_5.2.1 o_5.2.2.1 o_5.2.2.2 hQ hf
set_option maxRecDepth 20000 in
set_option maxHeartbeats 2000000 in
theorem b_X4_layOn_j13 {X : zX} {D : va_G} {aI aZ : ClassId} {w0 : va_W} {Qp : Option Value → va_W → Prop} (F : zF X D aI aZ cX4_layOn 3 RX4 wsX4_layOn rmX4_layOn) (E : zT X D w0 Qp 0 0 none) (q_t q_t_bytes q_t_lengths q_t_widths q_t_ofNumbers q_p1 q_p1_bytes q_p1_lengths : Nat) (t_bytes : (Nat → Int)) (t_lengths : (Nat → Int)) (t_columns : Int) (t_rows : Int) (t_widths : (Nat → Int)) (t_ofNumbers : (Nat → Int)) (t_laidWidth : Int) (p1_bytes : (Nat → Int)) (p1_lengths : (Nat → Int)) (p1_count : Int) {R : (Nat → Int) × (Nat → Int) × Int} (hQ : Qp none (wX4 aI q_t q_t_bytes q_t_lengths q_t_widths q_t_ofNumbers t_bytes t_lengths t_columns t_rows t_widths t_ofNumbers t_laidWidth ++ wX2 aI q_p1 q_p1_bytes q_p1_lengths R.1 R.2.1 R.2.2)) (hf : f_X4_layOn_j13 t_bytes t_lengths t_columns t_rows t_widths t_ofNumbers t_laidWidth p1_bytes p1_lengths p1_count = some R) : zG X D 0 0 (wX4 aI q_t q_t_bytes q_t_lengths q_t_widths q_t_ofNumbers t_bytes t_lengths t_columns t_rows t_widths t_ofNumbers t_laidWidth ++ wX2 aI q_p1 q_p1_bytes q_p1_lengths p1_bytes p1_lengths p1_count) 13 [(0, .ref q_t), (1, .ref q_p1)] [] := by
  unfold f_X4_layOn_j13 at hf
  refine z_aload_n 0 F (dX4_layOn_0 7 rfl) rfl ?_
  obtain ⟨o_3, h_4, hf⟩ := zb_some hf
  refine z_callV (As := []) (rest := []) (wr := wX2 aI q_p1 q_p1_bytes q_p1_lengths p1_bytes p1_lengths p1_count) F (dX4_layOn_0 8 rfl) (k_X4_hasHead (zL X) D aI aZ q_t q_t_bytes q_t_lengths q_t_widths q_t_ofNumbers t_bytes t_lengths t_columns t_rows t_widths t_ofNumbers t_laidWidth h_4) gX4_layOn_X4_hasHead mX4_hasHead rfl (ci := 4) rfl [0, 1, 2, 3, 4] [5, 6, 7] 0 rfl rfl rfl (by decide) rfl rfl (Nat.le_of_ble_eq_true rfl) ⟨Nat.le_of_ble_eq_true rfl, Nat.le_of_ble_eq_true rfl⟩ ⟨rfl, rfl⟩ ⟨Nat.le_of_ble_eq_true rfl, Nat.le_of_ble_eq_true rfl⟩ (z_plain (ws' := wX4 aI q_t q_t_bytes q_t_lengths q_t_widths q_t_ofNumbers t_bytes t_lengths t_columns t_rows t_widths t_ofNumbers t_laidWidth ++ wX2 aI q_p1 q_p1_bytes q_p1_lengths p1_bytes p1_lengths p1_count) (st' := [.int (zI o_3)]) [3, 4, 5, 6, 7, 0, 1, 2] rfl (by decide) rfl ?_)
  refine z_if_ne (tgt := 27) F (dX4_layOn_0 9 rfl) rfl (fun c17 => ?_) (fun c17 => ?_)
  · replace hf := zif_f c17 hf
    exact b_X4_layOn_j27 F E q_t q_t_bytes q_t_lengths q_t_widths q_t_ofNumbers q_p1 q_p1_bytes q_p1_lengths t_bytes t_lengths t_columns t_rows t_widths t_ofNumbers t_laidWidth p1_bytes p1_lengths p1_count hQ hf
  · replace hf := zif_t c17 hf
    refine z_aload_n 0 F (dX4_layOn_0 10 rfl) rfl ?_
    obtain ⟨o_18, h_19, hf⟩ := zb_some hf
    refine z_callV (As := []) (rest := []) (wr := wX2 aI q_p1 q_p1_bytes q_p1_lengths p1_bytes p1_lengths p1_count) F (dX4_layOn_0 11 rfl) (k_X4_hasFoot (zL X) D aI aZ q_t q_t_bytes q_t_lengths q_t_widths q_t_ofNumbers t_bytes t_lengths t_columns t_rows t_widths t_ofNumbers t_laidWidth h_19) gX4_layOn_X4_hasFoot mX4_hasFoot rfl (ci := 4) rfl [0, 1, 2, 3, 4] [5, 6, 7] 0 rfl rfl rfl (by decide) rfl rfl (Nat.le_of_ble_eq_true rfl) ⟨Nat.le_of_ble_eq_true rfl, Nat.le_of_ble_eq_true rfl⟩ ⟨rfl, rfl⟩ ⟨Nat.le_of_ble_eq_true rfl, Nat.le_of_ble_eq_true rfl⟩ (z_plain (ws' := wX4 aI q_t q_t_bytes q_t_lengths q_t_widths q_t_ofNumbers t_bytes t_lengths t_columns t_rows t_widths t_ofNumbers t_laidWidth ++ wX2 aI q_p1 q_p1_bytes q_p1_lengths p1_bytes p1_lengths p1_count) (st' := [.int (zI o_18)]) [3, 4, 5, 6, 7, 0, 1, 2] rfl (by decide) rfl ?_)
    refine z_if_eq (tgt := 42) F (dX4_layOn_0 12 rfl) rfl (fun c24 => ?_) (fun c24 => ?_)
    · replace hf := zif_t c24 hf
      exact b_X4_layOn_j42 F E q_t q_t_bytes q_t_lengths q_t_widths q_t_ofNumbers q_p1 q_p1_bytes q_p1_lengths t_bytes t_lengths t_columns t_rows t_widths t_ofNumbers t_laidWidth p1_bytes p1_lengths p1_count hQ hf
    · replace hf := zif_f c24 hf
      exact b_X4_layOn_j27 F E q_t q_t_bytes q_t_lengths q_t_widths q_t_ofNumbers q_p1 q_p1_bytes q_p1_lengths t_bytes t_lengths t_columns t_rows t_widths t_ofNumbers t_laidWidth p1_bytes p1_lengths p1_count hQ hf
set_option maxRecDepth 20000 in
set_option maxHeartbeats 2000000 in
theorem b_X4_layOn_0 {X : zX} {D : va_G} {aI aZ : ClassId} {w0 : va_W} {Qp : Option Value → va_W → Prop} (F : zF X D aI aZ cX4_layOn 3 RX4 wsX4_layOn rmX4_layOn) (E : zT X D w0 Qp 0 0 none) (q_t q_t_bytes q_t_lengths q_t_widths q_t_ofNumbers q_p1 q_p1_bytes q_p1_lengths : Nat) (t_bytes : (Nat → Int)) (t_lengths : (Nat → Int)) (t_columns : Int) (t_rows : Int) (t_widths : (Nat → Int)) (t_ofNumbers : (Nat → Int)) (t_laidWidth : Int) (p1_bytes : (Nat → Int)) (p1_lengths : (Nat → Int)) (p1_count : Int) {R : (Nat → Int) × (Nat → Int) × Int} (hQ : Qp none (wX4 aI q_t q_t_bytes q_t_lengths q_t_widths q_t_ofNumbers t_bytes t_lengths t_columns t_rows t_widths t_ofNumbers t_laidWidth ++ wX2 aI q_p1 q_p1_bytes q_p1_lengths R.1 R.2.1 R.2.2)) (hf : f_X4_layOn t_bytes t_lengths t_columns t_rows t_widths t_ofNumbers t_laidWidth p1_bytes p1_lengths p1_count = some R) : zG X D 0 0 (wX4 aI q_t q_t_bytes q_t_lengths q_t_widths q_t_ofNumbers t_bytes t_lengths t_columns t_rows t_widths t_ofNumbers t_laidWidth ++ wX2 aI q_p1 q_p1_bytes q_p1_lengths p1_bytes p1_lengths p1_count) 0 [(0, .ref q_t), (1, .ref q_p1)] [] := by
  unfold f_X4_layOn at hf
  refine z_aload_n 0 F (dX4_layOn_0 0 rfl) rfl ?_
  obtain ⟨o_1, h_2, hf⟩ := zb_some hf
  refine z_callV (As := []) (rest := []) (wr := wX2 aI q_p1 q_p1_bytes q_p1_lengths p1_bytes p1_lengths p1_count) F (dX4_layOn_0 1 rfl) (k_X4_hasHead (zL X) D aI aZ q_t q_t_bytes q_t_lengths q_t_widths q_t_ofNumbers t_bytes t_lengths t_columns t_rows t_widths t_ofNumbers t_laidWidth h_2) gX4_layOn_X4_hasHead mX4_hasHead rfl (ci := 4) rfl [0, 1, 2, 3, 4] [5, 6, 7] 0 rfl rfl rfl (by decide) rfl rfl (Nat.le_of_ble_eq_true rfl) ⟨Nat.le_of_ble_eq_true rfl, Nat.le_of_ble_eq_true rfl⟩ ⟨rfl, rfl⟩ ⟨Nat.le_of_ble_eq_true rfl, Nat.le_of_ble_eq_true rfl⟩ (z_plain (ws' := wX4 aI q_t q_t_bytes q_t_lengths q_t_widths q_t_ofNumbers t_bytes t_lengths t_columns t_rows t_widths t_ofNumbers t_laidWidth ++ wX2 aI q_p1 q_p1_bytes q_p1_lengths p1_bytes p1_lengths p1_count) (st' := [.int (zI o_1)]) [3, 4, 5, 6, 7, 0, 1, 2] rfl (by decide) rfl ?_)
  refine z_if_eq (tgt := 13) F (dX4_layOn_0 2 rfl) rfl (fun c4 => ?_) (fun c4 => ?_)
  · replace hf := zif_t c4 hf
    exact b_X4_layOn_j13 F E q_t q_t_bytes q_t_lengths q_t_widths q_t_ofNumbers q_p1 q_p1_bytes q_p1_lengths t_bytes t_lengths t_columns t_rows t_widths t_ofNumbers t_laidWidth p1_bytes p1_lengths p1_count hQ hf
  · replace hf := zif_f c4 hf
    refine z_aload_n 0 F (dX4_layOn_0 3 rfl) rfl ?_
    refine z_aload_n 1 F (dX4_layOn_0 4 rfl) rfl ?_
    refine z_iconst F (dX4_layOn_0 5 rfl) ?_
    obtain ⟨o_20, h_21, hf⟩ := zb_some hf
    refine z_callV (As := [.ref q_p1, .int (zI 0)]) (rest := []) (wr := []) F (dX4_layOn_0 6 rfl) (k_X4_layRow (zL X) D aI aZ q_t q_t_bytes q_t_lengths q_t_widths q_t_ofNumbers q_p1 q_p1_bytes q_p1_lengths t_bytes t_lengths t_columns t_rows t_widths t_ofNumbers t_laidWidth p1_bytes p1_lengths p1_count 0 h_21) gX4_layOn_X4_layRow mX4_layRow rfl (ci := 4) rfl [0, 1, 2, 3, 4, 5, 6, 7] [] 0 rfl rfl rfl (by decide) rfl rfl (Nat.le_of_ble_eq_true rfl) ⟨Nat.le_of_ble_eq_true rfl, Nat.le_of_ble_eq_true rfl⟩ ⟨rfl, rfl⟩ ⟨Nat.le_of_ble_eq_true rfl, Nat.le_of_ble_eq_true rfl⟩ (z_plain (ws' := wX4 aI q_t q_t_bytes q_t_lengths q_t_widths q_t_ofNumbers t_bytes t_lengths t_columns t_rows t_widths t_ofNumbers t_laidWidth ++ wX2 aI q_p1 q_p1_bytes q_p1_lengths o_20.1 o_20.2.1 o_20.2.2) (st' := []) [0, 1, 2, 3, 4, 5, 6, 7] rfl (by decide) rfl ?_)
    exact b_X4_layOn_j13 F E q_t q_t_bytes q_t_lengths q_t_widths q_t_ofNumbers q_p1 q_p1_bytes q_p1_lengths t_bytes t_lengths t_columns t_rows t_widths t_ofNumbers t_laidWidth o_20.1 o_20.2.1 o_20.2.2 hQ hf
set_option maxRecDepth 20000 in
set_option maxHeartbeats 2000000 in
theorem k_X4_layOn (l : Launch) (D : va_G) (aI aZ : ClassId) (q_t q_t_bytes q_t_lengths q_t_widths q_t_ofNumbers q_p1 q_p1_bytes q_p1_lengths : Nat) (t_bytes : (Nat → Int)) (t_lengths : (Nat → Int)) (t_columns : Int) (t_rows : Int) (t_widths : (Nat → Int)) (t_ofNumbers : (Nat → Int)) (t_laidWidth : Int) (p1_bytes : (Nat → Int)) (p1_lengths : (Nat → Int)) (p1_count : Int) {R : (Nat → Int) × (Nat → Int) × Int} (hf : f_X4_layOn t_bytes t_lengths t_columns t_rows t_widths t_ofNumbers t_laidWidth p1_bytes p1_lengths p1_count = some R) : zC l D aI aZ yX4_layOn wsX4_layOn rmX4_layOn [.ref q_t, .ref q_p1] (wX4 aI q_t q_t_bytes q_t_lengths q_t_widths q_t_ofNumbers t_bytes t_lengths t_columns t_rows t_widths t_ofNumbers t_laidWidth ++ wX2 aI q_p1 q_p1_bytes q_p1_lengths p1_bytes p1_lengths p1_count) (fun r w => r = none ∧ w = wX4 aI q_t q_t_bytes q_t_lengths q_t_widths q_t_ofNumbers t_bytes t_lengths t_columns t_rows t_widths t_ofNumbers t_laidWidth ++ wX2 aI q_p1 q_p1_bytes q_p1_lengths R.1 R.2.1 R.2.2) 0 0 := by
  refine z_met (cc := cX4_layOn) (maxL := 3) (ret := none) (by decide +kernel) rfl (Nat.le_of_ble_eq_true rfl) (fun X hX F E => ?_)
  exact b_X4_layOn_0 F E q_t q_t_bytes q_t_lengths q_t_widths q_t_ofNumbers q_p1 q_p1_bytes q_p1_lengths t_bytes t_lengths t_columns t_rows t_widths t_ofNumbers t_laidWidth p1_bytes p1_lengths p1_count ⟨rfl, rfl⟩ hf
