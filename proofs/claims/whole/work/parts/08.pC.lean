abbrev rmX3_slotOf : Room := { frames := 0, cells := 0, slots := 0, locals := 0 }
theorem mX3_slotOf : zY yX3_slotOf cX3_slotOf 2 (some .int) wsX3_slotOf 2 := ⟨⟨_, rfl⟩, by decide +kernel, by decide +kernel, by decide +kernel⟩
set_option maxRecDepth 20000 in
set_option maxHeartbeats 2000000 in
theorem b_X3_slotOf_0 {X : zX} {D : va_G} {aI aZ : ClassId} {w0 : va_W} {Qp : Option Value → va_W → Prop} (F : zF X D aI aZ cX3_slotOf 2 RX3 wsX3_slotOf rmX3_slotOf) (E : zT X D w0 Qp 0 0 (some .int))  (v0 : Int) (v1 : Int) {R : Int} (hQ : Qp (some (.int (zI R))) (([] : va_W))) (hf : f_X3_slotOf v0 v1 = some R) : zG X D 0 0 (([] : va_W)) 0 [(0, .int (zI v0)), (1, .int (zI v1))] [] := by
  unfold f_X3_slotOf at hf
  refine z_iload_n 0 F (dX3_slotOf_0 0 rfl) rfl ?_
  refine z_bipush F (dX3_slotOf_0 1 rfl) rfl ?_
  refine z_imul F (dX3_slotOf_0 2 rfl) ?_
  refine z_iload_n 1 F (dX3_slotOf_0 3 rfl) rfl ?_
  refine z_iadd F (dX3_slotOf_0 4 rfl) ?_
  cases hf
  exact z_iret [] F E (dX3_slotOf_0 5 rfl) rfl (by decide) hQ
set_option maxRecDepth 20000 in
set_option maxHeartbeats 2000000 in
theorem k_X3_slotOf (l : Launch) (D : va_G) (aI aZ : ClassId)  (v0 : Int) (v1 : Int) {R : Int} (hf : f_X3_slotOf v0 v1 = some R) : zC l D aI aZ yX3_slotOf wsX3_slotOf rmX3_slotOf [.int (zI v0), .int (zI v1)] (([] : va_W)) (fun r w => r = (some (.int (zI R))) ∧ w = ([] : va_W)) 0 0 := by
  refine z_met (cc := cX3_slotOf) (maxL := 2) (ret := (some .int)) (by decide +kernel) rfl (Nat.le_of_ble_eq_true rfl) (fun X hX F E => ?_)
  exact b_X3_slotOf_0 F E  v0 v1 ⟨rfl, rfl⟩ hf
theorem inw_X3_keep_3 : ∀ w ∈ u_ws RX3 TX3 3, w ∈ wsX3_keep := by decide +kernel
theorem fl_X3_keep_9 : zfl wsX3_keep RX3 9 3 0 RX3 TX3 3 := ⟨inw_X3_keep_3, rfl, by decide, by decide +kernel⟩
theorem sw1_X3_keep_X5_put : Cond.static yX5_put ∈ wsX3_keep := by decide +kernel
theorem sw2_X3_keep_X5_put : Cond.initialized yX5_put.cls ∈ wsX3_keep := by decide +kernel
theorem fl_X3_keep_15 : zfl wsX3_keep RX3 15 3 1 RX3 TX3 3 := ⟨inw_X3_keep_3, rfl, by decide, by decide +kernel⟩
theorem fl_X3_keep_18 : zfl wsX3_keep RX3 18 3 2 RX3 TX3 3 := ⟨inw_X3_keep_3, rfl, by decide, by decide +kernel⟩
abbrev rmX3_keep : Room := { frames := 1, cells := 0, slots := 0, locals := 22 }
theorem mX3_keep : zY yX3_keep cX3_keep 5 none wsX3_keep 4 := ⟨⟨_, rfl⟩, by decide +kernel, by decide +kernel, by decide +kernel⟩
set_option maxRecDepth 20000 in
set_option maxHeartbeats 2000000 in
theorem b_X3_keep_0 {X : zX} {D : va_G} {aI aZ : ClassId} {w0 : va_W} {Qp : Option Value → va_W → Prop} (F : zF X D aI aZ cX3_keep 5 RX3 wsX3_keep rmX3_keep) (E : zT X D w0 Qp 0 0 none) (q_t q_t_least q_t_second q_t_firstCut : Nat) (t_least : (Nat → Int)) (t_second : (Nat → Int)) (t_firstCut : (Nat → Int)) (v1 : Int) (v2 : Int) (v3 : Int) (v4 : Int) {R : (Nat → Int) × (Nat → Int) × (Nat → Int)} (hQ : Qp none (wX3 aI q_t q_t_least q_t_second q_t_firstCut R.1 R.2.1 R.2.2)) (hf : f_X3_keep t_least t_second t_firstCut v1 v2 v3 v4 = some R) : zG X D 0 0 (wX3 aI q_t q_t_least q_t_second q_t_firstCut t_least t_second t_firstCut) 0 [(0, .ref q_t), (1, .int (zI v1)), (2, .int (zI v2)), (3, .int (zI v3)), (4, .int (zI v4))] [] := by
  unfold f_X3_keep at hf
  refine z_aload_n 0 F (dX3_keep_0 0 rfl) rfl ?_
  refine z_get (v := .ref q_t_least) 0 F (dX3_keep_0 1 rfl) fl_X3_keep_9 rfl rfl ?_
  refine z_iload_n 1 F (dX3_keep_0 2 rfl) rfl ?_
  refine z_iload_n 2 F (dX3_keep_0 3 rfl) rfl ?_
  obtain ⟨o_1, h_2, hf⟩ := zb_some hf
  refine z_callN (As := [.ref q_t_least, .int (zI v1), .int (zI v2)]) (rest := []) (wr := [(q_t, .inr (3, [.ref q_t_least, .ref q_t_second, .ref q_t_firstCut]))] ++ ([(q_t_second, .inl (aI, 549, .inl (fun j => zI (t_second j))))] ++ [(q_t_firstCut, .inl (aI, 549, .inl (fun j => zI (t_firstCut j))))])) F (dX3_keep_0 4 rfl) (k_X5_put (zL X) D aI aZ q_t_least 549 (by decide) t_least v1 v2 h_2) gX3_keep_X5_put_n90 mX5_put nst_X3_X5_put sw1_X3_keep_X5_put sw2_X3_keep_X5_put [1] [0, 2, 3] rfl rfl (by decide) rfl rfl (Nat.le_of_ble_eq_true rfl) ⟨Nat.le_of_ble_eq_true rfl, Nat.le_of_ble_eq_true rfl⟩ ⟨rfl, rfl⟩ ⟨Nat.le_of_ble_eq_true rfl, Nat.le_of_ble_eq_true rfl⟩ (z_plain (ws' := wX3 aI q_t q_t_least q_t_second q_t_firstCut o_1 t_second t_firstCut) (st' := []) [0, 3, 1, 2] rfl (by decide) rfl ?_)
  refine z_aload_n 0 F (dX3_keep_0 5 rfl) rfl ?_
  refine z_get (v := .ref q_t_second) 0 F (dX3_keep_0 6 rfl) fl_X3_keep_15 rfl rfl ?_
  refine z_iload_n 1 F (dX3_keep_0 7 rfl) rfl ?_
  refine z_iload_n 3 F (dX3_keep_0 8 rfl) rfl ?_
  obtain ⟨o_3, h_4, hf⟩ := zb_some hf
  refine z_callN (As := [.ref q_t_second, .int (zI v1), .int (zI v3)]) (rest := []) (wr := [(q_t, .inr (3, [.ref q_t_least, .ref q_t_second, .ref q_t_firstCut]))] ++ ([(q_t_least, .inl (aI, 549, .inl (fun j => zI (o_1 j))))] ++ [(q_t_firstCut, .inl (aI, 549, .inl (fun j => zI (t_firstCut j))))])) F (dX3_keep_0 9 rfl) (k_X5_put (zL X) D aI aZ q_t_second 549 (by decide) t_second v1 v3 h_4) gX3_keep_X5_put_n90 mX5_put nst_X3_X5_put sw1_X3_keep_X5_put sw2_X3_keep_X5_put [2] [0, 1, 3] rfl rfl (by decide) rfl rfl (Nat.le_of_ble_eq_true rfl) ⟨Nat.le_of_ble_eq_true rfl, Nat.le_of_ble_eq_true rfl⟩ ⟨rfl, rfl⟩ ⟨Nat.le_of_ble_eq_true rfl, Nat.le_of_ble_eq_true rfl⟩ (z_plain (ws' := wX3 aI q_t q_t_least q_t_second q_t_firstCut o_1 o_3 t_firstCut) (st' := []) [0, 1, 3, 2] rfl (by decide) rfl ?_)
  refine z_aload_n 0 F (dX3_keep_0 10 rfl) rfl ?_
  refine z_get (v := .ref q_t_firstCut) 0 F (dX3_keep_0 11 rfl) fl_X3_keep_18 rfl rfl ?_
  refine z_iload_n 1 F (dX3_keep_0 12 rfl) rfl ?_
  refine z_iload 4 F (dX3_keep_0 13 rfl) rfl ?_
  obtain ⟨o_5, h_6, hf⟩ := zb_some hf
  refine z_callN (As := [.ref q_t_firstCut, .int (zI v1), .int (zI v4)]) (rest := []) (wr := [(q_t, .inr (3, [.ref q_t_least, .ref q_t_second, .ref q_t_firstCut]))] ++ ([(q_t_least, .inl (aI, 549, .inl (fun j => zI (o_1 j))))] ++ [(q_t_second, .inl (aI, 549, .inl (fun j => zI (o_3 j))))])) F (dX3_keep_0 14 rfl) (k_X5_put (zL X) D aI aZ q_t_firstCut 549 (by decide) t_firstCut v1 v4 h_6) gX3_keep_X5_put_n90 mX5_put nst_X3_X5_put sw1_X3_keep_X5_put sw2_X3_keep_X5_put [3] [0, 1, 2] rfl rfl (by decide) rfl rfl (Nat.le_of_ble_eq_true rfl) ⟨Nat.le_of_ble_eq_true rfl, Nat.le_of_ble_eq_true rfl⟩ ⟨rfl, rfl⟩ ⟨Nat.le_of_ble_eq_true rfl, Nat.le_of_ble_eq_true rfl⟩ (z_plain (ws' := wX3 aI q_t q_t_least q_t_second q_t_firstCut o_1 o_3 o_5) (st' := []) [0, 1, 2, 3] rfl (by decide) rfl ?_)
  cases hf
  exact z_vret [0, 1, 2, 3] F E (dX3_keep_0 15 rfl) rfl (by decide) hQ
set_option maxRecDepth 20000 in
set_option maxHeartbeats 2000000 in
theorem k_X3_keep (l : Launch) (D : va_G) (aI aZ : ClassId) (q_t q_t_least q_t_second q_t_firstCut : Nat) (t_least : (Nat → Int)) (t_second : (Nat → Int)) (t_firstCut : (Nat → Int)) (v1 : Int) (v2 : Int) (v3 : Int) (v4 : Int) {R : (Nat → Int) × (Nat → Int) × (Nat → Int)} (hf : f_X3_keep t_least t_second t_firstCut v1 v2 v3 v4 = some R) : zC l D aI aZ yX3_keep wsX3_keep rmX3_keep [.ref q_t, .int (zI v1), .int (zI v2), .int (zI v3), .int (zI v4)] (wX3 aI q_t q_t_least q_t_second q_t_firstCut t_least t_second t_firstCut) (fun r w => r = none ∧ w = wX3 aI q_t q_t_least q_t_second q_t_firstCut R.1 R.2.1 R.2.2) 0 0 := by
  refine z_met (cc := cX3_keep) (maxL := 5) (ret := none) (by decide +kernel) rfl (Nat.le_of_ble_eq_true rfl) (fun X hX F E => ?_)
  exact b_X3_keep_0 F E q_t q_t_least q_t_second q_t_firstCut t_least t_second t_firstCut v1 v2 v3 v4 ⟨rfl, rfl⟩ hf
theorem inw_X3_readFrom_0 : ∀ w ∈ u_ws RX0 TX0 12, w ∈ wsX3_readFrom := by decide +kernel
theorem fl_X3_readFrom_21 : zfn wsX3_readFrom RX3 21 0 8 RX0 TX0 12 := ⟨inw_X3_readFrom_0, rfl, by decide, by decide +kernel⟩
theorem inw_X3_readFrom_3 : ∀ w ∈ u_ws RX3 TX3 3, w ∈ wsX3_readFrom := by decide +kernel
theorem fl_X3_readFrom_9 : zfl wsX3_readFrom RX3 9 3 0 RX3 TX3 3 := ⟨inw_X3_readFrom_3, rfl, by decide, by decide +kernel⟩
theorem sw1_X3_readFrom_X5_pick : Cond.static yX5_pick ∈ wsX3_readFrom := by decide +kernel
theorem sw2_X3_readFrom_X5_pick : Cond.initialized yX5_pick.cls ∈ wsX3_readFrom := by decide +kernel
theorem fl_X3_readFrom_15 : zfl wsX3_readFrom RX3 15 3 1 RX3 TX3 3 := ⟨inw_X3_readFrom_3, rfl, by decide, by decide +kernel⟩
abbrev rmX3_readFrom : Room := { frames := 3, cells := 0, slots := 0, locals := 66 }
theorem mX3_readFrom : zY yX3_readFrom cX3_readFrom 12 none wsX3_readFrom 3 := ⟨⟨_, rfl⟩, by decide +kernel, by decide +kernel, by decide +kernel⟩
set_option maxRecDepth 20000 in
set_option maxHeartbeats 2000000 in
theorem b_X3_readFrom_l16 {X : zX} {D : va_G} {aI aZ : ClassId} {w0 : va_W} {Qp : Option Value → va_W → Prop} (F : zF X D aI aZ cX3_readFrom 12 RX3 wsX3_readFrom rmX3_readFrom) (E : zT X D w0 Qp 0 0 none) (q_t q_t_least q_t_second q_t_firstCut q_p1 q_p1_bytes q_p1_numbersOfLines q_p1_crossings q_p1_nextInks q_p1_gaps : Nat) (v2 : Int) (v3 : Int) (t_least : (Nat → Int)) (t_second : (Nat → Int)) (t_firstCut : (Nat → Int)) (p1_bytes : (Nat → Int)) (p1_numbersOfLines : (Nat → Int)) (p1_plainCount : Int) (p1_rules : Int) (p1_firstRule : Int) (p1_lastRule : Int) (p1_headed : Int) (p1_footed : Int) (p1_width : Int) (p1_crossings : (Nat → Int)) (p1_nextInks : (Nat → Int)) (p1_gaps : (Nat → Int)) {R : (Nat → Int) × (Nat → Int) × (Nat → Int)} (hQ : Qp none (wX3 aI q_t q_t_least q_t_second q_t_firstCut R.1 R.2.1 R.2.2 ++ wX0 aI q_p1 q_p1_bytes q_p1_numbersOfLines q_p1_crossings q_p1_nextInks q_p1_gaps p1_bytes p1_numbersOfLines p1_plainCount p1_rules p1_firstRule p1_lastRule p1_headed p1_footed p1_width p1_crossings p1_nextInks p1_gaps)) (K : Int → Int → Int → Option ((Nat → Int) × (Nat → Int) × (Nat → Int))) (hK : ∀ (v4 : Int) (v5 : Int) (v6 : Int), K v4 v5 v6 = some R → zG X D 0 0 (wX3 aI q_t q_t_least q_t_second q_t_firstCut t_least t_second t_firstCut ++ wX0 aI q_p1 q_p1_bytes q_p1_numbersOfLines q_p1_crossings q_p1_nextInks q_p1_gaps p1_bytes p1_numbersOfLines p1_plainCount p1_rules p1_firstRule p1_lastRule p1_headed p1_footed p1_width p1_crossings p1_nextInks p1_gaps) 131 [(0, .ref q_t), (2, .int (zI v2)), (3, .int (zI v3)), (4, .int (zI v4)), (5, .int (zI v5)), (6, .int (zI v6))] []) : ∀ (n : Nat) (v4 : Int) (v5 : Int) (v6 : Int) (v7 : Int), f_X3_readFrom_l16 K v2 v3 t_least t_second p1_width p1_crossings p1_nextInks p1_gaps n v4 v5 v6 v7 = some R → zG X D 0 0 (wX3 aI q_t q_t_least q_t_second q_t_firstCut t_least t_second t_firstCut ++ wX0 aI q_p1 q_p1_bytes q_p1_numbersOfLines q_p1_crossings q_p1_nextInks q_p1_gaps p1_bytes p1_numbersOfLines p1_plainCount p1_rules p1_firstRule p1_lastRule p1_headed p1_footed p1_width p1_crossings p1_nextInks p1_gaps) 16 [(0, .ref q_t), (1, .ref q_p1), (2, .int (zI v2)), (3, .int (zI v3)), (4, .int (zI v4)), (5, .int (zI v5)), (6, .int (zI v6)), (7, .int (zI v7))] [] := by
  intro n
  induction n with
  | zero => intro v4 v5 v6 v7 hf; rw [f_X3_readFrom_l16_z] at hf; cases hf
  | succ n ih =>
    intro v4 v5 v6 v7 hf
    rw [f_X3_readFrom_l16_s] at hf
    refine z_iload 7 F (dX3_readFrom_0 10 rfl) rfl ?_
    refine z_aload_n 1 F (dX3_readFrom_0 11 rfl) rfl ?_
    refine z_getN (v := .int (zI p1_width)) 4 F (dX3_readFrom_0 12 rfl) fl_X3_readFrom_21 rfl rfl ?_
    refine z_icmp_ge (tgt := 131) F (dX3_readFrom_0 13 rfl) rfl (fun c22 => ?_) (fun c22 => ?_)
    · replace hf := zif_f c22 hf
      refine z_lv [0, 2, 3, 4, 5, 6] rfl ?_
      exact hK v4 v5 v6 hf
    · replace hf := zif_t c22 hf
      refine z_iload_n 2 F (dX3_readFrom_0 14 rfl) rfl ?_
      refine z_iconst F (dX3_readFrom_0 15 rfl) ?_
      refine z_isub F (dX3_readFrom_0 16 rfl) ?_
      refine z_iload 7 F (dX3_readFrom_0 17 rfl) rfl ?_
      obtain ⟨o_1, h_2, hf⟩ := zb_some hf
      refine z_callS (As := [.int (zI (v2 - 1)), .int (zI v7)]) (rest := []) (wr := wX3 aI q_t q_t_least q_t_second q_t_firstCut t_least t_second t_firstCut ++ wX0 aI q_p1 q_p1_bytes q_p1_numbersOfLines q_p1_crossings q_p1_nextInks q_p1_gaps p1_bytes p1_numbersOfLines p1_plainCount p1_rules p1_firstRule p1_lastRule p1_headed p1_footed p1_width p1_crossings p1_nextInks p1_gaps) F (dX3_readFrom_0 18 rfl) (k_X3_slotOf (zL X) D aI aZ (v2 - 1) v7 h_2) gX3_readFrom_X3_slotOf mX3_slotOf rfl [] [0, 1, 2, 3, 4, 5, 6, 7, 8, 9] rfl rfl (by decide) rfl rfl (Nat.le_of_ble_eq_true rfl) ⟨Nat.le_of_ble_eq_true rfl, Nat.le_of_ble_eq_true rfl⟩ ⟨rfl, rfl⟩ ⟨Nat.le_of_ble_eq_true rfl, Nat.le_of_ble_eq_true rfl⟩ (z_plain (ws' := wX3 aI q_t q_t_least q_t_second q_t_firstCut t_least t_second t_firstCut ++ wX0 aI q_p1 q_p1_bytes q_p1_numbersOfLines q_p1_crossings q_p1_nextInks q_p1_gaps p1_bytes p1_numbersOfLines p1_plainCount p1_rules p1_firstRule p1_lastRule p1_headed p1_footed p1_width p1_crossings p1_nextInks p1_gaps) (st' := [.int (zI o_1)]) [0, 1, 2, 3, 4, 5, 6, 7, 8, 9] rfl (by decide) rfl ?_)
      refine z_istore (lv' := [(8, .int (zI o_1)), (0, .ref q_t), (1, .ref q_p1), (2, .int (zI v2)), (3, .int (zI v3)), (4, .int (zI v4)), (5, .int (zI v5)), (6, .int (zI v6)), (7, .int (zI v7))]) F (dX3_readFrom_0 19 rfl) (by decide) rfl ?_
      refine z_aload_n 2 F (dX3_readFrom_0 20 rfl) rfl ?_
      refine z_iload_n 4 F (dX3_readFrom_0 21 rfl) rfl ?_
      refine z_iload 8 F (dX3_readFrom_0 22 rfl) rfl ?_
      obtain ⟨o_3, h_4, hf⟩ := zb_some hf
      refine z_callV (As := [.int (zI v3), .int (zI v7)]) (rest := []) (wr := wX3 aI q_t q_t_least q_t_second q_t_firstCut t_least t_second t_firstCut) F (dX3_readFrom_0 23 rfl) (k_X0_columnCost (zL X) D aI aZ q_p1 q_p1_bytes q_p1_numbersOfLines q_p1_crossings q_p1_nextInks q_p1_gaps p1_bytes p1_numbersOfLines p1_plainCount p1_rules p1_firstRule p1_lastRule p1_headed p1_footed p1_width p1_crossings p1_nextInks p1_gaps v3 v7 h_4) gX3_readFrom_X0_columnCost mX0_columnCost rfl (ci := 0) rfl [4, 5, 6, 7, 8, 9] [0, 1, 2, 3] 0 rfl rfl rfl (by decide) rfl rfl (Nat.le_of_ble_eq_true rfl) ⟨Nat.le_of_ble_eq_true rfl, Nat.le_of_ble_eq_true rfl⟩ ⟨rfl, rfl⟩ ⟨Nat.le_of_ble_eq_true rfl, Nat.le_of_ble_eq_true rfl⟩ (z_plain (ws' := wX3 aI q_t q_t_least q_t_second q_t_firstCut t_least t_second t_firstCut ++ wX0 aI q_p1 q_p1_bytes q_p1_numbersOfLines q_p1_crossings q_p1_nextInks q_p1_gaps p1_bytes p1_numbersOfLines p1_plainCount p1_rules p1_firstRule p1_lastRule p1_headed p1_footed p1_width p1_crossings p1_nextInks p1_gaps) (st' := [.int (zI o_3)]) [0, 1, 2, 3, 4, 5, 6, 7, 8, 9] rfl (by decide) rfl ?_)
      refine z_aload_n 2 F (dX3_readFrom_0 24 rfl) rfl ?_
      refine z_iload 8 F (dX3_readFrom_0 25 rfl) rfl ?_
      obtain ⟨o_5, h_6, hf⟩ := zb_some hf
      refine z_callV (As := [.int (zI v7)]) (rest := [.int (zI o_3)]) (wr := wX3 aI q_t q_t_least q_t_second q_t_firstCut t_least t_second t_firstCut) F (dX3_readFrom_0 26 rfl) (k_X0_crossingCost (zL X) D aI aZ q_p1 q_p1_bytes q_p1_numbersOfLines q_p1_crossings q_p1_nextInks q_p1_gaps p1_bytes p1_numbersOfLines p1_plainCount p1_rules p1_firstRule p1_lastRule p1_headed p1_footed p1_width p1_crossings p1_nextInks p1_gaps v7 h_6) gX3_readFrom_X0_crossingCost mX0_crossingCost rfl (ci := 0) rfl [4, 5, 6, 7, 8, 9] [0, 1, 2, 3] 0 rfl rfl rfl (by decide) rfl rfl (Nat.le_of_ble_eq_true rfl) ⟨Nat.le_of_ble_eq_true rfl, Nat.le_of_ble_eq_true rfl⟩ ⟨rfl, rfl⟩ ⟨Nat.le_of_ble_eq_true rfl, Nat.le_of_ble_eq_true rfl⟩ (z_plain (ws' := wX3 aI q_t q_t_least q_t_second q_t_firstCut t_least t_second t_firstCut ++ wX0 aI q_p1 q_p1_bytes q_p1_numbersOfLines q_p1_crossings q_p1_nextInks q_p1_gaps p1_bytes p1_numbersOfLines p1_plainCount p1_rules p1_firstRule p1_lastRule p1_headed p1_footed p1_width p1_crossings p1_nextInks p1_gaps) (st' := [.int (zI o_5), .int (zI o_3)]) [0, 1, 2, 3, 4, 5, 6, 7, 8, 9] rfl (by decide) rfl ?_)
      refine z_iadd F (dX3_readFrom_0 27 rfl) ?_
      refine z_istore (lv' := [(9, .int (zI (o_3 + o_5))), (8, .int (zI o_1)), (0, .ref q_t), (1, .ref q_p1), (2, .int (zI v2)), (3, .int (zI v3)), (4, .int (zI v4)), (5, .int (zI v5)), (6, .int (zI v6)), (7, .int (zI v7))]) F (dX3_readFrom_0 28 rfl) (by decide) rfl ?_
      refine z_ldc (x := 1000000) (x' := 1000000) F (dX3_readFrom_0 29 rfl) (by decide +kernel) rfl ?_
      refine z_iload 0 F (dX3_readFrom_0 30 rfl) rfl ?_
      refine z_aload_n 2 F (dX3_readFrom_0 31 rfl) rfl ?_
      refine z_get (v := .ref q_t_least) 0 F (dX3_readFrom_0 32 rfl) fl_X3_readFrom_9 rfl rfl ?_
      refine z_iload 1 F (dX3_readFrom_0 33 rfl) rfl ?_
      obtain ⟨o_7, h_8, hf⟩ := zb_some hf
      refine z_callN (As := [.ref q_t_least, .int (zI o_1)]) (rest := [.int (zI (o_3 + o_5)), .int (zI 1000000)]) (wr := [(q_t, .inr (3, [.ref q_t_least, .ref q_t_second, .ref q_t_firstCut]))] ++ ([(q_t_second, .inl (aI, 549, .inl (fun j => zI (t_second j))))] ++ ([(q_t_firstCut, .inl (aI, 549, .inl (fun j => zI (t_firstCut j))))] ++ wX0 aI q_p1 q_p1_bytes q_p1_numbersOfLines q_p1_crossings q_p1_nextInks q_p1_gaps p1_bytes p1_numbersOfLines p1_plainCount p1_rules p1_firstRule p1_lastRule p1_headed p1_footed p1_width p1_crossings p1_nextInks p1_gaps))) F (dX3_readFrom_0 34 rfl) (k_X5_pick (zL X) D aI aZ q_t_least 549 (by decide) t_least o_1 h_8) gX3_readFrom_X5_pick_n69 mX5_pick nst_X3_X5_pick sw1_X3_readFrom_X5_pick sw2_X3_readFrom_X5_pick [1] [0, 2, 3, 4, 5, 6, 7, 8, 9] rfl rfl (by decide) rfl rfl (Nat.le_of_ble_eq_true rfl) ⟨Nat.le_of_ble_eq_true rfl, Nat.le_of_ble_eq_true rfl⟩ ⟨rfl, rfl⟩ ⟨Nat.le_of_ble_eq_true rfl, Nat.le_of_ble_eq_true rfl⟩ (z_plain (ws' := wX3 aI q_t q_t_least q_t_second q_t_firstCut t_least t_second t_firstCut ++ wX0 aI q_p1 q_p1_bytes q_p1_numbersOfLines q_p1_crossings q_p1_nextInks q_p1_gaps p1_bytes p1_numbersOfLines p1_plainCount p1_rules p1_firstRule p1_lastRule p1_headed p1_footed p1_width p1_crossings p1_nextInks p1_gaps) (st' := [.int (zI o_7), .int (zI (o_3 + o_5)), .int (zI 1000000)]) [0, 9, 1, 2, 3, 4, 5, 6, 7, 8] rfl (by decide) rfl ?_)
      refine z_iadd F (dX3_readFrom_0 35 rfl) ?_
      refine z_mmin F (dX3_readFrom_0 36 rfl) (by decide +kernel) (by decide +kernel) (by decide +kernel) (by decide +kernel) ⟨Nat.le_of_ble_eq_true rfl, Nat.le_of_ble_eq_true rfl⟩ (Nat.zero_le _) (Nat.zero_le _) ?_
      refine z_istore (lv' := [(10, .int (zI (zmin 1000000 ((o_3 + o_5) + o_7)))), (9, .int (zI (o_3 + o_5))), (8, .int (zI o_1)), (0, .ref q_t), (1, .ref q_p1), (2, .int (zI v2)), (3, .int (zI v3)), (4, .int (zI v4)), (5, .int (zI v5)), (6, .int (zI v6)), (7, .int (zI v7))]) F (dX3_readFrom_0 37 rfl) (by decide) rfl ?_
      refine z_ldc (x := 1000000) (x' := 1000000) F (dX3_readFrom_0 38 rfl) (by decide +kernel) rfl ?_
      refine z_iload 1 F (dX3_readFrom_0 39 rfl) rfl ?_
      refine z_aload_n 3 F (dX3_readFrom_1 0 rfl) rfl ?_
      refine z_get (v := .ref q_t_second) 0 F (dX3_readFrom_1 1 rfl) fl_X3_readFrom_15 rfl rfl ?_
      refine z_iload 2 F (dX3_readFrom_1 2 rfl) rfl ?_
      obtain ⟨o_9, h_10, hf⟩ := zb_some hf
      refine z_callN (As := [.ref q_t_second, .int (zI o_1)]) (rest := [.int (zI (o_3 + o_5)), .int (zI 1000000)]) (wr := [(q_t, .inr (3, [.ref q_t_least, .ref q_t_second, .ref q_t_firstCut]))] ++ ([(q_t_least, .inl (aI, 549, .inl (fun j => zI (t_least j))))] ++ ([(q_t_firstCut, .inl (aI, 549, .inl (fun j => zI (t_firstCut j))))] ++ wX0 aI q_p1 q_p1_bytes q_p1_numbersOfLines q_p1_crossings q_p1_nextInks q_p1_gaps p1_bytes p1_numbersOfLines p1_plainCount p1_rules p1_firstRule p1_lastRule p1_headed p1_footed p1_width p1_crossings p1_nextInks p1_gaps))) F (dX3_readFrom_1 3 rfl) (k_X5_pick (zL X) D aI aZ q_t_second 549 (by decide) t_second o_1 h_10) gX3_readFrom_X5_pick_n69 mX5_pick nst_X3_X5_pick sw1_X3_readFrom_X5_pick sw2_X3_readFrom_X5_pick [2] [0, 1, 3, 4, 5, 6, 7, 8, 9] rfl rfl (by decide) rfl rfl (Nat.le_of_ble_eq_true rfl) ⟨Nat.le_of_ble_eq_true rfl, Nat.le_of_ble_eq_true rfl⟩ ⟨rfl, rfl⟩ ⟨Nat.le_of_ble_eq_true rfl, Nat.le_of_ble_eq_true rfl⟩ (z_plain (ws' := wX3 aI q_t q_t_least q_t_second q_t_firstCut t_least t_second t_firstCut ++ wX0 aI q_p1 q_p1_bytes q_p1_numbersOfLines q_p1_crossings q_p1_nextInks q_p1_gaps p1_bytes p1_numbersOfLines p1_plainCount p1_rules p1_firstRule p1_lastRule p1_headed p1_footed p1_width p1_crossings p1_nextInks p1_gaps) (st' := [.int (zI o_9), .int (zI (o_3 + o_5)), .int (zI 1000000)]) [0, 1, 9, 2, 3, 4, 5, 6, 7, 8] rfl (by decide) rfl ?_)
      refine z_iadd F (dX3_readFrom_1 4 rfl) ?_
      refine z_mmin F (dX3_readFrom_1 5 rfl) (by decide +kernel) (by decide +kernel) (by decide +kernel) (by decide +kernel) ⟨Nat.le_of_ble_eq_true rfl, Nat.le_of_ble_eq_true rfl⟩ (Nat.zero_le _) (Nat.zero_le _) ?_
      refine z_istore (lv' := [(11, .int (zI (zmin 1000000 ((o_3 + o_5) + o_9)))), (10, .int (zI (zmin 1000000 ((o_3 + o_5) + o_7)))), (9, .int (zI (o_3 + o_5))), (8, .int (zI o_1)), (0, .ref q_t), (1, .ref q_p1), (2, .int (zI v2)), (3, .int (zI v3)), (4, .int (zI v4)), (5, .int (zI v5)), (6, .int (zI v6)), (7, .int (zI v7))]) F (dX3_readFrom_1 6 rfl) (by decide) rfl ?_
      refine z_iload 1 F (dX3_readFrom_1 7 rfl) rfl ?_
      refine z_iload 8 F (dX3_readFrom_1 8 rfl) rfl ?_
      refine z_icmp_ge (tgt := 116) F (dX3_readFrom_1 9 rfl) rfl (fun c93 => ?_) (fun c93 => ?_)
      · replace hf := zif_f c93 hf
        refine z_iload 9 F (dX3_readFrom_1 19 rfl) rfl ?_
        refine z_iload 1 F (dX3_readFrom_1 20 rfl) rfl ?_
        refine z_mmin F (dX3_readFrom_1 21 rfl) (by decide +kernel) (by decide +kernel) (by decide +kernel) (by decide +kernel) ⟨Nat.le_of_ble_eq_true rfl, Nat.le_of_ble_eq_true rfl⟩ (Nat.zero_le _) (Nat.zero_le _) ?_
        refine z_istore (lv' := [(5, .int (zI (zmin v5 (zmin 1000000 ((o_3 + o_5) + o_7))))), (11, .int (zI (zmin 1000000 ((o_3 + o_5) + o_9)))), (10, .int (zI (zmin 1000000 ((o_3 + o_5) + o_7)))), (9, .int (zI (o_3 + o_5))), (8, .int (zI o_1)), (0, .ref q_t), (1, .ref q_p1), (2, .int (zI v2)), (3, .int (zI v3)), (4, .int (zI v4)), (6, .int (zI v6)), (7, .int (zI v7))]) F (dX3_readFrom_1 22 rfl) (by decide) rfl ?_
        refine z_iinc (lv' := [(7, .int (zI (v7 + 1))), (5, .int (zI (zmin v5 (zmin 1000000 ((o_3 + o_5) + o_7))))), (11, .int (zI (zmin 1000000 ((o_3 + o_5) + o_9)))), (10, .int (zI (zmin 1000000 ((o_3 + o_5) + o_7)))), (9, .int (zI (o_3 + o_5))), (8, .int (zI o_1)), (0, .ref q_t), (1, .ref q_p1), (2, .int (zI v2)), (3, .int (zI v3)), (4, .int (zI v4)), (6, .int (zI v6))]) 11 F (dX3_readFrom_1 23 rfl) rfl (by decide) rfl ?_
        refine z_goto (tgt := 16) F (dX3_readFrom_1 24 rfl) rfl ?_
        refine z_lv [6, 7, 8, 9, 10, 1, 11, 0] rfl ?_
        exact ih v4 (zmin v5 (zmin 1000000 ((o_3 + o_5) + o_7))) v6 (v7 + 1) hf
      · replace hf := zif_t c93 hf
        refine z_iload 8 F (dX3_readFrom_1 10 rfl) rfl ?_
        refine z_iload 0 F (dX3_readFrom_1 11 rfl) rfl ?_
        refine z_mmin F (dX3_readFrom_1 12 rfl) (by decide +kernel) (by decide +kernel) (by decide +kernel) (by decide +kernel) ⟨Nat.le_of_ble_eq_true rfl, Nat.le_of_ble_eq_true rfl⟩ (Nat.zero_le _) (Nat.zero_le _) ?_
        refine z_istore (lv' := [(5, .int (zI (zmin v4 (zmin 1000000 ((o_3 + o_5) + o_9))))), (11, .int (zI (zmin 1000000 ((o_3 + o_5) + o_9)))), (10, .int (zI (zmin 1000000 ((o_3 + o_5) + o_7)))), (9, .int (zI (o_3 + o_5))), (8, .int (zI o_1)), (0, .ref q_t), (1, .ref q_p1), (2, .int (zI v2)), (3, .int (zI v3)), (4, .int (zI v4)), (6, .int (zI v6)), (7, .int (zI v7))]) F (dX3_readFrom_1 13 rfl) (by decide) rfl ?_
        refine z_iload 2 F (dX3_readFrom_1 14 rfl) rfl ?_
        refine z_istore (lv' := [(4, .int (zI (zmin 1000000 ((o_3 + o_5) + o_7)))), (5, .int (zI (zmin v4 (zmin 1000000 ((o_3 + o_5) + o_9))))), (11, .int (zI (zmin 1000000 ((o_3 + o_5) + o_9)))), (10, .int (zI (zmin 1000000 ((o_3 + o_5) + o_7)))), (9, .int (zI (o_3 + o_5))), (8, .int (zI o_1)), (0, .ref q_t), (1, .ref q_p1), (2, .int (zI v2)), (3, .int (zI v3)), (6, .int (zI v6)), (7, .int (zI v7))]) F (dX3_readFrom_1 15 rfl) (by decide) rfl ?_
        refine z_iload 11 F (dX3_readFrom_1 16 rfl) rfl ?_
        refine z_istore (lv' := [(6, .int (zI v7)), (4, .int (zI (zmin 1000000 ((o_3 + o_5) + o_7)))), (5, .int (zI (zmin v4 (zmin 1000000 ((o_3 + o_5) + o_9))))), (11, .int (zI (zmin 1000000 ((o_3 + o_5) + o_9)))), (10, .int (zI (zmin 1000000 ((o_3 + o_5) + o_7)))), (9, .int (zI (o_3 + o_5))), (8, .int (zI o_1)), (0, .ref q_t), (1, .ref q_p1), (2, .int (zI v2)), (3, .int (zI v3)), (7, .int (zI v7))]) F (dX3_readFrom_1 17 rfl) (by decide) rfl ?_
        refine z_goto (tgt := 125) F (dX3_readFrom_1 18 rfl) rfl ?_
        refine z_iinc (lv' := [(7, .int (zI (v7 + 1))), (6, .int (zI v7)), (4, .int (zI (zmin 1000000 ((o_3 + o_5) + o_7)))), (5, .int (zI (zmin v4 (zmin 1000000 ((o_3 + o_5) + o_9))))), (11, .int (zI (zmin 1000000 ((o_3 + o_5) + o_9)))), (10, .int (zI (zmin 1000000 ((o_3 + o_5) + o_7)))), (9, .int (zI (o_3 + o_5))), (8, .int (zI o_1)), (0, .ref q_t), (1, .ref q_p1), (2, .int (zI v2)), (3, .int (zI v3))]) 11 F (dX3_readFrom_1 23 rfl) rfl (by decide) rfl ?_
        refine z_goto (tgt := 16) F (dX3_readFrom_1 24 rfl) rfl ?_
        refine z_lv [8, 9, 10, 11, 2, 3, 1, 0] rfl ?_
        exact ih (zmin 1000000 ((o_3 + o_5) + o_7)) (zmin v4 (zmin 1000000 ((o_3 + o_5) + o_9))) v7 (v7 + 1) hf
set_option maxRecDepth 20000 in
set_option maxHeartbeats 2000000 in
theorem b_X3_readFrom_0 {X : zX} {D : va_G} {aI aZ : ClassId} {w0 : va_W} {Qp : Option Value → va_W → Prop} (F : zF X D aI aZ cX3_readFrom 12 RX3 wsX3_readFrom rmX3_readFrom) (E : zT X D w0 Qp 0 0 none) (q_t q_t_least q_t_second q_t_firstCut q_p1 q_p1_bytes q_p1_numbersOfLines q_p1_crossings q_p1_nextInks q_p1_gaps : Nat) (t_least : (Nat → Int)) (t_second : (Nat → Int)) (t_firstCut : (Nat → Int)) (p1_bytes : (Nat → Int)) (p1_numbersOfLines : (Nat → Int)) (p1_plainCount : Int) (p1_rules : Int) (p1_firstRule : Int) (p1_lastRule : Int) (p1_headed : Int) (p1_footed : Int) (p1_width : Int) (p1_crossings : (Nat → Int)) (p1_nextInks : (Nat → Int)) (p1_gaps : (Nat → Int)) (v2 : Int) (v3 : Int) {R : (Nat → Int) × (Nat → Int) × (Nat → Int)} (hQ : Qp none (wX3 aI q_t q_t_least q_t_second q_t_firstCut R.1 R.2.1 R.2.2 ++ wX0 aI q_p1 q_p1_bytes q_p1_numbersOfLines q_p1_crossings q_p1_nextInks q_p1_gaps p1_bytes p1_numbersOfLines p1_plainCount p1_rules p1_firstRule p1_lastRule p1_headed p1_footed p1_width p1_crossings p1_nextInks p1_gaps)) (hf : f_X3_readFrom t_least t_second t_firstCut p1_width p1_crossings p1_nextInks p1_gaps v2 v3 = some R) : zG X D 0 0 (wX3 aI q_t q_t_least q_t_second q_t_firstCut t_least t_second t_firstCut ++ wX0 aI q_p1 q_p1_bytes q_p1_numbersOfLines q_p1_crossings q_p1_nextInks q_p1_gaps p1_bytes p1_numbersOfLines p1_plainCount p1_rules p1_firstRule p1_lastRule p1_headed p1_footed p1_width p1_crossings p1_nextInks p1_gaps) 0 [(0, .ref q_t), (1, .ref q_p1), (2, .int (zI v2)), (3, .int (zI v3))] [] := by
  unfold f_X3_readFrom at hf
  refine z_ldc (x := 1000000) (x' := 1000000) F (dX3_readFrom_0 0 rfl) (by decide +kernel) rfl ?_
  refine z_istore (lv' := [(4, .int (zI 1000000)), (0, .ref q_t), (1, .ref q_p1), (2, .int (zI v2)), (3, .int (zI v3))]) F (dX3_readFrom_0 1 rfl) (by decide) rfl ?_
  refine z_ldc (x := 1000000) (x' := 1000000) F (dX3_readFrom_0 2 rfl) (by decide +kernel) rfl ?_
  refine z_istore (lv' := [(5, .int (zI 1000000)), (4, .int (zI 1000000)), (0, .ref q_t), (1, .ref q_p1), (2, .int (zI v2)), (3, .int (zI v3))]) F (dX3_readFrom_0 3 rfl) (by decide) rfl ?_
  refine z_iconst F (dX3_readFrom_0 4 rfl) ?_
  refine z_istore (lv' := [(6, .int (zI 0)), (5, .int (zI 1000000)), (4, .int (zI 1000000)), (0, .ref q_t), (1, .ref q_p1), (2, .int (zI v2)), (3, .int (zI v3))]) F (dX3_readFrom_0 5 rfl) (by decide) rfl ?_
  refine z_iload_n 6 F (dX3_readFrom_0 6 rfl) rfl ?_
  refine z_iconst F (dX3_readFrom_0 7 rfl) ?_
  refine z_iadd F (dX3_readFrom_0 8 rfl) ?_
  refine z_istore (lv' := [(7, .int (zI (v3 + 1))), (6, .int (zI 0)), (5, .int (zI 1000000)), (4, .int (zI 1000000)), (0, .ref q_t), (1, .ref q_p1), (2, .int (zI v2)), (3, .int (zI v3))]) F (dX3_readFrom_0 9 rfl) (by decide) rfl ?_
  refine z_lv [4, 5, 6, 7, 3, 2, 1, 0] rfl ?_
  refine b_X3_readFrom_l16 F E q_t q_t_least q_t_second q_t_firstCut q_p1 q_p1_bytes q_p1_numbersOfLines q_p1_crossings q_p1_nextInks q_p1_gaps v2 v3 t_least t_second t_firstCut p1_bytes p1_numbersOfLines p1_plainCount p1_rules p1_firstRule p1_lastRule p1_headed p1_footed p1_width p1_crossings p1_nextInks p1_gaps hQ _ ?_ zN 1000000 1000000 0 (v3 + 1) hf
  intro v4_11 v5_12 v6_13 hf
  refine z_aload_n 0 F (dX3_readFrom_1 25 rfl) rfl ?_
  refine z_iload_n 1 F (dX3_readFrom_1 26 rfl) rfl ?_
  refine z_iload_n 2 F (dX3_readFrom_1 27 rfl) rfl ?_
  obtain ⟨o_14, h_15, hf⟩ := zb_some hf
  refine z_callS (As := [.int (zI v2), .int (zI v3)]) (rest := [.ref q_t]) (wr := wX3 aI q_t q_t_least q_t_second q_t_firstCut t_least t_second t_firstCut ++ wX0 aI q_p1 q_p1_bytes q_p1_numbersOfLines q_p1_crossings q_p1_nextInks q_p1_gaps p1_bytes p1_numbersOfLines p1_plainCount p1_rules p1_firstRule p1_lastRule p1_headed p1_footed p1_width p1_crossings p1_nextInks p1_gaps) F (dX3_readFrom_1 28 rfl) (k_X3_slotOf (zL X) D aI aZ v2 v3 h_15) gX3_readFrom_X3_slotOf mX3_slotOf rfl [] [0, 1, 2, 3, 4, 5, 6, 7, 8, 9] rfl rfl (by decide) rfl rfl (Nat.le_of_ble_eq_true rfl) ⟨Nat.le_of_ble_eq_true rfl, Nat.le_of_ble_eq_true rfl⟩ ⟨rfl, rfl⟩ ⟨Nat.le_of_ble_eq_true rfl, Nat.le_of_ble_eq_true rfl⟩ (z_plain (ws' := wX3 aI q_t q_t_least q_t_second q_t_firstCut t_least t_second t_firstCut ++ wX0 aI q_p1 q_p1_bytes q_p1_numbersOfLines q_p1_crossings q_p1_nextInks q_p1_gaps p1_bytes p1_numbersOfLines p1_plainCount p1_rules p1_firstRule p1_lastRule p1_headed p1_footed p1_width p1_crossings p1_nextInks p1_gaps) (st' := [.int (zI o_14), .ref q_t]) [0, 1, 2, 3, 4, 5, 6, 7, 8, 9] rfl (by decide) rfl ?_)
  refine z_iload 3 F (dX3_readFrom_1 29 rfl) rfl ?_
  refine z_iload 4 F (dX3_readFrom_1 30 rfl) rfl ?_
  refine z_iload 5 F (dX3_readFrom_1 31 rfl) rfl ?_
  obtain ⟨o_16, h_17, hf⟩ := zb_some hf
  refine z_callV (As := [.int (zI o_14), .int (zI v4_11), .int (zI v5_12), .int (zI v6_13)]) (rest := []) (wr := wX0 aI q_p1 q_p1_bytes q_p1_numbersOfLines q_p1_crossings q_p1_nextInks q_p1_gaps p1_bytes p1_numbersOfLines p1_plainCount p1_rules p1_firstRule p1_lastRule p1_headed p1_footed p1_width p1_crossings p1_nextInks p1_gaps) F (dX3_readFrom_1 32 rfl) (k_X3_keep (zL X) D aI aZ q_t q_t_least q_t_second q_t_firstCut t_least t_second t_firstCut o_14 v4_11 v5_12 v6_13 h_17) gX3_readFrom_X3_keep mX3_keep rfl (ci := 3) rfl [0, 1, 2, 3] [4, 5, 6, 7, 8, 9] 0 rfl rfl rfl (by decide) rfl rfl (Nat.le_of_ble_eq_true rfl) ⟨Nat.le_of_ble_eq_true rfl, Nat.le_of_ble_eq_true rfl⟩ ⟨rfl, rfl⟩ ⟨Nat.le_of_ble_eq_true rfl, Nat.le_of_ble_eq_true rfl⟩ (z_plain (ws' := wX3 aI q_t q_t_least q_t_second q_t_firstCut o_16.1 o_16.2.1 o_16.2.2 ++ wX0 aI q_p1 q_p1_bytes q_p1_numbersOfLines q_p1_crossings q_p1_nextInks q_p1_gaps p1_bytes p1_numbersOfLines p1_plainCount p1_rules p1_firstRule p1_lastRule p1_headed p1_footed p1_width p1_crossings p1_nextInks p1_gaps) (st' := []) [6, 7, 8, 9, 0, 1, 2, 3, 4, 5] rfl (by decide) rfl ?_)
  cases hf
  exact z_vret [0, 1, 2, 3, 4, 5, 6, 7, 8, 9] F E (dX3_readFrom_1 33 rfl) rfl (by decide) hQ
set_option maxRecDepth 20000 in
set_option maxHeartbeats 2000000 in
theorem k_X3_readFrom (l : Launch) (D : va_G) (aI aZ : ClassId) (q_t q_t_least q_t_second q_t_firstCut q_p1 q_p1_bytes q_p1_numbersOfLines q_p1_crossings q_p1_nextInks q_p1_gaps : Nat) (t_least : (Nat → Int)) (t_second : (Nat → Int)) (t_firstCut : (Nat → Int)) (p1_bytes : (Nat → Int)) (p1_numbersOfLines : (Nat → Int)) (p1_plainCount : Int) (p1_rules : Int) (p1_firstRule : Int) (p1_lastRule : Int) (p1_headed : Int) (p1_footed : Int) (p1_width : Int) (p1_crossings : (Nat → Int)) (p1_nextInks : (Nat → Int)) (p1_gaps : (Nat → Int)) (v2 : Int) (v3 : Int) {R : (Nat → Int) × (Nat → Int) × (Nat → Int)} (hf : f_X3_readFrom t_least t_second t_firstCut p1_width p1_crossings p1_nextInks p1_gaps v2 v3 = some R) : zC l D aI aZ yX3_readFrom wsX3_readFrom rmX3_readFrom [.ref q_t, .ref q_p1, .int (zI v2), .int (zI v3)] (wX3 aI q_t q_t_least q_t_second q_t_firstCut t_least t_second t_firstCut ++ wX0 aI q_p1 q_p1_bytes q_p1_numbersOfLines q_p1_crossings q_p1_nextInks q_p1_gaps p1_bytes p1_numbersOfLines p1_plainCount p1_rules p1_firstRule p1_lastRule p1_headed p1_footed p1_width p1_crossings p1_nextInks p1_gaps) (fun r w => r = none ∧ w = wX3 aI q_t q_t_least q_t_second q_t_firstCut R.1 R.2.1 R.2.2 ++ wX0 aI q_p1 q_p1_bytes q_p1_numbersOfLines q_p1_crossings q_p1_nextInks q_p1_gaps p1_bytes p1_numbersOfLines p1_plainCount p1_rules p1_firstRule p1_lastRule p1_headed p1_footed p1_width p1_crossings p1_nextInks p1_gaps) 0 0 := by
  refine z_met (cc := cX3_readFrom) (maxL := 12) (ret := none) (by decide +kernel) rfl (Nat.le_of_ble_eq_true rfl) (fun X hX F E => ?_)
  exact b_X3_readFrom_0 F E q_t q_t_least q_t_second q_t_firstCut q_p1 q_p1_bytes q_p1_numbersOfLines q_p1_crossings q_p1_nextInks q_p1_gaps t_least t_second t_firstCut p1_bytes p1_numbersOfLines p1_plainCount p1_rules p1_firstRule p1_lastRule p1_headed p1_footed p1_width p1_crossings p1_nextInks p1_gaps v2 v3 ⟨rfl, rfl⟩ hf
theorem inw_X3_chooseColumns_1 : ∀ w ∈ u_ws RX1 TX1 7, w ∈ wsX3_chooseColumns := by decide +kernel
theorem fl_X3_chooseColumns_78 : zfn wsX3_chooseColumns RX3 78 1 2 RX1 TX1 7 := ⟨inw_X3_chooseColumns_1, rfl, by decide, by decide +kernel⟩
theorem fl_X3_chooseColumns_81 : zfn wsX3_chooseColumns RX3 81 1 3 RX1 TX1 7 := ⟨inw_X3_chooseColumns_1, rfl, by decide, by decide +kernel⟩
theorem fl_X3_chooseColumns_84 : zfn wsX3_chooseColumns RX3 84 1 1 RX1 TX1 7 := ⟨inw_X3_chooseColumns_1, rfl, by decide, by decide +kernel⟩
theorem inw_X3_chooseColumns_3 : ∀ w ∈ u_ws RX3 TX3 3, w ∈ wsX3_chooseColumns := by decide +kernel
theorem fl_X3_chooseColumns_9 : zfl wsX3_chooseColumns RX3 9 3 0 RX3 TX3 3 := ⟨inw_X3_chooseColumns_3, rfl, by decide, by decide +kernel⟩
theorem sw1_X3_chooseColumns_X5_pick : Cond.static yX5_pick ∈ wsX3_chooseColumns := by decide +kernel
theorem sw2_X3_chooseColumns_X5_pick : Cond.initialized yX5_pick.cls ∈ wsX3_chooseColumns := by decide +kernel
theorem fl_X3_chooseColumns_15 : zfl wsX3_chooseColumns RX3 15 3 1 RX3 TX3 3 := ⟨inw_X3_chooseColumns_3, rfl, by decide, by decide +kernel⟩
abbrev rmX3_chooseColumns : Room := { frames := 1, cells := 0, slots := 0, locals := 21 }
theorem mX3_chooseColumns : zY yX3_chooseColumns cX3_chooseColumns 5 none wsX3_chooseColumns 1 := ⟨⟨_, rfl⟩, by decide +kernel, by decide +kernel, by decide +kernel⟩
set_option maxRecDepth 20000 in
set_option maxHeartbeats 2000000 in
theorem b_X3_chooseColumns_l19 {X : zX} {D : va_G} {aI aZ : ClassId} {w0 : va_W} {Qp : Option Value → va_W → Prop} (F : zF X D aI aZ cX3_chooseColumns 5 RX3 wsX3_chooseColumns rmX3_chooseColumns) (E : zT X D w0 Qp 0 0 none) (q_t q_t_least q_t_second q_t_firstCut q_p1 q_p1_cuts : Nat) (t_least : (Nat → Int)) (t_second : (Nat → Int)) (t_firstCut : (Nat → Int)) (p1_cuts : (Nat → Int)) (p1_plainLines : Int) (p1_rules : Int) (p1_joinedLines : Int) {R : Int × Int × Int} (hQ : Qp none (wX3 aI q_t q_t_least q_t_second q_t_firstCut t_least t_second t_firstCut ++ wX1 aI q_p1 q_p1_cuts p1_cuts R.1 R.2.1 R.2.2 p1_plainLines p1_rules p1_joinedLines)) (K : Int → Int → Int → Option (Int × Int × Int)) (hK : ∀ (p1_columns : Int) (p1_best : Int) (p1_next : Int), K p1_columns p1_best p1_next = some R → zG X D 0 0 (wX3 aI q_t q_t_least q_t_second q_t_firstCut t_least t_second t_firstCut ++ wX1 aI q_p1 q_p1_cuts p1_cuts p1_columns p1_best p1_next p1_plainLines p1_rules p1_joinedLines) 102 [] []) : ∀ (n : Nat) (v2 : Int) (p1_columns : Int) (p1_best : Int) (p1_next : Int), f_X3_chooseColumns_l19 K t_least t_second n v2 p1_columns p1_best p1_next = some R → zG X D 0 0 (wX3 aI q_t q_t_least q_t_second q_t_firstCut t_least t_second t_firstCut ++ wX1 aI q_p1 q_p1_cuts p1_cuts p1_columns p1_best p1_next p1_plainLines p1_rules p1_joinedLines) 19 [(0, .ref q_t), (1, .ref q_p1), (2, .int (zI v2))] [] := by
  intro n
  induction n with
  | zero => intro v2 p1_columns p1_best p1_next hf; rw [f_X3_chooseColumns_l19_z] at hf; cases hf
  | succ n ih =>
    intro v2 p1_columns p1_best p1_next hf
    rw [f_X3_chooseColumns_l19_s] at hf
    refine z_iload_n 2 F (dX3_chooseColumns_0 11 rfl) rfl ?_
    refine z_bipush F (dX3_chooseColumns_0 12 rfl) rfl ?_
    refine z_icmp_gt (tgt := 102) F (dX3_chooseColumns_0 13 rfl) rfl (fun c22 => ?_) (fun c22 => ?_)
    · replace hf := zif_t c22 hf
      refine z_lv [] rfl ?_
      exact hK p1_columns p1_best p1_next hf
    · replace hf := zif_f c22 hf
      refine z_iload_n 2 F (dX3_chooseColumns_0 14 rfl) rfl ?_
      refine z_iconst F (dX3_chooseColumns_0 15 rfl) ?_
      obtain ⟨o_1, h_2, hf⟩ := zb_some hf
      refine z_callS (As := [.int (zI v2), .int (zI 0)]) (rest := []) (wr := wX3 aI q_t q_t_least q_t_second q_t_firstCut t_least t_second t_firstCut ++ wX1 aI q_p1 q_p1_cuts p1_cuts p1_columns p1_best p1_next p1_plainLines p1_rules p1_joinedLines) F (dX3_chooseColumns_0 16 rfl) (k_X3_slotOf (zL X) D aI aZ v2 0 h_2) gX3_chooseColumns_X3_slotOf mX3_slotOf rfl [] [0, 1, 2, 3, 4, 5] rfl rfl (by decide) rfl rfl (Nat.le_of_ble_eq_true rfl) ⟨Nat.le_of_ble_eq_true rfl, Nat.le_of_ble_eq_true rfl⟩ ⟨rfl, rfl⟩ ⟨Nat.le_of_ble_eq_true rfl, Nat.le_of_ble_eq_true rfl⟩ (z_plain (ws' := wX3 aI q_t q_t_least q_t_second q_t_firstCut t_least t_second t_firstCut ++ wX1 aI q_p1 q_p1_cuts p1_cuts p1_columns p1_best p1_next p1_plainLines p1_rules p1_joinedLines) (st' := [.int (zI o_1)]) [0, 1, 2, 3, 4, 5] rfl (by decide) rfl ?_)
      refine z_istore_n (lv' := [(3, .int (zI o_1)), (0, .ref q_t), (1, .ref q_p1), (2, .int (zI v2))]) F (dX3_chooseColumns_0 17 rfl) (by decide) rfl ?_
      refine z_aload_n 1 F (dX3_chooseColumns_0 18 rfl) rfl ?_
      refine z_get (v := .ref q_t_least) 0 F (dX3_chooseColumns_0 19 rfl) fl_X3_chooseColumns_9 rfl rfl ?_
      refine z_iload_n 0 F (dX3_chooseColumns_0 20 rfl) rfl ?_
      obtain ⟨o_3, h_4, hf⟩ := zb_some hf
      refine z_callN (As := [.ref q_t_least, .int (zI o_1)]) (rest := []) (wr := [(q_t, .inr (3, [.ref q_t_least, .ref q_t_second, .ref q_t_firstCut]))] ++ ([(q_t_second, .inl (aI, 549, .inl (fun j => zI (t_second j))))] ++ ([(q_t_firstCut, .inl (aI, 549, .inl (fun j => zI (t_firstCut j))))] ++ wX1 aI q_p1 q_p1_cuts p1_cuts p1_columns p1_best p1_next p1_plainLines p1_rules p1_joinedLines))) F (dX3_chooseColumns_0 21 rfl) (k_X5_pick (zL X) D aI aZ q_t_least 549 (by decide) t_least o_1 h_4) gX3_chooseColumns_X5_pick_n69 mX5_pick nst_X3_X5_pick sw1_X3_chooseColumns_X5_pick sw2_X3_chooseColumns_X5_pick [1] [0, 2, 3, 4, 5] rfl rfl (by decide) rfl rfl (Nat.le_of_ble_eq_true rfl) ⟨Nat.le_of_ble_eq_true rfl, Nat.le_of_ble_eq_true rfl⟩ ⟨rfl, rfl⟩ ⟨Nat.le_of_ble_eq_true rfl, Nat.le_of_ble_eq_true rfl⟩ (z_plain (ws' := wX3 aI q_t q_t_least q_t_second q_t_firstCut t_least t_second t_firstCut ++ wX1 aI q_p1 q_p1_cuts p1_cuts p1_columns p1_best p1_next p1_plainLines p1_rules p1_joinedLines) (st' := [.int (zI o_3)]) [0, 5, 1, 2, 3, 4] rfl (by decide) rfl ?_)
      refine z_istore (lv' := [(4, .int (zI o_3)), (3, .int (zI o_1)), (0, .ref q_t), (1, .ref q_p1), (2, .int (zI v2))]) F (dX3_chooseColumns_0 22 rfl) (by decide) rfl ?_
      refine z_iload 0 F (dX3_chooseColumns_0 23 rfl) rfl ?_
      refine z_aload_n 3 F (dX3_chooseColumns_0 24 rfl) rfl ?_
      refine z_getN (v := .int (zI p1_best)) 4 F (dX3_chooseColumns_0 25 rfl) fl_X3_chooseColumns_78 rfl rfl ?_
      refine z_icmp_ge (tgt := 83) F (dX3_chooseColumns_0 26 rfl) rfl (fun c47 => ?_) (fun c47 => ?_)
      · replace hf := zif_f c47 hf
        refine z_aload_n 3 F (dX3_chooseColumns_1 3 rfl) rfl ?_
        refine z_aload_n 3 F (dX3_chooseColumns_1 4 rfl) rfl ?_
        refine z_getN (v := .int (zI p1_next)) 4 F (dX3_chooseColumns_1 5 rfl) fl_X3_chooseColumns_81 rfl rfl ?_
        refine z_iload 0 F (dX3_chooseColumns_1 6 rfl) rfl ?_
        refine z_mmin F (dX3_chooseColumns_1 7 rfl) (by decide +kernel) (by decide +kernel) (by decide +kernel) (by decide +kernel) ⟨Nat.le_of_ble_eq_true rfl, Nat.le_of_ble_eq_true rfl⟩ (Nat.zero_le _) (Nat.zero_le _) ?_
        refine z_putN (ws' := wX3 aI q_t q_t_least q_t_second q_t_firstCut t_least t_second t_firstCut ++ wX1 aI q_p1 q_p1_cuts p1_cuts p1_columns p1_best (zmin p1_next o_3) p1_plainLines p1_rules p1_joinedLines) 4 F (dX3_chooseColumns_1 8 rfl) fl_X3_chooseColumns_81 tyX1_ok nmX1 rfl rfl rfl rfl rfl (Nat.le_of_ble_eq_true rfl) rfl ?_
        refine z_iinc (lv' := [(2, .int (zI (v2 + 1))), (4, .int (zI o_3)), (3, .int (zI o_1)), (0, .ref q_t), (1, .ref q_p1)]) 4 F (dX3_chooseColumns_1 9 rfl) rfl (by decide) rfl ?_
        refine z_goto (tgt := 19) F (dX3_chooseColumns_1 10 rfl) rfl ?_
        refine z_lv [3, 4, 0] rfl ?_
        exact ih (v2 + 1) p1_columns p1_best (zmin p1_next o_3) hf
      · replace hf := zif_t c47 hf
        refine z_aload_n 3 F (dX3_chooseColumns_0 27 rfl) rfl ?_
        refine z_aload_n 3 F (dX3_chooseColumns_0 28 rfl) rfl ?_
        refine z_getN (v := .int (zI p1_best)) 4 F (dX3_chooseColumns_0 29 rfl) fl_X3_chooseColumns_78 rfl rfl ?_
        refine z_aload_n 2 F (dX3_chooseColumns_0 30 rfl) rfl ?_
        refine z_get (v := .ref q_t_second) 0 F (dX3_chooseColumns_0 31 rfl) fl_X3_chooseColumns_15 rfl rfl ?_
        refine z_iload_n 1 F (dX3_chooseColumns_0 32 rfl) rfl ?_
        obtain ⟨o_5, h_6, hf⟩ := zb_some hf
        refine z_callN (As := [.ref q_t_second, .int (zI o_1)]) (rest := [.int (zI p1_best), .ref q_p1]) (wr := [(q_t, .inr (3, [.ref q_t_least, .ref q_t_second, .ref q_t_firstCut]))] ++ ([(q_t_least, .inl (aI, 549, .inl (fun j => zI (t_least j))))] ++ ([(q_t_firstCut, .inl (aI, 549, .inl (fun j => zI (t_firstCut j))))] ++ wX1 aI q_p1 q_p1_cuts p1_cuts p1_columns p1_best p1_next p1_plainLines p1_rules p1_joinedLines))) F (dX3_chooseColumns_0 33 rfl) (k_X5_pick (zL X) D aI aZ q_t_second 549 (by decide) t_second o_1 h_6) gX3_chooseColumns_X5_pick_n69 mX5_pick nst_X3_X5_pick sw1_X3_chooseColumns_X5_pick sw2_X3_chooseColumns_X5_pick [2] [0, 1, 3, 4, 5] rfl rfl (by decide) rfl rfl (Nat.le_of_ble_eq_true rfl) ⟨Nat.le_of_ble_eq_true rfl, Nat.le_of_ble_eq_true rfl⟩ ⟨rfl, rfl⟩ ⟨Nat.le_of_ble_eq_true rfl, Nat.le_of_ble_eq_true rfl⟩ (z_plain (ws' := wX3 aI q_t q_t_least q_t_second q_t_firstCut t_least t_second t_firstCut ++ wX1 aI q_p1 q_p1_cuts p1_cuts p1_columns p1_best p1_next p1_plainLines p1_rules p1_joinedLines) (st' := [.int (zI o_5), .int (zI p1_best), .ref q_p1]) [0, 1, 5, 2, 3, 4] rfl (by decide) rfl ?_)
        refine z_mmin F (dX3_chooseColumns_0 34 rfl) (by decide +kernel) (by decide +kernel) (by decide +kernel) (by decide +kernel) ⟨Nat.le_of_ble_eq_true rfl, Nat.le_of_ble_eq_true rfl⟩ (Nat.zero_le _) (Nat.zero_le _) ?_
        refine z_putN (ws' := wX3 aI q_t q_t_least q_t_second q_t_firstCut t_least t_second t_firstCut ++ wX1 aI q_p1 q_p1_cuts p1_cuts p1_columns p1_best (zmin p1_best o_5) p1_plainLines p1_rules p1_joinedLines) 4 F (dX3_chooseColumns_0 35 rfl) fl_X3_chooseColumns_81 tyX1_ok nmX1 rfl rfl rfl rfl rfl (Nat.le_of_ble_eq_true rfl) rfl ?_
        refine z_aload_n 3 F (dX3_chooseColumns_0 36 rfl) rfl ?_
        refine z_iload 0 F (dX3_chooseColumns_0 37 rfl) rfl ?_
        refine z_putN (ws' := wX3 aI q_t q_t_least q_t_second q_t_firstCut t_least t_second t_firstCut ++ wX1 aI q_p1 q_p1_cuts p1_cuts p1_columns o_3 (zmin p1_best o_5) p1_plainLines p1_rules p1_joinedLines) 4 F (dX3_chooseColumns_0 38 rfl) fl_X3_chooseColumns_78 tyX1_ok nmX1 rfl rfl rfl rfl rfl (Nat.le_of_ble_eq_true rfl) rfl ?_
        refine z_aload_n 3 F (dX3_chooseColumns_0 39 rfl) rfl ?_
        refine z_iload_n 4 F (dX3_chooseColumns_1 0 rfl) rfl ?_
        refine z_putN (ws' := wX3 aI q_t q_t_least q_t_second q_t_firstCut t_least t_second t_firstCut ++ wX1 aI q_p1 q_p1_cuts p1_cuts v2 o_3 (zmin p1_best o_5) p1_plainLines p1_rules p1_joinedLines) 4 F (dX3_chooseColumns_1 1 rfl) fl_X3_chooseColumns_84 tyX1_ok nmX1 rfl rfl rfl rfl rfl (Nat.le_of_ble_eq_true rfl) rfl ?_
        refine z_goto (tgt := 96) F (dX3_chooseColumns_1 2 rfl) rfl ?_
        refine z_iinc (lv' := [(2, .int (zI (v2 + 1))), (4, .int (zI o_3)), (3, .int (zI o_1)), (0, .ref q_t), (1, .ref q_p1)]) 4 F (dX3_chooseColumns_1 9 rfl) rfl (by decide) rfl ?_
        refine z_goto (tgt := 19) F (dX3_chooseColumns_1 10 rfl) rfl ?_
        refine z_lv [3, 4, 0] rfl ?_
        exact ih (v2 + 1) v2 o_3 (zmin p1_best o_5) hf
set_option maxRecDepth 20000 in
set_option maxHeartbeats 2000000 in
theorem b_X3_chooseColumns_0 {X : zX} {D : va_G} {aI aZ : ClassId} {w0 : va_W} {Qp : Option Value → va_W → Prop} (F : zF X D aI aZ cX3_chooseColumns 5 RX3 wsX3_chooseColumns rmX3_chooseColumns) (E : zT X D w0 Qp 0 0 none) (q_t q_t_least q_t_second q_t_firstCut q_p1 q_p1_cuts : Nat) (t_least : (Nat → Int)) (t_second : (Nat → Int)) (t_firstCut : (Nat → Int)) (p1_cuts : (Nat → Int)) (p1_columns : Int) (p1_best : Int) (p1_next : Int) (p1_plainLines : Int) (p1_rules : Int) (p1_joinedLines : Int) {R : Int × Int × Int} (hQ : Qp none (wX3 aI q_t q_t_least q_t_second q_t_firstCut t_least t_second t_firstCut ++ wX1 aI q_p1 q_p1_cuts p1_cuts R.1 R.2.1 R.2.2 p1_plainLines p1_rules p1_joinedLines)) (hf : f_X3_chooseColumns t_least t_second = some R) : zG X D 0 0 (wX3 aI q_t q_t_least q_t_second q_t_firstCut t_least t_second t_firstCut ++ wX1 aI q_p1 q_p1_cuts p1_cuts p1_columns p1_best p1_next p1_plainLines p1_rules p1_joinedLines) 0 [(0, .ref q_t), (1, .ref q_p1)] [] := by
  unfold f_X3_chooseColumns at hf
  refine z_aload_n 1 F (dX3_chooseColumns_0 0 rfl) rfl ?_
  refine z_ldc (x := 1000000) (x' := 1000000) F (dX3_chooseColumns_0 1 rfl) (by decide +kernel) rfl ?_
  refine z_putN (ws' := wX3 aI q_t q_t_least q_t_second q_t_firstCut t_least t_second t_firstCut ++ wX1 aI q_p1 q_p1_cuts p1_cuts p1_columns 1000000 p1_next p1_plainLines p1_rules p1_joinedLines) 4 F (dX3_chooseColumns_0 2 rfl) fl_X3_chooseColumns_78 tyX1_ok nmX1 rfl rfl rfl rfl rfl (Nat.le_of_ble_eq_true rfl) rfl ?_
  refine z_aload_n 1 F (dX3_chooseColumns_0 3 rfl) rfl ?_
  refine z_ldc (x := 1000000) (x' := 1000000) F (dX3_chooseColumns_0 4 rfl) (by decide +kernel) rfl ?_
  refine z_putN (ws' := wX3 aI q_t q_t_least q_t_second q_t_firstCut t_least t_second t_firstCut ++ wX1 aI q_p1 q_p1_cuts p1_cuts p1_columns 1000000 1000000 p1_plainLines p1_rules p1_joinedLines) 4 F (dX3_chooseColumns_0 5 rfl) fl_X3_chooseColumns_81 tyX1_ok nmX1 rfl rfl rfl rfl rfl (Nat.le_of_ble_eq_true rfl) rfl ?_
  refine z_aload_n 1 F (dX3_chooseColumns_0 6 rfl) rfl ?_
  refine z_iconst F (dX3_chooseColumns_0 7 rfl) ?_
  refine z_putN (ws' := wX3 aI q_t q_t_least q_t_second q_t_firstCut t_least t_second t_firstCut ++ wX1 aI q_p1 q_p1_cuts p1_cuts 1 1000000 1000000 p1_plainLines p1_rules p1_joinedLines) 4 F (dX3_chooseColumns_0 8 rfl) fl_X3_chooseColumns_84 tyX1_ok nmX1 rfl rfl rfl rfl rfl (Nat.le_of_ble_eq_true rfl) rfl ?_
  refine z_iconst F (dX3_chooseColumns_0 9 rfl) ?_
  refine z_istore_n (lv' := [(2, .int (zI 1)), (0, .ref q_t), (1, .ref q_p1)]) F (dX3_chooseColumns_0 10 rfl) (by decide) rfl ?_
  refine z_lv [1, 2, 0] rfl ?_
  refine b_X3_chooseColumns_l19 F E q_t q_t_least q_t_second q_t_firstCut q_p1 q_p1_cuts t_least t_second t_firstCut p1_cuts p1_plainLines p1_rules p1_joinedLines hQ _ ?_ zN 1 1 1000000 1000000 hf
  intro p1_columns_7 p1_best_8 p1_next_9 hf
  cases hf
  exact z_vret [0, 1, 2, 3, 4, 5] F E (dX3_chooseColumns_1 11 rfl) rfl (by decide) hQ
set_option maxRecDepth 20000 in
set_option maxHeartbeats 2000000 in
theorem k_X3_chooseColumns (l : Launch) (D : va_G) (aI aZ : ClassId) (q_t q_t_least q_t_second q_t_firstCut q_p1 q_p1_cuts : Nat) (t_least : (Nat → Int)) (t_second : (Nat → Int)) (t_firstCut : (Nat → Int)) (p1_cuts : (Nat → Int)) (p1_columns : Int) (p1_best : Int) (p1_next : Int) (p1_plainLines : Int) (p1_rules : Int) (p1_joinedLines : Int) {R : Int × Int × Int} (hf : f_X3_chooseColumns t_least t_second = some R) : zC l D aI aZ yX3_chooseColumns wsX3_chooseColumns rmX3_chooseColumns [.ref q_t, .ref q_p1] (wX3 aI q_t q_t_least q_t_second q_t_firstCut t_least t_second t_firstCut ++ wX1 aI q_p1 q_p1_cuts p1_cuts p1_columns p1_best p1_next p1_plainLines p1_rules p1_joinedLines) (fun r w => r = none ∧ w = wX3 aI q_t q_t_least q_t_second q_t_firstCut t_least t_second t_firstCut ++ wX1 aI q_p1 q_p1_cuts p1_cuts R.1 R.2.1 R.2.2 p1_plainLines p1_rules p1_joinedLines) 0 0 := by
  refine z_met (cc := cX3_chooseColumns) (maxL := 5) (ret := none) (by decide +kernel) rfl (Nat.le_of_ble_eq_true rfl) (fun X hX F E => ?_)
  exact b_X3_chooseColumns_0 F E q_t q_t_least q_t_second q_t_firstCut q_p1 q_p1_cuts t_least t_second t_firstCut p1_cuts p1_columns p1_best p1_next p1_plainLines p1_rules p1_joinedLines ⟨rfl, rfl⟩ hf
theorem inw_X3_traceCuts_1 : ∀ w ∈ u_ws RX1 TX1 7, w ∈ wsX3_traceCuts := by decide +kernel
theorem fl_X3_traceCuts_87 : zfn wsX3_traceCuts RX3 87 1 0 RX1 TX1 7 := ⟨inw_X3_traceCuts_1, rfl, by decide, by decide +kernel⟩
theorem sw1_X3_traceCuts_X5_put : Cond.static yX5_put ∈ wsX3_traceCuts := by decide +kernel
theorem sw2_X3_traceCuts_X5_put : Cond.initialized yX5_put.cls ∈ wsX3_traceCuts := by decide +kernel
theorem fl_X3_traceCuts_84 : zfn wsX3_traceCuts RX3 84 1 1 RX1 TX1 7 := ⟨inw_X3_traceCuts_1, rfl, by decide, by decide +kernel⟩
theorem inw_X3_traceCuts_3 : ∀ w ∈ u_ws RX3 TX3 3, w ∈ wsX3_traceCuts := by decide +kernel
theorem fl_X3_traceCuts_18 : zfl wsX3_traceCuts RX3 18 3 2 RX3 TX3 3 := ⟨inw_X3_traceCuts_3, rfl, by decide, by decide +kernel⟩
theorem sw1_X3_traceCuts_X5_pick : Cond.static yX5_pick ∈ wsX3_traceCuts := by decide +kernel
theorem sw2_X3_traceCuts_X5_pick : Cond.initialized yX5_pick.cls ∈ wsX3_traceCuts := by decide +kernel
abbrev rmX3_traceCuts : Room := { frames := 1, cells := 0, slots := 0, locals := 22 }
theorem mX3_traceCuts : zY yX3_traceCuts cX3_traceCuts 4 none wsX3_traceCuts 1 := ⟨⟨_, rfl⟩, by decide +kernel, by decide +kernel, by decide +kernel⟩
set_option maxRecDepth 20000 in
set_option maxHeartbeats 2000000 in
theorem b_X3_traceCuts_l13 {X : zX} {D : va_G} {aI aZ : ClassId} {w0 : va_W} {Qp : Option Value → va_W → Prop} (F : zF X D aI aZ cX3_traceCuts 4 RX3 wsX3_traceCuts rmX3_traceCuts) (E : zT X D w0 Qp 0 0 none) (q_t q_t_least q_t_second q_t_firstCut q_p1 q_p1_cuts : Nat) (t_least : (Nat → Int)) (t_second : (Nat → Int)) (t_firstCut : (Nat → Int)) (p1_columns : Int) (p1_best : Int) (p1_next : Int) (p1_plainLines : Int) (p1_rules : Int) (p1_joinedLines : Int) {R : (Nat → Int)} (hQ : Qp none (wX3 aI q_t q_t_least q_t_second q_t_firstCut t_least t_second t_firstCut ++ wX1 aI q_p1 q_p1_cuts R p1_columns p1_best p1_next p1_plainLines p1_rules p1_joinedLines)) (K : (Nat → Int) → Option ((Nat → Int))) (hK : ∀ (p1_cuts : (Nat → Int)), K p1_cuts = some R → zG X D 0 0 (wX3 aI q_t q_t_least q_t_second q_t_firstCut t_least t_second t_firstCut ++ wX1 aI q_p1 q_p1_cuts p1_cuts p1_columns p1_best p1_next p1_plainLines p1_rules p1_joinedLines) 56 [] []) : ∀ (n : Nat) (v2 : Int) (v3 : Int) (p1_cuts : (Nat → Int)), f_X3_traceCuts_l13 K t_firstCut p1_columns n v2 v3 p1_cuts = some R → zG X D 0 0 (wX3 aI q_t q_t_least q_t_second q_t_firstCut t_least t_second t_firstCut ++ wX1 aI q_p1 q_p1_cuts p1_cuts p1_columns p1_best p1_next p1_plainLines p1_rules p1_joinedLines) 13 [(0, .ref q_t), (1, .ref q_p1), (2, .int (zI v2)), (3, .int (zI v3))] [] := by
  intro n
  induction n with
  | zero => intro v2 v3 p1_cuts hf; rw [f_X3_traceCuts_l13_z] at hf; cases hf
  | succ n ih =>
    intro v2 v3 p1_cuts hf
    rw [f_X3_traceCuts_l13_s] at hf
    refine z_iload_n 3 F (dX3_traceCuts_0 9 rfl) rfl ?_
    refine z_aload_n 1 F (dX3_traceCuts_0 10 rfl) rfl ?_
    refine z_getN (v := .int (zI p1_columns)) 4 F (dX3_traceCuts_0 11 rfl) fl_X3_traceCuts_84 rfl rfl ?_
    refine z_icmp_gt (tgt := 56) F (dX3_traceCuts_0 12 rfl) rfl (fun c18 => ?_) (fun c18 => ?_)
    · replace hf := zif_t c18 hf
      refine z_lv [] rfl ?_
      exact hK p1_cuts hf
    · replace hf := zif_f c18 hf
      refine z_aload_n 0 F (dX3_traceCuts_0 13 rfl) rfl ?_
      refine z_get (v := .ref q_t_firstCut) 0 F (dX3_traceCuts_0 14 rfl) fl_X3_traceCuts_18 rfl rfl ?_
      refine z_aload_n 1 F (dX3_traceCuts_0 15 rfl) rfl ?_
      refine z_getN (v := .int (zI p1_columns)) 4 F (dX3_traceCuts_0 16 rfl) fl_X3_traceCuts_84 rfl rfl ?_
      refine z_iload_n 3 F (dX3_traceCuts_0 17 rfl) rfl ?_
      refine z_isub F (dX3_traceCuts_0 18 rfl) ?_
      refine z_iconst F (dX3_traceCuts_0 19 rfl) ?_
      refine z_iadd F (dX3_traceCuts_0 20 rfl) ?_
      refine z_iload_n 2 F (dX3_traceCuts_0 21 rfl) rfl ?_
      obtain ⟨o_3, h_4, hf⟩ := zb_some hf
      refine z_callS (As := [.int (zI ((p1_columns - v3) + 1)), .int (zI v2)]) (rest := [.ref q_t_firstCut]) (wr := wX3 aI q_t q_t_least q_t_second q_t_firstCut t_least t_second t_firstCut ++ wX1 aI q_p1 q_p1_cuts p1_cuts p1_columns p1_best p1_next p1_plainLines p1_rules p1_joinedLines) F (dX3_traceCuts_0 22 rfl) (k_X3_slotOf (zL X) D aI aZ ((p1_columns - v3) + 1) v2 h_4) gX3_traceCuts_X3_slotOf mX3_slotOf rfl [] [0, 1, 2, 3, 4, 5] rfl rfl (by decide) rfl rfl (Nat.le_of_ble_eq_true rfl) ⟨Nat.le_of_ble_eq_true rfl, Nat.le_of_ble_eq_true rfl⟩ ⟨rfl, rfl⟩ ⟨Nat.le_of_ble_eq_true rfl, Nat.le_of_ble_eq_true rfl⟩ (z_plain (ws' := wX3 aI q_t q_t_least q_t_second q_t_firstCut t_least t_second t_firstCut ++ wX1 aI q_p1 q_p1_cuts p1_cuts p1_columns p1_best p1_next p1_plainLines p1_rules p1_joinedLines) (st' := [.int (zI o_3), .ref q_t_firstCut]) [0, 1, 2, 3, 4, 5] rfl (by decide) rfl ?_)
      obtain ⟨o_5, h_6, hf⟩ := zb_some hf
      refine z_callN (As := [.ref q_t_firstCut, .int (zI o_3)]) (rest := []) (wr := [(q_t, .inr (3, [.ref q_t_least, .ref q_t_second, .ref q_t_firstCut]))] ++ ([(q_t_least, .inl (aI, 549, .inl (fun j => zI (t_least j))))] ++ ([(q_t_second, .inl (aI, 549, .inl (fun j => zI (t_second j))))] ++ wX1 aI q_p1 q_p1_cuts p1_cuts p1_columns p1_best p1_next p1_plainLines p1_rules p1_joinedLines))) F (dX3_traceCuts_0 23 rfl) (k_X5_pick (zL X) D aI aZ q_t_firstCut 549 (by decide) t_firstCut o_3 h_6) gX3_traceCuts_X5_pick_n69 mX5_pick nst_X3_X5_pick sw1_X3_traceCuts_X5_pick sw2_X3_traceCuts_X5_pick [3] [0, 1, 2, 4, 5] rfl rfl (by decide) rfl rfl (Nat.le_of_ble_eq_true rfl) ⟨Nat.le_of_ble_eq_true rfl, Nat.le_of_ble_eq_true rfl⟩ ⟨rfl, rfl⟩ ⟨Nat.le_of_ble_eq_true rfl, Nat.le_of_ble_eq_true rfl⟩ (z_plain (ws' := wX3 aI q_t q_t_least q_t_second q_t_firstCut t_least t_second t_firstCut ++ wX1 aI q_p1 q_p1_cuts p1_cuts p1_columns p1_best p1_next p1_plainLines p1_rules p1_joinedLines) (st' := [.int (zI o_5)]) [0, 1, 2, 5, 3, 4] rfl (by decide) rfl ?_)
      refine z_istore_n (lv' := [(2, .int (zI o_5)), (0, .ref q_t), (1, .ref q_p1), (3, .int (zI v3))]) F (dX3_traceCuts_0 24 rfl) (by decide) rfl ?_
      refine z_aload_n 2 F (dX3_traceCuts_0 25 rfl) rfl ?_
      refine z_getN (v := .ref q_p1_cuts) 4 F (dX3_traceCuts_0 26 rfl) fl_X3_traceCuts_87 rfl rfl ?_
      refine z_iload_n 3 F (dX3_traceCuts_0 27 rfl) rfl ?_
      refine z_iload_n 0 F (dX3_traceCuts_0 28 rfl) rfl ?_
      obtain ⟨o_7, h_8, hf⟩ := zb_some hf
      refine z_callN (As := [.ref q_p1_cuts, .int (zI v3), .int (zI o_5)]) (rest := []) (wr := wX3 aI q_t q_t_least q_t_second q_t_firstCut t_least t_second t_firstCut ++ [(q_p1, .inr (1, [.ref q_p1_cuts, .int (zI p1_columns), .int (zI p1_best), .int (zI p1_next), .int (zI p1_plainLines), .int (zI p1_rules), .int (zI p1_joinedLines)]))]) F (dX3_traceCuts_0 29 rfl) (k_X5_put (zL X) D aI aZ q_p1_cuts 9 (by decide) p1_cuts v3 o_5 h_8) gX3_traceCuts_X5_put_n90 mX5_put nst_X3_X5_put sw1_X3_traceCuts_X5_put sw2_X3_traceCuts_X5_put [5] [0, 1, 2, 3, 4] rfl rfl (by decide) rfl rfl (Nat.le_of_ble_eq_true rfl) ⟨Nat.le_of_ble_eq_true rfl, Nat.le_of_ble_eq_true rfl⟩ ⟨rfl, rfl⟩ ⟨Nat.le_of_ble_eq_true rfl, Nat.le_of_ble_eq_true rfl⟩ (z_plain (ws' := wX3 aI q_t q_t_least q_t_second q_t_firstCut t_least t_second t_firstCut ++ wX1 aI q_p1 q_p1_cuts o_7 p1_columns p1_best p1_next p1_plainLines p1_rules p1_joinedLines) (st' := []) [0, 1, 2, 3, 4, 5] rfl (by decide) rfl ?_)
      refine z_iinc (lv' := [(3, .int (zI (v3 + 1))), (2, .int (zI o_5)), (0, .ref q_t), (1, .ref q_p1)]) 3 F (dX3_traceCuts_0 30 rfl) rfl (by decide) rfl ?_
      refine z_goto (tgt := 13) F (dX3_traceCuts_0 31 rfl) rfl ?_
      refine z_lv [2, 3, 1, 0] rfl ?_
      exact ih o_5 (v3 + 1) o_7 hf
set_option maxRecDepth 20000 in
set_option maxHeartbeats 2000000 in
theorem b_X3_traceCuts_0 {X : zX} {D : va_G} {aI aZ : ClassId} {w0 : va_W} {Qp : Option Value → va_W → Prop} (F : zF X D aI aZ cX3_traceCuts 4 RX3 wsX3_traceCuts rmX3_traceCuts) (E : zT X D w0 Qp 0 0 none) (q_t q_t_least q_t_second q_t_firstCut q_p1 q_p1_cuts : Nat) (t_least : (Nat → Int)) (t_second : (Nat → Int)) (t_firstCut : (Nat → Int)) (p1_cuts : (Nat → Int)) (p1_columns : Int) (p1_best : Int) (p1_next : Int) (p1_plainLines : Int) (p1_rules : Int) (p1_joinedLines : Int) {R : (Nat → Int)} (hQ : Qp none (wX3 aI q_t q_t_least q_t_second q_t_firstCut t_least t_second t_firstCut ++ wX1 aI q_p1 q_p1_cuts R p1_columns p1_best p1_next p1_plainLines p1_rules p1_joinedLines)) (hf : f_X3_traceCuts t_firstCut p1_cuts p1_columns = some R) : zG X D 0 0 (wX3 aI q_t q_t_least q_t_second q_t_firstCut t_least t_second t_firstCut ++ wX1 aI q_p1 q_p1_cuts p1_cuts p1_columns p1_best p1_next p1_plainLines p1_rules p1_joinedLines) 0 [(0, .ref q_t), (1, .ref q_p1)] [] := by
  unfold f_X3_traceCuts at hf
  refine z_iconst F (dX3_traceCuts_0 0 rfl) ?_
  refine z_istore_n (lv' := [(2, .int (zI 0)), (0, .ref q_t), (1, .ref q_p1)]) F (dX3_traceCuts_0 1 rfl) (by decide) rfl ?_
  refine z_aload_n 2 F (dX3_traceCuts_0 2 rfl) rfl ?_
  refine z_getN (v := .ref q_p1_cuts) 4 F (dX3_traceCuts_0 3 rfl) fl_X3_traceCuts_87 rfl rfl ?_
  refine z_iconst F (dX3_traceCuts_0 4 rfl) ?_
  refine z_iconst F (dX3_traceCuts_0 5 rfl) ?_
  obtain ⟨o_1, h_2, hf⟩ := zb_some hf
  refine z_callN (As := [.ref q_p1_cuts, .int (zI 0), .int (zI 0)]) (rest := []) (wr := wX3 aI q_t q_t_least q_t_second q_t_firstCut t_least t_second t_firstCut ++ [(q_p1, .inr (1, [.ref q_p1_cuts, .int (zI p1_columns), .int (zI p1_best), .int (zI p1_next), .int (zI p1_plainLines), .int (zI p1_rules), .int (zI p1_joinedLines)]))]) F (dX3_traceCuts_0 6 rfl) (k_X5_put (zL X) D aI aZ q_p1_cuts 9 (by decide) p1_cuts 0 0 h_2) gX3_traceCuts_X5_put_n90 mX5_put nst_X3_X5_put sw1_X3_traceCuts_X5_put sw2_X3_traceCuts_X5_put [5] [0, 1, 2, 3, 4] rfl rfl (by decide) rfl rfl (Nat.le_of_ble_eq_true rfl) ⟨Nat.le_of_ble_eq_true rfl, Nat.le_of_ble_eq_true rfl⟩ ⟨rfl, rfl⟩ ⟨Nat.le_of_ble_eq_true rfl, Nat.le_of_ble_eq_true rfl⟩ (z_plain (ws' := wX3 aI q_t q_t_least q_t_second q_t_firstCut t_least t_second t_firstCut ++ wX1 aI q_p1 q_p1_cuts o_1 p1_columns p1_best p1_next p1_plainLines p1_rules p1_joinedLines) (st' := []) [0, 1, 2, 3, 4, 5] rfl (by decide) rfl ?_)
  refine z_iconst F (dX3_traceCuts_0 7 rfl) ?_
  refine z_istore_n (lv' := [(3, .int (zI 1)), (2, .int (zI 0)), (0, .ref q_t), (1, .ref q_p1)]) F (dX3_traceCuts_0 8 rfl) (by decide) rfl ?_
  refine z_lv [2, 3, 1, 0] rfl ?_
  refine b_X3_traceCuts_l13 F E q_t q_t_least q_t_second q_t_firstCut q_p1 q_p1_cuts t_least t_second t_firstCut p1_columns p1_best p1_next p1_plainLines p1_rules p1_joinedLines hQ _ ?_ zN 0 1 o_1 hf
  intro p1_cuts_9 hf
  cases hf
  exact z_vret [0, 1, 2, 3, 4, 5] F E (dX3_traceCuts_0 32 rfl) rfl (by decide) hQ
set_option maxRecDepth 20000 in
set_option maxHeartbeats 2000000 in
theorem k_X3_traceCuts (l : Launch) (D : va_G) (aI aZ : ClassId) (q_t q_t_least q_t_second q_t_firstCut q_p1 q_p1_cuts : Nat) (t_least : (Nat → Int)) (t_second : (Nat → Int)) (t_firstCut : (Nat → Int)) (p1_cuts : (Nat → Int)) (p1_columns : Int) (p1_best : Int) (p1_next : Int) (p1_plainLines : Int) (p1_rules : Int) (p1_joinedLines : Int) {R : (Nat → Int)} (hf : f_X3_traceCuts t_firstCut p1_cuts p1_columns = some R) : zC l D aI aZ yX3_traceCuts wsX3_traceCuts rmX3_traceCuts [.ref q_t, .ref q_p1] (wX3 aI q_t q_t_least q_t_second q_t_firstCut t_least t_second t_firstCut ++ wX1 aI q_p1 q_p1_cuts p1_cuts p1_columns p1_best p1_next p1_plainLines p1_rules p1_joinedLines) (fun r w => r = none ∧ w = wX3 aI q_t q_t_least q_t_second q_t_firstCut t_least t_second t_firstCut ++ wX1 aI q_p1 q_p1_cuts R p1_columns p1_best p1_next p1_plainLines p1_rules p1_joinedLines) 0 0 := by
  refine z_met (cc := cX3_traceCuts) (maxL := 4) (ret := none) (by decide +kernel) rfl (Nat.le_of_ble_eq_true rfl) (fun X hX F E => ?_)
  exact b_X3_traceCuts_0 F E q_t q_t_least q_t_second q_t_firstCut q_p1 q_p1_cuts t_least t_second t_firstCut p1_cuts p1_columns p1_best p1_next p1_plainLines p1_rules p1_joinedLines ⟨rfl, rfl⟩ hf
theorem inw_X3_readBest_0 : ∀ w ∈ u_ws RX0 TX0 12, w ∈ wsX3_readBest := by decide +kernel
theorem fl_X3_readBest_21 : zfn wsX3_readBest RX3 21 0 8 RX0 TX0 12 := ⟨inw_X3_readBest_0, rfl, by decide, by decide +kernel⟩
theorem fl_X3_readBest_50 : zfn wsX3_readBest RX3 50 0 2 RX0 TX0 12 := ⟨inw_X3_readBest_0, rfl, by decide, by decide +kernel⟩
theorem inw_X3_readBest_1 : ∀ w ∈ u_ws RX1 TX1 7, w ∈ wsX3_readBest := by decide +kernel
theorem fl_X3_readBest_53 : zfn wsX3_readBest RX3 53 1 4 RX1 TX1 7 := ⟨inw_X3_readBest_1, rfl, by decide, by decide +kernel⟩
theorem fl_X3_readBest_58 : zfn wsX3_readBest RX3 58 0 3 RX0 TX0 12 := ⟨inw_X3_readBest_0, rfl, by decide, by decide +kernel⟩
theorem fl_X3_readBest_61 : zfn wsX3_readBest RX3 61 1 5 RX1 TX1 7 := ⟨inw_X3_readBest_1, rfl, by decide, by decide +kernel⟩
theorem fl_X3_readBest_62 : zfn wsX3_readBest RX3 62 1 6 RX1 TX1 7 := ⟨inw_X3_readBest_1, rfl, by decide, by decide +kernel⟩
abbrev rmX3_readBest : Room := { frames := 4, cells := 0, slots := 0, locals := 97 }
theorem mX3_readBest : zY yX3_readBest cX3_readBest 5 none wsX3_readBest 2 := ⟨⟨_, rfl⟩, by decide +kernel, by decide +kernel, by decide +kernel⟩
set_option maxRecDepth 20000 in
set_option maxHeartbeats 2000000 in
theorem b_X3_readBest_l38 {X : zX} {D : va_G} {aI aZ : ClassId} {w0 : va_W} {Qp : Option Value → va_W → Prop} (F : zF X D aI aZ cX3_readBest 5 RX3 wsX3_readBest rmX3_readBest) (E : zT X D w0 Qp 0 0 none) (q_t q_t_least q_t_second q_t_firstCut q_p1 q_p1_bytes q_p1_numbersOfLines q_p1_crossings q_p1_nextInks q_p1_gaps q_p2 q_p2_cuts : Nat) (v3 : Int) (p1_bytes : (Nat → Int)) (p1_numbersOfLines : (Nat → Int)) (p1_plainCount : Int) (p1_rules : Int) (p1_firstRule : Int) (p1_lastRule : Int) (p1_headed : Int) (p1_footed : Int) (p1_width : Int) (p1_crossings : (Nat → Int)) (p1_nextInks : (Nat → Int)) (p1_gaps : (Nat → Int)) (p2_cuts : (Nat → Int)) (p2_columns : Int) (p2_best : Int) (p2_next : Int) (p2_plainLines : Int) (p2_rules : Int) (p2_joinedLines : Int) {R : (Nat → Int) × (Nat → Int) × (Nat → Int) × (Nat → Int) × Int × Int × Int × Int × Int × Int} (hQ : Qp none (wX3 aI q_t q_t_least q_t_second q_t_firstCut R.1 R.2.1 R.2.2.1 ++ (wX0 aI q_p1 q_p1_bytes q_p1_numbersOfLines q_p1_crossings q_p1_nextInks q_p1_gaps p1_bytes p1_numbersOfLines p1_plainCount p1_rules p1_firstRule p1_lastRule p1_headed p1_footed p1_width p1_crossings p1_nextInks p1_gaps ++ wX1 aI q_p2 q_p2_cuts R.2.2.2.1 R.2.2.2.2.1 R.2.2.2.2.2.1 R.2.2.2.2.2.2.1 R.2.2.2.2.2.2.2.1 R.2.2.2.2.2.2.2.2.1 R.2.2.2.2.2.2.2.2.2))) (K : (Nat → Int) → (Nat → Int) → (Nat → Int) → Option ((Nat → Int) × (Nat → Int) × (Nat → Int) × (Nat → Int) × Int × Int × Int × Int × Int × Int)) (hK : ∀ (t_least : (Nat → Int)) (t_second : (Nat → Int)) (t_firstCut : (Nat → Int)), K t_least t_second t_firstCut = some R → zG X D 0 0 (wX3 aI q_t q_t_least q_t_second q_t_firstCut t_least t_second t_firstCut ++ (wX0 aI q_p1 q_p1_bytes q_p1_numbersOfLines q_p1_crossings q_p1_nextInks q_p1_gaps p1_bytes p1_numbersOfLines p1_plainCount p1_rules p1_firstRule p1_lastRule p1_headed p1_footed p1_width p1_crossings p1_nextInks p1_gaps ++ wX1 aI q_p2 q_p2_cuts p2_cuts p2_columns p2_best p2_next p2_plainLines p2_rules p2_joinedLines)) 59 [(0, .ref q_t), (1, .ref q_p1), (2, .ref q_p2), (3, .int (zI v3))] []) : ∀ (n : Nat) (v4 : Int) (t_least : (Nat → Int)) (t_second : (Nat → Int)) (t_firstCut : (Nat → Int)), f_X3_readBest_l38 K v3 p1_width p1_crossings p1_nextInks p1_gaps n v4 t_least t_second t_firstCut = some R → zG X D 0 0 (wX3 aI q_t q_t_least q_t_second q_t_firstCut t_least t_second t_firstCut ++ (wX0 aI q_p1 q_p1_bytes q_p1_numbersOfLines q_p1_crossings q_p1_nextInks q_p1_gaps p1_bytes p1_numbersOfLines p1_plainCount p1_rules p1_firstRule p1_lastRule p1_headed p1_footed p1_width p1_crossings p1_nextInks p1_gaps ++ wX1 aI q_p2 q_p2_cuts p2_cuts p2_columns p2_best p2_next p2_plainLines p2_rules p2_joinedLines)) 38 [(0, .ref q_t), (1, .ref q_p1), (2, .ref q_p2), (3, .int (zI v3)), (4, .int (zI v4))] [] := by
  intro n
  induction n with
  | zero => intro v4 t_least t_second t_firstCut hf; rw [f_X3_readBest_l38_z] at hf; cases hf
  | succ n ih =>
    intro v4 t_least t_second t_firstCut hf
    rw [f_X3_readBest_l38_s] at hf
    refine z_iload 4 F (dX3_readBest_0 22 rfl) rfl ?_
    refine z_bipush F (dX3_readBest_0 23 rfl) rfl ?_
    refine z_icmp_gt (tgt := 59) F (dX3_readBest_0 24 rfl) rfl (fun c42 => ?_) (fun c42 => ?_)
    · replace hf := zif_t c42 hf
      refine z_lv [0, 1, 2, 3] rfl ?_
      exact hK t_least t_second t_firstCut hf
    · replace hf := zif_f c42 hf
      refine z_aload_n 0 F (dX3_readBest_0 25 rfl) rfl ?_
      refine z_aload_n 1 F (dX3_readBest_0 26 rfl) rfl ?_
      refine z_iload 4 F (dX3_readBest_0 27 rfl) rfl ?_
      refine z_iload_n 3 F (dX3_readBest_0 28 rfl) rfl ?_
      obtain ⟨o_7, h_8, hf⟩ := zb_some hf
      refine z_callV (As := [.ref q_p1, .int (zI v4), .int (zI v3)]) (rest := []) (wr := wX1 aI q_p2 q_p2_cuts p2_cuts p2_columns p2_best p2_next p2_plainLines p2_rules p2_joinedLines) F (dX3_readBest_0 29 rfl) (k_X3_readFrom (zL X) D aI aZ q_t q_t_least q_t_second q_t_firstCut q_p1 q_p1_bytes q_p1_numbersOfLines q_p1_crossings q_p1_nextInks q_p1_gaps t_least t_second t_firstCut p1_bytes p1_numbersOfLines p1_plainCount p1_rules p1_firstRule p1_lastRule p1_headed p1_footed p1_width p1_crossings p1_nextInks p1_gaps v4 v3 h_8) gX3_readBest_X3_readFrom mX3_readFrom rfl (ci := 3) rfl [0, 1, 2, 3, 4, 5, 6, 7, 8, 9] [10, 11] 0 rfl rfl rfl (by decide) rfl rfl (Nat.le_of_ble_eq_true rfl) ⟨Nat.le_of_ble_eq_true rfl, Nat.le_of_ble_eq_true rfl⟩ ⟨rfl, rfl⟩ ⟨Nat.le_of_ble_eq_true rfl, Nat.le_of_ble_eq_true rfl⟩ (z_plain (ws' := wX3 aI q_t q_t_least q_t_second q_t_firstCut o_7.1 o_7.2.1 o_7.2.2 ++ (wX0 aI q_p1 q_p1_bytes q_p1_numbersOfLines q_p1_crossings q_p1_nextInks q_p1_gaps p1_bytes p1_numbersOfLines p1_plainCount p1_rules p1_firstRule p1_lastRule p1_headed p1_footed p1_width p1_crossings p1_nextInks p1_gaps ++ wX1 aI q_p2 q_p2_cuts p2_cuts p2_columns p2_best p2_next p2_plainLines p2_rules p2_joinedLines)) (st' := []) [2, 3, 4, 5, 6, 7, 8, 9, 10, 11, 0, 1] rfl (by decide) rfl ?_)
      refine z_iinc (lv' := [(4, .int (zI (v4 + 1))), (0, .ref q_t), (1, .ref q_p1), (2, .ref q_p2), (3, .int (zI v3))]) 4 F (dX3_readBest_0 30 rfl) rfl (by decide) rfl ?_
      refine z_goto (tgt := 38) F (dX3_readBest_0 31 rfl) rfl ?_
      refine z_lv [1, 2, 3, 4, 0] rfl ?_
      exact ih (v4 + 1) o_7.1 o_7.2.1 o_7.2.2 hf
set_option maxRecDepth 20000 in
set_option maxHeartbeats 2000000 in
theorem b_X3_readBest_l7 {X : zX} {D : va_G} {aI aZ : ClassId} {w0 : va_W} {Qp : Option Value → va_W → Prop} (F : zF X D aI aZ cX3_readBest 5 RX3 wsX3_readBest rmX3_readBest) (E : zT X D w0 Qp 0 0 none) (q_t q_t_least q_t_second q_t_firstCut q_p1 q_p1_bytes q_p1_numbersOfLines q_p1_crossings q_p1_nextInks q_p1_gaps q_p2 q_p2_cuts : Nat) (p1_bytes : (Nat → Int)) (p1_numbersOfLines : (Nat → Int)) (p1_plainCount : Int) (p1_rules : Int) (p1_firstRule : Int) (p1_lastRule : Int) (p1_headed : Int) (p1_footed : Int) (p1_width : Int) (p1_crossings : (Nat → Int)) (p1_nextInks : (Nat → Int)) (p1_gaps : (Nat → Int)) (p2_cuts : (Nat → Int)) (p2_columns : Int) (p2_best : Int) (p2_next : Int) (p2_plainLines : Int) (p2_rules : Int) (p2_joinedLines : Int) {R : (Nat → Int) × (Nat → Int) × (Nat → Int) × (Nat → Int) × Int × Int × Int × Int × Int × Int} (hQ : Qp none (wX3 aI q_t q_t_least q_t_second q_t_firstCut R.1 R.2.1 R.2.2.1 ++ (wX0 aI q_p1 q_p1_bytes q_p1_numbersOfLines q_p1_crossings q_p1_nextInks q_p1_gaps p1_bytes p1_numbersOfLines p1_plainCount p1_rules p1_firstRule p1_lastRule p1_headed p1_footed p1_width p1_crossings p1_nextInks p1_gaps ++ wX1 aI q_p2 q_p2_cuts R.2.2.2.1 R.2.2.2.2.1 R.2.2.2.2.2.1 R.2.2.2.2.2.2.1 R.2.2.2.2.2.2.2.1 R.2.2.2.2.2.2.2.2.1 R.2.2.2.2.2.2.2.2.2))) (K : (Nat → Int) → (Nat → Int) → (Nat → Int) → Option ((Nat → Int) × (Nat → Int) × (Nat → Int) × (Nat → Int) × Int × Int × Int × Int × Int × Int)) (hK : ∀ (t_least : (Nat → Int)) (t_second : (Nat → Int)) (t_firstCut : (Nat → Int)), K t_least t_second t_firstCut = some R → zG X D 0 0 (wX3 aI q_t q_t_least q_t_second q_t_firstCut t_least t_second t_firstCut ++ (wX0 aI q_p1 q_p1_bytes q_p1_numbersOfLines q_p1_crossings q_p1_nextInks q_p1_gaps p1_bytes p1_numbersOfLines p1_plainCount p1_rules p1_firstRule p1_lastRule p1_headed p1_footed p1_width p1_crossings p1_nextInks p1_gaps ++ wX1 aI q_p2 q_p2_cuts p2_cuts p2_columns p2_best p2_next p2_plainLines p2_rules p2_joinedLines)) 65 [(0, .ref q_t), (1, .ref q_p1), (2, .ref q_p2)] []) : ∀ (n : Nat) (v3 : Int) (t_least : (Nat → Int)) (t_second : (Nat → Int)) (t_firstCut : (Nat → Int)), f_X3_readBest_l7 K p1_width p1_crossings p1_nextInks p1_gaps n v3 t_least t_second t_firstCut = some R → zG X D 0 0 (wX3 aI q_t q_t_least q_t_second q_t_firstCut t_least t_second t_firstCut ++ (wX0 aI q_p1 q_p1_bytes q_p1_numbersOfLines q_p1_crossings q_p1_nextInks q_p1_gaps p1_bytes p1_numbersOfLines p1_plainCount p1_rules p1_firstRule p1_lastRule p1_headed p1_footed p1_width p1_crossings p1_nextInks p1_gaps ++ wX1 aI q_p2 q_p2_cuts p2_cuts p2_columns p2_best p2_next p2_plainLines p2_rules p2_joinedLines)) 7 [(0, .ref q_t), (1, .ref q_p1), (2, .ref q_p2), (3, .int (zI v3))] [] := by
  intro n
  induction n with
  | zero => intro v3 t_least t_second t_firstCut hf; rw [f_X3_readBest_l7_z] at hf; cases hf
  | succ n ih =>
    intro v3 t_least t_second t_firstCut hf
    rw [f_X3_readBest_l7_s] at hf
    refine z_iload_n 3 F (dX3_readBest_0 5 rfl) rfl ?_
    refine z_if_lt (tgt := 65) F (dX3_readBest_0 6 rfl) rfl (fun c8 => ?_) (fun c8 => ?_)
    · replace hf := zif_t c8 hf
      refine z_lv [0, 1, 2] rfl ?_
      exact hK t_least t_second t_firstCut hf
    · replace hf := zif_f c8 hf
      refine z_aload_n 0 F (dX3_readBest_0 7 rfl) rfl ?_
      refine z_iconst F (dX3_readBest_0 8 rfl) ?_
      refine z_iload_n 3 F (dX3_readBest_0 9 rfl) rfl ?_
      obtain ⟨o_1, h_2, hf⟩ := zb_some hf
      refine z_callS (As := [.int (zI 1), .int (zI v3)]) (rest := [.ref q_t]) (wr := wX3 aI q_t q_t_least q_t_second q_t_firstCut t_least t_second t_firstCut ++ (wX0 aI q_p1 q_p1_bytes q_p1_numbersOfLines q_p1_crossings q_p1_nextInks q_p1_gaps p1_bytes p1_numbersOfLines p1_plainCount p1_rules p1_firstRule p1_lastRule p1_headed p1_footed p1_width p1_crossings p1_nextInks p1_gaps ++ wX1 aI q_p2 q_p2_cuts p2_cuts p2_columns p2_best p2_next p2_plainLines p2_rules p2_joinedLines)) F (dX3_readBest_0 10 rfl) (k_X3_slotOf (zL X) D aI aZ 1 v3 h_2) gX3_readBest_X3_slotOf mX3_slotOf rfl [] [0, 1, 2, 3, 4, 5, 6, 7, 8, 9, 10, 11] rfl rfl (by decide) rfl rfl (Nat.le_of_ble_eq_true rfl) ⟨Nat.le_of_ble_eq_true rfl, Nat.le_of_ble_eq_true rfl⟩ ⟨rfl, rfl⟩ ⟨Nat.le_of_ble_eq_true rfl, Nat.le_of_ble_eq_true rfl⟩ (z_plain (ws' := wX3 aI q_t q_t_least q_t_second q_t_firstCut t_least t_second t_firstCut ++ (wX0 aI q_p1 q_p1_bytes q_p1_numbersOfLines q_p1_crossings q_p1_nextInks q_p1_gaps p1_bytes p1_numbersOfLines p1_plainCount p1_rules p1_firstRule p1_lastRule p1_headed p1_footed p1_width p1_crossings p1_nextInks p1_gaps ++ wX1 aI q_p2 q_p2_cuts p2_cuts p2_columns p2_best p2_next p2_plainLines p2_rules p2_joinedLines)) (st' := [.int (zI o_1), .ref q_t]) [0, 1, 2, 3, 4, 5, 6, 7, 8, 9, 10, 11] rfl (by decide) rfl ?_)
      refine z_aload_n 1 F (dX3_readBest_0 11 rfl) rfl ?_
      refine z_iload_n 3 F (dX3_readBest_0 12 rfl) rfl ?_
      refine z_aload_n 1 F (dX3_readBest_0 13 rfl) rfl ?_
      refine z_getN (v := .int (zI p1_width)) 4 F (dX3_readBest_0 14 rfl) fl_X3_readBest_21 rfl rfl ?_
      obtain ⟨o_3, h_4, hf⟩ := zb_some hf
      refine z_callV (As := [.int (zI v3), .int (zI p1_width)]) (rest := [.int (zI o_1), .ref q_t]) (wr := wX3 aI q_t q_t_least q_t_second q_t_firstCut t_least t_second t_firstCut ++ wX1 aI q_p2 q_p2_cuts p2_cuts p2_columns p2_best p2_next p2_plainLines p2_rules p2_joinedLines) F (dX3_readBest_0 15 rfl) (k_X0_columnCost (zL X) D aI aZ q_p1 q_p1_bytes q_p1_numbersOfLines q_p1_crossings q_p1_nextInks q_p1_gaps p1_bytes p1_numbersOfLines p1_plainCount p1_rules p1_firstRule p1_lastRule p1_headed p1_footed p1_width p1_crossings p1_nextInks p1_gaps v3 p1_width h_4) gX3_readBest_X0_columnCost mX0_columnCost rfl (ci := 0) rfl [4, 5, 6, 7, 8, 9] [0, 1, 2, 3, 10, 11] 0 rfl rfl rfl (by decide) rfl rfl (Nat.le_of_ble_eq_true rfl) ⟨Nat.le_of_ble_eq_true rfl, Nat.le_of_ble_eq_true rfl⟩ ⟨rfl, rfl⟩ ⟨Nat.le_of_ble_eq_true rfl, Nat.le_of_ble_eq_true rfl⟩ (z_plain (ws' := wX3 aI q_t q_t_least q_t_second q_t_firstCut t_least t_second t_firstCut ++ (wX0 aI q_p1 q_p1_bytes q_p1_numbersOfLines q_p1_crossings q_p1_nextInks q_p1_gaps p1_bytes p1_numbersOfLines p1_plainCount p1_rules p1_firstRule p1_lastRule p1_headed p1_footed p1_width p1_crossings p1_nextInks p1_gaps ++ wX1 aI q_p2 q_p2_cuts p2_cuts p2_columns p2_best p2_next p2_plainLines p2_rules p2_joinedLines)) (st' := [.int (zI o_3), .int (zI o_1), .ref q_t]) [0, 1, 2, 3, 6, 7, 8, 9, 10, 11, 4, 5] rfl (by decide) rfl ?_)
      refine z_ldc (x := 1000000) (x' := 1000000) F (dX3_readBest_0 16 rfl) (by decide +kernel) rfl ?_
      refine z_aload_n 1 F (dX3_readBest_0 17 rfl) rfl ?_
      refine z_getN (v := .int (zI p1_width)) 4 F (dX3_readBest_0 18 rfl) fl_X3_readBest_21 rfl rfl ?_
      obtain ⟨o_5, h_6, hf⟩ := zb_some hf
      refine z_callV (As := [.int (zI o_1), .int (zI o_3), .int (zI 1000000), .int (zI p1_width)]) (rest := []) (wr := wX0 aI q_p1 q_p1_bytes q_p1_numbersOfLines q_p1_crossings q_p1_nextInks q_p1_gaps p1_bytes p1_numbersOfLines p1_plainCount p1_rules p1_firstRule p1_lastRule p1_headed p1_footed p1_width p1_crossings p1_nextInks p1_gaps ++ wX1 aI q_p2 q_p2_cuts p2_cuts p2_columns p2_best p2_next p2_plainLines p2_rules p2_joinedLines) F (dX3_readBest_0 19 rfl) (k_X3_keep (zL X) D aI aZ q_t q_t_least q_t_second q_t_firstCut t_least t_second t_firstCut o_1 o_3 1000000 p1_width h_6) gX3_readBest_X3_keep mX3_keep rfl (ci := 3) rfl [0, 1, 2, 3] [4, 5, 6, 7, 8, 9, 10, 11] 0 rfl rfl rfl (by decide) rfl rfl (Nat.le_of_ble_eq_true rfl) ⟨Nat.le_of_ble_eq_true rfl, Nat.le_of_ble_eq_true rfl⟩ ⟨rfl, rfl⟩ ⟨Nat.le_of_ble_eq_true rfl, Nat.le_of_ble_eq_true rfl⟩ (z_plain (ws' := wX3 aI q_t q_t_least q_t_second q_t_firstCut o_5.1 o_5.2.1 o_5.2.2 ++ (wX0 aI q_p1 q_p1_bytes q_p1_numbersOfLines q_p1_crossings q_p1_nextInks q_p1_gaps p1_bytes p1_numbersOfLines p1_plainCount p1_rules p1_firstRule p1_lastRule p1_headed p1_footed p1_width p1_crossings p1_nextInks p1_gaps ++ wX1 aI q_p2 q_p2_cuts p2_cuts p2_columns p2_best p2_next p2_plainLines p2_rules p2_joinedLines)) (st' := []) [8, 9, 10, 11, 0, 1, 2, 3, 4, 5, 6, 7] rfl (by decide) rfl ?_)
      refine z_iconst F (dX3_readBest_0 20 rfl) ?_
      refine z_istore (lv' := [(4, .int (zI 2)), (0, .ref q_t), (1, .ref q_p1), (2, .ref q_p2), (3, .int (zI v3))]) F (dX3_readBest_0 21 rfl) (by decide) rfl ?_
      refine z_lv [1, 2, 3, 4, 0] rfl ?_
      refine b_X3_readBest_l38 F E q_t q_t_least q_t_second q_t_firstCut q_p1 q_p1_bytes q_p1_numbersOfLines q_p1_crossings q_p1_nextInks q_p1_gaps q_p2 q_p2_cuts v3 p1_bytes p1_numbersOfLines p1_plainCount p1_rules p1_firstRule p1_lastRule p1_headed p1_footed p1_width p1_crossings p1_nextInks p1_gaps p2_cuts p2_columns p2_best p2_next p2_plainLines p2_rules p2_joinedLines hQ _ ?_ zN 2 o_5.1 o_5.2.1 o_5.2.2 hf
      intro t_least_9 t_second_10 t_firstCut_11 hf
      refine z_iinc (lv' := [(3, .int (zI (v3 + (-1)))), (0, .ref q_t), (1, .ref q_p1), (2, .ref q_p2)]) 3 F (dX3_readBest_0 32 rfl) rfl (by decide) rfl ?_
      refine z_goto (tgt := 7) F (dX3_readBest_0 33 rfl) rfl ?_
      refine z_lv [1, 2, 3, 0] rfl ?_
      exact ih (v3 + (-1)) t_least_9 t_second_10 t_firstCut_11 hf
set_option maxRecDepth 20000 in
set_option maxHeartbeats 2000000 in
theorem b_X3_readBest_0 {X : zX} {D : va_G} {aI aZ : ClassId} {w0 : va_W} {Qp : Option Value → va_W → Prop} (F : zF X D aI aZ cX3_readBest 5 RX3 wsX3_readBest rmX3_readBest) (E : zT X D w0 Qp 0 0 none) (q_t q_t_least q_t_second q_t_firstCut q_p1 q_p1_bytes q_p1_numbersOfLines q_p1_crossings q_p1_nextInks q_p1_gaps q_p2 q_p2_cuts : Nat) (t_least : (Nat → Int)) (t_second : (Nat → Int)) (t_firstCut : (Nat → Int)) (p1_bytes : (Nat → Int)) (p1_numbersOfLines : (Nat → Int)) (p1_plainCount : Int) (p1_rules : Int) (p1_firstRule : Int) (p1_lastRule : Int) (p1_headed : Int) (p1_footed : Int) (p1_width : Int) (p1_crossings : (Nat → Int)) (p1_nextInks : (Nat → Int)) (p1_gaps : (Nat → Int)) (p2_cuts : (Nat → Int)) (p2_columns : Int) (p2_best : Int) (p2_next : Int) (p2_plainLines : Int) (p2_rules : Int) (p2_joinedLines : Int) {R : (Nat → Int) × (Nat → Int) × (Nat → Int) × (Nat → Int) × Int × Int × Int × Int × Int × Int} (hQ : Qp none (wX3 aI q_t q_t_least q_t_second q_t_firstCut R.1 R.2.1 R.2.2.1 ++ (wX0 aI q_p1 q_p1_bytes q_p1_numbersOfLines q_p1_crossings q_p1_nextInks q_p1_gaps p1_bytes p1_numbersOfLines p1_plainCount p1_rules p1_firstRule p1_lastRule p1_headed p1_footed p1_width p1_crossings p1_nextInks p1_gaps ++ wX1 aI q_p2 q_p2_cuts R.2.2.2.1 R.2.2.2.2.1 R.2.2.2.2.2.1 R.2.2.2.2.2.2.1 R.2.2.2.2.2.2.2.1 R.2.2.2.2.2.2.2.2.1 R.2.2.2.2.2.2.2.2.2))) (hf : f_X3_readBest t_least t_second t_firstCut p1_plainCount p1_rules p1_width p1_crossings p1_nextInks p1_gaps p2_cuts = some R) : zG X D 0 0 (wX3 aI q_t q_t_least q_t_second q_t_firstCut t_least t_second t_firstCut ++ (wX0 aI q_p1 q_p1_bytes q_p1_numbersOfLines q_p1_crossings q_p1_nextInks q_p1_gaps p1_bytes p1_numbersOfLines p1_plainCount p1_rules p1_firstRule p1_lastRule p1_headed p1_footed p1_width p1_crossings p1_nextInks p1_gaps ++ wX1 aI q_p2 q_p2_cuts p2_cuts p2_columns p2_best p2_next p2_plainLines p2_rules p2_joinedLines)) 0 [(0, .ref q_t), (1, .ref q_p1), (2, .ref q_p2)] [] := by
  unfold f_X3_readBest at hf
  refine z_aload_n 1 F (dX3_readBest_0 0 rfl) rfl ?_
  refine z_getN (v := .int (zI p1_width)) 4 F (dX3_readBest_0 1 rfl) fl_X3_readBest_21 rfl rfl ?_
  refine z_iconst F (dX3_readBest_0 2 rfl) ?_
  refine z_isub F (dX3_readBest_0 3 rfl) ?_
  refine z_istore_n (lv' := [(3, .int (zI (p1_width - 1))), (0, .ref q_t), (1, .ref q_p1), (2, .ref q_p2)]) F (dX3_readBest_0 4 rfl) (by decide) rfl ?_
  refine z_lv [1, 2, 3, 0] rfl ?_
  refine b_X3_readBest_l7 F E q_t q_t_least q_t_second q_t_firstCut q_p1 q_p1_bytes q_p1_numbersOfLines q_p1_crossings q_p1_nextInks q_p1_gaps q_p2 q_p2_cuts p1_bytes p1_numbersOfLines p1_plainCount p1_rules p1_firstRule p1_lastRule p1_headed p1_footed p1_width p1_crossings p1_nextInks p1_gaps p2_cuts p2_columns p2_best p2_next p2_plainLines p2_rules p2_joinedLines hQ _ ?_ zN (p1_width - 1) t_least t_second t_firstCut hf
  intro t_least_12 t_second_13 t_firstCut_14 hf
  refine z_aload_n 0 F (dX3_readBest_0 34 rfl) rfl ?_
  refine z_aload_n 2 F (dX3_readBest_0 35 rfl) rfl ?_
  obtain ⟨o_15, h_16, hf⟩ := zb_some hf
  refine z_callV (As := [.ref q_p2]) (rest := []) (wr := wX0 aI q_p1 q_p1_bytes q_p1_numbersOfLines q_p1_crossings q_p1_nextInks q_p1_gaps p1_bytes p1_numbersOfLines p1_plainCount p1_rules p1_firstRule p1_lastRule p1_headed p1_footed p1_width p1_crossings p1_nextInks p1_gaps) F (dX3_readBest_0 36 rfl) (k_X3_chooseColumns (zL X) D aI aZ q_t q_t_least q_t_second q_t_firstCut q_p2 q_p2_cuts t_least_12 t_second_13 t_firstCut_14 p2_cuts p2_columns p2_best p2_next p2_plainLines p2_rules p2_joinedLines h_16) gX3_readBest_X3_chooseColumns mX3_chooseColumns rfl (ci := 3) rfl [0, 1, 2, 3, 10, 11] [4, 5, 6, 7, 8, 9] 0 rfl rfl rfl (by decide) rfl rfl (Nat.le_of_ble_eq_true rfl) ⟨Nat.le_of_ble_eq_true rfl, Nat.le_of_ble_eq_true rfl⟩ ⟨rfl, rfl⟩ ⟨Nat.le_of_ble_eq_true rfl, Nat.le_of_ble_eq_true rfl⟩ (z_plain (ws' := wX3 aI q_t q_t_least q_t_second q_t_firstCut t_least_12 t_second_13 t_firstCut_14 ++ (wX0 aI q_p1 q_p1_bytes q_p1_numbersOfLines q_p1_crossings q_p1_nextInks q_p1_gaps p1_bytes p1_numbersOfLines p1_plainCount p1_rules p1_firstRule p1_lastRule p1_headed p1_footed p1_width p1_crossings p1_nextInks p1_gaps ++ wX1 aI q_p2 q_p2_cuts p2_cuts o_15.1 o_15.2.1 o_15.2.2 p2_plainLines p2_rules p2_joinedLines)) (st' := []) [6, 7, 8, 9, 0, 1, 2, 3, 4, 5, 10, 11] rfl (by decide) rfl ?_)
  refine z_aload_n 0 F (dX3_readBest_0 37 rfl) rfl ?_
  refine z_aload_n 2 F (dX3_readBest_0 38 rfl) rfl ?_
  obtain ⟨o_17, h_18, hf⟩ := zb_some hf
  refine z_callV (As := [.ref q_p2]) (rest := []) (wr := wX0 aI q_p1 q_p1_bytes q_p1_numbersOfLines q_p1_crossings q_p1_nextInks q_p1_gaps p1_bytes p1_numbersOfLines p1_plainCount p1_rules p1_firstRule p1_lastRule p1_headed p1_footed p1_width p1_crossings p1_nextInks p1_gaps) F (dX3_readBest_0 39 rfl) (k_X3_traceCuts (zL X) D aI aZ q_t q_t_least q_t_second q_t_firstCut q_p2 q_p2_cuts t_least_12 t_second_13 t_firstCut_14 p2_cuts o_15.1 o_15.2.1 o_15.2.2 p2_plainLines p2_rules p2_joinedLines h_18) gX3_readBest_X3_traceCuts mX3_traceCuts rfl (ci := 3) rfl [0, 1, 2, 3, 10, 11] [4, 5, 6, 7, 8, 9] 0 rfl rfl rfl (by decide) rfl rfl (Nat.le_of_ble_eq_true rfl) ⟨Nat.le_of_ble_eq_true rfl, Nat.le_of_ble_eq_true rfl⟩ ⟨rfl, rfl⟩ ⟨Nat.le_of_ble_eq_true rfl, Nat.le_of_ble_eq_true rfl⟩ (z_plain (ws' := wX3 aI q_t q_t_least q_t_second q_t_firstCut t_least_12 t_second_13 t_firstCut_14 ++ (wX0 aI q_p1 q_p1_bytes q_p1_numbersOfLines q_p1_crossings q_p1_nextInks q_p1_gaps p1_bytes p1_numbersOfLines p1_plainCount p1_rules p1_firstRule p1_lastRule p1_headed p1_footed p1_width p1_crossings p1_nextInks p1_gaps ++ wX1 aI q_p2 q_p2_cuts o_17 o_15.1 o_15.2.1 o_15.2.2 p2_plainLines p2_rules p2_joinedLines)) (st' := []) [6, 7, 8, 9, 0, 1, 2, 3, 4, 5, 10, 11] rfl (by decide) rfl ?_)
  refine z_aload_n 2 F (dX3_readBest_1 0 rfl) rfl ?_
  refine z_aload_n 1 F (dX3_readBest_1 1 rfl) rfl ?_
  refine z_getN (v := .int (zI p1_plainCount)) 4 F (dX3_readBest_1 2 rfl) fl_X3_readBest_50 rfl rfl ?_
  refine z_putN (ws' := wX3 aI q_t q_t_least q_t_second q_t_firstCut t_least_12 t_second_13 t_firstCut_14 ++ (wX0 aI q_p1 q_p1_bytes q_p1_numbersOfLines q_p1_crossings q_p1_nextInks q_p1_gaps p1_bytes p1_numbersOfLines p1_plainCount p1_rules p1_firstRule p1_lastRule p1_headed p1_footed p1_width p1_crossings p1_nextInks p1_gaps ++ wX1 aI q_p2 q_p2_cuts o_17 o_15.1 o_15.2.1 o_15.2.2 p1_plainCount p2_rules p2_joinedLines)) 10 F (dX3_readBest_1 3 rfl) fl_X3_readBest_53 tyX1_ok nmX1 rfl rfl rfl rfl rfl (Nat.le_of_ble_eq_true rfl) rfl ?_
  refine z_aload_n 2 F (dX3_readBest_1 4 rfl) rfl ?_
  refine z_aload_n 1 F (dX3_readBest_1 5 rfl) rfl ?_
  refine z_getN (v := .int (zI p1_rules)) 4 F (dX3_readBest_1 6 rfl) fl_X3_readBest_58 rfl rfl ?_
  refine z_putN (ws' := wX3 aI q_t q_t_least q_t_second q_t_firstCut t_least_12 t_second_13 t_firstCut_14 ++ (wX0 aI q_p1 q_p1_bytes q_p1_numbersOfLines q_p1_crossings q_p1_nextInks q_p1_gaps p1_bytes p1_numbersOfLines p1_plainCount p1_rules p1_firstRule p1_lastRule p1_headed p1_footed p1_width p1_crossings p1_nextInks p1_gaps ++ wX1 aI q_p2 q_p2_cuts o_17 o_15.1 o_15.2.1 o_15.2.2 p1_plainCount p1_rules p2_joinedLines)) 10 F (dX3_readBest_1 7 rfl) fl_X3_readBest_61 tyX1_ok nmX1 rfl rfl rfl rfl rfl (Nat.le_of_ble_eq_true rfl) rfl ?_
  refine z_aload_n 2 F (dX3_readBest_1 8 rfl) rfl ?_
  refine z_iconst F (dX3_readBest_1 9 rfl) ?_
  refine z_putN (ws' := wX3 aI q_t q_t_least q_t_second q_t_firstCut t_least_12 t_second_13 t_firstCut_14 ++ (wX0 aI q_p1 q_p1_bytes q_p1_numbersOfLines q_p1_crossings q_p1_nextInks q_p1_gaps p1_bytes p1_numbersOfLines p1_plainCount p1_rules p1_firstRule p1_lastRule p1_headed p1_footed p1_width p1_crossings p1_nextInks p1_gaps ++ wX1 aI q_p2 q_p2_cuts o_17 o_15.1 o_15.2.1 o_15.2.2 p1_plainCount p1_rules 0)) 10 F (dX3_readBest_1 10 rfl) fl_X3_readBest_62 tyX1_ok nmX1 rfl rfl rfl rfl rfl (Nat.le_of_ble_eq_true rfl) rfl ?_
  cases hf
  exact z_vret [0, 1, 2, 3, 4, 5, 6, 7, 8, 9, 10, 11] F E (dX3_readBest_1 11 rfl) rfl (by decide) hQ
set_option maxRecDepth 20000 in
set_option maxHeartbeats 2000000 in
theorem k_X3_readBest (l : Launch) (D : va_G) (aI aZ : ClassId) (q_t q_t_least q_t_second q_t_firstCut q_p1 q_p1_bytes q_p1_numbersOfLines q_p1_crossings q_p1_nextInks q_p1_gaps q_p2 q_p2_cuts : Nat) (t_least : (Nat → Int)) (t_second : (Nat → Int)) (t_firstCut : (Nat → Int)) (p1_bytes : (Nat → Int)) (p1_numbersOfLines : (Nat → Int)) (p1_plainCount : Int) (p1_rules : Int) (p1_firstRule : Int) (p1_lastRule : Int) (p1_headed : Int) (p1_footed : Int) (p1_width : Int) (p1_crossings : (Nat → Int)) (p1_nextInks : (Nat → Int)) (p1_gaps : (Nat → Int)) (p2_cuts : (Nat → Int)) (p2_columns : Int) (p2_best : Int) (p2_next : Int) (p2_plainLines : Int) (p2_rules : Int) (p2_joinedLines : Int) {R : (Nat → Int) × (Nat → Int) × (Nat → Int) × (Nat → Int) × Int × Int × Int × Int × Int × Int} (hf : f_X3_readBest t_least t_second t_firstCut p1_plainCount p1_rules p1_width p1_crossings p1_nextInks p1_gaps p2_cuts = some R) : zC l D aI aZ yX3_readBest wsX3_readBest rmX3_readBest [.ref q_t, .ref q_p1, .ref q_p2] (wX3 aI q_t q_t_least q_t_second q_t_firstCut t_least t_second t_firstCut ++ (wX0 aI q_p1 q_p1_bytes q_p1_numbersOfLines q_p1_crossings q_p1_nextInks q_p1_gaps p1_bytes p1_numbersOfLines p1_plainCount p1_rules p1_firstRule p1_lastRule p1_headed p1_footed p1_width p1_crossings p1_nextInks p1_gaps ++ wX1 aI q_p2 q_p2_cuts p2_cuts p2_columns p2_best p2_next p2_plainLines p2_rules p2_joinedLines)) (fun r w => r = none ∧ w = wX3 aI q_t q_t_least q_t_second q_t_firstCut R.1 R.2.1 R.2.2.1 ++ (wX0 aI q_p1 q_p1_bytes q_p1_numbersOfLines q_p1_crossings q_p1_nextInks q_p1_gaps p1_bytes p1_numbersOfLines p1_plainCount p1_rules p1_firstRule p1_lastRule p1_headed p1_footed p1_width p1_crossings p1_nextInks p1_gaps ++ wX1 aI q_p2 q_p2_cuts R.2.2.2.1 R.2.2.2.2.1 R.2.2.2.2.2.1 R.2.2.2.2.2.2.1 R.2.2.2.2.2.2.2.1 R.2.2.2.2.2.2.2.2.1 R.2.2.2.2.2.2.2.2.2)) 0 0 := by
  refine z_met (cc := cX3_readBest) (maxL := 5) (ret := none) (by decide +kernel) rfl (Nat.le_of_ble_eq_true rfl) (fun X hX F E => ?_)
  exact b_X3_readBest_0 F E q_t q_t_least q_t_second q_t_firstCut q_p1 q_p1_bytes q_p1_numbersOfLines q_p1_crossings q_p1_nextInks q_p1_gaps q_p2 q_p2_cuts t_least t_second t_firstCut p1_bytes p1_numbersOfLines p1_plainCount p1_rules p1_firstRule p1_lastRule p1_headed p1_footed p1_width p1_crossings p1_nextInks p1_gaps p2_cuts p2_columns p2_best p2_next p2_plainLines p2_rules p2_joinedLines ⟨rfl, rfl⟩ hf
