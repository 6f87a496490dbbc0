abbrev rmX5_pick : Room := { frames := 0, cells := 0, slots := 0, locals := 0 }
theorem mX5_pick : zY yX5_pick cX5_pick 2 (some .int) wsX5_pick 2 := ⟨⟨_, rfl⟩, by decide +kernel, by decide +kernel, by decide +kernel⟩
set_option maxRecDepth 20000 in
set_option maxHeartbeats 2000000 in
theorem b_X5_pick_j16 {X : zX} {D : va_G} {aI aZ : ClassId} {w0 : va_W} {Qp : Option Value → va_W → Prop} (F : zF X D aI aZ cX5_pick 2 RX5 wsX5_pick rmX5_pick) (E : zT X D w0 Qp 0 0 (some .int)) (q_r0 : Nat) (r0n : Nat) (hr0n : r0n < 2147483648) (r0 : (Nat → Int)) {R : Int} (hQ : Qp (some (.int (zI R))) (wAr aI q_r0 r0n r0)) (hf : f_X5_pick_j16 = some R) : zG X D 0 0 (wAr aI q_r0 r0n r0) 16 [] [] := by
  unfold f_X5_pick_j16 at hf
  refine z_iconst F (dX5_pick_0 10 rfl) ?_
  cases hf
  exact z_iret [0] F E (dX5_pick_0 11 rfl) rfl (by decide) hQ
set_option maxRecDepth 20000 in
set_option maxHeartbeats 2000000 in
theorem b_X5_pick_0 {X : zX} {D : va_G} {aI aZ : ClassId} {w0 : va_W} {Qp : Option Value → va_W → Prop} (F : zF X D aI aZ cX5_pick 2 RX5 wsX5_pick rmX5_pick) (E : zT X D w0 Qp 0 0 (some .int)) (q_r0 : Nat) (r0n : Nat) (hr0n : r0n < 2147483648) (r0 : (Nat → Int)) (v1 : Int) {R : Int} (hQ : Qp (some (.int (zI R))) (wAr aI q_r0 r0n r0)) (hf : f_X5_pick r0n r0 v1 = some R) : zG X D 0 0 (wAr aI q_r0 r0n r0) 0 [(0, .ref q_r0), (1, .int (zI v1))] [] := by
  unfold f_X5_pick at hf
  refine z_iload_n 1 F (dX5_pick_0 0 rfl) rfl ?_
  refine z_if_lt (tgt := 16) F (dX5_pick_0 1 rfl) rfl (fun c1 => ?_) (fun c1 => ?_)
  · replace hf := zif_t c1 hf
    refine z_lv [] rfl ?_
    exact b_X5_pick_j16 F E q_r0 r0n hr0n r0 hQ hf
  · replace hf := zif_f c1 hf
    refine z_iload_n 1 F (dX5_pick_0 2 rfl) rfl ?_
    refine z_aload_n 0 F (dX5_pick_0 3 rfl) rfl ?_
    refine z_alen (nn := (r0n : Int)) 0 F (dX5_pick_0 4 rfl) rfl rfl ?_
    refine z_icmp_ge (tgt := 16) F (dX5_pick_0 5 rfl) rfl (fun c7 => ?_) (fun c7 => ?_)
    · replace hf := zif_f c7 hf
      refine z_lv [] rfl ?_
      exact b_X5_pick_j16 F E q_r0 r0n hr0n r0 hQ hf
    · replace hf := zif_t c7 hf
      refine z_aload_n 0 F (dX5_pick_0 6 rfl) rfl ?_
      refine z_iload_n 1 F (dX5_pick_0 7 rfl) rfl ?_
      obtain ⟨a_1, hi_2, ea_1, hf⟩ := zrd_some hf
      refine z_iald (f := r0) (nn := (r0n : Int)) 0 F (dX5_pick_0 8 rfl) rfl hi_2 ea_1 rfl hr0n ?_
      refine z_goto (tgt := 17) F (dX5_pick_0 9 rfl) rfl ?_
      cases hf
      exact z_iret [0] F E (dX5_pick_0 11 rfl) rfl (by decide) hQ
set_option maxRecDepth 20000 in
set_option maxHeartbeats 2000000 in
theorem k_X5_pick (l : Launch) (D : va_G) (aI aZ : ClassId) (q_r0 : Nat) (r0n : Nat) (hr0n : r0n < 2147483648) (r0 : (Nat → Int)) (v1 : Int) {R : Int} (hf : f_X5_pick r0n r0 v1 = some R) : zC l D aI aZ yX5_pick wsX5_pick rmX5_pick [.ref q_r0, .int (zI v1)] (wAr aI q_r0 r0n r0) (fun r w => r = (some (.int (zI R))) ∧ w = wAr aI q_r0 r0n r0) 0 0 := by
  refine z_met (cc := cX5_pick) (maxL := 2) (ret := (some .int)) (by decide +kernel) rfl (Nat.le_of_ble_eq_true rfl) (fun X hX F E => ?_)
  exact b_X5_pick_0 F E q_r0 r0n hr0n r0 v1 ⟨rfl, rfl⟩ hf
abbrev rmX5_put : Room := { frames := 0, cells := 0, slots := 0, locals := 0 }
theorem mX5_put : zY yX5_put cX5_put 3 none wsX5_put 3 := ⟨⟨_, rfl⟩, by decide +kernel, by decide +kernel, by decide +kernel⟩
set_option maxRecDepth 20000 in
set_option maxHeartbeats 2000000 in
theorem b_X5_put_0 {X : zX} {D : va_G} {aI aZ : ClassId} {w0 : va_W} {Qp : Option Value → va_W → Prop} (F : zF X D aI aZ cX5_put 3 RX5 wsX5_put rmX5_put) (E : zT X D w0 Qp 0 0 none) (q_r0 : Nat) (r0n : Nat) (hr0n : r0n < 2147483648) (r0 : (Nat → Int)) (v1 : Int) (v2 : Int) {R : (Nat → Int)} (hQ : Qp none (wAr aI q_r0 r0n R)) (hf : f_X5_put r0n r0 v1 v2 = some R) : zG X D 0 0 (wAr aI q_r0 r0n r0) 0 [(0, .ref q_r0), (1, .int (zI v1)), (2, .int (zI v2))] [] := by
  unfold f_X5_put at hf
  refine z_iload_n 1 F (dX5_put_0 0 rfl) rfl ?_
  refine z_if_lt (tgt := 14) F (dX5_put_0 1 rfl) rfl (fun c1 => ?_) (fun c1 => ?_)
  · replace hf := zif_t c1 hf
    cases hf
    exact z_vret [0] F E (dX5_put_0 10 rfl) rfl (by decide) hQ
  · replace hf := zif_f c1 hf
    refine z_iload_n 1 F (dX5_put_0 2 rfl) rfl ?_
    refine z_aload_n 0 F (dX5_put_0 3 rfl) rfl ?_
    refine z_alen (nn := (r0n : Int)) 0 F (dX5_put_0 4 rfl) rfl rfl ?_
    refine z_icmp_ge (tgt := 14) F (dX5_put_0 5 rfl) rfl (fun c7 => ?_) (fun c7 => ?_)
    · replace hf := zif_f c7 hf
      cases hf
      exact z_vret [0] F E (dX5_put_0 10 rfl) rfl (by decide) hQ
    · replace hf := zif_t c7 hf
      refine z_aload_n 0 F (dX5_put_0 6 rfl) rfl ?_
      refine z_iload_n 1 F (dX5_put_0 7 rfl) rfl ?_
      refine z_iload_n 2 F (dX5_put_0 8 rfl) rfl ?_
      obtain ⟨r0_1, hi_2, er0_1, hf⟩ := zwr_some hf
      refine z_iast (f := r0) (nn := (r0n : Int)) (ws' := wAr aI q_r0 r0n r0_1) 0 F (dX5_put_0 9 rfl) rfl hi_2 er0_1 rfl hr0n rfl ?_
      cases hf
      exact z_vret [0] F E (dX5_put_0 10 rfl) rfl (by decide) hQ
set_option maxRecDepth 20000 in
set_option maxHeartbeats 2000000 in
theorem k_X5_put (l : Launch) (D : va_G) (aI aZ : ClassId) (q_r0 : Nat) (r0n : Nat) (hr0n : r0n < 2147483648) (r0 : (Nat → Int)) (v1 : Int) (v2 : Int) {R : (Nat → Int)} (hf : f_X5_put r0n r0 v1 v2 = some R) : zC l D aI aZ yX5_put wsX5_put rmX5_put [.ref q_r0, .int (zI v1), .int (zI v2)] (wAr aI q_r0 r0n r0) (fun r w => r = none ∧ w = wAr aI q_r0 r0n R) 0 0 := by
  refine z_met (cc := cX5_put) (maxL := 3) (ret := none) (by decide +kernel) rfl (Nat.le_of_ble_eq_true rfl) (fun X hX F E => ?_)
  exact b_X5_put_0 F E q_r0 r0n hr0n r0 v1 v2 ⟨rfl, rfl⟩ hf
abbrev rmX5_isDigit : Room := { frames := 0, cells := 0, slots := 0, locals := 0 }
theorem mX5_isDigit : zY yX5_isDigit cX5_isDigit 1 (some .boolean) wsX5_isDigit 1 := ⟨⟨_, rfl⟩, by decide +kernel, by decide +kernel, by decide +kernel⟩
set_option maxRecDepth 20000 in
set_option maxHeartbeats 2000000 in
theorem b_X5_isDigit_j16 {X : zX} {D : va_G} {aI aZ : ClassId} {w0 : va_W} {Qp : Option Value → va_W → Prop} (F : zF X D aI aZ cX5_isDigit 1 RX5 wsX5_isDigit rmX5_isDigit) (E : zT X D w0 Qp 0 0 (some .boolean))   {R : Int} (hQ : Qp (some (.int (zI R))) (([] : va_W))) (hf : f_X5_isDigit_j16 = some R) : zG X D 0 0 (([] : va_W)) 16 [] [] := by
  unfold f_X5_isDigit_j16 at hf
  refine z_iconst F (dX5_isDigit_0 8 rfl) ?_
  cases hf
  exact z_zret [] F E (dX5_isDigit_0 9 rfl) (Or.inl rfl) rfl (by decide) hQ
set_option maxRecDepth 20000 in
set_option maxHeartbeats 2000000 in
theorem b_X5_isDigit_0 {X : zX} {D : va_G} {aI aZ : ClassId} {w0 : va_W} {Qp : Option Value → va_W → Prop} (F : zF X D aI aZ cX5_isDigit 1 RX5 wsX5_isDigit rmX5_isDigit) (E : zT X D w0 Qp 0 0 (some .boolean))  (v0 : Int) {R : Int} (hQ : Qp (some (.int (zI R))) (([] : va_W))) (hf : f_X5_isDigit v0 = some R) : zG X D 0 0 (([] : va_W)) 0 [(0, .int (zI v0))] [] := by
  unfold f_X5_isDigit at hf
  refine z_iload_n 0 F (dX5_isDigit_0 0 rfl) rfl ?_
  refine z_bipush F (dX5_isDigit_0 1 rfl) rfl ?_
  refine z_icmp_lt (tgt := 16) F (dX5_isDigit_0 2 rfl) rfl (fun c3 => ?_) (fun c3 => ?_)
  · replace hf := zif_t c3 hf
    refine z_lv [] rfl ?_
    exact b_X5_isDigit_j16 F E   hQ hf
  · replace hf := zif_f c3 hf
    refine z_iload_n 0 F (dX5_isDigit_0 3 rfl) rfl ?_
    refine z_bipush F (dX5_isDigit_0 4 rfl) rfl ?_
    refine z_icmp_gt (tgt := 16) F (dX5_isDigit_0 5 rfl) rfl (fun c9 => ?_) (fun c9 => ?_)
    · replace hf := zif_t c9 hf
      refine z_lv [] rfl ?_
      exact b_X5_isDigit_j16 F E   hQ hf
    · replace hf := zif_f c9 hf
      refine z_iconst F (dX5_isDigit_0 6 rfl) ?_
      refine z_goto (tgt := 17) F (dX5_isDigit_0 7 rfl) rfl ?_
      cases hf
      exact z_zret [] F E (dX5_isDigit_0 9 rfl) (Or.inr rfl) rfl (by decide) hQ
set_option maxRecDepth 20000 in
set_option maxHeartbeats 2000000 in
theorem k_X5_isDigit (l : Launch) (D : va_G) (aI aZ : ClassId)  (v0 : Int) {R : Int} (hf : f_X5_isDigit v0 = some R) : zC l D aI aZ yX5_isDigit wsX5_isDigit rmX5_isDigit [.int (zI v0)] (([] : va_W)) (fun r w => r = (some (.int (zI R))) ∧ w = ([] : va_W)) 0 0 := by
  refine z_met (cc := cX5_isDigit) (maxL := 1) (ret := (some .boolean)) (by decide +kernel) rfl (Nat.le_of_ble_eq_true rfl) (fun X hX F E => ?_)
  exact b_X5_isDigit_0 F E  v0 ⟨rfl, rfl⟩ hf
theorem inw_X2_lengthOf_2 : ∀ w ∈ u_ws RX2 TX2 3, w ∈ wsX2_lengthOf := by decide +kernel
theorem fl_X2_lengthOf_15 : zfl wsX2_lengthOf RX2 15 2 1 RX2 TX2 3 := ⟨inw_X2_lengthOf_2, rfl, by decide, by decide +kernel⟩
theorem sw1_X2_lengthOf_X5_pick : Cond.static yX5_pick ∈ wsX2_lengthOf := by decide +kernel
theorem sw2_X2_lengthOf_X5_pick : Cond.initialized yX5_pick.cls ∈ wsX2_lengthOf := by decide +kernel
abbrev rmX2_lengthOf : Room := { frames := 1, cells := 0, slots := 0, locals := 21 }
theorem mX2_lengthOf : zY yX2_lengthOf cX2_lengthOf 2 (some .int) wsX2_lengthOf 1 := ⟨⟨_, rfl⟩, by decide +kernel, by decide +kernel, by decide +kernel⟩
set_option maxRecDepth 20000 in
set_option maxHeartbeats 2000000 in
theorem b_X2_lengthOf_0 {X : zX} {D : va_G} {aI aZ : ClassId} {w0 : va_W} {Qp : Option Value → va_W → Prop} (F : zF X D aI aZ cX2_lengthOf 2 RX2 wsX2_lengthOf rmX2_lengthOf) (E : zT X D w0 Qp 0 0 (some .int)) (q_t q_t_bytes q_t_lengths : Nat) (t_bytes : (Nat → Int)) (t_lengths : (Nat → Int)) (t_count : Int) (v1 : Int) {R : Int} (hQ : Qp (some (.int (zI R))) (wX2 aI q_t q_t_bytes q_t_lengths t_bytes t_lengths t_count)) (hf : f_X2_lengthOf t_lengths v1 = some R) : zG X D 0 0 (wX2 aI q_t q_t_bytes q_t_lengths t_bytes t_lengths t_count) 0 [(0, .ref q_t), (1, .int (zI v1))] [] := by
  unfold f_X2_lengthOf at hf
  refine z_aload_n 0 F (dX2_lengthOf_0 0 rfl) rfl ?_
  refine z_get (v := .ref q_t_lengths) 0 F (dX2_lengthOf_0 1 rfl) fl_X2_lengthOf_15 rfl rfl ?_
  refine z_iload_n 1 F (dX2_lengthOf_0 2 rfl) rfl ?_
  obtain ⟨o_1, h_2, hf⟩ := zb_some hf
  refine z_callN (As := [.ref q_t_lengths, .int (zI v1)]) (rest := []) (wr := [(q_t, .inr (2, [.ref q_t_bytes, .ref q_t_lengths, .int (zI t_count)]))] ++ [(q_t_bytes, .inl (aI, 1440, .inl (fun j => zI (t_bytes j))))]) F (dX2_lengthOf_0 3 rfl) (k_X5_pick (zL X) D aI aZ q_t_lengths 24 (by decide) t_lengths v1 h_2) gX2_lengthOf_X5_pick_n22 mX5_pick nst_X2_X5_pick sw1_X2_lengthOf_X5_pick sw2_X2_lengthOf_X5_pick [2] [0, 1] rfl rfl (by decide) rfl rfl (Nat.le_of_ble_eq_true rfl) ⟨Nat.le_of_ble_eq_true rfl, Nat.le_of_ble_eq_true rfl⟩ ⟨rfl, rfl⟩ ⟨Nat.le_of_ble_eq_true rfl, Nat.le_of_ble_eq_true rfl⟩ (z_plain (ws' := wX2 aI q_t q_t_bytes q_t_lengths t_bytes t_lengths t_count) (st' := [.int (zI o_1)]) [0, 1, 2] rfl (by decide) rfl ?_)
  cases hf
  exact z_iret [0, 1, 2] F E (dX2_lengthOf_0 4 rfl) rfl (by decide) hQ
set_option maxRecDepth 20000 in
set_option maxHeartbeats 2000000 in
theorem k_X2_lengthOf (l : Launch) (D : va_G) (aI aZ : ClassId) (q_t q_t_bytes q_t_lengths : Nat) (t_bytes : (Nat → Int)) (t_lengths : (Nat → Int)) (t_count : Int) (v1 : Int) {R : Int} (hf : f_X2_lengthOf t_lengths v1 = some R) : zC l D aI aZ yX2_lengthOf wsX2_lengthOf rmX2_lengthOf [.ref q_t, .int (zI v1)] (wX2 aI q_t q_t_bytes q_t_lengths t_bytes t_lengths t_count) (fun r w => r = (some (.int (zI R))) ∧ w = wX2 aI q_t q_t_bytes q_t_lengths t_bytes t_lengths t_count) 0 0 := by
  refine z_met (cc := cX2_lengthOf) (maxL := 2) (ret := (some .int)) (by decide +kernel) rfl (Nat.le_of_ble_eq_true rfl) (fun X hX F E => ?_)
  exact b_X2_lengthOf_0 F E q_t q_t_bytes q_t_lengths t_bytes t_lengths t_count v1 ⟨rfl, rfl⟩ hf
theorem inw_X2_byteAt_2 : ∀ w ∈ u_ws RX2 TX2 3, w ∈ wsX2_byteAt := by decide +kernel
theorem fl_X2_byteAt_15 : zfl wsX2_byteAt RX2 15 2 1 RX2 TX2 3 := ⟨inw_X2_byteAt_2, rfl, by decide, by decide +kernel⟩
theorem sw1_X2_byteAt_X5_pick : Cond.static yX5_pick ∈ wsX2_byteAt := by decide +kernel
theorem sw2_X2_byteAt_X5_pick : Cond.initialized yX5_pick.cls ∈ wsX2_byteAt := by decide +kernel
theorem fl_X2_byteAt_9 : zfl wsX2_byteAt RX2 9 2 0 RX2 TX2 3 := ⟨inw_X2_byteAt_2, rfl, by decide, by decide +kernel⟩
abbrev rmX2_byteAt : Room := { frames := 1, cells := 0, slots := 0, locals := 21 }
theorem mX2_byteAt : zY yX2_byteAt cX2_byteAt 3 (some .int) wsX2_byteAt 2 := ⟨⟨_, rfl⟩, by decide +kernel, by decide +kernel, by decide +kernel⟩
set_option maxRecDepth 20000 in
set_option maxHeartbeats 2000000 in
theorem b_X2_byteAt_0 {X : zX} {D : va_G} {aI aZ : ClassId} {w0 : va_W} {Qp : Option Value → va_W → Prop} (F : zF X D aI aZ cX2_byteAt 3 RX2 wsX2_byteAt rmX2_byteAt) (E : zT X D w0 Qp 0 0 (some .int)) (q_t q_t_bytes q_t_lengths : Nat) (t_bytes : (Nat → Int)) (t_lengths : (Nat → Int)) (t_count : Int) (v1 : Int) (v2 : Int) {R : Int} (hQ : Qp (some (.int (zI R))) (wX2 aI q_t q_t_bytes q_t_lengths t_bytes t_lengths t_count)) (hf : f_X2_byteAt t_bytes t_lengths v1 v2 = some R) : zG X D 0 0 (wX2 aI q_t q_t_bytes q_t_lengths t_bytes t_lengths t_count) 0 [(0, .ref q_t), (1, .int (zI v1)), (2, .int (zI v2))] [] := by
  unfold f_X2_byteAt at hf
  refine z_iload_n 2 F (dX2_byteAt_0 0 rfl) rfl ?_
  refine z_if_lt (tgt := 16) F (dX2_byteAt_0 1 rfl) rfl (fun c1 => ?_) (fun c1 => ?_)
  · replace hf := zif_t c1 hf
    refine z_bipush F (dX2_byteAt_0 8 rfl) rfl ?_
    cases hf
    exact z_iret [0, 1, 2] F E (dX2_byteAt_0 9 rfl) rfl (by decide) hQ
  · replace hf := zif_f c1 hf
    refine z_iload_n 2 F (dX2_byteAt_0 2 rfl) rfl ?_
    refine z_aload_n 0 F (dX2_byteAt_0 3 rfl) rfl ?_
    refine z_get (v := .ref q_t_lengths) 0 F (dX2_byteAt_0 4 rfl) fl_X2_byteAt_15 rfl rfl ?_
    refine z_iload_n 1 F (dX2_byteAt_0 5 rfl) rfl ?_
    obtain ⟨o_1, h_2, hf⟩ := zb_some hf
    refine z_callN (As := [.ref q_t_lengths, .int (zI v1)]) (rest := [.int (zI v2)]) (wr := [(q_t, .inr (2, [.ref q_t_bytes, .ref q_t_lengths, .int (zI t_count)]))] ++ [(q_t_bytes, .inl (aI, 1440, .inl (fun j => zI (t_bytes j))))]) F (dX2_byteAt_0 6 rfl) (k_X5_pick (zL X) D aI aZ q_t_lengths 24 (by decide) t_lengths v1 h_2) gX2_byteAt_X5_pick_n22 mX5_pick nst_X2_X5_pick sw1_X2_byteAt_X5_pick sw2_X2_byteAt_X5_pick [2] [0, 1] rfl rfl (by decide) rfl rfl (Nat.le_of_ble_eq_true rfl) ⟨Nat.le_of_ble_eq_true rfl, Nat.le_of_ble_eq_true rfl⟩ ⟨rfl, rfl⟩ ⟨Nat.le_of_ble_eq_true rfl, Nat.le_of_ble_eq_true rfl⟩ (z_plain (ws' := wX2 aI q_t q_t_bytes q_t_lengths t_bytes t_lengths t_count) (st' := [.int (zI o_1), .int (zI v2)]) [0, 1, 2] rfl (by decide) rfl ?_)
    refine z_icmp_lt (tgt := 19) F (dX2_byteAt_0 7 rfl) rfl (fun c13 => ?_) (fun c13 => ?_)
    · replace hf := zif_t c13 hf
      refine z_aload_n 0 F (dX2_byteAt_0 10 rfl) rfl ?_
      refine z_get (v := .ref q_t_bytes) 0 F (dX2_byteAt_0 11 rfl) fl_X2_byteAt_9 rfl rfl ?_
      refine z_iload_n 1 F (dX2_byteAt_0 12 rfl) rfl ?_
      refine z_bipush F (dX2_byteAt_0 13 rfl) rfl ?_
      refine z_imul F (dX2_byteAt_0 14 rfl) ?_
      refine z_iload_n 2 F (dX2_byteAt_0 15 rfl) rfl ?_
      refine z_iadd F (dX2_byteAt_0 16 rfl) ?_
      obtain ⟨o_3, h_4, hf⟩ := zb_some hf
      refine z_callN (As := [.ref q_t_bytes, .int (zI ((v1 * 60) + v2))]) (rest := []) (wr := [(q_t, .inr (2, [.ref q_t_bytes, .ref q_t_lengths, .int (zI t_count)]))] ++ [(q_t_lengths, .inl (aI, 24, .inl (fun j => zI (t_lengths j))))]) F (dX2_byteAt_0 17 rfl) (k_X5_pick (zL X) D aI aZ q_t_bytes 1440 (by decide) t_bytes ((v1 * 60) + v2) h_4) gX2_byteAt_X5_pick_n22 mX5_pick nst_X2_X5_pick sw1_X2_byteAt_X5_pick sw2_X2_byteAt_X5_pick [1] [0, 2] rfl rfl (by decide) rfl rfl (Nat.le_of_ble_eq_true rfl) ⟨Nat.le_of_ble_eq_true rfl, Nat.le_of_ble_eq_true rfl⟩ ⟨rfl, rfl⟩ ⟨Nat.le_of_ble_eq_true rfl, Nat.le_of_ble_eq_true rfl⟩ (z_plain (ws' := wX2 aI q_t q_t_bytes q_t_lengths t_bytes t_lengths t_count) (st' := [.int (zI o_3)]) [0, 2, 1] rfl (by decide) rfl ?_)
      cases hf
      exact z_iret [0, 1, 2] F E (dX2_byteAt_0 18 rfl) rfl (by decide) hQ
    · replace hf := zif_f c13 hf
      refine z_bipush F (dX2_byteAt_0 8 rfl) rfl ?_
      cases hf
      exact z_iret [0, 1, 2] F E (dX2_byteAt_0 9 rfl) rfl (by decide) hQ
set_option maxRecDepth 20000 in
set_option maxHeartbeats 2000000 in
theorem k_X2_byteAt (l : Launch) (D : va_G) (aI aZ : ClassId) (q_t q_t_bytes q_t_lengths : Nat) (t_bytes : (Nat → Int)) (t_lengths : (Nat → Int)) (t_count : Int) (v1 : Int) (v2 : Int) {R : Int} (hf : f_X2_byteAt t_bytes t_lengths v1 v2 = some R) : zC l D aI aZ yX2_byteAt wsX2_byteAt rmX2_byteAt [.ref q_t, .int (zI v1), .int (zI v2)] (wX2 aI q_t q_t_bytes q_t_lengths t_bytes t_lengths t_count) (fun r w => r = (some (.int (zI R))) ∧ w = wX2 aI q_t q_t_bytes q_t_lengths t_bytes t_lengths t_count) 0 0 := by
  refine z_met (cc := cX2_byteAt) (maxL := 3) (ret := (some .int)) (by decide +kernel) rfl (Nat.le_of_ble_eq_true rfl) (fun X hX F E => ?_)
  exact b_X2_byteAt_0 F E q_t q_t_bytes q_t_lengths t_bytes t_lengths t_count v1 v2 ⟨rfl, rfl⟩ hf
abbrev rmX2_kindOf : Room := { frames := 2, cells := 0, slots := 0, locals := 43 }
theorem mX2_kindOf : zY yX2_kindOf cX2_kindOf 10 (some .int) wsX2_kindOf 1 := ⟨⟨_, rfl⟩, by decide +kernel, by decide +kernel, by decide +kernel⟩
set_option maxRecDepth 20000 in
set_option maxHeartbeats 2000000 in
theorem b_X2_kindOf_j131 {X : zX} {D : va_G} {aI aZ : ClassId} {w0 : va_W} {Qp : Option Value → va_W → Prop} (F : zF X D aI aZ cX2_kindOf 10 RX2 wsX2_kindOf rmX2_kindOf) (E : zT X D w0 Qp 0 0 (some .int)) (q_t q_t_bytes q_t_lengths : Nat) (s0 : Int) (v1 : Int) (v2 : Int) (v3 : Int) (v4 : Int) (v6 : Int) (t_bytes : (Nat → Int)) (t_lengths : (Nat → Int)) (t_count : Int) {R : Int} (hQ : Qp (some (.int (zI R))) (wX2 aI q_t q_t_bytes q_t_lengths t_bytes t_lengths t_count)) (rec : Int → Int → Int → Int → Option (Int)) (hrec : ∀ (v3 : Int) (v4 : Int) (v5 : Int) (v6 : Int), rec v3 v4 v5 v6 = some R → zG X D 0 0 (wX2 aI q_t q_t_bytes q_t_lengths t_bytes t_lengths t_count) 17 [(0, .ref q_t), (1, .int (zI v1)), (2, .int (zI v2)), (3, .int (zI v3)), (4, .int (zI v4)), (5, .int (zI v5)), (6, .int (zI v6))] []) (hf : f_X2_kindOf_j131 rec s0 v3 v4 v6 = some R) : zG X D 0 0 (wX2 aI q_t q_t_bytes q_t_lengths t_bytes t_lengths t_count) 131 [(0, .ref q_t), (1, .int (zI v1)), (2, .int (zI v2)), (3, .int (zI v3)), (4, .int (zI v4)), (6, .int (zI v6))] [.int (zI s0)] := by
  unfold f_X2_kindOf_j131 at hf
  refine z_istore (lv' := [(5, .int (zI s0)), (0, .ref q_t), (1, .int (zI v1)), (2, .int (zI v2)), (3, .int (zI v3)), (4, .int (zI v4)), (6, .int (zI v6))]) F (dX2_kindOf_1 28 rfl) (by decide) rfl ?_
  refine z_iinc (lv' := [(6, .int (zI (v6 + 1))), (5, .int (zI s0)), (0, .ref q_t), (1, .int (zI v1)), (2, .int (zI v2)), (3, .int (zI v3)), (4, .int (zI v4))]) 6 F (dX2_kindOf_1 29 rfl) rfl (by decide) rfl ?_
  refine z_goto (tgt := 17) F (dX2_kindOf_1 30 rfl) rfl ?_
  refine z_lv [2, 3, 4, 5, 6, 1, 0] rfl ?_
  exact hrec v3 v4 s0 (v6 + 1) hf
set_option maxRecDepth 20000 in
set_option maxHeartbeats 2000000 in
theorem b_X2_kindOf_j126 {X : zX} {D : va_G} {aI aZ : ClassId} {w0 : va_W} {Qp : Option Value → va_W → Prop} (F : zF X D aI aZ cX2_kindOf 10 RX2 wsX2_kindOf rmX2_kindOf) (E : zT X D w0 Qp 0 0 (some .int)) (q_t q_t_bytes q_t_lengths : Nat) (v1 : Int) (v2 : Int) (v3 : Int) (v4 : Int) (v6 : Int) (t_bytes : (Nat → Int)) (t_lengths : (Nat → Int)) (t_count : Int) {R : Int} (hQ : Qp (some (.int (zI R))) (wX2 aI q_t q_t_bytes q_t_lengths t_bytes t_lengths t_count)) (rec : Int → Int → Int → Int → Option (Int)) (hrec : ∀ (v3 : Int) (v4 : Int) (v5 : Int) (v6 : Int), rec v3 v4 v5 v6 = some R → zG X D 0 0 (wX2 aI q_t q_t_bytes q_t_lengths t_bytes t_lengths t_count) 17 [(0, .ref q_t), (1, .int (zI v1)), (2, .int (zI v2)), (3, .int (zI v3)), (4, .int (zI v4)), (5, .int (zI v5)), (6, .int (zI v6))] []) (hf : f_X2_kindOf_j126 rec v3 v4 v6 = some R) : zG X D 0 0 (wX2 aI q_t q_t_bytes q_t_lengths t_bytes t_lengths t_count) 126 [(0, .ref q_t), (1, .int (zI v1)), (2, .int (zI v2)), (3, .int (zI v3)), (4, .int (zI v4)), (6, .int (zI v6))] [] := by
  unfold f_X2_kindOf_j126 at hf
  refine z_iconst F (dX2_kindOf_1 25 rfl) ?_
  refine z_goto (tgt := 131) F (dX2_kindOf_1 26 rfl) rfl ?_
  exact b_X2_kindOf_j131 F E q_t q_t_bytes q_t_lengths 1 v1 v2 v3 v4 v6 t_bytes t_lengths t_count hQ _ hrec hf
set_option maxRecDepth 20000 in
set_option maxHeartbeats 2000000 in
theorem b_X2_kindOf_j130 {X : zX} {D : va_G} {aI aZ : ClassId} {w0 : va_W} {Qp : Option Value → va_W → Prop} (F : zF X D aI aZ cX2_kindOf 10 RX2 wsX2_kindOf rmX2_kindOf) (E : zT X D w0 Qp 0 0 (some .int)) (q_t q_t_bytes q_t_lengths : Nat) (v1 : Int) (v2 : Int) (v3 : Int) (v4 : Int) (v6 : Int) (t_bytes : (Nat → Int)) (t_lengths : (Nat → Int)) (t_count : Int) {R : Int} (hQ : Qp (some (.int (zI R))) (wX2 aI q_t q_t_bytes q_t_lengths t_bytes t_lengths t_count)) (rec : Int → Int → Int → Int → Option (Int)) (hrec : ∀ (v3 : Int) (v4 : Int) (v5 : Int) (v6 : Int), rec v3 v4 v5 v6 = some R → zG X D 0 0 (wX2 aI q_t q_t_bytes q_t_lengths t_bytes t_lengths t_count) 17 [(0, .ref q_t), (1, .int (zI v1)), (2, .int (zI v2)), (3, .int (zI v3)), (4, .int (zI v4)), (5, .int (zI v5)), (6, .int (zI v6))] []) (hf : f_X2_kindOf_j130 rec v3 v4 v6 = some R) : zG X D 0 0 (wX2 aI q_t q_t_bytes q_t_lengths t_bytes t_lengths t_count) 130 [(0, .ref q_t), (1, .int (zI v1)), (2, .int (zI v2)), (3, .int (zI v3)), (4, .int (zI v4)), (6, .int (zI v6))] [] := by
  unfold f_X2_kindOf_j130 at hf
  refine z_iconst F (dX2_kindOf_1 27 rfl) ?_
  exact b_X2_kindOf_j131 F E q_t q_t_bytes q_t_lengths 0 v1 v2 v3 v4 v6 t_bytes t_lengths t_count hQ _ hrec hf
set_option maxRecDepth 20000 in
set_option maxHeartbeats 2000000 in
theorem b_X2_kindOf_j102 {X : zX} {D : va_G} {aI aZ : ClassId} {w0 : va_W} {Qp : Option Value → va_W → Prop} (F : zF X D aI aZ cX2_kindOf 10 RX2 wsX2_kindOf rmX2_kindOf) (E : zT X D w0 Qp 0 0 (some .int)) (q_t q_t_bytes q_t_lengths : Nat) (s0 : Int) (v1 : Int) (v2 : Int) (v3 : Int) (v5 : Int) (v6 : Int) (v7 : Int) (v8 : Int) (v9 : Int) (t_bytes : (Nat → Int)) (t_lengths : (Nat → Int)) (t_count : Int) {R : Int} (hQ : Qp (some (.int (zI R))) (wX2 aI q_t q_t_bytes q_t_lengths t_bytes t_lengths t_count)) (rec : Int → Int → Int → Int → Option (Int)) (hrec : ∀ (v3 : Int) (v4 : Int) (v5 : Int) (v6 : Int), rec v3 v4 v5 v6 = some R → zG X D 0 0 (wX2 aI q_t q_t_bytes q_t_lengths t_bytes t_lengths t_count) 17 [(0, .ref q_t), (1, .int (zI v1)), (2, .int (zI v2)), (3, .int (zI v3)), (4, .int (zI v4)), (5, .int (zI v5)), (6, .int (zI v6))] []) (hf : f_X2_kindOf_j102 rec s0 v3 v5 v6 v7 v8 v9 = some R) : zG X D 0 0 (wX2 aI q_t q_t_bytes q_t_lengths t_bytes t_lengths t_count) 102 [(0, .ref q_t), (1, .int (zI v1)), (2, .int (zI v2)), (3, .int (zI v3)), (5, .int (zI v5)), (6, .int (zI v6)), (7, .int (zI v7)), (8, .int (zI v8)), (9, .int (zI v9))] [.int (zI s0)] := by
  unfold f_X2_kindOf_j102 at hf
  refine z_istore (lv' := [(4, .int (zI s0)), (0, .ref q_t), (1, .int (zI v1)), (2, .int (zI v2)), (3, .int (zI v3)), (5, .int (zI v5)), (6, .int (zI v6)), (7, .int (zI v7)), (8, .int (zI v8)), (9, .int (zI v9))]) F (dX2_kindOf_1 15 rfl) (by decide) rfl ?_
  refine z_iload 5 F (dX2_kindOf_1 16 rfl) rfl ?_
  refine z_if_ne (tgt := 126) F (dX2_kindOf_1 17 rfl) rfl (fun c106 => ?_) (fun c106 => ?_)
  · replace hf := zif_f c106 hf
    refine z_lv [1, 2, 3, 4, 0, 6] rfl ?_
    exact b_X2_kindOf_j126 F E q_t q_t_bytes q_t_lengths v1 v2 v3 s0 v6 t_bytes t_lengths t_count hQ _ hrec hf
  · replace hf := zif_t c106 hf
    refine z_iload 9 F (dX2_kindOf_1 18 rfl) rfl ?_
    refine z_if_ne (tgt := 130) F (dX2_kindOf_1 19 rfl) rfl (fun c111 => ?_) (fun c111 => ?_)
    · replace hf := zif_f c111 hf
      refine z_lv [1, 2, 3, 4, 0, 6] rfl ?_
      exact b_X2_kindOf_j130 F E q_t q_t_bytes q_t_lengths v1 v2 v3 s0 v6 t_bytes t_lengths t_count hQ _ hrec hf
    · replace hf := zif_t c111 hf
      refine z_iload 8 F (dX2_kindOf_1 20 rfl) rfl ?_
      refine z_if_ne (tgt := 130) F (dX2_kindOf_1 21 rfl) rfl (fun c116 => ?_) (fun c116 => ?_)
      · replace hf := zif_f c116 hf
        refine z_lv [1, 2, 3, 4, 0, 6] rfl ?_
        exact b_X2_kindOf_j130 F E q_t q_t_bytes q_t_lengths v1 v2 v3 s0 v6 t_bytes t_lengths t_count hQ _ hrec hf
      · replace hf := zif_t c116 hf
        refine z_iload 7 F (dX2_kindOf_1 22 rfl) rfl ?_
        refine z_bipush F (dX2_kindOf_1 23 rfl) rfl ?_
        refine z_icmp_eq (tgt := 130) F (dX2_kindOf_1 24 rfl) rfl (fun c123 => ?_) (fun c123 => ?_)
        · replace hf := zif_t c123 hf
          refine z_lv [1, 2, 3, 4, 0, 6] rfl ?_
          exact b_X2_kindOf_j130 F E q_t q_t_bytes q_t_lengths v1 v2 v3 s0 v6 t_bytes t_lengths t_count hQ _ hrec hf
        · replace hf := zif_f c123 hf
          refine z_lv [1, 2, 3, 4, 0, 6] rfl ?_
          exact b_X2_kindOf_j126 F E q_t q_t_bytes q_t_lengths v1 v2 v3 s0 v6 t_bytes t_lengths t_count hQ _ hrec hf
set_option maxRecDepth 20000 in
set_option maxHeartbeats 2000000 in
theorem b_X2_kindOf_j97 {X : zX} {D : va_G} {aI aZ : ClassId} {w0 : va_W} {Qp : Option Value → va_W → Prop} (F : zF X D aI aZ cX2_kindOf 10 RX2 wsX2_kindOf rmX2_kindOf) (E : zT X D w0 Qp 0 0 (some .int)) (q_t q_t_bytes q_t_lengths : Nat) (v1 : Int) (v2 : Int) (v3 : Int) (v5 : Int) (v6 : Int) (v7 : Int) (v8 : Int) (v9 : Int) (t_bytes : (Nat → Int)) (t_lengths : (Nat → Int)) (t_count : Int) {R : Int} (hQ : Qp (some (.int (zI R))) (wX2 aI q_t q_t_bytes q_t_lengths t_bytes t_lengths t_count)) (rec : Int → Int → Int → Int → Option (Int)) (hrec : ∀ (v3 : Int) (v4 : Int) (v5 : Int) (v6 : Int), rec v3 v4 v5 v6 = some R → zG X D 0 0 (wX2 aI q_t q_t_bytes q_t_lengths t_bytes t_lengths t_count) 17 [(0, .ref q_t), (1, .int (zI v1)), (2, .int (zI v2)), (3, .int (zI v3)), (4, .int (zI v4)), (5, .int (zI v5)), (6, .int (zI v6))] []) (hf : f_X2_kindOf_j97 rec v3 v5 v6 v7 v8 v9 = some R) : zG X D 0 0 (wX2 aI q_t q_t_bytes q_t_lengths t_bytes t_lengths t_count) 97 [(0, .ref q_t), (1, .int (zI v1)), (2, .int (zI v2)), (3, .int (zI v3)), (5, .int (zI v5)), (6, .int (zI v6)), (7, .int (zI v7)), (8, .int (zI v8)), (9, .int (zI v9))] [] := by
  unfold f_X2_kindOf_j97 at hf
  refine z_iconst F (dX2_kindOf_1 12 rfl) ?_
  refine z_goto (tgt := 102) F (dX2_kindOf_1 13 rfl) rfl ?_
  exact b_X2_kindOf_j102 F E q_t q_t_bytes q_t_lengths 1 v1 v2 v3 v5 v6 v7 v8 v9 t_bytes t_lengths t_count hQ _ hrec hf
set_option maxRecDepth 20000 in
set_option maxHeartbeats 2000000 in
theorem b_X2_kindOf_j85 {X : zX} {D : va_G} {aI aZ : ClassId} {w0 : va_W} {Qp : Option Value → va_W → Prop} (F : zF X D aI aZ cX2_kindOf 10 RX2 wsX2_kindOf rmX2_kindOf) (E : zT X D w0 Qp 0 0 (some .int)) (q_t q_t_bytes q_t_lengths : Nat) (s0 : Int) (s1 : Int) (v1 : Int) (v2 : Int) (v4 : Int) (v5 : Int) (v6 : Int) (v7 : Int) (v8 : Int) (v9 : Int) (t_bytes : (Nat → Int)) (t_lengths : (Nat → Int)) (t_count : Int) {R : Int} (hQ : Qp (some (.int (zI R))) (wX2 aI q_t q_t_bytes q_t_lengths t_bytes t_lengths t_count)) (rec : Int → Int → Int → Int → Option (Int)) (hrec : ∀ (v3 : Int) (v4 : Int) (v5 : Int) (v6 : Int), rec v3 v4 v5 v6 = some R → zG X D 0 0 (wX2 aI q_t q_t_bytes q_t_lengths t_bytes t_lengths t_count) 17 [(0, .ref q_t), (1, .int (zI v1)), (2, .int (zI v2)), (3, .int (zI v3)), (4, .int (zI v4)), (5, .int (zI v5)), (6, .int (zI v6))] []) (hf : f_X2_kindOf_j85 rec s0 s1 v4 v5 v6 v7 v8 v9 = some R) : zG X D 0 0 (wX2 aI q_t q_t_bytes q_t_lengths t_bytes t_lengths t_count) 85 [(0, .ref q_t), (1, .int (zI v1)), (2, .int (zI v2)), (4, .int (zI v4)), (5, .int (zI v5)), (6, .int (zI v6)), (7, .int (zI v7)), (8, .int (zI v8)), (9, .int (zI v9))] [.int (zI s0), .int (zI s1)] := by
  unfold f_X2_kindOf_j85 at hf
  refine z_iadd F (dX2_kindOf_1 6 rfl) ?_
  refine z_istore_n (lv' := [(3, .int (zI (s1 + s0))), (0, .ref q_t), (1, .int (zI v1)), (2, .int (zI v2)), (4, .int (zI v4)), (5, .int (zI v5)), (6, .int (zI v6)), (7, .int (zI v7)), (8, .int (zI v8)), (9, .int (zI v9))]) F (dX2_kindOf_1 7 rfl) (by decide) rfl ?_
  refine z_iload 4 F (dX2_kindOf_1 8 rfl) rfl ?_
  refine z_if_ne (tgt := 97) F (dX2_kindOf_1 9 rfl) rfl (fun c89 => ?_) (fun c89 => ?_)
  · replace hf := zif_f c89 hf
    refine z_lv [1, 2, 3, 0, 5, 6, 7, 8, 9] rfl ?_
    exact b_X2_kindOf_j97 F E q_t q_t_bytes q_t_lengths v1 v2 (s1 + s0) v5 v6 v7 v8 v9 t_bytes t_lengths t_count hQ _ hrec hf
  · replace hf := zif_t c89 hf
    refine z_iload 9 F (dX2_kindOf_1 10 rfl) rfl ?_
    refine z_if_ne (tgt := 101) F (dX2_kindOf_1 11 rfl) rfl (fun c94 => ?_) (fun c94 => ?_)
    · replace hf := zif_f c94 hf
      refine z_iconst F (dX2_kindOf_1 14 rfl) ?_
      refine z_lv [1, 2, 3, 0, 5, 6, 7, 8, 9] rfl ?_
      exact b_X2_kindOf_j102 F E q_t q_t_bytes q_t_lengths 0 v1 v2 (s1 + s0) v5 v6 v7 v8 v9 t_bytes t_lengths t_count hQ _ hrec hf
    · replace hf := zif_t c94 hf
      refine z_lv [1, 2, 3, 0, 5, 6, 7, 8, 9] rfl ?_
      exact b_X2_kindOf_j97 F E q_t q_t_bytes q_t_lengths v1 v2 (s1 + s0) v5 v6 v7 v8 v9 t_bytes t_lengths t_count hQ _ hrec hf
set_option maxRecDepth 20000 in
set_option maxHeartbeats 2000000 in
theorem b_X2_kindOf_j72 {X : zX} {D : va_G} {aI aZ : ClassId} {w0 : va_W} {Qp : Option Value → va_W → Prop} (F : zF X D aI aZ cX2_kindOf 10 RX2 wsX2_kindOf rmX2_kindOf) (E : zT X D w0 Qp 0 0 (some .int)) (q_t q_t_bytes q_t_lengths : Nat) (s0 : Int) (v1 : Int) (v2 : Int) (v3 : Int) (v4 : Int) (v5 : Int) (v6 : Int) (v7 : Int) (v8 : Int) (t_bytes : (Nat → Int)) (t_lengths : (Nat → Int)) (t_count : Int) {R : Int} (hQ : Qp (some (.int (zI R))) (wX2 aI q_t q_t_bytes q_t_lengths t_bytes t_lengths t_count)) (rec : Int → Int → Int → Int → Option (Int)) (hrec : ∀ (v3 : Int) (v4 : Int) (v5 : Int) (v6 : Int), rec v3 v4 v5 v6 = some R → zG X D 0 0 (wX2 aI q_t q_t_bytes q_t_lengths t_bytes t_lengths t_count) 17 [(0, .ref q_t), (1, .int (zI v1)), (2, .int (zI v2)), (3, .int (zI v3)), (4, .int (zI v4)), (5, .int (zI v5)), (6, .int (zI v6))] []) (hf : f_X2_kindOf_j72 rec s0 v3 v4 v5 v6 v7 v8 = some R) : zG X D 0 0 (wX2 aI q_t q_t_bytes q_t_lengths t_bytes t_lengths t_count) 72 [(0, .ref q_t), (1, .int (zI v1)), (2, .int (zI v2)), (3, .int (zI v3)), (4, .int (zI v4)), (5, .int (zI v5)), (6, .int (zI v6)), (7, .int (zI v7)), (8, .int (zI v8))] [.int (zI s0)] := by
  unfold f_X2_kindOf_j72 at hf
  refine z_istore (lv' := [(9, .int (zI s0)), (0, .ref q_t), (1, .int (zI v1)), (2, .int (zI v2)), (3, .int (zI v3)), (4, .int (zI v4)), (5, .int (zI v5)), (6, .int (zI v6)), (7, .int (zI v7)), (8, .int (zI v8))]) F (dX2_kindOf_0 39 rfl) (by decide) rfl ?_
  refine z_iload_n 4 F (dX2_kindOf_1 0 rfl) rfl ?_
  refine z_iload 9 F (dX2_kindOf_1 1 rfl) rfl ?_
  refine z_if_eq (tgt := 84) F (dX2_kindOf_1 2 rfl) rfl (fun c77 => ?_) (fun c77 => ?_)
  · replace hf := zif_t c77 hf
    refine z_iconst F (dX2_kindOf_1 5 rfl) ?_
    refine z_lv [1, 2, 3, 5, 6, 7, 8, 9, 0] rfl ?_
    exact b_X2_kindOf_j85 F E q_t q_t_bytes q_t_lengths 0 v3 v1 v2 v4 v5 v6 v7 v8 s0 t_bytes t_lengths t_count hQ _ hrec hf
  · replace hf := zif_f c77 hf
    refine z_iconst F (dX2_kindOf_1 3 rfl) ?_
    refine z_goto (tgt := 85) F (dX2_kindOf_1 4 rfl) rfl ?_
    refine z_lv [1, 2, 3, 5, 6, 7, 8, 9, 0] rfl ?_
    exact b_X2_kindOf_j85 F E q_t q_t_bytes q_t_lengths 1 v3 v1 v2 v4 v5 v6 v7 v8 s0 t_bytes t_lengths t_count hQ _ hrec hf
set_option maxRecDepth 20000 in
set_option maxHeartbeats 2000000 in
theorem b_X2_kindOf_j67 {X : zX} {D : va_G} {aI aZ : ClassId} {w0 : va_W} {Qp : Option Value → va_W → Prop} (F : zF X D aI aZ cX2_kindOf 10 RX2 wsX2_kindOf rmX2_kindOf) (E : zT X D w0 Qp 0 0 (some .int)) (q_t q_t_bytes q_t_lengths : Nat) (v1 : Int) (v2 : Int) (v3 : Int) (v4 : Int) (v5 : Int) (v6 : Int) (v7 : Int) (v8 : Int) (t_bytes : (Nat → Int)) (t_lengths : (Nat → Int)) (t_count : Int) {R : Int} (hQ : Qp (some (.int (zI R))) (wX2 aI q_t q_t_bytes q_t_lengths t_bytes t_lengths t_count)) (rec : Int → Int → Int → Int → Option (Int)) (hrec : ∀ (v3 : Int) (v4 : Int) (v5 : Int) (v6 : Int), rec v3 v4 v5 v6 = some R → zG X D 0 0 (wX2 aI q_t q_t_bytes q_t_lengths t_bytes t_lengths t_count) 17 [(0, .ref q_t), (1, .int (zI v1)), (2, .int (zI v2)), (3, .int (zI v3)), (4, .int (zI v4)), (5, .int (zI v5)), (6, .int (zI v6))] []) (hf : f_X2_kindOf_j67 rec v3 v4 v5 v6 v7 v8 = some R) : zG X D 0 0 (wX2 aI q_t q_t_bytes q_t_lengths t_bytes t_lengths t_count) 67 [(0, .ref q_t), (1, .int (zI v1)), (2, .int (zI v2)), (3, .int (zI v3)), (4, .int (zI v4)), (5, .int (zI v5)), (6, .int (zI v6)), (7, .int (zI v7)), (8, .int (zI v8))] [] := by
  unfold f_X2_kindOf_j67 at hf
  refine z_iconst F (dX2_kindOf_0 36 rfl) ?_
  refine z_goto (tgt := 72) F (dX2_kindOf_0 37 rfl) rfl ?_
  exact b_X2_kindOf_j72 F E q_t q_t_bytes q_t_lengths 1 v1 v2 v3 v4 v5 v6 v7 v8 t_bytes t_lengths t_count hQ _ hrec hf
set_option maxRecDepth 20000 in
set_option maxHeartbeats 2000000 in
theorem b_X2_kindOf_j51 {X : zX} {D : va_G} {aI aZ : ClassId} {w0 : va_W} {Qp : Option Value → va_W → Prop} (F : zF X D aI aZ cX2_kindOf 10 RX2 wsX2_kindOf rmX2_kindOf) (E : zT X D w0 Qp 0 0 (some .int)) (q_t q_t_bytes q_t_lengths : Nat) (s0 : Int) (v1 : Int) (v2 : Int) (v3 : Int) (v4 : Int) (v5 : Int) (v6 : Int) (v7 : Int) (t_bytes : (Nat → Int)) (t_lengths : (Nat → Int)) (t_count : Int) {R : Int} (hQ : Qp (some (.int (zI R))) (wX2 aI q_t q_t_bytes q_t_lengths t_bytes t_lengths t_count)) (rec : Int → Int → Int → Int → Option (Int)) (hrec : ∀ (v3 : Int) (v4 : Int) (v5 : Int) (v6 : Int), rec v3 v4 v5 v6 = some R → zG X D 0 0 (wX2 aI q_t q_t_bytes q_t_lengths t_bytes t_lengths t_count) 17 [(0, .ref q_t), (1, .int (zI v1)), (2, .int (zI v2)), (3, .int (zI v3)), (4, .int (zI v4)), (5, .int (zI v5)), (6, .int (zI v6))] []) (hf : f_X2_kindOf_j51 rec s0 v3 v4 v5 v6 v7 = some R) : zG X D 0 0 (wX2 aI q_t q_t_bytes q_t_lengths t_bytes t_lengths t_count) 51 [(0, .ref q_t), (1, .int (zI v1)), (2, .int (zI v2)), (3, .int (zI v3)), (4, .int (zI v4)), (5, .int (zI v5)), (6, .int (zI v6)), (7, .int (zI v7))] [.int (zI s0)] := by
  unfold f_X2_kindOf_j51 at hf
  refine z_istore (lv' := [(8, .int (zI s0)), (0, .ref q_t), (1, .int (zI v1)), (2, .int (zI v2)), (3, .int (zI v3)), (4, .int (zI v4)), (5, .int (zI v5)), (6, .int (zI v6)), (7, .int (zI v7))]) F (dX2_kindOf_0 29 rfl) (by decide) rfl ?_
  refine z_iload 8 F (dX2_kindOf_0 30 rfl) rfl ?_
  refine z_bipush F (dX2_kindOf_0 31 rfl) rfl ?_
  refine z_icmp_eq (tgt := 67) F (dX2_kindOf_0 32 rfl) rfl (fun c57 => ?_) (fun c57 => ?_)
  · replace hf := zif_t c57 hf
    refine z_lv [1, 2, 3, 4, 5, 6, 7, 8, 0] rfl ?_
    exact b_X2_kindOf_j67 F E q_t q_t_bytes q_t_lengths v1 v2 v3 v4 v5 v6 v7 s0 t_bytes t_lengths t_count hQ _ hrec hf
  · replace hf := zif_f c57 hf
    refine z_iload 8 F (dX2_kindOf_0 33 rfl) rfl ?_
    refine z_bipush F (dX2_kindOf_0 34 rfl) rfl ?_
    refine z_icmp_ne (tgt := 71) F (dX2_kindOf_0 35 rfl) rfl (fun c64 => ?_) (fun c64 => ?_)
    · replace hf := zif_f c64 hf
      refine z_iconst F (dX2_kindOf_0 38 rfl) ?_
      refine z_lv [1, 2, 3, 4, 5, 6, 7, 8, 0] rfl ?_
      exact b_X2_kindOf_j72 F E q_t q_t_bytes q_t_lengths 0 v1 v2 v3 v4 v5 v6 v7 s0 t_bytes t_lengths t_count hQ _ hrec hf
    · replace hf := zif_t c64 hf
      refine z_lv [1, 2, 3, 4, 5, 6, 7, 8, 0] rfl ?_
      exact b_X2_kindOf_j67 F E q_t q_t_bytes q_t_lengths v1 v2 v3 v4 v5 v6 v7 s0 t_bytes t_lengths t_count hQ _ hrec hf
set_option maxRecDepth 20000 in
set_option maxHeartbeats 2000000 in
theorem b_X2_kindOf_j46 {X : zX} {D : va_G} {aI aZ : ClassId} {w0 : va_W} {Qp : Option Value → va_W → Prop} (F : zF X D aI aZ cX2_kindOf 10 RX2 wsX2_kindOf rmX2_kindOf) (E : zT X D w0 Qp 0 0 (some .int)) (q_t q_t_bytes q_t_lengths : Nat) (v1 : Int) (v2 : Int) (v3 : Int) (v4 : Int) (v5 : Int) (v6 : Int) (v7 : Int) (t_bytes : (Nat → Int)) (t_lengths : (Nat → Int)) (t_count : Int) {R : Int} (hQ : Qp (some (.int (zI R))) (wX2 aI q_t q_t_bytes q_t_lengths t_bytes t_lengths t_count)) (rec : Int → Int → Int → Int → Option (Int)) (hrec : ∀ (v3 : Int) (v4 : Int) (v5 : Int) (v6 : Int), rec v3 v4 v5 v6 = some R → zG X D 0 0 (wX2 aI q_t q_t_bytes q_t_lengths t_bytes t_lengths t_count) 17 [(0, .ref q_t), (1, .int (zI v1)), (2, .int (zI v2)), (3, .int (zI v3)), (4, .int (zI v4)), (5, .int (zI v5)), (6, .int (zI v6))] []) (hf : f_X2_kindOf_j46 rec v3 v4 v5 v6 v7 = some R) : zG X D 0 0 (wX2 aI q_t q_t_bytes q_t_lengths t_bytes t_lengths t_count) 46 [(0, .ref q_t), (1, .int (zI v1)), (2, .int (zI v2)), (3, .int (zI v3)), (4, .int (zI v4)), (5, .int (zI v5)), (6, .int (zI v6)), (7, .int (zI v7))] [] := by
  unfold f_X2_kindOf_j46 at hf
  refine z_iconst F (dX2_kindOf_0 26 rfl) ?_
  refine z_goto (tgt := 51) F (dX2_kindOf_0 27 rfl) rfl ?_
  exact b_X2_kindOf_j51 F E q_t q_t_bytes q_t_lengths 1 v1 v2 v3 v4 v5 v6 v7 t_bytes t_lengths t_count hQ _ hrec hf
set_option maxRecDepth 20000 in
set_option maxHeartbeats 2000000 in
theorem b_X2_kindOf_l17 {X : zX} {D : va_G} {aI aZ : ClassId} {w0 : va_W} {Qp : Option Value → va_W → Prop} (F : zF X D aI aZ cX2_kindOf 10 RX2 wsX2_kindOf rmX2_kindOf) (E : zT X D w0 Qp 0 0 (some .int)) (q_t q_t_bytes q_t_lengths : Nat) (v1 : Int) (v2 : Int) (t_bytes : (Nat → Int)) (t_lengths : (Nat → Int)) (t_count : Int) {R : Int} (hQ : Qp (some (.int (zI R))) (wX2 aI q_t q_t_bytes q_t_lengths t_bytes t_lengths t_count)) (K : Int → Int → Int → Option (Int)) (hK : ∀ (v3 : Int) (v4 : Int) (v5 : Int), K v3 v4 v5 = some R → zG X D 0 0 (wX2 aI q_t q_t_bytes q_t_lengths t_bytes t_lengths t_count) 139 [(3, .int (zI v3)), (4, .int (zI v4)), (5, .int (zI v5))] []) : ∀ (n : Nat) (v3 : Int) (v4 : Int) (v5 : Int) (v6 : Int), f_X2_kindOf_l17 K v1 v2 t_bytes t_lengths n v3 v4 v5 v6 = some R → zG X D 0 0 (wX2 aI q_t q_t_bytes q_t_lengths t_bytes t_lengths t_count) 17 [(0, .ref q_t), (1, .int (zI v1)), (2, .int (zI v2)), (3, .int (zI v3)), (4, .int (zI v4)), (5, .int (zI v5)), (6, .int (zI v6))] [] := by
  intro n
  induction n with
  | zero => intro v3 v4 v5 v6 hf; rw [f_X2_kindOf_l17_z] at hf; cases hf
  | succ n ih =>
    intro v3 v4 v5 v6 hf
    rw [f_X2_kindOf_l17_s] at hf
    refine z_iload 6 F (dX2_kindOf_0 12 rfl) rfl ?_
    refine z_iload_n 2 F (dX2_kindOf_0 13 rfl) rfl ?_
    refine z_icmp_ge (tgt := 139) F (dX2_kindOf_0 14 rfl) rfl (fun c20 => ?_) (fun c20 => ?_)
    · replace hf := zif_f c20 hf
      refine z_lv [3, 4, 5] rfl ?_
      exact hK v3 v4 v5 hf
    · replace hf := zif_t c20 hf
      refine z_aload_n 0 F (dX2_kindOf_0 15 rfl) rfl ?_
      refine z_iload_n 1 F (dX2_kindOf_0 16 rfl) rfl ?_
      refine z_iload 6 F (dX2_kindOf_0 17 rfl) rfl ?_
      obtain ⟨o_3, h_4, hf⟩ := zb_some hf
      refine z_callV (As := [.int (zI v1), .int (zI v6)]) (rest := []) (wr := []) F (dX2_kindOf_0 18 rfl) (k_X2_byteAt (zL X) D aI aZ q_t q_t_bytes q_t_lengths t_bytes t_lengths t_count v1 v6 h_4) gX2_kindOf_X2_byteAt mX2_byteAt rfl (ci := 2) rfl [0, 1, 2] [] 0 rfl rfl rfl (by decide) rfl rfl (Nat.le_of_ble_eq_true rfl) ⟨Nat.le_of_ble_eq_true rfl, Nat.le_of_ble_eq_true rfl⟩ ⟨rfl, rfl⟩ ⟨Nat.le_of_ble_eq_true rfl, Nat.le_of_ble_eq_true rfl⟩ (z_plain (ws' := wX2 aI q_t q_t_bytes q_t_lengths t_bytes t_lengths t_count) (st' := [.int (zI o_3)]) [0, 1, 2] rfl (by decide) rfl ?_)
      refine z_istore (lv' := [(7, .int (zI o_3)), (0, .ref q_t), (1, .int (zI v1)), (2, .int (zI v2)), (3, .int (zI v3)), (4, .int (zI v4)), (5, .int (zI v5)), (6, .int (zI v6))]) F (dX2_kindOf_0 19 rfl) (by decide) rfl ?_
      refine z_iload 0 F (dX2_kindOf_0 20 rfl) rfl ?_
      refine z_bipush F (dX2_kindOf_0 21 rfl) rfl ?_
      refine z_icmp_eq (tgt := 46) F (dX2_kindOf_0 22 rfl) rfl (fun c36 => ?_) (fun c36 => ?_)
      · replace hf := zif_t c36 hf
        refine z_lv [1, 2, 3, 4, 5, 6, 7, 0] rfl ?_
        exact b_X2_kindOf_j46 F E q_t q_t_bytes q_t_lengths v1 v2 v3 v4 v5 v6 o_3 t_bytes t_lengths t_count hQ _ ih hf
      · replace hf := zif_f c36 hf
        refine z_iload 0 F (dX2_kindOf_0 23 rfl) rfl ?_
        refine z_bipush F (dX2_kindOf_0 24 rfl) rfl ?_
        refine z_icmp_ne (tgt := 50) F (dX2_kindOf_0 25 rfl) rfl (fun c43 => ?_) (fun c43 => ?_)
        · replace hf := zif_f c43 hf
          refine z_iconst F (dX2_kindOf_0 28 rfl) ?_
          refine z_lv [1, 2, 3, 4, 5, 6, 7, 0] rfl ?_
          exact b_X2_kindOf_j51 F E q_t q_t_bytes q_t_lengths 0 v1 v2 v3 v4 v5 v6 o_3 t_bytes t_lengths t_count hQ _ ih hf
        · replace hf := zif_t c43 hf
          refine z_lv [1, 2, 3, 4, 5, 6, 7, 0] rfl ?_
          exact b_X2_kindOf_j46 F E q_t q_t_bytes q_t_lengths v1 v2 v3 v4 v5 v6 o_3 t_bytes t_lengths t_count hQ _ ih hf
set_option maxRecDepth 20000 in
set_option maxHeartbeats 2000000 in
theorem b_X2_kindOf_j160 {X : zX} {D : va_G} {aI aZ : ClassId} {w0 : va_W} {Qp : Option Value → va_W → Prop} (F : zF X D aI aZ cX2_kindOf 10 RX2 wsX2_kindOf rmX2_kindOf) (E : zT X D w0 Qp 0 0 (some .int)) (q_t q_t_bytes q_t_lengths : Nat) (t_bytes : (Nat → Int)) (t_lengths : (Nat → Int)) (t_count : Int) {R : Int} (hQ : Qp (some (.int (zI R))) (wX2 aI q_t q_t_bytes q_t_lengths t_bytes t_lengths t_count)) (hf : f_X2_kindOf_j160 = some R) : zG X D 0 0 (wX2 aI q_t q_t_bytes q_t_lengths t_bytes t_lengths t_count) 160 [] [] := by
  unfold f_X2_kindOf_j160 at hf
  refine z_iconst F (dX2_kindOf_2 2 rfl) ?_
  cases hf
  exact z_iret [0, 1, 2] F E (dX2_kindOf_2 3 rfl) rfl (by decide) hQ
set_option maxRecDepth 20000 in
set_option maxHeartbeats 2000000 in
theorem b_X2_kindOf_0 {X : zX} {D : va_G} {aI aZ : ClassId} {w0 : va_W} {Qp : Option Value → va_W → Prop} (F : zF X D aI aZ cX2_kindOf 10 RX2 wsX2_kindOf rmX2_kindOf) (E : zT X D w0 Qp 0 0 (some .int)) (q_t q_t_bytes q_t_lengths : Nat) (t_bytes : (Nat → Int)) (t_lengths : (Nat → Int)) (t_count : Int) (v1 : Int) {R : Int} (hQ : Qp (some (.int (zI R))) (wX2 aI q_t q_t_bytes q_t_lengths t_bytes t_lengths t_count)) (hf : f_X2_kindOf t_bytes t_lengths v1 = some R) : zG X D 0 0 (wX2 aI q_t q_t_bytes q_t_lengths t_bytes t_lengths t_count) 0 [(0, .ref q_t), (1, .int (zI v1))] [] := by
  unfold f_X2_kindOf at hf
  refine z_aload_n 0 F (dX2_kindOf_0 0 rfl) rfl ?_
  refine z_iload_n 1 F (dX2_kindOf_0 1 rfl) rfl ?_
  obtain ⟨o_1, h_2, hf⟩ := zb_some hf
  refine z_callV (As := [.int (zI v1)]) (rest := []) (wr := []) F (dX2_kindOf_0 2 rfl) (k_X2_lengthOf (zL X) D aI aZ q_t q_t_bytes q_t_lengths t_bytes t_lengths t_count v1 h_2) gX2_kindOf_X2_lengthOf mX2_lengthOf rfl (ci := 2) rfl [0, 1, 2] [] 0 rfl rfl rfl (by decide) rfl rfl (Nat.le_of_ble_eq_true rfl) ⟨Nat.le_of_ble_eq_true rfl, Nat.le_of_ble_eq_true rfl⟩ ⟨rfl, rfl⟩ ⟨Nat.le_of_ble_eq_true rfl, Nat.le_of_ble_eq_true rfl⟩ (z_plain (ws' := wX2 aI q_t q_t_bytes q_t_lengths t_bytes t_lengths t_count) (st' := [.int (zI o_1)]) [0, 1, 2] rfl (by decide) rfl ?_)
  refine z_istore_n (lv' := [(2, .int (zI o_1)), (0, .ref q_t), (1, .int (zI v1))]) F (dX2_kindOf_0 3 rfl) (by decide) rfl ?_
  refine z_iconst F (dX2_kindOf_0 4 rfl) ?_
  refine z_istore_n (lv' := [(3, .int (zI 0)), (2, .int (zI o_1)), (0, .ref q_t), (1, .int (zI v1))]) F (dX2_kindOf_0 5 rfl) (by decide) rfl ?_
  refine z_iconst F (dX2_kindOf_0 6 rfl) ?_
  refine z_istore (lv' := [(4, .int (zI 0)), (3, .int (zI 0)), (2, .int (zI o_1)), (0, .ref q_t), (1, .int (zI v1))]) F (dX2_kindOf_0 7 rfl) (by decide) rfl ?_
  refine z_iconst F (dX2_kindOf_0 8 rfl) ?_
  refine z_istore (lv' := [(5, .int (zI 0)), (4, .int (zI 0)), (3, .int (zI 0)), (2, .int (zI o_1)), (0, .ref q_t), (1, .int (zI v1))]) F (dX2_kindOf_0 9 rfl) (by decide) rfl ?_
  refine z_iconst F (dX2_kindOf_0 10 rfl) ?_
  refine z_istore (lv' := [(6, .int (zI 0)), (5, .int (zI 0)), (4, .int (zI 0)), (3, .int (zI 0)), (2, .int (zI o_1)), (0, .ref q_t), (1, .int (zI v1))]) F (dX2_kindOf_0 11 rfl) (by decide) rfl ?_
  refine z_lv [5, 6, 4, 3, 2, 1, 0] rfl ?_
  refine b_X2_kindOf_l17 F E q_t q_t_bytes q_t_lengths v1 o_1 t_bytes t_lengths t_count hQ _ ?_ zN 0 0 0 0 hf
  intro v3_5 v4_6 v5_7 hf
  refine z_iload 1 F (dX2_kindOf_1 31 rfl) rfl ?_
  refine z_if_ne (tgt := 146) F (dX2_kindOf_1 32 rfl) rfl (fun c141 => ?_) (fun c141 => ?_)
  · replace hf := zif_f c141 hf
    refine z_iload_n 0 F (dX2_kindOf_1 35 rfl) rfl ?_
    refine z_iconst F (dX2_kindOf_1 36 rfl) ?_
    refine z_icmp_lt (tgt := 160) F (dX2_kindOf_1 37 rfl) rfl (fun c148 => ?_) (fun c148 => ?_)
    · replace hf := zif_t c148 hf
      refine z_lv [] rfl ?_
      exact b_X2_kindOf_j160 F E q_t q_t_bytes q_t_lengths t_bytes t_lengths t_count hQ hf
    · replace hf := zif_f c148 hf
      refine z_iload 2 F (dX2_kindOf_1 38 rfl) rfl ?_
      refine z_if_ne (tgt := 160) F (dX2_kindOf_1 39 rfl) rfl (fun c153 => ?_) (fun c153 => ?_)
      · replace hf := zif_f c153 hf
        refine z_lv [] rfl ?_
        exact b_X2_kindOf_j160 F E q_t q_t_bytes q_t_lengths t_bytes t_lengths t_count hQ hf
      · replace hf := zif_t c153 hf
        refine z_iconst F (dX2_kindOf_2 0 rfl) ?_
        refine z_goto (tgt := 161) F (dX2_kindOf_2 1 rfl) rfl ?_
        cases hf
        exact z_iret [0, 1, 2] F E (dX2_kindOf_2 3 rfl) rfl (by decide) hQ
  · replace hf := zif_t c141 hf
    refine z_iconst F (dX2_kindOf_1 33 rfl) ?_
    cases hf
    exact z_iret [0, 1, 2] F E (dX2_kindOf_1 34 rfl) rfl (by decide) hQ
set_option maxRecDepth 20000 in
set_option maxHeartbeats 2000000 in
theorem k_X2_kindOf (l : Launch) (D : va_G) (aI aZ : ClassId) (q_t q_t_bytes q_t_lengths : Nat) (t_bytes : (Nat → Int)) (t_lengths : (Nat → Int)) (t_count : Int) (v1 : Int) {R : Int} (hf : f_X2_kindOf t_bytes t_lengths v1 = some R) : zC l D aI aZ yX2_kindOf wsX2_kindOf rmX2_kindOf [.ref q_t, .int (zI v1)] (wX2 aI q_t q_t_bytes q_t_lengths t_bytes t_lengths t_count) (fun r w => r = (some (.int (zI R))) ∧ w = wX2 aI q_t q_t_bytes q_t_lengths t_bytes t_lengths t_count) 0 0 := by
  refine z_met (cc := cX2_kindOf) (maxL := 10) (ret := (some .int)) (by decide +kernel) rfl (Nat.le_of_ble_eq_true rfl) (fun X hX F E => ?_)
  exact b_X2_kindOf_0 F E q_t q_t_bytes q_t_lengths t_bytes t_lengths t_count v1 ⟨rfl, rfl⟩ hf
theorem inw_X2_holds_2 : ∀ w ∈ u_ws RX2 TX2 3, w ∈ wsX2_holds := by decide +kernel
theorem fl_X2_holds_18 : zfl wsX2_holds RX2 18 2 2 RX2 TX2 3 := ⟨inw_X2_holds_2, rfl, by decide, by decide +kernel⟩
abbrev rmX2_holds : Room := { frames := 0, cells := 0, slots := 0, locals := 0 }
theorem mX2_holds : zY yX2_holds cX2_holds 2 (some .boolean) wsX2_holds 1 := ⟨⟨_, rfl⟩, by decide +kernel, by decide +kernel, by decide +kernel⟩
set_option maxRecDepth 20000 in
set_option maxHeartbeats 2000000 in
theorem b_X2_holds_j16 {X : zX} {D : va_G} {aI aZ : ClassId} {w0 : va_W} {Qp : Option Value → va_W → Prop} (F : zF X D aI aZ cX2_holds 2 RX2 wsX2_holds rmX2_holds) (E : zT X D w0 Qp 0 0 (some .boolean)) (q_t q_t_bytes q_t_lengths : Nat) (t_bytes : (Nat → Int)) (t_lengths : (Nat → Int)) (t_count : Int) {R : Int} (hQ : Qp (some (.int (zI R))) (wX2 aI q_t q_t_bytes q_t_lengths t_bytes t_lengths t_count)) (hf : f_X2_holds_j16 = some R) : zG X D 0 0 (wX2 aI q_t q_t_bytes q_t_lengths t_bytes t_lengths t_count) 16 [] [] := by
  unfold f_X2_holds_j16 at hf
  refine z_iconst F (dX2_holds_0 8 rfl) ?_
  cases hf
  exact z_zret [0, 1, 2] F E (dX2_holds_0 9 rfl) (Or.inl rfl) rfl (by decide) hQ
set_option maxRecDepth 20000 in
set_option maxHeartbeats 2000000 in
theorem b_X2_holds_0 {X : zX} {D : va_G} {aI aZ : ClassId} {w0 : va_W} {Qp : Option Value → va_W → Prop} (F : zF X D aI aZ cX2_holds 2 RX2 wsX2_holds rmX2_holds) (E : zT X D w0 Qp 0 0 (some .boolean)) (q_t q_t_bytes q_t_lengths : Nat) (t_bytes : (Nat → Int)) (t_lengths : (Nat → Int)) (t_count : Int) (v1 : Int) {R : Int} (hQ : Qp (some (.int (zI R))) (wX2 aI q_t q_t_bytes q_t_lengths t_bytes t_lengths t_count)) (hf : f_X2_holds t_count v1 = some R) : zG X D 0 0 (wX2 aI q_t q_t_bytes q_t_lengths t_bytes t_lengths t_count) 0 [(0, .ref q_t), (1, .int (zI v1))] [] := by
  unfold f_X2_holds at hf
  refine z_iload_n 1 F (dX2_holds_0 0 rfl) rfl ?_
  refine z_if_lt (tgt := 16) F (dX2_holds_0 1 rfl) rfl (fun c1 => ?_) (fun c1 => ?_)
  · replace hf := zif_t c1 hf
    refine z_lv [] rfl ?_
    exact b_X2_holds_j16 F E q_t q_t_bytes q_t_lengths t_bytes t_lengths t_count hQ hf
  · replace hf := zif_f c1 hf
    refine z_iload_n 1 F (dX2_holds_0 2 rfl) rfl ?_
    refine z_aload_n 0 F (dX2_holds_0 3 rfl) rfl ?_
    refine z_get (v := .int (zI t_count)) 0 F (dX2_holds_0 4 rfl) fl_X2_holds_18 rfl rfl ?_
    refine z_icmp_ge (tgt := 16) F (dX2_holds_0 5 rfl) rfl (fun c9 => ?_) (fun c9 => ?_)
    · replace hf := zif_f c9 hf
      refine z_lv [] rfl ?_
      exact b_X2_holds_j16 F E q_t q_t_bytes q_t_lengths t_bytes t_lengths t_count hQ hf
    · replace hf := zif_t c9 hf
      refine z_iconst F (dX2_holds_0 6 rfl) ?_
      refine z_goto (tgt := 17) F (dX2_holds_0 7 rfl) rfl ?_
      cases hf
      exact z_zret [0, 1, 2] F E (dX2_holds_0 9 rfl) (Or.inr rfl) rfl (by decide) hQ
set_option maxRecDepth 20000 in
set_option maxHeartbeats 2000000 in
theorem k_X2_holds (l : Launch) (D : va_G) (aI aZ : ClassId) (q_t q_t_bytes q_t_lengths : Nat) (t_bytes : (Nat → Int)) (t_lengths : (Nat → Int)) (t_count : Int) (v1 : Int) {R : Int} (hf : f_X2_holds t_count v1 = some R) : zC l D aI aZ yX2_holds wsX2_holds rmX2_holds [.ref q_t, .int (zI v1)] (wX2 aI q_t q_t_bytes q_t_lengths t_bytes t_lengths t_count) (fun r w => r = (some (.int (zI R))) ∧ w = wX2 aI q_t q_t_bytes q_t_lengths t_bytes t_lengths t_count) 0 0 := by
  refine z_met (cc := cX2_holds) (maxL := 2) (ret := (some .boolean)) (by decide +kernel) rfl (Nat.le_of_ble_eq_true rfl) (fun X hX F E => ?_)
  exact b_X2_holds_0 F E q_t q_t_bytes q_t_lengths t_bytes t_lengths t_count v1 ⟨rfl, rfl⟩ hf
theorem inw_X2_putByte_2 : ∀ w ∈ u_ws RX2 TX2 3, w ∈ wsX2_putByte := by decide +kernel
theorem fl_X2_putByte_15 : zfl wsX2_putByte RX2 15 2 1 RX2 TX2 3 := ⟨inw_X2_putByte_2, rfl, by decide, by decide +kernel⟩
theorem sw1_X2_putByte_X5_pick : Cond.static yX5_pick ∈ wsX2_putByte := by decide +kernel
theorem sw2_X2_putByte_X5_pick : Cond.initialized yX5_pick.cls ∈ wsX2_putByte := by decide +kernel
theorem fl_X2_putByte_9 : zfl wsX2_putByte RX2 9 2 0 RX2 TX2 3 := ⟨inw_X2_putByte_2, rfl, by decide, by decide +kernel⟩
theorem sw1_X2_putByte_X5_put : Cond.static yX5_put ∈ wsX2_putByte := by decide +kernel
theorem sw2_X2_putByte_X5_put : Cond.initialized yX5_put.cls ∈ wsX2_putByte := by decide +kernel
abbrev rmX2_putByte : Room := { frames := 1, cells := 0, slots := 0, locals := 22 }
theorem mX2_putByte : zY yX2_putByte cX2_putByte 4 none wsX2_putByte 3 := ⟨⟨_, rfl⟩, by decide +kernel, by decide +kernel, by decide +kernel⟩
set_option maxRecDepth 20000 in
set_option maxHeartbeats 2000000 in
theorem b_X2_putByte_0 {X : zX} {D : va_G} {aI aZ : ClassId} {w0 : va_W} {Qp : Option Value → va_W → Prop} (F : zF X D aI aZ cX2_putByte 4 RX2 wsX2_putByte rmX2_putByte) (E : zT X D w0 Qp 0 0 none) (q_t q_t_bytes q_t_lengths : Nat) (t_bytes : (Nat → Int)) (t_lengths : (Nat → Int)) (t_count : Int) (v1 : Int) (v2 : Int) (v3 : Int) {R : (Nat → Int)} (hQ : Qp none (wX2 aI q_t q_t_bytes q_t_lengths R t_lengths t_count)) (hf : f_X2_putByte t_bytes t_lengths v1 v2 v3 = some R) : zG X D 0 0 (wX2 aI q_t q_t_bytes q_t_lengths t_bytes t_lengths t_count) 0 [(0, .ref q_t), (1, .int (zI v1)), (2, .int (zI v2)), (3, .int (zI v3))] [] := by
  unfold f_X2_putByte at hf
  refine z_iload_n 2 F (dX2_putByte_0 0 rfl) rfl ?_
  refine z_if_lt (tgt := 30) F (dX2_putByte_0 1 rfl) rfl (fun c1 => ?_) (fun c1 => ?_)
  · replace hf := zif_t c1 hf
    cases hf
    exact z_vret [0, 1, 2] F E (dX2_putByte_0 17 rfl) rfl (by decide) hQ
  · replace hf := zif_f c1 hf
    refine z_iload_n 2 F (dX2_putByte_0 2 rfl) rfl ?_
    refine z_aload_n 0 F (dX2_putByte_0 3 rfl) rfl ?_
    refine z_get (v := .ref q_t_lengths) 0 F (dX2_putByte_0 4 rfl) fl_X2_putByte_15 rfl rfl ?_
    refine z_iload_n 1 F (dX2_putByte_0 5 rfl) rfl ?_
    obtain ⟨o_1, h_2, hf⟩ := zb_some hf
    refine z_callN (As := [.ref q_t_lengths, .int (zI v1)]) (rest := [.int (zI v2)]) (wr := [(q_t, .inr (2, [.ref q_t_bytes, .ref q_t_lengths, .int (zI t_count)]))] ++ [(q_t_bytes, .inl (aI, 1440, .inl (fun j => zI (t_bytes j))))]) F (dX2_putByte_0 6 rfl) (k_X5_pick (zL X) D aI aZ q_t_lengths 24 (by decide) t_lengths v1 h_2) gX2_putByte_X5_pick_n22 mX5_pick nst_X2_X5_pick sw1_X2_putByte_X5_pick sw2_X2_putByte_X5_pick [2] [0, 1] rfl rfl (by decide) rfl rfl (Nat.le_of_ble_eq_true rfl) ⟨Nat.le_of_ble_eq_true rfl, Nat.le_of_ble_eq_true rfl⟩ ⟨rfl, rfl⟩ ⟨Nat.le_of_ble_eq_true rfl, Nat.le_of_ble_eq_true rfl⟩ (z_plain (ws' := wX2 aI q_t q_t_bytes q_t_lengths t_bytes t_lengths t_count) (st' := [.int (zI o_1), .int (zI v2)]) [0, 1, 2] rfl (by decide) rfl ?_)
    refine z_icmp_ge (tgt := 30) F (dX2_putByte_0 7 rfl) rfl (fun c13 => ?_) (fun c13 => ?_)
    · replace hf := zif_f c13 hf
      cases hf
      exact z_vret [0, 1, 2] F E (dX2_putByte_0 17 rfl) rfl (by decide) hQ
    · replace hf := zif_t c13 hf
      refine z_aload_n 0 F (dX2_putByte_0 8 rfl) rfl ?_
      refine z_get (v := .ref q_t_bytes) 0 F (dX2_putByte_0 9 rfl) fl_X2_putByte_9 rfl rfl ?_
      refine z_iload_n 1 F (dX2_putByte_0 10 rfl) rfl ?_
      refine z_bipush F (dX2_putByte_0 11 rfl) rfl ?_
      refine z_imul F (dX2_putByte_0 12 rfl) ?_
      refine z_iload_n 2 F (dX2_putByte_0 13 rfl) rfl ?_
      refine z_iadd F (dX2_putByte_0 14 rfl) ?_
      refine z_iload_n 3 F (dX2_putByte_0 15 rfl) rfl ?_
      obtain ⟨o_3, h_4, hf⟩ := zb_some hf
      refine z_callN (As := [.ref q_t_bytes, .int (zI ((v1 * 60) + v2)), .int (zI v3)]) (rest := []) (wr := [(q_t, .inr (2, [.ref q_t_bytes, .ref q_t_lengths, .int (zI t_count)]))] ++ [(q_t_lengths, .inl (aI, 24, .inl (fun j => zI (t_lengths j))))]) F (dX2_putByte_0 16 rfl) (k_X5_put (zL X) D aI aZ q_t_bytes 1440 (by decide) t_bytes ((v1 * 60) + v2) v3 h_4) gX2_putByte_X5_put_n26 mX5_put nst_X2_X5_put sw1_X2_putByte_X5_put sw2_X2_putByte_X5_put [1] [0, 2] rfl rfl (by decide) rfl rfl (Nat.le_of_ble_eq_true rfl) ⟨Nat.le_of_ble_eq_true rfl, Nat.le_of_ble_eq_true rfl⟩ ⟨rfl, rfl⟩ ⟨Nat.le_of_ble_eq_true rfl, Nat.le_of_ble_eq_true rfl⟩ (z_plain (ws' := wX2 aI q_t q_t_bytes q_t_lengths o_3 t_lengths t_count) (st' := []) [0, 2, 1] rfl (by decide) rfl ?_)
      cases hf
      exact z_vret [0, 1, 2] F E (dX2_putByte_0 17 rfl) rfl (by decide) hQ
set_option maxRecDepth 20000 in
set_option maxHeartbeats 2000000 in
theorem k_X2_putByte (l : Launch) (D : va_G) (aI aZ : ClassId) (q_t q_t_bytes q_t_lengths : Nat) (t_bytes : (Nat → Int)) (t_lengths : (Nat → Int)) (t_count : Int) (v1 : Int) (v2 : Int) (v3 : Int) {R : (Nat → Int)} (hf : f_X2_putByte t_bytes t_lengths v1 v2 v3 = some R) : zC l D aI aZ yX2_putByte wsX2_putByte rmX2_putByte [.ref q_t, .int (zI v1), .int (zI v2), .int (zI v3)] (wX2 aI q_t q_t_bytes q_t_lengths t_bytes t_lengths t_count) (fun r w => r = none ∧ w = wX2 aI q_t q_t_bytes q_t_lengths R t_lengths t_count) 0 0 := by
  refine z_met (cc := cX2_putByte) (maxL := 4) (ret := none) (by decide +kernel) rfl (Nat.le_of_ble_eq_true rfl) (fun X hX F E => ?_)
  exact b_X2_putByte_0 F E q_t q_t_bytes q_t_lengths t_bytes t_lengths t_count v1 v2 v3 ⟨rfl, rfl⟩ hf
theorem inw_X2_addLine_2 : ∀ w ∈ u_ws RX2 TX2 3, w ∈ wsX2_addLine := by decide +kernel
theorem fl_X2_addLine_18 : zfl wsX2_addLine RX2 18 2 2 RX2 TX2 3 := ⟨inw_X2_addLine_2, rfl, by decide, by decide +kernel⟩
theorem fl_X2_addLine_15 : zfl wsX2_addLine RX2 15 2 1 RX2 TX2 3 := ⟨inw_X2_addLine_2, rfl, by decide, by decide +kernel⟩
theorem sw1_X2_addLine_X5_put : Cond.static yX5_put ∈ wsX2_addLine := by decide +kernel
theorem sw2_X2_addLine_X5_put : Cond.initialized yX5_put.cls ∈ wsX2_addLine := by decide +kernel
abbrev rmX2_addLine : Room := { frames := 2, cells := 0, slots := 0, locals := 45 }
theorem mX2_addLine : zY yX2_addLine cX2_addLine 5 (some .int) wsX2_addLine 2 := ⟨⟨_, rfl⟩, by decide +kernel, by decide +kernel, by decide +kernel⟩
set_option maxRecDepth 20000 in
set_option maxHeartbeats 2000000 in
theorem b_X2_addLine_l17 {X : zX} {D : va_G} {aI aZ : ClassId} {w0 : va_W} {Qp : Option Value → va_W → Prop} (F : zF X D aI aZ cX2_addLine 5 RX2 wsX2_addLine rmX2_addLine) (E : zT X D w0 Qp 0 0 (some .int)) (q_t q_t_bytes q_t_lengths : Nat) (v1 : Int) (v2 : Int) (v3 : Int) (t_lengths : (Nat → Int)) (t_count : Int) {R : Int × (Nat → Int) × (Nat → Int) × Int} (hQ : Qp (some (.int (zI R.1))) (wX2 aI q_t q_t_bytes q_t_lengths R.2.1 R.2.2.1 R.2.2.2)) (K : (Nat → Int) → Option (Int × (Nat → Int) × (Nat → Int) × Int)) (hK : ∀ (t_bytes : (Nat → Int)), K t_bytes = some R → zG X D 0 0 (wX2 aI q_t q_t_bytes q_t_lengths t_bytes t_lengths t_count) 37 [(0, .ref q_t), (3, .int (zI v3))] []) : ∀ (n : Nat) (v4 : Int) (t_bytes : (Nat → Int)), f_X2_addLine_l17 K v1 v2 v3 t_lengths n v4 t_bytes = some R → zG X D 0 0 (wX2 aI q_t q_t_bytes q_t_lengths t_bytes t_lengths t_count) 17 [(0, .ref q_t), (1, .int (zI v1)), (2, .int (zI v2)), (3, .int (zI v3)), (4, .int (zI v4))] [] := by
  intro n
  induction n with
  | zero => intro v4 t_bytes hf; rw [f_X2_addLine_l17_z] at hf; cases hf
  | succ n ih =>
    intro v4 t_bytes hf
    rw [f_X2_addLine_l17_s] at hf
    refine z_iload 4 F (dX2_addLine_0 10 rfl) rfl ?_
    refine z_iload_n 1 F (dX2_addLine_0 11 rfl) rfl ?_
    refine z_icmp_ge (tgt := 37) F (dX2_addLine_0 12 rfl) rfl (fun c20 => ?_) (fun c20 => ?_)
    · replace hf := zif_f c20 hf
      refine z_lv [0, 3] rfl ?_
      exact hK t_bytes hf
    · replace hf := zif_t c20 hf
      refine z_aload_n 0 F (dX2_addLine_0 13 rfl) rfl ?_
      refine z_iload_n 3 F (dX2_addLine_0 14 rfl) rfl ?_
      refine z_iload 4 F (dX2_addLine_0 15 rfl) rfl ?_
      refine z_iload_n 2 F (dX2_addLine_0 16 rfl) rfl ?_
      obtain ⟨o_3, h_4, hf⟩ := zb_some hf
      refine z_callV (As := [.int (zI v3), .int (zI v4), .int (zI v2)]) (rest := []) (wr := []) F (dX2_addLine_0 17 rfl) (k_X2_putByte (zL X) D aI aZ q_t q_t_bytes q_t_lengths t_bytes t_lengths t_count v3 v4 v2 h_4) gX2_addLine_X2_putByte mX2_putByte rfl (ci := 2) rfl [0, 1, 2] [] 0 rfl rfl rfl (by decide) rfl rfl (Nat.le_of_ble_eq_true rfl) ⟨Nat.le_of_ble_eq_true rfl, Nat.le_of_ble_eq_true rfl⟩ ⟨rfl, rfl⟩ ⟨Nat.le_of_ble_eq_true rfl, Nat.le_of_ble_eq_true rfl⟩ (z_plain (ws' := wX2 aI q_t q_t_bytes q_t_lengths o_3 t_lengths t_count) (st' := []) [0, 1, 2] rfl (by decide) rfl ?_)
      refine z_iinc (lv' := [(4, .int (zI (v4 + 1))), (0, .ref q_t), (1, .int (zI v1)), (2, .int (zI v2)), (3, .int (zI v3))]) 4 F (dX2_addLine_0 18 rfl) rfl (by decide) rfl ?_
      refine z_goto (tgt := 17) F (dX2_addLine_0 19 rfl) rfl ?_
      refine z_lv [1, 2, 3, 4, 0] rfl ?_
      exact ih (v4 + 1) o_3 hf
set_option maxRecDepth 20000 in
set_option maxHeartbeats 2000000 in
theorem b_X2_addLine_0 {X : zX} {D : va_G} {aI aZ : ClassId} {w0 : va_W} {Qp : Option Value → va_W → Prop} (F : zF X D aI aZ cX2_addLine 5 RX2 wsX2_addLine rmX2_addLine) (E : zT X D w0 Qp 0 0 (some .int)) (q_t q_t_bytes q_t_lengths : Nat) (t_bytes : (Nat → Int)) (t_lengths : (Nat → Int)) (t_count : Int) (v1 : Int) (v2 : Int) {R : Int × (Nat → Int) × (Nat → Int) × Int} (hQ : Qp (some (.int (zI R.1))) (wX2 aI q_t q_t_bytes q_t_lengths R.2.1 R.2.2.1 R.2.2.2)) (hf : f_X2_addLine t_bytes t_lengths t_count v1 v2 = some R) : zG X D 0 0 (wX2 aI q_t q_t_bytes q_t_lengths t_bytes t_lengths t_count) 0 [(0, .ref q_t), (1, .int (zI v1)), (2, .int (zI v2))] [] := by
  unfold f_X2_addLine at hf
  refine z_aload_n 0 F (dX2_addLine_0 0 rfl) rfl ?_
  refine z_get (v := .int (zI t_count)) 0 F (dX2_addLine_0 1 rfl) fl_X2_addLine_18 rfl rfl ?_
  refine z_istore_n (lv' := [(3, .int (zI t_count)), (0, .ref q_t), (1, .int (zI v1)), (2, .int (zI v2))]) F (dX2_addLine_0 2 rfl) (by decide) rfl ?_
  refine z_aload_n 1 F (dX2_addLine_0 3 rfl) rfl ?_
  refine z_get (v := .ref q_t_lengths) 0 F (dX2_addLine_0 4 rfl) fl_X2_addLine_15 rfl rfl ?_
  refine z_iload_n 0 F (dX2_addLine_0 5 rfl) rfl ?_
  refine z_iload_n 2 F (dX2_addLine_0 6 rfl) rfl ?_
  obtain ⟨o_1, h_2, hf⟩ := zb_some hf
  refine z_callN (As := [.ref q_t_lengths, .int (zI t_count), .int (zI v1)]) (rest := []) (wr := [(q_t, .inr (2, [.ref q_t_bytes, .ref q_t_lengths, .int (zI t_count)]))] ++ [(q_t_bytes, .inl (aI, 1440, .inl (fun j => zI (t_bytes j))))]) F (dX2_addLine_0 7 rfl) (k_X5_put (zL X) D aI aZ q_t_lengths 24 (by decide) t_lengths t_count v1 h_2) gX2_addLine_X5_put_n26 mX5_put nst_X2_X5_put sw1_X2_addLine_X5_put sw2_X2_addLine_X5_put [2] [0, 1] rfl rfl (by decide) rfl rfl (Nat.le_of_ble_eq_true rfl) ⟨Nat.le_of_ble_eq_true rfl, Nat.le_of_ble_eq_true rfl⟩ ⟨rfl, rfl⟩ ⟨Nat.le_of_ble_eq_true rfl, Nat.le_of_ble_eq_true rfl⟩ (z_plain (ws' := wX2 aI q_t q_t_bytes q_t_lengths t_bytes o_1 t_count) (st' := []) [0, 1, 2] rfl (by decide) rfl ?_)
  refine z_iconst F (dX2_addLine_0 8 rfl) ?_
  refine z_istore (lv' := [(4, .int (zI 0)), (3, .int (zI t_count)), (0, .ref q_t), (1, .int (zI v1)), (2, .int (zI v2))]) F (dX2_addLine_0 9 rfl) (by decide) rfl ?_
  refine z_lv [2, 3, 4, 1, 0] rfl ?_
  refine b_X2_addLine_l17 F E q_t q_t_bytes q_t_lengths v1 v2 t_count o_1 t_count hQ _ ?_ zN 0 t_bytes hf
  intro t_bytes_5 hf
  refine z_aload_n 0 F (dX2_addLine_0 20 rfl) rfl ?_
  refine z_dup F (dX2_addLine_0 21 rfl) rfl ?_
  refine z_get (v := .int (zI t_count)) 0 F (dX2_addLine_0 22 rfl) fl_X2_addLine_18 rfl rfl ?_
  refine z_iconst F (dX2_addLine_0 23 rfl) ?_
  refine z_iadd F (dX2_addLine_0 24 rfl) ?_
  refine z_put (ws' := wX2 aI q_t q_t_bytes q_t_lengths t_bytes_5 o_1 (t_count + 1)) 0 F (dX2_addLine_0 25 rfl) fl_X2_addLine_18 tyX2_ok nmX2 rfl rfl rfl rfl rfl (Nat.le_of_ble_eq_true rfl) rfl ?_
  refine z_iload_n 1 F (dX2_addLine_0 26 rfl) rfl ?_
  cases hf
  exact z_iret [0, 1, 2] F E (dX2_addLine_0 27 rfl) rfl (by decide) hQ
set_option maxRecDepth 20000 in
set_option maxHeartbeats 2000000 in
theorem k_X2_addLine (l : Launch) (D : va_G) (aI aZ : ClassId) (q_t q_t_bytes q_t_lengths : Nat) (t_bytes : (Nat → Int)) (t_lengths : (Nat → Int)) (t_count : Int) (v1 : Int) (v2 : Int) {R : Int × (Nat → Int) × (Nat → Int) × Int} (hf : f_X2_addLine t_bytes t_lengths t_count v1 v2 = some R) : zC l D aI aZ yX2_addLine wsX2_addLine rmX2_addLine [.ref q_t, .int (zI v1), .int (zI v2)] (wX2 aI q_t q_t_bytes q_t_lengths t_bytes t_lengths t_count) (fun r w => r = (some (.int (zI R.1))) ∧ w = wX2 aI q_t q_t_bytes q_t_lengths R.2.1 R.2.2.1 R.2.2.2) 0 0 := by
  refine z_met (cc := cX2_addLine) (maxL := 5) (ret := (some .int)) (by decide +kernel) rfl (Nat.le_of_ble_eq_true rfl) (fun X hX F E => ?_)
  exact b_X2_addLine_0 F E q_t q_t_bytes q_t_lengths t_bytes t_lengths t_count v1 v2 ⟨rfl, rfl⟩ hf
abbrev rmX2_isBlock : Room := { frames := 3, cells := 0, slots := 0, locals := 72 }
theorem mX2_isBlock : zY yX2_isBlock cX2_isBlock 6 (some .boolean) wsX2_isBlock 2 := ⟨⟨_, rfl⟩, by decide +kernel, by decide +kernel, by decide +kernel⟩
set_option maxRecDepth 20000 in
set_option maxHeartbeats 2000000 in
theorem b_X2_isBlock_j59 {X : zX} {D : va_G} {aI aZ : ClassId} {w0 : va_W} {Qp : Option Value → va_W → Prop} (F : zF X D aI aZ cX2_isBlock 6 RX2 wsX2_isBlock rmX2_isBlock) (E : zT X D w0 Qp 0 0 (some .boolean)) (q_t q_t_bytes q_t_lengths : Nat) (s0 : Int) (v2 : Int) (v4 : Int) (t_bytes : (Nat → Int)) (t_lengths : (Nat → Int)) (t_count : Int) {R : Int} (hQ : Qp (some (.int (zI R))) (wX2 aI q_t q_t_bytes q_t_lengths t_bytes t_lengths t_count)) (rec : Int → Int → Option (Int)) (hrec : ∀ (v3 : Int) (v4 : Int), rec v3 v4 = some R → zG X D 0 0 (wX2 aI q_t q_t_bytes q_t_lengths t_bytes t_lengths t_count) 23 [(0, .ref q_t), (2, .int (zI v2)), (3, .int (zI v3)), (4, .int (zI v4))] []) (hf : f_X2_isBlock_j59 rec s0 v4 = some R) : zG X D 0 0 (wX2 aI q_t q_t_bytes q_t_lengths t_bytes t_lengths t_count) 59 [(0, .ref q_t), (2, .int (zI v2)), (4, .int (zI v4))] [.int (zI s0)] := by
  unfold f_X2_isBlock_j59 at hf
  refine z_istore_n (lv' := [(3, .int (zI s0)), (0, .ref q_t), (2, .int (zI v2)), (4, .int (zI v4))]) F (dX2_isBlock_0 33 rfl) (by decide) rfl ?_
  refine z_iinc (lv' := [(4, .int (zI (v4 + 1))), (3, .int (zI s0)), (0, .ref q_t), (2, .int (zI v2))]) 3 F (dX2_isBlock_0 34 rfl) rfl (by decide) rfl ?_
  refine z_goto (tgt := 23) F (dX2_isBlock_0 35 rfl) rfl ?_
  refine z_lv [2, 3, 1, 0] rfl ?_
  exact hrec s0 (v4 + 1) hf
set_option maxRecDepth 20000 in
set_option maxHeartbeats 2000000 in
theorem b_X2_isBlock_j54 {X : zX} {D : va_G} {aI aZ : ClassId} {w0 : va_W} {Qp : Option Value → va_W → Prop} (F : zF X D aI aZ cX2_isBlock 6 RX2 wsX2_isBlock rmX2_isBlock) (E : zT X D w0 Qp 0 0 (some .boolean)) (q_t q_t_bytes q_t_lengths : Nat) (v2 : Int) (v4 : Int) (t_bytes : (Nat → Int)) (t_lengths : (Nat → Int)) (t_count : Int) {R : Int} (hQ : Qp (some (.int (zI R))) (wX2 aI q_t q_t_bytes q_t_lengths t_bytes t_lengths t_count)) (rec : Int → Int → Option (Int)) (hrec : ∀ (v3 : Int) (v4 : Int), rec v3 v4 = some R → zG X D 0 0 (wX2 aI q_t q_t_bytes q_t_lengths t_bytes t_lengths t_count) 23 [(0, .ref q_t), (2, .int (zI v2)), (3, .int (zI v3)), (4, .int (zI v4))] []) (hf : f_X2_isBlock_j54 rec v4 = some R) : zG X D 0 0 (wX2 aI q_t q_t_bytes q_t_lengths t_bytes t_lengths t_count) 54 [(0, .ref q_t), (2, .int (zI v2)), (4, .int (zI v4))] [] := by
  unfold f_X2_isBlock_j54 at hf
  refine z_iconst F (dX2_isBlock_0 30 rfl) ?_
  refine z_goto (tgt := 59) F (dX2_isBlock_0 31 rfl) rfl ?_
  exact b_X2_isBlock_j59 F E q_t q_t_bytes q_t_lengths 1 v2 v4 t_bytes t_lengths t_count hQ _ hrec hf
set_option maxRecDepth 20000 in
set_option maxHeartbeats 2000000 in
theorem b_X2_isBlock_l23 {X : zX} {D : va_G} {aI aZ : ClassId} {w0 : va_W} {Qp : Option Value → va_W → Prop} (F : zF X D aI aZ cX2_isBlock 6 RX2 wsX2_isBlock rmX2_isBlock) (E : zT X D w0 Qp 0 0 (some .boolean)) (q_t q_t_bytes q_t_lengths : Nat) (v2 : Int) (t_bytes : (Nat → Int)) (t_lengths : (Nat → Int)) (t_count : Int) {R : Int} (hQ : Qp (some (.int (zI R))) (wX2 aI q_t q_t_bytes q_t_lengths t_bytes t_lengths t_count)) (K : Int → Option (Int)) (hK : ∀ (v3 : Int), K v3 = some R → zG X D 0 0 (wX2 aI q_t q_t_bytes q_t_lengths t_bytes t_lengths t_count) 66 [(3, .int (zI v3))] []) : ∀ (n : Nat) (v3 : Int) (v4 : Int), f_X2_isBlock_l23 K v2 t_bytes t_lengths n v3 v4 = some R → zG X D 0 0 (wX2 aI q_t q_t_bytes q_t_lengths t_bytes t_lengths t_count) 23 [(0, .ref q_t), (2, .int (zI v2)), (3, .int (zI v3)), (4, .int (zI v4))] [] := by
  intro n
  induction n with
  | zero => intro v3 v4 hf; rw [f_X2_isBlock_l23_z] at hf; cases hf
  | succ n ih =>
    intro v3 v4 hf
    rw [f_X2_isBlock_l23_s] at hf
    refine z_iload 3 F (dX2_isBlock_0 14 rfl) rfl ?_
    refine z_iload_n 1 F (dX2_isBlock_0 15 rfl) rfl ?_
    refine z_icmp_gt (tgt := 66) F (dX2_isBlock_0 16 rfl) rfl (fun c26 => ?_) (fun c26 => ?_)
    · replace hf := zif_t c26 hf
      refine z_lv [2] rfl ?_
      exact hK v3 hf
    · replace hf := zif_f c26 hf
      refine z_aload_n 0 F (dX2_isBlock_0 17 rfl) rfl ?_
      refine z_iload 3 F (dX2_isBlock_0 18 rfl) rfl ?_
      obtain ⟨o_5, h_6, hf⟩ := zb_some hf
      refine z_callV (As := [.int (zI v4)]) (rest := []) (wr := []) F (dX2_isBlock_0 19 rfl) (k_X2_kindOf (zL X) D aI aZ q_t q_t_bytes q_t_lengths t_bytes t_lengths t_count v4 h_6) gX2_isBlock_X2_kindOf mX2_kindOf rfl (ci := 2) rfl [0, 1, 2] [] 0 rfl rfl rfl (by decide) rfl rfl (Nat.le_of_ble_eq_true rfl) ⟨Nat.le_of_ble_eq_true rfl, Nat.le_of_ble_eq_true rfl⟩ ⟨rfl, rfl⟩ ⟨Nat.le_of_ble_eq_true rfl, Nat.le_of_ble_eq_true rfl⟩ (z_plain (ws' := wX2 aI q_t q_t_bytes q_t_lengths t_bytes t_lengths t_count) (st' := [.int (zI o_5)]) [0, 1, 2] rfl (by decide) rfl ?_)
      refine z_istore (lv' := [(5, .int (zI o_5)), (0, .ref q_t), (2, .int (zI v2)), (3, .int (zI v3)), (4, .int (zI v4))]) F (dX2_isBlock_0 20 rfl) (by decide) rfl ?_
      refine z_iload 0 F (dX2_isBlock_0 21 rfl) rfl ?_
      refine z_if_ne (tgt := 44) F (dX2_isBlock_0 22 rfl) rfl (fun c39 => ?_) (fun c39 => ?_)
      · replace hf := zif_f c39 hf
        refine z_iload_n 3 F (dX2_isBlock_0 25 rfl) rfl ?_
        refine z_if_ne (tgt := 54) F (dX2_isBlock_0 26 rfl) rfl (fun c45 => ?_) (fun c45 => ?_)
        · replace hf := zif_f c45 hf
          refine z_lv [1, 2, 4] rfl ?_
          exact b_X2_isBlock_j54 F E q_t q_t_bytes q_t_lengths v2 v4 t_bytes t_lengths t_count hQ _ ih hf
        · replace hf := zif_t c45 hf
          refine z_iload 0 F (dX2_isBlock_0 27 rfl) rfl ?_
          refine z_iconst F (dX2_isBlock_0 28 rfl) ?_
          refine z_icmp_ne (tgt := 58) F (dX2_isBlock_0 29 rfl) rfl (fun c51 => ?_) (fun c51 => ?_)
          · replace hf := zif_f c51 hf
            refine z_iconst F (dX2_isBlock_0 32 rfl) ?_
            refine z_lv [1, 2, 4] rfl ?_
            exact b_X2_isBlock_j59 F E q_t q_t_bytes q_t_lengths 0 v2 v4 t_bytes t_lengths t_count hQ _ ih hf
          · replace hf := zif_t c51 hf
            refine z_lv [1, 2, 4] rfl ?_
            exact b_X2_isBlock_j54 F E q_t q_t_bytes q_t_lengths v2 v4 t_bytes t_lengths t_count hQ _ ih hf
      · replace hf := zif_t c39 hf
        refine z_iconst F (dX2_isBlock_0 23 rfl) ?_
        cases hf
        exact z_zret [0, 1, 2] F E (dX2_isBlock_0 24 rfl) (Or.inl rfl) rfl (by decide) hQ
set_option maxRecDepth 20000 in
set_option maxHeartbeats 2000000 in
theorem b_X2_isBlock_0 {X : zX} {D : va_G} {aI aZ : ClassId} {w0 : va_W} {Qp : Option Value → va_W → Prop} (F : zF X D aI aZ cX2_isBlock 6 RX2 wsX2_isBlock rmX2_isBlock) (E : zT X D w0 Qp 0 0 (some .boolean)) (q_t q_t_bytes q_t_lengths : Nat) (t_bytes : (Nat → Int)) (t_lengths : (Nat → Int)) (t_count : Int) (v1 : Int) (v2 : Int) {R : Int} (hQ : Qp (some (.int (zI R))) (wX2 aI q_t q_t_bytes q_t_lengths t_bytes t_lengths t_count)) (hf : f_X2_isBlock t_bytes t_lengths t_count v1 v2 = some R) : zG X D 0 0 (wX2 aI q_t q_t_bytes q_t_lengths t_bytes t_lengths t_count) 0 [(0, .ref q_t), (1, .int (zI v1)), (2, .int (zI v2))] [] := by
  unfold f_X2_isBlock at hf
  refine z_aload_n 0 F (dX2_isBlock_0 0 rfl) rfl ?_
  refine z_iload_n 1 F (dX2_isBlock_0 1 rfl) rfl ?_
  obtain ⟨o_1, h_2, hf⟩ := zb_some hf
  refine z_callV (As := [.int (zI v1)]) (rest := []) (wr := []) F (dX2_isBlock_0 2 rfl) (k_X2_holds (zL X) D aI aZ q_t q_t_bytes q_t_lengths t_bytes t_lengths t_count v1 h_2) gX2_isBlock_X2_holds mX2_holds rfl (ci := 2) rfl [0, 1, 2] [] 0 rfl rfl rfl (by decide) rfl rfl (Nat.le_of_ble_eq_true rfl) ⟨Nat.le_of_ble_eq_true rfl, Nat.le_of_ble_eq_true rfl⟩ ⟨rfl, rfl⟩ ⟨Nat.le_of_ble_eq_true rfl, Nat.le_of_ble_eq_true rfl⟩ (z_plain (ws' := wX2 aI q_t q_t_bytes q_t_lengths t_bytes t_lengths t_count) (st' := [.int (zI o_1)]) [0, 1, 2] rfl (by decide) rfl ?_)
  refine z_if_eq (tgt := 16) F (dX2_isBlock_0 3 rfl) rfl (fun c5 => ?_) (fun c5 => ?_)
  · replace hf := zif_t c5 hf
    refine z_iconst F (dX2_isBlock_0 8 rfl) ?_
    cases hf
    exact z_zret [0, 1, 2] F E (dX2_isBlock_0 9 rfl) (Or.inl rfl) rfl (by decide) hQ
  · replace hf := zif_f c5 hf
    refine z_aload_n 0 F (dX2_isBlock_0 4 rfl) rfl ?_
    refine z_iload_n 2 F (dX2_isBlock_0 5 rfl) rfl ?_
    obtain ⟨o_3, h_4, hf⟩ := zb_some hf
    refine z_callV (As := [.int (zI v2)]) (rest := []) (wr := []) F (dX2_isBlock_0 6 rfl) (k_X2_holds (zL X) D aI aZ q_t q_t_bytes q_t_lengths t_bytes t_lengths t_count v2 h_4) gX2_isBlock_X2_holds mX2_holds rfl (ci := 2) rfl [0, 1, 2] [] 0 rfl rfl rfl (by decide) rfl rfl (Nat.le_of_ble_eq_true rfl) ⟨Nat.le_of_ble_eq_true rfl, Nat.le_of_ble_eq_true rfl⟩ ⟨rfl, rfl⟩ ⟨Nat.le_of_ble_eq_true rfl, Nat.le_of_ble_eq_true rfl⟩ (z_plain (ws' := wX2 aI q_t q_t_bytes q_t_lengths t_bytes t_lengths t_count) (st' := [.int (zI o_3)]) [0, 1, 2] rfl (by decide) rfl ?_)
    refine z_if_ne (tgt := 18) F (dX2_isBlock_0 7 rfl) rfl (fun c13 => ?_) (fun c13 => ?_)
    · replace hf := zif_f c13 hf
      refine z_iconst F (dX2_isBlock_0 10 rfl) ?_
      refine z_istore_n (lv' := [(3, .int (zI 0)), (0, .ref q_t), (1, .int (zI v1)), (2, .int (zI v2))]) F (dX2_isBlock_0 11 rfl) (by decide) rfl ?_
      refine z_iload_n 2 F (dX2_isBlock_0 12 rfl) rfl ?_
      refine z_istore (lv' := [(4, .int (zI v1)), (3, .int (zI 0)), (0, .ref q_t), (1, .int (zI v1)), (2, .int (zI v2))]) F (dX2_isBlock_0 13 rfl) (by decide) rfl ?_
      refine z_lv [2, 4, 1, 0] rfl ?_
      refine b_X2_isBlock_l23 F E q_t q_t_bytes q_t_lengths v2 t_bytes t_lengths t_count hQ _ ?_ zN 0 v1 hf
      intro v3_7 hf
      refine z_iload_n 0 F (dX2_isBlock_0 36 rfl) rfl ?_
      obtain ⟨hb_8, hf⟩ := zch_some hf
      cases hf
      exact z_zret [0, 1, 2] F E (dX2_isBlock_0 37 rfl) hb_8 rfl (by decide) hQ
    · replace hf := zif_t c13 hf
      refine z_iconst F (dX2_isBlock_0 8 rfl) ?_
      cases hf
      exact z_zret [0, 1, 2] F E (dX2_isBlock_0 9 rfl) (Or.inl rfl) rfl (by decide) hQ
set_option maxRecDepth 20000 in
set_option maxHeartbeats 2000000 in
theorem k_X2_isBlock (l : Launch) (D : va_G) (aI aZ : ClassId) (q_t q_t_bytes q_t_lengths : Nat) (t_bytes : (Nat → Int)) (t_lengths : (Nat → Int)) (t_count : Int) (v1 : Int) (v2 : Int) {R : Int} (hf : f_X2_isBlock t_bytes t_lengths t_count v1 v2 = some R) : zC l D aI aZ yX2_isBlock wsX2_isBlock rmX2_isBlock [.ref q_t, .int (zI v1), .int (zI v2)] (wX2 aI q_t q_t_bytes q_t_lengths t_bytes t_lengths t_count) (fun r w => r = (some (.int (zI R))) ∧ w = wX2 aI q_t q_t_bytes q_t_lengths t_bytes t_lengths t_count) 0 0 := by
  refine z_met (cc := cX2_isBlock) (maxL := 6) (ret := (some .boolean)) (by decide +kernel) rfl (Nat.le_of_ble_eq_true rfl) (fun X hX F E => ?_)
  exact b_X2_isBlock_0 F E q_t q_t_bytes q_t_lengths t_bytes t_lengths t_count v1 v2 ⟨rfl, rfl⟩ hf
