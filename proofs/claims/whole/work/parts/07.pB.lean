theorem inw_X0_takeLine_0 : ∀ w ∈ u_ws RX0 TX0 12, w ∈ wsX0_takeLine := by decide +kernel
theorem fl_X0_takeLine_15 : zfl wsX0_takeLine RX0 15 0 1 RX0 TX0 12 := ⟨inw_X0_takeLine_0, rfl, by decide, by decide +kernel⟩
theorem fl_X0_takeLine_27 : zfl wsX0_takeLine RX0 27 0 2 RX0 TX0 12 := ⟨inw_X0_takeLine_0, rfl, by decide, by decide +kernel⟩
theorem sw1_X0_takeLine_X5_put : Cond.static yX5_put ∈ wsX0_takeLine := by decide +kernel
theorem sw2_X0_takeLine_X5_put : Cond.initialized yX5_put.cls ∈ wsX0_takeLine := by decide +kernel
theorem fl_X0_takeLine_9 : zfl wsX0_takeLine RX0 9 0 0 RX0 TX0 12 := ⟨inw_X0_takeLine_0, rfl, by decide, by decide +kernel⟩
abbrev rmX0_takeLine : Room := { frames := 2, cells := 0, slots := 0, locals := 43 }
theorem mX0_takeLine : zY yX0_takeLine cX0_takeLine 5 none wsX0_takeLine 2 := ⟨⟨_, rfl⟩, by decide +kernel, by decide +kernel, by decide +kernel⟩
set_option maxRecDepth 20000 in
set_option maxHeartbeats 2000000 in
theorem b_X0_takeLine_j55 {X : zX} {D : va_G} {aI aZ : ClassId} {w0 : va_W} {Qp : Option Value → va_W → Prop} (F : zF X D aI aZ cX0_takeLine 5 RX0 wsX0_takeLine rmX0_takeLine) (E : zT X D w0 Qp 0 0 none) (q_t q_t_bytes q_t_numbersOfLines q_t_crossings q_t_nextInks q_t_gaps q_p1 q_p1_bytes q_p1_lengths : Nat) (s0 : Int) (s1 : Int) (v2 : Int) (v3 : Int) (t_bytes : (Nat → Int)) (t_numbersOfLines : (Nat → Int)) (t_plainCount : Int) (t_rules : Int) (t_firstRule : Int) (t_lastRule : Int) (t_headed : Int) (t_footed : Int) (t_width : Int) (t_crossings : (Nat → Int)) (t_nextInks : (Nat → Int)) (t_gaps : (Nat → Int)) (p1_bytes : (Nat → Int)) (p1_lengths : (Nat → Int)) (p1_count : Int) {R : (Nat → Int) × (Nat → Int) × Int} (hQ : Qp none (wX0 aI q_t q_t_bytes q_t_numbersOfLines q_t_crossings q_t_nextInks q_t_gaps R.1 R.2.1 R.2.2 t_rules t_firstRule t_lastRule t_headed t_footed t_width t_crossings t_nextInks t_gaps ++ wX2 aI q_p1 q_p1_bytes q_p1_lengths p1_bytes p1_lengths p1_count)) (rec : Int → (Nat → Int) → Option ((Nat → Int) × (Nat → Int) × Int)) (hrec : ∀ (v3 : Int) (t_bytes : (Nat → Int)), rec v3 t_bytes = some R → zG X D 0 0 (wX0 aI q_t q_t_bytes q_t_numbersOfLines q_t_crossings q_t_nextInks q_t_gaps t_bytes t_numbersOfLines t_plainCount t_rules t_firstRule t_lastRule t_headed t_footed t_width t_crossings t_nextInks t_gaps ++ wX2 aI q_p1 q_p1_bytes q_p1_lengths p1_bytes p1_lengths p1_count) 14 [(0, .ref q_t), (1, .ref q_p1), (2, .int (zI v2)), (3, .int (zI v3))] []) (hf : f_X0_takeLine_j55 rec s0 s1 v3 t_bytes = some R) : zG X D 0 0 (wX0 aI q_t q_t_bytes q_t_numbersOfLines q_t_crossings q_t_nextInks q_t_gaps t_bytes t_numbersOfLines t_plainCount t_rules t_firstRule t_lastRule t_headed t_footed t_width t_crossings t_nextInks t_gaps ++ wX2 aI q_p1 q_p1_bytes q_p1_lengths p1_bytes p1_lengths p1_count) 55 [(0, .ref q_t), (1, .ref q_p1), (2, .int (zI v2)), (3, .int (zI v3))] [.int (zI s0), .int (zI s1), .ref q_t_bytes] := by
  unfold f_X0_takeLine_j55 at hf
  obtain ⟨o_5, h_6, hf⟩ := zb_some hf
  refine z_callN (As := [.ref q_t_bytes, .int (zI s1), .int (zI s0)]) (rest := []) (wr := [(q_t, .inr (0, [.ref q_t_bytes, .ref q_t_numbersOfLines, .int (zI t_plainCount), .int (zI t_rules), .int (zI t_firstRule), .int (zI t_lastRule), .int (zI t_headed), .int (zI t_footed), .int (zI t_width), .ref q_t_crossings, .ref q_t_nextInks, .ref q_t_gaps]))] ++ ([(q_t_numbersOfLines, .inl (aI, 24, .inl (fun j => zI (t_numbersOfLines j))))] ++ ([(q_t_crossings, .inl (aI, 61, .inl (fun j => zI (t_crossings j))))] ++ ([(q_t_nextInks, .inl (aI, 61, .inl (fun j => zI (t_nextInks j))))] ++ ([(q_t_gaps, .inl (aI, 3721, .inl (fun j => zI (t_gaps j))))] ++ wX2 aI q_p1 q_p1_bytes q_p1_lengths p1_bytes p1_lengths p1_count))))) F (dX0_takeLine_0 30 rfl) (k_X5_put (zL X) D aI aZ q_t_bytes 1440 (by decide) t_bytes s1 s0 h_6) gX0_takeLine_X5_put_n59 mX5_put nst_X0_X5_put sw1_X0_takeLine_X5_put sw2_X0_takeLine_X5_put [1] [0, 2, 3, 4, 5, 6, 7, 8] rfl rfl (by decide) rfl rfl (Nat.le_of_ble_eq_true rfl) ⟨Nat.le_of_ble_eq_true rfl, Nat.le_of_ble_eq_true rfl⟩ ⟨rfl, rfl⟩ ⟨Nat.le_of_ble_eq_true rfl, Nat.le_of_ble_eq_true rfl⟩ (z_plain (ws' := wX0 aI q_t q_t_bytes q_t_numbersOfLines q_t_crossings q_t_nextInks q_t_gaps o_5 t_numbersOfLines t_plainCount t_rules t_firstRule t_lastRule t_headed t_footed t_width t_crossings t_nextInks t_gaps ++ wX2 aI q_p1 q_p1_bytes q_p1_lengths p1_bytes p1_lengths p1_count) (st' := []) [0, 8, 1, 2, 3, 4, 5, 6, 7] rfl (by decide) rfl ?_)
  refine z_iinc (lv' := [(3, .int (zI (v3 + 1))), (0, .ref q_t), (1, .ref q_p1), (2, .int (zI v2))]) 3 F (dX0_takeLine_0 31 rfl) rfl (by decide) rfl ?_
  refine z_goto (tgt := 14) F (dX0_takeLine_0 32 rfl) rfl ?_
  refine z_lv [1, 2, 3, 0] rfl ?_
  exact hrec (v3 + 1) o_5 hf
set_option maxRecDepth 20000 in
set_option maxHeartbeats 2000000 in
theorem b_X0_takeLine_l14 {X : zX} {D : va_G} {aI aZ : ClassId} {w0 : va_W} {Qp : Option Value → va_W → Prop} (F : zF X D aI aZ cX0_takeLine 5 RX0 wsX0_takeLine rmX0_takeLine) (E : zT X D w0 Qp 0 0 none) (q_t q_t_bytes q_t_numbersOfLines q_t_crossings q_t_nextInks q_t_gaps q_p1 q_p1_bytes q_p1_lengths : Nat) (v2 : Int) (t_numbersOfLines : (Nat → Int)) (t_plainCount : Int) (t_rules : Int) (t_firstRule : Int) (t_lastRule : Int) (t_headed : Int) (t_footed : Int) (t_width : Int) (t_crossings : (Nat → Int)) (t_nextInks : (Nat → Int)) (t_gaps : (Nat → Int)) (p1_bytes : (Nat → Int)) (p1_lengths : (Nat → Int)) (p1_count : Int) {R : (Nat → Int) × (Nat → Int) × Int} (hQ : Qp none (wX0 aI q_t q_t_bytes q_t_numbersOfLines q_t_crossings q_t_nextInks q_t_gaps R.1 R.2.1 R.2.2 t_rules t_firstRule t_lastRule t_headed t_footed t_width t_crossings t_nextInks t_gaps ++ wX2 aI q_p1 q_p1_bytes q_p1_lengths p1_bytes p1_lengths p1_count)) (K : (Nat → Int) → Option ((Nat → Int) × (Nat → Int) × Int)) (hK : ∀ (t_bytes : (Nat → Int)), K t_bytes = some R → zG X D 0 0 (wX0 aI q_t q_t_bytes q_t_numbersOfLines q_t_crossings q_t_nextInks q_t_gaps t_bytes t_numbersOfLines t_plainCount t_rules t_firstRule t_lastRule t_headed t_footed t_width t_crossings t_nextInks t_gaps ++ wX2 aI q_p1 q_p1_bytes q_p1_lengths p1_bytes p1_lengths p1_count) 64 [(0, .ref q_t)] []) : ∀ (n : Nat) (v3 : Int) (t_bytes : (Nat → Int)), f_X0_takeLine_l14 K v2 t_plainCount p1_bytes p1_lengths n v3 t_bytes = some R → zG X D 0 0 (wX0 aI q_t q_t_bytes q_t_numbersOfLines q_t_crossings q_t_nextInks q_t_gaps t_bytes t_numbersOfLines t_plainCount t_rules t_firstRule t_lastRule t_headed t_footed t_width t_crossings t_nextInks t_gaps ++ wX2 aI q_p1 q_p1_bytes q_p1_lengths p1_bytes p1_lengths p1_count) 14 [(0, .ref q_t), (1, .ref q_p1), (2, .int (zI v2)), (3, .int (zI v3))] [] := by
  intro n
  induction n with
  | zero => intro v3 t_bytes hf; rw [f_X0_takeLine_l14_z] at hf; cases hf
  | succ n ih =>
    intro v3 t_bytes hf
    rw [f_X0_takeLine_l14_s] at hf
    refine z_iload_n 3 F (dX0_takeLine_0 8 rfl) rfl ?_
    refine z_bipush F (dX0_takeLine_0 9 rfl) rfl ?_
    refine z_icmp_ge (tgt := 64) F (dX0_takeLine_0 10 rfl) rfl (fun c17 => ?_) (fun c17 => ?_)
    · replace hf := zif_f c17 hf
      refine z_lv [0] rfl ?_
      exact hK t_bytes hf
    · replace hf := zif_t c17 hf
      refine z_aload_n 1 F (dX0_takeLine_0 11 rfl) rfl ?_
      refine z_iload_n 2 F (dX0_takeLine_0 12 rfl) rfl ?_
      refine z_iload_n 3 F (dX0_takeLine_0 13 rfl) rfl ?_
      obtain ⟨o_3, h_4, hf⟩ := zb_some hf
      refine z_callV (As := [.int (zI v2), .int (zI v3)]) (rest := []) (wr := wX0 aI q_t q_t_bytes q_t_numbersOfLines q_t_crossings q_t_nextInks q_t_gaps t_bytes t_numbersOfLines t_plainCount t_rules t_firstRule t_lastRule t_headed t_footed t_width t_crossings t_nextInks t_gaps) F (dX0_takeLine_0 14 rfl) (k_X2_byteAt (zL X) D aI aZ q_p1 q_p1_bytes q_p1_lengths p1_bytes p1_lengths p1_count v2 v3 h_4) gX0_takeLine_X2_byteAt mX2_byteAt rfl (ci := 2) rfl [6, 7, 8] [0, 1, 2, 3, 4, 5] 0 rfl rfl rfl (by decide) rfl rfl (Nat.le_of_ble_eq_true rfl) ⟨Nat.le_of_ble_eq_true rfl, Nat.le_of_ble_eq_true rfl⟩ ⟨rfl, rfl⟩ ⟨Nat.le_of_ble_eq_true rfl, Nat.le_of_ble_eq_true rfl⟩ (z_plain (ws' := wX0 aI q_t q_t_bytes q_t_numbersOfLines q_t_crossings q_t_nextInks q_t_gaps t_bytes t_numbersOfLines t_plainCount t_rules t_firstRule t_lastRule t_headed t_footed t_width t_crossings t_nextInks t_gaps ++ wX2 aI q_p1 q_p1_bytes q_p1_lengths p1_bytes p1_lengths p1_count) (st' := [.int (zI o_3)]) [0, 1, 2, 3, 4, 5, 6, 7, 8] rfl (by decide) rfl ?_)
      refine z_istore (lv' := [(4, .int (zI o_3)), (0, .ref q_t), (1, .ref q_p1), (2, .int (zI v2)), (3, .int (zI v3))]) F (dX0_takeLine_0 15 rfl) (by decide) rfl ?_
      refine z_aload_n 1 F (dX0_takeLine_0 16 rfl) rfl ?_
      refine z_get (v := .ref q_t_bytes) 0 F (dX0_takeLine_0 17 rfl) fl_X0_takeLine_9 rfl rfl ?_
      refine z_aload_n 1 F (dX0_takeLine_0 18 rfl) rfl ?_
      refine z_get (v := .int (zI t_plainCount)) 0 F (dX0_takeLine_0 19 rfl) fl_X0_takeLine_27 rfl rfl ?_
      refine z_bipush F (dX0_takeLine_0 20 rfl) rfl ?_
      refine z_imul F (dX0_takeLine_0 21 rfl) ?_
      refine z_iload_n 4 F (dX0_takeLine_0 22 rfl) rfl ?_
      refine z_iadd F (dX0_takeLine_0 23 rfl) ?_
      refine z_iload 0 F (dX0_takeLine_0 24 rfl) rfl ?_
      refine z_bipush F (dX0_takeLine_0 25 rfl) rfl ?_
      refine z_icmp_ne (tgt := 53) F (dX0_takeLine_0 26 rfl) rfl (fun c45 => ?_) (fun c45 => ?_)
      · replace hf := zif_f c45 hf
        refine z_iload 0 F (dX0_takeLine_0 29 rfl) rfl ?_
        refine z_lv [1, 2, 3, 4] rfl ?_
        exact b_X0_takeLine_j55 F E q_t q_t_bytes q_t_numbersOfLines q_t_crossings q_t_nextInks q_t_gaps q_p1 q_p1_bytes q_p1_lengths o_3 ((t_plainCount * 60) + v3) v2 v3 t_bytes t_numbersOfLines t_plainCount t_rules t_firstRule t_lastRule t_headed t_footed t_width t_crossings t_nextInks t_gaps p1_bytes p1_lengths p1_count hQ _ ih hf
      · replace hf := zif_t c45 hf
        refine z_bipush F (dX0_takeLine_0 27 rfl) rfl ?_
        refine z_goto (tgt := 55) F (dX0_takeLine_0 28 rfl) rfl ?_
        refine z_lv [1, 2, 3, 4] rfl ?_
        exact b_X0_takeLine_j55 F E q_t q_t_bytes q_t_numbersOfLines q_t_crossings q_t_nextInks q_t_gaps q_p1 q_p1_bytes q_p1_lengths 32 ((t_plainCount * 60) + v3) v2 v3 t_bytes t_numbersOfLines t_plainCount t_rules t_firstRule t_lastRule t_headed t_footed t_width t_crossings t_nextInks t_gaps p1_bytes p1_lengths p1_count hQ _ ih hf
set_option maxRecDepth 20000 in
set_option maxHeartbeats 2000000 in
theorem b_X0_takeLine_0 {X : zX} {D : va_G} {aI aZ : ClassId} {w0 : va_W} {Qp : Option Value → va_W → Prop} (F : zF X D aI aZ cX0_takeLine 5 RX0 wsX0_takeLine rmX0_takeLine) (E : zT X D w0 Qp 0 0 none) (q_t q_t_bytes q_t_numbersOfLines q_t_crossings q_t_nextInks q_t_gaps q_p1 q_p1_bytes q_p1_lengths : Nat) (t_bytes : (Nat → Int)) (t_numbersOfLines : (Nat → Int)) (t_plainCount : Int) (t_rules : Int) (t_firstRule : Int) (t_lastRule : Int) (t_headed : Int) (t_footed : Int) (t_width : Int) (t_crossings : (Nat → Int)) (t_nextInks : (Nat → Int)) (t_gaps : (Nat → Int)) (p1_bytes : (Nat → Int)) (p1_lengths : (Nat → Int)) (p1_count : Int) (v2 : Int) {R : (Nat → Int) × (Nat → Int) × Int} (hQ : Qp none (wX0 aI q_t q_t_bytes q_t_numbersOfLines q_t_crossings q_t_nextInks q_t_gaps R.1 R.2.1 R.2.2 t_rules t_firstRule t_lastRule t_headed t_footed t_width t_crossings t_nextInks t_gaps ++ wX2 aI q_p1 q_p1_bytes q_p1_lengths p1_bytes p1_lengths p1_count)) (hf : f_X0_takeLine t_bytes t_numbersOfLines t_plainCount p1_bytes p1_lengths v2 = some R) : zG X D 0 0 (wX0 aI q_t q_t_bytes q_t_numbersOfLines q_t_crossings q_t_nextInks q_t_gaps t_bytes t_numbersOfLines t_plainCount t_rules t_firstRule t_lastRule t_headed t_footed t_width t_crossings t_nextInks t_gaps ++ wX2 aI q_p1 q_p1_bytes q_p1_lengths p1_bytes p1_lengths p1_count) 0 [(0, .ref q_t), (1, .ref q_p1), (2, .int (zI v2))] [] := by
  unfold f_X0_takeLine at hf
  refine z_aload_n 0 F (dX0_takeLine_0 0 rfl) rfl ?_
  refine z_get (v := .ref q_t_numbersOfLines) 0 F (dX0_takeLine_0 1 rfl) fl_X0_takeLine_15 rfl rfl ?_
  refine z_aload_n 0 F (dX0_takeLine_0 2 rfl) rfl ?_
  refine z_get (v := .int (zI t_plainCount)) 0 F (dX0_takeLine_0 3 rfl) fl_X0_takeLine_27 rfl rfl ?_
  refine z_iload_n 2 F (dX0_takeLine_0 4 rfl) rfl ?_
  obtain ⟨o_1, h_2, hf⟩ := zb_some hf
  refine z_callN (As := [.ref q_t_numbersOfLines, .int (zI t_plainCount), .int (zI v2)]) (rest := []) (wr := [(q_t, .inr (0, [.ref q_t_bytes, .ref q_t_numbersOfLines, .int (zI t_plainCount), .int (zI t_rules), .int (zI t_firstRule), .int (zI t_lastRule), .int (zI t_headed), .int (zI t_footed), .int (zI t_width), .ref q_t_crossings, .ref q_t_nextInks, .ref q_t_gaps]))] ++ ([(q_t_bytes, .inl (aI, 1440, .inl (fun j => zI (t_bytes j))))] ++ ([(q_t_crossings, .inl (aI, 61, .inl (fun j => zI (t_crossings j))))] ++ ([(q_t_nextInks, .inl (aI, 61, .inl (fun j => zI (t_nextInks j))))] ++ ([(q_t_gaps, .inl (aI, 3721, .inl (fun j => zI (t_gaps j))))] ++ wX2 aI q_p1 q_p1_bytes q_p1_lengths p1_bytes p1_lengths p1_count))))) F (dX0_takeLine_0 5 rfl) (k_X5_put (zL X) D aI aZ q_t_numbersOfLines 24 (by decide) t_numbersOfLines t_plainCount v2 h_2) gX0_takeLine_X5_put_n59 mX5_put nst_X0_X5_put sw1_X0_takeLine_X5_put sw2_X0_takeLine_X5_put [2] [0, 1, 3, 4, 5, 6, 7, 8] rfl rfl (by decide) rfl rfl (Nat.le_of_ble_eq_true rfl) ⟨Nat.le_of_ble_eq_true rfl, Nat.le_of_ble_eq_true rfl⟩ ⟨rfl, rfl⟩ ⟨Nat.le_of_ble_eq_true rfl, Nat.le_of_ble_eq_true rfl⟩ (z_plain (ws' := wX0 aI q_t q_t_bytes q_t_numbersOfLines q_t_crossings q_t_nextInks q_t_gaps t_bytes o_1 t_plainCount t_rules t_firstRule t_lastRule t_headed t_footed t_width t_crossings t_nextInks t_gaps ++ wX2 aI q_p1 q_p1_bytes q_p1_lengths p1_bytes p1_lengths p1_count) (st' := []) [0, 1, 8, 2, 3, 4, 5, 6, 7] rfl (by decide) rfl ?_)
  refine z_iconst F (dX0_takeLine_0 6 rfl) ?_
  refine z_istore_n (lv' := [(3, .int (zI 0)), (0, .ref q_t), (1, .ref q_p1), (2, .int (zI v2))]) F (dX0_takeLine_0 7 rfl) (by decide) rfl ?_
  refine z_lv [1, 2, 3, 0] rfl ?_
  refine b_X0_takeLine_l14 F E q_t q_t_bytes q_t_numbersOfLines q_t_crossings q_t_nextInks q_t_gaps q_p1 q_p1_bytes q_p1_lengths v2 o_1 t_plainCount t_rules t_firstRule t_lastRule t_headed t_footed t_width t_crossings t_nextInks t_gaps p1_bytes p1_lengths p1_count hQ _ ?_ zN 0 t_bytes hf
  intro t_bytes_7 hf
  refine z_aload_n 0 F (dX0_takeLine_0 33 rfl) rfl ?_
  refine z_dup F (dX0_takeLine_0 34 rfl) rfl ?_
  refine z_get (v := .int (zI t_plainCount)) 0 F (dX0_takeLine_0 35 rfl) fl_X0_takeLine_27 rfl rfl ?_
  refine z_iconst F (dX0_takeLine_0 36 rfl) ?_
  refine z_iadd F (dX0_takeLine_0 37 rfl) ?_
  refine z_put (ws' := wX0 aI q_t q_t_bytes q_t_numbersOfLines q_t_crossings q_t_nextInks q_t_gaps t_bytes_7 o_1 (t_plainCount + 1) t_rules t_firstRule t_lastRule t_headed t_footed t_width t_crossings t_nextInks t_gaps ++ wX2 aI q_p1 q_p1_bytes q_p1_lengths p1_bytes p1_lengths p1_count) 0 F (dX0_takeLine_0 38 rfl) fl_X0_takeLine_27 tyX0_ok nmX0 rfl rfl rfl rfl rfl (Nat.le_of_ble_eq_true rfl) rfl ?_
  cases hf
  exact z_vret [0, 1, 2, 3, 4, 5, 6, 7, 8] F E (dX0_takeLine_0 39 rfl) rfl (by decide) hQ
set_option maxRecDepth 20000 in
set_option maxHeartbeats 2000000 in
theorem k_X0_takeLine (l : Launch) (D : va_G) (aI aZ : ClassId) (q_t q_t_bytes q_t_numbersOfLines q_t_crossings q_t_nextInks q_t_gaps q_p1 q_p1_bytes q_p1_lengths : Nat) (t_bytes : (Nat → Int)) (t_numbersOfLines : (Nat → Int)) (t_plainCount : Int) (t_rules : Int) (t_firstRule : Int) (t_lastRule : Int) (t_headed : Int) (t_footed : Int) (t_width : Int) (t_crossings : (Nat → Int)) (t_nextInks : (Nat → Int)) (t_gaps : (Nat → Int)) (p1_bytes : (Nat → Int)) (p1_lengths : (Nat → Int)) (p1_count : Int) (v2 : Int) {R : (Nat → Int) × (Nat → Int) × Int} (hf : f_X0_takeLine t_bytes t_numbersOfLines t_plainCount p1_bytes p1_lengths v2 = some R) : zC l D aI aZ yX0_takeLine wsX0_takeLine rmX0_takeLine [.ref q_t, .ref q_p1, .int (zI v2)] (wX0 aI q_t q_t_bytes q_t_numbersOfLines q_t_crossings q_t_nextInks q_t_gaps t_bytes t_numbersOfLines t_plainCount t_rules t_firstRule t_lastRule t_headed t_footed t_width t_crossings t_nextInks t_gaps ++ wX2 aI q_p1 q_p1_bytes q_p1_lengths p1_bytes p1_lengths p1_count) (fun r w => r = none ∧ w = wX0 aI q_t q_t_bytes q_t_numbersOfLines q_t_crossings q_t_nextInks q_t_gaps R.1 R.2.1 R.2.2 t_rules t_firstRule t_lastRule t_headed t_footed t_width t_crossings t_nextInks t_gaps ++ wX2 aI q_p1 q_p1_bytes q_p1_lengths p1_bytes p1_lengths p1_count) 0 0 := by
  refine z_met (cc := cX0_takeLine) (maxL := 5) (ret := none) (by decide +kernel) rfl (Nat.le_of_ble_eq_true rfl) (fun X hX F E => ?_)
  exact b_X0_takeLine_0 F E q_t q_t_bytes q_t_numbersOfLines q_t_crossings q_t_nextInks q_t_gaps q_p1 q_p1_bytes q_p1_lengths t_bytes t_numbersOfLines t_plainCount t_rules t_firstRule t_lastRule t_headed t_footed t_width t_crossings t_nextInks t_gaps p1_bytes p1_lengths p1_count v2 ⟨rfl, rfl⟩ hf
theorem inw_X0_seeParts_0 : ∀ w ∈ u_ws RX0 TX0 12, w ∈ wsX0_seeParts := by decide +kernel
theorem fl_X0_seeParts_67 : zfl wsX0_seeParts RX0 67 0 6 RX0 TX0 12 := ⟨inw_X0_seeParts_0, rfl, by decide, by decide +kernel⟩
theorem fl_X0_seeParts_71 : zfl wsX0_seeParts RX0 71 0 7 RX0 TX0 12 := ⟨inw_X0_seeParts_0, rfl, by decide, by decide +kernel⟩
theorem fl_X0_seeParts_31 : zfl wsX0_seeParts RX0 31 0 3 RX0 TX0 12 := ⟨inw_X0_seeParts_0, rfl, by decide, by decide +kernel⟩
theorem fl_X0_seeParts_27 : zfl wsX0_seeParts RX0 27 0 2 RX0 TX0 12 := ⟨inw_X0_seeParts_0, rfl, by decide, by decide +kernel⟩
theorem fl_X0_seeParts_15 : zfl wsX0_seeParts RX0 15 0 1 RX0 TX0 12 := ⟨inw_X0_seeParts_0, rfl, by decide, by decide +kernel⟩
theorem sw1_X0_seeParts_X5_pick : Cond.static yX5_pick ∈ wsX0_seeParts := by decide +kernel
theorem sw2_X0_seeParts_X5_pick : Cond.initialized yX5_pick.cls ∈ wsX0_seeParts := by decide +kernel
theorem fl_X0_seeParts_40 : zfl wsX0_seeParts RX0 40 0 4 RX0 TX0 12 := ⟨inw_X0_seeParts_0, rfl, by decide, by decide +kernel⟩
theorem fl_X0_seeParts_43 : zfl wsX0_seeParts RX0 43 0 5 RX0 TX0 12 := ⟨inw_X0_seeParts_0, rfl, by decide, by decide +kernel⟩
abbrev rmX0_seeParts : Room := { frames := 1, cells := 0, slots := 0, locals := 21 }
theorem mX0_seeParts : zY yX0_seeParts cX0_seeParts 3 none wsX0_seeParts 0 := ⟨⟨_, rfl⟩, by decide +kernel, by decide +kernel, by decide +kernel⟩
set_option maxRecDepth 20000 in
set_option maxHeartbeats 2000000 in
theorem b_X0_seeParts_j90 {X : zX} {D : va_G} {aI aZ : ClassId} {w0 : va_W} {Qp : Option Value → va_W → Prop} (F : zF X D aI aZ cX0_seeParts 3 RX0 wsX0_seeParts rmX0_seeParts) (E : zT X D w0 Qp 0 0 none) (q_t q_t_bytes q_t_numbersOfLines q_t_crossings q_t_nextInks q_t_gaps : Nat) (s0 : Int) (v1 : Int) (t_bytes : (Nat → Int)) (t_numbersOfLines : (Nat → Int)) (t_plainCount : Int) (t_rules : Int) (t_firstRule : Int) (t_lastRule : Int) (t_headed : Int) (t_footed : Int) (t_width : Int) (t_crossings : (Nat → Int)) (t_nextInks : (Nat → Int)) (t_gaps : (Nat → Int)) {R : Int × Int} (hQ : Qp none (wX0 aI q_t q_t_bytes q_t_numbersOfLines q_t_crossings q_t_nextInks q_t_gaps t_bytes t_numbersOfLines t_plainCount t_rules t_firstRule t_lastRule R.1 R.2 t_width t_crossings t_nextInks t_gaps)) (rec : Int → Int → Int → Option (Int × Int)) (hrec : ∀ (v1 : Int) (t_headed : Int) (t_footed : Int), rec v1 t_headed t_footed = some R → zG X D 0 0 (wX0 aI q_t q_t_bytes q_t_numbersOfLines q_t_crossings q_t_nextInks q_t_gaps t_bytes t_numbersOfLines t_plainCount t_rules t_firstRule t_lastRule t_headed t_footed t_width t_crossings t_nextInks t_gaps) 20 [(0, .ref q_t), (1, .int (zI v1))] []) (hf : f_X0_seeParts_j90 rec s0 v1 t_headed = some R) : zG X D 0 0 (wX0 aI q_t q_t_bytes q_t_numbersOfLines q_t_crossings q_t_nextInks q_t_gaps t_bytes t_numbersOfLines t_plainCount t_rules t_firstRule t_lastRule t_headed t_footed t_width t_crossings t_nextInks t_gaps) 90 [(0, .ref q_t), (1, .int (zI v1))] [.int (zI s0), .ref q_t] := by
  unfold f_X0_seeParts_j90 at hf
  obtain ⟨hb_4, hf⟩ := zch_some hf
  refine z_put (ws' := wX0 aI q_t q_t_bytes q_t_numbersOfLines q_t_crossings q_t_nextInks q_t_gaps t_bytes t_numbersOfLines t_plainCount t_rules t_firstRule t_lastRule t_headed s0 t_width t_crossings t_nextInks t_gaps) 0 F (dX0_seeParts_1 8 rfl) fl_X0_seeParts_71 tyX0_ok nmX0 rfl rfl (znar_bool hb_4) (zfit_bool hb_4) rfl (Nat.le_of_ble_eq_true rfl) rfl ?_
  refine z_iinc (lv' := [(1, .int (zI (v1 + 1))), (0, .ref q_t)]) 1 F (dX0_seeParts_1 9 rfl) rfl (by decide) rfl ?_
  refine z_goto (tgt := 20) F (dX0_seeParts_1 10 rfl) rfl ?_
  refine z_lv [1, 0] rfl ?_
  exact hrec (v1 + 1) t_headed s0 hf
set_option maxRecDepth 20000 in
set_option maxHeartbeats 2000000 in
theorem b_X0_seeParts_j85 {X : zX} {D : va_G} {aI aZ : ClassId} {w0 : va_W} {Qp : Option Value → va_W → Prop} (F : zF X D aI aZ cX0_seeParts 3 RX0 wsX0_seeParts rmX0_seeParts) (E : zT X D w0 Qp 0 0 none) (q_t q_t_bytes q_t_numbersOfLines q_t_crossings q_t_nextInks q_t_gaps : Nat) (v1 : Int) (t_bytes : (Nat → Int)) (t_numbersOfLines : (Nat → Int)) (t_plainCount : Int) (t_rules : Int) (t_firstRule : Int) (t_lastRule : Int) (t_headed : Int) (t_footed : Int) (t_width : Int) (t_crossings : (Nat → Int)) (t_nextInks : (Nat → Int)) (t_gaps : (Nat → Int)) {R : Int × Int} (hQ : Qp none (wX0 aI q_t q_t_bytes q_t_numbersOfLines q_t_crossings q_t_nextInks q_t_gaps t_bytes t_numbersOfLines t_plainCount t_rules t_firstRule t_lastRule R.1 R.2 t_width t_crossings t_nextInks t_gaps)) (rec : Int → Int → Int → Option (Int × Int)) (hrec : ∀ (v1 : Int) (t_headed : Int) (t_footed : Int), rec v1 t_headed t_footed = some R → zG X D 0 0 (wX0 aI q_t q_t_bytes q_t_numbersOfLines q_t_crossings q_t_nextInks q_t_gaps t_bytes t_numbersOfLines t_plainCount t_rules t_firstRule t_lastRule t_headed t_footed t_width t_crossings t_nextInks t_gaps) 20 [(0, .ref q_t), (1, .int (zI v1))] []) (hf : f_X0_seeParts_j85 rec v1 t_headed = some R) : zG X D 0 0 (wX0 aI q_t q_t_bytes q_t_numbersOfLines q_t_crossings q_t_nextInks q_t_gaps t_bytes t_numbersOfLines t_plainCount t_rules t_firstRule t_lastRule t_headed t_footed t_width t_crossings t_nextInks t_gaps) 85 [(0, .ref q_t), (1, .int (zI v1))] [.ref q_t] := by
  unfold f_X0_seeParts_j85 at hf
  refine z_iconst F (dX0_seeParts_1 5 rfl) ?_
  refine z_goto (tgt := 90) F (dX0_seeParts_1 6 rfl) rfl ?_
  exact b_X0_seeParts_j90 F E q_t q_t_bytes q_t_numbersOfLines q_t_crossings q_t_nextInks q_t_gaps 1 v1 t_bytes t_numbersOfLines t_plainCount t_rules t_firstRule t_lastRule t_headed t_footed t_width t_crossings t_nextInks t_gaps hQ _ hrec hf
set_option maxRecDepth 20000 in
set_option maxHeartbeats 2000000 in
theorem b_X0_seeParts_j89 {X : zX} {D : va_G} {aI aZ : ClassId} {w0 : va_W} {Qp : Option Value → va_W → Prop} (F : zF X D aI aZ cX0_seeParts 3 RX0 wsX0_seeParts rmX0_seeParts) (E : zT X D w0 Qp 0 0 none) (q_t q_t_bytes q_t_numbersOfLines q_t_crossings q_t_nextInks q_t_gaps : Nat) (v1 : Int) (t_bytes : (Nat → Int)) (t_numbersOfLines : (Nat → Int)) (t_plainCount : Int) (t_rules : Int) (t_firstRule : Int) (t_lastRule : Int) (t_headed : Int) (t_footed : Int) (t_width : Int) (t_crossings : (Nat → Int)) (t_nextInks : (Nat → Int)) (t_gaps : (Nat → Int)) {R : Int × Int} (hQ : Qp none (wX0 aI q_t q_t_bytes q_t_numbersOfLines q_t_crossings q_t_nextInks q_t_gaps t_bytes t_numbersOfLines t_plainCount t_rules t_firstRule t_lastRule R.1 R.2 t_width t_crossings t_nextInks t_gaps)) (rec : Int → Int → Int → Option (Int × Int)) (hrec : ∀ (v1 : Int) (t_headed : Int) (t_footed : Int), rec v1 t_headed t_footed = some R → zG X D 0 0 (wX0 aI q_t q_t_bytes q_t_numbersOfLines q_t_crossings q_t_nextInks q_t_gaps t_bytes t_numbersOfLines t_plainCount t_rules t_firstRule t_lastRule t_headed t_footed t_width t_crossings t_nextInks t_gaps) 20 [(0, .ref q_t), (1, .int (zI v1))] []) (hf : f_X0_seeParts_j89 rec v1 t_headed = some R) : zG X D 0 0 (wX0 aI q_t q_t_bytes q_t_numbersOfLines q_t_crossings q_t_nextInks q_t_gaps t_bytes t_numbersOfLines t_plainCount t_rules t_firstRule t_lastRule t_headed t_footed t_width t_crossings t_nextInks t_gaps) 89 [(0, .ref q_t), (1, .int (zI v1))] [.ref q_t] := by
  unfold f_X0_seeParts_j89 at hf
  refine z_iconst F (dX0_seeParts_1 7 rfl) ?_
  exact b_X0_seeParts_j90 F E q_t q_t_bytes q_t_numbersOfLines q_t_crossings q_t_nextInks q_t_gaps 0 v1 t_bytes t_numbersOfLines t_plainCount t_rules t_firstRule t_lastRule t_headed t_footed t_width t_crossings t_nextInks t_gaps hQ _ hrec hf
set_option maxRecDepth 20000 in
set_option maxHeartbeats 2000000 in
theorem b_X0_seeParts_j58 {X : zX} {D : va_G} {aI aZ : ClassId} {w0 : va_W} {Qp : Option Value → va_W → Prop} (F : zF X D aI aZ cX0_seeParts 3 RX0 wsX0_seeParts rmX0_seeParts) (E : zT X D w0 Qp 0 0 none) (q_t q_t_bytes q_t_numbersOfLines q_t_crossings q_t_nextInks q_t_gaps : Nat) (s0 : Int) (v1 : Int) (v2 : Int) (t_bytes : (Nat → Int)) (t_numbersOfLines : (Nat → Int)) (t_plainCount : Int) (t_rules : Int) (t_firstRule : Int) (t_lastRule : Int) (t_headed : Int) (t_footed : Int) (t_width : Int) (t_crossings : (Nat → Int)) (t_nextInks : (Nat → Int)) (t_gaps : (Nat → Int)) {R : Int × Int} (hQ : Qp none (wX0 aI q_t q_t_bytes q_t_numbersOfLines q_t_crossings q_t_nextInks q_t_gaps t_bytes t_numbersOfLines t_plainCount t_rules t_firstRule t_lastRule R.1 R.2 t_width t_crossings t_nextInks t_gaps)) (rec : Int → Int → Int → Option (Int × Int)) (hrec : ∀ (v1 : Int) (t_headed : Int) (t_footed : Int), rec v1 t_headed t_footed = some R → zG X D 0 0 (wX0 aI q_t q_t_bytes q_t_numbersOfLines q_t_crossings q_t_nextInks q_t_gaps t_bytes t_numbersOfLines t_plainCount t_rules t_firstRule t_lastRule t_headed t_footed t_width t_crossings t_nextInks t_gaps) 20 [(0, .ref q_t), (1, .int (zI v1))] []) (hf : f_X0_seeParts_j58 rec s0 v1 v2 t_firstRule t_lastRule t_footed = some R) : zG X D 0 0 (wX0 aI q_t q_t_bytes q_t_numbersOfLines q_t_crossings q_t_nextInks q_t_gaps t_bytes t_numbersOfLines t_plainCount t_rules t_firstRule t_lastRule t_headed t_footed t_width t_crossings t_nextInks t_gaps) 58 [(0, .ref q_t), (1, .int (zI v1)), (2, .int (zI v2))] [.int (zI s0), .ref q_t] := by
  unfold f_X0_seeParts_j58 at hf
  obtain ⟨hb_3, hf⟩ := zch_some hf
  refine z_put (ws' := wX0 aI q_t q_t_bytes q_t_numbersOfLines q_t_crossings q_t_nextInks q_t_gaps t_bytes t_numbersOfLines t_plainCount t_rules t_firstRule t_lastRule s0 t_footed t_width t_crossings t_nextInks t_gaps) 0 F (dX0_seeParts_0 32 rfl) fl_X0_seeParts_67 tyX0_ok nmX0 rfl rfl (znar_bool hb_3) (zfit_bool hb_3) rfl (Nat.le_of_ble_eq_true rfl) rfl ?_
  refine z_aload_n 0 F (dX0_seeParts_0 33 rfl) rfl ?_
  refine z_aload_n 0 F (dX0_seeParts_0 34 rfl) rfl ?_
  refine z_get (v := .int (zI t_footed)) 0 F (dX0_seeParts_0 35 rfl) fl_X0_seeParts_71 rfl rfl ?_
  refine z_if_ne (tgt := 85) F (dX0_seeParts_0 36 rfl) rfl (fun c66 => ?_) (fun c66 => ?_)
  · replace hf := zif_f c66 hf
    refine z_lv [0, 1] rfl ?_
    exact b_X0_seeParts_j85 F E q_t q_t_bytes q_t_numbersOfLines q_t_crossings q_t_nextInks q_t_gaps v1 t_bytes t_numbersOfLines t_plainCount t_rules t_firstRule t_lastRule s0 t_footed t_width t_crossings t_nextInks t_gaps hQ _ hrec hf
  · replace hf := zif_t c66 hf
    refine z_iload_n 2 F (dX0_seeParts_0 37 rfl) rfl ?_
    refine z_aload_n 0 F (dX0_seeParts_0 38 rfl) rfl ?_
    refine z_get (v := .int (zI t_firstRule)) 0 F (dX0_seeParts_0 39 rfl) fl_X0_seeParts_40 rfl rfl ?_
    refine z_icmp_le (tgt := 89) F (dX0_seeParts_1 0 rfl) rfl (fun c74 => ?_) (fun c74 => ?_)
    · replace hf := zif_f c74 hf
      refine z_lv [0, 1] rfl ?_
      exact b_X0_seeParts_j89 F E q_t q_t_bytes q_t_numbersOfLines q_t_crossings q_t_nextInks q_t_gaps v1 t_bytes t_numbersOfLines t_plainCount t_rules t_firstRule t_lastRule s0 t_footed t_width t_crossings t_nextInks t_gaps hQ _ hrec hf
    · replace hf := zif_t c74 hf
      refine z_iload_n 2 F (dX0_seeParts_1 1 rfl) rfl ?_
      refine z_aload_n 0 F (dX0_seeParts_1 2 rfl) rfl ?_
      refine z_get (v := .int (zI t_lastRule)) 0 F (dX0_seeParts_1 3 rfl) fl_X0_seeParts_43 rfl rfl ?_
      refine z_icmp_ge (tgt := 89) F (dX0_seeParts_1 4 rfl) rfl (fun c82 => ?_) (fun c82 => ?_)
      · replace hf := zif_f c82 hf
        refine z_lv [0, 1] rfl ?_
        exact b_X0_seeParts_j89 F E q_t q_t_bytes q_t_numbersOfLines q_t_crossings q_t_nextInks q_t_gaps v1 t_bytes t_numbersOfLines t_plainCount t_rules t_firstRule t_lastRule s0 t_footed t_width t_crossings t_nextInks t_gaps hQ _ hrec hf
      · replace hf := zif_t c82 hf
        refine z_lv [0, 1] rfl ?_
        exact b_X0_seeParts_j85 F E q_t q_t_bytes q_t_numbersOfLines q_t_crossings q_t_nextInks q_t_gaps v1 t_bytes t_numbersOfLines t_plainCount t_rules t_firstRule t_lastRule s0 t_footed t_width t_crossings t_nextInks t_gaps hQ _ hrec hf
set_option maxRecDepth 20000 in
set_option maxHeartbeats 2000000 in
theorem b_X0_seeParts_j53 {X : zX} {D : va_G} {aI aZ : ClassId} {w0 : va_W} {Qp : Option Value → va_W → Prop} (F : zF X D aI aZ cX0_seeParts 3 RX0 wsX0_seeParts rmX0_seeParts) (E : zT X D w0 Qp 0 0 none) (q_t q_t_bytes q_t_numbersOfLines q_t_crossings q_t_nextInks q_t_gaps : Nat) (v1 : Int) (v2 : Int) (t_bytes : (Nat → Int)) (t_numbersOfLines : (Nat → Int)) (t_plainCount : Int) (t_rules : Int) (t_firstRule : Int) (t_lastRule : Int) (t_headed : Int) (t_footed : Int) (t_width : Int) (t_crossings : (Nat → Int)) (t_nextInks : (Nat → Int)) (t_gaps : (Nat → Int)) {R : Int × Int} (hQ : Qp none (wX0 aI q_t q_t_bytes q_t_numbersOfLines q_t_crossings q_t_nextInks q_t_gaps t_bytes t_numbersOfLines t_plainCount t_rules t_firstRule t_lastRule R.1 R.2 t_width t_crossings t_nextInks t_gaps)) (rec : Int → Int → Int → Option (Int × Int)) (hrec : ∀ (v1 : Int) (t_headed : Int) (t_footed : Int), rec v1 t_headed t_footed = some R → zG X D 0 0 (wX0 aI q_t q_t_bytes q_t_numbersOfLines q_t_crossings q_t_nextInks q_t_gaps t_bytes t_numbersOfLines t_plainCount t_rules t_firstRule t_lastRule t_headed t_footed t_width t_crossings t_nextInks t_gaps) 20 [(0, .ref q_t), (1, .int (zI v1))] []) (hf : f_X0_seeParts_j53 rec v1 v2 t_firstRule t_lastRule t_footed = some R) : zG X D 0 0 (wX0 aI q_t q_t_bytes q_t_numbersOfLines q_t_crossings q_t_nextInks q_t_gaps t_bytes t_numbersOfLines t_plainCount t_rules t_firstRule t_lastRule t_headed t_footed t_width t_crossings t_nextInks t_gaps) 53 [(0, .ref q_t), (1, .int (zI v1)), (2, .int (zI v2))] [.ref q_t] := by
  unfold f_X0_seeParts_j53 at hf
  refine z_iconst F (dX0_seeParts_0 29 rfl) ?_
  refine z_goto (tgt := 58) F (dX0_seeParts_0 30 rfl) rfl ?_
  exact b_X0_seeParts_j58 F E q_t q_t_bytes q_t_numbersOfLines q_t_crossings q_t_nextInks q_t_gaps 1 v1 v2 t_bytes t_numbersOfLines t_plainCount t_rules t_firstRule t_lastRule t_headed t_footed t_width t_crossings t_nextInks t_gaps hQ _ hrec hf
set_option maxRecDepth 20000 in
set_option maxHeartbeats 2000000 in
theorem b_X0_seeParts_l20 {X : zX} {D : va_G} {aI aZ : ClassId} {w0 : va_W} {Qp : Option Value → va_W → Prop} (F : zF X D aI aZ cX0_seeParts 3 RX0 wsX0_seeParts rmX0_seeParts) (E : zT X D w0 Qp 0 0 none) (q_t q_t_bytes q_t_numbersOfLines q_t_crossings q_t_nextInks q_t_gaps : Nat) (t_bytes : (Nat → Int)) (t_numbersOfLines : (Nat → Int)) (t_plainCount : Int) (t_rules : Int) (t_firstRule : Int) (t_lastRule : Int) (t_width : Int) (t_crossings : (Nat → Int)) (t_nextInks : (Nat → Int)) (t_gaps : (Nat → Int)) {R : Int × Int} (hQ : Qp none (wX0 aI q_t q_t_bytes q_t_numbersOfLines q_t_crossings q_t_nextInks q_t_gaps t_bytes t_numbersOfLines t_plainCount t_rules t_firstRule t_lastRule R.1 R.2 t_width t_crossings t_nextInks t_gaps)) (K : Int → Int → Option (Int × Int)) (hK : ∀ (t_headed : Int) (t_footed : Int), K t_headed t_footed = some R → zG X D 0 0 (wX0 aI q_t q_t_bytes q_t_numbersOfLines q_t_crossings q_t_nextInks q_t_gaps t_bytes t_numbersOfLines t_plainCount t_rules t_firstRule t_lastRule t_headed t_footed t_width t_crossings t_nextInks t_gaps) 99 [] []) : ∀ (n : Nat) (v1 : Int) (t_headed : Int) (t_footed : Int), f_X0_seeParts_l20 K t_numbersOfLines t_plainCount t_firstRule t_lastRule n v1 t_headed t_footed = some R → zG X D 0 0 (wX0 aI q_t q_t_bytes q_t_numbersOfLines q_t_crossings q_t_nextInks q_t_gaps t_bytes t_numbersOfLines t_plainCount t_rules t_firstRule t_lastRule t_headed t_footed t_width t_crossings t_nextInks t_gaps) 20 [(0, .ref q_t), (1, .int (zI v1))] [] := by
  intro n
  induction n with
  | zero => intro v1 t_headed t_footed hf; rw [f_X0_seeParts_l20_z] at hf; cases hf
  | succ n ih =>
    intro v1 t_headed t_footed hf
    rw [f_X0_seeParts_l20_s] at hf
    refine z_iload_n 1 F (dX0_seeParts_0 12 rfl) rfl ?_
    refine z_aload_n 0 F (dX0_seeParts_0 13 rfl) rfl ?_
    refine z_get (v := .int (zI t_plainCount)) 0 F (dX0_seeParts_0 14 rfl) fl_X0_seeParts_27 rfl rfl ?_
    refine z_icmp_ge (tgt := 99) F (dX0_seeParts_0 15 rfl) rfl (fun c25 => ?_) (fun c25 => ?_)
    · replace hf := zif_f c25 hf
      refine z_lv [] rfl ?_
      exact hK t_headed t_footed hf
    · replace hf := zif_t c25 hf
      refine z_aload_n 0 F (dX0_seeParts_0 16 rfl) rfl ?_
      refine z_get (v := .ref q_t_numbersOfLines) 0 F (dX0_seeParts_0 17 rfl) fl_X0_seeParts_15 rfl rfl ?_
      refine z_iload_n 1 F (dX0_seeParts_0 18 rfl) rfl ?_
      obtain ⟨o_1, h_2, hf⟩ := zb_some hf
      refine z_callN (As := [.ref q_t_numbersOfLines, .int (zI v1)]) (rest := []) (wr := [(q_t, .inr (0, [.ref q_t_bytes, .ref q_t_numbersOfLines, .int (zI t_plainCount), .int (zI t_rules), .int (zI t_firstRule), .int (zI t_lastRule), .int (zI t_headed), .int (zI t_footed), .int (zI t_width), .ref q_t_crossings, .ref q_t_nextInks, .ref q_t_gaps]))] ++ ([(q_t_bytes, .inl (aI, 1440, .inl (fun j => zI (t_bytes j))))] ++ ([(q_t_crossings, .inl (aI, 61, .inl (fun j => zI (t_crossings j))))] ++ ([(q_t_nextInks, .inl (aI, 61, .inl (fun j => zI (t_nextInks j))))] ++ [(q_t_gaps, .inl (aI, 3721, .inl (fun j => zI (t_gaps j))))])))) F (dX0_seeParts_0 19 rfl) (k_X5_pick (zL X) D aI aZ q_t_numbersOfLines 24 (by decide) t_numbersOfLines v1 h_2) gX0_seeParts_X5_pick_n74 mX5_pick nst_X0_X5_pick sw1_X0_seeParts_X5_pick sw2_X0_seeParts_X5_pick [2] [0, 1, 3, 4, 5] rfl rfl (by decide) rfl rfl (Nat.le_of_ble_eq_true rfl) ⟨Nat.le_of_ble_eq_true rfl, Nat.le_of_ble_eq_true rfl⟩ ⟨rfl, rfl⟩ ⟨Nat.le_of_ble_eq_true rfl, Nat.le_of_ble_eq_true rfl⟩ (z_plain (ws' := wX0 aI q_t q_t_bytes q_t_numbersOfLines q_t_crossings q_t_nextInks q_t_gaps t_bytes t_numbersOfLines t_plainCount t_rules t_firstRule t_lastRule t_headed t_footed t_width t_crossings t_nextInks t_gaps) (st' := [.int (zI o_1)]) [0, 1, 5, 2, 3, 4] rfl (by decide) rfl ?_)
      refine z_istore_n (lv' := [(2, .int (zI o_1)), (0, .ref q_t), (1, .int (zI v1))]) F (dX0_seeParts_0 20 rfl) (by decide) rfl ?_
      refine z_aload_n 1 F (dX0_seeParts_0 21 rfl) rfl ?_
      refine z_aload_n 1 F (dX0_seeParts_0 22 rfl) rfl ?_
      refine z_get (v := .int (zI t_headed)) 0 F (dX0_seeParts_0 23 rfl) fl_X0_seeParts_67 rfl rfl ?_
      refine z_if_ne (tgt := 53) F (dX0_seeParts_0 24 rfl) rfl (fun c42 => ?_) (fun c42 => ?_)
      · replace hf := zif_f c42 hf
        refine z_lv [1, 2, 0] rfl ?_
        exact b_X0_seeParts_j53 F E q_t q_t_bytes q_t_numbersOfLines q_t_crossings q_t_nextInks q_t_gaps v1 o_1 t_bytes t_numbersOfLines t_plainCount t_rules t_firstRule t_lastRule t_headed t_footed t_width t_crossings t_nextInks t_gaps hQ _ ih hf
      · replace hf := zif_t c42 hf
        refine z_iload_n 0 F (dX0_seeParts_0 25 rfl) rfl ?_
        refine z_aload_n 1 F (dX0_seeParts_0 26 rfl) rfl ?_
        refine z_get (v := .int (zI t_firstRule)) 0 F (dX0_seeParts_0 27 rfl) fl_X0_seeParts_40 rfl rfl ?_
        refine z_icmp_le (tgt := 57) F (dX0_seeParts_0 28 rfl) rfl (fun c50 => ?_) (fun c50 => ?_)
        · replace hf := zif_f c50 hf
          refine z_iconst F (dX0_seeParts_0 31 rfl) ?_
          refine z_lv [1, 2, 0] rfl ?_
          exact b_X0_seeParts_j58 F E q_t q_t_bytes q_t_numbersOfLines q_t_crossings q_t_nextInks q_t_gaps 0 v1 o_1 t_bytes t_numbersOfLines t_plainCount t_rules t_firstRule t_lastRule t_headed t_footed t_width t_crossings t_nextInks t_gaps hQ _ ih hf
        · replace hf := zif_t c50 hf
          refine z_lv [1, 2, 0] rfl ?_
          exact b_X0_seeParts_j53 F E q_t q_t_bytes q_t_numbersOfLines q_t_crossings q_t_nextInks q_t_gaps v1 o_1 t_bytes t_numbersOfLines t_plainCount t_rules t_firstRule t_lastRule t_headed t_footed t_width t_crossings t_nextInks t_gaps hQ _ ih hf
set_option maxRecDepth 20000 in
set_option maxHeartbeats 2000000 in
theorem b_X0_seeParts_0 {X : zX} {D : va_G} {aI aZ : ClassId} {w0 : va_W} {Qp : Option Value → va_W → Prop} (F : zF X D aI aZ cX0_seeParts 3 RX0 wsX0_seeParts rmX0_seeParts) (E : zT X D w0 Qp 0 0 none) (q_t q_t_bytes q_t_numbersOfLines q_t_crossings q_t_nextInks q_t_gaps : Nat) (t_bytes : (Nat → Int)) (t_numbersOfLines : (Nat → Int)) (t_plainCount : Int) (t_rules : Int) (t_firstRule : Int) (t_lastRule : Int) (t_headed : Int) (t_footed : Int) (t_width : Int) (t_crossings : (Nat → Int)) (t_nextInks : (Nat → Int)) (t_gaps : (Nat → Int)) {R : Int × Int} (hQ : Qp none (wX0 aI q_t q_t_bytes q_t_numbersOfLines q_t_crossings q_t_nextInks q_t_gaps t_bytes t_numbersOfLines t_plainCount t_rules t_firstRule t_lastRule R.1 R.2 t_width t_crossings t_nextInks t_gaps)) (hf : f_X0_seeParts t_numbersOfLines t_plainCount t_rules t_firstRule t_lastRule = some R) : zG X D 0 0 (wX0 aI q_t q_t_bytes q_t_numbersOfLines q_t_crossings q_t_nextInks q_t_gaps t_bytes t_numbersOfLines t_plainCount t_rules t_firstRule t_lastRule t_headed t_footed t_width t_crossings t_nextInks t_gaps) 0 [(0, .ref q_t)] [] := by
  unfold f_X0_seeParts at hf
  refine z_aload_n 0 F (dX0_seeParts_0 0 rfl) rfl ?_
  refine z_iconst F (dX0_seeParts_0 1 rfl) ?_
  refine z_put (ws' := wX0 aI q_t q_t_bytes q_t_numbersOfLines q_t_crossings q_t_nextInks q_t_gaps t_bytes t_numbersOfLines t_plainCount t_rules t_firstRule t_lastRule 0 t_footed t_width t_crossings t_nextInks t_gaps) 0 F (dX0_seeParts_0 2 rfl) fl_X0_seeParts_67 tyX0_ok nmX0 rfl rfl rfl rfl rfl (Nat.le_of_ble_eq_true rfl) rfl ?_
  refine z_aload_n 0 F (dX0_seeParts_0 3 rfl) rfl ?_
  refine z_iconst F (dX0_seeParts_0 4 rfl) ?_
  refine z_put (ws' := wX0 aI q_t q_t_bytes q_t_numbersOfLines q_t_crossings q_t_nextInks q_t_gaps t_bytes t_numbersOfLines t_plainCount t_rules t_firstRule t_lastRule 0 0 t_width t_crossings t_nextInks t_gaps) 0 F (dX0_seeParts_0 5 rfl) fl_X0_seeParts_71 tyX0_ok nmX0 rfl rfl rfl rfl rfl (Nat.le_of_ble_eq_true rfl) rfl ?_
  refine z_aload_n 0 F (dX0_seeParts_0 6 rfl) rfl ?_
  refine z_get (v := .int (zI t_rules)) 0 F (dX0_seeParts_0 7 rfl) fl_X0_seeParts_31 rfl rfl ?_
  refine z_if_ne (tgt := 18) F (dX0_seeParts_0 8 rfl) rfl (fun c14 => ?_) (fun c14 => ?_)
  · replace hf := zif_f c14 hf
    refine z_iconst F (dX0_seeParts_0 10 rfl) ?_
    refine z_istore_n (lv' := [(1, .int (zI 0)), (0, .ref q_t)]) F (dX0_seeParts_0 11 rfl) (by decide) rfl ?_
    refine z_lv [1, 0] rfl ?_
    refine b_X0_seeParts_l20 F E q_t q_t_bytes q_t_numbersOfLines q_t_crossings q_t_nextInks q_t_gaps t_bytes t_numbersOfLines t_plainCount t_rules t_firstRule t_lastRule t_width t_crossings t_nextInks t_gaps hQ _ ?_ zN 0 0 0 hf
    intro t_headed_5 t_footed_6 hf
    cases hf
    exact z_vret [0, 1, 2, 3, 4, 5] F E (dX0_seeParts_1 11 rfl) rfl (by decide) hQ
  · replace hf := zif_t c14 hf
    cases hf
    exact z_vret [0, 1, 2, 3, 4, 5] F E (dX0_seeParts_0 9 rfl) rfl (by decide) hQ
set_option maxRecDepth 20000 in
set_option maxHeartbeats 2000000 in
theorem k_X0_seeParts (l : Launch) (D : va_G) (aI aZ : ClassId) (q_t q_t_bytes q_t_numbersOfLines q_t_crossings q_t_nextInks q_t_gaps : Nat) (t_bytes : (Nat → Int)) (t_numbersOfLines : (Nat → Int)) (t_plainCount : Int) (t_rules : Int) (t_firstRule : Int) (t_lastRule : Int) (t_headed : Int) (t_footed : Int) (t_width : Int) (t_crossings : (Nat → Int)) (t_nextInks : (Nat → Int)) (t_gaps : (Nat → Int)) {R : Int × Int} (hf : f_X0_seeParts t_numbersOfLines t_plainCount t_rules t_firstRule t_lastRule = some R) : zC l D aI aZ yX0_seeParts wsX0_seeParts rmX0_seeParts [.ref q_t] (wX0 aI q_t q_t_bytes q_t_numbersOfLines q_t_crossings q_t_nextInks q_t_gaps t_bytes t_numbersOfLines t_plainCount t_rules t_firstRule t_lastRule t_headed t_footed t_width t_crossings t_nextInks t_gaps) (fun r w => r = none ∧ w = wX0 aI q_t q_t_bytes q_t_numbersOfLines q_t_crossings q_t_nextInks q_t_gaps t_bytes t_numbersOfLines t_plainCount t_rules t_firstRule t_lastRule R.1 R.2 t_width t_crossings t_nextInks t_gaps) 0 0 := by
  refine z_met (cc := cX0_seeParts) (maxL := 3) (ret := none) (by decide +kernel) rfl (Nat.le_of_ble_eq_true rfl) (fun X hX F E => ?_)
  exact b_X0_seeParts_0 F E q_t q_t_bytes q_t_numbersOfLines q_t_crossings q_t_nextInks q_t_gaps t_bytes t_numbersOfLines t_plainCount t_rules t_firstRule t_lastRule t_headed t_footed t_width t_crossings t_nextInks t_gaps ⟨rfl, rfl⟩ hf
theorem inw_X0_hasInk_0 : ∀ w ∈ u_ws RX0 TX0 12, w ∈ wsX0_hasInk := by decide +kernel
theorem fl_X0_hasInk_9 : zfl wsX0_hasInk RX0 9 0 0 RX0 TX0 12 := ⟨inw_X0_hasInk_0, rfl, by decide, by decide +kernel⟩
theorem sw1_X0_hasInk_X5_pick : Cond.static yX5_pick ∈ wsX0_hasInk := by decide +kernel
theorem sw2_X0_hasInk_X5_pick : Cond.initialized yX5_pick.cls ∈ wsX0_hasInk := by decide +kernel
abbrev rmX0_hasInk : Room := { frames := 1, cells := 0, slots := 0, locals := 21 }
theorem mX0_hasInk : zY yX0_hasInk cX0_hasInk 3 (some .boolean) wsX0_hasInk 2 := ⟨⟨_, rfl⟩, by decide +kernel, by decide +kernel, by decide +kernel⟩
set_option maxRecDepth 20000 in
set_option maxHeartbeats 2000000 in
theorem b_X0_hasInk_0 {X : zX} {D : va_G} {aI aZ : ClassId} {w0 : va_W} {Qp : Option Value → va_W → Prop} (F : zF X D aI aZ cX0_hasInk 3 RX0 wsX0_hasInk rmX0_hasInk) (E : zT X D w0 Qp 0 0 (some .boolean)) (q_t q_t_bytes q_t_numbersOfLines q_t_crossings q_t_nextInks q_t_gaps : Nat) (t_bytes : (Nat → Int)) (t_numbersOfLines : (Nat → Int)) (t_plainCount : Int) (t_rules : Int) (t_firstRule : Int) (t_lastRule : Int) (t_headed : Int) (t_footed : Int) (t_width : Int) (t_crossings : (Nat → Int)) (t_nextInks : (Nat → Int)) (t_gaps : (Nat → Int)) (v1 : Int) (v2 : Int) {R : Int} (hQ : Qp (some (.int (zI R))) (wX0 aI q_t q_t_bytes q_t_numbersOfLines q_t_crossings q_t_nextInks q_t_gaps t_bytes t_numbersOfLines t_plainCount t_rules t_firstRule t_lastRule t_headed t_footed t_width t_crossings t_nextInks t_gaps)) (hf : f_X0_hasInk t_bytes v1 v2 = some R) : zG X D 0 0 (wX0 aI q_t q_t_bytes q_t_numbersOfLines q_t_crossings q_t_nextInks q_t_gaps t_bytes t_numbersOfLines t_plainCount t_rules t_firstRule t_lastRule t_headed t_footed t_width t_crossings t_nextInks t_gaps) 0 [(0, .ref q_t), (1, .int (zI v1)), (2, .int (zI v2))] [] := by
  unfold f_X0_hasInk at hf
  refine z_aload_n 0 F (dX0_hasInk_0 0 rfl) rfl ?_
  refine z_get (v := .ref q_t_bytes) 0 F (dX0_hasInk_0 1 rfl) fl_X0_hasInk_9 rfl rfl ?_
  refine z_iload_n 1 F (dX0_hasInk_0 2 rfl) rfl ?_
  refine z_bipush F (dX0_hasInk_0 3 rfl) rfl ?_
  refine z_imul F (dX0_hasInk_0 4 rfl) ?_
  refine z_iload_n 2 F (dX0_hasInk_0 5 rfl) rfl ?_
  refine z_iadd F (dX0_hasInk_0 6 rfl) ?_
  obtain ⟨o_1, h_2, hf⟩ := zb_some hf
  refine z_callN (As := [.ref q_t_bytes, .int (zI ((v1 * 60) + v2))]) (rest := []) (wr := [(q_t, .inr (0, [.ref q_t_bytes, .ref q_t_numbersOfLines, .int (zI t_plainCount), .int (zI t_rules), .int (zI t_firstRule), .int (zI t_lastRule), .int (zI t_headed), .int (zI t_footed), .int (zI t_width), .ref q_t_crossings, .ref q_t_nextInks, .ref q_t_gaps]))] ++ ([(q_t_numbersOfLines, .inl (aI, 24, .inl (fun j => zI (t_numbersOfLines j))))] ++ ([(q_t_crossings, .inl (aI, 61, .inl (fun j => zI (t_crossings j))))] ++ ([(q_t_nextInks, .inl (aI, 61, .inl (fun j => zI (t_nextInks j))))] ++ [(q_t_gaps, .inl (aI, 3721, .inl (fun j => zI (t_gaps j))))])))) F (dX0_hasInk_0 7 rfl) (k_X5_pick (zL X) D aI aZ q_t_bytes 1440 (by decide) t_bytes ((v1 * 60) + v2) h_2) gX0_hasInk_X5_pick_n74 mX5_pick nst_X0_X5_pick sw1_X0_hasInk_X5_pick sw2_X0_hasInk_X5_pick [1] [0, 2, 3, 4, 5] rfl rfl (by decide) rfl rfl (Nat.le_of_ble_eq_true rfl) ⟨Nat.le_of_ble_eq_true rfl, Nat.le_of_ble_eq_true rfl⟩ ⟨rfl, rfl⟩ ⟨Nat.le_of_ble_eq_true rfl, Nat.le_of_ble_eq_true rfl⟩ (z_plain (ws' := wX0 aI q_t q_t_bytes q_t_numbersOfLines q_t_crossings q_t_nextInks q_t_gaps t_bytes t_numbersOfLines t_plainCount t_rules t_firstRule t_lastRule t_headed t_footed t_width t_crossings t_nextInks t_gaps) (st' := [.int (zI o_1)]) [0, 5, 1, 2, 3, 4] rfl (by decide) rfl ?_)
  refine z_bipush F (dX0_hasInk_0 8 rfl) rfl ?_
  refine z_icmp_eq (tgt := 22) F (dX0_hasInk_0 9 rfl) rfl (fun c15 => ?_) (fun c15 => ?_)
  · replace hf := zif_t c15 hf
    refine z_iconst F (dX0_hasInk_0 12 rfl) ?_
    cases hf
    exact z_zret [0, 1, 2, 3, 4, 5] F E (dX0_hasInk_0 13 rfl) (Or.inl rfl) rfl (by decide) hQ
  · replace hf := zif_f c15 hf
    refine z_iconst F (dX0_hasInk_0 10 rfl) ?_
    refine z_goto (tgt := 23) F (dX0_hasInk_0 11 rfl) rfl ?_
    cases hf
    exact z_zret [0, 1, 2, 3, 4, 5] F E (dX0_hasInk_0 13 rfl) (Or.inr rfl) rfl (by decide) hQ
set_option maxRecDepth 20000 in
set_option maxHeartbeats 2000000 in
theorem k_X0_hasInk (l : Launch) (D : va_G) (aI aZ : ClassId) (q_t q_t_bytes q_t_numbersOfLines q_t_crossings q_t_nextInks q_t_gaps : Nat) (t_bytes : (Nat → Int)) (t_numbersOfLines : (Nat → Int)) (t_plainCount : Int) (t_rules : Int) (t_firstRule : Int) (t_lastRule : Int) (t_headed : Int) (t_footed : Int) (t_width : Int) (t_crossings : (Nat → Int)) (t_nextInks : (Nat → Int)) (t_gaps : (Nat → Int)) (v1 : Int) (v2 : Int) {R : Int} (hf : f_X0_hasInk t_bytes v1 v2 = some R) : zC l D aI aZ yX0_hasInk wsX0_hasInk rmX0_hasInk [.ref q_t, .int (zI v1), .int (zI v2)] (wX0 aI q_t q_t_bytes q_t_numbersOfLines q_t_crossings q_t_nextInks q_t_gaps t_bytes t_numbersOfLines t_plainCount t_rules t_firstRule t_lastRule t_headed t_footed t_width t_crossings t_nextInks t_gaps) (fun r w => r = (some (.int (zI R))) ∧ w = wX0 aI q_t q_t_bytes q_t_numbersOfLines q_t_crossings q_t_nextInks q_t_gaps t_bytes t_numbersOfLines t_plainCount t_rules t_firstRule t_lastRule t_headed t_footed t_width t_crossings t_nextInks t_gaps) 0 0 := by
  refine z_met (cc := cX0_hasInk) (maxL := 3) (ret := (some .boolean)) (by decide +kernel) rfl (Nat.le_of_ble_eq_true rfl) (fun X hX F E => ?_)
  exact b_X0_hasInk_0 F E q_t q_t_bytes q_t_numbersOfLines q_t_crossings q_t_nextInks q_t_gaps t_bytes t_numbersOfLines t_plainCount t_rules t_firstRule t_lastRule t_headed t_footed t_width t_crossings t_nextInks t_gaps v1 v2 ⟨rfl, rfl⟩ hf
theorem inw_X0_seeInks_0 : ∀ w ∈ u_ws RX0 TX0 12, w ∈ wsX0_seeInks := by decide +kernel
theorem fl_X0_seeInks_78 : zfl wsX0_seeInks RX0 78 0 8 RX0 TX0 12 := ⟨inw_X0_seeInks_0, rfl, by decide, by decide +kernel⟩
theorem fl_X0_seeInks_21 : zfl wsX0_seeInks RX0 21 0 10 RX0 TX0 12 := ⟨inw_X0_seeInks_0, rfl, by decide, by decide +kernel⟩
theorem sw1_X0_seeInks_X5_put : Cond.static yX5_put ∈ wsX0_seeInks := by decide +kernel
theorem sw2_X0_seeInks_X5_put : Cond.initialized yX5_put.cls ∈ wsX0_seeInks := by decide +kernel
theorem fl_X0_seeInks_27 : zfl wsX0_seeInks RX0 27 0 2 RX0 TX0 12 := ⟨inw_X0_seeInks_0, rfl, by decide, by decide +kernel⟩
theorem sw1_X0_seeInks_X5_pick : Cond.static yX5_pick ∈ wsX0_seeInks := by decide +kernel
theorem sw2_X0_seeInks_X5_pick : Cond.initialized yX5_pick.cls ∈ wsX0_seeInks := by decide +kernel
theorem fl_X0_seeInks_18 : zfl wsX0_seeInks RX0 18 0 9 RX0 TX0 12 := ⟨inw_X0_seeInks_0, rfl, by decide, by decide +kernel⟩
abbrev rmX0_seeInks : Room := { frames := 2, cells := 0, slots := 0, locals := 43 }
theorem mX0_seeInks : zY yX0_seeInks cX0_seeInks 5 none wsX0_seeInks 0 := ⟨⟨_, rfl⟩, by decide +kernel, by decide +kernel, by decide +kernel⟩
set_option maxRecDepth 20000 in
set_option maxHeartbeats 2000000 in
theorem b_X0_seeInks_j74 {X : zX} {D : va_G} {aI aZ : ClassId} {w0 : va_W} {Qp : Option Value → va_W → Prop} (F : zF X D aI aZ cX0_seeInks 5 RX0 wsX0_seeInks rmX0_seeInks) (E : zT X D w0 Qp 0 0 none) (q_t q_t_bytes q_t_numbersOfLines q_t_crossings q_t_nextInks q_t_gaps : Nat) (s0 : Int) (s1 : Int) (v1 : Int) (v2 : Int) (v4 : Int) (t_bytes : (Nat → Int)) (t_numbersOfLines : (Nat → Int)) (t_plainCount : Int) (t_rules : Int) (t_firstRule : Int) (t_lastRule : Int) (t_headed : Int) (t_footed : Int) (t_width : Int) (t_crossings : (Nat → Int)) (t_nextInks : (Nat → Int)) (t_gaps : (Nat → Int)) {R : Int × (Nat → Int) × (Nat → Int)} (hQ : Qp none (wX0 aI q_t q_t_bytes q_t_numbersOfLines q_t_crossings q_t_nextInks q_t_gaps t_bytes t_numbersOfLines t_plainCount t_rules t_firstRule t_lastRule t_headed t_footed R.1 R.2.1 R.2.2 t_gaps)) (rec : Int → Int → Int → Option (Int × (Nat → Int) × (Nat → Int))) (hrec : ∀ (v2 : Int) (v3 : Int) (v4 : Int), rec v2 v3 v4 = some R → zG X D 0 0 (wX0 aI q_t q_t_bytes q_t_numbersOfLines q_t_crossings q_t_nextInks q_t_gaps t_bytes t_numbersOfLines t_plainCount t_rules t_firstRule t_lastRule t_headed t_footed t_width t_crossings t_nextInks t_gaps) 30 [(0, .ref q_t), (1, .int (zI v1)), (2, .int (zI v2)), (3, .int (zI v3)), (4, .int (zI v4))] []) (hf : f_X0_seeInks_j74 rec s0 s1 v2 v4 = some R) : zG X D 0 0 (wX0 aI q_t q_t_bytes q_t_numbersOfLines q_t_crossings q_t_nextInks q_t_gaps t_bytes t_numbersOfLines t_plainCount t_rules t_firstRule t_lastRule t_headed t_footed t_width t_crossings t_nextInks t_gaps) 74 [(0, .ref q_t), (1, .int (zI v1)), (2, .int (zI v2)), (4, .int (zI v4))] [.int (zI s0), .int (zI s1)] := by
  unfold f_X0_seeInks_j74 at hf
  refine z_iadd F (dX0_seeInks_1 1 rfl) ?_
  refine z_istore_n (lv' := [(3, .int (zI (s1 + s0))), (0, .ref q_t), (1, .int (zI v1)), (2, .int (zI v2)), (4, .int (zI v4))]) F (dX0_seeInks_1 2 rfl) (by decide) rfl ?_
  refine z_iinc (lv' := [(4, .int (zI (v4 + 1))), (3, .int (zI (s1 + s0))), (0, .ref q_t), (1, .int (zI v1)), (2, .int (zI v2))]) 4 F (dX0_seeInks_1 3 rfl) rfl (by decide) rfl ?_
  refine z_goto (tgt := 30) F (dX0_seeInks_1 4 rfl) rfl ?_
  refine z_lv [2, 3, 4, 1, 0] rfl ?_
  exact hrec v2 (s1 + s0) (v4 + 1) hf
set_option maxRecDepth 20000 in
set_option maxHeartbeats 2000000 in
theorem b_X0_seeInks_j73 {X : zX} {D : va_G} {aI aZ : ClassId} {w0 : va_W} {Qp : Option Value → va_W → Prop} (F : zF X D aI aZ cX0_seeInks 5 RX0 wsX0_seeInks rmX0_seeInks) (E : zT X D w0 Qp 0 0 none) (q_t q_t_bytes q_t_numbersOfLines q_t_crossings q_t_nextInks q_t_gaps : Nat) (s0 : Int) (v1 : Int) (v2 : Int) (v4 : Int) (t_bytes : (Nat → Int)) (t_numbersOfLines : (Nat → Int)) (t_plainCount : Int) (t_rules : Int) (t_firstRule : Int) (t_lastRule : Int) (t_headed : Int) (t_footed : Int) (t_width : Int) (t_crossings : (Nat → Int)) (t_nextInks : (Nat → Int)) (t_gaps : (Nat → Int)) {R : Int × (Nat → Int) × (Nat → Int)} (hQ : Qp none (wX0 aI q_t q_t_bytes q_t_numbersOfLines q_t_crossings q_t_nextInks q_t_gaps t_bytes t_numbersOfLines t_plainCount t_rules t_firstRule t_lastRule t_headed t_footed R.1 R.2.1 R.2.2 t_gaps)) (rec : Int → Int → Int → Option (Int × (Nat → Int) × (Nat → Int))) (hrec : ∀ (v2 : Int) (v3 : Int) (v4 : Int), rec v2 v3 v4 = some R → zG X D 0 0 (wX0 aI q_t q_t_bytes q_t_numbersOfLines q_t_crossings q_t_nextInks q_t_gaps t_bytes t_numbersOfLines t_plainCount t_rules t_firstRule t_lastRule t_headed t_footed t_width t_crossings t_nextInks t_gaps) 30 [(0, .ref q_t), (1, .int (zI v1)), (2, .int (zI v2)), (3, .int (zI v3)), (4, .int (zI v4))] []) (hf : f_X0_seeInks_j73 rec s0 v2 v4 = some R) : zG X D 0 0 (wX0 aI q_t q_t_bytes q_t_numbersOfLines q_t_crossings q_t_nextInks q_t_gaps t_bytes t_numbersOfLines t_plainCount t_rules t_firstRule t_lastRule t_headed t_footed t_width t_crossings t_nextInks t_gaps) 73 [(0, .ref q_t), (1, .int (zI v1)), (2, .int (zI v2)), (4, .int (zI v4))] [.int (zI s0)] := by
  unfold f_X0_seeInks_j73 at hf
  refine z_iconst F (dX0_seeInks_1 0 rfl) ?_
  exact b_X0_seeInks_j74 F E q_t q_t_bytes q_t_numbersOfLines q_t_crossings q_t_nextInks q_t_gaps 0 s0 v1 v2 v4 t_bytes t_numbersOfLines t_plainCount t_rules t_firstRule t_lastRule t_headed t_footed t_width t_crossings t_nextInks t_gaps hQ _ hrec hf
set_option maxRecDepth 20000 in
set_option maxHeartbeats 2000000 in
theorem b_X0_seeInks_l30 {X : zX} {D : va_G} {aI aZ : ClassId} {w0 : va_W} {Qp : Option Value → va_W → Prop} (F : zF X D aI aZ cX0_seeInks 5 RX0 wsX0_seeInks rmX0_seeInks) (E : zT X D w0 Qp 0 0 none) (q_t q_t_bytes q_t_numbersOfLines q_t_crossings q_t_nextInks q_t_gaps : Nat) (v1 : Int) (t_bytes : (Nat → Int)) (t_numbersOfLines : (Nat → Int)) (t_plainCount : Int) (t_rules : Int) (t_firstRule : Int) (t_lastRule : Int) (t_headed : Int) (t_footed : Int) (t_width : Int) (t_crossings : (Nat → Int)) (t_nextInks : (Nat → Int)) (t_gaps : (Nat → Int)) {R : Int × (Nat → Int) × (Nat → Int)} (hQ : Qp none (wX0 aI q_t q_t_bytes q_t_numbersOfLines q_t_crossings q_t_nextInks q_t_gaps t_bytes t_numbersOfLines t_plainCount t_rules t_firstRule t_lastRule t_headed t_footed R.1 R.2.1 R.2.2 t_gaps)) (K : Int → Int → Option (Int × (Nat → Int) × (Nat → Int))) (hK : ∀ (v2 : Int) (v3 : Int), K v2 v3 = some R → zG X D 0 0 (wX0 aI q_t q_t_bytes q_t_numbersOfLines q_t_crossings q_t_nextInks q_t_gaps t_bytes t_numbersOfLines t_plainCount t_rules t_firstRule t_lastRule t_headed t_footed t_width t_crossings t_nextInks t_gaps) 82 [(0, .ref q_t), (1, .int (zI v1)), (2, .int (zI v2)), (3, .int (zI v3))] []) : ∀ (n : Nat) (v2 : Int) (v3 : Int) (v4 : Int), f_X0_seeInks_l30 K v1 t_bytes t_plainCount n v2 v3 v4 = some R → zG X D 0 0 (wX0 aI q_t q_t_bytes q_t_numbersOfLines q_t_crossings q_t_nextInks q_t_gaps t_bytes t_numbersOfLines t_plainCount t_rules t_firstRule t_lastRule t_headed t_footed t_width t_crossings t_nextInks t_gaps) 30 [(0, .ref q_t), (1, .int (zI v1)), (2, .int (zI v2)), (3, .int (zI v3)), (4, .int (zI v4))] [] := by
  intro n
  induction n with
  | zero => intro v2 v3 v4 hf; rw [f_X0_seeInks_l30_z] at hf; cases hf
  | succ n ih =>
    intro v2 v3 v4 hf
    rw [f_X0_seeInks_l30_s] at hf
    refine z_iload 4 F (dX0_seeInks_0 18 rfl) rfl ?_
    refine z_aload_n 0 F (dX0_seeInks_0 19 rfl) rfl ?_
    refine z_get (v := .int (zI t_plainCount)) 0 F (dX0_seeInks_0 20 rfl) fl_X0_seeInks_27 rfl rfl ?_
    refine z_icmp_ge (tgt := 82) F (dX0_seeInks_0 21 rfl) rfl (fun c36 => ?_) (fun c36 => ?_)
    · replace hf := zif_f c36 hf
      refine z_lv [0, 1, 2, 3] rfl ?_
      exact hK v2 v3 hf
    · replace hf := zif_t c36 hf
      refine z_aload_n 0 F (dX0_seeInks_0 22 rfl) rfl ?_
      refine z_iload 4 F (dX0_seeInks_0 23 rfl) rfl ?_
      refine z_iload_n 1 F (dX0_seeInks_0 24 rfl) rfl ?_
      obtain ⟨o_3, h_4, hf⟩ := zb_some hf
      refine z_callV (As := [.int (zI v4), .int (zI v1)]) (rest := []) (wr := []) F (dX0_seeInks_0 25 rfl) (k_X0_hasInk (zL X) D aI aZ q_t q_t_bytes q_t_numbersOfLines q_t_crossings q_t_nextInks q_t_gaps t_bytes t_numbersOfLines t_plainCount t_rules t_firstRule t_lastRule t_headed t_footed t_width t_crossings t_nextInks t_gaps v4 v1 h_4) gX0_seeInks_X0_hasInk mX0_hasInk rfl (ci := 0) rfl [0, 1, 2, 3, 4, 5] [] 0 rfl rfl rfl (by decide) rfl rfl (Nat.le_of_ble_eq_true rfl) ⟨Nat.le_of_ble_eq_true rfl, Nat.le_of_ble_eq_true rfl⟩ ⟨rfl, rfl⟩ ⟨Nat.le_of_ble_eq_true rfl, Nat.le_of_ble_eq_true rfl⟩ (z_plain (ws' := wX0 aI q_t q_t_bytes q_t_numbersOfLines q_t_crossings q_t_nextInks q_t_gaps t_bytes t_numbersOfLines t_plainCount t_rules t_firstRule t_lastRule t_headed t_footed t_width t_crossings t_nextInks t_gaps) (st' := [.int (zI o_3)]) [0, 1, 2, 3, 4, 5] rfl (by decide) rfl ?_)
      refine z_if_eq (tgt := 76) F (dX0_seeInks_0 26 rfl) rfl (fun c46 => ?_) (fun c46 => ?_)
      · replace hf := zif_t c46 hf
        refine z_iinc (lv' := [(4, .int (zI (v4 + 1))), (0, .ref q_t), (1, .int (zI v1)), (2, .int (zI v2)), (3, .int (zI v3))]) 4 F (dX0_seeInks_1 3 rfl) rfl (by decide) rfl ?_
        refine z_goto (tgt := 30) F (dX0_seeInks_1 4 rfl) rfl ?_
        refine z_lv [1, 2, 3, 4, 0] rfl ?_
        exact ih v2 v3 (v4 + 1) hf
      · replace hf := zif_f c46 hf
        refine z_iinc (lv' := [(2, .int (zI (v2 + 1))), (0, .ref q_t), (1, .int (zI v1)), (3, .int (zI v3)), (4, .int (zI v4))]) 2 F (dX0_seeInks_0 27 rfl) rfl (by decide) rfl ?_
        refine z_iload_n 3 F (dX0_seeInks_0 28 rfl) rfl ?_
        refine z_iload_n 2 F (dX0_seeInks_0 29 rfl) rfl ?_
        refine z_if_le (tgt := 73) F (dX0_seeInks_0 30 rfl) rfl (fun c54 => ?_) (fun c54 => ?_)
        · replace hf := zif_f c54 hf
          refine z_lv [1, 2, 0, 4] rfl ?_
          exact b_X0_seeInks_j73 F E q_t q_t_bytes q_t_numbersOfLines q_t_crossings q_t_nextInks q_t_gaps v3 v1 (v2 + 1) v4 t_bytes t_numbersOfLines t_plainCount t_rules t_firstRule t_lastRule t_headed t_footed t_width t_crossings t_nextInks t_gaps hQ _ ih hf
        · replace hf := zif_t c54 hf
          refine z_aload_n 1 F (dX0_seeInks_0 31 rfl) rfl ?_
          refine z_iload 4 F (dX0_seeInks_0 32 rfl) rfl ?_
          refine z_iload_n 2 F (dX0_seeInks_0 33 rfl) rfl ?_
          refine z_iconst F (dX0_seeInks_0 34 rfl) ?_
          refine z_isub F (dX0_seeInks_0 35 rfl) ?_
          obtain ⟨o_5, h_6, hf⟩ := zb_some hf
          refine z_callV (As := [.int (zI v4), .int (zI (v1 - 1))]) (rest := [.int (zI v3)]) (wr := []) F (dX0_seeInks_0 36 rfl) (k_X0_hasInk (zL X) D aI aZ q_t q_t_bytes q_t_numbersOfLines q_t_crossings q_t_nextInks q_t_gaps t_bytes t_numbersOfLines t_plainCount t_rules t_firstRule t_lastRule t_headed t_footed t_width t_crossings t_nextInks t_gaps v4 (v1 - 1) h_6) gX0_seeInks_X0_hasInk mX0_hasInk rfl (ci := 0) rfl [0, 1, 2, 3, 4, 5] [] 0 rfl rfl rfl (by decide) rfl rfl (Nat.le_of_ble_eq_true rfl) ⟨Nat.le_of_ble_eq_true rfl, Nat.le_of_ble_eq_true rfl⟩ ⟨rfl, rfl⟩ ⟨Nat.le_of_ble_eq_true rfl, Nat.le_of_ble_eq_true rfl⟩ (z_plain (ws' := wX0 aI q_t q_t_bytes q_t_numbersOfLines q_t_crossings q_t_nextInks q_t_gaps t_bytes t_numbersOfLines t_plainCount t_rules t_firstRule t_lastRule t_headed t_footed t_width t_crossings t_nextInks t_gaps) (st' := [.int (zI o_5), .int (zI v3)]) [0, 1, 2, 3, 4, 5] rfl (by decide) rfl ?_)
          refine z_if_eq (tgt := 73) F (dX0_seeInks_0 37 rfl) rfl (fun c66 => ?_) (fun c66 => ?_)
          · replace hf := zif_t c66 hf
            refine z_lv [1, 2, 0, 4] rfl ?_
            exact b_X0_seeInks_j73 F E q_t q_t_bytes q_t_numbersOfLines q_t_crossings q_t_nextInks q_t_gaps v3 v1 (v2 + 1) v4 t_bytes t_numbersOfLines t_plainCount t_rules t_firstRule t_lastRule t_headed t_footed t_width t_crossings t_nextInks t_gaps hQ _ ih hf
          · replace hf := zif_f c66 hf
            refine z_iconst F (dX0_seeInks_0 38 rfl) ?_
            refine z_goto (tgt := 74) F (dX0_seeInks_0 39 rfl) rfl ?_
            refine z_lv [1, 2, 0, 4] rfl ?_
            exact b_X0_seeInks_j74 F E q_t q_t_bytes q_t_numbersOfLines q_t_crossings q_t_nextInks q_t_gaps 1 v3 v1 (v2 + 1) v4 t_bytes t_numbersOfLines t_plainCount t_rules t_firstRule t_lastRule t_headed t_footed t_width t_crossings t_nextInks t_gaps hQ _ ih hf
set_option maxRecDepth 20000 in
set_option maxHeartbeats 2000000 in
theorem b_X0_seeInks_j130 {X : zX} {D : va_G} {aI aZ : ClassId} {w0 : va_W} {Qp : Option Value → va_W → Prop} (F : zF X D aI aZ cX0_seeInks 5 RX0 wsX0_seeInks rmX0_seeInks) (E : zT X D w0 Qp 0 0 none) (q_t q_t_bytes q_t_numbersOfLines q_t_crossings q_t_nextInks q_t_gaps : Nat) (s0 : Int) (s1 : Int) (v1 : Int) (v3 : Int) (t_bytes : (Nat → Int)) (t_numbersOfLines : (Nat → Int)) (t_plainCount : Int) (t_rules : Int) (t_firstRule : Int) (t_lastRule : Int) (t_headed : Int) (t_footed : Int) (t_width : Int) (t_crossings : (Nat → Int)) (t_nextInks : (Nat → Int)) (t_gaps : (Nat → Int)) {R : Int × (Nat → Int) × (Nat → Int)} (hQ : Qp none (wX0 aI q_t q_t_bytes q_t_numbersOfLines q_t_crossings q_t_nextInks q_t_gaps t_bytes t_numbersOfLines t_plainCount t_rules t_firstRule t_lastRule t_headed t_footed R.1 R.2.1 R.2.2 t_gaps)) (rec : Int → Int → (Nat → Int) → (Nat → Int) → Option (Int × (Nat → Int) × (Nat → Int))) (hrec : ∀ (v1 : Int) (t_width : Int) (t_crossings : (Nat → Int)) (t_nextInks : (Nat → Int)), rec v1 t_width t_crossings t_nextInks = some R → zG X D 0 0 (wX0 aI q_t q_t_bytes q_t_numbersOfLines q_t_crossings q_t_nextInks q_t_gaps t_bytes t_numbersOfLines t_plainCount t_rules t_firstRule t_lastRule t_headed t_footed t_width t_crossings t_nextInks t_gaps) 19 [(0, .ref q_t), (1, .int (zI v1))] []) (hf : f_X0_seeInks_j130 rec s0 s1 v1 v3 t_width t_crossings t_nextInks = some R) : zG X D 0 0 (wX0 aI q_t q_t_bytes q_t_numbersOfLines q_t_crossings q_t_nextInks q_t_gaps t_bytes t_numbersOfLines t_plainCount t_rules t_firstRule t_lastRule t_headed t_footed t_width t_crossings t_nextInks t_gaps) 130 [(0, .ref q_t), (1, .int (zI v1)), (3, .int (zI v3))] [.int (zI s0), .int (zI s1), .ref q_t_nextInks] := by
  unfold f_X0_seeInks_j130 at hf
  obtain ⟨o_11, h_12, hf⟩ := zb_some hf
  refine z_callN (As := [.ref q_t_nextInks, .int (zI s1), .int (zI s0)]) (rest := []) (wr := [(q_t, .inr (0, [.ref q_t_bytes, .ref q_t_numbersOfLines, .int (zI t_plainCount), .int (zI t_rules), .int (zI t_firstRule), .int (zI t_lastRule), .int (zI t_headed), .int (zI t_footed), .int (zI t_width), .ref q_t_crossings, .ref q_t_nextInks, .ref q_t_gaps]))] ++ ([(q_t_bytes, .inl (aI, 1440, .inl (fun j => zI (t_bytes j))))] ++ ([(q_t_numbersOfLines, .inl (aI, 24, .inl (fun j => zI (t_numbersOfLines j))))] ++ ([(q_t_crossings, .inl (aI, 61, .inl (fun j => zI (t_crossings j))))] ++ [(q_t_gaps, .inl (aI, 3721, .inl (fun j => zI (t_gaps j))))])))) F (dX0_seeInks_1 31 rfl) (k_X5_put (zL X) D aI aZ q_t_nextInks 61 (by decide) t_nextInks s1 s0 h_12) gX0_seeInks_X5_put_n59 mX5_put nst_X0_X5_put sw1_X0_seeInks_X5_put sw2_X0_seeInks_X5_put [4] [0, 1, 2, 3, 5] rfl rfl (by decide) rfl rfl (Nat.le_of_ble_eq_true rfl) ⟨Nat.le_of_ble_eq_true rfl, Nat.le_of_ble_eq_true rfl⟩ ⟨rfl, rfl⟩ ⟨Nat.le_of_ble_eq_true rfl, Nat.le_of_ble_eq_true rfl⟩ (z_plain (ws' := wX0 aI q_t q_t_bytes q_t_numbersOfLines q_t_crossings q_t_nextInks q_t_gaps t_bytes t_numbersOfLines t_plainCount t_rules t_firstRule t_lastRule t_headed t_footed t_width t_crossings o_11 t_gaps) (st' := []) [0, 1, 2, 3, 5, 4] rfl (by decide) rfl ?_)
  refine z_aload_n 0 F (dX0_seeInks_1 32 rfl) rfl ?_
  refine z_get (v := .ref q_t_crossings) 0 F (dX0_seeInks_1 33 rfl) fl_X0_seeInks_18 rfl rfl ?_
  refine z_iload_n 1 F (dX0_seeInks_1 34 rfl) rfl ?_
  refine z_bipush F (dX0_seeInks_1 35 rfl) rfl ?_
  refine z_iload_n 2 F (dX0_seeInks_1 36 rfl) rfl ?_
  refine z_imul F (dX0_seeInks_1 37 rfl) ?_
  obtain ⟨o_13, h_14, hf⟩ := zb_some hf
  refine z_callN (As := [.ref q_t_crossings, .int (zI v1), .int (zI (6 * v3))]) (rest := []) (wr := [(q_t, .inr (0, [.ref q_t_bytes, .ref q_t_numbersOfLines, .int (zI t_plainCount), .int (zI t_rules), .int (zI t_firstRule), .int (zI t_lastRule), .int (zI t_headed), .int (zI t_footed), .int (zI t_width), .ref q_t_crossings, .ref q_t_nextInks, .ref q_t_gaps]))] ++ ([(q_t_bytes, .inl (aI, 1440, .inl (fun j => zI (t_bytes j))))] ++ ([(q_t_numbersOfLines, .inl (aI, 24, .inl (fun j => zI (t_numbersOfLines j))))] ++ ([(q_t_nextInks, .inl (aI, 61, .inl (fun j => zI (o_11 j))))] ++ [(q_t_gaps, .inl (aI, 3721, .inl (fun j => zI (t_gaps j))))])))) F (dX0_seeInks_1 38 rfl) (k_X5_put (zL X) D aI aZ q_t_crossings 61 (by decide) t_crossings v1 (6 * v3) h_14) gX0_seeInks_X5_put_n59 mX5_put nst_X0_X5_put sw1_X0_seeInks_X5_put sw2_X0_seeInks_X5_put [3] [0, 1, 2, 4, 5] rfl rfl (by decide) rfl rfl (Nat.le_of_ble_eq_true rfl) ⟨Nat.le_of_ble_eq_true rfl, Nat.le_of_ble_eq_true rfl⟩ ⟨rfl, rfl⟩ ⟨Nat.le_of_ble_eq_true rfl, Nat.le_of_ble_eq_true rfl⟩ (z_plain (ws' := wX0 aI q_t q_t_bytes q_t_numbersOfLines q_t_crossings q_t_nextInks q_t_gaps t_bytes t_numbersOfLines t_plainCount t_rules t_firstRule t_lastRule t_headed t_footed t_width o_13 o_11 t_gaps) (st' := []) [0, 1, 2, 5, 3, 4] rfl (by decide) rfl ?_)
  refine z_iinc (lv' := [(1, .int (zI (v1 + (-1)))), (0, .ref q_t), (3, .int (zI v3))]) 1 F (dX0_seeInks_1 39 rfl) rfl (by decide) rfl ?_
  refine z_goto (tgt := 19) F (dX0_seeInks_2 0 rfl) rfl ?_
  refine z_lv [1, 0] rfl ?_
  exact hrec (v1 + (-1)) t_width o_13 o_11 hf
set_option maxRecDepth 20000 in
set_option maxHeartbeats 2000000 in
theorem b_X0_seeInks_j104 {X : zX} {D : va_G} {aI aZ : ClassId} {w0 : va_W} {Qp : Option Value → va_W → Prop} (F : zF X D aI aZ cX0_seeInks 5 RX0 wsX0_seeInks rmX0_seeInks) (E : zT X D w0 Qp 0 0 none) (q_t q_t_bytes q_t_numbersOfLines q_t_crossings q_t_nextInks q_t_gaps : Nat) (s0 : Int) (v1 : Int) (v2 : Int) (v3 : Int) (t_bytes : (Nat → Int)) (t_numbersOfLines : (Nat → Int)) (t_plainCount : Int) (t_rules : Int) (t_firstRule : Int) (t_lastRule : Int) (t_headed : Int) (t_footed : Int) (t_width : Int) (t_crossings : (Nat → Int)) (t_nextInks : (Nat → Int)) (t_gaps : (Nat → Int)) {R : Int × (Nat → Int) × (Nat → Int)} (hQ : Qp none (wX0 aI q_t q_t_bytes q_t_numbersOfLines q_t_crossings q_t_nextInks q_t_gaps t_bytes t_numbersOfLines t_plainCount t_rules t_firstRule t_lastRule t_headed t_footed R.1 R.2.1 R.2.2 t_gaps)) (rec : Int → Int → (Nat → Int) → (Nat → Int) → Option (Int × (Nat → Int) × (Nat → Int))) (hrec : ∀ (v1 : Int) (t_width : Int) (t_crossings : (Nat → Int)) (t_nextInks : (Nat → Int)), rec v1 t_width t_crossings t_nextInks = some R → zG X D 0 0 (wX0 aI q_t q_t_bytes q_t_numbersOfLines q_t_crossings q_t_nextInks q_t_gaps t_bytes t_numbersOfLines t_plainCount t_rules t_firstRule t_lastRule t_headed t_footed t_width t_crossings t_nextInks t_gaps) 19 [(0, .ref q_t), (1, .int (zI v1))] []) (hf : f_X0_seeInks_j104 rec s0 v1 v2 v3 t_crossings t_nextInks = some R) : zG X D 0 0 (wX0 aI q_t q_t_bytes q_t_numbersOfLines q_t_crossings q_t_nextInks q_t_gaps t_bytes t_numbersOfLines t_plainCount t_rules t_firstRule t_lastRule t_headed t_footed t_width t_crossings t_nextInks t_gaps) 104 [(0, .ref q_t), (1, .int (zI v1)), (2, .int (zI v2)), (3, .int (zI v3))] [.int (zI s0), .ref q_t] := by
  unfold f_X0_seeInks_j104 at hf
  refine z_put (ws' := wX0 aI q_t q_t_bytes q_t_numbersOfLines q_t_crossings q_t_nextInks q_t_gaps t_bytes t_numbersOfLines t_plainCount t_rules t_firstRule t_lastRule t_headed t_footed s0 t_crossings t_nextInks t_gaps) 0 F (dX0_seeInks_1 17 rfl) fl_X0_seeInks_78 tyX0_ok nmX0 rfl rfl rfl rfl rfl (Nat.le_of_ble_eq_true rfl) rfl ?_
  refine z_aload_n 0 F (dX0_seeInks_1 18 rfl) rfl ?_
  refine z_get (v := .ref q_t_nextInks) 0 F (dX0_seeInks_1 19 rfl) fl_X0_seeInks_21 rfl rfl ?_
  refine z_iload_n 1 F (dX0_seeInks_1 20 rfl) rfl ?_
  refine z_iload_n 2 F (dX0_seeInks_1 21 rfl) rfl ?_
  refine z_if_le (tgt := 120) F (dX0_seeInks_1 22 rfl) rfl (fun c113 => ?_) (fun c113 => ?_)
  · replace hf := zif_f c113 hf
    refine z_aload_n 0 F (dX0_seeInks_1 25 rfl) rfl ?_
    refine z_get (v := .ref q_t_nextInks) 0 F (dX0_seeInks_1 26 rfl) fl_X0_seeInks_21 rfl rfl ?_
    refine z_iload_n 1 F (dX0_seeInks_1 27 rfl) rfl ?_
    refine z_iconst F (dX0_seeInks_1 28 rfl) ?_
    refine z_iadd F (dX0_seeInks_1 29 rfl) ?_
    obtain ⟨o_9, h_10, hf⟩ := zb_some hf
    refine z_callN (As := [.ref q_t_nextInks, .int (zI (v1 + 1))]) (rest := [.int (zI v1), .ref q_t_nextInks]) (wr := [(q_t, .inr (0, [.ref q_t_bytes, .ref q_t_numbersOfLines, .int (zI t_plainCount), .int (zI t_rules), .int (zI t_firstRule), .int (zI t_lastRule), .int (zI t_headed), .int (zI t_footed), .int (zI s0), .ref q_t_crossings, .ref q_t_nextInks, .ref q_t_gaps]))] ++ ([(q_t_bytes, .inl (aI, 1440, .inl (fun j => zI (t_bytes j))))] ++ ([(q_t_numbersOfLines, .inl (aI, 24, .inl (fun j => zI (t_numbersOfLines j))))] ++ ([(q_t_crossings, .inl (aI, 61, .inl (fun j => zI (t_crossings j))))] ++ [(q_t_gaps, .inl (aI, 3721, .inl (fun j => zI (t_gaps j))))])))) F (dX0_seeInks_1 30 rfl) (k_X5_pick (zL X) D aI aZ q_t_nextInks 61 (by decide) t_nextInks (v1 + 1) h_10) gX0_seeInks_X5_pick_n74 mX5_pick nst_X0_X5_pick sw1_X0_seeInks_X5_pick sw2_X0_seeInks_X5_pick [4] [0, 1, 2, 3, 5] rfl rfl (by decide) rfl rfl (Nat.le_of_ble_eq_true rfl) ⟨Nat.le_of_ble_eq_true rfl, Nat.le_of_ble_eq_true rfl⟩ ⟨rfl, rfl⟩ ⟨Nat.le_of_ble_eq_true rfl, Nat.le_of_ble_eq_true rfl⟩ (z_plain (ws' := wX0 aI q_t q_t_bytes q_t_numbersOfLines q_t_crossings q_t_nextInks q_t_gaps t_bytes t_numbersOfLines t_plainCount t_rules t_firstRule t_lastRule t_headed t_footed s0 t_crossings t_nextInks t_gaps) (st' := [.int (zI o_9), .int (zI v1), .ref q_t_nextInks]) [0, 1, 2, 3, 5, 4] rfl (by decide) rfl ?_)
    refine z_lv [0, 1, 3] rfl ?_
    exact b_X0_seeInks_j130 F E q_t q_t_bytes q_t_numbersOfLines q_t_crossings q_t_nextInks q_t_gaps o_9 v1 v1 v3 t_bytes t_numbersOfLines t_plainCount t_rules t_firstRule t_lastRule t_headed t_footed s0 t_crossings t_nextInks t_gaps hQ _ hrec hf
  · replace hf := zif_t c113 hf
    refine z_iload_n 1 F (dX0_seeInks_1 23 rfl) rfl ?_
    refine z_goto (tgt := 130) F (dX0_seeInks_1 24 rfl) rfl ?_
    refine z_lv [0, 1, 3] rfl ?_
    exact b_X0_seeInks_j130 F E q_t q_t_bytes q_t_numbersOfLines q_t_crossings q_t_nextInks q_t_gaps v1 v1 v1 v3 t_bytes t_numbersOfLines t_plainCount t_rules t_firstRule t_lastRule t_headed t_footed s0 t_crossings t_nextInks t_gaps hQ _ hrec hf
set_option maxRecDepth 20000 in
set_option maxHeartbeats 2000000 in
theorem b_X0_seeInks_j100 {X : zX} {D : va_G} {aI aZ : ClassId} {w0 : va_W} {Qp : Option Value → va_W → Prop} (F : zF X D aI aZ cX0_seeInks 5 RX0 wsX0_seeInks rmX0_seeInks) (E : zT X D w0 Qp 0 0 none) (q_t q_t_bytes q_t_numbersOfLines q_t_crossings q_t_nextInks q_t_gaps : Nat) (v1 : Int) (v2 : Int) (v3 : Int) (t_bytes : (Nat → Int)) (t_numbersOfLines : (Nat → Int)) (t_plainCount : Int) (t_rules : Int) (t_firstRule : Int) (t_lastRule : Int) (t_headed : Int) (t_footed : Int) (t_width : Int) (t_crossings : (Nat → Int)) (t_nextInks : (Nat → Int)) (t_gaps : (Nat → Int)) {R : Int × (Nat → Int) × (Nat → Int)} (hQ : Qp none (wX0 aI q_t q_t_bytes q_t_numbersOfLines q_t_crossings q_t_nextInks q_t_gaps t_bytes t_numbersOfLines t_plainCount t_rules t_firstRule t_lastRule t_headed t_footed R.1 R.2.1 R.2.2 t_gaps)) (rec : Int → Int → (Nat → Int) → (Nat → Int) → Option (Int × (Nat → Int) × (Nat → Int))) (hrec : ∀ (v1 : Int) (t_width : Int) (t_crossings : (Nat → Int)) (t_nextInks : (Nat → Int)), rec v1 t_width t_crossings t_nextInks = some R → zG X D 0 0 (wX0 aI q_t q_t_bytes q_t_numbersOfLines q_t_crossings q_t_nextInks q_t_gaps t_bytes t_numbersOfLines t_plainCount t_rules t_firstRule t_lastRule t_headed t_footed t_width t_crossings t_nextInks t_gaps) 19 [(0, .ref q_t), (1, .int (zI v1))] []) (hf : f_X0_seeInks_j100 rec v1 v2 v3 t_width t_crossings t_nextInks = some R) : zG X D 0 0 (wX0 aI q_t q_t_bytes q_t_numbersOfLines q_t_crossings q_t_nextInks q_t_gaps t_bytes t_numbersOfLines t_plainCount t_rules t_firstRule t_lastRule t_headed t_footed t_width t_crossings t_nextInks t_gaps) 100 [(0, .ref q_t), (1, .int (zI v1)), (2, .int (zI v2)), (3, .int (zI v3))] [.ref q_t] := by
  unfold f_X0_seeInks_j100 at hf
  refine z_aload_n 0 F (dX0_seeInks_1 15 rfl) rfl ?_
  refine z_get (v := .int (zI t_width)) 0 F (dX0_seeInks_1 16 rfl) fl_X0_seeInks_78 rfl rfl ?_
  exact b_X0_seeInks_j104 F E q_t q_t_bytes q_t_numbersOfLines q_t_crossings q_t_nextInks q_t_gaps t_width v1 v2 v3 t_bytes t_numbersOfLines t_plainCount t_rules t_firstRule t_lastRule t_headed t_footed t_width t_crossings t_nextInks t_gaps hQ _ hrec hf
set_option maxRecDepth 20000 in
set_option maxHeartbeats 2000000 in
theorem b_X0_seeInks_l19 {X : zX} {D : va_G} {aI aZ : ClassId} {w0 : va_W} {Qp : Option Value → va_W → Prop} (F : zF X D aI aZ cX0_seeInks 5 RX0 wsX0_seeInks rmX0_seeInks) (E : zT X D w0 Qp 0 0 none) (q_t q_t_bytes q_t_numbersOfLines q_t_crossings q_t_nextInks q_t_gaps : Nat) (t_bytes : (Nat → Int)) (t_numbersOfLines : (Nat → Int)) (t_plainCount : Int) (t_rules : Int) (t_firstRule : Int) (t_lastRule : Int) (t_headed : Int) (t_footed : Int) (t_gaps : (Nat → Int)) {R : Int × (Nat → Int) × (Nat → Int)} (hQ : Qp none (wX0 aI q_t q_t_bytes q_t_numbersOfLines q_t_crossings q_t_nextInks q_t_gaps t_bytes t_numbersOfLines t_plainCount t_rules t_firstRule t_lastRule t_headed t_footed R.1 R.2.1 R.2.2 t_gaps)) (K : Int → (Nat → Int) → (Nat → Int) → Option (Int × (Nat → Int) × (Nat → Int))) (hK : ∀ (t_width : Int) (t_crossings : (Nat → Int)) (t_nextInks : (Nat → Int)), K t_width t_crossings t_nextInks = some R → zG X D 0 0 (wX0 aI q_t q_t_bytes q_t_numbersOfLines q_t_crossings q_t_nextInks q_t_gaps t_bytes t_numbersOfLines t_plainCount t_rules t_firstRule t_lastRule t_headed t_footed t_width t_crossings t_nextInks t_gaps) 151 [] []) : ∀ (n : Nat) (v1 : Int) (t_width : Int) (t_crossings : (Nat → Int)) (t_nextInks : (Nat → Int)), f_X0_seeInks_l19 K t_bytes t_plainCount n v1 t_width t_crossings t_nextInks = some R → zG X D 0 0 (wX0 aI q_t q_t_bytes q_t_numbersOfLines q_t_crossings q_t_nextInks q_t_gaps t_bytes t_numbersOfLines t_plainCount t_rules t_firstRule t_lastRule t_headed t_footed t_width t_crossings t_nextInks t_gaps) 19 [(0, .ref q_t), (1, .int (zI v1))] [] := by
  intro n
  induction n with
  | zero => intro v1 t_width t_crossings t_nextInks hf; rw [f_X0_seeInks_l19_z] at hf; cases hf
  | succ n ih =>
    intro v1 t_width t_crossings t_nextInks hf
    rw [f_X0_seeInks_l19_s] at hf
    refine z_iload_n 1 F (dX0_seeInks_0 10 rfl) rfl ?_
    refine z_if_lt (tgt := 151) F (dX0_seeInks_0 11 rfl) rfl (fun c20 => ?_) (fun c20 => ?_)
    · replace hf := zif_t c20 hf
      refine z_lv [] rfl ?_
      exact hK t_width t_crossings t_nextInks hf
    · replace hf := zif_f c20 hf
      refine z_iconst F (dX0_seeInks_0 12 rfl) ?_
      refine z_istore_n (lv' := [(2, .int (zI 0)), (0, .ref q_t), (1, .int (zI v1))]) F (dX0_seeInks_0 13 rfl) (by decide) rfl ?_
      refine z_iconst F (dX0_seeInks_0 14 rfl) ?_
      refine z_istore_n (lv' := [(3, .int (zI 0)), (2, .int (zI 0)), (0, .ref q_t), (1, .int (zI v1))]) F (dX0_seeInks_0 15 rfl) (by decide) rfl ?_
      refine z_iconst F (dX0_seeInks_0 16 rfl) ?_
      refine z_istore (lv' := [(4, .int (zI 0)), (3, .int (zI 0)), (2, .int (zI 0)), (0, .ref q_t), (1, .int (zI v1))]) F (dX0_seeInks_0 17 rfl) (by decide) rfl ?_
      refine z_lv [3, 4, 2, 1, 0] rfl ?_
      refine b_X0_seeInks_l30 F E q_t q_t_bytes q_t_numbersOfLines q_t_crossings q_t_nextInks q_t_gaps v1 t_bytes t_numbersOfLines t_plainCount t_rules t_firstRule t_lastRule t_headed t_footed t_width t_crossings t_nextInks t_gaps hQ _ ?_ zN 0 0 0 hf
      intro v2_7 v3_8 hf
      refine z_aload_n 0 F (dX0_seeInks_1 5 rfl) rfl ?_
      refine z_iload_n 2 F (dX0_seeInks_1 6 rfl) rfl ?_
      refine z_if_le (tgt := 100) F (dX0_seeInks_1 7 rfl) rfl (fun c84 => ?_) (fun c84 => ?_)
      · replace hf := zif_f c84 hf
        exact b_X0_seeInks_j100 F E q_t q_t_bytes q_t_numbersOfLines q_t_crossings q_t_nextInks q_t_gaps v1 v2_7 v3_8 t_bytes t_numbersOfLines t_plainCount t_rules t_firstRule t_lastRule t_headed t_footed t_width t_crossings t_nextInks t_gaps hQ _ ih hf
      · replace hf := zif_t c84 hf
        refine z_aload_n 0 F (dX0_seeInks_1 8 rfl) rfl ?_
        refine z_get (v := .int (zI t_width)) 0 F (dX0_seeInks_1 9 rfl) fl_X0_seeInks_78 rfl rfl ?_
        refine z_if_ne (tgt := 100) F (dX0_seeInks_1 10 rfl) rfl (fun c91 => ?_) (fun c91 => ?_)
        · replace hf := zif_f c91 hf
          exact b_X0_seeInks_j100 F E q_t q_t_bytes q_t_numbersOfLines q_t_crossings q_t_nextInks q_t_gaps v1 v2_7 v3_8 t_bytes t_numbersOfLines t_plainCount t_rules t_firstRule t_lastRule t_headed t_footed t_width t_crossings t_nextInks t_gaps hQ _ ih hf
        · replace hf := zif_t c91 hf
          refine z_iload_n 1 F (dX0_seeInks_1 11 rfl) rfl ?_
          refine z_iconst F (dX0_seeInks_1 12 rfl) ?_
          refine z_iadd F (dX0_seeInks_1 13 rfl) ?_
          refine z_goto (tgt := 104) F (dX0_seeInks_1 14 rfl) rfl ?_
          exact b_X0_seeInks_j104 F E q_t q_t_bytes q_t_numbersOfLines q_t_crossings q_t_nextInks q_t_gaps (v1 + 1) v1 v2_7 v3_8 t_bytes t_numbersOfLines t_plainCount t_rules t_firstRule t_lastRule t_headed t_footed t_width t_crossings t_nextInks t_gaps hQ _ ih hf
set_option maxRecDepth 20000 in
set_option maxHeartbeats 2000000 in
theorem b_X0_seeInks_0 {X : zX} {D : va_G} {aI aZ : ClassId} {w0 : va_W} {Qp : Option Value → va_W → Prop} (F : zF X D aI aZ cX0_seeInks 5 RX0 wsX0_seeInks rmX0_seeInks) (E : zT X D w0 Qp 0 0 none) (q_t q_t_bytes q_t_numbersOfLines q_t_crossings q_t_nextInks q_t_gaps : Nat) (t_bytes : (Nat → Int)) (t_numbersOfLines : (Nat → Int)) (t_plainCount : Int) (t_rules : Int) (t_firstRule : Int) (t_lastRule : Int) (t_headed : Int) (t_footed : Int) (t_width : Int) (t_crossings : (Nat → Int)) (t_nextInks : (Nat → Int)) (t_gaps : (Nat → Int)) {R : Int × (Nat → Int) × (Nat → Int)} (hQ : Qp none (wX0 aI q_t q_t_bytes q_t_numbersOfLines q_t_crossings q_t_nextInks q_t_gaps t_bytes t_numbersOfLines t_plainCount t_rules t_firstRule t_lastRule t_headed t_footed R.1 R.2.1 R.2.2 t_gaps)) (hf : f_X0_seeInks t_bytes t_plainCount t_crossings t_nextInks = some R) : zG X D 0 0 (wX0 aI q_t q_t_bytes q_t_numbersOfLines q_t_crossings q_t_nextInks q_t_gaps t_bytes t_numbersOfLines t_plainCount t_rules t_firstRule t_lastRule t_headed t_footed t_width t_crossings t_nextInks t_gaps) 0 [(0, .ref q_t)] [] := by
  unfold f_X0_seeInks at hf
  refine z_aload_n 0 F (dX0_seeInks_0 0 rfl) rfl ?_
  refine z_iconst F (dX0_seeInks_0 1 rfl) ?_
  refine z_put (ws' := wX0 aI q_t q_t_bytes q_t_numbersOfLines q_t_crossings q_t_nextInks q_t_gaps t_bytes t_numbersOfLines t_plainCount t_rules t_firstRule t_lastRule t_headed t_footed 0 t_crossings t_nextInks t_gaps) 0 F (dX0_seeInks_0 2 rfl) fl_X0_seeInks_78 tyX0_ok nmX0 rfl rfl rfl rfl rfl (Nat.le_of_ble_eq_true rfl) rfl ?_
  refine z_aload_n 0 F (dX0_seeInks_0 3 rfl) rfl ?_
  refine z_get (v := .ref q_t_nextInks) 0 F (dX0_seeInks_0 4 rfl) fl_X0_seeInks_21 rfl rfl ?_
  refine z_bipush F (dX0_seeInks_0 5 rfl) rfl ?_
  refine z_bipush F (dX0_seeInks_0 6 rfl) rfl ?_
  obtain ⟨o_1, h_2, hf⟩ := zb_some hf
  refine z_callN (As := [.ref q_t_nextInks, .int (zI 60), .int (zI 60)]) (rest := []) (wr := [(q_t, .inr (0, [.ref q_t_bytes, .ref q_t_numbersOfLines, .int (zI t_plainCount), .int (zI t_rules), .int (zI t_firstRule), .int (zI t_lastRule), .int (zI t_headed), .int (zI t_footed), .int (zI 0), .ref q_t_crossings, .ref q_t_nextInks, .ref q_t_gaps]))] ++ ([(q_t_bytes, .inl (aI, 1440, .inl (fun j => zI (t_bytes j))))] ++ ([(q_t_numbersOfLines, .inl (aI, 24, .inl (fun j => zI (t_numbersOfLines j))))] ++ ([(q_t_crossings, .inl (aI, 61, .inl (fun j => zI (t_crossings j))))] ++ [(q_t_gaps, .inl (aI, 3721, .inl (fun j => zI (t_gaps j))))])))) F (dX0_seeInks_0 7 rfl) (k_X5_put (zL X) D aI aZ q_t_nextInks 61 (by decide) t_nextInks 60 60 h_2) gX0_seeInks_X5_put_n59 mX5_put nst_X0_X5_put sw1_X0_seeInks_X5_put sw2_X0_seeInks_X5_put [4] [0, 1, 2, 3, 5] rfl rfl (by decide) rfl rfl (Nat.le_of_ble_eq_true rfl) ⟨Nat.le_of_ble_eq_true rfl, Nat.le_of_ble_eq_true rfl⟩ ⟨rfl, rfl⟩ ⟨Nat.le_of_ble_eq_true rfl, Nat.le_of_ble_eq_true rfl⟩ (z_plain (ws' := wX0 aI q_t q_t_bytes q_t_numbersOfLines q_t_crossings q_t_nextInks q_t_gaps t_bytes t_numbersOfLines t_plainCount t_rules t_firstRule t_lastRule t_headed t_footed 0 t_crossings o_1 t_gaps) (st' := []) [0, 1, 2, 3, 5, 4] rfl (by decide) rfl ?_)
  refine z_bipush F (dX0_seeInks_0 8 rfl) rfl ?_
  refine z_istore_n (lv' := [(1, .int (zI 59)), (0, .ref q_t)]) F (dX0_seeInks_0 9 rfl) (by decide) rfl ?_
  refine z_lv [1, 0] rfl ?_
  refine b_X0_seeInks_l19 F E q_t q_t_bytes q_t_numbersOfLines q_t_crossings q_t_nextInks q_t_gaps t_bytes t_numbersOfLines t_plainCount t_rules t_firstRule t_lastRule t_headed t_footed t_gaps hQ _ ?_ zN 59 0 t_crossings o_1 hf
  intro t_width_15 t_crossings_16 t_nextInks_17 hf
  cases hf
  exact z_vret [0, 1, 2, 3, 4, 5] F E (dX0_seeInks_2 1 rfl) rfl (by decide) hQ
set_option maxRecDepth 20000 in
set_option maxHeartbeats 2000000 in
theorem k_X0_seeInks (l : Launch) (D : va_G) (aI aZ : ClassId) (q_t q_t_bytes q_t_numbersOfLines q_t_crossings q_t_nextInks q_t_gaps : Nat) (t_bytes : (Nat → Int)) (t_numbersOfLines : (Nat → Int)) (t_plainCount : Int) (t_rules : Int) (t_firstRule : Int) (t_lastRule : Int) (t_headed : Int) (t_footed : Int) (t_width : Int) (t_crossings : (Nat → Int)) (t_nextInks : (Nat → Int)) (t_gaps : (Nat → Int)) {R : Int × (Nat → Int) × (Nat → Int)} (hf : f_X0_seeInks t_bytes t_plainCount t_crossings t_nextInks = some R) : zC l D aI aZ yX0_seeInks wsX0_seeInks rmX0_seeInks [.ref q_t] (wX0 aI q_t q_t_bytes q_t_numbersOfLines q_t_crossings q_t_nextInks q_t_gaps t_bytes t_numbersOfLines t_plainCount t_rules t_firstRule t_lastRule t_headed t_footed t_width t_crossings t_nextInks t_gaps) (fun r w => r = none ∧ w = wX0 aI q_t q_t_bytes q_t_numbersOfLines q_t_crossings q_t_nextInks q_t_gaps t_bytes t_numbersOfLines t_plainCount t_rules t_firstRule t_lastRule t_headed t_footed R.1 R.2.1 R.2.2 t_gaps) 0 0 := by
  refine z_met (cc := cX0_seeInks) (maxL := 5) (ret := none) (by decide +kernel) rfl (Nat.le_of_ble_eq_true rfl) (fun X hX F E => ?_)
  exact b_X0_seeInks_0 F E q_t q_t_bytes q_t_numbersOfLines q_t_crossings q_t_nextInks q_t_gaps t_bytes t_numbersOfLines t_plainCount t_rules t_firstRule t_lastRule t_headed t_footed t_width t_crossings t_nextInks t_gaps ⟨rfl, rfl⟩ hf
theorem inw_X0_gapsIn_0 : ∀ w ∈ u_ws RX0 TX0 12, w ∈ wsX0_gapsIn := by decide +kernel
theorem fl_X0_gapsIn_24 : zfl wsX0_gapsIn RX0 24 0 11 RX0 TX0 12 := ⟨inw_X0_gapsIn_0, rfl, by decide, by decide +kernel⟩
theorem sw1_X0_gapsIn_X5_pick : Cond.static yX5_pick ∈ wsX0_gapsIn := by decide +kernel
theorem sw2_X0_gapsIn_X5_pick : Cond.initialized yX5_pick.cls ∈ wsX0_gapsIn := by decide +kernel
abbrev rmX0_gapsIn : Room := { frames := 1, cells := 0, slots := 0, locals := 21 }
theorem mX0_gapsIn : zY yX0_gapsIn cX0_gapsIn 3 (some .int) wsX0_gapsIn 2 := ⟨⟨_, rfl⟩, by decide +kernel, by decide +kernel, by decide +kernel⟩
set_option maxRecDepth 20000 in
set_option maxHeartbeats 2000000 in
theorem b_X0_gapsIn_0 {X : zX} {D : va_G} {aI aZ : ClassId} {w0 : va_W} {Qp : Option Value → va_W → Prop} (F : zF X D aI aZ cX0_gapsIn 3 RX0 wsX0_gapsIn rmX0_gapsIn) (E : zT X D w0 Qp 0 0 (some .int)) (q_t q_t_bytes q_t_numbersOfLines q_t_crossings q_t_nextInks q_t_gaps : Nat) (t_bytes : (Nat → Int)) (t_numbersOfLines : (Nat → Int)) (t_plainCount : Int) (t_rules : Int) (t_firstRule : Int) (t_lastRule : Int) (t_headed : Int) (t_footed : Int) (t_width : Int) (t_crossings : (Nat → Int)) (t_nextInks : (Nat → Int)) (t_gaps : (Nat → Int)) (v1 : Int) (v2 : Int) {R : Int} (hQ : Qp (some (.int (zI R))) (wX0 aI q_t q_t_bytes q_t_numbersOfLines q_t_crossings q_t_nextInks q_t_gaps t_bytes t_numbersOfLines t_plainCount t_rules t_firstRule t_lastRule t_headed t_footed t_width t_crossings t_nextInks t_gaps)) (hf : f_X0_gapsIn t_gaps v1 v2 = some R) : zG X D 0 0 (wX0 aI q_t q_t_bytes q_t_numbersOfLines q_t_crossings q_t_nextInks q_t_gaps t_bytes t_numbersOfLines t_plainCount t_rules t_firstRule t_lastRule t_headed t_footed t_width t_crossings t_nextInks t_gaps) 0 [(0, .ref q_t), (1, .int (zI v1)), (2, .int (zI v2))] [] := by
  unfold f_X0_gapsIn at hf
  refine z_aload_n 0 F (dX0_gapsIn_0 0 rfl) rfl ?_
  refine z_get (v := .ref q_t_gaps) 0 F (dX0_gapsIn_0 1 rfl) fl_X0_gapsIn_24 rfl rfl ?_
  refine z_iload_n 1 F (dX0_gapsIn_0 2 rfl) rfl ?_
  refine z_bipush F (dX0_gapsIn_0 3 rfl) rfl ?_
  refine z_imul F (dX0_gapsIn_0 4 rfl) ?_
  refine z_iload_n 2 F (dX0_gapsIn_0 5 rfl) rfl ?_
  refine z_iadd F (dX0_gapsIn_0 6 rfl) ?_
  obtain ⟨o_1, h_2, hf⟩ := zb_some hf
  refine z_callN (As := [.ref q_t_gaps, .int (zI ((v1 * 61) + v2))]) (rest := []) (wr := [(q_t, .inr (0, [.ref q_t_bytes, .ref q_t_numbersOfLines, .int (zI t_plainCount), .int (zI t_rules), .int (zI t_firstRule), .int (zI t_lastRule), .int (zI t_headed), .int (zI t_footed), .int (zI t_width), .ref q_t_crossings, .ref q_t_nextInks, .ref q_t_gaps]))] ++ ([(q_t_bytes, .inl (aI, 1440, .inl (fun j => zI (t_bytes j))))] ++ ([(q_t_numbersOfLines, .inl (aI, 24, .inl (fun j => zI (t_numbersOfLines j))))] ++ ([(q_t_crossings, .inl (aI, 61, .inl (fun j => zI (t_crossings j))))] ++ [(q_t_nextInks, .inl (aI, 61, .inl (fun j => zI (t_nextInks j))))])))) F (dX0_gapsIn_0 7 rfl) (k_X5_pick (zL X) D aI aZ q_t_gaps 3721 (by decide) t_gaps ((v1 * 61) + v2) h_2) gX0_gapsIn_X5_pick_n74 mX5_pick nst_X0_X5_pick sw1_X0_gapsIn_X5_pick sw2_X0_gapsIn_X5_pick [5] [0, 1, 2, 3, 4] rfl rfl (by decide) rfl rfl (Nat.le_of_ble_eq_true rfl) ⟨Nat.le_of_ble_eq_true rfl, Nat.le_of_ble_eq_true rfl⟩ ⟨rfl, rfl⟩ ⟨Nat.le_of_ble_eq_true rfl, Nat.le_of_ble_eq_true rfl⟩ (z_plain (ws' := wX0 aI q_t q_t_bytes q_t_numbersOfLines q_t_crossings q_t_nextInks q_t_gaps t_bytes t_numbersOfLines t_plainCount t_rules t_firstRule t_lastRule t_headed t_footed t_width t_crossings t_nextInks t_gaps) (st' := [.int (zI o_1)]) [0, 1, 2, 3, 4, 5] rfl (by decide) rfl ?_)
  cases hf
  exact z_iret [0, 1, 2, 3, 4, 5] F E (dX0_gapsIn_0 8 rfl) rfl (by decide) hQ
set_option maxRecDepth 20000 in
set_option maxHeartbeats 2000000 in
theorem k_X0_gapsIn (l : Launch) (D : va_G) (aI aZ : ClassId) (q_t q_t_bytes q_t_numbersOfLines q_t_crossings q_t_nextInks q_t_gaps : Nat) (t_bytes : (Nat → Int)) (t_numbersOfLines : (Nat → Int)) (t_plainCount : Int) (t_rules : Int) (t_firstRule : Int) (t_lastRule : Int) (t_headed : Int) (t_footed : Int) (t_width : Int) (t_crossings : (Nat → Int)) (t_nextInks : (Nat → Int)) (t_gaps : (Nat → Int)) (v1 : Int) (v2 : Int) {R : Int} (hf : f_X0_gapsIn t_gaps v1 v2 = some R) : zC l D aI aZ yX0_gapsIn wsX0_gapsIn rmX0_gapsIn [.ref q_t, .int (zI v1), .int (zI v2)] (wX0 aI q_t q_t_bytes q_t_numbersOfLines q_t_crossings q_t_nextInks q_t_gaps t_bytes t_numbersOfLines t_plainCount t_rules t_firstRule t_lastRule t_headed t_footed t_width t_crossings t_nextInks t_gaps) (fun r w => r = (some (.int (zI R))) ∧ w = wX0 aI q_t q_t_bytes q_t_numbersOfLines q_t_crossings q_t_nextInks q_t_gaps t_bytes t_numbersOfLines t_plainCount t_rules t_firstRule t_lastRule t_headed t_footed t_width t_crossings t_nextInks t_gaps) 0 0 := by
  refine z_met (cc := cX0_gapsIn) (maxL := 3) (ret := (some .int)) (by decide +kernel) rfl (Nat.le_of_ble_eq_true rfl) (fun X hX F E => ?_)
  exact b_X0_gapsIn_0 F E q_t q_t_bytes q_t_numbersOfLines q_t_crossings q_t_nextInks q_t_gaps t_bytes t_numbersOfLines t_plainCount t_rules t_firstRule t_lastRule t_headed t_footed t_width t_crossings t_nextInks t_gaps v1 v2 ⟨rfl, rfl⟩ hf
theorem inw_X0_tellGaps_0 : ∀ w ∈ u_ws RX0 TX0 12, w ∈ wsX0_tellGaps := by decide +kernel
theorem fl_X0_tellGaps_78 : zfl wsX0_tellGaps RX0 78 0 8 RX0 TX0 12 := ⟨inw_X0_tellGaps_0, rfl, by decide, by decide +kernel⟩
theorem fl_X0_tellGaps_24 : zfl wsX0_tellGaps RX0 24 0 11 RX0 TX0 12 := ⟨inw_X0_tellGaps_0, rfl, by decide, by decide +kernel⟩
theorem sw1_X0_tellGaps_X5_put : Cond.static yX5_put ∈ wsX0_tellGaps := by decide +kernel
theorem sw2_X0_tellGaps_X5_put : Cond.initialized yX5_put.cls ∈ wsX0_tellGaps := by decide +kernel
abbrev rmX0_tellGaps : Room := { frames := 2, cells := 0, slots := 0, locals := 43 }
theorem mX0_tellGaps : zY yX0_tellGaps cX0_tellGaps 4 none wsX0_tellGaps 1 := ⟨⟨_, rfl⟩, by decide +kernel, by decide +kernel, by decide +kernel⟩
set_option maxRecDepth 20000 in
set_option maxHeartbeats 2000000 in
theorem b_X0_tellGaps_j57 {X : zX} {D : va_G} {aI aZ : ClassId} {w0 : va_W} {Qp : Option Value → va_W → Prop} (F : zF X D aI aZ cX0_tellGaps 4 RX0 wsX0_tellGaps rmX0_tellGaps) (E : zT X D w0 Qp 0 0 none) (q_t q_t_bytes q_t_numbersOfLines q_t_crossings q_t_nextInks q_t_gaps : Nat) (v1 : Int) (v3 : Int) (t_bytes : (Nat → Int)) (t_numbersOfLines : (Nat → Int)) (t_plainCount : Int) (t_rules : Int) (t_firstRule : Int) (t_lastRule : Int) (t_headed : Int) (t_footed : Int) (t_width : Int) (t_crossings : (Nat → Int)) (t_nextInks : (Nat → Int)) (t_gaps : (Nat → Int)) {R : (Nat → Int)} (hQ : Qp none (wX0 aI q_t q_t_bytes q_t_numbersOfLines q_t_crossings q_t_nextInks q_t_gaps t_bytes t_numbersOfLines t_plainCount t_rules t_firstRule t_lastRule t_headed t_footed t_width t_crossings t_nextInks R)) (rec : Int → Int → (Nat → Int) → Option ((Nat → Int))) (hrec : ∀ (v2 : Int) (v3 : Int) (t_gaps : (Nat → Int)), rec v2 v3 t_gaps = some R → zG X D 0 0 (wX0 aI q_t q_t_bytes q_t_numbersOfLines q_t_crossings q_t_nextInks q_t_gaps t_bytes t_numbersOfLines t_plainCount t_rules t_firstRule t_lastRule t_headed t_footed t_width t_crossings t_nextInks t_gaps) 4 [(0, .ref q_t), (1, .int (zI v1)), (2, .int (zI v2)), (3, .int (zI v3))] []) (hf : f_X0_tellGaps_j57 rec v3 t_gaps = some R) : zG X D 0 0 (wX0 aI q_t q_t_bytes q_t_numbersOfLines q_t_crossings q_t_nextInks q_t_gaps t_bytes t_numbersOfLines t_plainCount t_rules t_firstRule t_lastRule t_headed t_footed t_width t_crossings t_nextInks t_gaps) 57 [(0, .ref q_t), (1, .int (zI v1)), (3, .int (zI v3))] [] := by
  unfold f_X0_tellGaps_j57 at hf
  refine z_iload_n 2 F (dX0_tellGaps_0 38 rfl) rfl ?_
  refine z_istore_n (lv' := [(2, .int (zI v3)), (0, .ref q_t), (1, .int (zI v1)), (3, .int (zI v3))]) F (dX0_tellGaps_0 39 rfl) (by decide) rfl ?_
  refine z_iinc (lv' := [(3, .int (zI (v3 + 1))), (2, .int (zI v3)), (0, .ref q_t), (1, .int (zI v1))]) 3 F (dX0_tellGaps_1 0 rfl) rfl (by decide) rfl ?_
  refine z_goto (tgt := 4) F (dX0_tellGaps_1 1 rfl) rfl ?_
  refine z_lv [2, 3, 1, 0] rfl ?_
  exact hrec v3 (v3 + 1) t_gaps hf
set_option maxRecDepth 20000 in
set_option maxHeartbeats 2000000 in
theorem b_X0_tellGaps_l4 {X : zX} {D : va_G} {aI aZ : ClassId} {w0 : va_W} {Qp : Option Value → va_W → Prop} (F : zF X D aI aZ cX0_tellGaps 4 RX0 wsX0_tellGaps rmX0_tellGaps) (E : zT X D w0 Qp 0 0 none) (q_t q_t_bytes q_t_numbersOfLines q_t_crossings q_t_nextInks q_t_gaps : Nat) (v1 : Int) (t_bytes : (Nat → Int)) (t_numbersOfLines : (Nat → Int)) (t_plainCount : Int) (t_rules : Int) (t_firstRule : Int) (t_lastRule : Int) (t_headed : Int) (t_footed : Int) (t_width : Int) (t_crossings : (Nat → Int)) (t_nextInks : (Nat → Int)) {R : (Nat → Int)} (hQ : Qp none (wX0 aI q_t q_t_bytes q_t_numbersOfLines q_t_crossings q_t_nextInks q_t_gaps t_bytes t_numbersOfLines t_plainCount t_rules t_firstRule t_lastRule t_headed t_footed t_width t_crossings t_nextInks R)) (K : (Nat → Int) → Option ((Nat → Int))) (hK : ∀ (t_gaps : (Nat → Int)), K t_gaps = some R → zG X D 0 0 (wX0 aI q_t q_t_bytes q_t_numbersOfLines q_t_crossings q_t_nextInks q_t_gaps t_bytes t_numbersOfLines t_plainCount t_rules t_firstRule t_lastRule t_headed t_footed t_width t_crossings t_nextInks t_gaps) 65 [] []) : ∀ (n : Nat) (v2 : Int) (v3 : Int) (t_gaps : (Nat → Int)), f_X0_tellGaps_l4 K v1 t_bytes t_width n v2 v3 t_gaps = some R → zG X D 0 0 (wX0 aI q_t q_t_bytes q_t_numbersOfLines q_t_crossings q_t_nextInks q_t_gaps t_bytes t_numbersOfLines t_plainCount t_rules t_firstRule t_lastRule t_headed t_footed t_width t_crossings t_nextInks t_gaps) 4 [(0, .ref q_t), (1, .int (zI v1)), (2, .int (zI v2)), (3, .int (zI v3))] [] := by
  intro n
  induction n with
  | zero => intro v2 v3 t_gaps hf; rw [f_X0_tellGaps_l4_z] at hf; cases hf
  | succ n ih =>
    intro v2 v3 t_gaps hf
    rw [f_X0_tellGaps_l4_s] at hf
    refine z_iload_n 3 F (dX0_tellGaps_0 4 rfl) rfl ?_
    refine z_aload_n 0 F (dX0_tellGaps_0 5 rfl) rfl ?_
    refine z_get (v := .int (zI t_width)) 0 F (dX0_tellGaps_0 6 rfl) fl_X0_tellGaps_78 rfl rfl ?_
    refine z_icmp_ge (tgt := 65) F (dX0_tellGaps_0 7 rfl) rfl (fun c9 => ?_) (fun c9 => ?_)
    · replace hf := zif_f c9 hf
      refine z_lv [] rfl ?_
      exact hK t_gaps hf
    · replace hf := zif_t c9 hf
      refine z_aload_n 0 F (dX0_tellGaps_0 8 rfl) rfl ?_
      refine z_iload_n 1 F (dX0_tellGaps_0 9 rfl) rfl ?_
      refine z_iload_n 3 F (dX0_tellGaps_0 10 rfl) rfl ?_
      obtain ⟨o_1, h_2, hf⟩ := zb_some hf
      refine z_callV (As := [.int (zI v1), .int (zI v3)]) (rest := []) (wr := []) F (dX0_tellGaps_0 11 rfl) (k_X0_hasInk (zL X) D aI aZ q_t q_t_bytes q_t_numbersOfLines q_t_crossings q_t_nextInks q_t_gaps t_bytes t_numbersOfLines t_plainCount t_rules t_firstRule t_lastRule t_headed t_footed t_width t_crossings t_nextInks t_gaps v1 v3 h_2) gX0_tellGaps_X0_hasInk mX0_hasInk rfl (ci := 0) rfl [0, 1, 2, 3, 4, 5] [] 0 rfl rfl rfl (by decide) rfl rfl (Nat.le_of_ble_eq_true rfl) ⟨Nat.le_of_ble_eq_true rfl, Nat.le_of_ble_eq_true rfl⟩ ⟨rfl, rfl⟩ ⟨Nat.le_of_ble_eq_true rfl, Nat.le_of_ble_eq_true rfl⟩ (z_plain (ws' := wX0 aI q_t q_t_bytes q_t_numbersOfLines q_t_crossings q_t_nextInks q_t_gaps t_bytes t_numbersOfLines t_plainCount t_rules t_firstRule t_lastRule t_headed t_footed t_width t_crossings t_nextInks t_gaps) (st' := [.int (zI o_1)]) [0, 1, 2, 3, 4, 5] rfl (by decide) rfl ?_)
      refine z_if_eq (tgt := 59) F (dX0_tellGaps_0 12 rfl) rfl (fun c18 => ?_) (fun c18 => ?_)
      · replace hf := zif_t c18 hf
        refine z_iinc (lv' := [(3, .int (zI (v3 + 1))), (0, .ref q_t), (1, .int (zI v1)), (2, .int (zI v2))]) 3 F (dX0_tellGaps_1 0 rfl) rfl (by decide) rfl ?_
        refine z_goto (tgt := 4) F (dX0_tellGaps_1 1 rfl) rfl ?_
        refine z_lv [1, 2, 3, 0] rfl ?_
        exact ih v2 (v3 + 1) t_gaps hf
      · replace hf := zif_f c18 hf
        refine z_iload_n 2 F (dX0_tellGaps_0 13 rfl) rfl ?_
        refine z_if_lt (tgt := 57) F (dX0_tellGaps_0 14 rfl) rfl (fun c22 => ?_) (fun c22 => ?_)
        · replace hf := zif_t c22 hf
          refine z_lv [0, 1, 3] rfl ?_
          exact b_X0_tellGaps_j57 F E q_t q_t_bytes q_t_numbersOfLines q_t_crossings q_t_nextInks q_t_gaps v1 v3 t_bytes t_numbersOfLines t_plainCount t_rules t_firstRule t_lastRule t_headed t_footed t_width t_crossings t_nextInks t_gaps hQ _ ih hf
        · replace hf := zif_f c22 hf
          refine z_iload_n 3 F (dX0_tellGaps_0 15 rfl) rfl ?_
          refine z_iload_n 2 F (dX0_tellGaps_0 16 rfl) rfl ?_
          refine z_isub F (dX0_tellGaps_0 17 rfl) ?_
          refine z_iconst F (dX0_tellGaps_0 18 rfl) ?_
          refine z_icmp_le (tgt := 57) F (dX0_tellGaps_0 19 rfl) rfl (fun c29 => ?_) (fun c29 => ?_)
          · replace hf := zif_f c29 hf
            refine z_lv [0, 1, 3] rfl ?_
            exact b_X0_tellGaps_j57 F E q_t q_t_bytes q_t_numbersOfLines q_t_crossings q_t_nextInks q_t_gaps v1 v3 t_bytes t_numbersOfLines t_plainCount t_rules t_firstRule t_lastRule t_headed t_footed t_width t_crossings t_nextInks t_gaps hQ _ ih hf
          · replace hf := zif_t c29 hf
            refine z_aload_n 0 F (dX0_tellGaps_0 20 rfl) rfl ?_
            refine z_get (v := .ref q_t_gaps) 0 F (dX0_tellGaps_0 21 rfl) fl_X0_tellGaps_24 rfl rfl ?_
            refine z_iload_n 2 F (dX0_tellGaps_0 22 rfl) rfl ?_
            refine z_bipush F (dX0_tellGaps_0 23 rfl) rfl ?_
            refine z_imul F (dX0_tellGaps_0 24 rfl) ?_
            refine z_iload_n 3 F (dX0_tellGaps_0 25 rfl) rfl ?_
            refine z_iadd F (dX0_tellGaps_0 26 rfl) ?_
            refine z_iconst F (dX0_tellGaps_0 27 rfl) ?_
            refine z_iadd F (dX0_tellGaps_0 28 rfl) ?_
            refine z_aload_n 0 F (dX0_tellGaps_0 29 rfl) rfl ?_
            refine z_iload_n 2 F (dX0_tellGaps_0 30 rfl) rfl ?_
            refine z_iload_n 3 F (dX0_tellGaps_0 31 rfl) rfl ?_
            refine z_iconst F (dX0_tellGaps_0 32 rfl) ?_
            refine z_iadd F (dX0_tellGaps_0 33 rfl) ?_
            obtain ⟨o_3, h_4, hf⟩ := zb_some hf
            refine z_callV (As := [.int (zI v2), .int (zI (v3 + 1))]) (rest := [.int (zI (((v2 * 61) + v3) + 1)), .ref q_t_gaps]) (wr := []) F (dX0_tellGaps_0 34 rfl) (k_X0_gapsIn (zL X) D aI aZ q_t q_t_bytes q_t_numbersOfLines q_t_crossings q_t_nextInks q_t_gaps t_bytes t_numbersOfLines t_plainCount t_rules t_firstRule t_lastRule t_headed t_footed t_width t_crossings t_nextInks t_gaps v2 (v3 + 1) h_4) gX0_tellGaps_X0_gapsIn mX0_gapsIn rfl (ci := 0) rfl [0, 1, 2, 3, 4, 5] [] 0 rfl rfl rfl (by decide) rfl rfl (Nat.le_of_ble_eq_true rfl) ⟨Nat.le_of_ble_eq_true rfl, Nat.le_of_ble_eq_true rfl⟩ ⟨rfl, rfl⟩ ⟨Nat.le_of_ble_eq_true rfl, Nat.le_of_ble_eq_true rfl⟩ (z_plain (ws' := wX0 aI q_t q_t_bytes q_t_numbersOfLines q_t_crossings q_t_nextInks q_t_gaps t_bytes t_numbersOfLines t_plainCount t_rules t_firstRule t_lastRule t_headed t_footed t_width t_crossings t_nextInks t_gaps) (st' := [.int (zI o_3), .int (zI (((v2 * 61) + v3) + 1)), .ref q_t_gaps]) [0, 1, 2, 3, 4, 5] rfl (by decide) rfl ?_)
            refine z_iconst F (dX0_tellGaps_0 35 rfl) ?_
            refine z_iadd F (dX0_tellGaps_0 36 rfl) ?_
            obtain ⟨o_5, h_6, hf⟩ := zb_some hf
            refine z_callN (As := [.ref q_t_gaps, .int (zI (((v2 * 61) + v3) + 1)), .int (zI (o_3 + 1))]) (rest := []) (wr := [(q_t, .inr (0, [.ref q_t_bytes, .ref q_t_numbersOfLines, .int (zI t_plainCount), .int (zI t_rules), .int (zI t_firstRule), .int (zI t_lastRule), .int (zI t_headed), .int (zI t_footed), .int (zI t_width), .ref q_t_crossings, .ref q_t_nextInks, .ref q_t_gaps]))] ++ ([(q_t_bytes, .inl (aI, 1440, .inl (fun j => zI (t_bytes j))))] ++ ([(q_t_numbersOfLines, .inl (aI, 24, .inl (fun j => zI (t_numbersOfLines j))))] ++ ([(q_t_crossings, .inl (aI, 61, .inl (fun j => zI (t_crossings j))))] ++ [(q_t_nextInks, .inl (aI, 61, .inl (fun j => zI (t_nextInks j))))])))) F (dX0_tellGaps_0 37 rfl) (k_X5_put (zL X) D aI aZ q_t_gaps 3721 (by decide) t_gaps (((v2 * 61) + v3) + 1) (o_3 + 1) h_6) gX0_tellGaps_X5_put_n59 mX5_put nst_X0_X5_put sw1_X0_tellGaps_X5_put sw2_X0_tellGaps_X5_put [5] [0, 1, 2, 3, 4] rfl rfl (by decide) rfl rfl (Nat.le_of_ble_eq_true rfl) ⟨Nat.le_of_ble_eq_true rfl, Nat.le_of_ble_eq_true rfl⟩ ⟨rfl, rfl⟩ ⟨Nat.le_of_ble_eq_true rfl, Nat.le_of_ble_eq_true rfl⟩ (z_plain (ws' := wX0 aI q_t q_t_bytes q_t_numbersOfLines q_t_crossings q_t_nextInks q_t_gaps t_bytes t_numbersOfLines t_plainCount t_rules t_firstRule t_lastRule t_headed t_footed t_width t_crossings t_nextInks o_5) (st' := []) [0, 1, 2, 3, 4, 5] rfl (by decide) rfl ?_)
            refine z_lv [0, 1, 3] rfl ?_
            exact b_X0_tellGaps_j57 F E q_t q_t_bytes q_t_numbersOfLines q_t_crossings q_t_nextInks q_t_gaps v1 v3 t_bytes t_numbersOfLines t_plainCount t_rules t_firstRule t_lastRule t_headed t_footed t_width t_crossings t_nextInks o_5 hQ _ ih hf
set_option maxRecDepth 20000 in
set_option maxHeartbeats 2000000 in
theorem b_X0_tellGaps_0 {X : zX} {D : va_G} {aI aZ : ClassId} {w0 : va_W} {Qp : Option Value → va_W → Prop} (F : zF X D aI aZ cX0_tellGaps 4 RX0 wsX0_tellGaps rmX0_tellGaps) (E : zT X D w0 Qp 0 0 none) (q_t q_t_bytes q_t_numbersOfLines q_t_crossings q_t_nextInks q_t_gaps : Nat) (t_bytes : (Nat → Int)) (t_numbersOfLines : (Nat → Int)) (t_plainCount : Int) (t_rules : Int) (t_firstRule : Int) (t_lastRule : Int) (t_headed : Int) (t_footed : Int) (t_width : Int) (t_crossings : (Nat → Int)) (t_nextInks : (Nat → Int)) (t_gaps : (Nat → Int)) (v1 : Int) {R : (Nat → Int)} (hQ : Qp none (wX0 aI q_t q_t_bytes q_t_numbersOfLines q_t_crossings q_t_nextInks q_t_gaps t_bytes t_numbersOfLines t_plainCount t_rules t_firstRule t_lastRule t_headed t_footed t_width t_crossings t_nextInks R)) (hf : f_X0_tellGaps t_bytes t_width t_gaps v1 = some R) : zG X D 0 0 (wX0 aI q_t q_t_bytes q_t_numbersOfLines q_t_crossings q_t_nextInks q_t_gaps t_bytes t_numbersOfLines t_plainCount t_rules t_firstRule t_lastRule t_headed t_footed t_width t_crossings t_nextInks t_gaps) 0 [(0, .ref q_t), (1, .int (zI v1))] [] := by
  unfold f_X0_tellGaps at hf
  refine z_iconst F (dX0_tellGaps_0 0 rfl) ?_
  refine z_istore_n (lv' := [(2, .int (zI (-1))), (0, .ref q_t), (1, .int (zI v1))]) F (dX0_tellGaps_0 1 rfl) (by decide) rfl ?_
  refine z_iconst F (dX0_tellGaps_0 2 rfl) ?_
  refine z_istore_n (lv' := [(3, .int (zI 0)), (2, .int (zI (-1))), (0, .ref q_t), (1, .int (zI v1))]) F (dX0_tellGaps_0 3 rfl) (by decide) rfl ?_
  refine z_lv [2, 3, 1, 0] rfl ?_
  refine b_X0_tellGaps_l4 F E q_t q_t_bytes q_t_numbersOfLines q_t_crossings q_t_nextInks q_t_gaps v1 t_bytes t_numbersOfLines t_plainCount t_rules t_firstRule t_lastRule t_headed t_footed t_width t_crossings t_nextInks hQ _ ?_ zN (-1) 0 t_gaps hf
  intro t_gaps_7 hf
  cases hf
  exact z_vret [0, 1, 2, 3, 4, 5] F E (dX0_tellGaps_1 2 rfl) rfl (by decide) hQ
set_option maxRecDepth 20000 in
set_option maxHeartbeats 2000000 in
theorem k_X0_tellGaps (l : Launch) (D : va_G) (aI aZ : ClassId) (q_t q_t_bytes q_t_numbersOfLines q_t_crossings q_t_nextInks q_t_gaps : Nat) (t_bytes : (Nat → Int)) (t_numbersOfLines : (Nat → Int)) (t_plainCount : Int) (t_rules : Int) (t_firstRule : Int) (t_lastRule : Int) (t_headed : Int) (t_footed : Int) (t_width : Int) (t_crossings : (Nat → Int)) (t_nextInks : (Nat → Int)) (t_gaps : (Nat → Int)) (v1 : Int) {R : (Nat → Int)} (hf : f_X0_tellGaps t_bytes t_width t_gaps v1 = some R) : zC l D aI aZ yX0_tellGaps wsX0_tellGaps rmX0_tellGaps [.ref q_t, .int (zI v1)] (wX0 aI q_t q_t_bytes q_t_numbersOfLines q_t_crossings q_t_nextInks q_t_gaps t_bytes t_numbersOfLines t_plainCount t_rules t_firstRule t_lastRule t_headed t_footed t_width t_crossings t_nextInks t_gaps) (fun r w => r = none ∧ w = wX0 aI q_t q_t_bytes q_t_numbersOfLines q_t_crossings q_t_nextInks q_t_gaps t_bytes t_numbersOfLines t_plainCount t_rules t_firstRule t_lastRule t_headed t_footed t_width t_crossings t_nextInks R) 0 0 := by
  refine z_met (cc := cX0_tellGaps) (maxL := 4) (ret := none) (by decide +kernel) rfl (Nat.le_of_ble_eq_true rfl) (fun X hX F E => ?_)
  exact b_X0_tellGaps_0 F E q_t q_t_bytes q_t_numbersOfLines q_t_crossings q_t_nextInks q_t_gaps t_bytes t_numbersOfLines t_plainCount t_rules t_firstRule t_lastRule t_headed t_footed t_width t_crossings t_nextInks t_gaps v1 ⟨rfl, rfl⟩ hf
theorem inw_X0_seeGaps_0 : ∀ w ∈ u_ws RX0 TX0 12, w ∈ wsX0_seeGaps := by decide +kernel
theorem fl_X0_seeGaps_24 : zfl wsX0_seeGaps RX0 24 0 11 RX0 TX0 12 := ⟨inw_X0_seeGaps_0, rfl, by decide, by decide +kernel⟩
theorem sw1_X0_seeGaps_X5_put : Cond.static yX5_put ∈ wsX0_seeGaps := by decide +kernel
theorem sw2_X0_seeGaps_X5_put : Cond.initialized yX5_put.cls ∈ wsX0_seeGaps := by decide +kernel
theorem fl_X0_seeGaps_27 : zfl wsX0_seeGaps RX0 27 0 2 RX0 TX0 12 := ⟨inw_X0_seeGaps_0, rfl, by decide, by decide +kernel⟩
theorem fl_X0_seeGaps_78 : zfl wsX0_seeGaps RX0 78 0 8 RX0 TX0 12 := ⟨inw_X0_seeGaps_0, rfl, by decide, by decide +kernel⟩
abbrev rmX0_seeGaps : Room := { frames := 3, cells := 0, slots := 0, locals := 66 }
theorem mX0_seeGaps : zY yX0_seeGaps cX0_seeGaps 4 none wsX0_seeGaps 0 := ⟨⟨_, rfl⟩, by decide +kernel, by decide +kernel, by decide +kernel⟩
set_option maxRecDepth 20000 in
set_option maxHeartbeats 2000000 in
theorem b_X0_seeGaps_l2 {X : zX} {D : va_G} {aI aZ : ClassId} {w0 : va_W} {Qp : Option Value → va_W → Prop} (F : zF X D aI aZ cX0_seeGaps 4 RX0 wsX0_seeGaps rmX0_seeGaps) (E : zT X D w0 Qp 0 0 none) (q_t q_t_bytes q_t_numbersOfLines q_t_crossings q_t_nextInks q_t_gaps : Nat) (t_bytes : (Nat → Int)) (t_numbersOfLines : (Nat → Int)) (t_plainCount : Int) (t_rules : Int) (t_firstRule : Int) (t_lastRule : Int) (t_headed : Int) (t_footed : Int) (t_width : Int) (t_crossings : (Nat → Int)) (t_nextInks : (Nat → Int)) {R : (Nat → Int)} (hQ : Qp none (wX0 aI q_t q_t_bytes q_t_numbersOfLines q_t_crossings q_t_nextInks q_t_gaps t_bytes t_numbersOfLines t_plainCount t_rules t_firstRule t_lastRule t_headed t_footed t_width t_crossings t_nextInks R)) (K : (Nat → Int) → Option ((Nat → Int))) (hK : ∀ (t_gaps : (Nat → Int)), K t_gaps = some R → zG X D 0 0 (wX0 aI q_t q_t_bytes q_t_numbersOfLines q_t_crossings q_t_nextInks q_t_gaps t_bytes t_numbersOfLines t_plainCount t_rules t_firstRule t_lastRule t_headed t_footed t_width t_crossings t_nextInks t_gaps) 26 [(0, .ref q_t)] []) : ∀ (n : Nat) (v1 : Int) (t_gaps : (Nat → Int)), f_X0_seeGaps_l2 K n v1 t_gaps = some R → zG X D 0 0 (wX0 aI q_t q_t_bytes q_t_numbersOfLines q_t_crossings q_t_nextInks q_t_gaps t_bytes t_numbersOfLines t_plainCount t_rules t_firstRule t_lastRule t_headed t_footed t_width t_crossings t_nextInks t_gaps) 2 [(0, .ref q_t), (1, .int (zI v1))] [] := by
  intro n
  induction n with
  | zero => intro v1 t_gaps hf; rw [f_X0_seeGaps_l2_z] at hf; cases hf
  | succ n ih =>
    intro v1 t_gaps hf
    rw [f_X0_seeGaps_l2_s] at hf
    refine z_iload_n 1 F (dX0_seeGaps_0 2 rfl) rfl ?_
    refine z_aload_n 0 F (dX0_seeGaps_0 3 rfl) rfl ?_
    refine z_get (v := .ref q_t_gaps) 0 F (dX0_seeGaps_0 4 rfl) fl_X0_seeGaps_24 rfl rfl ?_
    refine z_alen (nn := 3721) 5 F (dX0_seeGaps_0 5 rfl) rfl rfl ?_
    refine z_icmp_ge (tgt := 26) F (dX0_seeGaps_0 6 rfl) rfl (fun c8 => ?_) (fun c8 => ?_)
    · replace hf := zif_f c8 hf
      refine z_lv [0] rfl ?_
      exact hK t_gaps hf
    · replace hf := zif_t c8 hf
      refine z_aload_n 0 F (dX0_seeGaps_0 7 rfl) rfl ?_
      refine z_get (v := .ref q_t_gaps) 0 F (dX0_seeGaps_0 8 rfl) fl_X0_seeGaps_24 rfl rfl ?_
      refine z_iload_n 1 F (dX0_seeGaps_0 9 rfl) rfl ?_
      refine z_iconst F (dX0_seeGaps_0 10 rfl) ?_
      obtain ⟨o_1, h_2, hf⟩ := zb_some hf
      refine z_callN (As := [.ref q_t_gaps, .int (zI v1), .int (zI 0)]) (rest := []) (wr := [(q_t, .inr (0, [.ref q_t_bytes, .ref q_t_numbersOfLines, .int (zI t_plainCount), .int (zI t_rules), .int (zI t_firstRule), .int (zI t_lastRule), .int (zI t_headed), .int (zI t_footed), .int (zI t_width), .ref q_t_crossings, .ref q_t_nextInks, .ref q_t_gaps]))] ++ ([(q_t_bytes, .inl (aI, 1440, .inl (fun j => zI (t_bytes j))))] ++ ([(q_t_numbersOfLines, .inl (aI, 24, .inl (fun j => zI (t_numbersOfLines j))))] ++ ([(q_t_crossings, .inl (aI, 61, .inl (fun j => zI (t_crossings j))))] ++ [(q_t_nextInks, .inl (aI, 61, .inl (fun j => zI (t_nextInks j))))])))) F (dX0_seeGaps_0 11 rfl) (k_X5_put (zL X) D aI aZ q_t_gaps 3721 (by decide) t_gaps v1 0 h_2) gX0_seeGaps_X5_put_n59 mX5_put nst_X0_X5_put sw1_X0_seeGaps_X5_put sw2_X0_seeGaps_X5_put [5] [0, 1, 2, 3, 4] rfl rfl (by decide) rfl rfl (Nat.le_of_ble_eq_true rfl) ⟨Nat.le_of_ble_eq_true rfl, Nat.le_of_ble_eq_true rfl⟩ ⟨rfl, rfl⟩ ⟨Nat.le_of_ble_eq_true rfl, Nat.le_of_ble_eq_true rfl⟩ (z_plain (ws' := wX0 aI q_t q_t_bytes q_t_numbersOfLines q_t_crossings q_t_nextInks q_t_gaps t_bytes t_numbersOfLines t_plainCount t_rules t_firstRule t_lastRule t_headed t_footed t_width t_crossings t_nextInks o_1) (st' := []) [0, 1, 2, 3, 4, 5] rfl (by decide) rfl ?_)
      refine z_iinc (lv' := [(1, .int (zI (v1 + 1))), (0, .ref q_t)]) 1 F (dX0_seeGaps_0 12 rfl) rfl (by decide) rfl ?_
      refine z_goto (tgt := 2) F (dX0_seeGaps_0 13 rfl) rfl ?_
      refine z_lv [1, 0] rfl ?_
      exact ih (v1 + 1) o_1 hf
set_option maxRecDepth 20000 in
set_option maxHeartbeats 2000000 in
theorem b_X0_seeGaps_l28 {X : zX} {D : va_G} {aI aZ : ClassId} {w0 : va_W} {Qp : Option Value → va_W → Prop} (F : zF X D aI aZ cX0_seeGaps 4 RX0 wsX0_seeGaps rmX0_seeGaps) (E : zT X D w0 Qp 0 0 none) (q_t q_t_bytes q_t_numbersOfLines q_t_crossings q_t_nextInks q_t_gaps : Nat) (t_bytes : (Nat → Int)) (t_numbersOfLines : (Nat → Int)) (t_plainCount : Int) (t_rules : Int) (t_firstRule : Int) (t_lastRule : Int) (t_headed : Int) (t_footed : Int) (t_width : Int) (t_crossings : (Nat → Int)) (t_nextInks : (Nat → Int)) {R : (Nat → Int)} (hQ : Qp none (wX0 aI q_t q_t_bytes q_t_numbersOfLines q_t_crossings q_t_nextInks q_t_gaps t_bytes t_numbersOfLines t_plainCount t_rules t_firstRule t_lastRule t_headed t_footed t_width t_crossings t_nextInks R)) (K : (Nat → Int) → Option ((Nat → Int))) (hK : ∀ (t_gaps : (Nat → Int)), K t_gaps = some R → zG X D 0 0 (wX0 aI q_t q_t_bytes q_t_numbersOfLines q_t_crossings q_t_nextInks q_t_gaps t_bytes t_numbersOfLines t_plainCount t_rules t_firstRule t_lastRule t_headed t_footed t_width t_crossings t_nextInks t_gaps) 47 [(0, .ref q_t)] []) : ∀ (n : Nat) (v1 : Int) (t_gaps : (Nat → Int)), f_X0_seeGaps_l28 K t_bytes t_plainCount t_width n v1 t_gaps = some R → zG X D 0 0 (wX0 aI q_t q_t_bytes q_t_numbersOfLines q_t_crossings q_t_nextInks q_t_gaps t_bytes t_numbersOfLines t_plainCount t_rules t_firstRule t_lastRule t_headed t_footed t_width t_crossings t_nextInks t_gaps) 28 [(0, .ref q_t), (1, .int (zI v1))] [] := by
  intro n
  induction n with
  | zero => intro v1 t_gaps hf; rw [f_X0_seeGaps_l28_z] at hf; cases hf
  | succ n ih =>
    intro v1 t_gaps hf
    rw [f_X0_seeGaps_l28_s] at hf
    refine z_iload_n 1 F (dX0_seeGaps_0 16 rfl) rfl ?_
    refine z_aload_n 0 F (dX0_seeGaps_0 17 rfl) rfl ?_
    refine z_get (v := .int (zI t_plainCount)) 0 F (dX0_seeGaps_0 18 rfl) fl_X0_seeGaps_27 rfl rfl ?_
    refine z_icmp_ge (tgt := 47) F (dX0_seeGaps_0 19 rfl) rfl (fun c33 => ?_) (fun c33 => ?_)
    · replace hf := zif_f c33 hf
      refine z_lv [0] rfl ?_
      exact hK t_gaps hf
    · replace hf := zif_t c33 hf
      refine z_aload_n 0 F (dX0_seeGaps_0 20 rfl) rfl ?_
      refine z_iload_n 1 F (dX0_seeGaps_0 21 rfl) rfl ?_
      obtain ⟨o_4, h_5, hf⟩ := zb_some hf
      refine z_callV (As := [.int (zI v1)]) (rest := []) (wr := []) F (dX0_seeGaps_0 22 rfl) (k_X0_tellGaps (zL X) D aI aZ q_t q_t_bytes q_t_numbersOfLines q_t_crossings q_t_nextInks q_t_gaps t_bytes t_numbersOfLines t_plainCount t_rules t_firstRule t_lastRule t_headed t_footed t_width t_crossings t_nextInks t_gaps v1 h_5) gX0_seeGaps_X0_tellGaps mX0_tellGaps rfl (ci := 0) rfl [0, 1, 2, 3, 4, 5] [] 0 rfl rfl rfl (by decide) rfl rfl (Nat.le_of_ble_eq_true rfl) ⟨Nat.le_of_ble_eq_true rfl, Nat.le_of_ble_eq_true rfl⟩ ⟨rfl, rfl⟩ ⟨Nat.le_of_ble_eq_true rfl, Nat.le_of_ble_eq_true rfl⟩ (z_plain (ws' := wX0 aI q_t q_t_bytes q_t_numbersOfLines q_t_crossings q_t_nextInks q_t_gaps t_bytes t_numbersOfLines t_plainCount t_rules t_firstRule t_lastRule t_headed t_footed t_width t_crossings t_nextInks o_4) (st' := []) [0, 1, 2, 3, 4, 5] rfl (by decide) rfl ?_)
      refine z_iinc (lv' := [(1, .int (zI (v1 + 1))), (0, .ref q_t)]) 1 F (dX0_seeGaps_0 23 rfl) rfl (by decide) rfl ?_
      refine z_goto (tgt := 28) F (dX0_seeGaps_0 24 rfl) rfl ?_
      refine z_lv [1, 0] rfl ?_
      exact ih (v1 + 1) o_4 hf
set_option maxRecDepth 20000 in
set_option maxHeartbeats 2000000 in
theorem b_X0_seeGaps_l62 {X : zX} {D : va_G} {aI aZ : ClassId} {w0 : va_W} {Qp : Option Value → va_W → Prop} (F : zF X D aI aZ cX0_seeGaps 4 RX0 wsX0_seeGaps rmX0_seeGaps) (E : zT X D w0 Qp 0 0 none) (q_t q_t_bytes q_t_numbersOfLines q_t_crossings q_t_nextInks q_t_gaps : Nat) (v1 : Int) (t_bytes : (Nat → Int)) (t_numbersOfLines : (Nat → Int)) (t_plainCount : Int) (t_rules : Int) (t_firstRule : Int) (t_lastRule : Int) (t_headed : Int) (t_footed : Int) (t_width : Int) (t_crossings : (Nat → Int)) (t_nextInks : (Nat → Int)) {R : (Nat → Int)} (hQ : Qp none (wX0 aI q_t q_t_bytes q_t_numbersOfLines q_t_crossings q_t_nextInks q_t_gaps t_bytes t_numbersOfLines t_plainCount t_rules t_firstRule t_lastRule t_headed t_footed t_width t_crossings t_nextInks R)) (K : (Nat → Int) → Option ((Nat → Int))) (hK : ∀ (t_gaps : (Nat → Int)), K t_gaps = some R → zG X D 0 0 (wX0 aI q_t q_t_bytes q_t_numbersOfLines q_t_crossings q_t_nextInks q_t_gaps t_bytes t_numbersOfLines t_plainCount t_rules t_firstRule t_lastRule t_headed t_footed t_width t_crossings t_nextInks t_gaps) 126 [(0, .ref q_t), (1, .int (zI v1))] []) : ∀ (n : Nat) (v2 : Int) (t_gaps : (Nat → Int)), f_X0_seeGaps_l62 K v1 t_width n v2 t_gaps = some R → zG X D 0 0 (wX0 aI q_t q_t_bytes q_t_numbersOfLines q_t_crossings q_t_nextInks q_t_gaps t_bytes t_numbersOfLines t_plainCount t_rules t_firstRule t_lastRule t_headed t_footed t_width t_crossings t_nextInks t_gaps) 62 [(0, .ref q_t), (1, .int (zI v1)), (2, .int (zI v2))] [] := by
  intro n
  induction n with
  | zero => intro v2 t_gaps hf; rw [f_X0_seeGaps_l62_z] at hf; cases hf
  | succ n ih =>
    intro v2 t_gaps hf
    rw [f_X0_seeGaps_l62_s] at hf
    refine z_iload_n 2 F (dX0_seeGaps_0 36 rfl) rfl ?_
    refine z_aload_n 0 F (dX0_seeGaps_0 37 rfl) rfl ?_
    refine z_get (v := .int (zI t_width)) 0 F (dX0_seeGaps_0 38 rfl) fl_X0_seeGaps_78 rfl rfl ?_
    refine z_icmp_gt (tgt := 126) F (dX0_seeGaps_0 39 rfl) rfl (fun c67 => ?_) (fun c67 => ?_)
    · replace hf := zif_t c67 hf
      refine z_lv [0, 1] rfl ?_
      exact hK t_gaps hf
    · replace hf := zif_f c67 hf
      refine z_aload_n 0 F (dX0_seeGaps_1 0 rfl) rfl ?_
      refine z_iload_n 1 F (dX0_seeGaps_1 1 rfl) rfl ?_
      refine z_iload_n 2 F (dX0_seeGaps_1 2 rfl) rfl ?_
      refine z_iconst F (dX0_seeGaps_1 3 rfl) ?_
      refine z_isub F (dX0_seeGaps_1 4 rfl) ?_
      obtain ⟨o_7, h_8, hf⟩ := zb_some hf
      refine z_callV (As := [.int (zI v1), .int (zI (v2 - 1))]) (rest := []) (wr := []) F (dX0_seeGaps_1 5 rfl) (k_X0_gapsIn (zL X) D aI aZ q_t q_t_bytes q_t_numbersOfLines q_t_crossings q_t_nextInks q_t_gaps t_bytes t_numbersOfLines t_plainCount t_rules t_firstRule t_lastRule t_headed t_footed t_width t_crossings t_nextInks t_gaps v1 (v2 - 1) h_8) gX0_seeGaps_X0_gapsIn mX0_gapsIn rfl (ci := 0) rfl [0, 1, 2, 3, 4, 5] [] 0 rfl rfl rfl (by decide) rfl rfl (Nat.le_of_ble_eq_true rfl) ⟨Nat.le_of_ble_eq_true rfl, Nat.le_of_ble_eq_true rfl⟩ ⟨rfl, rfl⟩ ⟨Nat.le_of_ble_eq_true rfl, Nat.le_of_ble_eq_true rfl⟩ (z_plain (ws' := wX0 aI q_t q_t_bytes q_t_numbersOfLines q_t_crossings q_t_nextInks q_t_gaps t_bytes t_numbersOfLines t_plainCount t_rules t_firstRule t_lastRule t_headed t_footed t_width t_crossings t_nextInks t_gaps) (st' := [.int (zI o_7)]) [0, 1, 2, 3, 4, 5] rfl (by decide) rfl ?_)
      refine z_aload_n 0 F (dX0_seeGaps_1 6 rfl) rfl ?_
      refine z_iload_n 1 F (dX0_seeGaps_1 7 rfl) rfl ?_
      refine z_iconst F (dX0_seeGaps_1 8 rfl) ?_
      refine z_iadd F (dX0_seeGaps_1 9 rfl) ?_
      refine z_iload_n 2 F (dX0_seeGaps_1 10 rfl) rfl ?_
      obtain ⟨o_9, h_10, hf⟩ := zb_some hf
      refine z_callV (As := [.int (zI (v1 + 1)), .int (zI v2)]) (rest := [.int (zI o_7)]) (wr := []) F (dX0_seeGaps_1 11 rfl) (k_X0_gapsIn (zL X) D aI aZ q_t q_t_bytes q_t_numbersOfLines q_t_crossings q_t_nextInks q_t_gaps t_bytes t_numbersOfLines t_plainCount t_rules t_firstRule t_lastRule t_headed t_footed t_width t_crossings t_nextInks t_gaps (v1 + 1) v2 h_10) gX0_seeGaps_X0_gapsIn mX0_gapsIn rfl (ci := 0) rfl [0, 1, 2, 3, 4, 5] [] 0 rfl rfl rfl (by decide) rfl rfl (Nat.le_of_ble_eq_true rfl) ⟨Nat.le_of_ble_eq_true rfl, Nat.le_of_ble_eq_true rfl⟩ ⟨rfl, rfl⟩ ⟨Nat.le_of_ble_eq_true rfl, Nat.le_of_ble_eq_true rfl⟩ (z_plain (ws' := wX0 aI q_t q_t_bytes q_t_numbersOfLines q_t_crossings q_t_nextInks q_t_gaps t_bytes t_numbersOfLines t_plainCount t_rules t_firstRule t_lastRule t_headed t_footed t_width t_crossings t_nextInks t_gaps) (st' := [.int (zI o_9), .int (zI o_7)]) [0, 1, 2, 3, 4, 5] rfl (by decide) rfl ?_)
      refine z_iadd F (dX0_seeGaps_1 12 rfl) ?_
      refine z_aload_n 0 F (dX0_seeGaps_1 13 rfl) rfl ?_
      refine z_iload_n 1 F (dX0_seeGaps_1 14 rfl) rfl ?_
      refine z_iconst F (dX0_seeGaps_1 15 rfl) ?_
      refine z_iadd F (dX0_seeGaps_1 16 rfl) ?_
      refine z_iload_n 2 F (dX0_seeGaps_1 17 rfl) rfl ?_
      refine z_iconst F (dX0_seeGaps_1 18 rfl) ?_
      refine z_isub F (dX0_seeGaps_1 19 rfl) ?_
      obtain ⟨o_11, h_12, hf⟩ := zb_some hf
      refine z_callV (As := [.int (zI (v1 + 1)), .int (zI (v2 - 1))]) (rest := [.int (zI (o_7 + o_9))]) (wr := []) F (dX0_seeGaps_1 20 rfl) (k_X0_gapsIn (zL X) D aI aZ q_t q_t_bytes q_t_numbersOfLines q_t_crossings q_t_nextInks q_t_gaps t_bytes t_numbersOfLines t_plainCount t_rules t_firstRule t_lastRule t_headed t_footed t_width t_crossings t_nextInks t_gaps (v1 + 1) (v2 - 1) h_12) gX0_seeGaps_X0_gapsIn mX0_gapsIn rfl (ci := 0) rfl [0, 1, 2, 3, 4, 5] [] 0 rfl rfl rfl (by decide) rfl rfl (Nat.le_of_ble_eq_true rfl) ⟨Nat.le_of_ble_eq_true rfl, Nat.le_of_ble_eq_true rfl⟩ ⟨rfl, rfl⟩ ⟨Nat.le_of_ble_eq_true rfl, Nat.le_of_ble_eq_true rfl⟩ (z_plain (ws' := wX0 aI q_t q_t_bytes q_t_numbersOfLines q_t_crossings q_t_nextInks q_t_gaps t_bytes t_numbersOfLines t_plainCount t_rules t_firstRule t_lastRule t_headed t_footed t_width t_crossings t_nextInks t_gaps) (st' := [.int (zI o_11), .int (zI (o_7 + o_9))]) [0, 1, 2, 3, 4, 5] rfl (by decide) rfl ?_)
      refine z_isub F (dX0_seeGaps_1 21 rfl) ?_
      refine z_istore_n (lv' := [(3, .int (zI ((o_7 + o_9) - o_11))), (0, .ref q_t), (1, .int (zI v1)), (2, .int (zI v2))]) F (dX0_seeGaps_1 22 rfl) (by decide) rfl ?_
      refine z_aload_n 1 F (dX0_seeGaps_1 23 rfl) rfl ?_
      refine z_get (v := .ref q_t_gaps) 0 F (dX0_seeGaps_1 24 rfl) fl_X0_seeGaps_24 rfl rfl ?_
      refine z_iload_n 2 F (dX0_seeGaps_1 25 rfl) rfl ?_
      refine z_bipush F (dX0_seeGaps_1 26 rfl) rfl ?_
      refine z_imul F (dX0_seeGaps_1 27 rfl) ?_
      refine z_iload_n 3 F (dX0_seeGaps_1 28 rfl) rfl ?_
      refine z_iadd F (dX0_seeGaps_1 29 rfl) ?_
      refine z_aload_n 1 F (dX0_seeGaps_1 30 rfl) rfl ?_
      refine z_iload_n 2 F (dX0_seeGaps_1 31 rfl) rfl ?_
      refine z_iload_n 3 F (dX0_seeGaps_1 32 rfl) rfl ?_
      obtain ⟨o_13, h_14, hf⟩ := zb_some hf
      refine z_callV (As := [.int (zI v1), .int (zI v2)]) (rest := [.int (zI ((v1 * 61) + v2)), .ref q_t_gaps]) (wr := []) F (dX0_seeGaps_1 33 rfl) (k_X0_gapsIn (zL X) D aI aZ q_t q_t_bytes q_t_numbersOfLines q_t_crossings q_t_nextInks q_t_gaps t_bytes t_numbersOfLines t_plainCount t_rules t_firstRule t_lastRule t_headed t_footed t_width t_crossings t_nextInks t_gaps v1 v2 h_14) gX0_seeGaps_X0_gapsIn mX0_gapsIn rfl (ci := 0) rfl [0, 1, 2, 3, 4, 5] [] 0 rfl rfl rfl (by decide) rfl rfl (Nat.le_of_ble_eq_true rfl) ⟨Nat.le_of_ble_eq_true rfl, Nat.le_of_ble_eq_true rfl⟩ ⟨rfl, rfl⟩ ⟨Nat.le_of_ble_eq_true rfl, Nat.le_of_ble_eq_true rfl⟩ (z_plain (ws' := wX0 aI q_t q_t_bytes q_t_numbersOfLines q_t_crossings q_t_nextInks q_t_gaps t_bytes t_numbersOfLines t_plainCount t_rules t_firstRule t_lastRule t_headed t_footed t_width t_crossings t_nextInks t_gaps) (st' := [.int (zI o_13), .int (zI ((v1 * 61) + v2)), .ref q_t_gaps]) [0, 1, 2, 3, 4, 5] rfl (by decide) rfl ?_)
      refine z_iload_n 0 F (dX0_seeGaps_1 34 rfl) rfl ?_
      refine z_iadd F (dX0_seeGaps_1 35 rfl) ?_
      obtain ⟨o_15, h_16, hf⟩ := zb_some hf
      refine z_callN (As := [.ref q_t_gaps, .int (zI ((v1 * 61) + v2)), .int (zI (o_13 + ((o_7 + o_9) - o_11)))]) (rest := []) (wr := [(q_t, .inr (0, [.ref q_t_bytes, .ref q_t_numbersOfLines, .int (zI t_plainCount), .int (zI t_rules), .int (zI t_firstRule), .int (zI t_lastRule), .int (zI t_headed), .int (zI t_footed), .int (zI t_width), .ref q_t_crossings, .ref q_t_nextInks, .ref q_t_gaps]))] ++ ([(q_t_bytes, .inl (aI, 1440, .inl (fun j => zI (t_bytes j))))] ++ ([(q_t_numbersOfLines, .inl (aI, 24, .inl (fun j => zI (t_numbersOfLines j))))] ++ ([(q_t_crossings, .inl (aI, 61, .inl (fun j => zI (t_crossings j))))] ++ [(q_t_nextInks, .inl (aI, 61, .inl (fun j => zI (t_nextInks j))))])))) F (dX0_seeGaps_1 36 rfl) (k_X5_put (zL X) D aI aZ q_t_gaps 3721 (by decide) t_gaps ((v1 * 61) + v2) (o_13 + ((o_7 + o_9) - o_11)) h_16) gX0_seeGaps_X5_put_n59 mX5_put nst_X0_X5_put sw1_X0_seeGaps_X5_put sw2_X0_seeGaps_X5_put [5] [0, 1, 2, 3, 4] rfl rfl (by decide) rfl rfl (Nat.le_of_ble_eq_true rfl) ⟨Nat.le_of_ble_eq_true rfl, Nat.le_of_ble_eq_true rfl⟩ ⟨rfl, rfl⟩ ⟨Nat.le_of_ble_eq_true rfl, Nat.le_of_ble_eq_true rfl⟩ (z_plain (ws' := wX0 aI q_t q_t_bytes q_t_numbersOfLines q_t_crossings q_t_nextInks q_t_gaps t_bytes t_numbersOfLines t_plainCount t_rules t_firstRule t_lastRule t_headed t_footed t_width t_crossings t_nextInks o_15) (st' := []) [0, 1, 2, 3, 4, 5] rfl (by decide) rfl ?_)
      refine z_iinc (lv' := [(2, .int (zI (v2 + 1))), (3, .int (zI ((o_7 + o_9) - o_11))), (0, .ref q_t), (1, .int (zI v1))]) 3 F (dX0_seeGaps_1 37 rfl) rfl (by decide) rfl ?_
      refine z_goto (tgt := 62) F (dX0_seeGaps_1 38 rfl) rfl ?_
      refine z_lv [2, 3, 0] rfl ?_
      exact ih (v2 + 1) o_15 hf
set_option maxRecDepth 20000 in
set_option maxHeartbeats 2000000 in
theorem b_X0_seeGaps_l54 {X : zX} {D : va_G} {aI aZ : ClassId} {w0 : va_W} {Qp : Option Value → va_W → Prop} (F : zF X D aI aZ cX0_seeGaps 4 RX0 wsX0_seeGaps rmX0_seeGaps) (E : zT X D w0 Qp 0 0 none) (q_t q_t_bytes q_t_numbersOfLines q_t_crossings q_t_nextInks q_t_gaps : Nat) (t_bytes : (Nat → Int)) (t_numbersOfLines : (Nat → Int)) (t_plainCount : Int) (t_rules : Int) (t_firstRule : Int) (t_lastRule : Int) (t_headed : Int) (t_footed : Int) (t_width : Int) (t_crossings : (Nat → Int)) (t_nextInks : (Nat → Int)) {R : (Nat → Int)} (hQ : Qp none (wX0 aI q_t q_t_bytes q_t_numbersOfLines q_t_crossings q_t_nextInks q_t_gaps t_bytes t_numbersOfLines t_plainCount t_rules t_firstRule t_lastRule t_headed t_footed t_width t_crossings t_nextInks R)) (K : (Nat → Int) → Option ((Nat → Int))) (hK : ∀ (t_gaps : (Nat → Int)), K t_gaps = some R → zG X D 0 0 (wX0 aI q_t q_t_bytes q_t_numbersOfLines q_t_crossings q_t_nextInks q_t_gaps t_bytes t_numbersOfLines t_plainCount t_rules t_firstRule t_lastRule t_headed t_footed t_width t_crossings t_nextInks t_gaps) 132 [] []) : ∀ (n : Nat) (v1 : Int) (t_gaps : (Nat → Int)), f_X0_seeGaps_l54 K t_width n v1 t_gaps = some R → zG X D 0 0 (wX0 aI q_t q_t_bytes q_t_numbersOfLines q_t_crossings q_t_nextInks q_t_gaps t_bytes t_numbersOfLines t_plainCount t_rules t_firstRule t_lastRule t_headed t_footed t_width t_crossings t_nextInks t_gaps) 54 [(0, .ref q_t), (1, .int (zI v1))] [] := by
  intro n
  induction n with
  | zero => intro v1 t_gaps hf; rw [f_X0_seeGaps_l54_z] at hf; cases hf
  | succ n ih =>
    intro v1 t_gaps hf
    rw [f_X0_seeGaps_l54_s] at hf
    refine z_iload_n 1 F (dX0_seeGaps_0 30 rfl) rfl ?_
    refine z_if_lt (tgt := 132) F (dX0_seeGaps_0 31 rfl) rfl (fun c55 => ?_) (fun c55 => ?_)
    · replace hf := zif_t c55 hf
      refine z_lv [] rfl ?_
      exact hK t_gaps hf
    · replace hf := zif_f c55 hf
      refine z_iload_n 1 F (dX0_seeGaps_0 32 rfl) rfl ?_
      refine z_iconst F (dX0_seeGaps_0 33 rfl) ?_
      refine z_iadd F (dX0_seeGaps_0 34 rfl) ?_
      refine z_istore_n (lv' := [(2, .int (zI (v1 + 1))), (0, .ref q_t), (1, .int (zI v1))]) F (dX0_seeGaps_0 35 rfl) (by decide) rfl ?_
      refine z_lv [1, 2, 0] rfl ?_
      refine b_X0_seeGaps_l62 F E q_t q_t_bytes q_t_numbersOfLines q_t_crossings q_t_nextInks q_t_gaps v1 t_bytes t_numbersOfLines t_plainCount t_rules t_firstRule t_lastRule t_headed t_footed t_width t_crossings t_nextInks hQ _ ?_ zN (v1 + 1) t_gaps hf
      intro t_gaps_17 hf
      refine z_iinc (lv' := [(1, .int (zI (v1 + (-1)))), (0, .ref q_t)]) 1 F (dX0_seeGaps_1 39 rfl) rfl (by decide) rfl ?_
      refine z_goto (tgt := 54) F (dX0_seeGaps_2 0 rfl) rfl ?_
      refine z_lv [1, 0] rfl ?_
      exact ih (v1 + (-1)) t_gaps_17 hf
set_option maxRecDepth 20000 in
set_option maxHeartbeats 2000000 in
theorem b_X0_seeGaps_0 {X : zX} {D : va_G} {aI aZ : ClassId} {w0 : va_W} {Qp : Option Value → va_W → Prop} (F : zF X D aI aZ cX0_seeGaps 4 RX0 wsX0_seeGaps rmX0_seeGaps) (E : zT X D w0 Qp 0 0 none) (q_t q_t_bytes q_t_numbersOfLines q_t_crossings q_t_nextInks q_t_gaps : Nat) (t_bytes : (Nat → Int)) (t_numbersOfLines : (Nat → Int)) (t_plainCount : Int) (t_rules : Int) (t_firstRule : Int) (t_lastRule : Int) (t_headed : Int) (t_footed : Int) (t_width : Int) (t_crossings : (Nat → Int)) (t_nextInks : (Nat → Int)) (t_gaps : (Nat → Int)) {R : (Nat → Int)} (hQ : Qp none (wX0 aI q_t q_t_bytes q_t_numbersOfLines q_t_crossings q_t_nextInks q_t_gaps t_bytes t_numbersOfLines t_plainCount t_rules t_firstRule t_lastRule t_headed t_footed t_width t_crossings t_nextInks R)) (hf : f_X0_seeGaps t_bytes t_plainCount t_width t_gaps = some R) : zG X D 0 0 (wX0 aI q_t q_t_bytes q_t_numbersOfLines q_t_crossings q_t_nextInks q_t_gaps t_bytes t_numbersOfLines t_plainCount t_rules t_firstRule t_lastRule t_headed t_footed t_width t_crossings t_nextInks t_gaps) 0 [(0, .ref q_t)] [] := by
  unfold f_X0_seeGaps at hf
  refine z_iconst F (dX0_seeGaps_0 0 rfl) ?_
  refine z_istore_n (lv' := [(1, .int (zI 0)), (0, .ref q_t)]) F (dX0_seeGaps_0 1 rfl) (by decide) rfl ?_
  refine z_lv [1, 0] rfl ?_
  refine b_X0_seeGaps_l2 F E q_t q_t_bytes q_t_numbersOfLines q_t_crossings q_t_nextInks q_t_gaps t_bytes t_numbersOfLines t_plainCount t_rules t_firstRule t_lastRule t_headed t_footed t_width t_crossings t_nextInks hQ _ ?_ zN 0 t_gaps hf
  intro t_gaps_3 hf
  refine z_iconst F (dX0_seeGaps_0 14 rfl) ?_
  refine z_istore_n (lv' := [(1, .int (zI 0)), (0, .ref q_t)]) F (dX0_seeGaps_0 15 rfl) (by decide) rfl ?_
  refine z_lv [1, 0] rfl ?_
  refine b_X0_seeGaps_l28 F E q_t q_t_bytes q_t_numbersOfLines q_t_crossings q_t_nextInks q_t_gaps t_bytes t_numbersOfLines t_plainCount t_rules t_firstRule t_lastRule t_headed t_footed t_width t_crossings t_nextInks hQ _ ?_ zN 0 t_gaps_3 hf
  intro t_gaps_6 hf
  refine z_aload_n 0 F (dX0_seeGaps_0 25 rfl) rfl ?_
  refine z_get (v := .int (zI t_width)) 0 F (dX0_seeGaps_0 26 rfl) fl_X0_seeGaps_78 rfl rfl ?_
  refine z_iconst F (dX0_seeGaps_0 27 rfl) ?_
  refine z_isub F (dX0_seeGaps_0 28 rfl) ?_
  refine z_istore_n (lv' := [(1, .int (zI (t_width - 1))), (0, .ref q_t)]) F (dX0_seeGaps_0 29 rfl) (by decide) rfl ?_
  refine z_lv [1, 0] rfl ?_
  refine b_X0_seeGaps_l54 F E q_t q_t_bytes q_t_numbersOfLines q_t_crossings q_t_nextInks q_t_gaps t_bytes t_numbersOfLines t_plainCount t_rules t_firstRule t_lastRule t_headed t_footed t_width t_crossings t_nextInks hQ _ ?_ zN (t_width - 1) t_gaps_6 hf
  intro t_gaps_18 hf
  cases hf
  exact z_vret [0, 1, 2, 3, 4, 5] F E (dX0_seeGaps_2 1 rfl) rfl (by decide) hQ
set_option maxRecDepth 20000 in
set_option maxHeartbeats 2000000 in
theorem k_X0_seeGaps (l : Launch) (D : va_G) (aI aZ : ClassId) (q_t q_t_bytes q_t_numbersOfLines q_t_crossings q_t_nextInks q_t_gaps : Nat) (t_bytes : (Nat → Int)) (t_numbersOfLines : (Nat → Int)) (t_plainCount : Int) (t_rules : Int) (t_firstRule : Int) (t_lastRule : Int) (t_headed : Int) (t_footed : Int) (t_width : Int) (t_crossings : (Nat → Int)) (t_nextInks : (Nat → Int)) (t_gaps : (Nat → Int)) {R : (Nat → Int)} (hf : f_X0_seeGaps t_bytes t_plainCount t_width t_gaps = some R) : zC l D aI aZ yX0_seeGaps wsX0_seeGaps rmX0_seeGaps [.ref q_t] (wX0 aI q_t q_t_bytes q_t_numbersOfLines q_t_crossings q_t_nextInks q_t_gaps t_bytes t_numbersOfLines t_plainCount t_rules t_firstRule t_lastRule t_headed t_footed t_width t_crossings t_nextInks t_gaps) (fun r w => r = none ∧ w = wX0 aI q_t q_t_bytes q_t_numbersOfLines q_t_crossings q_t_nextInks q_t_gaps t_bytes t_numbersOfLines t_plainCount t_rules t_firstRule t_lastRule t_headed t_footed t_width t_crossings t_nextInks R) 0 0 := by
  refine z_met (cc := cX0_seeGaps) (maxL := 4) (ret := none) (by decide +kernel) rfl (Nat.le_of_ble_eq_true rfl) (fun X hX F E => ?_)
  exact b_X0_seeGaps_0 F E q_t q_t_bytes q_t_numbersOfLines q_t_crossings q_t_nextInks q_t_gaps t_bytes t_numbersOfLines t_plainCount t_rules t_firstRule t_lastRule t_headed t_footed t_width t_crossings t_nextInks t_gaps ⟨rfl, rfl⟩ hf
theorem inw_X0_survey_0 : ∀ w ∈ u_ws RX0 TX0 12, w ∈ wsX0_survey := by decide +kernel
theorem fl_X0_survey_27 : zfl wsX0_survey RX0 27 0 2 RX0 TX0 12 := ⟨inw_X0_survey_0, rfl, by decide, by decide +kernel⟩
theorem fl_X0_survey_31 : zfl wsX0_survey RX0 31 0 3 RX0 TX0 12 := ⟨inw_X0_survey_0, rfl, by decide, by decide +kernel⟩
theorem fl_X0_survey_40 : zfl wsX0_survey RX0 40 0 4 RX0 TX0 12 := ⟨inw_X0_survey_0, rfl, by decide, by decide +kernel⟩
theorem fl_X0_survey_43 : zfl wsX0_survey RX0 43 0 5 RX0 TX0 12 := ⟨inw_X0_survey_0, rfl, by decide, by decide +kernel⟩
abbrev rmX0_survey : Room := { frames := 4, cells := 0, slots := 0, locals := 89 }
theorem mX0_survey : zY yX0_survey cX0_survey 5 none wsX0_survey 3 := ⟨⟨_, rfl⟩, by decide +kernel, by decide +kernel, by decide +kernel⟩
set_option maxRecDepth 20000 in
set_option maxHeartbeats 2000000 in
theorem b_X0_survey_j46 {X : zX} {D : va_G} {aI aZ : ClassId} {w0 : va_W} {Qp : Option Value → va_W → Prop} (F : zF X D aI aZ cX0_survey 5 RX0 wsX0_survey rmX0_survey) (E : zT X D w0 Qp 0 0 none) (q_t q_t_bytes q_t_numbersOfLines q_t_crossings q_t_nextInks q_t_gaps q_p1 q_p1_bytes q_p1_lengths : Nat) (s0 : Int) (v3 : Int) (v4 : Int) (t_bytes : (Nat → Int)) (t_numbersOfLines : (Nat → Int)) (t_plainCount : Int) (t_rules : Int) (t_firstRule : Int) (t_lastRule : Int) (t_headed : Int) (t_footed : Int) (t_width : Int) (t_crossings : (Nat → Int)) (t_nextInks : (Nat → Int)) (t_gaps : (Nat → Int)) (p1_bytes : (Nat → Int)) (p1_lengths : (Nat → Int)) (p1_count : Int) {R : (Nat → Int) × (Nat → Int) × Int × Int × Int × Int × Int × Int × Int × (Nat → Int) × (Nat → Int) × (Nat → Int)} (hQ : Qp none (wX0 aI q_t q_t_bytes q_t_numbersOfLines q_t_crossings q_t_nextInks q_t_gaps R.1 R.2.1 R.2.2.1 R.2.2.2.1 R.2.2.2.2.1 R.2.2.2.2.2.1 R.2.2.2.2.2.2.1 R.2.2.2.2.2.2.2.1 R.2.2.2.2.2.2.2.2.1 R.2.2.2.2.2.2.2.2.2.1 R.2.2.2.2.2.2.2.2.2.2.1 R.2.2.2.2.2.2.2.2.2.2.2 ++ wX2 aI q_p1 q_p1_bytes q_p1_lengths p1_bytes p1_lengths p1_count)) (rec : Int → (Nat → Int) → (Nat → Int) → Int → Int → Int → Int → Option ((Nat → Int) × (Nat → Int) × Int × Int × Int × Int × Int × Int × Int × (Nat → Int) × (Nat → Int) × (Nat → Int))) (hrec : ∀ (v4 : Int) (t_bytes : (Nat → Int)) (t_numbersOfLines : (Nat → Int)) (t_plainCount : Int) (t_rules : Int) (t_firstRule : Int) (t_lastRule : Int), rec v4 t_bytes t_numbersOfLines t_plainCount t_rules t_firstRule t_lastRule = some R → zG X D 0 0 (wX0 aI q_t q_t_bytes q_t_numbersOfLines q_t_crossings q_t_nextInks q_t_gaps t_bytes t_numbersOfLines t_plainCount t_rules t_firstRule t_lastRule t_headed t_footed t_width t_crossings t_nextInks t_gaps ++ wX2 aI q_p1 q_p1_bytes q_p1_lengths p1_bytes p1_lengths p1_count) 13 [(0, .ref q_t), (1, .ref q_p1), (3, .int (zI v3)), (4, .int (zI v4))] []) (hf : f_X0_survey_j46 rec s0 v4 t_bytes t_numbersOfLines t_plainCount t_rules = some R) : zG X D 0 0 (wX0 aI q_t q_t_bytes q_t_numbersOfLines q_t_crossings q_t_nextInks q_t_gaps t_bytes t_numbersOfLines t_plainCount t_rules t_firstRule t_lastRule t_headed t_footed t_width t_crossings t_nextInks t_gaps ++ wX2 aI q_p1 q_p1_bytes q_p1_lengths p1_bytes p1_lengths p1_count) 46 [(0, .ref q_t), (1, .ref q_p1), (3, .int (zI v3)), (4, .int (zI v4))] [.int (zI s0), .ref q_t] := by
  unfold f_X0_survey_j46 at hf
  refine z_put (ws' := wX0 aI q_t q_t_bytes q_t_numbersOfLines q_t_crossings q_t_nextInks q_t_gaps t_bytes t_numbersOfLines t_plainCount t_rules s0 t_lastRule t_headed t_footed t_width t_crossings t_nextInks t_gaps ++ wX2 aI q_p1 q_p1_bytes q_p1_lengths p1_bytes p1_lengths p1_count) 0 F (dX0_survey_0 24 rfl) fl_X0_survey_40 tyX0_ok nmX0 rfl rfl rfl rfl rfl (Nat.le_of_ble_eq_true rfl) rfl ?_
  refine z_aload_n 0 F (dX0_survey_0 25 rfl) rfl ?_
  refine z_iload 3 F (dX0_survey_0 26 rfl) rfl ?_
  refine z_put (ws' := wX0 aI q_t q_t_bytes q_t_numbersOfLines q_t_crossings q_t_nextInks q_t_gaps t_bytes t_numbersOfLines t_plainCount t_rules s0 v4 t_headed t_footed t_width t_crossings t_nextInks t_gaps ++ wX2 aI q_p1 q_p1_bytes q_p1_lengths p1_bytes p1_lengths p1_count) 0 F (dX0_survey_0 27 rfl) fl_X0_survey_43 tyX0_ok nmX0 rfl rfl rfl rfl rfl (Nat.le_of_ble_eq_true rfl) rfl ?_
  refine z_aload_n 0 F (dX0_survey_0 28 rfl) rfl ?_
  refine z_dup F (dX0_survey_0 29 rfl) rfl ?_
  refine z_get (v := .int (zI t_rules)) 0 F (dX0_survey_0 30 rfl) fl_X0_survey_31 rfl rfl ?_
  refine z_iconst F (dX0_survey_0 31 rfl) ?_
  refine z_iadd F (dX0_survey_0 32 rfl) ?_
  refine z_put (ws' := wX0 aI q_t q_t_bytes q_t_numbersOfLines q_t_crossings q_t_nextInks q_t_gaps t_bytes t_numbersOfLines t_plainCount (t_rules + 1) s0 v4 t_headed t_footed t_width t_crossings t_nextInks t_gaps ++ wX2 aI q_p1 q_p1_bytes q_p1_lengths p1_bytes p1_lengths p1_count) 0 F (dX0_survey_0 33 rfl) fl_X0_survey_31 tyX0_ok nmX0 rfl rfl rfl rfl rfl (Nat.le_of_ble_eq_true rfl) rfl ?_
  refine z_goto (tgt := 75) F (dX0_survey_0 34 rfl) rfl ?_
  refine z_iinc (lv' := [(4, .int (zI (v4 + 1))), (0, .ref q_t), (1, .ref q_p1), (3, .int (zI v3))]) 3 F (dX0_survey_0 39 rfl) rfl (by decide) rfl ?_
  refine z_goto (tgt := 13) F (dX0_survey_1 0 rfl) rfl ?_
  refine z_lv [1, 2, 3, 0] rfl ?_
  exact hrec (v4 + 1) t_bytes t_numbersOfLines t_plainCount (t_rules + 1) s0 v4 hf
set_option maxRecDepth 20000 in
set_option maxHeartbeats 2000000 in
theorem b_X0_survey_l13 {X : zX} {D : va_G} {aI aZ : ClassId} {w0 : va_W} {Qp : Option Value → va_W → Prop} (F : zF X D aI aZ cX0_survey 5 RX0 wsX0_survey rmX0_survey) (E : zT X D w0 Qp 0 0 none) (q_t q_t_bytes q_t_numbersOfLines q_t_crossings q_t_nextInks q_t_gaps q_p1 q_p1_bytes q_p1_lengths : Nat) (v3 : Int) (t_headed : Int) (t_footed : Int) (t_width : Int) (t_crossings : (Nat → Int)) (t_nextInks : (Nat → Int)) (t_gaps : (Nat → Int)) (p1_bytes : (Nat → Int)) (p1_lengths : (Nat → Int)) (p1_count : Int) {R : (Nat → Int) × (Nat → Int) × Int × Int × Int × Int × Int × Int × Int × (Nat → Int) × (Nat → Int) × (Nat → Int)} (hQ : Qp none (wX0 aI q_t q_t_bytes q_t_numbersOfLines q_t_crossings q_t_nextInks q_t_gaps R.1 R.2.1 R.2.2.1 R.2.2.2.1 R.2.2.2.2.1 R.2.2.2.2.2.1 R.2.2.2.2.2.2.1 R.2.2.2.2.2.2.2.1 R.2.2.2.2.2.2.2.2.1 R.2.2.2.2.2.2.2.2.2.1 R.2.2.2.2.2.2.2.2.2.2.1 R.2.2.2.2.2.2.2.2.2.2.2 ++ wX2 aI q_p1 q_p1_bytes q_p1_lengths p1_bytes p1_lengths p1_count)) (K : (Nat → Int) → (Nat → Int) → Int → Int → Int → Int → Option ((Nat → Int) × (Nat → Int) × Int × Int × Int × Int × Int × Int × Int × (Nat → Int) × (Nat → Int) × (Nat → Int))) (hK : ∀ (t_bytes : (Nat → Int)) (t_numbersOfLines : (Nat → Int)) (t_plainCount : Int) (t_rules : Int) (t_firstRule : Int) (t_lastRule : Int), K t_bytes t_numbersOfLines t_plainCount t_rules t_firstRule t_lastRule = some R → zG X D 0 0 (wX0 aI q_t q_t_bytes q_t_numbersOfLines q_t_crossings q_t_nextInks q_t_gaps t_bytes t_numbersOfLines t_plainCount t_rules t_firstRule t_lastRule t_headed t_footed t_width t_crossings t_nextInks t_gaps ++ wX2 aI q_p1 q_p1_bytes q_p1_lengths p1_bytes p1_lengths p1_count) 81 [(0, .ref q_t)] []) : ∀ (n : Nat) (v4 : Int) (t_bytes : (Nat → Int)) (t_numbersOfLines : (Nat → Int)) (t_plainCount : Int) (t_rules : Int) (t_firstRule : Int) (t_lastRule : Int), f_X0_survey_l13 K v3 p1_bytes p1_lengths n v4 t_bytes t_numbersOfLines t_plainCount t_rules t_firstRule t_lastRule = some R → zG X D 0 0 (wX0 aI q_t q_t_bytes q_t_numbersOfLines q_t_crossings q_t_nextInks q_t_gaps t_bytes t_numbersOfLines t_plainCount t_rules t_firstRule t_lastRule t_headed t_footed t_width t_crossings t_nextInks t_gaps ++ wX2 aI q_p1 q_p1_bytes q_p1_lengths p1_bytes p1_lengths p1_count) 13 [(0, .ref q_t), (1, .ref q_p1), (3, .int (zI v3)), (4, .int (zI v4))] [] := by
  intro n
  induction n with
  | zero => intro v4 t_bytes t_numbersOfLines t_plainCount t_rules t_firstRule t_lastRule hf; rw [f_X0_survey_l13_z] at hf; cases hf
  | succ n ih =>
    intro v4 t_bytes t_numbersOfLines t_plainCount t_rules t_firstRule t_lastRule hf
    rw [f_X0_survey_l13_s] at hf
    refine z_iload 3 F (dX0_survey_0 8 rfl) rfl ?_
    refine z_iload_n 2 F (dX0_survey_0 9 rfl) rfl ?_
    refine z_icmp_gt (tgt := 81) F (dX0_survey_0 10 rfl) rfl (fun c16 => ?_) (fun c16 => ?_)
    · replace hf := zif_t c16 hf
      refine z_lv [0] rfl ?_
      exact hK t_bytes t_numbersOfLines t_plainCount t_rules t_firstRule t_lastRule hf
    · replace hf := zif_f c16 hf
      refine z_aload_n 1 F (dX0_survey_0 11 rfl) rfl ?_
      refine z_iload 3 F (dX0_survey_0 12 rfl) rfl ?_
      obtain ⟨o_1, h_2, hf⟩ := zb_some hf
      refine z_callV (As := [.int (zI v4)]) (rest := []) (wr := wX0 aI q_t q_t_bytes q_t_numbersOfLines q_t_crossings q_t_nextInks q_t_gaps t_bytes t_numbersOfLines t_plainCount t_rules t_firstRule t_lastRule t_headed t_footed t_width t_crossings t_nextInks t_gaps) F (dX0_survey_0 13 rfl) (k_X2_kindOf (zL X) D aI aZ q_p1 q_p1_bytes q_p1_lengths p1_bytes p1_lengths p1_count v4 h_2) gX0_survey_X2_kindOf mX2_kindOf rfl (ci := 2) rfl [6, 7, 8] [0, 1, 2, 3, 4, 5] 0 rfl rfl rfl (by decide) rfl rfl (Nat.le_of_ble_eq_true rfl) ⟨Nat.le_of_ble_eq_true rfl, Nat.le_of_ble_eq_true rfl⟩ ⟨rfl, rfl⟩ ⟨Nat.le_of_ble_eq_true rfl, Nat.le_of_ble_eq_true rfl⟩ (z_plain (ws' := wX0 aI q_t q_t_bytes q_t_numbersOfLines q_t_crossings q_t_nextInks q_t_gaps t_bytes t_numbersOfLines t_plainCount t_rules t_firstRule t_lastRule t_headed t_footed t_width t_crossings t_nextInks t_gaps ++ wX2 aI q_p1 q_p1_bytes q_p1_lengths p1_bytes p1_lengths p1_count) (st' := [.int (zI o_1)]) [0, 1, 2, 3, 4, 5, 6, 7, 8] rfl (by decide) rfl ?_)
      refine z_iconst F (dX0_survey_0 14 rfl) ?_
      refine z_icmp_ne (tgt := 68) F (dX0_survey_0 15 rfl) rfl (fun c26 => ?_) (fun c26 => ?_)
      · replace hf := zif_f c26 hf
        refine z_aload_n 0 F (dX0_survey_0 35 rfl) rfl ?_
        refine z_aload_n 1 F (dX0_survey_0 36 rfl) rfl ?_
        refine z_iload 3 F (dX0_survey_0 37 rfl) rfl ?_
        obtain ⟨o_3, h_4, hf⟩ := zb_some hf
        refine z_callV (As := [.ref q_p1, .int (zI v4)]) (rest := []) (wr := []) F (dX0_survey_0 38 rfl) (k_X0_takeLine (zL X) D aI aZ q_t q_t_bytes q_t_numbersOfLines q_t_crossings q_t_nextInks q_t_gaps q_p1 q_p1_bytes q_p1_lengths t_bytes t_numbersOfLines t_plainCount t_rules t_firstRule t_lastRule t_headed t_footed t_width t_crossings t_nextInks t_gaps p1_bytes p1_lengths p1_count v4 h_4) gX0_survey_X0_takeLine mX0_takeLine rfl (ci := 0) rfl [0, 1, 2, 3, 4, 5, 6, 7, 8] [] 0 rfl rfl rfl (by decide) rfl rfl (Nat.le_of_ble_eq_true rfl) ⟨Nat.le_of_ble_eq_true rfl, Nat.le_of_ble_eq_true rfl⟩ ⟨rfl, rfl⟩ ⟨Nat.le_of_ble_eq_true rfl, Nat.le_of_ble_eq_true rfl⟩ (z_plain (ws' := wX0 aI q_t q_t_bytes q_t_numbersOfLines q_t_crossings q_t_nextInks q_t_gaps o_3.1 o_3.2.1 o_3.2.2 t_rules t_firstRule t_lastRule t_headed t_footed t_width t_crossings t_nextInks t_gaps ++ wX2 aI q_p1 q_p1_bytes q_p1_lengths p1_bytes p1_lengths p1_count) (st' := []) [0, 1, 2, 3, 4, 5, 6, 7, 8] rfl (by decide) rfl ?_)
        refine z_iinc (lv' := [(4, .int (zI (v4 + 1))), (0, .ref q_t), (1, .ref q_p1), (3, .int (zI v3))]) 3 F (dX0_survey_0 39 rfl) rfl (by decide) rfl ?_
        refine z_goto (tgt := 13) F (dX0_survey_1 0 rfl) rfl ?_
        refine z_lv [1, 2, 3, 0] rfl ?_
        exact ih (v4 + 1) o_3.1 o_3.2.1 o_3.2.2 t_rules t_firstRule t_lastRule hf
      · replace hf := zif_t c26 hf
        refine z_aload_n 0 F (dX0_survey_0 16 rfl) rfl ?_
        refine z_aload_n 0 F (dX0_survey_0 17 rfl) rfl ?_
        refine z_get (v := .int (zI t_rules)) 0 F (dX0_survey_0 18 rfl) fl_X0_survey_31 rfl rfl ?_
        refine z_if_ne (tgt := 42) F (dX0_survey_0 19 rfl) rfl (fun c34 => ?_) (fun c34 => ?_)
        · replace hf := zif_f c34 hf
          refine z_aload_n 0 F (dX0_survey_0 22 rfl) rfl ?_
          refine z_get (v := .int (zI t_firstRule)) 0 F (dX0_survey_0 23 rfl) fl_X0_survey_40 rfl rfl ?_
          exact b_X0_survey_j46 F E q_t q_t_bytes q_t_numbersOfLines q_t_crossings q_t_nextInks q_t_gaps q_p1 q_p1_bytes q_p1_lengths t_firstRule v3 v4 t_bytes t_numbersOfLines t_plainCount t_rules t_firstRule t_lastRule t_headed t_footed t_width t_crossings t_nextInks t_gaps p1_bytes p1_lengths p1_count hQ _ ih hf
        · replace hf := zif_t c34 hf
          refine z_iload 3 F (dX0_survey_0 20 rfl) rfl ?_
          refine z_goto (tgt := 46) F (dX0_survey_0 21 rfl) rfl ?_
          exact b_X0_survey_j46 F E q_t q_t_bytes q_t_numbersOfLines q_t_crossings q_t_nextInks q_t_gaps q_p1 q_p1_bytes q_p1_lengths v4 v3 v4 t_bytes t_numbersOfLines t_plainCount t_rules t_firstRule t_lastRule t_headed t_footed t_width t_crossings t_nextInks t_gaps p1_bytes p1_lengths p1_count hQ _ ih hf
set_option maxRecDepth 20000 in
set_option maxHeartbeats 2000000 in
theorem b_X0_survey_0 {X : zX} {D : va_G} {aI aZ : ClassId} {w0 : va_W} {Qp : Option Value → va_W → Prop} (F : zF X D aI aZ cX0_survey 5 RX0 wsX0_survey rmX0_survey) (E : zT X D w0 Qp 0 0 none) (q_t q_t_bytes q_t_numbersOfLines q_t_crossings q_t_nextInks q_t_gaps q_p1 q_p1_bytes q_p1_lengths : Nat) (t_bytes : (Nat → Int)) (t_numbersOfLines : (Nat → Int)) (t_plainCount : Int) (t_rules : Int) (t_firstRule : Int) (t_lastRule : Int) (t_headed : Int) (t_footed : Int) (t_width : Int) (t_crossings : (Nat → Int)) (t_nextInks : (Nat → Int)) (t_gaps : (Nat → Int)) (p1_bytes : (Nat → Int)) (p1_lengths : (Nat → Int)) (p1_count : Int) (v2 : Int) (v3 : Int) {R : (Nat → Int) × (Nat → Int) × Int × Int × Int × Int × Int × Int × Int × (Nat → Int) × (Nat → Int) × (Nat → Int)} (hQ : Qp none (wX0 aI q_t q_t_bytes q_t_numbersOfLines q_t_crossings q_t_nextInks q_t_gaps R.1 R.2.1 R.2.2.1 R.2.2.2.1 R.2.2.2.2.1 R.2.2.2.2.2.1 R.2.2.2.2.2.2.1 R.2.2.2.2.2.2.2.1 R.2.2.2.2.2.2.2.2.1 R.2.2.2.2.2.2.2.2.2.1 R.2.2.2.2.2.2.2.2.2.2.1 R.2.2.2.2.2.2.2.2.2.2.2 ++ wX2 aI q_p1 q_p1_bytes q_p1_lengths p1_bytes p1_lengths p1_count)) (hf : f_X0_survey t_bytes t_numbersOfLines t_firstRule t_lastRule t_crossings t_nextInks t_gaps p1_bytes p1_lengths v2 v3 = some R) : zG X D 0 0 (wX0 aI q_t q_t_bytes q_t_numbersOfLines q_t_crossings q_t_nextInks q_t_gaps t_bytes t_numbersOfLines t_plainCount t_rules t_firstRule t_lastRule t_headed t_footed t_width t_crossings t_nextInks t_gaps ++ wX2 aI q_p1 q_p1_bytes q_p1_lengths p1_bytes p1_lengths p1_count) 0 [(0, .ref q_t), (1, .ref q_p1), (2, .int (zI v2)), (3, .int (zI v3))] [] := by
  unfold f_X0_survey at hf
  refine z_aload_n 0 F (dX0_survey_0 0 rfl) rfl ?_
  refine z_iconst F (dX0_survey_0 1 rfl) ?_
  refine z_put (ws' := wX0 aI q_t q_t_bytes q_t_numbersOfLines q_t_crossings q_t_nextInks q_t_gaps t_bytes t_numbersOfLines 0 t_rules t_firstRule t_lastRule t_headed t_footed t_width t_crossings t_nextInks t_gaps ++ wX2 aI q_p1 q_p1_bytes q_p1_lengths p1_bytes p1_lengths p1_count) 0 F (dX0_survey_0 2 rfl) fl_X0_survey_27 tyX0_ok nmX0 rfl rfl rfl rfl rfl (Nat.le_of_ble_eq_true rfl) rfl ?_
  refine z_aload_n 0 F (dX0_survey_0 3 rfl) rfl ?_
  refine z_iconst F (dX0_survey_0 4 rfl) ?_
  refine z_put (ws' := wX0 aI q_t q_t_bytes q_t_numbersOfLines q_t_crossings q_t_nextInks q_t_gaps t_bytes t_numbersOfLines 0 0 t_firstRule t_lastRule t_headed t_footed t_width t_crossings t_nextInks t_gaps ++ wX2 aI q_p1 q_p1_bytes q_p1_lengths p1_bytes p1_lengths p1_count) 0 F (dX0_survey_0 5 rfl) fl_X0_survey_31 tyX0_ok nmX0 rfl rfl rfl rfl rfl (Nat.le_of_ble_eq_true rfl) rfl ?_
  refine z_iload_n 2 F (dX0_survey_0 6 rfl) rfl ?_
  refine z_istore (lv' := [(4, .int (zI v2)), (0, .ref q_t), (1, .ref q_p1), (2, .int (zI v2)), (3, .int (zI v3))]) F (dX0_survey_0 7 rfl) (by decide) rfl ?_
  refine z_lv [1, 2, 4, 0] rfl ?_
  refine b_X0_survey_l13 F E q_t q_t_bytes q_t_numbersOfLines q_t_crossings q_t_nextInks q_t_gaps q_p1 q_p1_bytes q_p1_lengths v3 t_headed t_footed t_width t_crossings t_nextInks t_gaps p1_bytes p1_lengths p1_count hQ _ ?_ zN v2 t_bytes t_numbersOfLines 0 0 t_firstRule t_lastRule hf
  intro t_bytes_5 t_numbersOfLines_6 t_plainCount_7 t_rules_8 t_firstRule_9 t_lastRule_10 hf
  refine z_aload_n 0 F (dX0_survey_1 1 rfl) rfl ?_
  obtain ⟨o_11, h_12, hf⟩ := zb_some hf
  refine z_callV (As := []) (rest := []) (wr := wX2 aI q_p1 q_p1_bytes q_p1_lengths p1_bytes p1_lengths p1_count) F (dX0_survey_1 2 rfl) (k_X0_seeParts (zL X) D aI aZ q_t q_t_bytes q_t_numbersOfLines q_t_crossings q_t_nextInks q_t_gaps t_bytes_5 t_numbersOfLines_6 t_plainCount_7 t_rules_8 t_firstRule_9 t_lastRule_10 t_headed t_footed t_width t_crossings t_nextInks t_gaps h_12) gX0_survey_X0_seeParts mX0_seeParts rfl (ci := 0) rfl [0, 1, 2, 3, 4, 5] [6, 7, 8] 0 rfl rfl rfl (by decide) rfl rfl (Nat.le_of_ble_eq_true rfl) ⟨Nat.le_of_ble_eq_true rfl, Nat.le_of_ble_eq_true rfl⟩ ⟨rfl, rfl⟩ ⟨Nat.le_of_ble_eq_true rfl, Nat.le_of_ble_eq_true rfl⟩ (z_plain (ws' := wX0 aI q_t q_t_bytes q_t_numbersOfLines q_t_crossings q_t_nextInks q_t_gaps t_bytes_5 t_numbersOfLines_6 t_plainCount_7 t_rules_8 t_firstRule_9 t_lastRule_10 o_11.1 o_11.2 t_width t_crossings t_nextInks t_gaps ++ wX2 aI q_p1 q_p1_bytes q_p1_lengths p1_bytes p1_lengths p1_count) (st' := []) [3, 4, 5, 6, 7, 8, 0, 1, 2] rfl (by decide) rfl ?_)
  refine z_aload_n 0 F (dX0_survey_1 3 rfl) rfl ?_
  obtain ⟨o_13, h_14, hf⟩ := zb_some hf
  refine z_callV (As := []) (rest := []) (wr := wX2 aI q_p1 q_p1_bytes q_p1_lengths p1_bytes p1_lengths p1_count) F (dX0_survey_1 4 rfl) (k_X0_seeInks (zL X) D aI aZ q_t q_t_bytes q_t_numbersOfLines q_t_crossings q_t_nextInks q_t_gaps t_bytes_5 t_numbersOfLines_6 t_plainCount_7 t_rules_8 t_firstRule_9 t_lastRule_10 o_11.1 o_11.2 t_width t_crossings t_nextInks t_gaps h_14) gX0_survey_X0_seeInks mX0_seeInks rfl (ci := 0) rfl [0, 1, 2, 3, 4, 5] [6, 7, 8] 0 rfl rfl rfl (by decide) rfl rfl (Nat.le_of_ble_eq_true rfl) ⟨Nat.le_of_ble_eq_true rfl, Nat.le_of_ble_eq_true rfl⟩ ⟨rfl, rfl⟩ ⟨Nat.le_of_ble_eq_true rfl, Nat.le_of_ble_eq_true rfl⟩ (z_plain (ws' := wX0 aI q_t q_t_bytes q_t_numbersOfLines q_t_crossings q_t_nextInks q_t_gaps t_bytes_5 t_numbersOfLines_6 t_plainCount_7 t_rules_8 t_firstRule_9 t_lastRule_10 o_11.1 o_11.2 o_13.1 o_13.2.1 o_13.2.2 t_gaps ++ wX2 aI q_p1 q_p1_bytes q_p1_lengths p1_bytes p1_lengths p1_count) (st' := []) [3, 4, 5, 6, 7, 8, 0, 1, 2] rfl (by decide) rfl ?_)
  refine z_aload_n 0 F (dX0_survey_1 5 rfl) rfl ?_
  obtain ⟨o_15, h_16, hf⟩ := zb_some hf
  refine z_callV (As := []) (rest := []) (wr := wX2 aI q_p1 q_p1_bytes q_p1_lengths p1_bytes p1_lengths p1_count) F (dX0_survey_1 6 rfl) (k_X0_seeGaps (zL X) D aI aZ q_t q_t_bytes q_t_numbersOfLines q_t_crossings q_t_nextInks q_t_gaps t_bytes_5 t_numbersOfLines_6 t_plainCount_7 t_rules_8 t_firstRule_9 t_lastRule_10 o_11.1 o_11.2 o_13.1 o_13.2.1 o_13.2.2 t_gaps h_16) gX0_survey_X0_seeGaps mX0_seeGaps rfl (ci := 0) rfl [0, 1, 2, 3, 4, 5] [6, 7, 8] 0 rfl rfl rfl (by decide) rfl rfl (Nat.le_of_ble_eq_true rfl) ⟨Nat.le_of_ble_eq_true rfl, Nat.le_of_ble_eq_true rfl⟩ ⟨rfl, rfl⟩ ⟨Nat.le_of_ble_eq_true rfl, Nat.le_of_ble_eq_true rfl⟩ (z_plain (ws' := wX0 aI q_t q_t_bytes q_t_numbersOfLines q_t_crossings q_t_nextInks q_t_gaps t_bytes_5 t_numbersOfLines_6 t_plainCount_7 t_rules_8 t_firstRule_9 t_lastRule_10 o_11.1 o_11.2 o_13.1 o_13.2.1 o_13.2.2 o_15 ++ wX2 aI q_p1 q_p1_bytes q_p1_lengths p1_bytes p1_lengths p1_count) (st' := []) [3, 4, 5, 6, 7, 8, 0, 1, 2] rfl (by decide) rfl ?_)
  cases hf
  exact z_vret [0, 1, 2, 3, 4, 5, 6, 7, 8] F E (dX0_survey_1 7 rfl) rfl (by decide) hQ
set_option maxRecDepth 20000 in
set_option maxHeartbeats 2000000 in
theorem k_X0_survey (l : Launch) (D : va_G) (aI aZ : ClassId) (q_t q_t_bytes q_t_numbersOfLines q_t_crossings q_t_nextInks q_t_gaps q_p1 q_p1_bytes q_p1_lengths : Nat) (t_bytes : (Nat → Int)) (t_numbersOfLines : (Nat → Int)) (t_plainCount : Int) (t_rules : Int) (t_firstRule : Int) (t_lastRule : Int) (t_headed : Int) (t_footed : Int) (t_width : Int) (t_crossings : (Nat → Int)) (t_nextInks : (Nat → Int)) (t_gaps : (Nat → Int)) (p1_bytes : (Nat → Int)) (p1_lengths : (Nat → Int)) (p1_count : Int) (v2 : Int) (v3 : Int) {R : (Nat → Int) × (Nat → Int) × Int × Int × Int × Int × Int × Int × Int × (Nat → Int) × (Nat → Int) × (Nat → Int)} (hf : f_X0_survey t_bytes t_numbersOfLines t_firstRule t_lastRule t_crossings t_nextInks t_gaps p1_bytes p1_lengths v2 v3 = some R) : zC l D aI aZ yX0_survey wsX0_survey rmX0_survey [.ref q_t, .ref q_p1, .int (zI v2), .int (zI v3)] (wX0 aI q_t q_t_bytes q_t_numbersOfLines q_t_crossings q_t_nextInks q_t_gaps t_bytes t_numbersOfLines t_plainCount t_rules t_firstRule t_lastRule t_headed t_footed t_width t_crossings t_nextInks t_gaps ++ wX2 aI q_p1 q_p1_bytes q_p1_lengths p1_bytes p1_lengths p1_count) (fun r w => r = none ∧ w = wX0 aI q_t q_t_bytes q_t_numbersOfLines q_t_crossings q_t_nextInks q_t_gaps R.1 R.2.1 R.2.2.1 R.2.2.2.1 R.2.2.2.2.1 R.2.2.2.2.2.1 R.2.2.2.2.2.2.1 R.2.2.2.2.2.2.2.1 R.2.2.2.2.2.2.2.2.1 R.2.2.2.2.2.2.2.2.2.1 R.2.2.2.2.2.2.2.2.2.2.1 R.2.2.2.2.2.2.2.2.2.2.2 ++ wX2 aI q_p1 q_p1_bytes q_p1_lengths p1_bytes p1_lengths p1_count) 0 0 := by
  refine z_met (cc := cX0_survey) (maxL := 5) (ret := none) (by decide +kernel) rfl (Nat.le_of_ble_eq_true rfl) (fun X hX F E => ?_)
  exact b_X0_survey_0 F E q_t q_t_bytes q_t_numbersOfLines q_t_crossings q_t_nextInks q_t_gaps q_p1 q_p1_bytes q_p1_lengths t_bytes t_numbersOfLines t_plainCount t_rules t_firstRule t_lastRule t_headed t_footed t_width t_crossings t_nextInks t_gaps p1_bytes p1_lengths p1_count v2 v3 ⟨rfl, rfl⟩ hf
theorem inw_X0_byteAt_0 : ∀ w ∈ u_ws RX0 TX0 12, w ∈ wsX0_byteAt := by decide +kernel
theorem fl_X0_byteAt_9 : zfl wsX0_byteAt RX0 9 0 0 RX0 TX0 12 := ⟨inw_X0_byteAt_0, rfl, by decide, by decide +kernel⟩
theorem sw1_X0_byteAt_X5_pick : Cond.static yX5_pick ∈ wsX0_byteAt := by decide +kernel
theorem sw2_X0_byteAt_X5_pick : Cond.initialized yX5_pick.cls ∈ wsX0_byteAt := by decide +kernel
abbrev rmX0_byteAt : Room := { frames := 1, cells := 0, slots := 0, locals := 21 }
theorem mX0_byteAt : zY yX0_byteAt cX0_byteAt 3 (some .int) wsX0_byteAt 2 := ⟨⟨_, rfl⟩, by decide +kernel, by decide +kernel, by decide +kernel⟩
set_option maxRecDepth 20000 in
set_option maxHeartbeats 2000000 in
theorem b_X0_byteAt_0 {X : zX} {D : va_G} {aI aZ : ClassId} {w0 : va_W} {Qp : Option Value → va_W → Prop} (F : zF X D aI aZ cX0_byteAt 3 RX0 wsX0_byteAt rmX0_byteAt) (E : zT X D w0 Qp 0 0 (some .int)) (q_t q_t_bytes q_t_numbersOfLines q_t_crossings q_t_nextInks q_t_gaps : Nat) (t_bytes : (Nat → Int)) (t_numbersOfLines : (Nat → Int)) (t_plainCount : Int) (t_rules : Int) (t_firstRule : Int) (t_lastRule : Int) (t_headed : Int) (t_footed : Int) (t_width : Int) (t_crossings : (Nat → Int)) (t_nextInks : (Nat → Int)) (t_gaps : (Nat → Int)) (v1 : Int) (v2 : Int) {R : Int} (hQ : Qp (some (.int (zI R))) (wX0 aI q_t q_t_bytes q_t_numbersOfLines q_t_crossings q_t_nextInks q_t_gaps t_bytes t_numbersOfLines t_plainCount t_rules t_firstRule t_lastRule t_headed t_footed t_width t_crossings t_nextInks t_gaps)) (hf : f_X0_byteAt t_bytes v1 v2 = some R) : zG X D 0 0 (wX0 aI q_t q_t_bytes q_t_numbersOfLines q_t_crossings q_t_nextInks q_t_gaps t_bytes t_numbersOfLines t_plainCount t_rules t_firstRule t_lastRule t_headed t_footed t_width t_crossings t_nextInks t_gaps) 0 [(0, .ref q_t), (1, .int (zI v1)), (2, .int (zI v2))] [] := by
  unfold f_X0_byteAt at hf
  refine z_aload_n 0 F (dX0_byteAt_0 0 rfl) rfl ?_
  refine z_get (v := .ref q_t_bytes) 0 F (dX0_byteAt_0 1 rfl) fl_X0_byteAt_9 rfl rfl ?_
  refine z_iload_n 1 F (dX0_byteAt_0 2 rfl) rfl ?_
  refine z_bipush F (dX0_byteAt_0 3 rfl) rfl ?_
  refine z_imul F (dX0_byteAt_0 4 rfl) ?_
  refine z_iload_n 2 F (dX0_byteAt_0 5 rfl) rfl ?_
  refine z_iadd F (dX0_byteAt_0 6 rfl) ?_
  obtain ⟨o_1, h_2, hf⟩ := zb_some hf
  refine z_callN (As := [.ref q_t_bytes, .int (zI ((v1 * 60) + v2))]) (rest := []) (wr := [(q_t, .inr (0, [.ref q_t_bytes, .ref q_t_numbersOfLines, .int (zI t_plainCount), .int (zI t_rules), .int (zI t_firstRule), .int (zI t_lastRule), .int (zI t_headed), .int (zI t_footed), .int (zI t_width), .ref q_t_crossings, .ref q_t_nextInks, .ref q_t_gaps]))] ++ ([(q_t_numbersOfLines, .inl (aI, 24, .inl (fun j => zI (t_numbersOfLines j))))] ++ ([(q_t_crossings, .inl (aI, 61, .inl (fun j => zI (t_crossings j))))] ++ ([(q_t_nextInks, .inl (aI, 61, .inl (fun j => zI (t_nextInks j))))] ++ [(q_t_gaps, .inl (aI, 3721, .inl (fun j => zI (t_gaps j))))])))) F (dX0_byteAt_0 7 rfl) (k_X5_pick (zL X) D aI aZ q_t_bytes 1440 (by decide) t_bytes ((v1 * 60) + v2) h_2) gX0_byteAt_X5_pick_n74 mX5_pick nst_X0_X5_pick sw1_X0_byteAt_X5_pick sw2_X0_byteAt_X5_pick [1] [0, 2, 3, 4, 5] rfl rfl (by decide) rfl rfl (Nat.le_of_ble_eq_true rfl) ⟨Nat.le_of_ble_eq_true rfl, Nat.le_of_ble_eq_true rfl⟩ ⟨rfl, rfl⟩ ⟨Nat.le_of_ble_eq_true rfl, Nat.le_of_ble_eq_true rfl⟩ (z_plain (ws' := wX0 aI q_t q_t_bytes q_t_numbersOfLines q_t_crossings q_t_nextInks q_t_gaps t_bytes t_numbersOfLines t_plainCount t_rules t_firstRule t_lastRule t_headed t_footed t_width t_crossings t_nextInks t_gaps) (st' := [.int (zI o_1)]) [0, 5, 1, 2, 3, 4] rfl (by decide) rfl ?_)
  cases hf
  exact z_iret [0, 1, 2, 3, 4, 5] F E (dX0_byteAt_0 8 rfl) rfl (by decide) hQ
set_option maxRecDepth 20000 in
set_option maxHeartbeats 2000000 in
theorem k_X0_byteAt (l : Launch) (D : va_G) (aI aZ : ClassId) (q_t q_t_bytes q_t_numbersOfLines q_t_crossings q_t_nextInks q_t_gaps : Nat) (t_bytes : (Nat → Int)) (t_numbersOfLines : (Nat → Int)) (t_plainCount : Int) (t_rules : Int) (t_firstRule : Int) (t_lastRule : Int) (t_headed : Int) (t_footed : Int) (t_width : Int) (t_crossings : (Nat → Int)) (t_nextInks : (Nat → Int)) (t_gaps : (Nat → Int)) (v1 : Int) (v2 : Int) {R : Int} (hf : f_X0_byteAt t_bytes v1 v2 = some R) : zC l D aI aZ yX0_byteAt wsX0_byteAt rmX0_byteAt [.ref q_t, .int (zI v1), .int (zI v2)] (wX0 aI q_t q_t_bytes q_t_numbersOfLines q_t_crossings q_t_nextInks q_t_gaps t_bytes t_numbersOfLines t_plainCount t_rules t_firstRule t_lastRule t_headed t_footed t_width t_crossings t_nextInks t_gaps) (fun r w => r = (some (.int (zI R))) ∧ w = wX0 aI q_t q_t_bytes q_t_numbersOfLines q_t_crossings q_t_nextInks q_t_gaps t_bytes t_numbersOfLines t_plainCount t_rules t_firstRule t_lastRule t_headed t_footed t_width t_crossings t_nextInks t_gaps) 0 0 := by
  refine z_met (cc := cX0_byteAt) (maxL := 3) (ret := (some .int)) (by decide +kernel) rfl (Nat.le_of_ble_eq_true rfl) (fun X hX F E => ?_)
  exact b_X0_byteAt_0 F E q_t q_t_bytes q_t_numbersOfLines q_t_crossings q_t_nextInks q_t_gaps t_bytes t_numbersOfLines t_plainCount t_rules t_firstRule t_lastRule t_headed t_footed t_width t_crossings t_nextInks t_gaps v1 v2 ⟨rfl, rfl⟩ hf
theorem inw_X0_isHead_0 : ∀ w ∈ u_ws RX0 TX0 12, w ∈ wsX0_isHead := by decide +kernel
theorem fl_X0_isHead_67 : zfl wsX0_isHead RX0 67 0 6 RX0 TX0 12 := ⟨inw_X0_isHead_0, rfl, by decide, by decide +kernel⟩
theorem fl_X0_isHead_15 : zfl wsX0_isHead RX0 15 0 1 RX0 TX0 12 := ⟨inw_X0_isHead_0, rfl, by decide, by decide +kernel⟩
theorem sw1_X0_isHead_X5_pick : Cond.static yX5_pick ∈ wsX0_isHead := by decide +kernel
theorem sw2_X0_isHead_X5_pick : Cond.initialized yX5_pick.cls ∈ wsX0_isHead := by decide +kernel
theorem fl_X0_isHead_40 : zfl wsX0_isHead RX0 40 0 4 RX0 TX0 12 := ⟨inw_X0_isHead_0, rfl, by decide, by decide +kernel⟩
abbrev rmX0_isHead : Room := { frames := 1, cells := 0, slots := 0, locals := 21 }
theorem mX0_isHead : zY yX0_isHead cX0_isHead 2 (some .boolean) wsX0_isHead 1 := ⟨⟨_, rfl⟩, by decide +kernel, by decide +kernel, by decide +kernel⟩
set_option maxRecDepth 20000 in
set_option maxHeartbeats 2000000 in
theorem b_X0_isHead_j26 {X : zX} {D : va_G} {aI aZ : ClassId} {w0 : va_W} {Qp : Option Value → va_W → Prop} (F : zF X D aI aZ cX0_isHead 2 RX0 wsX0_isHead rmX0_isHead) (E : zT X D w0 Qp 0 0 (some .boolean)) (q_t q_t_bytes q_t_numbersOfLines q_t_crossings q_t_nextInks q_t_gaps : Nat) (t_bytes : (Nat → Int)) (t_numbersOfLines : (Nat → Int)) (t_plainCount : Int) (t_rules : Int) (t_firstRule : Int) (t_lastRule : Int) (t_headed : Int) (t_footed : Int) (t_width : Int) (t_crossings : (Nat → Int)) (t_nextInks : (Nat → Int)) (t_gaps : (Nat → Int)) {R : Int} (hQ : Qp (some (.int (zI R))) (wX0 aI q_t q_t_bytes q_t_numbersOfLines q_t_crossings q_t_nextInks q_t_gaps t_bytes t_numbersOfLines t_plainCount t_rules t_firstRule t_lastRule t_headed t_footed t_width t_crossings t_nextInks t_gaps)) (hf : f_X0_isHead_j26 = some R) : zG X D 0 0 (wX0 aI q_t q_t_bytes q_t_numbersOfLines q_t_crossings q_t_nextInks q_t_gaps t_bytes t_numbersOfLines t_plainCount t_rules t_firstRule t_lastRule t_headed t_footed t_width t_crossings t_nextInks t_gaps) 26 [] [] := by
  unfold f_X0_isHead_j26 at hf
  refine z_iconst F (dX0_isHead_0 12 rfl) ?_
  cases hf
  exact z_zret [0, 1, 2, 3, 4, 5] F E (dX0_isHead_0 13 rfl) (Or.inl rfl) rfl (by decide) hQ
set_option maxRecDepth 20000 in
set_option maxHeartbeats 2000000 in
theorem b_X0_isHead_0 {X : zX} {D : va_G} {aI aZ : ClassId} {w0 : va_W} {Qp : Option Value → va_W → Prop} (F : zF X D aI aZ cX0_isHead 2 RX0 wsX0_isHead rmX0_isHead) (E : zT X D w0 Qp 0 0 (some .boolean)) (q_t q_t_bytes q_t_numbersOfLines q_t_crossings q_t_nextInks q_t_gaps : Nat) (t_bytes : (Nat → Int)) (t_numbersOfLines : (Nat → Int)) (t_plainCount : Int) (t_rules : Int) (t_firstRule : Int) (t_lastRule : Int) (t_headed : Int) (t_footed : Int) (t_width : Int) (t_crossings : (Nat → Int)) (t_nextInks : (Nat → Int)) (t_gaps : (Nat → Int)) (v1 : Int) {R : Int} (hQ : Qp (some (.int (zI R))) (wX0 aI q_t q_t_bytes q_t_numbersOfLines q_t_crossings q_t_nextInks q_t_gaps t_bytes t_numbersOfLines t_plainCount t_rules t_firstRule t_lastRule t_headed t_footed t_width t_crossings t_nextInks t_gaps)) (hf : f_X0_isHead t_numbersOfLines t_firstRule t_headed v1 = some R) : zG X D 0 0 (wX0 aI q_t q_t_bytes q_t_numbersOfLines q_t_crossings q_t_nextInks q_t_gaps t_bytes t_numbersOfLines t_plainCount t_rules t_firstRule t_lastRule t_headed t_footed t_width t_crossings t_nextInks t_gaps) 0 [(0, .ref q_t), (1, .int (zI v1))] [] := by
  unfold f_X0_isHead at hf
  refine z_aload_n 0 F (dX0_isHead_0 0 rfl) rfl ?_
  refine z_get (v := .int (zI t_headed)) 0 F (dX0_isHead_0 1 rfl) fl_X0_isHead_67 rfl rfl ?_
  refine z_if_eq (tgt := 26) F (dX0_isHead_0 2 rfl) rfl (fun c4 => ?_) (fun c4 => ?_)
  · replace hf := zif_t c4 hf
    refine z_lv [] rfl ?_
    exact b_X0_isHead_j26 F E q_t q_t_bytes q_t_numbersOfLines q_t_crossings q_t_nextInks q_t_gaps t_bytes t_numbersOfLines t_plainCount t_rules t_firstRule t_lastRule t_headed t_footed t_width t_crossings t_nextInks t_gaps hQ hf
  · replace hf := zif_f c4 hf
    refine z_aload_n 0 F (dX0_isHead_0 3 rfl) rfl ?_
    refine z_get (v := .ref q_t_numbersOfLines) 0 F (dX0_isHead_0 4 rfl) fl_X0_isHead_15 rfl rfl ?_
    refine z_iload_n 1 F (dX0_isHead_0 5 rfl) rfl ?_
    obtain ⟨o_1, h_2, hf⟩ := zb_some hf
    refine z_callN (As := [.ref q_t_numbersOfLines, .int (zI v1)]) (rest := []) (wr := [(q_t, .inr (0, [.ref q_t_bytes, .ref q_t_numbersOfLines, .int (zI t_plainCount), .int (zI t_rules), .int (zI t_firstRule), .int (zI t_lastRule), .int (zI t_headed), .int (zI t_footed), .int (zI t_width), .ref q_t_crossings, .ref q_t_nextInks, .ref q_t_gaps]))] ++ ([(q_t_bytes, .inl (aI, 1440, .inl (fun j => zI (t_bytes j))))] ++ ([(q_t_crossings, .inl (aI, 61, .inl (fun j => zI (t_crossings j))))] ++ ([(q_t_nextInks, .inl (aI, 61, .inl (fun j => zI (t_nextInks j))))] ++ [(q_t_gaps, .inl (aI, 3721, .inl (fun j => zI (t_gaps j))))])))) F (dX0_isHead_0 6 rfl) (k_X5_pick (zL X) D aI aZ q_t_numbersOfLines 24 (by decide) t_numbersOfLines v1 h_2) gX0_isHead_X5_pick_n74 mX5_pick nst_X0_X5_pick sw1_X0_isHead_X5_pick sw2_X0_isHead_X5_pick [2] [0, 1, 3, 4, 5] rfl rfl (by decide) rfl rfl (Nat.le_of_ble_eq_true rfl) ⟨Nat.le_of_ble_eq_true rfl, Nat.le_of_ble_eq_true rfl⟩ ⟨rfl, rfl⟩ ⟨Nat.le_of_ble_eq_true rfl, Nat.le_of_ble_eq_true rfl⟩ (z_plain (ws' := wX0 aI q_t q_t_bytes q_t_numbersOfLines q_t_crossings q_t_nextInks q_t_gaps t_bytes t_numbersOfLines t_plainCount t_rules t_firstRule t_lastRule t_headed t_footed t_width t_crossings t_nextInks t_gaps) (st' := [.int (zI o_1)]) [0, 1, 5, 2, 3, 4] rfl (by decide) rfl ?_)
    refine z_aload_n 0 F (dX0_isHead_0 7 rfl) rfl ?_
    refine z_get (v := .int (zI t_firstRule)) 0 F (dX0_isHead_0 8 rfl) fl_X0_isHead_40 rfl rfl ?_
    refine z_icmp_ge (tgt := 26) F (dX0_isHead_0 9 rfl) rfl (fun c19 => ?_) (fun c19 => ?_)
    · replace hf := zif_f c19 hf
      refine z_lv [] rfl ?_
      exact b_X0_isHead_j26 F E q_t q_t_bytes q_t_numbersOfLines q_t_crossings q_t_nextInks q_t_gaps t_bytes t_numbersOfLines t_plainCount t_rules t_firstRule t_lastRule t_headed t_footed t_width t_crossings t_nextInks t_gaps hQ hf
    · replace hf := zif_t c19 hf
      refine z_iconst F (dX0_isHead_0 10 rfl) ?_
      refine z_goto (tgt := 27) F (dX0_isHead_0 11 rfl) rfl ?_
      cases hf
      exact z_zret [0, 1, 2, 3, 4, 5] F E (dX0_isHead_0 13 rfl) (Or.inr rfl) rfl (by decide) hQ
set_option maxRecDepth 20000 in
set_option maxHeartbeats 2000000 in
theorem k_X0_isHead (l : Launch) (D : va_G) (aI aZ : ClassId) (q_t q_t_bytes q_t_numbersOfLines q_t_crossings q_t_nextInks q_t_gaps : Nat) (t_bytes : (Nat → Int)) (t_numbersOfLines : (Nat → Int)) (t_plainCount : Int) (t_rules : Int) (t_firstRule : Int) (t_lastRule : Int) (t_headed : Int) (t_footed : Int) (t_width : Int) (t_crossings : (Nat → Int)) (t_nextInks : (Nat → Int)) (t_gaps : (Nat → Int)) (v1 : Int) {R : Int} (hf : f_X0_isHead t_numbersOfLines t_firstRule t_headed v1 = some R) : zC l D aI aZ yX0_isHead wsX0_isHead rmX0_isHead [.ref q_t, .int (zI v1)] (wX0 aI q_t q_t_bytes q_t_numbersOfLines q_t_crossings q_t_nextInks q_t_gaps t_bytes t_numbersOfLines t_plainCount t_rules t_firstRule t_lastRule t_headed t_footed t_width t_crossings t_nextInks t_gaps) (fun r w => r = (some (.int (zI R))) ∧ w = wX0 aI q_t q_t_bytes q_t_numbersOfLines q_t_crossings q_t_nextInks q_t_gaps t_bytes t_numbersOfLines t_plainCount t_rules t_firstRule t_lastRule t_headed t_footed t_width t_crossings t_nextInks t_gaps) 0 0 := by
  refine z_met (cc := cX0_isHead) (maxL := 2) (ret := (some .boolean)) (by decide +kernel) rfl (Nat.le_of_ble_eq_true rfl) (fun X hX F E => ?_)
  exact b_X0_isHead_0 F E q_t q_t_bytes q_t_numbersOfLines q_t_crossings q_t_nextInks q_t_gaps t_bytes t_numbersOfLines t_plainCount t_rules t_firstRule t_lastRule t_headed t_footed t_width t_crossings t_nextInks t_gaps v1 ⟨rfl, rfl⟩ hf
theorem inw_X0_isFoot_0 : ∀ w ∈ u_ws RX0 TX0 12, w ∈ wsX0_isFoot := by decide +kernel
theorem fl_X0_isFoot_71 : zfl wsX0_isFoot RX0 71 0 7 RX0 TX0 12 := ⟨inw_X0_isFoot_0, rfl, by decide, by decide +kernel⟩
theorem fl_X0_isFoot_15 : zfl wsX0_isFoot RX0 15 0 1 RX0 TX0 12 := ⟨inw_X0_isFoot_0, rfl, by decide, by decide +kernel⟩
theorem sw1_X0_isFoot_X5_pick : Cond.static yX5_pick ∈ wsX0_isFoot := by decide +kernel
theorem sw2_X0_isFoot_X5_pick : Cond.initialized yX5_pick.cls ∈ wsX0_isFoot := by decide +kernel
theorem fl_X0_isFoot_43 : zfl wsX0_isFoot RX0 43 0 5 RX0 TX0 12 := ⟨inw_X0_isFoot_0, rfl, by decide, by decide +kernel⟩
abbrev rmX0_isFoot : Room := { frames := 1, cells := 0, slots := 0, locals := 21 }
theorem mX0_isFoot : zY yX0_isFoot cX0_isFoot 2 (some .boolean) wsX0_isFoot 1 := ⟨⟨_, rfl⟩, by decide +kernel, by decide +kernel, by decide +kernel⟩
set_option maxRecDepth 20000 in
set_option maxHeartbeats 2000000 in
theorem b_X0_isFoot_j26 {X : zX} {D : va_G} {aI aZ : ClassId} {w0 : va_W} {Qp : Option Value → va_W → Prop} (F : zF X D aI aZ cX0_isFoot 2 RX0 wsX0_isFoot rmX0_isFoot) (E : zT X D w0 Qp 0 0 (some .boolean)) (q_t q_t_bytes q_t_numbersOfLines q_t_crossings q_t_nextInks q_t_gaps : Nat) (t_bytes : (Nat → Int)) (t_numbersOfLines : (Nat → Int)) (t_plainCount : Int) (t_rules : Int) (t_firstRule : Int) (t_lastRule : Int) (t_headed : Int) (t_footed : Int) (t_width : Int) (t_crossings : (Nat → Int)) (t_nextInks : (Nat → Int)) (t_gaps : (Nat → Int)) {R : Int} (hQ : Qp (some (.int (zI R))) (wX0 aI q_t q_t_bytes q_t_numbersOfLines q_t_crossings q_t_nextInks q_t_gaps t_bytes t_numbersOfLines t_plainCount t_rules t_firstRule t_lastRule t_headed t_footed t_width t_crossings t_nextInks t_gaps)) (hf : f_X0_isFoot_j26 = some R) : zG X D 0 0 (wX0 aI q_t q_t_bytes q_t_numbersOfLines q_t_crossings q_t_nextInks q_t_gaps t_bytes t_numbersOfLines t_plainCount t_rules t_firstRule t_lastRule t_headed t_footed t_width t_crossings t_nextInks t_gaps) 26 [] [] := by
  unfold f_X0_isFoot_j26 at hf
  refine z_iconst F (dX0_isFoot_0 12 rfl) ?_
  cases hf
  exact z_zret [0, 1, 2, 3, 4, 5] F E (dX0_isFoot_0 13 rfl) (Or.inl rfl) rfl (by decide) hQ
set_option maxRecDepth 20000 in
set_option maxHeartbeats 2000000 in
theorem b_X0_isFoot_0 {X : zX} {D : va_G} {aI aZ : ClassId} {w0 : va_W} {Qp : Option Value → va_W → Prop} (F : zF X D aI aZ cX0_isFoot 2 RX0 wsX0_isFoot rmX0_isFoot) (E : zT X D w0 Qp 0 0 (some .boolean)) (q_t q_t_bytes q_t_numbersOfLines q_t_crossings q_t_nextInks q_t_gaps : Nat) (t_bytes : (Nat → Int)) (t_numbersOfLines : (Nat → Int)) (t_plainCount : Int) (t_rules : Int) (t_firstRule : Int) (t_lastRule : Int) (t_headed : Int) (t_footed : Int) (t_width : Int) (t_crossings : (Nat → Int)) (t_nextInks : (Nat → Int)) (t_gaps : (Nat → Int)) (v1 : Int) {R : Int} (hQ : Qp (some (.int (zI R))) (wX0 aI q_t q_t_bytes q_t_numbersOfLines q_t_crossings q_t_nextInks q_t_gaps t_bytes t_numbersOfLines t_plainCount t_rules t_firstRule t_lastRule t_headed t_footed t_width t_crossings t_nextInks t_gaps)) (hf : f_X0_isFoot t_numbersOfLines t_lastRule t_footed v1 = some R) : zG X D 0 0 (wX0 aI q_t q_t_bytes q_t_numbersOfLines q_t_crossings q_t_nextInks q_t_gaps t_bytes t_numbersOfLines t_plainCount t_rules t_firstRule t_lastRule t_headed t_footed t_width t_crossings t_nextInks t_gaps) 0 [(0, .ref q_t), (1, .int (zI v1))] [] := by
  unfold f_X0_isFoot at hf
  refine z_aload_n 0 F (dX0_isFoot_0 0 rfl) rfl ?_
  refine z_get (v := .int (zI t_footed)) 0 F (dX0_isFoot_0 1 rfl) fl_X0_isFoot_71 rfl rfl ?_
  refine z_if_eq (tgt := 26) F (dX0_isFoot_0 2 rfl) rfl (fun c4 => ?_) (fun c4 => ?_)
  · replace hf := zif_t c4 hf
    refine z_lv [] rfl ?_
    exact b_X0_isFoot_j26 F E q_t q_t_bytes q_t_numbersOfLines q_t_crossings q_t_nextInks q_t_gaps t_bytes t_numbersOfLines t_plainCount t_rules t_firstRule t_lastRule t_headed t_footed t_width t_crossings t_nextInks t_gaps hQ hf
  · replace hf := zif_f c4 hf
    refine z_aload_n 0 F (dX0_isFoot_0 3 rfl) rfl ?_
    refine z_get (v := .ref q_t_numbersOfLines) 0 F (dX0_isFoot_0 4 rfl) fl_X0_isFoot_15 rfl rfl ?_
    refine z_iload_n 1 F (dX0_isFoot_0 5 rfl) rfl ?_
    obtain ⟨o_1, h_2, hf⟩ := zb_some hf
    refine z_callN (As := [.ref q_t_numbersOfLines, .int (zI v1)]) (rest := []) (wr := [(q_t, .inr (0, [.ref q_t_bytes, .ref q_t_numbersOfLines, .int (zI t_plainCount), .int (zI t_rules), .int (zI t_firstRule), .int (zI t_lastRule), .int (zI t_headed), .int (zI t_footed), .int (zI t_width), .ref q_t_crossings, .ref q_t_nextInks, .ref q_t_gaps]))] ++ ([(q_t_bytes, .inl (aI, 1440, .inl (fun j => zI (t_bytes j))))] ++ ([(q_t_crossings, .inl (aI, 61, .inl (fun j => zI (t_crossings j))))] ++ ([(q_t_nextInks, .inl (aI, 61, .inl (fun j => zI (t_nextInks j))))] ++ [(q_t_gaps, .inl (aI, 3721, .inl (fun j => zI (t_gaps j))))])))) F (dX0_isFoot_0 6 rfl) (k_X5_pick (zL X) D aI aZ q_t_numbersOfLines 24 (by decide) t_numbersOfLines v1 h_2) gX0_isFoot_X5_pick_n74 mX5_pick nst_X0_X5_pick sw1_X0_isFoot_X5_pick sw2_X0_isFoot_X5_pick [2] [0, 1, 3, 4, 5] rfl rfl (by decide) rfl rfl (Nat.le_of_ble_eq_true rfl) ⟨Nat.le_of_ble_eq_true rfl, Nat.le_of_ble_eq_true rfl⟩ ⟨rfl, rfl⟩ ⟨Nat.le_of_ble_eq_true rfl, Nat.le_of_ble_eq_true rfl⟩ (z_plain (ws' := wX0 aI q_t q_t_bytes q_t_numbersOfLines q_t_crossings q_t_nextInks q_t_gaps t_bytes t_numbersOfLines t_plainCount t_rules t_firstRule t_lastRule t_headed t_footed t_width t_crossings t_nextInks t_gaps) (st' := [.int (zI o_1)]) [0, 1, 5, 2, 3, 4] rfl (by decide) rfl ?_)
    refine z_aload_n 0 F (dX0_isFoot_0 7 rfl) rfl ?_
    refine z_get (v := .int (zI t_lastRule)) 0 F (dX0_isFoot_0 8 rfl) fl_X0_isFoot_43 rfl rfl ?_
    refine z_icmp_le (tgt := 26) F (dX0_isFoot_0 9 rfl) rfl (fun c19 => ?_) (fun c19 => ?_)
    · replace hf := zif_f c19 hf
      refine z_lv [] rfl ?_
      exact b_X0_isFoot_j26 F E q_t q_t_bytes q_t_numbersOfLines q_t_crossings q_t_nextInks q_t_gaps t_bytes t_numbersOfLines t_plainCount t_rules t_firstRule t_lastRule t_headed t_footed t_width t_crossings t_nextInks t_gaps hQ hf
    · replace hf := zif_t c19 hf
      refine z_iconst F (dX0_isFoot_0 10 rfl) ?_
      refine z_goto (tgt := 27) F (dX0_isFoot_0 11 rfl) rfl ?_
      cases hf
      exact z_zret [0, 1, 2, 3, 4, 5] F E (dX0_isFoot_0 13 rfl) (Or.inr rfl) rfl (by decide) hQ
set_option maxRecDepth 20000 in
set_option maxHeartbeats 2000000 in
theorem k_X0_isFoot (l : Launch) (D : va_G) (aI aZ : ClassId) (q_t q_t_bytes q_t_numbersOfLines q_t_crossings q_t_nextInks q_t_gaps : Nat) (t_bytes : (Nat → Int)) (t_numbersOfLines : (Nat → Int)) (t_plainCount : Int) (t_rules : Int) (t_firstRule : Int) (t_lastRule : Int) (t_headed : Int) (t_footed : Int) (t_width : Int) (t_crossings : (Nat → Int)) (t_nextInks : (Nat → Int)) (t_gaps : (Nat → Int)) (v1 : Int) {R : Int} (hf : f_X0_isFoot t_numbersOfLines t_lastRule t_footed v1 = some R) : zC l D aI aZ yX0_isFoot wsX0_isFoot rmX0_isFoot [.ref q_t, .int (zI v1)] (wX0 aI q_t q_t_bytes q_t_numbersOfLines q_t_crossings q_t_nextInks q_t_gaps t_bytes t_numbersOfLines t_plainCount t_rules t_firstRule t_lastRule t_headed t_footed t_width t_crossings t_nextInks t_gaps) (fun r w => r = (some (.int (zI R))) ∧ w = wX0 aI q_t q_t_bytes q_t_numbersOfLines q_t_crossings q_t_nextInks q_t_gaps t_bytes t_numbersOfLines t_plainCount t_rules t_firstRule t_lastRule t_headed t_footed t_width t_crossings t_nextInks t_gaps) 0 0 := by
  refine z_met (cc := cX0_isFoot) (maxL := 2) (ret := (some .boolean)) (by decide +kernel) rfl (Nat.le_of_ble_eq_true rfl) (fun X hX F E => ?_)
  exact b_X0_isFoot_0 F E q_t q_t_bytes q_t_numbersOfLines q_t_crossings q_t_nextInks q_t_gaps t_bytes t_numbersOfLines t_plainCount t_rules t_firstRule t_lastRule t_headed t_footed t_width t_crossings t_nextInks t_gaps v1 ⟨rfl, rfl⟩ hf
theorem inw_X0_crossingCost_0 : ∀ w ∈ u_ws RX0 TX0 12, w ∈ wsX0_crossingCost := by decide +kernel
theorem fl_X0_crossingCost_18 : zfl wsX0_crossingCost RX0 18 0 9 RX0 TX0 12 := ⟨inw_X0_crossingCost_0, rfl, by decide, by decide +kernel⟩
theorem sw1_X0_crossingCost_X5_pick : Cond.static yX5_pick ∈ wsX0_crossingCost := by decide +kernel
theorem sw2_X0_crossingCost_X5_pick : Cond.initialized yX5_pick.cls ∈ wsX0_crossingCost := by decide +kernel
abbrev rmX0_crossingCost : Room := { frames := 1, cells := 0, slots := 0, locals := 21 }
theorem mX0_crossingCost : zY yX0_crossingCost cX0_crossingCost 2 (some .int) wsX0_crossingCost 1 := ⟨⟨_, rfl⟩, by decide +kernel, by decide +kernel, by decide +kernel⟩
set_option maxRecDepth 20000 in
set_option maxHeartbeats 2000000 in
theorem b_X0_crossingCost_0 {X : zX} {D : va_G} {aI aZ : ClassId} {w0 : va_W} {Qp : Option Value → va_W → Prop} (F : zF X D aI aZ cX0_crossingCost 2 RX0 wsX0_crossingCost rmX0_crossingCost) (E : zT X D w0 Qp 0 0 (some .int)) (q_t q_t_bytes q_t_numbersOfLines q_t_crossings q_t_nextInks q_t_gaps : Nat) (t_bytes : (Nat → Int)) (t_numbersOfLines : (Nat → Int)) (t_plainCount : Int) (t_rules : Int) (t_firstRule : Int) (t_lastRule : Int) (t_headed : Int) (t_footed : Int) (t_width : Int) (t_crossings : (Nat → Int)) (t_nextInks : (Nat → Int)) (t_gaps : (Nat → Int)) (v1 : Int) {R : Int} (hQ : Qp (some (.int (zI R))) (wX0 aI q_t q_t_bytes q_t_numbersOfLines q_t_crossings q_t_nextInks q_t_gaps t_bytes t_numbersOfLines t_plainCount t_rules t_firstRule t_lastRule t_headed t_footed t_width t_crossings t_nextInks t_gaps)) (hf : f_X0_crossingCost t_crossings v1 = some R) : zG X D 0 0 (wX0 aI q_t q_t_bytes q_t_numbersOfLines q_t_crossings q_t_nextInks q_t_gaps t_bytes t_numbersOfLines t_plainCount t_rules t_firstRule t_lastRule t_headed t_footed t_width t_crossings t_nextInks t_gaps) 0 [(0, .ref q_t), (1, .int (zI v1))] [] := by
  unfold f_X0_crossingCost at hf
  refine z_aload_n 0 F (dX0_crossingCost_0 0 rfl) rfl ?_
  refine z_get (v := .ref q_t_crossings) 0 F (dX0_crossingCost_0 1 rfl) fl_X0_crossingCost_18 rfl rfl ?_
  refine z_iload_n 1 F (dX0_crossingCost_0 2 rfl) rfl ?_
  obtain ⟨o_1, h_2, hf⟩ := zb_some hf
  refine z_callN (As := [.ref q_t_crossings, .int (zI v1)]) (rest := []) (wr := [(q_t, .inr (0, [.ref q_t_bytes, .ref q_t_numbersOfLines, .int (zI t_plainCount), .int (zI t_rules), .int (zI t_firstRule), .int (zI t_lastRule), .int (zI t_headed), .int (zI t_footed), .int (zI t_width), .ref q_t_crossings, .ref q_t_nextInks, .ref q_t_gaps]))] ++ ([(q_t_bytes, .inl (aI, 1440, .inl (fun j => zI (t_bytes j))))] ++ ([(q_t_numbersOfLines, .inl (aI, 24, .inl (fun j => zI (t_numbersOfLines j))))] ++ ([(q_t_nextInks, .inl (aI, 61, .inl (fun j => zI (t_nextInks j))))] ++ [(q_t_gaps, .inl (aI, 3721, .inl (fun j => zI (t_gaps j))))])))) F (dX0_crossingCost_0 3 rfl) (k_X5_pick (zL X) D aI aZ q_t_crossings 61 (by decide) t_crossings v1 h_2) gX0_crossingCost_X5_pick_n74 mX5_pick nst_X0_X5_pick sw1_X0_crossingCost_X5_pick sw2_X0_crossingCost_X5_pick [3] [0, 1, 2, 4, 5] rfl rfl (by decide) rfl rfl (Nat.le_of_ble_eq_true rfl) ⟨Nat.le_of_ble_eq_true rfl, Nat.le_of_ble_eq_true rfl⟩ ⟨rfl, rfl⟩ ⟨Nat.le_of_ble_eq_true rfl, Nat.le_of_ble_eq_true rfl⟩ (z_plain (ws' := wX0 aI q_t q_t_bytes q_t_numbersOfLines q_t_crossings q_t_nextInks q_t_gaps t_bytes t_numbersOfLines t_plainCount t_rules t_firstRule t_lastRule t_headed t_footed t_width t_crossings t_nextInks t_gaps) (st' := [.int (zI o_1)]) [0, 1, 2, 5, 3, 4] rfl (by decide) rfl ?_)
  cases hf
  exact z_iret [0, 1, 2, 3, 4, 5] F E (dX0_crossingCost_0 4 rfl) rfl (by decide) hQ
set_option maxRecDepth 20000 in
set_option maxHeartbeats 2000000 in
theorem k_X0_crossingCost (l : Launch) (D : va_G) (aI aZ : ClassId) (q_t q_t_bytes q_t_numbersOfLines q_t_crossings q_t_nextInks q_t_gaps : Nat) (t_bytes : (Nat → Int)) (t_numbersOfLines : (Nat → Int)) (t_plainCount : Int) (t_rules : Int) (t_firstRule : Int) (t_lastRule : Int) (t_headed : Int) (t_footed : Int) (t_width : Int) (t_crossings : (Nat → Int)) (t_nextInks : (Nat → Int)) (t_gaps : (Nat → Int)) (v1 : Int) {R : Int} (hf : f_X0_crossingCost t_crossings v1 = some R) : zC l D aI aZ yX0_crossingCost wsX0_crossingCost rmX0_crossingCost [.ref q_t, .int (zI v1)] (wX0 aI q_t q_t_bytes q_t_numbersOfLines q_t_crossings q_t_nextInks q_t_gaps t_bytes t_numbersOfLines t_plainCount t_rules t_firstRule t_lastRule t_headed t_footed t_width t_crossings t_nextInks t_gaps) (fun r w => r = (some (.int (zI R))) ∧ w = wX0 aI q_t q_t_bytes q_t_numbersOfLines q_t_crossings q_t_nextInks q_t_gaps t_bytes t_numbersOfLines t_plainCount t_rules t_firstRule t_lastRule t_headed t_footed t_width t_crossings t_nextInks t_gaps) 0 0 := by
  refine z_met (cc := cX0_crossingCost) (maxL := 2) (ret := (some .int)) (by decide +kernel) rfl (Nat.le_of_ble_eq_true rfl) (fun X hX F E => ?_)
  exact b_X0_crossingCost_0 F E q_t q_t_bytes q_t_numbersOfLines q_t_crossings q_t_nextInks q_t_gaps t_bytes t_numbersOfLines t_plainCount t_rules t_firstRule t_lastRule t_headed t_footed t_width t_crossings t_nextInks t_gaps v1 ⟨rfl, rfl⟩ hf
theorem inw_X0_columnCost_0 : ∀ w ∈ u_ws RX0 TX0 12, w ∈ wsX0_columnCost := by decide +kernel
theorem fl_X0_columnCost_21 : zfl wsX0_columnCost RX0 21 0 10 RX0 TX0 12 := ⟨inw_X0_columnCost_0, rfl, by decide, by decide +kernel⟩
theorem sw1_X0_columnCost_X5_pick : Cond.static yX5_pick ∈ wsX0_columnCost := by decide +kernel
theorem sw2_X0_columnCost_X5_pick : Cond.initialized yX5_pick.cls ∈ wsX0_columnCost := by decide +kernel
abbrev rmX0_columnCost : Room := { frames := 2, cells := 0, slots := 0, locals := 43 }
theorem mX0_columnCost : zY yX0_columnCost cX0_columnCost 4 (some .int) wsX0_columnCost 2 := ⟨⟨_, rfl⟩, by decide +kernel, by decide +kernel, by decide +kernel⟩
set_option maxRecDepth 20000 in
set_option maxHeartbeats 2000000 in
theorem b_X0_columnCost_j18 {X : zX} {D : va_G} {aI aZ : ClassId} {w0 : va_W} {Qp : Option Value → va_W → Prop} (F : zF X D aI aZ cX0_columnCost 4 RX0 wsX0_columnCost rmX0_columnCost) (E : zT X D w0 Qp 0 0 (some .int)) (q_t q_t_bytes q_t_numbersOfLines q_t_crossings q_t_nextInks q_t_gaps : Nat) (s0 : Int) (v1 : Int) (v2 : Int) (t_bytes : (Nat → Int)) (t_numbersOfLines : (Nat → Int)) (t_plainCount : Int) (t_rules : Int) (t_firstRule : Int) (t_lastRule : Int) (t_headed : Int) (t_footed : Int) (t_width : Int) (t_crossings : (Nat → Int)) (t_nextInks : (Nat → Int)) (t_gaps : (Nat → Int)) {R : Int} (hQ : Qp (some (.int (zI R))) (wX0 aI q_t q_t_bytes q_t_numbersOfLines q_t_crossings q_t_nextInks q_t_gaps t_bytes t_numbersOfLines t_plainCount t_rules t_firstRule t_lastRule t_headed t_footed t_width t_crossings t_nextInks t_gaps)) (hf : f_X0_columnCost_j18 s0 v1 v2 t_gaps = some R) : zG X D 0 0 (wX0 aI q_t q_t_bytes q_t_numbersOfLines q_t_crossings q_t_nextInks q_t_gaps t_bytes t_numbersOfLines t_plainCount t_rules t_firstRule t_lastRule t_headed t_footed t_width t_crossings t_nextInks t_gaps) 18 [(0, .ref q_t), (1, .int (zI v1)), (2, .int (zI v2))] [.int (zI s0)] := by
  unfold f_X0_columnCost_j18 at hf
  refine z_istore_n (lv' := [(3, .int (zI s0)), (0, .ref q_t), (1, .int (zI v1)), (2, .int (zI v2))]) F (dX0_columnCost_0 9 rfl) (by decide) rfl ?_
  refine z_iconst F (dX0_columnCost_0 10 rfl) ?_
  refine z_iload_n 0 F (dX0_columnCost_0 11 rfl) rfl ?_
  refine z_iadd F (dX0_columnCost_0 12 rfl) ?_
  refine z_iconst F (dX0_columnCost_0 13 rfl) ?_
  refine z_aload_n 1 F (dX0_columnCost_0 14 rfl) rfl ?_
  refine z_iload_n 2 F (dX0_columnCost_0 15 rfl) rfl ?_
  refine z_iload_n 3 F (dX0_columnCost_0 16 rfl) rfl ?_
  obtain ⟨o_3, h_4, hf⟩ := zb_some hf
  refine z_callV (As := [.int (zI v1), .int (zI v2)]) (rest := [.int (zI 3), .int (zI (2 + s0))]) (wr := []) F (dX0_columnCost_0 17 rfl) (k_X0_gapsIn (zL X) D aI aZ q_t q_t_bytes q_t_numbersOfLines q_t_crossings q_t_nextInks q_t_gaps t_bytes t_numbersOfLines t_plainCount t_rules t_firstRule t_lastRule t_headed t_footed t_width t_crossings t_nextInks t_gaps v1 v2 h_4) gX0_columnCost_X0_gapsIn mX0_gapsIn rfl (ci := 0) rfl [0, 1, 2, 3, 4, 5] [] 0 rfl rfl rfl (by decide) rfl rfl (Nat.le_of_ble_eq_true rfl) ⟨Nat.le_of_ble_eq_true rfl, Nat.le_of_ble_eq_true rfl⟩ ⟨rfl, rfl⟩ ⟨Nat.le_of_ble_eq_true rfl, Nat.le_of_ble_eq_true rfl⟩ (z_plain (ws' := wX0 aI q_t q_t_bytes q_t_numbersOfLines q_t_crossings q_t_nextInks q_t_gaps t_bytes t_numbersOfLines t_plainCount t_rules t_firstRule t_lastRule t_headed t_footed t_width t_crossings t_nextInks t_gaps) (st' := [.int (zI o_3), .int (zI 3), .int (zI (2 + s0))]) [0, 1, 2, 3, 4, 5] rfl (by decide) rfl ?_)
  refine z_imul F (dX0_columnCost_0 18 rfl) ?_
  refine z_iadd F (dX0_columnCost_0 19 rfl) ?_
  cases hf
  exact z_iret [0, 1, 2, 3, 4, 5] F E (dX0_columnCost_0 20 rfl) rfl (by decide) hQ
set_option maxRecDepth 20000 in
set_option maxHeartbeats 2000000 in
theorem b_X0_columnCost_0 {X : zX} {D : va_G} {aI aZ : ClassId} {w0 : va_W} {Qp : Option Value → va_W → Prop} (F : zF X D aI aZ cX0_columnCost 4 RX0 wsX0_columnCost rmX0_columnCost) (E : zT X D w0 Qp 0 0 (some .int)) (q_t q_t_bytes q_t_numbersOfLines q_t_crossings q_t_nextInks q_t_gaps : Nat) (t_bytes : (Nat → Int)) (t_numbersOfLines : (Nat → Int)) (t_plainCount : Int) (t_rules : Int) (t_firstRule : Int) (t_lastRule : Int) (t_headed : Int) (t_footed : Int) (t_width : Int) (t_crossings : (Nat → Int)) (t_nextInks : (Nat → Int)) (t_gaps : (Nat → Int)) (v1 : Int) (v2 : Int) {R : Int} (hQ : Qp (some (.int (zI R))) (wX0 aI q_t q_t_bytes q_t_numbersOfLines q_t_crossings q_t_nextInks q_t_gaps t_bytes t_numbersOfLines t_plainCount t_rules t_firstRule t_lastRule t_headed t_footed t_width t_crossings t_nextInks t_gaps)) (hf : f_X0_columnCost t_nextInks t_gaps v1 v2 = some R) : zG X D 0 0 (wX0 aI q_t q_t_bytes q_t_numbersOfLines q_t_crossings q_t_nextInks q_t_gaps t_bytes t_numbersOfLines t_plainCount t_rules t_firstRule t_lastRule t_headed t_footed t_width t_crossings t_nextInks t_gaps) 0 [(0, .ref q_t), (1, .int (zI v1)), (2, .int (zI v2))] [] := by
  unfold f_X0_columnCost at hf
  refine z_aload_n 0 F (dX0_columnCost_0 0 rfl) rfl ?_
  refine z_get (v := .ref q_t_nextInks) 0 F (dX0_columnCost_0 1 rfl) fl_X0_columnCost_21 rfl rfl ?_
  refine z_iload_n 1 F (dX0_columnCost_0 2 rfl) rfl ?_
  obtain ⟨o_1, h_2, hf⟩ := zb_some hf
  refine z_callN (As := [.ref q_t_nextInks, .int (zI v1)]) (rest := []) (wr := [(q_t, .inr (0, [.ref q_t_bytes, .ref q_t_numbersOfLines, .int (zI t_plainCount), .int (zI t_rules), .int (zI t_firstRule), .int (zI t_lastRule), .int (zI t_headed), .int (zI t_footed), .int (zI t_width), .ref q_t_crossings, .ref q_t_nextInks, .ref q_t_gaps]))] ++ ([(q_t_bytes, .inl (aI, 1440, .inl (fun j => zI (t_bytes j))))] ++ ([(q_t_numbersOfLines, .inl (aI, 24, .inl (fun j => zI (t_numbersOfLines j))))] ++ ([(q_t_crossings, .inl (aI, 61, .inl (fun j => zI (t_crossings j))))] ++ [(q_t_gaps, .inl (aI, 3721, .inl (fun j => zI (t_gaps j))))])))) F (dX0_columnCost_0 3 rfl) (k_X5_pick (zL X) D aI aZ q_t_nextInks 61 (by decide) t_nextInks v1 h_2) gX0_columnCost_X5_pick_n74 mX5_pick nst_X0_X5_pick sw1_X0_columnCost_X5_pick sw2_X0_columnCost_X5_pick [4] [0, 1, 2, 3, 5] rfl rfl (by decide) rfl rfl (Nat.le_of_ble_eq_true rfl) ⟨Nat.le_of_ble_eq_true rfl, Nat.le_of_ble_eq_true rfl⟩ ⟨rfl, rfl⟩ ⟨Nat.le_of_ble_eq_true rfl, Nat.le_of_ble_eq_true rfl⟩ (z_plain (ws' := wX0 aI q_t q_t_bytes q_t_numbersOfLines q_t_crossings q_t_nextInks q_t_gaps t_bytes t_numbersOfLines t_plainCount t_rules t_firstRule t_lastRule t_headed t_footed t_width t_crossings t_nextInks t_gaps) (st' := [.int (zI o_1)]) [0, 1, 2, 3, 5, 4] rfl (by decide) rfl ?_)
  refine z_iload_n 2 F (dX0_columnCost_0 4 rfl) rfl ?_
  refine z_icmp_lt (tgt := 17) F (dX0_columnCost_0 5 rfl) rfl (fun c9 => ?_) (fun c9 => ?_)
  · replace hf := zif_t c9 hf
    refine z_iconst F (dX0_columnCost_0 8 rfl) ?_
    exact b_X0_columnCost_j18 F E q_t q_t_bytes q_t_numbersOfLines q_t_crossings q_t_nextInks q_t_gaps 0 v1 v2 t_bytes t_numbersOfLines t_plainCount t_rules t_firstRule t_lastRule t_headed t_footed t_width t_crossings t_nextInks t_gaps hQ hf
  · replace hf := zif_f c9 hf
    refine z_bipush F (dX0_columnCost_0 6 rfl) rfl ?_
    refine z_goto (tgt := 18) F (dX0_columnCost_0 7 rfl) rfl ?_
    exact b_X0_columnCost_j18 F E q_t q_t_bytes q_t_numbersOfLines q_t_crossings q_t_nextInks q_t_gaps 20 v1 v2 t_bytes t_numbersOfLines t_plainCount t_rules t_firstRule t_lastRule t_headed t_footed t_width t_crossings t_nextInks t_gaps hQ hf
set_option maxRecDepth 20000 in
set_option maxHeartbeats 2000000 in
theorem k_X0_columnCost (l : Launch) (D : va_G) (aI aZ : ClassId) (q_t q_t_bytes q_t_numbersOfLines q_t_crossings q_t_nextInks q_t_gaps : Nat) (t_bytes : (Nat → Int)) (t_numbersOfLines : (Nat → Int)) (t_plainCount : Int) (t_rules : Int) (t_firstRule : Int) (t_lastRule : Int) (t_headed : Int) (t_footed : Int) (t_width : Int) (t_crossings : (Nat → Int)) (t_nextInks : (Nat → Int)) (t_gaps : (Nat → Int)) (v1 : Int) (v2 : Int) {R : Int} (hf : f_X0_columnCost t_nextInks t_gaps v1 v2 = some R) : zC l D aI aZ yX0_columnCost wsX0_columnCost rmX0_columnCost [.ref q_t, .int (zI v1), .int (zI v2)] (wX0 aI q_t q_t_bytes q_t_numbersOfLines q_t_crossings q_t_nextInks q_t_gaps t_bytes t_numbersOfLines t_plainCount t_rules t_firstRule t_lastRule t_headed t_footed t_width t_crossings t_nextInks t_gaps) (fun r w => r = (some (.int (zI R))) ∧ w = wX0 aI q_t q_t_bytes q_t_numbersOfLines q_t_crossings q_t_nextInks q_t_gaps t_bytes t_numbersOfLines t_plainCount t_rules t_firstRule t_lastRule t_headed t_footed t_width t_crossings t_nextInks t_gaps) 0 0 := by
  refine z_met (cc := cX0_columnCost) (maxL := 4) (ret := (some .int)) (by decide +kernel) rfl (Nat.le_of_ble_eq_true rfl) (fun X hX F E => ?_)
  exact b_X0_columnCost_0 F E q_t q_t_bytes q_t_numbersOfLines q_t_crossings q_t_nextInks q_t_gaps t_bytes t_numbersOfLines t_plainCount t_rules t_firstRule t_lastRule t_headed t_footed t_width t_crossings t_nextInks t_gaps v1 v2 ⟨rfl, rfl⟩ hf
