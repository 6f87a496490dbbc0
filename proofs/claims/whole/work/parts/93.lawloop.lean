/-! the law: its loop, its start -/
set_option maxRecDepth 20000 in
set_option maxHeartbeats 4000000 in
theorem law_step {X : zX} {D : va_G} {aI aZ : ClassId} {b L q_t q_m k n : Nat} {xs : Nat → Int32} (F : zF X D aI aZ cL_law 4 RL wsL_law room_1) (SC : zSc X b L xs) (hL : L ≤ 2560) (hk : k + 0 ≤ room_1.cells ∧ n + 0 ≤ room_1.slots) (hend : ∀ (w : va_W) (i : Int), zInv aI aZ q_t q_m w → zG X D k n w 661 [(3, .int (zI i)), (2, .ref q_m), (1, .ref q_t), (0, .ref b)] []) {i : Int} {w : va_W} (hi : 0 ≤ i ∧ i ≤ 2600) (hw : zInv aI aZ q_t q_m w) (hgo : i + 5 ≤ (L : Int) → ∀ w', zInv aI aZ q_t q_m w' → zG X D k n w' 655 [(3, .int (zI i)), (2, .ref q_m), (1, .ref q_t), (0, .ref b)] []) : zG X D k n w 18 [(3, .int (zI i)), (2, .ref q_m), (1, .ref q_t), (0, .ref b)] [] := by
  refine z_iload_n (x := i) 0 F (dL_law_0 10 rfl) rfl ?_
  refine z_aload_n 3 F (dL_law_0 11 rfl) rfl ?_
  refine z_slen F SC (dL_law_0 12 rfl) ?_
  refine z_iconst F (dL_law_0 13 rfl) ?_
  refine z_isub F (dL_law_0 14 rfl) ?_
  refine z_icmp_gt F (dL_law_0 15 rfl) (tgt := 661) rfl (fun h => hend w i hw) (fun h => ?_)
  rw [mlt (by omega)] at h
  have hi2 : 0 ≤ i ∧ i + 5 ≤ (L : Int) := by omega
  refine z_aload_n 3 F (dL_law_0 16 rfl) rfl ?_
  refine z_iload_n (x := i) 0 F (dL_law_0 17 rfl) rfl ?_
  refine z_sld (i := i) F SC (dL_law_0 18 rfl) (by omega) hL rfl ?_
  refine z_bipush F (dL_law_0 19 rfl) (by decide) ?_
  refine z_iand F (dL_law_0 20 rfl) ?_
  generalize zand (xs i.toNat).toInt 31 = v
  by_cases h0 : zI v = zI (0 + ((0 : Nat) : Int))
  · exact z_tsin (tgt := 120) 0 F dtL_law_32 h0 rfl rfl (by decide) (by decide) (by decide) (lc_type F SC hL hi2 hk hw (hgo hi2.2))
  by_cases h1 : zI v = zI (0 + ((1 : Nat) : Int))
  · exact z_tsin (tgt := 183) 1 F dtL_law_32 h1 rfl rfl (by decide) (by decide) (by decide) (lc_line F SC hL hi2 hk hw (hgo hi2.2))
  by_cases h2 : zI v = zI (0 + ((2 : Nat) : Int))
  · exact z_tsin (tgt := 196) 2 F dtL_law_32 h2 rfl rfl (by decide) (by decide) (by decide) (lc_clear F SC hL hi2 hk hw (hgo hi2.2))
  by_cases h3 : zI v = zI (0 + ((3 : Nat) : Int))
  · exact z_tsin (tgt := 209) 3 F dtL_law_32 h3 rfl rfl (by decide) (by decide) (by decide) (lc_at F SC hL hi2 hk hw (hgo hi2.2))
  by_cases h4 : zI v = zI (0 + ((4 : Nat) : Int))
  · exact z_tsin (tgt := 242) 4 F dtL_law_32 h4 rfl rfl (by decide) (by decide) (by decide) (lc_kind F SC hL hi2 hk hw (hgo hi2.2))
  by_cases h5 : zI v = zI (0 + ((5 : Nat) : Int))
  · exact z_tsin (tgt := 265) 5 F dtL_law_32 h5 rfl rfl (by decide) (by decide) (by decide) (lc_set F SC hL hi2 hk hw (hgo hi2.2))
  by_cases h6 : zI v = zI (0 + ((6 : Nat) : Int))
  · exact z_tsin (tgt := 308) 6 F dtL_law_32 h6 rfl rfl (by decide) (by decide) (by decide) (lc_cost F SC hL hi2 hk hw (hgo hi2.2))
  by_cases h7 : zI v = zI (0 + ((7 : Nat) : Int))
  · exact z_tsin (tgt := 361) 7 F dtL_law_32 h7 rfl rfl (by decide) (by decide) (by decide) (lc_find F SC hL hi2 hk hw (hgo hi2.2))
  by_cases h8 : zI v = zI (0 + ((8 : Nat) : Int))
  · exact z_tsin (tgt := 394) 8 F dtL_law_32 h8 rfl rfl (by decide) (by decide) (by decide) (lc_more F SC hL hi2 hk hw (hgo hi2.2))
  by_cases h9 : zI v = zI (0 + ((9 : Nat) : Int))
  · exact z_tsin (tgt := 427) 9 F dtL_law_32 h9 rfl rfl (by decide) (by decide) (by decide) (lc_told F SC hL hi2 hk hw (hgo hi2.2))
  by_cases h10 : zI v = zI (0 + ((10 : Nat) : Int))
  · exact z_tsin (tgt := 450) 10 F dtL_law_32 h10 rfl rfl (by decide) (by decide) (by decide) (lc_cutAt F SC hL hi2 hk hw (hgo hi2.2))
  by_cases h11 : zI v = zI (0 + ((11 : Nat) : Int))
  · exact z_tsin (tgt := 473) 11 F dtL_law_32 h11 rfl rfl (by decide) (by decide) (by decide) (lc_size F SC hL hi2 hk hw (hgo hi2.2))
  by_cases h12 : zI v = zI (0 + ((12 : Nat) : Int))
  · exact z_tsin (tgt := 496) 12 F dtL_law_32 h12 rfl rfl (by decide) (by decide) (by decide) (lc_cell F SC hL hi2 hk hw (hgo hi2.2))
  by_cases h13 : zI v = zI (0 + ((13 : Nat) : Int))
  · exact z_tsin (tgt := 539) 13 F dtL_law_32 h13 rfl rfl (by decide) (by decide) (by decide) (lc_value F SC hL hi2 hk hw (hgo hi2.2))
  by_cases h14 : zI v = zI (0 + ((14 : Nat) : Int))
  · exact z_tsin (tgt := 572) 14 F dtL_law_32 h14 rfl rfl (by decide) (by decide) (by decide) (lc_numbers F SC hL hi2 hk hw (hgo hi2.2))
  by_cases h15 : zI v = zI (0 + ((15 : Nat) : Int))
  · exact z_tsin (tgt := 595) 15 F dtL_law_32 h15 rfl rfl (by decide) (by decide) (by decide) (lc_sum F SC hL hi2 hk hw (hgo hi2.2))
  by_cases h16 : zI v = zI (0 + ((16 : Nat) : Int))
  · exact z_tsin (tgt := 619) 16 F dtL_law_32 h16 rfl rfl (by decide) (by decide) (by decide) (lc_agrees F SC hL hi2 hk hw (hgo hi2.2))
  by_cases h17 : zI v = zI (0 + ((17 : Nat) : Int))
  · exact z_tsin (tgt := 642) 17 F dtL_law_32 h17 rfl rfl (by decide) (by decide) (by decide) (lc_lay F SC hL hi2 hk hw (hgo hi2.2))
  refine z_tsout (tgt := 655) F dtL_law_32 (z_tsno (fun j hj => ?_)) rfl (hgo hi2.2 w hw)
  have hj2 : j = 0 ∨ j = 1 ∨ j = 2 ∨ j = 3 ∨ j = 4 ∨ j = 5 ∨ j = 6 ∨ j = 7 ∨ j = 8 ∨ j = 9 ∨ j = 10 ∨ j = 11 ∨ j = 12 ∨ j = 13 ∨ j = 14 ∨ j = 15 ∨ j = 16 ∨ j = 17 := by omega
  rcases hj2 with e | e | e | e | e | e | e | e | e | e | e | e | e | e | e | e | e | e <;> subst e
  · exact h0
  · exact h1
  · exact h2
  · exact h3
  · exact h4
  · exact h5
  · exact h6
  · exact h7
  · exact h8
  · exact h9
  · exact h10
  · exact h11
  · exact h12
  · exact h13
  · exact h14
  · exact h15
  · exact h16
  · exact h17
set_option maxRecDepth 20000 in
set_option maxHeartbeats 4000000 in
theorem law_loop {X : zX} {D : va_G} {aI aZ : ClassId} {b L q_t q_m k n : Nat} {xs : Nat → Int32} (F : zF X D aI aZ cL_law 4 RL wsL_law room_1) (SC : zSc X b L xs) (hL : L ≤ 2560) (hk : k + 0 ≤ room_1.cells ∧ n + 0 ≤ room_1.slots) (hend : ∀ (w : va_W) (i : Int), zInv aI aZ q_t q_m w → zG X D k n w 661 [(3, .int (zI i)), (2, .ref q_m), (1, .ref q_t), (0, .ref b)] []) : ∀ (f : Nat) (i : Int) (w : va_W), 0 ≤ i → i ≤ 2600 → (L : Int) ≤ i + (f : Int) → zInv aI aZ q_t q_m w → zG X D k n w 18 [(3, .int (zI i)), (2, .ref q_m), (1, .ref q_t), (0, .ref b)] [] := by
  intro f
  induction f with
  | zero =>
    intro i w h1 h2 h3 hw
    exact law_step F SC hL hk hend ⟨h1, h2⟩ hw (fun h => by omega)
  | succ f ih =>
    intro i w h1 h2 h3 hw
    refine law_step F SC hL hk hend ⟨h1, h2⟩ hw (fun h w' hw' => ?_)
    refine z_iinc (lv' := [(3, .int (zI (i + 5))), (2, .ref q_m), (1, .ref q_t), (0, .ref b)]) 0 F (dL_law_11 2 rfl) rfl (by decide) rfl ?_
    exact z_goto F (dL_law_11 3 rfl) (tgt := 18) rfl (ih (i + 5) w' (by omega) (by omega) (by omega) hw')
set_option maxRecDepth 20000 in
set_option maxHeartbeats 4000000 in
theorem law_start {X : zX} {D : va_G} {aI aZ : ClassId} {b L : Nat} {xs : Nat → Int32} (F : zF X D aI aZ cL_law 4 RL wsL_law room_1) (SC : zSc X b L xs) (hL : L ≤ 2560) (hend : ∀ (w : va_W) (i : Int) (q_t q_m : Nat), zG X D 45 97052 w 661 [(3, .int (zI i)), (2, .ref q_m), (1, .ref q_t), (0, .ref b)] []) : zG X D 0 0 [] 0 [(0, .ref b)] [] := by
  refine z_new (ci := 5) (fs := [.null, .int (zI 0), .null, .null, .null, .null, .null, .null, .null]) F (dL_law_0 0 rfl) inlX5 tyX5_ok (by decide +kernel) (by decide +kernel) (by decide +kernel) rfl dfX5 ⟨Nat.le_of_ble_eq_true rfl, Nat.le_of_ble_eq_true rfl⟩ (fun q_t => ?_)
  refine z_dup F (dL_law_0 1 rfl) rfl ?_
  refine z_callI (rest := [.ref q_t]) (wc := [(q_t, .inr (5, [.null, .int (zI 0), .null, .null, .null, .null, .null, .null, .null]))]) (wr := []) F (dL_law_0 2 rfl) (k_X5_init (zL X) D aI aZ q_t) gL_law_X5_init mX5_init rfl (by decide +kernel) (by decide +kernel) (by decide +kernel) [0] [] rfl rfl (by decide) (Nat.le_of_ble_eq_true rfl) ⟨Nat.le_of_ble_eq_true rfl, Nat.le_of_ble_eq_true rfl⟩ ⟨rfl, rfl⟩ ⟨Nat.le_of_ble_eq_true rfl, Nat.le_of_ble_eq_true rfl⟩ (fun rv w1 hq => ?_)
  obtain ⟨rfl, a1, u_pg, u_pg_bytes, u_pg_lengths, u_bl, u_bl_bytes, u_bl_numbersOfLines, u_bl_crossings, u_bl_nextInks, u_bl_gaps, u_se, u_se_least, u_se_second, u_se_firstCut, u_fo, u_fo_cuts, u_fc, u_fc_cuts, u_ta, u_ta_bytes, u_ta_lengths, u_ta_widths, u_ta_ofNumbers, u_tc, u_tc_bytes, u_tc_lengths, u_tc_widths, u_tc_ofNumbers, rfl⟩ := hq
  show zG X D _ _ (wX5 aI q_t a1 u_pg u_bl u_se u_fo u_fc u_ta u_tc (fun _ => 0) 0 ++ (wX2 aI u_pg u_pg_bytes u_pg_lengths (fun _ => 0) (fun _ => 0) 0 ++ (wX0 aI u_bl u_bl_bytes u_bl_numbersOfLines u_bl_crossings u_bl_nextInks u_bl_gaps (fun _ => 0) (fun _ => 0) 0 0 0 0 0 0 0 (fun _ => 0) (fun _ => 0) (fun _ => 0) ++ (wX3 aI u_se u_se_least u_se_second u_se_firstCut (fun _ => 0) (fun _ => 0) (fun _ => 0) ++ (wX1 aI u_fo u_fo_cuts (fun _ => 0) 0 0 0 0 0 0 ++ (wX1 aI u_fc u_fc_cuts (fun _ => 0) 0 0 0 0 0 0 ++ (wX4 aI u_ta u_ta_bytes u_ta_lengths u_ta_widths u_ta_ofNumbers (fun _ => 0) (fun _ => 0) 0 0 (fun _ => 0) (fun _ => 0) 0 ++ wX4 aI u_tc u_tc_bytes u_tc_lengths u_tc_widths u_tc_ofNumbers (fun _ => 0) (fun _ => 0) 0 0 (fun _ => 0) (fun _ => 0) 0))))))) 7 [(0, .ref b)] [.ref q_t]
  refine z_astore_n (lv' := [(1, .ref q_t), (0, .ref b)]) F (dL_law_0 3 rfl) (by decide) rfl ?_
  refine z_new (ci := 6) (fs := [.null, .int (zI 0), .int (zI 0), .null, .null, .int (zI 0), .int (zI 0), .int (zI 0), .null, .null, .null, .null, .null, .int (zI 0), .int (zI 0), .int (zI 0), .null, .null, .null, .int (zI 0), .int (zI 0), .int (zI 0), .int (zI 0), .int (zI 0), .int (zI 0), .int (zI 0), .int (zI 0), .null, .null, .int (zI 0), .null, .int (zI 0), .null, .int (zI 0)]) F (dL_law_0 4 rfl) inlX6 tyX6_ok (by decide +kernel) (by decide +kernel) (by decide +kernel) rfl dfX6 ⟨Nat.le_of_ble_eq_true rfl, Nat.le_of_ble_eq_true rfl⟩ (fun q_m => ?_)
  refine z_dup F (dL_law_0 5 rfl) rfl ?_
  refine z_callI (rest := [.ref q_m]) (wc := [(q_m, .inr (6, [.null, .int (zI 0), .int (zI 0), .null, .null, .int (zI 0), .int (zI 0), .int (zI 0), .null, .null, .null, .null, .null, .int (zI 0), .int (zI 0), .int (zI 0), .null, .null, .null, .int (zI 0), .int (zI 0), .int (zI 0), .int (zI 0), .int (zI 0), .int (zI 0), .int (zI 0), .int (zI 0), .null, .null, .int (zI 0), .null, .int (zI 0), .null, .int (zI 0)]))]) (wr := wX5 aI q_t a1 u_pg u_bl u_se u_fo u_fc u_ta u_tc (fun _ => 0) 0 ++ (wX2 aI u_pg u_pg_bytes u_pg_lengths (fun _ => 0) (fun _ => 0) 0 ++ (wX0 aI u_bl u_bl_bytes u_bl_numbersOfLines u_bl_crossings u_bl_nextInks u_bl_gaps (fun _ => 0) (fun _ => 0) 0 0 0 0 0 0 0 (fun _ => 0) (fun _ => 0) (fun _ => 0) ++ (wX3 aI u_se u_se_least u_se_second u_se_firstCut (fun _ => 0) (fun _ => 0) (fun _ => 0) ++ (wX1 aI u_fo u_fo_cuts (fun _ => 0) 0 0 0 0 0 0 ++ (wX1 aI u_fc u_fc_cuts (fun _ => 0) 0 0 0 0 0 0 ++ (wX4 aI u_ta u_ta_bytes u_ta_lengths u_ta_widths u_ta_ofNumbers (fun _ => 0) (fun _ => 0) 0 0 (fun _ => 0) (fun _ => 0) 0 ++ wX4 aI u_tc u_tc_bytes u_tc_lengths u_tc_widths u_tc_ofNumbers (fun _ => 0) (fun _ => 0) 0 0 (fun _ => 0) (fun _ => 0) 0))))))) F (dL_law_0 6 rfl) (k_X6_init (zL X) D aI aZ q_m) gL_law_X6_init mX6_init rfl (by decide +kernel) (by decide +kernel) (by decide +kernel) [29] [0, 1, 2, 3, 4, 5, 6, 7, 8, 9, 10, 11, 12, 13, 14, 15, 16, 17, 18, 19, 20, 21, 22, 23, 24, 25, 26, 27, 28] rfl rfl (by decide) (Nat.le_of_ble_eq_true rfl) ⟨Nat.le_of_ble_eq_true rfl, Nat.le_of_ble_eq_true rfl⟩ ⟨rfl, rfl⟩ ⟨Nat.le_of_ble_eq_true rfl, Nat.le_of_ble_eq_true rfl⟩ (fun rv w1 hq => ?_)
  obtain ⟨rfl, v_tape, v_size, v_page, v_plain, v_least, v_other, v_columnCosts, v_cutCosts, v_cuts, v_newSize, v_newCell, v_cellSize, v_cells, v_tolds, v_foundCuts, rfl⟩ := hq
  show zG X D 45 97052 ((wX5 aI q_t a1 u_pg u_bl u_se u_fo u_fc u_ta u_tc (fun _ => 0) 0 ++ (wX2 aI u_pg u_pg_bytes u_pg_lengths (fun _ => 0) (fun _ => 0) 0 ++ (wX0 aI u_bl u_bl_bytes u_bl_numbersOfLines u_bl_crossings u_bl_nextInks u_bl_gaps (fun _ => 0) (fun _ => 0) 0 0 0 0 0 0 0 (fun _ => 0) (fun _ => 0) (fun _ => 0) ++ (wX3 aI u_se u_se_least u_se_second u_se_firstCut (fun _ => 0) (fun _ => 0) (fun _ => 0) ++ (wX1 aI u_fo u_fo_cuts (fun _ => 0) 0 0 0 0 0 0 ++ (wX1 aI u_fc u_fc_cuts (fun _ => 0) 0 0 0 0 0 0 ++ (wX4 aI u_ta u_ta_bytes u_ta_lengths u_ta_widths u_ta_ofNumbers (fun _ => 0) (fun _ => 0) 0 0 (fun _ => 0) (fun _ => 0) 0 ++ wX4 aI u_tc u_tc_bytes u_tc_lengths u_tc_widths u_tc_ofNumbers (fun _ => 0) (fun _ => 0) 0 0 (fun _ => 0) (fun _ => 0) 0))))))) ++ wX6 aI aZ q_m v_tape v_size v_page v_plain v_least v_other v_columnCosts v_cutCosts v_cuts v_newSize v_newCell v_cellSize v_cells v_tolds v_foundCuts (fun _ => 0) 0 0 (fun _ => 0) (fun _ => 0) 0 0 0 (fun _ => 0) (fun _ => 0) (fun _ => 0) (fun _ => 0) (fun _ => 0) 0 0 0 (fun _ => 0) (fun _ => 0) (fun _ => 0) 0 0 0 0 0 0 0 0 (fun _ => 0) (fun _ => 0) 0 (fun _ => 0) 0 (fun _ => 0) 0) 15 [(1, .ref q_t), (0, .ref b)] [.ref q_m]
  refine z_astore_n (lv' := [(2, .ref q_m), (1, .ref q_t), (0, .ref b)]) F (dL_law_0 7 rfl) (by decide) rfl ?_
  refine z_iconst F (dL_law_0 8 rfl) ?_
  refine z_istore_n (lv' := [(3, .int (zI 0)), (2, .ref q_m), (1, .ref q_t), (0, .ref b)]) F (dL_law_0 9 rfl) (by decide) rfl ?_
  have hTp0 : mTp (fun _ => 0) 0 (fun _ => 0) 0 := ⟨rfl, ⟨by decide, by decide⟩, fun i h1 h2 => by omega⟩
  have hPg0 : mPg (fun _ => 0) (fun _ => 0) 0 (fun _ => 0) (fun _ => 0) 0 := ⟨rfl, ⟨⟨by decide, by decide⟩, fun x x0 x1 => by omega⟩, fun x x0 x1 => by omega⟩
  have hFo0 : mFo (fun _ => 0) 0 0 0 0 0 0 0 (fun _ => 0) 0 (fun _ => 0) := Or.inl ⟨rfl, rfl⟩
  have hTab0 : mTab (fun _ => 0) (fun _ => 0) 0 0 0 0 0 (fun _ => 0) (fun _ => 0) := Or.inl ⟨rfl, rfl, rfl⟩
  exact law_loop F SC hL ⟨Nat.le_of_ble_eq_true rfl, Nat.le_of_ble_eq_true rfl⟩ (fun w i _ => hend w i q_t q_m) L 0 _ (Int.le_refl _) (by decide) (by omega) ⟨zat 0 [a1, u_pg, u_pg_bytes, u_pg_lengths, u_bl, u_bl_bytes, u_bl_numbersOfLines, u_bl_crossings, u_bl_nextInks, u_bl_gaps, u_se, u_se_least, u_se_second, u_se_firstCut, u_fo, u_fo_cuts, u_fc, u_fc_cuts, u_ta, u_ta_bytes, u_ta_lengths, u_ta_widths, u_ta_ofNumbers, u_tc, u_tc_bytes, u_tc_lengths, u_tc_widths, u_tc_ofNumbers, v_tape, v_size, v_page, v_plain, v_least, v_other, v_columnCosts, v_cutCosts, v_cuts, v_newSize, v_newCell, v_cellSize, v_cells, v_tolds, v_foundCuts], fun _ _ => 0, fun _ => 0, rfl, hTp0, hPg0, hFo0, hTab0⟩
