/-! calls of the law -/
set_option maxRecDepth 20000 in
set_option maxHeartbeats 4000000 in
theorem lc_cost {X : zX} {D : va_G} {aI aZ : ClassId} {b L q_t q_m k n : Nat} {xs : Nat → Int32} {w : va_W} {i : Int} (F : zF X D aI aZ cL_law 4 RL wsL_law room_1) (SC : zSc X b L xs) (hL : L ≤ 2560) (hi : 0 ≤ i ∧ i + 5 ≤ (L : Int)) (hk : k + 0 ≤ room_1.cells ∧ n + 0 ≤ room_1.slots) (hw : zInv aI aZ q_t q_m w) (g : ∀ w', zInv aI aZ q_t q_m w' → zG X D k n w' 655 [(3, .int (zI i)), (2, .ref q_m), (1, .ref q_t), (0, .ref b)] []) : zG X D k n w 308 [(3, .int (zI i)), (2, .ref q_m), (1, .ref q_t), (0, .ref b)] [] := by
  obtain ⟨a, f, v, rfl, hTp, hPg, hFo, hTab⟩ := hw
  obtain ⟨x1, e11⟩ : ∃ x, (xs (i + 1).toNat).toInt = x := ⟨_, rfl⟩
  have h1 : mW x1 := e11 ▸ mW_toInt _
  obtain ⟨x2, e12⟩ : ∃ x, (xs (i + 2).toNat).toInt = x := ⟨_, rfl⟩
  have h2 : mW x2 := e12 ▸ mW_toInt _
  obtain ⟨x3, e13⟩ : ∃ x, (xs (i + 3).toNat).toInt = x := ⟨_, rfl⟩
  have h3 : mW x3 := e13 ▸ mW_toInt _
  obtain ⟨x4, e14⟩ : ∃ x, (xs (i + 4).toNat).toInt = x := ⟨_, rfl⟩
  have h4 : mW x4 := e14 ▸ mW_toInt _
  obtain ⟨r, c1, c2, c3, c4, c5, c6, c7, c8, c9, c10, c11, c12, d1, d2, d3, d4, e5, e6, hr⟩ := p_cost (by0 := (f 3)) (nol0 := (f 4)) (cr0 := (f 5)) (nx0 := (f 6)) (g0 := (f 7)) (p0 := (f 24)) (x3 := (v 2)) (x4 := (v 3)) (x5 := (v 4)) (x6 := (v 5)) (x7 := (v 6)) (x8 := (v 7)) (x9 := (v 8)) (f0 := (v 29)) (l0 := (v 30)) (w0 := (v 31)) hPg h1 h2 h3 h4
  refine z_aload_n 2 F (dL_law_4 7 rfl) rfl ?_
  refine z_aload_n 3 F (dL_law_4 8 rfl) rfl ?_
  refine z_iload_n (x := i) 0 F (dL_law_4 9 rfl) rfl ?_
  refine z_iconst F (dL_law_4 10 rfl) ?_
  refine z_iadd F (dL_law_4 11 rfl) ?_
  refine z_sld (b := b) (L := L) (xs := xs) (i := i + 1) (x := x1) F SC (dL_law_4 12 rfl) (by omega) hL e11 ?_
  refine z_aload_n 3 F (dL_law_4 13 rfl) rfl ?_
  refine z_iload_n (x := i) 0 F (dL_law_4 14 rfl) rfl ?_
  refine z_iconst F (dL_law_4 15 rfl) ?_
  refine z_iadd F (dL_law_4 16 rfl) ?_
  refine z_sld (b := b) (L := L) (xs := xs) (i := i + 2) (x := x2) F SC (dL_law_4 17 rfl) (by omega) hL e12 ?_
  refine z_aload_n 3 F (dL_law_4 18 rfl) rfl ?_
  refine z_iload_n (x := i) 0 F (dL_law_4 19 rfl) rfl ?_
  refine z_iconst F (dL_law_4 20 rfl) ?_
  refine z_iadd F (dL_law_4 21 rfl) ?_
  refine z_sld (b := b) (L := L) (xs := xs) (i := i + 3) (x := x3) F SC (dL_law_4 22 rfl) (by omega) hL e13 ?_
  refine z_aload_n 3 F (dL_law_4 23 rfl) rfl ?_
  refine z_iload_n (x := i) 0 F (dL_law_4 24 rfl) rfl ?_
  refine z_iconst F (dL_law_4 25 rfl) ?_
  refine z_iadd F (dL_law_4 26 rfl) ?_
  refine z_sld (b := b) (L := L) (xs := xs) (i := i + 4) (x := x4) F SC (dL_law_4 27 rfl) (by omega) hL e14 ?_
  refine z_callV (As := [.int (zI x1), .int (zI x2), .int (zI x3), .int (zI x4)]) (rest := []) (wr := wX6 aI aZ q_m (a 28) (a 29) (a 30) (a 31) (a 32) (a 33) (a 34) (a 35) (a 36) (a 37) (a 38) (a 39) (a 40) (a 41) (a 42) (f 21) (v 27) (v 28) (f 22) (f 23) (v 29) (v 30) (v 31) (f 24) (f 25) (f 26) (f 27) (f 28) (v 32) (v 33) (v 34) (f 29) (f 30) (f 31) (v 35) (v 36) (v 37) (v 38) (v 39) (v 40) (v 41) (v 42) (f 32) (f 33) (v 43) (f 34) (v 44) (f 35) (v 45)) F (dL_law_4 28 rfl) (k_X5_cost (zL X) D aI aZ q_t (a 0) (a 1) (a 2) (a 3) (a 4) (a 5) (a 6) (a 7) (a 8) (a 9) (a 10) (a 11) (a 12) (a 13) (a 14) (a 15) (a 16) (a 17) (a 18) (a 19) (a 20) (a 21) (a 22) (a 23) (a 24) (a 25) (a 26) (a 27) (f 0) (v 0) (f 1) (f 2) (v 1) (f 3) (f 4) (v 2) (v 3) (v 4) (v 5) (v 6) (v 7) (v 8) (f 5) (f 6) (f 7) (f 8) (f 9) (f 10) (f 11) (v 9) (v 10) (v 11) (v 12) (v 13) (v 14) (f 12) (v 15) (v 16) (v 17) (v 18) (v 19) (v 20) (f 13) (f 14) (v 21) (v 22) (f 15) (f 16) (v 23) (f 17) (f 18) (v 24) (v 25) (f 19) (f 20) (v 26) x1 x2 x3 x4 e5) gL_law_X5_cost mX5_cost rfl (ci := 5) rfl [0, 1, 2, 3, 4, 5, 6, 7, 8, 9, 10, 11, 12, 13, 14, 15, 16, 17, 18, 19, 20, 21, 22, 23, 24, 25, 26, 27, 28] [29, 30, 31, 32, 33, 34, 35, 36, 37, 38, 39, 40, 41, 42, 43, 44] 0 rfl rfl rfl (by decide) rfl rfl (Nat.le_of_ble_eq_true rfl) ⟨Nat.le_of_ble_eq_true rfl, Nat.le_of_ble_eq_true rfl⟩ ⟨rfl, rfl⟩ hk (fun rv w1 hq => ?_)
  obtain ⟨rfl, rfl⟩ := hq
  show zG X D k n (wX6 aI aZ q_m (a 28) (a 29) (a 30) (a 31) (a 32) (a 33) (a 34) (a 35) (a 36) (a 37) (a 38) (a 39) (a 40) (a 41) (a 42) (f 21) (v 27) (v 28) (f 22) (f 23) (v 29) (v 30) (v 31) (f 24) (f 25) (f 26) (f 27) (f 28) (v 32) (v 33) (v 34) (f 29) (f 30) (f 31) (v 35) (v 36) (v 37) (v 38) (v 39) (v 40) (v 41) (v 42) (f 32) (f 33) (v 43) (f 34) (v 44) (f 35) (v 45) ++ (wX5 aI q_t (a 0) (a 1) (a 4) (a 10) (a 14) (a 16) (a 18) (a 23) (f 0) (v 0) ++ (wX2 aI (a 1) (a 2) (a 3) (f 1) (f 2) (v 1) ++ (wX0 aI (a 4) (a 5) (a 6) (a 7) (a 8) (a 9) c1 c2 c3 c4 c5 c6 c7 c8 c9 c10 c11 c12 ++ (wX3 aI (a 10) (a 11) (a 12) (a 13) (f 8) (f 9) (f 10) ++ (wX1 aI (a 14) (a 15) (f 11) (v 9) (v 10) (v 11) (v 12) (v 13) (v 14) ++ (wX1 aI (a 16) (a 17) (f 12) (v 15) (v 16) (v 17) (v 18) (v 19) (v 20) ++ (wX4 aI (a 18) (a 19) (a 20) (a 21) (a 22) (f 13) (f 14) (v 21) (v 22) (f 15) (f 16) (v 23) ++ wX4 aI (a 23) (a 24) (a 25) (a 26) (a 27) (f 17) (f 18) (v 24) (v 25) (f 19) (f 20) (v 26))))))))) 332 [(3, .int (zI i)), (2, .ref q_m), (1, .ref q_t), (0, .ref b)] [.int (zI r)]
  refine z_aload_n 1 F (dL_law_4 29 rfl) rfl ?_
  refine z_aload_n 3 F (dL_law_4 30 rfl) rfl ?_
  refine z_iload_n (x := i) 0 F (dL_law_4 31 rfl) rfl ?_
  refine z_iconst F (dL_law_4 32 rfl) ?_
  refine z_iadd F (dL_law_4 33 rfl) ?_
  refine z_sld (b := b) (L := L) (xs := xs) (i := i + 1) (x := x1) F SC (dL_law_4 34 rfl) (by omega) hL e11 ?_
  refine z_aload_n 3 F (dL_law_4 35 rfl) rfl ?_
  refine z_iload_n (x := i) 0 F (dL_law_4 36 rfl) rfl ?_
  refine z_iconst F (dL_law_4 37 rfl) ?_
  refine z_iadd F (dL_law_4 38 rfl) ?_
  refine z_sld (b := b) (L := L) (xs := xs) (i := i + 2) (x := x2) F SC (dL_law_4 39 rfl) (by omega) hL e12 ?_
  refine z_aload_n 3 F (dL_law_5 0 rfl) rfl ?_
  refine z_iload_n (x := i) 0 F (dL_law_5 1 rfl) rfl ?_
  refine z_iconst F (dL_law_5 2 rfl) ?_
  refine z_iadd F (dL_law_5 3 rfl) ?_
  refine z_sld (b := b) (L := L) (xs := xs) (i := i + 3) (x := x3) F SC (dL_law_5 4 rfl) (by omega) hL e13 ?_
  refine z_aload_n 3 F (dL_law_5 5 rfl) rfl ?_
  refine z_iload_n (x := i) 0 F (dL_law_5 6 rfl) rfl ?_
  refine z_iconst F (dL_law_5 7 rfl) ?_
  refine z_iadd F (dL_law_5 8 rfl) ?_
  refine z_sld (b := b) (L := L) (xs := xs) (i := i + 4) (x := x4) F SC (dL_law_5 9 rfl) (by omega) hL e14 ?_
  refine z_callV (As := [.int (zI x1), .int (zI x2), .int (zI x3), .int (zI x4)]) (rest := [.int (zI r)]) (wr := wX5 aI q_t (a 0) (a 1) (a 4) (a 10) (a 14) (a 16) (a 18) (a 23) (f 0) (v 0) ++ (wX2 aI (a 1) (a 2) (a 3) (f 1) (f 2) (v 1) ++ (wX0 aI (a 4) (a 5) (a 6) (a 7) (a 8) (a 9) c1 c2 c3 c4 c5 c6 c7 c8 c9 c10 c11 c12 ++ (wX3 aI (a 10) (a 11) (a 12) (a 13) (f 8) (f 9) (f 10) ++ (wX1 aI (a 14) (a 15) (f 11) (v 9) (v 10) (v 11) (v 12) (v 13) (v 14) ++ (wX1 aI (a 16) (a 17) (f 12) (v 15) (v 16) (v 17) (v 18) (v 19) (v 20) ++ (wX4 aI (a 18) (a 19) (a 20) (a 21) (a 22) (f 13) (f 14) (v 21) (v 22) (f 15) (f 16) (v 23) ++ wX4 aI (a 23) (a 24) (a 25) (a 26) (a 27) (f 17) (f 18) (v 24) (v 25) (f 19) (f 20) (v 26)))))))) F (dL_law_5 10 rfl) (k_X6_cost (zL X) D aI aZ q_m (a 28) (a 29) (a 30) (a 31) (a 32) (a 33) (a 34) (a 35) (a 36) (a 37) (a 38) (a 39) (a 40) (a 41) (a 42) (f 21) (v 27) (v 28) (f 22) (f 23) (v 29) (v 30) (v 31) (f 24) (f 25) (f 26) (f 27) (f 28) (v 32) (v 33) (v 34) (f 29) (f 30) (f 31) (v 35) (v 36) (v 37) (v 38) (v 39) (v 40) (v 41) (v 42) (f 32) (f 33) (v 43) (f 34) (v 44) (f 35) (v 45) x1 x2 x3 x4 e6) gL_law_X6_cost mX6_cost rfl (ci := 6) rfl [0, 1, 2, 3, 4, 5, 6, 7, 8, 9, 10, 11, 12, 13, 14, 15] [16, 17, 18, 19, 20, 21, 22, 23, 24, 25, 26, 27, 28, 29, 30, 31, 32, 33, 34, 35, 36, 37, 38, 39, 40, 41, 42, 43, 44] 0 rfl rfl rfl (by decide) rfl rfl (Nat.le_of_ble_eq_true rfl) ⟨Nat.le_of_ble_eq_true rfl, Nat.le_of_ble_eq_true rfl⟩ ⟨rfl, rfl⟩ hk (fun rv w1 hq => ?_)
  obtain ⟨rfl, rfl⟩ := hq
  show zG X D k n ((wX5 aI q_t (a 0) (a 1) (a 4) (a 10) (a 14) (a 16) (a 18) (a 23) (f 0) (v 0) ++ (wX2 aI (a 1) (a 2) (a 3) (f 1) (f 2) (v 1) ++ (wX0 aI (a 4) (a 5) (a 6) (a 7) (a 8) (a 9) c1 c2 c3 c4 c5 c6 c7 c8 c9 c10 c11 c12 ++ (wX3 aI (a 10) (a 11) (a 12) (a 13) (f 8) (f 9) (f 10) ++ (wX1 aI (a 14) (a 15) (f 11) (v 9) (v 10) (v 11) (v 12) (v 13) (v 14) ++ (wX1 aI (a 16) (a 17) (f 12) (v 15) (v 16) (v 17) (v 18) (v 19) (v 20) ++ (wX4 aI (a 18) (a 19) (a 20) (a 21) (a 22) (f 13) (f 14) (v 21) (v 22) (f 15) (f 16) (v 23) ++ wX4 aI (a 23) (a 24) (a 25) (a 26) (a 27) (f 17) (f 18) (v 24) (v 25) (f 19) (f 20) (v 26)))))))) ++ wX6 aI aZ q_m (a 28) (a 29) (a 30) (a 31) (a 32) (a 33) (a 34) (a 35) (a 36) (a 37) (a 38) (a 39) (a 40) (a 41) (a 42) (f 21) (v 27) (v 28) (f 22) (f 23) d1 d2 d3 d4 (f 25) (f 26) (f 27) (f 28) (v 32) (v 33) (v 34) (f 29) (f 30) (f 31) (v 35) (v 36) (v 37) (v 38) (v 39) (v 40) (v 41) (v 42) (f 32) (f 33) (v 43) (f 34) (v 44) (f 35) (v 45)) 356 [(3, .int (zI i)), (2, .ref q_m), (1, .ref q_t), (0, .ref b)] [.int (zI r), .int (zI r)]
  exact z_icmp_eq F (dL_law_5 11 rfl) (tgt := 655) rfl (fun _ => g _ ⟨zat 0 [(a 0), (a 1), (a 2), (a 3), (a 4), (a 5), (a 6), (a 7), (a 8), (a 9), (a 10), (a 11), (a 12), (a 13), (a 14), (a 15), (a 16), (a 17), (a 18), (a 19), (a 20), (a 21), (a 22), (a 23), (a 24), (a 25), (a 26), (a 27), (a 28), (a 29), (a 30), (a 31), (a 32), (a 33), (a 34), (a 35), (a 36), (a 37), (a 38), (a 39), (a 40), (a 41), (a 42)], zat (fun _ => 0) [(f 0), (f 1), (f 2), c1, c2, c10, c11, c12, (f 8), (f 9), (f 10), (f 11), (f 12), (f 13), (f 14), (f 15), (f 16), (f 17), (f 18), (f 19), (f 20), (f 21), (f 22), (f 23), d4, (f 25), (f 26), (f 27), (f 28), (f 29), (f 30), (f 31), (f 32), (f 33), (f 34), (f 35)], zat 0 [(v 0), (v 1), c3, c4, c5, c6, c7, c8, c9, (v 9), (v 10), (v 11), (v 12), (v 13), (v 14), (v 15), (v 16), (v 17), (v 18), (v 19), (v 20), (v 21), (v 22), (v 23), (v 24), (v 25), (v 26), (v 27), (v 28), d1, d2, d3, (v 32), (v 33), (v 34), (v 35), (v 36), (v 37), (v 38), (v 39), (v 40), (v 41), (v 42), (v 43), (v 44), (v 45)], rfl, hTp, hPg, hFo, hTab⟩) (fun h => absurd rfl h)
