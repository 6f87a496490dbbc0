/-! the call that sets the table: both programs answer alike -/
theorem m_lay15 {cols R : Nat} {T : Nat → List Int} {ce cs : Nat → Int} {K : Int → Option (Int × Int × (Nat → Int) × (Nat → Int) × Int)} (hc8 : 1 ≤ cols ∧ cols ≤ 8) (hr40 : R ≤ 40) (hlen : ∀ s : Nat, s < 336 → (T s).length ≤ 60) (hw : mTv cols R T ce cs) : f_X6_lay_l15 K 1 (R : Int) (cols : Int) cs zN (-2) 0 = K (mLf (mWc T R) cols - 2) := by
  refine mloop (L := fun m i v => f_X6_lay_l15 K 1 (R : Int) (cols : Int) cs m v i) (Q := fun x => x = K (mLf (mWc T R) cols - 2)) (hi := (cols : Int)) (P := fun i v => ∃ c : Nat, i = (c : Int) ∧ v = mLf (mWc T R) c - 2) ?_ ?_ zN 0 (-2) (by omega) (mzN (by omega)) ⟨0, rfl, by unfold mLf; omega⟩
  · rintro m i v hi ⟨c, rfl, rfl⟩
    right
    have eL : mLf (mWc T R) (c + 1) = mLf (mWc T R) c + mWc T R c + 2 := rfl
    rw [f_X6_lay_l15_s, m_widthOf hc8 hr40 hlen hw (by omega), mzb]
    simp (disch := omega) only [mlt]
    rw [if_pos hi]
    exact ⟨_, rfl, c + 1, by omega, by omega⟩
  · rintro m v ⟨c, e, rfl⟩
    have : c = cols := by omega
    subst this
    rw [f_X6_lay_l15_s]
    simp (disch := omega) only [mlt]
    rw [if_neg (by omega)]
theorem m_tail42 {cols R : Nat} {T : Nat → List Int} {tb tl ce cs wi on pb pl mp ms : Nat → Int} {pc num b : Int} (hc8 : 1 ≤ cols ∧ cols ≤ 8) (hr40 : R ≤ 40) (hlen : ∀ s : Nat, s < 336 → (T s).length ≤ 60) (ht : mTr1 T) (hv : mTv cols R T tb tl) (hw : mTv cols R T ce cs) (hwi : ∀ d : Nat, d < cols → wi d = mWc T R d) (hon : ∀ d : Nat, d < cols → mFlx (on d) (mNums T d R)) (hlw : 0 ≤ mLf (mWc T R) cols - 2 ∧ mLf (mWc T R) cols - 2 ≤ 60) (hb : b = 0 ∨ b = 1) (ef : f_X4_hasFoot tl (cols : Int) (R : Int) = some b) (hc : 0 ≤ pc ∧ pc + (R : Int) + 2 * b ≤ 24) (h : mPg pb pl pc mp ms pc) :
    ∃ pb' pl' mp' ms' n' pc', f_X4_layOn_j42 tb tl (cols : Int) (R : Int) wi on (mLf (mWc T R) cols - 2) pb pl pc = some (pb', pl', pc') ∧ f_X6_lay_j129 (mLf (mWc T R) cols - 2) b pc ms mp 1 (R : Int) (cols : Int) cs ce num = some (pc', pc', ms', mp', n') ∧ mPg pb' pl' pc' mp' ms' pc' ∧ 0 ≤ pc' ∧ pc' ≤ 24 := by
  unfold f_X4_layOn_j42 f_X6_lay_j129
  generalize hK : (fun (p1_bytes_9 : (Nat → Int)) (p1_lengths_10 : (Nat → Int)) (p1_count_11 : Int) => zb (f_X4_hasFoot tl (cols : Int) (R : Int)) (fun o_12 => if zI o_12 = zI 0 then some (p1_bytes_9, p1_lengths_10, p1_count_11) else zb (f_X2_addLine p1_bytes_9 p1_lengths_10 p1_count_11 (zmax 3 (mLf (mWc T R) cols - 2)) 45) (fun o_14 => zb (f_X4_layRow tb tl (cols : Int) (R : Int) wi on (mLf (mWc T R) cols - 2) o_14.2.1 o_14.2.2.1 o_14.2.2.2 ((R : Int) + 1)) (fun o_16 => some (o_16.1, o_16.2.1, o_16.2.2))))) = K
  generalize hK2 : (fun (t_lines_12 : Int) (t_size_13 : (Nat → Int)) (t_page_14 : (Nat → Int)) (t_number_15 : Int) => if zI b = zI 0 then some (t_lines_12, t_lines_12, t_size_13, t_page_14, t_number_15) else zb (f_X6_layRule t_lines_12 t_size_13 t_page_14 (mLf (mWc T R) cols - 2)) (fun o_16 => zb (f_X6_layRow o_16.1 o_16.2.1 o_16.2.2 1 (R : Int) (cols : Int) cs ce t_number_15 ((R : Int) + 1)) (fun o_18 => some (o_18.1, o_18.1, o_18.2.1, o_18.2.2.1, o_18.2.2.2)))) = K2
  obtain ⟨pb1, pl1, mp1, ms1, n1, e1, e2, h1⟩ := m_rows2 (K := K) (K2 := K2) hc8 hr40 hlen ht hv hw hwi hon hlw.2 R zN zN pb pl mp ms pc 1 num (mzN (by omega)) (mzN (by omega)) (by omega) (by omega) hc.1 (by omega) h
  rw [e1, e2, ← hK, ← hK2, ef]
  simp only [mzb]
  rcases hb with rfl | rfl
  · rw [if_pos rfl, if_pos rfl]
    exact ⟨pb1, pl1, mp1, ms1, n1, pc + (R : Int), rfl, rfl, h1, by omega, by omega⟩
  · rw [if_neg (show ¬ zI 1 = zI 0 by decide), if_neg (show ¬ zI 1 = zI 0 by decide)]
    obtain ⟨pb2, pl2, mp2, ms2, e3, e4, h2⟩ := m_rule2 (n := mLf (mWc T R) cols - 2) hlw (show 0 ≤ pc + (R : Int) ∧ pc + (R : Int) < 24 by omega) h1
    rw [e3, e4]
    simp only [mzb]
    obtain ⟨pb3, pl3, mp3, ms3, n3, e5, e6, h3⟩ := m_row2 (pb := pb2) (pl := pl2) (mp := mp2) (ms := ms2) (pc := pc + (R : Int) + 1) (r := (R : Int) + 1) (num := n1) hc8 hr40 hlen ht hv hw hwi hon hlw.2 (by omega) (by omega) h2
    rw [e5, e6]
    simp only [mzb]
    exact ⟨pb3, pl3, mp3, ms3, n3, pc + (R : Int) + 1 + 1, rfl, rfl, h3, by omega, by omega⟩
theorem m_tail27 {cols R : Nat} {T : Nat → List Int} {tb tl ce cs wi on pb pl mp ms : Nat → Int} {pc num b : Int} (hc8 : 1 ≤ cols ∧ cols ≤ 8) (hr40 : R ≤ 40) (hlen : ∀ s : Nat, s < 336 → (T s).length ≤ 60) (ht : mTr1 T) (hv : mTv cols R T tb tl) (hw : mTv cols R T ce cs) (hwi : ∀ d : Nat, d < cols → wi d = mWc T R d) (hon : ∀ d : Nat, d < cols → mFlx (on d) (mNums T d R)) (hlw : 0 ≤ mLf (mWc T R) cols - 2 ∧ mLf (mWc T R) cols - 2 ≤ 60) (hb : b = 0 ∨ b = 1) (ef : f_X4_hasFoot tl (cols : Int) (R : Int) = some b) (hc : 0 ≤ pc ∧ pc + 1 + (R : Int) + 2 * b ≤ 24) (h : mPg pb pl pc mp ms pc) :
    ∃ pb' pl' mp' ms' n' pc', f_X4_layOn_j27 tb tl (cols : Int) (R : Int) wi on (mLf (mWc T R) cols - 2) pb pl pc = some (pb', pl', pc') ∧ f_X6_lay_j124 (mLf (mWc T R) cols - 2) b pc ms mp 1 (R : Int) (cols : Int) cs ce num = some (pc', pc', ms', mp', n') ∧ mPg pb' pl' pc' mp' ms' pc' ∧ 0 ≤ pc' ∧ pc' ≤ 24 := by
  unfold f_X4_layOn_j27 f_X6_lay_j124
  obtain ⟨pb1, pl1, mp1, ms1, e1, e2, h1⟩ := m_rule2 (n := mLf (mWc T R) cols - 2) hlw (show 0 ≤ pc ∧ pc < 24 by omega) h
  rw [e1, e2]
  simp only [mzb]
  exact m_tail42 hc8 hr40 hlen ht hv hw hwi hon hlw hb ef (by omega) h1
theorem p_lay {pb pl mp ms tab tal taw tan cel csz : Nat → Int} {pc ml ta3 ta4 ta7 has rws tcs num : Int} (h : mPg pb pl pc mp ms ml) (hta : mTab tab tal ta3 ta4 has rws tcs csz cel) :
    ∃ r pb' pl' pc' taw' tan' ta7' ms' mp' n', f_X5_lay pb pl pc tab tal ta3 ta4 taw tan ta7 = some (r, pb', pl', pc', taw', tan', ta7') ∧ f_X6_lay ml ms mp has rws tcs csz cel num = some (r, pc', ms', mp', n') ∧ mW r ∧ mPg pb' pl' pc' mp' ms' pc' := by
  have hg := h.2.1
  have hcm := h.1
  subst hcm
  unfold f_X5_lay f_X6_lay
  rcases hta with ⟨c1, c2, c3⟩ | ⟨cols, R, T, hc8, hr40, rfl, rfl, rfl, rfl, rfl, ht, hlen, hv, hw⟩
  · subst c1 c2 c3
    exact ⟨-2, pb, pl, pc, taw, tan, ta7, ms, mp, num, rfl, rfl, by unfold mW; omega, h⟩
  · have hz : ¬ zI (cols : Int) = zI 0 := by rw [meq (by omega)]; omega
    obtain ⟨wi, on, em, hwi, hon⟩ := m_measure (wi0 := taw) (on0 := tan) hc8 hr40 hlen ht hv
    obtain ⟨a, ea, fa⟩ := m_hasHead hc8.2 hr40 hlen hv
    obtain ⟨b, eb, fb⟩ := m_hasFoot hc8.2 hr40 hlen hv
    obtain ⟨a2, ea2, fa2⟩ := m_hasSome (r := 0) hc8.2 hr40 hlen hw (by omega)
    obtain ⟨b2, eb2, fb2⟩ := m_hasSome (r := (R : Int) + 1) hc8.2 hr40 hlen hw (by omega)
    rw [mRw_in (by omega)] at ea2 fa2
    rw [mRw_foot (by omega)] at eb2 fb2
    have ha2 := mFlx_uniq fa2 fa Iff.rfl
    have hb2 := mFlx_uniq fb2 fb Iff.rfl
    subst ha2 hb2
    have ha := mFlx_b fa
    have hb := mFlx_b fb
    have hW := fun (d : Nat) (hd : d < cols) => (mWx_r (T := T) hc8.2 hr40 hlen hd (R + 2) (Nat.le_refl _)).1
    have hW1 : ∀ d : Nat, d < cols → 1 ≤ mWc T R d := fun d hd => (hW d hd).1
    have hlw : 1 ≤ mLf (mWc T R) cols - 2 := by
      have h1 := mLf_mono hW1 (a := 1) cols hc8.1 (Nat.le_refl _)
      have h2 : mLf (mWc T R) 1 = 0 + mWc T R 0 + 2 := rfl
      have := hW1 0 (by omega)
      omega
    have hlw2 : mLf (mWc T R) cols ≤ 62 * (cols : Int) := mLf_60 (cols := cols) (fun d hd => hW d hd) (Nat.le_refl _)
    have h0 : mPg pb pl 0 mp ms 0 := ⟨rfl, ⟨by omega, fun x x0 x1 => by omega⟩, fun x x0 x1 => by omega⟩
    rw [if_neg hz, if_neg (show ¬ zI 1 = zI 0 by decide), em, m_lay15 hc8 hr40 hlen hw, ea2, eb2]
    simp only [mzb]
    -- how many lines are due
    obtain ⟨tot, htot, hr65⟩ : ∃ tot : Int, tot = (R : Int) + 2 * a2 + (if b2 = 0 then 0 else if a2 = 0 then 3 else 2) ∧ (if zI a2 = zI 0 then f_X6_lay_j65 0 (R : Int) (mLf (mWc T R) cols - 2) a2 b2 pc ms mp 1 (R : Int) (cols : Int) csz cel num else f_X6_lay_j65 2 (R : Int) (mLf (mWc T R) cols - 2) a2 b2 pc ms mp 1 (R : Int) (cols : Int) csz cel num) = f_X6_lay_j83 0 tot (mLf (mWc T R) cols - 2) a2 b2 pc ms mp 1 (R : Int) (cols : Int) csz cel num := by
      refine ⟨_, rfl, ?_⟩
      unfold f_X6_lay_j65 f_X6_lay_j83
      rcases ha with e | e <;> rcases hb with e' | e' <;> subst e <;> subst e'
      · rw [if_pos rfl, if_pos rfl, show (R : Int) + 2 * 0 + (if (0 : Int) = 0 then 0 else if (0 : Int) = 0 then 3 else 2) + 0 = (R : Int) + 0 + 0 by rw [if_pos rfl]; omega]
      · rw [if_pos rfl, if_neg (show ¬ zI 1 = zI 0 by decide), if_pos rfl, show (R : Int) + 2 * 0 + (if (1 : Int) = 0 then 0 else if (0 : Int) = 0 then 3 else 2) + 0 = (R : Int) + 0 + 3 by rw [if_neg (show ¬ (1 : Int) = 0 by decide), if_pos rfl]; omega]
      · rw [if_neg (show ¬ zI 1 = zI 0 by decide), if_pos rfl, if_pos rfl, show (R : Int) + 2 * 1 + 0 + 0 = (R : Int) + 2 + 0 by omega]
      · rw [if_neg (show ¬ zI 1 = zI 0 by decide), if_neg (show ¬ zI 1 = zI 0 by decide), if_neg (show ¬ zI 1 = zI 0 by decide), if_neg (show ¬ (1 : Int) = 0 by decide), if_neg (show ¬ (1 : Int) = 0 by decide), show (R : Int) + 2 * 1 + 2 + 0 = (R : Int) + 2 + 2 by omega]
    rw [hr65]
    have hLL : f_X4_laidLines tal (cols : Int) (R : Int) = some tot := by
      unfold f_X4_laidLines f_X4_laidLines_j12 f_X4_laidLines_j25 f_X4_laidLines_j44 f_X4_laidLines_j45
      rw [ea, eb]
      simp only [mzb]
      rw [htot]
      rcases ha with e | e <;> rcases hb with e' | e' <;> subst e <;> subst e'
      · rw [if_pos rfl, if_pos rfl, if_pos rfl, if_pos rfl]
        congr 1
        omega
      · rw [if_pos rfl, if_neg (show ¬ zI 1 = zI 0 by decide), if_neg (show ¬ zI 1 = zI 0 by decide), if_pos rfl, if_neg (show ¬ (1 : Int) = 0 by decide), if_pos rfl]
        congr 1
        omega
      · rw [if_neg (show ¬ zI 1 = zI 0 by decide), if_pos rfl, if_pos rfl, if_pos rfl]
        congr 1
        omega
      · rw [if_neg (show ¬ zI 1 = zI 0 by decide), if_neg (show ¬ zI 1 = zI 0 by decide), if_neg (show ¬ zI 1 = zI 0 by decide), if_neg (show ¬ zI 1 = zI 0 by decide), if_neg (show ¬ (1 : Int) = 0 by decide), if_neg (show ¬ (1 : Int) = 0 by decide)]
        congr 1
        omega
    have htr : 0 ≤ tot ∧ tot ≤ 60 := by
      rw [htot]
      split
      · omega
      · split <;> omega
    rw [hLL]
    unfold f_X6_lay_j83
    rw [show tot + 0 = tot by omega]
    simp (disch := omega) only [mlt, mzb]
    by_cases q1 : 24 < tot
    · rw [if_pos q1, if_pos q1]
      exact ⟨-3, pb, pl, pc, _, _, _, ms, mp, num, rfl, rfl, by unfold mW; omega, h⟩
    · rw [if_neg q1, if_neg q1]
      by_cases q2 : 60 < mLf (mWc T R) cols - 2
      · rw [if_pos q2, if_pos q2]
        exact ⟨-3, pb, pl, pc, _, _, _, ms, mp, num, rfl, rfl, by unfold mW; omega, h⟩
      · rw [if_neg q2, if_neg q2]
        have fin : ∃ pb' pl' mp' ms' n' pc', f_X4_layOn tab tal (cols : Int) (R : Int) wi on (mLf (mWc T R) cols - 2) pb pl 0 = some (pb', pl', pc') ∧ (if zI a2 = zI 0 then f_X6_lay_j116 (mLf (mWc T R) cols - 2) a2 b2 0 ms mp 1 (R : Int) (cols : Int) csz cel num else zb (f_X6_layRow 0 ms mp 1 (R : Int) (cols : Int) csz cel num 0) (fun o_20 => f_X6_lay_j116 (mLf (mWc T R) cols - 2) a2 b2 o_20.1 o_20.2.1 o_20.2.2.1 1 (R : Int) (cols : Int) csz cel o_20.2.2.2)) = some (pc', pc', ms', mp', n') ∧ mPg pb' pl' pc' mp' ms' pc' ∧ 0 ≤ pc' ∧ pc' ≤ 24 := by
          unfold f_X4_layOn f_X4_layOn_j13 f_X6_lay_j116
          rw [ea, eb]
          simp only [mzb]
          rcases ha with e | e
          · subst e
            rw [if_pos rfl, if_pos rfl, if_pos rfl, if_pos rfl]
            rcases hb with e' | e'
            · subst e'
              rw [if_pos rfl, if_pos rfl]
              rw [if_pos rfl] at htot
              exact m_tail42 hc8 hr40 hlen ht hv hw hwi hon ⟨by omega, by omega⟩ (Or.inl rfl) eb (by omega) h0
            · subst e'
              rw [if_neg (show ¬ zI 1 = zI 0 by decide), if_neg (show ¬ zI 1 = zI 0 by decide)]
              rw [if_neg (show ¬ (1 : Int) = 0 by decide), if_pos rfl] at htot
              exact m_tail27 hc8 hr40 hlen ht hv hw hwi hon ⟨by omega, by omega⟩ (Or.inr rfl) eb (by omega) h0
          · subst e
            have hpc : (0 : Int) + 1 + 1 + (R : Int) + 2 * b2 ≤ 24 := by
              rcases hb with e' | e'
              · subst e'
                rw [if_pos rfl] at htot
                omega
              · subst e'
                rw [if_neg (show ¬ (1 : Int) = 0 by decide), if_neg (show ¬ (1 : Int) = 0 by decide)] at htot
                omega
            rw [if_neg (show ¬ zI 1 = zI 0 by decide), if_neg (show ¬ zI 1 = zI 0 by decide)]
            obtain ⟨pb1, pl1, mp1, ms1, n1, e1, e2, h1⟩ := m_row2 (pb := pb) (pl := pl) (mp := mp) (ms := ms) (pc := 0) (r := 0) (num := num) hc8 hr40 hlen ht hv hw hwi hon (by omega) (by omega) (by omega) h0
            rw [e1, e2]
            simp only [mzb]
            rw [if_neg (show ¬ zI 1 = zI 0 by decide), if_neg (show ¬ zI 1 = zI 0 by decide)]
            exact m_tail27 hc8 hr40 hlen ht hv hw hwi hon ⟨by omega, by omega⟩ hb eb (by omega) h1
        obtain ⟨pb', pl', mp', ms', n', pc', e1, e2, h1, h2, h3⟩ := fin
        rw [e1, e2]
        simp only [mzb]
        exact ⟨pc', pb', pl', pc', wi, on, _, ms', mp', n', rfl, rfl, by unfold mW; omega, h1⟩
