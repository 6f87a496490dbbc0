/-! the call that tells a cell: both programs answer alike -/
theorem p_cell {ta tl ce cs : Nat → Int} {columns rows has trows tcols v1 v2 v3 : Int} (h : mTab ta tl columns rows has trows tcols cs ce) (h1 : mW v1) (h2 : mW v2) (h3 : mW v3) : ∃ r, f_X5_cell ta tl columns rows v1 v2 v3 = some r ∧ f_X6_cell has trows tcols cs ce v1 v2 v3 = some r ∧ mW r := by
  have k3 := h3
  unfold mW at k3
  unfold f_X5_cell f_X6_cell
  rcases h with ⟨c1, c2, c3⟩ | ⟨cols, rws, T, hc, hr, rfl, rfl, rfl, rfl, rfl, hT1, hlen, hv, hw⟩
  · subst c1 c2 c3
    rw [m_holdsT (by omega) (by omega) h1 h2, if_neg (by omega), mzb]
    exact ⟨-1, rfl, rfl, by unfold mW; omega⟩
  · rw [m_holdsT (by omega) (by omega) h1 h2, m_cellAt (by omega) (by omega) h1 h2]
    simp only [mzb]
    by_cases q : (0 ≤ v1 ∧ v1 ≤ (rws : Int) + 1) ∧ 0 ≤ v2 ∧ v2 < (cols : Int)
    · have hs := mSl_in q.1 q.2
      have hlt := mSl_lt hc.2 hr hs
      have hp : 0 ≤ mRw (rws : Int) v1 * 8 + v2 := by unfold mRw; split <;> omega
      obtain ⟨e1, e2⟩ := hw _ hs
      have hl := hlen _ hlt
      rw [if_pos q, if_pos q, m_lengthT hc.2 hr hv q.1 q.2]
      rw [show 8 * mRw (rws : Int) v1 + v2 = mRw (rws : Int) v1 * 8 + v2 by omega]
      simp only [mzb]
      rw [mrd (by omega), mrd (by omega), e1, mw32 (by omega), mw32 (by omega), m_in (by omega)]
      simp (disch := omega) only [mlt, meq, mzb, mi0]
      rw [if_neg (show ¬ mRw (rws : Int) v1 * 8 + v2 < 0 by omega)]
      by_cases z1 : v3 = -1
      · subst z1
        rw [if_pos rfl, if_pos (show (-1 : Int) ≤ -1 ∧ (-1 : Int) ≤ ((T (mRw (rws : Int) v1 * 8 + v2).toNat).length : Int) - 1 by omega)]
        exact ⟨_, rfl, rfl, by unfold mW; omega⟩
      · rw [if_neg z1]
        by_cases z2 : 0 ≤ v3 ∧ v3 < ((T (mRw (rws : Int) v1 * 8 + v2).toNat).length : Int)
        · have e := e2 v3.toNat (by omega)
          rw [show (mRw (rws : Int) v1 * 8 + v2).toNat * 60 + v3.toNat = (60 * (mRw (rws : Int) v1 * 8 + v2) + v3).toNat by omega] at e
          rw [if_neg (show ¬ v3 < 0 by omega), if_pos z2.2, if_pos (show (-1 : Int) ≤ v3 ∧ v3 ≤ ((T (mRw (rws : Int) v1 * 8 + v2).toNat).length : Int) - 1 by omega), m_byteT hc.2 hr hlen hv q.1 q.2 (by omega), mrd (by omega), e, mi0, if_neg (show ¬ v3 < 0 by omega), mzb]
          have hb : (T (mRw (rws : Int) v1 * 8 + v2).toNat).getD v3.toNat 0 ∈ T (mRw (rws : Int) v1 * 8 + v2).toNat := mgetD_mem (by omega)
          have := hT1 _ _ hb
          exact ⟨_, rfl, rfl, by unfold mW; omega⟩
        · rw [if_neg (show ¬ ((-1 : Int) ≤ v3 ∧ v3 ≤ ((T (mRw (rws : Int) v1 * 8 + v2).toNat).length : Int) - 1) by omega), mi1]
          refine ⟨-1, ?_, rfl, by unfold mW; omega⟩
          by_cases z3 : v3 < 0
          · rw [if_pos z3]
          · rw [if_neg z3, if_neg (by omega)]
    · rw [if_neg q, if_neg q]
      exact ⟨-1, rfl, rfl, by unfold mW; omega⟩
