/-! cells of a table: both programs answer alike -/
/-- the row of slots of a row of a table: behind the last is the foot -/
def mRw (rows r : Int) : Int := if rows < r then 41 else r
theorem m_slot2 {rows r c : Int} (hr : 0 ≤ rows ∧ rows ≤ 41) (h : 0 ≤ r ∧ r ≤ 42) : f_X4_slotOf rows r c = some (mRw rows r * 8 + c) := by
  unfold f_X4_slotOf f_X4_slotOf_j14 mRw
  simp (disch := omega) only [mlt]
  by_cases q : rows < r
  · rw [if_pos q, if_pos q]
  · rw [if_neg q, if_neg q]
theorem m_holdsT {cols rows r c : Int} (hc : 0 ≤ cols ∧ cols ≤ 8) (hr : 0 ≤ rows ∧ rows ≤ 40) (h1 : mW r) (h2 : mW c) : f_X4_holds cols rows r c = some (if (0 ≤ r ∧ r ≤ rows + 1) ∧ 0 ≤ c ∧ c < cols then 1 else 0) := by
  unfold mW at h1 h2
  unfold f_X4_holds f_X4_holds_j30
  simp (disch := omega) only [mlt]
  by_cases q1 : c < 0
  · rw [if_pos q1, if_neg (by omega)]
  · rw [if_neg q1]
    by_cases q2 : c < cols
    · rw [if_pos q2]
      by_cases q3 : r < 0
      · rw [if_pos q3, if_neg (by omega)]
      · rw [if_neg q3]
        by_cases q4 : rows + 1 < r
        · rw [if_pos q4, if_neg (by omega)]
        · rw [if_neg q4, if_pos (by omega)]
    · rw [if_neg q2, if_neg (by omega)]
theorem m_cellAt {cols rows r c : Int} (hc : 1 ≤ cols ∧ cols ≤ 8) (hr : 0 ≤ rows ∧ rows ≤ 40) (h1 : mW r) (h2 : mW c) : f_X6_cellAt 1 rows cols r c = some (if (0 ≤ r ∧ r ≤ rows + 1) ∧ 0 ≤ c ∧ c < cols then 8 * mRw rows r + c else -1) := by
  unfold mW at h1 h2
  unfold f_X6_cellAt f_X6_cellAt_j57 mRw
  rw [mw32 h1, mw32 h2, mw32 (by omega), mw32 (by omega), m_in (by omega), m_in (by omega)]
  simp (disch := omega) only [mlt, meq, mzb, mi0]
  by_cases q1 : 0 ≤ r ∧ r ≤ rows + 1
  · rw [if_pos q1]
    simp only [mi0]
    by_cases q2 : 0 ≤ c ∧ c < cols
    · rw [if_pos (show 0 ≤ c ∧ c ≤ cols - 1 by omega), if_pos (show (0 ≤ r ∧ r ≤ rows + 1) ∧ 0 ≤ c ∧ c < cols from ⟨q1, q2⟩)]
      by_cases q3 : rows < r
      · rw [if_pos q3, if_pos q3, mi0]
      · rw [if_neg q3, if_neg q3, mi0]
    · rw [if_neg (show ¬ (0 ≤ c ∧ c ≤ cols - 1) by omega), if_neg (show ¬ ((0 ≤ r ∧ r ≤ rows + 1) ∧ 0 ≤ c ∧ c < cols) from fun h => q2 h.2)]
      rfl
  · rw [if_neg q1, if_neg (show ¬ ((0 ≤ r ∧ r ≤ rows + 1) ∧ 0 ≤ c ∧ c < cols) from fun h => q1 h.1)]
    rfl
theorem mSl_in {cols rows : Nat} {r c : Int} (hr : 0 ≤ r ∧ r ≤ (rows : Int) + 1) (hc : 0 ≤ c ∧ c < (cols : Int)) : mSl cols rows (mRw (rows : Int) r * 8 + c).toNat := by
  unfold mRw
  by_cases q : (rows : Int) < r
  · rw [if_pos q]
    exact ⟨41, c.toNat, by omega, Or.inr rfl, by omega⟩
  · rw [if_neg q]
    exact ⟨r.toNat, c.toNat, by omega, Or.inl (by omega), by omega⟩
theorem m_lengthT {cols rows : Nat} {T : Nat → List Int} {by_ ln : Nat → Int} {r c : Int} (hc8 : cols ≤ 8) (hr40 : rows ≤ 40) (hv : mTv cols rows T by_ ln) (hr : 0 ≤ r ∧ r ≤ (rows : Int) + 1) (hc : 0 ≤ c ∧ c < (cols : Int)) : f_X4_lengthOf ln (rows : Int) r c = some ((T (mRw (rows : Int) r * 8 + c).toNat).length : Int) := by
  have hs := mSl_in hr hc
  have hlt := mSl_lt hc8 hr40 hs
  have hp : 0 ≤ mRw (rows : Int) r * 8 + c := by unfold mRw; split <;> omega
  unfold f_X4_lengthOf
  rw [m_slot2 (by omega) (by omega), mzb, m_pick_in (by omega), mzb, (hv _ hs).1]
theorem m_byteT {cols rows : Nat} {T : Nat → List Int} {by_ ln : Nat → Int} {r c i : Int} (hc8 : cols ≤ 8) (hr40 : rows ≤ 40) (hlen : ∀ s : Nat, s < 336 → (T s).length ≤ 60) (hv : mTv cols rows T by_ ln) (hr : 0 ≤ r ∧ r ≤ (rows : Int) + 1) (hc : 0 ≤ c ∧ c < (cols : Int)) (hi : 0 ≤ i ∧ i < 2147483648) : f_X4_byteOf by_ ln (rows : Int) r c i = some ((T (mRw (rows : Int) r * 8 + c).toNat).getD i.toNat 0) := by
  have hs := mSl_in hr hc
  have hlt := mSl_lt hc8 hr40 hs
  have hp : 0 ≤ mRw (rows : Int) r * 8 + c := by unfold mRw; split <;> omega
  obtain ⟨e1, e2⟩ := hv _ hs
  have hl := hlen _ hlt
  unfold f_X4_byteOf
  rw [m_slot2 (by omega) (by omega), mzb, m_pick_in (by omega), mzb, e1]
  generalize mRw (rows : Int) r * 8 + c = s at *
  simp (disch := omega) only [mlt]
  rw [if_neg (show ¬ i < 0 by omega)]
  by_cases q : i < ((T s.toNat).length : Int)
  · rw [if_pos q, m_pick_in (by omega), mzb]
    have := e2 i.toNat (by omega)
    rw [show s.toNat * 60 + i.toNat = (s * 60 + i).toNat by omega] at this
    rw [this]
  · rw [if_neg q, List.getD_eq_getElem?_getD, List.getElem?_eq_none (by omega)]
    rfl
