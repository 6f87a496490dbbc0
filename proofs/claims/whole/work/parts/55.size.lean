/-! the call that tells a size: both programs answer alike -/
def mHas (T : Nat → List Int) (s : Int) (n : Int) : Prop := ∃ c : Int, 0 ≤ c ∧ c < n ∧ 0 < (T (s * 8 + c).toNat).length
theorem m_hasText {cols rows : Nat} {T : Nat → List Int} {by_ ln : Nat → Int} {r : Int} (hc8 : cols ≤ 8) (hr40 : rows ≤ 40) (hlen : ∀ s : Nat, s < 336 → (T s).length ≤ 60) (hv : mTv cols rows T by_ ln) (hr : 0 ≤ r ∧ r ≤ (rows : Int) + 1) : ∃ v, f_X4_hasText ln (cols : Int) (rows : Int) r = some v ∧ mFlx v (mHas T (mRw (rows : Int) r) (cols : Int)) := by
  unfold f_X4_hasText
  refine mloop (L := fun m i (_ : Unit) => f_X4_hasText_l2 (some 0) r ln (cols : Int) (rows : Int) m i) (Q := fun x => ∃ v, x = some v ∧ mFlx v (mHas T (mRw (rows : Int) r) (cols : Int))) (hi := (cols : Int)) (P := fun i _ => 0 ≤ i ∧ ¬ mHas T (mRw (rows : Int) r) i) ?_ ?_ zN 0 () (by omega) (mzN (by omega)) ⟨by omega, fun h => by obtain ⟨c, q1, q2, q3⟩ := h; omega⟩
  · rintro m i _ hi ⟨i0, i1⟩
    have hl := hlen _ (mSl_lt hc8 hr40 (mSl_in hr ⟨i0, hi⟩))
    rw [f_X4_hasText_l2_s, m_lengthT hc8 hr40 hv hr ⟨i0, hi⟩]
    simp (disch := omega) only [mlt, mzb]
    rw [if_pos hi]
    by_cases q : (0 : Int) < ((T (mRw (rows : Int) r * 8 + i).toNat).length : Int)
    · left
      rw [if_pos q]
      exact ⟨1, rfl, Or.inr ⟨rfl, i, i0, hi, by omega⟩⟩
    · right
      rw [if_neg q]
      refine ⟨(), rfl, by omega, fun h => ?_⟩
      obtain ⟨c, q1, q2, q3⟩ := h
      by_cases e : c = i
      · subst e; omega
      · exact i1 ⟨c, q1, by omega, q3⟩
  · rintro m _ ⟨i0, i1⟩
    rw [f_X4_hasText_l2_s]
    simp (disch := omega) only [mlt]
    rw [if_neg (by omega)]
    exact ⟨0, rfl, Or.inl ⟨rfl, i1⟩⟩
theorem m_hasSome {cols rows : Nat} {T : Nat → List Int} {ce cs : Nat → Int} {r : Int} (hc8 : cols ≤ 8) (hr40 : rows ≤ 40) (hlen : ∀ s : Nat, s < 336 → (T s).length ≤ 60) (hv : mTv cols rows T ce cs) (hr : 0 ≤ r ∧ r ≤ (rows : Int) + 1) : ∃ v, f_X6_hasSome (cols : Int) cs (mRw (rows : Int) r) = some v ∧ mFlx v (mHas T (mRw (rows : Int) r) (cols : Int)) := by
  have hm : 0 ≤ mRw (rows : Int) r ∧ mRw (rows : Int) r ≤ 41 := by unfold mRw; split <;> omega
  unfold f_X6_hasSome
  refine mloop (L := fun m i v => f_X6_hasSome_l4 (fun v2_3 => zch v2_3 (some v2_3)) (mRw (rows : Int) r) (cols : Int) cs m v i) (Q := fun x => ∃ v, x = some v ∧ mFlx v (mHas T (mRw (rows : Int) r) (cols : Int))) (hi := (cols : Int)) (P := fun i v => 0 ≤ i ∧ mFlx v (mHas T (mRw (rows : Int) r) i)) ?_ ?_ zN 0 0 (by omega) (mzN (by omega)) ⟨by omega, Or.inl ⟨rfl, fun h => by obtain ⟨c, q1, q2, q3⟩ := h; omega⟩⟩
  · rintro m i v hi ⟨i0, i1⟩
    right
    have hs := mSl_in hr ⟨i0, hi⟩
    have hl := hlen _ (mSl_lt hc8 hr40 hs)
    have e1 := (hv _ hs).1
    rw [f_X6_hasSome_l4_s, mrd (by omega), show (8 * mRw (rows : Int) r + i).toNat = (mRw (rows : Int) r * 8 + i).toNat by omega, e1]
    unfold f_X6_hasSome_j30 f_X6_hasSome_j35
    simp (disch := omega) only [mlt]
    rw [if_pos hi]
    rcases i1 with ⟨rfl, i2⟩ | ⟨rfl, i2⟩
    · rw [if_pos (show zI 0 = zI 0 from rfl)]
      by_cases q : (0 : Int) < ((T (mRw (rows : Int) r * 8 + i).toNat).length : Int)
      · rw [if_pos q]
        exact ⟨1, rfl, by omega, Or.inr ⟨rfl, i, i0, by omega, by omega⟩⟩
      · rw [if_neg q]
        refine ⟨0, rfl, by omega, Or.inl ⟨rfl, fun h => ?_⟩⟩
        obtain ⟨c, q1, q2, q3⟩ := h
        by_cases e : c = i
        · subst e; omega
        · exact i2 ⟨c, q1, by omega, q3⟩
    · rw [if_neg (show ¬ zI 1 = zI 0 by decide)]
      obtain ⟨c, q1, q2, q3⟩ := i2
      exact ⟨1, rfl, by omega, Or.inr ⟨rfl, c, q1, by omega, q3⟩⟩
  · rintro m v ⟨i0, i1⟩
    rw [f_X6_hasSome_l4_s]
    simp (disch := omega) only [mlt]
    rw [if_neg (by omega), mch (mFlx_b i1)]
    exact ⟨v, rfl, i1⟩
