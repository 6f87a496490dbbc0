/-! whether two tables go together: both programs -/
/-- the first n cells are the same -/
def mSm (T0 T1 : Nat → List Int) (n : Int) : Prop := ∀ c : Nat, (c : Int) < n → (T0 c).length = (T1 c).length ∧ ∀ i : Nat, i < (T1 c).length → (T0 c).getD i 0 = (T1 c).getD i 0
theorem mSm_s {T0 T1 : Nat → List Int} {c : Nat} (h : mSm T0 T1 (c : Int)) (h1 : (T0 c).length = (T1 c).length) (h2 : ∀ i : Nat, i < (T1 c).length → (T0 c).getD i 0 = (T1 c).getD i 0) : mSm T0 T1 ((c : Int) + 1) := by
  intro d hd
  by_cases e : d = c
  · subst e; exact ⟨h1, h2⟩
  · exact h d (by omega)
theorem m_len0 {cols rows : Nat} {T : Nat → List Int} {by_ ln : Nat → Int} {c : Nat} (hc8 : cols ≤ 8) (hr40 : rows ≤ 40) (hv : mTv cols rows T by_ ln) (hc : c < cols) : f_X4_lengthOf ln (rows : Int) 0 (c : Int) = some ((T c).length : Int) := by
  rw [m_lengthT hc8 hr40 hv (by omega) (by omega), mRw_in (by omega), show ((0 : Int) * 8 + (c : Int)).toNat = c by omega]
theorem m_byte0 {cols rows : Nat} {T : Nat → List Int} {by_ ln : Nat → Int} {c : Nat} {i : Int} (hc8 : cols ≤ 8) (hr40 : rows ≤ 40) (hlen : ∀ s : Nat, s < 336 → (T s).length ≤ 60) (hv : mTv cols rows T by_ ln) (hc : c < cols) (hi : 0 ≤ i ∧ i < 2147483648) : f_X4_byteOf by_ ln (rows : Int) 0 (c : Int) i = some ((T c).getD i.toNat 0) := by
  rw [m_byteT hc8 hr40 hlen hv (by omega) (by omega) hi, mRw_in (by omega), show ((0 : Int) * 8 + (c : Int)).toNat = c by omega]
theorem mgetD_r {L : List Int} (h : ∀ x ∈ L, 32 ≤ x ∧ x ≤ 126) (i : Nat) : 0 ≤ L.getD i 0 ∧ L.getD i 0 ≤ 126 := by
  by_cases q : i < L.length
  · have := h _ (mgetD_mem q); omega
  · rw [List.getD_eq_getElem?_getD, List.getElem?_eq_none (by omega)]
    exact ⟨by decide, by decide⟩
theorem m_same32 {cols R0 R1 : Nat} {T0 T1 : Nat → List Int} {tb tl pb pl : Nat → Int} {c : Nat} {K : Option Int} {Q : Option Int → Prop} (hc8 : cols ≤ 8) (hR0 : R0 ≤ 40) (hR1 : R1 ≤ 40) (hlen0 : ∀ s : Nat, s < 336 → (T0 s).length ≤ 60) (hlen1 : ∀ s : Nat, s < 336 → (T1 s).length ≤ 60) (hv0 : mTv cols R0 T0 tb tl) (hv1 : mTv cols R1 T1 pb pl) (ht0 : mTr1 T0) (ht1 : mTr1 T1) (hc : c < cols) (he : (T0 c).length = (T1 c).length)
    (hK : (∀ i : Nat, i < (T1 c).length → (T0 c).getD i 0 = (T1 c).getD i 0) → Q K) (hN : (¬ ∀ i : Nat, i < (T1 c).length → (T0 c).getD i 0 = (T1 c).getD i 0) → Q (some 0)) : Q (f_X4_hasSameHead_l32 K (c : Int) ((T0 c).length : Int) tb tl (R0 : Int) pb pl (R1 : Int) zN 0) := by
  have hl0 := hlen0 c (by omega)
  refine mloop (L := fun m i (_ : Unit) => f_X4_hasSameHead_l32 K (c : Int) ((T0 c).length : Int) tb tl (R0 : Int) pb pl (R1 : Int) m i) (Q := Q) (hi := ((T0 c).length : Int)) (P := fun i _ => 0 ≤ i ∧ ∀ j : Nat, (j : Int) < i → (T0 c).getD j 0 = (T1 c).getD j 0) ?_ ?_ zN 0 () (by omega) (mzN (by omega)) ⟨by omega, fun j h => by omega⟩
  · rintro m i _ hi ⟨i0, i1⟩
    obtain ⟨k, rfl⟩ : ∃ k : Nat, i = (k : Int) := ⟨i.toNat, by omega⟩
    have r0 := mgetD_r (ht0 c) k
    have r1 := mgetD_r (ht1 c) k
    rw [f_X4_hasSameHead_l32_s, m_byte0 hc8 hR0 hlen0 hv0 hc (by omega), m_byte0 hc8 hR1 hlen1 hv1 hc (by omega), Int.toNat_natCast]
    simp (disch := omega) only [mlt, meq, mzb]
    rw [if_pos hi]
    by_cases q : (T0 c).getD k 0 = (T1 c).getD k 0
    · right
      rw [if_pos q]
      refine ⟨(), rfl, by omega, fun j hj => ?_⟩
      by_cases e : j = k
      · subst e; exact q
      · exact i1 j (by omega)
    · left
      rw [if_neg q]
      exact hN (fun h => q (h k (by omega)))
  · rintro m _ ⟨i0, i1⟩
    rw [f_X4_hasSameHead_l32_s]
    simp (disch := omega) only [mlt]
    rw [if_neg (by omega)]
    exact hK (fun j hj => i1 j (by omega))
theorem m_sameHead {cols R0 R1 : Nat} {T0 T1 : Nat → List Int} {tb tl pb pl : Nat → Int} (hc8 : cols ≤ 8) (hR0 : R0 ≤ 40) (hR1 : R1 ≤ 40) (hlen0 : ∀ s : Nat, s < 336 → (T0 s).length ≤ 60) (hlen1 : ∀ s : Nat, s < 336 → (T1 s).length ≤ 60) (hv0 : mTv cols R0 T0 tb tl) (hv1 : mTv cols R1 T1 pb pl) (ht0 : mTr1 T0) (ht1 : mTr1 T1) :
    ∃ v, f_X4_hasSameHead tb tl (cols : Int) (R0 : Int) pb pl (R1 : Int) = some v ∧ mFlx v (mSm T0 T1 (cols : Int)) := by
  unfold f_X4_hasSameHead
  refine mloop (L := fun m i (_ : Unit) => f_X4_hasSameHead_l2 (some 1) tb tl (cols : Int) (R0 : Int) pb pl (R1 : Int) m i) (Q := fun x => ∃ v, x = some v ∧ mFlx v (mSm T0 T1 (cols : Int))) (hi := (cols : Int)) (P := fun i _ => 0 ≤ i ∧ mSm T0 T1 i) ?_ ?_ zN 0 () (by omega) (mzN (by omega)) ⟨by omega, fun j h => by omega⟩
  · rintro m i _ hi ⟨i0, i1⟩
    obtain ⟨k, rfl⟩ : ∃ k : Nat, i = (k : Int) := ⟨i.toNat, by omega⟩
    have l0 := hlen0 k (by omega)
    have l1 := hlen1 k (by omega)
    rw [f_X4_hasSameHead_l2_s, m_len0 hc8 hR0 hv0 (by omega), m_len0 hc8 hR1 hv1 (by omega)]
    simp (disch := omega) only [mlt, meq, mzb]
    rw [if_pos hi]
    by_cases q : ((T0 k).length : Int) = ((T1 k).length : Int)
    · rw [if_pos q]
      refine m_same32 (Q := fun x => (∃ v, x = some v ∧ mFlx v (mSm T0 T1 (cols : Int))) ∨ ∃ s' : Unit, x = f_X4_hasSameHead_l2 (some 1) tb tl (cols : Int) (R0 : Int) pb pl (R1 : Int) m ((k : Int) + 1) ∧ 0 ≤ (k : Int) + 1 ∧ mSm T0 T1 ((k : Int) + 1)) hc8 hR0 hR1 hlen0 hlen1 hv0 hv1 ht0 ht1 (by omega) (by omega) (fun h => ?_) (fun h => ?_)
      · exact Or.inr ⟨(), rfl, by omega, mSm_s i1 (by omega) h⟩
      · exact Or.inl ⟨0, rfl, Or.inl ⟨rfl, fun h2 => h (h2 k hi).2⟩⟩
    · left
      rw [if_neg q]
      exact ⟨0, rfl, Or.inl ⟨rfl, fun h2 => q (by have := (h2 k hi).1; omega)⟩⟩
  · rintro m _ ⟨i0, i1⟩
    rw [f_X4_hasSameHead_l2_s]
    simp (disch := omega) only [mlt]
    rw [if_neg (by omega)]
    exact ⟨1, rfl, Or.inr ⟨rfl, i1⟩⟩
theorem m_hasHead {cols rows : Nat} {T : Nat → List Int} {by_ ln : Nat → Int} (hc8 : cols ≤ 8) (hr40 : rows ≤ 40) (hlen : ∀ s : Nat, s < 336 → (T s).length ≤ 60) (hv : mTv cols rows T by_ ln) : ∃ v, f_X4_hasHead ln (cols : Int) (rows : Int) = some v ∧ mFlx v (mHas T 0 (cols : Int)) := by
  obtain ⟨a, e1, f1⟩ := m_hasText (r := 0) hc8 hr40 hlen hv (by omega)
  rw [mRw_in (by omega)] at f1
  unfold f_X4_hasHead
  rw [e1, mzb, mch (mFlx_b f1)]
  exact ⟨a, rfl, f1⟩
theorem m_hasFoot {cols rows : Nat} {T : Nat → List Int} {by_ ln : Nat → Int} (hc8 : cols ≤ 8) (hr40 : rows ≤ 40) (hlen : ∀ s : Nat, s < 336 → (T s).length ≤ 60) (hv : mTv cols rows T by_ ln) : ∃ v, f_X4_hasFoot ln (cols : Int) (rows : Int) = some v ∧ mFlx v (mHas T 41 (cols : Int)) := by
  obtain ⟨a, e1, f1⟩ := m_hasText (r := (rows : Int) + 1) hc8 hr40 hlen hv (by omega)
  rw [mRw_foot (by omega)] at f1
  unfold f_X4_hasFoot
  rw [e1, mzb, mch (mFlx_b f1)]
  exact ⟨a, rfl, f1⟩
/-- the new one has no head, or the same -/
def mGo (T0 T1 : Nat → List Int) (n : Int) : Prop := (∀ c : Nat, (c : Int) < n → (T1 c).length = 0) ∨ mSm T0 T1 n
theorem m_goes {cols R0 R1 : Nat} {T0 T1 : Nat → List Int} {tb tl pb pl : Nat → Int} (hc : 1 ≤ cols ∧ cols ≤ 8) (hR0 : R0 ≤ 40) (hR1 : R1 ≤ 40) (hlen0 : ∀ s : Nat, s < 336 → (T0 s).length ≤ 60) (hlen1 : ∀ s : Nat, s < 336 → (T1 s).length ≤ 60) (hv0 : mTv cols R0 T0 tb tl) (hv1 : mTv cols R1 T1 pb pl) (ht0 : mTr1 T0) (ht1 : mTr1 T1) :
    ∃ v, f_X4_goesTogetherWith tb tl (cols : Int) (R0 : Int) pb pl (cols : Int) (R1 : Int) = some v ∧ mFlx v (mGo T0 T1 (cols : Int)) := by
  unfold f_X4_goesTogetherWith f_X4_goesTogetherWith_j26 f_X4_goesTogetherWith_j30
  obtain ⟨a, e1, f1⟩ := m_hasHead hc.2 hR1 hlen1 hv1
  obtain ⟨b, e2, f2⟩ := m_sameHead hc.2 hR0 hR1 hlen0 hlen1 hv0 hv1 ht0 ht1
  rw [if_pos rfl, e1, e2]
  simp only [mzb]
  rcases f1 with ⟨rfl, f1⟩ | ⟨rfl, f1⟩
  · rw [if_pos rfl]
    refine ⟨1, rfl, Or.inr ⟨rfl, Or.inl (fun c h => ?_)⟩⟩
    by_cases q : (T1 c).length = 0
    · exact q
    · exact absurd ⟨(c : Int), by omega, h, by rw [show ((0 : Int) * 8 + (c : Int)).toNat = c by omega]; omega⟩ f1
  · rw [if_neg (show ¬ zI 1 = zI 0 by decide)]
    have hn : ¬ ∀ c : Nat, (c : Int) < (cols : Int) → (T1 c).length = 0 := by
      intro h
      obtain ⟨c, q1, q2, q3⟩ := f1
      have := h c.toNat (by omega)
      rw [show ((0 : Int) * 8 + c).toNat = c.toNat by omega] at q3
      omega
    rcases f2 with ⟨rfl, f2⟩ | ⟨rfl, f2⟩
    · rw [if_pos rfl]
      exact ⟨0, rfl, Or.inl ⟨rfl, fun h => h.elim hn f2⟩⟩
    · rw [if_neg (show ¬ zI 1 = zI 0 by decide)]
      exact ⟨1, rfl, Or.inr ⟨rfl, Or.inr f2⟩⟩
