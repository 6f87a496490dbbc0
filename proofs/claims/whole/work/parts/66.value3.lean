/-! the call that tells a value: both programs answer alike -/
theorem p_value {ta tl ce cs : Nat → Int} {columns rows has trows tcols num v1 v2 : Int} (h : mTab ta tl columns rows has trows tcols cs ce) (h1 : mW v1) (h2 : mW v2) : ∃ r n, f_X5_value ta tl columns rows v1 v2 = some r ∧ f_X6_value has trows tcols cs ce num v1 v2 = some (r, n) ∧ mW r := by
  unfold f_X5_value f_X6_value
  rcases h with ⟨c1, c2, c3⟩ | ⟨cols, rws, T, hc, hr, rfl, rfl, rfl, rfl, rfl, hT1, hlen, hv, hw⟩
  · subst c1 c2 c3
    rw [m_holdsT (by omega) (by omega) h1 h2, if_neg (by omega), mzb]
    exact ⟨-2000000001, num, rfl, rfl, by unfold mW; omega⟩
  · rw [m_holdsT (by omega) (by omega) h1 h2, m_cellAt (by omega) (by omega) h1 h2]
    simp only [mzb]
    by_cases q : (0 ≤ v1 ∧ v1 ≤ (rws : Int) + 1) ∧ 0 ≤ v2 ∧ v2 < (cols : Int)
    · have hs := mSl_in q.1 q.2
      have hlt := mSl_lt hc.2 hr hs
      have hp : 0 ≤ mRw (rws : Int) v1 * 8 + v2 := by unfold mRw; split <;> omega
      have hvr := mVal_r (hlen _ hlt) (hT1 (mRw (rws : Int) v1 * 8 + v2).toNat)
      obtain ⟨n, e, hn⟩ := m_numM hc.2 hr hlen hT1 hw q.1 q.2
      rw [if_pos q, if_pos q, m_valC hc.2 hr hlen hT1 hv q.1 q.2, show 8 * mRw (rws : Int) v1 + v2 = mRw (rws : Int) v1 * 8 + v2 by omega, e]
      generalize mVal (T (mRw (rws : Int) v1 * 8 + v2).toNat) = V at *
      simp (disch := omega) only [mlt, mzb]
      rw [if_neg (show ¬ zI 1 = zI 0 by decide), if_neg (show ¬ mRw (rws : Int) v1 * 8 + v2 < 0 by omega)]
      by_cases z : V = -2000000000
      · rw [if_pos z, if_pos rfl]
        exact ⟨V, n, rfl, by rw [z], by unfold mW; omega⟩
      · rw [if_neg z, if_neg (show ¬ zI 1 = zI 0 by decide), hn z]
        exact ⟨V, V, rfl, rfl, by unfold mW; omega⟩
    · rw [if_neg q, if_neg q]
      exact ⟨-2000000001, num, rfl, rfl, by unfold mW; omega⟩
/-- a column is of numbers -/
def mNums (T : Nat → List Int) (c R : Nat) : Prop := (∃ r : Nat, 1 ≤ r ∧ r ≤ R ∧ 0 < (T (r * 8 + c)).length) ∧ ∀ r : Nat, 1 ≤ r → r ≤ R → 0 < (T (r * 8 + c)).length → ¬ mVal (T (r * 8 + c)) = -2000000000
def mSome (T : Nat → List Int) (c : Nat) (i : Int) : Prop := ∃ r : Nat, 1 ≤ r ∧ (r : Int) < i ∧ 0 < (T (r * 8 + c)).length
theorem mSome_t {T : Nat → List Int} {c k : Nat} (hk : 1 ≤ k) (h : 0 < (T (k * 8 + c)).length) : mSome T c ((k : Int) + 1) := ⟨k, hk, by omega, h⟩
theorem mSome_s {T : Nat → List Int} {c k : Nat} {v : Int} (h : ¬ 0 < (T (k * 8 + c)).length) (hv : mFlx v (mSome T c (k : Int))) : mFlx v (mSome T c ((k : Int) + 1)) := by
  refine mFlx_iff hv ⟨fun ⟨r, a1, a2, a3⟩ => ⟨r, a1, by omega, a3⟩, fun ⟨r, a1, a2, a3⟩ => ⟨r, a1, ?_, a3⟩⟩
  by_cases e : r = k
  · subst e; exact absurd a3 h
  · omega
theorem mRwN {R r c : Nat} (h : r ≤ R) : mRw (R : Int) (r : Int) * 8 + (c : Int) = ((r * 8 + c : Nat) : Int) := by
  rw [mRw_in (by omega)]; omega
theorem m_isOfNumbers {cols rows : Nat} {T : Nat → List Int} {by_ ln : Nat → Int} {c : Nat} (hc8 : cols ≤ 8) (hr40 : rows ≤ 40) (hlen : ∀ s : Nat, s < 336 → (T s).length ≤ 60) (ht : mTr1 T) (hv : mTv cols rows T by_ ln) (hc : c < cols) : ∃ v, f_X4_isOfNumbers by_ ln (rows : Int) (c : Int) = some v ∧ mFlx v (mNums T c rows) := by
  unfold f_X4_isOfNumbers
  refine mloop (L := fun m i v => f_X4_isOfNumbers_l4 (fun (v2_5 : Int) => zch v2_5 (some v2_5)) (c : Int) by_ ln (rows : Int) m v i) (Q := fun x => ∃ v, x = some v ∧ mFlx v (mNums T c rows)) (hi := (rows : Int) + 1) (P := fun i v => 1 ≤ i ∧ mFlx v (mSome T c i) ∧ ∀ r : Nat, 1 ≤ r → (r : Int) < i → 0 < (T (r * 8 + c)).length → ¬ mVal (T (r * 8 + c)) = -2000000000) ?_ ?_ zN 1 0 (by omega) (mzN (by omega)) ⟨by omega, Or.inl ⟨rfl, fun ⟨r, a1, a2, a3⟩ => by omega⟩, fun r h1 h2 => by omega⟩
  · rintro m i v hi ⟨i0, i1, i2⟩
    obtain ⟨k, rfl⟩ : ∃ k : Nat, i = (k : Int) := ⟨i.toNat, by omega⟩
    have hl := hlen (k * 8 + c) (by omega)
    have hvr := mVal_r hl (ht (k * 8 + c))
    rw [f_X4_isOfNumbers_l4_s, m_lengthT hc8 hr40 hv (by omega) (by omega), m_valC hc8 hr40 hlen ht hv (by omega) (by omega), mRwN (by omega), Int.toNat_natCast]
    simp (disch := omega) only [mlt, meq, mzb]
    rw [if_neg (by omega)]
    by_cases q : (0 : Int) < ((T (k * 8 + c)).length : Int)
    · rw [if_pos q]
      by_cases z : mVal (T (k * 8 + c)) = -2000000000
      · left
        rw [if_pos z]
        exact ⟨0, rfl, Or.inl ⟨rfl, fun h => h.2 k (by omega) (by omega) (by omega) z⟩⟩
      · right
        rw [if_neg z]
        refine ⟨1, rfl, by omega, Or.inr ⟨rfl, mSome_t (by omega) (by omega)⟩, fun r h1 h2 h3 => ?_⟩
        by_cases e : r = k
        · subst e; exact z
        · exact i2 r h1 (by omega) h3
    · right
      rw [if_neg q]
      refine ⟨v, rfl, by omega, mSome_s (by omega) i1, fun r h1 h2 h3 => ?_⟩
      by_cases e : r = k
      · subst e; omega
      · exact i2 r h1 (by omega) h3
  · rintro m v ⟨i0, i1, i2⟩
    rw [f_X4_isOfNumbers_l4_s]
    simp (disch := omega) only [mlt]
    rw [if_pos (by omega), mch (mFlx_b i1)]
    refine ⟨v, rfl, mFlx_iff i1 ⟨fun ⟨r, a1, a2, a3⟩ => ⟨⟨r, a1, by omega, a3⟩, fun r h1 h2 h3 => i2 r h1 (by omega) h3⟩, fun ⟨⟨r, a1, a2, a3⟩, _⟩ => ⟨r, a1, by omega, a3⟩⟩⟩
theorem m_areNumbers {cols rows : Nat} {T : Nat → List Int} {ce cs : Nat → Int} {c : Nat} {num : Int} (hc8 : cols ≤ 8) (hr40 : rows ≤ 40) (hlen : ∀ s : Nat, s < 336 → (T s).length ≤ 60) (ht : mTr1 T) (hv : mTv cols rows T ce cs) (hc : c < cols) : ∃ v n, f_X6_areNumbers (rows : Int) cs ce num (c : Int) = some (v, n) ∧ mFlx v (mNums T c rows) := by
  unfold f_X6_areNumbers
  refine mloop (L := fun m i (q : Int × Int) => f_X6_areNumbers_l4 (fun (v2_5 : Int) (t_number_6 : Int) => zch v2_5 (some (v2_5, t_number_6))) (c : Int) (rows : Int) cs ce m q.1 i q.2) (Q := fun x => ∃ v n, x = some (v, n) ∧ mFlx v (mNums T c rows)) (hi := (rows : Int) + 1) (P := fun i q => 1 ≤ i ∧ mFlx q.1 (mSome T c i) ∧ ∀ r : Nat, 1 ≤ r → (r : Int) < i → 0 < (T (r * 8 + c)).length → ¬ mVal (T (r * 8 + c)) = -2000000000) ?_ ?_ zN 1 (0, num) (by omega) (mzN (by omega)) ⟨by omega, Or.inl ⟨rfl, fun ⟨r, a1, a2, a3⟩ => by omega⟩, fun r h1 h2 => by omega⟩
  · rintro m i ⟨v, nn⟩ hi ⟨i0, i1, i2⟩
    dsimp only at i1 ⊢
    obtain ⟨k, rfl⟩ : ∃ k : Nat, i = (k : Int) := ⟨i.toNat, by omega⟩
    have hl := hlen (k * 8 + c) (by omega)
    obtain ⟨n, e, hn⟩ := m_numM (r := (k : Int)) (c := (c : Int)) hc8 hr40 hlen ht hv (by omega) (by omega)
    rw [mRwN (by omega), Int.toNat_natCast] at e
    have e1 := (hv _ ⟨k, c, rfl, Or.inl (by omega), hc⟩).1
    rw [f_X6_areNumbers_l4_s, mrd (by omega), show (8 * (k : Int) + (c : Int)).toNat = 8 * k + c by omega, e1, show 8 * (k : Int) + (c : Int) = ((k * 8 + c : Nat) : Int) by omega, e, show 8 * k + c = k * 8 + c by omega]
    simp (disch := omega) only [mlt, mzb]
    rw [if_neg (by omega)]
    by_cases q : (0 : Int) < ((T (k * 8 + c)).length : Int)
    · rw [if_pos q]
      by_cases z : mVal (T (k * 8 + c)) = -2000000000
      · left
        rw [if_pos z, if_pos rfl]
        exact ⟨0, n, rfl, Or.inl ⟨rfl, fun h => h.2 k (by omega) (by omega) (by omega) z⟩⟩
      · right
        rw [if_neg z, if_neg (show ¬ zI 1 = zI 0 by decide)]
        refine ⟨(1, n), rfl, by omega, Or.inr ⟨rfl, mSome_t (by omega) (by omega)⟩, fun r h1 h2 h3 => ?_⟩
        by_cases e : r = k
        · subst e; exact z
        · exact i2 r h1 (by omega) h3
    · right
      rw [if_neg q]
      refine ⟨(v, nn), rfl, by omega, mSome_s (by omega) i1, fun r h1 h2 h3 => ?_⟩
      by_cases e : r = k
      · subst e; omega
      · exact i2 r h1 (by omega) h3
  · rintro m ⟨v, nn⟩ ⟨i0, i1, i2⟩
    dsimp only at i1 ⊢
    rw [f_X6_areNumbers_l4_s]
    simp (disch := omega) only [mlt]
    rw [if_pos (by omega), mch (mFlx_b i1)]
    refine ⟨v, nn, rfl, mFlx_iff i1 ⟨fun ⟨r, a1, a2, a3⟩ => ⟨⟨r, a1, by omega, a3⟩, fun r h1 h2 h3 => i2 r h1 (by omega) h3⟩, fun ⟨⟨r, a1, a2, a3⟩, _⟩ => ⟨r, a1, by omega, a3⟩⟩⟩
theorem m_isColumn {cols : Nat} {v1 : Int} (hc : 1 ≤ cols ∧ cols ≤ 8) (h1 : mW v1) : f_X6_isColumn 1 (cols : Int) v1 = some (if 0 ≤ v1 ∧ v1 < (cols : Int) then 1 else 0) := by
  unfold mW at h1
  unfold f_X6_isColumn f_X6_isColumn_j27
  rw [if_neg (show ¬ zI 1 = zI 0 by decide), mw32 h1, mw32 (by omega), m_in (by omega), mzb]
  by_cases q : 0 ≤ v1 ∧ v1 < (cols : Int)
  · rw [if_pos q, if_pos (show 0 ≤ v1 ∧ v1 ≤ (cols : Int) - 1 by omega), if_neg (show ¬ zI 1 = zI 0 by decide)]
  · rw [if_neg q, if_neg (show ¬ (0 ≤ v1 ∧ v1 ≤ (cols : Int) - 1) by omega), if_pos rfl]
theorem m_holds0 {cols rows : Nat} {v1 : Int} (hc : 1 ≤ cols ∧ cols ≤ 8) (hr : rows ≤ 40) (h1 : mW v1) : f_X4_holds (cols : Int) (rows : Int) 0 v1 = some (if 0 ≤ v1 ∧ v1 < (cols : Int) then 1 else 0) := by
  rw [m_holdsT (by omega) (by omega) (by unfold mW; omega) h1]
  by_cases q : 0 ≤ v1 ∧ v1 < (cols : Int)
  · rw [if_pos q, if_pos ⟨by omega, q⟩]
  · rw [if_neg q, if_neg (fun h => q h.2)]
theorem p_numbers {ta tl ce cs : Nat → Int} {columns rows has trows tcols num v1 : Int} (h : mTab ta tl columns rows has trows tcols cs ce) (h1 : mW v1) : ∃ r n, f_X5_numbers ta tl columns rows v1 = some r ∧ f_X6_numbers has trows tcols cs ce num v1 = some (r, n) ∧ mW r := by
  unfold f_X5_numbers f_X6_numbers
  rcases h with ⟨c1, c2, c3⟩ | ⟨cols, rws, T, hc, hr, rfl, rfl, rfl, rfl, rfl, hT1, hlen, hv, hw⟩
  · subst c1 c2 c3
    rw [m_holdsT (by omega) (by omega) (by unfold mW; omega) h1, if_neg (by omega), mzb]
    exact ⟨-1, num, rfl, rfl, by unfold mW; omega⟩
  · rw [m_holds0 hc hr h1, m_isColumn hc h1]
    simp only [mzb]
    by_cases q : 0 ≤ v1 ∧ v1 < (cols : Int)
    · obtain ⟨c, rfl⟩ : ∃ c : Nat, v1 = (c : Int) := ⟨v1.toNat, by omega⟩
      obtain ⟨a, ea, fa⟩ := m_isOfNumbers (c := c) hc.2 hr hlen hT1 hv (by omega)
      obtain ⟨b, n, eb, fb⟩ := m_areNumbers (c := c) (num := num) hc.2 hr hlen hT1 hw (by omega)
      have := mFlx_uniq fa fb Iff.rfl
      subst this
      rw [if_pos q, if_neg (show ¬ zI 1 = zI 0 by decide), if_neg (show ¬ zI 1 = zI 0 by decide), ea, eb]
      simp only [mzb]
      rcases fa with ⟨rfl, -⟩ | ⟨rfl, -⟩
      · exact ⟨0, n, rfl, rfl, by unfold mW; omega⟩
      · exact ⟨1, n, rfl, rfl, by unfold mW; omega⟩
    · rw [if_neg q]
      exact ⟨-1, num, rfl, rfl, by unfold mW; omega⟩
