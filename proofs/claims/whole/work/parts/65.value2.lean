/-! the value of a cell: the same in both programs -/
theorem m_value {L : List Int} (hl : L.length ≤ 60) (hr : ∀ x ∈ L, 32 ≤ x ∧ x ≤ 126) : ∃ v : Int, (v = -2000000000 ∨ -1000000000 < v ∧ v < 1000000000) ∧ (L.length = 0 → v = -2000000000) ∧
    (∀ (by_ ln : Nat → Int) (rows r c : Int), (∀ i : Int, 0 ≤ i ∧ i < 2147483648 → f_X4_byteOf by_ ln rows r c i = some (L.getD i.toNat 0)) → f_X4_lengthOf ln rows r c = some (L.length : Int) → f_X4_valueOf by_ ln rows r c = some v) ∧
    ∀ (cs ce : Nat → Int) (a : Int), (0 ≤ a ∧ a < 336) → cs a.toNat = (L.length : Int) → (∀ i : Nat, i < L.length → ce (a.toNat * 60 + i) = L.getD i 0) → ∃ n, f_X6_isNumber cs ce a = some (if v = -2000000000 then 0 else 1, n) ∧ (¬ v = -2000000000 → n = v) := by
  obtain ⟨st, hst⟩ : ∃ st : Nat, st = if L.getD 0 0 = 45 then 1 else 0 := ⟨_, rfl⟩
  have hst2 : st = 0 ∨ st = 1 := by
    rw [hst]; split
    · exact Or.inr rfl
    · exact Or.inl rfl
  have hsl : st ≤ L.length := by
    by_cases q : L.getD 0 0 = 45
    · by_cases q2 : 0 < L.length
      · omega
      · rw [mgetD_out (by omega)] at q
        exact absurd q (by decide)
    · rw [if_neg q] at hst
      omega
  obtain ⟨W, hW, hWl⟩ := mRun_ex L _ st rfl hsl
  have hP : ∃ P, L.getD (st + W) 0 = 46 → mRun L (st + W + 1) P ∧ st + W + 1 + P ≤ L.length := by
    by_cases q : L.getD (st + W) 0 = 46
    · have : st + W < L.length := by
        by_cases q2 : st + W < L.length
        · exact q2
        · rw [mgetD_out (by omega)] at q
          exact absurd q (by decide)
      obtain ⟨P, a1, a2⟩ := mRun_ex L _ (st + W + 1) rfl (by omega)
      exact ⟨P, fun _ => ⟨a1, a2⟩⟩
    · exact ⟨0, fun h => absurd h q⟩
  obtain ⟨P, hP⟩ := hP
  obtain ⟨p3, hp3⟩ : ∃ p3 : Nat, p3 = P ∧ P ≤ 3 ∨ p3 = 3 ∧ 3 < P := by
    by_cases q : P ≤ 3
    · exact ⟨P, Or.inl ⟨rfl, q⟩⟩
    · exact ⟨3, Or.inr ⟨rfl, by omega⟩⟩
  have hP3 : L.getD (st + W) 0 = 46 → (∀ i : Nat, i < p3 → mDig (L.getD (st + W + 1 + i) 0)) ∧ (p3 = 3 ∨ p3 < 3 ∧ ¬ mDig (L.getD (st + W + 1 + p3) 0)) ∧ st + W + 1 + p3 ≤ L.length := by
    intro h
    obtain ⟨⟨a1, a2⟩, a3⟩ := hP h
    refine ⟨fun i hi => a1 i (by omega), ?_, by omega⟩
    rcases hp3 with ⟨b1, b2⟩ | ⟨b1, b2⟩
    · by_cases q : P = 3
      · exact Or.inl (by omega)
      · exact Or.inr ⟨by omega, by rw [b1]; exact a2⟩
    · exact Or.inl b1
  have hC := fun (by_ ln : Nat → Int) (rows r c : Int) (hb : ∀ i : Int, 0 ≤ i ∧ i < 2147483648 → f_X4_byteOf by_ ln rows r c i = some (L.getD i.toNat 0)) (hn : f_X4_lengthOf ln rows r c = some (L.length : Int)) => m_valueOf hl hr hb hn hst hW hWl hP
  by_cases q1 : W < 1 ∨ 6 < W
  · refine ⟨-2000000000, Or.inl rfl, fun _ => rfl, fun by_ ln rows r c hb hn => by rw [hC by_ ln rows r c hb hn, if_pos q1], fun cs ce a ha hn hc => ?_⟩
    rw [if_pos rfl]
    rcases q1 with q1 | q1
    · rw [m_isNumber (w := W) (p := p3) hl hr ha hn hc hst hW.1 (Or.inr ⟨by omega, hW.2⟩) hWl hP3]
      split
      · rw [if_neg (fun h => by omega)]
        exact ⟨_, rfl, fun h => absurd rfl h⟩
      · rw [if_neg (fun h => by omega)]
        exact ⟨_, rfl, fun h => absurd rfl h⟩
    · have d := hW.1 6 (by omega)
      have d2 := mDig_lt d
      have hne : ¬ L.getD (st + 6) 0 = 46 := by
        intro h
        rw [h] at d
        obtain ⟨d3, d4⟩ := d
        omega
      rw [m_isNumber (w := 6) (p := 0) hl hr ha hn hc hst (fun i hi => hW.1 i (by omega)) (Or.inl rfl) (by omega) (fun h => absurd h hne), if_neg hne, if_neg (fun h => by omega)]
      exact ⟨_, rfl, fun h => absurd rfl h⟩
  · have hM := fun (cs ce : Nat → Int) (a : Int) (ha : 0 ≤ a ∧ a < 336) (hn : cs a.toNat = (L.length : Int)) (hc : ∀ i : Nat, i < L.length → ce (a.toNat * 60 + i) = L.getD i 0) => m_isNumber (w := W) (p := p3) hl hr ha hn hc hst hW.1 (by
      by_cases q : W = 6
      · exact Or.inl q
      · exact Or.inr ⟨by omega, hW.2⟩) hWl hP3
    obtain ⟨w1, w2⟩ := mNx_6 (L := L) (p := st) (w := W) (by omega) hW.1
    by_cases q2 : L.getD (st + W) 0 = 46
    · obtain ⟨⟨a1, a2⟩, a3⟩ := hP q2
      by_cases q3 : P < 1 ∨ 3 < P
      · refine ⟨-2000000000, Or.inl rfl, fun _ => rfl, fun by_ ln rows r c hb hn => by rw [hC by_ ln rows r c hb hn, if_neg q1, if_pos q2, if_pos q3], fun cs ce a ha hn hc => ?_⟩
        rw [if_pos rfl, hM cs ce a ha hn hc, if_pos q2, if_neg (fun h => by omega)]
        exact ⟨_, rfl, fun h => absurd rfl h⟩
      · have e3 : p3 = P := by omega
        by_cases q4 : st + W + 1 + P = L.length
        · obtain ⟨w3, w4⟩ := mNx_3 (L := L) (p := st + W + 1) (w := P) (by omega) a1
          have hrg : -1000000000 < mSg st (1000 * mNx L st 0 W + mSc P * mNx L (st + W + 1) 0 P) ∧ mSg st (1000 * mNx L st 0 W + mSc P * mNx L (st + W + 1) 0 P) < 1000000000 := by
            unfold mSg
            split <;> omega
          refine ⟨mSg st (1000 * mNx L st 0 W + mSc P * mNx L (st + W + 1) 0 P), Or.inr hrg, fun h => by omega, fun by_ ln rows r c hb hn => by rw [hC by_ ln rows r c hb hn, if_neg q1, if_pos q2, if_neg q3, if_pos q4], fun cs ce a ha hn hc => ?_⟩
          rw [hM cs ce a ha hn hc, if_pos q2, e3, mNx_parts (by omega), if_pos ⟨by omega, by omega, q4⟩, if_neg (show ¬ mSg st (1000 * mNx L st 0 W + mSc P * mNx L (st + W + 1) 0 P) = -2000000000 by omega)]
          exact ⟨_, rfl, fun _ => rfl⟩
        · refine ⟨-2000000000, Or.inl rfl, fun _ => rfl, fun by_ ln rows r c hb hn => by rw [hC by_ ln rows r c hb hn, if_neg q1, if_pos q2, if_neg q3, if_neg q4], fun cs ce a ha hn hc => ?_⟩
          rw [if_pos rfl, hM cs ce a ha hn hc, if_pos q2, e3, if_neg (fun h => q4 h.2.2)]
          exact ⟨_, rfl, fun h => absurd rfl h⟩
    · by_cases q4 : st + W = L.length
      · have hrg : -1000000000 < mSg st (1000 * mNx L st 0 W) ∧ mSg st (1000 * mNx L st 0 W) < 1000000000 := by
          unfold mSg
          split <;> omega
        refine ⟨mSg st (1000 * mNx L st 0 W), Or.inr hrg, fun h => by omega, fun by_ ln rows r c hb hn => by rw [hC by_ ln rows r c hb hn, if_neg q1, if_neg q2, if_pos q4], fun cs ce a ha hn hc => ?_⟩
        rw [hM cs ce a ha hn hc, if_neg q2, if_pos ⟨by omega, q4⟩, if_neg (show ¬ mSg st (1000 * mNx L st 0 W) = -2000000000 by omega)]
        exact ⟨_, rfl, fun _ => rfl⟩
      · refine ⟨-2000000000, Or.inl rfl, fun _ => rfl, fun by_ ln rows r c hb hn => by rw [hC by_ ln rows r c hb hn, if_neg q1, if_neg q2, if_neg q4], fun cs ce a ha hn hc => ?_⟩
        rw [if_pos rfl, hM cs ce a ha hn hc, if_neg q2, if_neg (fun h => q4 h.2)]
        exact ⟨_, rfl, fun h => absurd rfl h⟩
noncomputable def mVal (L : List Int) : Int := @dite Int (L.length ≤ 60 ∧ ∀ x ∈ L, 32 ≤ x ∧ x ≤ 126) (Classical.propDecidable _) (fun h => Classical.choose (m_value h.1 h.2)) (fun _ => 0)
theorem mVal_eq {L : List Int} (h1 : L.length ≤ 60) (h2 : ∀ x ∈ L, 32 ≤ x ∧ x ≤ 126) : mVal L = Classical.choose (m_value h1 h2) := by
  unfold mVal
  exact dif_pos ⟨h1, h2⟩
theorem mVal_r {L : List Int} (h1 : L.length ≤ 60) (h2 : ∀ x ∈ L, 32 ≤ x ∧ x ≤ 126) : mVal L = -2000000000 ∨ -1000000000 < mVal L ∧ mVal L < 1000000000 := by
  rw [mVal_eq h1 h2]
  exact (Classical.choose_spec (m_value h1 h2)).1
theorem mVal_0 {L : List Int} (h1 : L.length ≤ 60) (h2 : ∀ x ∈ L, 32 ≤ x ∧ x ≤ 126) (h : L.length = 0) : mVal L = -2000000000 := by
  rw [mVal_eq h1 h2]
  exact (Classical.choose_spec (m_value h1 h2)).2.1 h
theorem m_valC {cols rows : Nat} {T : Nat → List Int} {by_ ln : Nat → Int} {r c : Int} (hc8 : cols ≤ 8) (hr40 : rows ≤ 40) (hlen : ∀ s : Nat, s < 336 → (T s).length ≤ 60) (ht : mTr1 T) (hv : mTv cols rows T by_ ln) (hr : 0 ≤ r ∧ r ≤ (rows : Int) + 1) (hc : 0 ≤ c ∧ c < (cols : Int)) : f_X4_valueOf by_ ln (rows : Int) r c = some (mVal (T (mRw (rows : Int) r * 8 + c).toNat)) := by
  have hlt := mSl_lt hc8 hr40 (mSl_in hr hc)
  rw [mVal_eq (hlen _ hlt) (ht _)]
  exact (Classical.choose_spec (m_value (hlen _ hlt) (ht _))).2.2.1 _ _ _ _ _ (fun i hi => m_byteT hc8 hr40 hlen hv hr hc hi) (m_lengthT hc8 hr40 hv hr hc)
theorem m_numM {cols rows : Nat} {T : Nat → List Int} {ce cs : Nat → Int} {r c : Int} (hc8 : cols ≤ 8) (hr40 : rows ≤ 40) (hlen : ∀ s : Nat, s < 336 → (T s).length ≤ 60) (ht : mTr1 T) (hv : mTv cols rows T ce cs) (hr : 0 ≤ r ∧ r ≤ (rows : Int) + 1) (hc : 0 ≤ c ∧ c < (cols : Int)) : ∃ n, f_X6_isNumber cs ce (mRw (rows : Int) r * 8 + c) = some (if mVal (T (mRw (rows : Int) r * 8 + c).toNat) = -2000000000 then 0 else 1, n) ∧ (¬ mVal (T (mRw (rows : Int) r * 8 + c).toNat) = -2000000000 → n = mVal (T (mRw (rows : Int) r * 8 + c).toNat)) := by
  have hs := mSl_in hr hc
  have hlt := mSl_lt hc8 hr40 hs
  have hp : 0 ≤ mRw (rows : Int) r * 8 + c := by unfold mRw; split <;> omega
  rw [mVal_eq (hlen _ hlt) (ht _)]
  exact (Classical.choose_spec (m_value (hlen _ hlt) (ht _))).2.2.2 _ _ _ (by omega) (hv _ hs).1 (hv _ hs).2
