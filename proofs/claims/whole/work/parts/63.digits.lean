/-! digits in a row of bytes: both programs -/
def mDig (b : Int) : Prop := 48 ≤ b ∧ b ≤ 57
/-- w digits from p on, and no more -/
def mRun (L : List Int) (p w : Nat) : Prop := (∀ i : Nat, i < w → mDig (L.getD (p + i) 0)) ∧ ¬ mDig (L.getD (p + w) 0)
theorem mgetD_out {L : List Int} {i : Nat} (h : L.length ≤ i) : L.getD i 0 = 0 := by
  rw [List.getD_eq_getElem?_getD, List.getElem?_eq_none (by omega)]
  rfl
theorem mDig_lt {L : List Int} {i : Nat} (h : mDig (L.getD i 0)) : i < L.length := by
  by_cases q : i < L.length
  · exact q
  · rw [mgetD_out (by omega)] at h
    obtain ⟨h1, h2⟩ := h
    omega
theorem mRun_ex (L : List Int) : ∀ n p : Nat, L.length - p = n → p ≤ L.length → ∃ w, mRun L p w ∧ p + w ≤ L.length := by
  intro n
  induction n with
  | zero =>
    intro p h1 h2
    refine ⟨0, ⟨fun i hi => by omega, fun h => ?_⟩, by omega⟩
    have := mDig_lt h
    omega
  | succ n ih =>
    intro p h1 h2
    by_cases q : mDig (L.getD p 0)
    · obtain ⟨w, ⟨w1, w2⟩, w3⟩ := ih (p + 1) (by omega) (by omega)
      refine ⟨w + 1, ⟨fun i hi => ?_, ?_⟩, by omega⟩
      · cases i with
        | zero => exact q
        | succ i =>
          have := w1 i (by omega)
          rw [show p + 1 + i = p + (i + 1) by omega] at this
          exact this
      · rw [show p + 1 + w = p + (w + 1) by omega] at w2
        exact w2
    · exact ⟨0, ⟨fun i hi => by omega, q⟩, by omega⟩
theorem m_digC {b : Int} (h : 0 ≤ b ∧ b ≤ 126) : f_X5_isDigit b = some (if 48 ≤ b ∧ b ≤ 57 then 1 else 0) := by
  unfold f_X5_isDigit f_X5_isDigit_j16
  simp (disch := omega) only [mlt]
  by_cases q1 : b < 48
  · rw [if_pos q1, if_neg (by omega)]
  · rw [if_neg q1]
    by_cases q2 : 57 < b
    · rw [if_pos q2, if_neg (by omega)]
    · rw [if_neg q2, if_pos (by omega)]
theorem m_digM {b : Int} (h : 0 ≤ b ∧ b ≤ 126) : f_X6_isDigit b = some (if 48 ≤ b ∧ b ≤ 57 then 1 else 0) := by
  unfold f_X6_isDigit
  rw [mw32 (by omega), m_in (by omega), mzb]
  by_cases q : 48 ≤ b ∧ b ≤ 57
  · rw [if_pos q, mch (Or.inr rfl)]
  · rw [if_neg q, mch (Or.inl rfl)]
/-- v0 and n digits behind it, as a number -/
def mNx (L : List Int) (p : Nat) (v0 : Int) : Nat → Int
  | 0 => v0
  | n + 1 => 10 * mNx L p v0 n + L.getD (p + n) 0 - 48
theorem m_count {L : List Int} {by_ ln : Nat → Int} {rows r c : Int} {p w : Nat} (hl : L.length ≤ 60) (hr : ∀ x ∈ L, 32 ≤ x ∧ x ≤ 126) (hb : ∀ i : Int, 0 ≤ i ∧ i < 2147483648 → f_X4_byteOf by_ ln rows r c i = some (L.getD i.toNat 0)) (hw : mRun L p w) (hp : p + w ≤ L.length) : f_X4_countDigits by_ ln rows r c (p : Int) = some (w : Int) := by
  unfold f_X4_countDigits
  refine mloop (L := fun m i (_ : Unit) => f_X4_countDigits_l3 (fun (v4_5 : Int) => some v4_5) r c (p : Int) by_ ln rows m i) (Q := fun x => x = some (w : Int)) (hi := (w : Int)) (P := fun i _ => 0 ≤ i) ?_ ?_ zN 0 () (by omega) (mzN (by omega)) (by omega)
  · rintro m i _ hi i0
    obtain ⟨k, rfl⟩ : ∃ k : Nat, i = (k : Int) := ⟨i.toNat, by omega⟩
    right
    have r0 := mgetD_r hr (p + k)
    have d := hw.1 k (by omega)
    unfold mDig at d
    rw [f_X4_countDigits_l3_s, hb _ (by omega), mzb, show ((p : Int) + (k : Int)).toNat = p + k by omega, m_digC r0, mzb, if_pos d]
    simp (disch := omega) only [mlt]
    rw [if_pos (by omega), if_neg (show ¬ zI 1 = zI 0 by decide)]
    exact ⟨(), rfl, by omega⟩
  · rintro m _ i0
    have r0 := mgetD_r hr (p + w)
    have d := hw.2
    unfold mDig at d
    rw [f_X4_countDigits_l3_s, hb _ (by omega), mzb, show ((p : Int) + (w : Int)).toNat = p + w by omega, m_digC r0, mzb, if_neg d, if_pos rfl]
    split <;> rfl
theorem m_readD {L : List Int} {by_ ln : Nat → Int} {rows r c : Int} {p w : Nat} (hl : L.length ≤ 60) (hb : ∀ i : Int, 0 ≤ i ∧ i < 2147483648 → f_X4_byteOf by_ ln rows r c i = some (L.getD i.toNat 0)) (hp : p + w ≤ L.length) : f_X4_readDigits by_ ln rows r c (p : Int) (w : Int) = some (mNx L p 0 w) := by
  unfold f_X4_readDigits
  refine mloop (L := fun m i v => f_X4_readDigits_l6 (fun (v5_3 : Int) => some v5_3) r c (p : Int) (w : Int) by_ ln rows m v i) (Q := fun x => x = some (mNx L p 0 w)) (hi := (p : Int) + (w : Int)) (P := fun i v => ∃ k : Nat, i = (p : Int) + (k : Int) ∧ v = mNx L p 0 k) ?_ ?_ zN (p : Int) 0 (by omega) (mzN (by omega)) ⟨0, by omega, rfl⟩
  · rintro m i v hi ⟨k, rfl, rfl⟩
    right
    rw [f_X4_readDigits_l6_s, hb _ (by omega), mzb, show ((p : Int) + (k : Int)).toNat = p + k by omega]
    simp (disch := omega) only [mlt]
    rw [if_pos hi]
    exact ⟨_, rfl, k + 1, by omega, rfl⟩
  · rintro m v ⟨k, h1, rfl⟩
    have : k = w := by omega
    subst this
    rw [f_X4_readDigits_l6_s]
    simp (disch := omega) only [mlt]
    rw [if_neg (by omega)]
theorem m_l49 {L : List Int} {ce : Nat → Int} {a : Int} {p w : Nat} {K : Int → Int → Option (Int × Int)} (hl : L.length ≤ 60) (hr : ∀ x ∈ L, 32 ≤ x ∧ x ≤ 126) (ha : 0 ≤ a ∧ a < 336) (hc : ∀ i : Nat, i < L.length → ce (a.toNat * 60 + i) = L.getD i 0) (h1 : ∀ i : Nat, i < w → mDig (L.getD (p + i) 0)) (h2 : w = 6 ∨ w < 6 ∧ ¬ mDig (L.getD (p + w) 0)) (hp : p + w ≤ L.length) : f_X6_isNumber_l49 K a (L.length : Int) (p : Int) ce zN (p : Int) 0 = K ((p + w : Nat) : Int) (mNx L p 0 w) := by
  refine mloop (L := fun m i v => f_X6_isNumber_l49 K a (L.length : Int) (p : Int) ce m i v) (Q := fun x => x = K ((p + w : Nat) : Int) (mNx L p 0 w)) (hi := (p : Int) + (w : Int)) (P := fun i v => ∃ k : Nat, i = (p : Int) + (k : Int) ∧ v = mNx L p 0 k) ?_ ?_ zN (p : Int) 0 (by omega) (mzN (by omega)) ⟨0, by omega, rfl⟩
  · rintro m i v hi ⟨k, rfl, rfl⟩
    right
    have r0 := mgetD_r hr (p + k)
    have d := h1 k (by omega)
    have e := hc (p + k) (mDig_lt d)
    unfold mDig at d
    rw [f_X6_isNumber_l49_s, mrd (by omega), mrd (by omega), show (60 * a + ((p : Int) + (k : Int))).toNat = a.toNat * 60 + (p + k) by omega, e, m_digM r0, mzb, if_pos d]
    simp (disch := omega) only [mlt]
    rw [if_pos (by omega), if_pos (by omega), if_neg (show ¬ zI 1 = zI 0 by decide)]
    exact ⟨_, rfl, k + 1, by omega, rfl⟩
  · rintro m v ⟨k, e1, rfl⟩
    have : k = w := by omega
    subst this
    rw [f_X6_isNumber_l49_s, show (p : Int) + (k : Int) = ((p + k : Nat) : Int) by omega]
    simp (disch := omega) only [mlt]
    by_cases q : ((p + k : Nat) : Int) < (L.length : Int)
    · rw [if_pos q]
      by_cases q6 : k < 6
      · have r0 := mgetD_r hr (p + k)
        have e := hc (p + k) (by omega)
        have d : ¬ mDig (L.getD (p + k) 0) := by
          rcases h2 with h2 | h2
          · omega
          · exact h2.2
        unfold mDig at d
        rw [if_pos (by omega), mrd (by omega), show (60 * a + ((p + k : Nat) : Int)).toNat = a.toNat * 60 + (p + k) by omega, e, m_digM r0, mzb, if_neg d, if_pos rfl]
      · rw [if_neg (by omega)]
    · rw [if_neg q]
theorem m_l148 {L : List Int} {ce : Nat → Int} {a v0 : Int} {p w : Nat} {K : Int → Int → Int → Option (Int × Int)} (hl : L.length ≤ 60) (hr : ∀ x ∈ L, 32 ≤ x ∧ x ≤ 126) (ha : 0 ≤ a ∧ a < 336) (hc : ∀ i : Nat, i < L.length → ce (a.toNat * 60 + i) = L.getD i 0) (h1 : ∀ i : Nat, i < w → mDig (L.getD (p + i) 0)) (h2 : w = 3 ∨ w < 3 ∧ ¬ mDig (L.getD (p + w) 0)) (hp : p + w ≤ L.length) : f_X6_isNumber_l148 K a (L.length : Int) ce zN (p : Int) v0 0 = K ((p + w : Nat) : Int) (mNx L p v0 w) (w : Int) := by
  refine mloop (L := fun m i (q : Int × Int) => f_X6_isNumber_l148 K a (L.length : Int) ce m q.1 q.2 i) (Q := fun x => x = K ((p + w : Nat) : Int) (mNx L p v0 w) (w : Int)) (hi := (w : Int)) (P := fun i q => ∃ k : Nat, i = (k : Int) ∧ q.1 = (p : Int) + (k : Int) ∧ q.2 = mNx L p v0 k) ?_ ?_ zN 0 ((p : Int), v0) (by omega) (mzN (by omega)) ⟨0, rfl, by dsimp only; omega, rfl⟩
  · rintro m i ⟨x, v⟩ hi ⟨k, rfl, rfl, rfl⟩
    right
    dsimp only
    have r0 := mgetD_r hr (p + k)
    have d := h1 k (by omega)
    have e := hc (p + k) (mDig_lt d)
    unfold mDig at d
    rw [f_X6_isNumber_l148_s, mrd (by omega), mrd (by omega), show (60 * a + ((p : Int) + (k : Int))).toNat = a.toNat * 60 + (p + k) by omega, e, m_digM r0, mzb, if_pos d]
    simp (disch := omega) only [mlt]
    rw [if_pos (by omega), if_pos (by omega), if_neg (show ¬ zI 1 = zI 0 by decide)]
    exact ⟨(_, _), rfl, k + 1, by omega, by dsimp only; omega, rfl⟩
  · rintro m ⟨x, v⟩ ⟨k, e1, rfl, rfl⟩
    have : k = w := by omega
    subst this
    dsimp only
    rw [f_X6_isNumber_l148_s, show (p : Int) + (k : Int) = ((p + k : Nat) : Int) by omega]
    simp (disch := omega) only [mlt]
    by_cases q : ((p + k : Nat) : Int) < (L.length : Int)
    · rw [if_pos q]
      by_cases q6 : k < 3
      · have r0 := mgetD_r hr (p + k)
        have e := hc (p + k) (by omega)
        have d : ¬ mDig (L.getD (p + k) 0) := by
          rcases h2 with h2 | h2
          · omega
          · exact h2.2
        unfold mDig at d
        rw [if_pos (by omega), mrd (by omega), show (60 * a + ((p + k : Nat) : Int)).toNat = a.toNat * 60 + (p + k) by omega, e, m_digM r0, mzb, if_neg d, if_pos rfl]
      · rw [if_neg (by omega)]
    · rw [if_neg q]
