/-! the call that types: both programs answer alike -/
def mTp (tp : Nat → Int) (tl : Int) (tp2 : Nat → Int) (tl2 : Int) : Prop := tl = tl2 ∧ (0 ≤ tl ∧ tl ≤ 60) ∧ ∀ i : Int, 0 ≤ i → i < tl → tp i.toNat = tp2 i.toNat ∧ 32 ≤ tp i.toNat ∧ tp i.toNat ≤ 126
def mTyOk (v n : Int) : Prop := ∀ k : Int, 0 ≤ k → k < n → 32 ≤ mby v k ∧ mby v k ≤ 126
def mL (v : Int) : Prop := -9223372036854775808 ≤ v ∧ v < 9223372036854775808
theorem m_type16 {K : Option (Int × (Nat → Int) × Int)} {Q : Option (Int × (Nat → Int) × Int) → Prop} {v1 v3 tl : Int} {tp : Nat → Int} (hv : mL v1) (h3 : 1 ≤ v3 ∧ v3 ≤ 8) (hK : mTyOk v1 v3 → Q K) (hN : ¬ mTyOk v1 v3 → Q (some (-1, tp, tl))) : Q (f_X5_type_l16 K v1 v3 tp tl zN 0) := by
  refine mloop (L := fun m i (_ : Unit) => f_X5_type_l16 K v1 v3 tp tl m i) (Q := Q) (hi := v3) (P := fun i _ => 0 ≤ i ∧ ∀ k : Int, 0 ≤ k → k < i → 32 ≤ mby v1 k ∧ mby v1 k ≤ 126) ?_ ?_ zN 0 () (by omega) (mzN (by omega)) ⟨by omega, fun k h1 h2 => by omega⟩
  · rintro m i _ hi ⟨i0, i1⟩
    have hr := mby_r v1 i
    rw [f_X5_type_l16_s, m_bow (by omega) hv]
    unfold f_X5_isTypable f_X5_isTypable_j16
    simp (disch := omega) only [mlt, mzb]
    rw [if_pos hi]
    by_cases q : 32 ≤ mby v1 i ∧ mby v1 i ≤ 126
    · right
      rw [if_neg (show ¬ mby v1 i < 32 by omega), if_neg (show ¬ 126 < mby v1 i by omega)]
      simp (disch := omega) only [mlt, meq, mzb, mi0]
      refine ⟨(), trivial, by omega, fun k h1 h2 => ?_⟩
      by_cases e : k = i
      · rw [e]; exact q
      · exact i1 k h1 (by omega)
    · left
      have : ¬ mTyOk v1 v3 := fun h => q (h i i0 hi)
      by_cases q2 : mby v1 i < 32
      · rw [if_pos q2]
        simp (disch := omega) only [mlt, meq, mzb, mi1, mit]
        exact hN this
      · rw [if_neg q2, if_pos (show 126 < mby v1 i by omega)]
        simp (disch := omega) only [mlt, meq, mzb, mi1, mit]
        exact hN this
  · rintro m _ ⟨i0, i1⟩
    rw [f_X5_type_l16_s]
    simp (disch := omega) only [mlt]
    rw [if_neg (by omega)]
    exact hK i1
theorem m_type19 {K : Option (Int × (Nat → Int) × Int)} {Q : Option (Int × (Nat → Int) × Int) → Prop} {v1 v3 tl : Int} {tp : Nat → Int} (hv : mL v1) (h3 : 1 ≤ v3 ∧ v3 ≤ 8) (hK : mTyOk v1 v3 → Q K) (hN : ¬ mTyOk v1 v3 → Q (some (-1, tp, tl))) : Q (f_X6_type_l19 K v1 tp tl zN (v3 - 1)) := by
  refine mloopD (L := fun m i (_ : Unit) => f_X6_type_l19 K v1 tp tl m i) (Q := Q) (lo := 0) (P := fun i _ => i < v3 ∧ ∀ k : Int, i < k → k < v3 → 32 ≤ mby v1 k ∧ mby v1 k ≤ 126) ?_ ?_ zN (v3 - 1) () (by omega) (mzN (by omega)) ⟨by omega, fun k h1 h2 => by omega⟩
  · rintro m i _ hi ⟨i0, i1⟩
    have hr := mby_r v1 i
    rw [f_X6_type_l19_s, m_bowM (by omega) hv, m_in (by omega)]
    simp (disch := omega) only [mlt, mzb]
    rw [if_neg (show ¬ i < 0 by omega)]
    by_cases q : 32 ≤ mby v1 i ∧ mby v1 i ≤ 126
    · right
      rw [if_pos q]
      simp (disch := omega) only [meq, mi0]
      refine ⟨(), by rw [show i + -1 = i - 1 by omega], by omega, fun k h1 h2 => ?_⟩
      by_cases e : k = i
      · rw [e]; exact q
      · exact i1 k (by omega) h2
    · left
      rw [if_neg q]
      simp (disch := omega) only [meq, mi1, mit]
      exact hN fun h => q (h i hi i0)
  · rintro m _ ⟨i0, i1⟩
    rw [f_X6_type_l19_s]
    simp (disch := omega) only [mlt]
    rw [if_pos (by omega)]
    exact hK fun k h1 h2 => i1 k (by omega) h2
theorem m_type61 {K : (Nat → Int) → Int → Option (Int × (Nat → Int) × Int)} {Q : Option (Int × (Nat → Int) × Int) → Prop} {v1 v3 tl : Int} {tp : Nat → Int} (hv : mL v1) (h3 : 1 ≤ v3 ∧ v3 ≤ 8) (hl : 0 ≤ tl ∧ tl + v3 ≤ 60) (hK : ∀ tp', (∀ i : Int, 0 ≤ i → i < tl → tp' i.toNat = tp i.toNat) → (∀ i : Int, tl ≤ i → i < tl + v3 → tp' i.toNat = mby v1 (v3 - 1 - (i - tl))) → Q (K tp' (tl + v3))) : Q (f_X5_type_l61 K v1 zN (v3 - 1) tp tl) := by
  refine mloopD (L := fun m i (q : (Nat → Int) × Int) => f_X5_type_l61 K v1 m i q.1 q.2) (Q := Q) (lo := 0) (P := fun i q => i < v3 ∧ q.2 = tl + (v3 - 1 - i) ∧ (∀ j : Int, 0 ≤ j → j < tl → q.1 j.toNat = tp j.toNat) ∧ ∀ j : Int, tl ≤ j → j < q.2 → q.1 j.toNat = mby v1 (v3 - 1 - (j - tl))) ?_ ?_ zN (v3 - 1) (tp, tl) (by omega) (mzN (by omega)) ⟨by omega, by dsimp only; omega, fun _ _ _ => rfl, fun j h1 h2 => by dsimp only at h2; omega⟩
  · rintro m i ⟨t, n⟩ hi ⟨i0, i1, i2, i3⟩
    right
    dsimp only at i1 i2 i3 ⊢
    have hr := mby_r v1 i
    rw [f_X5_type_l61_s, m_bow (by omega) hv]
    simp (disch := omega) only [mlt, mzb]
    rw [if_neg (show ¬ i < 0 by omega), m_put_in (by omega)]
    simp only [mzb]
    refine ⟨(zu t n (mby v1 i), n + 1), by rw [show i + -1 = i - 1 by omega], by omega, by dsimp only; omega, fun j h1 h2 => ?_, fun j h1 h2 => ?_⟩
    · dsimp only
      rw [mzu_other (by omega)]
      exact i2 j h1 h2
    · dsimp only at h2 ⊢
      by_cases e : j = n
      · rw [e, mzu_same rfl]
        congr 1
        omega
      · rw [mzu_other (by omega)]
        exact i3 j h1 (by omega)
  · rintro m ⟨t, n⟩ ⟨i0, i1, i2, i3⟩
    dsimp only at i1 i2 i3 ⊢
    rw [f_X5_type_l61_s]
    simp (disch := omega) only [mlt]
    rw [if_pos (by omega)]
    have e : n = tl + v3 := by omega
    subst e
    exact hK t i2 i3
theorem m_type74 {K : (Nat → Int) → Int → Option (Int × (Nat → Int) × Int)} {Q : Option (Int × (Nat → Int) × Int) → Prop} {v1 v3 tl : Int} {tp : Nat → Int} (hv : mL v1) (h3 : 1 ≤ v3 ∧ v3 ≤ 8) (hl : 0 ≤ tl ∧ tl + v3 ≤ 60) (hK : ∀ tp', (∀ i : Int, 0 ≤ i → i < tl → tp' i.toNat = tp i.toNat) → (∀ i : Int, tl ≤ i → i < tl + v3 → tp' i.toNat = mby v1 (v3 - 1 - (i - tl))) → Q (K tp' (tl + v3))) : Q (f_X6_type_l74 K v1 zN (v3 - 1) tp tl) := by
  refine mloopD (L := fun m i (q : (Nat → Int) × Int) => f_X6_type_l74 K v1 m i q.1 q.2) (Q := Q) (lo := 0) (P := fun i q => i < v3 ∧ q.2 = tl + (v3 - 1 - i) ∧ (∀ j : Int, 0 ≤ j → j < tl → q.1 j.toNat = tp j.toNat) ∧ ∀ j : Int, tl ≤ j → j < q.2 → q.1 j.toNat = mby v1 (v3 - 1 - (j - tl))) ?_ ?_ zN (v3 - 1) (tp, tl) (by omega) (mzN (by omega)) ⟨by omega, by dsimp only; omega, fun _ _ _ => rfl, fun j h1 h2 => by dsimp only at h2; omega⟩
  · rintro m i ⟨t, n⟩ hi ⟨i0, i1, i2, i3⟩
    right
    dsimp only at i1 i2 i3 ⊢
    have hr := mby_r v1 i
    rw [f_X6_type_l74_s, m_bowM (by omega) hv]
    simp (disch := omega) only [mlt, mzb]
    rw [if_neg (show ¬ i < 0 by omega), mwr (by omega)]
    refine ⟨(zu t n (mby v1 i), n + 1), by rw [show i + -1 = i - 1 by omega], by omega, by dsimp only; omega, fun j h1 h2 => ?_, fun j h1 h2 => ?_⟩
    · dsimp only
      rw [mzu_other (by omega)]
      exact i2 j h1 h2
    · dsimp only at h2 ⊢
      by_cases e : j = n
      · rw [e, mzu_same rfl]
        congr 1
        omega
      · rw [mzu_other (by omega)]
        exact i3 j h1 (by omega)
  · rintro m ⟨t, n⟩ ⟨i0, i1, i2, i3⟩
    dsimp only at i1 i2 i3 ⊢
    rw [f_X6_type_l74_s]
    simp (disch := omega) only [mlt]
    rw [if_pos (by omega)]
    have e : n = tl + v3 := by omega
    subst e
    exact hK t i2 i3
theorem p_type {tp tp2 : Nat → Int} {tl tl2 v1 v3 : Int} (h : mTp tp tl tp2 tl2) (hv : mL v1) (h3 : mW v3) : ∃ r t n t2, f_X5_type tp tl v1 v3 = some (r, t, n) ∧ f_X6_type tp2 tl2 v1 v3 = some (r, t2, n) ∧ mW r ∧ mTp t n t2 n := by
  have hw := h3
  unfold mW at hw
  obtain ⟨he, hl, hi⟩ := h
  subst he
  have hsame : mTp tp tl tp2 tl := ⟨rfl, hl, hi⟩
  by_cases q : 1 ≤ v3 ∧ v3 ≤ 8
  · have e6 : f_X6_type tp2 tl v1 v3 = f_X6_type_l19 (if zI 60 < zI (tl + v3) then some ((-3), tp2, tl) else f_X6_type_l74 (fun (t_tape_7 : (Nat → Int)) (t_taped_8 : Int) => some (t_taped_8, t_tape_7, t_taped_8)) v1 zN (v3 - 1) tp2 tl) v1 tp2 tl zN (v3 - 1) := by
      unfold f_X6_type
      rw [mw32 hw, m_in (by omega), if_pos q]
      rfl
    rw [e6]
    unfold f_X5_type
    simp (disch := omega) only [mlt]
    rw [if_neg (show ¬ v3 < 1 by omega), if_neg (show ¬ 8 < v3 by omega)]
    by_cases ok : mTyOk v1 v3
    · have e16 : ∀ K, f_X5_type_l16 K v1 v3 tp tl zN 0 = K := fun K => m_type16 (Q := fun x => x = K) hv q (fun _ => rfl) (fun n => absurd ok n)
      have e19 : ∀ K, f_X6_type_l19 K v1 tp2 tl zN (v3 - 1) = K := fun K => m_type19 (Q := fun x => x = K) hv q (fun _ => rfl) (fun n => absurd ok n)
      rw [e16, e19]
      by_cases q2 : 60 < tl + v3
      · rw [if_pos q2, if_pos q2]
        exact ⟨-3, tp, tl, tp2, rfl, rfl, by unfold mW; omega, hsame⟩
      · rw [if_neg q2, if_neg q2]
        obtain ⟨t', e1, a1, a2⟩ := m_type61 (K := fun a b => some (b, a, b)) (tp := tp) (Q := fun x => ∃ t', x = some (tl + v3, t', tl + v3) ∧ (∀ i : Int, 0 ≤ i → i < tl → t' i.toNat = tp i.toNat) ∧ (∀ i : Int, tl ≤ i → i < tl + v3 → t' i.toNat = mby v1 (v3 - 1 - (i - tl)))) hv q ⟨hl.1, by omega⟩ (fun t' a1 a2 => ⟨t', rfl, a1, a2⟩)
        obtain ⟨t2, e2, b1, b2⟩ := m_type74 (K := fun a b => some (b, a, b)) (tp := tp2) (Q := fun x => ∃ t', x = some (tl + v3, t', tl + v3) ∧ (∀ i : Int, 0 ≤ i → i < tl → t' i.toNat = tp2 i.toNat) ∧ (∀ i : Int, tl ≤ i → i < tl + v3 → t' i.toNat = mby v1 (v3 - 1 - (i - tl)))) hv q ⟨hl.1, by omega⟩ (fun t' a1 a2 => ⟨t', rfl, a1, a2⟩)
        rw [e1, e2]
        refine ⟨tl + v3, t', tl + v3, t2, rfl, rfl, by unfold mW; omega, rfl, by omega, fun i i0 i1 => ?_⟩
        by_cases c : i < tl
        · rw [a1 i i0 c, b1 i i0 c]; exact hi i i0 c
        · rw [a2 i (by omega) i1, b2 i (by omega) i1]
          exact ⟨rfl, ok _ (by omega) (by omega)⟩
    · have e16 : ∀ K, f_X5_type_l16 K v1 v3 tp tl zN 0 = some (-1, tp, tl) := fun K => m_type16 (Q := fun x => x = some (-1, tp, tl)) hv q (fun n => absurd n ok) (fun _ => rfl)
      have e19 : ∀ K, f_X6_type_l19 K v1 tp2 tl zN (v3 - 1) = some (-1, tp2, tl) := fun K => m_type19 (Q := fun x => x = some (-1, tp2, tl)) hv q (fun n => absurd n ok) (fun _ => rfl)
      rw [e16, e19]
      exact ⟨-1, tp, tl, tp2, rfl, rfl, by unfold mW; omega, hsame⟩
  · have e6 : f_X6_type tp2 tl v1 v3 = some (-1, tp2, tl) := by
      unfold f_X6_type
      rw [mw32 hw, m_in (by omega), if_neg q]
      rfl
    refine ⟨-1, tp, tl, tp2, ?_, e6, by unfold mW; omega, hsame⟩
    unfold f_X5_type
    simp (disch := omega) only [mlt]
    by_cases c : v3 < 1
    · rw [if_pos c]
    · rw [if_neg c, if_pos (by omega)]
