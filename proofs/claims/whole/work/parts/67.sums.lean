/-! sums of a column: both programs -/
noncomputable def mSuC (T : Nat → List Int) (c : Nat) : Nat → Int
  | 0 => 0
  | n + 1 => mSuC T c n + (if mVal (T ((n + 1) * 8 + c)) = -2000000000 then 0 else mVal (T ((n + 1) * 8 + c)))
theorem mSuC_r {cols rows : Nat} {T : Nat → List Int} {c : Nat} (hc8 : cols ≤ 8) (hr40 : rows ≤ 40) (hlen : ∀ s : Nat, s < 336 → (T s).length ≤ 60) (ht : mTr1 T) (hc : c < cols) : ∀ n : Nat, n ≤ rows → -1000000000 * (n : Int) ≤ mSuC T c n ∧ mSuC T c n ≤ 1000000000 * (n : Int) := by
  intro n
  induction n with
  | zero => intro _; exact ⟨by unfold mSuC; decide, by unfold mSuC; decide⟩
  | succ n ih =>
    intro h
    obtain ⟨h1, h2⟩ := ih (by omega)
    have hvr := mVal_r (hlen ((n + 1) * 8 + c) (by omega)) (ht ((n + 1) * 8 + c))
    unfold mSuC
    split <;> omega
theorem m_sumC {cols rows : Nat} {T : Nat → List Int} {by_ ln : Nat → Int} {c : Nat} (hc8 : cols ≤ 8) (hr40 : rows ≤ 40) (hlen : ∀ s : Nat, s < 336 → (T s).length ≤ 60) (ht : mTr1 T) (hv : mTv cols rows T by_ ln) (hc : c < cols) (hN : mNums T c rows) : f_X4_sumOf by_ ln (rows : Int) (c : Int) = some (mSuC T c rows) := by
  unfold f_X4_sumOf
  refine mloop (L := fun m i v => f_X4_sumOf_l5 (fun (v2_5 : Int) => some v2_5) (c : Int) by_ ln (rows : Int) m v i) (Q := fun x => x = some (mSuC T c rows)) (hi := (rows : Int) + 1) (P := fun i v => ∃ n : Nat, i = (n : Int) + 1 ∧ v = mSuC T c n) ?_ ?_ zN 1 0 (by omega) (mzN (by omega)) ⟨0, by omega, rfl⟩
  · rintro m i v hi ⟨n, rfl, rfl⟩
    right
    have hl := hlen ((n + 1) * 8 + c) (by omega)
    have hvr := mVal_r hl (ht ((n + 1) * 8 + c))
    have hv0 := mVal_0 hl (ht ((n + 1) * 8 + c))
    have hN2 := hN.2 (n + 1) (by omega) (by omega)
    rw [f_X4_sumOf_l5_s, show (n : Int) + 1 = ((n + 1 : Nat) : Int) by omega, m_lengthT hc8 hr40 hv (by omega) (by omega), m_valC hc8 hr40 hlen ht hv (by omega) (by omega), mRwN (by omega), Int.toNat_natCast]
    simp (disch := omega) only [mlt, mzb]
    rw [if_neg (by omega)]
    by_cases q : (0 : Int) < ((T ((n + 1) * 8 + c)).length : Int)
    · rw [if_pos q, mw32 (by omega)]
      refine ⟨_, rfl, n + 1, by omega, ?_⟩
      show _ = mSuC T c n + (if mVal (T ((n + 1) * 8 + c)) = -2000000000 then 0 else mVal (T ((n + 1) * 8 + c)))
      rw [if_neg (hN2 (by omega))]
    · rw [if_neg q]
      refine ⟨_, rfl, n + 1, by omega, ?_⟩
      show _ = mSuC T c n + (if mVal (T ((n + 1) * 8 + c)) = -2000000000 then 0 else mVal (T ((n + 1) * 8 + c)))
      rw [if_pos (hv0 (by omega)), Int.add_zero]
  · rintro m v ⟨n, e, rfl⟩
    have : n = rows := by omega
    subst this
    rw [f_X4_sumOf_l5_s]
    simp (disch := omega) only [mlt]
    rw [if_pos (by omega)]
theorem m_sumM {cols rows : Nat} {T : Nat → List Int} {ce cs : Nat → Int} {c : Nat} {num : Int} (hc8 : cols ≤ 8) (hr40 : rows ≤ 40) (hlen : ∀ s : Nat, s < 336 → (T s).length ≤ 60) (ht : mTr1 T) (hv : mTv cols rows T ce cs) (hc : c < cols) : ∃ n, f_X6_sumOf (rows : Int) cs ce num (c : Int) = some (mSuC T c rows, n) := by
  unfold f_X6_sumOf
  refine mloop (L := fun m i (q : Int × Int) => f_X6_sumOf_l5 (fun (v2_3 : Int) (t_number_4 : Int) => some (v2_3, t_number_4)) (c : Int) (rows : Int) cs ce m q.1 i q.2) (Q := fun x => ∃ n, x = some (mSuC T c rows, n)) (hi := (rows : Int) + 1) (P := fun i q => ∃ n : Nat, i = (n : Int) + 1 ∧ q.1 = mSuC T c n) ?_ ?_ zN 1 (0, num) (by omega) (mzN (by omega)) ⟨0, by omega, rfl⟩
  · rintro m i ⟨v, nn⟩ hi ⟨k, rfl, rfl⟩
    right
    dsimp only
    have hl := hlen ((k + 1) * 8 + c) (by omega)
    have hvr := mVal_r hl (ht ((k + 1) * 8 + c))
    obtain ⟨n, e, hn⟩ := m_numM (r := ((k + 1 : Nat) : Int)) (c := (c : Int)) hc8 hr40 hlen ht hv (by omega) (by omega)
    rw [mRwN (by omega), Int.toNat_natCast] at e hn
    rw [f_X6_sumOf_l5_s, show 8 * ((k : Int) + 1) + (c : Int) = (((k + 1) * 8 + c : Nat) : Int) by omega, e]
    unfold f_X6_sumOf_j38
    simp (disch := omega) only [mlt, mzb]
    rw [if_neg (by omega)]
    by_cases z : mVal (T ((k + 1) * 8 + c)) = -2000000000
    · rw [if_pos z, if_pos rfl]
      refine ⟨(mSuC T c k + 0, n), rfl, k + 1, by omega, ?_⟩
      show _ = mSuC T c k + (if mVal (T ((k + 1) * 8 + c)) = -2000000000 then 0 else mVal (T ((k + 1) * 8 + c)))
      rw [if_pos z]
    · rw [if_neg z, if_neg (show ¬ zI 1 = zI 0 by decide), hn z, mw32 (by omega)]
      refine ⟨(mSuC T c k + mVal (T ((k + 1) * 8 + c)), _), rfl, k + 1, by omega, ?_⟩
      show _ = mSuC T c k + (if mVal (T ((k + 1) * 8 + c)) = -2000000000 then 0 else mVal (T ((k + 1) * 8 + c)))
      rw [if_neg z]
  · rintro m ⟨v, nn⟩ ⟨n, e, rfl⟩
    have : n = rows := by omega
    subst this
    dsimp only
    rw [f_X6_sumOf_l5_s]
    simp (disch := omega) only [mlt]
    rw [if_pos (by omega)]
    exact ⟨nn, rfl⟩
def mWL (v : Int) : Prop := -9223372036854775808 ≤ v ∧ v < 9223372036854775808
theorem p_sum {ta tl ce cs : Nat → Int} {columns rows has trows tcols num v1 : Int} (h : mTab ta tl columns rows has trows tcols cs ce) (h1 : mW v1) : ∃ r n, f_X5_sum ta tl columns rows v1 = some r ∧ f_X6_sum has trows tcols cs ce num v1 = some (r, n) ∧ mWL r := by
  unfold f_X5_sum f_X6_sum
  rcases h with ⟨c1, c2, c3⟩ | ⟨cols, rws, T, hc, hr, rfl, rfl, rfl, rfl, rfl, hT1, hlen, hv, hw⟩
  · subst c1 c2 c3
    rw [m_holdsT (by omega) (by omega) (by unfold mW; omega) h1, if_neg (by omega), mzb]
    exact ⟨-1000000000001, num, rfl, rfl, by unfold mWL; omega⟩
  · rw [m_holds0 hc hr h1, m_isColumn hc h1]
    simp only [mzb]
    by_cases q : 0 ≤ v1 ∧ v1 < (cols : Int)
    · obtain ⟨c, rfl⟩ : ∃ c : Nat, v1 = (c : Int) := ⟨v1.toNat, by omega⟩
      obtain ⟨a, ea, fa⟩ := m_isOfNumbers (c := c) hc.2 hr hlen hT1 hv (by omega)
      obtain ⟨b, n, eb, fb⟩ := m_areNumbers (c := c) (num := num) hc.2 hr hlen hT1 hw (by omega)
      have := mFlx_uniq fa fb Iff.rfl
      subst this
      rw [if_pos q, if_neg (show ¬ zI 1 = zI 0 by decide), if_neg (show ¬ zI 1 = zI 0 by decide), ea, eb]
      simp only [mzb]
      rcases fa with ⟨rfl, -⟩ | ⟨rfl, hN⟩
      · exact ⟨-1000000000002, n, rfl, rfl, by unfold mWL; omega⟩
      · obtain ⟨n2, e2⟩ := m_sumM (c := c) (num := n) hc.2 hr hlen hT1 hw (by omega)
        have hsr := mSuC_r hc.2 hr hlen hT1 (show c < cols by omega) rws (Nat.le_refl _)
        rw [if_neg (show ¬ zI 1 = zI 0 by decide), if_neg (show ¬ zI 1 = zI 0 by decide), m_sumC hc.2 hr hlen hT1 hv (by omega) hN, e2]
        exact ⟨_, n2, rfl, rfl, by unfold mWL; omega⟩
    · rw [if_neg q]
      exact ⟨-1000000000001, num, rfl, rfl, by unfold mWL; omega⟩
theorem m_cmp0 {a b : Int} (h : (-9223372036854775808 ≤ a ∧ a < 9223372036854775808) ∧ -9223372036854775808 ≤ b ∧ b < 9223372036854775808) : (zI (zlcmp a b) = zI 0) = (a = b) := by
  rw [mcmp h]
  apply propext
  by_cases q1 : b < a
  · rw [if_pos q1]
    exact ⟨fun h => absurd h (by decide), fun h => by omega⟩
  · rw [if_neg q1]
    by_cases q2 : a = b
    · rw [if_pos q2]
      exact ⟨fun _ => q2, fun _ => rfl⟩
    · rw [if_neg q2]
      exact ⟨fun h => absurd h (by decide), fun h => absurd h q2⟩
theorem p_agrees {ta tl ce cs : Nat → Int} {columns rows has trows tcols num v1 : Int} (h : mTab ta tl columns rows has trows tcols cs ce) (h1 : mW v1) : ∃ r n, f_X5_agrees ta tl columns rows v1 = some r ∧ f_X6_agrees has trows tcols cs ce num v1 = some (r, n) ∧ mW r := by
  unfold f_X5_agrees f_X6_agrees
  rcases h with ⟨c1, c2, c3⟩ | ⟨cols, rws, T, hc, hr, rfl, rfl, rfl, rfl, rfl, hT1, hlen, hv, hw⟩
  · subst c1 c2 c3
    rw [m_holdsT (by omega) (by omega) (by unfold mW; omega) h1, if_neg (by omega), mzb]
    exact ⟨-1, num, rfl, rfl, by unfold mW; omega⟩
  · rw [m_holds0 hc hr h1, m_isColumn hc h1]
    simp only [mzb]
    by_cases q : 0 ≤ v1 ∧ v1 < (cols : Int)
    · obtain ⟨c, rfl⟩ : ∃ c : Nat, v1 = (c : Int) := ⟨v1.toNat, by omega⟩
      obtain ⟨a, ea, fa⟩ := m_isOfNumbers (c := c) hc.2 hr hlen hT1 hv (by omega)
      obtain ⟨b, n, eb, fb⟩ := m_areNumbers (c := c) (num := num) hc.2 hr hlen hT1 hw (by omega)
      have := mFlx_uniq fa fb Iff.rfl
      subst this
      have evf := m_valC (r := (rws : Int) + 1) (c := (c : Int)) hc.2 hr hlen hT1 hv (by omega) (by omega)
      have hl := hlen (41 * 8 + c) (by omega)
      have hvr := mVal_r hl (hT1 (41 * 8 + c))
      obtain ⟨n3, e3, hn3⟩ := m_numM (r := (rws : Int) + 1) (c := (c : Int)) hc.2 hr hlen hT1 hw (by omega) (by omega)
      rw [mRw_foot (by omega), show (41 : Int) * 8 + (c : Int) = ((41 * 8 + c : Nat) : Int) by omega, Int.toNat_natCast] at evf e3 hn3
      have hsr := mSuC_r hc.2 hr hlen hT1 (show c < cols by omega) rws (Nat.le_refl _)
      rw [if_pos q, if_neg (show ¬ zI 1 = zI 0 by decide), if_neg (show ¬ zI 1 = zI 0 by decide), ea, eb, evf, show (328 : Int) + (c : Int) = ((41 * 8 + c : Nat) : Int) by omega, e3]
      simp only [mzb]
      generalize mVal (T (41 * 8 + c)) = V at *
      have ez : (zI V = zI (-2000000000)) = (V = -2000000000) := meq (by omega)
      rcases fa with ⟨rfl, -⟩ | ⟨rfl, hN⟩
      · refine ⟨0, n, ?_, rfl, by unfold mW; omega⟩
        by_cases z : V = -2000000000
        · rw [if_pos (ez.mpr z)]
        · rw [if_neg (fun h => z (ez.mp h)), if_pos rfl]
      · obtain ⟨n2, e2⟩ := m_sumM (c := c) (num := n) hc.2 hr hlen hT1 hw (by omega)
        rw [if_neg (show ¬ zI 1 = zI 0 by decide), if_neg (show ¬ zI 1 = zI 0 by decide), m_sumC hc.2 hr hlen hT1 hv (by omega) hN, e2]
        simp only [mzb]
        by_cases z : V = -2000000000
        · rw [if_pos (ez.mpr z), if_pos z, if_pos rfl]
          exact ⟨0, _, rfl, rfl, by unfold mW; omega⟩
        · rw [if_neg (fun h => z (ez.mp h)), if_neg z, if_neg (show ¬ zI 1 = zI 0 by decide), hn3 z, mw32 (by omega)]
          simp (disch := omega) only [m_cmp0]
          by_cases y : mSuC T c rws = V
          · rw [if_pos y, if_pos y.symm]
            exact ⟨1, _, rfl, rfl, by unfold mW; omega⟩
          · rw [if_neg y, if_neg (fun h => y h.symm)]
            exact ⟨2, _, rfl, rfl, by unfold mW; omega⟩
    · rw [if_neg q]
      exact ⟨-1, num, rfl, rfl, by unfold mW; omega⟩
