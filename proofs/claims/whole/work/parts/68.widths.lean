/-! widths of columns: both programs -/
def mWx (T : Nat → List Int) (c R : Nat) : Nat → Int
  | 0 => 1
  | n + 1 => if mWx T c R n < ((T (mRw (R : Int) (n : Int) * 8 + (c : Int)).toNat).length : Int) then ((T (mRw (R : Int) (n : Int) * 8 + (c : Int)).toNat).length : Int) else mWx T c R n
theorem mWx_r {T : Nat → List Int} {c R cols : Nat} (hc8 : cols ≤ 8) (hr40 : R ≤ 40) (hlen : ∀ s : Nat, s < 336 → (T s).length ≤ 60) (hc : c < cols) : ∀ n : Nat, n ≤ R + 2 → (1 ≤ mWx T c R n ∧ mWx T c R n ≤ 60) ∧ ∀ r : Nat, r < n → ((T (mRw (R : Int) (r : Int) * 8 + (c : Int)).toNat).length : Int) ≤ mWx T c R n := by
  intro n
  induction n with
  | zero => intro _; exact ⟨⟨by unfold mWx; decide, by unfold mWx; decide⟩, fun r h => by omega⟩
  | succ n ih =>
    intro h
    obtain ⟨⟨h1, h2⟩, h3⟩ := ih (by omega)
    have hl := hlen _ (mSl_lt hc8 hr40 (mSl_in (cols := cols) (rows := R) (r := (n : Int)) (c := (c : Int)) (by omega) (by omega)))
    have e : ∀ r : Nat, r < n + 1 → r = n ∨ r < n := fun r hr => by omega
    unfold mWx
    split
    · refine ⟨⟨by omega, by omega⟩, fun r hr => ?_⟩
      rcases e r hr with e | e
      · subst e; omega
      · have := h3 r e; omega
    · refine ⟨⟨by omega, by omega⟩, fun r hr => ?_⟩
      rcases e r hr with e | e
      · subst e; omega
      · exact h3 r e
/-- how wide a column is laid -/
def mWc (T : Nat → List Int) (R c : Nat) : Int := mWx T c R (R + 2)
theorem m_measure26 {cols R : Nat} {T : Nat → List Int} {by_ ln : Nat → Int} {c : Nat} {K : Int → Option ((Nat → Int) × (Nat → Int) × Int)} (hc8 : cols ≤ 8) (hr40 : R ≤ 40) (hlen : ∀ s : Nat, s < 336 → (T s).length ≤ 60) (hv : mTv cols R T by_ ln) (hc : c < cols) : f_X4_measure_l26 K (c : Int) ln (R : Int) zN 1 0 = K (mWc T R c) := by
  refine mloop (L := fun m i v => f_X4_measure_l26 K (c : Int) ln (R : Int) m v i) (Q := fun x => x = K (mWc T R c)) (hi := (R : Int) + 2) (P := fun i v => ∃ n : Nat, i = (n : Int) ∧ v = mWx T c R n) ?_ ?_ zN 0 1 (by omega) (mzN (by omega)) ⟨0, rfl, rfl⟩
  · rintro m i v hi ⟨n, rfl, rfl⟩
    right
    obtain ⟨⟨h1, h2⟩, -⟩ := mWx_r hc8 hr40 hlen hc n (by omega)
    have hl := hlen _ (mSl_lt hc8 hr40 (mSl_in (cols := cols) (rows := R) (r := (n : Int)) (c := (c : Int)) (by omega) (by omega)))
    rw [f_X4_measure_l26_s, m_lengthT hc8 hr40 hv (by omega) (by omega), mzb, mmax (by omega)]
    simp (disch := omega) only [mlt]
    rw [if_neg (by omega)]
    exact ⟨_, rfl, n + 1, by omega, rfl⟩
  · rintro m v ⟨n, e, rfl⟩
    have : n = R + 2 := by omega
    subst this
    rw [f_X4_measure_l26_s]
    simp (disch := omega) only [mlt]
    rw [if_pos (by omega)]
    rfl
theorem m_widthOf {cols R : Nat} {T : Nat → List Int} {ce cs : Nat → Int} {c : Nat} (hc8 : 1 ≤ cols ∧ cols ≤ 8) (hr40 : R ≤ 40) (hlen : ∀ s : Nat, s < 336 → (T s).length ≤ 60) (hv : mTv cols R T ce cs) (hc : c < cols) : f_X6_widthOf 1 (R : Int) (cols : Int) cs (c : Int) = some (mWc T R c) := by
  unfold f_X6_widthOf
  refine mloop (L := fun m i v => f_X6_widthOf_l4 (fun (v2_5 : Int) => some v2_5) (c : Int) 1 (R : Int) (cols : Int) cs m v i) (Q := fun x => x = some (mWc T R c)) (hi := (R : Int) + 2) (P := fun i v => ∃ n : Nat, i = (n : Int) ∧ v = mWx T c R n) ?_ ?_ zN 0 1 (by omega) (mzN (by omega)) ⟨0, rfl, rfl⟩
  · rintro m i v hi ⟨n, rfl, rfl⟩
    right
    obtain ⟨⟨h1, h2⟩, -⟩ := mWx_r hc8.2 hr40 hlen hc n (by omega)
    have hs := mSl_in (cols := cols) (rows := R) (r := (n : Int)) (c := (c : Int)) (by omega) (by omega)
    have hlt := mSl_lt hc8.2 hr40 hs
    have hl := hlen _ hlt
    have e1 := (hv _ hs).1
    have hp : 0 ≤ mRw (R : Int) (n : Int) * 8 + (c : Int) := by unfold mRw; split <;> omega
    have eN : mWx T c R (n + 1) = if mWx T c R n < ((T (mRw (R : Int) (n : Int) * 8 + (c : Int)).toNat).length : Int) then ((T (mRw (R : Int) (n : Int) * 8 + (c : Int)).toNat).length : Int) else mWx T c R n := rfl
    rw [f_X6_widthOf_l4_s, m_cellAt (by omega) (by omega) (by unfold mW; omega) (by unfold mW; omega), mzb, if_pos (show (0 ≤ (n : Int) ∧ (n : Int) ≤ (R : Int) + 1) ∧ 0 ≤ (c : Int) ∧ (c : Int) < (cols : Int) by omega), show 8 * mRw (R : Int) (n : Int) + (c : Int) = mRw (R : Int) (n : Int) * 8 + (c : Int) by omega, mrd (by omega), e1]
    unfold f_X6_widthOf_j39
    simp (disch := omega) only [mlt]
    rw [if_neg (by omega)]
    by_cases q : mWx T c R n < ((T (mRw (R : Int) (n : Int) * 8 + (c : Int)).toNat).length : Int)
    · rw [if_pos q]
      rw [if_pos q] at eN
      exact ⟨_, rfl, n + 1, by omega, eN.symm⟩
    · rw [if_neg q]
      rw [if_neg q] at eN
      exact ⟨_, rfl, n + 1, by omega, eN.symm⟩
  · rintro m v ⟨n, e, rfl⟩
    have : n = R + 2 := by omega
    subst this
    rw [f_X6_widthOf_l4_s]
    simp (disch := omega) only [mlt]
    rw [if_pos (by omega)]
    rfl
/-- where a column begins -/
def mLf (W : Nat → Int) : Nat → Int
  | 0 => 0
  | c + 1 => mLf W c + W c + 2
theorem mLf_mono {W : Nat → Int} {cols : Nat} (hW : ∀ d : Nat, d < cols → 1 ≤ W d) {a : Nat} : ∀ b : Nat, a ≤ b → b ≤ cols → mLf W a ≤ mLf W b := by
  intro b
  induction b with
  | zero => intro h1 _; rw [show a = 0 by omega]; exact Int.le_refl _
  | succ b ih =>
    intro h1 h2
    by_cases e : a = b + 1
    · rw [e]; exact Int.le_refl _
    · have := ih (by omega) (by omega)
      have := hW b (by omega)
      have e2 : mLf W (b + 1) = mLf W b + W b + 2 := rfl
      omega
theorem mLf_pos {W : Nat → Int} {cols : Nat} (hW : ∀ d : Nat, d < cols → 1 ≤ W d) {c : Nat} (hc : c ≤ cols) : 0 ≤ mLf W c := mLf_mono hW c (Nat.zero_le _) hc
theorem mLf_60 {W : Nat → Int} {cols : Nat} (hW : ∀ d : Nat, d < cols → 1 ≤ W d ∧ W d ≤ 60) {c : Nat} : c ≤ cols → mLf W c ≤ 62 * (c : Int) := by
  induction c with
  | zero => intro _; unfold mLf; decide
  | succ c ih =>
    intro h
    have := ih (by omega)
    have := hW c (by omega)
    unfold mLf
    omega
theorem m_measure {cols R : Nat} {T : Nat → List Int} {by_ ln wi0 on0 : Nat → Int} (hc8 : 1 ≤ cols ∧ cols ≤ 8) (hr40 : R ≤ 40) (hlen : ∀ s : Nat, s < 336 → (T s).length ≤ 60) (ht : mTr1 T) (hv : mTv cols R T by_ ln) : ∃ wi on, f_X4_measure by_ ln (cols : Int) (R : Int) wi0 on0 = some (wi, on, mLf (mWc T R) cols - 2) ∧ (∀ d : Nat, d < cols → wi d = mWc T R d) ∧ ∀ d : Nat, d < cols → mFlx (on d) (mNums T d R) := by
  unfold f_X4_measure
  refine mloop (L := fun m i (q : (Nat → Int) × (Nat → Int) × Int) => f_X4_measure_l14 (fun (t_widths_10 : (Nat → Int)) (t_ofNumbers_11 : (Nat → Int)) (t_laidWidth_12 : Int) => some (t_widths_10, t_ofNumbers_11, t_laidWidth_12)) by_ ln (cols : Int) (R : Int) m i q.1 q.2.1 q.2.2) (Q := fun x => ∃ wi on, x = some (wi, on, mLf (mWc T R) cols - 2) ∧ (∀ d : Nat, d < cols → wi d = mWc T R d) ∧ ∀ d : Nat, d < cols → mFlx (on d) (mNums T d R)) (hi := (cols : Int)) (P := fun i q => ∃ c : Nat, i = (c : Int) ∧ q.2.2 = 2 * ((cols : Int) - 1) + mLf (mWc T R) c - 2 * (c : Int) ∧ (∀ d : Nat, d < c → q.1 d = mWc T R d) ∧ ∀ d : Nat, d < c → mFlx (q.2.1 d) (mNums T d R)) ?_ ?_ zN 0 (wi0, on0, 2 * ((cols : Int) - 1)) (by omega) (mzN (by omega)) ⟨0, rfl, by dsimp only; unfold mLf; omega, fun d h => by omega, fun d h => by omega⟩
  · rintro m i ⟨wi, on, lw⟩ hi ⟨c, rfl, rfl, h2, h3⟩
    right
    dsimp only at h2 h3 ⊢
    obtain ⟨v, e, hf⟩ := m_isOfNumbers (c := c) hc8.2 hr40 hlen ht hv (by omega)
    rw [f_X4_measure_l14_s, m_measure26 hc8.2 hr40 hlen hv (by omega), m_put_in (by omega), mzb, e, mzb]
    unfold f_X4_measure_j80
    rw [m_put_in (by omega), m_put_in (by omega)]
    simp (disch := omega) only [mlt, mzb]
    rw [if_pos hi]
    have fin : ∀ u : Int, mFlx u (mNums T c R) → ∃ s' : (Nat → Int) × (Nat → Int) × Int, f_X4_measure_l14 (fun (t_widths_10 : (Nat → Int)) (t_ofNumbers_11 : (Nat → Int)) (t_laidWidth_12 : Int) => some (t_widths_10, t_ofNumbers_11, t_laidWidth_12)) by_ ln (cols : Int) (R : Int) m ((c : Int) + 1) (zu wi (c : Int) (mWc T R c)) (zu on (c : Int) u) (2 * ((cols : Int) - 1) + mLf (mWc T R) c - 2 * (c : Int) + mWc T R c) = f_X4_measure_l14 (fun (t_widths_10 : (Nat → Int)) (t_ofNumbers_11 : (Nat → Int)) (t_laidWidth_12 : Int) => some (t_widths_10, t_ofNumbers_11, t_laidWidth_12)) by_ ln (cols : Int) (R : Int) m ((c : Int) + 1) s'.1 s'.2.1 s'.2.2 ∧ ∃ d : Nat, (c : Int) + 1 = (d : Int) ∧ s'.2.2 = 2 * ((cols : Int) - 1) + mLf (mWc T R) d - 2 * (d : Int) ∧ (∀ e : Nat, e < d → s'.1 e = mWc T R e) ∧ ∀ e : Nat, e < d → mFlx (s'.2.1 e) (mNums T e R) := by
      intro u hu
      have eL : mLf (mWc T R) (c + 1) = mLf (mWc T R) c + mWc T R c + 2 := rfl
      refine ⟨(zu wi (c : Int) (mWc T R c), zu on (c : Int) u, 2 * ((cols : Int) - 1) + mLf (mWc T R) c - 2 * (c : Int) + mWc T R c), rfl, c + 1, by omega, by dsimp only; omega, fun d hd => ?_, fun d hd => ?_⟩
      · dsimp only
        by_cases q : d = c
        · subst q; exact mzu_same (by omega)
        · rw [mzu_other (by omega)]; exact h2 d (by omega)
      · dsimp only
        by_cases q : d = c
        · subst q; rw [mzu_same (by omega)]; exact hu
        · rw [mzu_other (by omega)]; exact h3 d (by omega)
    rcases hf with ⟨rfl, hf⟩ | ⟨rfl, hf⟩
    · rw [if_pos rfl]
      exact fin 0 (Or.inl ⟨rfl, hf⟩)
    · rw [if_neg (show ¬ zI 1 = zI 0 by decide)]
      exact fin 1 (Or.inr ⟨rfl, hf⟩)
  · rintro m ⟨wi, on, lw⟩ ⟨c, e, rfl, h2, h3⟩
    have : c = cols := by omega
    subst this
    dsimp only at h2 h3 ⊢
    rw [f_X4_measure_l14_s]
    simp (disch := omega) only [mlt]
    rw [if_neg (by omega)]
    exact ⟨wi, on, by rw [show 2 * ((c : Int) - 1) + mLf (mWc T R) c - 2 * (c : Int) = mLf (mWc T R) c - 2 by omega], h2, h3⟩
