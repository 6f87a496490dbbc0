/-! the rows of one table behind those of another -/
/-- slot s of rows of bytes holds the cell of T there -/
def mHs (T : Nat → List Int) (by_ ln : Nat → Int) (s : Nat) : Prop := ln s = ((T s).length : Int) ∧ ∀ i : Nat, i < (T s).length → by_ (s * 60 + i) = (T s).getD i 0
/-- the cells of T0 (rows 0 .. R0), behind them those of T1 (rows 1 .. R1), and its foot -/
def mMo (T0 T1 : Nat → List Int) (R0 R1 : Nat) (s : Nat) : List Int := if s < 8 * (R0 + 1) then T0 s else if s < 8 * (R0 + R1 + 1) then T1 (s - 8 * R0) else T1 s
theorem mTr1_mo {T0 T1 : Nat → List Int} {R0 R1 : Nat} (h0 : mTr1 T0) (h1 : mTr1 T1) : mTr1 (mMo T0 T1 R0 R1) := by
  intro s x hx
  unfold mMo at hx
  split at hx
  · exact h0 s x hx
  · split at hx
    · exact h1 _ x hx
    · exact h1 _ x hx
theorem mMo_len {T0 T1 : Nat → List Int} {R0 R1 : Nat} (h0 : ∀ s : Nat, s < 336 → (T0 s).length ≤ 60) (h1 : ∀ s : Nat, s < 336 → (T1 s).length ≤ 60) : ∀ s : Nat, s < 336 → (mMo T0 T1 R0 R1 s).length ≤ 60 := by
  intro s hs
  unfold mMo
  split
  · exact h0 s hs
  · split
    · exact h1 _ (by omega)
    · exact h1 _ hs
theorem mMo_lo {T0 T1 : Nat → List Int} {R0 R1 r c : Nat} (h : r ≤ R0) (hc : c < 8) : mMo T0 T1 R0 R1 (8 * r + c) = T0 (8 * r + c) := by
  unfold mMo
  rw [if_pos (by omega)]
theorem mMo_mid {T0 T1 : Nat → List Int} {R0 R1 i c : Nat} (h : 1 ≤ i ∧ i ≤ R1) (hc : c < 8) : mMo T0 T1 R0 R1 (8 * (R0 + i) + c) = T1 (8 * i + c) := by
  unfold mMo
  rw [if_neg (by omega), if_pos (by omega), show 8 * (R0 + i) + c - 8 * R0 = 8 * i + c by omega]
theorem mMo_foot {T0 T1 : Nat → List Int} {R0 R1 c : Nat} (h : R0 + R1 ≤ 40) (hc : c < 8) : mMo T0 T1 R0 R1 (8 * 41 + c) = T1 (8 * 41 + c) := by
  unfold mMo
  rw [if_neg (by omega), if_neg (by omega)]
theorem mHs_of {T S : Nat → List Int} {by_ ln : Nat → Int} {s t : Nat} (e : T s = S t) (h1 : ln s = ((S t).length : Int)) (h2 : ∀ i : Nat, i < (S t).length → by_ (s * 60 + i) = (S t).getD i 0) : mHs T by_ ln s := by
  unfold mHs
  rw [e]
  exact ⟨h1, h2⟩
theorem mHs_keep {T : Nat → List Int} {by_ ln by2 ln2 : Nat → Int} {s : Nat} (h : mHs T by_ ln s) (h1 : ln2 s = ln s) (h2 : ∀ i : Nat, i < (T s).length → by2 (s * 60 + i) = by_ (s * 60 + i)) : mHs T by2 ln2 s := by
  obtain ⟨k1, k2⟩ := h
  exact ⟨by rw [h1]; exact k1, fun i hi => by rw [h2 i hi]; exact k2 i hi⟩
theorem mRw_in {rows r : Int} (h : r ≤ rows) : mRw rows r = r := by unfold mRw; rw [if_neg (by omega)]
theorem mRw_foot {rows r : Int} (h : rows < r) : mRw rows r = 41 := by unfold mRw; rw [if_pos (by omega)]
theorem m_putBehind {cols R0 R1 : Nat} {T0 T1 : Nat → List Int} {tb tl pb pl : Nat → Int} (hc8 : cols ≤ 8) (hR : R0 + R1 ≤ 40) (hlen0 : ∀ s : Nat, s < 336 → (T0 s).length ≤ 60) (hlen1 : ∀ s : Nat, s < 336 → (T1 s).length ≤ 60) (hv0 : mTv cols R0 T0 tb tl) (hv1 : mTv cols R1 T1 pb pl) :
    ∃ tb' tl', f_X4_putBehind tb tl (cols : Int) (R0 : Int) pb pl (R1 : Int) = some (tb', tl', (R0 : Int) + (R1 : Int)) ∧ mTv cols (R0 + R1) (mMo T0 T1 R0 R1) tb' tl' := by
  have hlen := mMo_len (R0 := R0) (R1 := R1) hlen0 hlen1
  unfold f_X4_putBehind
  refine mloop (L := fun m i (q : (Nat → Int) × (Nat → Int) × Int) => f_X4_putBehind_l7 (fun a b t => zb (f_X4_takeRow a b (cols : Int) t pb pl (R1 : Int) (t + 1) ((R1 : Int) + 1)) (fun o_6 => some (o_6.1, o_6.2, t))) (R1 : Int) (cols : Int) pb pl (R1 : Int) m i q.1 q.2.1 q.2.2) (Q := fun x => ∃ tb' tl', x = some (tb', tl', (R0 : Int) + (R1 : Int)) ∧ mTv cols (R0 + R1) (mMo T0 T1 R0 R1) tb' tl') (hi := (R1 : Int) + 1) (P := fun i q => 1 ≤ i ∧ q.2.2 = (R0 : Int) + (i - 1) ∧ ∀ row c : Nat, (row : Int) < (R0 : Int) + i → c < cols → mHs (mMo T0 T1 R0 R1) q.1 q.2.1 (8 * row + c)) ?_ ?_ zN 1 (tb, tl, (R0 : Int)) (by omega) (mzN (by omega)) ⟨by omega, by dsimp only; omega, fun row c h1 h2 => ?_⟩
  · rintro m i ⟨a, b, t⟩ hi ⟨i0, i1, i2⟩
    right
    dsimp only at i1 i2 ⊢
    obtain ⟨k, rfl⟩ : ∃ k : Nat, i = (k : Int) := ⟨i.toNat, by omega⟩
    subst i1
    obtain ⟨a', b', e, u1, u2, u3⟩ := m_takeRow (tb := a) (tl := b) (r := (k : Int)) (d := (R0 : Int) + ((k : Int) - 1) + 1) (trows := (R0 : Int) + ((k : Int) - 1) + 1) hc8 (by omega) hlen1 hv1 (by omega) (by omega) (by omega)
    rw [mRw_in (by omega)] at u1 u2 u3
    rw [mRw_in (show (k : Int) ≤ (R1 : Int) by omega)] at u1
    rw [f_X4_putBehind_l7_s, e, mzb]
    simp (disch := omega) only [mlt]
    rw [if_neg (by omega)]
    refine ⟨(a', b', (R0 : Int) + ((k : Int) - 1) + 1), rfl, by omega, by dsimp only; omega, fun row c h1 h2 => ?_⟩
    dsimp only
    by_cases q : row = R0 + k
    · subst q
      obtain ⟨w1, w2⟩ := u1 (c : Int) (by omega) (by omega)
      rw [show ((R0 : Int) + ((k : Int) - 1) + 1) * 8 + (c : Int) = ((8 * (R0 + k) + c : Nat) : Int) by omega, show (k : Int) * 8 + (c : Int) = ((8 * k + c : Nat) : Int) by omega, Int.toNat_natCast, Int.toNat_natCast] at w1 w2
      exact mHs_of (mMo_mid (by omega) (by omega)) w1 w2
    · have hl := hlen (8 * row + c) (by omega)
      refine mHs_keep (i2 row c (by omega) h2) (u2 _ (by omega)) (fun j hj => u3 _ (by omega))
  · rintro m ⟨a, b, t⟩ ⟨i0, i1, i2⟩
    dsimp only at i1 i2 ⊢
    subst i1
    rw [f_X4_putBehind_l7_s]
    simp (disch := omega) only [mlt]
    rw [if_pos (by omega)]
    obtain ⟨a', b', e, u1, u2, u3⟩ := m_takeRow (tb := a) (tl := b) (r := (R1 : Int) + 1) (d := (R0 : Int) + ((R1 : Int) + 1 - 1) + 1) (trows := (R0 : Int) + ((R1 : Int) + 1 - 1)) hc8 (by omega) hlen1 hv1 (by omega) (by omega) (by omega)
    rw [mRw_foot (by omega)] at u1 u2 u3
    rw [mRw_foot (show (R1 : Int) < (R1 : Int) + 1 by omega)] at u1
    rw [e, mzb]
    refine ⟨a', b', by rw [show (R0 : Int) + ((R1 : Int) + 1 - 1) = (R0 : Int) + (R1 : Int) by omega], ?_⟩
    rintro s ⟨row, c, rfl, hr, hc⟩
    show mHs (mMo T0 T1 R0 R1) a' b' (8 * row + c)
    rcases hr with hr | rfl
    · have hl := hlen (8 * row + c) (by omega)
      refine mHs_keep (i2 row c (by omega) hc) (u2 _ (by omega)) (fun j hj => u3 _ (by omega))
    · obtain ⟨w1, w2⟩ := u1 (c : Int) (by omega) (by omega)
      rw [show (41 : Int) * 8 + (c : Int) = ((8 * 41 + c : Nat) : Int) by omega, Int.toNat_natCast] at w1 w2
      exact mHs_of (mMo_foot hR (by omega)) w1 w2
  · dsimp only
    exact mHs_of (mMo_lo (by omega) (by omega)) (hv0 _ ⟨row, c, rfl, Or.inl (by omega), h2⟩).1 (hv0 _ ⟨row, c, rfl, Or.inl (by omega), h2⟩).2
/-- the reference puts rows behind -/
theorem m_more79x {cols R0 R1 : Nat} {T0 T1 : Nat → List Int} {nb nl cs ce : Nat → Int} {K : (Nat → Int) → (Nat → Int) → _} {X : _} (hx : f_X6_more_l79 K nl nb (R1 : Int) (R0 : Int) zN 1 cs ce = X) (hc8 : cols ≤ 8) (hR : R0 + R1 ≤ 40) (hlen0 : ∀ s : Nat, s < 336 → (T0 s).length ≤ 60) (hv0 : mTv cols R0 T0 ce cs) (hT : mTb T1 nb nl) :
    ∃ a b : Nat → Int, X = K a b ∧ ∀ row c : Nat, row ≤ R0 + R1 → c < cols → mHs (mMo T0 T1 R0 R1) b a (8 * row + c) := by
  have hlen := mMo_len (R0 := R0) (R1 := R1) hlen0 (fun s hs => (hT s hs).2.1)
  rw [← hx]
  refine mloop (L := fun m i (q : (Nat → Int) × (Nat → Int)) => f_X6_more_l79 K nl nb (R1 : Int) (R0 : Int) m i q.1 q.2) (Q := fun x => ∃ a b : Nat → Int, x = K a b ∧ ∀ row c : Nat, row ≤ R0 + R1 → c < cols → mHs (mMo T0 T1 R0 R1) b a (8 * row + c)) (hi := (R1 : Int) + 1) (P := fun i q => 1 ≤ i ∧ ∀ row c : Nat, (row : Int) < (R0 : Int) + i → c < cols → mHs (mMo T0 T1 R0 R1) q.2 q.1 (8 * row + c)) ?_ ?_ zN 1 (cs, ce) (by omega) (mzN (by omega)) ⟨by omega, fun row c h1 h2 => ?_⟩
  · rintro m i ⟨a, b⟩ hi ⟨i0, i2⟩
    right
    dsimp only at i2 ⊢
    obtain ⟨k, rfl⟩ : ∃ k : Nat, i = (k : Int) := ⟨i.toNat, by omega⟩
    obtain ⟨a', b', e, u1, u2, u3⟩ := m_copyRow (cs := a) (ce := b) (f := k) (t := R0 + k) hT (by omega) (by omega)
    rw [show ((R0 + k : Nat) : Int) = (R0 : Int) + (k : Int) by omega] at e
    rw [f_X6_more_l79_s, e, mzb]
    simp (disch := omega) only [mlt]
    rw [if_neg (by omega)]
    refine ⟨(a', b'), rfl, by omega, fun row c h1 h2 => ?_⟩
    dsimp only
    by_cases q : row = R0 + k
    · subst q
      obtain ⟨w1, w2⟩ := u1 c (by omega)
      exact mHs_of (mMo_mid (by omega) (by omega)) w1 w2
    · have hl := hlen (8 * row + c) (by omega)
      refine mHs_keep (i2 row c (by omega) h2) (u2 _ (by omega)) (fun j hj => u3 _ (by omega))
  · rintro m ⟨a, b⟩ ⟨i0, i2⟩
    dsimp only at i2 ⊢
    rw [f_X6_more_l79_s]
    simp (disch := omega) only [mlt]
    rw [if_pos (by omega)]
    exact ⟨a, b, rfl, fun row c h1 h2 => i2 row c (by omega) h2⟩
  · dsimp only
    exact mHs_of (mMo_lo (by omega) (by omega)) (hv0 _ ⟨row, c, rfl, Or.inl (by omega), h2⟩).1 (hv0 _ ⟨row, c, rfl, Or.inl (by omega), h2⟩).2
