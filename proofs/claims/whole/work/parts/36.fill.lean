/-! the rows of a block: what both programs make of its lines -/
/-- one line joined to a row: cell by cell -/
def mLn (B : Int → Int → Int) (ct : Nat → Int) (x : Int) (row : Nat) (T : Nat → List Int) : Nat → (Nat → List Int) × Int
  | 0 => (T, 0)
  | c + 1 => ((mJn (mLn B ct x row T c).1 (8 * row + c) (mPc B x (ct c) (ct (c + 1)))).1, if (mLn B ct x row T c).2 = 1 ∨ (mJn (mLn B ct x row T c).1 (8 * row + c) (mPc B x (ct c) (ct (c + 1)))).2 = 1 then 1 else 0)
theorem mLn_b (B : Int → Int → Int) (ct : Nat → Int) (x : Int) (row : Nat) (T : Nat → List Int) (c : Nat) : (mLn B ct x row T c).2 = 0 ∨ (mLn B ct x row T c).2 = 1 := by
  cases c with
  | zero => exact Or.inl rfl
  | succ c =>
    unfold mLn
    dsimp only
    split
    · exact Or.inr rfl
    · exact Or.inl rfl
theorem mJn_b (T : Nat → List Int) (s : Nat) (pc : List Int) : (mJn T s pc).2 = 0 ∨ (mJn T s pc).2 = 1 := by
  unfold mJn
  split
  · exact Or.inl rfl
  · split
    · exact Or.inr rfl
    · exact Or.inl rfl
/-- the state while lines are read: cells, rows of the body, lines that were joined, whether a cell was too long -/
abbrev mSt4 : Type := (Nat → List Int) × Nat × Int × Int
/-- the row of a line: 0 the head, 41 the foot -/
noncomputable def mRow1 (B : Int → Int → Int) (ct : Nat → Int) (hd ft : Int → Prop) (x : Int) (rows : Nat) : Nat × Nat × Int :=
  @ite _ (hd x) (Classical.propDecidable _) (0, rows, 0) (@ite _ (ft x) (Classical.propDecidable _) (41, rows, 0) (if rows = 0 ∨ mPf B x 0 (ct 1) < ct 1 then (rows + 1, rows + 1, 0) else (rows, rows, 1)))
noncomputable def mLl (B : Int → Int → Int) (ct : Nat → Int) (cols : Nat) (hd ft : Int → Prop) (s : mSt4) (x : Int) : mSt4 :=
  ((mLn B ct x (mRow1 B ct hd ft x s.2.1).1 s.1 cols).1, (mRow1 B ct hd ft x s.2.1).2.1, s.2.2.1 + (mRow1 B ct hd ft x s.2.1).2.2, if s.2.2.2 = 1 ∨ (mLn B ct x (mRow1 B ct hd ft x s.2.1).1 s.1 cols).2 = 1 then 1 else 0)
noncomputable def mAll (B : Int → Int → Int) (ct : Nat → Int) (cols : Nat) (hd ft : Int → Prop) (l : List Int) : mSt4 := l.foldl (mLl B ct cols hd ft) ((fun _ => []), 0, 0, 0)
theorem mAll_app (B : Int → Int → Int) (ct : Nat → Int) (cols : Nat) (hd ft : Int → Prop) (l : List Int) (x : Int) : mAll B ct cols hd ft (l ++ [x]) = mLl B ct cols hd ft (mAll B ct cols hd ft l) x := by
  unfold mAll; rw [List.foldl_append]; rfl
theorem mLl_stay {B : Int → Int → Int} {ct : Nat → Int} {cols : Nat} {hd ft : Int → Prop} {s : mSt4} {x : Int} (h : s.2.2.2 = 1) : (mLl B ct cols hd ft s x).2.2.2 = 1 := by
  unfold mLl; dsimp only; rw [if_pos (Or.inl h)]
theorem mFold_stay {B : Int → Int → Int} {ct : Nat → Int} {cols : Nat} {hd ft : Int → Prop} (l : List Int) (s : mSt4) (h : s.2.2.2 = 1) : (l.foldl (mLl B ct cols hd ft) s).2.2.2 = 1 := by
  induction l generalizing s with
  | nil => exact h
  | cons x l ih => exact ih _ (mLl_stay h)
theorem mAll_stay {B : Int → Int → Int} {ct : Nat → Int} {cols : Nat} {hd ft : Int → Prop} {l : List Int} {n : Nat} (h : (mAll B ct cols hd ft (l.take n)).2.2.2 = 1) : (mAll B ct cols hd ft l).2.2.2 = 1 := by
  have : mAll B ct cols hd ft l = (l.drop n).foldl (mLl B ct cols hd ft) (mAll B ct cols hd ft (l.take n)) := by
    unfold mAll; rw [← List.foldl_append, List.take_append_drop]
  rw [this]
  exact mFold_stay _ _ h
theorem mRow1_r (B : Int → Int → Int) (ct : Nat → Int) (hd ft : Int → Prop) (x : Int) (rows : Nat) : ((mRow1 B ct hd ft x rows).1 = 0 ∨ (mRow1 B ct hd ft x rows).1 = 41 ∨ (mRow1 B ct hd ft x rows).1 = (mRow1 B ct hd ft x rows).2.1) ∧ ((mRow1 B ct hd ft x rows).2.1 = rows ∨ (mRow1 B ct hd ft x rows).2.1 = rows + 1) ∧ ((mRow1 B ct hd ft x rows).2.2 = 0 ∨ (mRow1 B ct hd ft x rows).2.2 = 1) := by
  unfold mRow1
  by_cases h1 : hd x
  · rw [if_pos h1]; exact ⟨Or.inl rfl, Or.inl rfl, Or.inl rfl⟩
  · rw [if_neg h1]
    by_cases h2 : ft x
    · rw [if_pos h2]; exact ⟨Or.inr (Or.inl rfl), Or.inl rfl, Or.inl rfl⟩
    · rw [if_neg h2]
      split
      · exact ⟨Or.inr (Or.inr rfl), Or.inr rfl, Or.inl rfl⟩
      · exact ⟨Or.inr (Or.inr rfl), Or.inl rfl, Or.inr rfl⟩
theorem mAll_rows (B : Int → Int → Int) (ct : Nat → Int) (cols : Nat) (hd ft : Int → Prop) (l : List Int) : (mAll B ct cols hd ft l).2.1 ≤ l.length ∧ 0 ≤ (mAll B ct cols hd ft l).2.2.1 ∧ (mAll B ct cols hd ft l).2.2.1 ≤ l.length ∧ ((mAll B ct cols hd ft l).2.2.2 = 0 ∨ (mAll B ct cols hd ft l).2.2.2 = 1) := by
  suffices h : ∀ (n : Nat), n ≤ l.length → (mAll B ct cols hd ft (l.take n)).2.1 ≤ n ∧ 0 ≤ (mAll B ct cols hd ft (l.take n)).2.2.1 ∧ (mAll B ct cols hd ft (l.take n)).2.2.1 ≤ n ∧ ((mAll B ct cols hd ft (l.take n)).2.2.2 = 0 ∨ (mAll B ct cols hd ft (l.take n)).2.2.2 = 1) by
    have := h l.length (Nat.le_refl _)
    rw [List.take_length] at this
    exact this
  intro n
  induction n with
  | zero => intro _; exact ⟨Nat.le_refl 0, Int.le_refl 0, Int.le_refl 0, Or.inl rfl⟩
  | succ n ih =>
    intro hn
    obtain ⟨h1, h2, h3, h4⟩ := ih (by omega)
    rw [mTake_s (by omega), mAll_app]
    generalize mAll B ct cols hd ft (l.take n) = s at h1 h2 h3 h4
    obtain ⟨-, r2, r3⟩ := mRow1_r B ct hd ft (l.getD n 0) s.2.1
    unfold mLl
    dsimp only
    refine ⟨by omega, by omega, by omega, ?_⟩
    split
    · exact Or.inr rfl
    · exact Or.inl rfl
/-- cuts as a best reading has them -/
def mCts (ct : Nat → Int) (cols : Nat) : Prop := (1 ≤ cols ∧ cols ≤ 8) ∧ ct 0 = 0 ∧ ∀ j : Nat, j < cols → 0 ≤ ct j ∧ ct j < ct (j + 1) ∧ ct (j + 1) ≤ 60
theorem m_slotOf {rows row c : Int} (hr : 0 ≤ rows ∧ rows ≤ 40) (hrow : (0 ≤ row ∧ row ≤ rows) ∨ row = 41) : f_X4_slotOf rows row c = some (row * 8 + c) := by
  unfold f_X4_slotOf f_X4_slotOf_j14
  simp (disch := omega) only [mlt]
  by_cases h : rows < row
  · rw [if_pos h, show row = 41 by omega]
  · rw [if_neg h]
theorem mLn_stay {B : Int → Int → Int} {ct : Nat → Int} {x : Int} {row : Nat} {T : Nat → List Int} {c : Nat} (h : (mLn B ct x row T c).2 = 1) : ∀ c' : Nat, c ≤ c' → (mLn B ct x row T c').2 = 1 := by
  intro c' hc
  induction c' with
  | zero => rw [show c = 0 by omega] at h; exact h
  | succ c' ih =>
    by_cases e : c = c' + 1
    · subst e; exact h
    · have := ih (by omega)
      unfold mLn
      dsimp only
      rw [if_pos (Or.inl this)]
theorem mLn_s2 {B : Int → Int → Int} {ct : Nat → Int} {x : Int} {row : Nat} {T : Nat → List Int} {c : Nat} (h : (mLn B ct x row T c).2 = 0) : (mLn B ct x row T (c + 1)).2 = (mJn (mLn B ct x row T c).1 (8 * row + c) (mPc B x (ct c) (ct (c + 1)))).2 := by
  show (if (mLn B ct x row T c).2 = 1 ∨ _ = 1 then (1 : Int) else 0) = _
  rcases mJn_b (mLn B ct x row T c).1 (8 * row + c) (mPc B x (ct c) (ct (c + 1))) with e | e
  · rw [if_neg (by omega), e]
  · rw [if_pos (Or.inr e), e]
theorem m_fill_in {B : Int → Int → Int} {l : List Int} {by_ nol ct : Nat → Int} {pc k rows jl : Int} {row cols : Nat} {T : Nat → List Int} {tb tl : Nat → Int} {K : (Nat → Int) → (Nat → Int) → Option (Int × (Nat → Int) × (Nat → Int) × Int × Int × Int)} {Q : Option (Int × (Nat → Int) × (Nat → Int) × Int × Int × Int) → Prop} (hbk : mBk B l by_ nol pc) (hl : l.length ≤ 24) (hr : mRg B l) (hk : 0 ≤ k ∧ k < pc) (hct : mCts ct cols) (hrw : 0 ≤ rows ∧ rows ≤ 40) (hrow : (row : Int) ≤ rows ∨ row = 41) (hT : mTb T tb tl)
    (hno : (mLn B ct (l.getD k.toNat 0) row T cols).2 = 1 → ∀ b1 l1, Q (some (0, b1, l1, (cols : Int), rows, jl)))
    (hK : ∀ b1 l1, (mLn B ct (l.getD k.toNat 0) row T cols).2 = 0 → mTb (mLn B ct (l.getD k.toNat 0) row T cols).1 b1 l1 → Q (K b1 l1)) : Q (f_X4_fill_l61 K k (row : Int) (cols : Int) rows by_ ct jl zN 0 tb tl) := by
  have hc8 := hct.1
  refine mloop (L := fun m i (q : (Nat → Int) × (Nat → Int)) => f_X4_fill_l61 K k (row : Int) (cols : Int) rows by_ ct jl m i q.1 q.2) (Q := Q) (hi := (cols : Int)) (P := fun i q => 0 ≤ i ∧ (mLn B ct (l.getD k.toNat 0) row T i.toNat).2 = 0 ∧ mTb (mLn B ct (l.getD k.toNat 0) row T i.toNat).1 q.1 q.2) ?_ ?_ zN 0 (tb, tl) (by omega) (mzN (by omega)) ⟨by omega, rfl, hT⟩
  · rintro m i ⟨b0, l0⟩ hi ⟨i0, i1, i2⟩
    try dsimp only at i1 i2 ⊢
    obtain ⟨c, rfl⟩ : ∃ c : Nat, i = (c : Int) := ⟨i.toNat, by omega⟩
    rw [show ((c : Int)).toNat = c by omega] at i1 i2
    obtain ⟨k1, k2, k3⟩ := hct.2.2 c (by omega)
    have hs2 := mLn_s2 i1
    have e1 : (mLn B ct (l.getD k.toNat 0) row T (c + 1)).1 = (mJn (mLn B ct (l.getD k.toNat 0) row T c).1 (8 * row + c) (mPc B (l.getD k.toNat 0) (ct c) (ct (c + 1)))).1 := rfl
    rw [f_X4_fill_l61_s]
    simp (disch := omega) only [mlt]
    rw [if_pos hi, m_pick_in ⟨by omega, by omega, by omega⟩, mzb, m_pick_in ⟨by omega, by omega, by omega⟩, mzb, m_slotOf hrw (by omega), mzb, show ((c : Int)).toNat = c by omega, show ((c : Int) + 1).toNat = c + 1 by omega]
    obtain ⟨r, b1, l1, e, h⟩ := m_joinCell (k := k) (s := ct c) (t := ct (c + 1)) (sl := (row : Int) * 8 + (c : Int)) hbk hl hr hk ⟨k1, by omega, k3⟩ (by omega) i2
    rw [show ((row : Int) * 8 + (c : Int)).toNat = 8 * row + c by omega, ← hs2, ← e1] at h
    rw [e, mzb]
    rcases h with ⟨rfl, h1, h2⟩ | ⟨rfl, h1⟩
    · rw [if_neg (show ¬ zI 1 = zI 0 by decide)]
      exact Or.inr ⟨(b1, l1), rfl, by omega, h1, h2⟩
    · rw [if_pos rfl]
      exact Or.inl (hno (mLn_stay h1 cols (by omega)) b1 l1)
  · rintro m ⟨b0, l0⟩ ⟨i0, i1, i2⟩
    try dsimp only at i1 i2 ⊢
    rw [f_X4_fill_l61_s]
    simp (disch := omega) only [mlt]
    rw [if_neg (by omega)]
    rw [show ((cols : Int)).toNat = cols by omega] at i1 i2
    exact hK b0 l0 i1 i2
/-- heads and feet by the class's marks -/
def mHd (hd fr : Int) (x : Int) : Prop := hd = 1 ∧ x < fr
def mFt (ft lr : Int) (x : Int) : Prop := ft = 1 ∧ lr < x
theorem m_rowOfLine {B : Int → Int → Int} {l : List Int} {by_ nol ct : Nat → Int} {pc k fr lr hd ft jl : Int} {rows cols : Nat} (hbk : mBk B l by_ nol pc) (hl : l.length ≤ 24) (hr : mRg B l) (hx : ∀ x ∈ l, 0 ≤ x ∧ x < 24) (hk : 0 ≤ k ∧ k < pc) (hct : mCts ct cols) (hrw : rows ≤ 40) (hh : hd = 0 ∨ (hd = 1 ∧ -100 ≤ fr ∧ fr ≤ 100)) (hf : ft = 0 ∨ (ft = 1 ∧ -100 ≤ lr ∧ lr ≤ 100)) :
    f_X4_rowOfLine (rows : Int) by_ nol fr lr hd ft ct jl k = some (((mRow1 B ct (mHd hd fr) (mFt ft lr) (l.getD k.toNat 0) rows).1 : Int), ((mRow1 B ct (mHd hd fr) (mFt ft lr) (l.getD k.toNat 0) rows).2.1 : Int), jl + (mRow1 B ct (mHd hd fr) (mFt ft lr) (l.getD k.toNat 0) rows).2.2) := by
  have hm := hx _ (mgetD_mem (l := l) (k := k.toNat) (by have := hbk.1; omega))
  have hc8 := hct.1
  obtain ⟨k1, k2, k3⟩ : 0 ≤ ct 0 ∧ ct 0 < ct 1 ∧ ct 1 ≤ 60 := hct.2.2 0 (by omega)
  have hc0 := hct.2.1
  have hfi := m_firstInk (s := 0) (t := ct 1) hbk hl hr hk (by omega)
  have hpf := mPf_r (B := B) (x := l.getD k.toNat 0) (s := 0) (t := ct 1) (by omega)
  unfold f_X4_rowOfLine f_X0_isHead f_X0_isFoot f_X0_isHead_j26 f_X0_isFoot_j26 f_X4_rowOfLine_j51
  rw [m_noOf hbk hl hk]
  rw [m_pick_in (n := 9) (i := 1) ⟨by omega, by omega, by omega⟩, show (1 : Int).toNat = 1 from rfl]
  simp only [mzb]
  rw [hfi]
  simp only [mzb]
  generalize l.getD k.toNat 0 = x at hm hpf
  unfold mRow1
  by_cases h1 : mHd hd fr x
  · rw [if_pos h1]
    obtain ⟨e1, e2⟩ := h1
    simp (disch := omega) only [meq, mlt]
    rw [if_neg (by omega), if_pos e2, mzb, if_neg (show ¬ zI 1 = zI 0 by decide)]
    simp
  · rw [if_neg h1]
    have z1 : (if zI hd = zI 0 then (some 0 : Option Int) else if zI x < zI fr then some 1 else some 0) = some 0 := by
      rcases hh with e | ⟨e, e2, e3⟩
      · rw [e, if_pos rfl]
      · rw [if_neg (by rw [e]; decide), if_neg]
        rw [mlt (by omega)]
        exact fun q => h1 ⟨e, q⟩
    rw [z1, mzb, if_pos rfl]
    by_cases h2 : mFt ft lr x
    · rw [if_pos h2]
      obtain ⟨e1, e2⟩ := h2
      simp (disch := omega) only [meq, mlt]
      rw [if_neg (by omega), if_pos e2, mzb, if_neg (show ¬ zI 1 = zI 0 by decide)]
      simp
    · rw [if_neg h2]
      have z2 : (if zI ft = zI 0 then (some 0 : Option Int) else if zI lr < zI x then some 1 else some 0) = some 0 := by
        rcases hf with e | ⟨e, e2, e3⟩
        · rw [e, if_pos rfl]
        · rw [if_neg (by rw [e]; decide), if_neg]
          rw [mlt (by omega)]
          exact fun q => h2 ⟨e, q⟩
      rw [z2, mzb, if_pos rfl]
      simp (disch := omega) only [meq, mlt]
      by_cases h3 : (rows : Int) = 0
      · rw [if_pos h3, if_pos (Or.inl (by omega))]
        simp
      · rw [if_neg h3]
        by_cases h4 : mPf B x 0 (ct 1) < ct 1
        · rw [if_pos h4, if_pos (Or.inr h4)]
          simp
        · rw [if_neg h4, if_neg (by omega)]
theorem m_fill {B : Int → Int → Int} {l : List Int} {by_ nol ct tb0 tl0 : Nat → Int} {pc fr lr hd ft : Int} {cols : Nat} (hbk : mBk B l by_ nol pc) (hl : l.length ≤ 24) (hr : mRg B l) (hx : ∀ x ∈ l, 0 ≤ x ∧ x < 24) (hct : mCts ct cols) (hh : hd = 0 ∨ (hd = 1 ∧ -100 ≤ fr ∧ fr ≤ 100)) (hf : ft = 0 ∨ (ft = 1 ∧ -100 ≤ lr ∧ lr ≤ 100)) :
    ∃ r b1 l1 rows jl, f_X4_fill tb0 tl0 by_ nol pc fr lr hd ft ct (cols : Int) 0 = some (r, b1, l1, (cols : Int), rows, jl) ∧
      ((r = 1 ∧ (mAll B ct cols (mHd hd fr) (mFt ft lr) l).2.2.2 = 0 ∧ mTb (mAll B ct cols (mHd hd fr) (mFt ft lr) l).1 b1 l1 ∧ rows = ((mAll B ct cols (mHd hd fr) (mFt ft lr) l).2.1 : Int) ∧ jl = (mAll B ct cols (mHd hd fr) (mFt ft lr) l).2.2.1) ∨ (r = 0 ∧ (mAll B ct cols (mHd hd fr) (mFt ft lr) l).2.2.2 = 1)) := by
  have hpc := hbk.1
  have hc8 := hct.1
  unfold f_X4_fill
  refine mloop (L := fun m i q => f_X4_fill_l15 (fun t_lengths_3 => f_X4_fill_l41 (fun a b c d => some (1, a, b, (cols : Int), c, d)) (cols : Int) by_ nol pc fr lr hd ft ct zN 0 tb0 t_lengths_3 0 0) m i q) (Q := fun r' => ∃ r b1 l1 rows jl, r' = some (r, b1, l1, (cols : Int), rows, jl) ∧ ((r = 1 ∧ (mAll B ct cols (mHd hd fr) (mFt ft lr) l).2.2.2 = 0 ∧ mTb (mAll B ct cols (mHd hd fr) (mFt ft lr) l).1 b1 l1 ∧ rows = ((mAll B ct cols (mHd hd fr) (mFt ft lr) l).2.1 : Int) ∧ jl = (mAll B ct cols (mHd hd fr) (mFt ft lr) l).2.2.1) ∨ (r = 0 ∧ (mAll B ct cols (mHd hd fr) (mFt ft lr) l).2.2.2 = 1))) (hi := 336) (P := fun i q => 0 ≤ i ∧ ∀ j : Nat, (j : Int) < i → q j = 0) ?_ ?_ zN 0 tl0 (by omega) (mzN (by omega)) ⟨by omega, fun j hj => by omega⟩
  · rintro m i q hi ⟨i0, i1⟩
    right
    rw [f_X4_fill_l15_s]
    simp (disch := omega) only [mlt]
    rw [if_pos hi, m_put_in ⟨by omega, by omega, by omega⟩, mzb]
    refine ⟨_, rfl, by omega, fun j hj => ?_⟩
    by_cases h : (j : Int) = i
    · exact mzu_same (by omega)
    · rw [mzu_other (by omega)]; exact i1 j (by omega)
  · rintro m q ⟨i0, i1⟩
    rw [f_X4_fill_l15_s]
    simp (disch := omega) only [mlt]
    rw [if_neg (by omega)]
    have hT0 : mTb (fun _ => []) tb0 q := fun s hs => ⟨i1 s (by omega), Nat.zero_le _, fun i hi => absurd hi (Nat.not_lt_zero _)⟩
    refine mloop (L := fun m i (s : (Nat → Int) × (Nat → Int) × Int × Int) => f_X4_fill_l41 (fun a b c d => some (1, a, b, (cols : Int), c, d)) (cols : Int) by_ nol pc fr lr hd ft ct m i s.1 s.2.1 s.2.2.1 s.2.2.2) (Q := fun r' => ∃ r b1 l1 rows jl, r' = some (r, b1, l1, (cols : Int), rows, jl) ∧ ((r = 1 ∧ (mAll B ct cols (mHd hd fr) (mFt ft lr) l).2.2.2 = 0 ∧ mTb (mAll B ct cols (mHd hd fr) (mFt ft lr) l).1 b1 l1 ∧ rows = ((mAll B ct cols (mHd hd fr) (mFt ft lr) l).2.1 : Int) ∧ jl = (mAll B ct cols (mHd hd fr) (mFt ft lr) l).2.2.1) ∨ (r = 0 ∧ (mAll B ct cols (mHd hd fr) (mFt ft lr) l).2.2.2 = 1))) (hi := pc) (P := fun i s => 0 ≤ i ∧ (mAll B ct cols (mHd hd fr) (mFt ft lr) (l.take i.toNat)).2.2.2 = 0 ∧ mTb (mAll B ct cols (mHd hd fr) (mFt ft lr) (l.take i.toNat)).1 s.1 s.2.1 ∧ s.2.2.1 = ((mAll B ct cols (mHd hd fr) (mFt ft lr) (l.take i.toNat)).2.1 : Int) ∧ s.2.2.2 = (mAll B ct cols (mHd hd fr) (mFt ft lr) (l.take i.toNat)).2.2.1) ?_ ?_ zN 0 (tb0, q, 0, 0) (by omega) (mzN (by omega)) ⟨by omega, rfl, hT0, rfl, rfl⟩
    · rintro m' i ⟨b0, l0, rows, jl⟩ hi ⟨j0, j1, j2, j3, j4⟩
      try dsimp only at j1 j2 j3 j4 ⊢
      have htk := mTake_s (l := l) (i := i.toNat) (by omega)
      have e1 : (i + 1).toNat = i.toNat + 1 := by omega
      have happ := mAll_app B ct cols (mHd hd fr) (mFt ft lr) (l.take i.toNat) (l.getD i.toNat 0)
      rw [← htk, ← e1] at happ
      have hrs := (mAll_rows B ct cols (mHd hd fr) (mFt ft lr) (l.take i.toNat)).1
      rw [List.length_take] at hrs
      generalize hS : mAll B ct cols (mHd hd fr) (mFt ft lr) (l.take i.toNat) = S at happ hrs j1 j2 j3 j4
      subst j3 j4
      rw [f_X4_fill_l41_s]
      simp (disch := omega) only [mlt]
      rw [if_pos hi, m_rowOfLine hbk hl hr hx ⟨j0, hi⟩ hct (by omega) hh hf, mzb]
      dsimp only
      have hr1 := mRow1_r B ct (mHd hd fr) (mFt ft lr) (l.getD i.toNat 0) S.2.1
      have hfl : (mLl B ct cols (mHd hd fr) (mFt ft lr) S (l.getD i.toNat 0)).2.2.2 = if S.2.2.2 = 1 ∨ (mLn B ct (l.getD i.toNat 0) (mRow1 B ct (mHd hd fr) (mFt ft lr) (l.getD i.toNat 0) S.2.1).1 S.1 cols).2 = 1 then 1 else 0 := rfl
      refine m_fill_in (Q := fun r'' => (∃ r b1 l1 rows jl, r'' = some (r, b1, l1, (cols : Int), rows, jl) ∧ ((r = 1 ∧ (mAll B ct cols (mHd hd fr) (mFt ft lr) l).2.2.2 = 0 ∧ mTb (mAll B ct cols (mHd hd fr) (mFt ft lr) l).1 b1 l1 ∧ rows = ((mAll B ct cols (mHd hd fr) (mFt ft lr) l).2.1 : Int) ∧ jl = (mAll B ct cols (mHd hd fr) (mFt ft lr) l).2.2.1) ∨ (r = 0 ∧ (mAll B ct cols (mHd hd fr) (mFt ft lr) l).2.2.2 = 1))) ∨ ∃ s' : (Nat → Int) × (Nat → Int) × Int × Int, r'' = f_X4_fill_l41 (fun a b c d => some (1, a, b, (cols : Int), c, d)) (cols : Int) by_ nol pc fr lr hd ft ct m' (i + 1) s'.1 s'.2.1 s'.2.2.1 s'.2.2.2 ∧ 0 ≤ i + 1 ∧ (mAll B ct cols (mHd hd fr) (mFt ft lr) (l.take (i + 1).toNat)).2.2.2 = 0 ∧ mTb (mAll B ct cols (mHd hd fr) (mFt ft lr) (l.take (i + 1).toNat)).1 s'.1 s'.2.1 ∧ s'.2.2.1 = ((mAll B ct cols (mHd hd fr) (mFt ft lr) (l.take (i + 1).toNat)).2.1 : Int) ∧ s'.2.2.2 = (mAll B ct cols (mHd hd fr) (mFt ft lr) (l.take (i + 1).toNat)).2.2.1) hbk hl hr ⟨j0, hi⟩ hct (by omega) (by omega) j2 (fun h1 b1 l1 => Or.inl ⟨0, b1, l1, _, _, rfl, Or.inr ⟨rfl, ?_⟩⟩) (fun b1 l1 h1 h2 => Or.inr ⟨(b1, l1, _, _), rfl, by omega, ?_⟩)
      · refine mAll_stay (n := (i + 1).toNat) ?_
        rw [happ, hfl, if_pos (Or.inr h1)]
      · rw [happ, hfl, if_neg (by omega)]
        exact ⟨rfl, h2, rfl, rfl⟩
    · rintro m' ⟨b0, l0, rows, jl⟩ ⟨j0, j1, j2, j3, j4⟩
      try dsimp only at j1 j2 j3 j4 ⊢
      rw [f_X4_fill_l41_s]
      simp (disch := omega) only [mlt]
      rw [if_neg (by omega)]
      rw [List.take_of_length_le (by omega)] at j1 j2 j3 j4
      exact ⟨1, b0, l0, rows, jl, rfl, Or.inl ⟨rfl, j1, j2, j3, j4⟩⟩
