/-! the class's best reading: all rows, the choice of columns, the cuts -/
theorem m_rows_in {B : Int → Int → Int} {l : List Int} {w c : Int} {cr nx g ls0 sc0 fc0 : Nat → Int} {K : (Nat → Int) → (Nat → Int) → (Nat → Int) → Option ((Nat → Int) × (Nat → Int) × (Nat → Int) × (Nat → Int) × Int × Int × Int × Int × Int × Int)} {Q : Option ((Nat → Int) × (Nat → Int) × (Nat → Int) × (Nat → Int) × Int × Int × Int × Int × Int × Int) → Prop} (hs : mSv B l w cr nx g) (hcs : mCs (mCC B l) (mXC B l) w) (hc : 0 ≤ c ∧ c < w)
    (h1 : ∀ k : Nat, 1 ≤ k → k ≤ 8 → ∀ d : Int, c < d → d < w → mRow (mCC B l) (mXC B l) w ls0 sc0 fc0 k d) (h2 : mRow (mCC B l) (mXC B l) w ls0 sc0 fc0 1 c)
    (hK : ∀ ls sc fc, (∀ k : Nat, 1 ≤ k → k ≤ 8 → ∀ d : Int, c ≤ d → d < w → mRow (mCC B l) (mXC B l) w ls sc fc k d) → Q (K ls sc fc)) : Q (f_X3_readBest_l38 K c w cr nx g zN 2 ls0 sc0 fc0) := by
  have hw := hcs.1
  refine mloop (L := fun n i (s : (Nat → Int) × (Nat → Int) × (Nat → Int)) => f_X3_readBest_l38 K c w cr nx g n i s.1 s.2.1 s.2.2) (Q := Q) (hi := 9) (P := fun i s => 2 ≤ i ∧ (∀ k : Nat, 1 ≤ k → k ≤ 8 → ∀ d : Int, c < d → d < w → mRow (mCC B l) (mXC B l) w s.1 s.2.1 s.2.2 k d) ∧ ∀ k : Nat, 1 ≤ k → (k : Int) < i → mRow (mCC B l) (mXC B l) w s.1 s.2.1 s.2.2 k c) ?_ ?_ zN 2 (ls0, sc0, fc0) (by omega) (mzN (by omega)) ⟨by omega, h1, fun k k1 k2 => ?_⟩
  · rintro m i ⟨ls, sc, fc⟩ hi ⟨i0, i1, i2⟩
    right
    try dsimp only at i1 i2 ⊢
    obtain ⟨k, hk⟩ : ∃ k : Nat, i = (k : Int) + 1 := ⟨(i - 1).toNat, by omega⟩
    subst hk
    rw [f_X3_readBest_l38_s]
    simp (disch := omega) only [mlt]
    rw [if_neg (by omega)]
    obtain ⟨f, e, hf⟩ := m_readFrom (k := k) hs hcs hc (by omega) (fun d d1 d2 => i1 k (by omega) (by omega) d d1 d2)
    rw [e, mzb]
    refine ⟨(_, _, _), rfl, ?_⟩
    dsimp only
    refine ⟨by omega, fun k' k1 k2 d d1 d2 => ?_, fun k' k1 k2 => ?_⟩
    · exact mRow_other (i1 k' k1 k2 d d1 d2) (by omega) (by omega) (by omega)
    · by_cases hk' : k' = k + 1
      · subst hk'
        exact mRow_new (k := k + 1) hf
      · exact mRow_other (i2 k' k1 (by omega)) (by omega) (by omega) (by omega)
  · rintro m ⟨ls, sc, fc⟩ ⟨i0, i1, i2⟩
    try dsimp only at i1 i2 ⊢
    rw [f_X3_readBest_l38_s]
    simp (disch := omega) only [mlt]
    rw [if_pos (by omega)]
    refine hK ls sc fc (fun k k1 k2 d d1 d2 => ?_)
    by_cases hd : d = c
    · subst hd; exact i2 k k1 (by omega)
    · exact i1 k k1 k2 d (by omega) d2
  · have : k = 1 := by omega
    subst this
    exact h2
theorem m_rows {B : Int → Int → Int} {l : List Int} {w : Int} {cr nx g ls0 sc0 fc0 : Nat → Int} {K : (Nat → Int) → (Nat → Int) → (Nat → Int) → Option ((Nat → Int) × (Nat → Int) × (Nat → Int) × (Nat → Int) × Int × Int × Int × Int × Int × Int)} {Q : Option ((Nat → Int) × (Nat → Int) × (Nat → Int) × (Nat → Int) × Int × Int × Int × Int × Int × Int) → Prop} (hs : mSv B l w cr nx g) (hcs : mCs (mCC B l) (mXC B l) w)
    (hK : ∀ ls sc fc, (∀ k : Nat, 1 ≤ k → k ≤ 8 → ∀ d : Int, 0 ≤ d → d < w → mRow (mCC B l) (mXC B l) w ls sc fc k d) → Q (K ls sc fc)) : Q (f_X3_readBest_l7 K w cr nx g zN (w - 1) ls0 sc0 fc0) := by
  have hw := hcs.1
  refine mloopD (L := fun n i (s : (Nat → Int) × (Nat → Int) × (Nat → Int)) => f_X3_readBest_l7 K w cr nx g n i s.1 s.2.1 s.2.2) (Q := Q) (lo := 0) (P := fun i s => i < w ∧ ∀ k : Nat, 1 ≤ k → k ≤ 8 → ∀ d : Int, i < d → d < w → mRow (mCC B l) (mXC B l) w s.1 s.2.1 s.2.2 k d) ?_ ?_ zN (w - 1) (ls0, sc0, fc0) (by omega) (mzN (by omega)) ⟨by omega, fun k k1 k2 d d1 d2 => by omega⟩
  · rintro m i ⟨ls, sc, fc⟩ hi ⟨i0, i1⟩
    try dsimp only at i1 ⊢
    rw [f_X3_readBest_l7_s]
    simp (disch := omega) only [mlt]
    unfold f_X3_slotOf
    rw [if_neg (by omega), mzb, hs.1 i w hi i0 (Int.le_refl _), mzb, m_keep (by omega), mzb]
    have h1 := mF_1 hcs ⟨hi, i0⟩
    have e1 : mCC B l i w = (mF (mCC B l) (mXC B l) w 1 i).1 := by rw [h1]
    have e2 : (1000000 : Int) = (mF (mCC B l) (mXC B l) w 1 i).2 := by rw [h1]
    have hfst : mFst (mF (mCC B l) (mXC B l) w 0) (mWy (mCC B l) (mXC B l) w i) i (mF (mCC B l) (mXC B l) w 1 i).1 w := by
      have e0 : mF (mCC B l) (mXC B l) w 0 w = (0, 1000000) := by
        show (if w = w then (0 : Int) else 1000000, (1000000 : Int)) = _
        rw [if_pos rfl]
      refine ⟨by rw [e0]; decide, ?_, fun d d1 d2 => Or.inl ?_⟩
      · rw [e0, ← e1]; unfold mWy; rw [if_neg (by omega)]; dsimp only; omega
      · show (if d = w then (0 : Int) else 1000000) = _
        rw [if_neg (by omega)]
    refine m_rows_in (Q := fun r => Q r ∨ ∃ s' : (Nat → Int) × (Nat → Int) × (Nat → Int), r = f_X3_readBest_l7 K w cr nx g m (i - 1) s'.1 s'.2.1 s'.2.2 ∧ i - 1 < w ∧ ∀ k : Nat, 1 ≤ k → k ≤ 8 → ∀ d : Int, i - 1 < d → d < w → mRow (mCC B l) (mXC B l) w s'.1 s'.2.1 s'.2.2 k d) hs hcs ⟨hi, i0⟩ ?_ ?_ (fun ls' sc' fc' h => Or.inr ⟨(ls', sc', fc'), rfl, by omega, fun k k1 k2 d d1 d2 => h k k1 k2 d (by omega) d2⟩)
    · intro k k1 k2 d d1 d2
      try dsimp only
      have := mRow_other (k' := 1) (d' := i) (a := mCC B l i w) (b := 1000000) (c := w) (i1 k k1 k2 d d1 d2) (by omega) (by omega) (by omega)
      exact this
    · try dsimp only
      rw [e1, e2]
      have := mRow_new (cc := mCC B l) (xc := mXC B l) (w := w) (ls := ls) (sc := sc) (fc := fc) (k := 1) (d := i) (f := w) (fun _ => ⟨i0, Int.le_refl _, hfst⟩)
      exact this
  · rintro m ⟨ls, sc, fc⟩ ⟨i0, i1⟩
    try dsimp only at i1 ⊢
    rw [f_X3_readBest_l7_s]
    simp (disch := omega) only [mlt]
    rw [if_pos (by omega)]
    exact hK ls sc fc (fun k k1 k2 d d1 d2 => i1 k k1 k2 d (by omega) d2)
/-- the choice of columns: their number, its cost, the next one's -/
def mChS (s : Int × Int × Int) (k : Int) (p : Int × Int) : Int × Int × Int := if p.1 < s.2.1 then (k, p.1, if p.2 < s.2.1 then p.2 else s.2.1) else (s.1, s.2.1, if p.1 < s.2.2 then p.1 else s.2.2)
def mCh (g : Nat → Int × Int) : Nat → Int × Int × Int
  | 0 => (0, 1000000, 1000000)
  | j + 1 => mChS (mCh g j) ((j : Int) + 1) (g (j + 1))
theorem mCh_r {g : Nat → Int × Int} (n : Nat) (h : ∀ j : Nat, j ≤ n → mPr 900000 (g j)) : (0 ≤ (mCh g n).1 ∧ (mCh g n).1 ≤ n) ∧ (0 ≤ (mCh g n).2.1 ∧ (mCh g n).2.1 ≤ 1000000) ∧ (0 ≤ (mCh g n).2.2 ∧ (mCh g n).2.2 ≤ 1000000) ∧ (mCh g n).2.1 ≤ (mCh g n).2.2 ∧ ((mCh g n).2.1 ≠ 1000000 → 1 ≤ (mCh g n).1 ∧ (mCh g n).2.1 = (g (mCh g n).1.toNat).1) := by
  induction n with
  | zero =>
    have e : mCh g 0 = (0, 1000000, 1000000) := rfl
    rw [e]
    dsimp only
    exact ⟨by omega, by omega, by omega, Int.le_refl _, fun q => absurd rfl q⟩
  | succ n ih =>
    obtain ⟨h1, h2, h3, h5, h4⟩ := ih (fun j hj => h j (by omega))
    obtain ⟨p1, p2, p3⟩ := h (n + 1) (Nat.le_refl _)
    show (0 ≤ (mChS (mCh g n) ((n : Int) + 1) (g (n + 1))).1 ∧ _) ∧ _
    generalize hs : mCh g n = s at h1 h2 h3 h4 h5
    have hu : mCh g (n + 1) = mChS s ((n : Int) + 1) (g (n + 1)) := by show mChS (mCh g n) _ _ = _; rw [hs]
    rw [hu]
    unfold mChS
    by_cases e : (g (n + 1)).1 < s.2.1
    · rw [if_pos e]
      dsimp only
      refine ⟨by omega, by omega, by split <;> omega, by split <;> omega, fun _ => ⟨by omega, ?_⟩⟩
      rw [show ((n : Int) + 1).toNat = n + 1 by omega]
    · rw [if_neg e]
      dsimp only
      exact ⟨by omega, h2, by split <;> omega, by split <;> omega, h4⟩
theorem mCh_mono {g : Nat → Int × Int} (n : Nat) : (mCh g (n + 1)).2.1 ≤ (mCh g n).2.1 := by
  show (mChS (mCh g n) _ _).2.1 ≤ _
  unfold mChS
  split
  · dsimp only; omega
  · dsimp only; omega
theorem mCh_some {g : Nat → Int × Int} (h : (g 1).1 < 1000000) (n : Nat) : (mCh g (n + 1)).2.1 < 1000000 := by
  induction n with
  | zero =>
    show (mChS (0, 1000000, 1000000) _ (g 1)).2.1 < _
    unfold mChS
    rw [if_pos h]
    exact h
  | succ n ih => have := mCh_mono (g := g) (n + 1); omega
theorem m_choose {B : Int → Int → Int} {l : List Int} {w : Int} {ls sc fc : Nat → Int} (hcs : mCs (mCC B l) (mXC B l) w) (hr : ∀ k : Nat, 1 ≤ k → k ≤ 8 → ∀ d : Int, 0 ≤ d → d < w → mRow (mCC B l) (mXC B l) w ls sc fc k d) :
    f_X3_chooseColumns ls sc = some (mCh (fun k => mF (mCC B l) (mXC B l) w k 0) 8) := by
  have hw := hcs.1
  generalize hg : (fun k => mF (mCC B l) (mXC B l) w k 0) = g
  have hgk : ∀ k, g k = mF (mCC B l) (mXC B l) w k 0 := fun k => by rw [← hg]
  have hpr : ∀ j : Nat, j ≤ 8 → mPr 900000 (g j) := fun j hj => by
    obtain ⟨q1, q2, q3⟩ := mF_pr hcs j hj 0 (by omega) (by omega)
    rw [hgk]; exact ⟨by omega, by omega, q3⟩
  have h1 : (g 1).1 < 1000000 := by
    have := mF_1 hcs (c := 0) (by omega)
    have h2 := hcs.2.1 0 w (by omega) (by omega) (by omega)
    rw [hgk, this]; dsimp only; omega
  unfold f_X3_chooseColumns
  refine mloop (L := fun n i (s : Int × Int × Int) => f_X3_chooseColumns_l19 (fun a b c => some (a, b, c)) ls sc n i s.1 s.2.1 s.2.2) (Q := fun r => r = some (mCh g 8)) (hi := 9) (P := fun i s => 1 ≤ i ∧ ((i = 1 ∧ s = (1, 1000000, 1000000)) ∨ (2 ≤ i ∧ s = mCh g (i - 1).toNat))) ?_ ?_ zN 1 (1, 1000000, 1000000) (by omega) (mzN (by omega)) ⟨by omega, Or.inl ⟨rfl, rfl⟩⟩
  · rintro m i s hi ⟨i0, i1⟩
    right
    obtain ⟨j, rfl⟩ : ∃ j : Nat, i = (j : Int) + 1 := ⟨(i - 1).toNat, by omega⟩
    obtain ⟨r1, r2, -⟩ := hr (j + 1) (by omega) (by omega) 0 (by omega) (by omega)
    rw [← hgk] at r1 r2
    obtain ⟨q1, q2, q3⟩ := hpr (j + 1) (by omega)
    have hsr : (s.2.1 = (mCh g j).2.1 ∧ s.2.2 = (mCh g j).2.2) ∧ (j ≠ 0 → s.1 = (mCh g j).1) := by
      rcases i1 with ⟨e, rfl⟩ | ⟨e, rfl⟩
      · have : j = 0 := by omega
        subst this
        exact ⟨⟨rfl, rfl⟩, fun h => absurd rfl h⟩
      · rw [show ((j : Int) + 1 - 1).toNat = j by omega]
        exact ⟨⟨rfl, rfl⟩, fun _ => rfl⟩
    obtain ⟨c1, c2, c3, c4, -⟩ := mCh_r j (fun k hk => hpr k (by omega))
    rw [f_X3_chooseColumns_l19_s]
    unfold f_X3_slotOf
    have er1 : ls (((j : Int) + 1) * 61 + 0).toNat = (g (j + 1)).1 := by rw [← r1]; congr 1
    have er2 : sc (((j : Int) + 1) * 61 + 0).toNat = (g (j + 1)).2 := by rw [← r2]; congr 1
    rw [mzb, m_pick_in ⟨by omega, by omega, by omega⟩, mzb, m_pick_in ⟨by omega, by omega, by omega⟩, mzb, er1, er2]
    have hnext : mCh g ((j : Int) + 1 + 1 - 1).toNat = mChS (mCh g j) ((j : Int) + 1) (g (j + 1)) := by
      rw [show ((j : Int) + 1 + 1 - 1).toNat = j + 1 by omega]; rfl
    simp (disch := omega) only [mlt]
    rw [if_neg (by omega)]
    by_cases e : (g (j + 1)).1 < s.2.1
    · rw [if_pos e]
      refine ⟨((j : Int) + 1, (g (j + 1)).1, zmin s.2.1 (g (j + 1)).2), rfl, by omega, Or.inr ⟨by omega, ?_⟩⟩
      rw [hnext, mmin (by omega)]
      unfold mChS
      rw [hsr.1.1] at e ⊢
      rw [if_pos e]
    · rw [if_neg e]
      refine ⟨(s.1, s.2.1, zmin s.2.2 (g (j + 1)).1), rfl, by omega, Or.inr ⟨by omega, ?_⟩⟩
      have hj0 : j ≠ 0 := by
        intro e0
        subst e0
        rw [hsr.1.1] at e
        exact e h1
      rw [hnext, mmin (by omega)]
      unfold mChS
      rw [hsr.1.1] at e ⊢
      rw [if_neg e, hsr.1.2, hsr.2 hj0]
  · rintro m s ⟨i0, i1⟩
    rw [f_X3_chooseColumns_l19_s]
    simp (disch := omega) only [mlt]
    rw [if_pos (by omega)]
    rcases i1 with ⟨e, -⟩ | ⟨-, rfl⟩
    · omega
    · rfl
/-- the cuts up to the k-th, each the first of the best way from the one ahead -/
def mCut (cc : Int → Int → Int) (xc : Int → Int) (w : Int) (n : Nat) (cuts : Nat → Int) (k : Nat) : Prop := cuts 0 = 0 ∧ ∀ j : Nat, j < k → (0 ≤ cuts j ∧ cuts j < cuts (j + 1) ∧ cuts (j + 1) ≤ w) ∧ mFst (mF cc xc w (n - j - 1)) (mWy cc xc w (cuts j)) (cuts j) (mF cc xc w (n - j) (cuts j)).1 (cuts (j + 1))
theorem mCut_uniq {cc : Int → Int → Int} {xc : Int → Int} {w : Int} {n k : Nat} {cuts cuts' : Nat → Int} (h : mCut cc xc w n cuts k) (h' : mCut cc xc w n cuts' k) : ∀ j : Nat, j ≤ k → cuts j = cuts' j := by
  intro j
  induction j with
  | zero => intro _; rw [h.1, h'.1]
  | succ j ih =>
    intro hj
    have e := ih (by omega)
    obtain ⟨a1, a2⟩ := h.2 j (by omega)
    obtain ⟨b1, b2⟩ := h'.2 j (by omega)
    rw [← e] at b1 b2
    exact mFst_uniq a2 b2 a1.2.1 b1.2.1
theorem m_trace {B : Int → Int → Int} {l : List Int} {w : Int} {ls sc fc ct : Nat → Int} {n : Nat} (hcs : mCs (mCC B l) (mXC B l) w) (hn : 1 ≤ n ∧ n ≤ 8) (hr : ∀ k : Nat, 1 ≤ k → k ≤ 8 → ∀ d : Int, 0 ≤ d → d < w → mRow (mCC B l) (mXC B l) w ls sc fc k d) (h0 : (mF (mCC B l) (mXC B l) w n 0).1 ≠ 1000000) :
    ∃ cuts, f_X3_traceCuts fc ct (n : Int) = some cuts ∧ mCut (mCC B l) (mXC B l) w n cuts n := by
  have hw := hcs.1
  unfold f_X3_traceCuts
  rw [m_put_in ⟨by omega, by omega, by omega⟩, mzb]
  refine mloop (L := fun m i (s : Int × (Nat → Int)) => f_X3_traceCuts_l13 (fun c => some c) fc (n : Int) m s.1 i s.2) (Q := fun r => ∃ cuts, r = some cuts ∧ mCut (mCC B l) (mXC B l) w n cuts n) (hi := (n : Int) + 1) (P := fun i s => 1 ≤ i ∧ mCut (mCC B l) (mXC B l) w n s.2 (i - 1).toNat ∧ s.1 = s.2 (i - 1).toNat ∧ (mF (mCC B l) (mXC B l) w (n - (i - 1).toNat) s.1).1 ≠ 1000000 ∧ 0 ≤ s.1 ∧ s.1 ≤ w) ?_ ?_ zN 1 (0, zu ct 0 0) (by omega) (mzN (by omega)) ⟨by omega, ⟨(by show zu ct 0 0 0 = 0; exact mzu_same rfl), fun j hj => by omega⟩, (by show (0 : Int) = zu ct 0 0 0; exact (mzu_same rfl).symm), h0, by omega, by omega⟩
  · rintro m i ⟨p, cuts⟩ hi ⟨i0, i1, i2, i3, i4, i5⟩
    right
    try dsimp only at i1 i2 i3 i4 i5 ⊢
    obtain ⟨j, rfl⟩ : ∃ j : Nat, i = (j : Int) + 1 := ⟨(i - 1).toNat, by omega⟩
    rw [show ((j : Int) + 1 - 1).toNat = j by omega] at i1 i2 i3
    have hpw : p < w := by
      refine Int.lt_iff_le_and_ne.mpr ⟨i5, fun e => i3 ?_⟩
      rw [e, show n - j = (n - j - 1) + 1 by omega, mF_w]
    obtain ⟨-, -, r3⟩ := hr (n - j) (by omega) (by omega) p i4 hpw
    obtain ⟨f1, f2, f3⟩ := r3 i3
    rw [f_X3_traceCuts_l13_s]
    unfold f_X3_slotOf
    have es : ((n : Int) - ((j : Int) + 1) + 1) * 61 + p = (((n - j : Nat) : Int)) * 61 + p := by omega
    rw [mzb, es, m_pick_in ⟨by omega, by omega, by omega⟩, mzb, m_put_in ⟨by omega, by omega, by omega⟩, mzb]
    simp (disch := omega) only [mlt]
    rw [if_neg (by omega)]
    generalize hf : fc (((n - j : Nat) : Int) * 61 + p).toNat = f at f1 f2 f3
    refine ⟨(f, zu cuts ((j : Int) + 1) f), rfl, ?_⟩
    dsimp only
    rw [show ((j : Int) + 1 + 1 - 1).toNat = j + 1 by omega]
    refine ⟨by omega, ⟨by rw [mzu_other (by omega)]; exact i1.1, fun t ht => ?_⟩, (mzu_same (by omega)).symm, by rw [show n - (j + 1) = n - j - 1 by omega]; exact f3.1, by omega, f2⟩
    by_cases htj : t = j
    · subst htj
      rw [mzu_other (by omega), mzu_same (by omega), ← i2]
      exact ⟨by omega, f3⟩
    · rw [mzu_other (by omega), mzu_other (by omega)]
      exact i1.2 t (by omega)
  · rintro m ⟨p, cuts⟩ ⟨i0, i1, i2, i3, i4, i5⟩
    try dsimp only at i1 i2 i3 i4 i5 ⊢
    rw [f_X3_traceCuts_l13_s]
    simp (disch := omega) only [mlt]
    rw [if_pos (by omega)]
    rw [show ((n : Int) + 1 - 1).toNat = n by omega] at i1
    exact ⟨cuts, rfl, i1⟩
/-- the class's best reading, whole -/
theorem m_bestC {B : Int → Int → Int} {l : List Int} {w pc rules : Int} {cr nx g ls0 sc0 fc0 ct : Nat → Int} (hs : mSv B l w cr nx g) (hcs : mCs (mCC B l) (mXC B l) w) :
    ∃ ls sc fc cuts, f_X3_readBest ls0 sc0 fc0 pc rules w cr nx g ct = some (ls, sc, fc, cuts, (mCh (fun k => mF (mCC B l) (mXC B l) w k 0) 8).1, (mCh (fun k => mF (mCC B l) (mXC B l) w k 0) 8).2.1, (mCh (fun k => mF (mCC B l) (mXC B l) w k 0) 8).2.2, pc, rules, 0) ∧
      mCut (mCC B l) (mXC B l) w (mCh (fun k => mF (mCC B l) (mXC B l) w k 0) 8).1.toNat cuts (mCh (fun k => mF (mCC B l) (mXC B l) w k 0) 8).1.toNat := by
  have hw := hcs.1
  have hpr : ∀ j : Nat, j ≤ 8 → mPr 900000 (mF (mCC B l) (mXC B l) w j 0) := fun j hj => by
    obtain ⟨q1, q2, q3⟩ := mF_pr hcs j hj 0 (by omega) (by omega)
    exact ⟨by omega, by omega, q3⟩
  have h1 : (mF (mCC B l) (mXC B l) w 1 0).1 < 1000000 := by
    have h2 := hcs.2.1 0 w (by omega) (by omega) (by omega)
    rw [mF_1 hcs (by omega)]; dsimp only; omega
  have hch := mCh_r (g := fun k => mF (mCC B l) (mXC B l) w k 0) 8 hpr
  have hsome := mCh_some (g := fun k => mF (mCC B l) (mXC B l) w k 0) h1 7
  unfold f_X3_readBest
  refine m_rows (Q := fun r => ∃ ls sc fc cuts, r = some (ls, sc, fc, cuts, (mCh (fun k => mF (mCC B l) (mXC B l) w k 0) 8).1, (mCh (fun k => mF (mCC B l) (mXC B l) w k 0) 8).2.1, (mCh (fun k => mF (mCC B l) (mXC B l) w k 0) 8).2.2, pc, rules, 0) ∧
      mCut (mCC B l) (mXC B l) w (mCh (fun k => mF (mCC B l) (mXC B l) w k 0) 8).1.toNat cuts (mCh (fun k => mF (mCC B l) (mXC B l) w k 0) 8).1.toNat) hs hcs (fun ls sc fc hr => ?_)
  rw [m_choose hcs hr, mzb]
  generalize hc : mCh (fun k => mF (mCC B l) (mXC B l) w k 0) 8 = s at hch
  rw [hc] at hsome
  obtain ⟨a1, a2, a3, a4, a5⟩ := hch
  obtain ⟨b1, b2⟩ := a5 (by omega)
  obtain ⟨cuts, e, h⟩ := m_trace (ct := ct) (n := s.1.toNat) hcs (by omega) hr (by omega)
  rw [show ((s.1.toNat : Nat) : Int) = s.1 by omega] at e
  rw [e, mzb]
  exact ⟨ls, sc, fc, cuts, rfl, h⟩
