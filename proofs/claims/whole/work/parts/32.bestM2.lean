/-! the reference's best reading, whole -/
theorem m_reckon_k {cc : Int → Int → Int} {xc : Int → Int} {w c : Int} {col cut ls0 ot0 : Nat → Int} {K : (Nat → Int) → (Nat → Int) → Option ((Nat → Int) × (Nat → Int) × (Nat → Int) × (Nat → Int))} {Q : Option ((Nat → Int) × (Nat → Int) × (Nat → Int) × (Nat → Int)) → Prop} (hcs : mCs cc xc w) (hl : mLay cc xc w col cut w 0) (hc : 0 ≤ c ∧ c ≤ w)
    (h1 : ∀ k' : Nat, k' ≤ 8 → ∀ d : Int, c < d → d ≤ w → mRm cc xc w ls0 ot0 k' d)
    (hK : ∀ ls ot, (∀ k' : Nat, k' ≤ 8 → ∀ d : Int, c ≤ d → d ≤ w → mRm cc xc w ls ot k' d) → Q (K ls ot)) : Q (f_X6_reckon_l81 K c w col cut zN 0 ls0 ot0) := by
  have hw := hcs.1
  refine mloop (L := fun m i (s : (Nat → Int) × (Nat → Int)) => f_X6_reckon_l81 K c w col cut m i s.1 s.2) (Q := Q) (hi := 9) (P := fun i s => 0 ≤ i ∧ (∀ k' : Nat, k' ≤ 8 → ∀ d : Int, c < d → d ≤ w → mRm cc xc w s.1 s.2 k' d) ∧ ∀ k' : Nat, (k' : Int) < i → mRm cc xc w s.1 s.2 k' c) ?_ ?_ zN 0 (ls0, ot0) (by omega) (mzN (by omega)) ⟨by omega, h1, fun k hk => by omega⟩
  · rintro m i ⟨ls, ot⟩ hi ⟨i0, i1, i2⟩
    try dsimp only at i1 i2 ⊢
    obtain ⟨k, rfl⟩ : ∃ k : Nat, i = (k : Int) := ⟨i.toNat, by omega⟩
    have key : (f_X6_reckon_l131 (fun ls' ot' => f_X6_reckon_l81 K c w col cut m ((k : Int) + 1) ls' ot') c (k : Int) (9 * c + (k : Int)) w col cut zN (c + 1) (zu ls (9 * c + (k : Int)) (if c = w ∧ k = 0 then 0 else 1000000)) (zu ot (9 * c + (k : Int)) 1000000)) = f_X6_reckon_l81 K c w col cut (m + 1) (k : Int) ls ot := by
      rw [f_X6_reckon_l81_s]
      simp (disch := omega) only [mlt, meq, f_X6_reckon_j115, f_X6_reckon_j117]
      rw [if_neg (show ¬ 8 < (k : Int) by omega)]
      by_cases e : c = w
      · rw [if_pos e]
        by_cases e0 : (k : Int) = 0
        · rw [if_pos e0, if_pos ⟨e, by omega⟩, mwr (by omega), mwr (by omega)]
        · rw [if_neg e0, if_neg (fun q => e0 (by omega)), mwr (by omega), mwr (by omega)]
      · rw [if_neg e, if_neg (fun q => e q.1), mwr (by omega), mwr (by omega)]
    rw [← key]
    refine m_reckon_d (Q := fun r => Q r ∨ ∃ s' : (Nat → Int) × (Nat → Int), r = f_X6_reckon_l81 K c w col cut m ((k : Int) + 1) s'.1 s'.2 ∧ 0 ≤ (k : Int) + 1 ∧ (∀ k' : Nat, k' ≤ 8 → ∀ d : Int, c < d → d ≤ w → mRm cc xc w s'.1 s'.2 k' d) ∧ ∀ k' : Nat, (k' : Int) < (k : Int) + 1 → mRm cc xc w s'.1 s'.2 k' c) hcs hl hc (by omega) i1 (fun ls' ot' hr ho => Or.inr ⟨(ls', ot'), rfl, by omega, fun k' hk' d d1 d2 => ?_, fun k' hk' => ?_⟩)
    · have e := ho (9 * d + (k' : Int)).toNat (by omega)
      have := i1 k' hk' d d1 d2
      unfold mRm at this ⊢
      try dsimp only
      rw [e.1, e.2]
      exact this
    · by_cases e : k' = k
      · subst e; exact hr
      · have e2 := ho (9 * c + (k' : Int)).toNat (by omega)
        have := i2 k' (by omega)
        unfold mRm at this ⊢
        try dsimp only
        rw [e2.1, e2.2]
        exact this
  · rintro m ⟨ls, ot⟩ ⟨i0, i1, i2⟩
    try dsimp only at i1 i2 ⊢
    rw [f_X6_reckon_l81_s]
    simp (disch := omega) only [mlt]
    rw [if_pos (by omega)]
    refine hK ls ot (fun k' hk' d d1 d2 => ?_)
    by_cases e : d = c
    · subst e; exact i2 k' (by omega)
    · exact i1 k' hk' d (by omega) d2
theorem m_reckon {mp ms pf : Nat → Int} {n a b w : Int} {ls0 ot0 col0 cut0 : Nat → Int} {cc : Int → Int → Int} {xc : Int → Int} (hcs : mCs cc xc w) (hcc : ∀ s e : Int, 0 ≤ s → s < e → e ≤ w → f_X6_columnCost ms mp a b pf s e = some (cc s e)) (hxc : ∀ c : Int, 0 < c → c < w → f_X6_cutCost ms mp a b pf c = some (xc c)) :
    ∃ ls ot col cut, f_X6_reckon ms mp a b w pf ls0 ot0 col0 cut0 = some (ls, ot, col, cut) ∧ mLay cc xc w col cut w 0 ∧ ∀ k : Nat, k ≤ 8 → ∀ d : Int, 0 ≤ d → d ≤ w → mRm cc xc w ls ot k d := by
  have hw := hcs.1
  unfold f_X6_reckon
  refine m_lay (n := n) (Q := fun r => ∃ ls ot col cut, r = some (ls, ot, col, cut) ∧ mLay cc xc w col cut w 0 ∧ ∀ k : Nat, k ≤ 8 → ∀ d : Int, 0 ≤ d → d ≤ w → mRm cc xc w ls ot k d) hcc hxc hw (fun col cut hl => ?_)
  refine mloopD (L := fun m i (s : (Nat → Int) × (Nat → Int)) => f_X6_reckon_l75 (fun t u => some (t, u, col, cut)) w col cut m i s.1 s.2) (Q := fun r => ∃ ls ot col cut, r = some (ls, ot, col, cut) ∧ mLay cc xc w col cut w 0 ∧ ∀ k : Nat, k ≤ 8 → ∀ d : Int, 0 ≤ d → d ≤ w → mRm cc xc w ls ot k d) (lo := 0) (P := fun i s => i ≤ w ∧ ∀ k : Nat, k ≤ 8 → ∀ d : Int, i < d → d ≤ w → mRm cc xc w s.1 s.2 k d) ?_ ?_ zN w (ls0, ot0) (by omega) (mzN (by omega)) ⟨by omega, fun k hk d d1 d2 => by omega⟩
  · rintro m i ⟨ls, ot⟩ hi ⟨i0, i1⟩
    try dsimp only at i1 ⊢
    rw [f_X6_reckon_l75_s]
    simp (disch := omega) only [mlt]
    rw [if_neg (by omega)]
    exact m_reckon_k (Q := fun r => (∃ ls ot col cut, r = some (ls, ot, col, cut) ∧ mLay cc xc w col cut w 0 ∧ ∀ k : Nat, k ≤ 8 → ∀ d : Int, 0 ≤ d → d ≤ w → mRm cc xc w ls ot k d) ∨ ∃ s' : (Nat → Int) × (Nat → Int), r = f_X6_reckon_l75 (fun t u => some (t, u, col, cut)) w col cut m (i - 1) s'.1 s'.2 ∧ i - 1 ≤ w ∧ ∀ k : Nat, k ≤ 8 → ∀ d : Int, i - 1 < d → d ≤ w → mRm cc xc w s'.1 s'.2 k d) hcs hl ⟨hi, i0⟩ i1 (fun ls' ot' h => Or.inr ⟨(ls', ot'), rfl, by omega, fun k hk d d1 d2 => h k hk d (by omega) d2⟩)
  · rintro m ⟨ls, ot⟩ ⟨i0, i1⟩
    try dsimp only at i1 ⊢
    rw [f_X6_reckon_l75_s]
    simp (disch := omega) only [mlt]
    rw [if_pos (by omega)]
    exact ⟨ls, ot, col, cut, rfl, hl, fun k hk d d1 d2 => i1 k hk d (by omega) d2⟩
theorem m_chooseM {cc : Int → Int → Int} {xc : Int → Int} {w : Int} {ls ot : Nat → Int} {K : Int → Int → Int → Option ((Nat → Int) × (Nat → Int) × (Nat → Int) × (Nat → Int) × Int × Int × Int × (Nat → Int))} {Q : Option ((Nat → Int) × (Nat → Int) × (Nat → Int) × (Nat → Int) × Int × Int × Int × (Nat → Int)) → Prop} (hcs : mCs cc xc w) (hr : ∀ k : Nat, k ≤ 8 → ∀ d : Int, 0 ≤ d → d ≤ w → mRm cc xc w ls ot k d)
    (hK : Q (K (mCh (fun k => mF cc xc w k 0) 8).2.1 (mCh (fun k => mF cc xc w k 0) 8).2.2 (mCh (fun k => mF cc xc w k 0) 8).1)) : Q (f_X6_readBest_l23 K ls ot zN 1 1000000 1000000 0) := by
  have hw := hcs.1
  generalize hg : (fun k => mF cc xc w k 0) = g at hK
  have hgk : ∀ k, g k = mF cc xc w k 0 := fun k => by rw [← hg]
  have hpr : ∀ j : Nat, j ≤ 8 → mPr 900000 (g j) := fun j hj => by
    obtain ⟨q1, q2, q3⟩ := mF_pr hcs j hj 0 (by omega) (by omega)
    rw [hgk]; exact ⟨by omega, by omega, q3⟩
  refine mloop (L := fun n i (s : Int × Int × Int) => f_X6_readBest_l23 K ls ot n i s.2.1 s.2.2 s.1) (Q := Q) (hi := 9) (P := fun i s => 1 ≤ i ∧ s = mCh g (i - 1).toNat) ?_ ?_ zN 1 (0, 1000000, 1000000) (by omega) (mzN (by omega)) ⟨by omega, rfl⟩
  · rintro m i s hi ⟨i0, i1⟩
    right
    obtain ⟨j, rfl⟩ : ∃ j : Nat, i = (j : Int) + 1 := ⟨(i - 1).toNat, by omega⟩
    rw [show ((j : Int) + 1 - 1).toNat = j by omega] at i1
    have hrow := hr (j + 1) (by omega) 0 (by omega) (by omega)
    unfold mRm at hrow
    rw [← hgk, show (9 * (0 : Int) + ((j + 1 : Nat) : Int)).toNat = ((j : Int) + 1).toNat by omega] at hrow
    obtain ⟨q1, q2, q3⟩ := hpr (j + 1) (by omega)
    rw [← hrow] at q1 q2 q3
    obtain ⟨c1, c2, c3, c4, -⟩ := mCh_r j (fun k hk => hpr k (by omega))
    rw [← i1] at c1 c2 c3 c4
    try dsimp only at q1 q2 q3
    have hnext : mCh g ((j : Int) + 1 + 1 - 1).toNat = mChS s ((j : Int) + 1) (ls ((j : Int) + 1).toNat, ot ((j : Int) + 1).toNat) := by
      rw [show ((j : Int) + 1 + 1 - 1).toNat = j + 1 by omega, i1, hrow]; rfl
    rw [f_X6_readBest_l23_s]
    simp (disch := omega) only [mlt, f_X6_readBest_j71, f_X6_readBest_j104, f_X6_readBest_j107, f_X6_readBest_j134]
    rw [if_neg (by omega)]
    simp (disch := omega) only [mrd, mlt]
    rw [hnext]
    unfold mChS
    dsimp only
    generalize hA : ls ((j : Int) + 1).toNat = A at q1 q3
    generalize hB : ot ((j : Int) + 1).toNat = Bb at q2 q3
    by_cases e : A < s.2.1
    · rw [if_pos e, if_pos e]
      by_cases e1 : s.2.1 < Bb
      · rw [if_pos e1, if_neg (show ¬ Bb < s.2.1 by omega), if_neg (show ¬ Bb < s.2.1 by omega)]
        exact ⟨((j : Int) + 1, A, s.2.1), rfl, by omega, rfl⟩
      · rw [if_neg e1, if_neg (show ¬ Bb < Bb by omega)]
        refine ⟨((j : Int) + 1, A, Bb), rfl, by omega, ?_⟩
        by_cases e2 : Bb < s.2.1
        · rw [if_pos e2]
        · rw [if_neg e2, show Bb = s.2.1 by omega]
    · rw [if_neg e, if_neg e]
      by_cases e1 : A < s.2.2
      · rw [if_pos e1, if_pos e1, if_neg (show ¬ Bb < A by omega)]
        exact ⟨(s.1, s.2.1, A), rfl, by omega, rfl⟩
      · rw [if_neg e1, if_neg e1, if_neg (show ¬ Bb < s.2.2 by omega)]
        exact ⟨(s.1, s.2.1, s.2.2), rfl, by omega, rfl⟩
  · rintro m s ⟨i0, i1⟩
    rw [f_X6_readBest_l23_s]
    simp (disch := omega) only [mlt]
    rw [if_pos (by omega), i1]
    exact hK
