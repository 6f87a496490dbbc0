/-! the reference's cuts; its best reading is the class's -/
theorem m_isWay {cc : Int → Int → Int} {xc : Int → Int} {w c d : Int} {k : Nat} {ls ot col cut : Nat → Int} (hcs : mCs cc xc w) (hl : mLay cc xc w col cut w 0) (hr : ∀ k : Nat, k ≤ 8 → ∀ d : Int, 0 ≤ d → d ≤ w → mRm cc xc w ls ot k d) (hk : k ≤ 7) (hc : 0 ≤ c ∧ c < d ∧ d < w) :
    f_X6_isWay w ls col cut c d ((k : Int) + 1) = some (if (mF cc xc w k d).1 ≠ 1000000 ∧ (mF cc xc w k d).1 + mWy cc xc w c d = (mF cc xc w (k + 1) c).1 then 1 else 0) := by
  have hw := hcs.1
  have r1 := hr k (by omega) d (by omega) (by omega)
  have r2 := hr (k + 1) (by omega) c (by omega) (by omega)
  have p1 := mF_pr hcs k (by omega) d (by omega) (by omega)
  have p2 := mF_pr hcs (k + 1) (by omega) c (by omega) (by omega)
  have hwy := mWy_r hcs hc.1 (d := d) (by omega)
  have hx : mWy cc xc w c d = cc c d + xc d := by unfold mWy; rw [if_pos hc.2.2]
  unfold mRm at r1 r2
  rw [← r1] at p1 ⊢
  rw [← r2] at p2 ⊢
  obtain ⟨a1, a2, a3⟩ := p1
  obtain ⟨b1, b2, b3⟩ := p2
  try dsimp only at a1 a2 a3 b1 b2 b3 ⊢
  unfold f_X6_isWay f_X6_isWay_j54 f_X6_isWay_j73
  rw [show 9 * d + ((k : Int) + 1) - 1 = 9 * d + (k : Int) by omega, mrd (by omega), show 9 * c + ((k : Int) + 1) = 9 * c + ((k + 1 : Nat) : Int) by omega]
  simp (disch := omega) only [meq]
  by_cases e : ls (9 * d + (k : Int)).toNat = 1000000
  · rw [if_pos e, if_neg (fun q => q.1 e)]
  · rw [if_neg e, mrd (by omega), hl.1 c d hc.1 hc.2.1 (by omega) (by omega)]
    simp (disch := omega) only [mlt]
    rw [if_pos hc.2.2, mrd (by omega), hl.2 d (by omega) hc.2.2 (by omega), mrd (by omega)]
    simp (disch := omega) only [meq]
    rw [show ls (9 * d + (k : Int)).toNat + cc c d + xc d = ls (9 * d + (k : Int)).toNat + mWy cc xc w c d by omega]
    by_cases e2 : ls (9 * d + (k : Int)).toNat + mWy cc xc w c d = ls (9 * c + ((k + 1 : Nat) : Int)).toNat
    · rw [if_pos e2, if_pos ⟨e, e2⟩]
    · rw [if_neg e2, if_neg (fun q => e2 q.2)]
theorem m_find1 {cc : Int → Int → Int} {xc : Int → Int} {w c d0 : Int} {k : Nat} {ls ot col cut : Nat → Int} {K : Int → Option ((Nat → Int) × (Nat → Int) × (Nat → Int) × (Nat → Int) × Int × Int × Int × (Nat → Int))} (hcs : mCs cc xc w) (hl : mLay cc xc w col cut w 0) (hr : ∀ k : Nat, k ≤ 8 → ∀ d : Int, 0 ≤ d → d ≤ w → mRm cc xc w ls ot k d) (hk : k ≤ 7) (hc : 0 ≤ c ∧ c < d0 ∧ d0 ≤ w)
    (hf : mFst (mF cc xc w k) (mWy cc xc w c) c (mF cc xc w (k + 1) c).1 d0) : f_X6_readBest_l165 K c ((k : Int) + 1) w ls col cut zN (c + 1) = K d0 := by
  have hw := hcs.1
  refine mloop (L := fun m i (_ : Unit) => f_X6_readBest_l165 K c ((k : Int) + 1) w ls col cut m i) (Q := fun r => r = K d0) (hi := d0) (P := fun i _ => c + 1 ≤ i) ?_ ?_ zN (c + 1) () (by omega) (mzN (by omega)) (by omega)
  · intro m i _ hi i0
    right
    refine ⟨(), ?_, by omega⟩
    rw [f_X6_readBest_l165_s]
    simp (disch := omega) only [mlt]
    rw [if_pos (show i < w by omega), m_isWay hcs hl hr hk (by omega), mzb]
    have hno : ¬ ((mF cc xc w k i).1 ≠ 1000000 ∧ (mF cc xc w k i).1 + mWy cc xc w c i = (mF cc xc w (k + 1) c).1) := by
      rintro ⟨q1, q2⟩
      rcases hf.2.2 i (by omega) hi with q | q
      · exact q1 q
      · omega
    rw [if_neg hno, if_pos rfl]
  · intro m _ i0
    rw [f_X6_readBest_l165_s]
    simp (disch := omega) only [mlt, meq, f_X6_readBest_j183]
    by_cases e : d0 < w
    · have hyes : (mF cc xc w k d0).1 ≠ 1000000 ∧ (mF cc xc w k d0).1 + mWy cc xc w c d0 = (mF cc xc w (k + 1) c).1 := ⟨hf.1, hf.2.1⟩
      rw [if_pos e, m_isWay hcs hl hr hk (by omega), mzb, if_pos hyes, if_neg (show ¬ zI 1 = zI 0 by decide), if_neg (show ¬ d0 = w by omega)]
    · rw [if_neg e]
      have ed : d0 = w := by omega
      have hk0 : k = 0 := by
        refine Classical.byContradiction fun h => hf.1 ?_
        rw [ed, show k = (k - 1) + 1 by omega, mF_w]
      rw [if_pos ed, if_neg (by omega)]
theorem m_traceM {cc : Int → Int → Int} {xc : Int → Int} {w : Int} {n : Nat} {ls ot col cut ct : Nat → Int} {K : (Nat → Int) → Option ((Nat → Int) × (Nat → Int) × (Nat → Int) × (Nat → Int) × Int × Int × Int × (Nat → Int))} {Q : Option ((Nat → Int) × (Nat → Int) × (Nat → Int) × (Nat → Int) × Int × Int × Int × (Nat → Int)) → Prop} (hcs : mCs cc xc w) (hl : mLay cc xc w col cut w 0) (hr : ∀ k : Nat, k ≤ 8 → ∀ d : Int, 0 ≤ d → d ≤ w → mRm cc xc w ls ot k d) (hn : 1 ≤ n ∧ n ≤ 8) (h0 : (mF cc xc w n 0).1 ≠ 1000000) (hct : ct 0 = 0)
    (hK : ∀ cuts, mCut cc xc w n cuts n → Q (K cuts)) : Q (f_X6_readBest_l157 K w ls col cut (n : Int) zN 0 (n : Int) ct) := by
  have hw := hcs.1
  refine mloopD (L := fun m i (s : Int × (Nat → Int)) => f_X6_readBest_l157 K w ls col cut (n : Int) m s.1 i s.2) (Q := Q) (lo := 1) (P := fun i s => i ≤ (n : Int) ∧ mCut cc xc w n s.2 ((n : Int) - i).toNat ∧ s.1 = s.2 ((n : Int) - i).toNat ∧ (mF cc xc w i.toNat s.1).1 ≠ 1000000 ∧ 0 ≤ s.1 ∧ s.1 ≤ w) ?_ ?_ zN (n : Int) (0, ct) (by omega) (mzN (by omega)) ⟨by omega, ?_, ?_, ?_, by omega, by omega⟩
  · rintro m i ⟨p, cuts⟩ hi ⟨i0, i1, i2, i3, i4, i5⟩
    right
    try dsimp only at i1 i2 i3 i4 i5 ⊢
    obtain ⟨k, rfl⟩ : ∃ k : Nat, i = (k : Int) + 1 := ⟨(i - 1).toNat, by omega⟩
    have hpw : p < w := by
      refine Int.lt_iff_le_and_ne.mpr ⟨i5, fun e => i3 ?_⟩
      rw [e, show ((k : Int) + 1).toNat = k + 1 by omega, mF_w]
    rw [show ((k : Int) + 1).toNat = k + 1 by omega] at i3
    obtain ⟨d, d1, d2, hf⟩ := mFst_ex hcs (by omega) ⟨i4, hpw⟩ i3
    rw [f_X6_readBest_l157_s]
    simp (disch := omega) only [mlt]
    rw [if_pos (by omega), m_find1 hcs hl hr (by omega) ⟨i4, d1, d2⟩ hf]
    unfold f_X6_readBest_j202
    rw [mwr (by omega)]
    generalize hj : ((n : Int) - ((k : Int) + 1)).toNat = j at i1 i2
    refine ⟨(d, zu cuts ((n : Int) - ((k : Int) + 1) + 1) d), by rw [show (k : Int) + 1 + -1 = (k : Int) + 1 - 1 by omega], ?_⟩
    dsimp only
    have ej : ((n : Int) - ((k : Int) + 1 - 1)).toNat = j + 1 := by omega
    rw [ej]
    refine ⟨by omega, ⟨by rw [mzu_other (by omega)]; exact i1.1, fun t ht => ?_⟩, (mzu_same (by omega)).symm, by rw [show ((k : Int) + 1 - 1).toNat = k by omega]; exact hf.1, by omega, d2⟩
    by_cases htj : t = j
    · subst htj
      rw [mzu_other (by omega), mzu_same (by omega), ← i2, show n - t - 1 = k by omega, show n - t = k + 1 by omega]
      exact ⟨by omega, hf⟩
    · rw [mzu_other (by omega), mzu_other (by omega)]
      exact i1.2 t (by omega)
  · rintro m ⟨p, cuts⟩ ⟨i0, i1, i2, i3, i4, i5⟩
    try dsimp only at i1 i2 i3 i4 i5 ⊢
    rw [f_X6_readBest_l157_s]
    simp (disch := omega) only [mlt]
    rw [if_neg (by omega)]
    rw [show ((n : Int) - (1 - 1)).toNat = n by omega] at i1
    exact hK cuts i1
  · dsimp only
    rw [show ((n : Int) - (n : Int)).toNat = 0 by omega]
    exact ⟨hct, fun j hj => by omega⟩
  · dsimp only
    rw [show ((n : Int) - (n : Int)).toNat = 0 by omega]
    exact hct.symm
  · dsimp only
    rw [show ((n : Int)).toNat = n by omega]
    exact h0
/-- the reference's best reading, whole -/
theorem m_bestM {mp ms pf : Nat → Int} {n a b w : Int} {ls0 ot0 col0 cut0 ct : Nat → Int} {cc : Int → Int → Int} {xc : Int → Int} (hcs : mCs cc xc w) (hcc : ∀ s e : Int, 0 ≤ s → s < e → e ≤ w → f_X6_columnCost ms mp a b pf s e = some (cc s e)) (hxc : ∀ c : Int, 0 < c → c < w → f_X6_cutCost ms mp a b pf c = some (xc c)) :
    ∃ ls ot col cut cuts, f_X6_readBest ms mp a b w pf ls0 ot0 col0 cut0 ct = some (ls, ot, col, cut, (mCh (fun k => mF cc xc w k 0) 8).2.1, (mCh (fun k => mF cc xc w k 0) 8).2.2, (mCh (fun k => mF cc xc w k 0) 8).1, cuts) ∧ mCut cc xc w (mCh (fun k => mF cc xc w k 0) 8).1.toNat cuts (mCh (fun k => mF cc xc w k 0) 8).1.toNat := by
  have hw := hcs.1
  have hpr : ∀ j : Nat, j ≤ 8 → mPr 900000 (mF cc xc w j 0) := fun j hj => by
    obtain ⟨q1, q2, q3⟩ := mF_pr hcs j hj 0 (by omega) (by omega)
    exact ⟨by omega, by omega, q3⟩
  have h1 : (mF cc xc w 1 0).1 < 1000000 := by
    have h2 := hcs.2.1 0 w (by omega) (by omega) (by omega)
    rw [mF_1 hcs (by omega)]; dsimp only; omega
  have hch := mCh_r (g := fun k => mF cc xc w k 0) 8 hpr
  have hsome := mCh_some (g := fun k => mF cc xc w k 0) h1 7
  obtain ⟨ls, ot, col, cut, e, hl, hr⟩ := m_reckon (n := n) (ls0 := ls0) (ot0 := ot0) (col0 := col0) (cut0 := cut0) hcs hcc hxc
  unfold f_X6_readBest
  rw [e, mzb]
  dsimp only
  refine m_chooseM (Q := fun r => ∃ ls ot col cut cuts, r = some (ls, ot, col, cut, (mCh (fun k => mF cc xc w k 0) 8).2.1, (mCh (fun k => mF cc xc w k 0) 8).2.2, (mCh (fun k => mF cc xc w k 0) 8).1, cuts) ∧ mCut cc xc w (mCh (fun k => mF cc xc w k 0) 8).1.toNat cuts (mCh (fun k => mF cc xc w k 0) 8).1.toNat) hcs hr ?_
  generalize hc : mCh (fun k => mF cc xc w k 0) 8 = s at hch
  rw [hc] at hsome
  obtain ⟨a1, a2, a3, a4, a5⟩ := hch
  obtain ⟨b1, b2⟩ := a5 (by omega)
  rw [mwr (by omega)]
  have hN : ((s.1.toNat : Nat) : Int) = s.1 := by omega
  have := m_traceM (n := s.1.toNat) (ct := zu ct 0 0) (K := fun cuts => some (ls, ot, col, cut, s.2.1, s.2.2, s.1, cuts)) (Q := fun r => ∃ ls ot col cut cuts, r = some (ls, ot, col, cut, s.2.1, s.2.2, s.1, cuts) ∧ mCut cc xc w s.1.toNat cuts s.1.toNat) hcs hl hr (by omega) (by omega) (mzu_same rfl) (fun cuts h => ⟨ls, ot, col, cut, cuts, rfl, h⟩)
  rw [hN] at this
  exact this
