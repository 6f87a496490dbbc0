/-! the reference's best reading -/
theorem mTkr_fst {r1 r2 way : Int} {s : Int × Int} (h : r1 ≤ r2) (hr : r2 ≤ 1000000) : (mTkr r2 way (mTkr r1 way s)).1 = (mTkr r1 way s).1 := by
  unfold mTkr mTk
  by_cases e2 : r2 = 1000000
  · rw [if_pos e2]
  · rw [if_neg e2, if_neg (show ¬ r1 = 1000000 by omega)]
    by_cases e : r1 + way < s.1
    · rw [if_pos e]
      dsimp only
      rw [if_neg (by omega)]
      split <;> rfl
    · rw [if_neg e]
      by_cases e3 : r1 + way < s.2
      · rw [if_pos e3]
        dsimp only
        rw [if_neg (by omega)]
        split <;> rfl
      · rw [if_neg e3]
        rw [if_neg (by omega)]
        split <;> rfl
theorem mFst_fold {g : Int → Int × Int} {wy : Int → Int} {c : Int} (n : Nat) (hg : ∀ j : Nat, j < n → mPr 900000 (g (c + 1 + (j : Int)))) (hw : ∀ j : Nat, j < n → 0 ≤ wy (c + 1 + (j : Int)) ∧ wy (c + 1 + (j : Int)) ≤ 5000) :
    ((mFd g wy c n).1 = 1000000 ∨ ∃ d : Int, c < d ∧ d ≤ c + (n : Int) ∧ mFst g wy c (mFd g wy c n).1 d) ∧ ∀ d : Int, c < d → d ≤ c + (n : Int) → (g d).1 = 1000000 ∨ (mFd g wy c n).1 ≤ (g d).1 + wy d := by
  induction n with
  | zero => exact ⟨Or.inl rfl, fun d h1 h2 => by omega⟩
  | succ n ih =>
    obtain ⟨h1, h2⟩ := ih (fun j hj => hg j (by omega)) (fun j hj => hw j (by omega))
    obtain ⟨q1, q2, q3⟩ := hg n (by omega)
    have q4 := hw n (by omega)
    have hd : c + 1 + (n : Int) = c + ((n + 1 : Nat) : Int) := by omega
    have e : (mFd g wy c (n + 1)).1 = (mTkr (g (c + 1 + (n : Int))).1 (wy (c + 1 + (n : Int))) (mFd g wy c n)).1 := mTkr_fst q3 (by omega)
    rw [e]
    generalize mFd g wy c n = s at h1 h2
    generalize hdd : c + 1 + (n : Int) = dd at q1 q2 q3 q4 hd
    unfold mTkr mTk
    by_cases e1 : (g dd).1 = 1000000
    · rw [if_pos e1]
      refine ⟨h1.imp id fun ⟨d, a, b, f⟩ => ⟨d, a, by omega, f⟩, fun d a b => ?_⟩
      by_cases ed : d = dd
      · subst ed; exact Or.inl e1
      · exact h2 d a (by omega)
    · rw [if_neg e1]
      by_cases e2 : (g dd).1 + wy dd < s.1
      · rw [if_pos e2]
        dsimp only
        refine ⟨Or.inr ⟨dd, by omega, by omega, e1, rfl, fun d a b => ?_⟩, fun d a b => ?_⟩
        · rcases h2 d a (by omega) with q | q
          · exact Or.inl q
          · exact Or.inr (by omega)
        · by_cases ed : d = dd
          · subst ed; exact Or.inr (Int.le_refl _)
          · rcases h2 d a (by omega) with q | q
            · exact Or.inl q
            · exact Or.inr (by omega)
      · have e3 : (if (g dd).1 + wy dd < s.1 then ((g dd).1 + wy dd, s.1) else if (g dd).1 + wy dd < s.2 then (s.1, (g dd).1 + wy dd) else s).1 = s.1 := by
          rw [if_neg e2]; split <;> rfl
        rw [e3]
        refine ⟨h1.imp id fun ⟨d, a, b, f⟩ => ⟨d, a, by omega, f⟩, fun d a b => ?_⟩
        by_cases ed : d = dd
        · subst ed; exact Or.inr (by omega)
        · exact h2 d a (by omega)
theorem mFst_ex {cc : Int → Int → Int} {xc : Int → Int} {w c : Int} {k : Nat} (h : mCs cc xc w) (hk : k ≤ 7) (hc : 0 ≤ c ∧ c < w) (hne : (mF cc xc w (k + 1) c).1 ≠ 1000000) : ∃ d : Int, c < d ∧ d ≤ w ∧ mFst (mF cc xc w k) (mWy cc xc w c) c (mF cc xc w (k + 1) c).1 d := by
  have := (mFst_fold (g := mF cc xc w k) (wy := mWy cc xc w c) (c := c) (w - c).toNat (fun j hj => by
    obtain ⟨q1, q2, q3⟩ := mF_pr h k (by omega) (c + 1 + (j : Int)) (by omega) (by omega)
    exact ⟨by omega, by omega, q3⟩) (fun j hj => mWy_r h hc.1 (by omega))).1
  rcases this with q | ⟨d, a, b, f⟩
  · exact absurd q hne
  · exact ⟨d, a, by omega, f⟩
theorem m_take {ls ot : Nat → Int} {at_ rest way : Int} (hat : 0 ≤ at_ ∧ at_ < 549) (hr : 0 ≤ rest ∧ rest ≤ 1000000) (hw : 0 ≤ way ∧ way ≤ 5000) (h1 : 0 ≤ ls at_.toNat ∧ ls at_.toNat ≤ 1000000) (h2 : 0 ≤ ot at_.toNat ∧ ot at_.toNat ≤ 1000000) :
    ∃ ls' ot', f_X6_take ls ot at_ rest way = some (ls', ot') ∧ (ls' at_.toNat, ot' at_.toNat) = mTkr rest way (ls at_.toNat, ot at_.toNat) ∧ ∀ j : Nat, j ≠ at_.toNat → ls' j = ls j ∧ ot' j = ot j := by
  unfold f_X6_take mTkr mTk
  simp (disch := omega) only [meq]
  by_cases e : rest = 1000000
  · rw [if_pos e, if_pos e]; exact ⟨ls, ot, rfl, rfl, fun j _ => ⟨rfl, rfl⟩⟩
  · rw [if_neg e, if_neg e, mrd hat, mrd hat, mwr hat, mwr hat, mrd hat, mwr hat]
    simp (disch := omega) only [mlt]
    by_cases e1 : rest + way < ls at_.toNat
    · rw [if_pos e1, if_pos e1]
      exact ⟨_, _, rfl, by rw [mzu_same rfl, mzu_same rfl], fun j hj => ⟨mzu_other hj, mzu_other hj⟩⟩
    · rw [if_neg e1, if_neg e1]
      by_cases e2 : rest + way < ot at_.toNat
      · rw [if_pos e2, if_pos e2]
        exact ⟨_, _, rfl, by rw [mzu_same rfl], fun j hj => ⟨rfl, mzu_other hj⟩⟩
      · rw [if_neg e2, if_neg e2]
        exact ⟨_, _, rfl, rfl, fun j hj => ⟨rfl, rfl⟩⟩
/-- the reference's costs, laid in rows -/
def mLay (cc : Int → Int → Int) (xc : Int → Int) (w : Int) (col cut : Nat → Int) (a0 b0 : Int) : Prop := (∀ a b : Int, 0 ≤ a → a < b → b ≤ w → (a < a0 ∨ (a = a0 ∧ b < b0)) → col (61 * a + b).toNat = cc a b) ∧ ∀ a : Int, 0 < a → a < w → (a < a0 ∨ (a = a0 ∧ a0 < b0)) → cut a.toNat = xc a
theorem m_lay_in {mp ms pf : Nat → Int} {n a b w a0 : Int} {cut col0 : Nat → Int} {cc : Int → Int → Int} {xc : Int → Int} {K : (Nat → Int) → Option ((Nat → Int) × (Nat → Int) × (Nat → Int) × (Nat → Int))} {Q : Option ((Nat → Int) × (Nat → Int) × (Nat → Int) × (Nat → Int)) → Prop}
    (hcc : ∀ s e : Int, 0 ≤ s → s < e → e ≤ w → f_X6_columnCost ms mp a b pf s e = some (cc s e)) (hw : 0 < w ∧ w ≤ 60) (ha0 : 0 ≤ a0 ∧ a0 < w) (h : mLay cc xc w col0 cut a0 (a0 + 1))
    (hK : ∀ col, mLay cc xc w col cut (a0 + 1) 0 → Q (K col)) : Q (f_X6_reckon_l33 K a0 ms mp a b w pf zN (a0 + 1) col0) := by
  refine mloop (L := fun m i s => f_X6_reckon_l33 K a0 ms mp a b w pf m i s) (Q := Q) (hi := w + 1) (P := fun i col => a0 + 1 ≤ i ∧ mLay cc xc w col cut a0 i) ?_ ?_ zN (a0 + 1) col0 (by omega) (mzN (by omega)) ⟨by omega, h⟩
  · rintro m i col hi ⟨i0, i1⟩
    right
    rw [f_X6_reckon_l33_s]
    simp (disch := omega) only [mlt]
    rw [if_neg (by omega), hcc a0 i (by omega) (by omega) (by omega), mzb, mwr (by omega)]
    refine ⟨_, rfl, by omega, fun s e s0 s1 s2 s3 => ?_, fun s s0 s1 s2 => i1.2 s s0 s1 (by omega)⟩
    by_cases hse : s = a0 ∧ e = i
    · rw [mzu_same (by omega), hse.1, hse.2]
    · rw [mzu_other (by omega)]; exact i1.1 s e s0 s1 s2 (by omega)
  · rintro m col ⟨i0, i1⟩
    rw [f_X6_reckon_l33_s]
    simp (disch := omega) only [mlt]
    rw [if_pos (by omega)]
    exact hK col ⟨fun s e s0 s1 s2 s3 => i1.1 s e s0 s1 s2 (by omega), fun s s0 s1 s2 => i1.2 s s0 s1 (by omega)⟩
theorem m_lay {mp ms pf : Nat → Int} {n a b w : Int} {cut0 col0 : Nat → Int} {cc : Int → Int → Int} {xc : Int → Int} {K : (Nat → Int) → (Nat → Int) → Option ((Nat → Int) × (Nat → Int) × (Nat → Int) × (Nat → Int))} {Q : Option ((Nat → Int) × (Nat → Int) × (Nat → Int) × (Nat → Int)) → Prop}
    (hcc : ∀ s e : Int, 0 ≤ s → s < e → e ≤ w → f_X6_columnCost ms mp a b pf s e = some (cc s e)) (hxc : ∀ c : Int, 0 < c → c < w → f_X6_cutCost ms mp a b pf c = some (xc c)) (hw : 0 < w ∧ w ≤ 60)
    (hK : ∀ col cut, mLay cc xc w col cut w 0 → Q (K col cut)) : Q (f_X6_reckon_l2 K ms mp a b w pf zN 0 col0 cut0) := by
  refine mloop (L := fun m i (s : (Nat → Int) × (Nat → Int)) => f_X6_reckon_l2 K ms mp a b w pf m i s.1 s.2) (Q := Q) (hi := w) (P := fun i s => 0 ≤ i ∧ mLay cc xc w s.1 s.2 i 0) ?_ ?_ zN 0 (col0, cut0) (by omega) (mzN (by omega)) ⟨by omega, fun s e s0 s1 s2 s3 => by omega, fun s s0 s1 s2 => by omega⟩
  · rintro m i ⟨col, cut⟩ hi ⟨i0, i1⟩
    try dsimp only at i1 ⊢
    rw [f_X6_reckon_l2_s]
    simp (disch := omega) only [mlt, f_X6_reckon_j28]
    rw [if_pos hi]
    have key : ∀ v, (0 < i → v = xc i) → (Q (zwr cut 61 i v (fun t_cutCosts_1 => f_X6_reckon_l33 (fun t_columnCosts_7 => f_X6_reckon_l2 K ms mp a b w pf m (i + 1) t_columnCosts_7 t_cutCosts_1) i ms mp a b w pf zN (i + 1) col)) ∨ ∃ s' : (Nat → Int) × (Nat → Int), zwr cut 61 i v (fun t_cutCosts_1 => f_X6_reckon_l33 (fun t_columnCosts_7 => f_X6_reckon_l2 K ms mp a b w pf m (i + 1) t_columnCosts_7 t_cutCosts_1) i ms mp a b w pf zN (i + 1) col) = f_X6_reckon_l2 K ms mp a b w pf m (i + 1) s'.1 s'.2 ∧ 0 ≤ i + 1 ∧ mLay cc xc w s'.1 s'.2 (i + 1) 0) := by
      intro v hv
      rw [mwr (by omega)]
      refine m_lay_in (n := n) (cut := zu cut i v) (col0 := col) (Q := fun r => Q r ∨ ∃ s' : (Nat → Int) × (Nat → Int), r = f_X6_reckon_l2 K ms mp a b w pf m (i + 1) s'.1 s'.2 ∧ 0 ≤ i + 1 ∧ mLay cc xc w s'.1 s'.2 (i + 1) 0) hcc hw ⟨i0, hi⟩ ⟨fun s e s0 s1 s2 s3 => i1.1 s e s0 s1 s2 (by omega), fun s s0 s1 s2 => ?_⟩ (fun col' h => Or.inr ⟨(col', zu cut i v), rfl, by omega, h⟩)
      by_cases hs : s = i
      · rw [mzu_same (by omega), hs]; exact hv (by omega)
      · rw [mzu_other (by omega)]; exact i1.2 s s0 s1 (by omega)
    by_cases h0 : 0 < i
    · rw [if_pos h0, hxc i h0 hi, mzb]; exact key _ (fun _ => rfl)
    · rw [if_neg h0]; exact key _ (fun h => absurd h h0)
  · rintro m ⟨col, cut⟩ ⟨i0, i1⟩
    try dsimp only at i1 ⊢
    rw [f_X6_reckon_l2_s]
    simp (disch := omega) only [mlt]
    rw [if_neg (by omega)]
    exact hK col cut i1
/-- what the reference's rows hold for place c with k columns left -/
def mRm (cc : Int → Int → Int) (xc : Int → Int) (w : Int) (ls ot : Nat → Int) (k : Nat) (c : Int) : Prop := (ls (9 * c + (k : Int)).toNat, ot (9 * c + (k : Int)).toNat) = mF cc xc w k c
theorem m_reckon_d {cc : Int → Int → Int} {xc : Int → Int} {w c : Int} {k : Nat} {col cut ls0 ot0 : Nat → Int} {K : (Nat → Int) → (Nat → Int) → Option ((Nat → Int) × (Nat → Int) × (Nat → Int) × (Nat → Int))} {Q : Option ((Nat → Int) × (Nat → Int) × (Nat → Int) × (Nat → Int)) → Prop} (hcs : mCs cc xc w) (hl : mLay cc xc w col cut w 0) (hc : 0 ≤ c ∧ c ≤ w) (hk : k ≤ 8)
    (h1 : ∀ k' : Nat, k' ≤ 8 → ∀ d : Int, c < d → d ≤ w → mRm cc xc w ls0 ot0 k' d)
    (hK : ∀ ls ot, mRm cc xc w ls ot k c → (∀ j : Nat, j ≠ (9 * c + (k : Int)).toNat → ls j = ls0 j ∧ ot j = ot0 j) → Q (K ls ot)) : Q (f_X6_reckon_l131 K c (k : Int) (9 * c + (k : Int)) w col cut zN (c + 1) (zu ls0 (9 * c + (k : Int)) (if c = w ∧ k = 0 then 0 else 1000000)) (zu ot0 (9 * c + (k : Int)) 1000000)) := by
  have hw := hcs.1
  cases k with
  | zero =>
    have hex : f_X6_reckon_l131 K c ((0 : Nat) : Int) (9 * c + ((0 : Nat) : Int)) w col cut zN (c + 1) (zu ls0 (9 * c + ((0 : Nat) : Int)) (if c = w ∧ 0 = 0 then 0 else 1000000)) (zu ot0 (9 * c + ((0 : Nat) : Int)) 1000000) = K (zu ls0 (9 * c + ((0 : Nat) : Int)) (if c = w ∧ 0 = 0 then 0 else 1000000)) (zu ot0 (9 * c + ((0 : Nat) : Int)) 1000000) := by
      rw [zN_s, f_X6_reckon_l131_s]
      simp (disch := omega) only [mlt]
      by_cases e : w < c + 1
      · rw [if_pos e]
      · rw [if_neg e, if_neg (by omega)]
    rw [hex]
    refine hK _ _ ?_ (fun j hj => ⟨mzu_other hj, mzu_other hj⟩)
    unfold mRm
    rw [mzu_same rfl, mzu_same rfl]
    show _ = (if c = w then (0 : Int) else 1000000, (1000000 : Int))
    by_cases e : c = w
    · rw [if_pos ⟨e, rfl⟩, if_pos e]
    · rw [if_neg (fun q => e q.1), if_neg e]
  | succ k =>
    generalize hat : 9 * c + ((k + 1 : Nat) : Int) = at_ at hK
    have hatr : 0 ≤ at_ ∧ at_ < 549 := by omega
    have hpr := mF_pr hcs k (by omega)
    have hwr : ∀ d : Int, c < d → d ≤ w → 0 ≤ mWy cc xc w c d ∧ mWy cc xc w c d ≤ 5000 := fun d a b => mWy_r hcs hc.1 ⟨a, b⟩
    rw [if_neg (by omega)]
    refine mloop (L := fun m i (s : (Nat → Int) × (Nat → Int)) => f_X6_reckon_l131 K c ((k + 1 : Nat) : Int) at_ w col cut m i s.1 s.2) (Q := Q) (hi := w + 1) (P := fun i s => c + 1 ≤ i ∧ (s.1 at_.toNat, s.2 at_.toNat) = mFd (mF cc xc w k) (mWy cc xc w c) c (i - c - 1).toNat ∧ ∀ j : Nat, j ≠ at_.toNat → s.1 j = ls0 j ∧ s.2 j = ot0 j) ?_ ?_ zN (c + 1) (zu ls0 at_ 1000000, zu ot0 at_ 1000000) (by omega) (mzN (by omega)) ⟨by omega, ?_, fun j hj => ⟨mzu_other hj, mzu_other hj⟩⟩
    · rintro m i ⟨ls, ot⟩ hi ⟨i0, i1, i2⟩
      right
      try dsimp only at i1 i2 ⊢
      have hrow := h1 k (by omega) i (by omega) (by omega)
      unfold mRm at hrow
      have hne : (9 * i + (k : Int)).toNat ≠ at_.toNat := by omega
      have hpi := hpr i (by omega) (by omega)
      rw [← hrow] at hpi
      obtain ⟨p1, p2, p3⟩ := hpi
      try dsimp only at p1 p2 p3
      have hwi := hwr i (by omega) (by omega)
      have hp2 : mPr (5000 * (k : Int) + 5000) (ls at_.toNat, ot at_.toNat) := by
        rw [i1]
        exact mFd_pr (by omega) (by omega) _ (fun j hj => hpr _ (by omega) (by omega)) (fun j hj => hwr _ (by omega) (by omega))
      have hnext : mFd (mF cc xc w k) (mWy cc xc w c) c (i + 1 - c - 1).toNat = mTkr (mF cc xc w k i).2 (mWy cc xc w c i) (mTkr (mF cc xc w k i).1 (mWy cc xc w c i) (ls at_.toNat, ot at_.toNat)) := by
        rw [show (i + 1 - c - 1).toNat = (i - c - 1).toNat + 1 by omega]
        show mTkr (mF cc xc w k (c + 1 + (((i - c - 1).toNat : Nat) : Int))).2 (mWy cc xc w c (c + 1 + (((i - c - 1).toNat : Nat) : Int))) (mTkr (mF cc xc w k (c + 1 + (((i - c - 1).toNat : Nat) : Int))).1 (mWy cc xc w c (c + 1 + (((i - c - 1).toNat : Nat) : Int))) (mFd (mF cc xc w k) (mWy cc xc w c) c (i - c - 1).toNat)) = _
        rw [show c + 1 + (((i - c - 1).toNat : Nat) : Int) = i by omega, ← i1]
      have hp3 : mPr (5000 * (k : Int) + 5000) (mTkr (ls0 (9 * i + (k : Int)).toNat) (mWy cc xc w c i) (ls at_.toNat, ot at_.toNat)) := mPr_tkr hp2 (by omega) (by omega)
      obtain ⟨s1, s2, s3⟩ := hp2
      try dsimp only at s1 s2 s3
      have hx : mWy cc xc w c i = cc c i + (if i < w then xc i else 0) := rfl
      have hcol := hl.1 c i (by omega) (by omega) (by omega) (by omega)
      -- the step with its way, whichever branch
      have key : ∀ way, way = mWy cc xc w c i → ∃ s' : (Nat → Int) × (Nat → Int), (zrd ls 549 (9 * i + ((k + 1 : Nat) : Int) - 1) fun a_18 => zb (f_X6_take ls ot at_ a_18 way) fun o_20 => zrd o_20.2 549 (9 * i + ((k + 1 : Nat) : Int) - 1) fun a_22 => zb (f_X6_take o_20.1 o_20.2 at_ a_22 way) fun o_24 => f_X6_reckon_l131 K c ((k + 1 : Nat) : Int) at_ w col cut m (i + 1) o_24.1 o_24.2) = f_X6_reckon_l131 K c ((k + 1 : Nat) : Int) at_ w col cut m (i + 1) s'.1 s'.2 ∧ c + 1 ≤ i + 1 ∧ (s'.1 at_.toNat, s'.2 at_.toNat) = mFd (mF cc xc w k) (mWy cc xc w c) c (i + 1 - c - 1).toNat ∧ ∀ j : Nat, j ≠ at_.toNat → s'.1 j = ls0 j ∧ s'.2 j = ot0 j := by
        intro way hway
        subst hway
        rw [show 9 * i + ((k + 1 : Nat) : Int) - 1 = 9 * i + (k : Int) by omega, mrd (by omega), (i2 _ hne).1]
        obtain ⟨ls1, ot1, e1, t1, u1⟩ := m_take (ls := ls) (ot := ot) (at_ := at_) (rest := ls0 (9 * i + (k : Int)).toNat) (way := mWy cc xc w c i) hatr (by omega) hwi (by omega) (by omega)
        rw [e1, mzb, mrd (by omega)]
        dsimp only
        rw [(u1 _ hne).2, (i2 _ hne).2]
        rw [← t1] at hp3
        obtain ⟨v1, v2, v3⟩ := hp3
        try dsimp only at v1 v2 v3
        obtain ⟨ls2, ot2, e2, t2, u2⟩ := m_take (ls := ls1) (ot := ot1) (at_ := at_) (rest := ot0 (9 * i + (k : Int)).toNat) (way := mWy cc xc w c i) hatr (by omega) hwi (by omega) (by omega)
        rw [e2, mzb]
        refine ⟨(ls2, ot2), rfl, ?_⟩
        dsimp only
        refine ⟨by omega, ?_, fun j hj => ⟨((u2 j hj).1.trans (u1 j hj).1).trans (i2 j hj).1, ((u2 j hj).2.trans (u1 j hj).2).trans (i2 j hj).2⟩⟩
        rw [hnext, t2, t1, ← hrow]
      rw [f_X6_reckon_l131_s]
      simp (disch := omega) only [mlt, f_X6_reckon_j176]
      rw [if_neg (by omega), if_pos (by omega), mrd (by omega), hcol]
      by_cases e : i < w
      · rw [if_pos e, mrd (by omega), hl.2 i (by omega) e (by omega)]
        exact key _ (by rw [hx, if_pos e])
      · rw [if_neg e]
        exact key _ (by rw [hx, if_neg e])
    · rintro m ⟨ls, ot⟩ ⟨i0, i1, i2⟩
      try dsimp only at i1 i2 ⊢
      rw [f_X6_reckon_l131_s]
      simp (disch := omega) only [mlt]
      rw [if_pos (by omega)]
      refine hK ls ot ?_ i2
      unfold mRm
      rw [hat, i1, show (w + 1 - c - 1).toNat = (w - c).toNat by omega]
      rfl
    · dsimp only
      rw [mzu_same rfl, mzu_same rfl, show (c + 1 - c - 1).toNat = 0 by omega]
      rfl
