/-! the rows of a block as the reference reads them -/
theorem m_joinLine {mp ms ct : Nat → Int} {n x tlg : Int} {row cols : Nat} {T : Nat → List Int} {tb tl : Nat → Int} (hg : mGood mp ms n) (hx : 0 ≤ x ∧ x < n) (hct : mCts ct cols) (hrow : row ≤ 41) (hT : mTb T tb tl) :
    ∃ tb' tl', f_X6_joinLine ms mp (cols : Int) ct tl tb tlg (row : Int) x = some (tl', tb', if (mLn (mB mp ms) ct x row T cols).2 = 1 then 1 else tlg) ∧ mTb (mLn (mB mp ms) ct x row T cols).1 tb' tl' := by
  have hc8 := hct.1
  unfold f_X6_joinLine
  refine mloop (L := fun m i (q : (Nat → Int) × (Nat → Int) × Int) => f_X6_joinLine_l2 (fun a b c => some (a, b, c)) (row : Int) x ms mp (cols : Int) ct m i q.1 q.2.1 q.2.2) (Q := fun r => ∃ tb' tl', r = some (tl', tb', if (mLn (mB mp ms) ct x row T cols).2 = 1 then 1 else tlg) ∧ mTb (mLn (mB mp ms) ct x row T cols).1 tb' tl') (hi := (cols : Int)) (P := fun i q => 0 ≤ i ∧ mTb (mLn (mB mp ms) ct x row T i.toNat).1 q.2.1 q.1 ∧ q.2.2 = if (mLn (mB mp ms) ct x row T i.toNat).2 = 1 then 1 else tlg) ?_ ?_ zN 0 (tl, tb, tlg) (by omega) (mzN (by omega)) ⟨by omega, hT, rfl⟩
  · rintro m i ⟨l0, b0, t0⟩ hi ⟨i0, i1, i2⟩
    right
    try dsimp only at i1 i2 ⊢
    obtain ⟨c, rfl⟩ : ∃ c : Nat, i = (c : Int) := ⟨i.toNat, by omega⟩
    rw [show ((c : Int)).toNat = c by omega] at i1 i2
    obtain ⟨k1, k2, k3⟩ := hct.2.2 c (by omega)
    rw [f_X6_joinLine_l2_s]
    simp (disch := omega) only [mlt]
    rw [if_pos hi]
    obtain ⟨b1, l1, e, h⟩ := m_joinM (row := (row : Int)) (c := (c : Int)) (s := ct c) (t := ct (c + 1)) (ct := ct) (tlg := t0) hg hx ⟨k1, by omega, k3⟩ (by omega) (by omega) ⟨by rw [show ((c : Int)).toNat = c by omega], by rw [show ((c : Int) + 1).toNat = c + 1 by omega]⟩ i1
    rw [show (8 * (row : Int) + (c : Int)).toNat = 8 * row + c by omega] at e h
    rw [e, mzb]
    refine ⟨(l1, b1, _), rfl, by omega, ?_⟩
    dsimp only
    rw [show ((c : Int) + 1).toNat = c + 1 by omega]
    refine ⟨h, ?_⟩
    have hu : (mLn (mB mp ms) ct x row T (c + 1)).2 = if (mLn (mB mp ms) ct x row T c).2 = 1 ∨ (mJn (mLn (mB mp ms) ct x row T c).1 (8 * row + c) (mPc (mB mp ms) x (ct c) (ct (c + 1)))).2 = 1 then 1 else 0 := rfl
    rw [hu, i2]
    by_cases e1 : (mJn (mLn (mB mp ms) ct x row T c).1 (8 * row + c) (mPc (mB mp ms) x (ct c) (ct (c + 1)))).2 = 1
    · rw [if_pos e1, if_pos (Or.inr e1), if_pos rfl]
    · rw [if_neg e1]
      by_cases e2 : (mLn (mB mp ms) ct x row T c).2 = 1
      · rw [if_pos e2, if_pos (Or.inl e2), if_pos rfl]
      · rw [if_neg e2, if_neg (show ¬ ((mLn (mB mp ms) ct x row T c).2 = 1 ∨ (mJn (mLn (mB mp ms) ct x row T c).1 (8 * row + c) (mPc (mB mp ms) x (ct c) (ct (c + 1)))).2 = 1) from fun q => q.elim e2 e1), if_neg (by decide)]
  · rintro m ⟨l0, b0, t0⟩ ⟨i0, i1, i2⟩
    try dsimp only at i1 i2 ⊢
    rw [f_X6_joinLine_l2_s]
    simp (disch := omega) only [mlt]
    rw [if_neg (by omega)]
    rw [show ((cols : Int)).toNat = cols by omega] at i1 i2
    exact ⟨b0, l0, by rw [i2], i1⟩
theorem m_isEmpty {mp ms ct : Nat → Int} {n x : Int} {cols : Nat} (hg : mGood mp ms n) (hx : 0 ≤ x ∧ x < n) (hct : mCts ct cols) : f_X6_isEmptyCell ms mp ct x 0 = some (if mPf (mB mp ms) x 0 (ct 1) < ct 1 then 0 else 1) := by
  have hc8 := hct.1
  obtain ⟨k1, k2, k3⟩ : 0 ≤ ct 0 ∧ ct 0 < ct 1 ∧ ct 1 ≤ 60 := hct.2.2 0 (by omega)
  have hc0 := hct.2.1
  unfold f_X6_isEmptyCell
  rw [mrd (by omega), show ct (0 : Int).toNat = 0 from hc0]
  have hdef : mPf (mB mp ms) x 0 (ct 1) = mFi (mik (mB mp ms) x) 0 (ct 1 - 0).toNat := rfl
  have hpf := mPf_r (B := mB mp ms) (x := x) (s := 0) (t := ct 1) (by omega)
  refine mloop (L := fun m i v => f_X6_isEmptyCell_l10 (fun v => zch v (some v)) x 0 ms mp ct m v i) (Q := fun r => r = some (if mPf (mB mp ms) x 0 (ct 1) < ct 1 then 0 else 1)) (hi := ct 1) (P := fun i v => 0 ≤ i ∧ ((v = 1 ∧ mFi (mik (mB mp ms) x) i (ct 1 - i).toNat = mPf (mB mp ms) x 0 (ct 1)) ∨ (v = 0 ∧ mPf (mB mp ms) x 0 (ct 1) < ct 1))) ?_ ?_ zN 0 1 (by omega) (mzN (by omega)) ⟨by omega, Or.inl ⟨rfl, hdef.symm⟩⟩
  · rintro m i v hi ⟨i0, i1⟩
    right
    have hb := mik_b (mB mp ms) x i
    rw [f_X6_isEmptyCell_l10_s, mrd (by omega), show ct ((0 : Int) + 1).toNat = ct 1 from rfl, m_blankM2 hg hx (by omega)]
    simp (disch := omega) only [mlt, meq, mzb, f_X6_isEmptyCell_j41, f_X6_isEmptyCell_j42]
    rw [if_pos hi]
    rcases i1 with ⟨rfl, i2⟩ | ⟨rfl, i2⟩
    · rw [if_neg (by decide)]
      rw [show (ct 1 - i).toNat = (ct 1 - (i + 1)).toNat + 1 by omega] at i2
      unfold mFi at i2
      rcases hb with hb | hb
      · rw [if_neg (by omega)]
        rw [if_neg (by omega)] at i2
        exact ⟨1, rfl, by omega, Or.inl ⟨rfl, i2⟩⟩
      · rw [if_pos (by omega)]
        rw [if_pos hb] at i2
        exact ⟨0, rfl, by omega, Or.inr ⟨rfl, by omega⟩⟩
    · rw [if_pos rfl]
      exact ⟨0, rfl, by omega, Or.inr ⟨rfl, i2⟩⟩
  · rintro m v ⟨i0, i1⟩
    rw [f_X6_isEmptyCell_l10_s, mrd (by omega), show ct ((0 : Int) + 1).toNat = ct 1 from rfl]
    simp (disch := omega) only [mlt]
    rw [if_neg (by omega)]
    rcases i1 with ⟨rfl, i2⟩ | ⟨rfl, i2⟩
    · rw [show (ct 1 - ct 1).toNat = 0 by omega] at i2
      have : mPf (mB mp ms) x 0 (ct 1) = ct 1 := i2.symm
      rw [mch (Or.inr rfl), if_neg (by omega)]
    · rw [mch (Or.inl rfl), if_pos i2]
theorem m_plainsIn {kd : Int → Int} {a b f t : Int} {pf : Nat → Int} (hm : mMk kd a b pf) (ha : 0 ≤ a ∧ b < 24) (hf : a ≤ f ∧ f ≤ t + 1 ∧ t ≤ b) : f_X6_plainsIn pf f t = some ((mLs kd f (t + 1 - f).toNat).length : Int) := by
  unfold f_X6_plainsIn
  refine mloop (L := fun m i v => f_X6_plainsIn_l5 (fun v => some v) t pf m v i) (Q := fun r => r = some ((mLs kd f (t + 1 - f).toNat).length : Int)) (hi := t + 1) (P := fun i v => f ≤ i ∧ v = ((mLs kd f (i - f).toNat).length : Int)) ?_ ?_ zN f 0 (by omega) (mzN (by omega)) ⟨by omega, by rw [show (f - f).toNat = 0 by omega]; rfl⟩
  · rintro m i v hi ⟨i0, i1⟩
    right
    have hpf := hm i (by omega) (by omega)
    have ei : f + (((i - f).toNat : Nat) : Int) = i := by omega
    have en : (i + 1 - f).toNat = (i - f).toNat + 1 := by omega
    rw [f_X6_plainsIn_l5_s, mrd (by omega), hpf]
    by_cases k2 : kd i = 2
    · simp only [if_pos k2]
      simp (disch := omega) only [mlt, meq, f_X6_plainsIn_j27]
      rw [if_neg (by omega), if_neg (by decide)]
      refine ⟨v + 1, rfl, by omega, ?_⟩
      rw [en, mLs_2 (by rw [ei]; exact k2), List.length_append, i1]
      simp
    · simp only [if_neg k2]
      simp (disch := omega) only [mlt, meq, f_X6_plainsIn_j27]
      rw [if_neg (by omega), if_pos trivial]
      refine ⟨v + 0, rfl, by omega, ?_⟩
      rw [en, mLs_n (by rw [ei]; exact k2), i1]
      omega
  · rintro m v ⟨i0, i1⟩
    rw [f_X6_plainsIn_l5_s]
    simp (disch := omega) only [mlt]
    rw [if_pos (by omega), i1]
theorem m_j265 (rec : Int → (Nat → Int) → (Nat → Int) → Int → Int → Int → Option (Int × (Nat → Int) × (Nat → Int) × Int × Int × Int × Int × Int)) (v5 : Int) (ms mp : Nat → Int) (cols : Int) (ct l0 b0 : Nat → Int) (rows j t : Int) : f_X6_readRows_j265 rec v5 ms mp cols ct l0 b0 rows j t = zb (f_X6_joinLine ms mp cols ct l0 b0 t (rows + 1) v5) fun o => rec (v5 + 1) o.1 o.2.1 (rows + 1) (j + 0) o.2.2 := rfl
theorem m_j270 (rec : Int → (Nat → Int) → (Nat → Int) → Int → Int → Int → Option (Int × (Nat → Int) × (Nat → Int) × Int × Int × Int × Int × Int)) (v5 : Int) (ms mp : Nat → Int) (cols : Int) (ct l0 b0 : Nat → Int) (rows j t : Int) : f_X6_readRows_j270 rec 0 v5 ms mp cols ct l0 b0 rows j t = zb (f_X6_joinLine ms mp cols ct l0 b0 t (rows + 0) v5) fun o => rec (v5 + 1) o.1 o.2.1 (rows + 0) (j + 1) o.2.2 := rfl
theorem m_rowsM_l {mp ms ct pf : Nat → Int} {n a b v1 v2 v3 v4 : Int} {cols : Nat} {tb0 tl0 : Nat → Int} {K : (Nat → Int) → (Nat → Int) → Int → Int → Int → Option (Int × (Nat → Int) × (Nat → Int) × Int × Int × Int × Int × Int)} {Q : Option (Int × (Nat → Int) × (Nat → Int) × Int × Int × Int × Int × Int) → Prop} (hg : mGood mp ms n) (ha : 0 ≤ a ∧ a ≤ b ∧ b < n) (hct : mCts ct cols)
    (hm : mMk (fun x => mkd (mB mp ms x) (ms x.toNat)) a b pf) (h1 : -100 ≤ v1 ∧ v1 ≤ 100) (h2 : -100 ≤ v2 ∧ v2 ≤ 100) (h3 : v3 = 0 ∨ v3 = 1) (h4 : v4 = 0 ∨ v4 = 1) (hT0 : mTb (fun _ => []) tb0 tl0)
    (hK : ∀ tb tl, mTb (mAll (mB mp ms) ct cols (mHd v3 v1) (mFt v4 v2) (mLs (fun x => mkd (mB mp ms x) (ms x.toNat)) a (b + 1 - a).toNat)).1 tb tl → Q (K tl tb ((mAll (mB mp ms) ct cols (mHd v3 v1) (mFt v4 v2) (mLs (fun x => mkd (mB mp ms x) (ms x.toNat)) a (b + 1 - a).toNat)).2.1 : Int) (mAll (mB mp ms) ct cols (mHd v3 v1) (mFt v4 v2) (mLs (fun x => mkd (mB mp ms x) (ms x.toNat)) a (b + 1 - a).toNat)).2.2.1 (mAll (mB mp ms) ct cols (mHd v3 v1) (mFt v4 v2) (mLs (fun x => mkd (mB mp ms x) (ms x.toNat)) a (b + 1 - a).toNat)).2.2.2)) :
    Q (f_X6_readRows_l184 K v1 v2 v3 v4 ms mp b pf (cols : Int) ct zN a tl0 tb0 0 0 0) := by
  have hn := hg.1
  generalize hkd : (fun x => mkd (mB mp ms x) (ms x.toNat)) = kd at hm hK
  refine mloop (L := fun m i (q : (Nat → Int) × (Nat → Int) × Int × Int × Int) => f_X6_readRows_l184 K v1 v2 v3 v4 ms mp b pf (cols : Int) ct m i q.1 q.2.1 q.2.2.1 q.2.2.2.1 q.2.2.2.2) (Q := Q) (hi := b + 1) (P := fun i q => a ≤ i ∧ mTb (mAll (mB mp ms) ct cols (mHd v3 v1) (mFt v4 v2) (mLs kd a (i - a).toNat)).1 q.2.1 q.1 ∧ q.2.2.1 = ((mAll (mB mp ms) ct cols (mHd v3 v1) (mFt v4 v2) (mLs kd a (i - a).toNat)).2.1 : Int) ∧ q.2.2.2.1 = (mAll (mB mp ms) ct cols (mHd v3 v1) (mFt v4 v2) (mLs kd a (i - a).toNat)).2.2.1 ∧ q.2.2.2.2 = (mAll (mB mp ms) ct cols (mHd v3 v1) (mFt v4 v2) (mLs kd a (i - a).toNat)).2.2.2) ?_ ?_ zN a (tl0, tb0, 0, 0, 0) (by omega) (mzN (by omega)) ⟨by omega, ?_⟩
  · rintro m i ⟨l0, b0, rows, jl, tg⟩ hi ⟨i0, i1, i2, i3, i4⟩
    right
    try dsimp only at i1 i2 i3 i4 ⊢
    have hpf := hm i i0 (by omega)
    have ei : a + (((i - a).toNat : Nat) : Int) = i := by omega
    have en : (i + 1 - a).toNat = (i - a).toNat + 1 := by omega
    have hlen := mLs_len kd a (i - a).toNat
    by_cases k2 : kd i = 2
    · have el : mLs kd a (i + 1 - a).toNat = mLs kd a (i - a).toNat ++ [i] := by rw [en, mLs_2 (by rw [ei]; exact k2), ei]
      rw [if_pos k2] at hpf
      obtain ⟨r1, r2, r3, r4⟩ := mAll_rows (mB mp ms) ct cols (mHd v3 v1) (mFt v4 v2) (mLs kd a (i - a).toNat)
      rw [el, mAll_app]
      generalize hS : mAll (mB mp ms) ct cols (mHd v3 v1) (mFt v4 v2) (mLs kd a (i - a).toNat) = S at i1 i2 i3 i4 r1 r2 r3 r4
      subst i2 i3 i4
      -- one line joined to a row, whichever
      have key : ∀ (row rows' : Nat) (dj : Int), mRow1 (mB mp ms) ct (mHd v3 v1) (mFt v4 v2) i S.2.1 = (row, rows', dj) → row ≤ 41 → ∃ s' : (Nat → Int) × (Nat → Int) × Int × Int × Int, (zb (f_X6_joinLine ms mp (cols : Int) ct l0 b0 S.2.2.2 (row : Int) i) fun o => f_X6_readRows_l184 K v1 v2 v3 v4 ms mp b pf (cols : Int) ct m (i + 1) o.1 o.2.1 (rows' : Int) (S.2.2.1 + dj) o.2.2) = f_X6_readRows_l184 K v1 v2 v3 v4 ms mp b pf (cols : Int) ct m (i + 1) s'.1 s'.2.1 s'.2.2.1 s'.2.2.2.1 s'.2.2.2.2 ∧ a ≤ i + 1 ∧ mTb (mLl (mB mp ms) ct cols (mHd v3 v1) (mFt v4 v2) S i).1 s'.2.1 s'.1 ∧ s'.2.2.1 = ((mLl (mB mp ms) ct cols (mHd v3 v1) (mFt v4 v2) S i).2.1 : Int) ∧ s'.2.2.2.1 = (mLl (mB mp ms) ct cols (mHd v3 v1) (mFt v4 v2) S i).2.2.1 ∧ s'.2.2.2.2 = (mLl (mB mp ms) ct cols (mHd v3 v1) (mFt v4 v2) S i).2.2.2 := by
        intro row rows' dj hrow h41
        obtain ⟨tb', tl', e, h⟩ := m_joinLine (tlg := S.2.2.2) hg (show 0 ≤ i ∧ i < n by omega) hct h41 i1
        rw [e, mzb]
        refine ⟨(tl', tb', (rows' : Int), S.2.2.1 + dj, _), rfl, by omega, ?_⟩
        unfold mLl
        rw [hrow]
        dsimp only
        refine ⟨h, rfl, rfl, ?_⟩
        by_cases e1 : (mLn (mB mp ms) ct i row S.1 cols).2 = 1
        · rw [if_pos e1, if_pos (Or.inr e1)]
        · rw [if_neg e1]
          rcases r4 with r4 | r4
          · rw [r4, if_neg (fun q => q.elim (by decide) e1)]
          · rw [r4, if_pos (Or.inl rfl)]
      have hE := m_isEmpty (x := i) hg (show 0 ≤ i ∧ i < n by omega) hct
      rw [f_X6_readRows_l184_s, mrd (by omega), hpf]
      simp (disch := omega) only [mlt, meq]
      rw [if_neg (show ¬ b < i by omega), if_neg (show ¬ (1 : Int) = 0 by decide)]
      by_cases hh : mHd v3 v1 i
      · obtain ⟨e1, e2⟩ := hh
        rw [if_neg (show ¬ v3 = 0 by omega), if_pos e2]
        have := key 0 S.2.1 0 (by unfold mRow1; rw [if_pos ⟨e1, e2⟩]) (by omega)
        rw [show S.2.2.1 + 0 = S.2.2.1 by omega] at this
        exact this
      · have hbody : ∀ X Y : Option (Int × (Nat → Int) × (Nat → Int) × Int × Int × Int × Int × Int), (if v3 = 0 then X else if i < v1 then Y else X) = X := by
          intro X Y
          by_cases e0 : v3 = 0
          · rw [if_pos e0]
          · rw [if_neg e0, if_neg (fun q => hh ⟨by omega, q⟩)]
        rw [hbody]
        rw [f_X6_readRows_j226]
        simp (disch := omega) only [mlt, meq]
        by_cases hf : mFt v4 v2 i
        · obtain ⟨e1, e2⟩ := hf
          rw [if_neg (show ¬ v4 = 0 by omega), if_pos e2]
          have := key 41 S.2.1 0 (by unfold mRow1; rw [if_neg hh, if_pos ⟨e1, e2⟩]) (by omega)
          rw [show S.2.2.1 + 0 = S.2.2.1 by omega] at this
          exact this
        · have hbody2 : ∀ X Y : Option (Int × (Nat → Int) × (Nat → Int) × Int × Int × Int × Int × Int), (if v4 = 0 then X else if v2 < i then Y else X) = X := by
            intro X Y
            by_cases e0 : v4 = 0
            · rw [if_pos e0]
            · rw [if_neg e0, if_neg (fun q => hf ⟨by omega, q⟩)]
          rw [hbody2]
          rw [f_X6_readRows_j248]
          simp (disch := omega) only [mlt, meq]
          by_cases hr0 : (S.2.1 : Int) = 0
          · rw [if_pos hr0, m_j265]
            have := key (S.2.1 + 1) (S.2.1 + 1) 0 (by unfold mRow1; rw [if_neg hh, if_neg hf, if_pos (Or.inl (by omega))]) (by omega)
            rw [show ((S.2.1 + 1 : Nat) : Int) = (S.2.1 : Int) + 1 by omega] at this
            exact this
          · rw [if_neg hr0, hE]
            simp (disch := omega) only [mzb]
            by_cases hp : mPf (mB mp ms) i 0 (ct 1) < ct 1
            · rw [if_pos hp]
              rw [if_pos (show zI 0 = zI 0 from rfl), m_j265]
              have := key (S.2.1 + 1) (S.2.1 + 1) 0 (by unfold mRow1; rw [if_neg hh, if_neg hf, if_pos (Or.inr hp)]) (by omega)
              rw [show ((S.2.1 + 1 : Nat) : Int) = (S.2.1 : Int) + 1 by omega] at this
              exact this
            · rw [if_neg hp]
              rw [if_neg (show ¬ zI 1 = zI 0 by decide), m_j270, show (S.2.1 : Int) + 0 = (S.2.1 : Int) by omega]
              have := key S.2.1 S.2.1 1 (by unfold mRow1; rw [if_neg hh, if_neg hf, if_neg (by omega)]) (by omega)
              exact this
    · have el : mLs kd a (i + 1 - a).toNat = mLs kd a (i - a).toNat := by rw [en, mLs_n (by rw [ei]; exact k2)]
      rw [if_neg k2] at hpf
      rw [el]
      refine ⟨(l0, b0, rows, jl, tg), ?_, by omega, i1, i2, i3, i4⟩
      rw [f_X6_readRows_l184_s, mrd (by omega), hpf]
      simp (disch := omega) only [mlt]
      rw [if_neg (by omega), if_pos trivial]
  · rintro m ⟨l0, b0, rows, jl, tg⟩ ⟨i0, i1, i2, i3, i4⟩
    try dsimp only at i1 i2 i3 i4 ⊢
    rw [f_X6_readRows_l184_s]
    simp (disch := omega) only [mlt]
    rw [if_pos (by omega), i2, i3, i4]
    exact hK b0 l0 i1
  · rw [show (a - a).toNat = 0 by omega]
    exact ⟨hT0, rfl, rfl, rfl⟩
