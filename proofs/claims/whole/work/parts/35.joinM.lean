/-! one more piece of a line joined to a cell (the reference) -/
theorem m_firstM {mp ms : Nat → Int} {n x s t : Int} {K : Int → Option ((Nat → Int) × (Nat → Int) × Int)} (hg : mGood mp ms n) (hx : 0 ≤ x ∧ x < n) (hs : 0 ≤ s ∧ s ≤ t ∧ t ≤ 60) : f_X6_join_l18 K x t ms mp zN s = K (mPf (mB mp ms) x s t) := by
  refine mloop (L := fun m i (_ : Unit) => f_X6_join_l18 K x t ms mp m i) (Q := fun r => r = K (mPf (mB mp ms) x s t)) (hi := t) (P := fun i _ => s ≤ i ∧ mFi (mik (mB mp ms) x) i (t - i).toNat = mPf (mB mp ms) x s t) ?_ ?_ zN s () (by omega) (mzN (by omega)) ⟨by omega, rfl⟩
  · rintro m i _ hi ⟨i0, i1⟩
    rw [f_X6_join_l18_s, m_blankM2 hg hx (by omega), mzb]
    have hb := mik_b (mB mp ms) x i
    simp (disch := omega) only [mlt, meq]
    rw [if_pos hi]
    rw [show (t - i).toNat = (t - (i + 1)).toNat + 1 by omega] at i1
    unfold mFi at i1
    rcases hb with hb | hb
    · rw [if_neg (by omega)]
      rw [if_neg (by omega)] at i1
      exact Or.inr ⟨(), rfl, by omega, i1⟩
    · rw [if_pos (by omega)]
      rw [if_pos hb] at i1
      exact Or.inl (by rw [i1])
  · rintro m _ ⟨i0, i1⟩
    rw [f_X6_join_l18_s]
    simp (disch := omega) only [mlt]
    rw [if_neg (by omega)]
    rw [show (t - t).toNat = 0 by omega] at i1
    rw [← i1]
    rfl
theorem m_lastM {mp ms : Nat → Int} {n x s t : Int} {K : Int → Option ((Nat → Int) × (Nat → Int) × Int)} (hg : mGood mp ms n) (hx : 0 ≤ x ∧ x < n) (hs : 0 ≤ s ∧ s ≤ t ∧ t ≤ 60) : f_X6_join_l41 K x (mPf (mB mp ms) x s t) ms mp zN t = K (mPe (mB mp ms) x s t) := by
  have hf := mPf_r (B := mB mp ms) (x := x) (s := s) (t := t) (by omega)
  have hpe : mPe (mB mp ms) x s t = mLa (mik (mB mp ms) x) t (t - mPf (mB mp ms) x s t).toNat := rfl
  generalize mPf (mB mp ms) x s t = f at hf hpe
  refine mloopD (L := fun m i (_ : Unit) => f_X6_join_l41 K x f ms mp m i) (Q := fun r => r = K (mPe (mB mp ms) x s t)) (lo := f + 1) (P := fun i _ => i ≤ t ∧ mLa (mik (mB mp ms) x) i (i - f).toNat = mPe (mB mp ms) x s t) ?_ ?_ zN t () (by omega) (mzN (by omega)) ⟨by omega, hpe.symm⟩
  · rintro m i _ hi ⟨i0, i1⟩
    rw [f_X6_join_l41_s, m_blankM2 hg hx (by omega), mzb]
    have hb := mik_b (mB mp ms) x (i - 1)
    simp (disch := omega) only [mlt, meq]
    rw [if_pos (by omega)]
    rw [show (i - f).toNat = (i - 1 - f).toNat + 1 by omega] at i1
    unfold mLa at i1
    rcases hb with hb | hb
    · rw [if_neg (by omega)]
      rw [if_neg (by omega)] at i1
      exact Or.inr ⟨(), rfl, by omega, i1⟩
    · rw [if_pos (by omega)]
      rw [if_pos hb] at i1
      exact Or.inl (by rw [i1])
  · rintro m _ ⟨i0, i1⟩
    rw [f_X6_join_l41_s]
    simp (disch := omega) only [mlt]
    rw [if_neg (by omega)]
    rw [show (f + 1 - 1 - f).toNat = 0 by omega] at i1
    rw [← i1]
    rfl
theorem m_joinM_l {mp ms : Nat → Int} {n x s t sl : Int} {T : Nat → List Int} {tb tl : Nat → Int} {K : (Nat → Int) → (Nat → Int) → Option ((Nat → Int) × (Nat → Int) × Int)} {Q : Option ((Nat → Int) × (Nat → Int) × Int) → Prop} (hg : mGood mp ms n) (hx : 0 ≤ x ∧ x < n) (hs : 0 ≤ s ∧ s ≤ t ∧ t ≤ 60) (hsl : 0 ≤ sl ∧ sl < 336) (hT : mTb T tb tl) (hfit : (T sl.toNat ++ mPc (mB mp ms) x s t).length ≤ 60)
    (hK : ∀ tb' tl', mTb (mUp T sl.toNat (T sl.toNat ++ mPc (mB mp ms) x s t)) tb' tl' → Q (K tl' tb')) : Q (f_X6_join_l167 K x (mPe (mB mp ms) x s t) sl ms mp zN (mPf (mB mp ms) x s t) tl tb) := by
  have hn := hg.1
  have hl60 := (hg.2 x hx.1 hx.2).1
  have hf := mPf_r (B := mB mp ms) (x := x) (s := s) (t := t) (by omega)
  have he := mPe_r (B := mB mp ms) (x := x) (s := s) (t := t) (by omega)
  have hlen := mPc_len (B := mB mp ms) (x := x) (s := s) (t := t)
  have hget := fun j => mPc_get (B := mB mp ms) (x := x) (s := s) (t := t) (j := j)
  generalize mPf (mB mp ms) x s t = f at hf he hlen hget
  generalize mPe (mB mp ms) x s t = e at he hlen
  generalize mPc (mB mp ms) x s t = P at hlen hget hfit hK
  refine mloop (L := fun m i (q : (Nat → Int) × (Nat → Int)) => f_X6_join_l167 K x e sl ms mp m i q.1 q.2) (Q := Q) (hi := e) (P := fun i q => f ≤ i ∧ mTb (mUp T sl.toNat (T sl.toNat ++ P.take (i - f).toNat)) q.2 q.1) ?_ ?_ zN f (tl, tb) (by omega) (mzN (by omega)) ⟨by omega, ?_⟩
  · rintro m i ⟨l1, b1⟩ hi ⟨i0, i1⟩
    right
    try dsimp only at i1 ⊢
    have hg1 := hget (i - f).toNat (by omega)
    rw [show f + (((i - f).toNat : Nat) : Int) = i by omega] at hg1
    have htk : P.take (i + 1 - f).toNat = P.take (i - f).toNat ++ [mnb (mB mp ms x i)] := by
      rw [show (i + 1 - f).toNat = (i - f).toNat + 1 by omega, List.take_add_one, ← hg1, List.getD_eq_getElem?_getD, List.getElem?_eq_getElem (by omega)]
      rfl
    have hcl : (T sl.toNat ++ P.take (i - f).toNat).length < 60 := by
      rw [List.length_append] at hfit ⊢
      rw [List.length_take]
      omega
    have hp := mTb_put (b := mnb (mB mp ms x i)) i1 hsl (by rw [mUp_same]; exact hcl)
    have a1 := (i1 sl.toNat (by omega)).1
    rw [mUp_same] at hp a1
    rw [mUp_up] at hp
    have key : ∀ v, v = mnb (mB mp ms x i) → ∃ q : (Nat → Int) × (Nat → Int), (zwr b1 20160 (60 * sl + l1 sl.toNat) v fun t_newCell_21 => zrd l1 336 sl fun a_23 => zwr l1 336 sl (a_23 + 1) fun t_newSize_25 => f_X6_join_l167 K x e sl ms mp m (i + 1) t_newSize_25 t_newCell_21) = f_X6_join_l167 K x e sl ms mp m (i + 1) q.1 q.2 ∧ f ≤ i + 1 ∧ mTb (mUp T sl.toNat (T sl.toNat ++ P.take (i + 1 - f).toNat)) q.2 q.1 := by
      intro v hv
      subst hv
      rw [a1, mwr (by omega), mrd (by omega), mwr (by omega), a1]
      refine ⟨(zu l1 sl (((T sl.toNat ++ P.take (i - f).toNat).length : Int) + 1), zu b1 (60 * sl + ((T sl.toNat ++ P.take (i - f).toNat).length : Int)) (mnb (mB mp ms x i))), rfl, by omega, ?_⟩
      dsimp only
      rw [htk, ← List.append_assoc, show 60 * sl + ((T sl.toNat ++ P.take (i - f).toNat).length : Int) = sl * 60 + ((T sl.toNat ++ P.take (i - f).toNat).length : Int) by omega]
      exact hp
    have hb := mik_b (mB mp ms) x i
    rw [f_X6_join_l167_s, m_blankM2 hg hx (by omega), m_byteM (by omega) hl60 (by omega)]
    simp (disch := omega) only [mlt, meq, mzb, f_X6_join_j213]
    rw [if_pos hi, mrd (by omega)]
    rcases hb with hb | hb
    · rw [if_neg (by omega)]
      exact key 32 (mnb_32.mpr hb).symm
    · rw [if_pos (by omega)]
      refine key _ ?_
      have h1 := mik_1.mp hb
      unfold mBl at h1
      unfold mnb
      rw [if_neg (by omega)]
  · rintro m ⟨l1, b1⟩ ⟨i0, i1⟩
    try dsimp only at i1 ⊢
    rw [f_X6_join_l167_s]
    simp (disch := omega) only [mlt]
    rw [if_neg (by omega)]
    rw [List.take_of_length_le (by omega)] at i1
    exact hK b1 l1 i1
  · rw [show (f - f).toNat = 0 by omega, List.take_zero, List.append_nil, mUp_self]
    exact hT
theorem m_joinM {mp ms ct : Nat → Int} {n x row c s t tlg : Int} {T : Nat → List Int} {tb tl : Nat → Int} (hg : mGood mp ms n) (hx : 0 ≤ x ∧ x < n) (hs : 0 ≤ s ∧ s ≤ t ∧ t ≤ 60) (hc : 0 ≤ c ∧ c < 8) (hrow : 0 ≤ row ∧ row ≤ 41) (hcs : ct c.toNat = s ∧ ct (c + 1).toNat = t) (hT : mTb T tb tl) :
    ∃ tb' tl', f_X6_join ms mp ct tl tb tlg row c x = some (tl', tb', if (mJn T (8 * row + c).toNat (mPc (mB mp ms) x s t)).2 = 1 then 1 else tlg) ∧ mTb (mJn T (8 * row + c).toNat (mPc (mB mp ms) x s t)).1 tb' tl' := by
  generalize hsl : 8 * row + c = sl
  have hslr : 0 ≤ sl ∧ sl < 336 := by omega
  unfold f_X6_join
  rw [mrd (by omega), mrd (by omega), hcs.1, hcs.2, m_firstM hg hx hs, m_lastM hg hx hs]
  have hf := mPf_r (B := mB mp ms) (x := x) (s := s) (t := t) (by omega)
  have he := mPe_r (B := mB mp ms) (x := x) (s := s) (t := t) (by omega)
  have hlen := mPc_len (B := mB mp ms) (x := x) (s := s) (t := t)
  obtain ⟨a1, a2, -⟩ := hT sl.toNat (by omega)
  unfold f_X6_join_j66
  simp (disch := omega) only [meq]
  by_cases e0 : mPf (mB mp ms) x s t = mPe (mB mp ms) x s t
  · have hp : mPc (mB mp ms) x s t = [] := List.eq_nil_of_length_eq_zero (by omega)
    rw [if_pos e0]
    have hj : mJn T sl.toNat (mPc (mB mp ms) x s t) = (T, 0) := by unfold mJn; rw [if_pos hp]
    rw [hj]
    exact ⟨tb, tl, rfl, hT⟩
  · have hp : mPc (mB mp ms) x s t ≠ [] := fun q => by rw [q, List.length_nil] at hlen; omega
    have hplen : 0 < (mPc (mB mp ms) x s t).length := List.length_pos_iff.mpr hp
    rw [if_neg e0, hsl, mrd (by omega), a1]
    simp (disch := omega) only [mlt]
    by_cases e1 : 0 < ((T sl.toNat).length : Int)
    · have hne : T sl.toNat ≠ [] := fun q => by rw [q, List.length_nil] at e1; omega
      have hcj : mCj (T sl.toNat) (mPc (mB mp ms) x s t) = (T sl.toNat ++ [32]) ++ mPc (mB mp ms) x s t := by unfold mCj; rw [if_neg hne]; simp
      have hcl : ((T sl.toNat ++ [32]) ++ mPc (mB mp ms) x s t).length = (T sl.toNat).length + 1 + (mPc (mB mp ms) x s t).length := by simp; omega
      rw [if_pos e1]
      unfold f_X6_join_j97
      rw [mrd (by omega), a1]
      simp (disch := omega) only [mlt, meq]
      by_cases e2 : 60 < (T sl.toNat).length + 1 + (mPc (mB mp ms) x s t).length
      · rw [if_pos (by omega)]
        have hj : mJn T sl.toNat (mPc (mB mp ms) x s t) = (T, 1) := by unfold mJn; rw [if_neg hp, hcj, if_pos (by omega)]
        rw [hj]
        exact ⟨tb, tl, rfl, hT⟩
      · rw [if_neg (by omega), if_pos trivial, mrd (by omega), a1, mwr (by omega), mrd (by omega), a1, mwr (by omega)]
        have hj : mJn T sl.toNat (mPc (mB mp ms) x s t) = (mUp T sl.toNat ((T sl.toNat ++ [32]) ++ mPc (mB mp ms) x s t), 0) := by unfold mJn; rw [if_neg hp, hcj, if_neg (by omega)]
        rw [hj]
        have hp1 := mTb_put (b := 32) hT hslr (by omega)
        unfold f_X6_join_j163
        have := m_joinM_l (K := fun a b => some (a, b, tlg)) (Q := fun r => ∃ tb' tl', r = some (tl', tb', tlg) ∧ mTb (mUp T sl.toNat ((T sl.toNat ++ [32]) ++ mPc (mB mp ms) x s t)) tb' tl') hg hx hs hslr hp1 (by rw [mUp_same]; omega) (fun tb' tl' h => ⟨tb', tl', rfl, by rw [mUp_same, mUp_up] at h; exact h⟩)
        rw [show 60 * sl + ((T sl.toNat).length : Int) = sl * 60 + ((T sl.toNat).length : Int) by omega]
        exact this
    · have hnil : T sl.toNat = [] := List.eq_nil_of_length_eq_zero (by omega)
      have hcj : mCj (T sl.toNat) (mPc (mB mp ms) x s t) = mPc (mB mp ms) x s t := by unfold mCj; rw [if_pos hnil]
      rw [if_neg e1]
      unfold f_X6_join_j97
      rw [mrd (by omega), a1]
      simp (disch := omega) only [mlt, meq]
      have hl60 : (mPc (mB mp ms) x s t).length ≤ 60 := by omega
      have hT00 : (T sl.toNat).length = 0 := by rw [hnil]; rfl
      rw [if_neg (by omega), if_neg (by decide)]
      have hj : mJn T sl.toNat (mPc (mB mp ms) x s t) = (mUp T sl.toNat (mPc (mB mp ms) x s t), 0) := by unfold mJn; rw [if_neg hp, hcj, if_neg (by omega)]
      rw [hj]
      unfold f_X6_join_j163
      exact m_joinM_l (K := fun a b => some (a, b, tlg)) (Q := fun r => ∃ tb' tl', r = some (tl', tb', tlg) ∧ mTb (mUp T sl.toNat (mPc (mB mp ms) x s t)) tb' tl') hg hx hs hslr hT (by rw [hnil]; exact hl60) (fun tb' tl' h => ⟨tb', tl', rfl, by rw [hnil] at h; exact h⟩)
