/-! the page: a byte of a line, as both programs read it; what kind of line it is -/
def mB (cb cl : Nat → Int) (x i : Int) : Int := if i < cl x.toNat then cb (x * 60 + i).toNat else 32
theorem mB_in {cb cl : Nat → Int} {x i : Int} (h : i < cl x.toNat) : mB cb cl x i = cb (x * 60 + i).toNat := by unfold mB; rw [if_pos h]
theorem mB_out {cb cl : Nat → Int} {x i : Int} (h : ¬ i < cl x.toNat) : mB cb cl x i = 32 := by unfold mB; rw [if_neg h]
/-- lines 0 .. n - 1 are good: lengths and bytes as they may be -/
def mGood (cb cl : Nat → Int) (n : Int) : Prop := (0 ≤ n ∧ n ≤ 24) ∧ ∀ x : Int, 0 ≤ x → x < n → (0 ≤ cl x.toNat ∧ cl x.toNat ≤ 60) ∧ ∀ i : Int, 0 ≤ i → i < cl x.toNat → 32 ≤ cb (x * 60 + i).toNat ∧ cb (x * 60 + i).toNat ≤ 126
/-- the two pages are the same -/
def mPg (cb cl : Nat → Int) (cc : Int) (mp ms : Nat → Int) (ml : Int) : Prop := cc = ml ∧ mGood cb cl ml ∧ ∀ x : Int, 0 ≤ x → x < ml → cl x.toNat = ms x.toNat ∧ ∀ i : Int, 0 ≤ i → i < cl x.toNat → cb (x * 60 + i).toNat = mp (x * 60 + i).toNat
theorem mB_range {cb cl : Nat → Int} {n x i : Int} (h : mGood cb cl n) (hx : 0 ≤ x ∧ x < n) (hi : 0 ≤ i) : 32 ≤ mB cb cl x i ∧ mB cb cl x i ≤ 126 := by
  unfold mB
  by_cases h1 : i < cl x.toNat
  · rw [if_pos h1]; exact (h.2 x hx.1 hx.2).2 i hi h1
  · rw [if_neg h1]; omega
theorem mPg_B {cb cl mp ms : Nat → Int} {cc ml x i : Int} (h : mPg cb cl cc mp ms ml) (hx : 0 ≤ x ∧ x < ml) (hi : 0 ≤ i) : mB mp ms x i = mB cb cl x i := by
  obtain ⟨e1, e2⟩ := h.2.2 x hx.1 hx.2
  unfold mB
  rw [← e1]
  by_cases h1 : i < cl x.toNat
  · rw [if_pos h1, if_pos h1, e2 i hi h1]
  · rw [if_neg h1, if_neg h1]
theorem m_lengthOf {cl : Nat → Int} {x : Int} (hx : 0 ≤ x ∧ x < 24) : f_X2_lengthOf cl x = some (cl x.toNat) := by
  unfold f_X2_lengthOf
  rw [m_pick_in ⟨by omega, hx.1, by omega⟩, mzb]
theorem m_byteC {cb cl : Nat → Int} {x i : Int} (hx : 0 ≤ x ∧ x < 24) (hl : 0 ≤ cl x.toNat ∧ cl x.toNat ≤ 60) (hi : 0 ≤ i ∧ i < 2147483648) : f_X2_byteAt cb cl x i = some (mB cb cl x i) := by
  unfold f_X2_byteAt
  rw [m_pick_in ⟨by omega, hx.1, by omega⟩, mzb]
  simp (disch := omega) only [mlt]
  rw [if_neg (by omega)]
  by_cases h1 : i < cl x.toNat
  · rw [if_pos h1, m_pick_in ⟨by omega, by omega, by omega⟩, mzb, mB_in h1]
  · rw [if_neg h1, mB_out h1]
theorem m_byteM {mp ms : Nat → Int} {x i : Int} (hx : 0 ≤ x ∧ x < 24) (hl : 0 ≤ ms x.toNat ∧ ms x.toNat ≤ 60) (hi : 0 ≤ i ∧ i < 2147483648) : f_X6_byteAt ms mp x i = some (mB mp ms x i) := by
  unfold f_X6_byteAt
  rw [mrd ⟨hx.1, by omega⟩]
  simp (disch := omega) only [mlt]
  by_cases h1 : i < ms x.toNat
  · rw [if_pos h1, mrd ⟨by omega, by omega⟩, mB_in h1, show (60 : Int) * x + i = x * 60 + i by omega]
  · rw [if_neg h1, mB_out h1]
def mBl (c : Int) : Prop := c = 32 ∨ c = 124
def mSt (c : Int) : Prop := c = 45 ∨ c = 61
def mks (b : Int → Int) : Nat → Int
  | 0 => 0
  | k + 1 => mks b k + (if b k = 45 ∨ b k = 61 then 1 else 0)
theorem mks_pos (b : Int → Int) (k : Nat) : 0 ≤ mks b k ∧ mks b k ≤ k := by
  induction k with
  | zero => exact ⟨Int.le_refl 0, Int.le_refl 0⟩
  | succ k ih => unfold mks; split <;> omega
noncomputable def mkd (b : Int → Int) (len : Int) : Int := @ite _ (∀ j : Int, 0 ≤ j → j < len → mBl (b j)) (Classical.propDecidable _) 0 (@ite _ (3 ≤ mks b len.toNat ∧ ∀ j : Int, 0 ≤ j → j < len → mBl (b j) ∨ mSt (b j) ∨ b j = 43) (Classical.propDecidable _) 1 2)
theorem mkd_0 {b : Int → Int} {len : Int} (h : ∀ j : Int, 0 ≤ j → j < len → mBl (b j)) : mkd b len = 0 := by unfold mkd; rw [if_pos h]
theorem mkd_1 {b : Int → Int} {len : Int} (h0 : ¬ ∀ j : Int, 0 ≤ j → j < len → mBl (b j)) (h : 3 ≤ mks b len.toNat ∧ ∀ j : Int, 0 ≤ j → j < len → mBl (b j) ∨ mSt (b j) ∨ b j = 43) : mkd b len = 1 := by unfold mkd; rw [if_neg h0, if_pos h]
theorem mkd_2 {b : Int → Int} {len : Int} (h0 : ¬ ∀ j : Int, 0 ≤ j → j < len → mBl (b j)) (h : ¬ (3 ≤ mks b len.toNat ∧ ∀ j : Int, 0 ≤ j → j < len → mBl (b j) ∨ mSt (b j) ∨ b j = 43)) : mkd b len = 2 := by unfold mkd; rw [if_neg h0, if_neg h]
theorem mkd_in (b : Int → Int) (len : Int) : mkd b len = 0 ∨ mkd b len = 1 ∨ mkd b len = 2 := by
  unfold mkd
  by_cases h : ∀ j : Int, 0 ≤ j → j < len → mBl (b j)
  · rw [if_pos h]; exact Or.inl rfl
  · rw [if_neg h]
    by_cases h1 : 3 ≤ mks b len.toNat ∧ ∀ j : Int, 0 ≤ j → j < len → mBl (b j) ∨ mSt (b j) ∨ b j = 43
    · rw [if_pos h1]; exact Or.inr (Or.inl rfl)
    · rw [if_neg h1]; exact Or.inr (Or.inr rfl)
theorem mkd_ink {b : Int → Int} {len : Int} (h : mkd b len = 2) : ∃ j : Int, 0 ≤ j ∧ j < len ∧ ¬ mBl (b j) := by
  refine Classical.byContradiction fun hn => ?_
  have h0 : ∀ j : Int, 0 ≤ j → j < len → mBl (b j) := fun j h1 h2 => Classical.byContradiction fun h3 => hn ⟨j, h1, h2, h3⟩
  rw [mkd_0 h0] at h
  omega
theorem mks_next {b : Int → Int} {i : Int} (hi : 0 ≤ i) : mks b (i + 1).toNat = mks b i.toNat + (if b i = 45 ∨ b i = 61 then 1 else 0) := by
  rw [show (i + 1).toNat = i.toNat + 1 by omega]
  show mks b i.toNat + (if b (i.toNat : Int) = 45 ∨ b (i.toNat : Int) = 61 then 1 else 0) = _
  rw [show (i.toNat : Int) = i by omega]
/-- a flag says whether something was there before i -/
def mFl (f : Int) (i : Int) (p : Int → Prop) : Prop := (f = 0 ∧ ∀ j : Int, 0 ≤ j → j < i → ¬ p j) ∨ (f = 1 ∧ ∃ j : Int, 0 ≤ j ∧ j < i ∧ p j)
theorem mFl_0 (p : Int → Prop) : mFl 0 0 p := Or.inl ⟨rfl, fun j h1 h2 => by omega⟩
theorem mFl_t {f i : Int} {p : Int → Prop} (hi : 0 ≤ i) (h : p i) : mFl 1 (i + 1) p := Or.inr ⟨rfl, i, hi, by omega, h⟩
theorem mFl_s {f i : Int} {p : Int → Prop} (hf : mFl f i p) (h : ¬ p i) : mFl f (i + 1) p := by
  rcases hf with ⟨e, h1⟩ | ⟨e, j, h1, h2, h3⟩
  · refine Or.inl ⟨e, fun j h2 h3 => ?_⟩
    by_cases hj : j = i
    · subst hj; exact h
    · exact h1 j h2 (by omega)
  · exact Or.inr ⟨e, j, h1, by omega, h3⟩
theorem mFl_1 {i : Int} {p : Int → Prop} (hf : mFl 1 i p) : mFl 1 (i + 1) p := by
  rcases hf with ⟨e, h1⟩ | ⟨e, j, h1, h2, h3⟩
  · omega
  · exact Or.inr ⟨e, j, h1, by omega, h3⟩
theorem mFl_b {f i : Int} {p : Int → Prop} (hf : mFl f i p) : f = 0 ∨ f = 1 := by
  rcases hf with ⟨e, -⟩ | ⟨e, -⟩
  · exact Or.inl e
  · exact Or.inr e
theorem m_kindC_l {cb cl : Nat → Int} {x len : Int} {K : Int → Int → Int → Option Int} {Q : Option Int → Prop} (hx : 0 ≤ x ∧ x < 24) (hl : 0 ≤ cl x.toNat ∧ cl x.toNat ≤ 60) (hlen : len = cl x.toNat) (hb : ∀ i, 0 ≤ i → 32 ≤ mB cb cl x i ∧ mB cb cl x i ≤ 126)
    (hK : ∀ v3 v4 v5, v3 = mks (mB cb cl x) len.toNat → mFl v4 len (fun j => ¬ mBl (mB cb cl x j)) → mFl v5 len (fun j => ¬ (mBl (mB cb cl x j) ∨ mSt (mB cb cl x j) ∨ mB cb cl x j = 43)) → Q (K v3 v4 v5)) : Q (f_X2_kindOf_l17 K x len cb cl zN 0 0 0 0) := by
  refine mloop (L := fun n i (s : Int × Int × Int) => f_X2_kindOf_l17 K x len cb cl n s.1 s.2.1 s.2.2 i) (Q := Q) (hi := len) (P := fun i s => 0 ≤ i ∧ s.1 = mks (mB cb cl x) i.toNat ∧ mFl s.2.1 i (fun j => ¬ mBl (mB cb cl x j)) ∧ mFl s.2.2 i (fun j => ¬ (mBl (mB cb cl x j) ∨ mSt (mB cb cl x j) ∨ mB cb cl x j = 43))) ?_ ?_ zN 0 (0, 0, 0) (by omega) (mzN (by omega)) ⟨by omega, rfl, mFl_0 _, mFl_0 _⟩
  · rintro n i ⟨v3, v4, v5⟩ hi ⟨h0, h1, h2, h3⟩
    right
    dsimp only at h1 h2 h3 ⊢
    have hbi := hb i h0
    have hv4 := mFl_b h2
    have hv5 := mFl_b h3
    rw [f_X2_kindOf_l17_s, m_byteC hx hl (by omega), mzb, if_pos (show zI i < zI len by rw [mlt (by omega)]; exact hi)]
    have hks := mks_next (b := mB cb cl x) h0
    generalize hbe : mB cb cl x i = c at hbi hks
    have e2t : ¬ mBl c → mFl 1 (i + 1) (fun j => ¬ mBl (mB cb cl x j)) := fun h => mFl_t (f := 0) h0 (by show ¬ mBl (mB cb cl x i); rw [hbe]; exact h)
    have e2f : mBl c → mFl v4 (i + 1) (fun j => ¬ mBl (mB cb cl x j)) := fun h => mFl_s h2 (by show ¬ ¬ mBl (mB cb cl x i); rw [hbe]; exact fun q => q h)
    have e3t : ¬ (mBl c ∨ mSt c ∨ c = 43) → mFl 1 (i + 1) (fun j => ¬ (mBl (mB cb cl x j) ∨ mSt (mB cb cl x j) ∨ mB cb cl x j = 43)) := fun h => mFl_t (f := 0) h0 (by show ¬ (mBl (mB cb cl x i) ∨ mSt (mB cb cl x i) ∨ mB cb cl x i = 43); rw [hbe]; exact h)
    have e3f : (mBl c ∨ mSt c ∨ c = 43) → mFl v5 (i + 1) (fun j => ¬ (mBl (mB cb cl x j) ∨ mSt (mB cb cl x j) ∨ mB cb cl x j = 43)) := fun h => mFl_s h3 (by show ¬ ¬ (mBl (mB cb cl x i) ∨ mSt (mB cb cl x i) ∨ mB cb cl x i = 43); rw [hbe]; exact fun q => q h)
    by_cases h45 : c = 45
    · subst h45
      rcases hv4 with rfl | rfl <;> rcases hv5 with rfl | rfl <;> simp (disch := omega) only [f_X2_kindOf_j46, f_X2_kindOf_j51, f_X2_kindOf_j67, f_X2_kindOf_j72, f_X2_kindOf_j85, f_X2_kindOf_j97, f_X2_kindOf_j102, f_X2_kindOf_j126, f_X2_kindOf_j130, f_X2_kindOf_j131, mlt, meq, Int.reduceEq, ↓reduceIte] <;> exact ⟨(_, _, _), rfl, by omega, by rw [hks, ← h1]; simp, e2t (fun h => by unfold mBl at h; omega), e3f (by unfold mBl mSt; decide)⟩
    by_cases h61 : c = 61
    · subst h61
      rcases hv4 with rfl | rfl <;> rcases hv5 with rfl | rfl <;> simp (disch := omega) only [f_X2_kindOf_j46, f_X2_kindOf_j51, f_X2_kindOf_j67, f_X2_kindOf_j72, f_X2_kindOf_j85, f_X2_kindOf_j97, f_X2_kindOf_j102, f_X2_kindOf_j126, f_X2_kindOf_j130, f_X2_kindOf_j131, mlt, meq, Int.reduceEq, ↓reduceIte] <;> exact ⟨(_, _, _), rfl, by omega, by rw [hks, ← h1]; simp, e2t (fun h => by unfold mBl at h; omega), e3f (by unfold mBl mSt; decide)⟩
    by_cases h32 : c = 32
    · subst h32
      rcases hv4 with rfl | rfl <;> rcases hv5 with rfl | rfl <;> simp (disch := omega) only [f_X2_kindOf_j46, f_X2_kindOf_j51, f_X2_kindOf_j67, f_X2_kindOf_j72, f_X2_kindOf_j85, f_X2_kindOf_j97, f_X2_kindOf_j102, f_X2_kindOf_j126, f_X2_kindOf_j130, f_X2_kindOf_j131, mlt, meq, Int.reduceEq, ↓reduceIte] <;> exact ⟨(_, _, _), rfl, by omega, by rw [hks, ← h1]; simp, e2f (by unfold mBl; decide), e3f (by unfold mBl mSt; decide)⟩
    by_cases h124 : c = 124
    · subst h124
      rcases hv4 with rfl | rfl <;> rcases hv5 with rfl | rfl <;> simp (disch := omega) only [f_X2_kindOf_j46, f_X2_kindOf_j51, f_X2_kindOf_j67, f_X2_kindOf_j72, f_X2_kindOf_j85, f_X2_kindOf_j97, f_X2_kindOf_j102, f_X2_kindOf_j126, f_X2_kindOf_j130, f_X2_kindOf_j131, mlt, meq, Int.reduceEq, ↓reduceIte] <;> exact ⟨(_, _, _), rfl, by omega, by rw [hks, ← h1]; simp, e2f (by unfold mBl; decide), e3f (by unfold mBl mSt; decide)⟩
    by_cases h43 : c = 43
    · subst h43
      rcases hv4 with rfl | rfl <;> rcases hv5 with rfl | rfl <;> simp (disch := omega) only [f_X2_kindOf_j46, f_X2_kindOf_j51, f_X2_kindOf_j67, f_X2_kindOf_j72, f_X2_kindOf_j85, f_X2_kindOf_j97, f_X2_kindOf_j102, f_X2_kindOf_j126, f_X2_kindOf_j130, f_X2_kindOf_j131, mlt, meq, Int.reduceEq, ↓reduceIte] <;> exact ⟨(_, _, _), rfl, by omega, by rw [hks, ← h1]; simp, e2t (fun h => by unfold mBl at h; omega), e3f (by unfold mBl mSt; decide)⟩
    rcases hv4 with rfl | rfl <;> rcases hv5 with rfl | rfl <;> simp (disch := omega) only [f_X2_kindOf_j46, f_X2_kindOf_j51, f_X2_kindOf_j67, f_X2_kindOf_j72, f_X2_kindOf_j85, f_X2_kindOf_j97, f_X2_kindOf_j102, f_X2_kindOf_j126, f_X2_kindOf_j130, f_X2_kindOf_j131, mlt, meq, Int.reduceEq, h45, h61, h32, h124, h43, ↓reduceIte] <;> exact ⟨(_, _, _), rfl, by omega, by rw [hks, ← h1]; simp only [h45, h61, or_self, ↓reduceIte], e2t (fun h => by unfold mBl at h; omega), e3t (fun h => by unfold mBl mSt at h; omega)⟩
  · rintro n ⟨v3, v4, v5⟩ ⟨h0, h1, h2, h3⟩
    dsimp only at h1 h2 h3 ⊢
    rw [f_X2_kindOf_l17_s]
    simp (disch := omega) only [mlt]
    rw [if_neg (by omega)]
    exact hK v3 v4 v5 h1 h2 h3
theorem m_kindC {cb cl : Nat → Int} {n x : Int} (hg : mGood cb cl n) (hx : 0 ≤ x ∧ x < n) : f_X2_kindOf cb cl x = some (mkd (mB cb cl x) (cl x.toNat)) := by
  have hn := hg.1
  have hl := (hg.2 x hx.1 hx.2).1
  unfold f_X2_kindOf
  rw [m_lengthOf (by omega), mzb]
  refine m_kindC_l (Q := fun r => r = some (mkd (mB cb cl x) (cl x.toNat))) (by omega) hl rfl (fun i hi => mB_range hg hx hi) (fun v3 v4 v5 h3 h4 h5 => ?_)
  have hp := mks_pos (mB cb cl x) (cl x.toNat).toNat
  have b4 := mFl_b h4
  have b5 := mFl_b h5
  simp (disch := omega) only [meq, mlt, f_X2_kindOf_j160]
  rcases h4 with ⟨rfl, h4⟩ | ⟨rfl, j, j1, j2, j3⟩
  · rw [if_pos rfl, mkd_0 (fun j a b => Classical.byContradiction (h4 j a b))]
  · rw [if_neg (by omega)]
    have hne : ¬ ∀ j : Int, 0 ≤ j → j < cl x.toNat → mBl (mB cb cl x j) := fun h => j3 (h j j1 j2)
    by_cases hs : v3 < 3
    · rw [if_pos hs, mkd_2 hne (fun h => by omega)]
    · rw [if_neg hs]
      rcases h5 with ⟨rfl, h5⟩ | ⟨rfl, k, k1, k2, k3⟩
      · rw [if_pos rfl, mkd_1 hne ⟨by omega, fun j a b => Classical.byContradiction (h5 j a b)⟩]
      · rw [if_neg (by omega), mkd_2 hne (fun h => k3 (h.2 k k1 k2))]
theorem m_blankM {mp ms : Nat → Int} {x i : Int} (hx : 0 ≤ x ∧ x < 24) (hl : 0 ≤ ms x.toNat ∧ ms x.toNat ≤ 60) (hi : 0 ≤ i ∧ i < 2147483648) (hb : 32 ≤ mB mp ms x i ∧ mB mp ms x i ≤ 126) : f_X6_isBlank ms mp x i = some (if mB mp ms x i = 32 ∨ mB mp ms x i = 124 then 1 else 0) := by
  unfold f_X6_isBlank f_X6_isBlank_j19
  rw [m_byteM hx hl hi, mzb]
  simp (disch := omega) only [meq]
  by_cases h1 : mB mp ms x i = 32
  · rw [if_pos h1, if_pos (Or.inl h1)]
  · rw [if_neg h1]
    by_cases h2 : mB mp ms x i = 124
    · rw [if_pos h2, if_pos (Or.inr h2)]
    · rw [if_neg h2, if_neg (by omega)]
theorem m_kindM_l {mp ms : Nat → Int} {x : Int} {K : Int → Int → Int → Option Int} {Q : Option Int → Prop} (hx : 0 ≤ x ∧ x < 24) (hl : 0 ≤ ms x.toNat ∧ ms x.toNat ≤ 60) (hb : ∀ i, 0 ≤ i → 32 ≤ mB mp ms x i ∧ mB mp ms x i ≤ 126)
    (hK : ∀ v2 v3 v4, mFl (1 - v2) (ms x.toNat) (fun j => ¬ mBl (mB mp ms x j)) → mFl (1 - v3) (ms x.toNat) (fun j => ¬ (mBl (mB mp ms x j) ∨ mSt (mB mp ms x j) ∨ mB mp ms x j = 43)) → v4 = mks (mB mp ms x) (ms x.toNat).toNat → Q (K v2 v3 v4)) : Q (f_X6_kindOf_l10 K x ms mp zN 1 1 0 0) := by
  refine mloop (L := fun n i (s : Int × Int × Int) => f_X6_kindOf_l10 K x ms mp n s.1 s.2.1 s.2.2 i) (Q := Q) (hi := ms x.toNat) (P := fun i s => 0 ≤ i ∧ mFl (1 - s.1) i (fun j => ¬ mBl (mB mp ms x j)) ∧ mFl (1 - s.2.1) i (fun j => ¬ (mBl (mB mp ms x j) ∨ mSt (mB mp ms x j) ∨ mB mp ms x j = 43)) ∧ s.2.2 = mks (mB mp ms x) i.toNat) ?_ ?_ zN 0 (1, 1, 0) (by omega) (mzN (by omega)) ⟨by omega, by show mFl (1 - 1) 0 _; rw [show (1 : Int) - 1 = 0 from rfl]; exact mFl_0 _, by show mFl (1 - 1) 0 _; rw [show (1 : Int) - 1 = 0 from rfl]; exact mFl_0 _, rfl⟩
  · rintro n i ⟨v2, v3, v4⟩ hi ⟨h0, h2, h3, h1⟩
    right
    dsimp only at h1 h2 h3 ⊢
    have hbi := hb i h0
    have hv2 : v2 = 0 ∨ v2 = 1 := by have := mFl_b h2; omega
    have hv3 : v3 = 0 ∨ v3 = 1 := by have := mFl_b h3; omega
    rw [f_X6_kindOf_l10_s, mrd ⟨hx.1, by omega⟩, m_byteM hx hl (by omega), mzb, if_pos (show zI i < zI (ms x.toNat) by rw [mlt (by omega)]; exact hi)]
    have hks := mks_next (b := mB mp ms x) h0
    generalize hbe : mB mp ms x i = c at hbi hks
    have e2t : ¬ mBl c → mFl (1 - 0) (i + 1) (fun j => ¬ mBl (mB mp ms x j)) := fun h => mFl_t (f := 0) h0 (by show ¬ mBl (mB mp ms x i); rw [hbe]; exact h)
    have e2f : mBl c → mFl (1 - v2) (i + 1) (fun j => ¬ mBl (mB mp ms x j)) := fun h => mFl_s h2 (by show ¬ ¬ mBl (mB mp ms x i); rw [hbe]; exact fun q => q h)
    have e3t : ¬ (mBl c ∨ mSt c ∨ c = 43) → mFl (1 - 0) (i + 1) (fun j => ¬ (mBl (mB mp ms x j) ∨ mSt (mB mp ms x j) ∨ mB mp ms x j = 43)) := fun h => mFl_t (f := 0) h0 (by show ¬ (mBl (mB mp ms x i) ∨ mSt (mB mp ms x i) ∨ mB mp ms x i = 43); rw [hbe]; exact h)
    have e3f : (mBl c ∨ mSt c ∨ c = 43) → mFl (1 - v3) (i + 1) (fun j => ¬ (mBl (mB mp ms x j) ∨ mSt (mB mp ms x j) ∨ mB mp ms x j = 43)) := fun h => mFl_s h3 (by show ¬ ¬ (mBl (mB mp ms x i) ∨ mSt (mB mp ms x i) ∨ mB mp ms x i = 43); rw [hbe]; exact fun q => q h)
    by_cases h45 : c = 45
    · subst h45
      rcases hv2 with rfl | rfl <;> rcases hv3 with rfl | rfl <;> simp (disch := omega) only [f_X6_kindOf_j44, f_X6_kindOf_j49, f_X6_kindOf_j69, f_X6_kindOf_j73, f_X6_kindOf_j74, f_X6_kindOf_j87, f_X6_kindOf_j120, f_X6_kindOf_j124, f_X6_kindOf_j125, mlt, meq, Int.reduceEq, ↓reduceIte] <;> exact ⟨(_, _, _), rfl, by omega, e2t (fun h => by unfold mBl at h; omega), e3f (by unfold mBl mSt; decide), by rw [hks, ← h1]; simp⟩
    by_cases h61 : c = 61
    · subst h61
      rcases hv2 with rfl | rfl <;> rcases hv3 with rfl | rfl <;> simp (disch := omega) only [f_X6_kindOf_j44, f_X6_kindOf_j49, f_X6_kindOf_j69, f_X6_kindOf_j73, f_X6_kindOf_j74, f_X6_kindOf_j87, f_X6_kindOf_j120, f_X6_kindOf_j124, f_X6_kindOf_j125, mlt, meq, Int.reduceEq, ↓reduceIte] <;> exact ⟨(_, _, _), rfl, by omega, e2t (fun h => by unfold mBl at h; omega), e3f (by unfold mBl mSt; decide), by rw [hks, ← h1]; simp⟩
    by_cases h32 : c = 32
    · subst h32
      rcases hv2 with rfl | rfl <;> rcases hv3 with rfl | rfl <;> simp (disch := omega) only [f_X6_kindOf_j44, f_X6_kindOf_j49, f_X6_kindOf_j69, f_X6_kindOf_j73, f_X6_kindOf_j74, f_X6_kindOf_j87, f_X6_kindOf_j120, f_X6_kindOf_j124, f_X6_kindOf_j125, mlt, meq, Int.reduceEq, ↓reduceIte] <;> exact ⟨(_, _, _), rfl, by omega, e2f (by unfold mBl; decide), e3f (by unfold mBl mSt; decide), by rw [hks, ← h1]; simp⟩
    by_cases h124 : c = 124
    · subst h124
      rcases hv2 with rfl | rfl <;> rcases hv3 with rfl | rfl <;> simp (disch := omega) only [f_X6_kindOf_j44, f_X6_kindOf_j49, f_X6_kindOf_j69, f_X6_kindOf_j73, f_X6_kindOf_j74, f_X6_kindOf_j87, f_X6_kindOf_j120, f_X6_kindOf_j124, f_X6_kindOf_j125, mlt, meq, Int.reduceEq, ↓reduceIte] <;> exact ⟨(_, _, _), rfl, by omega, e2f (by unfold mBl; decide), e3f (by unfold mBl mSt; decide), by rw [hks, ← h1]; simp⟩
    by_cases h43 : c = 43
    · subst h43
      rcases hv2 with rfl | rfl <;> rcases hv3 with rfl | rfl <;> simp (disch := omega) only [f_X6_kindOf_j44, f_X6_kindOf_j49, f_X6_kindOf_j69, f_X6_kindOf_j73, f_X6_kindOf_j74, f_X6_kindOf_j87, f_X6_kindOf_j120, f_X6_kindOf_j124, f_X6_kindOf_j125, mlt, meq, Int.reduceEq, ↓reduceIte] <;> exact ⟨(_, _, _), rfl, by omega, e2t (fun h => by unfold mBl at h; omega), e3f (by unfold mBl mSt; decide), by rw [hks, ← h1]; simp⟩
    rcases hv2 with rfl | rfl <;> rcases hv3 with rfl | rfl <;> simp (disch := omega) only [f_X6_kindOf_j44, f_X6_kindOf_j49, f_X6_kindOf_j69, f_X6_kindOf_j73, f_X6_kindOf_j74, f_X6_kindOf_j87, f_X6_kindOf_j120, f_X6_kindOf_j124, f_X6_kindOf_j125, mlt, meq, Int.reduceEq, h45, h61, h32, h124, h43, ↓reduceIte] <;> exact ⟨(_, _, _), rfl, by omega, e2t (fun h => by unfold mBl at h; omega), e3t (fun h => by unfold mBl mSt at h; omega), by rw [hks, ← h1]; simp only [h45, h61, or_self, ↓reduceIte]⟩
  · rintro n ⟨v2, v3, v4⟩ ⟨h0, h2, h3, h1⟩
    dsimp only at h1 h2 h3 ⊢
    rw [f_X6_kindOf_l10_s, mrd ⟨hx.1, by omega⟩]
    simp (disch := omega) only [mlt]
    rw [if_neg (by omega)]
    exact hK v2 v3 v4 h2 h3 h1
theorem m_kindM {mp ms : Nat → Int} {n x : Int} (hg : mGood mp ms n) (hx : 0 ≤ x ∧ x < n) : f_X6_kindOf ms mp x = some (mkd (mB mp ms x) (ms x.toNat)) := by
  have hn := hg.1
  have hl := (hg.2 x hx.1 hx.2).1
  unfold f_X6_kindOf
  refine m_kindM_l (Q := fun r => r = some (mkd (mB mp ms x) (ms x.toNat))) (by omega) hl (fun i hi => mB_range hg hx hi) (fun v2 v3 v4 h4 h5 h3 => ?_)
  have hp := mks_pos (mB mp ms x) (ms x.toNat).toNat
  have b4 := mFl_b h4
  have b5 := mFl_b h5
  simp (disch := omega) only [meq, mlt, f_X6_kindOf_j154]
  rcases h4 with ⟨e, h4⟩ | ⟨e, j, j1, j2, j3⟩
  · rw [if_neg (by omega), mkd_0 (fun j a b => Classical.byContradiction (h4 j a b))]
  · rw [if_pos (by omega)]
    have hne : ¬ ∀ j : Int, 0 ≤ j → j < ms x.toNat → mBl (mB mp ms x j) := fun h => j3 (h j j1 j2)
    rcases h5 with ⟨e5, h5⟩ | ⟨e5, k, k1, k2, k3⟩
    · rw [if_neg (by omega)]
      by_cases hs : v4 < 3
      · rw [if_pos hs, mkd_2 hne (fun h => by omega)]
      · rw [if_neg hs, mkd_1 hne ⟨by omega, fun j a b => Classical.byContradiction (h5 j a b)⟩]
    · rw [if_pos (by omega), mkd_2 hne (fun h => k3 (h.2 k k1 k2))]
theorem mGood_M {cb cl mp ms : Nat → Int} {cc ml : Int} (h : mPg cb cl cc mp ms ml) : mGood mp ms ml := by
  refine ⟨h.2.1.1, fun x a b => ?_⟩
  obtain ⟨e1, e2⟩ := h.2.2 x a b
  obtain ⟨g1, g2⟩ := h.2.1.2 x a b
  rw [← e1]
  exact ⟨g1, fun i c d => by rw [← e2 i c d]; exact g2 i c d⟩
theorem mkd_congr {b b' : Int → Int} {len : Int} (h : ∀ j : Int, 0 ≤ j → b j = b' j) : mkd b len = mkd b' len := by
  have e1 : (∀ j : Int, 0 ≤ j → j < len → mBl (b j)) ↔ (∀ j : Int, 0 ≤ j → j < len → mBl (b' j)) := ⟨fun q j a c => by rw [← h j a]; exact q j a c, fun q j a c => by rw [h j a]; exact q j a c⟩
  have e2 : ∀ k : Nat, mks b k = mks b' k := by
    intro k
    induction k with
    | zero => rfl
    | succ k ih => unfold mks; rw [ih, h k (by omega)]
  have e3 : (∀ j : Int, 0 ≤ j → j < len → mBl (b j) ∨ mSt (b j) ∨ b j = 43) ↔ (∀ j : Int, 0 ≤ j → j < len → mBl (b' j) ∨ mSt (b' j) ∨ b' j = 43) := ⟨fun q j a c => by rw [← h j a]; exact q j a c, fun q j a c => by rw [h j a]; exact q j a c⟩
  by_cases h0 : ∀ j : Int, 0 ≤ j → j < len → mBl (b j)
  · rw [mkd_0 h0, mkd_0 (e1.mp h0)]
  · by_cases h1 : 3 ≤ mks b len.toNat ∧ ∀ j : Int, 0 ≤ j → j < len → mBl (b j) ∨ mSt (b j) ∨ b j = 43
    · rw [mkd_1 h0 h1, mkd_1 (fun q => h0 (e1.mpr q)) ⟨by rw [← e2]; exact h1.1, e3.mp h1.2⟩]
    · rw [mkd_2 h0 h1, mkd_2 (fun q => h0 (e1.mpr q)) (fun q => h1 ⟨by rw [e2]; exact q.1, e3.mpr q.2⟩)]
theorem m_kind_same {cb cl mp ms : Nat → Int} {cc ml x : Int} (h : mPg cb cl cc mp ms ml) (hx : 0 ≤ x ∧ x < ml) : mkd (mB mp ms x) (ms x.toNat) = mkd (mB cb cl x) (cl x.toNat) := by
  rw [← (h.2.2 x hx.1 hx.2).1]
  exact mkd_congr fun j hj => mPg_B h hx hj
