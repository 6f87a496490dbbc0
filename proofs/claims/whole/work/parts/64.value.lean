/-! the value of a cell: both programs -/
def mSg (st : Nat) (x : Int) : Int := if st = 1 then -x else x
def mSc (p : Nat) : Int := if p = 0 then 1000 else if p = 1 then 100 else if p = 2 then 10 else 1
theorem mNx_r {L : List Int} {p : Nat} : ∀ w : Nat, (∀ i : Nat, i < w → mDig (L.getD (p + i) 0)) → 0 ≤ mNx L p 0 w ∧ mNx L p 0 w + 1 ≤ 10 ^ w := by
  intro w
  induction w with
  | zero => intro _; exact ⟨by unfold mNx; decide, by unfold mNx; decide⟩
  | succ w ih =>
    intro h
    obtain ⟨h1, h2⟩ := ih (fun i hi => h i (by omega))
    obtain ⟨d1, d2⟩ := h w (by omega)
    rw [Int.pow_succ]
    unfold mNx
    omega
theorem mNx_6 {L : List Int} {p w : Nat} (hw : w ≤ 6) (h : ∀ i : Nat, i < w → mDig (L.getD (p + i) 0)) : 0 ≤ mNx L p 0 w ∧ mNx L p 0 w < 1000000 := by
  obtain ⟨h1, h2⟩ := mNx_r w h
  have : w = 0 ∨ w = 1 ∨ w = 2 ∨ w = 3 ∨ w = 4 ∨ w = 5 ∨ w = 6 := by omega
  rcases this with e | e | e | e | e | e | e <;> subst e <;> refine ⟨h1, ?_⟩
  · have : (10 : Int) ^ 0 = 1 := by decide
    omega
  · have : (10 : Int) ^ 1 = 10 := by decide
    omega
  · have : (10 : Int) ^ 2 = 100 := by decide
    omega
  · have : (10 : Int) ^ 3 = 1000 := by decide
    omega
  · have : (10 : Int) ^ 4 = 10000 := by decide
    omega
  · have : (10 : Int) ^ 5 = 100000 := by decide
    omega
  · have : (10 : Int) ^ 6 = 1000000 := by decide
    omega
/-- parts behind the point: together with what stands before it -/
theorem mNx_parts {L : List Int} {p w : Nat} {v0 : Int} (hw : 1 ≤ w ∧ w ≤ 3) : mSc w * mNx L p v0 w = 1000 * v0 + mSc w * mNx L p 0 w := by
  have : w = 1 ∨ w = 2 ∨ w = 3 := by omega
  rcases this with e | e | e <;> subst e <;> unfold mSc <;> simp only [mNx] <;> simp <;> omega
theorem mNx_3 {L : List Int} {p w : Nat} (hw : 1 ≤ w ∧ w ≤ 3) (h : ∀ i : Nat, i < w → mDig (L.getD (p + i) 0)) : 0 ≤ mSc w * mNx L p 0 w ∧ mSc w * mNx L p 0 w < 1000 := by
  obtain ⟨h1, h2⟩ := mNx_r w h
  have : w = 1 ∨ w = 2 ∨ w = 3 := by omega
  rcases this with e | e | e <;> subst e <;> unfold mSc
  · have : (10 : Int) ^ 1 = 10 := by decide
    rw [if_neg (by decide), if_pos rfl]
    omega
  · have : (10 : Int) ^ 2 = 100 := by decide
    rw [if_neg (by decide), if_neg (by decide), if_pos rfl]
    omega
  · have : (10 : Int) ^ 3 = 1000 := by decide
    rw [if_neg (by decide), if_neg (by decide), if_neg (by decide)]
    omega
theorem m_l228 {K : Int → Option (Int × Int)} {v : Int} {p : Nat} (hp : p ≤ 3) : f_X6_isNumber_l228 K zN v (p : Int) = K (mSc p * v) := by
  obtain ⟨m, hm⟩ : ∃ m, zN = m + 5 := ⟨zN - 5, by unfold zN; rfl⟩
  rw [hm]
  have : p = 0 ∨ p = 1 ∨ p = 2 ∨ p = 3 := by omega
  rcases this with e | e | e | e <;> subst e <;> unfold mSc
  · rw [f_X6_isNumber_l228_s, if_pos (by decide), f_X6_isNumber_l228_s, if_pos (by decide), f_X6_isNumber_l228_s, if_pos (by decide), f_X6_isNumber_l228_s, if_neg (by decide), if_pos rfl]
    congr 1
    omega
  · rw [f_X6_isNumber_l228_s, if_pos (by decide), f_X6_isNumber_l228_s, if_pos (by decide), f_X6_isNumber_l228_s, if_neg (by decide), if_neg (by decide), if_pos rfl]
    congr 1
    omega
  · rw [f_X6_isNumber_l228_s, if_pos (by decide), f_X6_isNumber_l228_s, if_neg (by decide), if_neg (by decide), if_neg (by decide), if_pos rfl]
  · rw [f_X6_isNumber_l228_s, if_neg (by decide), if_neg (by decide), if_neg (by decide), if_neg (by decide)]
    congr 1
    omega
theorem m_j224 {n i v good : Int} {st p : Nat} (hp : p ≤ 3) (hst : st = 0 ∨ st = 1) (hi : (0 ≤ i ∧ i ≤ 100) ∧ 0 ≤ n ∧ n ≤ 100) (hg : good = 0 ∨ good = 1) : f_X6_isNumber_j224 n i (st : Int) v good (p : Int) = some (if good = 1 ∧ i = n then 1 else 0, mSg st (mSc p * v)) := by
  unfold f_X6_isNumber_j224
  rw [m_l228 hp]
  have hz : ∀ x : Int, f_X6_isNumber_j261 x n i good = some (if good = 1 ∧ i = n then 1 else 0, x) := by
    intro x
    unfold f_X6_isNumber_j261 f_X6_isNumber_j278
    simp (disch := omega) only [meq]
    rcases hg with e | e <;> subst e
    · rw [if_pos rfl, if_neg (by omega)]
    · rw [if_neg (by decide)]
      by_cases q : i = n
      · rw [if_pos q, if_pos ⟨rfl, q⟩]
      · rw [if_neg q, if_neg (fun h => q h.2)]
  rw [hz, hz]
  unfold mSg
  rcases hst with e | e <;> subst e
  · rw [if_pos (show zI ((0 : Nat) : Int) = zI 0 by decide), if_neg (show ¬ (0 : Nat) = 1 by decide)]
  · rw [if_neg (show ¬ zI ((1 : Nat) : Int) = zI 0 by decide), if_pos (show (1 : Nat) = 1 from rfl)]
/-- what the reference makes of a cell -/
theorem m_isNumber {L : List Int} {cs ce : Nat → Int} {a : Int} {st w p : Nat} (hl : L.length ≤ 60) (hr : ∀ x ∈ L, 32 ≤ x ∧ x ≤ 126) (ha : 0 ≤ a ∧ a < 336) (hn : cs a.toNat = (L.length : Int)) (hc : ∀ i : Nat, i < L.length → ce (a.toNat * 60 + i) = L.getD i 0) (hst : st = if L.getD 0 0 = 45 then 1 else 0)
    (h1 : ∀ i : Nat, i < w → mDig (L.getD (st + i) 0)) (h2 : w = 6 ∨ w < 6 ∧ ¬ mDig (L.getD (st + w) 0)) (h3 : st + w ≤ L.length)
    (hp : L.getD (st + w) 0 = 46 → (∀ i : Nat, i < p → mDig (L.getD (st + w + 1 + i) 0)) ∧ (p = 3 ∨ p < 3 ∧ ¬ mDig (L.getD (st + w + 1 + p) 0)) ∧ st + w + 1 + p ≤ L.length) :
    f_X6_isNumber cs ce a = some (if L.getD (st + w) 0 = 46 then (if 0 < w ∧ 0 < p ∧ st + w + 1 + p = L.length then 1 else 0, mSg st (mSc p * mNx L (st + w + 1) (mNx L st 0 w) p)) else (if 0 < w ∧ st + w = L.length then 1 else 0, mSg st (1000 * mNx L st 0 w))) := by
  have hst2 : st = 0 ∨ st = 1 := by
    rw [hst]; split
    · exact Or.inr rfl
    · exact Or.inl rfl
  have hw6 : w ≤ 6 := by omega
  have e41 : f_X6_isNumber cs ce a = f_X6_isNumber_j41 (st : Int) a (L.length : Int) (st : Int) ce := by
    unfold f_X6_isNumber f_X6_isNumber_j29 f_X6_isNumber_j30
    rw [mrd (by omega), mrd (by omega), hn]
    simp (disch := omega) only [mlt]
    by_cases q : (0 : Int) < (L.length : Int)
    · have e := hc 0 (by omega)
      have r0 := mgetD_r hr 0
      rw [if_pos q, show (60 * a).toNat = a.toNat * 60 + 0 by omega, e]
      simp (disch := omega) only [meq]
      by_cases q2 : L.getD 0 0 = 45
      · rw [if_pos q2] at hst
        subst hst
        rw [if_pos q2, if_pos (by decide)]
        rfl
      · rw [if_neg q2] at hst
        subst hst
        rw [if_neg q2, if_neg (by decide)]
        rfl
    · rw [if_neg q, if_neg (by decide)]
      rw [mgetD_out (by omega), if_neg (by decide)] at hst
      subst hst
      rfl
  rw [e41]
  unfold f_X6_isNumber_j41
  rw [m_l49 hl hr ha hc h1 h2 h3]
  unfold f_X6_isNumber_j108
  have h119 : ∀ good : Int, (good = 0 ∨ good = 1) → (good = 1 ↔ 0 < w) → f_X6_isNumber_j119 good a (L.length : Int) ((st + w : Nat) : Int) (st : Int) (mNx L st 0 w) ce = some (if L.getD (st + w) 0 = 46 then (if 0 < w ∧ 0 < p ∧ st + w + 1 + p = L.length then 1 else 0, mSg st (mSc p * mNx L (st + w + 1) (mNx L st 0 w) p)) else (if 0 < w ∧ st + w = L.length then 1 else 0, mSg st (1000 * mNx L st 0 w))) := by
    intro good hg hg2
    unfold f_X6_isNumber_j119
    have e224 := m_j224 (n := (L.length : Int)) (i := ((st + w : Nat) : Int)) (v := mNx L st 0 w) (good := good) (st := st) (p := 0) (by omega) hst2 (by omega) hg
    have e1000 : mSc 0 = 1000 := rfl
    rw [e1000, show (((0 : Nat)) : Int) = 0 from rfl] at e224
    have hfl : (if good = 1 ∧ ((st + w : Nat) : Int) = (L.length : Int) then (1 : Int) else 0) = if 0 < w ∧ st + w = L.length then 1 else 0 := by
      by_cases q : 0 < w ∧ st + w = L.length
      · rw [if_pos q, if_pos ⟨hg2.mpr q.1, by omega⟩]
      · rw [if_neg q, if_neg (fun h => q ⟨hg2.mp h.1, by omega⟩)]
    rw [hfl] at e224
    simp (disch := omega) only [mlt]
    by_cases q : ((st + w : Nat) : Int) < (L.length : Int)
    · have e := hc (st + w) (by omega)
      have r0 := mgetD_r hr (st + w)
      rw [if_pos q, mrd (by omega), show (60 * a + ((st + w : Nat) : Int)).toNat = a.toNat * 60 + (st + w) by omega, e]
      simp (disch := omega) only [meq]
      by_cases q2 : L.getD (st + w) 0 = 46
      · obtain ⟨p1, p2, p3⟩ := hp q2
        rw [if_pos q2, if_pos q2, show ((st + w : Nat) : Int) + 1 = ((st + w + 1 : Nat) : Int) by omega, m_l148 hl hr ha hc p1 p2 p3]
        unfold f_X6_isNumber_j207 f_X6_isNumber_j221 f_X6_isNumber_j222
        have e2 := fun (g : Int) (hg : g = 0 ∨ g = 1) => m_j224 (n := (L.length : Int)) (i := ((st + w + 1 + p : Nat) : Int)) (v := mNx L (st + w + 1) (mNx L st 0 w) p) (good := g) (st := st) (p := p) (by omega) hst2 (by omega) hg
        simp (disch := omega) only [meq, mlt]
        rw [e2 0 (Or.inl rfl), e2 1 (Or.inr rfl)]
        rw [if_neg (show ¬ ((0 : Int) = 1 ∧ ((st + w + 1 + p : Nat) : Int) = (L.length : Int)) from fun h => absurd h.1 (by decide))]
        by_cases q3 : good = 0
        · rw [if_pos q3, if_neg (show ¬ (0 < w ∧ 0 < p ∧ st + w + 1 + p = L.length) from fun h => by have := hg2.mpr h.1; omega)]
        · rw [if_neg q3]
          have hg1 : good = 1 := by omega
          have hw0 := hg2.mp hg1
          by_cases q4 : (0 : Int) < (p : Int)
          · rw [if_pos q4]
            by_cases q5 : st + w + 1 + p = L.length
            · rw [if_pos (show (1 : Int) = 1 ∧ ((st + w + 1 + p : Nat) : Int) = (L.length : Int) from ⟨rfl, by omega⟩), if_pos ⟨hw0, by omega, q5⟩]
            · rw [if_neg (show ¬ ((1 : Int) = 1 ∧ ((st + w + 1 + p : Nat) : Int) = (L.length : Int)) from fun h => q5 (by omega)), if_neg (fun h => q5 h.2.2)]
          · rw [if_neg q4, if_neg (fun h => q4 (by omega))]
      · rw [if_neg q2, if_neg q2, e224]
    · rw [if_neg q, if_neg (by rw [mgetD_out (by omega)]; decide), e224]
  simp (disch := omega) only [mlt]
  by_cases q : (st : Int) < ((st + w : Nat) : Int)
  · rw [if_pos q]
    exact h119 1 (Or.inr rfl) ⟨fun _ => by omega, fun _ => rfl⟩
  · rw [if_neg q]
    exact h119 0 (Or.inl rfl) ⟨fun h => by omega, fun h => by omega⟩
/-- what the class makes of a cell -/
theorem m_valueOf {L : List Int} {by_ ln : Nat → Int} {rows r c : Int} {st w p : Nat} (hl : L.length ≤ 60) (hr : ∀ x ∈ L, 32 ≤ x ∧ x ≤ 126) (hb : ∀ i : Int, 0 ≤ i ∧ i < 2147483648 → f_X4_byteOf by_ ln rows r c i = some (L.getD i.toNat 0)) (hn : f_X4_lengthOf ln rows r c = some (L.length : Int)) (hst : st = if L.getD 0 0 = 45 then 1 else 0)
    (hw : mRun L st w) (h3 : st + w ≤ L.length) (hp : L.getD (st + w) 0 = 46 → mRun L (st + w + 1) p ∧ st + w + 1 + p ≤ L.length) :
    f_X4_valueOf by_ ln rows r c = some (if w < 1 ∨ 6 < w then -2000000000 else if L.getD (st + w) 0 = 46 then (if p < 1 ∨ 3 < p then -2000000000 else if st + w + 1 + p = L.length then mSg st (1000 * mNx L st 0 w + mSc p * mNx L (st + w + 1) 0 p) else -2000000000) else if st + w = L.length then mSg st (1000 * mNx L st 0 w) else -2000000000) := by
  have hst2 : st = 0 ∨ st = 1 := by
    rw [hst]; split
    · exact Or.inr rfl
    · exact Or.inl rfl
  have r0 := mgetD_r hr 0
  have r1 := mgetD_r hr (st + w)
  have e17 : f_X4_valueOf by_ ln rows r c = f_X4_valueOf_j17 (st : Int) r c by_ ln rows := by
    unfold f_X4_valueOf
    rw [hb 0 (by omega), mzb, show (0 : Int).toNat = 0 from rfl]
    simp (disch := omega) only [meq]
    by_cases q : L.getD 0 0 = 45
    · rw [if_pos q] at hst
      subst hst
      rw [if_pos q]
      rfl
    · rw [if_neg q] at hst
      subst hst
      rw [if_neg q]
      rfl
  rw [e17]
  unfold f_X4_valueOf_j17
  rw [m_count hl hr hb hw h3, mzb]
  simp (disch := omega) only [mlt]
  by_cases q1 : w < 1
  · rw [if_pos (by omega), if_pos (Or.inl q1)]
  · rw [if_neg (by omega)]
    by_cases q2 : 6 < w
    · rw [if_pos (by omega), if_pos (Or.inr q2)]
    · rw [if_neg (by omega), if_neg (by omega), m_readD hl hb h3, hb _ (by omega), mzb, mzb, show ((st : Int) + (w : Int)).toNat = st + w by omega]
      simp (disch := omega) only [meq]
      have e158 : ∀ (x : Int) (i : Nat), i ≤ 100 → f_X4_valueOf_j158 r c (st : Int) x (i : Int) ln rows = some (if i = L.length then mSg st x else -2000000000) := by
        intro x i hi
        unfold f_X4_valueOf_j158 mSg
        rw [hn, mzb]
        simp (disch := omega) only [meq]
        by_cases q : i = L.length
        · rw [if_pos (by omega), if_pos q]
          rcases hst2 with e | e <;> subst e
          · rw [if_neg (by decide), if_neg (by decide)]
          · rw [if_pos (by decide), if_pos rfl]
        · rw [if_neg (by omega), if_neg q]
      by_cases q3 : L.getD (st + w) 0 = 46
      · obtain ⟨p1, p2⟩ := hp q3
        rw [if_pos q3, if_pos q3, show (st : Int) + (w : Int) + 1 = ((st + w + 1 : Nat) : Int) by omega, m_count hl hr hb p1 p2, mzb]
        simp (disch := omega) only [meq, mlt]
        by_cases q4 : p < 1
        · rw [if_pos (by omega), if_pos (Or.inl q4)]
        · rw [if_neg (by omega)]
          by_cases q5 : 3 < p
          · rw [if_pos (by omega), if_pos (Or.inr q5)]
          · rw [if_neg (show ¬ (3 : Int) < (p : Int) by omega), if_neg (show ¬ (p < 1 ∨ 3 < p) by omega)]
            unfold f_X4_valueOf_j127
            rw [show (st : Int) + (w : Int) + 1 = ((st + w + 1 : Nat) : Int) by omega, m_readD hl hb p2]
            simp only [mzb]
            rw [show (st : Int) + (w : Int) + (1 + (p : Int)) = ((st + w + 1 + p : Nat) : Int) by omega, e158 _ _ (by omega), e158 _ _ (by omega), e158 _ _ (by omega)]
            unfold mSc
            rw [if_neg (show ¬ p = 0 by omega)]
            by_cases q6 : p = 1
            · rw [if_pos (by omega), if_pos q6]
            · rw [if_neg (by omega), if_neg q6]
              by_cases q7 : p = 2
              · rw [if_pos (by omega), if_pos q7]
              · rw [if_neg (by omega), if_neg q7]
      · rw [if_neg q3, if_neg q3, show (st : Int) + (w : Int) = ((st + w : Nat) : Int) by omega, e158 _ _ (by omega)]
