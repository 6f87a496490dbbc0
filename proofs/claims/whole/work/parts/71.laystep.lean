/-! one more line on both pages -/
theorem mPg_ext {pb pl mp ms pb' mp' : Nat → Int} {pc n : Int} {f : Int → Int} (h : mPg pb pl pc mp ms pc) (hc : 0 ≤ pc ∧ pc < 24) (hn : 0 ≤ n ∧ n ≤ 60) (a1 : ∀ j : Nat, (j : Int) < pc * 60 → pb' j = pb j) (a2 : ∀ j : Int, 0 ≤ j → j < n → pb' (pc * 60 + j).toNat = f j) (a3 : ∀ j : Nat, (j : Int) < pc * 60 → mp' j = mp j) (a4 : ∀ j : Int, 0 ≤ j → j < n → mp' (pc * 60 + j).toNat = f j) (hf : ∀ j : Int, 0 ≤ j → j < n → 32 ≤ f j ∧ f j ≤ 126) : mPg pb' (zu pl pc n) (pc + 1) mp' (zu ms pc n) (pc + 1) := by
  have hg := h.2.1
  have es : zu pl pc n pc.toNat = n := mzu_same rfl
  have es2 : zu ms pc n pc.toNat = n := mzu_same rfl
  refine ⟨rfl, ⟨by omega, fun x x0 x1 => ?_⟩, fun x x0 x1 => ?_⟩
  · by_cases c : x = pc
    · subst c
      rw [es]
      refine ⟨hn, fun i i0 i1 => ?_⟩
      rw [a2 i i0 i1]
      exact hf i i0 i1
    · rw [mzu_other (by omega)]
      have hx := hg.2 x x0 (by omega)
      refine ⟨hx.1, fun i i0 i1 => ?_⟩
      rw [a1 _ (by omega)]
      exact hx.2 i i0 i1
  · by_cases c : x = pc
    · subst c
      rw [es, es2]
      refine ⟨rfl, fun i i0 i1 => ?_⟩
      rw [a2 i i0 i1, a4 i i0 i1]
    · rw [mzu_other (by omega), mzu_other (by omega)]
      have hx := h.2.2 x x0 (by omega)
      have hx2 := hg.2 x x0 (by omega)
      refine ⟨hx.1, fun i i0 i1 => ?_⟩
      rw [a1 _ (by omega), a3 _ (by omega)]
      exact hx.2 i i0 i1
theorem mWc_ok {T : Nat → List Int} {cols R D : Nat} {r : Int} (hc8 : cols ≤ 8) (hr40 : R ≤ 40) (hlen : ∀ s : Nat, s < 336 → (T s).length ≤ 60) (hr : 0 ≤ r ∧ r ≤ (R : Int) + 1) (hD : mRw (R : Int) r = (D : Int)) : ∀ d : Nat, d < cols → 1 ≤ mWc T R d ∧ ((T (D * 8 + d)).length : Int) ≤ mWc T R d := by
  intro d hd
  obtain ⟨⟨h1, h2⟩, h3⟩ := mWx_r (T := T) hc8 hr40 hlen hd (R + 2) (Nat.le_refl _)
  refine ⟨h1, ?_⟩
  have h4 := h3 r.toNat (by omega)
  rw [show ((r.toNat : Nat) : Int) = r by omega, hD, show ((D : Int) * 8 + (d : Int)).toNat = D * 8 + d by omega] at h4
  exact h4
/-- both lay a row -/
theorem m_row2 {cols R : Nat} {T : Nat → List Int} {tb tl ce cs wi on pb pl mp ms : Nat → Int} {pc r num : Int} (hc8 : 1 ≤ cols ∧ cols ≤ 8) (hr40 : R ≤ 40) (hlen : ∀ s : Nat, s < 336 → (T s).length ≤ 60) (ht : mTr1 T) (hv : mTv cols R T tb tl) (hw : mTv cols R T ce cs) (hwi : ∀ d : Nat, d < cols → wi d = mWc T R d) (hon : ∀ d : Nat, d < cols → mFlx (on d) (mNums T d R)) (hw60 : mLf (mWc T R) cols - 2 ≤ 60) (hr : 0 ≤ r ∧ r ≤ (R : Int) + 1) (hc : 0 ≤ pc ∧ pc < 24) (h : mPg pb pl pc mp ms pc) :
    ∃ pb' pl' mp' ms' n', f_X4_layRow tb tl (cols : Int) (R : Int) wi on (mLf (mWc T R) cols - 2) pb pl pc r = some (pb', pl', pc + 1) ∧ f_X6_layRow pc ms mp 1 (R : Int) (cols : Int) cs ce num r = some (pc + 1, ms', mp', n') ∧ mPg pb' pl' (pc + 1) mp' ms' (pc + 1) := by
  obtain ⟨D, hD⟩ : ∃ D : Nat, mRw (R : Int) r = (D : Int) := ⟨(mRw (R : Int) r).toNat, by unfold mRw; split <;> omega⟩
  have hW := mWc_ok (T := T) hc8.2 hr40 hlen hr hD
  have hW1 : ∀ d : Nat, d < cols → 1 ≤ mWc T R d := fun d hd => (hW d hd).1
  have hlw : 1 ≤ mLf (mWc T R) cols - 2 := by
    have h1 := mLf_mono hW1 (a := 1) cols hc8.1 (Nat.le_refl _)
    have h2 : mLf (mWc T R) 1 = 0 + mWc T R 0 + 2 := rfl
    have := hW1 0 (by omega)
    omega
  obtain ⟨pb', e1, a1, a2⟩ := m_layRowC (W := mWc T R) (pb := pb) (pl := pl) hc8 hr40 hlen hv hr hD hW hwi (fun d hd => mFlx_b (hon d hd)) hw60 hc
  obtain ⟨mp', n', e2, a3, a4⟩ := m_layRowM (mp := mp) (ms := ms) (num := num) hc8 hr40 hlen ht hw hr hD hW hon hw60 hc
  exact ⟨pb', _, mp', _, n', e1, e2, mPg_ext h hc ⟨by omega, hw60⟩ a1 a2 a3 a4 (fun j _ _ => mLy_r ht cols)⟩
/-- both lay a rule -/
theorem m_rule2 {pb pl mp ms : Nat → Int} {pc n : Int} (hn : 0 ≤ n ∧ n ≤ 60) (hc : 0 ≤ pc ∧ pc < 24) (h : mPg pb pl pc mp ms pc) :
    ∃ pb' pl' mp' ms', f_X2_addLine pb pl pc (zmax 3 n) 45 = some (pc, pb', pl', pc + 1) ∧ f_X6_layRule pc ms mp n = some (pc + 1, ms', mp') ∧ mPg pb' pl' (pc + 1) mp' ms' (pc + 1) := by
  obtain ⟨k, hk, hk2⟩ : ∃ k : Int, k = (if n < 3 then 3 else n) ∧ 3 ≤ k ∧ k ≤ 60 := ⟨_, rfl, by split <;> omega⟩
  have ez : zmax 3 n = k := by
    rw [mmax (by omega), hk]
    by_cases q : n < 3
    · rw [if_neg (by omega), if_pos q]
    · rw [if_neg q]
      by_cases q2 : (3 : Int) < n
      · rw [if_pos q2]
      · rw [if_neg q2]; omega
  obtain ⟨pb', e1, a1, a2⟩ := m_addLineB (pb := pb) (pl := pl) (pc := pc) (n := k) (b := 45) hc (by omega)
  have e2 : ∃ mp', f_X6_layRule_j10 k pc ms mp = some (pc + 1, zu ms pc k, mp') ∧ (∀ j : Nat, (j : Int) < pc * 60 → mp' j = mp j) ∧ ∀ j : Int, 0 ≤ j → j < k → mp' (pc * 60 + j).toNat = 45 := by
    unfold f_X6_layRule_j10
    refine mloop (L := fun m i (q : Nat → Int) => f_X6_layRule_l13 (fun (t_page_3 : (Nat → Int)) => zwr ms 24 pc k (fun t_size_4 => some ((pc + 1), t_size_4, t_page_3))) k pc m i q) (Q := fun x => ∃ mp', x = some (pc + 1, zu ms pc k, mp') ∧ (∀ j : Nat, (j : Int) < pc * 60 → mp' j = mp j) ∧ ∀ j : Int, 0 ≤ j → j < k → mp' (pc * 60 + j).toNat = 45) (hi := k) (P := fun i q => 0 ≤ i ∧ (∀ j : Nat, (j : Int) < pc * 60 → q j = mp j) ∧ ∀ j : Int, 0 ≤ j → j < i → q (pc * 60 + j).toNat = 45) ?_ ?_ zN 0 mp (by omega) (mzN (by omega)) ⟨by omega, fun _ _ => rfl, fun j h1 h2 => by omega⟩
    · rintro m i q hi ⟨i0, i1, i2⟩
      right
      rw [f_X6_layRule_l13_s, mwr (by omega)]
      simp (disch := omega) only [mlt]
      rw [if_pos hi]
      refine ⟨_, rfl, by omega, fun j hj => ?_, fun j h1 h2 => ?_⟩
      · rw [mzu_other (by omega)]; exact i1 j hj
      · by_cases e : j = i
        · rw [mzu_same (by omega)]
        · rw [mzu_other (by omega)]; exact i2 j h1 (by omega)
    · rintro m q ⟨i0, i1, i2⟩
      rw [f_X6_layRule_l13_s]
      simp (disch := omega) only [mlt]
      rw [if_neg (by omega), mwr (by omega)]
      exact ⟨q, rfl, i1, i2⟩
  obtain ⟨mp', e2, a3, a4⟩ := e2
  refine ⟨pb', zu pl pc k, mp', zu ms pc k, by rw [ez]; exact e1, ?_, mPg_ext (f := fun _ => 45) h hc (by omega) a1 a2 a3 a4 (fun j _ _ => by omega)⟩
  unfold f_X6_layRule
  simp (disch := omega) only [mlt]
  by_cases q : n < 3
  · rw [if_pos q] at hk ⊢
    rw [hk] at e2 ⊢
    exact e2
  · rw [if_neg q] at hk ⊢
    rw [hk] at e2 ⊢
    exact e2
/-- both lay the rows of the body -/
theorem m_rows2 {cols R : Nat} {T : Nat → List Int} {tb tl ce cs wi on : Nat → Int} {K : (Nat → Int) → (Nat → Int) → Int → Option ((Nat → Int) × (Nat → Int) × Int)} {K2 : Int → (Nat → Int) → (Nat → Int) → Int → Option (Int × Int × (Nat → Int) × (Nat → Int) × Int)} (hc8 : 1 ≤ cols ∧ cols ≤ 8) (hr40 : R ≤ 40) (hlen : ∀ s : Nat, s < 336 → (T s).length ≤ 60) (ht : mTr1 T) (hv : mTv cols R T tb tl) (hw : mTv cols R T ce cs) (hwi : ∀ d : Nat, d < cols → wi d = mWc T R d) (hon : ∀ d : Nat, d < cols → mFlx (on d) (mNums T d R)) (hw60 : mLf (mWc T R) cols - 2 ≤ 60) :
    ∀ (k n m : Nat) (pb pl mp ms : Nat → Int) (pc i num : Int), k < n → k < m → i = (R : Int) + 1 - (k : Int) → 1 ≤ i → 0 ≤ pc → pc + (k : Int) ≤ 24 → mPg pb pl pc mp ms pc →
      ∃ pb' pl' mp' ms' n', f_X4_layOn_l44 K tb tl (cols : Int) (R : Int) wi on (mLf (mWc T R) cols - 2) n i pb pl pc = K pb' pl' (pc + (k : Int)) ∧ f_X6_lay_l132 K2 1 (R : Int) (cols : Int) cs ce m i pc ms mp num = K2 (pc + (k : Int)) ms' mp' n' ∧ mPg pb' pl' (pc + (k : Int)) mp' ms' (pc + (k : Int)) := by
  intro k
  induction k with
  | zero =>
    intro n m pb pl mp ms pc i num hn hm hi h1 h2 h3 h
    obtain ⟨n, rfl⟩ : ∃ n' : Nat, n = n' + 1 := ⟨n - 1, by omega⟩
    obtain ⟨m, rfl⟩ : ∃ n' : Nat, m = n' + 1 := ⟨m - 1, by omega⟩
    rw [f_X4_layOn_l44_s, f_X6_lay_l132_s]
    simp (disch := omega) only [mlt]
    rw [if_pos (by omega), if_pos (by omega), show pc + ((0 : Nat) : Int) = pc by omega]
    exact ⟨pb, pl, mp, ms, num, rfl, rfl, h⟩
  | succ k ih =>
    intro n m pb pl mp ms pc i num hn hm hi h1 h2 h3 h
    obtain ⟨n, rfl⟩ : ∃ n' : Nat, n = n' + 1 := ⟨n - 1, by omega⟩
    obtain ⟨m, rfl⟩ : ∃ n' : Nat, m = n' + 1 := ⟨m - 1, by omega⟩
    obtain ⟨pb1, pl1, mp1, ms1, n1, e1, e2, h'⟩ := m_row2 (pb := pb) (pl := pl) (mp := mp) (ms := ms) (pc := pc) (r := i) (num := num) hc8 hr40 hlen ht hv hw hwi hon hw60 (by omega) (by omega) h
    rw [f_X4_layOn_l44_s, f_X6_lay_l132_s, e1, e2]
    simp (disch := omega) only [mlt, mzb]
    rw [if_neg (by omega), if_neg (by omega)]
    obtain ⟨pb2, pl2, mp2, ms2, n2, e3, e4, h2'⟩ := ih n m pb1 pl1 mp1 ms1 (pc + 1) (i + 1) n1 (by omega) (by omega) (by omega) (by omega) (by omega) (by omega) h'
    rw [e3, e4, show pc + 1 + (k : Int) = pc + ((k + 1 : Nat) : Int) by omega] at *
    exact ⟨pb2, pl2, mp2, ms2, n2, rfl, rfl, h2'⟩
