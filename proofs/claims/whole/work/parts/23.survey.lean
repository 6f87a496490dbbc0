/-! the class's survey of a block -/
theorem mgetD_app {l : List Int} {x : Int} {k : Nat} (h : k < l.length) : (l ++ [x]).getD k 0 = l.getD k 0 := by
  simp [List.getD_eq_getElem?_getD, List.getElem?_append_left h]
theorem mgetD_last {l : List Int} {x : Int} : (l ++ [x]).getD l.length 0 = x := by
  simp [List.getD_eq_getElem?_getD]
theorem mgetD_mem {l : List Int} {k : Nat} (h : k < l.length) : l.getD k 0 ∈ l := by
  rw [List.getD_eq_getElem?_getD, List.getElem?_eq_getElem h]
  exact List.getElem_mem h
theorem mBk_app {B : Int → Int → Int} {l : List Int} {by0 by1 nol : Nat → Int} {pc x : Int} (h : mBk B l by0 nol pc) (h1 : ∀ p : Int, 0 ≤ p → p < 60 → by1 (pc * 60 + p).toNat = mnb (B x p)) (h2 : ∀ j : Nat, (j : Int) < pc * 60 → by1 j = by0 j) : mBk B (l ++ [x]) by1 (zu nol pc x) (pc + 1) := by
  obtain ⟨e, h⟩ := h
  refine ⟨by rw [List.length_append]; simp; omega, fun k hk => ?_⟩
  rw [List.length_append] at hk
  simp only [List.length_cons, List.length_nil] at hk
  by_cases hl : k < l.length
  · obtain ⟨h3, h4⟩ := h k hl
    rw [mgetD_app hl]
    refine ⟨by rw [mzu_other (by omega)]; exact h3, fun p p1 p2 => ?_⟩
    rw [h2 _ (by omega)]
    exact h4 p p1 p2
  · have hk2 : k = l.length := by omega
    subst hk2
    rw [mgetD_last]
    refine ⟨mzu_same (by omega), fun p p1 p2 => ?_⟩
    rw [show ((l.length : Int) * 60 + p) = pc * 60 + p by omega]
    exact h1 p p1 p2
theorem m_survey_l {pb pl : Nat → Int} {n a b : Int} {by0 nol0 : Nat → Int} {fr0 lr0 : Int} {K : (Nat → Int) → (Nat → Int) → Int → Int → Int → Int → Option ((Nat → Int) × (Nat → Int) × Int × Int × Int × Int × Int × Int × Int × (Nat → Int) × (Nat → Int) × (Nat → Int))} {Q : Option ((Nat → Int) × (Nat → Int) × Int × Int × Int × Int × Int × Int × Int × (Nat → Int) × (Nat → Int) × (Nat → Int)) → Prop}
    (hg : mGood pb pl n) (ha : 0 ≤ a ∧ a ≤ b ∧ b < n) (hk : ∀ x : Int, a ≤ x → x ≤ b → ¬ mkd (mB pb pl x) (pl x.toNat) = 0)
    (hK : ∀ by1 nol pc rules fr lr, mBk (mB pb pl) (mLs (fun x => mkd (mB pb pl x) (pl x.toNat)) a (b + 1 - a).toNat) by1 nol pc → rules = (b + 1 - a) - pc → mRu (fun x => mkd (mB pb pl x) (pl x.toNat)) a (b + 1) rules fr lr → Q (K by1 nol pc rules fr lr)) : Q (f_X0_survey_l13 K b pb pl zN a by0 nol0 0 0 fr0 lr0) := by
  have hn := hg.1
  generalize hkd : (fun x => mkd (mB pb pl x) (pl x.toNat)) = kd at hK
  have hkd' : ∀ x, mkd (mB pb pl x) (pl x.toNat) = kd x := fun x => by rw [← hkd]
  refine mloop (L := fun n i (s : (Nat → Int) × (Nat → Int) × Int × Int × Int × Int) => f_X0_survey_l13 K b pb pl n i s.1 s.2.1 s.2.2.1 s.2.2.2.1 s.2.2.2.2.1 s.2.2.2.2.2) (Q := Q) (hi := b + 1) (P := fun i s => a ≤ i ∧ mBk (mB pb pl) (mLs kd a (i - a).toNat) s.1 s.2.1 s.2.2.1 ∧ s.2.2.2.1 = (i - a) - s.2.2.1 ∧ mRu kd a i s.2.2.2.1 s.2.2.2.2.1 s.2.2.2.2.2) ?_ ?_ zN a (by0, nol0, 0, 0, fr0, lr0) (by omega) (mzN (by omega)) ⟨by omega, ⟨?_, ?_⟩, ?_, Int.le_refl 0, fun _ y y1 y2 => by omega, fun h => ?_⟩
  · rintro m i ⟨by1, nol, pc, rules, fr, lr⟩ hi ⟨h0, h1, h2, h3⟩
    right
    try dsimp only at h1 h2 h3 ⊢
    have hlen := mLs_len kd a (i - a).toNat
    have hpc := h1.1
    have hk1 : kd i = 1 ∨ kd i = 2 := by
      have := mkd_in (mB pb pl i) (pl i.toNat)
      have h9 := hk i h0 (by omega)
      rw [hkd'] at this h9
      omega
    rw [f_X0_survey_l13_s, m_kindC hg (by omega), mzb, hkd']
    simp (disch := omega) only [mlt, meq, f_X0_survey_j46]
    rw [if_neg (by omega)]
    have ei : a + (((i - a).toNat : Nat) : Int) = i := by omega
    have en : (i + 1 - a).toNat = (i - a).toNat + 1 := by omega
    rcases hk1 with hk1 | hk1
    · rw [if_pos hk1]
      have el : mLs kd a (i + 1 - a).toNat = mLs kd a (i - a).toNat := by rw [en, mLs_n (by rw [ei]; omega)]
      by_cases hr : rules = 0
      · rw [if_pos hr]
        refine ⟨(by1, nol, pc, rules + 1, i, i), rfl, ?_⟩
        try dsimp only
        exact ⟨by omega, by rw [el]; exact h1, by (try dsimp only); omega, by (try dsimp only); omega, fun h => by (try dsimp only at h); omega, fun _ => ⟨⟨by omega, by omega, hk1, fun y y1 y2 => h3.2.1 hr y y1 y2⟩, by omega, by omega, hk1, fun y y1 y2 => by omega⟩⟩
      · rw [if_neg hr]
        have h30 := h3.1
        obtain ⟨⟨f1, f2, f3, f4⟩, l1, l2, l3, l4⟩ := h3.2.2 (by omega)
        refine ⟨(by1, nol, pc, rules + 1, fr, i), rfl, ?_⟩
        try dsimp only
        exact ⟨by omega, by rw [el]; exact h1, by (try dsimp only); omega, by (try dsimp only); omega, fun h => by (try dsimp only at h); omega, fun _ => ⟨⟨f1, by omega, f3, f4⟩, by omega, by omega, hk1, fun y y1 y2 => by omega⟩⟩
    · rw [if_neg (by omega)]
      obtain ⟨by2, e, b1, b2⟩ := m_takeLine (by0 := by1) (nol := nol) hg (show 0 ≤ i ∧ i < n by omega) (show 0 ≤ pc ∧ pc < 24 by omega)
      rw [e, mzb]
      have el : mLs kd a (i + 1 - a).toNat = mLs kd a (i - a).toNat ++ [i] := by rw [en, mLs_2 (by rw [ei]; exact hk1), ei]
      refine ⟨(by2, zu nol pc i, pc + 1, rules, fr, lr), rfl, ?_⟩
      try dsimp only
      refine ⟨by omega, by rw [el]; exact mBk_app h1 b1 b2, by (try dsimp only); omega, h3.1, fun hr y y1 y2 y3 => ?_, fun hr => ?_⟩
      · by_cases hy : y = i
        · subst hy; omega
        · exact h3.2.1 hr y y1 (by omega) y3
      · obtain ⟨⟨f1, f2, f3, f4⟩, l1, l2, l3, l4⟩ := h3.2.2 hr
        refine ⟨⟨f1, by omega, f3, f4⟩, l1, by omega, l3, fun y y1 y2 y3 => ?_⟩
        by_cases hy : y = i
        · subst hy; omega
        · exact l4 y y1 (by omega) y3
  · rintro m ⟨by1, nol, pc, rules, fr, lr⟩ ⟨h0, h1, h2, h3⟩
    try dsimp only at h1 h2 h3 ⊢
    rw [f_X0_survey_l13_s]
    simp (disch := omega) only [mlt]
    rw [if_pos (by omega)]
    exact hK by1 nol pc rules fr lr h1 h2 h3
  · (try dsimp only); rw [show (a - a).toNat = 0 by omega]; rfl
  · intro k hk; rw [show (a - a).toNat = 0 by omega] at hk; exact absurd hk (Nat.not_lt_zero _)
  · (try dsimp only); omega
  · try dsimp only at h
    omega
/-- ink of the k-th line that a block holds -/
theorem m_hasInk {B : Int → Int → Int} {l : List Int} {by_ nol : Nat → Int} {pc k p : Int} (h : mBk B l by_ nol pc) (hl : l.length ≤ 24) (hk : 0 ≤ k ∧ k < pc) (hp : 0 ≤ p ∧ p < 60) (hr : ∀ x ∈ l, 32 ≤ B x p ∧ B x p ≤ 126) : f_X0_hasInk by_ k p = some (mik B (l.getD k.toNat 0) p) := by
  obtain ⟨e, h⟩ := h
  obtain ⟨-, h2⟩ := h k.toNat (by omega)
  have h3 := h2 p hp.1 hp.2
  rw [show ((k.toNat : Nat) : Int) = k by omega] at h3
  have hm := hr _ (mgetD_mem (l := l) (k := k.toNat) (by omega))
  have hnb : 32 ≤ mnb (B (l.getD k.toNat 0) p) ∧ mnb (B (l.getD k.toNat 0) p) ≤ 126 := by unfold mnb; split <;> omega
  unfold f_X0_hasInk
  rw [m_pick_in ⟨by omega, by omega, by omega⟩, mzb, h3]
  simp (disch := omega) only [meq]
  by_cases h4 : mnb (B (l.getD k.toNat 0) p) = 32
  · rw [if_pos h4, mnb_32.mp h4]
  · rw [if_neg h4]
    rcases mik_b B (l.getD k.toNat 0) p with h5 | h5
    · exact absurd (mnb_32.mpr h5) h4
    · rw [h5]
theorem m_noOf {B : Int → Int → Int} {l : List Int} {by_ nol : Nat → Int} {pc k : Int} (h : mBk B l by_ nol pc) (hl : l.length ≤ 24) (hk : 0 ≤ k ∧ k < pc) : f_X5_pick 24 nol k = some (l.getD k.toNat 0) := by
  obtain ⟨e, h⟩ := h
  rw [m_pick_in ⟨by omega, by omega, by omega⟩, (h k.toNat (by omega)).1]
