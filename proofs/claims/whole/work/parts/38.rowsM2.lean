/-! the rows of a block as the reference reads them, whole -/
theorem mLs_full {k : Int → Int} {a : Int} {n : Nat} (h : ∀ y : Int, a ≤ y → y < a + (n : Int) → k y = 2) : (mLs k a n).length = n := by
  induction n with
  | zero => rfl
  | succ n ih =>
    rw [mLs_2 (h _ (by omega) (by omega)), List.length_append, ih (fun y h1 h2 => h y h1 (by omega))]
    rfl
theorem mLs_miss {k : Int → Int} {a y : Int} {n : Nat} (h1 : a ≤ y) (h2 : y < a + (n : Int)) (hk : ¬ k y = 2) : (mLs k a n).length + 1 ≤ n := by
  induction n with
  | zero => omega
  | succ n ih =>
    by_cases e : y = a + (n : Int)
    · rw [mLs_n (by rw [← e]; exact hk)]
      have := mLs_len k a n
      omega
    · have := ih (by omega)
      by_cases e2 : k (a + (n : Int)) = 2
      · rw [mLs_2 e2, List.length_append]
        simp
        omega
      · rw [mLs_n e2]; omega
theorem mLs_miss2 {k : Int → Int} {a y z : Int} {n : Nat} (h1 : a ≤ y) (h3 : y < z) (h2 : z < a + (n : Int)) (hk : ¬ k y = 2) (hz : ¬ k z = 2) : (mLs k a n).length + 2 ≤ n := by
  induction n with
  | zero => omega
  | succ n ih =>
    by_cases e : z = a + (n : Int)
    · rw [mLs_n (by rw [← e]; exact hz)]
      have := mLs_miss (n := n) h1 (by omega) hk
      omega
    · have := ih (by omega)
      by_cases e2 : k (a + (n : Int)) = 2
      · rw [mLs_2 e2, List.length_append]
        simp
        omega
      · rw [mLs_n e2]; omega
theorem m_rowsM_0 {K : (Nat → Int) → Option (Int × (Nat → Int) × (Nat → Int) × Int × Int × Int × Int × Int)} {Q : Option (Int × (Nat → Int) × (Nat → Int) × Int × Int × Int × Int × Int) → Prop} {tb tl0 : Nat → Int} (hK : ∀ tl, mTb (fun _ => []) tb tl → Q (K tl)) : Q (f_X6_readRows_l2 K zN 0 tl0) := by
  refine mloop (L := fun m i q => f_X6_readRows_l2 K m i q) (Q := Q) (hi := 336) (P := fun i q => 0 ≤ i ∧ ∀ s : Nat, (s : Int) < i → q s = 0) ?_ ?_ zN 0 tl0 (by omega) (mzN (by omega)) ⟨by omega, fun s h => by omega⟩
  · rintro m i q hi ⟨i0, i1⟩
    right
    rw [f_X6_readRows_l2_s]
    simp (disch := omega) only [mlt]
    rw [if_pos hi, mwr (by omega)]
    refine ⟨_, rfl, by omega, fun s h => ?_⟩
    by_cases e : s = i.toNat
    · subst e; rw [mzu_same (by omega)]
    · rw [mzu_other (by omega)]; exact i1 s (by omega)
  · rintro m q ⟨i0, i1⟩
    rw [f_X6_readRows_l2_s]
    simp (disch := omega) only [mlt]
    rw [if_neg (by omega)]
    refine hK q (fun s hs => ⟨?_, by simp, fun i h => ?_⟩)
    · rw [i1 s (by omega)]; rfl
    · simp at h
theorem m_rowsM_1 {kd : Int → Int} {a b : Int} {pf : Nat → Int} {K : Int → Option (Int × (Nat → Int) × (Nat → Int) × Int × Int × Int × Int × Int)} {Q : Option (Int × (Nat → Int) × (Nat → Int) × Int × Int × Int × Int × Int) → Prop} (hm : mMk kd a b pf) (ha : 0 ≤ a ∧ a ≤ b ∧ b < 24) (hK : ∀ f : Int, a ≤ f → f ≤ b + 1 → (∀ y : Int, a ≤ y → y < f → kd y = 2) → (f ≤ b → ¬ kd f = 2) → Q (K f)) : Q (f_X6_readRows_l83 K b pf zN a) := by
  refine mloop (L := fun m i (_ : Unit) => f_X6_readRows_l83 K b pf m i) (Q := Q) (hi := b + 1) (P := fun i _ => a ≤ i ∧ ∀ y : Int, a ≤ y → y < i → kd y = 2) ?_ ?_ zN a () (by omega) (mzN (by omega)) ⟨by omega, fun y h1 h2 => by omega⟩
  · rintro m i _ hi ⟨i0, i1⟩
    rw [f_X6_readRows_l83_s, mrd (by omega), hm i i0 (by omega)]
    by_cases k2 : kd i = 2
    · right
      simp only [if_pos k2]
      simp (disch := omega) only [mlt, meq]
      rw [if_neg (by omega), if_neg (by decide)]
      refine ⟨(), rfl, by omega, fun y h1 h2 => ?_⟩
      by_cases e : y = i
      · rw [e]; exact k2
      · exact i1 y h1 (by omega)
    · left
      simp only [if_neg k2]
      simp (disch := omega) only [mlt, meq]
      rw [if_neg (by omega), if_pos trivial]
      exact hK i i0 (by omega) i1 (fun _ => k2)
  · rintro m _ ⟨i0, i1⟩
    rw [f_X6_readRows_l83_s]
    simp (disch := omega) only [mlt]
    rw [if_pos (by omega)]
    exact hK (b + 1) i0 (by omega) i1 (fun h => by omega)
theorem m_rowsM_2 {kd : Int → Int} {a b : Int} {pf : Nat → Int} {K : Int → Option (Int × (Nat → Int) × (Nat → Int) × Int × Int × Int × Int × Int)} {Q : Option (Int × (Nat → Int) × (Nat → Int) × Int × Int × Int × Int × Int) → Prop} (hm : mMk kd a b pf) (ha : 0 ≤ a ∧ a ≤ b ∧ b < 24) (hK : ∀ f : Int, a - 1 ≤ f → f ≤ b → (∀ y : Int, f < y → y ≤ b → kd y = 2) → (a ≤ f → ¬ kd f = 2) → Q (K f)) : Q (f_X6_readRows_l106 K a pf zN b) := by
  refine mloopD (L := fun m i (_ : Unit) => f_X6_readRows_l106 K a pf m i) (Q := Q) (lo := a) (P := fun i _ => i ≤ b ∧ ∀ y : Int, i < y → y ≤ b → kd y = 2) ?_ ?_ zN b () (by omega) (mzN (by omega)) ⟨by omega, fun y h1 h2 => by omega⟩
  · rintro m i _ hi ⟨i0, i1⟩
    rw [f_X6_readRows_l106_s, mrd (by omega), hm i hi i0]
    by_cases k2 : kd i = 2
    · right
      simp only [if_pos k2]
      simp (disch := omega) only [mlt, meq]
      rw [if_neg (by omega), if_neg (by decide)]
      refine ⟨(), by rw [show i + -1 = i - 1 by omega], by omega, fun y h1 h2 => ?_⟩
      by_cases e : y = i
      · rw [e]; exact k2
      · exact i1 y (by omega) h2
    · left
      simp only [if_neg k2]
      simp (disch := omega) only [mlt, meq]
      rw [if_neg (by omega), if_pos trivial]
      exact hK i (by omega) i0 i1 (fun _ => k2)
  · rintro m _ ⟨i0, i1⟩
    rw [f_X6_readRows_l106_s]
    simp (disch := omega) only [mlt]
    rw [if_pos (by omega)]
    exact hK (a - 1) (by omega) (by omega) i1 (fun h => by omega)
/-- lines found in a part of a block: some or none -/
theorem m_someIn {kd : Int → Int} {a b f t : Int} (hf : a ≤ f ∧ f ≤ t + 1 ∧ t ≤ b) : (0 : Int) < ((mLs kd f (t + 1 - f).toNat).length : Int) ↔ ∃ x ∈ mLs kd a (b + 1 - a).toNat, f ≤ x ∧ x ≤ t := by
  constructor
  · intro h
    have h0 : 0 < (mLs kd f (t + 1 - f).toNat).length := by omega
    have hx := List.getElem_mem h0
    obtain ⟨h1, h2⟩ := mLs_mem.mp hx
    exact ⟨_, mLs_mem.mpr ⟨by omega, h2⟩, by omega, by omega⟩
  · rintro ⟨x, hx, h1, h2⟩
    have hk := (mLs_mem.mp hx).2
    have : x ∈ mLs kd f (t + 1 - f).toNat := mLs_mem.mpr ⟨by omega, hk⟩
    have := List.length_pos_of_mem this
    omega
theorem m_rowsM_3 {kd : Int → Int} {a b fr lr : Int} {pf : Nat → Int} {ms mp ct tl tb : Nat → Int} {cols : Int} {Q : Option (Int × (Nat → Int) × (Nat → Int) × Int × Int × Int × Int × Int) → Prop} (hm : mMk kd a b pf) (ha : 0 ≤ a ∧ a ≤ b ∧ b < 24) (hb : ∀ x : Int, a ≤ x → x ≤ b → kd x = 1 ∨ kd x = 2)
    (h1 : (a ≤ fr ∧ fr ≤ b + 1) ∧ (∀ y : Int, a ≤ y → y < fr → kd y = 2) ∧ (fr ≤ b → ¬ kd fr = 2)) (h2 : (a - 1 ≤ lr ∧ lr ≤ b) ∧ (∀ y : Int, lr < y → y ≤ b → kd y = 2) ∧ (a ≤ lr → ¬ kd lr = 2))
    (hK : ∀ hd ft, mRu kd a (b + 1) (b - a + 1 - ((mLs kd a (b + 1 - a).toNat).length : Int)) fr lr → mFlx hd (0 < b - a + 1 - ((mLs kd a (b + 1 - a).toNat).length : Int) ∧ ∃ x ∈ mLs kd a (b + 1 - a).toNat, fr < x) → mFlx ft (0 < b - a + 1 - ((mLs kd a (b + 1 - a).toNat).length : Int) ∧ ∃ x ∈ mLs kd a (b + 1 - a).toNat, fr < x ∧ x < lr) → Q (f_X6_readRows_j176 ft fr lr hd ms mp a b pf cols ct tl tb 0 ((mLs kd a (b + 1 - a).toNat).length : Int) (b - a + 1 - ((mLs kd a (b + 1 - a).toNat).length : Int)) 0 0)) :
    Q (f_X6_readRows_j129 fr lr ms mp a b pf cols ct tl tb 0 ((mLs kd a (b + 1 - a).toNat).length : Int) (b - a + 1 - ((mLs kd a (b + 1 - a).toNat).length : Int)) 0 0) := by
  have hlen := mLs_len kd a (b + 1 - a).toNat
  have hfull := mLs_full (k := kd) (a := a) (n := (b + 1 - a).toNat)
  have hmiss := fun y => mLs_miss (k := kd) (a := a) (y := y) (n := (b + 1 - a).toNat)
  have hmiss2 := fun y z => mLs_miss2 (k := kd) (a := a) (y := y) (z := z) (n := (b + 1 - a).toNat)
  have hm1 := fun (_ : Unit) (hf : a ≤ fr ∧ fr ≤ b + 1 ∧ b ≤ b) => m_someIn (kd := kd) hf
  have hm2 := fun (_ : Unit) (hf : a ≤ fr ∧ fr ≤ lr + 1 ∧ lr ≤ b) => m_someIn (kd := kd) hf
  have hp1 := fun (_ : Unit) (hf : a ≤ fr ∧ fr ≤ b + 1 ∧ b ≤ b) => m_plainsIn hm ⟨ha.1, ha.2.2⟩ hf
  have hp2 := fun (_ : Unit) (hf : a ≤ fr ∧ fr ≤ lr + 1 ∧ lr ≤ b) => m_plainsIn hm ⟨ha.1, ha.2.2⟩ hf
  have hmem : ∀ x ∈ mLs kd a (b + 1 - a).toNat, (a ≤ x ∧ x ≤ b) ∧ kd x = 2 := fun x hx => by
    have := mLs_mem.mp hx
    exact ⟨by omega, this.2⟩
  generalize mLs kd a (b + 1 - a).toNat = L at *
  have hl1 := mLs_len kd fr (b + 1 - fr).toNat
  have hl2 := mLs_len kd fr (lr + 1 - fr).toNat
  have e153 : ∀ hd : Int, f_X6_readRows_j153 hd fr lr ms mp a b pf cols ct tl tb 0 (L.length : Int) (b - a + 1 - (L.length : Int)) 0 0 = (if 1 < b - a + 1 - (L.length : Int) then zb (f_X6_plainsIn pf fr lr) (fun o => if zI 0 < zI o then f_X6_readRows_j176 1 fr lr hd ms mp a b pf cols ct tl tb 0 (L.length : Int) (b - a + 1 - (L.length : Int)) 0 0 else f_X6_readRows_j176 0 fr lr hd ms mp a b pf cols ct tl tb 0 (L.length : Int) (b - a + 1 - (L.length : Int)) 0 0) else f_X6_readRows_j176 0 fr lr hd ms mp a b pf cols ct tl tb 0 (L.length : Int) (b - a + 1 - (L.length : Int)) 0 0) := by
    intro hd
    rw [f_X6_readRows_j153, f_X6_readRows_j175]
    simp (disch := omega) only [mlt]
  have e129 : f_X6_readRows_j129 fr lr ms mp a b pf cols ct tl tb 0 (L.length : Int) (b - a + 1 - (L.length : Int)) 0 0 = (if 0 < b - a + 1 - (L.length : Int) then zb (f_X6_plainsIn pf fr b) (fun o => if zI 0 < zI o then f_X6_readRows_j153 1 fr lr ms mp a b pf cols ct tl tb 0 (L.length : Int) (b - a + 1 - (L.length : Int)) 0 0 else f_X6_readRows_j153 0 fr lr ms mp a b pf cols ct tl tb 0 (L.length : Int) (b - a + 1 - (L.length : Int)) 0 0) else f_X6_readRows_j153 0 fr lr ms mp a b pf cols ct tl tb 0 (L.length : Int) (b - a + 1 - (L.length : Int)) 0 0) := by
    rw [f_X6_readRows_j129, f_X6_readRows_j152]
    simp (disch := omega) only [mlt]
  rw [e129]
  by_cases hR : 0 < b - a + 1 - (L.length : Int)
  · -- rules there are
    rw [if_pos hR, hp1 () (by omega)]
    have hfr : fr ≤ b := by
      apply Classical.byContradiction
      intro h
      have := hfull (fun y y1 y2 => h1.2.1 y y1 (by omega))
      omega
    have hlr : a ≤ lr := by
      apply Classical.byContradiction
      intro h
      have := hfull (fun y y1 y2 => h2.2.1 y (by omega) (by omega))
      omega
    have kf := h1.2.2 hfr
    have kl := h2.2.2 hlr
    have hle : fr ≤ lr := by
      apply Classical.byContradiction
      intro h
      exact kl (h1.2.1 lr hlr (by omega))
    have hru : mRu kd a (b + 1) (b - a + 1 - (L.length : Int)) fr lr := by
      refine ⟨by omega, fun h => by omega, fun _ => ⟨⟨by omega, by omega, ?_, ?_⟩, ⟨by omega, by omega, ?_, ?_⟩⟩⟩
      · exact (hb fr (by omega) hfr).resolve_right kf
      · intro y y1 y2 y3
        have := h1.2.1 y y1 y2
        omega
      · exact (hb lr hlr (by omega)).resolve_right kl
      · intro y y1 y2 y3
        have := h2.2.1 y y1 (by omega)
        omega
    have i1 : Unit → ((0 : Int) < ((mLs kd fr (b + 1 - fr).toNat).length : Int) ↔ (0 < b - a + 1 - (L.length : Int) ∧ ∃ x ∈ L, fr < x)) := by
      intro _
      rw [hm1 () (by omega)]
      constructor
      · rintro ⟨x, hx, x1, x2⟩
        refine ⟨hR, x, hx, ?_⟩
        have := (hmem x hx).2
        have : x ≠ fr := fun e => kf (by rw [← e]; exact this)
        omega
      · rintro ⟨_, x, hx, x1⟩
        exact ⟨x, hx, by omega, (hmem x hx).1.2⟩
    have i2 : Unit → ((0 : Int) < ((mLs kd fr (lr + 1 - fr).toNat).length : Int) ↔ (0 < b - a + 1 - (L.length : Int) ∧ ∃ x ∈ L, fr < x ∧ x < lr)) := by
      intro _
      rw [hm2 () (by omega)]
      constructor
      · rintro ⟨x, hx, x1, x2⟩
        have h3 := (hmem x hx).2
        have n1 : x ≠ fr := fun e => kf (by rw [← e]; exact h3)
        have n2 : x ≠ lr := fun e => kl (by rw [← e]; exact h3)
        exact ⟨hR, x, hx, by omega, by omega⟩
      · rintro ⟨_, x, hx, x1, x2⟩
        exact ⟨x, hx, by omega, by omega⟩
    have key : ∀ hd : Int, mFlx hd (0 < b - a + 1 - (L.length : Int) ∧ ∃ x ∈ L, fr < x) → Q (f_X6_readRows_j153 hd fr lr ms mp a b pf cols ct tl tb 0 (L.length : Int) (b - a + 1 - (L.length : Int)) 0 0) := by
      intro hd hh
      rw [e153]
      by_cases hR1 : 1 < b - a + 1 - (L.length : Int)
      · rw [if_pos hR1, hp2 () (by omega), mzb]
        simp (disch := omega) only [mlt]
        by_cases q : (0 : Int) < ((mLs kd fr (lr + 1 - fr).toNat).length : Int)
        · rw [if_pos q]
          exact hK hd 1 hru hh (Or.inr ⟨rfl, (i2 ()).mp q⟩)
        · rw [if_neg q]
          exact hK hd 0 hru hh (Or.inl ⟨rfl, fun h => q ((i2 ()).mpr h)⟩)
      · rw [if_neg hR1]
        refine hK hd 0 hru hh (Or.inl ⟨rfl, ?_⟩)
        rintro ⟨_, x, hx, x1, x2⟩
        have := hmiss2 fr lr (by omega) (by omega) (by omega) kf kl
        omega
    rw [mzb]
    simp (disch := omega) only [mlt]
    by_cases q : (0 : Int) < ((mLs kd fr (b + 1 - fr).toNat).length : Int)
    · rw [if_pos q]
      exact key 1 (Or.inr ⟨rfl, (i1 ()).mp q⟩)
    · rw [if_neg q]
      exact key 0 (Or.inl ⟨rfl, fun h => q ((i1 ()).mpr h)⟩)
  · rw [if_neg hR, e153, if_neg (by omega)]
    refine hK 0 0 ⟨by omega, fun _ y y1 y2 y3 => ?_, fun h => absurd h hR⟩ (Or.inl ⟨rfl, fun h => hR h.1⟩) (Or.inl ⟨rfl, fun h => hR h.1⟩)
    have := hmiss y y1 (by omega) (by omega)
    omega
