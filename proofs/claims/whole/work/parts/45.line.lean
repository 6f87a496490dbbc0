/-! the call that ends a line: both programs answer alike -/
theorem m_putByte {b l : Nat → Int} {x i v : Int} (hx : 0 ≤ x ∧ x < 24) (hl : 0 ≤ l x.toNat ∧ l x.toNat ≤ 60) (hi : 0 ≤ i ∧ i < l x.toNat) : f_X2_putByte b l x i v = some (zu b (x * 60 + i) v) := by
  unfold f_X2_putByte
  rw [m_pick_in (by omega)]
  simp only [mzb]
  rw [m_put_in (by omega)]
  simp (disch := omega) only [mlt]
  rw [if_neg (show ¬ i < 0 by omega), if_pos hi.2]
  rfl
theorem m_addLine {pb pl : Nat → Int} {pc n : Int} (hc : 0 ≤ pc ∧ pc < 24) (hn : 0 ≤ n ∧ n ≤ 60) : ∃ pb', f_X2_addLine pb pl pc n 32 = some (pc, pb', zu pl pc n, pc + 1) ∧ ∀ j : Nat, (j : Int) < pc * 60 → pb' j = pb j := by
  have e : zu pl pc n pc.toNat = n := mzu_same rfl
  unfold f_X2_addLine
  rw [m_put_in (by omega)]
  simp only [mzb]
  refine mloop (L := fun m i (q : Nat → Int) => f_X2_addLine_l17 (fun t => some (pc, t, zu pl pc n, pc + 1)) n 32 pc (zu pl pc n) m i q) (Q := fun r => ∃ pb', r = some (pc, pb', zu pl pc n, pc + 1) ∧ ∀ j : Nat, (j : Int) < pc * 60 → pb' j = pb j) (hi := n) (P := fun i q => 0 ≤ i ∧ ∀ j : Nat, (j : Int) < pc * 60 → q j = pb j) ?_ ?_ zN 0 pb (by omega) (mzN (by omega)) ⟨by omega, fun _ _ => rfl⟩
  · rintro m i q hi ⟨i0, i1⟩
    right
    rw [f_X2_addLine_l17_s, m_putByte hc (by rw [e]; exact hn) (by rw [e]; omega)]
    simp (disch := omega) only [mlt, mzb]
    rw [if_pos hi]
    refine ⟨_, rfl, by omega, fun j hj => ?_⟩
    rw [mzu_other (by omega)]
    exact i1 j hj
  · rintro m q ⟨i0, i1⟩
    rw [f_X2_addLine_l17_s]
    simp (disch := omega) only [mlt]
    rw [if_neg (by omega)]
    exact ⟨q, rfl, i1⟩
theorem m_line31 {pb pl tp : Nat → Int} {x n : Int} {K : (Nat → Int) → Option (Int × Int × (Nat → Int) × (Nat → Int) × Int)} {Q : Option (Int × Int × (Nat → Int) × (Nat → Int) × Int) → Prop} (hx : 0 ≤ x ∧ x < 24) (hn : 0 ≤ n ∧ n ≤ 60) (hl : pl x.toNat = n) (hK : ∀ b, (∀ j : Nat, (j : Int) < x * 60 → b j = pb j) → (∀ i : Int, 0 ≤ i → i < n → b (x * 60 + i).toNat = tp i.toNat) → Q (K b)) : Q (f_X5_line_l31 K x tp n pl zN 0 pb) := by
  refine mloop (L := fun m i (q : Nat → Int) => f_X5_line_l31 K x tp n pl m i q) (Q := Q) (hi := n) (P := fun i q => 0 ≤ i ∧ (∀ j : Nat, (j : Int) < x * 60 → q j = pb j) ∧ ∀ k : Int, 0 ≤ k → k < i → q (x * 60 + k).toNat = tp k.toNat) ?_ ?_ zN 0 pb (by omega) (mzN (by omega)) ⟨by omega, fun _ _ => rfl, fun k h1 h2 => by omega⟩
  · rintro m i q hi ⟨i0, i1, i2⟩
    right
    rw [f_X5_line_l31_s, m_pick_in (by omega)]
    simp only [mzb]
    rw [m_putByte hx (by rw [hl]; exact hn) (by rw [hl]; omega)]
    simp (disch := omega) only [mlt, mzb]
    rw [if_pos hi]
    refine ⟨_, rfl, by omega, fun j hj => ?_, fun k h1 h2 => ?_⟩
    · rw [mzu_other (by omega)]; exact i1 j hj
    · by_cases e : k = i
      · rw [e, mzu_same rfl]
      · rw [mzu_other (by omega)]; exact i2 k h1 (by omega)
  · rintro m q ⟨i0, i1, i2⟩
    rw [f_X5_line_l31_s]
    simp (disch := omega) only [mlt]
    rw [if_neg (by omega)]
    exact hK q i1 i2
theorem m_line14 {mp tp : Nat → Int} {x n : Int} {K : (Nat → Int) → Option (Int × Int × Int × (Nat → Int) × (Nat → Int))} {Q : Option (Int × Int × Int × (Nat → Int) × (Nat → Int)) → Prop} (hx : 0 ≤ x ∧ x < 24) (hn : 0 ≤ n ∧ n ≤ 60) (hK : ∀ b, (∀ j : Nat, (j : Int) < x * 60 → b j = mp j) → (∀ i : Int, 0 ≤ i → i < n → b (x * 60 + i).toNat = tp i.toNat) → Q (K b)) : Q (f_X6_line_l14 K tp n x zN 0 mp) := by
  refine mloop (L := fun m i (q : Nat → Int) => f_X6_line_l14 K tp n x m i q) (Q := Q) (hi := n) (P := fun i q => 0 ≤ i ∧ (∀ j : Nat, (j : Int) < x * 60 → q j = mp j) ∧ ∀ k : Int, 0 ≤ k → k < i → q (x * 60 + k).toNat = tp k.toNat) ?_ ?_ zN 0 mp (by omega) (mzN (by omega)) ⟨by omega, fun _ _ => rfl, fun k h1 h2 => by omega⟩
  · rintro m i q hi ⟨i0, i1, i2⟩
    right
    rw [f_X6_line_l14_s, mrd (by omega), mwr (by omega)]
    simp (disch := omega) only [mlt]
    rw [if_pos hi]
    refine ⟨_, rfl, by omega, fun j hj => ?_, fun k h1 h2 => ?_⟩
    · rw [mzu_other (by omega)]; exact i1 j hj
    · by_cases e : k = i
      · rw [e, show (x * 60 + i).toNat = (60 * x + i).toNat by omega, mzu_same rfl]
      · rw [mzu_other (by omega)]; exact i2 k h1 (by omega)
  · rintro m q ⟨i0, i1, i2⟩
    rw [f_X6_line_l14_s]
    simp (disch := omega) only [mlt]
    rw [if_neg (by omega)]
    exact hK q i1 i2
theorem p_line {tp tp2 pb pl mp ms : Nat → Int} {tl tl2 pc ml : Int} (ht : mTp tp tl tp2 tl2) (h : mPg pb pl pc mp ms ml) : ∃ r n pb' pl' pc' ms' mp', f_X5_line tp tl pb pl pc = some (r, n, pb', pl', pc') ∧ f_X6_line tp2 tl2 ml ms mp = some (r, n, pc', ms', mp') ∧ mW r ∧ mTp tp n tp2 n ∧ mPg pb' pl' pc' mp' ms' pc' := by
  obtain ⟨he, hl, hi⟩ := ht
  have hg := h.2.1
  have hn := hg.1
  have hc := h.1
  subst he hc
  unfold f_X5_line f_X6_line
  simp (disch := omega) only [mlt, meq]
  by_cases q : pc < 24
  · rw [if_pos q, if_neg (show ¬ pc = 24 by omega)]
    obtain ⟨pb1, e1, a1⟩ := m_addLine (pb := pb) (pl := pl) (pc := pc) (n := tl) (by omega) hl
    rw [e1, mzb]
    dsimp only
    have es : zu pl pc tl pc.toNat = tl := mzu_same rfl
    obtain ⟨pb2, e2, a2, a3⟩ := m_line31 (pb := pb1) (pl := zu pl pc tl) (tp := tp) (x := pc) (n := tl) (K := fun b => some (pc, 0, b, zu pl pc tl, pc + 1)) (Q := fun r => ∃ b, r = some (pc, 0, b, zu pl pc tl, pc + 1) ∧ (∀ j : Nat, (j : Int) < pc * 60 → b j = pb1 j) ∧ (∀ i : Int, 0 ≤ i → i < tl → b (pc * 60 + i).toNat = tp i.toNat)) (by omega) hl es (fun b b1 b2 => ⟨b, rfl, b1, b2⟩)
    obtain ⟨mp2, e3, a4, a5⟩ := m_line14 (mp := mp) (tp := tp2) (x := pc) (n := tl) (K := fun b => zwr ms 24 pc tl (fun t_size_6 => some (((pc + 1) - 1), 0, (pc + 1), t_size_6, b))) (Q := fun r => ∃ b, r = zwr ms 24 pc tl (fun t_size_6 => some (((pc + 1) - 1), 0, (pc + 1), t_size_6, b)) ∧ (∀ j : Nat, (j : Int) < pc * 60 → b j = mp j) ∧ (∀ i : Int, 0 ≤ i → i < tl → b (pc * 60 + i).toNat = tp2 i.toNat)) (by omega) hl (fun b b1 b2 => ⟨b, rfl, b1, b2⟩)
    rw [e2, e3, mwr (by omega), show pc + 1 - 1 = pc by omega]
    refine ⟨pc, 0, pb2, zu pl pc tl, pc + 1, zu ms pc tl, mp2, rfl, rfl, by unfold mW; omega, ⟨rfl, by omega, fun i i0 i1 => by omega⟩, rfl, ⟨by omega, fun x x0 x1 => ?_⟩, fun x x0 x1 => ?_⟩
    · by_cases c : x = pc
      · subst c
        rw [es]
        refine ⟨hl, fun i i0 i1 => ?_⟩
        rw [a3 i i0 i1]
        exact (hi i i0 i1).2
      · rw [mzu_other (by omega)]
        have hx := hg.2 x x0 (by omega)
        refine ⟨hx.1, fun i i0 i1 => ?_⟩
        rw [a2 _ (by omega), a1 _ (by omega)]
        exact hx.2 i i0 i1
    · by_cases c : x = pc
      · subst c
        rw [es, mzu_same rfl]
        refine ⟨rfl, fun i i0 i1 => ?_⟩
        rw [a3 i i0 i1, a5 i i0 i1]
        exact (hi i i0 i1).1
      · rw [mzu_other (by omega), mzu_other (by omega)]
        have hx := h.2.2 x x0 (by omega)
        have hx2 := hg.2 x x0 (by omega)
        refine ⟨hx.1, fun i i0 i1 => ?_⟩
        rw [a2 _ (by omega), a1 _ (by omega), a4 _ (by omega)]
        exact hx.2 i i0 i1
  · rw [if_neg q, if_pos (show pc = 24 by omega)]
    exact ⟨-3, tl, pb, pl, pc, ms, mp, rfl, rfl, by unfold mW; omega, ⟨rfl, hl, hi⟩, rfl, hg, h.2.2⟩
