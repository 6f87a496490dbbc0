/-! tables: the same in both programs -/
/-- the slots of a table that count -/
def mSl (cols rows s : Nat) : Prop := ∃ row c : Nat, s = 8 * row + c ∧ (row ≤ rows ∨ row = 41) ∧ c < cols
/-- rows of bytes hold the cells of a table -/
def mTv (cols rows : Nat) (T : Nat → List Int) (by_ ln : Nat → Int) : Prop := ∀ s : Nat, mSl cols rows s → ln s = ((T s).length : Int) ∧ ∀ i : Nat, i < (T s).length → by_ (s * 60 + i) = (T s).getD i 0
/-- a table, the same in both programs -/
def mTab (by_ ln : Nat → Int) (columns rows : Int) (has trows tcols : Int) (csz cel : Nat → Int) : Prop :=
  (columns = 0 ∧ rows = 0 ∧ has = 0) ∨ (∃ (cols rws : Nat) (T : Nat → List Int), (1 ≤ cols ∧ cols ≤ 8) ∧ rws ≤ 40 ∧ columns = (cols : Int) ∧ tcols = (cols : Int) ∧ rows = (rws : Int) ∧ trows = (rws : Int) ∧ has = 1 ∧ mTr1 T ∧ (∀ s : Nat, s < 336 → (T s).length ≤ 60) ∧ mTv cols rws T by_ ln ∧ mTv cols rws T cel csz)
theorem mSl_lt {cols rows s : Nat} (hc : cols ≤ 8) (hr : rows ≤ 40) (h : mSl cols rows s) : s < 336 := by
  obtain ⟨row, c, e, hr2, hc2⟩ := h
  omega
theorem mTb_len {T : Nat → List Int} {tb tl : Nat → Int} (h : mTb T tb tl) {s : Nat} (hs : s < 336) : (T s).length ≤ 60 := (h s hs).2.1
/-- the reference copies a row of eight cells -/
theorem m_copy41 {T : Nat → List Int} {nb nl cb : Nat → Int} {s t : Int} {K : (Nat → Int) → Option ((Nat → Int) × (Nat → Int))} {Q : Option ((Nat → Int) × (Nat → Int)) → Prop} (hT : mTb T nb nl) (hs : 0 ≤ s ∧ s < 336) (ht : 0 ≤ t ∧ t < 336)
    (hK : ∀ b : Nat → Int, (∀ j : Nat, (j : Int) < 60 * t ∨ 60 * t + 60 ≤ (j : Int) → b j = cb j) → (∀ i : Nat, i < (T s.toNat).length → b (t.toNat * 60 + i) = (T s.toNat).getD i 0) → Q (K b)) : Q (f_X6_copyRow_l41 K s t nl nb zN 0 cb) := by
  obtain ⟨t1, t2, t3⟩ := hT s.toNat (by omega)
  refine mloop (L := fun m i (q : Nat → Int) => f_X6_copyRow_l41 K s t nl nb m i q) (Q := Q) (hi := ((T s.toNat).length : Int)) (P := fun i q => 0 ≤ i ∧ (∀ j : Nat, (j : Int) < 60 * t ∨ 60 * t + 60 ≤ (j : Int) → q j = cb j) ∧ ∀ k : Nat, (k : Int) < i → q (t.toNat * 60 + k) = (T s.toNat).getD k 0) ?_ ?_ zN 0 cb (by omega) (mzN (by omega)) ⟨by omega, fun _ _ => rfl, fun k h => by omega⟩
  · rintro m i q hi ⟨i0, i1, i2⟩
    right
    rw [f_X6_copyRow_l41_s, mrd (by omega), mrd (by omega), mwr (by omega), t1]
    simp (disch := omega) only [mlt]
    rw [if_pos hi]
    have e := t3 i.toNat (by omega)
    rw [show s.toNat * 60 + i.toNat = (60 * s + i).toNat by omega] at e
    refine ⟨_, rfl, by omega, fun j hj => ?_, fun k hk => ?_⟩
    · rw [mzu_other (by omega)]; exact i1 j hj
    · by_cases c : (k : Int) = i
      · rw [show t.toNat * 60 + k = (60 * t + i).toNat by omega, mzu_same rfl, e, show i.toNat = k by omega]
      · rw [mzu_other (by omega)]; exact i2 k (by omega)
  · rintro m q ⟨i0, i1, i2⟩
    rw [f_X6_copyRow_l41_s, mrd (by omega), t1]
    simp (disch := omega) only [mlt]
    rw [if_neg (by omega)]
    exact hK q i1 (fun k hk => i2 k (by omega))
