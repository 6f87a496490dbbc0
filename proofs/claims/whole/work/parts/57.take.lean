/-! the class copies a row of cells -/
theorem m_take44 {cols rows : Nat} {T : Nat → List Int} {pb pl tb : Nat → Int} {r c t : Int} {K : (Nat → Int) → Option ((Nat → Int) × (Nat → Int))} {Q : Option ((Nat → Int) × (Nat → Int)) → Prop} (hc8 : cols ≤ 8) (hr40 : rows ≤ 40) (hlen : ∀ s : Nat, s < 336 → (T s).length ≤ 60) (hv : mTv cols rows T pb pl) (hr : 0 ≤ r ∧ r ≤ (rows : Int) + 1) (hc : 0 ≤ c ∧ c < (cols : Int)) (ht : 0 ≤ t ∧ t < 336)
    (hK : ∀ b : Nat → Int, (∀ j : Nat, (j : Int) < 60 * t ∨ 60 * t + 60 ≤ (j : Int) → b j = tb j) → (∀ i : Nat, i < (T (mRw (rows : Int) r * 8 + c).toNat).length → b (t.toNat * 60 + i) = (T (mRw (rows : Int) r * 8 + c).toNat).getD i 0) → Q (K b)) : Q (f_X4_takeRow_l44 K r c t ((T (mRw (rows : Int) r * 8 + c).toNat).length : Int) pb pl (rows : Int) zN 0 tb) := by
  have hl := hlen _ (mSl_lt hc8 hr40 (mSl_in hr hc))
  have hby := fun (i : Int) (hi : 0 ≤ i ∧ i < 2147483648) => m_byteT (i := i) hc8 hr40 hlen hv hr hc hi
  generalize T (mRw (rows : Int) r * 8 + c).toNat = L at *
  refine mloop (L := fun m i (q : Nat → Int) => f_X4_takeRow_l44 K r c t (L.length : Int) pb pl (rows : Int) m i q) (Q := Q) (hi := (L.length : Int)) (P := fun i q => 0 ≤ i ∧ (∀ j : Nat, (j : Int) < 60 * t ∨ 60 * t + 60 ≤ (j : Int) → q j = tb j) ∧ ∀ k : Nat, (k : Int) < i → q (t.toNat * 60 + k) = L.getD k 0) ?_ ?_ zN 0 tb (by omega) (mzN (by omega)) ⟨by omega, fun _ _ => rfl, fun k h => by omega⟩
  · rintro m i q hi ⟨i0, i1, i2⟩
    right
    rw [f_X4_takeRow_l44_s, hby i ⟨i0, by omega⟩, mzb, m_put_in (by omega), mzb]
    simp (disch := omega) only [mlt]
    rw [if_pos hi]
    refine ⟨_, rfl, by omega, fun j hj => ?_, fun k hk => ?_⟩
    · rw [mzu_other (by omega)]; exact i1 j hj
    · by_cases e : (k : Int) = i
      · rw [show t.toNat * 60 + k = (t * 60 + i).toNat by omega, mzu_same rfl, show i.toNat = k by omega]
      · rw [mzu_other (by omega)]; exact i2 k (by omega)
  · rintro m q ⟨i0, i1, i2⟩
    rw [f_X4_takeRow_l44_s]
    simp (disch := omega) only [mlt]
    rw [if_neg (by omega)]
    exact hK q i1 (fun k hk => i2 k (by omega))
