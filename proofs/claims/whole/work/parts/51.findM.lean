/-! the reference keeps what it read: the rows of the table -/
theorem mTv_of {T : Nat → List Int} {cols rows : Nat} {cs ce : Nat → Int} (hc : cols ≤ 8) (h : ∀ r : Nat, r ≤ rows ∨ r = 41 → ∀ c : Nat, c < 8 → mRowIs T r r cs ce c) : mTv cols rows T ce cs := by
  rintro s ⟨row, c, rfl, hr, hc2⟩
  exact h row hr c (by omega)
theorem m_find58 {T : Nat → List Int} {nb nl cs ce : Nat → Int} {R : Nat} {K : (Nat → Int) → (Nat → Int) → _} {Q : _ → Prop} (hT : mTb T nb nl) (hR : R ≤ 40) (h0 : ∀ c : Nat, c < 8 → mRowIs T 0 0 cs ce c) (hK : ∀ a b : Nat → Int, (∀ r : Nat, r ≤ R → ∀ c : Nat, c < 8 → mRowIs T r r a b c) → Q (K a b)) : Q (f_X6_find_l58 K nl nb (R : Int) zN 1 cs ce) := by
  refine mloop (L := fun m i (q : (Nat → Int) × (Nat → Int)) => f_X6_find_l58 K nl nb (R : Int) m i q.1 q.2) (Q := Q) (hi := (R : Int) + 1) (P := fun i q => 1 ≤ i ∧ ∀ r : Nat, (r : Int) < i → ∀ c : Nat, c < 8 → mRowIs T r r q.1 q.2 c) ?_ ?_ zN 1 (cs, ce) (by omega) (mzN (by omega)) ⟨by omega, fun r hr c hc => ?_⟩
  · rintro m i ⟨a, b⟩ hi ⟨i0, i1⟩
    right
    dsimp only at i1 ⊢
    obtain ⟨k, rfl⟩ : ∃ k : Nat, i = (k : Int) := ⟨i.toNat, by omega⟩
    obtain ⟨a', b', e, c1, c2, c3⟩ := m_copyRow (cs := a) (ce := b) (f := k) (t := k) hT (by omega) (by omega)
    rw [f_X6_find_l58_s, e, mzb]
    simp (disch := omega) only [mlt]
    rw [if_neg (by omega)]
    refine ⟨(a', b'), rfl, by omega, fun r hr c hc => ?_⟩
    dsimp only
    by_cases q : r = k
    · subst q; exact c1 c hc
    · obtain ⟨r1, r2⟩ := i1 r (by omega) c hc
      have hl := (hT (8 * r + c) (by omega)).2.1
      refine ⟨by rw [c2 _ (by omega)]; exact r1, fun i hi2 => ?_⟩
      rw [c3 _ (by omega)]
      exact r2 i hi2
  · rintro m ⟨a, b⟩ ⟨i0, i1⟩
    dsimp only at i1 ⊢
    rw [f_X6_find_l58_s]
    simp (disch := omega) only [mlt]
    rw [if_pos (by omega)]
    exact hK a b (fun r hr => i1 r (by omega))
  · have : r = 0 := by omega
    subst this
    exact h0 c hc
theorem m_find58x {T : Nat → List Int} {nb nl cs ce : Nat → Int} {R : Nat} {K : (Nat → Int) → (Nat → Int) → _} {X : _} (hx : f_X6_find_l58 K nl nb (R : Int) zN 1 cs ce = X) (hT : mTb T nb nl) (hR : R ≤ 40) (h0 : ∀ c : Nat, c < 8 → mRowIs T 0 0 cs ce c) : ∃ a b : Nat → Int, X = K a b ∧ ∀ r : Nat, r ≤ R → ∀ c : Nat, c < 8 → mRowIs T r r a b c := by
  rw [← hx]
  exact m_find58 (Q := fun x => ∃ a b : Nat → Int, x = K a b ∧ ∀ r : Nat, r ≤ R → ∀ c : Nat, c < 8 → mRowIs T r r a b c) hT hR h0 (fun a b hab => ⟨a, b, rfl, hab⟩)
/-- what was found last, kept by the reference -/
theorem m_keepM {best next pl ru jl : Int} {cols : Nat} {cts tolds fcuts : Nat → Int} (hc : cols ≤ 8) : ∃ to fcu, f_X6_keepFound best next (cols : Int) cts pl ru jl tolds fcuts = some (1, to, (cols : Int), fcu) ∧ (to 0 = best ∧ to 1 = next ∧ to 2 = pl ∧ to 3 = ru ∧ to 4 = jl) ∧ ∀ j : Nat, j ≤ cols → fcu j = cts j := by
  unfold f_X6_keepFound
  rw [mwr (by omega), mwr (by omega), mwr (by omega), mwr (by omega), mwr (by omega)]
  refine mloop (L := fun m i q => f_X6_keepFound_l65 (fun (t_foundCuts_15 : (Nat → Int)) => some (1, zu (zu (zu (zu (zu tolds 0 best) 1 next) 2 pl) 3 ru) 4 jl, (cols : Int), t_foundCuts_15)) (cols : Int) cts m i q) (Q := fun r => ∃ to fcu, r = some (1, to, (cols : Int), fcu) ∧ (to 0 = best ∧ to 1 = next ∧ to 2 = pl ∧ to 3 = ru ∧ to 4 = jl) ∧ ∀ j : Nat, j ≤ cols → fcu j = cts j) (hi := (cols : Int) + 1) (P := fun i q => 0 ≤ i ∧ ∀ j : Nat, (j : Int) < i → q j = cts j) ?_ ?_ zN 0 fcuts (by omega) (mzN (by omega)) ⟨by omega, fun j h => by omega⟩
  · rintro m i q hi ⟨i0, i1⟩
    right
    rw [f_X6_keepFound_l65_s, mrd (by omega), mwr (by omega)]
    simp (disch := omega) only [mlt]
    rw [if_neg (by omega)]
    refine ⟨_, rfl, by omega, fun j hj => ?_⟩
    by_cases c : (j : Int) = i
    · rw [show j = i.toNat by omega, mzu_same rfl]
    · rw [mzu_other (by omega)]; exact i1 j (by omega)
  · rintro m q ⟨i0, i1⟩
    rw [f_X6_keepFound_l65_s]
    simp (disch := omega) only [mlt]
    rw [if_pos (by omega)]
    exact ⟨_, q, rfl, ⟨rfl, rfl, rfl, rfl, rfl⟩, fun j hj => i1 j (by omega)⟩
