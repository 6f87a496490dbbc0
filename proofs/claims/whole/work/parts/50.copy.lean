/-! the reference copies rows of cells -/
/-- rows of bytes hold the cells of T in row r as those of row f of S -/
def mRowIs (T : Nat → List Int) (f t : Nat) (cs ce : Nat → Int) (c : Nat) : Prop := cs (8 * t + c) = ((T (8 * f + c)).length : Int) ∧ ∀ i : Nat, i < (T (8 * f + c)).length → ce ((8 * t + c) * 60 + i) = (T (8 * f + c)).getD i 0
theorem m_copyRow {T : Nat → List Int} {nb nl cs ce : Nat → Int} {f t : Nat} (hT : mTb T nb nl) (hf : f ≤ 41) (ht : t ≤ 41) :
    ∃ cs' ce', f_X6_copyRow nl nb cs ce (f : Int) (t : Int) = some (cs', ce') ∧ (∀ c : Nat, c < 8 → mRowIs T f t cs' ce' c) ∧ (∀ s : Nat, s < 8 * t ∨ 8 * t + 8 ≤ s → cs' s = cs s) ∧ ∀ j : Nat, j < 480 * t ∨ 480 * t + 480 ≤ j → ce' j = ce j := by
  unfold f_X6_copyRow
  refine mloop (L := fun m i (q : (Nat → Int) × (Nat → Int)) => f_X6_copyRow_l2 (fun a b => some (a, b)) (f : Int) (t : Int) nl nb m i q.1 q.2) (Q := fun r => ∃ cs' ce', r = some (cs', ce') ∧ (∀ c : Nat, c < 8 → mRowIs T f t cs' ce' c) ∧ (∀ s : Nat, s < 8 * t ∨ 8 * t + 8 ≤ s → cs' s = cs s) ∧ ∀ j : Nat, j < 480 * t ∨ 480 * t + 480 ≤ j → ce' j = ce j) (hi := 8) (P := fun i q => 0 ≤ i ∧ (∀ c : Nat, (c : Int) < i → mRowIs T f t q.1 q.2 c) ∧ (∀ s : Nat, s < 8 * t ∨ 8 * t + 8 ≤ s → q.1 s = cs s) ∧ ∀ j : Nat, j < 480 * t ∨ 480 * t + 480 ≤ j → q.2 j = ce j) ?_ ?_ zN 0 (cs, ce) (by omega) (mzN (by omega)) ⟨by omega, fun c h => by omega, fun _ _ => rfl, fun _ _ => rfl⟩
  · rintro m i ⟨a, b⟩ hi ⟨i0, i1, i2, i3⟩
    right
    dsimp only at i1 i2 i3 ⊢
    obtain ⟨k, rfl⟩ : ∃ k : Nat, i = (k : Int) := ⟨i.toNat, by omega⟩
    obtain ⟨t1, t2, t3⟩ := hT (8 * f + k) (by omega)
    rw [f_X6_copyRow_l2_s, mrd (by omega), mwr (by omega)]
    simp (disch := omega) only [mlt]
    rw [if_pos hi, show (8 * (f : Int) + (k : Int)).toNat = 8 * f + k by omega, t1]
    refine m_copy41 (T := T) (Q := fun r => ∃ s' : (Nat → Int) × (Nat → Int), r = f_X6_copyRow_l2 (fun a b => some (a, b)) (f : Int) (t : Int) nl nb m ((k : Int) + 1) s'.1 s'.2 ∧ 0 ≤ (k : Int) + 1 ∧ (∀ c : Nat, (c : Int) < (k : Int) + 1 → mRowIs T f t s'.1 s'.2 c) ∧ (∀ s : Nat, s < 8 * t ∨ 8 * t + 8 ≤ s → s'.1 s = cs s) ∧ ∀ j : Nat, j < 480 * t ∨ 480 * t + 480 ≤ j → s'.2 j = ce j) hT (by omega) (by omega) (fun b' b1 b2 => ?_)
    rw [show (8 * (f : Int) + (k : Int)).toNat = 8 * f + k by omega, show (8 * (t : Int) + (k : Int)).toNat = 8 * t + k by omega] at b2
    refine ⟨(zu a (8 * (t : Int) + (k : Int)) ((T (8 * f + k)).length : Int), b'), rfl, by omega, fun c hc => ?_, fun s hs => ?_, fun j hj => ?_⟩
    · dsimp only
      by_cases e : c = k
      · subst e
        exact ⟨mzu_same (by omega), b2⟩
      · obtain ⟨r1, r2⟩ := i1 c (by omega)
        have hl := (hT (8 * f + c) (by omega)).2.1
        refine ⟨by rw [mzu_other (by omega)]; exact r1, fun i hi2 => ?_⟩
        rw [b1 _ (by omega)]
        exact r2 i hi2
    · dsimp only
      rw [mzu_other (by omega)]; exact i2 s hs
    · dsimp only
      rw [b1 j (by omega)]; exact i3 j hj
  · rintro m ⟨a, b⟩ ⟨i0, i1, i2, i3⟩
    dsimp only at i1 i2 i3 ⊢
    rw [f_X6_copyRow_l2_s]
    simp (disch := omega) only [mlt]
    rw [if_neg (by omega)]
    exact ⟨a, b, rfl, fun c hc => i1 c (by omega), i2, i3⟩
