/-! the class copies a row of cells, whole -/
theorem m_takeRow {cols rows : Nat} {T : Nat → List Int} {pb pl tb tl : Nat → Int} {r d trows : Int} (hc8 : cols ≤ 8) (hr40 : rows ≤ 40) (hlen : ∀ s : Nat, s < 336 → (T s).length ≤ 60) (hv : mTv cols rows T pb pl) (hr : 0 ≤ r ∧ r ≤ (rows : Int) + 1) (htr : 0 ≤ trows ∧ trows ≤ 40) (hd : 0 ≤ d ∧ d ≤ trows + 1) :
    ∃ tb' tl', f_X4_takeRow tb tl (cols : Int) trows pb pl (rows : Int) d r = some (tb', tl') ∧ (∀ c : Int, 0 ≤ c → c < (cols : Int) → tl' (mRw trows d * 8 + c).toNat = ((T (mRw (rows : Int) r * 8 + c).toNat).length : Int) ∧ ∀ i : Nat, i < (T (mRw (rows : Int) r * 8 + c).toNat).length → tb' ((mRw trows d * 8 + c).toNat * 60 + i) = (T (mRw (rows : Int) r * 8 + c).toNat).getD i 0) ∧
      (∀ s : Nat, (s : Int) < 8 * mRw trows d ∨ 8 * mRw trows d + 8 ≤ (s : Int) → tl' s = tl s) ∧ ∀ j : Nat, (j : Int) < 480 * mRw trows d ∨ 480 * mRw trows d + 480 ≤ (j : Int) → tb' j = tb j := by
  have hm : 0 ≤ mRw trows d ∧ mRw trows d ≤ 41 := by unfold mRw; split <;> omega
  have hsl := fun c : Int => m_slot2 (c := c) (show 0 ≤ trows ∧ trows ≤ 41 by omega) (show 0 ≤ d ∧ d ≤ 42 by omega)
  unfold f_X4_takeRow
  generalize mRw trows d = D at *
  let G : (Nat → Int) → (Nat → Int) → Int → Prop := fun tb' tl' n => (∀ c : Int, 0 ≤ c → c < n → tl' (D * 8 + c).toNat = ((T (mRw (rows : Int) r * 8 + c).toNat).length : Int) ∧ ∀ i : Nat, i < (T (mRw (rows : Int) r * 8 + c).toNat).length → tb' ((D * 8 + c).toNat * 60 + i) = (T (mRw (rows : Int) r * 8 + c).toNat).getD i 0) ∧ (∀ s : Nat, (s : Int) < 8 * D ∨ 8 * D + 8 ≤ (s : Int) → tl' s = tl s) ∧ ∀ j : Nat, (j : Int) < 480 * D ∨ 480 * D + 480 ≤ (j : Int) → tb' j = tb j
  refine mloop (L := fun m i (q : (Nat → Int) × (Nat → Int)) => f_X4_takeRow_l3 (fun a b => some (a, b)) d r (cols : Int) trows pb pl (rows : Int) m i q.1 q.2) (Q := fun x => ∃ tb' tl', x = some (tb', tl') ∧ G tb' tl' (cols : Int)) (hi := (cols : Int)) (P := fun i q => 0 ≤ i ∧ G q.1 q.2 i) ?_ ?_ zN 0 (tb, tl) (by omega) (mzN (by omega)) ⟨by omega, fun c q1 q2 => by omega, fun _ _ => rfl, fun _ _ => rfl⟩
  · rintro m i ⟨a, b⟩ hi ⟨i0, i1, i2, i3⟩
    right
    dsimp only at i1 i2 i3 ⊢
    rw [f_X4_takeRow_l3_s, hsl, mzb, m_lengthT hc8 hr40 hv hr ⟨i0, hi⟩, mzb, m_put_in (by omega), mzb]
    simp (disch := omega) only [mlt]
    rw [if_pos hi]
    refine m_take44 (T := T) (Q := fun x => ∃ s' : (Nat → Int) × (Nat → Int), x = f_X4_takeRow_l3 (fun a b => some (a, b)) d r (cols : Int) trows pb pl (rows : Int) m (i + 1) s'.1 s'.2 ∧ 0 ≤ i + 1 ∧ G s'.1 s'.2 (i + 1)) hc8 hr40 hlen hv hr ⟨i0, hi⟩ (by omega) (fun b' b1 b2 => ?_)
    refine ⟨(b', zu b (D * 8 + i) ((T (mRw (rows : Int) r * 8 + i).toNat).length : Int)), rfl, by omega, fun c q1 q2 => ?_, fun s hs => ?_, fun j hj => ?_⟩
    · dsimp only
      by_cases e : c = i
      · subst e
        exact ⟨mzu_same rfl, b2⟩
      · obtain ⟨r1, r2⟩ := i1 c q1 (by omega)
        have hl := hlen _ (mSl_lt hc8 hr40 (mSl_in hr ⟨q1, by omega⟩))
        refine ⟨by rw [mzu_other (by omega)]; exact r1, fun k hk => ?_⟩
        rw [b1 _ (by omega)]
        exact r2 k hk
    · dsimp only
      rw [mzu_other (by omega)]; exact i2 s hs
    · dsimp only
      rw [b1 j (by omega)]; exact i3 j hj
  · rintro m ⟨a, b⟩ ⟨i0, i1⟩
    dsimp only at i1 ⊢
    rw [f_X4_takeRow_l3_s]
    simp (disch := omega) only [mlt]
    rw [if_neg (by omega)]
    exact ⟨a, b, rfl, i1⟩
