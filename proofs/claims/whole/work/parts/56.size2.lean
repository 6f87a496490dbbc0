/-! the call that tells a size: both programs answer alike -/
theorem p_size {ta tl ce cs : Nat → Int} {columns rows has trows tcols v1 : Int} (h : mTab ta tl columns rows has trows tcols cs ce) (h1 : mW v1) : ∃ r, f_X5_size tl columns rows v1 = some r ∧ f_X6_size has trows tcols cs v1 = some r ∧ mW r := by
  have k1 := h1
  unfold mW at k1
  unfold f_X5_size f_X6_size f_X4_hasHead f_X4_hasFoot f_X6_size_j58
  rw [mw32 k1, m_in (by omega), mzb]
  by_cases q : 0 ≤ v1 ∧ v1 ≤ 3
  · rw [if_pos q]
    rcases h with ⟨c1, c2, c3⟩ | ⟨cols, rws, T, hc, hr, rfl, rfl, rfl, rfl, rfl, hT1, hlen, hv, hw⟩
    · subst c1 c2 c3
      have : v1 = 0 ∨ v1 = 1 ∨ v1 = 2 ∨ v1 = 3 := by omega
      rcases this with e | e | e | e <;> subst e
      all_goals exact ⟨0, rfl, rfl, by unfold mW; omega⟩
    · obtain ⟨a, e1, f1⟩ := m_hasText (r := 0) hc.2 hr hlen hv (by omega)
      obtain ⟨b, e2, f2⟩ := m_hasSome (r := 0) hc.2 hr hlen hw (by omega)
      obtain ⟨c, e3, f3⟩ := m_hasText (r := (rws : Int) + 1) hc.2 hr hlen hv (by omega)
      obtain ⟨d, e4, f4⟩ := m_hasSome (r := (rws : Int) + 1) hc.2 hr hlen hw (by omega)
      have u1 := mFlx_uniq f1 f2 Iff.rfl
      have u2 := mFlx_uniq f3 f4 Iff.rfl
      subst u1 u2
      have g1 := mFlx_b f1
      have g2 := mFlx_b f3
      rw [show mRw (rws : Int) 0 = 0 by unfold mRw; rw [if_neg (by omega)]] at e2
      rw [show mRw (rws : Int) ((rws : Int) + 1) = 41 by unfold mRw; rw [if_pos (by omega)]] at e4
      rw [e1, e2, e3, e4]
      have : v1 = 0 ∨ v1 = 1 ∨ v1 = 2 ∨ v1 = 3 := by omega
      rcases this with e | e | e | e <;> subst e
      · exact ⟨(cols : Int), rfl, rfl, by unfold mW; omega⟩
      · exact ⟨(rws : Int), rfl, rfl, by unfold mW; omega⟩
      · rcases g1 with g | g <;> subst g
        · exact ⟨0, rfl, rfl, by unfold mW; omega⟩
        · exact ⟨1, rfl, rfl, by unfold mW; omega⟩
      · rcases g2 with g | g <;> subst g
        · exact ⟨0, rfl, rfl, by unfold mW; omega⟩
        · exact ⟨1, rfl, rfl, by unfold mW; omega⟩
  · rw [if_neg q]
    simp (disch := omega) only [meq]
    rw [if_neg (show ¬ v1 = 0 + ((0 : Nat) : Int) by omega), if_neg (show ¬ v1 = 0 + ((1 : Nat) : Int) by omega), if_neg (show ¬ v1 = 0 + ((2 : Nat) : Int) by omega), if_neg (show ¬ v1 = 0 + ((3 : Nat) : Int) by omega), mit]
    exact ⟨-1, rfl, rfl, by unfold mW; omega⟩
