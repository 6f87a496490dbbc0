/-! the easy calls on a page: both programs answer alike -/
theorem mi0 {α : Type} {a b : α} : (if (1 : Int) = 0 then a else b) = b := if_neg (by decide)
theorem mi1 {α : Type} {a b : α} : (if (0 : Int) = 0 then a else b) = a := if_pos rfl
theorem mit {α : Type} {a b : α} : (if True then a else b) = a := if_pos trivial
def mW (v : Int) : Prop := -2147483648 ≤ v ∧ v < 2147483648
theorem p_at {pb pl mp ms : Nat → Int} {pc ml v1 v2 : Int} (h : mPg pb pl pc mp ms ml) (h1 : mW v1) (h2 : mW v2) : ∃ r, f_X5_at pb pl pc v1 v2 = some r ∧ f_X6_at ml ms mp v1 v2 = some r ∧ mW r := by
  have hg := h.2.1
  have hn := hg.1
  have hc := h.1
  unfold mW at h1 h2 ⊢
  subst hc
  unfold f_X5_at f_X6_at f_X6_at_j37
  rw [m_holds hn h1, mw32 h1, mw32 h2, mw32 (by omega), m_in (by omega)]
  simp only [mzb]
  by_cases q : 0 ≤ v1 ∧ v1 < pc
  · rw [if_pos q, if_pos (show 0 ≤ v1 ∧ v1 ≤ pc - 1 by omega), m_in (by omega)]
    simp (disch := omega) only [mlt, meq, mzb, mi0, mi1, mit]
    by_cases q2 : 0 ≤ v2 ∧ v2 < 60
    · have hl := (hg.2 v1 q.1 q.2).1
      have hgM := mGood_M h
      have hlM := (hgM.2 v1 q.1 q.2).1
      have e1 := m_byteC (cb := pb) (cl := pl) (x := v1) (i := v2) (by omega) hl (by omega)
      have e2 := m_byteM (mp := mp) (ms := ms) (x := v1) (i := v2) (by omega) hlM (by omega)
      have e3 := mPg_B (i := v2) h q q2.1
      have e4 := mB_range (i := v2) hg q q2.1
      rw [e1, e2, e3]
      rw [if_neg (show ¬ v2 < 0 by omega), if_pos q2.2, if_pos (show 0 ≤ v2 ∧ v2 ≤ 59 by omega)]
      simp (disch := omega) only [mlt, meq, mzb, mi0, mi1, mit]
      exact ⟨_, rfl, rfl, by omega, by omega⟩
    · rw [if_neg (show ¬ (0 ≤ v2 ∧ v2 ≤ 59) by omega)]
      by_cases q3 : v2 < 0
      · rw [if_pos q3]
        simp (disch := omega) only [mlt, meq, mzb, mi0, mi1, mit]
        exact ⟨_, rfl, rfl, by omega, by omega⟩
      · rw [if_neg q3, if_neg (show ¬ v2 < 60 by omega)]
        simp (disch := omega) only [mlt, meq, mzb, mi0, mi1, mit]
        exact ⟨_, rfl, rfl, by omega, by omega⟩
  · rw [if_neg q, if_neg (show ¬ (0 ≤ v1 ∧ v1 ≤ pc - 1) by omega)]
    exact ⟨_, rfl, rfl, by omega, by omega⟩
theorem p_kind {pb pl mp ms : Nat → Int} {pc ml v1 : Int} (h : mPg pb pl pc mp ms ml) (h1 : mW v1) : ∃ r, f_X5_kind pb pl pc v1 = some r ∧ f_X6_kind ml ms mp v1 = some r ∧ mW r := by
  have hg := h.2.1
  have hn := hg.1
  have hc := h.1
  unfold mW at h1 ⊢
  subst hc
  unfold f_X5_kind f_X6_kind
  rw [m_holds hn h1, mw32 h1, mw32 (by omega), m_in (by omega)]
  simp only [mzb]
  by_cases q : 0 ≤ v1 ∧ v1 < pc
  · rw [if_pos q, if_pos (show 0 ≤ v1 ∧ v1 ≤ pc - 1 by omega), m_kindC hg q, m_kindM (mGood_M h) q, m_kind_same h q]
    simp (disch := omega) only [mlt, meq, mzb, mi0, mi1, mit]
    have := mkd_in (mB pb pl v1) (pl v1.toNat)
    exact ⟨_, rfl, rfl, by omega, by omega⟩
  · rw [if_neg q, if_neg (show ¬ (0 ≤ v1 ∧ v1 ≤ pc - 1) by omega)]
    exact ⟨_, rfl, rfl, by omega, by omega⟩
theorem p_set {pb pl mp ms : Nat → Int} {pc ml v1 v2 v3 : Int} (h : mPg pb pl pc mp ms ml) (h1 : mW v1) (h2 : mW v2) (h3 : mW v3) : ∃ r pb' mp', f_X5_set pb pl pc v1 v2 v3 = some (r, pb') ∧ f_X6_set ml ms mp v1 v2 v3 = some (r, mp') ∧ mW r ∧ mPg pb' pl pc mp' ms ml := by
  have hg := h.2.1
  have hn := hg.1
  have hc := h.1
  unfold mW at h1 h2 h3 ⊢
  subst hc
  unfold f_X5_set f_X6_set
  rw [m_holds hn h1, mw32 h1, mw32 h2, mw32 h3, mw32 (by omega), m_in (by omega)]
  simp only [mzb]
  by_cases q : 0 ≤ v1 ∧ v1 < pc
  · have hl := (hg.2 v1 q.1 q.2).1
    have hs := (h.2.2 v1 q.1 q.2).1
    have hs2 := (h.2.2 v1 q.1 q.2).2 v2
    have hb := (hg.2 v1 q.1 q.2).2 v2
    rw [if_pos q, if_pos (show 0 ≤ v1 ∧ v1 ≤ pc - 1 by omega), mrd (by omega), ← hs, mw32 (by omega), m_in (by omega), m_in (by omega), m_lengthOf (by omega)]
    simp (disch := omega) only [mlt, meq, mzb, mi0, mi1, mit]
    by_cases q2 : 0 ≤ v2 ∧ v2 < pl v1.toNat
    · rw [if_neg (show ¬ v2 < 0 by omega), if_pos q2.2, if_pos (show 0 ≤ v2 ∧ v2 ≤ pl v1.toNat - 1 by omega)]
      unfold f_X5_isTypable f_X5_isTypable_j16
      simp (disch := omega) only [mlt, meq, mzb, mi0, mi1, mit]
      by_cases q3 : 32 ≤ v3 ∧ v3 ≤ 126
      · rw [if_neg (show ¬ v3 < 32 by omega), if_neg (show ¬ 126 < v3 by omega), if_pos q3]
        simp (disch := omega) only [mlt, meq, mzb, mi0, mi1, mit]
        rw [m_byteC (by omega) hl (by omega), mB_in q2.2]
        simp only [mzb]
        unfold f_X2_putByte
        rw [m_pick_in (by omega)]
        simp only [mzb]
        rw [m_put_in (by omega)]
        simp only [mzb]
        simp (disch := omega) only [mlt]
        rw [if_neg (show ¬ v2 < 0 by omega), if_pos q2.2]
        simp only [mzb]
        rw [mrd (by omega), mwr (by omega)]
        have e := hs2 q2.1 q2.2
        have eb := hb q2.1 q2.2
        have ei : 60 * v1 + v2 = v1 * 60 + v2 := by omega
        rw [ei, ← e]
        refine ⟨_, _, _, rfl, rfl, by omega, rfl, ⟨hn, fun x x0 x1 => ⟨(hg.2 x x0 x1).1, fun i i0 i1 => ?_⟩⟩, fun x x0 x1 => ⟨(h.2.2 x x0 x1).1, fun i i0 i1 => ?_⟩⟩
        · by_cases e2 : (x * 60 + i).toNat = (v1 * 60 + v2).toNat
          · rw [e2, mzu_same rfl]; omega
          · rw [mzu_other e2]; exact (hg.2 x x0 x1).2 i i0 i1
        · by_cases e2 : (x * 60 + i).toNat = (v1 * 60 + v2).toNat
          · rw [e2, mzu_same rfl, mzu_same rfl]
          · rw [mzu_other e2, mzu_other e2]; exact (h.2.2 x x0 x1).2 i i0 i1
      · rw [if_neg q3]
        refine ⟨-1, pb, mp, ?_, rfl, by omega, h⟩
        by_cases q4 : v3 < 32
        · rw [if_pos q4]; rfl
        · rw [if_neg q4, if_pos (by omega)]; rfl
    · rw [if_neg (show ¬ (0 ≤ v2 ∧ v2 ≤ pl v1.toNat - 1) by omega)]
      refine ⟨-1, pb, mp, ?_, rfl, by omega, h⟩
      by_cases q4 : v2 < 0
      · rw [if_pos q4]
      · rw [if_neg q4, if_neg (by omega)]
  · rw [if_neg q, if_neg (show ¬ (0 ≤ v1 ∧ v1 ≤ pc - 1) by omega)]
    exact ⟨_, _, _, rfl, rfl, by omega, h⟩
theorem p_clear {pb pl mp ms : Nat → Int} {pc ml : Int} (h : mPg pb pl pc mp ms ml) : ∃ r n, f_X5_clear pc = some (r, n) ∧ f_X6_clear ml = some (r, n) ∧ mW r ∧ mPg pb pl n mp ms n := by
  have hg := h.2.1
  have hn := hg.1
  have hc := h.1
  subst hc
  exact ⟨pc, 0, rfl, rfl, ⟨by omega, by omega⟩, rfl, ⟨by omega, fun x x0 x1 => by omega⟩, fun x x0 x1 => by omega⟩
/-- what was found last: the same in both programs -/
def mFo (cuts : Nat → Int) (columns best next plain rules joined : Int) (has : Int) (tolds : Nat → Int) (fcols : Int) (fcuts : Nat → Int) : Prop :=
  (columns = 0 ∧ has = 0) ∨ (has = 1 ∧ (1 ≤ columns ∧ columns ≤ 8) ∧ fcols = columns ∧ tolds 0 = best ∧ tolds 1 = next ∧ tolds 2 = plain ∧ tolds 3 = rules ∧ tolds 4 = joined ∧ (∀ j : Nat, (j : Int) ≤ columns → cuts j = fcuts j ∧ mW (cuts j)) ∧ mW best ∧ mW next ∧ mW plain ∧ mW rules ∧ mW joined)
theorem p_told {cuts tolds fcuts : Nat → Int} {columns best next plain rules joined has fcols v1 : Int} (h : mFo cuts columns best next plain rules joined has tolds fcols fcuts) (h1 : mW v1) : ∃ r, f_X5_told columns best next plain rules joined v1 = some r ∧ f_X6_told has tolds v1 = some r ∧ mW r := by
  unfold f_X5_told f_X6_told
  have hv := h1
  unfold mW at hv
  rw [mw32 hv, m_in (by omega)]
  simp only [mzb]
  by_cases q : 0 ≤ v1 ∧ v1 ≤ 4
  · rw [if_pos q]
    rcases h with ⟨c1, c2⟩ | ⟨c1, c2, c3, t0, t1, t2, t3, t4, c4, w0, w1, w2, w3, w4⟩
    · subst c1 c2
      simp (disch := omega) only [mlt, meq]
      rw [if_neg (by omega), if_neg (by omega), if_pos trivial, if_neg (by decide), if_pos trivial]
      exact ⟨_, rfl, rfl, by unfold mW; omega⟩
    · subst c1
      rw [mrd (by omega)]
      simp (disch := omega) only [mlt, meq, mi0]
      rw [if_neg (show ¬ v1 < 0 by omega), if_neg (show ¬ 4 < v1 by omega), if_neg (show ¬ columns = 0 by omega)]
      have : v1 = 0 ∨ v1 = 1 ∨ v1 = 2 ∨ v1 = 3 ∨ v1 = 4 := by omega
      rcases this with e | e | e | e | e <;> subst e
      · exact ⟨best, rfl, by rw [← t0]; rfl, w0⟩
      · exact ⟨next, rfl, by rw [← t1]; rfl, w1⟩
      · exact ⟨plain, rfl, by rw [← t2]; rfl, w2⟩
      · exact ⟨rules, rfl, by rw [← t3]; rfl, w3⟩
      · exact ⟨joined, rfl, by rw [← t4]; rfl, w4⟩
  · rw [if_neg q]
    simp (disch := omega) only [mlt]
    refine ⟨-1, ?_, rfl, by unfold mW; omega⟩
    by_cases q4 : v1 < 0
    · rw [if_pos q4]
    · rw [if_neg q4, if_pos (by omega)]
theorem p_cutAt {cuts tolds fcuts : Nat → Int} {columns best next plain rules joined has fcols v1 : Int} (h : mFo cuts columns best next plain rules joined has tolds fcols fcuts) (h1 : mW v1) : ∃ r, f_X5_cutAt cuts columns v1 = some r ∧ f_X6_cutAt has fcols fcuts v1 = some r ∧ mW r := by
  unfold f_X5_cutAt f_X6_cutAt f_X6_cutAt_j30
  have hv := h1
  unfold mW at hv
  rcases h with ⟨c1, c2⟩ | ⟨c1, c2, c3, t0, t1, t2, t3, t4, c4, w0, w1, w2, w3, w4⟩
  · subst c1 c2
    exact ⟨-1, rfl, rfl, by unfold mW; omega⟩
  · subst c1 c3
    rw [mw32 hv, mw32 (by omega), m_in (by omega)]
    simp only [mzb]
    simp (disch := omega) only [mlt, meq]
    rw [if_neg (show ¬ fcols = 0 by omega), if_neg (show ¬ (1 : Int) = 0 by decide)]
    by_cases q : 0 ≤ v1 ∧ v1 ≤ fcols
    · rw [if_pos q, if_neg (show ¬ v1 < 0 by omega), if_neg (show ¬ fcols < v1 by omega), m_pick_in (by omega), mrd (by omega)]
      obtain ⟨e1, e2⟩ := c4 v1.toNat (by omega)
      exact ⟨cuts v1.toNat, rfl, by rw [← e1]; rfl, e2⟩
    · rw [if_neg q]
      refine ⟨-1, ?_, rfl, by unfold mW; omega⟩
      by_cases q4 : v1 < 0
      · rw [if_pos q4]
      · rw [if_neg q4, if_pos (by omega)]
