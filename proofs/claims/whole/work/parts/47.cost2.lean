/-! the call that tells a cost -/
/-- whether a place is a cut, by two words of bits -/
def mbt (v1 v2 p : Int) : Int := if p < 32 then v1 / 2 ^ p.toNat % 2 else v2 / 2 ^ (p - 32).toNat % 2
theorem mbt_b (v1 v2 p : Int) : mbt v1 v2 p = 0 ∨ mbt v1 v2 p = 1 := by unfold mbt; split <;> omega
theorem m_isCut {v1 v2 p : Int} (h1 : mW v1) (h2 : mW v2) (hp : 0 ≤ p ∧ p < 64) : f_X5_isCut v1 v2 p = some (mbt v1 v2 p) := by
  unfold f_X5_isCut f_X5_isCut_j18 mbt
  simp (disch := omega) only [mlt]
  by_cases q : p < 32
  · have e := mq_ush (v := v1) (c := p.toNat) (by omega) h1
    rw [show ((p.toNat : Nat) : Int) = p by omega] at e
    rw [if_pos q, if_pos q, mq_and1, e]
    have : v1 / 2 ^ p.toNat % 2 = 0 ∨ v1 / 2 ^ p.toNat % 2 = 1 := by omega
    rcases this with c | c <;> rw [c] <;> rfl
  · have e := mq_ush (v := v2) (c := (p - 32).toNat) (by omega) h2
    rw [show (((p - 32).toNat : Nat) : Int) = p - 32 by omega] at e
    rw [if_neg q, if_neg q, mq_and1, e]
    have : v2 / 2 ^ (p - 32).toNat % 2 = 0 ∨ v2 / 2 ^ (p - 32).toNat % 2 = 1 := by omega
    rcases this with c | c <;> rw [c] <;> rfl
/-- the cost of a reading by cuts: from place p on, cuts so far, sum so far, the last cut -/
def mCo (cc : Int → Int → Int) (xc bt : Int → Int) (w : Int) : Nat → Int → Int → Int → Option Int
  | 0, _, sum, last => some (sum + cc last w)
  | n + 1, cnt, sum, last => if bt (64 - ((n + 1 : Nat) : Int)) = 0 then mCo cc xc bt w n cnt sum last else if 64 - ((n + 1 : Nat) : Int) < w ∧ cnt < 7 then mCo cc xc bt w n (cnt + 1) (sum + (xc (64 - ((n + 1 : Nat) : Int)) + cc last (64 - ((n + 1 : Nat) : Int)))) (64 - ((n + 1 : Nat) : Int)) else none
theorem m_costC {B : Int → Int → Int} {l : List Int} {w v1 v2 : Int} {cr nx g : Nat → Int} (hs : mSv B l w cr nx g) (hcs : mCs (mCC B l) (mXC B l) w) (h1 : mW v1) (h2 : mW v2) : ∀ (n m : Nat) (cnt sum last : Int), n < m → (n ≤ 63) → (0 ≤ cnt ∧ cnt ≤ 7) → (0 ≤ sum ∧ sum ≤ 5000 * cnt) → (0 ≤ last ∧ last < 64 - (n : Int) ∧ last < w) →
    f_X5_costOfReading_l11 (fun (v3_7 : Int) (v5_8 : Int) => zb (f_X0_columnCost nx g v5_8 w) (fun o_9 => some (v3_7 + o_9))) v1 v2 w cr nx g m sum (cnt + 1) last (64 - (n : Int)) = some ((mCo (mCC B l) (mXC B l) (mbt v1 v2) w n cnt sum last).getD (-1)) ∧ (-1 ≤ (mCo (mCC B l) (mXC B l) (mbt v1 v2) w n cnt sum last).getD (-1) ∧ (mCo (mCC B l) (mXC B l) (mbt v1 v2) w n cnt sum last).getD (-1) ≤ 50000) := by
  have hw := hcs.1
  intro n
  induction n with
  | zero =>
    intro m cnt sum last hm hn hc hsum hlast
    obtain ⟨m, rfl⟩ : ∃ k, m = k + 1 := ⟨m - 1, by omega⟩
    have hcc := hcs.2.1 last w hlast.1 hlast.2.2 (by omega)
    rw [f_X5_costOfReading_l11_s, hs.1 last w hlast.1 hlast.2.2 (by omega)]
    simp (disch := omega) only [mlt, mzb]
    rw [if_neg (by omega)]
    unfold mCo
    refine ⟨rfl, ?_, ?_⟩ <;> dsimp only [Option.getD] <;> omega
  | succ n ih =>
    intro m cnt sum last hm hn hc hsum hlast
    obtain ⟨m, rfl⟩ : ∃ k, m = k + 1 := ⟨m - 1, by omega⟩
    have hb := mbt_b v1 v2 (64 - ((n + 1 : Nat) : Int))
    rw [f_X5_costOfReading_l11_s, m_isCut h1 h2 (by omega)]
    simp (disch := omega) only [mlt, meq, mzb]
    rw [if_pos (show 64 - ((n + 1 : Nat) : Int) < 64 by omega)]
    unfold mCo
    have ep : 64 - ((n + 1 : Nat) : Int) + 1 = 64 - (n : Int) := by omega
    rw [ep]
    by_cases q : mbt v1 v2 (64 - ((n + 1 : Nat) : Int)) = 0
    · rw [if_pos q, if_pos q]
      exact ih m cnt sum last (by omega) (by omega) hc hsum (by omega)
    · rw [if_neg q, if_neg q]
      by_cases q1 : 64 - ((n + 1 : Nat) : Int) < w
      · by_cases q2 : cnt < 7
        · have hcc := hcs.2.1 last (64 - ((n + 1 : Nat) : Int)) hlast.1 (by omega) (by omega)
          have hxc := hcs.2.2 (64 - ((n + 1 : Nat) : Int)) (by omega) q1
          rw [if_pos q1, if_pos (show cnt + 1 < 8 by omega), if_pos ⟨q1, q2⟩, hs.1 last (64 - ((n + 1 : Nat) : Int)) hlast.1 (by omega) (by omega), hs.2 (64 - ((n + 1 : Nat) : Int)) (by omega) q1]
          simp only [mzb]
          rw [show sum + (mXC B l (64 - ((n + 1 : Nat) : Int)) + mCC B l last (64 - ((n + 1 : Nat) : Int))) = sum + (mCC B l last (64 - ((n + 1 : Nat) : Int)) + mXC B l (64 - ((n + 1 : Nat) : Int))) by omega]
          exact ih m (cnt + 1) _ _ (by omega) (by omega) (by omega) (by omega) (by omega)
        · rw [if_pos q1, if_neg (show ¬ cnt + 1 < 8 by omega), if_neg (fun h => q2 h.2)]
          refine ⟨rfl, ?_, ?_⟩ <;> dsimp only [Option.getD] <;> omega
      · rw [if_neg q1, if_neg (fun h => q1 h.1)]
        refine ⟨rfl, ?_, ?_⟩ <;> dsimp only [Option.getD] <;> omega
theorem m_costM {cc : Int → Int → Int} {xc : Int → Int} {w v1 v2 a b : Int} {ms mp pf : Nat → Int} (hcs : mCs cc xc w) (hcc : ∀ s e : Int, 0 ≤ s → s < e → e ≤ w → f_X6_columnCost ms mp a b pf s e = some (cc s e)) (hxc : ∀ c : Int, 0 < c → c < w → f_X6_cutCost ms mp a b pf c = some (xc c)) (h1 : mW v1) (h2 : mW v2) : ∀ (n m : Nat) (cnt sum last : Int), n < m → (n ≤ 63) → (0 ≤ cnt ∧ cnt ≤ 7) → (0 ≤ sum ∧ sum ≤ 5000 * cnt) → (0 ≤ last ∧ last < 64 - (n : Int) ∧ last < w) →
    f_X6_cost_l23 (fun (v6_7 : Int) (v7_8 : Int) => zb (f_X6_columnCost ms mp a b pf v7_8 w) (fun o_9 => some ((v6_7 + o_9), a, b, w, pf))) v1 v2 ms mp a b w pf m cnt sum last (64 - (n : Int)) = some ((mCo cc xc (mbt v1 v2) w n cnt sum last).getD (-1), a, b, w, pf) := by
  have hw := hcs.1
  intro n
  induction n with
  | zero =>
    intro m cnt sum last hm hn hc hsum hlast
    obtain ⟨m, rfl⟩ : ∃ k, m = k + 1 := ⟨m - 1, by omega⟩
    rw [f_X6_cost_l23_s, hcc last w hlast.1 hlast.2.2 (by omega)]
    simp (disch := omega) only [mlt, mzb]
    rw [if_neg (by omega)]
    rfl
  | succ n ih =>
    intro m cnt sum last hm hn hc hsum hlast
    obtain ⟨m, rfl⟩ : ∃ k, m = k + 1 := ⟨m - 1, by omega⟩
    have hb := mbt_b v1 v2 (64 - ((n + 1 : Nat) : Int))
    have ep : 64 - ((n + 1 : Nat) : Int) + 1 = 64 - (n : Int) := by omega
    have key : ∀ s0 : Int, s0 = mbt v1 v2 (64 - ((n + 1 : Nat) : Int)) → f_X6_cost_j74 (f_X6_cost_l23 (fun (v6_7 : Int) (v7_8 : Int) => zb (f_X6_columnCost ms mp a b pf v7_8 w) (fun o_9 => some ((v6_7 + o_9), a, b, w, pf))) v1 v2 ms mp a b w pf m) s0 cnt sum last (64 - ((n + 1 : Nat) : Int)) ms mp a b w pf = some ((mCo cc xc (mbt v1 v2) w (n + 1) cnt sum last).getD (-1), a, b, w, pf) := by
      intro s0 hs0
      unfold f_X6_cost_j74 mCo
      simp (disch := omega) only [mlt, meq]
      rw [ep, hs0]
      by_cases q : mbt v1 v2 (64 - ((n + 1 : Nat) : Int)) = 0
      · rw [if_pos q, if_pos q]
        exact ih m cnt sum last (by omega) (by omega) hc hsum (by omega)
      · rw [if_neg q, if_neg q]
        by_cases q1 : 64 - ((n + 1 : Nat) : Int) < w
        · by_cases q2 : cnt < 7
          · have hcc1 := hcs.2.1 last (64 - ((n + 1 : Nat) : Int)) hlast.1 (by omega) (by omega)
            have hxc1 := hcs.2.2 (64 - ((n + 1 : Nat) : Int)) (by omega) q1
            rw [if_pos q1, if_neg (show ¬ 7 < cnt + 1 by omega), if_pos ⟨q1, q2⟩, hcc last (64 - ((n + 1 : Nat) : Int)) hlast.1 (by omega) (by omega), hxc (64 - ((n + 1 : Nat) : Int)) (by omega) q1]
            simp only [mzb]
            exact ih m (cnt + 1) _ _ (by omega) (by omega) (by omega) (by omega) (by omega)
          · rw [if_pos q1, if_pos (show 7 < cnt + 1 by omega), if_neg (fun h => q2 h.2)]
            rfl
        · rw [if_neg q1, if_neg (fun h => q1 h.1)]
          rfl
    have e1 : (64 - ((n + 1 : Nat) : Int)) < 32 → zand (zishr v1 (64 - ((n + 1 : Nat) : Int))) 1 = mbt v1 v2 (64 - ((n + 1 : Nat) : Int)) := by
      intro q
      have e := mq_sh (v := v1) (c := (64 - ((n + 1 : Nat) : Int)).toNat) (by omega) h1
      rw [show (((64 - ((n + 1 : Nat) : Int)).toNat : Nat) : Int) = 64 - ((n + 1 : Nat) : Int) by omega] at e
      unfold mbt
      rw [mq_and1, e, if_pos q]
    have e2 : ¬ (64 - ((n + 1 : Nat) : Int)) < 32 → zand (zishr v2 (64 - ((n + 1 : Nat) : Int) - 32)) 1 = mbt v1 v2 (64 - ((n + 1 : Nat) : Int)) := by
      intro q
      have e := mq_sh (v := v2) (c := (64 - ((n + 1 : Nat) : Int) - 32).toNat) (by omega) h2
      rw [show (((64 - ((n + 1 : Nat) : Int) - 32).toNat : Nat) : Int) = 64 - ((n + 1 : Nat) : Int) - 32 by omega] at e
      unfold mbt
      rw [mq_and1, e, if_neg q]
    rw [f_X6_cost_l23_s]
    simp (disch := omega) only [mlt]
    rw [if_pos (show 64 - ((n + 1 : Nat) : Int) < 64 by omega)]
    by_cases q : 64 - ((n + 1 : Nat) : Int) < 32
    · rw [if_pos q, e1 q]
      rcases hb with c | c
      · rw [if_neg (by rw [c]; decide)]
        exact key 0 c.symm
      · rw [if_pos (by rw [c])]
        exact key 1 c.symm
    · rw [if_neg q, e2 q]
      rcases hb with c | c
      · rw [if_neg (by rw [c]; decide)]
        exact key 0 c.symm
      · rw [if_pos (by rw [c])]
        exact key 1 c.symm
