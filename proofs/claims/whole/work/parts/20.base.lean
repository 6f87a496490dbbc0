/-! plain facts: casts of small numbers, loops with fuel, folds -/
theorem mlt {a b : Int} (h : (-2147483648 ≤ a ∧ a < 2147483648) ∧ -2147483648 ≤ b ∧ b < 2147483648) : (zI a < zI b) = (a < b) := by
  apply propext
  rw [Int32.lt_iff_toInt_lt, zI_toInt h.1.1 h.1.2, zI_toInt h.2.1 h.2.2]
theorem meq {a b : Int} (h : (-2147483648 ≤ a ∧ a < 2147483648) ∧ -2147483648 ≤ b ∧ b < 2147483648) : (zI a = zI b) = (a = b) := by
  apply propext
  constructor
  · intro e
    have e2 := congrArg Int32.toInt e
    rw [zI_toInt h.1.1 h.1.2, zI_toInt h.2.1 h.2.2] at e2
    exact e2
  · intro e; rw [e]
theorem mrd {α : Type} {f : Nat → Int} {n i : Int} {K : Int → Option α} (h : 0 ≤ i ∧ i < n) : zrd f n i K = K (f i.toNat) := by unfold zrd; rw [if_pos h]
theorem mwr {α : Type} {f : Nat → Int} {n i v : Int} {K : (Nat → Int) → Option α} (h : 0 ≤ i ∧ i < n) : zwr f n i v K = K (zu f i v) := by unfold zwr; rw [if_pos h]
theorem mch {α : Type} {v : Int} {K : Option α} (h : v = 0 ∨ v = 1) : zch v K = K := by unfold zch; rw [if_pos h]
theorem mzb {α β : Type} {x : α} {K : α → Option β} : zb (some x) K = K x := rfl
theorem mw32 {a : Int} (h : -2147483648 ≤ a ∧ a < 2147483648) : zw32 a = a := zI_toInt h.1 h.2
theorem mmin {a b : Int} (h : (-2147483648 ≤ a ∧ a < 2147483648) ∧ -2147483648 ≤ b ∧ b < 2147483648) : zmin a b = if b < a then b else a := by
  unfold zmin; simp only [mlt (a := b) (b := a) ⟨h.2, h.1⟩]
theorem mmax {a b : Int} (h : (-2147483648 ≤ a ∧ a < 2147483648) ∧ -2147483648 ≤ b ∧ b < 2147483648) : zmax a b = if a < b then b else a := by
  unfold zmax; simp only [mlt (a := a) (b := b) h]
theorem mcmp {a b : Int} (h : (-9223372036854775808 ≤ a ∧ a < 9223372036854775808) ∧ -9223372036854775808 ≤ b ∧ b < 9223372036854775808) : zlcmp a b = if b < a then 1 else if a = b then 0 else -1 := by
  have hl : (zJ b < zJ a) ↔ b < a := by rw [Int64.lt_iff_toInt_lt, zJ_toInt h.1.1 h.1.2, zJ_toInt h.2.1 h.2.2]
  have he : (zJ a = zJ b) ↔ a = b := ⟨fun e => by
    have e2 := congrArg Int64.toInt e
    rw [zJ_toInt h.1.1 h.1.2, zJ_toInt h.2.1 h.2.2] at e2
    exact e2, fun e => by rw [e]⟩
  unfold zlcmp lg_cmp
  simp only [hl, he]
  by_cases h1 : b < a
  · rw [if_pos h1, if_pos h1]; rfl
  · rw [if_neg h1, if_neg h1]
    by_cases h2 : a = b
    · rw [if_pos h2, if_pos h2]; rfl
    · rw [if_neg h2, if_neg h2]; rfl
theorem mzN {k : Nat} (h : k ≤ 100000) : k < zN := by unfold zN; omega
theorem mzu_same {f : Nat → Int} {i v : Int} {j : Nat} (h : j = i.toNat) : zu f i v j = v := by unfold zu; rw [if_pos h]
theorem mzu_other {f : Nat → Int} {i v : Int} {j : Nat} (h : ¬ j = i.toNat) : zu f i v j = f j := by unfold zu; rw [if_neg h]
theorem mzu {f : Nat → Int} {i v : Int} {j : Nat} : zu f i v j = if j = i.toNat then v else f j := rfl
/-- a loop that counts up to hi: with an invariant P, whatever holds of its ends holds of it -/
theorem mloop {σ ρ : Type} {L : Nat → Int → σ → Option ρ} {Q : Option ρ → Prop} {hi : Int} {P : Int → σ → Prop}
    (hs : ∀ n i s, i < hi → P i s → Q (L (n + 1) i s) ∨ ∃ s', L (n + 1) i s = L n (i + 1) s' ∧ P (i + 1) s')
    (hx : ∀ n s, P hi s → Q (L (n + 1) hi s)) : ∀ n i s, i ≤ hi → (hi - i).toNat < n → P i s → Q (L n i s) := by
  intro n
  induction n with
  | zero => intro i s h1 h2; omega
  | succ n ih =>
    intro i s h1 h2 hP
    by_cases h : i < hi
    · rcases hs n i s h hP with q | ⟨s', e, p⟩
      · exact q
      · rw [e]; exact ih (i + 1) s' (by omega) (by omega) p
    · have : i = hi := by omega
      subst this
      exact hx n s hP
/-- a loop that counts down to lo (it is left at lo - 1) -/
theorem mloopD {σ ρ : Type} {L : Nat → Int → σ → Option ρ} {Q : Option ρ → Prop} {lo : Int} {P : Int → σ → Prop}
    (hs : ∀ n i s, lo ≤ i → P i s → Q (L (n + 1) i s) ∨ ∃ s', L (n + 1) i s = L n (i - 1) s' ∧ P (i - 1) s')
    (hx : ∀ n s, P (lo - 1) s → Q (L (n + 1) (lo - 1) s)) : ∀ n i s, lo - 1 ≤ i → (i - (lo - 1)).toNat < n → P i s → Q (L n i s) := by
  intro n
  induction n with
  | zero => intro i s h1 h2; omega
  | succ n ih =>
    intro i s h1 h2 hP
    by_cases h : lo ≤ i
    · rcases hs n i s h hP with q | ⟨s', e, p⟩
      · exact q
      · rw [e]; exact ih (i - 1) s' (by omega) (by omega) p
    · have : i = lo - 1 := by omega
      subst this
      exact hx n s hP
/-- a loop with a measure that falls -/
theorem mloopM {σ ρ : Type} {L : Nat → σ → Option ρ} {Q : Option ρ → Prop} (μ : σ → Nat) {P : σ → Prop}
    (hs : ∀ n s, P s → Q (L (n + 1) s) ∨ ∃ s', L (n + 1) s = L n s' ∧ P s' ∧ μ s' < μ s) : ∀ n s, μ s < n → P s → Q (L n s) := by
  intro n
  induction n with
  | zero => intro s h; omega
  | succ n ih =>
    intro s h hP
    rcases hs n s hP with q | ⟨s', e, p, m⟩
    · exact q
    · rw [e]; exact ih s' (by omega) p
theorem m_pick {n : Nat} {r : Nat → Int} {i : Int} (hn : n < 2147483648) (hi : -2147483648 ≤ i ∧ i < 2147483648) : f_X5_pick n r i = some (if 0 ≤ i ∧ i < n then r i.toNat else 0) := by
  unfold f_X5_pick f_X5_pick_j16
  simp (disch := omega) only [mlt]
  by_cases h1 : i < 0
  · rw [if_pos h1, if_neg (by omega)]
  · rw [if_neg h1]
    by_cases h2 : i < (n : Int)
    · rw [if_pos h2, if_pos (by omega), mrd (by omega)]
    · rw [if_neg h2, if_neg (by omega)]
theorem m_pick_in {n : Nat} {r : Nat → Int} {i : Int} (h : n < 2147483648 ∧ 0 ≤ i ∧ i < n) : f_X5_pick n r i = some (r i.toNat) := by
  rw [m_pick h.1 (by omega), if_pos h.2]
theorem m_put {n : Nat} {r : Nat → Int} {i v : Int} (hn : n < 2147483648) (hi : -2147483648 ≤ i ∧ i < 2147483648) : f_X5_put n r i v = some (if 0 ≤ i ∧ i < n then zu r i v else r) := by
  unfold f_X5_put
  simp (disch := omega) only [mlt]
  by_cases h1 : i < 0
  · rw [if_pos h1, if_neg (by omega)]
  · rw [if_neg h1]
    by_cases h2 : i < (n : Int)
    · rw [if_pos h2, if_pos (by omega), mwr (by omega)]
    · rw [if_neg h2, if_neg (by omega)]
theorem m_put_in {n : Nat} {r : Nat → Int} {i v : Int} (h : n < 2147483648 ∧ 0 ≤ i ∧ i < n) : f_X5_put n r i v = some (zu r i v) := by
  rw [m_put h.1 (by omega), if_pos h.2]
theorem m_in {v lo hi : Int} (h : (-9223372036854775808 ≤ v ∧ v < 9223372036854775808) ∧ (-9223372036854775808 ≤ lo ∧ lo < 9223372036854775808) ∧ -9223372036854775808 ≤ hi ∧ hi < 9223372036854775808) : f_X6_in v lo hi = some (if lo ≤ v ∧ v ≤ hi then 1 else 0) := by
  unfold f_X6_in f_X6_in_j17
  rw [mcmp ⟨h.1, h.2.1⟩, mcmp ⟨h.1, h.2.2⟩]
  by_cases h1 : v < lo
  · rw [if_neg (show ¬ lo < v by omega), if_neg (show ¬ v = lo by omega), if_pos (show zI (-1) < zI 0 by decide), if_neg (by omega)]
  · have e1 : ¬ zI (if lo < v then 1 else if v = lo then 0 else -1) < zI 0 := by
      by_cases h2 : lo < v
      · rw [if_pos h2]; decide
      · rw [if_neg h2, if_pos (by omega)]; decide
    rw [if_neg e1]
    by_cases h2 : hi < v
    · rw [if_pos h2, if_pos (show zI 0 < zI 1 by decide), if_neg (by omega)]
    · have e2 : ¬ zI 0 < zI (if hi < v then 1 else if v = hi then 0 else -1) := by
        rw [if_neg h2]
        by_cases h3 : v = hi
        · rw [if_pos h3]; decide
        · rw [if_neg h3]; decide
      rw [if_neg e2, if_pos (by omega)]
