/-! readings reckoned from the right end: least and next, by columns left and place -/
def mTk (v : Int) (s : Int × Int) : Int × Int := if v < s.1 then (v, s.1) else if v < s.2 then (s.1, v) else s
def mTkr (r way : Int) (s : Int × Int) : Int × Int := if r = 1000000 then s else mTk (r + way) s
def mWy (cc : Int → Int → Int) (xc : Int → Int) (w c d : Int) : Int := cc c d + (if d < w then xc d else 0)
def mFd (g : Int → Int × Int) (wy : Int → Int) (c : Int) : Nat → Int × Int
  | 0 => (1000000, 1000000)
  | j + 1 => mTkr (g (c + 1 + (j : Int))).2 (wy (c + 1 + (j : Int))) (mTkr (g (c + 1 + (j : Int))).1 (wy (c + 1 + (j : Int))) (mFd g wy c j))
def mF (cc : Int → Int → Int) (xc : Int → Int) (w : Int) : Nat → Int → Int × Int
  | 0, c => (if c = w then 0 else 1000000, 1000000)
  | k + 1, c => mFd (mF cc xc w k) (mWy cc xc w c) c (w - c).toNat
/-- a pair of costs, none (1000000) or at most m, the first the less -/
def mPr (m : Int) (s : Int × Int) : Prop := (s.1 = 1000000 ∨ (0 ≤ s.1 ∧ s.1 ≤ m)) ∧ (s.2 = 1000000 ∨ (0 ≤ s.2 ∧ s.2 ≤ m)) ∧ s.1 ≤ s.2
theorem mPr_tkr {m r way : Int} {s : Int × Int} (hs : mPr m s) (hr : r = 1000000 ∨ (0 ≤ r + way ∧ r + way ≤ m)) (hm : m < 1000000) : mPr m (mTkr r way s) := by
  obtain ⟨a, b⟩ := s
  obtain ⟨h1, h2, h3⟩ := hs
  unfold mTkr mTk
  dsimp only at h1 h2 h3 ⊢
  by_cases e : r = 1000000
  · rw [if_pos e]; exact ⟨h1, h2, h3⟩
  · rw [if_neg e]
    by_cases e1 : r + way < a
    · rw [if_pos e1]; exact ⟨by dsimp only; omega, by dsimp only; omega, by dsimp only; omega⟩
    · rw [if_neg e1]
      by_cases e2 : r + way < b
      · rw [if_pos e2]; exact ⟨by dsimp only; omega, by dsimp only; omega, by dsimp only; omega⟩
      · rw [if_neg e2]; exact ⟨h1, h2, h3⟩
theorem mFd_pr {g : Int → Int × Int} {wy : Int → Int} {c m : Int} (hm : m + 5000 < 1000000) (hm0 : 0 ≤ m) (n : Nat) (hg : ∀ j : Nat, j < n → mPr m (g (c + 1 + (j : Int)))) (hw : ∀ j : Nat, j < n → 0 ≤ wy (c + 1 + (j : Int)) ∧ wy (c + 1 + (j : Int)) ≤ 5000) : mPr (m + 5000) (mFd g wy c n) := by
  induction n with
  | zero => exact ⟨Or.inl rfl, Or.inl rfl, Int.le_refl _⟩
  | succ n ih =>
    have h1 := hg n (by omega)
    have h2 := hw n (by omega)
    have h3 := ih (fun j hj => hg j (by omega)) (fun j hj => hw j (by omega))
    obtain ⟨q1, q2, q3⟩ := h1
    show mPr (m + 5000) (mTkr _ _ (mTkr _ _ _))
    exact mPr_tkr (mPr_tkr h3 (by omega) (by omega)) (by omega) (by omega)
/-- costs of columns and cuts as they may be -/
def mCs (cc : Int → Int → Int) (xc : Int → Int) (w : Int) : Prop := (0 < w ∧ w ≤ 60) ∧ (∀ s e : Int, 0 ≤ s → s < e → e ≤ w → 0 ≤ cc s e ∧ cc s e ≤ 4800) ∧ ∀ c : Int, 0 < c → c < w → 0 ≤ xc c ∧ xc c ≤ 200
theorem mWy_r {cc : Int → Int → Int} {xc : Int → Int} {w c d : Int} (h : mCs cc xc w) (hc : 0 ≤ c) (hd : c < d ∧ d ≤ w) : 0 ≤ mWy cc xc w c d ∧ mWy cc xc w c d ≤ 5000 := by
  have h1 := h.2.1 c d hc hd.1 hd.2
  unfold mWy
  by_cases e : d < w
  · have := h.2.2 d (by omega) e
    rw [if_pos e]; omega
  · rw [if_neg e]; omega
theorem mF_pr {cc : Int → Int → Int} {xc : Int → Int} {w : Int} (h : mCs cc xc w) (k : Nat) (hk : k ≤ 8) : ∀ c : Int, 0 ≤ c → c ≤ w → mPr (5000 * (k : Int)) (mF cc xc w k c) := by
  induction k with
  | zero =>
    intro c h1 h2
    show mPr _ (if c = w then 0 else 1000000, 1000000)
    by_cases e : c = w
    · rw [if_pos e]; exact ⟨Or.inr (by dsimp only; omega), Or.inl rfl, by dsimp only; omega⟩
    · rw [if_neg e]; exact ⟨Or.inl rfl, Or.inl rfl, by dsimp only; omega⟩
  | succ k ih =>
    intro c h1 h2
    show mPr _ (mFd (mF cc xc w k) (mWy cc xc w c) c (w - c).toNat)
    have e : 5000 * ((k + 1 : Nat) : Int) = 5000 * (k : Int) + 5000 := by omega
    rw [e]
    exact mFd_pr (by omega) (by omega) _ (fun j hj => ih (by omega) _ (by omega) (by omega)) (fun j hj => mWy_r h h1 (by omega))
/-- the first cut behind place c of the best way with k + 1 columns -/
def mFst (g : Int → Int × Int) (wy : Int → Int) (c best d0 : Int) : Prop := (g d0).1 ≠ 1000000 ∧ (g d0).1 + wy d0 = best ∧ ∀ d : Int, c < d → d < d0 → (g d).1 = 1000000 ∨ best < (g d).1 + wy d
theorem mFst_uniq {g : Int → Int × Int} {wy : Int → Int} {c best d d' : Int} (h : mFst g wy c best d) (h' : mFst g wy c best d') (hd : c < d) (hd' : c < d') : d = d' := by
  rcases Int.lt_trichotomy d d' with q | q | q
  · rcases h'.2.2 d hd q with r | r
    · exact absurd r h.1
    · have := h.2.1; omega
  · exact q
  · rcases h.2.2 d' hd' q with r | r
    · exact absurd r h'.1
    · have := h'.2.1; omega
/-- one step of the class's way to keep the two least -/
theorem m_step {m a b r1 r2 here : Int} (hs : mPr m (a, b)) (hr : mPr m (r1, r2)) (hm : m + 5000 < 1000000) (hh : 0 ≤ here ∧ here ≤ 5000) :
    (zmin 1000000 (here + r1) < a → mTkr r2 here (mTkr r1 here (a, b)) = (zmin 1000000 (here + r1), zmin a (zmin 1000000 (here + r2))) ∧ r1 ≠ 1000000 ∧ zmin 1000000 (here + r1) = r1 + here) ∧
    (¬ zmin 1000000 (here + r1) < a → mTkr r2 here (mTkr r1 here (a, b)) = (a, zmin b (zmin 1000000 (here + r1))) ∧ (r1 = 1000000 ∨ a ≤ r1 + here)) := by
  obtain ⟨h1, h2, h3⟩ := hs
  obtain ⟨g1, g2, g3⟩ := hr
  dsimp only at h1 h2 h3 g1 g2 g3
  have e1 : zmin 1000000 (here + r1) = if here + r1 < 1000000 then here + r1 else 1000000 := mmin (by omega)
  have e2 : zmin 1000000 (here + r2) = if here + r2 < 1000000 then here + r2 else 1000000 := mmin (by omega)
  generalize ho : zmin 1000000 (here + r1) = one at e1
  generalize ht : zmin 1000000 (here + r2) = two at e2
  have o1 : (r1 = 1000000 ∧ one = 1000000) ∨ (r1 ≠ 1000000 ∧ one = here + r1 ∧ here + r1 < 1000000) := by
    by_cases q : here + r1 < 1000000
    · rw [if_pos q] at e1; exact Or.inr ⟨by omega, e1, q⟩
    · rw [if_neg q] at e1; exact Or.inl ⟨by omega, e1⟩
  have o2 : (r2 = 1000000 ∧ two = 1000000) ∨ (r2 ≠ 1000000 ∧ two = here + r2 ∧ here + r2 < 1000000) := by
    by_cases q : here + r2 < 1000000
    · rw [if_pos q] at e2; exact Or.inr ⟨by omega, e2, q⟩
    · rw [if_neg q] at e2; exact Or.inl ⟨by omega, e2⟩
  have em1 : zmin a two = if two < a then two else a := mmin (by omega)
  have em2 : zmin b one = if one < b then one else b := mmin (by omega)
  rw [em1, em2]
  clear e1 e2 em1 em2 ho ht
  constructor
  · intro hlt
    refine ⟨?_, by omega, by omega⟩
    unfold mTkr mTk
    dsimp only
    rcases o1 with ⟨p1, p2⟩ | ⟨p1, p2, p3⟩
    · omega
    · rw [if_neg p1, if_pos (show r1 + here < a by omega)]
      dsimp only
      rcases o2 with ⟨q1, q2⟩ | ⟨q1, q2, q3⟩
      · rw [if_pos q1]
        by_cases z : two < a
        · omega
        · rw [if_neg z]; exact Prod.ext (by dsimp only; omega) rfl
      · rw [if_neg q1, if_neg (show ¬ r2 + here < r1 + here by omega)]
        by_cases z : two < a
        · rw [if_pos z, if_pos (show r2 + here < a by omega)]; exact Prod.ext (by dsimp only; omega) (by dsimp only; omega)
        · rw [if_neg z, if_neg (show ¬ r2 + here < a by omega)]; exact Prod.ext (by dsimp only; omega) rfl
  · intro hlt
    refine ⟨?_, by omega⟩
    unfold mTkr mTk
    dsimp only
    rcases o1 with ⟨p1, p2⟩ | ⟨p1, p2, p3⟩
    · rw [if_pos p1, if_pos (show r2 = 1000000 by omega)]
      by_cases z : one < b
      · omega
      · rw [if_neg z]
    · rw [if_neg p1, if_neg (show ¬ r1 + here < a by omega)]
      by_cases z : one < b
      · rw [if_pos z, if_pos (show r1 + here < b by omega)]
        dsimp only
        rcases o2 with ⟨q1, q2⟩ | ⟨q1, q2, q3⟩
        · rw [if_pos q1]; exact Prod.ext rfl (by dsimp only; omega)
        · rw [if_neg q1, if_neg (show ¬ r2 + here < a by omega), if_neg (show ¬ r2 + here < r1 + here by omega)]; exact Prod.ext rfl (by dsimp only; omega)
      · rw [if_neg z, if_neg (show ¬ r1 + here < b by omega)]
        dsimp only
        rcases o2 with ⟨q1, q2⟩ | ⟨q1, q2, q3⟩
        · rw [if_pos q1]
        · rw [if_neg q1, if_neg (show ¬ r2 + here < a by omega), if_neg (show ¬ r2 + here < b by omega)]
theorem mFd_none {g : Int → Int × Int} {wy : Int → Int} {c : Int} (n : Nat) (h : ∀ j : Nat, j < n → g (c + 1 + (j : Int)) = (1000000, 1000000)) : mFd g wy c n = (1000000, 1000000) := by
  induction n with
  | zero => rfl
  | succ n ih =>
    show mTkr _ _ (mTkr _ _ _) = _
    rw [h n (by omega), ih (fun j hj => h j (by omega))]
    rfl
/-- with one column: its cost, and no other way -/
theorem mF_1 {cc : Int → Int → Int} {xc : Int → Int} {w c : Int} (h : mCs cc xc w) (hc : 0 ≤ c ∧ c < w) : mF cc xc w 1 c = (cc c w, 1000000) := by
  show mFd (mF cc xc w 0) (mWy cc xc w c) c (w - c).toNat = _
  obtain ⟨n, hn⟩ : ∃ n : Nat, (w - c).toNat = n + 1 := ⟨(w - c).toNat - 1, by omega⟩
  rw [hn]
  show mTkr _ _ (mTkr _ _ _) = _
  have hw : c + 1 + (n : Int) = w := by omega
  rw [hw, mFd_none n (fun j hj => by
    show (if c + 1 + (j : Int) = w then (0 : Int) else 1000000, (1000000 : Int)) = _
    rw [if_neg (by omega)])]
  have hcc := h.2.1 c w hc.1 hc.2 (Int.le_refl _)
  have e0 : mF cc xc w 0 w = (0, 1000000) := by
    show (if w = w then (0 : Int) else 1000000, (1000000 : Int)) = _
    rw [if_pos rfl]
  rw [e0]
  have ew : mWy cc xc w c w = cc c w := by unfold mWy; rw [if_neg (by omega)]; omega
  rw [ew]
  unfold mTkr mTk
  dsimp only
  rw [if_pos rfl, if_neg (by decide), if_pos (by omega)]
  exact Prod.ext (by dsimp only; omega) rfl
theorem mF_w (cc : Int → Int → Int) (xc : Int → Int) (w : Int) (k : Nat) : mF cc xc w (k + 1) w = (1000000, 1000000) := by
  show mFd _ _ w (w - w).toNat = _
  rw [show (w - w).toNat = 0 by omega]
  rfl
/-- the last place adds no way but to one column -/
theorem mF_s {cc : Int → Int → Int} {xc : Int → Int} {w c : Int} (k : Nat) (hc : 0 ≤ c ∧ c < w) : mF cc xc w (k + 2) c = mFd (mF cc xc w (k + 1)) (mWy cc xc w c) c (w - c - 1).toNat := by
  show mFd (mF cc xc w (k + 1)) (mWy cc xc w c) c (w - c).toNat = _
  rw [show (w - c).toNat = (w - c - 1).toNat + 1 by omega]
  show mTkr _ _ (mTkr _ _ _) = _
  rw [show c + 1 + (((w - c - 1).toNat : Nat) : Int) = w by omega, mF_w]
  rfl
