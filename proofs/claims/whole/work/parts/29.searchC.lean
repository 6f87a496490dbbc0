/-! the class's search -/
theorem m_keep {ls sc fc : Nat → Int} {slot a b c : Int} (h : 0 ≤ slot ∧ slot < 549) : f_X3_keep ls sc fc slot a b c = some (zu ls slot a, zu sc slot b, zu fc slot c) := by
  unfold f_X3_keep
  rw [m_put_in ⟨by omega, by omega, by omega⟩, mzb, m_put_in ⟨by omega, by omega, by omega⟩, mzb, m_put_in ⟨by omega, by omega, by omega⟩, mzb]
/-- what the rows hold for place d with k columns left -/
def mRow (cc : Int → Int → Int) (xc : Int → Int) (w : Int) (ls sc fc : Nat → Int) (k : Nat) (d : Int) : Prop := ls ((k : Int) * 61 + d).toNat = (mF cc xc w k d).1 ∧ sc ((k : Int) * 61 + d).toNat = (mF cc xc w k d).2 ∧ ((mF cc xc w k d).1 ≠ 1000000 → d < fc ((k : Int) * 61 + d).toNat ∧ fc ((k : Int) * 61 + d).toNat ≤ w ∧ mFst (mF cc xc w (k - 1)) (mWy cc xc w d) d (mF cc xc w k d).1 (fc ((k : Int) * 61 + d).toNat))
theorem mRow_other {cc : Int → Int → Int} {xc : Int → Int} {w : Int} {ls sc fc : Nat → Int} {k k' : Nat} {d d' a b c : Int} (h : mRow cc xc w ls sc fc k d) (hd : 0 ≤ d ∧ d ≤ 60) (hd' : 0 ≤ d' ∧ d' ≤ 60) (hne : ¬ (k = k' ∧ d = d')) : mRow cc xc w (zu ls ((k' : Int) * 61 + d') a) (zu sc ((k' : Int) * 61 + d') b) (zu fc ((k' : Int) * 61 + d') c) k d := by
  have e : ¬ ((k : Int) * 61 + d).toNat = ((k' : Int) * 61 + d').toNat := by omega
  unfold mRow
  rw [mzu_other e, mzu_other e, mzu_other e]
  exact h
theorem mRow_new {cc : Int → Int → Int} {xc : Int → Int} {w : Int} {ls sc fc : Nat → Int} {k : Nat} {d f : Int} (hf : (mF cc xc w k d).1 ≠ 1000000 → d < f ∧ f ≤ w ∧ mFst (mF cc xc w (k - 1)) (mWy cc xc w d) d (mF cc xc w k d).1 f) : mRow cc xc w (zu ls ((k : Int) * 61 + d) (mF cc xc w k d).1) (zu sc ((k : Int) * 61 + d) (mF cc xc w k d).2) (zu fc ((k : Int) * 61 + d) f) k d := by
  unfold mRow
  rw [mzu_same rfl, mzu_same rfl, mzu_same rfl]
  exact ⟨rfl, rfl, hf⟩
theorem m_readFrom_l {B : Int → Int → Int} {l : List Int} {w c : Int} {k : Nat} {cr nx g ls sc fc : Nat → Int} {K : Int → Int → Int → Option ((Nat → Int) × (Nat → Int) × (Nat → Int))} {Q : Option ((Nat → Int) × (Nat → Int) × (Nat → Int)) → Prop} (hs : mSv B l w cr nx g) (hcs : mCs (mCC B l) (mXC B l) w) (hc : 0 ≤ c ∧ c < w) (hk : 1 ≤ k ∧ k ≤ 7)
    (hr : ∀ d : Int, c < d → d < w → mRow (mCC B l) (mXC B l) w ls sc fc k d)
    (hK : ∀ v4 v5 v6, (v4, v5) = mF (mCC B l) (mXC B l) w (k + 1) c → (v4 ≠ 1000000 → c < v6 ∧ v6 ≤ w ∧ mFst (mF (mCC B l) (mXC B l) w k) (mWy (mCC B l) (mXC B l) w c) c v4 v6) → Q (K v4 v5 v6)) : Q (f_X3_readFrom_l16 K ((k : Int) + 1) c ls sc w cr nx g zN 1000000 1000000 0 (c + 1)) := by
  generalize hcc : mCC B l = cc at hs hcs hr hK
  generalize hxc : mXC B l = xc at hs hcs hr hK
  have hw := hcs.1
  obtain ⟨k', rfl⟩ : ∃ k', k = k' + 1 := ⟨k - 1, by omega⟩
  have hfin := mF_s (cc := cc) (xc := xc) (w := w) (c := c) k' hc
  have hpr := mF_pr hcs (k' + 1) (by omega)
  generalize hgg : mF cc xc w (k' + 1) = gg at hfin hpr hK
  generalize hwy : mWy cc xc w c = wy at hfin hK
  have hwr : ∀ d : Int, c < d → d < w → 0 ≤ wy d ∧ wy d ≤ 5000 := fun d h1 h2 => by rw [← hwy]; exact mWy_r hcs hc.1 (by omega)
  refine mloop (L := fun n i (s : Int × Int × Int) => f_X3_readFrom_l16 K (((k' + 1 : Nat) : Int) + 1) c ls sc w cr nx g n s.1 s.2.1 s.2.2 i) (Q := Q) (hi := w) (P := fun i s => c + 1 ≤ i ∧ (s.1, s.2.1) = mFd gg wy c (i - c - 1).toNat ∧ (s.1 = 1000000 ∨ (c < s.2.2 ∧ s.2.2 < i ∧ mFst gg wy c s.1 s.2.2)) ∧ ∀ d : Int, c < d → d < i → (gg d).1 = 1000000 ∨ s.1 ≤ (gg d).1 + wy d) ?_ ?_ zN (c + 1) (1000000, 1000000, 0) (by omega) (mzN (by omega)) ⟨by omega, ?_, Or.inl rfl, fun d h1 h2 => by omega⟩
  · rintro m i ⟨a, b, f⟩ hi ⟨h0, h1, h2, h3⟩
    right
    try dsimp only at h1 h2 h3 ⊢
    obtain ⟨r1, r2, -⟩ := hr i (by omega) hi
    rw [hgg] at r1 r2
    have hci := hs.1 c i (by omega) (by omega) (by omega)
    have hxi := hs.2 i (by omega) hi
    rw [hcc] at hci
    rw [hxc] at hxi
    have hwi : wy i = cc c i + xc i := by rw [← hwy]; unfold mWy; rw [if_pos hi]
    have hwri := hwr i (by omega) hi
    have hp1 : mPr (5000 * (((k' + 1 : Nat) : Int))) (gg i) := hpr i (by omega) (by omega)
    have hp2 : mPr (5000 * (((k' + 1 : Nat) : Int)) + 5000) (a, b) := by
      rw [h1]
      exact mFd_pr (by omega) (by omega) _ (fun j hj => hpr _ (by omega) (by omega)) (fun j hj => hwr _ (by omega) (by omega))
    have hp3 : mPr (5000 * (((k' + 1 : Nat) : Int)) + 5000) (gg i) := by
      obtain ⟨q1, q2, q3⟩ := hp1
      exact ⟨by omega, by omega, q3⟩
    have hst := m_step (r1 := (gg i).1) (r2 := (gg i).2) (here := wy i) hp2 hp3 (by omega) hwri
    have hnext : mFd gg wy c (i + 1 - c - 1).toNat = mTkr (gg i).2 (wy i) (mTkr (gg i).1 (wy i) (a, b)) := by
      rw [show (i + 1 - c - 1).toNat = (i - c - 1).toNat + 1 by omega]
      show mTkr (gg (c + 1 + (((i - c - 1).toNat : Nat) : Int))).2 (wy (c + 1 + (((i - c - 1).toNat : Nat) : Int))) (mTkr (gg (c + 1 + (((i - c - 1).toNat : Nat) : Int))).1 (wy (c + 1 + (((i - c - 1).toNat : Nat) : Int))) (mFd gg wy c (i - c - 1).toNat)) = _
      rw [show c + 1 + (((i - c - 1).toNat : Nat) : Int) = i by omega, ← h1]
    rw [f_X3_readFrom_l16_s]
    unfold f_X3_slotOf
    rw [mzb, hci, mzb, hxi, mzb, m_pick_in ⟨by omega, by omega, by omega⟩, mzb, m_pick_in ⟨by omega, by omega, by omega⟩, mzb, show (((k' + 1 : Nat) : Int) + 1 - 1) * 61 + i = ((k' + 1 : Nat) : Int) * 61 + i by omega, r1, r2, ← hwi]
    rw [if_pos (show zI i < zI w by rw [mlt (by omega)]; exact hi)]
    obtain ⟨p1, p2, p3⟩ := hp2
    obtain ⟨q1, q2, q3⟩ := hp3
    try dsimp only at p1 p2 p3
    have hz1 : zmin 1000000 (wy i + (gg i).1) = if wy i + (gg i).1 < 1000000 then wy i + (gg i).1 else 1000000 := mmin (by omega)
    have hzr : 0 ≤ zmin 1000000 (wy i + (gg i).1) ∧ zmin 1000000 (wy i + (gg i).1) ≤ 1000000 := by rw [hz1]; split <;> omega
    have hmin : (gg i).1 = 1000000 ∨ zmin 1000000 (wy i + (gg i).1) = (gg i).1 + wy i := by
      rw [hz1]
      by_cases e : (gg i).1 = 1000000
      · exact Or.inl e
      · rw [if_pos (by omega)]; exact Or.inr (by omega)
    simp (disch := omega) only [mlt]
    by_cases hlt : zmin 1000000 (wy i + (gg i).1) < a
    · obtain ⟨e1, e2, e3⟩ := hst.1 hlt
      rw [if_pos hlt]
      refine ⟨(zmin 1000000 (wy i + (gg i).1), zmin a (zmin 1000000 (wy i + (gg i).2)), i), rfl, ?_⟩
      dsimp only
      refine ⟨by omega, ?_, Or.inr ⟨by omega, by omega, e2, by rw [e3], fun d d1 d2 => ?_⟩, fun d d1 d2 => ?_⟩
      · rw [hnext, e1]
      · rcases h3 d d1 d2 with q | q
        · exact Or.inl q
        · right; try dsimp only
          omega
      · try dsimp only
        by_cases hd : d = i
        · subst hd; exact Or.inr (by omega)
        · rcases h3 d d1 (by omega) with q | q
          · exact Or.inl q
          · exact Or.inr (by omega)
    · obtain ⟨e1, e2⟩ := hst.2 hlt
      rw [if_neg hlt]
      refine ⟨(a, zmin b (zmin 1000000 (wy i + (gg i).1)), f), rfl, ?_⟩
      dsimp only
      refine ⟨by omega, ?_, ?_, fun d d1 d2 => ?_⟩
      · rw [hnext, e1]
      · try dsimp only
        rcases h2 with q | ⟨t1, t2, t3⟩
        · exact Or.inl q
        · exact Or.inr ⟨t1, by omega, t3⟩
      · try dsimp only
        by_cases hd : d = i
        · subst hd; exact e2
        · exact h3 d d1 (by omega)
  · rintro m ⟨a, b, f⟩ ⟨h0, h1, h2, h3⟩
    try dsimp only at h1 h2 h3 ⊢
    rw [f_X3_readFrom_l16_s]
    rw [if_neg (show ¬ zI w < zI w by rw [mlt (by omega)]; omega)]
    refine hK a b f (by rw [h1, hfin]) (fun hne => ?_)
    rcases h2 with q | ⟨t1, t2, t3⟩
    · exact absurd q hne
    · exact ⟨t1, by omega, t3⟩
  · try dsimp only
    rw [show (c + 1 - c - 1).toNat = 0 by omega]; rfl
theorem m_readFrom {B : Int → Int → Int} {l : List Int} {w c : Int} {k : Nat} {cr nx g ls sc fc : Nat → Int} (hs : mSv B l w cr nx g) (hcs : mCs (mCC B l) (mXC B l) w) (hc : 0 ≤ c ∧ c < w) (hk : 1 ≤ k ∧ k ≤ 7)
    (hr : ∀ d : Int, c < d → d < w → mRow (mCC B l) (mXC B l) w ls sc fc k d) :
    ∃ f, f_X3_readFrom ls sc fc w cr nx g ((k : Int) + 1) c = some (zu ls (((k + 1 : Nat) : Int) * 61 + c) (mF (mCC B l) (mXC B l) w (k + 1) c).1, zu sc (((k + 1 : Nat) : Int) * 61 + c) (mF (mCC B l) (mXC B l) w (k + 1) c).2, zu fc (((k + 1 : Nat) : Int) * 61 + c) f) ∧ ((mF (mCC B l) (mXC B l) w (k + 1) c).1 ≠ 1000000 → c < f ∧ f ≤ w ∧ mFst (mF (mCC B l) (mXC B l) w k) (mWy (mCC B l) (mXC B l) w c) c (mF (mCC B l) (mXC B l) w (k + 1) c).1 f) := by
  have hw := hcs.1
  unfold f_X3_readFrom
  refine m_readFrom_l (Q := fun r => ∃ f, r = some (zu ls (((k + 1 : Nat) : Int) * 61 + c) (mF (mCC B l) (mXC B l) w (k + 1) c).1, zu sc (((k + 1 : Nat) : Int) * 61 + c) (mF (mCC B l) (mXC B l) w (k + 1) c).2, zu fc (((k + 1 : Nat) : Int) * 61 + c) f) ∧ ((mF (mCC B l) (mXC B l) w (k + 1) c).1 ≠ 1000000 → c < f ∧ f ≤ w ∧ mFst (mF (mCC B l) (mXC B l) w k) (mWy (mCC B l) (mXC B l) w c) c (mF (mCC B l) (mXC B l) w (k + 1) c).1 f)) hs hcs hc hk hr (fun v4 v5 v6 h1 h2 => ?_)
  unfold f_X3_slotOf
  rw [mzb, m_keep (by omega), mzb, ← h1, show ((k : Int) + 1) * 61 + c = ((k + 1 : Nat) : Int) * 61 + c by omega]
  exact ⟨v6, rfl, fun h => h2 h⟩
