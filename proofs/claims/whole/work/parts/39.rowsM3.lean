/-! the rows of a block as the reference reads them: the whole of it -/
/-- what the rows of a block are -/
def mRowsQ (B : Int → Int → Int) (kd : Int → Int) (a b : Int) (ct : Nat → Int) (cols : Nat) (r : Option (Int × (Nat → Int) × (Nat → Int) × Int × Int × Int × Int × Int)) : Prop :=
    ∃ fr lr hd ft tb tl, (-100 ≤ fr ∧ fr ≤ 100) ∧ (-100 ≤ lr ∧ lr ≤ 100) ∧ mRu kd a (b + 1) (b + 1 - a - ((mLs kd a (b + 1 - a).toNat).length : Int)) fr lr ∧
      mFlx hd (0 < b + 1 - a - ((mLs kd a (b + 1 - a).toNat).length : Int) ∧ ∃ x ∈ mLs kd a (b + 1 - a).toNat, fr < x) ∧ mFlx ft (0 < b + 1 - a - ((mLs kd a (b + 1 - a).toNat).length : Int) ∧ ∃ x ∈ mLs kd a (b + 1 - a).toNat, fr < x ∧ x < lr) ∧
      mTb (mAll B ct cols (mHd hd fr) (mFt ft lr) (mLs kd a (b + 1 - a).toNat)).1 tb tl ∧
      r = some ((if (mAll B ct cols (mHd hd fr) (mFt ft lr) (mLs kd a (b + 1 - a).toNat)).2.2.2 = 0 then 1 else 0), tl, tb, ((mAll B ct cols (mHd hd fr) (mFt ft lr) (mLs kd a (b + 1 - a).toNat)).2.1 : Int), ((mLs kd a (b + 1 - a).toNat).length : Int), b + 1 - a - ((mLs kd a (b + 1 - a).toNat).length : Int), (mAll B ct cols (mHd hd fr) (mFt ft lr) (mLs kd a (b + 1 - a).toNat)).2.2.1, (mAll B ct cols (mHd hd fr) (mFt ft lr) (mLs kd a (b + 1 - a).toNat)).2.2.2)
theorem m_rowsM {mp ms ct pf nl0 nc0 : Nat → Int} {n a b : Int} {cols : Nat} {kd : Int → Int} (hkd : kd = fun x => mkd (mB mp ms x) (ms x.toNat)) (hg : mGood mp ms n) (ha : 0 ≤ a ∧ a ≤ b ∧ b < n) (hct : mCts ct cols) (hm : mMk kd a b pf) (hb : ∀ x : Int, a ≤ x → x ≤ b → ¬ kd x = 0) :
    mRowsQ (mB mp ms) kd a b ct cols (f_X6_readRows ms mp a b pf (cols : Int) ct nl0 nc0) := by
  have hn := hg.1
  have hb' : ∀ x : Int, a ≤ x → x ≤ b → kd x = 1 ∨ kd x = 2 := by
    intro x h1 h2
    have := hb x h1 h2
    rw [hkd] at this ⊢
    exact (mkd_in _ _).resolve_left this
  unfold f_X6_readRows
  refine m_rowsM_0 (Q := mRowsQ (mB mp ms) kd a b ct cols) (tb := nc0) (fun tl0 hT0 => ?_)
  rw [m_plainsIn hm (by omega) (by omega), mzb]
  refine m_rowsM_1 (Q := mRowsQ (mB mp ms) kd a b ct cols) hm (by omega) (fun fr f1 f2 f3 f4 => ?_)
  refine m_rowsM_2 (Q := mRowsQ (mB mp ms) kd a b ct cols) hm (by omega) (fun lr l1 l2 l3 l4 => ?_)
  rw [show b - a + 1 = b + 1 - a by omega]
  have er : b - a + 1 - ((mLs kd a (b + 1 - a).toNat).length : Int) = b + 1 - a - ((mLs kd a (b + 1 - a).toNat).length : Int) := by omega
  rw [← er]
  refine m_rowsM_3 (Q := mRowsQ (mB mp ms) kd a b ct cols) hm (by omega) hb' ⟨⟨f1, f2⟩, f3, f4⟩ ⟨⟨l1, l2⟩, l3, l4⟩ (fun hd ft hru hh hf => ?_)
  rw [er] at hru hh hf
  rw [er, f_X6_readRows_j176]
  have e1 := mFlx_b hh
  have e2 := mFlx_b hf
  subst hkd
  refine m_rowsM_l (Q := mRowsQ (mB mp ms) (fun x => mkd (mB mp ms x) (ms x.toNat)) a b ct cols) hg ha hct hm (by omega) (by omega) e1 e2 hT0 (fun tb tl hT => ?_)
  refine ⟨fr, lr, hd, ft, tb, tl, by omega, by omega, hru, hh, hf, hT, ?_⟩
  have e4 := (mAll_rows (mB mp ms) ct cols (mHd hd fr) (mFt ft lr) (mLs (fun x => mkd (mB mp ms x) (ms x.toNat)) a (b + 1 - a).toNat)).2.2.2
  rcases e4 with e4 | e4
  · rw [e4]; rfl
  · rw [e4]; rfl
