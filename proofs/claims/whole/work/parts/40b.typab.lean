/-! bytes of cells are typable -/
def mTr1 (T : Nat → List Int) : Prop := ∀ s : Nat, ∀ x ∈ T s, 32 ≤ x ∧ x ≤ 126
theorem mTr1_jn {T : Nat → List Int} {s : Nat} {pc : List Int} (h : mTr1 T) (hp : ∀ x ∈ pc, 32 ≤ x ∧ x ≤ 126) : mTr1 (mJn T s pc).1 := by
  unfold mJn
  split
  · exact h
  · split
    · exact h
    · intro s' x hx
      dsimp only at hx
      by_cases e : s' = s
      · subst e
        rw [mUp_same] at hx
        unfold mCj at hx
        split at hx
        · exact hp x hx
        · rcases List.mem_append.mp hx with hx | hx
          · exact h s' x hx
          · rcases List.mem_cons.mp hx with hx | hx
            · omega
            · exact hp x hx
      · rw [mUp_other e] at hx
        exact h s' x hx
theorem mPc_range {B : Int → Int → Int} {x s t : Int} (hr : ∀ p : Int, 0 ≤ p → 32 ≤ B x p ∧ B x p ≤ 126) (hs : 0 ≤ s ∧ s ≤ t) : ∀ y ∈ mPc B x s t, 32 ≤ y ∧ y ≤ 126 := by
  intro y hy
  unfold mPc at hy
  obtain ⟨j, _, rfl⟩ := List.mem_map.mp hy
  have := mPf_r (B := B) (x := x) hs.2
  have := hr (mPf B x s t + (j : Int)) (by omega)
  unfold mnb
  split <;> omega
theorem mTr1_ln {B : Int → Int → Int} {ct : Nat → Int} {x : Int} {row cols : Nat} {T : Nat → List Int} (h : mTr1 T) (hr : ∀ p : Int, 0 ≤ p → 32 ≤ B x p ∧ B x p ≤ 126) (hct : mCts ct cols) : ∀ c : Nat, c ≤ cols → mTr1 (mLn B ct x row T c).1 := by
  intro c
  induction c with
  | zero => intro _; exact h
  | succ c ih =>
    intro hc
    have k := hct.2.2 c (by omega)
    exact mTr1_jn (ih (by omega)) (mPc_range hr ⟨k.1, by omega⟩)
theorem mTr1_all {B : Int → Int → Int} {ct : Nat → Int} {cols : Nat} {hd ft : Int → Prop} {l : List Int} (hr : mRg B l) (hct : mCts ct cols) : mTr1 (mAll B ct cols hd ft l).1 := by
  unfold mAll
  suffices hs : ∀ (l' : List Int), (∀ x ∈ l', x ∈ l) → ∀ s : mSt4, mTr1 s.1 → mTr1 (l'.foldl (mLl B ct cols hd ft) s).1 from hs l (fun x hx => hx) _ (fun s x hx => by cases hx)
  intro l'
  induction l' with
  | nil => intro _ s h; exact h
  | cons x l' ih =>
    intro hm s h
    rw [List.foldl_cons]
    exact ih (fun y hy => hm y (List.mem_cons_of_mem _ hy)) _ (mTr1_ln h (hr x (hm x (List.mem_cons_self ..))) hct cols (Nat.le_refl _))
