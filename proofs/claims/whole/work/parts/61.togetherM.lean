/-! whether two tables go together: the reference -/
theorem m_go61 {cols R0 : Nat} {T0 T1 : Nat → List Int} {cs ce nb nl : Nat → Int} {c : Nat} {s0 : Int} {K : Int → Option Int} {Q : Option Int → Prop} (hc8 : cols ≤ 8) (hv0 : mTv cols R0 T0 ce cs) (hT : mTb T1 nb nl) (ht0 : mTr1 T0) (ht1 : mTr1 T1) (hc : c < cols) (hs : s0 = 0 ∨ s0 = 1 ∧ (T0 c).length = (T1 c).length)
    (hK : ∀ v : Int, mFlx v (s0 = 1 ∧ ∀ i : Nat, i < (T1 c).length → (T0 c).getD i 0 = (T1 c).getD i 0) → Q (K v)) : Q (f_X6_goTogether_l61 K (c : Int) nl nb ce zN s0 0) := by
  obtain ⟨t1, t2, t3⟩ := hT c (by omega)
  obtain ⟨w1, w2⟩ := hv0 c ⟨0, c, by omega, Or.inl (by omega), hc⟩
  refine mloop (L := fun m i v => f_X6_goTogether_l61 K (c : Int) nl nb ce m v i) (Q := Q) (hi := ((T1 c).length : Int)) (P := fun i v => 0 ≤ i ∧ ((v = 0 ∧ ¬ (s0 = 1 ∧ ∀ j : Nat, j < (T1 c).length → (T0 c).getD j 0 = (T1 c).getD j 0)) ∨ (v = 1 ∧ s0 = 1 ∧ ∀ j : Nat, (j : Int) < i → (T0 c).getD j 0 = (T1 c).getD j 0))) ?_ ?_ zN 0 s0 (by omega) (mzN (by omega)) ⟨by omega, ?_⟩
  · rintro m i v hi ⟨i0, i1⟩
    obtain ⟨k, rfl⟩ : ∃ k : Nat, i = (k : Int) := ⟨i.toNat, by omega⟩
    rw [f_X6_goTogether_l61_s, mrd (by omega), Int.toNat_natCast, t1]
    unfold f_X6_goTogether_j108
    simp (disch := omega) only [mlt]
    rw [if_pos hi]
    rcases i1 with ⟨rfl, i1⟩ | ⟨rfl, i1, i2⟩
    · left
      rw [if_pos rfl]
      exact hK 0 (Or.inl ⟨rfl, i1⟩)
    · right
      have hlc : (T0 c).length = (T1 c).length := by
        rcases hs with hs | hs
        · omega
        · exact hs.2
      have e1 := t3 k (by omega)
      have e2 := w2 k (by omega)
      have r0 := mgetD_r (ht0 c) k
      have r1 := mgetD_r (ht1 c) k
      rw [if_neg (show ¬ zI 1 = zI 0 by decide), mrd (by omega), mrd (by omega), show (60 * (c : Int) + (k : Int)).toNat = c * 60 + k by omega, e1, e2]
      simp (disch := omega) only [meq]
      by_cases q : (T1 c).getD k 0 = (T0 c).getD k 0
      · rw [if_pos q]
        refine ⟨1, rfl, by omega, Or.inr ⟨rfl, i1, fun j hj => ?_⟩⟩
        by_cases e : j = k
        · subst e; exact q.symm
        · exact i2 j (by omega)
      · rw [if_neg q]
        exact ⟨0, rfl, by omega, Or.inl ⟨rfl, fun h => q (h.2 k (by omega)).symm⟩⟩
  · rintro m v ⟨i0, i1⟩
    rw [f_X6_goTogether_l61_s, mrd (by omega), Int.toNat_natCast, t1]
    simp (disch := omega) only [mlt]
    rw [if_neg (by omega)]
    refine hK v ?_
    rcases i1 with ⟨rfl, i1⟩ | ⟨rfl, i1, i2⟩
    · exact Or.inl ⟨rfl, i1⟩
    · exact Or.inr ⟨rfl, i1, fun j hj => i2 j (by omega)⟩
  · rcases hs with hs | hs
    · exact Or.inl ⟨hs, fun h => by omega⟩
    · exact Or.inr ⟨hs.1, hs.1, fun j hj => by omega⟩
theorem m_goTogether {cols R0 : Nat} {T0 T1 : Nat → List Int} {cs ce nb nl : Nat → Int} (hc8 : cols ≤ 8) (hlen0 : ∀ s : Nat, s < 336 → (T0 s).length ≤ 60) (hv0 : mTv cols R0 T0 ce cs) (hT : mTb T1 nb nl) (ht0 : mTr1 T0) (ht1 : mTr1 T1) :
    ∃ v, f_X6_goTogether (cols : Int) nl nb cs ce = some v ∧ mFlx v (mGo T0 T1 (cols : Int)) := by
  unfold f_X6_goTogether f_X6_goTogether_j129
  refine mloop (L := fun m i (q : Int × Int) => f_X6_goTogether_l6 (fun (v1_14 : Int) (v2_15 : Int) => if zI v1_14 = zI 0 then if zI v2_15 = zI 0 then some 0 else some 1 else some 1) (cols : Int) nl nb cs ce m q.1 q.2 i) (Q := fun x => ∃ v, x = some v ∧ mFlx v (mGo T0 T1 (cols : Int))) (hi := (cols : Int)) (P := fun i q => 0 ≤ i ∧ mFlx q.1 (∀ c : Nat, (c : Int) < i → (T1 c).length = 0) ∧ mFlx q.2 (mSm T0 T1 i)) ?_ ?_ zN 0 (1, 1) (by omega) (mzN (by omega)) ⟨by omega, Or.inr ⟨rfl, fun c h => by omega⟩, Or.inr ⟨rfl, fun c h => by omega⟩⟩
  · rintro m i ⟨v1, v2⟩ hi ⟨i0, i1, i2⟩
    right
    dsimp only at i1 i2 ⊢
    obtain ⟨k, rfl⟩ : ∃ k : Nat, i = (k : Int) := ⟨i.toNat, by omega⟩
    obtain ⟨t1, t2, t3⟩ := hT k (by omega)
    obtain ⟨w1, w2⟩ := hv0 k ⟨0, k, by omega, Or.inl (by omega), by omega⟩
    have l0 := hlen0 k (by omega)
    have hj : ∀ s0 u : Int, (s0 = 0 ∨ s0 = 1 ∧ (T0 k).length = (T1 k).length) → (s0 = 1 ↔ v2 = 1 ∧ (T0 k).length = (T1 k).length) → mFlx u (∀ c : Nat, (c : Int) < (k : Int) + 1 → (T1 c).length = 0) →
        ∃ s' : Int × Int, f_X6_goTogether_j57 (f_X6_goTogether_l6 (fun (v1_14 : Int) (v2_15 : Int) => if zI v1_14 = zI 0 then if zI v2_15 = zI 0 then some 0 else some 1 else some 1) (cols : Int) nl nb cs ce m) s0 u (k : Int) nl nb ce = f_X6_goTogether_l6 (fun (v1_14 : Int) (v2_15 : Int) => if zI v1_14 = zI 0 then if zI v2_15 = zI 0 then some 0 else some 1 else some 1) (cols : Int) nl nb cs ce m s'.1 s'.2 ((k : Int) + 1) ∧ 0 ≤ (k : Int) + 1 ∧ mFlx s'.1 (∀ c : Nat, (c : Int) < (k : Int) + 1 → (T1 c).length = 0) ∧ mFlx s'.2 (mSm T0 T1 ((k : Int) + 1)) := by
      intro s0 u h1 h2 h3
      unfold f_X6_goTogether_j57
      refine m_go61 (Q := fun x => ∃ s' : Int × Int, x = f_X6_goTogether_l6 (fun (v1_14 : Int) (v2_15 : Int) => if zI v1_14 = zI 0 then if zI v2_15 = zI 0 then some 0 else some 1 else some 1) (cols : Int) nl nb cs ce m s'.1 s'.2 ((k : Int) + 1) ∧ 0 ≤ (k : Int) + 1 ∧ mFlx s'.1 (∀ c : Nat, (c : Int) < (k : Int) + 1 → (T1 c).length = 0) ∧ mFlx s'.2 (mSm T0 T1 ((k : Int) + 1))) hc8 hv0 hT ht0 ht1 (by omega) h1 (fun v hv => ?_)
      refine ⟨(u, v), rfl, by omega, h3, mFlx_iff hv ?_⟩
      constructor
      · rintro ⟨a1, a2⟩
        obtain ⟨b1, b2⟩ := h2.mp a1
        rcases i2 with ⟨c1, c2⟩ | ⟨c1, c2⟩
        · omega
        · exact mSm_s c2 b2 a2
      · intro h
        obtain ⟨b1, b2⟩ := h k (by omega)
        refine ⟨h2.mpr ⟨?_, b1⟩, b2⟩
        rcases i2 with ⟨c1, c2⟩ | ⟨c1, c2⟩
        · exact absurd (fun c hc => h c (by omega)) c2
        · exact c1
    have hj2 : ∀ u : Int, mFlx u (∀ c : Nat, (c : Int) < (k : Int) + 1 → (T1 c).length = 0) →
        ∃ s' : Int × Int, f_X6_goTogether_j32 (f_X6_goTogether_l6 (fun (v1_14 : Int) (v2_15 : Int) => if zI v1_14 = zI 0 then if zI v2_15 = zI 0 then some 0 else some 1 else some 1) (cols : Int) nl nb cs ce m) u v2 (k : Int) nl nb cs ce = f_X6_goTogether_l6 (fun (v1_14 : Int) (v2_15 : Int) => if zI v1_14 = zI 0 then if zI v2_15 = zI 0 then some 0 else some 1 else some 1) (cols : Int) nl nb cs ce m s'.1 s'.2 ((k : Int) + 1) ∧ 0 ≤ (k : Int) + 1 ∧ mFlx s'.1 (∀ c : Nat, (c : Int) < (k : Int) + 1 → (T1 c).length = 0) ∧ mFlx s'.2 (mSm T0 T1 ((k : Int) + 1)) := by
      intro u h3
      unfold f_X6_goTogether_j32 f_X6_goTogether_j56
      rw [mrd (by omega), mrd (by omega), Int.toNat_natCast, t1, w1]
      simp (disch := omega) only [meq]
      rcases i2 with ⟨c1, c2⟩ | ⟨c1, c2⟩
      · rw [if_pos (by rw [c1])]
        exact hj 0 u (Or.inl rfl) ⟨fun h => by omega, fun h => by omega⟩ h3
      · rw [if_neg (by rw [c1]; decide)]
        by_cases q : ((T1 k).length : Int) = ((T0 k).length : Int)
        · rw [if_pos q]
          exact hj 1 u (Or.inr ⟨rfl, by omega⟩) ⟨fun _ => ⟨c1, by omega⟩, fun _ => rfl⟩ h3
        · rw [if_neg q]
          exact hj 0 u (Or.inl rfl) ⟨fun h => by omega, fun h => by omega⟩ h3
    rw [f_X6_goTogether_l6_s, mrd (by omega), Int.toNat_natCast, t1]
    unfold f_X6_goTogether_j31
    simp (disch := omega) only [mlt, meq]
    rw [if_pos hi]
    rcases i1 with ⟨c1, c2⟩ | ⟨c1, c2⟩
    · rw [if_pos (by rw [c1])]
      exact hj2 0 (Or.inl ⟨rfl, fun h => c2 (fun c hc => h c (by omega))⟩)
    · rw [if_neg (by rw [c1]; decide)]
      by_cases q : ((T1 k).length : Int) = 0
      · rw [if_pos q]
        refine hj2 1 (Or.inr ⟨rfl, fun c hc => ?_⟩)
        by_cases e : c = k
        · subst e; omega
        · exact c2 c (by omega)
      · rw [if_neg q]
        exact hj2 0 (Or.inl ⟨rfl, fun h => q (by have := h k (by omega); omega)⟩)
  · rintro m ⟨v1, v2⟩ ⟨i0, i1, i2⟩
    dsimp only at i1 i2 ⊢
    rw [f_X6_goTogether_l6_s]
    simp (disch := omega) only [mlt]
    rw [if_neg (by omega)]
    rcases i1 with ⟨rfl, c2⟩ | ⟨rfl, c2⟩
    · rw [if_pos rfl]
      rcases i2 with ⟨rfl, d2⟩ | ⟨rfl, d2⟩
      · rw [if_pos rfl]
        exact ⟨0, rfl, Or.inl ⟨rfl, fun h => h.elim c2 d2⟩⟩
      · rw [if_neg (show ¬ zI 1 = zI 0 by decide)]
        exact ⟨1, rfl, Or.inr ⟨rfl, Or.inr d2⟩⟩
    · rw [if_neg (show ¬ zI 1 = zI 0 by decide)]
      exact ⟨1, rfl, Or.inr ⟨rfl, Or.inl c2⟩⟩
