/-! a row laid on the page: the reference -/
theorem m_lay81 {L : List Int} {cs ce mp : Nat → Int} {a bg en at_ pc : Int} {K : (Nat → Int) → Option (Int × (Nat → Int) × (Nat → Int) × Int)} {Q : Option (Int × (Nat → Int) × (Nat → Int) × Int) → Prop} (hc : 0 ≤ pc ∧ pc < 24) (hl : L.length ≤ 60) (ha : 0 ≤ a ∧ a < 336) (hn : cs a.toNat = (L.length : Int)) (hce : ∀ i : Nat, i < L.length → ce (a.toNat * 60 + i) = L.getD i 0) (hat : 0 ≤ at_ ∧ at_ ≤ en ∧ en ≤ 60) (hbg : at_ ≤ bg ∧ bg ≤ 200)
    (hK : ∀ b : Nat → Int, (∀ j : Nat, (j : Int) < pc * 60 + at_ → b j = mp j) → (∀ j : Int, at_ ≤ j → j < en → b (pc * 60 + j).toNat = if bg ≤ j ∧ j < bg + (L.length : Int) then L.getD (j - bg).toNat 0 else 32) → Q (K b)) : Q (f_X6_layRow_l81 K a bg en pc cs ce zN at_ mp) := by
  refine mloop (L := fun m i (q : Nat → Int) => f_X6_layRow_l81 K a bg en pc cs ce m i q) (Q := Q) (hi := en) (P := fun i q => at_ ≤ i ∧ (∀ j : Nat, (j : Int) < pc * 60 + at_ → q j = mp j) ∧ ∀ j : Int, at_ ≤ j → j < i → q (pc * 60 + j).toNat = if bg ≤ j ∧ j < bg + (L.length : Int) then L.getD (j - bg).toNat 0 else 32) ?_ ?_ zN at_ mp (by omega) (mzN (by omega)) ⟨by omega, fun _ _ => rfl, fun j h1 h2 => by omega⟩
  · rintro m i q hi ⟨i0, i1, i2⟩
    right
    have fin : ∀ x : Int, x = (if bg ≤ i ∧ i < bg + (L.length : Int) then L.getD (i - bg).toNat 0 else 32) → ∃ s' : Nat → Int, f_X6_layRow_l81 K a bg en pc cs ce m (i + 1) (zu q (60 * pc + i) x) = f_X6_layRow_l81 K a bg en pc cs ce m (i + 1) s' ∧ at_ ≤ i + 1 ∧ (∀ j : Nat, (j : Int) < pc * 60 + at_ → s' j = mp j) ∧ ∀ j : Int, at_ ≤ j → j < i + 1 → s' (pc * 60 + j).toNat = if bg ≤ j ∧ j < bg + (L.length : Int) then L.getD (j - bg).toNat 0 else 32 := by
      intro x hx
      refine ⟨_, rfl, by omega, fun j hj => ?_, fun j h1 h2 => ?_⟩
      · rw [mzu_other (by omega)]; exact i1 j hj
      · by_cases e : j = i
        · subst e
          rw [mzu_same (by omega)]; exact hx
        · rw [mzu_other (by omega)]; exact i2 j h1 (by omega)
    rw [f_X6_layRow_l81_s, mrd (by omega), hn]
    unfold f_X6_layRow_j114 f_X6_layRow_j115 f_X6_layRow_j157
    simp (disch := omega) only [mlt]
    rw [if_pos hi, mit, mwr (by omega), if_neg (show ¬ zI 1 = zI 0 by decide)]
    by_cases q1 : i < bg
    · rw [if_pos q1]
      exact fin 32 (by rw [if_neg (by omega)])
    · rw [if_neg q1]
      by_cases q2 : i < bg + (L.length : Int)
      · have e := hce (i - bg).toNat (by omega)
        rw [if_pos q2, mrd (by omega), mwr (by omega), show (60 * a + i - bg).toNat = a.toNat * 60 + (i - bg).toNat by omega, e]
        exact fin _ (by rw [if_pos (by omega)])
      · rw [if_neg q2]
        exact fin 32 (by rw [if_neg (by omega)])
  · rintro m q ⟨i0, i1, i2⟩
    rw [f_X6_layRow_l81_s]
    simp (disch := omega) only [mlt]
    rw [if_neg (by omega)]
    exact hK q i1 i2
theorem m_layRowM {cols R : Nat} {T : Nat → List Int} {cs ce mp ms on : Nat → Int} {pc r num : Int} {D : Nat} (hc8 : 1 ≤ cols ∧ cols ≤ 8) (hr40 : R ≤ 40) (hlen : ∀ s : Nat, s < 336 → (T s).length ≤ 60) (ht : mTr1 T) (hv : mTv cols R T ce cs) (hr : 0 ≤ r ∧ r ≤ (R : Int) + 1) (hD : mRw (R : Int) r = (D : Int)) (hW : ∀ d : Nat, d < cols → 1 ≤ mWc T R d ∧ ((T (D * 8 + d)).length : Int) ≤ mWc T R d) (hon : ∀ d : Nat, d < cols → mFlx (on d) (mNums T d R)) (hw60 : mLf (mWc T R) cols - 2 ≤ 60) (hc : 0 ≤ pc ∧ pc < 24) :
    ∃ mp' n', f_X6_layRow pc ms mp 1 (R : Int) (cols : Int) cs ce num r = some (pc + 1, zu ms pc (mLf (mWc T R) cols - 2), mp', n') ∧ (∀ j : Nat, (j : Int) < pc * 60 → mp' j = mp j) ∧ ∀ j : Int, 0 ≤ j → j < mLf (mWc T R) cols - 2 → mp' (pc * 60 + j).toNat = mLy T (mWc T R) on D cols j := by
  have hW1 : ∀ d : Nat, d < cols → 1 ≤ mWc T R d := fun d hd => (hW d hd).1
  unfold f_X6_layRow
  refine mloop (L := fun m i (q : Int × (Nat → Int) × Int) => f_X6_layRow_l4 (fun (v2_16 : Int) (t_page_17 : (Nat → Int)) (t_number_18 : Int) => zwr ms 24 pc v2_16 (fun t_size_19 => some ((pc + 1), t_size_19, t_page_17, t_number_18))) r pc 1 (R : Int) (cols : Int) cs ce m q.1 i q.2.1 q.2.2) (Q := fun x => ∃ mp' n', x = some (pc + 1, zu ms pc (mLf (mWc T R) cols - 2), mp', n') ∧ (∀ j : Nat, (j : Int) < pc * 60 → mp' j = mp j) ∧ ∀ j : Int, 0 ≤ j → j < mLf (mWc T R) cols - 2 → mp' (pc * 60 + j).toNat = mLy T (mWc T R) on D cols j) (hi := (cols : Int)) (P := fun i q => ∃ c : Nat, i = (c : Int) ∧ q.1 = (if c = cols then mLf (mWc T R) cols - 2 else mLf (mWc T R) c) ∧ (∀ j : Nat, (j : Int) < pc * 60 → q.2.1 j = mp j) ∧ ∀ j : Int, 0 ≤ j → j < q.1 → q.2.1 (pc * 60 + j).toNat = mLy T (mWc T R) on D c j) ?_ ?_ zN 0 (0, mp, num) (by omega) (mzN (by omega)) ⟨0, rfl, by rw [if_neg (by omega)]; rfl, fun _ _ => rfl, fun j h1 h2 => by dsimp only at h2; omega⟩
  · rintro m i ⟨x, b, nn⟩ hi ⟨c, rfl, i3, i1, i2⟩
    right
    dsimp only at i3 i1 i2 ⊢
    rw [if_neg (by omega)] at i3
    subst i3
    have hlf := mLf_pos hW1 (c := c) (by omega)
    have hlf2 := mLf_mono hW1 (a := c + 1) cols (by omega) (Nat.le_refl _)
    have eL : mLf (mWc T R) (c + 1) = mLf (mWc T R) c + mWc T R c + 2 := rfl
    obtain ⟨w1, w2⟩ := hW c (by omega)
    obtain ⟨s1, s2⟩ := mSf_r (N := on) (hW c (by omega))
    have hs := mSl_in (cols := cols) (rows := R) (r := r) (c := (c : Int)) hr (by omega)
    have hslot : mRw (R : Int) r * 8 + (c : Int) = ((D * 8 + c : Nat) : Int) := by rw [hD]; omega
    rw [hslot, Int.toNat_natCast] at hs
    have hlt := mSl_lt hc8.2 hr40 hs
    have hl := hlen _ hlt
    obtain ⟨e1, e2⟩ := hv _ hs
    obtain ⟨v, n', eA, fA⟩ := m_areNumbers (c := c) (num := nn) hc8.2 hr40 hlen ht hv (by omega)
    have hvo := mFlx_uniq fA (hon c (by omega)) Iff.rfl
    subst hvo
    have ecell := m_cellAt (cols := (cols : Int)) (rows := (R : Int)) (r := r) (c := (c : Int)) (by omega) (by omega) (by unfold mW; omega) (by unfold mW; omega)
    rw [if_pos ⟨hr, by omega, by omega⟩, show 8 * mRw (R : Int) r + (c : Int) = mRw (R : Int) r * 8 + (c : Int) by omega, hslot] at ecell
    rw [f_X6_layRow_l4_s, ecell, mzb, m_widthOf hc8 hr40 hlen hv (by omega), mzb, eA, mzb, mrd (by omega), Int.toNat_natCast, e1]
    dsimp only
    have fin : ∀ en : Int, en = (if c + 1 = cols then mLf (mWc T R) cols - 2 else mLf (mWc T R) (c + 1)) → ∃ s' : Int × (Nat → Int) × Int, f_X6_layRow_j76 (f_X6_layRow_l4 (fun (v2_16 : Int) (t_page_17 : (Nat → Int)) (t_number_18 : Int) => zwr ms 24 pc v2_16 (fun t_size_19 => some ((pc + 1), t_size_19, t_page_17, t_number_18))) r pc 1 (R : Int) (cols : Int) cs ce m) en (mLf (mWc T R) c) (c : Int) ((D * 8 + c : Nat) : Int) (mLf (mWc T R) c + mSf T (mWc T R) on D c) pc b cs ce n' = f_X6_layRow_l4 (fun (v2_16 : Int) (t_page_17 : (Nat → Int)) (t_number_18 : Int) => zwr ms 24 pc v2_16 (fun t_size_19 => some ((pc + 1), t_size_19, t_page_17, t_number_18))) r pc 1 (R : Int) (cols : Int) cs ce m s'.1 ((c : Int) + 1) s'.2.1 s'.2.2 ∧ ∃ d : Nat, (c : Int) + 1 = (d : Int) ∧ s'.1 = (if d = cols then mLf (mWc T R) cols - 2 else mLf (mWc T R) d) ∧ (∀ j : Nat, (j : Int) < pc * 60 → s'.2.1 j = mp j) ∧ ∀ j : Int, 0 ≤ j → j < s'.1 → s'.2.1 (pc * 60 + j).toNat = mLy T (mWc T R) on D d j := by
      intro en hen
      have hen60 : mLf (mWc T R) c ≤ en ∧ en ≤ 60 ∧ en ≤ mLf (mWc T R) (c + 1) := by
        by_cases q : c + 1 = cols
        · rw [if_pos q] at hen
          rw [q] at eL ⊢
          omega
        · rw [if_neg q] at hen
          have hlf3 := mLf_mono hW1 (a := c + 2) cols (by omega) (Nat.le_refl _)
          have eL2 : mLf (mWc T R) (c + 2) = mLf (mWc T R) (c + 1) + mWc T R (c + 1) + 2 := rfl
          have := hW1 (c + 1) (by omega)
          omega
      unfold f_X6_layRow_j76
      refine m_lay81 (L := T (D * 8 + c)) (Q := fun x => ∃ s' : Int × (Nat → Int) × Int, x = f_X6_layRow_l4 (fun (v2_16 : Int) (t_page_17 : (Nat → Int)) (t_number_18 : Int) => zwr ms 24 pc v2_16 (fun t_size_19 => some ((pc + 1), t_size_19, t_page_17, t_number_18))) r pc 1 (R : Int) (cols : Int) cs ce m s'.1 ((c : Int) + 1) s'.2.1 s'.2.2 ∧ ∃ d : Nat, (c : Int) + 1 = (d : Int) ∧ s'.1 = (if d = cols then mLf (mWc T R) cols - 2 else mLf (mWc T R) d) ∧ (∀ j : Nat, (j : Int) < pc * 60 → s'.2.1 j = mp j) ∧ ∀ j : Int, 0 ≤ j → j < s'.1 → s'.2.1 (pc * 60 + j).toNat = mLy T (mWc T R) on D d j) hc hl (by omega) (by rw [Int.toNat_natCast]; exact e1) (fun i hi => by rw [Int.toNat_natCast]; exact e2 i hi) ⟨hlf, hen60.1, hen60.2.1⟩ ⟨by omega, by omega⟩ (fun b' b1 b2 => ?_)
      refine ⟨(en, b', n'), rfl, c + 1, by omega, hen, fun j hj => by dsimp only; rw [b1 j (by omega)]; exact i1 j hj, fun j h1 h2 => ?_⟩
      dsimp only at h2 ⊢
      rw [mLy_s]
      by_cases q : j < mLf (mWc T R) c
      · rw [b1 _ (by omega), i2 j h1 q, if_neg (by omega)]
      · rw [b2 j (by omega) h2, mLy_hi hW c (by omega) (by omega)]
    have fin2 : ∃ s' : Int × (Nat → Int) × Int, f_X6_layRow_j50 (f_X6_layRow_l4 (fun (v2_16 : Int) (t_page_17 : (Nat → Int)) (t_number_18 : Int) => zwr ms 24 pc v2_16 (fun t_size_19 => some ((pc + 1), t_size_19, t_page_17, t_number_18))) r pc 1 (R : Int) (cols : Int) cs ce m) (mSf T (mWc T R) on D c) (mLf (mWc T R) c) (mLf (mWc T R) c) (c : Int) ((D * 8 + c : Nat) : Int) (mWc T R c) pc b (cols : Int) cs ce n' = f_X6_layRow_l4 (fun (v2_16 : Int) (t_page_17 : (Nat → Int)) (t_number_18 : Int) => zwr ms 24 pc v2_16 (fun t_size_19 => some ((pc + 1), t_size_19, t_page_17, t_number_18))) r pc 1 (R : Int) (cols : Int) cs ce m s'.1 ((c : Int) + 1) s'.2.1 s'.2.2 ∧ ∃ d : Nat, (c : Int) + 1 = (d : Int) ∧ s'.1 = (if d = cols then mLf (mWc T R) cols - 2 else mLf (mWc T R) d) ∧ (∀ j : Nat, (j : Int) < pc * 60 → s'.2.1 j = mp j) ∧ ∀ j : Int, 0 ≤ j → j < s'.1 → s'.2.1 (pc * 60 + j).toNat = mLy T (mWc T R) on D d j := by
      unfold f_X6_layRow_j50
      simp (disch := omega) only [mlt]
      by_cases q : c + 1 = cols
      · rw [if_neg (by omega)]
        refine fin _ ?_
        rw [if_pos q]
        rw [q] at eL
        omega
      · rw [if_pos (by omega)]
        refine fin _ ?_
        rw [if_neg q]
        omega
    simp (disch := omega) only [mlt]
    rw [if_pos hi]
    rcases hon c (by omega) with ⟨e0, -⟩ | ⟨e0, -⟩
    · have es0 : mSf T (mWc T R) on D c = 0 := by unfold mSf; rw [if_neg (by omega)]
      rw [es0] at fin2
      rw [e0, if_pos rfl]
      exact fin2
    · have es1 : mSf T (mWc T R) on D c = mWc T R c - ((T (D * 8 + c)).length : Int) := by unfold mSf; rw [if_pos e0]
      rw [es1] at fin2
      rw [e0, if_neg (show ¬ zI 1 = zI 0 by decide)]
      exact fin2
  · rintro m ⟨x, b, nn⟩ ⟨c, e, i3, i1, i2⟩
    have : c = cols := by omega
    subst this
    dsimp only at i3 i1 i2 ⊢
    rw [if_pos rfl] at i3
    subst i3
    rw [f_X6_layRow_l4_s]
    simp (disch := omega) only [mlt]
    rw [if_neg (by omega), mwr (by omega)]
    exact ⟨b, nn, rfl, i1, i2⟩
