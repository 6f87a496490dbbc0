/-! a row laid on the page: the class -/
/-- how far a cell stands behind its column's left end -/
def mSf (T : Nat → List Int) (W N : Nat → Int) (D c : Nat) : Int := if N c = 1 then W c - ((T (D * 8 + c)).length : Int) else 0
/-- byte j of a row with the first c columns laid -/
def mLy (T : Nat → List Int) (W N : Nat → Int) (D : Nat) : Nat → Int → Int
  | 0, _ => 32
  | c + 1, j => if mLf W c + mSf T W N D c ≤ j ∧ j < mLf W c + mSf T W N D c + ((T (D * 8 + c)).length : Int) then (T (D * 8 + c)).getD (j - (mLf W c + mSf T W N D c)).toNat 0 else mLy T W N D c j
theorem mLy_s {T : Nat → List Int} {W N : Nat → Int} {D c : Nat} {j : Int} : mLy T W N D (c + 1) j = if mLf W c + mSf T W N D c ≤ j ∧ j < mLf W c + mSf T W N D c + ((T (D * 8 + c)).length : Int) then (T (D * 8 + c)).getD (j - (mLf W c + mSf T W N D c)).toNat 0 else mLy T W N D c j := rfl
theorem mSf_r {T : Nat → List Int} {W N : Nat → Int} {D c : Nat} (h : 1 ≤ W c ∧ ((T (D * 8 + c)).length : Int) ≤ W c) : 0 ≤ mSf T W N D c ∧ mSf T W N D c + ((T (D * 8 + c)).length : Int) ≤ W c := by
  unfold mSf
  split <;> omega
theorem mLy_hi {T : Nat → List Int} {W N : Nat → Int} {D cols : Nat} (hW : ∀ d : Nat, d < cols → 1 ≤ W d ∧ ((T (D * 8 + d)).length : Int) ≤ W d) {j : Int} : ∀ c : Nat, c ≤ cols → mLf W c ≤ j → mLy T W N D c j = 32 := by
  intro c
  induction c with
  | zero => intro _ _; rfl
  | succ c ih =>
    intro h1 h2
    have := mSf_r (N := N) (hW c (by omega))
    have w := hW c (by omega)
    have e : mLf W (c + 1) = mLf W c + W c + 2 := rfl
    rw [mLy_s, if_neg (by omega)]
    exact ih (by omega) (by omega)
theorem mLy_r {T : Nat → List Int} {W N : Nat → Int} {D : Nat} (ht : mTr1 T) {j : Int} : ∀ c : Nat, 32 ≤ mLy T W N D c j ∧ mLy T W N D c j ≤ 126 := by
  intro c
  induction c with
  | zero => exact ⟨by unfold mLy; decide, by unfold mLy; decide⟩
  | succ c ih =>
    rw [mLy_s]
    split
    · exact ht _ _ (mgetD_mem (by omega))
    · exact ih
theorem m_addLineB {pb pl : Nat → Int} {pc n b : Int} (hc : 0 ≤ pc ∧ pc < 24) (hn : 0 ≤ n ∧ n ≤ 60) : ∃ pb', f_X2_addLine pb pl pc n b = some (pc, pb', zu pl pc n, pc + 1) ∧ (∀ j : Nat, (j : Int) < pc * 60 → pb' j = pb j) ∧ ∀ i : Int, 0 ≤ i → i < n → pb' (pc * 60 + i).toNat = b := by
  have e : zu pl pc n pc.toNat = n := mzu_same rfl
  unfold f_X2_addLine
  rw [m_put_in (by omega)]
  simp only [mzb]
  refine mloop (L := fun m i (q : Nat → Int) => f_X2_addLine_l17 (fun t => some (pc, t, zu pl pc n, pc + 1)) n b pc (zu pl pc n) m i q) (Q := fun r => ∃ pb', r = some (pc, pb', zu pl pc n, pc + 1) ∧ (∀ j : Nat, (j : Int) < pc * 60 → pb' j = pb j) ∧ ∀ i : Int, 0 ≤ i → i < n → pb' (pc * 60 + i).toNat = b) (hi := n) (P := fun i q => 0 ≤ i ∧ (∀ j : Nat, (j : Int) < pc * 60 → q j = pb j) ∧ ∀ k : Int, 0 ≤ k → k < i → q (pc * 60 + k).toNat = b) ?_ ?_ zN 0 pb (by omega) (mzN (by omega)) ⟨by omega, fun _ _ => rfl, fun k h1 h2 => by omega⟩
  · rintro m i q hi ⟨i0, i1, i2⟩
    right
    rw [f_X2_addLine_l17_s, m_putByte hc (by rw [e]; exact hn) (by rw [e]; omega)]
    simp (disch := omega) only [mlt, mzb]
    rw [if_pos hi]
    refine ⟨_, rfl, by omega, fun j hj => ?_, fun k h1 h2 => ?_⟩
    · rw [mzu_other (by omega)]
      exact i1 j hj
    · by_cases q2 : k = i
      · rw [q2, mzu_same rfl]
      · rw [mzu_other (by omega)]; exact i2 k h1 (by omega)
  · rintro m q ⟨i0, i1, i2⟩
    rw [f_X2_addLine_l17_s]
    simp (disch := omega) only [mlt]
    rw [if_neg (by omega)]
    exact ⟨q, rfl, i1, i2⟩
theorem m_lay73 {L : List Int} {tb tl pb pl : Nat → Int} {rows r c pc left sh n : Int} {K : (Nat → Int) → Option ((Nat → Int) × (Nat → Int) × Int)} {Q : Option ((Nat → Int) × (Nat → Int) × Int) → Prop} (hc : 0 ≤ pc ∧ pc < 24) (hn : 0 ≤ n ∧ n ≤ 60) (hpl : pl pc.toNat = n) (hl : L.length ≤ 60) (hs : (0 ≤ left ∧ left ≤ 100) ∧ 0 ≤ sh ∧ left + sh + (L.length : Int) ≤ n) (hb : ∀ i : Int, 0 ≤ i ∧ i < 2147483648 → f_X4_byteOf tb tl rows r c i = some (L.getD i.toNat 0))
    (hK : ∀ b : Nat → Int, (∀ j : Nat, (j : Int) < pc * 60 → b j = pb j) → (∀ j : Int, 0 ≤ j → j < n → b (pc * 60 + j).toNat = if left + sh ≤ j ∧ j < left + sh + (L.length : Int) then L.getD (j - (left + sh)).toNat 0 else pb (pc * 60 + j).toNat) → Q (K b)) : Q (f_X4_layRow_l73 K r pc left c (L.length : Int) sh tb tl rows pl zN 0 pb) := by
  refine mloop (L := fun m i (q : Nat → Int) => f_X4_layRow_l73 K r pc left c (L.length : Int) sh tb tl rows pl m i q) (Q := Q) (hi := (L.length : Int)) (P := fun i q => 0 ≤ i ∧ (∀ j : Nat, (j : Int) < pc * 60 → q j = pb j) ∧ ∀ j : Int, 0 ≤ j → j < n → q (pc * 60 + j).toNat = if left + sh ≤ j ∧ j < left + sh + i then L.getD (j - (left + sh)).toNat 0 else pb (pc * 60 + j).toNat) ?_ ?_ zN 0 pb (by omega) (mzN (by omega)) ⟨by omega, fun _ _ => rfl, fun j h1 h2 => by rw [if_neg (by omega)]⟩
  · rintro m i q hi ⟨i0, i1, i2⟩
    right
    rw [f_X4_layRow_l73_s, hb i (by omega), mzb, m_putByte hc (by rw [hpl]; exact hn) (by rw [hpl]; omega), mzb]
    simp (disch := omega) only [mlt]
    rw [if_pos hi]
    refine ⟨_, rfl, by omega, fun j hj => ?_, fun j h1 h2 => ?_⟩
    · rw [mzu_other (by omega)]; exact i1 j hj
    · by_cases e : j = left + sh + i
      · rw [mzu_same (by omega), if_pos (by omega), show (j - (left + sh)).toNat = i.toNat by omega]
      · rw [mzu_other (by omega), i2 j h1 h2]
        by_cases e2 : left + sh ≤ j ∧ j < left + sh + i
        · rw [if_pos e2, if_pos (by omega)]
        · rw [if_neg e2, if_neg (by omega)]
  · rintro m q ⟨i0, i1, i2⟩
    rw [f_X4_layRow_l73_s]
    simp (disch := omega) only [mlt]
    rw [if_neg (by omega)]
    exact hK q i1 i2
theorem m_layRowC {cols R : Nat} {T : Nat → List Int} {tb tl wi on pb pl W : Nat → Int} {pc r : Int} {D : Nat} (hc8 : 1 ≤ cols ∧ cols ≤ 8) (hr40 : R ≤ 40) (hlen : ∀ s : Nat, s < 336 → (T s).length ≤ 60) (hv : mTv cols R T tb tl) (hr : 0 ≤ r ∧ r ≤ (R : Int) + 1) (hD : mRw (R : Int) r = (D : Int)) (hW : ∀ d : Nat, d < cols → 1 ≤ W d ∧ ((T (D * 8 + d)).length : Int) ≤ W d) (hwi : ∀ d : Nat, d < cols → wi d = W d) (hon : ∀ d : Nat, d < cols → on d = 0 ∨ on d = 1) (hw60 : mLf W cols - 2 ≤ 60) (hc : 0 ≤ pc ∧ pc < 24) :
    ∃ pb', f_X4_layRow tb tl (cols : Int) (R : Int) wi on (mLf W cols - 2) pb pl pc r = some (pb', zu pl pc (mLf W cols - 2), pc + 1) ∧ (∀ j : Nat, (j : Int) < pc * 60 → pb' j = pb j) ∧ ∀ j : Int, 0 ≤ j → j < mLf W cols - 2 → pb' (pc * 60 + j).toNat = mLy T W on D cols j := by
  have hW1 : ∀ d : Nat, d < cols → 1 ≤ W d := fun d hd => (hW d hd).1
  have hlw : 1 ≤ mLf W cols - 2 := by
    have h1 := mLf_mono hW1 (a := 1) cols hc8.1 (Nat.le_refl _)
    have h2 : mLf W 1 = 0 + W 0 + 2 := rfl
    have := hW1 0 (by omega)
    omega
  have es : zu pl pc (mLf W cols - 2) pc.toNat = mLf W cols - 2 := mzu_same rfl
  unfold f_X4_layRow
  obtain ⟨pb1, e1, a1, a2⟩ := m_addLineB (pb := pb) (pl := pl) (pc := pc) (n := mLf W cols - 2) (b := 32) hc ⟨by omega, hw60⟩
  rw [e1, mzb]
  dsimp only
  refine mloop (L := fun m i (q : Int × (Nat → Int)) => f_X4_layRow_l17 (fun (p1_bytes_14 : (Nat → Int)) => some (p1_bytes_14, zu pl pc (mLf W cols - 2), pc + 1)) r pc tb tl (cols : Int) (R : Int) wi on (zu pl pc (mLf W cols - 2)) m q.1 i q.2) (Q := fun x => ∃ pb', x = some (pb', zu pl pc (mLf W cols - 2), pc + 1) ∧ (∀ j : Nat, (j : Int) < pc * 60 → pb' j = pb j) ∧ ∀ j : Int, 0 ≤ j → j < mLf W cols - 2 → pb' (pc * 60 + j).toNat = mLy T W on D cols j) (hi := (cols : Int)) (P := fun i q => ∃ c : Nat, i = (c : Int) ∧ q.1 = mLf W c ∧ (∀ j : Nat, (j : Int) < pc * 60 → q.2 j = pb j) ∧ ∀ j : Int, 0 ≤ j → j < mLf W cols - 2 → q.2 (pc * 60 + j).toNat = mLy T W on D c j) ?_ ?_ zN 0 (0, pb1) (by omega) (mzN (by omega)) ⟨0, rfl, rfl, a1, fun j h1 h2 => a2 j h1 h2⟩
  · rintro m i ⟨x, b⟩ hi ⟨c, rfl, rfl, i1, i2⟩
    right
    dsimp only at i1 i2 ⊢
    have hlf := mLf_pos hW1 (c := c) (by omega)
    have hlf2 := mLf_mono hW1 (a := c + 1) cols (by omega) (Nat.le_refl _)
    have eL : mLf W (c + 1) = mLf W c + W c + 2 := rfl
    obtain ⟨w1, w2⟩ := hW c (by omega)
    obtain ⟨s1, s2⟩ := mSf_r (N := on) (hW c (by omega))
    have hslot : (mRw (R : Int) r * 8 + (c : Int)).toNat = D * 8 + c := by rw [hD]; omega
    have hl := hlen _ (mSl_lt hc8.2 hr40 (mSl_in (cols := cols) (rows := R) (r := r) (c := (c : Int)) hr (by omega)))
    have hb := fun (i : Int) (hi : 0 ≤ i ∧ i < 2147483648) => m_byteT (i := i) (r := r) (c := (c : Int)) hc8.2 hr40 hlen hv hr (by omega) hi
    have hlT := m_lengthT (r := r) (c := (c : Int)) hc8.2 hr40 hv hr (by omega)
    rw [hslot] at hl hb hlT
    rw [f_X4_layRow_l17_s, hlT, mzb, m_pick_in (by omega), mzb, m_pick_in (by omega), mzb, Int.toNat_natCast, hwi c (by omega)]
    unfold f_X4_layRow_j68
    have fin : ∃ s' : Int × (Nat → Int), f_X4_layRow_l73 (fun (p1_bytes_13 : (Nat → Int)) => f_X4_layRow_l17 (fun (p1_bytes_14 : (Nat → Int)) => some (p1_bytes_14, zu pl pc (mLf W cols - 2), pc + 1)) r pc tb tl (cols : Int) (R : Int) wi on (zu pl pc (mLf W cols - 2)) m (mLf W c + (W c + 2)) ((c : Int) + 1) p1_bytes_13) r pc (mLf W c) (c : Int) ((T (D * 8 + c)).length : Int) (mSf T W on D c) tb tl (R : Int) (zu pl pc (mLf W cols - 2)) zN 0 b = f_X4_layRow_l17 (fun (p1_bytes_14 : (Nat → Int)) => some (p1_bytes_14, zu pl pc (mLf W cols - 2), pc + 1)) r pc tb tl (cols : Int) (R : Int) wi on (zu pl pc (mLf W cols - 2)) m s'.1 ((c : Int) + 1) s'.2 ∧ ∃ d : Nat, (c : Int) + 1 = (d : Int) ∧ s'.1 = mLf W d ∧ (∀ j : Nat, (j : Int) < pc * 60 → s'.2 j = pb j) ∧ ∀ j : Int, 0 ≤ j → j < mLf W cols - 2 → s'.2 (pc * 60 + j).toNat = mLy T W on D d j := by
      refine m_lay73 (L := T (D * 8 + c)) (n := mLf W cols - 2) (Q := fun x => ∃ s' : Int × (Nat → Int), x = f_X4_layRow_l17 (fun (p1_bytes_14 : (Nat → Int)) => some (p1_bytes_14, zu pl pc (mLf W cols - 2), pc + 1)) r pc tb tl (cols : Int) (R : Int) wi on (zu pl pc (mLf W cols - 2)) m s'.1 ((c : Int) + 1) s'.2 ∧ ∃ d : Nat, (c : Int) + 1 = (d : Int) ∧ s'.1 = mLf W d ∧ (∀ j : Nat, (j : Int) < pc * 60 → s'.2 j = pb j) ∧ ∀ j : Int, 0 ≤ j → j < mLf W cols - 2 → s'.2 (pc * 60 + j).toNat = mLy T W on D d j) hc ⟨by omega, hw60⟩ es hl ⟨by omega, s1, by omega⟩ hb (fun b' b1 b2 => ?_)
      refine ⟨(mLf W c + (W c + 2), b'), rfl, c + 1, by omega, by dsimp only; omega, fun j hj => by dsimp only; rw [b1 j hj]; exact i1 j hj, fun j h1 h2 => ?_⟩
      dsimp only
      rw [b2 j h1 h2, mLy_s, i2 j h1 h2]
    simp (disch := omega) only [mlt]
    rw [if_pos hi]
    rcases hon c (by omega) with e0 | e0
    · rw [e0, if_neg (show ¬ zI 0 = zI 1 by decide)]
      have es0 : mSf T W on D c = 0 := by unfold mSf; rw [if_neg (by omega)]
      rw [es0] at fin
      exact fin
    · rw [e0, if_pos rfl]
      have es1 : mSf T W on D c = W c - ((T (D * 8 + c)).length : Int) := by unfold mSf; rw [if_pos e0]
      rw [es1] at fin
      exact fin
  · rintro m ⟨x, b⟩ ⟨c, e, rfl, i1, i2⟩
    have : c = cols := by omega
    subst this
    dsimp only at i1 i2 ⊢
    rw [f_X4_layRow_l17_s]
    simp (disch := omega) only [mlt]
    rw [if_neg (by omega)]
    exact ⟨b, rfl, i1, i2⟩
