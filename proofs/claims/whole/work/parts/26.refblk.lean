/-! blocks: whether lines are one (both programs); the reference's look and its costs -/
def mIsBk (kd : Int → Int) (n a b : Int) : Prop := (0 ≤ a ∧ a ≤ b ∧ b < n) ∧ (∀ x : Int, a ≤ x → x ≤ b → ¬ kd x = 0) ∧ ∃ x : Int, a ≤ x ∧ x ≤ b ∧ kd x = 2
theorem zN_s : zN = 999999 + 1 := rfl
theorem m_holds {n x : Int} (hn : 0 ≤ n ∧ n ≤ 24) (hx : -2147483648 ≤ x ∧ x < 2147483648) : f_X2_holds n x = some (if 0 ≤ x ∧ x < n then 1 else 0) := by
  unfold f_X2_holds f_X2_holds_j16
  simp (disch := omega) only [mlt]
  by_cases h1 : x < 0
  · rw [if_pos h1, if_neg (by omega)]
  · rw [if_neg h1]
    by_cases h2 : x < n
    · rw [if_pos h2, if_pos (by omega)]
    · rw [if_neg h2, if_neg (by omega)]
theorem m_isBlock_l {pb pl : Nat → Int} {n a b : Int} (hg : mGood pb pl n) (ha : 0 ≤ a ∧ a ≤ b ∧ b < n) : ∃ v, f_X2_isBlock_l23 (fun (v3_7 : Int) => zch v3_7 (some v3_7)) b pb pl zN 0 a = some v ∧ mFlx v (mIsBk (fun x => mkd (mB pb pl x) (pl x.toNat)) n a b) := by
  have hn := hg.1
  generalize hkd : (fun x => mkd (mB pb pl x) (pl x.toNat)) = kd
  have hkd' : ∀ x, mkd (mB pb pl x) (pl x.toNat) = kd x := fun x => by rw [← hkd]
  have hin : ∀ x, kd x = 0 ∨ kd x = 1 ∨ kd x = 2 := fun x => by rw [← hkd']; exact mkd_in _ _
  refine mloop (L := fun m i s => f_X2_isBlock_l23 (fun (v3_7 : Int) => zch v3_7 (some v3_7)) b pb pl m s i) (Q := fun r => ∃ v, r = some v ∧ mFlx v (mIsBk kd n a b)) (hi := b + 1) (P := fun i s => a ≤ i ∧ (∀ x : Int, a ≤ x → x < i → ¬ kd x = 0) ∧ mFlx s (∃ x : Int, a ≤ x ∧ x < i ∧ kd x = 2)) ?_ ?_ zN a 0 (by omega) (mzN (by omega)) ⟨by omega, fun x x1 x2 => by omega, Or.inl ⟨rfl, fun ⟨x, x1, x2, _⟩ => by omega⟩⟩
  · rintro m i v3 hi ⟨h0, h1, h2⟩
    have h3 := hin i
    have h4 := mFlx_b h2
    rw [f_X2_isBlock_l23_s, m_kindC hg (by omega), mzb, hkd']
    simp (disch := omega) only [mlt, meq, f_X2_isBlock_j54, f_X2_isBlock_j59]
    rw [if_neg (by omega)]
    by_cases k0 : kd i = 0
    · rw [if_pos k0]
      exact Or.inl ⟨0, rfl, Or.inl ⟨rfl, fun q => q.2.1 i h0 (by omega) k0⟩⟩
    · rw [if_neg k0]
      have h5 : ∀ x : Int, a ≤ x → x < i + 1 → ¬ kd x = 0 := fun x x1 x2 => by
        by_cases hx : x = i
        · subst hx; exact k0
        · exact h1 x x1 (by omega)
      right
      by_cases e : v3 = 0
      · rw [if_pos e]
        by_cases k2 : kd i = 2
        · rw [if_pos k2]; exact ⟨1, rfl, by omega, h5, Or.inr ⟨rfl, i, h0, by omega, k2⟩⟩
        · rw [if_neg k2]
          refine ⟨0, rfl, by omega, h5, Or.inl ⟨rfl, fun ⟨x, x1, x2, x3⟩ => ?_⟩⟩
          rcases h2 with ⟨_, h6⟩ | ⟨h6, _⟩
          · by_cases hx : x = i
            · subst hx; exact k2 x3
            · exact h6 ⟨x, x1, by omega, x3⟩
          · omega
      · rw [if_neg e]
        refine ⟨1, rfl, by omega, h5, Or.inr ⟨rfl, ?_⟩⟩
        rcases h2 with ⟨h6, _⟩ | ⟨_, x, x1, x2, x3⟩
        · omega
        · exact ⟨x, x1, by omega, x3⟩
  · rintro m v3 ⟨h0, h1, h2⟩
    rw [f_X2_isBlock_l23_s]
    simp (disch := omega) only [mlt]
    rw [if_pos (by omega), mch (mFlx_b h2)]
    refine ⟨v3, rfl, mFlx_iff h2 ⟨fun ⟨x, x1, x2, x3⟩ => ⟨ha, fun y y1 y2 => h1 y y1 (by omega), x, x1, by omega, x3⟩, fun ⟨_, _, x, x1, x2, x3⟩ => ⟨x, x1, by omega, x3⟩⟩⟩
theorem m_isBlock {pb pl : Nat → Int} {n a b : Int} (hg : mGood pb pl n) (ha : -2147483648 ≤ a ∧ a < 2147483648) (hb : -2147483648 ≤ b ∧ b < 2147483648) : ∃ v, f_X2_isBlock pb pl n a b = some v ∧ mFlx v (mIsBk (fun x => mkd (mB pb pl x) (pl x.toNat)) n a b) := by
  have hn := hg.1
  unfold f_X2_isBlock
  rw [m_holds hn ha, mzb]
  by_cases h1 : 0 ≤ a ∧ a < n
  · rw [if_pos h1, if_neg (show ¬ zI 1 = zI 0 by decide), m_holds hn hb, mzb]
    by_cases h2 : 0 ≤ b ∧ b < n
    · rw [if_pos h2, if_neg (show ¬ zI 1 = zI 0 by decide)]
      by_cases h3 : a ≤ b
      · exact m_isBlock_l hg (by omega)
      · refine ⟨0, ?_, Or.inl ⟨rfl, fun q => by have := q.1; omega⟩⟩
        rw [zN_s, f_X2_isBlock_l23_s]
        simp (disch := omega) only [mlt]
        rw [if_pos (by omega), mch (Or.inl rfl)]
    · rw [if_neg h2, if_pos rfl]
      exact ⟨0, rfl, Or.inl ⟨rfl, fun q => by have := q.1; omega⟩⟩
  · rw [if_neg h1, if_pos rfl]
    exact ⟨0, rfl, Or.inl ⟨rfl, fun q => by have := q.1; omega⟩⟩
theorem m_blankM2 {mp ms : Nat → Int} {n x i : Int} (hg : mGood mp ms n) (hx : 0 ≤ x ∧ x < n) (hi : 0 ≤ i ∧ i < 2147483648) : f_X6_isBlank ms mp x i = some (1 - mik (mB mp ms) x i) := by
  have hn := hg.1
  rw [m_blankM (by omega) (hg.2 x hx.1 hx.2).1 hi (mB_range hg hx hi.1)]
  unfold mik
  by_cases h : mB mp ms x i = 32 ∨ mB mp ms x i = 124
  · rw [if_pos h, if_pos h]; rfl
  · rw [if_neg h, if_neg h]; rfl
/-- the width so far: of these lines, and of line x up to place i -/
def mWp (B : Int → Int → Int) (l : List Int) (x i w : Int) : Prop := (0 ≤ w ∧ w ≤ 60) ∧ (∀ y ∈ l, ∀ p : Int, w ≤ p → p < 60 → mik B y p = 0) ∧ (∀ p : Int, w ≤ p → p < i → mik B x p = 0) ∧ (w = 0 ∨ ∃ y : Int, (y ∈ l ∨ y = x) ∧ mik B y (w - 1) = 1)
def mWd (B : Int → Int → Int) (l : List Int) (w : Int) : Prop := (0 ≤ w ∧ w ≤ 60) ∧ (∀ y ∈ l, ∀ p : Int, w ≤ p → p < 60 → mik B y p = 0) ∧ (w = 0 ∨ ∃ y ∈ l, mik B y (w - 1) = 1)
theorem m_look_in {mp ms : Nat → Int} {n x w0 : Int} {l : List Int} {K : Int → Option (Int × Int × Int × Int × (Nat → Int))} {Q : Option (Int × Int × Int × Int × (Nat → Int)) → Prop} (hg : mGood mp ms n) (hx : 0 ≤ x ∧ x < n) (h0 : mWd (mB mp ms) l w0)
    (hK : ∀ w, mWd (mB mp ms) (l ++ [x]) w → Q (K w)) : Q (f_X6_look_l67 K x 2 ms mp zN w0 0) := by
  refine mloop (L := fun m i s => f_X6_look_l67 K x 2 ms mp m s i) (Q := Q) (hi := 60) (P := fun i w => 0 ≤ i ∧ mWp (mB mp ms) l x i w) ?_ ?_ zN 0 w0 (by omega) (mzN (by omega)) ⟨by omega, h0.1, h0.2.1, fun p p1 p2 => by have := h0.1; omega, ?_⟩
  · rintro m i w hi ⟨hi0, h1, h2, h3, h4⟩
    right
    rw [f_X6_look_l67_s, m_blankM2 hg hx (by omega)]
    have hb := mik_b (mB mp ms) x i
    simp (disch := omega) only [mlt, meq, mzb, f_X6_look_j105, f_X6_look_j107]
    rw [if_pos hi, if_pos trivial]
    rcases hb with hb | hb
    · rw [if_neg (by omega)]
      refine ⟨w, rfl, by omega, h1, h2, fun p p1 p2 => ?_, h4⟩
      by_cases hp : p = i
      · subst hp; exact hb
      · exact h3 p p1 (by omega)
    · rw [if_pos (by omega)]
      by_cases hw : i < w
      · rw [if_pos hw]
        exact ⟨w, rfl, by omega, h1, h2, fun p p1 p2 => h3 p p1 (by omega), h4⟩
      · rw [if_neg hw]
        exact ⟨i + 1, rfl, by omega, by omega, fun y hy p p1 p2 => h2 y hy p (by omega) p2, fun p p1 p2 => by omega, Or.inr ⟨x, Or.inr rfl, by rw [show i + 1 - 1 = i by omega]; exact hb⟩⟩
  · rintro m w ⟨hi0, h1, h2, h3, h4⟩
    rw [f_X6_look_l67_s]
    simp (disch := omega) only [mlt]
    rw [if_neg (by omega)]
    refine hK w ⟨h1, fun y hy p p1 p2 => ?_, ?_⟩
    · rcases List.mem_append.mp hy with hy | hy
      · exact h2 y hy p p1 p2
      · rw [List.mem_singleton.mp hy]; exact h3 p p1 p2
    · rcases h4 with h4 | ⟨y, hy, h4⟩
      · exact Or.inl h4
      · refine Or.inr ⟨y, ?_, h4⟩
        rcases hy with hy | hy
        · exact List.mem_append_left _ hy
        · exact List.mem_append_right _ (List.mem_singleton.mpr hy)
  · rcases h0.2.2 with h | ⟨y, hy, h⟩
    · exact Or.inl h
    · exact Or.inr ⟨y, Or.inl hy, h⟩
theorem m_look_l {mp ms : Nat → Int} {n a b f0 l0 w0 : Int} {p0 : Nat → Int} {K : Int → Int → Option (Int × Int × Int × Int × (Nat → Int))} {Q : Option (Int × Int × Int × Int × (Nat → Int)) → Prop} (hg : mGood mp ms n) (ha : 0 ≤ a ∧ a ≤ b ∧ b < n)
    (hno : ¬ mIsBk (fun x => mkd (mB mp ms x) (ms x.toNat)) n a b → Q (some (0, f0, l0, w0, p0)))
    (hK : ∀ c w, (∀ x : Int, a ≤ x → x ≤ b → ¬ mkd (mB mp ms x) (ms x.toNat) = 0) → c = ((mLs (fun x => mkd (mB mp ms x) (ms x.toNat)) a (b + 1 - a).toNat).length : Int) → mWd (mB mp ms) (mLs (fun x => mkd (mB mp ms x) (ms x.toNat)) a (b + 1 - a).toNat) w → Q (K c w)) : Q (f_X6_look_l29 K b ms mp f0 l0 w0 p0 zN 0 0 a) := by
  have hn := hg.1
  generalize hkd : (fun x => mkd (mB mp ms x) (ms x.toNat)) = kd at hno hK
  have hkd' : ∀ x, mkd (mB mp ms x) (ms x.toNat) = kd x := fun x => by rw [← hkd]
  have hin : ∀ x, kd x = 0 ∨ kd x = 1 ∨ kd x = 2 := fun x => by rw [← hkd']; exact mkd_in _ _
  refine mloop (L := fun m i (s : Int × Int) => f_X6_look_l29 K b ms mp f0 l0 w0 p0 m s.1 s.2 i) (Q := Q) (hi := b + 1) (P := fun i s => a ≤ i ∧ (∀ x : Int, a ≤ x → x < i → ¬ kd x = 0) ∧ s.1 = ((mLs kd a (i - a).toNat).length : Int) ∧ mWd (mB mp ms) (mLs kd a (i - a).toNat) s.2) ?_ ?_ zN a (0, 0) (by omega) (mzN (by omega)) ⟨by omega, fun x x1 x2 => by omega, ?_, ?_⟩
  · rintro m i ⟨c, w⟩ hi ⟨h0, h1, h2, h3⟩
    try dsimp only at h2 h3 ⊢
    have hlen := mLs_len kd a (i - a).toNat
    have hi3 := hin i
    rw [f_X6_look_l29_s, m_kindM hg (by omega), mzb, hkd']
    simp (disch := omega) only [mlt, meq, f_X6_look_j62]
    rw [if_neg (by omega)]
    have ei : a + (((i - a).toNat : Nat) : Int) = i := by omega
    have en : (i + 1 - a).toNat = (i - a).toNat + 1 := by omega
    by_cases k0 : kd i = 0
    · rw [if_pos k0]
      exact Or.inl (hno fun q => q.2.1 i h0 (by omega) k0)
    · rw [if_neg k0]
      have h5 : ∀ x : Int, a ≤ x → x < i + 1 → ¬ kd x = 0 := fun x x1 x2 => by
        by_cases hx : x = i
        · subst hx; exact k0
        · exact h1 x x1 (by omega)
      by_cases k2 : kd i = 2
      · rw [if_pos k2, k2]
        have el : mLs kd a (i + 1 - a).toNat = mLs kd a (i - a).toNat ++ [i] := by rw [en, mLs_2 (by rw [ei]; exact k2), ei]
        refine m_look_in (Q := fun r => Q r ∨ ∃ s' : Int × Int, r = f_X6_look_l29 K b ms mp f0 l0 w0 p0 m s'.1 s'.2 (i + 1) ∧ a ≤ i + 1 ∧ (∀ x : Int, a ≤ x → x < i + 1 → ¬ kd x = 0) ∧ s'.1 = ((mLs kd a (i + 1 - a).toNat).length : Int) ∧ mWd (mB mp ms) (mLs kd a (i + 1 - a).toNat) s'.2) hg (by omega) h3 (fun w' hw' => Or.inr ⟨(c + 1, w'), rfl, by omega, h5, ?_, by rw [el]; exact hw'⟩)
        rw [el, List.length_append]
        try dsimp only
        simp
        omega
      · rw [if_neg k2]
        have el : mLs kd a (i + 1 - a).toNat = mLs kd a (i - a).toNat := by rw [en, mLs_n (by rw [ei]; exact k2)]
        right
        refine ⟨(c + 0, w), ?_, by omega, h5, by rw [el]; (try dsimp only); omega, by rw [el]; exact h3⟩
        try dsimp only
        rw [zN_s, f_X6_look_l67_s]
        simp (disch := omega) only [mlt, meq]
        rw [if_pos (by omega), if_neg k2]
  · rintro m ⟨c, w⟩ ⟨h0, h1, h2, h3⟩
    try dsimp only at h2 h3 ⊢
    rw [f_X6_look_l29_s]
    simp (disch := omega) only [mlt]
    rw [if_pos (by omega)]
    exact hK c w (fun x x1 x2 => by rw [hkd']; exact h1 x x1 (by omega)) h2 h3
  · (try dsimp only); rw [show (a - a).toNat = 0 by omega]; rfl
  · (try dsimp only); rw [show (a - a).toNat = 0 by omega]; exact ⟨by omega, (fun y hy => by cases hy), Or.inl rfl⟩
/-- the reference's marks of a block's lines -/
def mMk (kd : Int → Int) (a b : Int) (pf : Nat → Int) : Prop := ∀ x : Int, a ≤ x → x ≤ b → pf x.toNat = (if kd x = 2 then 1 else 0)
theorem m_look_m {mp ms : Nat → Int} {n a b : Int} {p0 : Nat → Int} {K : (Nat → Int) → Option (Int × Int × Int × Int × (Nat → Int))} {Q : Option (Int × Int × Int × Int × (Nat → Int)) → Prop} (hg : mGood mp ms n) (ha : 0 ≤ a ∧ a ≤ b ∧ b < n)
    (hK : ∀ pf, mMk (fun x => mkd (mB mp ms x) (ms x.toNat)) a b pf → Q (K pf)) : Q (f_X6_look_l146 K b ms mp zN a p0) := by
  have hn := hg.1
  generalize hkd : (fun x => mkd (mB mp ms x) (ms x.toNat)) = kd at hK
  have hkd' : ∀ x, mkd (mB mp ms x) (ms x.toNat) = kd x := fun x => by rw [← hkd]
  have hin : ∀ x, kd x = 0 ∨ kd x = 1 ∨ kd x = 2 := fun x => by rw [← hkd']; exact mkd_in _ _
  refine mloop (L := fun m i s => f_X6_look_l146 K b ms mp m i s) (Q := Q) (hi := b + 1) (P := fun i s => a ≤ i ∧ mMk kd a (i - 1) s) ?_ ?_ zN a p0 (by omega) (mzN (by omega)) ⟨by omega, fun x x1 x2 => by omega⟩
  · rintro m i pf hi ⟨h0, h1⟩
    right
    have hi3 := hin i
    rw [f_X6_look_l146_s, m_kindM hg (by omega), mzb, hkd']
    simp (disch := omega) only [mlt, meq, f_X6_look_j173]
    rw [if_neg (by omega)]
    have key : ∀ v, v = (if kd i = 2 then 1 else 0) → mMk kd a (i + 1 - 1) (zu pf i v) := by
      intro v hv x x1 x2
      by_cases hx : x = i
      · subst hx; rw [mzu_same rfl]; exact hv
      · rw [mzu_other (by omega)]; exact h1 x x1 (by omega)
    by_cases k2 : kd i = 2
    · rw [if_pos k2, mch (Or.inr rfl), mwr (by omega)]
      exact ⟨_, rfl, by omega, key 1 (by rw [if_pos k2])⟩
    · rw [if_neg k2, mch (Or.inl rfl), mwr (by omega)]
      exact ⟨_, rfl, by omega, key 0 (by rw [if_neg k2])⟩
  · rintro m pf ⟨h0, h1⟩
    rw [f_X6_look_l146_s]
    simp (disch := omega) only [mlt]
    rw [if_pos (by omega)]
    exact hK pf (by rw [show b + 1 - 1 = b by omega] at h1; exact h1)
theorem m_look {mp ms : Nat → Int} {n a b f0 l0 w0 : Int} {p0 : Nat → Int} (hg : mGood mp ms n) (ha : -2147483648 ≤ a ∧ a < 2147483648) (hb : -2147483648 ≤ b ∧ b < 2147483648) :
    (¬ mIsBk (fun x => mkd (mB mp ms x) (ms x.toNat)) n a b ∧ f_X6_look n ms mp f0 l0 w0 p0 a b = some (0, f0, l0, w0, p0)) ∨
    (mIsBk (fun x => mkd (mB mp ms x) (ms x.toNat)) n a b ∧ ∃ w pf, f_X6_look n ms mp f0 l0 w0 p0 a b = some (1, a, b, w, pf) ∧ mIsW (mB mp ms) (mLs (fun x => mkd (mB mp ms x) (ms x.toNat)) a (b + 1 - a).toNat) w ∧ mMk (fun x => mkd (mB mp ms x) (ms x.toNat)) a b pf) := by
  have hn := hg.1
  unfold f_X6_look
  rw [mw32 ha, mw32 hb, m_in (by omega), mzb]
  by_cases h1 : 0 ≤ a ∧ a ≤ b
  · rw [if_pos h1, if_neg (show ¬ zI 1 = zI 0 by decide)]
    simp (disch := omega) only [mlt]
    by_cases h2 : b < n
    · rw [if_pos h2]
      refine m_look_l (Q := fun r => (¬ mIsBk (fun x => mkd (mB mp ms x) (ms x.toNat)) n a b ∧ r = some (0, f0, l0, w0, p0)) ∨ (mIsBk (fun x => mkd (mB mp ms x) (ms x.toNat)) n a b ∧ ∃ w pf, r = some (1, a, b, w, pf) ∧ mIsW (mB mp ms) (mLs (fun x => mkd (mB mp ms x) (ms x.toNat)) a (b + 1 - a).toNat) w ∧ mMk (fun x => mkd (mB mp ms x) (ms x.toNat)) a b pf)) hg (by omega) (fun h => Or.inl ⟨h, rfl⟩) (fun c w hk hc hw => ?_)
      have hlen := mLs_len (fun x => mkd (mB mp ms x) (ms x.toNat)) a (b + 1 - a).toNat
      simp (disch := omega) only [meq]
      by_cases h3 : c = 0
      · rw [if_pos h3]
        refine Or.inl ⟨fun q => ?_, rfl⟩
        obtain ⟨x, x1, x2, x3⟩ := q.2.2
        have hm : x ∈ mLs (fun x => mkd (mB mp ms x) (ms x.toNat)) a (b + 1 - a).toNat := mLs_mem.mpr ⟨by omega, x3⟩
        have := List.length_pos_of_mem hm
        omega
      · rw [if_neg h3]
        have hne : ∃ x, x ∈ mLs (fun x => mkd (mB mp ms x) (ms x.toNat)) a (b + 1 - a).toNat := List.exists_mem_of_length_pos (by omega)
        obtain ⟨x, hx⟩ := hne
        have hxm := mLs_mem.mp hx
        have hblk : mIsBk (fun x => mkd (mB mp ms x) (ms x.toNat)) n a b := ⟨by omega, hk, x, by omega, by omega, hxm.2⟩
        have hW : mIsW (mB mp ms) (mLs (fun x => mkd (mB mp ms x) (ms x.toNat)) a (b + 1 - a).toNat) w := by
          obtain ⟨j, j1, j2, j3⟩ := mkd_ink hxm.2
          have hl60 := (hg.2 x (by omega) (by omega)).1
          have hw0 : w ≠ 0 := by
            intro e
            have := hw.2.1 x hx j (by omega) (by omega)
            exact j3 (mik_0.mp this)
          have hw1 := hw.1
          rcases hw.2.2 with h | h
          · exact absurd h hw0
          · exact ⟨by omega, by omega, h, hw.2.1⟩
        exact m_look_m (Q := fun r => (¬ mIsBk (fun x => mkd (mB mp ms x) (ms x.toNat)) n a b ∧ r = some (0, f0, l0, w0, p0)) ∨ (mIsBk (fun x => mkd (mB mp ms x) (ms x.toNat)) n a b ∧ ∃ w pf, r = some (1, a, b, w, pf) ∧ mIsW (mB mp ms) (mLs (fun x => mkd (mB mp ms x) (ms x.toNat)) a (b + 1 - a).toNat) w ∧ mMk (fun x => mkd (mB mp ms x) (ms x.toNat)) a b pf)) hg (by omega) (fun pf hpf => Or.inr ⟨hblk, w, pf, rfl, hW, hpf⟩)
    · rw [if_neg h2]
      exact Or.inl ⟨fun q => by have := q.1; omega, rfl⟩
  · rw [if_neg h1, if_pos rfl]
    exact Or.inl ⟨fun q => by have := q.1; omega, rfl⟩
