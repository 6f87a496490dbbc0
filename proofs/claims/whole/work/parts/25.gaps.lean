/-! gaps of a block; the cost of a column as the class has it -/
theorem mgt_0 {u : Int → Int} {p : Int} {e : Nat} (h : (e : Int) ≤ p + 1) : mgt u p e = 0 := by
  cases e with
  | zero => rfl
  | succ j =>
    have := mpv_lt u j
    show (if u (j : Int) = 1 ∧ p = mpv u j ∧ 2 < (j : Int) - mpv u j then (1 : Int) else 0) = 0
    rw [if_neg (by omega)]
theorem mgt_b (u : Int → Int) (p : Int) (e : Nat) : 0 ≤ mgt u p e ∧ mgt u p e ≤ 1 := by
  cases e with
  | zero => exact ⟨Int.le_refl 0, (by decide : (0 : Int) ≤ 1)⟩
  | succ j =>
    show 0 ≤ (if u (j : Int) = 1 ∧ p = mpv u j ∧ 2 < (j : Int) - mpv u j then (1 : Int) else 0) ∧ (if u (j : Int) = 1 ∧ p = mpv u j ∧ 2 < (j : Int) - mpv u j then (1 : Int) else 0) ≤ 1
    split <;> omega
theorem m_gapsIn {g : Nat → Int} {p e : Int} (hp : 0 ≤ p ∧ p ≤ 60) (he : 0 ≤ e ∧ e ≤ 60) : f_X0_gapsIn g p e = some (g (p * 61 + e).toNat) := by
  unfold f_X0_gapsIn
  rw [m_pick_in ⟨by omega, by omega, by omega⟩, mzb]
/-- behind tellGaps' look at the first i places: what came to each pair -/
def mTg (u : Int → Int) (g0 g : Nat → Int) (i : Int) : Prop := ∀ p e : Int, 0 ≤ p → p ≤ 60 → 0 ≤ e → e ≤ 60 → g (p * 61 + e).toNat = g0 (p * 61 + e).toNat + (if e ≤ i then mgt u p e.toNat else 0)
theorem m_tellGaps_l {B : Int → Int → Int} {l : List Int} {by_ nol : Nat → Int} {pc k w : Int} {g0 : Nat → Int} {K : (Nat → Int) → Option (Nat → Int)} {Q : Option (Nat → Int) → Prop} (hbk : mBk B l by_ nol pc) (hl : l.length ≤ 24) (hr : mRg B l) (hk : 0 ≤ k ∧ k < pc) (hw : 0 ≤ w ∧ w ≤ 60)
    (hK : ∀ g, mTg (mik B (l.getD k.toNat 0)) g0 g w → Q (K g)) : Q (f_X0_tellGaps_l4 K k by_ w zN (-1) 0 g0) := by
  have hpc := hbk.1
  generalize hu : mik B (l.getD k.toNat 0) = u at hK
  have hub : ∀ p, u p = 0 ∨ u p = 1 := fun p => by rw [← hu]; exact mik_b B _ p
  refine mloop (L := fun n i (s : Int × (Nat → Int)) => f_X0_tellGaps_l4 K k by_ w n s.1 i s.2) (Q := Q) (hi := w) (P := fun i s => 0 ≤ i ∧ s.1 = mpv u i.toNat ∧ mTg u g0 s.2 i) ?_ ?_ zN 0 (-1, g0) (by omega) (mzN (by omega)) ⟨by omega, rfl, fun p e p1 p2 e1 e2 => ?_⟩
  · rintro m i ⟨v2, g⟩ hi ⟨h0, h1, h2⟩
    right
    try dsimp only at h1 h2 ⊢
    have hpl := mpv_lt u i.toNat
    rw [← h1] at hpl
    have e1 : (i + 1).toNat = i.toNat + 1 := by omega
    have ei : ((i.toNat : Nat) : Int) = i := by omega
    rw [f_X0_tellGaps_l4_s, m_hasInk hbk hl hk (by omega) (fun x hx => hr x hx i h0), mzb, hu]
    have hb := hub i
    simp (disch := omega) only [mlt, meq, f_X0_tellGaps_j57]
    rw [if_pos hi]
    have hpv : mpv u (i + 1).toNat = if u i = 1 then i else mpv u i.toNat := by
      rw [e1]; show (if u ((i.toNat : Nat) : Int) = 1 then ((i.toNat : Nat) : Int) else mpv u i.toNat) = _; rw [ei]
    have hgt : ∀ p : Int, mgt u p (i + 1).toNat = if u i = 1 ∧ p = v2 ∧ 2 < i - v2 then 1 else 0 := by
      intro p
      rw [e1]; show (if u ((i.toNat : Nat) : Int) = 1 ∧ p = mpv u i.toNat ∧ 2 < ((i.toNat : Nat) : Int) - mpv u i.toNat then (1 : Int) else 0) = _; rw [ei, ← h1]
    -- no pair ends here
    have stay : (∀ p : Int, 0 ≤ p → mgt u p (i + 1).toNat = 0) → mTg u g0 g (i + 1) := by
      intro hz p e p1 p2 q1 q2
      rw [h2 p e p1 p2 q1 q2]
      by_cases he : e ≤ i
      · rw [if_pos he, if_pos (by omega)]
      · rw [if_neg he]
        by_cases he2 : e ≤ i + 1
        · rw [if_pos he2, show e.toNat = (i + 1).toNat by omega, hz p p1]
        · rw [if_neg he2]
    rcases hb with hb | hb
    · rw [if_pos hb]
      refine ⟨(v2, g), rfl, ?_⟩
      try dsimp only
      exact ⟨by omega, by (try dsimp only); rw [hpv, if_neg (by omega), h1], stay (fun p p1 => by rw [hgt, if_neg (by omega)])⟩
    · rw [if_neg (by omega)]
      by_cases hn : v2 < 0
      · rw [if_pos hn]
        refine ⟨(i, g), rfl, ?_⟩
        try dsimp only
        exact ⟨by omega, by (try dsimp only); rw [hpv, if_pos hb], stay (fun p p1 => by rw [hgt, if_neg (by omega)])⟩
      · rw [if_neg hn]
        by_cases hd : 2 < i - v2
        · rw [if_pos hd, m_gapsIn (by omega) (by omega), mzb, m_put_in ⟨by omega, by omega, by omega⟩, mzb]
          refine ⟨(i, zu g (v2 * 61 + i + 1) (g (v2 * 61 + (i + 1)).toNat + 1)), rfl, ?_⟩
          try dsimp only
          refine ⟨by omega, by (try dsimp only); rw [hpv, if_pos hb], fun p e p1 p2 q1 q2 => ?_⟩
          · try dsimp only
            by_cases hpe : p = v2 ∧ e = i + 1
            · rw [mzu_same (by omega), if_pos (by omega), hpe.2, hpe.1]
              have := h2 v2 (i + 1) (by omega) (by omega) (by omega) (by omega)
              rw [if_neg (by omega)] at this
              rw [this, hgt, if_pos ⟨hb, rfl, hd⟩]
              omega
            · rw [mzu_other (by omega), h2 p e p1 p2 q1 q2]
              by_cases he : e ≤ i
              · rw [if_pos he, if_pos (by omega)]
              · rw [if_neg he]
                by_cases he2 : e ≤ i + 1
                · rw [if_pos he2, show e.toNat = (i + 1).toNat by omega, hgt, if_neg (by omega)]
                · rw [if_neg he2]
        · rw [if_neg hd]
          refine ⟨(i, g), rfl, ?_⟩
          try dsimp only
          exact ⟨by omega, by (try dsimp only); rw [hpv, if_pos hb], stay (fun p p1 => by rw [hgt, if_neg (by omega)])⟩
  · rintro m ⟨v2, g⟩ ⟨h0, h1, h2⟩
    try dsimp only at h2 ⊢
    rw [f_X0_tellGaps_l4_s]
    simp (disch := omega) only [mlt]
    rw [if_neg (by omega)]
    exact hK g h2
  · try dsimp only
    by_cases he : e ≤ 0
    · rw [if_pos he, show e.toNat = 0 by omega]; show _ = _ + 0; omega
    · rw [if_neg he]; omega
/-- what the pairs hold when all lines are told -/
def mTs (B : Int → Int → Int) (l : List Int) (g : Nat → Int) (w : Int) : Prop := ∀ p e : Int, 0 ≤ p → p ≤ 60 → 0 ≤ e → e ≤ 60 → g (p * 61 + e).toNat = (if e ≤ w then mSum (fun x => mgt (mik B x) p e.toNat) l else 0)
theorem m_seeGaps_1 {g0 : Nat → Int} {K : (Nat → Int) → Option (Nat → Int)} {Q : Option (Nat → Int) → Prop} (hK : ∀ g, (∀ j : Nat, j < 3721 → g j = 0) → Q (K g)) : Q (f_X0_seeGaps_l2 K zN 0 g0) := by
  refine mloop (L := fun n i g => f_X0_seeGaps_l2 K n i g) (Q := Q) (hi := 3721) (P := fun i g => 0 ≤ i ∧ ∀ j : Nat, (j : Int) < i → g j = 0) ?_ ?_ zN 0 g0 (by omega) (mzN (by omega)) ⟨by omega, fun j h => by omega⟩
  · rintro m i g hi ⟨h0, h1⟩
    right
    rw [f_X0_seeGaps_l2_s]
    simp (disch := omega) only [mlt]
    rw [if_pos hi, m_put_in ⟨by omega, by omega, by omega⟩, mzb]
    refine ⟨_, rfl, by omega, fun j hj => ?_⟩
    by_cases h : (j : Int) = i
    · exact mzu_same (by omega)
    · rw [mzu_other (by omega)]; exact h1 j (by omega)
  · rintro m g ⟨h0, h1⟩
    rw [f_X0_seeGaps_l2_s]
    simp (disch := omega) only [mlt]
    rw [if_neg (by omega)]
    exact hK g (fun j hj => h1 j (by omega))
theorem m_seeGaps_2 {B : Int → Int → Int} {l : List Int} {by_ nol : Nat → Int} {pc w : Int} {g0 : Nat → Int} {K : (Nat → Int) → Option (Nat → Int)} {Q : Option (Nat → Int) → Prop} (hbk : mBk B l by_ nol pc) (hl : l.length ≤ 24) (hr : mRg B l) (hw : 0 ≤ w ∧ w ≤ 60)
    (hg0 : ∀ j : Nat, j < 3721 → g0 j = 0) (hK : ∀ g, mTs B l g w → Q (K g)) : Q (f_X0_seeGaps_l28 K by_ pc w zN 0 g0) := by
  have hpc := hbk.1
  refine mloop (L := fun n i g => f_X0_seeGaps_l28 K by_ pc w n i g) (Q := Q) (hi := pc) (P := fun i g => 0 ≤ i ∧ mTs B (l.take i.toNat) g w) ?_ ?_ zN 0 g0 (by omega) (mzN (by omega)) ⟨by omega, fun p e p1 p2 q1 q2 => ?_⟩
  · rintro m i g hi ⟨h0, h1⟩
    rw [f_X0_seeGaps_l28_s]
    simp (disch := omega) only [mlt]
    rw [if_pos hi]
    unfold f_X0_tellGaps
    have hm := m_tellGaps_l (g0 := g) (K := fun t => some t) (Q := fun r => ∃ g1, r = some g1 ∧ mTg (mik B (l.getD i.toNat 0)) g g1 w) hbk hl hr ⟨h0, hi⟩ hw (fun g1 h => ⟨g1, rfl, h⟩)
    obtain ⟨g1, e, h2⟩ := hm
    right
    refine ⟨g1, by rw [e, mzb], by omega, fun p e p1 p2 q1 q2 => ?_⟩
    rw [h2 p e p1 p2 q1 q2, h1 p e p1 p2 q1 q2, show (i + 1).toNat = i.toNat + 1 by omega, mTake_s (by omega), mSum_one]
    split <;> omega
  · rintro m g ⟨h0, h1⟩
    rw [f_X0_seeGaps_l28_s]
    simp (disch := omega) only [mlt]
    rw [if_neg (by omega)]
    rw [List.take_of_length_le (by omega)] at h1
    exact hK g h1
  · rw [hg0 _ (by omega)]
    split <;> rfl
/-- all gaps from s to e, over the lines -/
def mGs (B : Int → Int → Int) (l : List Int) (s e : Int) : Int := mSum (fun x => mgc (mik B x) s e.toNat) l
def mGt (B : Int → Int → Int) (l : List Int) (s e : Int) : Int := mSum (fun x => mgt (mik B x) s e.toNat) l
theorem mSum_sub (f g : Int → Int) (l : List Int) : mSum (fun x => f x - g x) l = mSum f l - mSum g l := by
  induction l with
  | nil => rfl
  | cons x l ih => simp only [mSum, ih]; omega
theorem mGs_step (B : Int → Int → Int) (l : List Int) {s e : Int} (he : 0 < e) : mGs B l s e = mGt B l s e + (mGs B l s (e - 1) + mGs B l (s + 1) e - mGs B l (s + 1) (e - 1)) := by
  unfold mGs mGt
  rw [← mSum_add, ← mSum_sub, ← mSum_add]
  refine mSum_congr fun x _ => ?_
  rw [show e.toNat = (e - 1).toNat + 1 by omega]
  exact mgc_step _ _ _
theorem mSum_zero {f : Int → Int} {l : List Int} (h : ∀ x ∈ l, f x = 0) : mSum f l = 0 := by
  induction l with
  | nil => rfl
  | cons x l ih => simp only [mSum, h x List.mem_cons_self, ih (fun y hy => h y (List.mem_cons_of_mem _ hy))]; rfl
theorem mGs_0 (B : Int → Int → Int) (l : List Int) {s e : Int} (h : 0 ≤ e ∧ e ≤ s + 1) : mGs B l s e = 0 := mSum_zero fun x _ => mgc_0 _ _ _ (by omega)
theorem mGt_0 (B : Int → Int → Int) (l : List Int) {s e : Int} (h : 0 ≤ e ∧ e ≤ s + 1) : mGt B l s e = 0 := mSum_zero fun x _ => mgt_0 (by omega)
/-- while the pairs are summed up: rows from r on are done, row r - 1 up to place e -/
def mTr (B : Int → Int → Int) (l : List Int) (g : Nat → Int) (w r e0 : Int) : Prop := ∀ p e : Int, 0 ≤ p → p ≤ w → 0 ≤ e → e ≤ w → g (p * 61 + e).toNat = (if r ≤ p ∨ (p = r - 1 ∧ e < e0) then mGs B l p e else mGt B l p e)
theorem m_seeGaps_3i {B : Int → Int → Int} {l : List Int} {w r : Int} {g0 : Nat → Int} {K : (Nat → Int) → Option (Nat → Int)} {Q : Option (Nat → Int) → Prop} (hw : 0 < w ∧ w ≤ 60) (hr : 1 ≤ r ∧ r ≤ w) (h0 : mTr B l g0 w r 0)
    (hK : ∀ g, mTr B l g w (r - 1) 0 → Q (K g)) : Q (f_X0_seeGaps_l62 K (r - 1) w zN (r - 1 + 1) g0) := by
  refine mloop (L := fun n i g => f_X0_seeGaps_l62 K (r - 1) w n i g) (Q := Q) (hi := w + 1) (P := fun i g => r ≤ i ∧ mTr B l g w r i) ?_ ?_ zN (r - 1 + 1) g0 (by omega) (mzN (by omega)) ⟨by omega, fun p e p1 p2 q1 q2 => ?_⟩
  · rintro m i g hi ⟨hi0, h1⟩
    right
    rw [f_X0_seeGaps_l62_s]
    simp (disch := omega) only [mlt]
    rw [if_neg (by omega), m_gapsIn (by omega) (by omega), mzb, m_gapsIn (by omega) (by omega), mzb, m_gapsIn (by omega) (by omega), mzb, m_gapsIn (by omega) (by omega), mzb, m_put_in ⟨by omega, by omega, by omega⟩, mzb]
    refine ⟨_, rfl, by omega, fun p e p1 p2 q1 q2 => ?_⟩
    by_cases hpe : p = r - 1 ∧ e = i
    · have q1' : g ((r - 1) * 61 + (i - 1)).toNat = mGs B l (r - 1) (i - 1) := by rw [h1 (r - 1) (i - 1) (by omega) (by omega) (by omega) (by omega), if_pos (by omega)]
      have q2' : g ((r - 1 + 1) * 61 + i).toNat = mGs B l (r - 1 + 1) i := by rw [h1 (r - 1 + 1) i (by omega) (by omega) (by omega) (by omega), if_pos (by omega)]
      have q3' : g ((r - 1 + 1) * 61 + (i - 1)).toNat = mGs B l (r - 1 + 1) (i - 1) := by rw [h1 (r - 1 + 1) (i - 1) (by omega) (by omega) (by omega) (by omega), if_pos (by omega)]
      have q4' : g ((r - 1) * 61 + i).toNat = mGt B l (r - 1) i := by rw [h1 (r - 1) i (by omega) (by omega) (by omega) (by omega), if_neg (by omega)]
      rw [mzu_same (by omega), if_pos (by omega), q1', q2', q3', q4', hpe.1, hpe.2]
      exact (mGs_step B l (by omega)).symm
    · rw [mzu_other (by omega), h1 p e p1 p2 q1 q2]
      by_cases hc : r ≤ p ∨ (p = r - 1 ∧ e < i)
      · rw [if_pos hc, if_pos (by omega)]
      · rw [if_neg hc, if_neg (by omega)]
  · rintro m g ⟨hi0, h1⟩
    rw [f_X0_seeGaps_l62_s]
    simp (disch := omega) only [mlt]
    rw [if_pos (by omega)]
    refine hK g (fun p e p1 p2 q1 q2 => ?_)
    rw [h1 p e p1 p2 q1 q2]
    by_cases hc : r ≤ p ∨ (p = r - 1 ∧ e < w + 1)
    · rw [if_pos hc, if_pos (by omega)]
    · rw [if_neg hc, if_neg (by omega)]
  · rw [h0 p e p1 p2 q1 q2]
    by_cases hc : r ≤ p
    · rw [if_pos (Or.inl hc), if_pos (Or.inl hc)]
    · rw [if_neg (by omega)]
      by_cases hc2 : p = r - 1 ∧ e < r - 1 + 1
      · rw [if_pos (Or.inr hc2), mGs_0 B l (by omega), mGt_0 B l (by omega)]
      · rw [if_neg (by omega)]
theorem m_seeGaps_3 {B : Int → Int → Int} {l : List Int} {w : Int} {g0 : Nat → Int} {K : (Nat → Int) → Option (Nat → Int)} {Q : Option (Nat → Int) → Prop} (hw : 0 < w ∧ w ≤ 60) (h0 : mTs B l g0 w)
    (hK : ∀ g, mTr B l g w 0 0 → Q (K g)) : Q (f_X0_seeGaps_l54 K w zN (w - 1) g0) := by
  refine mloopD (L := fun n i g => f_X0_seeGaps_l54 K w n i g) (Q := Q) (lo := 0) (P := fun i g => i < w ∧ mTr B l g w (i + 1) 0) ?_ ?_ zN (w - 1) g0 (by omega) (mzN (by omega)) ⟨by omega, fun p e p1 p2 q1 q2 => ?_⟩
  · rintro m i g hi ⟨hi0, h1⟩
    rw [f_X0_seeGaps_l54_s]
    simp (disch := omega) only [mlt]
    rw [if_neg (by omega)]
    have hm := m_seeGaps_3i (r := i + 1) (g0 := g) (K := fun t => f_X0_seeGaps_l54 K w m (i - 1) t) (Q := fun r => Q r ∨ ∃ s', r = f_X0_seeGaps_l54 K w m (i - 1) s' ∧ i - 1 < w ∧ mTr B l s' w (i - 1 + 1) 0) hw (by omega) h1 (fun g1 h => Or.inr ⟨g1, rfl, by omega, by rw [show i - 1 + 1 = i + 1 - 1 by omega]; exact h⟩)
    rw [show i + 1 - 1 = i by omega] at hm
    exact hm
  · rintro m g ⟨hi0, h1⟩
    rw [f_X0_seeGaps_l54_s]
    simp (disch := omega) only [mlt]
    rw [if_pos (by omega)]
    exact hK g (by rw [show (0 : Int) - 1 + 1 = 0 by omega] at h1; exact h1)
  · rw [h0 p e (by omega) (by omega) (by omega) (by omega), if_pos q2]
    by_cases hc : w - 1 + 1 ≤ p ∨ (p = w - 1 + 1 - 1 ∧ e < 0)
    · rw [if_pos hc, mGs_0 B l (by omega)]; exact mGt_0 B l (by omega)
    · rw [if_neg hc]; rfl
theorem m_seeGaps {B : Int → Int → Int} {l : List Int} {by_ nol : Nat → Int} {pc w : Int} {g0 : Nat → Int} (hbk : mBk B l by_ nol pc) (hl : l.length ≤ 24) (hr : mRg B l) (hw : 0 < w ∧ w ≤ 60) : ∃ g, f_X0_seeGaps by_ pc w g0 = some g ∧ ∀ s e : Int, 0 ≤ s → s ≤ w → 0 ≤ e → e ≤ w → g (s * 61 + e).toNat = mGs B l s e := by
  unfold f_X0_seeGaps
  refine m_seeGaps_1 (Q := fun r => ∃ g, r = some g ∧ ∀ s e : Int, 0 ≤ s → s ≤ w → 0 ≤ e → e ≤ w → g (s * 61 + e).toNat = mGs B l s e) (fun g1 h1 => ?_)
  refine m_seeGaps_2 (Q := fun r => ∃ g, r = some g ∧ ∀ s e : Int, 0 ≤ s → s ≤ w → 0 ≤ e → e ≤ w → g (s * 61 + e).toNat = mGs B l s e) hbk hl hr (by omega) h1 (fun g2 h2 => ?_)
  refine m_seeGaps_3 (Q := fun r => ∃ g, r = some g ∧ ∀ s e : Int, 0 ≤ s → s ≤ w → 0 ≤ e → e ≤ w → g (s * 61 + e).toNat = mGs B l s e) hw h2 (fun g3 h3 => ⟨g3, rfl, fun s e a1 a2 a3 a4 => ?_⟩)
  rw [h3 s e a1 a2 a3 a4, if_pos (Or.inl a1)]
/-- what the class's search is told of a block -/
def mSv (B : Int → Int → Int) (l : List Int) (w : Int) (cr nx g : Nat → Int) : Prop := (∀ s e : Int, 0 ≤ s → s < e → e ≤ w → f_X0_columnCost nx g s e = some (mCC B l s e)) ∧ ∀ c : Int, 0 < c → c < w → f_X0_crossingCost cr c = some (mXC B l c)
theorem m_Sv {B : Int → Int → Int} {l : List Int} {w : Int} {cr nx g : Nat → Int} (hl : l.length ≤ 24) (hw : 0 < w ∧ w ≤ 60) (h : mIn B l 0 w cr nx) (hg : ∀ s e : Int, 0 ≤ s → s ≤ w → 0 ≤ e → e ≤ w → g (s * 61 + e).toNat = mGs B l s e) : mSv B l w cr nx g := by
  constructor
  · intro s e h1 h2 h3
    have hn := h.2.2 s (by omega) (by omega)
    unfold f_X0_columnCost
    rw [m_pick_in ⟨by omega, by omega, by omega⟩, mzb]
    simp (disch := omega) only [mlt, f_X0_columnCost_j18]
    rw [m_gapsIn (by omega) (by omega), mzb, mzb, hg s e h1 (by omega) (by omega) h3]
    by_cases hc : mAny B l s e
    · rw [if_pos ((mIn_any h (by omega)).mpr hc), mCC_t hc]; rfl
    · rw [if_neg (fun q => hc ((mIn_any h (by omega)).mp q)), mCC_f hc]; rfl
  · intro c h1 h2
    unfold f_X0_crossingCost
    rw [m_pick_in ⟨by omega, by omega, by omega⟩, mzb, h.2.1 c (by omega) (by omega) h1]
/-- the survey, whole -/
theorem m_survey {pb pl : Nat → Int} {n a b : Int} {by0 nol0 cr0 nx0 g0 : Nat → Int} {fr0 lr0 : Int} (hg : mGood pb pl n) (ha : 0 ≤ a ∧ a ≤ b ∧ b < n) (hk : ∀ x : Int, a ≤ x → x ≤ b → ¬ mkd (mB pb pl x) (pl x.toNat) = 0) (hp : ∃ x : Int, a ≤ x ∧ x ≤ b ∧ mkd (mB pb pl x) (pl x.toNat) = 2) :
    ∃ by1 nol pc rules fr lr hd ft w cr nx g, f_X0_survey by0 nol0 fr0 lr0 cr0 nx0 g0 pb pl a b = some (by1, nol, pc, rules, fr, lr, hd, ft, w, cr, nx, g) ∧
      mBk (mB pb pl) (mLs (fun x => mkd (mB pb pl x) (pl x.toNat)) a (b + 1 - a).toNat) by1 nol pc ∧ rules = (b + 1 - a) - pc ∧ mRu (fun x => mkd (mB pb pl x) (pl x.toNat)) a (b + 1) rules fr lr ∧
      mFlx hd (0 < rules ∧ ∃ x ∈ mLs (fun x => mkd (mB pb pl x) (pl x.toNat)) a (b + 1 - a).toNat, fr < x) ∧ mFlx ft (0 < rules ∧ ∃ x ∈ mLs (fun x => mkd (mB pb pl x) (pl x.toNat)) a (b + 1 - a).toNat, fr < x ∧ x < lr) ∧
      mIsW (mB pb pl) (mLs (fun x => mkd (mB pb pl x) (pl x.toNat)) a (b + 1 - a).toNat) w ∧ mSv (mB pb pl) (mLs (fun x => mkd (mB pb pl x) (pl x.toNat)) a (b + 1 - a).toNat) w cr nx g := by
  have hn := hg.1
  unfold f_X0_survey
  refine m_survey_l (Q := fun r => ∃ by1 nol pc rules fr lr hd ft w cr nx g, r = some (by1, nol, pc, rules, fr, lr, hd, ft, w, cr, nx, g) ∧
      mBk (mB pb pl) (mLs (fun x => mkd (mB pb pl x) (pl x.toNat)) a (b + 1 - a).toNat) by1 nol pc ∧ rules = (b + 1 - a) - pc ∧ mRu (fun x => mkd (mB pb pl x) (pl x.toNat)) a (b + 1) rules fr lr ∧
      mFlx hd (0 < rules ∧ ∃ x ∈ mLs (fun x => mkd (mB pb pl x) (pl x.toNat)) a (b + 1 - a).toNat, fr < x) ∧ mFlx ft (0 < rules ∧ ∃ x ∈ mLs (fun x => mkd (mB pb pl x) (pl x.toNat)) a (b + 1 - a).toNat, fr < x ∧ x < lr) ∧
      mIsW (mB pb pl) (mLs (fun x => mkd (mB pb pl x) (pl x.toNat)) a (b + 1 - a).toNat) w ∧ mSv (mB pb pl) (mLs (fun x => mkd (mB pb pl x) (pl x.toNat)) a (b + 1 - a).toNat) w cr nx g) hg ha hk (fun by1 nol pc rules fr lr hbk hru hmr => ?_)
  have hlen := mLs_len (fun x => mkd (mB pb pl x) (pl x.toNat)) a (b + 1 - a).toNat
  have hmem : ∀ x ∈ mLs (fun x => mkd (mB pb pl x) (pl x.toNat)) a (b + 1 - a).toNat, (a ≤ x ∧ x < b + 1) ∧ mkd (mB pb pl x) (pl x.toNat) = 2 := fun x hx => by
    have := mLs_mem.mp hx
    exact ⟨by omega, this.2⟩
  have hink : ∃ x ∈ mLs (fun x => mkd (mB pb pl x) (pl x.toNat)) a (b + 1 - a).toNat, ∃ p : Int, 0 ≤ p ∧ p < 60 ∧ mik (mB pb pl) x p = 1 := by
    obtain ⟨x, x1, x2, x3⟩ := hp
    obtain ⟨j, j1, j2, j3⟩ := mkd_ink x3
    have := (hg.2 x (by omega) (by omega)).1
    exact ⟨x, mLs_mem.mpr ⟨by omega, x3⟩, j, j1, by omega, mik_1.mpr j3⟩
  generalize hl : mLs (fun x => mkd (mB pb pl x) (pl x.toNat)) a (b + 1 - a).toNat = l at hbk hlen hmem hink
  have hrg : mRg (mB pb pl) l := fun x hx p p0 => mB_range hg (by have := hmem x hx; omega) p0
  have hpc := hbk.1
  have hr0 := hmr.1
  obtain ⟨hd, ft, e1, h1, h2⟩ := m_seeParts (rules := rules) (fr := fr) (lr := lr) hbk (by omega) (fun x hx => by have := hmem x hx; omega) (by omega) (fun hr => by
    have := hmr.2.2 hr
    obtain ⟨⟨f1, f2, -⟩, l1, l2, -⟩ := this
    omega)
  obtain ⟨w, cr, nx, e2, h3⟩ := m_seeInks (cr := cr0) (nx := nx0) hbk (by omega) hrg
  have hw := mIn_W h3 hink
  obtain ⟨g, e3, h4⟩ := m_seeGaps (g0 := g0) hbk (by omega) hrg ⟨hw.1, hw.2.1⟩
  try dsimp only
  rw [e1, mzb, e2, mzb]
  try dsimp only
  rw [e3, mzb]
  exact ⟨by1, nol, pc, rules, fr, lr, hd, ft, w, cr, nx, g, rfl, hbk, hru, hmr, h1, h2, hw, m_Sv (by omega) ⟨hw.1, hw.2.1⟩ h3 h4⟩
