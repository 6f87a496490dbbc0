/-! cells: what rows of bytes hold; one more piece of a line joined to a cell (the class) -/
def mUp (T : Nat → List Int) (s : Nat) (c : List Int) : Nat → List Int := fun j => if j = s then c else T j
theorem mUp_same (T : Nat → List Int) (s : Nat) (c : List Int) : mUp T s c s = c := by unfold mUp; rw [if_pos rfl]
theorem mUp_other {T : Nat → List Int} {s j : Nat} {c : List Int} (h : j ≠ s) : mUp T s c j = T j := by unfold mUp; rw [if_neg h]
theorem mUp_up (T : Nat → List Int) (s : Nat) (c c' : List Int) : mUp (mUp T s c) s c' = mUp T s c' := by
  funext j; unfold mUp; split <;> rfl
theorem mUp_self {T : Nat → List Int} {s : Nat} : mUp T s (T s) = T := by
  funext j; unfold mUp; split
  · rename_i h; rw [h]
  · rfl
/-- the rows of bytes hold these cells -/
def mTb (T : Nat → List Int) (by_ ln : Nat → Int) : Prop := ∀ s : Nat, s < 336 → ln s = ((T s).length : Int) ∧ (T s).length ≤ 60 ∧ ∀ i : Nat, i < (T s).length → by_ (s * 60 + i) = (T s).getD i 0
theorem mTb_put {T : Nat → List Int} {by_ ln : Nat → Int} {s : Int} {b : Int} (h : mTb T by_ ln) (hs : 0 ≤ s ∧ s < 336) (hl : (T s.toNat).length < 60) : mTb (mUp T s.toNat (T s.toNat ++ [b])) (zu by_ (s * 60 + ((T s.toNat).length : Int)) b) (zu ln s (((T s.toNat).length : Int) + 1)) := by
  intro j hj
  obtain ⟨a1, a2, a3⟩ := h j hj
  by_cases e : j = s.toNat
  · subst e
    rw [mUp_same, mzu_same rfl, List.length_append]
    refine ⟨by simp, by simp; omega, fun i hi => ?_⟩
    simp only [List.length_append, List.length_cons, List.length_nil] at hi
    by_cases e2 : i = (T s.toNat).length
    · subst e2
      rw [mzu_same (by omega)]
      simp [List.getD_eq_getElem?_getD]
    · rw [mzu_other (by omega), a3 i (by omega)]
      simp [List.getD_eq_getElem?_getD, List.getElem?_append_left (show i < (T s.toNat).length by omega)]
  · rw [mUp_other e, mzu_other e]
    refine ⟨a1, a2, fun i hi => ?_⟩
    rw [mzu_other (by omega)]
    exact a3 i hi
theorem m_addByte {T : Nat → List Int} {by_ ln : Nat → Int} {s b : Int} (h : mTb T by_ ln) (hs : 0 ≤ s ∧ s < 336) :
    ((T s.toNat).length < 60 → f_X4_addByte by_ ln s b = some (1, zu by_ (s * 60 + ((T s.toNat).length : Int)) b, zu ln s (((T s.toNat).length : Int) + 1))) ∧ (¬ (T s.toNat).length < 60 → f_X4_addByte by_ ln s b = some (0, by_, ln)) := by
  obtain ⟨a1, a2, a3⟩ := h s.toNat (by omega)
  unfold f_X4_addByte
  rw [m_pick_in ⟨by omega, by omega, by omega⟩, mzb, a1]
  simp (disch := omega) only [mlt]
  constructor
  · intro hl
    rw [if_pos (by omega), m_put_in ⟨by omega, by omega, by omega⟩, mzb, m_put_in ⟨by omega, by omega, by omega⟩, mzb]
  · intro hl
    rw [if_neg (by omega)]
/-- first ink from s on, and the end behind the last -/
def mFi (u : Int → Int) (s : Int) : Nat → Int
  | 0 => s
  | n + 1 => if u s = 1 then s else mFi u (s + 1) n
def mLa (u : Int → Int) (e : Int) : Nat → Int
  | 0 => e
  | n + 1 => if u (e - 1) = 1 then e else mLa u (e - 1) n
theorem mFi_r (u : Int → Int) (s : Int) (n : Nat) : s ≤ mFi u s n ∧ mFi u s n ≤ s + (n : Int) := by
  induction n generalizing s with
  | zero => exact ⟨Int.le_refl _, by show s ≤ _; omega⟩
  | succ n ih =>
    unfold mFi
    have := ih (s + 1)
    split <;> omega
theorem mLa_r (u : Int → Int) (e : Int) (n : Nat) : e - (n : Int) ≤ mLa u e n ∧ mLa u e n ≤ e := by
  induction n generalizing e with
  | zero => exact ⟨by show _ ≤ e; omega, Int.le_refl _⟩
  | succ n ih =>
    unfold mLa
    have := ih (e - 1)
    split <;> omega
/-- the bytes of a line's cell, without the blanks around it -/
def mPf (B : Int → Int → Int) (x s t : Int) : Int := mFi (mik B x) s (t - s).toNat
def mPe (B : Int → Int → Int) (x s t : Int) : Int := mLa (mik B x) t (t - mPf B x s t).toNat
def mPc (B : Int → Int → Int) (x s t : Int) : List Int := (List.range (mPe B x s t - mPf B x s t).toNat).map (fun j : Nat => mnb (B x (mPf B x s t + (j : Int))))
theorem mPf_r {B : Int → Int → Int} {x s t : Int} (h : s ≤ t) : s ≤ mPf B x s t ∧ mPf B x s t ≤ t := by
  have := mFi_r (mik B x) s (t - s).toNat
  unfold mPf; omega
theorem mPe_r {B : Int → Int → Int} {x s t : Int} (h : s ≤ t) : mPf B x s t ≤ mPe B x s t ∧ mPe B x s t ≤ t := by
  have h1 := mPf_r (B := B) (x := x) h
  have := mLa_r (mik B x) t (t - mPf B x s t).toNat
  unfold mPe; omega
theorem mPc_len {B : Int → Int → Int} {x s t : Int} : (mPc B x s t).length = (mPe B x s t - mPf B x s t).toNat := by unfold mPc; simp
theorem mPc_get {B : Int → Int → Int} {x s t : Int} {j : Nat} (h : j < (mPc B x s t).length) : (mPc B x s t).getD j 0 = mnb (B x (mPf B x s t + (j : Int))) := by
  rw [mPc_len] at h
  unfold mPc
  simp [List.getD_eq_getElem?_getD, h]
/-- a piece joined to a cell: the cells behind it, and 1 if it was too long -/
def mCj (c pc : List Int) : List Int := if c = [] then pc else c ++ 32 :: pc
def mJn (T : Nat → List Int) (s : Nat) (pc : List Int) : (Nat → List Int) × Int := if pc = [] then (T, 0) else if 60 < (mCj (T s) pc).length then (T, 1) else (mUp T s (mCj (T s) pc), 0)
theorem m_firstInk {B : Int → Int → Int} {l : List Int} {by_ nol : Nat → Int} {pc k s t : Int} (hbk : mBk B l by_ nol pc) (hl : l.length ≤ 24) (hr : mRg B l) (hk : 0 ≤ k ∧ k < pc) (hs : 0 ≤ s ∧ s ≤ t ∧ t ≤ 60) : f_X4_firstInk by_ k s t = some (mPf B (l.getD k.toNat 0) s t) := by
  unfold f_X4_firstInk
  refine mloop (L := fun m i (_ : Unit) => f_X4_firstInk_l3 (fun v => some v) k t by_ m i) (Q := fun r => r = some (mPf B (l.getD k.toNat 0) s t)) (hi := t) (P := fun i _ => s ≤ i ∧ mFi (mik B (l.getD k.toNat 0)) i (t - i).toNat = mPf B (l.getD k.toNat 0) s t) ?_ ?_ zN s () (by omega) (mzN (by omega)) ⟨by omega, rfl⟩
  · rintro m i _ hi ⟨i0, i1⟩
    rw [f_X4_firstInk_l3_s, m_hasInk hbk hl hk (by omega) (fun x hx => hr x hx i (by omega)), mzb]
    have hb := mik_b B (l.getD k.toNat 0) i
    simp (disch := omega) only [mlt, meq]
    rw [if_pos hi]
    rw [show (t - i).toNat = (t - (i + 1)).toNat + 1 by omega] at i1
    unfold mFi at i1
    rcases hb with hb | hb
    · rw [if_pos hb]
      rw [if_neg (by omega)] at i1
      exact Or.inr ⟨(), rfl, by omega, i1⟩
    · rw [if_neg (by omega)]
      rw [if_pos hb] at i1
      exact Or.inl (by rw [i1])
  · rintro m _ ⟨i0, i1⟩
    rw [f_X4_firstInk_l3_s]
    simp (disch := omega) only [mlt]
    rw [if_neg (by omega)]
    rw [show (t - t).toNat = 0 by omega] at i1
    rw [← i1]
    rfl
theorem m_lastInk {B : Int → Int → Int} {l : List Int} {by_ nol : Nat → Int} {pc k s t : Int} {K : Int → Option (Int × (Nat → Int) × (Nat → Int))} (hbk : mBk B l by_ nol pc) (hl : l.length ≤ 24) (hr : mRg B l) (hk : 0 ≤ k ∧ k < pc) (hs : 0 ≤ s ∧ s ≤ t ∧ t ≤ 60) : f_X4_joinCell_l14 K k (mPf B (l.getD k.toNat 0) s t) by_ zN t = K (mPe B (l.getD k.toNat 0) s t) := by
  have hf := mPf_r (B := B) (x := l.getD k.toNat 0) (s := s) (t := t) (by omega)
  have hpe : mPe B (l.getD k.toNat 0) s t = mLa (mik B (l.getD k.toNat 0)) t (t - mPf B (l.getD k.toNat 0) s t).toNat := rfl
  generalize mPf B (l.getD k.toNat 0) s t = f at hf hpe
  refine mloopD (L := fun m i (_ : Unit) => f_X4_joinCell_l14 K k f by_ m i) (Q := fun r => r = K (mPe B (l.getD k.toNat 0) s t)) (lo := f + 1) (P := fun i _ => i ≤ t ∧ mLa (mik B (l.getD k.toNat 0)) i (i - f).toNat = mPe B (l.getD k.toNat 0) s t) ?_ ?_ zN t () (by omega) (mzN (by omega)) ⟨by omega, hpe.symm⟩
  · rintro m i _ hi ⟨i0, i1⟩
    rw [f_X4_joinCell_l14_s, m_hasInk hbk hl hk (by omega) (fun x hx => hr x hx (i - 1) (by omega)), mzb]
    have hb := mik_b B (l.getD k.toNat 0) (i - 1)
    simp (disch := omega) only [mlt, meq]
    rw [if_pos (by omega)]
    rw [show (i - f).toNat = (i - 1 - f).toNat + 1 by omega] at i1
    unfold mLa at i1
    rcases hb with hb | hb
    · rw [if_pos hb]
      rw [if_neg (by omega)] at i1
      exact Or.inr ⟨(), rfl, by omega, i1⟩
    · rw [if_neg (by omega)]
      rw [if_pos hb] at i1
      exact Or.inl (by rw [i1])
  · rintro m _ ⟨i0, i1⟩
    rw [f_X4_joinCell_l14_s]
    simp (disch := omega) only [mlt]
    rw [if_neg (by omega)]
    rw [show (f + 1 - 1 - f).toNat = 0 by omega] at i1
    rw [← i1]
    rfl
theorem m_blockByte {B : Int → Int → Int} {l : List Int} {by_ nol : Nat → Int} {pc k p : Int} (h : mBk B l by_ nol pc) (hl : l.length ≤ 24) (hk : 0 ≤ k ∧ k < pc) (hp : 0 ≤ p ∧ p < 60) : f_X0_byteAt by_ k p = some (mnb (B (l.getD k.toNat 0) p)) := by
  obtain ⟨e, h⟩ := h
  have h3 := (h k.toNat (by omega)).2 p hp.1 hp.2
  rw [show ((k.toNat : Nat) : Int) = k by omega] at h3
  unfold f_X0_byteAt
  rw [m_pick_in ⟨by omega, by omega, by omega⟩, mzb, h3]
/-- bytes of a piece added one by one, to a cell that begins with c0 -/
theorem m_join_l {B : Int → Int → Int} {l : List Int} {by_ nol : Nat → Int} {pc k s t sl : Int} {T : Nat → List Int} {tb tl : Nat → Int} (hbk : mBk B l by_ nol pc) (hl : l.length ≤ 24) (hk : 0 ≤ k ∧ k < pc) (hs : 0 ≤ s ∧ s ≤ t ∧ t ≤ 60) (hsl : 0 ≤ sl ∧ sl < 336) (hT : mTb T tb tl) :
    ∃ r tb' tl', f_X4_joinCell_l82 (fun a b c => zch a (some (a, b, c))) k sl (mPe B (l.getD k.toNat 0) s t) by_ zN 1 (mPf B (l.getD k.toNat 0) s t) tb tl = some (r, tb', tl') ∧ ((r = 1 ∧ (T sl.toNat ++ mPc B (l.getD k.toNat 0) s t).length ≤ 60 ∧ mTb (mUp T sl.toNat (T sl.toNat ++ mPc B (l.getD k.toNat 0) s t)) tb' tl') ∨ (r = 0 ∧ 60 < (T sl.toNat ++ mPc B (l.getD k.toNat 0) s t).length)) := by
  have hf := mPf_r (B := B) (x := l.getD k.toNat 0) (s := s) (t := t) (by omega)
  have he := mPe_r (B := B) (x := l.getD k.toNat 0) (s := s) (t := t) (by omega)
  have hlen := mPc_len (B := B) (x := l.getD k.toNat 0) (s := s) (t := t)
  have hget := fun j => mPc_get (B := B) (x := l.getD k.toNat 0) (s := s) (t := t) (j := j)
  generalize mPf B (l.getD k.toNat 0) s t = f at hf he hlen hget
  generalize mPe B (l.getD k.toNat 0) s t = e at he hlen
  generalize mPc B (l.getD k.toNat 0) s t = P at hlen hget
  have hT0 := (hT sl.toNat (by omega)).2.1
  refine mloop (L := fun m i (q : Int × (Nat → Int) × (Nat → Int)) => f_X4_joinCell_l82 (fun a b c => zch a (some (a, b, c))) k sl e by_ m q.1 i q.2.1 q.2.2) (Q := fun r => ∃ r' tb' tl', r = some (r', tb', tl') ∧ ((r' = 1 ∧ (T sl.toNat ++ P).length ≤ 60 ∧ mTb (mUp T sl.toNat (T sl.toNat ++ P)) tb' tl') ∨ (r' = 0 ∧ 60 < (T sl.toNat ++ P).length))) (hi := e) (P := fun i q => f ≤ i ∧ ((q.1 = 1 ∧ (T sl.toNat ++ P.take (i - f).toNat).length ≤ 60 ∧ mTb (mUp T sl.toNat (T sl.toNat ++ P.take (i - f).toNat)) q.2.1 q.2.2) ∨ (q.1 = 0 ∧ 60 < (T sl.toNat ++ P).length))) ?_ ?_ zN f (1, tb, tl) (by omega) (mzN (by omega)) ⟨by omega, Or.inl ⟨rfl, ?_, ?_⟩⟩
  · rintro m i ⟨r, b1, l1⟩ hi ⟨i0, i1⟩
    try dsimp only at i1 ⊢
    rw [f_X4_joinCell_l82_s]
    rcases i1 with ⟨rfl, c2, c3⟩ | ⟨rfl, c2⟩
    · right
      simp (disch := omega) only [mlt, meq]
      rw [if_pos hi, if_neg (show ¬ (1 : Int) = 0 by decide), m_blockByte hbk hl hk (by omega), mzb]
      have hg := hget (i - f).toNat (by omega)
      rw [show f + (((i - f).toNat : Nat) : Int) = i by omega] at hg
      have htk : P.take (i + 1 - f).toNat = P.take (i - f).toNat ++ [mnb (B (l.getD k.toNat 0) i)] := by
        rw [show (i + 1 - f).toNat = (i - f).toNat + 1 by omega, List.take_add_one, ← hg, List.getD_eq_getElem?_getD, List.getElem?_eq_getElem (by omega)]
        rfl
      obtain ⟨a1, a2⟩ := m_addByte (b := mnb (B (l.getD k.toNat 0) i)) c3 hsl
      have hp := mTb_put (b := mnb (B (l.getD k.toNat 0) i)) c3 hsl
      rw [mUp_same] at a1 a2 hp
      by_cases hlt : (T sl.toNat ++ P.take (i - f).toNat).length < 60
      · rw [a1 hlt, mzb]
        refine ⟨(1, _, _), rfl, by omega, Or.inl ⟨rfl, ?_, ?_⟩⟩
        · rw [htk, ← List.append_assoc, List.length_append]; simp; simp at hlt; omega
        · rw [htk, ← List.append_assoc]
          have := hp hlt
          rw [mUp_up] at this
          exact this
      · rw [a2 hlt, mzb]
        refine ⟨(0, _, _), rfl, by omega, Or.inr ⟨rfl, ?_⟩⟩
        have h9 : (P.take (i - f).toNat).length < P.length := by rw [List.length_take]; omega
        rw [List.length_append] at hlt ⊢
        omega
    · left
      simp (disch := omega) only [mlt, meq]
      rw [if_pos hi, if_pos trivial, mch (Or.inl rfl)]
      exact ⟨0, _, _, rfl, Or.inr ⟨rfl, c2⟩⟩
  · rintro m ⟨r, b1, l1⟩ ⟨i0, i1⟩
    try dsimp only at i1 ⊢
    rw [f_X4_joinCell_l82_s]
    simp (disch := omega) only [mlt]
    rw [if_neg (by omega)]
    rcases i1 with ⟨rfl, c2, c3⟩ | ⟨rfl, c2⟩
    · rw [mch (Or.inr rfl)]
      rw [List.take_of_length_le (by omega)] at c2 c3
      exact ⟨1, _, _, rfl, Or.inl ⟨rfl, c2, c3⟩⟩
    · rw [mch (Or.inl rfl)]
      exact ⟨0, _, _, rfl, Or.inr ⟨rfl, c2⟩⟩
  · rw [show (f - f).toNat = 0 by omega]; simp; exact hT0
  · rw [show (f - f).toNat = 0 by omega, List.take_zero, List.append_nil, mUp_self]
    exact hT
theorem m_joinCell {B : Int → Int → Int} {l : List Int} {by_ nol : Nat → Int} {pc k s t sl : Int} {T : Nat → List Int} {tb tl : Nat → Int} (hbk : mBk B l by_ nol pc) (hl : l.length ≤ 24) (hr : mRg B l) (hk : 0 ≤ k ∧ k < pc) (hs : 0 ≤ s ∧ s ≤ t ∧ t ≤ 60) (hsl : 0 ≤ sl ∧ sl < 336) (hT : mTb T tb tl) :
    ∃ r tb' tl', f_X4_joinCell tb tl by_ k s t sl = some (r, tb', tl') ∧ ((r = 1 ∧ (mJn T sl.toNat (mPc B (l.getD k.toNat 0) s t)).2 = 0 ∧ mTb (mJn T sl.toNat (mPc B (l.getD k.toNat 0) s t)).1 tb' tl') ∨ (r = 0 ∧ (mJn T sl.toNat (mPc B (l.getD k.toNat 0) s t)).2 = 1)) := by
  unfold f_X4_joinCell
  rw [m_firstInk hbk hl hr hk hs, mzb, m_lastInk hbk hl hr hk hs]
  have hf := mPf_r (B := B) (x := l.getD k.toNat 0) (s := s) (t := t) (by omega)
  have he := mPe_r (B := B) (x := l.getD k.toNat 0) (s := s) (t := t) (by omega)
  have hlen := mPc_len (B := B) (x := l.getD k.toNat 0) (s := s) (t := t)
  obtain ⟨a1, a2, -⟩ := hT sl.toNat (by omega)
  unfold f_X4_joinCell_j39
  simp (disch := omega) only [meq]
  by_cases e0 : mPf B (l.getD k.toNat 0) s t = mPe B (l.getD k.toNat 0) s t
  · have hp : mPc B (l.getD k.toNat 0) s t = [] := List.eq_nil_of_length_eq_zero (by omega)
    rw [if_pos e0]
    have hj : mJn T sl.toNat (mPc B (l.getD k.toNat 0) s t) = (T, 0) := by unfold mJn; rw [if_pos hp]
    rw [hj]
    exact ⟨1, tb, tl, rfl, Or.inl ⟨rfl, rfl, hT⟩⟩
  · have hp : mPc B (l.getD k.toNat 0) s t ≠ [] := fun q => by rw [q, List.length_nil] at hlen; omega
    have hplen : 0 < (mPc B (l.getD k.toNat 0) s t).length := List.length_pos_iff.mpr hp
    rw [if_neg e0, m_pick_in ⟨by omega, by omega, by omega⟩, mzb, a1]
    have fin : ∀ (c : List Int) (b1 l1 : Nat → Int), mTb (mUp T sl.toNat c) b1 l1 → mCj (T sl.toNat) (mPc B (l.getD k.toNat 0) s t) = c ++ mPc B (l.getD k.toNat 0) s t → ∃ r tb' tl', f_X4_joinCell_j71 k sl (mPf B (l.getD k.toNat 0) s t) (mPe B (l.getD k.toNat 0) s t) b1 l1 by_ = some (r, tb', tl') ∧ ((r = 1 ∧ (mJn T sl.toNat (mPc B (l.getD k.toNat 0) s t)).2 = 0 ∧ mTb (mJn T sl.toNat (mPc B (l.getD k.toNat 0) s t)).1 tb' tl') ∨ (r = 0 ∧ (mJn T sl.toNat (mPc B (l.getD k.toNat 0) s t)).2 = 1)) := by
      intro c b1 l1 hb hc
      unfold f_X4_joinCell_j71 f_X4_joinCell_j76
      obtain ⟨r, tb', tl', e1, h⟩ := m_join_l hbk hl hk hs hsl hb
      rw [mUp_same, mUp_up] at h
      refine ⟨r, tb', tl', e1, ?_⟩
      unfold mJn
      rw [if_neg hp, hc]
      rcases h with ⟨h1, h2, h3⟩ | ⟨h1, h2⟩
      · rw [if_neg (by omega)]; exact Or.inl ⟨h1, rfl, h3⟩
      · rw [if_pos h2]; exact Or.inr ⟨h1, rfl⟩
    by_cases e1 : (T sl.toNat).length = 0
    · have hnil : T sl.toNat = [] := List.eq_nil_of_length_eq_zero e1
      simp (disch := omega) only [meq]
      rw [if_pos (by omega)]
      refine fin [] tb tl ?_ (by unfold mCj; rw [if_pos hnil]; rfl)
      rw [← hnil, mUp_self]; exact hT
    · have hne : T sl.toNat ≠ [] := fun q => e1 (by rw [q]; rfl)
      simp (disch := omega) only [meq]
      rw [if_neg (by omega)]
      obtain ⟨b1, b2⟩ := m_addByte (b := 32) hT hsl
      have hcj : mCj (T sl.toNat) (mPc B (l.getD k.toNat 0) s t) = (T sl.toNat ++ [32]) ++ mPc B (l.getD k.toNat 0) s t := by unfold mCj; rw [if_neg hne]; simp
      by_cases h60 : (T sl.toNat).length < 60
      · rw [b1 h60, mzb, if_neg (show ¬ zI 1 = zI 0 by decide)]
        exact fin (T sl.toNat ++ [32]) _ _ (mTb_put hT hsl h60) hcj
      · rw [b2 h60, mzb, if_pos rfl]
        unfold f_X4_joinCell_j76
        dsimp only
        rw [zN_s, f_X4_joinCell_l82_s]
        simp (disch := omega) only [mlt, meq]
        rw [if_pos (by omega), if_pos trivial, mch (Or.inl rfl)]
        refine ⟨0, _, _, rfl, Or.inr ⟨rfl, ?_⟩⟩
        unfold mJn
        rw [if_neg hp, hcj, if_pos (by simp; omega)]
