/-! what a block's facts depend on: the bytes of its lines alone -/
theorem mLs_congr {k k' : Int → Int} {a : Int} {n : Nat} (h : ∀ y : Int, a ≤ y → y < a + (n : Int) → k y = k' y) : mLs k a n = mLs k' a n := by
  induction n with
  | zero => rfl
  | succ n ih => rw [mLs_s, mLs_s, ih (fun y h1 h2 => h y h1 (by omega)), h (a + (n : Int)) (by omega) (by omega)]
/-- the same bytes in these lines -/
def mSame (B B' : Int → Int → Int) (l : List Int) : Prop := ∀ x ∈ l, ∀ p : Int, 0 ≤ p → B x p = B' x p
theorem mSame_ik {B B' : Int → Int → Int} {l : List Int} (h : mSame B B' l) {x p : Int} (hx : x ∈ l) (hp : 0 ≤ p) : mik B x p = mik B' x p := by
  unfold mik; rw [h x hx p hp]
theorem mpv_congr {u u' : Int → Int} (h : ∀ p : Int, 0 ≤ p → u p = u' p) (j : Nat) : mpv u j = mpv u' j := by
  induction j with
  | zero => rfl
  | succ j ih => unfold mpv; rw [ih, h _ (by omega)]
theorem mgc_congr {u u' : Int → Int} (h : ∀ p : Int, 0 ≤ p → u p = u' p) (s : Int) (j : Nat) : mgc u s j = mgc u' s j := by
  induction j with
  | zero => rfl
  | succ j ih => unfold mgc; rw [ih, h _ (by omega), mpv_congr h]
theorem mFi_congr {u u' : Int → Int} (h : ∀ p : Int, 0 ≤ p → u p = u' p) {s : Int} (hs : 0 ≤ s) (n : Nat) : mFi u s n = mFi u' s n := by
  induction n generalizing s with
  | zero => rfl
  | succ n ih => unfold mFi; rw [h s hs, ih (by omega)]
theorem mLa_congr {u u' : Int → Int} (h : ∀ p : Int, 0 ≤ p → u p = u' p) {e : Int} (n : Nat) (hs : (n : Int) ≤ e) : mLa u e n = mLa u' e n := by
  induction n generalizing e with
  | zero => rfl
  | succ n ih => unfold mLa; rw [h (e - 1) (by omega), ih (by omega)]
theorem mCC_congr {B B' : Int → Int → Int} {l : List Int} (h : mSame B B' l) {s e : Int} (hs : 0 ≤ s) : mCC B l s e = mCC B' l s e := by
  have e1 : mSum (fun x => mgc (mik B x) s e.toNat) l = mSum (fun x => mgc (mik B' x) s e.toNat) l := mSum_congr fun x hx => mgc_congr (fun p hp => mSame_ik h hx hp) s _
  have e2 : mAny B l s e ↔ mAny B' l s e := by
    unfold mAny
    constructor
    · rintro ⟨x, hx, p, p1, p2, p3⟩
      exact ⟨x, hx, p, p1, p2, by rw [← mSame_ik h hx (by omega)]; exact p3⟩
    · rintro ⟨x, hx, p, p1, p2, p3⟩
      exact ⟨x, hx, p, p1, p2, by rw [mSame_ik h hx (by omega)]; exact p3⟩
  by_cases q : mAny B l s e
  · rw [mCC_t q, mCC_t (e2.mp q), e1]
  · rw [mCC_f q, mCC_f (fun q' => q (e2.mpr q')), e1]
theorem mXC_congr {B B' : Int → Int → Int} {l : List Int} (h : mSame B B' l) {c : Int} (hc : 0 < c) : mXC B l c = mXC B' l c := by
  unfold mXC
  rw [mSum_congr (g := fun x => mik B' x (c - 1) * mik B' x c) fun x hx => by rw [mSame_ik h hx (by omega), mSame_ik h hx (by omega)]]
theorem mIsW_congr {B B' : Int → Int → Int} {l : List Int} {w : Int} (h : mSame B B' l) (hw : mIsW B l w) : mIsW B' l w := by
  obtain ⟨h1, h2, ⟨x, hx, h3⟩, h4⟩ := hw
  refine ⟨h1, h2, ⟨x, hx, by rw [← mSame_ik h hx (by omega)]; exact h3⟩, fun y hy p p1 p2 => ?_⟩
  rw [← mSame_ik h hy (by omega)]
  exact h4 y hy p p1 p2
theorem mPf_congr {B B' : Int → Int → Int} {l : List Int} {x s t : Int} (h : mSame B B' l) (hx : x ∈ l) (hs : 0 ≤ s) : mPf B x s t = mPf B' x s t := mFi_congr (fun p hp => mSame_ik h hx hp) hs _
theorem mPe_congr {B B' : Int → Int → Int} {l : List Int} {x s t : Int} (h : mSame B B' l) (hx : x ∈ l) (hs : 0 ≤ s ∧ s ≤ t) : mPe B x s t = mPe B' x s t := by
  unfold mPe
  rw [mPf_congr h hx hs.1]
  have := mPf_r (B := B') (x := x) hs.2
  exact mLa_congr (fun p hp => mSame_ik h hx hp) _ (by omega)
theorem mPc_congr {B B' : Int → Int → Int} {l : List Int} {x s t : Int} (h : mSame B B' l) (hx : x ∈ l) (hs : 0 ≤ s ∧ s ≤ t) : mPc B x s t = mPc B' x s t := by
  unfold mPc
  rw [mPf_congr h hx hs.1, mPe_congr h hx hs]
  have := mPf_r (B := B') (x := x) hs.2
  refine List.map_congr_left fun j _ => ?_
  rw [h x hx _ (by omega)]
theorem mLn_congr {B B' : Int → Int → Int} {l : List Int} {ct ct' : Nat → Int} {x : Int} {row cols : Nat} {T : Nat → List Int} (h : mSame B B' l) (hx : x ∈ l) (hct : mCts ct cols) (hc : ∀ j : Nat, j ≤ cols → ct j = ct' j) : ∀ c : Nat, c ≤ cols → mLn B ct x row T c = mLn B' ct' x row T c := by
  intro c
  induction c with
  | zero => intro _; rfl
  | succ c ih =>
    intro hcc
    have k := hct.2.2 c (by omega)
    unfold mLn
    rw [ih (by omega), mPc_congr h hx ⟨k.1, by omega⟩, hc c (by omega), hc (c + 1) (by omega)]
theorem mLl_congr {B B' : Int → Int → Int} {l : List Int} {ct ct' : Nat → Int} {x : Int} {cols : Nat} {hd ft hd' ft' : Int → Prop} {s : mSt4} (h : mSame B B' l) (hx : x ∈ l) (hct : mCts ct cols) (hc : ∀ j : Nat, j ≤ cols → ct j = ct' j) (hh : hd x ↔ hd' x) (hf : ft x ↔ ft' x) : mLl B ct cols hd ft s x = mLl B' ct' cols hd' ft' s x := by
  have c1 := hct.1
  have e : mRow1 B ct hd ft x s.2.1 = mRow1 B' ct' hd' ft' x s.2.1 := by
    unfold mRow1
    rw [mPf_congr h hx (Int.le_refl 0), ← hc 1 (by omega)]
    by_cases q : hd x
    · rw [if_pos q, if_pos (hh.mp q)]
    · rw [if_neg q, if_neg (fun q' => q (hh.mpr q'))]
      by_cases q2 : ft x
      · rw [if_pos q2, if_pos (hf.mp q2)]
      · rw [if_neg q2, if_neg (fun q' => q2 (hf.mpr q'))]
  unfold mLl
  rw [e, mLn_congr h hx hct hc cols (Nat.le_refl _)]
theorem mAll_congr {B B' : Int → Int → Int} {ct ct' : Nat → Int} {cols : Nat} {hd ft hd' ft' : Int → Prop} (l : List Int) (h : mSame B B' l) (hct : mCts ct cols) (hc : ∀ j : Nat, j ≤ cols → ct j = ct' j) (hh : ∀ x ∈ l, (hd x ↔ hd' x) ∧ (ft x ↔ ft' x)) : mAll B ct cols hd ft l = mAll B' ct' cols hd' ft' l := by
  unfold mAll
  suffices hs : ∀ (l' : List Int), (∀ x ∈ l', x ∈ l) → ∀ s : mSt4, l'.foldl (mLl B ct cols hd ft) s = l'.foldl (mLl B' ct' cols hd' ft') s from hs l (fun x hx => hx) _
  intro l'
  induction l' with
  | nil => intro _ s; rfl
  | cons x l' ih =>
    intro hm s
    have hx := hm x (List.mem_cons_self ..)
    rw [List.foldl_cons, List.foldl_cons, mLl_congr h hx hct hc (hh x hx).1 (hh x hx).2]
    exact ih (fun y hy => hm y (List.mem_cons_of_mem _ hy)) _
/-- the first rule and the last one are what they are -/
theorem mRu_uniq {kd : Int → Int} {a e rules fr lr fr' lr' : Int} (h : mRu kd a e rules fr lr) (h' : mRu kd a e rules fr' lr') (hr : 0 < rules) : fr = fr' ∧ lr = lr' := by
  obtain ⟨⟨f1, f2, f3, f4⟩, ⟨l1, l2, l3, l4⟩⟩ := h.2.2 hr
  obtain ⟨⟨g1, g2, g3, g4⟩, ⟨k1, k2, k3, k4⟩⟩ := h'.2.2 hr
  constructor
  · apply Classical.byContradiction
    intro q
    rcases Int.lt_or_lt_of_ne q with q | q
    · exact g4 fr f1 q f3
    · exact f4 fr' g1 q g3
  · apply Classical.byContradiction
    intro q
    rcases Int.lt_or_lt_of_ne q with q | q
    · exact l4 lr' q k2 k3
    · exact k4 lr q l2 l3
theorem mFlx_uniq {f g : Int} {p q : Prop} (h : mFlx f p) (h' : mFlx g q) (e : p ↔ q) : f = g := by
  rcases h with ⟨h1, h2⟩ | ⟨h1, h2⟩
  · rcases h' with ⟨h3, h4⟩ | ⟨h3, h4⟩
    · rw [h1, h3]
    · exact absurd (e.mpr h4) h2
  · rcases h' with ⟨h3, h4⟩ | ⟨h3, h4⟩
    · exact absurd (e.mp h2) h4
    · rw [h1, h3]
/-- cuts that the search leaves can cut lines -/
theorem mCut_cts {cc : Int → Int → Int} {xc : Int → Int} {w : Int} {n : Nat} {cuts : Nat → Int} (h : mCut cc xc w n cuts n) (hn : 1 ≤ n ∧ n ≤ 8) (hw : w ≤ 60) : mCts cuts n := by
  refine ⟨hn, h.1, fun j hj => ?_⟩
  have := (h.2 j hj).1
  omega
theorem mCs_of {B : Int → Int → Int} {l : List Int} {w : Int} (hl : l.length ≤ 24) (hw : mIsW B l w) : mCs (mCC B l) (mXC B l) w := by
  have h1 := hw.1
  have h2 := hw.2.1
  refine ⟨⟨h1, h2⟩, fun s e s1 s2 s3 => ?_, fun c c1 c2 => ?_⟩
  · have := mCC_range B l s e hl (by omega)
    omega
  · have := mXC_range B l c hl
    omega
