/-! a block's plain lines, and what is counted over them -/
def mLs (k : Int → Int) (a : Int) : Nat → List Int
  | 0 => []
  | n + 1 => mLs k a n ++ (if k (a + (n : Int)) = 2 then [a + (n : Int)] else [])
theorem mLs_s (k : Int → Int) (a : Int) (n : Nat) : mLs k a (n + 1) = mLs k a n ++ (if k (a + (n : Int)) = 2 then [a + (n : Int)] else []) := rfl
theorem mLs_2 {k : Int → Int} {a : Int} {n : Nat} (h : k (a + (n : Int)) = 2) : mLs k a (n + 1) = mLs k a n ++ [a + (n : Int)] := by rw [mLs_s, if_pos h]
theorem mLs_n {k : Int → Int} {a : Int} {n : Nat} (h : ¬ k (a + (n : Int)) = 2) : mLs k a (n + 1) = mLs k a n := by rw [mLs_s, if_neg h, List.append_nil]
theorem mLs_len (k : Int → Int) (a : Int) (n : Nat) : (mLs k a n).length ≤ n := by
  induction n with
  | zero => exact Nat.le_refl _
  | succ n ih =>
    rw [mLs_s, List.length_append]
    split <;> simp <;> omega
theorem mLs_mem {k : Int → Int} {a x : Int} {n : Nat} : x ∈ mLs k a n ↔ (a ≤ x ∧ x < a + (n : Int)) ∧ k x = 2 := by
  induction n with
  | zero => simp [mLs]; omega
  | succ n ih =>
    rw [mLs_s, List.mem_append, ih]
    by_cases h : k (a + (n : Int)) = 2
    · rw [if_pos h, List.mem_singleton]
      constructor
      · rintro (⟨h1, h2⟩ | h1)
        · exact ⟨by omega, h2⟩
        · subst h1; exact ⟨by omega, h⟩
      · rintro ⟨h1, h2⟩
        by_cases he : x = a + (n : Int)
        · exact Or.inr he
        · exact Or.inl ⟨by omega, h2⟩
    · rw [if_neg h]
      constructor
      · rintro (⟨h1, h2⟩ | h1)
        · exact ⟨by omega, h2⟩
        · cases h1
      · rintro ⟨h1, h2⟩
        by_cases he : x = a + (n : Int)
        · subst he; exact absurd h2 h
        · exact Or.inl ⟨by omega, h2⟩
def mSum (f : Int → Int) : List Int → Int
  | [] => 0
  | x :: l => f x + mSum f l
theorem mSum_nil (f : Int → Int) : mSum f [] = 0 := rfl
theorem mSum_app (f : Int → Int) (l l' : List Int) : mSum f (l ++ l') = mSum f l + mSum f l' := by
  induction l with
  | nil => simp [mSum]
  | cons x l ih => simp only [List.cons_append, mSum, ih]; omega
theorem mSum_one (f : Int → Int) (l : List Int) (x : Int) : mSum f (l ++ [x]) = mSum f l + f x := by
  rw [mSum_app]; simp [mSum]
theorem mSum_bound {f : Int → Int} {l : List Int} {c : Int} (h : ∀ x ∈ l, 0 ≤ f x ∧ f x ≤ c) : 0 ≤ mSum f l ∧ mSum f l ≤ c * (l.length : Int) := by
  induction l with
  | nil => simp [mSum]
  | cons x l ih =>
    have h1 := h x List.mem_cons_self
    have h2 := ih (fun y hy => h y (List.mem_cons_of_mem _ hy))
    simp only [mSum, List.length_cons]
    have e : c * ((l.length + 1 : Nat) : Int) = c * (l.length : Int) + c := by
      rw [show ((l.length + 1 : Nat) : Int) = (l.length : Int) + 1 by omega, Int.mul_add, Int.mul_one]
    rw [e]
    omega
theorem mSum_congr {f g : Int → Int} {l : List Int} (h : ∀ x ∈ l, f x = g x) : mSum f l = mSum g l := by
  induction l with
  | nil => rfl
  | cons x l ih => simp only [mSum, h x List.mem_cons_self, ih (fun y hy => h y (List.mem_cons_of_mem _ hy))]
theorem mSum_add (f g : Int → Int) (l : List Int) : mSum (fun x => f x + g x) l = mSum f l + mSum g l := by
  induction l with
  | nil => rfl
  | cons x l ih => simp only [mSum, ih]; omega
/-- ink, 1 or 0 -/
def mik (B : Int → Int → Int) (x p : Int) : Int := if B x p = 32 ∨ B x p = 124 then 0 else 1
theorem mik_b (B : Int → Int → Int) (x p : Int) : mik B x p = 0 ∨ mik B x p = 1 := by unfold mik; split <;> simp
theorem mik_1 {B : Int → Int → Int} {x p : Int} : mik B x p = 1 ↔ ¬ mBl (B x p) := by unfold mik mBl; split <;> simp_all
theorem mik_0 {B : Int → Int → Int} {x p : Int} : mik B x p = 0 ↔ mBl (B x p) := by unfold mik mBl; split <;> simp_all
/-- the last ink ahead of a place -/
def mpv (u : Int → Int) : Nat → Int
  | 0 => -1
  | j + 1 => if u (j : Int) = 1 then (j : Int) else mpv u j
theorem mpv_lt (u : Int → Int) (j : Nat) : -1 ≤ mpv u j ∧ mpv u j < j := by
  induction j with
  | zero => exact ⟨(by decide : (-1 : Int) ≤ -1), (by decide : (-1 : Int) < ((0 : Nat) : Int))⟩
  | succ j ih => unfold mpv; split <;> omega
/-- gaps of more than one blank that end ahead of a place and begin at s or later -/
def mgc (u : Int → Int) (s : Int) : Nat → Int
  | 0 => 0
  | j + 1 => mgc u s j + (if u (j : Int) = 1 ∧ s ≤ mpv u j ∧ 2 < (j : Int) - mpv u j then 1 else 0)
theorem mgc_pos (u : Int → Int) (s : Int) (j : Nat) : 0 ≤ mgc u s j ∧ mgc u s j ≤ j := by
  induction j with
  | zero => exact ⟨Int.le_refl 0, Int.le_refl 0⟩
  | succ j ih => unfold mgc; split <;> omega
theorem mgc_0 (u : Int → Int) (s : Int) (j : Nat) (h : (j : Int) ≤ s + 1) : mgc u s j = 0 := by
  induction j with
  | zero => rfl
  | succ j ih =>
    unfold mgc
    have := mpv_lt u j
    rw [ih (by omega), if_neg (by omega)]
    rfl
/-- a gap at just this pair of places: from p to the place ahead of e -/
def mgt (u : Int → Int) (p : Int) : Nat → Int
  | 0 => 0
  | j + 1 => if u (j : Int) = 1 ∧ p = mpv u j ∧ 2 < (j : Int) - mpv u j then 1 else 0
theorem mgc_step (u : Int → Int) (s : Int) (j : Nat) : mgc u s (j + 1) = mgt u s (j + 1) + (mgc u s j + mgc u (s + 1) (j + 1) - mgc u (s + 1) j) := by
  show mgc u s j + _ = (if u (j : Int) = 1 ∧ s = mpv u j ∧ 2 < (j : Int) - mpv u j then (1 : Int) else 0) + (mgc u s j + (mgc u (s + 1) j + _) - mgc u (s + 1) j)
  by_cases h1 : u (j : Int) = 1 ∧ 2 < (j : Int) - mpv u j
  · by_cases h2 : s = mpv u j
    · rw [if_pos (by omega), if_pos (by omega), if_neg (by omega)]; omega
    · rw [if_neg (c := u (j : Int) = 1 ∧ s = mpv u j ∧ 2 < (j : Int) - mpv u j) (by omega)]
      by_cases h3 : s ≤ mpv u j
      · rw [if_pos (by omega), if_pos (by omega)]; omega
      · rw [if_neg (by omega), if_neg (by omega)]; omega
  · rw [if_neg (by omega), if_neg (by omega), if_neg (by omega)]; omega
/-- ink somewhere in the places s to e - 1 of these lines -/
def mAny (B : Int → Int → Int) (l : List Int) (s e : Int) : Prop := ∃ x ∈ l, ∃ p : Int, s ≤ p ∧ p < e ∧ mik B x p = 1
noncomputable def mCC (B : Int → Int → Int) (l : List Int) (s e : Int) : Int := 2 + @ite Int (mAny B l s e) (Classical.propDecidable _) 0 20 + 3 * mSum (fun x => mgc (mik B x) s e.toNat) l
theorem mCC_t {B : Int → Int → Int} {l : List Int} {s e : Int} (h : mAny B l s e) : mCC B l s e = 2 + 0 + 3 * mSum (fun x => mgc (mik B x) s e.toNat) l := by unfold mCC; rw [if_pos h]
theorem mCC_f {B : Int → Int → Int} {l : List Int} {s e : Int} (h : ¬ mAny B l s e) : mCC B l s e = 2 + 20 + 3 * mSum (fun x => mgc (mik B x) s e.toNat) l := by unfold mCC; rw [if_neg h]
theorem mCC_range (B : Int → Int → Int) (l : List Int) (s e : Int) (hl : l.length ≤ 24) (he : 0 ≤ e ∧ e ≤ 60) : 2 ≤ mCC B l s e ∧ mCC B l s e ≤ 4342 := by
  have h := mSum_bound (f := fun x => mgc (mik B x) s e.toNat) (l := l) (c := 60) (fun x _ => by have := mgc_pos (mik B x) s e.toNat; omega)
  by_cases h1 : mAny B l s e
  · rw [mCC_t h1]; omega
  · rw [mCC_f h1]; omega
def mXC (B : Int → Int → Int) (l : List Int) (c : Int) : Int := 6 * mSum (fun x => mik B x (c - 1) * mik B x c) l
theorem mXC_range (B : Int → Int → Int) (l : List Int) (c : Int) (hl : l.length ≤ 24) : 0 ≤ mXC B l c ∧ mXC B l c ≤ 144 := by
  have h := mSum_bound (f := fun x => mik B x (c - 1) * mik B x c) (l := l) (c := 1) (fun x _ => by
    rcases mik_b B x (c - 1) with h | h <;> rcases mik_b B x c with h' | h' <;> rw [h, h'] <;> decide)
  unfold mXC
  omega
def mIsW (B : Int → Int → Int) (l : List Int) (w : Int) : Prop := 0 < w ∧ w ≤ 60 ∧ (∃ x ∈ l, mik B x (w - 1) = 1) ∧ ∀ x ∈ l, ∀ p : Int, w ≤ p → p < 60 → mik B x p = 0
theorem mIsW_uniq {B : Int → Int → Int} {l : List Int} {w w' : Int} (h : mIsW B l w) (h' : mIsW B l w') : w = w' := by
  obtain ⟨a1, a2, ⟨x, hx, a3⟩, a4⟩ := h
  obtain ⟨b1, b2, ⟨y, hy, b3⟩, b4⟩ := h'
  rcases Int.lt_trichotomy w w' with h | h | h
  · have := a4 y hy (w' - 1) (by omega) (by omega); omega
  · exact h
  · have := b4 x hx (w - 1) (by omega) (by omega); omega
/-- a byte as a block keeps it: bars are blanks -/
def mnb (c : Int) : Int := if c = 124 then 32 else c
theorem mnb_32 {B : Int → Int → Int} {x p : Int} : mnb (B x p) = 32 ↔ mik B x p = 0 := by
  unfold mnb mik
  by_cases h : B x p = 124
  · rw [if_pos h, if_pos (Or.inr h)]; simp
  · rw [if_neg h]
    by_cases h2 : B x p = 32
    · rw [if_pos (Or.inl h2)]; simp [h2]
    · rw [if_neg (by omega)]; simp [h2]
theorem m_takeLine_l {pb pl : Nat → Int} {pc x : Int} {by0 : Nat → Int} {K : (Nat → Int) → Option ((Nat → Int) × (Nat → Int) × Int)} {Q : Option ((Nat → Int) × (Nat → Int) × Int) → Prop} {n : Int} (hg : mGood pb pl n) (hx : 0 ≤ x ∧ x < n) (hpc : 0 ≤ pc ∧ pc < 24)
    (hK : ∀ b', (∀ p : Int, 0 ≤ p → p < 60 → b' (pc * 60 + p).toNat = mnb (mB pb pl x p)) → (∀ j : Nat, (j : Int) < pc * 60 → b' j = by0 j) → Q (K b')) : Q (f_X0_takeLine_l14 K x pc pb pl zN 0 by0) := by
  have hn := hg.1
  refine mloop (L := fun n i s => f_X0_takeLine_l14 K x pc pb pl n i s) (Q := Q) (hi := 60) (P := fun i b' => 0 ≤ i ∧ (∀ p : Int, 0 ≤ p → p < i → b' (pc * 60 + p).toNat = mnb (mB pb pl x p)) ∧ ∀ j : Nat, (j : Int) < pc * 60 → b' j = by0 j) ?_ ?_ zN 0 by0 (by omega) (mzN (by omega)) ⟨by omega, fun p h1 h2 => by omega, fun j h => rfl⟩
  · rintro n i b hi ⟨h0, h1, h2⟩
    right
    have hr := mB_range hg hx h0
    rw [f_X0_takeLine_l14_s, m_byteC (by omega) (hg.2 x hx.1 hx.2).1 (by omega), mzb]
    simp (disch := omega) only [mlt, meq, f_X0_takeLine_j55]
    rw [if_pos hi, m_put_in ⟨by omega, by omega, by omega⟩, m_put_in ⟨by omega, by omega, by omega⟩, mzb, mzb]
    refine ⟨zu b (pc * 60 + i) (mnb (mB pb pl x i)), ?_, by omega, fun p p1 p2 => ?_, fun j hj => ?_⟩
    · unfold mnb
      by_cases h : mB pb pl x i = 124
      · rw [if_pos h, if_pos h]
      · rw [if_neg h, if_neg h]
    · by_cases h : p = i
      · subst h; exact mzu_same rfl
      · rw [mzu_other (by omega)]; exact h1 p p1 (by omega)
    · rw [mzu_other (by omega)]; exact h2 j hj
  · rintro n b ⟨h0, h1, h2⟩
    rw [f_X0_takeLine_l14_s]
    simp (disch := omega) only [mlt]
    rw [if_neg (by omega)]
    exact hK b h1 h2
theorem m_takeLine {pb pl : Nat → Int} {pc x n : Int} {by0 nol : Nat → Int} (hg : mGood pb pl n) (hx : 0 ≤ x ∧ x < n) (hpc : 0 ≤ pc ∧ pc < 24) :
    ∃ b', f_X0_takeLine by0 nol pc pb pl x = some (b', zu nol pc x, pc + 1) ∧ (∀ p : Int, 0 ≤ p → p < 60 → b' (pc * 60 + p).toNat = mnb (mB pb pl x p)) ∧ ∀ j : Nat, (j : Int) < pc * 60 → b' j = by0 j := by
  unfold f_X0_takeLine
  rw [m_put_in ⟨by omega, by omega, by omega⟩, mzb]
  exact m_takeLine_l (Q := fun r => ∃ b', r = some (b', zu nol pc x, pc + 1) ∧ (∀ p : Int, 0 ≤ p → p < 60 → b' (pc * 60 + p).toNat = mnb (mB pb pl x p)) ∧ ∀ j : Nat, (j : Int) < pc * 60 → b' j = by0 j) hg hx hpc (fun b' h1 h2 => ⟨b', rfl, h1, h2⟩)
/-- the lines that a block holds: which, and their bytes, bars as blanks -/
def mBk (B : Int → Int → Int) (l : List Int) (by_ nol : Nat → Int) (pc : Int) : Prop := pc = (l.length : Int) ∧ ∀ k : Nat, k < l.length → nol k = l.getD k 0 ∧ ∀ p : Int, 0 ≤ p → p < 60 → by_ ((k : Int) * 60 + p).toNat = mnb (B (l.getD k 0) p)
/-- the first and the last rule among the lines a .. x - 1 -/
def mRu (kd : Int → Int) (a x rules fr lr : Int) : Prop := 0 ≤ rules ∧ (rules = 0 → ∀ y : Int, a ≤ y → y < x → ¬ kd y = 1) ∧ (0 < rules → (a ≤ fr ∧ fr < x ∧ kd fr = 1 ∧ ∀ y : Int, a ≤ y → y < fr → ¬ kd y = 1) ∧ (a ≤ lr ∧ lr < x ∧ kd lr = 1 ∧ ∀ y : Int, lr < y → y < x → ¬ kd y = 1))
