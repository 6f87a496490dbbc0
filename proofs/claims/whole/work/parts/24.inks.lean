/-! heads and feet, inks, crossings of a block -/
def mFlx (f : Int) (p : Prop) : Prop := (f = 0 ∧ ¬ p) ∨ (f = 1 ∧ p)
theorem mFlx_b {f : Int} {p : Prop} (h : mFlx f p) : f = 0 ∨ f = 1 := by
  rcases h with ⟨h, -⟩ | ⟨h, -⟩
  · exact Or.inl h
  · exact Or.inr h
theorem mFlx_iff {f : Int} {p q : Prop} (h : mFlx f p) (e : p ↔ q) : mFlx f q := by
  rcases h with ⟨h, h1⟩ | ⟨h, h1⟩
  · exact Or.inl ⟨h, fun q => h1 (e.mpr q)⟩
  · exact Or.inr ⟨h, e.mp h1⟩
/-- some line of the first n of a list with a property -/
def mEx (l : List Int) (n : Int) (p : Int → Prop) : Prop := ∃ k : Int, 0 ≤ k ∧ k < n ∧ p (l.getD k.toNat 0)
theorem mEx_0 (l : List Int) (p : Int → Prop) : ¬ mEx l 0 p := fun ⟨k, h1, h2, _⟩ => by omega
theorem mEx_t {l : List Int} {n : Int} {p : Int → Prop} (hn : 0 ≤ n) (h : p (l.getD n.toNat 0)) : mEx l (n + 1) p := ⟨n, hn, by omega, h⟩
theorem mEx_s {l : List Int} {n : Int} {p : Int → Prop} (h : ¬ p (l.getD n.toNat 0)) : mEx l (n + 1) p ↔ mEx l n p := by
  constructor
  · rintro ⟨k, h1, h2, h3⟩
    refine ⟨k, h1, ?_, h3⟩
    by_cases e : k = n
    · subst e; exact absurd h3 h
    · omega
  · rintro ⟨k, h1, h2, h3⟩; exact ⟨k, h1, by omega, h3⟩
theorem mEx_w {l : List Int} {n : Int} {p : Int → Prop} (h : mEx l n p) : mEx l (n + 1) p := by
  obtain ⟨k, h1, h2, h3⟩ := h; exact ⟨k, h1, by omega, h3⟩
theorem mEx_all {l : List Int} {p : Int → Prop} : mEx l (l.length : Int) p ↔ ∃ x ∈ l, p x := by
  constructor
  · rintro ⟨k, h1, h2, h3⟩; exact ⟨_, mgetD_mem (by omega), h3⟩
  · rintro ⟨x, hx, h⟩
    obtain ⟨k, hk, e⟩ := List.getElem_of_mem hx
    refine ⟨k, by omega, by omega, ?_⟩
    rw [show ((k : Int).toNat) = k by omega, List.getD_eq_getElem?_getD, List.getElem?_eq_getElem hk]
    exact e ▸ h
theorem mEx_step {l : List Int} {n f : Int} {p : Int → Prop} (hn : 0 ≤ n) (hf : mFlx f (mEx l n p)) : (p (l.getD n.toNat 0) → mFlx 1 (mEx l (n + 1) p)) ∧ (¬ p (l.getD n.toNat 0) → mFlx f (mEx l (n + 1) p)) ∧ (f = 1 → mFlx 1 (mEx l (n + 1) p)) := by
  refine ⟨fun h => Or.inr ⟨rfl, mEx_t hn h⟩, fun h => mFlx_iff hf (mEx_s h).symm, fun h => ?_⟩
  rcases hf with ⟨h1, -⟩ | ⟨-, h2⟩
  · omega
  · exact Or.inr ⟨rfl, mEx_w h2⟩
theorem m_seeParts_l {B : Int → Int → Int} {l : List Int} {by_ nol : Nat → Int} {pc fr lr : Int} {K : Int → Int → Option (Int × Int)} {Q : Option (Int × Int) → Prop} (hbk : mBk B l by_ nol pc) (hl : l.length ≤ 24) (hx : ∀ x ∈ l, 0 ≤ x ∧ x < 24) (hf : 0 ≤ fr ∧ fr < 24) (hr : 0 ≤ lr ∧ lr < 24)
    (hK : ∀ hd ft, mFlx hd (∃ x ∈ l, fr < x) → mFlx ft (∃ x ∈ l, fr < x ∧ x < lr) → Q (K hd ft)) : Q (f_X0_seeParts_l20 K nol pc fr lr zN 0 0 0) := by
  have hpc := hbk.1
  refine mloop (L := fun n i (s : Int × Int) => f_X0_seeParts_l20 K nol pc fr lr n i s.1 s.2) (Q := Q) (hi := pc) (P := fun i s => 0 ≤ i ∧ mFlx s.1 (mEx l i (fun x => fr < x)) ∧ mFlx s.2 (mEx l i (fun x => fr < x ∧ x < lr))) ?_ ?_ zN 0 (0, 0) (by omega) (mzN (by omega)) ⟨by omega, Or.inl ⟨rfl, mEx_0 _ _⟩, Or.inl ⟨rfl, mEx_0 _ _⟩⟩
  · rintro m i ⟨hd, ft⟩ hi ⟨h0, h1, h2⟩
    right
    try dsimp only at h1 h2 ⊢
    rw [f_X0_seeParts_l20_s, m_noOf hbk hl ⟨h0, hi⟩, mzb]
    have hm := hx _ (mgetD_mem (l := l) (k := i.toNat) (by omega))
    obtain ⟨a1, a2, a3⟩ := mEx_step h0 h1
    obtain ⟨b1, b2, b3⟩ := mEx_step h0 h2
    have c1 := mFlx_b h1
    have c2 := mFlx_b h2
    generalize l.getD i.toNat 0 = x at hm a1 a2 b1 b2
    simp (disch := omega) only [mlt, meq, f_X0_seeParts_j53, f_X0_seeParts_j58, f_X0_seeParts_j85, f_X0_seeParts_j89, f_X0_seeParts_j90]
    rw [if_pos hi]
    have key : ∀ h', mFlx h' (mEx l (i + 1) (fun x => fr < x)) → ∃ s' : Int × Int, zch h' (if ft = 0 then if fr < x then if x < lr then zch 1 (f_X0_seeParts_l20 K nol pc fr lr m (i + 1) h' 1) else zch 0 (f_X0_seeParts_l20 K nol pc fr lr m (i + 1) h' 0) else zch 0 (f_X0_seeParts_l20 K nol pc fr lr m (i + 1) h' 0) else zch 1 (f_X0_seeParts_l20 K nol pc fr lr m (i + 1) h' 1)) = f_X0_seeParts_l20 K nol pc fr lr m (i + 1) s'.1 s'.2 ∧ 0 ≤ i + 1 ∧ mFlx s'.1 (mEx l (i + 1) (fun x => fr < x)) ∧ mFlx s'.2 (mEx l (i + 1) (fun x => fr < x ∧ x < lr)) := by
      intro h' hh'
      rw [mch (mFlx_b hh')]
      by_cases e0 : ft = 0
      · rw [if_pos e0]
        by_cases e1 : fr < x
        · rw [if_pos e1]
          by_cases e2 : x < lr
          · rw [if_pos e2, mch (Or.inr rfl)]; exact ⟨(_, _), rfl, by omega, hh', b1 ⟨e1, e2⟩⟩
          · rw [if_neg e2, mch (Or.inl rfl)]; exact ⟨(_, _), rfl, by omega, hh', e0 ▸ b2 (fun q => e2 q.2)⟩
        · rw [if_neg e1, mch (Or.inl rfl)]; exact ⟨(_, _), rfl, by omega, hh', e0 ▸ b2 (fun q => e1 q.1)⟩
      · rw [if_neg e0, mch (Or.inr rfl)]; exact ⟨(_, _), rfl, by omega, hh', b3 (by omega)⟩
    by_cases e0 : hd = 0
    · rw [if_pos e0]
      by_cases e1 : fr < x
      · rw [if_pos e1]; exact key 1 (a1 e1)
      · rw [if_neg e1]; exact key 0 (e0 ▸ a2 e1)
    · rw [if_neg e0]; exact key 1 (a3 (by omega))
  · rintro m ⟨hd, ft⟩ ⟨h0, h1, h2⟩
    try dsimp only at h1 h2 ⊢
    rw [f_X0_seeParts_l20_s]
    simp (disch := omega) only [mlt]
    rw [if_neg (by omega)]
    rw [hpc] at h1 h2
    exact hK hd ft (mFlx_iff h1 mEx_all) (mFlx_iff h2 mEx_all)
theorem m_seeParts {B : Int → Int → Int} {l : List Int} {by_ nol : Nat → Int} {pc fr lr rules : Int} (hbk : mBk B l by_ nol pc) (hl : l.length ≤ 24) (hx : ∀ x ∈ l, 0 ≤ x ∧ x < 24) (hru : 0 ≤ rules ∧ rules ≤ 24) (hf : 0 < rules → (0 ≤ fr ∧ fr < 24) ∧ 0 ≤ lr ∧ lr < 24) :
    ∃ hd ft, f_X0_seeParts nol pc rules fr lr = some (hd, ft) ∧ mFlx hd (0 < rules ∧ ∃ x ∈ l, fr < x) ∧ mFlx ft (0 < rules ∧ ∃ x ∈ l, fr < x ∧ x < lr) := by
  unfold f_X0_seeParts
  simp (disch := omega) only [meq]
  by_cases h : rules = 0
  · rw [if_pos h]; exact ⟨0, 0, rfl, Or.inl ⟨rfl, fun q => by omega⟩, Or.inl ⟨rfl, fun q => by omega⟩⟩
  · rw [if_neg h]
    have hp : 0 < rules := by omega
    exact m_seeParts_l (Q := fun r => ∃ hd ft, r = some (hd, ft) ∧ mFlx hd (0 < rules ∧ ∃ x ∈ l, fr < x) ∧ mFlx ft (0 < rules ∧ ∃ x ∈ l, fr < x ∧ x < lr)) hbk hl hx (hf hp).1 (hf hp).2 (fun hd ft h1 h2 => ⟨hd, ft, rfl, mFlx_iff h1 ⟨fun q => ⟨hp, q⟩, fun q => q.2⟩, mFlx_iff h2 ⟨fun q => ⟨hp, q⟩, fun q => q.2⟩⟩)
theorem mTake_s {l : List Int} {i : Nat} (h : i < l.length) : l.take (i + 1) = l.take i ++ [l.getD i 0] := by
  rw [List.take_add_one, List.getD_eq_getElem?_getD, List.getElem?_eq_getElem h]; rfl
/-- good inks: the bytes of a block's lines are in range -/
def mRg (B : Int → Int → Int) (l : List Int) : Prop := ∀ x ∈ l, ∀ p : Int, 0 ≤ p → 32 ≤ B x p ∧ B x p ≤ 126
theorem m_seeInks_in {B : Int → Int → Int} {l : List Int} {by_ nol : Nat → Int} {pc v1 : Int} {K : Int → Int → Option (Int × (Nat → Int) × (Nat → Int))} {Q : Option (Int × (Nat → Int) × (Nat → Int)) → Prop} (hbk : mBk B l by_ nol pc) (hl : l.length ≤ 24) (hr : mRg B l) (hv : 0 ≤ v1 ∧ v1 < 60)
    (hK : ∀ v2 v3, v2 = mSum (fun x => mik B x v1) l → v3 = (if 0 < v1 then mSum (fun x => mik B x (v1 - 1) * mik B x v1) l else 0) → Q (K v2 v3)) : Q (f_X0_seeInks_l30 K v1 by_ pc zN 0 0 0) := by
  have hpc := hbk.1
  refine mloop (L := fun n i (s : Int × Int) => f_X0_seeInks_l30 K v1 by_ pc n s.1 s.2 i) (Q := Q) (hi := pc) (P := fun i s => 0 ≤ i ∧ s.1 = mSum (fun x => mik B x v1) (l.take i.toNat) ∧ s.2 = (if 0 < v1 then mSum (fun x => mik B x (v1 - 1) * mik B x v1) (l.take i.toNat) else 0)) ?_ ?_ zN 0 (0, 0) (by omega) (mzN (by omega)) ⟨by omega, rfl, by split <;> rfl⟩
  · rintro m i ⟨v2, v3⟩ hi ⟨h0, h1, h2⟩
    right
    try dsimp only at h1 h2 ⊢
    have hm := mgetD_mem (l := l) (k := i.toNat) (by omega)
    have e1 : (i + 1).toNat = i.toNat + 1 := by omega
    have t1 := mTake_s (l := l) (i := i.toNat) (by omega)
    rw [f_X0_seeInks_l30_s, m_hasInk hbk hl ⟨h0, hi⟩ hv (fun x hx => hr x hx v1 hv.1), mzb]
    have hb := mik_b B (l.getD i.toNat 0) v1
    simp (disch := omega) only [mlt, meq]
    rw [if_pos hi, e1, t1]
    simp only [mSum_one]
    rcases hb with hb | hb
    · rw [if_pos hb, hb]
      refine ⟨(v2, v3), rfl, ?_⟩
      try dsimp only
      refine ⟨by omega, by (try dsimp only); omega, ?_⟩
      (try dsimp only); rw [h2]; split <;> simp
    · rw [if_neg (by omega), hb]
      by_cases hp : 0 < v1
      · rw [if_pos hp, m_hasInk hbk hl ⟨h0, hi⟩ (by omega) (fun x hx => hr x hx (v1 - 1) (by omega)), mzb]
        have hb2 := mik_b B (l.getD i.toNat 0) (v1 - 1)
        simp (disch := omega) only [meq, f_X0_seeInks_j73, f_X0_seeInks_j74]
        rw [if_pos hp] at h2 ⊢
        rcases hb2 with hb2 | hb2
        · rw [if_pos hb2, hb2]; exact ⟨(v2 + 1, v3 + 0), rfl, by omega, by (try dsimp only); omega, by (try dsimp only); omega⟩
        · rw [if_neg (by omega), hb2]; exact ⟨(v2 + 1, v3 + 1), rfl, by omega, by (try dsimp only); omega, by (try dsimp only); omega⟩
      · rw [if_neg hp]
        rw [if_neg hp] at h2 ⊢
        refine ⟨(v2 + 1, v3 + 0), rfl, ?_⟩
        try dsimp only
        exact ⟨by omega, by (try dsimp only); omega, by (try dsimp only); omega⟩
  · rintro m ⟨v2, v3⟩ ⟨h0, h1, h2⟩
    try dsimp only at h1 h2 ⊢
    rw [f_X0_seeInks_l30_s]
    simp (disch := omega) only [mlt]
    rw [if_neg (by omega)]
    have e : l.take pc.toNat = l := List.take_of_length_le (by omega)
    rw [e] at h1 h2
    exact hK v2 v3 h1 h2
theorem mSum_pos {B : Int → Int → Int} {l : List Int} {p : Int} : 0 < mSum (fun x => mik B x p) l ↔ ∃ x ∈ l, mik B x p = 1 := by
  induction l with
  | nil => simp [mSum]
  | cons x l ih =>
    have h1 := mik_b B x p
    have h2 := mSum_bound (f := fun x => mik B x p) (l := l) (c := 1) (fun y _ => by have := mik_b B y p; omega)
    simp only [mSum, List.mem_cons, exists_eq_or_imp, ← ih]
    omega
/-- what is known of inks at the places from i on -/
def mIn (B : Int → Int → Int) (l : List Int) (i : Int) (w : Int) (cr nx : Nat → Int) : Prop :=
  ((w = 0 ∧ ∀ x ∈ l, ∀ p : Int, i ≤ p → p < 60 → mik B x p = 0) ∨ (i < w ∧ w ≤ 60 ∧ (∃ x ∈ l, mik B x (w - 1) = 1) ∧ ∀ x ∈ l, ∀ p : Int, w ≤ p → p < 60 → mik B x p = 0)) ∧
  (∀ p : Int, i ≤ p → p < 60 → 0 < p → cr p.toNat = mXC B l p) ∧
  (∀ p : Int, i ≤ p → p ≤ 60 → p ≤ nx p.toNat ∧ nx p.toNat ≤ 60 ∧ (nx p.toNat < 60 → ∃ x ∈ l, mik B x (nx p.toNat) = 1) ∧ ∀ q : Int, p ≤ q → q < nx p.toNat → ∀ x ∈ l, mik B x q = 0)
theorem m_seeInks_l {B : Int → Int → Int} {l : List Int} {by_ nol : Nat → Int} {pc : Int} {cr nx : Nat → Int} {K : Int → (Nat → Int) → (Nat → Int) → Option (Int × (Nat → Int) × (Nat → Int))} {Q : Option (Int × (Nat → Int) × (Nat → Int)) → Prop} (hbk : mBk B l by_ nol pc) (hl : l.length ≤ 24) (hr : mRg B l) (hnx : nx 60 = 60)
    (hK : ∀ w cr nx, mIn B l 0 w cr nx → Q (K w cr nx)) : Q (f_X0_seeInks_l19 K by_ pc zN 59 0 cr nx) := by
  refine mloopD (L := fun n i (s : Int × (Nat → Int) × (Nat → Int)) => f_X0_seeInks_l19 K by_ pc n i s.1 s.2.1 s.2.2) (Q := Q) (lo := 0) (P := fun i s => i ≤ 59 ∧ mIn B l (i + 1) s.1 s.2.1 s.2.2) ?_ ?_ zN 59 (0, cr, nx) (by omega) (mzN (by omega)) ⟨by omega, Or.inl ⟨rfl, fun x _ p p1 p2 => by omega⟩, fun p p1 p2 => by omega, fun p p1 p2 => ?_⟩
  · rintro m i ⟨w, cr, nx⟩ hi ⟨h59, h1, h2, h3⟩
    try dsimp only at h1 h2 h3 ⊢
    rw [f_X0_seeInks_l19_s]
    simp (disch := omega) only [mlt]
    rw [if_neg (by omega)]
    refine m_seeInks_in (Q := fun r => Q r ∨ ∃ s' : Int × (Nat → Int) × (Nat → Int), r = f_X0_seeInks_l19 K by_ pc m (i - 1) s'.1 s'.2.1 s'.2.2 ∧ i - 1 ≤ 59 ∧ mIn B l (i - 1 + 1) s'.1 s'.2.1 s'.2.2) hbk hl hr (by omega) (fun v2 v3 e2 e3 => ?_)
    right
    have hv2 : 0 ≤ v2 ∧ v2 ≤ 24 := by
      have := mSum_bound (f := fun x => mik B x i) (l := l) (c := 1) (fun y _ => by have := mik_b B y i; omega)
      rw [← e2] at this; omega
    have hink : 0 < v2 ↔ ∃ x ∈ l, mik B x i = 1 := by rw [e2]; exact mSum_pos
    have hw : -1 ≤ w ∧ w ≤ 60 := by
      rcases h1 with ⟨z, -⟩ | ⟨z1, z2, -, -⟩
      · omega
      · omega
    have hnx1 := h3 (i + 1) (by omega) (by omega)
    simp (disch := omega) only [mlt, meq, f_X0_seeInks_j100, f_X0_seeInks_j104, f_X0_seeInks_j130]
    have hno : ¬ 0 < v2 → ∀ x ∈ l, mik B x i = 0 := fun h x hx => by
      have := mik_b B x i
      rcases this with q | q
      · exact q
      · exact absurd (hink.mpr ⟨x, hx, q⟩) h
    have hcr : ∀ f : Nat → Int, (∀ p : Int, i + 1 ≤ p → p < 60 → 0 < p → f p.toNat = mXC B l p) → ∀ p : Int, i - 1 + 1 ≤ p → p < 60 → 0 < p → zu f i (6 * v3) p.toNat = mXC B l p := by
      intro f hf p p1 p2 p3
      by_cases hp : p = i
      · rw [mzu_same (by omega), hp, e3, if_pos (by omega)]; rfl
      · rw [mzu_other (by omega)]; exact hf p (by omega) p2 p3
    have hwid : ∀ w', (0 < v2 → w' = if w = 0 then i + 1 else w) → (¬ 0 < v2 → w' = w) → ((w' = 0 ∧ ∀ x ∈ l, ∀ p : Int, i - 1 + 1 ≤ p → p < 60 → mik B x p = 0) ∨ (i - 1 + 1 < w' ∧ w' ≤ 60 ∧ (∃ x ∈ l, mik B x (w' - 1) = 1) ∧ ∀ x ∈ l, ∀ p : Int, w' ≤ p → p < 60 → mik B x p = 0)) := by
      intro w' ha hb
      by_cases hv : 0 < v2
      · have ew := ha hv
        right
        rcases h1 with ⟨z, h1⟩ | ⟨z1, z2, z3, z4⟩
        · rw [if_pos z] at ew
          subst ew
          exact ⟨by omega, by omega, by rw [show i + 1 - 1 = i by omega]; exact hink.mp hv, h1⟩
        · rw [if_neg (by omega)] at ew
          subst ew
          exact ⟨by omega, z2, z3, z4⟩
      · have ew := hb hv
        subst ew
        rcases h1 with ⟨z, h1⟩ | ⟨z1, z2, z3, z4⟩
        · refine Or.inl ⟨z, fun x hx p p1 p2 => ?_⟩
          by_cases hp : p = i
          · subst hp; exact hno hv x hx
          · exact h1 x hx p (by omega) p2
        · exact Or.inr ⟨by omega, z2, z3, z4⟩
    have hnn : ∀ y, (0 < v2 → y = i) → (¬ 0 < v2 → y = nx (i + 1).toNat) → ∀ p : Int, i - 1 + 1 ≤ p → p ≤ 60 → p ≤ zu nx i y p.toNat ∧ zu nx i y p.toNat ≤ 60 ∧ (zu nx i y p.toNat < 60 → ∃ x ∈ l, mik B x (zu nx i y p.toNat) = 1) ∧ ∀ q : Int, p ≤ q → q < zu nx i y p.toNat → ∀ x ∈ l, mik B x q = 0 := by
      intro y ha hb p p1 p2
      by_cases hp : p = i
      · rw [mzu_same (by omega)]
        by_cases hv : 0 < v2
        · rw [ha hv]
          exact ⟨by omega, by omega, fun _ => hink.mp hv, fun q q1 q2 => by omega⟩
        · rw [hb hv]
          refine ⟨by omega, hnx1.2.1, hnx1.2.2.1, fun q q1 q2 x hx => ?_⟩
          by_cases hq : q = i
          · subst hq; exact hno hv x hx
          · exact hnx1.2.2.2 q (by omega) q2 x hx
      · rw [mzu_other (by omega)]; exact h3 p (by omega) p2
    by_cases hv : 0 < v2
    · rw [if_pos hv]
      by_cases hz : w = 0
      · rw [if_pos hz, if_pos hv, m_put_in ⟨by omega, by omega, by omega⟩, mzb, m_put_in ⟨by omega, by omega, by omega⟩, mzb]
        refine ⟨(i + 1, zu cr i (6 * v3), zu nx i i), rfl, ?_⟩
        try dsimp only
        exact ⟨by omega, hwid _ (fun _ => by rw [if_pos hz]) (fun h => absurd hv h), hcr cr h2, hnn i (fun _ => rfl) (fun h => absurd hv h)⟩
      · rw [if_neg hz, if_pos hv, m_put_in ⟨by omega, by omega, by omega⟩, mzb, m_put_in ⟨by omega, by omega, by omega⟩, mzb]
        refine ⟨(w, zu cr i (6 * v3), zu nx i i), rfl, ?_⟩
        try dsimp only
        exact ⟨by omega, hwid _ (fun _ => by rw [if_neg hz]) (fun h => absurd hv h), hcr cr h2, hnn i (fun _ => rfl) (fun h => absurd hv h)⟩
    · rw [if_neg hv, if_neg hv, m_pick_in ⟨by omega, by omega, by omega⟩, mzb, m_put_in ⟨by omega, by omega, by omega⟩, mzb, m_put_in ⟨by omega, by omega, by omega⟩, mzb]
      refine ⟨(w, zu cr i (6 * v3), zu nx i (nx (i + 1).toNat)), rfl, ?_⟩
      try dsimp only
      exact ⟨by omega, hwid _ (fun h => absurd h hv) (fun _ => rfl), hcr cr h2, hnn _ (fun h => absurd h hv) (fun _ => rfl)⟩
  · rintro m ⟨w, cr, nx⟩ ⟨h59, h1⟩
    try dsimp only at h1 ⊢
    rw [f_X0_seeInks_l19_s]
    simp (disch := omega) only [mlt]
    rw [if_pos (by omega)]
    exact hK w cr nx h1
  · have : p = 60 := by omega
    subst this
    try dsimp only
    rw [show (60 : Int).toNat = 60 from rfl, hnx]
    exact ⟨by omega, by omega, fun h => by omega, fun q q1 q2 => by omega⟩
theorem m_seeInks {B : Int → Int → Int} {l : List Int} {by_ nol : Nat → Int} {pc : Int} {cr nx : Nat → Int} (hbk : mBk B l by_ nol pc) (hl : l.length ≤ 24) (hr : mRg B l) : ∃ w cr' nx', f_X0_seeInks by_ pc cr nx = some (w, cr', nx') ∧ mIn B l 0 w cr' nx' := by
  unfold f_X0_seeInks
  rw [m_put_in ⟨by omega, by omega, by omega⟩, mzb]
  exact m_seeInks_l (Q := fun r => ∃ w cr' nx', r = some (w, cr', nx') ∧ mIn B l 0 w cr' nx') hbk hl hr (mzu_same rfl) (fun w cr nx h => ⟨w, cr, nx, rfl, h⟩)
theorem mIn_W {B : Int → Int → Int} {l : List Int} {w : Int} {cr nx : Nat → Int} (h : mIn B l 0 w cr nx) (hi : ∃ x ∈ l, ∃ p : Int, 0 ≤ p ∧ p < 60 ∧ mik B x p = 1) : mIsW B l w := by
  rcases h.1 with ⟨z, h1⟩ | ⟨z1, z2, z3, z4⟩
  · obtain ⟨x, hx, p, p1, p2, p3⟩ := hi
    have := h1 x hx p p1 p2
    omega
  · exact ⟨z1, z2, z3, z4⟩
theorem mIn_any {B : Int → Int → Int} {l : List Int} {w s e : Int} {cr nx : Nat → Int} (h : mIn B l 0 w cr nx) (hs : 0 ≤ s ∧ s < e ∧ e ≤ 60) : nx s.toNat < e ↔ mAny B l s e := by
  obtain ⟨a1, a2, a3, a4⟩ := h.2.2 s (by omega) (by omega)
  constructor
  · intro hlt
    obtain ⟨x, hx, h1⟩ := a3 (by omega)
    exact ⟨x, hx, _, a1, hlt, h1⟩
  · rintro ⟨x, hx, p, p1, p2, p3⟩
    refine Int.not_le.mp fun hle => ?_
    have := a4 p p1 (by omega) x hx
    omega
