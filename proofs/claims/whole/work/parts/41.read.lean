/-! one reading of a block: what both programs make of it -/
/-- a reading: columns, the best sum, the next one, cuts, cells, rows, joined lines, plain lines, rules, whether it fits -/
def mRdOk (cols : Nat) (best next : Int) (cuts : Nat → Int) (rows : Nat) (jl pl ru : Int) : Prop := mCts cuts cols ∧ rows ≤ 24 ∧ (0 ≤ jl ∧ jl ≤ 24) ∧ (0 ≤ pl ∧ pl ≤ 24) ∧ (0 ≤ ru ∧ ru ≤ 24) ∧ (0 ≤ best ∧ best ≤ 1000000) ∧ (0 ≤ next ∧ next ≤ 1000000)
/-- the class reads a block so -/
def mRdC (cols : Nat) (best next : Int) (cuts : Nat → Int) (T : Nat → List Int) (rows : Nat) (jl pl ru : Int) (ok : Bool) (f : Option (Int × (Nat → Int) × (Nat → Int) × Int × Int × Int × Int × Int × Int × Int × (Nat → Int) × (Nat → Int) × (Nat → Int) × (Nat → Int) × (Nat → Int) × (Nat → Int) × (Nat → Int) × Int × Int × Int × Int × Int × Int × (Nat → Int) × (Nat → Int) × Int × Int)) : Prop :=
  ∃ (r : Int) (b1 b2 : Nat → Int) (b3 b4 b5 b6 b7 b8 b9 : Int) (b10 b11 b12 s1 s2 s3 ct : Nat → Int) (jl' : Int) (tb tl : Nat → Int) (rows' : Int),
    f = some (r, b1, b2, b3, b4, b5, b6, b7, b8, b9, b10, b11, b12, s1, s2, s3, ct, (cols : Int), best, next, pl, ru, jl', tb, tl, (cols : Int), rows') ∧
    ((ok = true ∧ r = 1 ∧ (∀ j : Nat, j ≤ cols → ct j = cuts j) ∧ mTb T tb tl ∧ rows' = (rows : Int) ∧ jl' = jl) ∨ (ok = false ∧ r = 0))
/-- the reference reads it so -/
def mRdM (cols : Nat) (best next : Int) (cuts : Nat → Int) (T : Nat → List Int) (rows : Nat) (jl pl ru : Int) (ok : Bool) (ms mp pf : Nat → Int) (a b w : Int) : Prop :=
  ∀ ls0 ot0 col0 cut0 ct0 nl0 nc0 : Nat → Int, ∃ ls ot col cut cts tl tb r fl, f_X6_readBest ms mp a b w pf ls0 ot0 col0 cut0 ct0 = some (ls, ot, col, cut, best, next, (cols : Int), cts) ∧
    f_X6_readRows ms mp a b pf (cols : Int) cts nl0 nc0 = some (r, tl, tb, (rows : Int), pl, ru, jl, fl) ∧ (∀ j : Nat, j ≤ cols → cts j = cuts j) ∧ mTb T tb tl ∧ r = (if ok = true then 1 else 0)
theorem mRu_congr {k k' : Int → Int} {a e ru fr lr : Int} (h : ∀ y : Int, a ≤ y → y < e → k y = k' y) (hr : mRu k a e ru fr lr) : mRu k' a e ru fr lr := by
  obtain ⟨h1, h2, h3⟩ := hr
  refine ⟨h1, fun q y y1 y2 => by rw [← h y y1 y2]; exact h2 q y y1 y2, fun q => ?_⟩
  obtain ⟨⟨f1, f2, f3, f4⟩, ⟨l1, l2, l3, l4⟩⟩ := h3 q
  exact ⟨⟨f1, f2, by rw [← h fr f1 f2]; exact f3, fun y y1 y2 => by rw [← h y y1 (by omega)]; exact f4 y y1 y2⟩, ⟨l1, l2, by rw [← h lr l1 l2]; exact l3, fun y y1 y2 => by rw [← h y (by omega) y2]; exact l4 y y1 y2⟩⟩
theorem m_reading {cb cl mp ms pf : Nat → Int} {cc ml a b w' : Int} {by0 nol0 cr0 nx0 g0 ls1 sc1 fc1 ct1 tb1 tl1 : Nat → Int} {fr0 lr0 : Int} (hp : mPg cb cl cc mp ms ml) (hk : mIsBk (fun x => mkd (mB mp ms x) (ms x.toNat)) ml a b)
    (hm : mMk (fun x => mkd (mB mp ms x) (ms x.toNat)) a b pf) (hw' : mIsW (mB mp ms) (mLs (fun x => mkd (mB mp ms x) (ms x.toNat)) a (b + 1 - a).toNat) w') :
    ∃ cols best next cuts T rows jl pl ru ok, mRdOk cols best next cuts rows jl pl ru ∧ mTr1 T ∧ mRdC cols best next cuts T rows jl pl ru ok (f_X5_readCandidate cb cl by0 nol0 fr0 lr0 cr0 nx0 g0 ls1 sc1 fc1 ct1 tb1 tl1 a b) ∧ mRdM cols best next cuts T rows jl pl ru ok ms mp pf a b w' := by
  have hgM := mGood_M hp
  have hg := hp.2.1
  have hn := hg.1
  obtain ⟨ha, hk0, hk2⟩ := hk
  have ekd : ∀ x : Int, a ≤ x → x ≤ b → mkd (mB mp ms x) (ms x.toNat) = mkd (mB cb cl x) (cl x.toNat) := fun x h1 h2 => m_kind_same hp (by omega)
  have hk0' : ∀ x : Int, a ≤ x → x ≤ b → ¬ mkd (mB cb cl x) (cl x.toNat) = 0 := fun x h1 h2 => by rw [← ekd x h1 h2]; exact hk0 x h1 h2
  have hk2' : ∃ x : Int, a ≤ x ∧ x ≤ b ∧ mkd (mB cb cl x) (cl x.toNat) = 2 := by
    obtain ⟨x, h1, h2, h3⟩ := hk2
    exact ⟨x, h1, h2, by rw [← ekd x h1 h2]; exact h3⟩
  obtain ⟨by1, nol, pc, rules, fr, lr, hd, ft, w, cr, nx, g, es, hbk, hrules, hru, hhd, hft, hw, hsv⟩ := m_survey (by0 := by0) (nol0 := nol0) (cr0 := cr0) (nx0 := nx0) (g0 := g0) (fr0 := fr0) (lr0 := lr0) hg ha hk0' hk2'
  have els : mLs (fun x => mkd (mB mp ms x) (ms x.toNat)) a (b + 1 - a).toNat = mLs (fun x => mkd (mB cb cl x) (cl x.toNat)) a (b + 1 - a).toNat := mLs_congr fun y h1 h2 => ekd y h1 (by omega)
  have hcost := fun (s e : Int) (h : 0 ≤ s ∧ s < e ∧ e ≤ 60) => m_columnCost hgM ha hm h
  have hcutc := fun (c : Int) (h : 0 < c ∧ c < 60) => m_cutCost hgM ha hm h
  have hrows := fun (ct nl0 nc0 : Nat → Int) (cols : Nat) (hct : mCts ct cols) => m_rowsM (nl0 := nl0) (nc0 := nc0) rfl hgM ha hct hm hk0
  unfold mRowsQ at hrows
  rw [els] at hw' hcost hcutc hrows
  have hlen := mLs_len (fun x => mkd (mB cb cl x) (cl x.toNat)) a (b + 1 - a).toNat
  have hmem : ∀ x ∈ mLs (fun x => mkd (mB cb cl x) (cl x.toNat)) a (b + 1 - a).toNat, a ≤ x ∧ x ≤ b := fun x hx => by
    have := mLs_mem.mp hx
    omega
  have hrku : ∀ (ru fr' lr' : Int), mRu (fun x => mkd (mB mp ms x) (ms x.toNat)) a (b + 1) ru fr' lr' → mRu (fun x => mkd (mB cb cl x) (cl x.toNat)) a (b + 1) ru fr' lr' := by
    exact fun ru fr' lr' h => mRu_congr (fun y h1 h2 => ekd y h1 (by omega)) h
  generalize mLs (fun x => mkd (mB cb cl x) (cl x.toNat)) a (b + 1 - a).toNat = l at *
  have hpc := hbk.1
  have hl24 : l.length ≤ 24 := by omega
  have hcs := mCs_of hl24 hw
  have hsame : mSame (mB mp ms) (mB cb cl) l := fun x hx p hp0 => mPg_B hp (by have := hmem x hx; omega) hp0
  have hsame' : mSame (mB cb cl) (mB mp ms) l := fun x hx p hp0 => (hsame x hx p hp0).symm
  have hrg : mRg (mB cb cl) l := fun x hx p hp0 => mB_range hg (by have := hmem x hx; omega) hp0
  have hww : w' = w := mIsW_uniq (mIsW_congr hsame hw') hw
  subst hww
  have hw60 := hw.1
  have hw61 := hw.2.1
  obtain ⟨ls, sc, fc, cuts, eb, hcut⟩ := m_bestC (pc := pc) (rules := rules) (ls0 := ls1) (sc0 := sc1) (fc0 := fc1) (ct := ct1) hsv hcs
  have hbm := fun (ls0 ot0 col0 cut0 ct0 : Nat → Int) => m_bestM (ls0 := ls0) (ot0 := ot0) (col0 := col0) (cut0 := cut0) (ct := ct0) (mp := mp) (ms := ms) (pf := pf) (n := ml) (a := a) (b := b) hcs (fun s e h1 h2 h3 => by rw [hcost s e ⟨h1, h2, by omega⟩, mCC_congr hsame h1]) (fun c h1 h2 => by rw [hcutc c ⟨h1, by omega⟩, mXC_congr hsame h1])
  have hpr : ∀ j : Nat, j ≤ 8 → mPr 900000 (mF (mCC (mB cb cl) l) (mXC (mB cb cl) l) w' j 0) := fun j hj => by
    obtain ⟨q1, q2, q3⟩ := mF_pr hcs j hj 0 (by omega) (by omega)
    exact ⟨by omega, by omega, q3⟩
  have h1 : (mF (mCC (mB cb cl) l) (mXC (mB cb cl) l) w' 1 0).1 < 1000000 := by
    have h2 := hcs.2.1 0 w' (by omega) (by omega) (by omega)
    rw [mF_1 hcs (by omega)]; dsimp only; omega
  have hch := mCh_r (g := fun k => mF (mCC (mB cb cl) l) (mXC (mB cb cl) l) w' k 0) 8 hpr
  have hsome := mCh_some (g := fun k => mF (mCC (mB cb cl) l) (mXC (mB cb cl) l) w' k 0) h1 7
  rw [show (7 : Nat) + 1 = 8 from rfl] at hsome
  generalize mCh (fun k => mF (mCC (mB cb cl) l) (mXC (mB cb cl) l) w' k 0) 8 = S at *
  obtain ⟨⟨c1, c2⟩, c3, c4, c5, c6⟩ := hch
  obtain ⟨c7, c8⟩ := c6 (by omega)
  have hcn : (S.1.toNat : Int) = S.1 := by omega
  have hct : mCts cuts S.1.toNat := mCut_cts hcut (by omega) hw61
  have hfb := mFlx_b hhd
  have hfb2 := mFlx_b hft
  have hrl := hru.2.2
  have hmr := mAll_rows (mB cb cl) cuts S.1.toNat (mHd hd fr) (mFt ft lr) l
  obtain ⟨r, b1, l1, rows', jl', ef, hfill⟩ := m_fill (tb0 := tb1) (tl0 := tl1) (fr := fr) (lr := lr) (hd := hd) (ft := ft) hbk hl24 hrg (fun x hx => by have := hmem x hx; omega) hct (by
      rcases hhd with ⟨q1, q2⟩ | ⟨q1, q2⟩
      · exact Or.inl q1
      · have := (hrl q2.1).1; exact Or.inr ⟨q1, by omega, by omega⟩) (by
      rcases hft with ⟨q1, q2⟩ | ⟨q1, q2⟩
      · exact Or.inl q1
      · have := (hrl q2.1).2; exact Or.inr ⟨q1, by omega, by omega⟩)
  rw [hcn] at ef
  refine ⟨S.1.toNat, S.2.1, S.2.2, cuts, (mAll (mB cb cl) cuts S.1.toNat (mHd hd fr) (mFt ft lr) l).1, (mAll (mB cb cl) cuts S.1.toNat (mHd hd fr) (mFt ft lr) l).2.1, (mAll (mB cb cl) cuts S.1.toNat (mHd hd fr) (mFt ft lr) l).2.2.1, pc, rules, decide ((mAll (mB cb cl) cuts S.1.toNat (mHd hd fr) (mFt ft lr) l).2.2.2 = 0), ?_, mTr1_all hrg hct, ?_, ?_⟩
  · exact ⟨hct, by omega, by omega, by omega, by omega, by omega, by omega⟩
  · refine ⟨r, by1, nol, pc, rules, fr, lr, hd, ft, w', cr, nx, g, ls, sc, fc, cuts, jl', b1, l1, rows', ?_, ?_⟩
    · unfold f_X5_readCandidate
      rw [es, mzb, eb, mzb]
      dsimp only
      rw [ef, mzb, hcn]
      rcases hfill with h | h
      · rw [h.1, mch (Or.inr rfl)]
      · rw [h.1, mch (Or.inl rfl)]
    · rcases hfill with ⟨h1, h2, h3, h4, h5⟩ | ⟨h1, h2⟩
      · exact Or.inl ⟨by rw [h2]; rfl, h1, fun j _ => rfl, h3, h4, h5⟩
      · exact Or.inr ⟨by rw [h2]; rfl, h1⟩
  · intro ls0 ot0 col0 cut0 ct0 nl0 nc0
    obtain ⟨ls', ot', col', cut', cts, e1, hcut'⟩ := hbm ls0 ot0 col0 cut0 ct0
    have hceq := mCut_uniq hcut hcut'
    have hct' : mCts cts S.1.toNat := mCut_cts hcut' (by omega) hw61
    obtain ⟨fr', lr', hd', ft', tb', tl', g1, g2, g3, g4, g5, g6, e2⟩ := hrows cts nl0 nc0 S.1.toNat hct'
    have g3' := hrku _ _ _ g3
    have hrr : b + 1 - a - (l.length : Int) = rules := by omega
    rw [hrr] at g3' g4 g5 e2
    have hiff : ∀ x ∈ l, (mHd hd' fr' x ↔ mHd hd fr x) ∧ (mFt ft' lr' x ↔ mFt ft lr x) := by
      intro x hx
      by_cases q : 0 < rules
      · obtain ⟨u1, u2⟩ := mRu_uniq hru g3' q
        subst u1 u2
        have u3 := mFlx_uniq hhd g4 Iff.rfl
        have u4 := mFlx_uniq hft g5 Iff.rfl
        subst u3 u4
        exact ⟨Iff.rfl, Iff.rfl⟩
      · have v1 : hd = 0 := by rcases hhd with v | v; exact v.1; exact absurd v.2.1 q
        have v2 : ft = 0 := by rcases hft with v | v; exact v.1; exact absurd v.2.1 q
        have v3 : hd' = 0 := by rcases g4 with v | v; exact v.1; exact absurd v.2.1 q
        have v4 : ft' = 0 := by rcases g5 with v | v; exact v.1; exact absurd v.2.1 q
        unfold mHd mFt
        rw [v1, v2, v3, v4]
        exact ⟨⟨fun h => absurd h.1 (by decide), fun h => absurd h.1 (by decide)⟩, ⟨fun h => absurd h.1 (by decide), fun h => absurd h.1 (by decide)⟩⟩
    have hall := mAll_congr l hsame hct' (fun j hj => (hceq j hj).symm) hiff
    rw [hall] at g6 e2
    rw [hcn] at e2 ⊢
    refine ⟨ls', ot', col', cut', cts, tl', tb', _, _, e1, by rw [e2, hpc], fun j hj => (hceq j hj).symm, g6, ?_⟩
    by_cases q : (mAll (mB cb cl) cuts S.1.toNat (mHd hd fr) (mFt ft lr) l).2.2.2 = 0
    · rw [if_pos q, if_pos (decide_eq_true q)]
    · rw [if_neg q, if_neg (by rw [decide_eq_true_eq]; exact q)]
