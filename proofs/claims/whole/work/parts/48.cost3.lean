/-! the call that tells a cost: both programs answer alike -/
theorem p_cost {pb pl mp ms by0 nol0 cr0 nx0 g0 p0 : Nat → Int} {pc ml v1 v2 v3 v4 x3 x4 x5 x6 x7 x8 x9 f0 l0 w0 : Int} (h : mPg pb pl pc mp ms ml) (h1 : mW v1) (h2 : mW v2) (h3 : mW v3) (h4 : mW v4) :
    ∃ r b1 b2 b3 b4 b5 b6 b7 b8 b9 b10 b11 b12 m1 m2 m3 m4, f_X5_cost pb pl pc by0 nol0 x3 x4 x5 x6 x7 x8 x9 cr0 nx0 g0 v1 v2 v3 v4 = some (r, b1, b2, b3, b4, b5, b6, b7, b8, b9, b10, b11, b12) ∧ f_X6_cost ml ms mp f0 l0 w0 p0 v1 v2 v3 v4 = some (r, m1, m2, m3, m4) ∧ mW r := by
  have hgM := mGood_M h
  have hg := h.2.1
  have hn := hg.1
  have hc := h.1
  have k1 := h1
  have k2 := h2
  unfold mW at k1 k2
  subst hc
  have hiff : mIsBk (fun x => mkd (mB pb pl x) (pl x.toNat)) pc v1 v2 ↔ mIsBk (fun x => mkd (mB mp ms x) (ms x.toNat)) pc v1 v2 := by
    have e : ∀ x : Int, 0 ≤ x → x < pc → mkd (mB mp ms x) (ms x.toNat) = mkd (mB pb pl x) (pl x.toNat) := fun x x0 x1 => m_kind_same h ⟨x0, x1⟩
    constructor
    · rintro ⟨q1, q2, x, x0, x1, x2⟩
      exact ⟨q1, fun y y0 y1 => by dsimp only; rw [e y (by omega) (by omega)]; exact q2 y y0 y1, x, x0, x1, by dsimp only; rw [e x (by omega) (by omega)]; exact x2⟩
    · rintro ⟨q1, q2, x, x0, x1, x2⟩
      exact ⟨q1, fun y y0 y1 => by dsimp only; rw [← e y (by omega) (by omega)]; exact q2 y y0 y1, x, x0, x1, by dsimp only; rw [← e x (by omega) (by omega)]; exact x2⟩
  obtain ⟨bv, eb, fb⟩ := m_isBlock hg k1 k2
  unfold f_X5_cost f_X6_cost
  rw [eb, mzb]
  rcases m_look (f0 := f0) (l0 := l0) (w0 := w0) (p0 := p0) hgM k1 k2 with ⟨q, el⟩ | ⟨q, w', pf, el, hw', hm⟩
  · have : bv = 0 := by
      rcases fb with fb | fb
      · exact fb.1
      · exact absurd (hiff.mp fb.2) q
    subst this
    rw [el, mzb]
    exact ⟨-1, _, _, _, _, _, _, _, _, _, _, _, _, _, _, _, _, rfl, rfl, by unfold mW; omega⟩
  · have hq := hiff.mpr q
    have : bv = 1 := by
      rcases fb with fb | fb
      · exact absurd hq fb.2
      · exact fb.1
    subst this
    obtain ⟨ha, hk0, hk2⟩ := hq
    obtain ⟨by1, nol, pcn, rules, fr, lr, hd, ft, w, cr, nx, g, es, hbk, hrules, hru, hhd, hft, hw, hsv⟩ := m_survey (by0 := by0) (nol0 := nol0) (cr0 := cr0) (nx0 := nx0) (g0 := g0) (fr0 := x5) (lr0 := x6) hg ha hk0 hk2
    have els : mLs (fun x => mkd (mB mp ms x) (ms x.toNat)) v1 (v2 + 1 - v1).toNat = mLs (fun x => mkd (mB pb pl x) (pl x.toNat)) v1 (v2 + 1 - v1).toNat := mLs_congr fun y y1 y2 => m_kind_same h (by omega)
    have hcost := fun (s e : Int) (hse : 0 ≤ s ∧ s < e ∧ e ≤ 60) => m_columnCost hgM ha hm hse
    have hcutc := fun (c : Int) (hc : 0 < c ∧ c < 60) => m_cutCost hgM ha hm hc
    rw [els] at hw' hcost hcutc
    have hlen := mLs_len (fun x => mkd (mB pb pl x) (pl x.toNat)) v1 (v2 + 1 - v1).toNat
    have hmem : ∀ x ∈ mLs (fun x => mkd (mB pb pl x) (pl x.toNat)) v1 (v2 + 1 - v1).toNat, v1 ≤ x ∧ x ≤ v2 := fun x hx => by
      have := mLs_mem.mp hx
      omega
    generalize mLs (fun x => mkd (mB pb pl x) (pl x.toNat)) v1 (v2 + 1 - v1).toNat = l at *
    have hpc := hbk.1
    have hl24 : l.length ≤ 24 := by omega
    have hcs := mCs_of hl24 hw
    have hsame : mSame (mB mp ms) (mB pb pl) l := fun x hx p hp0 => mPg_B h (by have := hmem x hx; omega) hp0
    have hww : w' = w := mIsW_uniq (mIsW_congr hsame hw') hw
    subst hww
    have hw60 := hw.1
    have hw61 := hw.2.1
    obtain ⟨c1, c2⟩ := m_costC hsv hcs h3 h4 63 zN 0 0 0 (by rw [zN_s]; omega) (by omega) (by omega) (by omega) (by omega)
    have c3 := m_costM (ms := ms) (mp := mp) (pf := pf) (a := v1) (b := v2) hcs (fun s e q1 q2 q3 => by rw [hcost s e ⟨q1, q2, by omega⟩, mCC_congr hsame q1]) (fun c q1 q2 => by rw [hcutc c ⟨q1, by omega⟩, mXC_congr hsame q1]) h3 h4 63 zN 0 0 0 (by rw [zN_s]; omega) (by omega) (by omega) (by omega) (by omega)
    rw [show (64 : Int) - ((63 : Nat) : Int) = 1 by omega] at c1 c3
    rw [show (0 : Int) + 1 = 1 by omega] at c1
    rw [es, el, mzb, mzb]
    unfold f_X5_costOfReading
    dsimp only
    rw [c1, c3, mzb]
    exact ⟨_, _, _, _, _, _, _, _, _, _, _, _, _, _, _, _, _, rfl, rfl, by unfold mW; omega⟩
