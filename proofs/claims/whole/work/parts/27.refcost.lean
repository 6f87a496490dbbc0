/-! what cuts and columns cost, as the reference reckons it -/
theorem m_cutCost {mp ms pf : Nat → Int} {n a b c : Int} (hg : mGood mp ms n) (ha : 0 ≤ a ∧ a ≤ b ∧ b < n) (hm : mMk (fun x => mkd (mB mp ms x) (ms x.toNat)) a b pf) (hc : 0 < c ∧ c < 60) : f_X6_cutCost ms mp a b pf c = some (mXC (mB mp ms) (mLs (fun x => mkd (mB mp ms x) (ms x.toNat)) a (b + 1 - a).toNat) c) := by
  have hn := hg.1
  generalize hkd : (fun x => mkd (mB mp ms x) (ms x.toNat)) = kd at hm
  unfold f_X6_cutCost
  refine mloop (L := fun m i s => f_X6_cutCost_l7 (fun v => some v) c ms mp b pf m s i) (Q := fun r => r = some (mXC (mB mp ms) (mLs kd a (b + 1 - a).toNat) c)) (hi := b + 1) (P := fun i s => a ≤ i ∧ s = mXC (mB mp ms) (mLs kd a (i - a).toNat) c) ?_ ?_ zN a 0 (by omega) (mzN (by omega)) ⟨by omega, ?_⟩
  · rintro m i v hi ⟨h0, h1⟩
    right
    have ei : a + (((i - a).toNat : Nat) : Int) = i := by omega
    have en : (i + 1 - a).toNat = (i - a).toNat + 1 := by omega
    rw [f_X6_cutCost_l7_s, mrd (by omega), hm i h0 (by omega), m_blankM2 hg (by omega) (by omega), m_blankM2 hg (by omega) (by omega)]
    have b1 := mik_b (mB mp ms) i (c - 1)
    have b2 := mik_b (mB mp ms) i c
    simp only [mzb, f_X6_cutCost_j50, f_X6_cutCost_j51]
    by_cases k2 : kd i = 2
    · have el : mLs kd a (i + 1 - a).toNat = mLs kd a (i - a).toNat ++ [i] := by rw [en, mLs_2 (by rw [ei]; exact k2), ei]
      have hx : mXC (mB mp ms) (mLs kd a (i + 1 - a).toNat) c = v + 6 * (mik (mB mp ms) i (c - 1) * mik (mB mp ms) i c) := by
        rw [h1, el]; unfold mXC; rw [mSum_one]; omega
      simp only [if_pos k2]
      simp (disch := omega) only [mlt, meq]
      rw [if_neg (by omega), if_neg (show ¬ (1 : Int) = 0 by decide)]
      rcases b1 with b1 | b1 <;> rcases b2 with b2 | b2 <;> rw [b1, b2] at hx <;> rw [b1, b2] <;> simp only [Int.sub_self, Int.sub_zero, ↓reduceIte, Int.reduceEq] <;> exact ⟨_, rfl, by omega, by omega⟩
    · have el : mLs kd a (i + 1 - a).toNat = mLs kd a (i - a).toNat := by rw [en, mLs_n (by rw [ei]; exact k2)]
      simp only [if_neg k2]
      simp (disch := omega) only [mlt, meq]
      rw [if_neg (by omega), if_pos trivial]
      exact ⟨_, rfl, by omega, by rw [el]; omega⟩
  · rintro m v ⟨h0, h1⟩
    rw [f_X6_cutCost_l7_s]
    simp (disch := omega) only [mlt]
    rw [if_pos (by omega), h1]
  · rw [show (a - a).toNat = 0 by omega]; rfl
/-- inks of one line among the places s to i - 1 -/
def mAl (u : Int → Int) (s i : Int) : Prop := ∃ p : Int, s ≤ p ∧ p < i ∧ u p = 1
theorem m_columnCost_in {mp ms pf : Nat → Int} {n x s e c0 : Int} {any0 : Int} {p0 : Prop} {K : Int → Int → Option Int} {Q : Option Int → Prop} (hg : mGood mp ms n) (hx : 0 ≤ x ∧ x < n) (hpf : pf x.toNat = 1) (hs : 0 ≤ s ∧ s < e ∧ e ≤ 60) (hc0 : 0 ≤ c0 ∧ c0 ≤ 100000) (h0 : mFlx any0 p0)
    (hK : ∀ any, mFlx any (p0 ∨ mAl (mik (mB mp ms) x) s e) → Q (K (c0 + 3 * mgc (mik (mB mp ms) x) s e.toNat) any)) : Q (f_X6_columnCost_l26 K e x ms mp pf zN c0 any0 (-1) s) := by
  have hn := hg.1
  generalize hu : mik (mB mp ms) x = u at hK
  have hub : ∀ p, u p = 0 ∨ u p = 1 := fun p => by rw [← hu]; exact mik_b _ x p
  refine mloop (L := fun m i (t : Int × Int × Int) => f_X6_columnCost_l26 K e x ms mp pf m t.1 t.2.1 t.2.2 i) (Q := Q) (hi := e) (P := fun i t => s ≤ i ∧ t.1 = c0 + 3 * mgc u s i.toNat ∧ mFlx t.2.1 (p0 ∨ mAl u s i) ∧ t.2.2 = (if s ≤ mpv u i.toNat then i - mpv u i.toNat - 1 else -1)) ?_ ?_ zN s (c0, any0, -1) (by omega) (mzN (by omega)) ⟨by omega, ?_, ?_, ?_⟩
  · rintro m i ⟨c, any, bl⟩ hi ⟨hi0, h1, h2, h3⟩
    right
    try dsimp only at h1 h2 h3 ⊢
    have hpl := mpv_lt u i.toNat
    have hgp := mgc_pos u s i.toNat
    have e1 : (i + 1).toNat = i.toNat + 1 := by omega
    have ei : ((i.toNat : Nat) : Int) = i := by omega
    have hpv : mpv u (i + 1).toNat = if u i = 1 then i else mpv u i.toNat := by
      rw [e1]; show (if u ((i.toNat : Nat) : Int) = 1 then ((i.toNat : Nat) : Int) else mpv u i.toNat) = _; rw [ei]
    have hgc : mgc u s (i + 1).toNat = mgc u s i.toNat + (if u i = 1 ∧ s ≤ mpv u i.toNat ∧ 2 < i - mpv u i.toNat then 1 else 0) := by
      rw [e1]; show mgc u s i.toNat + (if u ((i.toNat : Nat) : Int) = 1 ∧ s ≤ mpv u i.toNat ∧ 2 < ((i.toNat : Nat) : Int) - mpv u i.toNat then (1 : Int) else 0) = _; rw [ei]
    have hbl : -1 ≤ bl ∧ bl ≤ 60 := by rw [h3]; split <;> omega
    rw [f_X6_columnCost_l26_s, mrd (by omega), hpf, m_blankM2 hg hx (by omega), hu]
    have hb := hub i
    simp (disch := omega) only [mlt, meq, mzb, f_X6_columnCost_j65, f_X6_columnCost_j83]
    rw [if_pos hi, if_neg (show ¬ (1 : Int) = 0 by decide)]
    rcases hb with hb | hb
    · rw [if_neg (by omega)]
      have hg1 : mgc u s (i + 1).toNat = mgc u s i.toNat := by rw [hgc, if_neg (by omega)]; omega
      have hp1 : mpv u (i + 1).toNat = mpv u i.toNat := by rw [hpv, if_neg (by omega)]
      have hal : mFlx any (p0 ∨ mAl u s (i + 1)) := mFlx_iff h2 ⟨fun q => q.imp id fun ⟨p, p1, p2, p3⟩ => ⟨p, p1, by omega, p3⟩, fun q => q.imp id fun ⟨p, p1, p2, p3⟩ => ⟨p, p1, by
        by_cases hp : p = i
        · subst hp; omega
        · omega, p3⟩⟩
      by_cases hz : bl < 0
      · rw [if_pos hz]
        refine ⟨(c, any, bl + 0), rfl, ?_⟩
        try dsimp only
        refine ⟨by omega, by (try dsimp only); rw [hg1]; exact h1, hal, ?_⟩
        try dsimp only
        rw [hp1]
        by_cases hsp : s ≤ mpv u i.toNat
        · rw [if_pos hsp] at h3; omega
        · rw [if_neg hsp] at h3 ⊢; omega
      · rw [if_neg hz]
        refine ⟨(c, any, bl + 1), rfl, ?_⟩
        try dsimp only
        refine ⟨by omega, by (try dsimp only); rw [hg1]; exact h1, hal, ?_⟩
        try dsimp only
        rw [hp1]
        by_cases hsp : s ≤ mpv u i.toNat
        · rw [if_pos hsp] at h3 ⊢; omega
        · rw [if_neg hsp] at h3; omega
    · rw [if_pos (by omega)]
      have hp1 : mpv u (i + 1).toNat = i := by rw [hpv, if_pos hb]
      have hal : mFlx 1 (p0 ∨ mAl u s (i + 1)) := Or.inr ⟨rfl, Or.inr ⟨i, hi0, by omega, hb⟩⟩
      have hlast : (0 : Int) = (if s ≤ mpv u (i + 1).toNat then (i + 1) - mpv u (i + 1).toNat - 1 else -1) := by rw [hp1, if_pos hi0]; omega
      by_cases hz : 1 < bl
      · rw [if_pos hz]
        refine ⟨(c + 3, 1, 0), rfl, ?_⟩
        try dsimp only
        refine ⟨by omega, ?_, hal, hlast⟩
        try dsimp only
        have hcond : u i = 1 ∧ s ≤ mpv u i.toNat ∧ 2 < i - mpv u i.toNat := by
          by_cases hsp : s ≤ mpv u i.toNat
          · rw [if_pos hsp] at h3; exact ⟨hb, hsp, by omega⟩
          · rw [if_neg hsp] at h3; omega
        rw [hgc, if_pos hcond]
        omega
      · rw [if_neg hz]
        refine ⟨(c + 0, 1, 0), rfl, ?_⟩
        try dsimp only
        refine ⟨by omega, ?_, hal, hlast⟩
        try dsimp only
        have hcond : ¬ (u i = 1 ∧ s ≤ mpv u i.toNat ∧ 2 < i - mpv u i.toNat) := by
          rintro ⟨-, q1, q2⟩
          rw [if_pos q1] at h3
          omega
        rw [hgc, if_neg hcond]
        omega
  · rintro m ⟨c, any, bl⟩ ⟨hi0, h1, h2, h3⟩
    try dsimp only at h1 h2 h3 ⊢
    rw [f_X6_columnCost_l26_s]
    simp (disch := omega) only [mlt]
    rw [if_neg (by omega), h1]
    exact hK any h2
  · (try dsimp only); rw [mgc_0 u s _ (by omega)]; omega
  · (try dsimp only); exact mFlx_iff h0 ⟨Or.inl, fun q => q.elim id fun ⟨p, p1, p2, p3⟩ => by omega⟩
  · try dsimp only
    have := mpv_lt u s.toNat
    rw [if_neg (by omega)]
theorem m_columnCost {mp ms pf : Nat → Int} {n a b s e : Int} (hg : mGood mp ms n) (ha : 0 ≤ a ∧ a ≤ b ∧ b < n) (hm : mMk (fun x => mkd (mB mp ms x) (ms x.toNat)) a b pf) (hs : 0 ≤ s ∧ s < e ∧ e ≤ 60) : f_X6_columnCost ms mp a b pf s e = some (mCC (mB mp ms) (mLs (fun x => mkd (mB mp ms x) (ms x.toNat)) a (b + 1 - a).toNat) s e) := by
  have hn := hg.1
  generalize hkd : (fun x => mkd (mB mp ms x) (ms x.toNat)) = kd at hm
  unfold f_X6_columnCost
  refine mloop (L := fun m i (t : Int × Int) => f_X6_columnCost_l11 (fun v3 v4 => if zI v4 = zI 0 then some (v3 + 20) else some v3) s e ms mp b pf m t.1 t.2 i) (Q := fun r => r = some (mCC (mB mp ms) (mLs kd a (b + 1 - a).toNat) s e)) (hi := b + 1) (P := fun i t => a ≤ i ∧ t.1 = 2 + 3 * mSum (fun x => mgc (mik (mB mp ms) x) s e.toNat) (mLs kd a (i - a).toNat) ∧ mFlx t.2 (mAny (mB mp ms) (mLs kd a (i - a).toNat) s e)) ?_ ?_ zN a (2, 0) (by omega) (mzN (by omega)) ⟨by omega, ?_, ?_⟩
  · rintro m i ⟨c, any⟩ hi ⟨h0, h1, h2⟩
    try dsimp only at h1 h2 ⊢
    have ei : a + (((i - a).toNat : Nat) : Int) = i := by omega
    have en : (i + 1 - a).toNat = (i - a).toNat + 1 := by omega
    have hlen := mLs_len kd a (i - a).toNat
    have hsb := mSum_bound (f := fun x => mgc (mik (mB mp ms) x) s e.toNat) (l := mLs kd a (i - a).toNat) (c := 60) (fun x _ => by have := mgc_pos (mik (mB mp ms) x) s e.toNat; omega)
    have hpf := hm i h0 (by omega)
    rw [f_X6_columnCost_l11_s]
    simp (disch := omega) only [mlt]
    rw [if_neg (by omega)]
    by_cases k2 : kd i = 2
    · have el : mLs kd a (i + 1 - a).toNat = mLs kd a (i - a).toNat ++ [i] := by rw [en, mLs_2 (by rw [ei]; exact k2), ei]
      rw [if_pos k2] at hpf
      refine m_columnCost_in (Q := fun r => r = some (mCC (mB mp ms) (mLs kd a (b + 1 - a).toNat) s e) ∨ ∃ t : Int × Int, r = f_X6_columnCost_l11 (fun v3 v4 => if zI v4 = zI 0 then some (v3 + 20) else some v3) s e ms mp b pf m t.1 t.2 (i + 1) ∧ a ≤ i + 1 ∧ t.1 = 2 + 3 * mSum (fun x => mgc (mik (mB mp ms) x) s e.toNat) (mLs kd a (i + 1 - a).toNat) ∧ mFlx t.2 (mAny (mB mp ms) (mLs kd a (i + 1 - a).toNat) s e)) hg (by omega) hpf hs (by omega) h2 (fun any' h3 => Or.inr ⟨(_, any'), rfl, by omega, ?_, mFlx_iff h3 ?_⟩)
      · try dsimp only
        rw [el, mSum_one]
        omega
      · rw [el]
        constructor
        · rintro (⟨y, hy, p, q⟩ | ⟨p, q⟩)
          · exact ⟨y, List.mem_append_left _ hy, p, q⟩
          · exact ⟨i, List.mem_append_right _ (List.mem_singleton.mpr rfl), p, q⟩
        · rintro ⟨y, hy, p, q⟩
          rcases List.mem_append.mp hy with hy | hy
          · exact Or.inl ⟨y, hy, p, q⟩
          · rw [List.mem_singleton.mp hy] at q; exact Or.inr ⟨p, q⟩
    · have el : mLs kd a (i + 1 - a).toNat = mLs kd a (i - a).toNat := by rw [en, mLs_n (by rw [ei]; exact k2)]
      rw [if_neg k2] at hpf
      right
      refine ⟨(c, any), ?_, by omega, by rw [el]; exact h1, by rw [el]; exact h2⟩
      rw [zN_s, f_X6_columnCost_l26_s, mrd (by omega), hpf]
      simp (disch := omega) only [mlt]
      rw [if_pos (by omega), if_pos trivial]
  · rintro m ⟨c, any⟩ ⟨h0, h1, h2⟩
    try dsimp only at h1 h2 ⊢
    rw [f_X6_columnCost_l11_s]
    have hb := mFlx_b h2
    simp (disch := omega) only [mlt, meq]
    rw [if_pos (by omega)]
    rcases h2 with ⟨h3, h4⟩ | ⟨h3, h4⟩
    · rw [if_pos h3, mCC_f h4, h1]; refine congrArg some ?_; omega
    · rw [if_neg (by omega), mCC_t h4, h1]; refine congrArg some ?_; omega
  · (try dsimp only); rw [show (a - a).toNat = 0 by omega]; rfl
  · (try dsimp only); rw [show (a - a).toNat = 0 by omega]
    exact Or.inl ⟨rfl, fun ⟨y, hy, _⟩ => by cases hy⟩
