/-! the call that puts more behind a table: both programs answer alike -/
theorem m_tvTb {T : Nat → List Int} {cols rows : Nat} {tb tl : Nat → Int} (h : mTb T tb tl) (hc : cols ≤ 8) (hr : rows ≤ 40) : mTv cols rows T tb tl := by
  intro s hs
  have hlt := mSl_lt hc hr hs
  exact ⟨(h s hlt).1, (h s hlt).2.2⟩
theorem m_goesN {cols c2 : Nat} {tb tl pb pl : Nat → Int} {R0 R1 : Int} (h1 : cols ≤ 8) (h2 : c2 ≤ 8) (h : ¬ cols = c2) : f_X4_goesTogetherWith tb tl (cols : Int) R0 pb pl (c2 : Int) R1 = some 0 := by
  unfold f_X4_goesTogetherWith f_X4_goesTogetherWith_j30
  rw [if_neg]
  rw [meq (by omega)]
  omega
theorem p_more {pb pl mp ms : Nat → Int} {pc ml v1 v2 : Int} {by0 nol0 cr0 nx0 g0 ls1 sc1 fc1 : Nat → Int} {x3 x4 x5 x6 x7 x8 x9 : Int} {foct fcct tab tal tcb tcl : Nat → Int} {fo1 fo2 fo3 fo4 fo5 fo6 fc2 fc3 fc4 fc5 fc6 fc7 ta3 ta4 tc3 tc4 : Int}
    {f0 l0 w0 : Int} {p0 le0 ot0 cc0 xc0 : Nat → Int} {be0 ne0 co0 : Int} {cu0 ns0 nc0 : Nat → Int} {nr0 ps0 ru0 jo0 to0 has rws tcs : Int} {csz cel : Nat → Int} {hf : Int} {tolds : Nat → Int} {fcols : Int} {fcuts : Nat → Int}
    (h : mPg pb pl pc mp ms ml) (h1 : mW v1) (h2 : mW v2) (hfo : mFo foct fo1 fo2 fo3 fo4 fo5 fo6 hf tolds fcols fcuts) (hta : mTab tab tal ta3 ta4 has rws tcs csz cel) :
    ∃ (r : Int) (b1 b2 : Nat → Int) (b3 b4 b5 b6 b7 b8 b9 : Int) (b10 b11 b12 s1 s2 s3 foct' : Nat → Int) (fo1' fo2' fo3' fo4' fo5' fo6' : Int) (fcct' : Nat → Int) (fc2' fc3' fc4' fc5' fc6' fc7' : Int) (tab' tal' : Nat → Int) (ta4' : Int) (tcb' tcl' : Nat → Int) (tc3' tc4' : Int)
      (f1 l1 w1 : Int) (p1 le1 ot1 cc1 xc1 : Nat → Int) (be1 ne1 co1 : Int) (cu1 ns1 nc1 : Nat → Int) (nr1 ps1 ru1 jo1 to1 rws' : Int) (csz' cel' : Nat → Int) (hf' : Int) (tolds' : Nat → Int) (fcols' : Int) (fcuts' : Nat → Int),
      f_X5_more pb pl pc by0 nol0 x3 x4 x5 x6 x7 x8 x9 cr0 nx0 g0 ls1 sc1 fc1 foct fo1 fo2 fo3 fo4 fo5 fo6 fcct fc2 fc3 fc4 fc5 fc6 fc7 tab tal ta3 ta4 tcb tcl tc3 tc4 v1 v2 = some (r, b1, b2, b3, b4, b5, b6, b7, b8, b9, b10, b11, b12, s1, s2, s3, foct', fo1', fo2', fo3', fo4', fo5', fo6', fcct', fc2', fc3', fc4', fc5', fc6', fc7', tab', tal', ta4', tcb', tcl', tc3', tc4') ∧
      f_X6_more ml ms mp f0 l0 w0 p0 le0 ot0 cc0 xc0 be0 ne0 co0 cu0 ns0 nc0 nr0 ps0 ru0 jo0 to0 has rws tcs csz cel hf tolds fcols fcuts v1 v2 = some (r, f1, l1, w1, p1, le1, ot1, cc1, xc1, be1, ne1, co1, cu1, ns1, nc1, nr1, ps1, ru1, jo1, to1, rws', csz', cel', hf', tolds', fcols', fcuts') ∧
      mW r ∧ mFo foct' fo1' fo2' fo3' fo4' fo5' fo6' hf' tolds' fcols' fcuts' ∧ mTab tab' tal' ta3 ta4' has rws' tcs csz' cel' := by
  have hgM := mGood_M h
  have hg := h.2.1
  have hn := hg.1
  have hc := h.1
  have k1 := h1
  have k2 := h2
  unfold mW at k1 k2
  have hiff := m_bk_iff (v1 := v1) (v2 := v2) h
  subst hc
  obtain ⟨bv, eb, fb⟩ := m_isBlock hg k1 k2
  unfold f_X5_more f_X6_more
  rw [eb, mzb]
  rcases m_look (f0 := f0) (l0 := l0) (w0 := w0) (p0 := p0) hgM k1 k2 with ⟨q, el⟩ | ⟨q, w', pf, el, hw', hm⟩
  · have : bv = 0 := by
      rcases fb with fb | fb
      · exact fb.1
      · exact absurd (hiff.mp fb.2) q
    subst this
    rw [el, mzb]
    refine ⟨-1, _, _, _, _, _, _, _, _, _, _, _, _, _, _, _, _, _, _, _, _, _, _, _, _, _, _, _, _, _, _, _, _, _, _, _, _, _, _, _, _, _, _, _, _, _, _, _, _, _, _, _, _, _, _, _, _, _, _, _, _, _, _, rfl, rfl, by unfold mW; omega, hfo, hta⟩
  · have hq := hiff.mpr q
    have : bv = 1 := by
      rcases fb with fb | fb
      · exact absurd hq fb.2
      · exact fb.1
    subst this
    rcases hta with ⟨c1, c2, c3⟩ | ⟨cols0, R0, T0, ho, hR0, d1, d2, d3, d4, d5, ht0, hlen0, hv0, hw0⟩
    · subst c1 c2 c3
      rw [el, mzb]
      refine ⟨-2, _, _, _, _, _, _, _, _, _, _, _, _, _, _, _, _, _, _, _, _, _, _, _, _, _, _, _, _, _, _, _, _, _, _, _, _, _, _, _, _, _, _, _, _, _, _, _, _, _, _, _, _, _, _, _, _, _, _, _, _, _, _, rfl, rfl, by unfold mW; omega, hfo, Or.inl ⟨rfl, rfl, rfl⟩⟩
    subst d1 d2 d3 d4 d5
    have hz : ¬ zI (cols0 : Int) = zI 0 := by rw [meq (by omega)]; omega
    have hta : mTab tab tal (cols0 : Int) (R0 : Int) 1 (R0 : Int) (cols0 : Int) csz cel := Or.inr ⟨cols0, R0, T0, ho, hR0, rfl, rfl, rfl, rfl, rfl, ht0, hlen0, hv0, hw0⟩
    obtain ⟨cols, best, next, cuts, T, rows, jl, pln, ru, ok, hok, hT1, hC, hM⟩ := m_reading (by0 := by0) (nol0 := nol0) (cr0 := cr0) (nx0 := nx0) (g0 := g0) (ls1 := ls1) (sc1 := sc1) (fc1 := fc1) (ct1 := fcct) (tb1 := tcb) (tl1 := tcl) (fr0 := x5) (lr0 := x6) h q hm hw'
    obtain ⟨r, b1, b2, b3, b4, b5, b6, b7, b8, b9, b10, b11, b12, s1, s2, s3, ct, jl', tb, tl, rows', eC, hC2⟩ := hC
    obtain ⟨ls, ot, col, cut, cts, tl2, tb2, r2, fl, e1, e2, hcts, hT2, hr2⟩ := hM le0 ot0 cc0 xc0 cu0 ns0 nc0
    obtain ⟨o1, o2, o3, o4, o5, o6, o7⟩ := hok
    have o8 := o1.1
    rw [eC, el, mzb, mzb]
    dsimp only
    rw [e1, mzb]
    dsimp only
    rw [e2, mzb]
    dsimp only
    rw [if_neg (show ¬ zI 1 = zI 0 by decide), if_neg hz, if_neg (show ¬ zI 1 = zI 0 by decide), if_neg (show ¬ zI 1 = zI 0 by decide)]
    rcases hC2 with ⟨k3, k4, k5, k6, k7, k8⟩ | ⟨k3, k4⟩
    · subst k3 k4 k7 k8
      rw [if_pos rfl] at hr2
      subst hr2
      rw [if_neg (show ¬ zI 1 = zI 0 by decide), if_neg (show ¬ zI 1 = zI 0 by decide)]
      by_cases hcc : cols0 = cols
      · subst hcc
        obtain ⟨g1, eg1, fg1⟩ := m_goes (tb := tab) (tl := tal) (pb := tb) (pl := tl) o8 hR0 (show rows ≤ 40 by omega) hlen0 (fun s hs => (k6 s hs).2.1) hv0 (m_tvTb k6 o8.2 (by omega)) ht0 hT1
        obtain ⟨g2, eg2, fg2⟩ := m_goTogether (nb := tb2) (nl := tl2) o8.2 hlen0 hw0 hT2 ht0 hT1
        have := mFlx_uniq fg1 fg2 Iff.rfl
        subst this
        rw [if_pos rfl, eg1, eg2, mzb, mzb]
        rcases fg1 with ⟨rfl, -⟩ | ⟨rfl, -⟩
        · refine ⟨-2, _, _, _, _, _, _, _, _, _, _, _, _, _, _, _, _, _, _, _, _, _, _, _, _, _, _, _, _, _, _, _, _, _, _, _, _, _, _, _, _, _, _, _, _, _, _, _, _, _, _, _, _, _, _, _, _, _, _, _, _, _, _, rfl, rfl, by unfold mW; omega, hfo, hta⟩
        · rw [if_neg (show ¬ zI 1 = zI 0 by decide), if_neg (show ¬ zI 1 = zI 0 by decide)]
          by_cases q40 : (40 : Int) < (R0 : Int) + (rows : Int)
          · have hz2 : zI 40 < zI ((R0 : Int) + (rows : Int)) := by rw [mlt (by omega)]; exact q40
            rw [if_pos hz2, if_pos hz2]
            refine ⟨-3, _, _, _, _, _, _, _, _, _, _, _, _, _, _, _, _, _, _, _, _, _, _, _, _, _, _, _, _, _, _, _, _, _, _, _, _, _, _, _, _, _, _, _, _, _, _, _, _, _, _, _, _, _, _, _, _, _, _, _, _, _, _, rfl, rfl, by unfold mW; omega, hfo, hta⟩
          · have hz2 : ¬ zI 40 < zI ((R0 : Int) + (rows : Int)) := by rw [mlt (by omega)]; exact q40
            rw [if_neg hz2, if_neg hz2]
            obtain ⟨to, fcu, e3, t5, t6⟩ := m_keepM (best := best) (next := next) (pl := pln) (ru := ru) (jl := jl') (cols := cols0) (cts := cts) (tolds := tolds) (fcuts := fcuts) o8.2
            obtain ⟨tb', tl', e4, hv4⟩ := m_putBehind (T0 := T0) (T1 := T) (tb := tab) (tl := tal) (pb := tb) (pl := tl) (cols := cols0) (R0 := R0) (R1 := rows) o8.2 (by omega) hlen0 (fun s hs => (k6 s hs).2.1) hv0 (m_tvTb k6 o8.2 (by omega))
            rw [e3, e4, mzb, mzb]
            dsimp only
            generalize hx : f_X6_more_l79 _ _ _ _ _ _ _ _ _ = X
            obtain ⟨a5, b5, e5, u4⟩ := m_more79x (T0 := T0) (cols := cols0) hx o8.2 (by omega) hlen0 hw0 hT2
            obtain ⟨cs6, ce6, e6, u5, u6, u7⟩ := m_copyRow (cs := a5) (ce := b5) (f := 41) (t := 41) hT2 (by omega) (by omega)
            rw [show (((41 : Nat)) : Int) = 41 from rfl] at e6
            rw [e6, mzb] at e5
            dsimp only at e5
            rw [e5]
            have hlen4 := mMo_len (R0 := R0) (R1 := rows) hlen0 (fun s hs => (k6 s hs).2.1)
            have hv : mTv cols0 (R0 + rows) (mMo T0 T R0 rows) ce6 cs6 := by
              rintro s ⟨row, c, rfl, hr, hc⟩
              show mHs (mMo T0 T R0 rows) ce6 cs6 (8 * row + c)
              rcases hr with hr | rfl
              · have hl := hlen4 (8 * row + c) (by omega)
                refine mHs_keep (u4 row c (by omega) hc) (u6 _ (by omega)) (fun j hj => u7 _ (by omega))
              · obtain ⟨w1, w2⟩ := u5 c (by omega)
                exact mHs_of (mMo_foot (by omega) (by omega)) w1 w2
            have hcw : ∀ j : Nat, j ≤ cols0 → mW (cuts j) := by
              intro j hj
              unfold mW
              cases j with
              | zero => rw [o1.2.1]; omega
              | succ j => have := o1.2.2 j (by omega); omega
            refine ⟨(R0 : Int) + (rows : Int), _, _, _, _, _, _, _, _, _, _, _, _, _, _, _, _, _, _, _, _, _, _, _, _, _, _, _, _, _, _, _, _, _, _, _, _, _, _, _, _, _, _, _, _, _, _, _, _, _, _, _, _, _, _, _, _, _, _, _, _, _, _, rfl, rfl, by unfold mW; omega, Or.inr ⟨rfl, by omega, rfl, t5.1, t5.2.1, t5.2.2.1, t5.2.2.2.1, t5.2.2.2.2, fun j hj => ⟨?_, ?_⟩, by unfold mW; omega, by unfold mW; omega, by unfold mW; omega, by unfold mW; omega, by unfold mW; omega⟩, Or.inr ⟨cols0, R0 + rows, mMo T0 T R0 rows, o8, by omega, rfl, rfl, by omega, by omega, rfl, mTr1_mo ht0 hT1, hlen4, hv4, hv⟩⟩
            · rw [k5 j (by omega), t6 j (by omega), hcts j (by omega)]
            · rw [k5 j (by omega)]; exact hcw j (by omega)
      · have hz2 : ¬ zI (cols : Int) = zI (cols0 : Int) := by rw [meq (by omega)]; omega
        rw [m_goesN ho.2 o8.2 hcc, mzb, if_neg hz2]
        refine ⟨-2, _, _, _, _, _, _, _, _, _, _, _, _, _, _, _, _, _, _, _, _, _, _, _, _, _, _, _, _, _, _, _, _, _, _, _, _, _, _, _, _, _, _, _, _, _, _, _, _, _, _, _, _, _, _, _, _, _, _, _, _, _, _, rfl, rfl, by unfold mW; omega, hfo, hta⟩
    · subst k3 k4
      rw [if_neg (by decide)] at hr2
      subst hr2
      refine ⟨-3, _, _, _, _, _, _, _, _, _, _, _, _, _, _, _, _, _, _, _, _, _, _, _, _, _, _, _, _, _, _, _, _, _, _, _, _, _, _, _, _, _, _, _, _, _, _, _, _, _, _, _, _, _, _, _, _, _, _, _, _, _, _, rfl, rfl, by unfold mW; omega, hfo, hta⟩
