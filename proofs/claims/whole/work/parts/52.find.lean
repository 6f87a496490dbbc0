/-! the call that finds: both programs answer alike -/
theorem m_bk_iff {pb pl mp ms : Nat → Int} {pc ml v1 v2 : Int} (h : mPg pb pl pc mp ms ml) : mIsBk (fun x => mkd (mB pb pl x) (pl x.toNat)) ml v1 v2 ↔ mIsBk (fun x => mkd (mB mp ms x) (ms x.toNat)) ml v1 v2 := by
  have e : ∀ x : Int, 0 ≤ x → x < ml → mkd (mB mp ms x) (ms x.toNat) = mkd (mB pb pl x) (pl x.toNat) := fun x x0 x1 => m_kind_same h ⟨x0, x1⟩
  constructor
  · rintro ⟨q1, q2, x, x0, x1, x2⟩
    exact ⟨q1, fun y y0 y1 => by dsimp only; rw [e y (by omega) (by omega)]; exact q2 y y0 y1, x, x0, x1, by dsimp only; rw [e x (by omega) (by omega)]; exact x2⟩
  · rintro ⟨q1, q2, x, x0, x1, x2⟩
    exact ⟨q1, fun y y0 y1 => by dsimp only; rw [← e y (by omega) (by omega)]; exact q2 y y0 y1, x, x0, x1, by dsimp only; rw [← e x (by omega) (by omega)]; exact x2⟩
theorem p_find {pb pl mp ms : Nat → Int} {pc ml v1 v2 : Int} {by0 nol0 cr0 nx0 g0 ls1 sc1 fc1 : Nat → Int} {x3 x4 x5 x6 x7 x8 x9 : Int} {foct fcct tab tal taw tan tcb tcl tcw tcn : Nat → Int} {fo1 fo2 fo3 fo4 fo5 fo6 fc2 fc3 fc4 fc5 fc6 fc7 ta3 ta4 ta7 tc3 tc4 tc7 : Int}
    {f0 l0 w0 : Int} {p0 le0 ot0 cc0 xc0 : Nat → Int} {be0 ne0 co0 : Int} {cu0 ns0 nc0 : Nat → Int} {nr0 ps0 ru0 jo0 to0 has rws tcs : Int} {csz cel : Nat → Int} {hf : Int} {tolds : Nat → Int} {fcols : Int} {fcuts : Nat → Int}
    (h : mPg pb pl pc mp ms ml) (h1 : mW v1) (h2 : mW v2) (hfo : mFo foct fo1 fo2 fo3 fo4 fo5 fo6 hf tolds fcols fcuts) (hta : mTab tab tal ta3 ta4 has rws tcs csz cel) :
    ∃ (r : Int) (b1 b2 : Nat → Int) (b3 b4 b5 b6 b7 b8 b9 : Int) (b10 b11 b12 s1 s2 s3 foct' : Nat → Int) (fo1' fo2' fo3' fo4' fo5' fo6' : Int) (fcct' : Nat → Int) (fc2' fc3' fc4' fc5' fc6' fc7' : Int) (tab' tal' : Nat → Int) (ta3' ta4' : Int) (taw' tan' : Nat → Int) (ta7' : Int) (tcb' tcl' : Nat → Int) (tc3' tc4' : Int) (tcw' tcn' : Nat → Int) (tc7' : Int)
      (f1 l1 w1 : Int) (p1 le1 ot1 cc1 xc1 : Nat → Int) (be1 ne1 co1 : Int) (cu1 ns1 nc1 : Nat → Int) (nr1 ps1 ru1 jo1 to1 has' rws' tcs' : Int) (csz' cel' : Nat → Int) (hf' : Int) (tolds' : Nat → Int) (fcols' : Int) (fcuts' : Nat → Int),
      f_X5_find pb pl pc by0 nol0 x3 x4 x5 x6 x7 x8 x9 cr0 nx0 g0 ls1 sc1 fc1 foct fo1 fo2 fo3 fo4 fo5 fo6 fcct fc2 fc3 fc4 fc5 fc6 fc7 tab tal ta3 ta4 taw tan ta7 tcb tcl tc3 tc4 tcw tcn tc7 v1 v2 = some (r, b1, b2, b3, b4, b5, b6, b7, b8, b9, b10, b11, b12, s1, s2, s3, foct', fo1', fo2', fo3', fo4', fo5', fo6', fcct', fc2', fc3', fc4', fc5', fc6', fc7', tab', tal', ta3', ta4', taw', tan', ta7', tcb', tcl', tc3', tc4', tcw', tcn', tc7') ∧
      f_X6_find ml ms mp f0 l0 w0 p0 le0 ot0 cc0 xc0 be0 ne0 co0 cu0 ns0 nc0 nr0 ps0 ru0 jo0 to0 has rws tcs csz cel hf tolds fcols fcuts v1 v2 = some (r, f1, l1, w1, p1, le1, ot1, cc1, xc1, be1, ne1, co1, cu1, ns1, nc1, nr1, ps1, ru1, jo1, to1, has', rws', tcs', csz', cel', hf', tolds', fcols', fcuts') ∧
      mW r ∧ mFo foct' fo1' fo2' fo3' fo4' fo5' fo6' hf' tolds' fcols' fcuts' ∧ mTab tab' tal' ta3' ta4' has' rws' tcs' csz' cel' := by
  have hgM := mGood_M h
  have hg := h.2.1
  have hn := hg.1
  have hc := h.1
  have k1 := h1
  have k2 := h2
  unfold mW at k1 k2
  have hiff := m_bk_iff (v1 := v1) (v2 := v2) h
  subst hc
  obtain ⟨bv, eb, fb⟩ := m_isBlock hg k1 k2
  unfold f_X5_find f_X6_find
  rw [eb, mzb]
  rcases m_look (f0 := f0) (l0 := l0) (w0 := w0) (p0 := p0) hgM k1 k2 with ⟨q, el⟩ | ⟨q, w', pf, el, hw', hm⟩
  · have : bv = 0 := by
      rcases fb with fb | fb
      · exact fb.1
      · exact absurd (hiff.mp fb.2) q
    subst this
    rw [el, mzb]
    refine ⟨-1, _, _, _, _, _, _, _, _, _, _, _, _, _, _, _, _, _, _, _, _, _, _, _, _, _, _, _, _, _, _, _, _, _, _, _, _, _, _, _, _, _, _, _, _, _, _, _, _, _, _, _, _, _, _, _, _, _, _, _, _, _, _, _, _, _, _, _, _, _, _, _, rfl, rfl, by unfold mW; omega, hfo, hta⟩
  · have hq := hiff.mpr q
    have : bv = 1 := by
      rcases fb with fb | fb
      · exact absurd hq fb.2
      · exact fb.1
    subst this
    obtain ⟨cols, best, next, cuts, T, rows, jl, pln, ru, ok, hok, hT1, hC, hM⟩ := m_reading (by0 := by0) (nol0 := nol0) (cr0 := cr0) (nx0 := nx0) (g0 := g0) (ls1 := ls1) (sc1 := sc1) (fc1 := fc1) (ct1 := fcct) (tb1 := tcb) (tl1 := tcl) (fr0 := x5) (lr0 := x6) h q hm hw'
    obtain ⟨r, b1, b2, b3, b4, b5, b6, b7, b8, b9, b10, b11, b12, s1, s2, s3, ct, jl', tb, tl, rows', eC, hC2⟩ := hC
    obtain ⟨ls, ot, col, cut, cts, tl2, tb2, r2, fl, e1, e2, hcts, hT2, hr2⟩ := hM le0 ot0 cc0 xc0 cu0 ns0 nc0
    obtain ⟨o1, o2, o3, o4, o5, o6, o7⟩ := hok
    have o8 := o1.1
    rw [eC, el, mzb, mzb]
    dsimp only
    rw [e1, mzb]
    dsimp only
    rw [e2, mzb]
    dsimp only
    rcases hC2 with ⟨k3, k4, k5, k6, k7, k8⟩ | ⟨k3, k4⟩
    · subst k3 k4 k7 k8
      rw [if_pos rfl] at hr2
      subst hr2
      obtain ⟨to, fcu, e3, t5, t6⟩ := m_keepM (best := best) (next := next) (pl := pln) (ru := ru) (jl := jl') (cols := cols) (cts := cts) (tolds := tolds) (fcuts := fcuts) o8.2
      obtain ⟨cs1, ce1, e4, u1, u2, u3⟩ := m_copyRow (cs := csz) (ce := cel) (f := 0) (t := 0) hT2 (by omega) (by omega)
      rw [show (((0 : Nat)) : Int) = 0 from rfl] at e4
      rw [e3, mzb]
      dsimp only
      rw [e4, mzb]
      dsimp only
      rw [if_neg (show ¬ zI 1 = zI 0 by decide), if_neg (show ¬ zI 1 = zI 0 by decide), if_neg (show ¬ zI 1 = zI 0 by decide), if_neg (show ¬ zI 1 = zI 0 by decide)]
      generalize hx : f_X6_find_l58 _ _ _ _ _ _ _ _ = X
      obtain ⟨a5, b5, e5, u4⟩ := m_find58x hx hT2 (by omega) u1
      obtain ⟨cs6, ce6, e6, u5, u6, u7⟩ := m_copyRow (cs := a5) (ce := b5) (f := 41) (t := 41) hT2 (by omega) (by omega)
      rw [show (((41 : Nat)) : Int) = 41 from rfl] at e6
      rw [e6, mzb] at e5
      dsimp only at e5
      rw [e5]
      have hv : mTv cols rows T ce6 cs6 := by
        refine mTv_of o8.2 (fun r hr c hc => ?_)
        by_cases q41 : r = 41
        · subst q41; exact u5 c hc
        · obtain ⟨r1, r2⟩ := u4 r (by omega) c hc
          have hl := (hT2 (8 * r + c) (by omega)).2.1
          refine ⟨by rw [u6 _ (by omega)]; exact r1, fun i hi2 => ?_⟩
          rw [u7 _ (by omega)]
          exact r2 i hi2
      have hcw : ∀ j : Nat, j ≤ cols → mW (cuts j) := by
        intro j hj
        unfold mW
        cases j with
        | zero => rw [o1.2.1]; omega
        | succ j => have := o1.2.2 j (by omega); omega
      refine ⟨(cols : Int), _, _, _, _, _, _, _, _, _, _, _, _, _, _, _, _, _, _, _, _, _, _, _, _, _, _, _, _, _, _, _, _, _, _, _, _, _, _, _, _, _, _, _, _, _, _, _, _, _, _, _, _, _, _, _, _, _, _, _, _, _, _, _, _, _, _, _, _, _, _, _, rfl, rfl, by unfold mW; omega, Or.inr ⟨rfl, by omega, rfl, t5.1, t5.2.1, t5.2.2.1, t5.2.2.2.1, t5.2.2.2.2, fun j hj => ⟨?_, ?_⟩, by unfold mW; omega, by unfold mW; omega, by unfold mW; omega, by unfold mW; omega, by unfold mW; omega⟩, Or.inr ⟨cols, rows, T, o8, by omega, rfl, rfl, rfl, rfl, rfl, hT1, fun s hs => (k6 s hs).2.1, fun s hs => ?_, hv⟩⟩
      · rw [k5 j (by omega), t6 j (by omega), hcts j (by omega)]
      · rw [k5 j (by omega)]; exact hcw j (by omega)
      · have hlt := mSl_lt o8.2 (by omega) hs
        exact ⟨(k6 s hlt).1, (k6 s hlt).2.2⟩
    · subst k3 k4
      rw [if_neg (by decide)] at hr2
      subst hr2
      refine ⟨-3, _, _, _, _, _, _, _, _, _, _, _, _, _, _, _, _, _, _, _, _, _, _, _, _, _, _, _, _, _, _, _, _, _, _, _, _, _, _, _, _, _, _, _, _, _, _, _, _, _, _, _, _, _, _, _, _, _, _, _, _, _, _, _, _, _, _, _, _, _, _, _, rfl, rfl, by unfold mW; omega, hfo, hta⟩
