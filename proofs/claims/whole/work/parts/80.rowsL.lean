/-! rows for constructors and for the law -/
theorem z_metI {l : Launch} {D : va_G} {aI aZ : ClassId} {y : MethodName} {cc : ByteArray} {maxL : Nat} {ret : Option FieldType} {ws' : List Cond} {Ts : List Cond} {rm : Room} {av : List Value} {w0 : va_W} {Qp : Option Value → va_W → Prop} {mc ms : Nat}
    (hy : plainName y.cls = true) (hy1 : y.name = "<init>") (hw : Ts = Cond.code y cc maxL ret :: ws') (hn : (lg_sl av).length ≤ maxL)
    (body : ∀ X : zX, zL X = l → X.2.1.2.2.2.2.1.name = "<init>" → zF X D aI aZ cc maxL y.cls Ts rm → zT X D w0 Qp mc ms ret → zG X D 0 0 w0 0 (lv_args 0 av) []) : zC l D aI aZ y Ts rm av w0 Qp mc ms := by
  intro sz
  refine Met.ofW hy hw ?_
  intro p e s m args below meth c s₁ B hml hv
  obtain ⟨rfl, hsz, hP, hK, hD0, hN⟩ := hv
  have hts := atoms_spec (ws := Ts) B.pre
  have hown : s.vm.findClass y.cls = some m.cls := findClass_of_methodNamed B.named
  have hin : meth.name = "<init>" := (name_of_methodNamed B.named B.method).1.trans hy1
  subst hsz
  have hl := lv_entry av hn
  rw [lg_entry_eq]
  exact body ((p, l, e, rm), (s, m, av.toArray, below, meth, c), MQ below (zPost D w0 s.heap.size Qp) av.toArray s mc ms (va_A w0 s.heap.size), va_A w0 s.heap.size, maxL) rfl hin
    ⟨B.exec, B.bytes, hml, hown, hts, hK, fun q h => Or.inr h, hN, rfl, rfl⟩ ⟨rfl, rfl, B.returns, B.notSynchronized⟩ s.heap [] _ hP hD0.self va_S.rf hl
section ZL
variable {X : zX} {D : va_G} {aI aZ : ClassId} {cc : ByteArray} {nL : Nat} {own : String} {Ts : List Cond} {rm : Room} {k n pc pc' : Nat} {ws : va_W} {lv : List (Nat × Value)} {st : List Value}
theorem z_objInit {ix o : Nat} (F : zF X D aI aZ cc nL own Ts rm) (hd : zd cc pc (.invokespecial ix) 3 pc') (h1 : Cond.methodLink own ix objectInit ∈ Ts) (h2 : Cond.instanceMethod objectInit ∈ Ts) (h3 : Cond.code objectInit ⟨#[0xb1]⟩ 1 none ∈ Ts) (hr : 1 ≤ rm.frames ∧ 12 ≤ rm.locals) (g : zG X D k n ws pc' lv []) : zG X D k n ws pc lv [.ref o] := by
  obtain ⟨⟨p, l, e, R⟩, ⟨s, m, args, below, meth, c⟩, Q, A, nL'⟩ := X
  obtain ⟨hx, hb, hml, hown, hts, hK, -, -, rfl, rfl⟩ := F
  intro H locs ls hP hD hS hls
  refine W.objInit (rest := []) hx hb hown (hts _ h1) (hts _ h2) (hts _ h3) rfl (hls.1.trans hml.symm) rfl hd.1 hr.1 hr.2 ?_
  refine W.eq (g2 := F0 m (pc + 3) ls []) rfl ?_
  rw [hd.2]
  exact g H locs ls hP hD hS hls
theorem zI_N {N : Nat} (h : N ≤ 100000000) : ¬ zI (N : Int) < 0 ∧ (zI (N : Int)).toNatClampNeg = N := by
  have e : (zI (N : Int)).toInt = (N : Int) := zI_toInt (by omega) (by omega)
  refine ⟨fun q => ?_, ?_⟩
  · have := Int32.lt_iff_toInt_lt.mp q
    rw [e] at this
    have e0 : (0 : Int32).toInt = 0 := rfl
    omega
  · show (zI (N : Int)).toInt.toNat = N
    rw [e]; omega
theorem z_newaI {x : Int} {N : Nat} (F : zF X D aI aZ cc nL own Ts rm) (hd : zd cc pc (.newarray .int) 2 pc') (harr : Cond.arrayClass .int ∈ Ts) (hxN : x = (N : Int)) (hN : N ≤ 100000000) (hk : k + 1 ≤ rm.cells ∧ n + N ≤ rm.slots) (g : ∀ q : Nat, zG X D (k + 1) (n + N) (ws ++ [(q, .inl (aI, N, .inl (fun _ => zI 0)))]) pc' lv (.ref q :: st)) : zG X D k n ws pc lv (.int (zI x) :: st) := by
  obtain ⟨⟨p, l, e, R⟩, ⟨s, m, args, below, meth, c⟩, Q, A, nL'⟩ := X
  obtain ⟨hx, hb, hml, hown, hts, hK, hA, -, rfl, rfl⟩ := F
  intro H locs ls hP hD hS hls
  subst hxN
  refine va_newa (D := D) (atype := .int) (ty := .int) (N' := N) (a0 := (N, .inl (fun _ => zI 0))) hx hb (hts _ harr) rfl hK hP hD hS hA (fun _ => rfl) (zI_N hN).1 (zI_N hN).2 (by show N * 4 ≤ 536870912; omega) hk.1 hk.2 hd.1 (fun q cA H1 hK1 hP1 hD1 hS1 => ?_)
  have e1 : s.vm.findClass ("[" ++ FieldType.int.toString) = some cA := (hK1.2 2 (cA, .int) rfl).2
  have e2 : s.vm.findClass ("[" ++ FieldType.int.toString) = some aI := (hK.2 0 (aI, .int) rfl).2
  have e3 : cA = aI := Option.some.inj (e1.symm.trans e2)
  rw [e3] at hP1 hD1
  rw [hd.2]
  exact g q H1 locs ls hP1 hD1 hS1 hls
theorem z_newaZ {x : Int} {N : Nat} (F : zF X D aI aZ cc nL own Ts rm) (hd : zd cc pc (.newarray .boolean) 2 pc') (harr : Cond.arrayClass .boolean ∈ Ts) (hxN : x = (N : Int)) (hN : N ≤ 100000000) (hk : k + 1 ≤ rm.cells ∧ n + N ≤ rm.slots) (g : ∀ q : Nat, zG X D (k + 1) (n + N) (ws ++ [(q, .inl (aZ, N, .inl (fun _ => zI 0)))]) pc' lv (.ref q :: st)) : zG X D k n ws pc lv (.int (zI x) :: st) := by
  obtain ⟨⟨p, l, e, R⟩, ⟨s, m, args, below, meth, c⟩, Q, A, nL'⟩ := X
  obtain ⟨hx, hb, hml, hown, hts, hK, hA, -, rfl, rfl⟩ := F
  intro H locs ls hP hD hS hls
  subst hxN
  refine va_newa (D := D) (atype := .boolean) (ty := .boolean) (N' := N) (a0 := (N, .inl (fun _ => zI 0))) hx hb (hts _ harr) rfl hK hP hD hS hA (fun _ => rfl) (zI_N hN).1 (zI_N hN).2 (by show N * 1 ≤ 536870912; omega) hk.1 hk.2 hd.1 (fun q cA H1 hK1 hP1 hD1 hS1 => ?_)
  have e1 : s.vm.findClass ("[" ++ FieldType.boolean.toString) = some cA := (hK1.2 2 (cA, .boolean) rfl).2
  have e2 : s.vm.findClass ("[" ++ FieldType.boolean.toString) = some aZ := (hK.2 1 (aZ, .boolean) rfl).2
  have e3 : cA = aZ := Option.some.inj (e1.symm.trans e2)
  rw [e3] at hP1 hD1
  rw [hd.2]
  exact g q H1 locs ls hP1 hD1 hS1 hls
theorem z_new {ix ci N : Nat} {C : String} {T : u_T} {fs : List Value} {ty0 : Nat → FieldType} (F : zF X D aI aZ cc nL own Ts rm) (hd : zd cc pc (.new ix) 3 pc') (hin : ∀ w ∈ u_ws C T N, w ∈ Ts) (hty : ∀ k, k < N → parseFieldDescriptor (T k).2.2.1 = some (ty0 k)) (h1 : Cond.classLink own ix C ∈ Ts) (h2 : Cond.instantiable C N ∈ Ts) (h3 : Cond.initialized C ∈ Ts) (hci : vwCl[ci]? = some (C, T, N)) (hfs : ∀ j, j < N → defaultValue (ty0 j) = vp_V fs j) (hk : k + 1 ≤ rm.cells ∧ n + N ≤ rm.slots) (g : ∀ q : Nat, zG X D (k + 1) (n + N) (ws ++ [(q, .inr (ci, fs))]) pc' lv (.ref q :: st)) : zG X D k n ws pc lv st := by
  obtain ⟨⟨p, l, e, R⟩, ⟨s, m, args, below, meth, c⟩, Q, A, nL'⟩ := X
  obtain ⟨hx, hb, hml, hown, hts, hK, hA, -, rfl, rfl⟩ := F
  intro H locs ls hP hD hS hls
  refine va_new (D := D) (ci := ci) (fs := fs) hx hb hts hin ty0 hty hown (hts _ h1) (hts _ h2) (hts _ h3) hK hP hD hS hA hci hfs hk.1 hk.2 hd.1 (fun q H1 hP1 hD1 hS1 => ?_)
  rw [hd.2]
  exact g q H1 locs ls hP1 hD1 hS1 hls
theorem z_callI {Tc : List Cond} {y : MethodName} {bytes : ByteArray} {maxL ix : Nat} {rc : Room} {b : Nat} {rest : List Value} {wc wr : va_W} {Qp : Option Value → va_W → Prop} {mc ms : Nat}
    (F : zF X D aI aZ cc nL own Ts rm) (hd : zd cc pc (.invokespecial ix) 3 pc') (hM : zC (zL X) D aI aZ y Tc rc [.ref b] wc Qp mc ms) (hG : GoodIn Ts Tc) (hY : zY y bytes maxL none Tc 0) (hy1 : y.name = "<init>") (hini : Cond.initialized y.cls ∈ Ts) (hl : Cond.methodLink own ix y ∈ Ts) (hin : Cond.instanceMethod y ∈ Ts)
    (isC isR : List Nat) (hC : isC.map (fun i => ws[i]?) = wc.map some) (hR : isR.map (fun i => ws[i]?) = wr.map some) (hnd : va_nd isC = true ∧ va_nd isR = true ∧ ∀ i ∈ isR, i ∉ isC)
    (hw : (rest.map fun v => v.category).sum ≤ 8) (hrm : rc.frames + 1 ≤ rm.frames ∧ 8 + (maxL + 11) + rc.locals ≤ rm.locals) (hrc : rc.cells = mc ∧ rc.slots = ms) (hk : k + mc ≤ rm.cells ∧ n + ms ≤ rm.slots)
    (g : ∀ rv w1, Qp rv w1 → zG X D (k + mc) (n + ms) (wr ++ w1) pc' lv (rv.toList ++ rest)) : zG X D k n ws pc lv (.ref b :: rest) := by
  obtain ⟨⟨p, l, e, R⟩, ⟨s, m, args, below, meth, c⟩, Q, A, nL'⟩ := X
  obtain ⟨hx, hb, hml, hown, hts, hK, hA, hN, rfl, rfl⟩ := F
  obtain ⟨⟨ws', hTc⟩, hy2, hy3, hy4⟩ := hY
  intro H locs ls hP hD hS hls
  have hPc := va_P.sub (ws' := wc) hP isC (zmap_filter hC)
  have hDc := va_D.sub (ws' := wc) hD isC hnd.1 hC
  refine z_after (wr := wr) (Qp := Qp) (va_runI (rest := rest) (As := []) ⟨hx, hb, hml, hown, hts⟩ (hM H.size) (cwI 0 hts hG hTc hrc.1 hrc.2 (hts _ hini) (hts _ hl) (hts _ hin) hy1 ⟨hy2, hy3, hy4⟩ hrm) ⟨zPre_blind, fun U hU hW => ⟨rfl, by rw [hU], by rw [hU]; exact hPc, va_K.moved hW.alike hK, hDc.weaken (fun _ _ _ _ => trivial), zNW.warm hW hN⟩⟩ rfl rfl hls.1 rfl (lv_room hw) hd.1 hk) hA hP hD hS isC isR hC hR hnd.2.1 hnd.2.2 (fun rv w1 H1 locs1 hq hP2 hD2 hS2 => ?_)
  rw [hd.2]
  exact g rv w1 hq H1 locs1 ls hP2 hD2 hS2 hls
/-- the law's script: an int array of length L at b, no cell of the worlds -/
def zSc (X : zX) (b L : Nat) (xs : Nat → Int32) : Prop :=
  match X with
  | (_, (s, _), _, A, _) => va_X b L xs s s.heap ∧ b < s.heap.size ∧ ¬ A b
theorem z_slen {b L : Nat} {xs : Nat → Int32} (F : zF X D aI aZ cc nL own Ts rm) (SC : zSc X b L xs) (hd : zd cc pc .arraylength 1 pc') (g : zG X D k n ws pc' lv (.int (zI (L : Int)) :: st)) : zG X D k n ws pc lv (.ref b :: st) := by
  obtain ⟨⟨p, l, e, R⟩, ⟨s, m, args, below, meth, c⟩, Q, A, nL'⟩ := X
  obtain ⟨hx, hb, -⟩ := F
  obtain ⟨s1, s2, s3⟩ := SC
  intro H locs ls hP hD hS hls
  refine va_slen hx hb s1 s2 s3 hS hd.1 ?_
  rw [hd.2]
  exact g H locs ls hP hD hS hls
theorem z_sld {b L : Nat} {xs : Nat → Int32} {i x : Int} (F : zF X D aI aZ cc nL own Ts rm) (SC : zSc X b L xs) (hd : zd cc pc .iaload 1 pc') (hi : 0 ≤ i ∧ i < (L : Int)) (hL : L ≤ 2560) (hx1 : (xs i.toNat).toInt = x) (g : zG X D k n ws pc' lv (.int (zI x) :: st)) : zG X D k n ws pc lv (.int (zI i) :: .ref b :: st) := by
  obtain ⟨⟨p, l, e, R⟩, ⟨s, m, args, below, meth, c⟩, Q, A, nL'⟩ := X
  obtain ⟨hx, hb, -⟩ := F
  obtain ⟨s1, s2, s3⟩ := SC
  intro H locs ls hP hD hS hls
  refine va_sld hx hb s1 s2 s3 hS (zin hi rfl (by omega)) hd.1 ?_
  rw [hd.2, zcl hi rfl (by omega), ← zI_of (xs i.toNat), hx1]
  exact g H locs ls hP hD hS hls
end ZL
