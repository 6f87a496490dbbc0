/-! Rows of this claim's own over the kit's: whole numbers are Int (zI, zJ cast them), a judgement zG hides heap, frames and locals' array. -/
def zI (v : Int) : Int32 := Int32.ofInt v
def zJ (v : Int) : Int64 := Int64.ofInt v
theorem zI_add (a b : Int) : zI a + zI b = zI (a + b) := (Int32.ofInt_add a b).symm
theorem zI_sub (a b : Int) : zI a - zI b = zI (a - b) := (Int32.ofInt_sub a b).symm
theorem zI_mul (a b : Int) : zI a * zI b = zI (a * b) := (Int32.ofInt_mul a b).symm
theorem zI_neg (a : Int) : -zI a = zI (-a) := (Int32.ofInt_neg a).symm
theorem zJ_add (a b : Int) : zJ a + zJ b = zJ (a + b) := (Int64.ofInt_add a b).symm
theorem zI_toInt {a : Int} (h1 : -2147483648 ≤ a) (h2 : a < 2147483648) : (zI a).toInt = a := Int32.toInt_ofInt_of_le (by simpa using h1) (by simpa using h2)
theorem zJ_toInt {a : Int} (h1 : -9223372036854775808 ≤ a) (h2 : a < 9223372036854775808) : (zJ a).toInt = a := Int64.toInt_ofInt_of_le (by simpa using h1) (by simpa using h2)
theorem zI_of (x : Int32) : zI x.toInt = x := Int32.ofInt_toInt x
theorem zJ_of (x : Int64) : zJ x.toInt = x := Int64.ofInt_toInt x
theorem zI_0 : zI 0 = 0 := rfl
/-- a store, a read, a write at an index -/
def zu (f : Nat → Int) (i v : Int) : Nat → Int := fun j => if j = i.toNat then v else f j
def zrd {α : Type} (f : Nat → Int) (n i : Int) (K : Int → Option α) : Option α := if 0 ≤ i ∧ i < n then K (f i.toNat) else none
def zwr {α : Type} (f : Nat → Int) (n i v : Int) (K : (Nat → Int) → Option α) : Option α := if 0 ≤ i ∧ i < n then K (zu f i v) else none
def zch {α : Type} (v : Int) (K : Option α) : Option α := if v = 0 ∨ v = 1 then K else none
def zb {α β : Type} (f : Option α) (K : α → Option β) : Option β := match f with
  | none => none
  | some x => K x
def zN : Nat := 1000000
def zw32 (v : Int) : Int := (zI v).toInt
def zand (a b : Int) : Int := (zI a &&& zI b).toInt
def zishr (a b : Int) : Int := (zI a >>> (zI b &&& 31)).toInt
def ziushr (a b : Int) : Int := ((zI a).toUInt32 >>> ((zI b).toUInt32 &&& Int32.toUInt32 31)).toInt32.toInt
def zland (a b : Int) : Int := (zJ a &&& zJ b).toInt
def zlor (a b : Int) : Int := (zJ a ||| zJ b).toInt
def zlshl (a b : Int) : Int := (zJ a <<< ((zI b).toInt64 &&& 63)).toInt
def zlshr (a b : Int) : Int := (zJ a >>> ((zI b).toInt64 &&& 63)).toInt
def zlushr (a b : Int) : Int := ((zJ a).toUInt64 >>> ((zI b).toInt64.toUInt64 &&& Int64.toUInt64 63)).toInt64.toInt
def zlcmp (a b : Int) : Int := (lg_cmp (zJ a) (zJ b)).toInt
def zmin (a b : Int) : Int := if zI b < zI a then b else a
def zmax (a b : Int) : Int := if zI a < zI b then b else a
theorem zrd_some {α : Type} {f : Nat → Int} {n i : Int} {K : Int → Option α} {R : α} (h : zrd f n i K = some R) : ∃ a, (0 ≤ i ∧ i < n) ∧ f i.toNat = a ∧ K a = some R := by
  unfold zrd at h
  by_cases hc : 0 ≤ i ∧ i < n
  · rw [if_pos hc] at h; exact ⟨_, hc, rfl, h⟩
  · rw [if_neg hc] at h; cases h
theorem zwr_some {α : Type} {f : Nat → Int} {n i v : Int} {K : (Nat → Int) → Option α} {R : α} (h : zwr f n i v K = some R) : ∃ g, (0 ≤ i ∧ i < n) ∧ zu f i v = g ∧ K g = some R := by
  unfold zwr at h
  by_cases hc : 0 ≤ i ∧ i < n
  · rw [if_pos hc] at h; exact ⟨_, hc, rfl, h⟩
  · rw [if_neg hc] at h; cases h
theorem zch_some {α : Type} {v : Int} {K : Option α} {R : α} (h : zch v K = some R) : (v = 0 ∨ v = 1) ∧ K = some R := by
  unfold zch at h
  by_cases hc : v = 0 ∨ v = 1
  · rw [if_pos hc] at h; exact ⟨hc, h⟩
  · rw [if_neg hc] at h; cases h
theorem zb_some {α β : Type} {f : Option α} {K : α → Option β} {R : β} (h : zb f K = some R) : ∃ o, f = some o ∧ K o = some R := by
  cases f with
  | none => cases h
  | some o => exact ⟨o, rfl, h⟩
theorem zif_t {α : Type} {c : Prop} [Decidable c] {a b : α} {R : α} (hc : c) (h : (if c then a else b) = R) : a = R := by rw [if_pos hc] at h; exact h
theorem zif_f {α : Type} {c : Prop} [Decidable c] {a b : α} {R : α} (hc : ¬ c) (h : (if c then a else b) = R) : b = R := by rw [if_neg hc] at h; exact h
theorem zin {i n : Int} {N : Nat} (h : 0 ≤ i ∧ i < n) (hn : n = (N : Int)) (hN : N < 2147483648) : vp_in (zI i) N := by
  have e : (zI i).toInt = i := zI_toInt (by omega) (by omega)
  exact vp_in_iff.mpr ⟨by rw [e]; exact h.1, by rw [e]; omega⟩
theorem zcl {i n : Int} {N : Nat} (h : 0 ≤ i ∧ i < n) (hn : n = (N : Int)) (hN : N < 2147483648) : (zI i).toNatClampNeg = i.toNat := by
  have e : (zI i).toInt = i := zI_toInt (by omega) (by omega)
  show (zI i).toInt.toNat = _
  rw [e]
/-- the links of nest mates, which the words of a method don't carry -/
def zNest : List Cond := [.methodLinkNest "TableFinder$Page" 26 yX5_put "TableFinder", .methodLinkNest "TableFinder$Page" 22 yX5_pick "TableFinder", .methodLinkNest "TableFinder$Block" 59 yX5_put "TableFinder", .methodLinkNest "TableFinder$Block" 74 yX5_pick "TableFinder", .methodLinkNest "TableFinder$Search" 90 yX5_put "TableFinder", .methodLinkNest "TableFinder$Search" 69 yX5_pick "TableFinder", .methodLinkNest "TableFinder$Table" 49 yX5_put "TableFinder", .methodLinkNest "TableFinder$Table" 35 yX5_pick "TableFinder", .methodLinkNest "TableFinder$Table" 116 yX5_isDigit "TableFinder"]
def zNestF : List Cond := [.fieldLinkNest "TableFinder" 115 "TableFinder$Table" "columns" "I" "TableFinder", .fieldLinkNest "TableFinder" 122 "TableFinder$Table" "rows" "I" "TableFinder", .fieldLinkNest "TableFinder" 129 "TableFinder$Found" "columns" "I" "TableFinder", .fieldLinkNest "TableFinder" 130 "TableFinder$Found" "best" "I" "TableFinder", .fieldLinkNest "TableFinder" 133 "TableFinder$Found" "next" "I" "TableFinder", .fieldLinkNest "TableFinder" 136 "TableFinder$Found" "plainLines" "I" "TableFinder", .fieldLinkNest "TableFinder" 139 "TableFinder$Found" "rules" "I" "TableFinder", .fieldLinkNest "TableFinder" 142 "TableFinder$Found" "joinedLines" "I" "TableFinder", .fieldLinkNest "TableFinder" 145 "TableFinder$Found" "cuts" "[I" "TableFinder", .fieldLinkNest "TableFinder" 186 "TableFinder$Table" "laidWidth" "I" "TableFinder", .fieldLinkNest "TableFinder" 197 "TableFinder$Block" "width" "I" "TableFinder", .fieldLinkNest "TableFinder" 70 "TableFinder$Page" "count" "I" "TableFinder", .fieldLinkNest "TableFinder$Search" 21 "TableFinder$Block" "width" "I" "TableFinder", .fieldLinkNest "TableFinder$Search" 50 "TableFinder$Block" "plainCount" "I" "TableFinder", .fieldLinkNest "TableFinder$Search" 53 "TableFinder$Found" "plainLines" "I" "TableFinder", .fieldLinkNest "TableFinder$Search" 58 "TableFinder$Block" "rules" "I" "TableFinder", .fieldLinkNest "TableFinder$Search" 61 "TableFinder$Found" "rules" "I" "TableFinder", .fieldLinkNest "TableFinder$Search" 62 "TableFinder$Found" "joinedLines" "I" "TableFinder", .fieldLinkNest "TableFinder$Search" 78 "TableFinder$Found" "best" "I" "TableFinder", .fieldLinkNest "TableFinder$Search" 81 "TableFinder$Found" "next" "I" "TableFinder", .fieldLinkNest "TableFinder$Search" 84 "TableFinder$Found" "columns" "I" "TableFinder", .fieldLinkNest "TableFinder$Search" 87 "TableFinder$Found" "cuts" "[I" "TableFinder", .fieldLinkNest "TableFinder$Table" 46 "TableFinder$Found" "columns" "I" "TableFinder", .fieldLinkNest "TableFinder$Table" 53 "TableFinder$Block" "plainCount" "I" "TableFinder", .fieldLinkNest "TableFinder$Table" 62 "TableFinder$Found" "cuts" "[I" "TableFinder", .fieldLinkNest "TableFinder$Table" 79 "TableFinder$Found" "joinedLines" "I" "TableFinder"]
def zNW (U : State) : Prop := ∀ w ∈ zNest ++ zNestF, va_Nw w U
def zNf (w : Cond) : Bool := match w with
  | .methodLinkNest _ _ _ _ => true
  | .fieldLinkNest _ _ _ _ _ _ => true
  | _ => false
theorem zNest_form : ∀ w ∈ zNest ++ zNestF, zNf w = true := by decide +kernel
theorem zNW.warm {s U : State} (hW : s.WarmedH U.vm) (h : zNW s) : zNW U := by
  intro w hw
  have h1 := h w hw
  have h2 := zNest_form w hw
  cases w <;> first | exact va_Nw.warmM hW h1 | exact va_Nw.warmF hW h1 | cases h2
theorem zNW.same {s U : State} (hW : s.vm = U.vm) (h : zNW s) : zNW U := by
  intro w hw
  have h1 := h w hw
  have h2 := zNest_form w hw
  cases w <;> first | exact va_Nw.same rfl hW h1 | cases h2
theorem zNW.m {s : State} {w : Cond} (h : zNW s) (hw : w ∈ zNest) : va_Nw w s := h w (List.mem_append_left _ hw)
theorem zNW.f {s : State} {w : Cond} (h : zNW s) (hw : w ∈ zNestF) : va_Nw w s := h w (List.mem_append_right _ hw)
/-- a method's walk: all that its frame stands on -/
abbrev zX : Type := (Program × Launch × Env × Room) × (State × MethodId × Array Value × List Frame × Method × Code) × (State → Prop) × (Nat → Prop) × Nat
def zL (X : zX) : Launch := X.1.2.1
def zF (X : zX) (D : va_G) (aI aZ : ClassId) (cc : ByteArray) (nL : Nat) (own : String) (Ts : List Cond) (rm : Room) : Prop :=
  match X with
  | ((p, _, _, R), (s, m, args, _, _, c), _, A, n) => p.tables.exec = Jvm.exec ∧ c.code = cc ∧ c.maxLocals = nL ∧ s.vm.findClass own = some m.cls ∧ (∀ w ∈ Ts, w.before args s = true) ∧ va_K D vwCl [(aI, .int), (aZ, .boolean)] s ∧ (∀ q, s.heap.size ≤ q → A q) ∧ zNW s ∧ R = rm ∧ n = nL
def zG (X : zX) (D : va_G) (k n : Nat) (ws : va_W) (pc : Nat) (lv : List (Nat × Value)) (st : List Value) : Prop :=
  match X with
  | ((p, l, e, R), (s, m, args, below, meth, c), Q, A, nL) => ∀ (H : Heap) (locs : List Loc) (ls : Array Slot), va_P D vwCl ws H → va_D A ws → va_S A s.heap H locs → lv_has ls nL lv → W p l e R s m args below meth c H locs k n Q (F0 m pc ls st)
def zd (cc : ByteArray) (pc : Nat) (i : Instr) (n pc' : Nat) : Prop := decode cc pc = .ok (i, n) ∧ pc + n = pc'
def zPost (D : va_G) (w0 : va_W) (sz : Nat) (Qp : Option Value → va_W → Prop) : Array Value → State → Outcome → State → Prop := fun _ st oc t => (∃ rv w1, oc = .returned rv ∧ Qp rv w1 ∧ va_P D vwCl w1 t.heap ∧ va_D (va_A w0 sz) w1) ∧ va_F (va_A w0 sz) st t
def zPre (D : va_G) (aI aZ : ClassId) (w0 : va_W) (sz : Nat) (U : State) : Prop := U.heap.size = sz ∧ va_P D vwCl w0 U.heap ∧ va_K D vwCl [(aI, .int), (aZ, .boolean)] U ∧ va_D (fun _ => True) w0 ∧ zNW U
/-- a contract: with these arguments over these cells it returns what Qp says of the answer and the cells behind it -/
def zC (l : Launch) (D : va_G) (aI aZ : ClassId) (y : MethodName) (Ts : List Cond) (rm : Room) (av : List Value) (w0 : va_W) (Qp : Option Value → va_W → Prop) (mc ms : Nat) : Prop :=
  ∀ sz : Nat, Met l y Ts rm (va_Pc av (zPre D aI aZ w0 sz)) (zPost D w0 sz Qp) mc ms (va_A w0 sz)
def zT (X : zX) (D : va_G) (w0 : va_W) (Qp : Option Value → va_W → Prop) (mc ms : Nat) (ret : Option FieldType) : Prop :=
  match X with
  | (_, (s, _, args, below, meth, _), Q, A, _) => Q = MQ below (zPost D w0 s.heap.size Qp) args s mc ms (va_A w0 s.heap.size) ∧ A = va_A w0 s.heap.size ∧ meth.sig.returnType = ret ∧ meth.locks = false
theorem zmap_filter {α β : Type} {f : α → Option β} {is : List α} {ws : List β} (h : is.map f = ws.map some) : is.filterMap f = ws := by
  induction is generalizing ws with
  | nil => cases ws with
    | nil => rfl
    | cons a l => cases h
  | cons i is ih => cases ws with
    | nil => cases h
    | cons a l =>
      simp only [List.map_cons, List.cons.injEq] at h
      rw [List.filterMap_cons, h.1]
      exact congrArg (a :: ·) (ih h.2)
theorem z_met {l : Launch} {D : va_G} {aI aZ : ClassId} {y : MethodName} {cc : ByteArray} {maxL : Nat} {ret : Option FieldType} {ws' : List Cond} {Ts : List Cond} {rm : Room} {av : List Value} {w0 : va_W} {Qp : Option Value → va_W → Prop} {mc ms : Nat}
    (hy : plainName y.cls = true) (hw : Ts = Cond.code y cc maxL ret :: ws') (hn : (lg_sl av).length ≤ maxL)
    (body : ∀ X : zX, zL X = l → zF X D aI aZ cc maxL y.cls Ts rm → zT X D w0 Qp mc ms ret → zG X D 0 0 w0 0 (lv_args 0 av) []) : zC l D aI aZ y Ts rm av w0 Qp mc ms := by
  intro sz
  refine Met.ofW hy hw ?_
  intro p e s m args below meth c s₁ B hml hv
  obtain ⟨rfl, hsz, hP, hK, hD0, hN⟩ := hv
  have hts := atoms_spec (ws := Ts) B.pre
  have hown : s.vm.findClass y.cls = some m.cls := findClass_of_methodNamed B.named
  subst hsz
  have hl := lv_entry av hn
  rw [lg_entry_eq]
  exact body ((p, l, e, rm), (s, m, av.toArray, below, meth, c), MQ below (zPost D w0 s.heap.size Qp) av.toArray s mc ms (va_A w0 s.heap.size), va_A w0 s.heap.size, maxL) rfl
    ⟨B.exec, B.bytes, hml, hown, hts, hK, fun q h => Or.inr h, hN, rfl, rfl⟩ ⟨rfl, rfl, B.returns, B.notSynchronized⟩ s.heap [] _ hP hD0.self va_S.rf hl
section ZR
variable {X : zX} {D : va_G} {aI aZ : ClassId} {cc : ByteArray} {nL : Nat} {own : String} {Ts : List Cond} {rm : Room} {k n pc pc' : Nat} {ws : va_W} {lv : List (Nat × Value)} {st : List Value}
theorem z_iload_n {i : Fin 4} {x : Int} (j : Nat) (F : zF X D aI aZ cc nL own Ts rm) (hd : zd cc pc (.iload_n i) 1 pc') (hl : lv[j]? = some ((i : Nat), .int (zI x))) (g : zG X D k n ws pc' lv (.int (zI x) :: st)) : zG X D k n ws pc lv st := by
  obtain ⟨⟨p, l, e, R⟩, ⟨s, m, args, below, meth, c⟩, Q, A, nL'⟩ := X
  obtain ⟨hx, hb, -⟩ := F
  intro H locs ls hP hD hS hls
  refine lv_iload_n hx hb hd.1 rfl (lv_at hls j hl) ?_
  rw [hd.2]
  exact g H locs ls hP hD hS hls
theorem z_iload {i : Nat} {x : Int} (j : Nat) (F : zF X D aI aZ cc nL own Ts rm) (hd : zd cc pc (.iload i) 2 pc') (hl : lv[j]? = some (i, .int (zI x))) (g : zG X D k n ws pc' lv (.int (zI x) :: st)) : zG X D k n ws pc lv st := by
  obtain ⟨⟨p, l, e, R⟩, ⟨s, m, args, below, meth, c⟩, Q, A, nL'⟩ := X
  obtain ⟨hx, hb, -⟩ := F
  intro H locs ls hP hD hS hls
  refine lv_iload hx hb hd.1 (lv_at hls j hl) ?_
  rw [hd.2]
  exact g H locs ls hP hD hS hls
theorem z_lload_n {i : Fin 4} {x : Int} (j : Nat) (F : zF X D aI aZ cc nL own Ts rm) (hd : zd cc pc (.lload_n i) 1 pc') (hl : lv[j]? = some ((i : Nat), .long (zJ x))) (g : zG X D k n ws pc' lv (.long (zJ x) :: st)) : zG X D k n ws pc lv st := by
  obtain ⟨⟨p, l, e, R⟩, ⟨s, m, args, below, meth, c⟩, Q, A, nL'⟩ := X
  obtain ⟨hx, hb, -⟩ := F
  intro H locs ls hP hD hS hls
  refine lv_lload_n hx hb hd.1 rfl (lv_at hls j hl) ?_
  rw [hd.2]
  exact g H locs ls hP hD hS hls
theorem z_lload {i : Nat} {x : Int} (j : Nat) (F : zF X D aI aZ cc nL own Ts rm) (hd : zd cc pc (.lload i) 2 pc') (hl : lv[j]? = some (i, .long (zJ x))) (g : zG X D k n ws pc' lv (.long (zJ x) :: st)) : zG X D k n ws pc lv st := by
  obtain ⟨⟨p, l, e, R⟩, ⟨s, m, args, below, meth, c⟩, Q, A, nL'⟩ := X
  obtain ⟨hx, hb, -⟩ := F
  intro H locs ls hP hD hS hls
  refine lv_lload hx hb hd.1 (lv_at hls j hl) ?_
  rw [hd.2]
  exact g H locs ls hP hD hS hls
theorem z_aload_n {i : Fin 4} {x : Nat} (j : Nat) (F : zF X D aI aZ cc nL own Ts rm) (hd : zd cc pc (.aload_n i) 1 pc') (hl : lv[j]? = some ((i : Nat), .ref x)) (g : zG X D k n ws pc' lv (.ref x :: st)) : zG X D k n ws pc lv st := by
  obtain ⟨⟨p, l, e, R⟩, ⟨s, m, args, below, meth, c⟩, Q, A, nL'⟩ := X
  obtain ⟨hx, hb, -⟩ := F
  intro H locs ls hP hD hS hls
  refine lv_aload_n hx hb hd.1 rfl (lv_at hls j hl) ?_
  rw [hd.2]
  exact g H locs ls hP hD hS hls
theorem z_istore_n {i : Fin 4} {x : Int} {lv' : List (Nat × Value)} (F : zF X D aI aZ cc nL own Ts rm) (hd : zd cc pc (.istore_n i) 1 pc') (hi : (i : Nat) < nL) (hl : ((i : Nat), Value.int (zI x)) :: lv.filter (fun q => !(q.1 == (i : Nat)) && !(q.1 + 1 == (i : Nat) && q.2.category == 2)) = lv') (g : zG X D k n ws pc' lv' st) : zG X D k n ws pc lv (.int (zI x) :: st) := by
  obtain ⟨⟨p, l, e, R⟩, ⟨s, m, args, below, meth, c⟩, Q, A, nL'⟩ := X
  obtain ⟨hx, hb, -, -, -, -, -, -, -, rfl⟩ := F
  intro H locs ls hP hD hS hls
  refine lv_istore_n hx hb hd.1 rfl hls hi hl (fun ls' hls' => ?_)
  rw [hd.2]
  exact g H locs ls' hP hD hS hls'
theorem z_istore {i : Nat} {x : Int} {lv' : List (Nat × Value)} (F : zF X D aI aZ cc nL own Ts rm) (hd : zd cc pc (.istore i) 2 pc') (hi : i < nL) (hl : (i, Value.int (zI x)) :: lv.filter (fun q => !(q.1 == i) && !(q.1 + 1 == i && q.2.category == 2)) = lv') (g : zG X D k n ws pc' lv' st) : zG X D k n ws pc lv (.int (zI x) :: st) := by
  obtain ⟨⟨p, l, e, R⟩, ⟨s, m, args, below, meth, c⟩, Q, A, nL'⟩ := X
  obtain ⟨hx, hb, -, -, -, -, -, -, -, rfl⟩ := F
  intro H locs ls hP hD hS hls
  refine lv_istore hx hb hd.1 hls hi hl (fun ls' hls' => ?_)
  rw [hd.2]
  exact g H locs ls' hP hD hS hls'
theorem z_lstore_n {i : Fin 4} {x : Int} {lv' : List (Nat × Value)} (F : zF X D aI aZ cc nL own Ts rm) (hd : zd cc pc (.lstore_n i) 1 pc') (hi : (i : Nat) + 1 < nL) (hl : ((i : Nat), Value.long (zJ x)) :: lv.filter (fun q => !(q.1 == (i : Nat)) && (!(q.1 == (i : Nat) + 1) && !(q.1 + 1 == (i : Nat) && q.2.category == 2))) = lv') (g : zG X D k n ws pc' lv' st) : zG X D k n ws pc lv (.long (zJ x) :: st) := by
  obtain ⟨⟨p, l, e, R⟩, ⟨s, m, args, below, meth, c⟩, Q, A, nL'⟩ := X
  obtain ⟨hx, hb, -, -, -, -, -, -, -, rfl⟩ := F
  intro H locs ls hP hD hS hls
  refine lv_lstore_n hx hb hd.1 rfl hls hi hl (fun ls' hls' => ?_)
  rw [hd.2]
  exact g H locs ls' hP hD hS hls'
theorem z_astore_n {i : Fin 4} {x : Nat} {lv' : List (Nat × Value)} (F : zF X D aI aZ cc nL own Ts rm) (hd : zd cc pc (.astore_n i) 1 pc') (hi : (i : Nat) < nL) (hl : ((i : Nat), Value.ref x) :: lv.filter (fun q => !(q.1 == (i : Nat)) && !(q.1 + 1 == (i : Nat) && q.2.category == 2)) = lv') (g : zG X D k n ws pc' lv' st) : zG X D k n ws pc lv (.ref x :: st) := by
  obtain ⟨⟨p, l, e, R⟩, ⟨s, m, args, below, meth, c⟩, Q, A, nL'⟩ := X
  obtain ⟨hx, hb, -, -, -, -, -, -, -, rfl⟩ := F
  intro H locs ls hP hD hS hls
  refine lv_astore_n hx hb hd.1 rfl hls hi hl (fun ls' hls' => ?_)
  rw [hd.2]
  exact g H locs ls' hP hD hS hls'
theorem z_iinc {i : Nat} {d : Int} {x : Int} {lv' : List (Nat × Value)} (j : Nat) (F : zF X D aI aZ cc nL own Ts rm) (hd : zd cc pc (.iinc i d) 3 pc') (hj : lv[j]? = some (i, .int (zI x))) (hi : i < nL) (hl : (i, Value.int (zI (x + d))) :: lv.filter (fun q => !(q.1 == i) && !(q.1 + 1 == i && q.2.category == 2)) = lv') (g : zG X D k n ws pc' lv' st) : zG X D k n ws pc lv st := by
  obtain ⟨⟨p, l, e, R⟩, ⟨s, m, args, below, meth, c⟩, Q, A, nL'⟩ := X
  obtain ⟨hx, hb, -, -, -, -, -, -, -, rfl⟩ := F
  intro H locs ls hP hD hS hls
  refine lv_iinc hx hb hd.1 hls hj (zI_add x d) hi hl (fun ls' hls' => ?_)
  rw [hd.2]
  exact g H locs ls' hP hD hS hls'
theorem z_iconst {d : Int} (F : zF X D aI aZ cc nL own Ts rm) (hd : zd cc pc (.iconst d) 1 pc') (g : zG X D k n ws pc' lv (.int (zI d) :: st)) : zG X D k n ws pc lv st := by
  obtain ⟨⟨p, l, e, R⟩, ⟨s, m, args, below, meth, c⟩, Q, A, nL'⟩ := X
  obtain ⟨hx, hb, -⟩ := F
  intro H locs ls hP hD hS hls
  refine lv_iconst hx hb hd.1 (v := zI d) rfl ?_
  rw [hd.2]
  exact g H locs ls hP hD hS hls
theorem z_lconst {d : Fin 2} {x : Int} (F : zF X D aI aZ cc nL own Ts rm) (hd : zd cc pc (.lconst d) 1 pc') (hv : Int64.ofNat (d : Nat) = zJ x) (g : zG X D k n ws pc' lv (.long (zJ x) :: st)) : zG X D k n ws pc lv st := by
  obtain ⟨⟨p, l, e, R⟩, ⟨s, m, args, below, meth, c⟩, Q, A, nL'⟩ := X
  obtain ⟨hx, hb, -⟩ := F
  intro H locs ls hP hD hS hls
  refine lv_lconst hx hb hd.1 hv ?_
  rw [hd.2]
  exact g H locs ls hP hD hS hls
theorem z_bipush {d : Int} (F : zF X D aI aZ cc nL own Ts rm) (hd : zd cc pc (.bipush d) 2 pc') (hv : (Int8.ofInt d).toInt32 = zI d) (g : zG X D k n ws pc' lv (.int (zI d) :: st)) : zG X D k n ws pc lv st := by
  obtain ⟨⟨p, l, e, R⟩, ⟨s, m, args, below, meth, c⟩, Q, A, nL'⟩ := X
  obtain ⟨hx, hb, -⟩ := F
  intro H locs ls hP hD hS hls
  refine lv_bipush hx hb hd.1 hv ?_
  rw [hd.2]
  exact g H locs ls hP hD hS hls
theorem z_sipush {d : Int} (F : zF X D aI aZ cc nL own Ts rm) (hd : zd cc pc (.sipush d) 3 pc') (hv : (Int16.ofInt d).toInt32 = zI d) (g : zG X D k n ws pc' lv (.int (zI d) :: st)) : zG X D k n ws pc lv st := by
  obtain ⟨⟨p, l, e, R⟩, ⟨s, m, args, below, meth, c⟩, Q, A, nL'⟩ := X
  obtain ⟨hx, hb, -⟩ := F
  intro H locs ls hP hD hS hls
  refine lv_sipush hx hb hd.1 hv ?_
  rw [hd.2]
  exact g H locs ls hP hD hS hls
theorem z_ldc {ix : Nat} {x : Int} {x' : Int32} (F : zF X D aI aZ cc nL own Ts rm) (hd : zd cc pc (.ldc ix) 2 pc') (hc : Cond.constant own ix x' ∈ Ts) (hv : x' = zI x) (g : zG X D k n ws pc' lv (.int (zI x) :: st)) : zG X D k n ws pc lv st := by
  obtain ⟨⟨p, l, e, R⟩, ⟨s, m, args, below, meth, c⟩, Q, A, nL'⟩ := X
  obtain ⟨hx, hb, -, hown, hts, -⟩ := F
  intro H locs ls hP hD hS hls
  refine lv_ldc hx hb hown (hts _ hc) hd.1 ?_
  rw [hd.2, hv]
  exact g H locs ls hP hD hS hls
theorem z_ldc2 {ix : Nat} {x : Int} {x' : Int64} (F : zF X D aI aZ cc nL own Ts rm) (hd : zd cc pc (.ldc2_w ix) 3 pc') (hc : Cond.constantLong own ix x' ∈ Ts) (hv : x' = zJ x) (g : zG X D k n ws pc' lv (.long (zJ x) :: st)) : zG X D k n ws pc lv st := by
  obtain ⟨⟨p, l, e, R⟩, ⟨s, m, args, below, meth, c⟩, Q, A, nL'⟩ := X
  obtain ⟨hx, hb, -, hown, hts, -⟩ := F
  intro H locs ls hP hD hS hls
  refine lv_ldc2 hx hb hown (hts _ hc) hd.1 ?_
  rw [hd.2, hv]
  exact g H locs ls hP hD hS hls
theorem z_iadd {x y : Int} (F : zF X D aI aZ cc nL own Ts rm) (hd : zd cc pc .iadd 1 pc') (g : zG X D k n ws pc' lv (.int (zI (x + y)) :: st)) : zG X D k n ws pc lv (.int (zI y) :: .int (zI x) :: st) := by
  obtain ⟨⟨p, l, e, R⟩, ⟨s, m, args, below, meth, c⟩, Q, A, nL'⟩ := X
  obtain ⟨hx, hb, -⟩ := F
  intro H locs ls hP hD hS hls
  refine lv_iadd hx hb hd.1 ?_
  rw [hd.2, zI_add]
  exact g H locs ls hP hD hS hls
theorem z_isub {x y : Int} (F : zF X D aI aZ cc nL own Ts rm) (hd : zd cc pc .isub 1 pc') (g : zG X D k n ws pc' lv (.int (zI (x - y)) :: st)) : zG X D k n ws pc lv (.int (zI y) :: .int (zI x) :: st) := by
  obtain ⟨⟨p, l, e, R⟩, ⟨s, m, args, below, meth, c⟩, Q, A, nL'⟩ := X
  obtain ⟨hx, hb, -⟩ := F
  intro H locs ls hP hD hS hls
  refine lv_isub hx hb hd.1 ?_
  rw [hd.2, zI_sub]
  exact g H locs ls hP hD hS hls
theorem z_imul {x y : Int} (F : zF X D aI aZ cc nL own Ts rm) (hd : zd cc pc .imul 1 pc') (g : zG X D k n ws pc' lv (.int (zI (x * y)) :: st)) : zG X D k n ws pc lv (.int (zI y) :: .int (zI x) :: st) := by
  obtain ⟨⟨p, l, e, R⟩, ⟨s, m, args, below, meth, c⟩, Q, A, nL'⟩ := X
  obtain ⟨hx, hb, -⟩ := F
  intro H locs ls hP hD hS hls
  refine lv_imul hx hb hd.1 ?_
  rw [hd.2, zI_mul]
  exact g H locs ls hP hD hS hls
theorem z_ineg {x : Int} (F : zF X D aI aZ cc nL own Ts rm) (hd : zd cc pc .ineg 1 pc') (g : zG X D k n ws pc' lv (.int (zI (-x)) :: st)) : zG X D k n ws pc lv (.int (zI x) :: st) := by
  obtain ⟨⟨p, l, e, R⟩, ⟨s, m, args, below, meth, c⟩, Q, A, nL'⟩ := X
  obtain ⟨hx, hb, -⟩ := F
  intro H locs ls hP hD hS hls
  refine lv_ineg hx hb hd.1 ?_
  rw [hd.2, zI_neg]
  exact g H locs ls hP hD hS hls
theorem z_iand {x y : Int} (F : zF X D aI aZ cc nL own Ts rm) (hd : zd cc pc .iand 1 pc') (g : zG X D k n ws pc' lv (.int (zI (zand x y)) :: st)) : zG X D k n ws pc lv (.int (zI y) :: .int (zI x) :: st) := by
  obtain ⟨⟨p, l, e, R⟩, ⟨s, m, args, below, meth, c⟩, Q, A, nL'⟩ := X
  obtain ⟨hx, hb, -⟩ := F
  intro H locs ls hP hD hS hls
  refine lv_iand hx hb hd.1 ?_
  rw [zand, zI_of] at g
  rw [hd.2]
  exact g H locs ls hP hD hS hls
theorem z_ishr {x y : Int} (F : zF X D aI aZ cc nL own Ts rm) (hd : zd cc pc .ishr 1 pc') (g : zG X D k n ws pc' lv (.int (zI (zishr x y)) :: st)) : zG X D k n ws pc lv (.int (zI y) :: .int (zI x) :: st) := by
  obtain ⟨⟨p, l, e, R⟩, ⟨s, m, args, below, meth, c⟩, Q, A, nL'⟩ := X
  obtain ⟨hx, hb, -⟩ := F
  intro H locs ls hP hD hS hls
  refine lv_ishr hx hb hd.1 ?_
  rw [zishr, zI_of] at g
  rw [hd.2]
  exact g H locs ls hP hD hS hls
theorem z_iushr {x y : Int} (F : zF X D aI aZ cc nL own Ts rm) (hd : zd cc pc .iushr 1 pc') (g : zG X D k n ws pc' lv (.int (zI (ziushr x y)) :: st)) : zG X D k n ws pc lv (.int (zI y) :: .int (zI x) :: st) := by
  obtain ⟨⟨p, l, e, R⟩, ⟨s, m, args, below, meth, c⟩, Q, A, nL'⟩ := X
  obtain ⟨hx, hb, -⟩ := F
  intro H locs ls hP hD hS hls
  refine lv_iushr hx hb hd.1 rfl ?_
  rw [ziushr, zI_of] at g
  rw [hd.2]
  exact g H locs ls hP hD hS hls
theorem z_i2l {x : Int} (F : zF X D aI aZ cc nL own Ts rm) (hd : zd cc pc .i2l 1 pc') (g : zG X D k n ws pc' lv (.long (zJ (zw32 x)) :: st)) : zG X D k n ws pc lv (.int (zI x) :: st) := by
  obtain ⟨⟨p, l, e, R⟩, ⟨s, m, args, below, meth, c⟩, Q, A, nL'⟩ := X
  obtain ⟨hx, hb, -⟩ := F
  intro H locs ls hP hD hS hls
  refine lv_i2l hx hb hd.1 (v := zJ (zw32 x)) (by unfold zJ zw32; rw [Int64.ofInt_int32ToInt]) ?_
  rw [hd.2]
  exact g H locs ls hP hD hS hls
theorem z_l2i {x : Int} (F : zF X D aI aZ cc nL own Ts rm) (hd : zd cc pc .l2i 1 pc') (g : zG X D k n ws pc' lv (.int (zI x) :: st)) : zG X D k n ws pc lv (.long (zJ x) :: st) := by
  obtain ⟨⟨p, l, e, R⟩, ⟨s, m, args, below, meth, c⟩, Q, A, nL'⟩ := X
  obtain ⟨hx, hb, -⟩ := F
  intro H locs ls hP hD hS hls
  refine lv_l2i hx hb hd.1 (v := zI x) (by unfold zJ zI; rw [Int64.toInt32_ofInt]) ?_
  rw [hd.2]
  exact g H locs ls hP hD hS hls
theorem z_ladd {x y : Int} (F : zF X D aI aZ cc nL own Ts rm) (hd : zd cc pc .ladd 1 pc') (g : zG X D k n ws pc' lv (.long (zJ (x + y)) :: st)) : zG X D k n ws pc lv (.long (zJ y) :: .long (zJ x) :: st) := by
  obtain ⟨⟨p, l, e, R⟩, ⟨s, m, args, below, meth, c⟩, Q, A, nL'⟩ := X
  obtain ⟨hx, hb, -⟩ := F
  intro H locs ls hP hD hS hls
  refine lv_ladd hx hb hd.1 ?_
  rw [hd.2, zJ_add]
  exact g H locs ls hP hD hS hls
theorem z_land {x y : Int} (F : zF X D aI aZ cc nL own Ts rm) (hd : zd cc pc .land 1 pc') (g : zG X D k n ws pc' lv (.long (zJ (zland x y)) :: st)) : zG X D k n ws pc lv (.long (zJ y) :: .long (zJ x) :: st) := by
  obtain ⟨⟨p, l, e, R⟩, ⟨s, m, args, below, meth, c⟩, Q, A, nL'⟩ := X
  obtain ⟨hx, hb, -⟩ := F
  intro H locs ls hP hD hS hls
  refine lv_land hx hb hd.1 ?_
  rw [zland, zJ_of] at g
  rw [hd.2]
  exact g H locs ls hP hD hS hls
theorem z_lor {x y : Int} (F : zF X D aI aZ cc nL own Ts rm) (hd : zd cc pc .lor 1 pc') (g : zG X D k n ws pc' lv (.long (zJ (zlor x y)) :: st)) : zG X D k n ws pc lv (.long (zJ y) :: .long (zJ x) :: st) := by
  obtain ⟨⟨p, l, e, R⟩, ⟨s, m, args, below, meth, c⟩, Q, A, nL'⟩ := X
  obtain ⟨hx, hb, -⟩ := F
  intro H locs ls hP hD hS hls
  refine lv_lor hx hb hd.1 ?_
  rw [zlor, zJ_of] at g
  rw [hd.2]
  exact g H locs ls hP hD hS hls
theorem z_lshl {x y : Int} (F : zF X D aI aZ cc nL own Ts rm) (hd : zd cc pc .lshl 1 pc') (g : zG X D k n ws pc' lv (.long (zJ (zlshl x y)) :: st)) : zG X D k n ws pc lv (.int (zI y) :: .long (zJ x) :: st) := by
  obtain ⟨⟨p, l, e, R⟩, ⟨s, m, args, below, meth, c⟩, Q, A, nL'⟩ := X
  obtain ⟨hx, hb, -⟩ := F
  intro H locs ls hP hD hS hls
  refine lv_lshl hx hb hd.1 rfl ?_
  rw [zlshl, zJ_of] at g
  rw [hd.2]
  exact g H locs ls hP hD hS hls
theorem z_lshr {x y : Int} (F : zF X D aI aZ cc nL own Ts rm) (hd : zd cc pc .lshr 1 pc') (g : zG X D k n ws pc' lv (.long (zJ (zlshr x y)) :: st)) : zG X D k n ws pc lv (.int (zI y) :: .long (zJ x) :: st) := by
  obtain ⟨⟨p, l, e, R⟩, ⟨s, m, args, below, meth, c⟩, Q, A, nL'⟩ := X
  obtain ⟨hx, hb, -⟩ := F
  intro H locs ls hP hD hS hls
  refine lv_lshr hx hb hd.1 rfl ?_
  rw [zlshr, zJ_of] at g
  rw [hd.2]
  exact g H locs ls hP hD hS hls
theorem z_lushr {x y : Int} (F : zF X D aI aZ cc nL own Ts rm) (hd : zd cc pc .lushr 1 pc') (g : zG X D k n ws pc' lv (.long (zJ (zlushr x y)) :: st)) : zG X D k n ws pc lv (.int (zI y) :: .long (zJ x) :: st) := by
  obtain ⟨⟨p, l, e, R⟩, ⟨s, m, args, below, meth, c⟩, Q, A, nL'⟩ := X
  obtain ⟨hx, hb, -⟩ := F
  intro H locs ls hP hD hS hls
  refine lv_lushr hx hb hd.1 rfl ?_
  rw [zlushr, zJ_of] at g
  rw [hd.2]
  exact g H locs ls hP hD hS hls
theorem z_lcmp {x y : Int} (F : zF X D aI aZ cc nL own Ts rm) (hd : zd cc pc .lcmp 1 pc') (g : zG X D k n ws pc' lv (.int (zI (zlcmp x y)) :: st)) : zG X D k n ws pc lv (.long (zJ y) :: .long (zJ x) :: st) := by
  obtain ⟨⟨p, l, e, R⟩, ⟨s, m, args, below, meth, c⟩, Q, A, nL'⟩ := X
  obtain ⟨hx, hb, -⟩ := F
  intro H locs ls hP hD hS hls
  refine W.lcmp hx hb hd.1 ?_
  rw [zlcmp, zI_of] at g
  rw [hd.2]
  exact g H locs ls hP hD hS hls
theorem z_dup {v : Value} (F : zF X D aI aZ cc nL own Ts rm) (hd : zd cc pc .dup 1 pc') (hv : v.category = 1) (g : zG X D k n ws pc' lv (v :: v :: st)) : zG X D k n ws pc lv (v :: st) := by
  obtain ⟨⟨p, l, e, R⟩, ⟨s, m, args, below, meth, c⟩, Q, A, nL'⟩ := X
  obtain ⟨hx, hb, -⟩ := F
  intro H locs ls hP hD hS hls
  refine lv_dup hx hb hd.1 hv ?_
  rw [hd.2]
  exact g H locs ls hP hD hS hls
theorem z_dup2 {v w : Value} (F : zF X D aI aZ cc nL own Ts rm) (hd : zd cc pc .dup2 1 pc') (hv : v.category = 1) (hw : w.category = 1) (g : zG X D k n ws pc' lv (v :: w :: v :: w :: st)) : zG X D k n ws pc lv (v :: w :: st) := by
  obtain ⟨⟨p, l, e, R⟩, ⟨s, m, args, below, meth, c⟩, Q, A, nL'⟩ := X
  obtain ⟨hx, hb, -⟩ := F
  intro H locs ls hP hD hS hls
  refine lv_dup2_11 hx hb hd.1 hv hw ?_
  rw [hd.2]
  exact g H locs ls hP hD hS hls
theorem z_pop {v : Value} (F : zF X D aI aZ cc nL own Ts rm) (hd : zd cc pc .pop 1 pc') (hv : v.category = 1) (g : zG X D k n ws pc' lv st) : zG X D k n ws pc lv (v :: st) := by
  obtain ⟨⟨p, l, e, R⟩, ⟨s, m, args, below, meth, c⟩, Q, A, nL'⟩ := X
  obtain ⟨hx, hb, -⟩ := F
  intro H locs ls hP hD hS hls
  refine lv_pop hx hb hd.1 hv ?_
  rw [hd.2]
  exact g H locs ls hP hD hS hls
theorem z_goto {off : Int} {tgt : Nat} (F : zF X D aI aZ cc nL own Ts rm) (hd : zd cc pc (.goto off) 3 pc') (ht : (pc : Int) + off = (tgt : Int)) (g : zG X D k n ws tgt lv st) : zG X D k n ws pc lv st := by
  obtain ⟨⟨p, l, e, R⟩, ⟨s, m, args, below, meth, c⟩, Q, A, nL'⟩ := X
  obtain ⟨hx, hb, -⟩ := F
  intro H locs ls hP hD hS hls
  exact lv_goto hx hb hd.1 ht (g H locs ls hP hD hS hls)
theorem zle {x y : Int} (h : zI x ≤ zI y) : ¬ zI y < zI x := Int32.not_lt.mpr h
theorem z_icmp_lt {x y : Int} {off : Int} {tgt : Nat} (F : zF X D aI aZ cc nL own Ts rm) (hd : zd cc pc (.if_icmp .lt off) 3 pc') (ht : (pc : Int) + off = (tgt : Int)) (gt : zI x < zI y → zG X D k n ws tgt lv st) (gf : ¬ zI x < zI y → zG X D k n ws pc' lv st) : zG X D k n ws pc lv (.int (zI y) :: .int (zI x) :: st) := by
  obtain ⟨⟨p, l, e, R⟩, ⟨s, m, args, below, meth, c⟩, Q, A, nL'⟩ := X
  obtain ⟨hx, hb, -⟩ := F
  intro H locs ls hP hD hS hls
  refine lv_icmp_lt hx hb hd.1 ht (fun h => gt h H locs ls hP hD hS hls) (fun h => ?_)
  rw [hd.2]
  exact gf (by first | exact h | exact zle h | exact Int32.not_lt.mpr h | exact fun q => h (Int32.not_lt.mp q)) H locs ls hP hD hS hls
theorem z_icmp_ge {x y : Int} {off : Int} {tgt : Nat} (F : zF X D aI aZ cc nL own Ts rm) (hd : zd cc pc (.if_icmp .ge off) 3 pc') (ht : (pc : Int) + off = (tgt : Int)) (gt : ¬ zI x < zI y → zG X D k n ws tgt lv st) (gf : zI x < zI y → zG X D k n ws pc' lv st) : zG X D k n ws pc lv (.int (zI y) :: .int (zI x) :: st) := by
  obtain ⟨⟨p, l, e, R⟩, ⟨s, m, args, below, meth, c⟩, Q, A, nL'⟩ := X
  obtain ⟨hx, hb, -⟩ := F
  intro H locs ls hP hD hS hls
  refine lv_icmp_ge hx hb hd.1 ht (fun h => gt (by first | exact zle h | exact h) H locs ls hP hD hS hls) (fun h => ?_)
  rw [hd.2]
  exact gf (by first | exact h | exact Int32.not_le.mp h | exact Decidable.byContradiction fun q => h (Int32.not_lt.mp q)) H locs ls hP hD hS hls
theorem z_icmp_gt {x y : Int} {off : Int} {tgt : Nat} (F : zF X D aI aZ cc nL own Ts rm) (hd : zd cc pc (.if_icmp .gt off) 3 pc') (ht : (pc : Int) + off = (tgt : Int)) (gt : zI y < zI x → zG X D k n ws tgt lv st) (gf : ¬ zI y < zI x → zG X D k n ws pc' lv st) : zG X D k n ws pc lv (.int (zI y) :: .int (zI x) :: st) := by
  obtain ⟨⟨p, l, e, R⟩, ⟨s, m, args, below, meth, c⟩, Q, A, nL'⟩ := X
  obtain ⟨hx, hb, -⟩ := F
  intro H locs ls hP hD hS hls
  refine lv_icmp_gt hx hb hd.1 ht (fun h => gt h H locs ls hP hD hS hls) (fun h => ?_)
  rw [hd.2]
  exact gf (by first | exact h | exact zle h) H locs ls hP hD hS hls
theorem z_icmp_le {x y : Int} {off : Int} {tgt : Nat} (F : zF X D aI aZ cc nL own Ts rm) (hd : zd cc pc (.if_icmp .le off) 3 pc') (ht : (pc : Int) + off = (tgt : Int)) (gt : ¬ zI y < zI x → zG X D k n ws tgt lv st) (gf : zI y < zI x → zG X D k n ws pc' lv st) : zG X D k n ws pc lv (.int (zI y) :: .int (zI x) :: st) := by
  obtain ⟨⟨p, l, e, R⟩, ⟨s, m, args, below, meth, c⟩, Q, A, nL'⟩ := X
  obtain ⟨hx, hb, -⟩ := F
  intro H locs ls hP hD hS hls
  refine lv_icmp_le hx hb hd.1 ht (fun h => gt (by first | exact zle h | exact h) H locs ls hP hD hS hls) (fun h => ?_)
  rw [hd.2]
  exact gf (by first | exact h | exact Int32.not_le.mp h) H locs ls hP hD hS hls
theorem z_icmp_eq {x y : Int} {off : Int} {tgt : Nat} (F : zF X D aI aZ cc nL own Ts rm) (hd : zd cc pc (.if_icmp .eq off) 3 pc') (ht : (pc : Int) + off = (tgt : Int)) (gt : zI x = zI y → zG X D k n ws tgt lv st) (gf : ¬ zI x = zI y → zG X D k n ws pc' lv st) : zG X D k n ws pc lv (.int (zI y) :: .int (zI x) :: st) := by
  obtain ⟨⟨p, l, e, R⟩, ⟨s, m, args, below, meth, c⟩, Q, A, nL'⟩ := X
  obtain ⟨hx, hb, -⟩ := F
  intro H locs ls hP hD hS hls
  refine lv_icmp_eq hx hb hd.1 ht (fun h => gt h H locs ls hP hD hS hls) (fun h => ?_)
  rw [hd.2]
  exact gf h H locs ls hP hD hS hls
theorem z_icmp_ne {x y : Int} {off : Int} {tgt : Nat} (F : zF X D aI aZ cc nL own Ts rm) (hd : zd cc pc (.if_icmp .ne off) 3 pc') (ht : (pc : Int) + off = (tgt : Int)) (gt : ¬ zI x = zI y → zG X D k n ws tgt lv st) (gf : zI x = zI y → zG X D k n ws pc' lv st) : zG X D k n ws pc lv (.int (zI y) :: .int (zI x) :: st) := by
  obtain ⟨⟨p, l, e, R⟩, ⟨s, m, args, below, meth, c⟩, Q, A, nL'⟩ := X
  obtain ⟨hx, hb, -⟩ := F
  intro H locs ls hP hD hS hls
  refine lv_icmp_ne hx hb hd.1 ht (fun h => gt h H locs ls hP hD hS hls) (fun h => ?_)
  rw [hd.2]
  exact gf h H locs ls hP hD hS hls
theorem z_if_lt {x : Int} {off : Int} {tgt : Nat} (F : zF X D aI aZ cc nL own Ts rm) (hd : zd cc pc (.ifCond .lt off) 3 pc') (ht : (pc : Int) + off = (tgt : Int)) (gt : zI x < zI 0 → zG X D k n ws tgt lv st) (gf : ¬ zI x < zI 0 → zG X D k n ws pc' lv st) : zG X D k n ws pc lv (.int (zI x) :: st) := by
  obtain ⟨⟨p, l, e, R⟩, ⟨s, m, args, below, meth, c⟩, Q, A, nL'⟩ := X
  obtain ⟨hx, hb, -⟩ := F
  intro H locs ls hP hD hS hls
  refine lv_if_lt hx hb hd.1 ht (fun h => gt h H locs ls hP hD hS hls) (fun h => ?_)
  rw [hd.2]
  exact gf (by first | exact h | exact zle h) H locs ls hP hD hS hls
theorem z_if_ge {x : Int} {off : Int} {tgt : Nat} (F : zF X D aI aZ cc nL own Ts rm) (hd : zd cc pc (.ifCond .ge off) 3 pc') (ht : (pc : Int) + off = (tgt : Int)) (gt : ¬ zI x < zI 0 → zG X D k n ws tgt lv st) (gf : zI x < zI 0 → zG X D k n ws pc' lv st) : zG X D k n ws pc lv (.int (zI x) :: st) := by
  obtain ⟨⟨p, l, e, R⟩, ⟨s, m, args, below, meth, c⟩, Q, A, nL'⟩ := X
  obtain ⟨hx, hb, -⟩ := F
  intro H locs ls hP hD hS hls
  refine lv_if_ge hx hb hd.1 ht (fun h => gt (by first | exact zle h | exact h) H locs ls hP hD hS hls) (fun h => ?_)
  rw [hd.2]
  exact gf (by first | exact h | exact Int32.not_le.mp h) H locs ls hP hD hS hls
theorem z_if_gt {x : Int} {off : Int} {tgt : Nat} (F : zF X D aI aZ cc nL own Ts rm) (hd : zd cc pc (.ifCond .gt off) 3 pc') (ht : (pc : Int) + off = (tgt : Int)) (gt : zI 0 < zI x → zG X D k n ws tgt lv st) (gf : ¬ zI 0 < zI x → zG X D k n ws pc' lv st) : zG X D k n ws pc lv (.int (zI x) :: st) := by
  obtain ⟨⟨p, l, e, R⟩, ⟨s, m, args, below, meth, c⟩, Q, A, nL'⟩ := X
  obtain ⟨hx, hb, -⟩ := F
  intro H locs ls hP hD hS hls
  refine lv_if_gt hx hb hd.1 ht (fun h => gt h H locs ls hP hD hS hls) (fun h => ?_)
  rw [hd.2]
  exact gf (by first | exact h | exact zle h) H locs ls hP hD hS hls
theorem z_if_le {x : Int} {off : Int} {tgt : Nat} (F : zF X D aI aZ cc nL own Ts rm) (hd : zd cc pc (.ifCond .le off) 3 pc') (ht : (pc : Int) + off = (tgt : Int)) (gt : ¬ zI 0 < zI x → zG X D k n ws tgt lv st) (gf : zI 0 < zI x → zG X D k n ws pc' lv st) : zG X D k n ws pc lv (.int (zI x) :: st) := by
  obtain ⟨⟨p, l, e, R⟩, ⟨s, m, args, below, meth, c⟩, Q, A, nL'⟩ := X
  obtain ⟨hx, hb, -⟩ := F
  intro H locs ls hP hD hS hls
  refine lv_if_le hx hb hd.1 ht (fun h => gt (by first | exact zle h | exact h) H locs ls hP hD hS hls) (fun h => ?_)
  rw [hd.2]
  exact gf (by first | exact h | exact Int32.not_le.mp h) H locs ls hP hD hS hls
theorem z_if_eq {x : Int} {off : Int} {tgt : Nat} (F : zF X D aI aZ cc nL own Ts rm) (hd : zd cc pc (.ifCond .eq off) 3 pc') (ht : (pc : Int) + off = (tgt : Int)) (gt : zI x = zI 0 → zG X D k n ws tgt lv st) (gf : ¬ zI x = zI 0 → zG X D k n ws pc' lv st) : zG X D k n ws pc lv (.int (zI x) :: st) := by
  obtain ⟨⟨p, l, e, R⟩, ⟨s, m, args, below, meth, c⟩, Q, A, nL'⟩ := X
  obtain ⟨hx, hb, -⟩ := F
  intro H locs ls hP hD hS hls
  refine lv_if_eq hx hb hd.1 ht (fun h => gt h H locs ls hP hD hS hls) (fun h => ?_)
  rw [hd.2]
  exact gf h H locs ls hP hD hS hls
theorem z_if_ne {x : Int} {off : Int} {tgt : Nat} (F : zF X D aI aZ cc nL own Ts rm) (hd : zd cc pc (.ifCond .ne off) 3 pc') (ht : (pc : Int) + off = (tgt : Int)) (gt : ¬ zI x = zI 0 → zG X D k n ws tgt lv st) (gf : zI x = zI 0 → zG X D k n ws pc' lv st) : zG X D k n ws pc lv (.int (zI x) :: st) := by
  obtain ⟨⟨p, l, e, R⟩, ⟨s, m, args, below, meth, c⟩, Q, A, nL'⟩ := X
  obtain ⟨hx, hb, -⟩ := F
  intro H locs ls hP hD hS hls
  refine lv_if_ne hx hb hd.1 ht (fun h => gt h H locs ls hP hD hS hls) (fun h => ?_)
  rw [hd.2]
  exact gf h H locs ls hP hD hS hls
theorem z_lv {lv' : List (Nat × Value)} (ks : List Nat) (h : lv_pick lv ks = lv') (g : zG X D k n ws pc lv' st) : zG X D k n ws pc lv st := by
  obtain ⟨⟨p, l, e, R⟩, ⟨s, m, args, below, meth, c⟩, Q, A, nL'⟩ := X
  intro H locs ls hP hD hS hls
  exact g H locs ls hP hD hS (lv_sub hls ks h)
/-- a field of a class, as a method's words have it: its class's number, its place, its link -/
def zfl (Ts : List Cond) (own : String) (ix ci kf : Nat) (C : String) (T : u_T) (N : Nat) : Prop := (∀ w ∈ u_ws C T N, w ∈ Ts) ∧ vwCl[ci]? = some (C, T, N) ∧ kf < N ∧ Cond.fieldLink own ix (T kf).1 (T kf).2.1 (T kf).2.2.1 ∈ Ts
theorem z_get {ix ci kf N a : Nat} {C : String} {T : u_T} {v : Value} (q0 : Nat) {fs : List Value} (F : zF X D aI aZ cc nL own Ts rm) (hd : zd cc pc (.getfield ix) 3 pc') (hf : zfl Ts own ix ci kf C T N) (he : ws[q0]? = some (a, .inr (ci, fs))) (hv : fs[kf]? = some v) (g : zG X D k n ws pc' lv (v :: st)) : zG X D k n ws pc lv (.ref a :: st) := by
  obtain ⟨⟨p, l, e, R⟩, ⟨s, m, args, below, meth, c⟩, Q, A, nL'⟩ := X
  obtain ⟨hx, hb, -, hown, hts, hK, -⟩ := F
  obtain ⟨h1, h2, h3, h4⟩ := hf
  intro H locs ls hP hD hS hls
  refine va_get (D := D) (ci := ci) hx hb hts h1 hown hK hP q0 he h2 kf h3 (hts _ h4) (fun _ h9 => h9) hv hd.1 ?_
  rw [hd.2]
  exact g H locs ls hP hD hS hls
theorem z_put {ix ci kf N a : Nat} {C : String} {T : u_T} {v : Value} {ty : FieldType} {ty0 : Nat → FieldType} (q0 : Nat) {fs : List Value} {ws' : va_W} (F : zF X D aI aZ cc nL own Ts rm) (hd : zd cc pc (.putfield ix) 3 pc') (hf : zfl Ts own ix ci kf C T N) (hty : ∀ k, k < N → parseFieldDescriptor (T k).2.2.1 = some (ty0 k)) (hnm : ∀ a, a < N → ∀ b, b < N → a ≠ b → (T a).2.1 ≠ (T b).2.1) (hfin : (T kf).2.2.2 = false) (htk : ty0 kf = ty) (hn : narrow ty v = v) (hfit : fits ty v = true) (he : ws[q0]? = some (a, .inr (ci, fs))) (hl : kf < fs.length) (hw : ws.set q0 (a, .inr (ci, fs.set kf v)) = ws') (g : zG X D k n ws' pc' lv st) : zG X D k n ws pc lv (v :: .ref a :: st) := by
  obtain ⟨⟨p, l, e, R⟩, ⟨s, m, args, below, meth, c⟩, Q, A, nL'⟩ := X
  obtain ⟨hx, hb, -, hown, hts, hK, -⟩ := F
  obtain ⟨h1, h2, h3, h4⟩ := hf
  intro H locs ls hP hD hS hls
  refine va_put (D := D) (ci := ci) hx hb hts h1 ty0 hty hnm hown hK hP hD hS q0 he h2 kf h3 (hts _ h4) (fun _ h9 => h9) hfin (by rw [hty kf h3, htk]) hn hfit hl hd.1 (fun H1 locs1 hP1 hD1 hS1 => ?_)
  rw [hd.2]
  rw [hw] at hP1 hD1
  exact g H1 locs1 ls hP1 hD1 hS1 hls
/-- the same by the link of a nest mate -/
def zfn (Ts : List Cond) (own : String) (ix ci kf : Nat) (C : String) (T : u_T) (N : Nat) : Prop := (∀ w ∈ u_ws C T N, w ∈ Ts) ∧ vwCl[ci]? = some (C, T, N) ∧ kf < N ∧ Cond.fieldLinkNest own ix (T kf).1 (T kf).2.1 (T kf).2.2.1 "TableFinder" ∈ zNestF
theorem z_getN {ix ci kf N a : Nat} {C : String} {T : u_T} {v : Value} (q0 : Nat) {fs : List Value} (F : zF X D aI aZ cc nL own Ts rm) (hd : zd cc pc (.getfield ix) 3 pc') (hf : zfn Ts own ix ci kf C T N) (he : ws[q0]? = some (a, .inr (ci, fs))) (hv : fs[kf]? = some v) (g : zG X D k n ws pc' lv (v :: st)) : zG X D k n ws pc lv (.ref a :: st) := by
  obtain ⟨⟨p, l, e, R⟩, ⟨s, m, args, below, meth, c⟩, Q, A, nL'⟩ := X
  obtain ⟨hx, hb, -, hown, hts, hK, -, hN, -⟩ := F
  obtain ⟨h1, h2, h3, h4⟩ := hf
  intro H locs ls hP hD hS hls
  refine va_getN (D := D) (ci := ci) hx hb hts h1 hown hK hP q0 he h2 kf h3 (va_Nw.use rfl (hN.f h4)) (fun _ h9 => h9) hv hd.1 ?_
  rw [hd.2]
  exact g H locs ls hP hD hS hls
theorem z_putN {ix ci kf N a : Nat} {C : String} {T : u_T} {v : Value} {ty : FieldType} {ty0 : Nat → FieldType} (q0 : Nat) {fs : List Value} {ws' : va_W} (F : zF X D aI aZ cc nL own Ts rm) (hd : zd cc pc (.putfield ix) 3 pc') (hf : zfn Ts own ix ci kf C T N) (hty : ∀ k, k < N → parseFieldDescriptor (T k).2.2.1 = some (ty0 k)) (hnm : ∀ a, a < N → ∀ b, b < N → a ≠ b → (T a).2.1 ≠ (T b).2.1) (hfin : (T kf).2.2.2 = false) (htk : ty0 kf = ty) (hn : narrow ty v = v) (hfit : fits ty v = true) (he : ws[q0]? = some (a, .inr (ci, fs))) (hl : kf < fs.length) (hw : ws.set q0 (a, .inr (ci, fs.set kf v)) = ws') (g : zG X D k n ws' pc' lv st) : zG X D k n ws pc lv (v :: .ref a :: st) := by
  obtain ⟨⟨p, l, e, R⟩, ⟨s, m, args, below, meth, c⟩, Q, A, nL'⟩ := X
  obtain ⟨hx, hb, -, hown, hts, hK, -, hN, -⟩ := F
  obtain ⟨h1, h2, h3, h4⟩ := hf
  intro H locs ls hP hD hS hls
  refine va_putN (D := D) (ci := ci) hx hb hts h1 ty0 hty hnm hown hK hP hD hS q0 he h2 kf h3 (va_Nw.use rfl (hN.f h4)) (fun _ h9 => h9) hfin (by rw [hty kf h3, htk]) hn hfit hl hd.1 (fun H1 locs1 hP1 hD1 hS1 => ?_)
  rw [hd.2]
  rw [hw] at hP1 hD1
  exact g H1 locs1 ls hP1 hD1 hS1 hls
theorem z_putF {ix ci kf N a : Nat} {C : String} {T : u_T} {v : Value} {ty : FieldType} {ty0 : Nat → FieldType} (q0 : Nat) {fs : List Value} {ws' : va_W} (F : zF X D aI aZ cc nL own Ts rm) (hin : X.2.1.2.2.2.2.1.name = "<init>") (hd : zd cc pc (.putfield ix) 3 pc') (hf : zfl Ts own ix ci kf C T N) (hty : ∀ k, k < N → parseFieldDescriptor (T k).2.2.1 = some (ty0 k)) (hnm : ∀ a, a < N → ∀ b, b < N → a ≠ b → (T a).2.1 ≠ (T b).2.1) (hfin : (T kf).2.2.2 = true) (hdecl : (T kf).1 = own) (htk : ty0 kf = ty) (hn : narrow ty v = v) (hfit : fits ty v = true) (he : ws[q0]? = some (a, .inr (ci, fs))) (hl : kf < fs.length) (hw : ws.set q0 (a, .inr (ci, fs.set kf v)) = ws') (g : zG X D k n ws' pc' lv st) : zG X D k n ws pc lv (v :: .ref a :: st) := by
  obtain ⟨⟨p, l, e, R⟩, ⟨s, m, args, below, meth, c⟩, Q, A, nL'⟩ := X
  obtain ⟨hx, hb, -, hown, hts, hK, -⟩ := F
  obtain ⟨h1, h2, h3, h4⟩ := hf
  intro H locs ls hP hD hS hls
  refine va_putF (D := D) (ci := ci) hx hb hts h1 ty0 hty hnm hown hK hP hD hS q0 he h2 kf h3 (hts _ h4) (fun _ h9 => h9) hfin hin hdecl (by rw [hty kf h3, htk]) hn hfit hl hd.1 (fun H1 locs1 hP1 hD1 hS1 => ?_)
  rw [hd.2]
  rw [hw] at hP1 hD1
  exact g H1 locs1 ls hP1 hD1 hS1 hls
theorem znar_bool {v : Int} (h : v = 0 ∨ v = 1) : narrow .boolean (.int (zI v)) = .int (zI v) := by rcases h with rfl | rfl <;> rfl
theorem zfit_bool {v : Int} (h : v = 0 ∨ v = 1) : fits .boolean (.int (zI v)) = true := by rcases h with rfl | rfl <;> rfl
theorem zvnar_bool {v : Int} (h : v = 0 ∨ v = 1) : vp_nar .boolean (zI v) = zI v := by rcases h with rfl | rfl <;> rfl
theorem z_alen {a : Nat} {N : Nat} {f : Nat → Int32} {nn : Int} (q0 : Nat) (F : zF X D aI aZ cc nL own Ts rm) (hd : zd cc pc .arraylength 1 pc') (he : ws[q0]? = some (a, .inl (aI, N, .inl f))) (hN : nn = (N : Int)) (g : zG X D k n ws pc' lv (.int (zI nn) :: st)) : zG X D k n ws pc lv (.ref a :: st) := by
  obtain ⟨⟨p, l, e, R⟩, ⟨s, m, args, below, meth, c⟩, Q, A, nL'⟩ := X
  obtain ⟨hx, hb, -, hown, hts, hK, -⟩ := F
  intro H locs ls hP hD hS hls
  refine va_alen (D := D) hx hb hK hP q0 0 he (ty := .int) rfl (v := zI nn) (by rw [hN]; rfl) hd.1 ?_
  rw [hd.2]
  exact g H locs ls hP hD hS hls
theorem z_iald {a : Nat} {N : Nat} {f : Nat → Int} {i nn x : Int} (q0 : Nat) (F : zF X D aI aZ cc nL own Ts rm) (hd : zd cc pc .iaload 1 pc') (he : ws[q0]? = some (a, .inl (aI, N, .inl (fun j => zI (f j))))) (hi : 0 ≤ i ∧ i < nn) (ex : f i.toNat = x) (hN : nn = (N : Int)) (hN2 : N < 2147483648) (g : zG X D k n ws pc' lv (.int (zI x) :: st)) : zG X D k n ws pc lv (.int (zI i) :: .ref a :: st) := by
  obtain ⟨⟨p, l, e, R⟩, ⟨s, m, args, below, meth, c⟩, Q, A, nL'⟩ := X
  obtain ⟨hx, hb, -, hown, hts, hK, -⟩ := F
  intro H locs ls hP hD hS hls
  refine va_iald (D := D) hx hb hK hP q0 0 he rfl (zin hi hN hN2) hd.1 ?_
  rw [hd.2, zcl hi hN hN2, ex]
  exact g H locs ls hP hD hS hls
theorem z_zald {a : Nat} {N : Nat} {f : Nat → Int} {i nn x : Int} (q0 : Nat) (F : zF X D aI aZ cc nL own Ts rm) (hd : zd cc pc .baload 1 pc') (he : ws[q0]? = some (a, .inl (aZ, N, .inl (fun j => zI (f j))))) (hi : 0 ≤ i ∧ i < nn) (ex : f i.toNat = x) (hN : nn = (N : Int)) (hN2 : N < 2147483648) (g : zG X D k n ws pc' lv (.int (zI x) :: st)) : zG X D k n ws pc lv (.int (zI i) :: .ref a :: st) := by
  obtain ⟨⟨p, l, e, R⟩, ⟨s, m, args, below, meth, c⟩, Q, A, nL'⟩ := X
  obtain ⟨hx, hb, -, hown, hts, hK, -⟩ := F
  intro H locs ls hP hD hS hls
  refine va_zald (D := D) hx hb hK hP q0 1 he rfl (zin hi hN hN2) hd.1 ?_
  rw [hd.2, zcl hi hN hN2, ex]
  exact g H locs ls hP hD hS hls
theorem zupd {f : Nat → Int} {i x nn : Int} {N : Nat} (hi : 0 ≤ i ∧ i < nn) (hN : nn = (N : Int)) (hN2 : N < 2147483648) : upd (fun j => zI (f j)) (zI i).toNatClampNeg (zI x) = fun j => zI (zu f i x j) := by
  rw [zcl hi hN hN2]
  funext j
  unfold upd zu
  by_cases h : j = i.toNat
  · rw [if_pos h, if_pos h]
  · rw [if_neg h, if_neg h]
theorem z_iast {a : Nat} {N : Nat} {f g : Nat → Int} {i x nn : Int} {ws' : va_W} (q0 : Nat) (F : zF X D aI aZ cc nL own Ts rm) (hd : zd cc pc .iastore 1 pc') (he : ws[q0]? = some (a, .inl (aI, N, .inl (fun j => zI (f j))))) (hi : 0 ≤ i ∧ i < nn) (eg : zu f i x = g) (hN : nn = (N : Int)) (hN2 : N < 2147483648) (hw : ws.set q0 (a, .inl (aI, N, .inl (fun j => zI (g j)))) = ws') (gg : zG X D k n ws' pc' lv st) : zG X D k n ws pc lv (.int (zI x) :: .int (zI i) :: .ref a :: st) := by
  obtain ⟨⟨p, l, e, R⟩, ⟨s, m, args, below, meth, c⟩, Q, A, nL'⟩ := X
  obtain ⟨hx, hb, -, hown, hts, hK, -⟩ := F
  intro H locs ls hP hD hS hls
  refine va_iast (D := D) hx hb hK hP hD hS q0 0 he rfl (zin hi hN hN2) hd.1 (fun H1 locs1 hP1 hD1 hS1 => ?_)
  rw [hd.2]
  rw [zupd hi hN hN2, eg, hw] at hP1 hD1
  exact gg H1 locs1 ls hP1 hD1 hS1 hls
theorem z_zast {a : Nat} {N : Nat} {f g : Nat → Int} {i x nn : Int} {ws' : va_W} (q0 : Nat) (F : zF X D aI aZ cc nL own Ts rm) (hd : zd cc pc .bastore 1 pc') (he : ws[q0]? = some (a, .inl (aZ, N, .inl (fun j => zI (f j))))) (hi : 0 ≤ i ∧ i < nn) (eg : zu f i x = g) (hN : nn = (N : Int)) (hN2 : N < 2147483648) (hx1 : x = 0 ∨ x = 1) (hw : ws.set q0 (a, .inl (aZ, N, .inl (fun j => zI (g j)))) = ws') (gg : zG X D k n ws' pc' lv st) : zG X D k n ws pc lv (.int (zI x) :: .int (zI i) :: .ref a :: st) := by
  obtain ⟨⟨p, l, e, R⟩, ⟨s, m, args, below, meth, c⟩, Q, A, nL'⟩ := X
  obtain ⟨hx, hb, -, hown, hts, hK, -⟩ := F
  intro H locs ls hP hD hS hls
  refine va_zast (D := D) hx hb hK hP hD hS q0 1 he rfl (zin hi hN hN2) hd.1 (fun H1 locs1 hP1 hD1 hS1 => ?_)
  rw [hd.2]
  rw [zvnar_bool hx1, zupd hi hN hN2, eg, hw] at hP1 hD1
  exact gg H1 locs1 ls hP1 hD1 hS1 hls
theorem z_mmin {ix : Nat} {x y : Int} (F : zF X D aI aZ cc nL own Ts rm) (hd : zd cc pc (.invokestatic ix) 3 pc') (h1 : Cond.methodLink own ix Lib.Math.min.name ∈ Ts) (h2 : Cond.static Lib.Math.min.name ∈ Ts) (h3 : Cond.initialized "java/lang/Math" ∈ Ts) (h4 : Cond.code Lib.Math.min.name Lib.Math.min.code 2 (some .int) ∈ Ts) (hr : 1 ≤ rm.frames ∧ (st.map fun v => v.category).sum + 13 ≤ rm.locals) (hk : k ≤ rm.cells) (hn : n ≤ rm.slots) (g : zG X D k n ws pc' lv (.int (zI (zmin x y)) :: st)) : zG X D k n ws pc lv (.int (zI y) :: .int (zI x) :: st) := by
  obtain ⟨⟨p, l, e, R⟩, ⟨s, m, args, below, meth, c⟩, Q, A, nL'⟩ := X
  obtain ⟨hx, hb, hml, hown, hts, hK, -, -, rfl, rfl⟩ := F
  intro H locs ls hP hD hS hls
  refine va_mmin hx hb (hml.trans hls.1.symm) hown (hts _ h1) (hts _ h2) (hts _ h3) (hts _ h4) hr.1 hr.2 hk hn hd.1 ?_
  rw [hd.2, show (if zI y < zI x then zI y else zI x) = zI (zmin x y) by unfold zmin; split <;> rfl]
  exact g H locs ls hP hD hS hls
theorem z_mmax {ix : Nat} {x y : Int} (F : zF X D aI aZ cc nL own Ts rm) (hd : zd cc pc (.invokestatic ix) 3 pc') (h1 : Cond.methodLink own ix Lib.Math.max.name ∈ Ts) (h2 : Cond.static Lib.Math.max.name ∈ Ts) (h3 : Cond.initialized "java/lang/Math" ∈ Ts) (h4 : Cond.code Lib.Math.max.name Lib.Math.max.code 2 (some .int) ∈ Ts) (hr : 1 ≤ rm.frames ∧ (st.map fun v => v.category).sum + 13 ≤ rm.locals) (hk : k ≤ rm.cells) (hn : n ≤ rm.slots) (g : zG X D k n ws pc' lv (.int (zI (zmax x y)) :: st)) : zG X D k n ws pc lv (.int (zI y) :: .int (zI x) :: st) := by
  obtain ⟨⟨p, l, e, R⟩, ⟨s, m, args, below, meth, c⟩, Q, A, nL'⟩ := X
  obtain ⟨hx, hb, hml, hown, hts, hK, -, -, rfl, rfl⟩ := F
  intro H locs ls hP hD hS hls
  refine va_mmax hx hb (hml.trans hls.1.symm) hown (hts _ h1) (hts _ h2) (hts _ h3) (hts _ h4) hr.1 hr.2 hk hn hd.1 ?_
  rw [hd.2, show (if zI x < zI y then zI y else zI x) = zI (zmax x y) by unfold zmax; split <;> rfl]
  exact g H locs ls hP hD hS hls
/-- what the words say of a method that is called -/
def zY (y : MethodName) (bytes : ByteArray) (maxL : Nat) (ret : Option FieldType) (Tc : List Cond) (nA : Nat) : Prop := (∃ ws', Tc = Cond.code y bytes maxL ret :: ws') ∧ y.cls ≠ "java/lang/invoke/MethodHandle" ∧ y.cls ≠ "java/lang/invoke/VarHandle" ∧ (parseMethodDescriptor y.desc).map (fun d => d.parameters.length) = some nA
theorem zPre_blind {D : va_G} {aI aZ : ClassId} {av : List Value} {w0 : va_W} {sz : Nat} : FrameBlind (va_Pc av (zPre D aI aZ w0 sz)) := fun a U g mk q => by
  obtain ⟨q0, q1, qP, qK, qD, qN⟩ := q
  exact ⟨q0, q1, qP, va_K.moved (u := U) (U := U.calling g mk a) (Vm.Alike.refl U.vm) qK, qD, zNW.same (s := U) (U := U.calling g mk a) rfl qN⟩
/-- behind a run of a call: the cells that came back beside the others -/
theorem z_after {wc wr : va_W} {Qp : Option Value → va_W → Prop} {mc ms : Nat} {rest st0 : List Value} {a : Array Value}
    {p : Program} {l : Launch} {e : Env} {R : Room} {s : State} {m : MethodId} {args : Array Value} {below : List Frame} {meth : Method} {c : Code} {Q : State → Prop} {A : Nat → Prop} {H : Heap} {locs : List Loc} {ls : Array Slot}
    (hrun : va_Run p l e R s m args below meth c H locs k n mc ms (F0 m pc ls st0) rest (zPost D wc H.size Qp a) (va_A wc H.size)) (hA : ∀ q, s.heap.size ≤ q → A q) (hP : va_P D vwCl ws H) (hD : va_D A ws) (hS : va_S A s.heap H locs)
    (isC isR : List Nat) (hC : isC.map (fun i => ws[i]?) = wc.map some) (hR : isR.map (fun i => ws[i]?) = wr.map some) (hn : va_nd isR = true) (hdis : ∀ i ∈ isR, i ∉ isC)
    (kk : ∀ rv w1 H1 locs1, Qp rv w1 → va_P D vwCl (wr ++ w1) H1 → va_D A (wr ++ w1) → va_S A s.heap H1 locs1 → W p l e R s m args below meth c H1 locs1 (k + mc) (n + ms) Q (F0 m (pc + 3) ls (rv.toList ++ rest))) : W p l e R s m args below meth c H locs k n Q (F0 m pc ls st0) := by
  intro T hT X
  have hF := va_free (wc := wc) hD hS hA isC hC
  obtain ⟨v, st₀, t, T', L, h0, X', hL, e1, e2, ⟨⟨rv, w1, hv, hq, hP1, hD1⟩, hz, hk⟩, stp⟩ := hrun T hT X
  cases hv
  rw [h0] at hz hk
  obtain ⟨hP2, hD2⟩ := va_join (wr := wr) (w1 := w1) hP hD isC isR hC hR hn hdis (H1 := T'.heap) (fun q h1 h2 => by rw [e1]; exact hk q h1 h2) hF (by rw [e1]; exact hP1) hD1
  obtain ⟨t2, a1, b1⟩ := kk v w1 T'.heap (locs ++ L) hq hP2 hD2
    ⟨Nat.le_trans hS.1 (by rw [e1]; exact hz), fun q h1 h2 => by rw [e1, hk q (Nat.lt_of_lt_of_le h1 hS.1) (fun z => h2 (hF q z))]; exact hS.2.1 q h1 h2, fun q hq => by
      rcases List.mem_append.mp hq with h | h
      · exact hS.2.2 q h
      · exact hF _ (hL q h)⟩ T' rfl X'
  exact ⟨t2, stp t2 a1, b1⟩
theorem z_callV {Tc : List Cond} {y : MethodName} {bytes : ByteArray} {maxL nA ix ci N : Nat} {ret : Option FieldType} {rc : Room} {b : Nat} {As rest : List Value} {wc wr : va_W} {Qp : Option Value → va_W → Prop} {mc ms : Nat} {C : String} {T : u_T} {fs : List Value}
    (F : zF X D aI aZ cc nL own Ts rm) (hd : zd cc pc (.invokevirtual ix) 3 pc') (hM : zC (zL X) D aI aZ y Tc rc (.ref b :: As) wc Qp mc ms) (hG : GoodIn Ts (wsV own ix C y Tc)) (hY : zY y bytes maxL ret Tc nA) (hyC : y.cls = C) (hci : vwCl[ci]? = some (C, T, N))
    (isC isR : List Nat) (rq : Nat) (hC : isC.map (fun i => ws[i]?) = wc.map some) (hR : isR.map (fun i => ws[i]?) = wr.map some) (hrq : wc[rq]? = some (b, .inr (ci, fs))) (hnd : va_nd isC = true ∧ va_nd isR = true ∧ ∀ i ∈ isR, i ∉ isC)
    (hst : st = As.reverse ++ .ref b :: rest) (hn : As.length = nA) (hw : (rest.map fun v => v.category).sum ≤ 8) (hrm : rc.frames + 1 ≤ rm.frames ∧ 8 + (maxL + 11) + rc.locals ≤ rm.locals) (hrc : rc.cells = mc ∧ rc.slots = ms) (hk : k + mc ≤ rm.cells ∧ n + ms ≤ rm.slots)
    (g : ∀ rv w1, Qp rv w1 → zG X D (k + mc) (n + ms) (wr ++ w1) pc' lv (rv.toList ++ rest)) : zG X D k n ws pc lv st := by
  obtain ⟨⟨p, l, e, R⟩, ⟨s, m, args, below, meth, c⟩, Q, A, nL'⟩ := X
  obtain ⟨hx, hb, hml, hown, hts, hK, hA, hN, rfl, rfl⟩ := F
  obtain ⟨⟨ws', hTc⟩, hy1, hy2, hy3⟩ := hY
  intro H locs ls hP hD hS hls
  have hPc := va_P.sub (ws' := wc) hP isC (zmap_filter hC)
  have hDc := va_D.sub (ws' := wc) hD isC hnd.1 hC
  have hK0 := hK.sub (tys' := []) [] rfl
  subst hst
  refine z_after (wr := wr) (Qp := Qp) (va_runV (rest := rest) (As := As) ⟨hx, hb, hml, hown, hts⟩ (hM H.size) (cwV nA hts hG hTc hrc.1 hrc.2 ⟨hyC, hy1, hy2, hy3⟩ hrm) ⟨zPre_blind, va_recv hK0 hPc hci hrq, fun U hU hW => ⟨rfl, by rw [hU], by rw [hU]; exact hPc, va_K.moved hW.alike hK, hDc.weaken (fun _ _ _ _ => trivial), zNW.warm hW hN⟩⟩ rfl hn hls.1 rfl (lv_room hw) hd.1 hk) hA hP hD hS isC isR hC hR hnd.2.1 hnd.2.2 (fun rv w1 H1 locs1 hq hP2 hD2 hS2 => ?_)
  rw [hd.2]
  exact g rv w1 hq H1 locs1 ls hP2 hD2 hS2 hls
theorem z_callS {Tc : List Cond} {y : MethodName} {bytes : ByteArray} {maxL nA ix : Nat} {ret : Option FieldType} {rc : Room} {As rest : List Value} {wc wr : va_W} {Qp : Option Value → va_W → Prop} {mc ms : Nat}
    (F : zF X D aI aZ cc nL own Ts rm) (hd : zd cc pc (.invokestatic ix) 3 pc') (hM : zC (zL X) D aI aZ y Tc rc As wc Qp mc ms) (hG : GoodIn Ts (wsS own ix y Tc)) (hY : zY y bytes maxL ret Tc nA) (hyC : y.cls = own)
    (isC isR : List Nat) (hC : isC.map (fun i => ws[i]?) = wc.map some) (hR : isR.map (fun i => ws[i]?) = wr.map some) (hnd : va_nd isC = true ∧ va_nd isR = true ∧ ∀ i ∈ isR, i ∉ isC)
    (hst : st = As.reverse ++ rest) (hn : As.length = nA) (hw : (rest.map fun v => v.category).sum ≤ 8) (hrm : rc.frames + 1 ≤ rm.frames ∧ 8 + (maxL + 11) + rc.locals ≤ rm.locals) (hrc : rc.cells = mc ∧ rc.slots = ms) (hk : k + mc ≤ rm.cells ∧ n + ms ≤ rm.slots)
    (g : ∀ rv w1, Qp rv w1 → zG X D (k + mc) (n + ms) (wr ++ w1) pc' lv (rv.toList ++ rest)) : zG X D k n ws pc lv st := by
  obtain ⟨⟨p, l, e, R⟩, ⟨s, m, args, below, meth, c⟩, Q, A, nL'⟩ := X
  obtain ⟨hx, hb, hml, hown, hts, hK, hA, hN, rfl, rfl⟩ := F
  obtain ⟨⟨ws', hTc⟩, hy1, hy2, hy3⟩ := hY
  intro H locs ls hP hD hS hls
  have hPc := va_P.sub (ws' := wc) hP isC (zmap_filter hC)
  have hDc := va_D.sub (ws' := wc) hD isC hnd.1 hC
  subst hst
  refine z_after (wr := wr) (Qp := Qp) (va_runS (rest := rest) (As := As) ⟨hx, hb, hml, hown, hts⟩ (hM H.size) (cwS nA hts hG hTc hrc.1 hrc.2 ⟨hyC, hy1, hy2, hy3⟩ hrm) ⟨zPre_blind, fun U hU hW => ⟨rfl, by rw [hU], by rw [hU]; exact hPc, va_K.moved hW.alike hK, hDc.weaken (fun _ _ _ _ => trivial), zNW.warm hW hN⟩⟩ rfl hn hls.1 rfl (lv_room hw) hd.1 hk) hA hP hD hS isC isR hC hR hnd.2.1 hnd.2.2 (fun rv w1 H1 locs1 hq hP2 hD2 hS2 => ?_)
  rw [hd.2]
  exact g rv w1 hq H1 locs1 ls hP2 hD2 hS2 hls
/-- a static method of a nest mate -/
theorem z_callN {Tc : List Cond} {y : MethodName} {bytes : ByteArray} {maxL nA ix : Nat} {ret : Option FieldType} {rc : Room} {As rest : List Value} {wc wr : va_W} {Qp : Option Value → va_W → Prop} {mc ms : Nat}
    (F : zF X D aI aZ cc nL own Ts rm) (hd : zd cc pc (.invokestatic ix) 3 pc') (hM : zC (zL X) D aI aZ y Tc rc As wc Qp mc ms) (hG : GoodIn Ts Tc) (hY : zY y bytes maxL ret Tc nA) (hne : Cond.methodLinkNest own ix y "TableFinder" ∈ zNest) (hst1 : Cond.static y ∈ Ts) (hin1 : Cond.initialized y.cls ∈ Ts)
    (isC isR : List Nat) (hC : isC.map (fun i => ws[i]?) = wc.map some) (hR : isR.map (fun i => ws[i]?) = wr.map some) (hnd : va_nd isC = true ∧ va_nd isR = true ∧ ∀ i ∈ isR, i ∉ isC)
    (hst : st = As.reverse ++ rest) (hn : As.length = nA) (hw : (rest.map fun v => v.category).sum ≤ 8) (hrm : rc.frames + 1 ≤ rm.frames ∧ 8 + (maxL + 11) + rc.locals ≤ rm.locals) (hrc : rc.cells = mc ∧ rc.slots = ms) (hk : k + mc ≤ rm.cells ∧ n + ms ≤ rm.slots)
    (g : ∀ rv w1, Qp rv w1 → zG X D (k + mc) (n + ms) (wr ++ w1) pc' lv (rv.toList ++ rest)) : zG X D k n ws pc lv st := by
  obtain ⟨⟨p, l, e, R⟩, ⟨s, m, args, below, meth, c⟩, Q, A, nL'⟩ := X
  obtain ⟨hx, hb, hml, hown, hts, hK, hA, hN, rfl, rfl⟩ := F
  obtain ⟨⟨ws', hTc⟩, hy1, hy2, hy3⟩ := hY
  intro H locs ls hP hD hS hls
  have hPc := va_P.sub (ws' := wc) hP isC (zmap_filter hC)
  have hDc := va_D.sub (ws' := wc) hD isC hnd.1 hC
  subst hst
  refine z_after (wr := wr) (Qp := Qp) (va_runSN (rest := rest) (As := As) (host := "TableFinder") ⟨hx, hb, hml, hown, hts⟩ (hM H.size) ⟨va_cnB nA hts hG hTc hrc.1 hrc.2 (hN.m hne) (hts _ hin1) ⟨hy1, hy2, hy3⟩ hrm, hts _ hst1, trivial⟩ ⟨zPre_blind, fun U hU hW => ⟨rfl, by rw [hU], by rw [hU]; exact hPc, va_K.moved hW.alike hK, hDc.weaken (fun _ _ _ _ => trivial), zNW.warm hW hN⟩⟩ rfl hn hls.1 rfl (lv_room hw) hd.1 hk) hA hP hD hS isC isR hC hR hnd.2.1 hnd.2.2 (fun rv w1 H1 locs1 hq hP2 hD2 hS2 => ?_)
  rw [hd.2]
  exact g rv w1 hq H1 locs1 ls hP2 hD2 hS2 hls
/-- the cells in another order -/
theorem z_ws {ws' : va_W} (isP : List Nat) (h : isP.map (fun i => ws[i]?) = ws'.map some) (hn : va_nd isP = true) (g : zG X D k n ws' pc lv st) : zG X D k n ws pc lv st := by
  obtain ⟨⟨p, l, e, R⟩, ⟨s, m, args, below, meth, c⟩, Q, A, nL'⟩ := X
  intro H locs ls hP hD hS hls
  exact g H locs ls (va_P.sub hP isP (zmap_filter h)) (va_D.sub hD isP hn h) hS hls
/-- the answer of a call that returns just this, over just these cells; 'isP': the cells' order behind it -/
theorem z_plain {rv : Option Value} {w1 wr ws' : va_W} {rest st' : List Value} (isP : List Nat) (h : isP.map (fun i => (wr ++ w1)[i]?) = ws'.map some) (hn : va_nd isP = true) (hs : rv.toList ++ rest = st') (g : zG X D 0 0 ws' pc' lv st') : ∀ rv' w1', (rv' = rv ∧ w1' = w1) → zG X D 0 0 (wr ++ w1') pc' lv (rv'.toList ++ rest) := by
  rintro _ _ ⟨rfl, rfl⟩
  rw [hs]
  exact z_ws isP h hn g
theorem z_iret {x : Int} {w0 w1 : va_W} {Qp : Option Value → va_W → Prop} (isP : List Nat) (F : zF X D aI aZ cc nL own Ts rm) (E : zT X D w0 Qp k n (some .int)) (hd : zd cc pc .ireturn 1 pc') (hw : isP.map (fun i => ws[i]?) = w1.map some) (hnd : va_nd isP = true) (hQ : Qp (some (.int (zI x))) w1) : zG X D k n ws pc lv [.int (zI x)] := by
  obtain ⟨⟨p, l, e, R⟩, ⟨s, m, args, below, meth, c⟩, Q, A, nL'⟩ := X
  obtain ⟨hx, hb, -⟩ := F
  obtain ⟨rfl, rfl, hr, hlk⟩ := E
  intro H locs ls hP hD hS hls
  have hP9 := va_P.sub hP isP (zmap_filter hw)
  have hD9 := va_D.sub hD isP hnd hw
  exact W.iret (v := zI x) hx hb hr (fun t ht hW => ⟨⟨_, w1, rfl, hQ, by rw [ht]; exact hP9, hD9⟩, hS.F ht⟩) hS.2.2 hd.1 hlk
theorem z_zret {x : Int} {w0 w1 : va_W} {Qp : Option Value → va_W → Prop} (isP : List Nat) (F : zF X D aI aZ cc nL own Ts rm) (E : zT X D w0 Qp k n (some .boolean)) (hd : zd cc pc .ireturn 1 pc') (hx1 : x = 0 ∨ x = 1) (hw : isP.map (fun i => ws[i]?) = w1.map some) (hnd : va_nd isP = true) (hQ : Qp (some (.int (zI x))) w1) : zG X D k n ws pc lv [.int (zI x)] := by
  obtain ⟨⟨p, l, e, R⟩, ⟨s, m, args, below, meth, c⟩, Q, A, nL'⟩ := X
  obtain ⟨hx, hb, -⟩ := F
  obtain ⟨rfl, rfl, hr, hlk⟩ := E
  intro H locs ls hP hD hS hls
  have hP9 := va_P.sub hP isP (zmap_filter hw)
  have hD9 := va_D.sub hD isP hnd hw
  exact W.zret (v := zI x) hx hb hr (znar_bool hx1) (fun t ht hW => ⟨⟨_, w1, rfl, hQ, by rw [ht]; exact hP9, hD9⟩, hS.F ht⟩) hS.2.2 hd.1 hlk
theorem z_lret {x : Int} {w0 w1 : va_W} {Qp : Option Value → va_W → Prop} (isP : List Nat) (F : zF X D aI aZ cc nL own Ts rm) (E : zT X D w0 Qp k n (some .long)) (hd : zd cc pc .lreturn 1 pc') (hw : isP.map (fun i => ws[i]?) = w1.map some) (hnd : va_nd isP = true) (hQ : Qp (some (.long (zJ x))) w1) : zG X D k n ws pc lv [.long (zJ x)] := by
  obtain ⟨⟨p, l, e, R⟩, ⟨s, m, args, below, meth, c⟩, Q, A, nL'⟩ := X
  obtain ⟨hx, hb, -⟩ := F
  obtain ⟨rfl, rfl, hr, hlk⟩ := E
  intro H locs ls hP hD hS hls
  have hP9 := va_P.sub hP isP (zmap_filter hw)
  have hD9 := va_D.sub hD isP hnd hw
  exact W.lret (v := zJ x) hx hb hr (fun t ht hW => ⟨⟨_, w1, rfl, hQ, by rw [ht]; exact hP9, hD9⟩, hS.F ht⟩) hS.2.2 hd.1 hlk
theorem z_vret {w0 w1 : va_W} {Qp : Option Value → va_W → Prop} (isP : List Nat) (F : zF X D aI aZ cc nL own Ts rm) (E : zT X D w0 Qp k n none) (hd : zd cc pc .return_ 1 pc') (hw : isP.map (fun i => ws[i]?) = w1.map some) (hnd : va_nd isP = true) (hQ : Qp none w1) : zG X D k n ws pc lv [] := by
  obtain ⟨⟨p, l, e, R⟩, ⟨s, m, args, below, meth, c⟩, Q, A, nL'⟩ := X
  obtain ⟨hx, hb, -⟩ := F
  obtain ⟨rfl, rfl, hr, hlk⟩ := E
  intro H locs ls hP hD hS hls
  have hP9 := va_P.sub hP isP (zmap_filter hw)
  have hD9 := va_D.sub hD isP hnd hw
  exact W.vret hx hb hr (fun t ht hW => ⟨⟨_, w1, rfl, hQ, by rw [ht]; exact hP9, hD9⟩, hS.F ht⟩) hS.2.2 hd.1 hlk
theorem z_tsin {d lo hi off : Int} {offs : List Int} {len tgt : Nat} {x : Int} (j : Nat) (F : zF X D aI aZ cc nL own Ts rm) (hd : decode cc pc = .ok (.tableswitch d lo hi offs.toArray, len)) (hx : zI x = zI (lo + (j : Int))) (hj : offs[j]? = some off) (ht : (pc : Int) + off = (tgt : Int)) (hlo : -1000 ≤ lo) (hhi : lo + (j : Int) ≤ hi) (hj2 : lo + (j : Int) ≤ 1000) (g : zG X D k n ws tgt lv st) : zG X D k n ws pc lv (.int (zI x) :: st) := by
  obtain ⟨⟨p, l, e, R⟩, ⟨s, m, args, below, meth, c⟩, Q, A, nL'⟩ := X
  obtain ⟨hx', hb, -⟩ := F
  intro H locs ls hP hD hS hls
  have e1 : (zI x).toInt = lo + (j : Int) := by rw [hx]; exact zI_toInt (by omega) (by omega)
  refine lv_tableIn (off := off) hx' hb hd (by omega) (by omega) ?_ ht (g H locs ls hP hD hS hls)
  rw [e1, show (lo + (j : Int) - lo).toNat = j by omega, List.getElem?_toArray]
  exact hj
theorem z_tsout {d lo hi : Int} {offs : List Int} {len tgt : Nat} {x : Int} (F : zF X D aI aZ cc nL own Ts rm) (hd : decode cc pc = .ok (.tableswitch d lo hi offs.toArray, len)) (hx : (zI x).toInt < lo ∨ hi < (zI x).toInt) (ht : (pc : Int) + d = (tgt : Int)) (g : zG X D k n ws tgt lv st) : zG X D k n ws pc lv (.int (zI x) :: st) := by
  obtain ⟨⟨p, l, e, R⟩, ⟨s, m, args, below, meth, c⟩, Q, A, nL'⟩ := X
  obtain ⟨hx', hb, -⟩ := F
  intro H locs ls hP hD hS hls
  exact lv_tableOut hx' hb hd hx ht (g H locs ls hP hD hS hls)
theorem z_tsno {x lo hi : Int} (h : ∀ j : Nat, lo + (j : Int) ≤ hi → ¬ zI x = zI (lo + (j : Int))) : (zI x).toInt < lo ∨ hi < (zI x).toInt := by
  rcases Int.lt_or_le (zI x).toInt lo with h1 | h1
  · exact Or.inl h1
  · refine Or.inr (Int.not_le.mp fun h2 => h ((zI x).toInt - lo).toNat (by omega) ?_)
    rw [show lo + (((zI x).toInt - lo).toNat : Int) = (zI x).toInt by omega, zI_of]
end ZR
theorem dX0_init_0 (k : Nat) {pc n pc' : Nat} {i : Instr} (h : iX0_init_0[k]? = some (pc, i, n, pc')) : zd cX0_init pc i n pc' := dlX0_init_0 (pc, i, n, pc') (List.mem_of_getElem? h)
theorem dX0_survey_0 (k : Nat) {pc n pc' : Nat} {i : Instr} (h : iX0_survey_0[k]? = some (pc, i, n, pc')) : zd cX0_survey pc i n pc' := dlX0_survey_0 (pc, i, n, pc') (List.mem_of_getElem? h)
theorem dX0_survey_1 (k : Nat) {pc n pc' : Nat} {i : Instr} (h : iX0_survey_1[k]? = some (pc, i, n, pc')) : zd cX0_survey pc i n pc' := dlX0_survey_1 (pc, i, n, pc') (List.mem_of_getElem? h)
theorem dX0_takeLine_0 (k : Nat) {pc n pc' : Nat} {i : Instr} (h : iX0_takeLine_0[k]? = some (pc, i, n, pc')) : zd cX0_takeLine pc i n pc' := dlX0_takeLine_0 (pc, i, n, pc') (List.mem_of_getElem? h)
theorem dX0_seeParts_0 (k : Nat) {pc n pc' : Nat} {i : Instr} (h : iX0_seeParts_0[k]? = some (pc, i, n, pc')) : zd cX0_seeParts pc i n pc' := dlX0_seeParts_0 (pc, i, n, pc') (List.mem_of_getElem? h)
theorem dX0_seeParts_1 (k : Nat) {pc n pc' : Nat} {i : Instr} (h : iX0_seeParts_1[k]? = some (pc, i, n, pc')) : zd cX0_seeParts pc i n pc' := dlX0_seeParts_1 (pc, i, n, pc') (List.mem_of_getElem? h)
theorem dX0_seeInks_0 (k : Nat) {pc n pc' : Nat} {i : Instr} (h : iX0_seeInks_0[k]? = some (pc, i, n, pc')) : zd cX0_seeInks pc i n pc' := dlX0_seeInks_0 (pc, i, n, pc') (List.mem_of_getElem? h)
theorem dX0_seeInks_1 (k : Nat) {pc n pc' : Nat} {i : Instr} (h : iX0_seeInks_1[k]? = some (pc, i, n, pc')) : zd cX0_seeInks pc i n pc' := dlX0_seeInks_1 (pc, i, n, pc') (List.mem_of_getElem? h)
theorem dX0_seeInks_2 (k : Nat) {pc n pc' : Nat} {i : Instr} (h : iX0_seeInks_2[k]? = some (pc, i, n, pc')) : zd cX0_seeInks pc i n pc' := dlX0_seeInks_2 (pc, i, n, pc') (List.mem_of_getElem? h)
theorem dX0_seeGaps_0 (k : Nat) {pc n pc' : Nat} {i : Instr} (h : iX0_seeGaps_0[k]? = some (pc, i, n, pc')) : zd cX0_seeGaps pc i n pc' := dlX0_seeGaps_0 (pc, i, n, pc') (List.mem_of_getElem? h)
theorem dX0_seeGaps_1 (k : Nat) {pc n pc' : Nat} {i : Instr} (h : iX0_seeGaps_1[k]? = some (pc, i, n, pc')) : zd cX0_seeGaps pc i n pc' := dlX0_seeGaps_1 (pc, i, n, pc') (List.mem_of_getElem? h)
theorem dX0_seeGaps_2 (k : Nat) {pc n pc' : Nat} {i : Instr} (h : iX0_seeGaps_2[k]? = some (pc, i, n, pc')) : zd cX0_seeGaps pc i n pc' := dlX0_seeGaps_2 (pc, i, n, pc') (List.mem_of_getElem? h)
theorem dX0_tellGaps_0 (k : Nat) {pc n pc' : Nat} {i : Instr} (h : iX0_tellGaps_0[k]? = some (pc, i, n, pc')) : zd cX0_tellGaps pc i n pc' := dlX0_tellGaps_0 (pc, i, n, pc') (List.mem_of_getElem? h)
theorem dX0_tellGaps_1 (k : Nat) {pc n pc' : Nat} {i : Instr} (h : iX0_tellGaps_1[k]? = some (pc, i, n, pc')) : zd cX0_tellGaps pc i n pc' := dlX0_tellGaps_1 (pc, i, n, pc') (List.mem_of_getElem? h)
theorem dX0_gapsIn_0 (k : Nat) {pc n pc' : Nat} {i : Instr} (h : iX0_gapsIn_0[k]? = some (pc, i, n, pc')) : zd cX0_gapsIn pc i n pc' := dlX0_gapsIn_0 (pc, i, n, pc') (List.mem_of_getElem? h)
theorem dX0_byteAt_0 (k : Nat) {pc n pc' : Nat} {i : Instr} (h : iX0_byteAt_0[k]? = some (pc, i, n, pc')) : zd cX0_byteAt pc i n pc' := dlX0_byteAt_0 (pc, i, n, pc') (List.mem_of_getElem? h)
theorem dX0_hasInk_0 (k : Nat) {pc n pc' : Nat} {i : Instr} (h : iX0_hasInk_0[k]? = some (pc, i, n, pc')) : zd cX0_hasInk pc i n pc' := dlX0_hasInk_0 (pc, i, n, pc') (List.mem_of_getElem? h)
theorem dX0_isHead_0 (k : Nat) {pc n pc' : Nat} {i : Instr} (h : iX0_isHead_0[k]? = some (pc, i, n, pc')) : zd cX0_isHead pc i n pc' := dlX0_isHead_0 (pc, i, n, pc') (List.mem_of_getElem? h)
theorem dX0_isFoot_0 (k : Nat) {pc n pc' : Nat} {i : Instr} (h : iX0_isFoot_0[k]? = some (pc, i, n, pc')) : zd cX0_isFoot pc i n pc' := dlX0_isFoot_0 (pc, i, n, pc') (List.mem_of_getElem? h)
theorem dX0_crossingCost_0 (k : Nat) {pc n pc' : Nat} {i : Instr} (h : iX0_crossingCost_0[k]? = some (pc, i, n, pc')) : zd cX0_crossingCost pc i n pc' := dlX0_crossingCost_0 (pc, i, n, pc') (List.mem_of_getElem? h)
theorem dX0_columnCost_0 (k : Nat) {pc n pc' : Nat} {i : Instr} (h : iX0_columnCost_0[k]? = some (pc, i, n, pc')) : zd cX0_columnCost pc i n pc' := dlX0_columnCost_0 (pc, i, n, pc') (List.mem_of_getElem? h)
theorem dX1_init_0 (k : Nat) {pc n pc' : Nat} {i : Instr} (h : iX1_init_0[k]? = some (pc, i, n, pc')) : zd cX1_init pc i n pc' := dlX1_init_0 (pc, i, n, pc') (List.mem_of_getElem? h)
theorem dX2_init_0 (k : Nat) {pc n pc' : Nat} {i : Instr} (h : iX2_init_0[k]? = some (pc, i, n, pc')) : zd cX2_init pc i n pc' := dlX2_init_0 (pc, i, n, pc') (List.mem_of_getElem? h)
theorem dX2_holds_0 (k : Nat) {pc n pc' : Nat} {i : Instr} (h : iX2_holds_0[k]? = some (pc, i, n, pc')) : zd cX2_holds pc i n pc' := dlX2_holds_0 (pc, i, n, pc') (List.mem_of_getElem? h)
theorem dX2_lengthOf_0 (k : Nat) {pc n pc' : Nat} {i : Instr} (h : iX2_lengthOf_0[k]? = some (pc, i, n, pc')) : zd cX2_lengthOf pc i n pc' := dlX2_lengthOf_0 (pc, i, n, pc') (List.mem_of_getElem? h)
theorem dX2_byteAt_0 (k : Nat) {pc n pc' : Nat} {i : Instr} (h : iX2_byteAt_0[k]? = some (pc, i, n, pc')) : zd cX2_byteAt pc i n pc' := dlX2_byteAt_0 (pc, i, n, pc') (List.mem_of_getElem? h)
theorem dX2_putByte_0 (k : Nat) {pc n pc' : Nat} {i : Instr} (h : iX2_putByte_0[k]? = some (pc, i, n, pc')) : zd cX2_putByte pc i n pc' := dlX2_putByte_0 (pc, i, n, pc') (List.mem_of_getElem? h)
theorem dX2_addLine_0 (k : Nat) {pc n pc' : Nat} {i : Instr} (h : iX2_addLine_0[k]? = some (pc, i, n, pc')) : zd cX2_addLine pc i n pc' := dlX2_addLine_0 (pc, i, n, pc') (List.mem_of_getElem? h)
theorem dX2_kindOf_0 (k : Nat) {pc n pc' : Nat} {i : Instr} (h : iX2_kindOf_0[k]? = some (pc, i, n, pc')) : zd cX2_kindOf pc i n pc' := dlX2_kindOf_0 (pc, i, n, pc') (List.mem_of_getElem? h)
theorem dX2_kindOf_1 (k : Nat) {pc n pc' : Nat} {i : Instr} (h : iX2_kindOf_1[k]? = some (pc, i, n, pc')) : zd cX2_kindOf pc i n pc' := dlX2_kindOf_1 (pc, i, n, pc') (List.mem_of_getElem? h)
theorem dX2_kindOf_2 (k : Nat) {pc n pc' : Nat} {i : Instr} (h : iX2_kindOf_2[k]? = some (pc, i, n, pc')) : zd cX2_kindOf pc i n pc' := dlX2_kindOf_2 (pc, i, n, pc') (List.mem_of_getElem? h)
theorem dX2_isBlock_0 (k : Nat) {pc n pc' : Nat} {i : Instr} (h : iX2_isBlock_0[k]? = some (pc, i, n, pc')) : zd cX2_isBlock pc i n pc' := dlX2_isBlock_0 (pc, i, n, pc') (List.mem_of_getElem? h)
theorem dX3_init_0 (k : Nat) {pc n pc' : Nat} {i : Instr} (h : iX3_init_0[k]? = some (pc, i, n, pc')) : zd cX3_init pc i n pc' := dlX3_init_0 (pc, i, n, pc') (List.mem_of_getElem? h)
theorem dX3_readBest_0 (k : Nat) {pc n pc' : Nat} {i : Instr} (h : iX3_readBest_0[k]? = some (pc, i, n, pc')) : zd cX3_readBest pc i n pc' := dlX3_readBest_0 (pc, i, n, pc') (List.mem_of_getElem? h)
theorem dX3_readBest_1 (k : Nat) {pc n pc' : Nat} {i : Instr} (h : iX3_readBest_1[k]? = some (pc, i, n, pc')) : zd cX3_readBest pc i n pc' := dlX3_readBest_1 (pc, i, n, pc') (List.mem_of_getElem? h)
theorem dX3_readFrom_0 (k : Nat) {pc n pc' : Nat} {i : Instr} (h : iX3_readFrom_0[k]? = some (pc, i, n, pc')) : zd cX3_readFrom pc i n pc' := dlX3_readFrom_0 (pc, i, n, pc') (List.mem_of_getElem? h)
theorem dX3_readFrom_1 (k : Nat) {pc n pc' : Nat} {i : Instr} (h : iX3_readFrom_1[k]? = some (pc, i, n, pc')) : zd cX3_readFrom pc i n pc' := dlX3_readFrom_1 (pc, i, n, pc') (List.mem_of_getElem? h)
theorem dX3_chooseColumns_0 (k : Nat) {pc n pc' : Nat} {i : Instr} (h : iX3_chooseColumns_0[k]? = some (pc, i, n, pc')) : zd cX3_chooseColumns pc i n pc' := dlX3_chooseColumns_0 (pc, i, n, pc') (List.mem_of_getElem? h)
theorem dX3_chooseColumns_1 (k : Nat) {pc n pc' : Nat} {i : Instr} (h : iX3_chooseColumns_1[k]? = some (pc, i, n, pc')) : zd cX3_chooseColumns pc i n pc' := dlX3_chooseColumns_1 (pc, i, n, pc') (List.mem_of_getElem? h)
theorem dX3_traceCuts_0 (k : Nat) {pc n pc' : Nat} {i : Instr} (h : iX3_traceCuts_0[k]? = some (pc, i, n, pc')) : zd cX3_traceCuts pc i n pc' := dlX3_traceCuts_0 (pc, i, n, pc') (List.mem_of_getElem? h)
theorem dX3_keep_0 (k : Nat) {pc n pc' : Nat} {i : Instr} (h : iX3_keep_0[k]? = some (pc, i, n, pc')) : zd cX3_keep pc i n pc' := dlX3_keep_0 (pc, i, n, pc') (List.mem_of_getElem? h)
theorem dX3_slotOf_0 (k : Nat) {pc n pc' : Nat} {i : Instr} (h : iX3_slotOf_0[k]? = some (pc, i, n, pc')) : zd cX3_slotOf pc i n pc' := dlX3_slotOf_0 (pc, i, n, pc') (List.mem_of_getElem? h)
theorem dX4_init_0 (k : Nat) {pc n pc' : Nat} {i : Instr} (h : iX4_init_0[k]? = some (pc, i, n, pc')) : zd cX4_init pc i n pc' := dlX4_init_0 (pc, i, n, pc') (List.mem_of_getElem? h)
theorem dX4_holds_0 (k : Nat) {pc n pc' : Nat} {i : Instr} (h : iX4_holds_0[k]? = some (pc, i, n, pc')) : zd cX4_holds pc i n pc' := dlX4_holds_0 (pc, i, n, pc') (List.mem_of_getElem? h)
theorem dX4_slotOf_0 (k : Nat) {pc n pc' : Nat} {i : Instr} (h : iX4_slotOf_0[k]? = some (pc, i, n, pc')) : zd cX4_slotOf pc i n pc' := dlX4_slotOf_0 (pc, i, n, pc') (List.mem_of_getElem? h)
theorem dX4_lengthOf_0 (k : Nat) {pc n pc' : Nat} {i : Instr} (h : iX4_lengthOf_0[k]? = some (pc, i, n, pc')) : zd cX4_lengthOf pc i n pc' := dlX4_lengthOf_0 (pc, i, n, pc') (List.mem_of_getElem? h)
theorem dX4_byteOf_0 (k : Nat) {pc n pc' : Nat} {i : Instr} (h : iX4_byteOf_0[k]? = some (pc, i, n, pc')) : zd cX4_byteOf pc i n pc' := dlX4_byteOf_0 (pc, i, n, pc') (List.mem_of_getElem? h)
theorem dX4_hasHead_0 (k : Nat) {pc n pc' : Nat} {i : Instr} (h : iX4_hasHead_0[k]? = some (pc, i, n, pc')) : zd cX4_hasHead pc i n pc' := dlX4_hasHead_0 (pc, i, n, pc') (List.mem_of_getElem? h)
theorem dX4_hasFoot_0 (k : Nat) {pc n pc' : Nat} {i : Instr} (h : iX4_hasFoot_0[k]? = some (pc, i, n, pc')) : zd cX4_hasFoot pc i n pc' := dlX4_hasFoot_0 (pc, i, n, pc') (List.mem_of_getElem? h)
theorem dX4_hasText_0 (k : Nat) {pc n pc' : Nat} {i : Instr} (h : iX4_hasText_0[k]? = some (pc, i, n, pc')) : zd cX4_hasText pc i n pc' := dlX4_hasText_0 (pc, i, n, pc') (List.mem_of_getElem? h)
theorem dX4_fill_0 (k : Nat) {pc n pc' : Nat} {i : Instr} (h : iX4_fill_0[k]? = some (pc, i, n, pc')) : zd cX4_fill pc i n pc' := dlX4_fill_0 (pc, i, n, pc') (List.mem_of_getElem? h)
theorem dX4_fill_1 (k : Nat) {pc n pc' : Nat} {i : Instr} (h : iX4_fill_1[k]? = some (pc, i, n, pc')) : zd cX4_fill pc i n pc' := dlX4_fill_1 (pc, i, n, pc') (List.mem_of_getElem? h)
theorem dX4_rowOfLine_0 (k : Nat) {pc n pc' : Nat} {i : Instr} (h : iX4_rowOfLine_0[k]? = some (pc, i, n, pc')) : zd cX4_rowOfLine pc i n pc' := dlX4_rowOfLine_0 (pc, i, n, pc') (List.mem_of_getElem? h)
theorem dX4_rowOfLine_1 (k : Nat) {pc n pc' : Nat} {i : Instr} (h : iX4_rowOfLine_1[k]? = some (pc, i, n, pc')) : zd cX4_rowOfLine pc i n pc' := dlX4_rowOfLine_1 (pc, i, n, pc') (List.mem_of_getElem? h)
theorem dX4_firstInk_0 (k : Nat) {pc n pc' : Nat} {i : Instr} (h : iX4_firstInk_0[k]? = some (pc, i, n, pc')) : zd cX4_firstInk pc i n pc' := dlX4_firstInk_0 (pc, i, n, pc') (List.mem_of_getElem? h)
theorem dX4_joinCell_0 (k : Nat) {pc n pc' : Nat} {i : Instr} (h : iX4_joinCell_0[k]? = some (pc, i, n, pc')) : zd cX4_joinCell pc i n pc' := dlX4_joinCell_0 (pc, i, n, pc') (List.mem_of_getElem? h)
theorem dX4_joinCell_1 (k : Nat) {pc n pc' : Nat} {i : Instr} (h : iX4_joinCell_1[k]? = some (pc, i, n, pc')) : zd cX4_joinCell pc i n pc' := dlX4_joinCell_1 (pc, i, n, pc') (List.mem_of_getElem? h)
theorem dX4_addByte_0 (k : Nat) {pc n pc' : Nat} {i : Instr} (h : iX4_addByte_0[k]? = some (pc, i, n, pc')) : zd cX4_addByte pc i n pc' := dlX4_addByte_0 (pc, i, n, pc') (List.mem_of_getElem? h)
theorem dX4_goesTogetherWith_0 (k : Nat) {pc n pc' : Nat} {i : Instr} (h : iX4_goesTogetherWith_0[k]? = some (pc, i, n, pc')) : zd cX4_goesTogetherWith pc i n pc' := dlX4_goesTogetherWith_0 (pc, i, n, pc') (List.mem_of_getElem? h)
theorem dX4_hasSameHead_0 (k : Nat) {pc n pc' : Nat} {i : Instr} (h : iX4_hasSameHead_0[k]? = some (pc, i, n, pc')) : zd cX4_hasSameHead pc i n pc' := dlX4_hasSameHead_0 (pc, i, n, pc') (List.mem_of_getElem? h)
theorem dX4_hasSameHead_1 (k : Nat) {pc n pc' : Nat} {i : Instr} (h : iX4_hasSameHead_1[k]? = some (pc, i, n, pc')) : zd cX4_hasSameHead pc i n pc' := dlX4_hasSameHead_1 (pc, i, n, pc') (List.mem_of_getElem? h)
theorem dX4_putBehind_0 (k : Nat) {pc n pc' : Nat} {i : Instr} (h : iX4_putBehind_0[k]? = some (pc, i, n, pc')) : zd cX4_putBehind pc i n pc' := dlX4_putBehind_0 (pc, i, n, pc') (List.mem_of_getElem? h)
theorem dX4_takeRow_0 (k : Nat) {pc n pc' : Nat} {i : Instr} (h : iX4_takeRow_0[k]? = some (pc, i, n, pc')) : zd cX4_takeRow pc i n pc' := dlX4_takeRow_0 (pc, i, n, pc') (List.mem_of_getElem? h)
theorem dX4_takeRow_1 (k : Nat) {pc n pc' : Nat} {i : Instr} (h : iX4_takeRow_1[k]? = some (pc, i, n, pc')) : zd cX4_takeRow pc i n pc' := dlX4_takeRow_1 (pc, i, n, pc') (List.mem_of_getElem? h)
theorem dX4_valueOf_0 (k : Nat) {pc n pc' : Nat} {i : Instr} (h : iX4_valueOf_0[k]? = some (pc, i, n, pc')) : zd cX4_valueOf pc i n pc' := dlX4_valueOf_0 (pc, i, n, pc') (List.mem_of_getElem? h)
theorem dX4_valueOf_1 (k : Nat) {pc n pc' : Nat} {i : Instr} (h : iX4_valueOf_1[k]? = some (pc, i, n, pc')) : zd cX4_valueOf pc i n pc' := dlX4_valueOf_1 (pc, i, n, pc') (List.mem_of_getElem? h)
theorem dX4_valueOf_2 (k : Nat) {pc n pc' : Nat} {i : Instr} (h : iX4_valueOf_2[k]? = some (pc, i, n, pc')) : zd cX4_valueOf pc i n pc' := dlX4_valueOf_2 (pc, i, n, pc') (List.mem_of_getElem? h)
theorem dX4_countDigits_0 (k : Nat) {pc n pc' : Nat} {i : Instr} (h : iX4_countDigits_0[k]? = some (pc, i, n, pc')) : zd cX4_countDigits pc i n pc' := dlX4_countDigits_0 (pc, i, n, pc') (List.mem_of_getElem? h)
theorem dX4_readDigits_0 (k : Nat) {pc n pc' : Nat} {i : Instr} (h : iX4_readDigits_0[k]? = some (pc, i, n, pc')) : zd cX4_readDigits pc i n pc' := dlX4_readDigits_0 (pc, i, n, pc') (List.mem_of_getElem? h)
theorem dX4_isOfNumbers_0 (k : Nat) {pc n pc' : Nat} {i : Instr} (h : iX4_isOfNumbers_0[k]? = some (pc, i, n, pc')) : zd cX4_isOfNumbers pc i n pc' := dlX4_isOfNumbers_0 (pc, i, n, pc') (List.mem_of_getElem? h)
theorem dX4_sumOf_0 (k : Nat) {pc n pc' : Nat} {i : Instr} (h : iX4_sumOf_0[k]? = some (pc, i, n, pc')) : zd cX4_sumOf pc i n pc' := dlX4_sumOf_0 (pc, i, n, pc') (List.mem_of_getElem? h)
theorem dX4_laidLines_0 (k : Nat) {pc n pc' : Nat} {i : Instr} (h : iX4_laidLines_0[k]? = some (pc, i, n, pc')) : zd cX4_laidLines pc i n pc' := dlX4_laidLines_0 (pc, i, n, pc') (List.mem_of_getElem? h)
theorem dX4_measure_0 (k : Nat) {pc n pc' : Nat} {i : Instr} (h : iX4_measure_0[k]? = some (pc, i, n, pc')) : zd cX4_measure pc i n pc' := dlX4_measure_0 (pc, i, n, pc') (List.mem_of_getElem? h)
theorem dX4_measure_1 (k : Nat) {pc n pc' : Nat} {i : Instr} (h : iX4_measure_1[k]? = some (pc, i, n, pc')) : zd cX4_measure pc i n pc' := dlX4_measure_1 (pc, i, n, pc') (List.mem_of_getElem? h)
theorem dX4_layOn_0 (k : Nat) {pc n pc' : Nat} {i : Instr} (h : iX4_layOn_0[k]? = some (pc, i, n, pc')) : zd cX4_layOn pc i n pc' := dlX4_layOn_0 (pc, i, n, pc') (List.mem_of_getElem? h)
theorem dX4_layOn_1 (k : Nat) {pc n pc' : Nat} {i : Instr} (h : iX4_layOn_1[k]? = some (pc, i, n, pc')) : zd cX4_layOn pc i n pc' := dlX4_layOn_1 (pc, i, n, pc') (List.mem_of_getElem? h)
theorem dX4_layRow_0 (k : Nat) {pc n pc' : Nat} {i : Instr} (h : iX4_layRow_0[k]? = some (pc, i, n, pc')) : zd cX4_layRow pc i n pc' := dlX4_layRow_0 (pc, i, n, pc') (List.mem_of_getElem? h)
theorem dX4_layRow_1 (k : Nat) {pc n pc' : Nat} {i : Instr} (h : iX4_layRow_1[k]? = some (pc, i, n, pc')) : zd cX4_layRow pc i n pc' := dlX4_layRow_1 (pc, i, n, pc') (List.mem_of_getElem? h)
theorem dX5_init_0 (k : Nat) {pc n pc' : Nat} {i : Instr} (h : iX5_init_0[k]? = some (pc, i, n, pc')) : zd cX5_init pc i n pc' := dlX5_init_0 (pc, i, n, pc') (List.mem_of_getElem? h)
theorem dX5_init_1 (k : Nat) {pc n pc' : Nat} {i : Instr} (h : iX5_init_1[k]? = some (pc, i, n, pc')) : zd cX5_init pc i n pc' := dlX5_init_1 (pc, i, n, pc') (List.mem_of_getElem? h)
theorem dX5_type_0 (k : Nat) {pc n pc' : Nat} {i : Instr} (h : iX5_type_0[k]? = some (pc, i, n, pc')) : zd cX5_type pc i n pc' := dlX5_type_0 (pc, i, n, pc') (List.mem_of_getElem? h)
theorem dX5_type_1 (k : Nat) {pc n pc' : Nat} {i : Instr} (h : iX5_type_1[k]? = some (pc, i, n, pc')) : zd cX5_type pc i n pc' := dlX5_type_1 (pc, i, n, pc') (List.mem_of_getElem? h)
theorem dX5_line_0 (k : Nat) {pc n pc' : Nat} {i : Instr} (h : iX5_line_0[k]? = some (pc, i, n, pc')) : zd cX5_line pc i n pc' := dlX5_line_0 (pc, i, n, pc') (List.mem_of_getElem? h)
theorem dX5_clear_0 (k : Nat) {pc n pc' : Nat} {i : Instr} (h : iX5_clear_0[k]? = some (pc, i, n, pc')) : zd cX5_clear pc i n pc' := dlX5_clear_0 (pc, i, n, pc') (List.mem_of_getElem? h)
theorem dX5_at_0 (k : Nat) {pc n pc' : Nat} {i : Instr} (h : iX5_at_0[k]? = some (pc, i, n, pc')) : zd cX5_at pc i n pc' := dlX5_at_0 (pc, i, n, pc') (List.mem_of_getElem? h)
theorem dX5_kind_0 (k : Nat) {pc n pc' : Nat} {i : Instr} (h : iX5_kind_0[k]? = some (pc, i, n, pc')) : zd cX5_kind pc i n pc' := dlX5_kind_0 (pc, i, n, pc') (List.mem_of_getElem? h)
theorem dX5_set_0 (k : Nat) {pc n pc' : Nat} {i : Instr} (h : iX5_set_0[k]? = some (pc, i, n, pc')) : zd cX5_set pc i n pc' := dlX5_set_0 (pc, i, n, pc') (List.mem_of_getElem? h)
theorem dX5_cost_0 (k : Nat) {pc n pc' : Nat} {i : Instr} (h : iX5_cost_0[k]? = some (pc, i, n, pc')) : zd cX5_cost pc i n pc' := dlX5_cost_0 (pc, i, n, pc') (List.mem_of_getElem? h)
theorem dX5_find_0 (k : Nat) {pc n pc' : Nat} {i : Instr} (h : iX5_find_0[k]? = some (pc, i, n, pc')) : zd cX5_find pc i n pc' := dlX5_find_0 (pc, i, n, pc') (List.mem_of_getElem? h)
theorem dX5_more_0 (k : Nat) {pc n pc' : Nat} {i : Instr} (h : iX5_more_0[k]? = some (pc, i, n, pc')) : zd cX5_more pc i n pc' := dlX5_more_0 (pc, i, n, pc') (List.mem_of_getElem? h)
theorem dX5_more_1 (k : Nat) {pc n pc' : Nat} {i : Instr} (h : iX5_more_1[k]? = some (pc, i, n, pc')) : zd cX5_more pc i n pc' := dlX5_more_1 (pc, i, n, pc') (List.mem_of_getElem? h)
theorem dX5_told_0 (k : Nat) {pc n pc' : Nat} {i : Instr} (h : iX5_told_0[k]? = some (pc, i, n, pc')) : zd cX5_told pc i n pc' := dlX5_told_0 (pc, i, n, pc') (List.mem_of_getElem? h)
theorem dX5_cutAt_0 (k : Nat) {pc n pc' : Nat} {i : Instr} (h : iX5_cutAt_0[k]? = some (pc, i, n, pc')) : zd cX5_cutAt pc i n pc' := dlX5_cutAt_0 (pc, i, n, pc') (List.mem_of_getElem? h)
theorem dX5_size_0 (k : Nat) {pc n pc' : Nat} {i : Instr} (h : iX5_size_0[k]? = some (pc, i, n, pc')) : zd cX5_size pc i n pc' := dlX5_size_0 (pc, i, n, pc') (List.mem_of_getElem? h)
theorem dX5_cell_0 (k : Nat) {pc n pc' : Nat} {i : Instr} (h : iX5_cell_0[k]? = some (pc, i, n, pc')) : zd cX5_cell pc i n pc' := dlX5_cell_0 (pc, i, n, pc') (List.mem_of_getElem? h)
theorem dX5_value_0 (k : Nat) {pc n pc' : Nat} {i : Instr} (h : iX5_value_0[k]? = some (pc, i, n, pc')) : zd cX5_value pc i n pc' := dlX5_value_0 (pc, i, n, pc') (List.mem_of_getElem? h)
theorem dX5_numbers_0 (k : Nat) {pc n pc' : Nat} {i : Instr} (h : iX5_numbers_0[k]? = some (pc, i, n, pc')) : zd cX5_numbers pc i n pc' := dlX5_numbers_0 (pc, i, n, pc') (List.mem_of_getElem? h)
theorem dX5_sum_0 (k : Nat) {pc n pc' : Nat} {i : Instr} (h : iX5_sum_0[k]? = some (pc, i, n, pc')) : zd cX5_sum pc i n pc' := dlX5_sum_0 (pc, i, n, pc') (List.mem_of_getElem? h)
theorem dX5_agrees_0 (k : Nat) {pc n pc' : Nat} {i : Instr} (h : iX5_agrees_0[k]? = some (pc, i, n, pc')) : zd cX5_agrees pc i n pc' := dlX5_agrees_0 (pc, i, n, pc') (List.mem_of_getElem? h)
theorem dX5_lay_0 (k : Nat) {pc n pc' : Nat} {i : Instr} (h : iX5_lay_0[k]? = some (pc, i, n, pc')) : zd cX5_lay pc i n pc' := dlX5_lay_0 (pc, i, n, pc') (List.mem_of_getElem? h)
theorem dX5_costOfReading_0 (k : Nat) {pc n pc' : Nat} {i : Instr} (h : iX5_costOfReading_0[k]? = some (pc, i, n, pc')) : zd cX5_costOfReading pc i n pc' := dlX5_costOfReading_0 (pc, i, n, pc') (List.mem_of_getElem? h)
theorem dX5_costOfReading_1 (k : Nat) {pc n pc' : Nat} {i : Instr} (h : iX5_costOfReading_1[k]? = some (pc, i, n, pc')) : zd cX5_costOfReading pc i n pc' := dlX5_costOfReading_1 (pc, i, n, pc') (List.mem_of_getElem? h)
theorem dX5_readCandidate_0 (k : Nat) {pc n pc' : Nat} {i : Instr} (h : iX5_readCandidate_0[k]? = some (pc, i, n, pc')) : zd cX5_readCandidate pc i n pc' := dlX5_readCandidate_0 (pc, i, n, pc') (List.mem_of_getElem? h)
theorem dX5_keepFound_0 (k : Nat) {pc n pc' : Nat} {i : Instr} (h : iX5_keepFound_0[k]? = some (pc, i, n, pc')) : zd cX5_keepFound pc i n pc' := dlX5_keepFound_0 (pc, i, n, pc') (List.mem_of_getElem? h)
theorem dX5_isCut_0 (k : Nat) {pc n pc' : Nat} {i : Instr} (h : iX5_isCut_0[k]? = some (pc, i, n, pc')) : zd cX5_isCut pc i n pc' := dlX5_isCut_0 (pc, i, n, pc') (List.mem_of_getElem? h)
theorem dX5_byteOfWord_0 (k : Nat) {pc n pc' : Nat} {i : Instr} (h : iX5_byteOfWord_0[k]? = some (pc, i, n, pc')) : zd cX5_byteOfWord pc i n pc' := dlX5_byteOfWord_0 (pc, i, n, pc') (List.mem_of_getElem? h)
theorem dX5_isTypable_0 (k : Nat) {pc n pc' : Nat} {i : Instr} (h : iX5_isTypable_0[k]? = some (pc, i, n, pc')) : zd cX5_isTypable pc i n pc' := dlX5_isTypable_0 (pc, i, n, pc') (List.mem_of_getElem? h)
theorem dX5_isDigit_0 (k : Nat) {pc n pc' : Nat} {i : Instr} (h : iX5_isDigit_0[k]? = some (pc, i, n, pc')) : zd cX5_isDigit pc i n pc' := dlX5_isDigit_0 (pc, i, n, pc') (List.mem_of_getElem? h)
theorem dX5_pick_0 (k : Nat) {pc n pc' : Nat} {i : Instr} (h : iX5_pick_0[k]? = some (pc, i, n, pc')) : zd cX5_pick pc i n pc' := dlX5_pick_0 (pc, i, n, pc') (List.mem_of_getElem? h)
theorem dX5_put_0 (k : Nat) {pc n pc' : Nat} {i : Instr} (h : iX5_put_0[k]? = some (pc, i, n, pc')) : zd cX5_put pc i n pc' := dlX5_put_0 (pc, i, n, pc') (List.mem_of_getElem? h)
theorem dX6_init_0 (k : Nat) {pc n pc' : Nat} {i : Instr} (h : iX6_init_0[k]? = some (pc, i, n, pc')) : zd cX6_init pc i n pc' := dlX6_init_0 (pc, i, n, pc') (List.mem_of_getElem? h)
theorem dX6_init_1 (k : Nat) {pc n pc' : Nat} {i : Instr} (h : iX6_init_1[k]? = some (pc, i, n, pc')) : zd cX6_init pc i n pc' := dlX6_init_1 (pc, i, n, pc') (List.mem_of_getElem? h)
theorem dX6_in_0 (k : Nat) {pc n pc' : Nat} {i : Instr} (h : iX6_in_0[k]? = some (pc, i, n, pc')) : zd cX6_in pc i n pc' := dlX6_in_0 (pc, i, n, pc') (List.mem_of_getElem? h)
theorem dX6_type_0 (k : Nat) {pc n pc' : Nat} {i : Instr} (h : iX6_type_0[k]? = some (pc, i, n, pc')) : zd cX6_type pc i n pc' := dlX6_type_0 (pc, i, n, pc') (List.mem_of_getElem? h)
theorem dX6_type_1 (k : Nat) {pc n pc' : Nat} {i : Instr} (h : iX6_type_1[k]? = some (pc, i, n, pc')) : zd cX6_type pc i n pc' := dlX6_type_1 (pc, i, n, pc') (List.mem_of_getElem? h)
theorem dX6_line_0 (k : Nat) {pc n pc' : Nat} {i : Instr} (h : iX6_line_0[k]? = some (pc, i, n, pc')) : zd cX6_line pc i n pc' := dlX6_line_0 (pc, i, n, pc') (List.mem_of_getElem? h)
theorem dX6_line_1 (k : Nat) {pc n pc' : Nat} {i : Instr} (h : iX6_line_1[k]? = some (pc, i, n, pc')) : zd cX6_line pc i n pc' := dlX6_line_1 (pc, i, n, pc') (List.mem_of_getElem? h)
theorem dX6_clear_0 (k : Nat) {pc n pc' : Nat} {i : Instr} (h : iX6_clear_0[k]? = some (pc, i, n, pc')) : zd cX6_clear pc i n pc' := dlX6_clear_0 (pc, i, n, pc') (List.mem_of_getElem? h)
theorem dX6_byteAt_0 (k : Nat) {pc n pc' : Nat} {i : Instr} (h : iX6_byteAt_0[k]? = some (pc, i, n, pc')) : zd cX6_byteAt pc i n pc' := dlX6_byteAt_0 (pc, i, n, pc') (List.mem_of_getElem? h)
theorem dX6_at_0 (k : Nat) {pc n pc' : Nat} {i : Instr} (h : iX6_at_0[k]? = some (pc, i, n, pc')) : zd cX6_at pc i n pc' := dlX6_at_0 (pc, i, n, pc') (List.mem_of_getElem? h)
theorem dX6_isBlank_0 (k : Nat) {pc n pc' : Nat} {i : Instr} (h : iX6_isBlank_0[k]? = some (pc, i, n, pc')) : zd cX6_isBlank pc i n pc' := dlX6_isBlank_0 (pc, i, n, pc') (List.mem_of_getElem? h)
theorem dX6_kindOf_0 (k : Nat) {pc n pc' : Nat} {i : Instr} (h : iX6_kindOf_0[k]? = some (pc, i, n, pc')) : zd cX6_kindOf pc i n pc' := dlX6_kindOf_0 (pc, i, n, pc') (List.mem_of_getElem? h)
theorem dX6_kindOf_1 (k : Nat) {pc n pc' : Nat} {i : Instr} (h : iX6_kindOf_1[k]? = some (pc, i, n, pc')) : zd cX6_kindOf pc i n pc' := dlX6_kindOf_1 (pc, i, n, pc') (List.mem_of_getElem? h)
theorem dX6_kindOf_2 (k : Nat) {pc n pc' : Nat} {i : Instr} (h : iX6_kindOf_2[k]? = some (pc, i, n, pc')) : zd cX6_kindOf pc i n pc' := dlX6_kindOf_2 (pc, i, n, pc') (List.mem_of_getElem? h)
theorem dX6_kind_0 (k : Nat) {pc n pc' : Nat} {i : Instr} (h : iX6_kind_0[k]? = some (pc, i, n, pc')) : zd cX6_kind pc i n pc' := dlX6_kind_0 (pc, i, n, pc') (List.mem_of_getElem? h)
theorem dX6_set_0 (k : Nat) {pc n pc' : Nat} {i : Instr} (h : iX6_set_0[k]? = some (pc, i, n, pc')) : zd cX6_set pc i n pc' := dlX6_set_0 (pc, i, n, pc') (List.mem_of_getElem? h)
theorem dX6_set_1 (k : Nat) {pc n pc' : Nat} {i : Instr} (h : iX6_set_1[k]? = some (pc, i, n, pc')) : zd cX6_set pc i n pc' := dlX6_set_1 (pc, i, n, pc') (List.mem_of_getElem? h)
theorem dX6_look_0 (k : Nat) {pc n pc' : Nat} {i : Instr} (h : iX6_look_0[k]? = some (pc, i, n, pc')) : zd cX6_look pc i n pc' := dlX6_look_0 (pc, i, n, pc') (List.mem_of_getElem? h)
theorem dX6_look_1 (k : Nat) {pc n pc' : Nat} {i : Instr} (h : iX6_look_1[k]? = some (pc, i, n, pc')) : zd cX6_look pc i n pc' := dlX6_look_1 (pc, i, n, pc') (List.mem_of_getElem? h)
theorem dX6_look_2 (k : Nat) {pc n pc' : Nat} {i : Instr} (h : iX6_look_2[k]? = some (pc, i, n, pc')) : zd cX6_look pc i n pc' := dlX6_look_2 (pc, i, n, pc') (List.mem_of_getElem? h)
theorem dX6_cutCost_0 (k : Nat) {pc n pc' : Nat} {i : Instr} (h : iX6_cutCost_0[k]? = some (pc, i, n, pc')) : zd cX6_cutCost pc i n pc' := dlX6_cutCost_0 (pc, i, n, pc') (List.mem_of_getElem? h)
theorem dX6_columnCost_0 (k : Nat) {pc n pc' : Nat} {i : Instr} (h : iX6_columnCost_0[k]? = some (pc, i, n, pc')) : zd cX6_columnCost pc i n pc' := dlX6_columnCost_0 (pc, i, n, pc') (List.mem_of_getElem? h)
theorem dX6_columnCost_1 (k : Nat) {pc n pc' : Nat} {i : Instr} (h : iX6_columnCost_1[k]? = some (pc, i, n, pc')) : zd cX6_columnCost pc i n pc' := dlX6_columnCost_1 (pc, i, n, pc') (List.mem_of_getElem? h)
theorem dX6_cost_0 (k : Nat) {pc n pc' : Nat} {i : Instr} (h : iX6_cost_0[k]? = some (pc, i, n, pc')) : zd cX6_cost pc i n pc' := dlX6_cost_0 (pc, i, n, pc') (List.mem_of_getElem? h)
theorem dX6_cost_1 (k : Nat) {pc n pc' : Nat} {i : Instr} (h : iX6_cost_1[k]? = some (pc, i, n, pc')) : zd cX6_cost pc i n pc' := dlX6_cost_1 (pc, i, n, pc') (List.mem_of_getElem? h)
theorem dX6_reckon_0 (k : Nat) {pc n pc' : Nat} {i : Instr} (h : iX6_reckon_0[k]? = some (pc, i, n, pc')) : zd cX6_reckon pc i n pc' := dlX6_reckon_0 (pc, i, n, pc') (List.mem_of_getElem? h)
theorem dX6_reckon_1 (k : Nat) {pc n pc' : Nat} {i : Instr} (h : iX6_reckon_1[k]? = some (pc, i, n, pc')) : zd cX6_reckon pc i n pc' := dlX6_reckon_1 (pc, i, n, pc') (List.mem_of_getElem? h)
theorem dX6_reckon_2 (k : Nat) {pc n pc' : Nat} {i : Instr} (h : iX6_reckon_2[k]? = some (pc, i, n, pc')) : zd cX6_reckon pc i n pc' := dlX6_reckon_2 (pc, i, n, pc') (List.mem_of_getElem? h)
theorem dX6_reckon_3 (k : Nat) {pc n pc' : Nat} {i : Instr} (h : iX6_reckon_3[k]? = some (pc, i, n, pc')) : zd cX6_reckon pc i n pc' := dlX6_reckon_3 (pc, i, n, pc') (List.mem_of_getElem? h)
theorem dX6_take_0 (k : Nat) {pc n pc' : Nat} {i : Instr} (h : iX6_take_0[k]? = some (pc, i, n, pc')) : zd cX6_take pc i n pc' := dlX6_take_0 (pc, i, n, pc') (List.mem_of_getElem? h)
theorem dX6_readBest_0 (k : Nat) {pc n pc' : Nat} {i : Instr} (h : iX6_readBest_0[k]? = some (pc, i, n, pc')) : zd cX6_readBest pc i n pc' := dlX6_readBest_0 (pc, i, n, pc') (List.mem_of_getElem? h)
theorem dX6_readBest_1 (k : Nat) {pc n pc' : Nat} {i : Instr} (h : iX6_readBest_1[k]? = some (pc, i, n, pc')) : zd cX6_readBest pc i n pc' := dlX6_readBest_1 (pc, i, n, pc') (List.mem_of_getElem? h)
theorem dX6_readBest_2 (k : Nat) {pc n pc' : Nat} {i : Instr} (h : iX6_readBest_2[k]? = some (pc, i, n, pc')) : zd cX6_readBest pc i n pc' := dlX6_readBest_2 (pc, i, n, pc') (List.mem_of_getElem? h)
theorem dX6_readBest_3 (k : Nat) {pc n pc' : Nat} {i : Instr} (h : iX6_readBest_3[k]? = some (pc, i, n, pc')) : zd cX6_readBest pc i n pc' := dlX6_readBest_3 (pc, i, n, pc') (List.mem_of_getElem? h)
theorem dX6_isWay_0 (k : Nat) {pc n pc' : Nat} {i : Instr} (h : iX6_isWay_0[k]? = some (pc, i, n, pc')) : zd cX6_isWay pc i n pc' := dlX6_isWay_0 (pc, i, n, pc') (List.mem_of_getElem? h)
theorem dX6_isWay_1 (k : Nat) {pc n pc' : Nat} {i : Instr} (h : iX6_isWay_1[k]? = some (pc, i, n, pc')) : zd cX6_isWay pc i n pc' := dlX6_isWay_1 (pc, i, n, pc') (List.mem_of_getElem? h)
theorem dX6_join_0 (k : Nat) {pc n pc' : Nat} {i : Instr} (h : iX6_join_0[k]? = some (pc, i, n, pc')) : zd cX6_join pc i n pc' := dlX6_join_0 (pc, i, n, pc') (List.mem_of_getElem? h)
theorem dX6_join_1 (k : Nat) {pc n pc' : Nat} {i : Instr} (h : iX6_join_1[k]? = some (pc, i, n, pc')) : zd cX6_join pc i n pc' := dlX6_join_1 (pc, i, n, pc') (List.mem_of_getElem? h)
theorem dX6_join_2 (k : Nat) {pc n pc' : Nat} {i : Instr} (h : iX6_join_2[k]? = some (pc, i, n, pc')) : zd cX6_join pc i n pc' := dlX6_join_2 (pc, i, n, pc') (List.mem_of_getElem? h)
theorem dX6_join_3 (k : Nat) {pc n pc' : Nat} {i : Instr} (h : iX6_join_3[k]? = some (pc, i, n, pc')) : zd cX6_join pc i n pc' := dlX6_join_3 (pc, i, n, pc') (List.mem_of_getElem? h)
theorem dX6_isEmptyCell_0 (k : Nat) {pc n pc' : Nat} {i : Instr} (h : iX6_isEmptyCell_0[k]? = some (pc, i, n, pc')) : zd cX6_isEmptyCell pc i n pc' := dlX6_isEmptyCell_0 (pc, i, n, pc') (List.mem_of_getElem? h)
theorem dX6_joinLine_0 (k : Nat) {pc n pc' : Nat} {i : Instr} (h : iX6_joinLine_0[k]? = some (pc, i, n, pc')) : zd cX6_joinLine pc i n pc' := dlX6_joinLine_0 (pc, i, n, pc') (List.mem_of_getElem? h)
theorem dX6_plainsIn_0 (k : Nat) {pc n pc' : Nat} {i : Instr} (h : iX6_plainsIn_0[k]? = some (pc, i, n, pc')) : zd cX6_plainsIn pc i n pc' := dlX6_plainsIn_0 (pc, i, n, pc') (List.mem_of_getElem? h)
theorem dX6_readRows_0 (k : Nat) {pc n pc' : Nat} {i : Instr} (h : iX6_readRows_0[k]? = some (pc, i, n, pc')) : zd cX6_readRows pc i n pc' := dlX6_readRows_0 (pc, i, n, pc') (List.mem_of_getElem? h)
theorem dX6_readRows_1 (k : Nat) {pc n pc' : Nat} {i : Instr} (h : iX6_readRows_1[k]? = some (pc, i, n, pc')) : zd cX6_readRows pc i n pc' := dlX6_readRows_1 (pc, i, n, pc') (List.mem_of_getElem? h)
theorem dX6_readRows_2 (k : Nat) {pc n pc' : Nat} {i : Instr} (h : iX6_readRows_2[k]? = some (pc, i, n, pc')) : zd cX6_readRows pc i n pc' := dlX6_readRows_2 (pc, i, n, pc') (List.mem_of_getElem? h)
theorem dX6_readRows_3 (k : Nat) {pc n pc' : Nat} {i : Instr} (h : iX6_readRows_3[k]? = some (pc, i, n, pc')) : zd cX6_readRows pc i n pc' := dlX6_readRows_3 (pc, i, n, pc') (List.mem_of_getElem? h)
theorem dX6_readRows_4 (k : Nat) {pc n pc' : Nat} {i : Instr} (h : iX6_readRows_4[k]? = some (pc, i, n, pc')) : zd cX6_readRows pc i n pc' := dlX6_readRows_4 (pc, i, n, pc') (List.mem_of_getElem? h)
theorem dX6_copyRow_0 (k : Nat) {pc n pc' : Nat} {i : Instr} (h : iX6_copyRow_0[k]? = some (pc, i, n, pc')) : zd cX6_copyRow pc i n pc' := dlX6_copyRow_0 (pc, i, n, pc') (List.mem_of_getElem? h)
theorem dX6_copyRow_1 (k : Nat) {pc n pc' : Nat} {i : Instr} (h : iX6_copyRow_1[k]? = some (pc, i, n, pc')) : zd cX6_copyRow pc i n pc' := dlX6_copyRow_1 (pc, i, n, pc') (List.mem_of_getElem? h)
theorem dX6_keepFound_0 (k : Nat) {pc n pc' : Nat} {i : Instr} (h : iX6_keepFound_0[k]? = some (pc, i, n, pc')) : zd cX6_keepFound pc i n pc' := dlX6_keepFound_0 (pc, i, n, pc') (List.mem_of_getElem? h)
theorem dX6_keepFound_1 (k : Nat) {pc n pc' : Nat} {i : Instr} (h : iX6_keepFound_1[k]? = some (pc, i, n, pc')) : zd cX6_keepFound pc i n pc' := dlX6_keepFound_1 (pc, i, n, pc') (List.mem_of_getElem? h)
theorem dX6_find_0 (k : Nat) {pc n pc' : Nat} {i : Instr} (h : iX6_find_0[k]? = some (pc, i, n, pc')) : zd cX6_find pc i n pc' := dlX6_find_0 (pc, i, n, pc') (List.mem_of_getElem? h)
theorem dX6_find_1 (k : Nat) {pc n pc' : Nat} {i : Instr} (h : iX6_find_1[k]? = some (pc, i, n, pc')) : zd cX6_find pc i n pc' := dlX6_find_1 (pc, i, n, pc') (List.mem_of_getElem? h)
theorem dX6_goTogether_0 (k : Nat) {pc n pc' : Nat} {i : Instr} (h : iX6_goTogether_0[k]? = some (pc, i, n, pc')) : zd cX6_goTogether pc i n pc' := dlX6_goTogether_0 (pc, i, n, pc') (List.mem_of_getElem? h)
theorem dX6_goTogether_1 (k : Nat) {pc n pc' : Nat} {i : Instr} (h : iX6_goTogether_1[k]? = some (pc, i, n, pc')) : zd cX6_goTogether pc i n pc' := dlX6_goTogether_1 (pc, i, n, pc') (List.mem_of_getElem? h)
theorem dX6_more_0 (k : Nat) {pc n pc' : Nat} {i : Instr} (h : iX6_more_0[k]? = some (pc, i, n, pc')) : zd cX6_more pc i n pc' := dlX6_more_0 (pc, i, n, pc') (List.mem_of_getElem? h)
theorem dX6_more_1 (k : Nat) {pc n pc' : Nat} {i : Instr} (h : iX6_more_1[k]? = some (pc, i, n, pc')) : zd cX6_more pc i n pc' := dlX6_more_1 (pc, i, n, pc') (List.mem_of_getElem? h)
theorem dX6_told_0 (k : Nat) {pc n pc' : Nat} {i : Instr} (h : iX6_told_0[k]? = some (pc, i, n, pc')) : zd cX6_told pc i n pc' := dlX6_told_0 (pc, i, n, pc') (List.mem_of_getElem? h)
theorem dX6_cutAt_0 (k : Nat) {pc n pc' : Nat} {i : Instr} (h : iX6_cutAt_0[k]? = some (pc, i, n, pc')) : zd cX6_cutAt pc i n pc' := dlX6_cutAt_0 (pc, i, n, pc') (List.mem_of_getElem? h)
theorem dX6_hasSome_0 (k : Nat) {pc n pc' : Nat} {i : Instr} (h : iX6_hasSome_0[k]? = some (pc, i, n, pc')) : zd cX6_hasSome pc i n pc' := dlX6_hasSome_0 (pc, i, n, pc') (List.mem_of_getElem? h)
theorem dX6_size_0 (k : Nat) {pc n pc' : Nat} {i : Instr} (h : iX6_size_0[k]? = some (pc, i, n, pc')) : zd cX6_size pc i n pc' := dlX6_size_0 (pc, i, n, pc') (List.mem_of_getElem? h)
theorem dX6_cellAt_0 (k : Nat) {pc n pc' : Nat} {i : Instr} (h : iX6_cellAt_0[k]? = some (pc, i, n, pc')) : zd cX6_cellAt pc i n pc' := dlX6_cellAt_0 (pc, i, n, pc') (List.mem_of_getElem? h)
theorem dX6_cell_0 (k : Nat) {pc n pc' : Nat} {i : Instr} (h : iX6_cell_0[k]? = some (pc, i, n, pc')) : zd cX6_cell pc i n pc' := dlX6_cell_0 (pc, i, n, pc') (List.mem_of_getElem? h)
theorem dX6_isDigit_0 (k : Nat) {pc n pc' : Nat} {i : Instr} (h : iX6_isDigit_0[k]? = some (pc, i, n, pc')) : zd cX6_isDigit pc i n pc' := dlX6_isDigit_0 (pc, i, n, pc') (List.mem_of_getElem? h)
theorem dX6_isNumber_0 (k : Nat) {pc n pc' : Nat} {i : Instr} (h : iX6_isNumber_0[k]? = some (pc, i, n, pc')) : zd cX6_isNumber pc i n pc' := dlX6_isNumber_0 (pc, i, n, pc') (List.mem_of_getElem? h)
theorem dX6_isNumber_1 (k : Nat) {pc n pc' : Nat} {i : Instr} (h : iX6_isNumber_1[k]? = some (pc, i, n, pc')) : zd cX6_isNumber pc i n pc' := dlX6_isNumber_1 (pc, i, n, pc') (List.mem_of_getElem? h)
theorem dX6_isNumber_2 (k : Nat) {pc n pc' : Nat} {i : Instr} (h : iX6_isNumber_2[k]? = some (pc, i, n, pc')) : zd cX6_isNumber pc i n pc' := dlX6_isNumber_2 (pc, i, n, pc') (List.mem_of_getElem? h)
theorem dX6_isNumber_3 (k : Nat) {pc n pc' : Nat} {i : Instr} (h : iX6_isNumber_3[k]? = some (pc, i, n, pc')) : zd cX6_isNumber pc i n pc' := dlX6_isNumber_3 (pc, i, n, pc') (List.mem_of_getElem? h)
theorem dX6_value_0 (k : Nat) {pc n pc' : Nat} {i : Instr} (h : iX6_value_0[k]? = some (pc, i, n, pc')) : zd cX6_value pc i n pc' := dlX6_value_0 (pc, i, n, pc') (List.mem_of_getElem? h)
theorem dX6_isColumn_0 (k : Nat) {pc n pc' : Nat} {i : Instr} (h : iX6_isColumn_0[k]? = some (pc, i, n, pc')) : zd cX6_isColumn pc i n pc' := dlX6_isColumn_0 (pc, i, n, pc') (List.mem_of_getElem? h)
theorem dX6_areNumbers_0 (k : Nat) {pc n pc' : Nat} {i : Instr} (h : iX6_areNumbers_0[k]? = some (pc, i, n, pc')) : zd cX6_areNumbers pc i n pc' := dlX6_areNumbers_0 (pc, i, n, pc') (List.mem_of_getElem? h)
theorem dX6_numbers_0 (k : Nat) {pc n pc' : Nat} {i : Instr} (h : iX6_numbers_0[k]? = some (pc, i, n, pc')) : zd cX6_numbers pc i n pc' := dlX6_numbers_0 (pc, i, n, pc') (List.mem_of_getElem? h)
theorem dX6_sumOf_0 (k : Nat) {pc n pc' : Nat} {i : Instr} (h : iX6_sumOf_0[k]? = some (pc, i, n, pc')) : zd cX6_sumOf pc i n pc' := dlX6_sumOf_0 (pc, i, n, pc') (List.mem_of_getElem? h)
theorem dX6_sum_0 (k : Nat) {pc n pc' : Nat} {i : Instr} (h : iX6_sum_0[k]? = some (pc, i, n, pc')) : zd cX6_sum pc i n pc' := dlX6_sum_0 (pc, i, n, pc') (List.mem_of_getElem? h)
theorem dX6_agrees_0 (k : Nat) {pc n pc' : Nat} {i : Instr} (h : iX6_agrees_0[k]? = some (pc, i, n, pc')) : zd cX6_agrees pc i n pc' := dlX6_agrees_0 (pc, i, n, pc') (List.mem_of_getElem? h)
theorem dX6_widthOf_0 (k : Nat) {pc n pc' : Nat} {i : Instr} (h : iX6_widthOf_0[k]? = some (pc, i, n, pc')) : zd cX6_widthOf pc i n pc' := dlX6_widthOf_0 (pc, i, n, pc') (List.mem_of_getElem? h)
theorem dX6_layRule_0 (k : Nat) {pc n pc' : Nat} {i : Instr} (h : iX6_layRule_0[k]? = some (pc, i, n, pc')) : zd cX6_layRule pc i n pc' := dlX6_layRule_0 (pc, i, n, pc') (List.mem_of_getElem? h)
theorem dX6_layRow_0 (k : Nat) {pc n pc' : Nat} {i : Instr} (h : iX6_layRow_0[k]? = some (pc, i, n, pc')) : zd cX6_layRow pc i n pc' := dlX6_layRow_0 (pc, i, n, pc') (List.mem_of_getElem? h)
theorem dX6_layRow_1 (k : Nat) {pc n pc' : Nat} {i : Instr} (h : iX6_layRow_1[k]? = some (pc, i, n, pc')) : zd cX6_layRow pc i n pc' := dlX6_layRow_1 (pc, i, n, pc') (List.mem_of_getElem? h)
theorem dX6_layRow_2 (k : Nat) {pc n pc' : Nat} {i : Instr} (h : iX6_layRow_2[k]? = some (pc, i, n, pc')) : zd cX6_layRow pc i n pc' := dlX6_layRow_2 (pc, i, n, pc') (List.mem_of_getElem? h)
theorem dX6_lay_0 (k : Nat) {pc n pc' : Nat} {i : Instr} (h : iX6_lay_0[k]? = some (pc, i, n, pc')) : zd cX6_lay pc i n pc' := dlX6_lay_0 (pc, i, n, pc') (List.mem_of_getElem? h)
theorem dX6_lay_1 (k : Nat) {pc n pc' : Nat} {i : Instr} (h : iX6_lay_1[k]? = some (pc, i, n, pc')) : zd cX6_lay pc i n pc' := dlX6_lay_1 (pc, i, n, pc') (List.mem_of_getElem? h)
theorem dX6_lay_2 (k : Nat) {pc n pc' : Nat} {i : Instr} (h : iX6_lay_2[k]? = some (pc, i, n, pc')) : zd cX6_lay pc i n pc' := dlX6_lay_2 (pc, i, n, pc') (List.mem_of_getElem? h)
