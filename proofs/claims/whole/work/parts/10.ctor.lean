/-! CONSTRUCTORS: a new cell is laid ahead of the world; a constructor's contract says of some new addresses q what world it leaves -/
def kNQ (D : va_G) (cy : Nat → ClassId) (A : Nat → Prop) (X2 : (Nat → Nat) → va_W) : Array Value → State → Outcome → State → Prop := fun _ st oc t => (oc = .returned none ∧ ∃ q : Nat → Nat, kPost D cy A (X2 q) t) ∧ va_F A st t
def kN (l : Launch) (y : MethodName) (ws : List Cond) (rm : Room) (D : va_G) (cy : Nat → ClassId) (X : va_W) (av : List Value) (X2 : (Nat → Nat) → va_W) (mc ms : Nat) : Prop :=
  ∀ sz : Nat, Met l y ws rm (va_Pc av (kPre D cy X sz)) (kNQ D cy (va_A X sz) X2) mc ms (va_A X sz)
def kEndN (K : kEnv) (D : va_G) (cy : Nat → ClassId) (A : Nat → Prop) (X2 : (Nat → Nat) → va_W) (mc ms : Nat) : State → Prop :=
  match K with
  | (_, _, s, _, args, below, _, _) => MQ below (kNQ D cy A X2) args s mc ms A
theorem kN.start {l : Launch} {y : MethodName} {ws ws1 : List Cond} {rm : Room} {D : va_G} {cy : Nat → ClassId} {X : va_W} {X2 : (Nat → Nat) → va_W} {av : List Value} {mc ms n : Nat} {L : List (Nat × Value)} {cc : ByteArray} {own : String}
    (hy : plainName y.cls = true) (hw : ws = .code y cc n none :: ws1) (ho : y.cls = own) (hin : y.name = "<init>") (hn : (lg_sl av).length ≤ n) (hL : lv_args 0 av = L)
    (body : ∀ (K : kEnv) (A : Nat → Prop), kC K D cy A n cc own ws none → kInit K → kG K l D A rm n (kEndN K D cy A X2 mc ms) X 0 0 0 L []) : kN l y ws rm D cy X av X2 mc ms := by
  intro sz
  refine Met.ofW (cc := cc) (maxL := n) (ret := none) hy hw ?_
  intro p e s m args below meth c s₁ B hml hv
  obtain ⟨rfl, hsz, hP, hK, hD0⟩ := hv
  have hown : s.vm.findClass own = some m.cls := by rw [← ho]; exact findClass_of_methodNamed B.named
  have hts := atoms_spec (ws := ws) B.pre
  have hi : meth.name = "<init>" := (name_of_methodNamed B.named B.method).1.trans hin
  subst hsz
  have hD := hD0.self (sz := s.heap.size)
  have h := body (p, e, s, m, av.toArray, below, meth, c) (va_A X s.heap.size) ⟨B.exec, B.bytes, hml, hown, hts, hK, fun q h => Or.inr h, B.notSynchronized, B.returns⟩ hi
  rw [lg_entry_eq]
  exact h s.heap [] _ hP hD va_S.rf (by rw [← hL]; exact lv_entry av hn)
theorem va_P.front {D : va_G} {cl : List vw_C} {X : va_W} {c : Nat × va_E} {H : Heap} (h : va_P D cl (X ++ [c]) H) : va_P D cl (c :: X) H := by
  intro k q hk
  have hm := List.mem_of_getElem? hk
  have hm2 : q ∈ X ++ [c] := by
    rcases List.mem_cons.mp hm with e | e
    · rw [e]; simp
    · exact List.mem_append_left _ e
  obtain ⟨i, hi⟩ := List.getElem?_of_mem hm2
  exact h i q hi
theorem va_D.front {A : Nat → Prop} {X : va_W} {c : Nat × va_E} (h : va_D A (X ++ [c])) : va_D A (c :: X) := by
  have key : ∀ (k : Nat) (q : Nat × va_E), (c :: X)[k]? = some q → (X ++ [c])[if k = 0 then X.length else k - 1]? = some q := by
    intro k q hk
    cases k with
    | zero => rw [if_pos rfl, List.getElem?_append_right (Nat.le_refl _), Nat.sub_self]; exact hk
    | succ k =>
      rw [if_neg (by omega), Nat.add_sub_cancel]
      rw [List.getElem?_cons_succ] at hk
      rw [List.getElem?_append_left (List.getElem?_eq_some_iff.mp hk).1]; exact hk
  refine ⟨fun i j p q hi hj hpq => ?_, fun k q hk => h.2 _ q (key k q hk)⟩
  have e := h.1 _ _ p q (key i p hi) (key j q hj) hpq
  have hli : i < X.length + 1 := by have := (List.getElem?_eq_some_iff.mp hi).1; simpa using this
  have hlj : j < X.length + 1 := by have := (List.getElem?_eq_some_iff.mp hj).1; simpa using this
  by_cases h1 : i = 0
  · by_cases h2 : j = 0
    · omega
    · rw [if_pos h1, if_neg h2] at e; omega
  · by_cases h2 : j = 0
    · rw [if_neg h1, if_pos h2] at e; omega
    · rw [if_neg h1, if_neg h2] at e; omega
theorem fm_some {α β : Type} {f : α → Option β} : ∀ {is : List α} {ys : List β}, is.map f = ys.map some → is.filterMap f = ys := by
  intro is
  induction is with
  | nil =>
    intro ys h
    cases ys with
    | nil => rfl
    | cons y ys => cases h
  | cons i is ih =>
    intro ys h
    cases ys with
    | nil => cases h
    | cons y ys =>
      rw [List.map_cons, List.map_cons] at h
      injection h with h1 h2
      rw [List.filterMap_cons, h1, ih h2]
section KN
variable {K : kEnv} {l : Launch} {D : va_G} {cy : Nat → ClassId} {A : Nat → Prop} {R : Room} {n : Nat} {Q : State → Prop} {X X2 : va_W} {cells slots pc : Nat} {L L2 : List (Nat × Value)} {st : List Value} {cc : ByteArray} {own : String} {Ts : List Cond} {ret : Option FieldType} {mc ms : Nat}
theorem kr_perm (is : List Nat) (hnd : va_nd is = true) (hs : is.map (fun i => X[i]?) = X2.map some) (kk : kG K l D A R n Q X2 cells slots pc L st) : kG K l D A R n Q X cells slots pc L st := by
  obtain ⟨p, e, s, m, args, below, meth, c⟩ := K
  intro H locs ls hP hD hS h
  exact kk H locs ls (hP.sub is (fm_some hs)) (hD.sub is hnd hs) hS h
theorem kr_obj (C : kC K D cy A n cc own Ts ret) {a idx : Nat} (h1 : Cond.methodLink own idx objectInit ∈ Ts) (h2 : Cond.instanceMethod objectInit ∈ Ts) (h3 : Cond.code objectInit ⟨#[0xb1]⟩ 1 none ∈ Ts) (hf : 1 ≤ R.frames) (hlo : (st.map fun v => v.category).sum + 12 ≤ R.locals) (d : decode cc pc = .ok (.invokespecial idx, 3)) (kk : kG K l D A R n Q X cells slots (pc + 3) L st) : kG K l D A R n Q X cells slots pc L (.ref a :: st) := by
  obtain ⟨p, e, s, m, args, below, meth, c⟩ := K
  obtain ⟨hx, hb, hml, hown, hts, hK, hA, hlk, hrt⟩ := C
  intro H locs ls hP hD hS h
  refine W.objInit hx hb hown (hts _ h1) (hts _ h2) (hts _ h3) rfl (h.1.trans hml.symm) rfl d hf (by show 2 * 0 + _ + 12 ≤ _; omega) ?_
  exact W.eq (g2 := F0 m (pc + 3) ls st) rfl (kk H locs ls hP hD hS h)
theorem kr_newa (C : kC K D cy A n cc own Ts ret) {atype : ArrayType} {ty : FieldType} (t0 : Nat) (harr : Cond.arrayClass (newarray.typeOf atype) ∈ Ts) (hty : newarray.typeOf atype = ty) (ht : (kTy cy)[t0]? = some (cy t0, ty)) (hu : ∀ (U : State) (c1 c2 : ClassId), va_RA U c1 ty → va_RA U c2 ty → c1 = c2)
    {z : Int32} {N : Nat} {a0 : vp_A} (ha : ∀ cA : ClassId, vp_cell cA a0 = arrV cA N (fun _ => defaultValue ty)) (hn : ¬ z < 0) (hN : z.toNatClampNeg = N) (hbytes : N * componentBytes ty ≤ 536870912) (hcc : cells + 1 ≤ R.cells) (hss : slots + N ≤ R.slots) (d : decode cc pc = .ok (.newarray atype, 2))
    (kk : ∀ q : Nat, kG K l D A R n Q ((q, .inl (cy t0, a0)) :: X) (cells + 1) (slots + N) (pc + 2) L (.ref q :: st)) : kG K l D A R n Q X cells slots pc L (.int z :: st) := by
  obtain ⟨p, e, s, m, args, below, meth, c⟩ := K
  obtain ⟨hx, hb, hml, hown, hts, hK, hA, hlk, hrt⟩ := C
  intro H locs ls hP hD hS h
  refine va_newa hx hb (hts _ harr) hty hK hP hD hS hA ha hn hN hbytes hcc hss d (fun q cA H1 hK1 hP1 hD1 hS1 => ?_)
  have e1 : va_RA s cA ty := (hK1.2 (kTy cy).length (cA, ty) (by simp)).2
  have e2 : va_RA s (cy t0) ty := (hK.2 t0 (cy t0, ty) ht).2
  have e3 := hu s _ _ e1 e2
  subst e3
  exact kk q H1 locs ls hP1.front hD1.front hS1 h
theorem kr_new (C : kC K D cy A n cc own Ts ret) {Cn : String} {T : u_T} {N ci index : Nat} {fs : List Value} {ty0 : Nat → FieldType} (hin : ∀ w ∈ u_ws Cn T N, w ∈ Ts) (hty : ∀ k, k < N → parseFieldDescriptor (T k).2.2.1 = some (ty0 k)) (h1 : Cond.classLink own index Cn ∈ Ts) (h2 : Cond.instantiable Cn N ∈ Ts) (h3 : Cond.initialized Cn ∈ Ts) (hc : vwCl[ci]? = some (Cn, T, N)) (hfs : ∀ j, j < N → defaultValue (ty0 j) = vp_V fs j) (hcc : cells + 1 ≤ R.cells) (hss : slots + N ≤ R.slots) (d : decode cc pc = .ok (.new index, 3))
    (kk : ∀ q : Nat, kG K l D A R n Q ((q, .inr (ci, fs)) :: X) (cells + 1) (slots + N) (pc + 3) L (.ref q :: st)) : kG K l D A R n Q X cells slots pc L st := by
  obtain ⟨p, e, s, m, args, below, meth, c⟩ := K
  obtain ⟨hx, hb, hml, hown, hts, hK, hA, hlk, hrt⟩ := C
  intro H locs ls hP hD hS h
  exact va_new hx hb hts hin ty0 hty hown (hts _ h1) (hts _ h2) (hts _ h3) hK hP hD hS hA hc hfs hcc hss d (fun q H1 hP1 hD1 hS1 => kk q H1 locs ls hP1.front hD1.front hS1 h)
theorem kr_ret_n {A : Nat → Prop} (C : kC K D cy A n cc own Ts none) {X2 : (Nat → Nat) → va_W} (q : Nat → Nat) (hX : X = X2 q) (hc : cells ≤ mc) (hs : slots ≤ ms) (d : decode cc pc = .ok (.return_, 1)) : kG K l D A R n (kEndN K D cy A X2 mc ms) X cells slots pc L [] := by
  obtain ⟨p, e, s, m, args, below, meth, c⟩ := K
  obtain ⟨hx, hb, hml, hown, hts, hK, hA, hlk, hrt⟩ := C
  intro H locs ls hP hD hS h
  exact W.widen hc hs (W.vret hx hb hrt (fun t ht hW => ⟨⟨rfl, q, by rw [← hX, ht]; exact hP, va_K.moved hW.alike hK, by rw [← hX]; exact hD⟩, hS.F ht⟩) hS.2.2 d hlk)
theorem kr_callI (C : kC K D cy A n cc own Ts ret) {y : MethodName} {ws ws1 : List Cond} {rm : Room} {bytes : ByteArray} {maxL index k b : Nat} {As rest : List Value} {X2 : (Nat → Nat) → va_W} (hM : kN l y ws rm D cy X (.ref b :: As) X2 mc ms) (hG : GoodIn Ts ws) (hw : ws = .code y bytes maxL none :: ws1) (hrc : rm.cells = mc) (hrs : rm.slots = ms)
    (hini : Cond.initialized y.cls ∈ Ts) (hl : Cond.methodLink own index y ∈ Ts) (hin : Cond.instanceMethod y ∈ Ts) (hy1 : y.name = "<init>") (hd : y.cls ≠ "java/lang/invoke/MethodHandle" ∧ y.cls ≠ "java/lang/invoke/VarHandle" ∧ (parseMethodDescriptor y.desc).map (fun d => d.parameters.length) = some k)
    (hR : rm.frames + 1 ≤ R.frames ∧ 8 + (maxL + 11) + rm.locals ≤ R.locals) (hf : cells + mc ≤ R.cells ∧ slots + ms ≤ R.slots) (hn : As.length = k) (hst : st = As.reverse ++ .ref b :: rest) (hcat : (rest.map fun v => v.category).sum ≤ 8) (d : decode cc pc = .ok (.invokespecial index, 3))
    (kk : ∀ q : Nat → Nat, kG K l D A R n Q (X2 q) (cells + mc) (slots + ms) (pc + 3) L rest) : kG K l D A R n Q X cells slots pc L st := by
  obtain ⟨p, e, s, m, args, below, meth, c⟩ := K
  obtain ⟨hx, hb, hml, hown, hts, hK, hA, hlk, hrt⟩ := C
  intro H locs ls hP hD hS h
  have hFc := kFree hD hS hA
  have hr := va_runI (cells := cells) (slots := slots) (below := below) (meth := meth) (e := e) (locs := locs) (As := As) (rest := rest) (g := F0 m pc ls st) ⟨hx, hb, hml, hown, hts⟩ (hM H.size) (cwI k hts hG hw hrc hrs (hts _ hini) (hts _ hl) (hts _ hin) hy1 hd hR) ⟨fun _ _ _ _ q => ⟨q.1, q.2.calling⟩, fun U hU hW => ⟨rfl, by rw [hU], by rw [hU]; exact hP, va_K.moved hW.alike hK, hD.weaken (fun _ _ _ _ => trivial)⟩⟩ rfl hn h.1 hst (lv_room hcat) d hf
  intro T hT X9
  obtain ⟨v, st₀, t, T', L9, h0, X', hL, e1, e2, ⟨⟨hv, q, hB⟩, hz, hk⟩, st9⟩ := hr T hT X9
  cases hv
  rw [h0] at hz hk
  obtain ⟨hP1, -, hD1⟩ := hB
  obtain ⟨t2, a1, b1⟩ := kk q T'.heap (locs ++ L9) ls (by rw [e1]; exact hP1) (hD1.weaken (fun _ q _ h => hFc q.1 h))
    ⟨Nat.le_trans hS.1 (by rw [e1]; exact hz), fun q h1 h2 => by rw [e1, hk q (Nat.lt_of_lt_of_le h1 hS.1) (fun z => h2 (hFc q z))]; exact hS.2.1 q h1 h2, fun q hq => by
      rcases List.mem_append.mp hq with h | h
      · exact hS.2.2 q h
      · exact hFc _ (hL q h)⟩ h T' rfl X'
  exact ⟨t2, st9 t2 a1, b1⟩
end KN
theorem hu_int (U : State) (c1 c2 : ClassId) (h1 : va_RA U c1 .int) (h2 : va_RA U c2 .int) : c1 = c2 := Option.some.inj (h1.symm.trans h2)
theorem hu_bool (U : State) (c1 c2 : ClassId) (h1 : va_RA U c1 .boolean) (h2 : va_RA U c2 .boolean) : c1 = c2 := Option.some.inj (h1.symm.trans h2)
theorem hu_long (U : State) (c1 c2 : ClassId) (h1 : va_RA U c1 .long) (h2 : va_RA U c2 .long) : c1 = c2 := Option.some.inj (h1.symm.trans h2)
theorem hu_dbl (U : State) (c1 c2 : ClassId) (h1 : va_RA U c1 .double) (h2 : va_RA U c2 .double) : c1 = c2 := Option.some.inj (h1.symm.trans h2)
theorem kmax_nI (n : Nat) (h : n < 2 ^ 31) : kmax (nI n) 0 = nI n := by unfold kmax; rw [if_neg (nI_pos h)]

theorem o1X1_init : Cond.methodLink RX1 1 objectInit ∈ wsX1_init := by decide +kernel
theorem o2X1_init : Cond.instanceMethod objectInit ∈ wsX1_init := by decide +kernel
theorem o3X1_init : Cond.code objectInit ⟨#[0xb1]⟩ 1 none ∈ wsX1_init := by decide +kernel
theorem x1X1_init : Cond.methodLink RX1 7 Lib.Math.max.name ∈ wsX1_init := by decide +kernel
theorem x2X1_init : Cond.static Lib.Math.max.name ∈ wsX1_init := by decide +kernel
theorem x3X1_init : Cond.initialized "java/lang/Math" ∈ wsX1_init := by decide +kernel
theorem x4X1_init : Cond.code Lib.Math.max.name Lib.Math.max.code 2 (some .int) ∈ wsX1_init := by decide +kernel
theorem arX1_init : Cond.arrayClass .int ∈ wsX1_init := by decide +kernel
theorem fcX1_init : Cond.fieldLink RX1 13 "FolderKeeper$Row" "cells" "[I" ∈ wsX1_init := by decide +kernel
theorem fbX1_init : Cond.fieldLink RX1 19 "FolderKeeper$Row" "blank" "I" ∈ wsX1_init := by decide +kernel
theorem inX1_init : ∀ w ∈ wsX10, w ∈ wsX1_init := fun _ h => List.mem_cons_of_mem _ (List.mem_append_left _ (List.mem_append_right _ h))
theorem o1X0_init : Cond.methodLink RX0 1 objectInit ∈ wsX0_init := by decide +kernel
theorem o2X0_init : Cond.instanceMethod objectInit ∈ wsX0_init := by decide +kernel
theorem o3X0_init : Cond.code objectInit ⟨#[0xb1]⟩ 1 none ∈ wsX0_init := by decide +kernel
theorem x1X0_init : Cond.methodLink RX0 7 Lib.Math.max.name ∈ wsX0_init := by decide +kernel
theorem x2X0_init : Cond.static Lib.Math.max.name ∈ wsX0_init := by decide +kernel
theorem x3X0_init : Cond.initialized "java/lang/Math" ∈ wsX0_init := by decide +kernel
theorem x4X0_init : Cond.code Lib.Math.max.name Lib.Math.max.code 2 (some .int) ∈ wsX0_init := by decide +kernel
theorem arX0_init : Cond.arrayClass .int ∈ wsX0_init := by decide +kernel
theorem fcX0_init : Cond.fieldLink RX0 13 "FolderKeeper$Grid" "cells" "[I" ∈ wsX0_init := by decide +kernel
theorem fbX0_init : Cond.fieldLink RX0 19 "FolderKeeper$Grid" "width" "I" ∈ wsX0_init := by decide +kernel
theorem inX0_init : ∀ w ∈ wsX00, w ∈ wsX0_init := fun _ h => List.mem_cons_of_mem _ (List.mem_append_right _ h)
set_option maxHeartbeats 4000000 in
set_option maxRecDepth 100000 in
/-- a new row: N cells, each blank -/
theorem c_X1_init {l : Launch} {D : va_G} {cy : Nat → ClassId} {h0 N : Nat} {bl : Int32} {Y : va_W} (hN : N < 150) : kN l yX1_init wsX1_init ({ frames := 1, cells := 1, slots := N, locals := 20 } : Room) D cy ((h0, .inr (3, [.null, .int 0])) :: Y) [.ref h0, .int (nI N), .int bl] (fun q => (q 0, .inl (cy 0, N, .inl (fun k => if k < N then bl else 0))) :: (h0, .inr (3, [.ref (q 0), .int bl])) :: Y) 1 N := by
  refine kN.start (L := [(0, .ref h0), (1, .int (nI N)), (2, .int bl)]) rfl rfl rfl rfl (Nat.le_of_ble_eq_true rfl) rfl (fun K A C hi => ?_)
  refine kr_aload_n C 0 dX1_init_0 rfl rfl ?_
  refine kr_obj C o1X1_init o2X1_init o3X1_init (Nat.le_of_ble_eq_true rfl) (Nat.le_of_ble_eq_true rfl) dX1_init_1 ?_
  refine kr_aload_n C 0 dX1_init_4 rfl rfl ?_
  refine kr_iload_n C 1 dX1_init_5 rfl rfl ?_
  refine kr_iconst C (v := 0) dX1_init_6 (by decide) ?_
  refine kr_max C x1X1_init x2X1_init x3X1_init x4X1_init (Nat.le_of_ble_eq_true rfl) (Nat.le_of_ble_eq_true rfl) (Nat.zero_le _) (Nat.zero_le _) dX1_init_7 ?_
  refine kr_rw (kmax_nI N (by omega)) ?_
  refine kr_newa C 0 (atype := .int) (a0 := (N, .inl (fun _ => 0))) arX1_init rfl rfl hu_int (fun _ => rfl) (nI_pos (by omega)) (nI_clamp (by omega)) (by show N * 4 ≤ _; omega) (Nat.le_of_ble_eq_true rfl) (by show 0 + N ≤ N; omega) dX1_init_10 (fun q => ?_)
  refine kr_putF C hi inX1_init tyX1_ok nmX1 1 rfl rfl 0 (by decide) fcX1_init rfl rfl rfl rfl rfl rfl (by show 0 < 2; decide) (X2 := (q, .inl (cy 0, N, .inl (fun _ => 0))) :: (h0, .inr (3, [.ref q, .int 0])) :: Y) rfl dX1_init_12 ?_
  refine kr_aload_n C 0 dX1_init_15 rfl rfl ?_
  refine kr_iload_n C 2 dX1_init_16 rfl rfl ?_
  refine kr_putF C hi inX1_init tyX1_ok nmX1 1 rfl rfl 1 (by decide) fbX1_init rfl rfl rfl rfl rfl rfl (by show 1 < 2; decide) (X2 := (q, .inl (cy 0, N, .inl (fun _ => 0))) :: (h0, .inr (3, [.ref q, .int bl])) :: Y) rfl dX1_init_17 ?_
  refine kr_iconst C (v := 0) dX1_init_20 (by decide) ?_
  refine kr_istore_n C [1, 2, 3, 0] dX1_init_21 rfl (by decide) rfl ?_
  suffices K0 : ∀ (k i : Nat) (f : Nat → Int32), i + k = N → (f = fun j => if j < i then bl else 0) → kG K l D A ({ frames := 1, cells := 1, slots := N, locals := 20 } : Room) 4 (kEndN K D cy A (fun q => (q 0, .inl (cy 0, N, .inl (fun k => if k < N then bl else 0))) :: (h0, .inr (3, [.ref (q 0), .int bl])) :: Y) 1 N) ((q, .inl (cy 0, N, .inl f)) :: (h0, .inr (3, [.ref q, .int bl])) :: Y) (0 + 1) (0 + N) 22 [(0, .ref h0), (1, .int (nI N)), (2, .int bl), (3, .int (nI i))] [] from K0 N 0 (fun _ => 0) (by omega) (by funext j; rw [if_neg (by omega)])
  intro k
  induction k with
  | zero =>
    intro i f h1 h2
    have e : i = N := by omega
    refine kr_iload_n C 3 dX1_init_22 rfl rfl ?_
    refine kr_aload_n C 0 dX1_init_23 rfl rfl ?_
    refine kr_get C inX1_init 1 rfl rfl 0 (by decide) fcX1_init rfl rfl dX1_init_24 ?_
    refine kr_alen C 0 0 rfl rfl rfl dX1_init_27 ?_
    refine kr_icmp_ge C 44 dX1_init_28 (by decide) (fun hc => ?_) (fun hc => absurd (by rw [e]; exact nI_le (Nat.le_refl N) (by omega)) hc)
    exact kr_ret_n C (fun _ => q) (by rw [h2, e]) (Nat.le_of_ble_eq_true rfl) (by omega) dX1_init_44
  | succ k ih =>
    intro i f h1 h2
    refine kr_iload_n C 3 dX1_init_22 rfl rfl ?_
    refine kr_aload_n C 0 dX1_init_23 rfl rfl ?_
    refine kr_get C inX1_init 1 rfl rfl 0 (by decide) fcX1_init rfl rfl dX1_init_24 ?_
    refine kr_alen C 0 0 rfl rfl rfl dX1_init_27 ?_
    refine kr_icmp_ge C 44 dX1_init_28 (by decide) (fun hc => absurd hc (nI_ge (by omega) (by omega))) (fun hc => ?_)
    refine kr_aload_n C 0 dX1_init_31 rfl rfl ?_
    refine kr_get C inX1_init 1 rfl rfl 0 (by decide) fcX1_init rfl rfl dX1_init_32 ?_
    refine kr_iload_n C 3 dX1_init_35 rfl rfl ?_
    refine kr_iload_n C 2 dX1_init_36 rfl rfl ?_
    refine kr_iast C 0 rfl (vp_in_nI (by omega) (by omega)) (X2 := (q, .inl (cy 0, N, .inl (upd f (nI i).toNatClampNeg bl))) :: (h0, .inr (3, [.ref q, .int bl])) :: Y) rfl dX1_init_37 ?_
    refine kr_iinc C (v := nI (i + 1)) 3 [1, 2, 3, 0] dX1_init_38 rfl (nI_1 i) (by decide) rfl ?_
    refine kr_goto C 22 dX1_init_41 (by decide) ?_
    refine ih (i + 1) _ (by omega) ?_
    rw [nI_clamp (by omega), h2]
    funext j
    simp only [upd]
    by_cases e : j = i
    · rw [if_pos e, if_pos (by omega)]
    · rw [if_neg e]
      by_cases e2 : j < i
      · rw [if_pos e2, if_pos (by omega)]
      · rw [if_neg e2, if_neg (by omega)]
set_option maxHeartbeats 4000000 in
set_option maxRecDepth 100000 in
/-- a new grid: empty -/
theorem c_X0_init {l : Launch} {D : va_G} {cy : Nat → ClassId} {h0 N a b : Nat} {Y : va_W} (hab : a * b = N) (hN : N < 150) : kN l yX0_init wsX0_init ({ frames := 1, cells := 1, slots := N, locals := 20 } : Room) D cy ((h0, .inr (2, [.null, .int 0])) :: Y) [.ref h0, .int (nI a), .int (nI b)] (fun q => (q 0, .inl (cy 0, N, .inl (fun _ => 0))) :: (h0, .inr (2, [.ref (q 0), .int (nI b)])) :: Y) 1 N := by
  refine kN.start (L := [(0, .ref h0), (1, .int (nI a)), (2, .int (nI b))]) rfl rfl rfl rfl (Nat.le_of_ble_eq_true rfl) rfl (fun K A C hi => ?_)
  refine kr_aload_n C 0 dX0_init_0 rfl rfl ?_
  refine kr_obj C o1X0_init o2X0_init o3X0_init (Nat.le_of_ble_eq_true rfl) (Nat.le_of_ble_eq_true rfl) dX0_init_1 ?_
  refine kr_aload_n C 0 dX0_init_4 rfl rfl ?_
  refine kr_iload_n C 1 dX0_init_5 rfl rfl ?_
  refine kr_iload_n C 2 dX0_init_6 rfl rfl ?_
  refine kr_imul C dX0_init_7 ?_
  refine kr_rw (show nI a * nI b = nI N by rw [pk_mul, hab]) ?_
  refine kr_iconst C (v := 0) dX0_init_8 (by decide) ?_
  refine kr_max C x1X0_init x2X0_init x3X0_init x4X0_init (Nat.le_of_ble_eq_true rfl) (Nat.le_of_ble_eq_true rfl) (Nat.zero_le _) (Nat.zero_le _) dX0_init_9 ?_
  refine kr_rw (kmax_nI N (by omega)) ?_
  refine kr_newa C 0 (atype := .int) (a0 := (N, .inl (fun _ => 0))) arX0_init rfl rfl hu_int (fun _ => rfl) (nI_pos (by omega)) (nI_clamp (by omega)) (by show N * 4 ≤ _; omega) (Nat.le_of_ble_eq_true rfl) (by show 0 + N ≤ N; omega) dX0_init_12 (fun q => ?_)
  refine kr_putF C hi inX0_init tyX0_ok nmX0 1 rfl rfl 0 (by decide) fcX0_init rfl rfl rfl rfl rfl rfl (by show 0 < 2; decide) (X2 := (q, .inl (cy 0, N, .inl (fun _ => 0))) :: (h0, .inr (2, [.ref q, .int 0])) :: Y) rfl dX0_init_14 ?_
  refine kr_aload_n C 0 dX0_init_17 rfl rfl ?_
  refine kr_iload_n C 2 dX0_init_18 rfl rfl ?_
  refine kr_putF C hi inX0_init tyX0_ok nmX0 1 rfl rfl 1 (by decide) fbX0_init rfl rfl rfl rfl rfl rfl (by show 1 < 2; decide) (X2 := (q, .inl (cy 0, N, .inl (fun _ => 0))) :: (h0, .inr (2, [.ref q, .int (nI b)])) :: Y) rfl dX0_init_19 ?_
  exact kr_ret_n C (fun _ => q) rfl (Nat.le_of_ble_eq_true rfl) (by omega) dX0_init_22
theorem o1X2 : Cond.methodLink RX2 1 objectInit ∈ wsX2_init := by decide +kernel
theorem o2X2 : Cond.instanceMethod objectInit ∈ wsX2_init := by decide +kernel
theorem o3X2 : Cond.code objectInit ⟨#[0xb1]⟩ 1 none ∈ wsX2_init := by decide +kernel
theorem nkX1 : Cond.classLink RX2 7 RX1 ∈ wsX2_init := by decide +kernel
theorem nsX1 : Cond.instantiable RX1 2 ∈ wsX2_init := by decide +kernel
theorem niX1 : Cond.initialized RX1 ∈ wsX2_init := by decide +kernel
theorem nm1X1 : Cond.methodLink RX2 11 yX1_init ∈ wsX2_init := by decide +kernel
theorem nm2X1 : Cond.instanceMethod yX1_init ∈ wsX2_init := by decide +kernel
theorem inX2i_X1 : ∀ w ∈ wsX10, w ∈ wsX2_init := fun _ h => List.mem_cons_of_mem _ (List.mem_append_left _ (List.mem_append_left _ (List.mem_append_left _ (List.mem_append_right _ h))))
theorem nkX0 : Cond.classLink RX2 27 RX0 ∈ wsX2_init := by decide +kernel
theorem nsX0 : Cond.instantiable RX0 2 ∈ wsX2_init := by decide +kernel
theorem niX0 : Cond.initialized RX0 ∈ wsX2_init := by decide +kernel
theorem nm1X0 : Cond.methodLink RX2 29 yX0_init ∈ wsX2_init := by decide +kernel
theorem nm2X0 : Cond.instanceMethod yX0_init ∈ wsX2_init := by decide +kernel
theorem inX2i_X0 : ∀ w ∈ wsX00, w ∈ wsX2_init := fun _ h => List.mem_cons_of_mem _ (List.mem_append_left _ (List.mem_append_right _ h))
theorem inX2i_X2 : ∀ w ∈ wsX20, w ∈ wsX2_init := fun _ h => List.mem_cons_of_mem _ (List.mem_append_left _ (List.mem_append_left _ (List.mem_append_right _ h)))
theorem fi8 : Cond.fieldLink RX2 14 "FolderKeeper" "heirs" "LFolderKeeper$Row;" ∈ wsX2_init := by decide +kernel
theorem fi9 : Cond.fieldLink RX2 18 "FolderKeeper" "owners" "LFolderKeeper$Row;" ∈ wsX2_init := by decide +kernel
theorem fi10 : Cond.fieldLink RX2 21 "FolderKeeper" "parents" "LFolderKeeper$Row;" ∈ wsX2_init := by decide +kernel
theorem fi11 : Cond.fieldLink RX2 24 "FolderKeeper" "roomGroups" "LFolderKeeper$Row;" ∈ wsX2_init := by decide +kernel
theorem fi12 : Cond.fieldLink RX2 30 "FolderKeeper" "accountEnds" "LFolderKeeper$Grid;" ∈ wsX2_init := by decide +kernel
theorem fi13 : Cond.fieldLink RX2 34 "FolderKeeper" "groupEnds" "LFolderKeeper$Grid;" ∈ wsX2_init := by decide +kernel
theorem fi14 : Cond.fieldLink RX2 37 "FolderKeeper" "accountShares" "LFolderKeeper$Grid;" ∈ wsX2_init := by decide +kernel
theorem fi15 : Cond.fieldLink RX2 40 "FolderKeeper" "groupShares" "LFolderKeeper$Grid;" ∈ wsX2_init := by decide +kernel
theorem fi0 : Cond.fieldLink RX2 43 "FolderKeeper" "accounts" "I" ∈ wsX2_init := by decide +kernel
theorem fi5 : Cond.fieldLink RX2 47 "FolderKeeper" "activeAccounts" "I" ∈ wsX2_init := by decide +kernel
/-- the first state -/
def kS0 : kSt := (fun k => if k = 0 then 1 else if k = 5 then 1 else 0, fun k => if k = 8 then (fun j => if j < 10 then -1 else 0) else if k = 9 then (fun j => if j < 12 then -1 else 0) else if k = 10 then (fun j => if j < 12 then -1 else 0) else if k = 11 then (fun j => if j < 4 then -1 else 0) else fun _ => 0)
/-- the cells of a new system, as its constructor lays them -/
def xi (q : Nat → Nat) (cy : Nat → ClassId) (h0 : Nat) (Y : va_W) : va_W := (q 23, .inl (cy 0, 72, .inl (fun _ => 0))) :: (q 15, .inr (2, [.ref (q 23), .int (nI 6)])) :: (q 22, .inl (cy 0, 120, .inl (fun _ => 0))) :: (q 14, .inr (2, [.ref (q 22), .int (nI 10)])) :: (q 21, .inl (cy 0, 36, .inl (fun _ => 0))) :: (q 13, .inr (2, [.ref (q 21), .int (nI 6)])) :: (q 20, .inl (cy 0, 60, .inl (fun _ => 0))) :: (q 12, .inr (2, [.ref (q 20), .int (nI 10)])) :: (q 19, .inl (cy 0, 4, .inl (fun k => if k < 4 then (-1) else 0))) :: (q 11, .inr (3, [.ref (q 19), .int (-1)])) :: (q 18, .inl (cy 0, 12, .inl (fun k => if k < 12 then (-1) else 0))) :: (q 10, .inr (3, [.ref (q 18), .int (-1)])) :: (q 17, .inl (cy 0, 12, .inl (fun k => if k < 12 then (-1) else 0))) :: (q 9, .inr (3, [.ref (q 17), .int (-1)])) :: (q 16, .inl (cy 0, 10, .inl (fun k => if k < 10 then (-1) else 0))) :: (q 8, .inr (3, [.ref (q 16), .int (-1)])) :: (h0, .inr (4, [.int 1, .int 0, .int 0, .int 0, .int 0, .int 1, .int 0, .int 0, .ref (q 8), .ref (q 9), .ref (q 10), .ref (q 11), .ref (q 12), .ref (q 13), .ref (q 14), .ref (q 15)])) :: Y
set_option maxHeartbeats 8000000 in
set_option maxRecDepth 100000 in
theorem c_X2_init {l : Launch} {D : va_G} {cy : Nat → ClassId} {h0 : Nat} {Y : va_W} : kN l yX2_init wsX2_init ({ frames := 3, cells := 16, slots := 342, locals := 60 } : Room) D cy ((h0, .inr (4, [.int 0, .int 0, .int 0, .int 0, .int 0, .int 0, .int 0, .int 0, .null, .null, .null, .null, .null, .null, .null, .null])) :: Y) [.ref h0] (fun q => xi q cy h0 Y) 16 342 := by
  refine kN.start (L := [(0, .ref h0)]) rfl rfl rfl rfl (Nat.le_of_ble_eq_true rfl) rfl (fun K A C hi => ?_)
  refine kr_aload_n C 0 dX2_init_0 rfl rfl ?_
  refine kr_obj C o1X2 o2X2 o3X2 (Nat.le_of_ble_eq_true rfl) (Nat.le_of_ble_eq_true rfl) dX2_init_1 ?_
  refine kr_aload_n C 0 dX2_init_4 rfl rfl ?_
  refine kr_new C (ci := 3) (fs := [.null, .int 0]) inX2i_X1 tyX1_ok nkX1 nsX1 niX1 rfl (fun j hj => by rcases (show j = 0 ∨ j = 1 by omega) with rfl | rfl <;> rfl) (Nat.le_of_ble_eq_true rfl) (Nat.le_of_ble_eq_true rfl) dX2_init_5 (fun r8 => ?_)
  refine kr_dup C dX2_init_8 rfl ?_
  refine kr_bipush C (v := nI 10) dX2_init_9 (by decide) ?_
  refine kr_iconst C (v := (-1)) dX2_init_11 (by decide) ?_
  refine kr_callI C (k := 2) (As := [.int (nI 10), .int (-1)]) (rest := [.ref r8, .ref h0]) (c_X1_init (N := 10) (bl := (-1)) (by decide)) gX2_init_X1_init rfl rfl rfl niX1 nm1X1 nm2X1 rfl (by decide +kernel) ⟨(Nat.le_of_ble_eq_true rfl), (Nat.le_of_ble_eq_true rfl)⟩ ⟨(Nat.le_of_ble_eq_true rfl), (Nat.le_of_ble_eq_true rfl)⟩ rfl rfl (Nat.le_of_ble_eq_true rfl) dX2_init_12 (fun q8 => ?_)
  refine kr_putF C hi inX2i_X2 tyX2_ok nmX2 2 rfl rfl 8 (by decide) fi8 rfl rfl rfl rfl rfl rfl (by show 8 < 16; decide) (X2 := (q8 0, .inl (cy 0, 10, .inl (fun k => if k < 10 then (-1) else 0))) :: (r8, .inr (3, [.ref (q8 0), .int (-1)])) :: (h0, .inr (4, [.int 0, .int 0, .int 0, .int 0, .int 0, .int 0, .int 0, .int 0, .ref r8, .null, .null, .null, .null, .null, .null, .null])) :: Y) rfl dX2_init_15 ?_
  refine kr_aload_n C 0 dX2_init_18 rfl rfl ?_
  refine kr_new C (ci := 3) (fs := [.null, .int 0]) inX2i_X1 tyX1_ok nkX1 nsX1 niX1 rfl (fun j hj => by rcases (show j = 0 ∨ j = 1 by omega) with rfl | rfl <;> rfl) (Nat.le_of_ble_eq_true rfl) (Nat.le_of_ble_eq_true rfl) dX2_init_19 (fun r9 => ?_)
  refine kr_dup C dX2_init_22 rfl ?_
  refine kr_bipush C (v := nI 12) dX2_init_23 (by decide) ?_
  refine kr_iconst C (v := (-1)) dX2_init_25 (by decide) ?_
  refine kr_callI C (k := 2) (As := [.int (nI 12), .int (-1)]) (rest := [.ref r9, .ref h0]) (c_X1_init (N := 12) (bl := (-1)) (by decide)) gX2_init_X1_init rfl rfl rfl niX1 nm1X1 nm2X1 rfl (by decide +kernel) ⟨(Nat.le_of_ble_eq_true rfl), (Nat.le_of_ble_eq_true rfl)⟩ ⟨(Nat.le_of_ble_eq_true rfl), (Nat.le_of_ble_eq_true rfl)⟩ rfl rfl (Nat.le_of_ble_eq_true rfl) dX2_init_26 (fun q9 => ?_)
  refine kr_putF C hi inX2i_X2 tyX2_ok nmX2 4 rfl rfl 9 (by decide) fi9 rfl rfl rfl rfl rfl rfl (by show 9 < 16; decide) (X2 := (q9 0, .inl (cy 0, 12, .inl (fun k => if k < 12 then (-1) else 0))) :: (r9, .inr (3, [.ref (q9 0), .int (-1)])) :: (q8 0, .inl (cy 0, 10, .inl (fun k => if k < 10 then (-1) else 0))) :: (r8, .inr (3, [.ref (q8 0), .int (-1)])) :: (h0, .inr (4, [.int 0, .int 0, .int 0, .int 0, .int 0, .int 0, .int 0, .int 0, .ref r8, .ref r9, .null, .null, .null, .null, .null, .null])) :: Y) rfl dX2_init_29 ?_
  refine kr_aload_n C 0 dX2_init_32 rfl rfl ?_
  refine kr_new C (ci := 3) (fs := [.null, .int 0]) inX2i_X1 tyX1_ok nkX1 nsX1 niX1 rfl (fun j hj => by rcases (show j = 0 ∨ j = 1 by omega) with rfl | rfl <;> rfl) (Nat.le_of_ble_eq_true rfl) (Nat.le_of_ble_eq_true rfl) dX2_init_33 (fun r10 => ?_)
  refine kr_dup C dX2_init_36 rfl ?_
  refine kr_bipush C (v := nI 12) dX2_init_37 (by decide) ?_
  refine kr_iconst C (v := (-1)) dX2_init_39 (by decide) ?_
  refine kr_callI C (k := 2) (As := [.int (nI 12), .int (-1)]) (rest := [.ref r10, .ref h0]) (c_X1_init (N := 12) (bl := (-1)) (by decide)) gX2_init_X1_init rfl rfl rfl niX1 nm1X1 nm2X1 rfl (by decide +kernel) ⟨(Nat.le_of_ble_eq_true rfl), (Nat.le_of_ble_eq_true rfl)⟩ ⟨(Nat.le_of_ble_eq_true rfl), (Nat.le_of_ble_eq_true rfl)⟩ rfl rfl (Nat.le_of_ble_eq_true rfl) dX2_init_40 (fun q10 => ?_)
  refine kr_putF C hi inX2i_X2 tyX2_ok nmX2 6 rfl rfl 10 (by decide) fi10 rfl rfl rfl rfl rfl rfl (by show 10 < 16; decide) (X2 := (q10 0, .inl (cy 0, 12, .inl (fun k => if k < 12 then (-1) else 0))) :: (r10, .inr (3, [.ref (q10 0), .int (-1)])) :: (q9 0, .inl (cy 0, 12, .inl (fun k => if k < 12 then (-1) else 0))) :: (r9, .inr (3, [.ref (q9 0), .int (-1)])) :: (q8 0, .inl (cy 0, 10, .inl (fun k => if k < 10 then (-1) else 0))) :: (r8, .inr (3, [.ref (q8 0), .int (-1)])) :: (h0, .inr (4, [.int 0, .int 0, .int 0, .int 0, .int 0, .int 0, .int 0, .int 0, .ref r8, .ref r9, .ref r10, .null, .null, .null, .null, .null])) :: Y) rfl dX2_init_43 ?_
  refine kr_aload_n C 0 dX2_init_46 rfl rfl ?_
  refine kr_new C (ci := 3) (fs := [.null, .int 0]) inX2i_X1 tyX1_ok nkX1 nsX1 niX1 rfl (fun j hj => by rcases (show j = 0 ∨ j = 1 by omega) with rfl | rfl <;> rfl) (Nat.le_of_ble_eq_true rfl) (Nat.le_of_ble_eq_true rfl) dX2_init_47 (fun r11 => ?_)
  refine kr_dup C dX2_init_50 rfl ?_
  refine kr_iconst C (v := nI 4) dX2_init_51 (by decide) ?_
  refine kr_iconst C (v := (-1)) dX2_init_52 (by decide) ?_
  refine kr_callI C (k := 2) (As := [.int (nI 4), .int (-1)]) (rest := [.ref r11, .ref h0]) (c_X1_init (N := 4) (bl := (-1)) (by decide)) gX2_init_X1_init rfl rfl rfl niX1 nm1X1 nm2X1 rfl (by decide +kernel) ⟨(Nat.le_of_ble_eq_true rfl), (Nat.le_of_ble_eq_true rfl)⟩ ⟨(Nat.le_of_ble_eq_true rfl), (Nat.le_of_ble_eq_true rfl)⟩ rfl rfl (Nat.le_of_ble_eq_true rfl) dX2_init_53 (fun q11 => ?_)
  refine kr_putF C hi inX2i_X2 tyX2_ok nmX2 8 rfl rfl 11 (by decide) fi11 rfl rfl rfl rfl rfl rfl (by show 11 < 16; decide) (X2 := (q11 0, .inl (cy 0, 4, .inl (fun k => if k < 4 then (-1) else 0))) :: (r11, .inr (3, [.ref (q11 0), .int (-1)])) :: (q10 0, .inl (cy 0, 12, .inl (fun k => if k < 12 then (-1) else 0))) :: (r10, .inr (3, [.ref (q10 0), .int (-1)])) :: (q9 0, .inl (cy 0, 12, .inl (fun k => if k < 12 then (-1) else 0))) :: (r9, .inr (3, [.ref (q9 0), .int (-1)])) :: (q8 0, .inl (cy 0, 10, .inl (fun k => if k < 10 then (-1) else 0))) :: (r8, .inr (3, [.ref (q8 0), .int (-1)])) :: (h0, .inr (4, [.int 0, .int 0, .int 0, .int 0, .int 0, .int 0, .int 0, .int 0, .ref r8, .ref r9, .ref r10, .ref r11, .null, .null, .null, .null])) :: Y) rfl dX2_init_56 ?_
  refine kr_aload_n C 0 dX2_init_59 rfl rfl ?_
  refine kr_new C (ci := 2) (fs := [.null, .int 0]) inX2i_X0 tyX0_ok nkX0 nsX0 niX0 rfl (fun j hj => by rcases (show j = 0 ∨ j = 1 by omega) with rfl | rfl <;> rfl) (Nat.le_of_ble_eq_true rfl) (Nat.le_of_ble_eq_true rfl) dX2_init_60 (fun r12 => ?_)
  refine kr_dup C dX2_init_63 rfl ?_
  refine kr_bipush C (v := nI 6) dX2_init_64 (by decide) ?_
  refine kr_bipush C (v := nI 10) dX2_init_66 (by decide) ?_
  refine kr_callI C (k := 2) (As := [.int (nI 6), .int (nI 10)]) (rest := [.ref r12, .ref h0]) (c_X0_init (N := 60) (a := 6) (b := 10) rfl (by decide)) gX2_init_X0_init rfl rfl rfl niX0 nm1X0 nm2X0 rfl (by decide +kernel) ⟨(Nat.le_of_ble_eq_true rfl), (Nat.le_of_ble_eq_true rfl)⟩ ⟨(Nat.le_of_ble_eq_true rfl), (Nat.le_of_ble_eq_true rfl)⟩ rfl rfl (Nat.le_of_ble_eq_true rfl) dX2_init_68 (fun q12 => ?_)
  refine kr_putF C hi inX2i_X2 tyX2_ok nmX2 10 rfl rfl 12 (by decide) fi12 rfl rfl rfl rfl rfl rfl (by show 12 < 16; decide) (X2 := (q12 0, .inl (cy 0, 60, .inl (fun _ => 0))) :: (r12, .inr (2, [.ref (q12 0), .int (nI 10)])) :: (q11 0, .inl (cy 0, 4, .inl (fun k => if k < 4 then (-1) else 0))) :: (r11, .inr (3, [.ref (q11 0), .int (-1)])) :: (q10 0, .inl (cy 0, 12, .inl (fun k => if k < 12 then (-1) else 0))) :: (r10, .inr (3, [.ref (q10 0), .int (-1)])) :: (q9 0, .inl (cy 0, 12, .inl (fun k => if k < 12 then (-1) else 0))) :: (r9, .inr (3, [.ref (q9 0), .int (-1)])) :: (q8 0, .inl (cy 0, 10, .inl (fun k => if k < 10 then (-1) else 0))) :: (r8, .inr (3, [.ref (q8 0), .int (-1)])) :: (h0, .inr (4, [.int 0, .int 0, .int 0, .int 0, .int 0, .int 0, .int 0, .int 0, .ref r8, .ref r9, .ref r10, .ref r11, .ref r12, .null, .null, .null])) :: Y) rfl dX2_init_71 ?_
  refine kr_aload_n C 0 dX2_init_74 rfl rfl ?_
  refine kr_new C (ci := 2) (fs := [.null, .int 0]) inX2i_X0 tyX0_ok nkX0 nsX0 niX0 rfl (fun j hj => by rcases (show j = 0 ∨ j = 1 by omega) with rfl | rfl <;> rfl) (Nat.le_of_ble_eq_true rfl) (Nat.le_of_ble_eq_true rfl) dX2_init_75 (fun r13 => ?_)
  refine kr_dup C dX2_init_78 rfl ?_
  refine kr_bipush C (v := nI 6) dX2_init_79 (by decide) ?_
  refine kr_bipush C (v := nI 6) dX2_init_81 (by decide) ?_
  refine kr_callI C (k := 2) (As := [.int (nI 6), .int (nI 6)]) (rest := [.ref r13, .ref h0]) (c_X0_init (N := 36) (a := 6) (b := 6) rfl (by decide)) gX2_init_X0_init rfl rfl rfl niX0 nm1X0 nm2X0 rfl (by decide +kernel) ⟨(Nat.le_of_ble_eq_true rfl), (Nat.le_of_ble_eq_true rfl)⟩ ⟨(Nat.le_of_ble_eq_true rfl), (Nat.le_of_ble_eq_true rfl)⟩ rfl rfl (Nat.le_of_ble_eq_true rfl) dX2_init_83 (fun q13 => ?_)
  refine kr_putF C hi inX2i_X2 tyX2_ok nmX2 12 rfl rfl 13 (by decide) fi13 rfl rfl rfl rfl rfl rfl (by show 13 < 16; decide) (X2 := (q13 0, .inl (cy 0, 36, .inl (fun _ => 0))) :: (r13, .inr (2, [.ref (q13 0), .int (nI 6)])) :: (q12 0, .inl (cy 0, 60, .inl (fun _ => 0))) :: (r12, .inr (2, [.ref (q12 0), .int (nI 10)])) :: (q11 0, .inl (cy 0, 4, .inl (fun k => if k < 4 then (-1) else 0))) :: (r11, .inr (3, [.ref (q11 0), .int (-1)])) :: (q10 0, .inl (cy 0, 12, .inl (fun k => if k < 12 then (-1) else 0))) :: (r10, .inr (3, [.ref (q10 0), .int (-1)])) :: (q9 0, .inl (cy 0, 12, .inl (fun k => if k < 12 then (-1) else 0))) :: (r9, .inr (3, [.ref (q9 0), .int (-1)])) :: (q8 0, .inl (cy 0, 10, .inl (fun k => if k < 10 then (-1) else 0))) :: (r8, .inr (3, [.ref (q8 0), .int (-1)])) :: (h0, .inr (4, [.int 0, .int 0, .int 0, .int 0, .int 0, .int 0, .int 0, .int 0, .ref r8, .ref r9, .ref r10, .ref r11, .ref r12, .ref r13, .null, .null])) :: Y) rfl dX2_init_86 ?_
  refine kr_aload_n C 0 dX2_init_89 rfl rfl ?_
  refine kr_new C (ci := 2) (fs := [.null, .int 0]) inX2i_X0 tyX0_ok nkX0 nsX0 niX0 rfl (fun j hj => by rcases (show j = 0 ∨ j = 1 by omega) with rfl | rfl <;> rfl) (Nat.le_of_ble_eq_true rfl) (Nat.le_of_ble_eq_true rfl) dX2_init_90 (fun r14 => ?_)
  refine kr_dup C dX2_init_93 rfl ?_
  refine kr_bipush C (v := nI 12) dX2_init_94 (by decide) ?_
  refine kr_bipush C (v := nI 10) dX2_init_96 (by decide) ?_
  refine kr_callI C (k := 2) (As := [.int (nI 12), .int (nI 10)]) (rest := [.ref r14, .ref h0]) (c_X0_init (N := 120) (a := 12) (b := 10) rfl (by decide)) gX2_init_X0_init rfl rfl rfl niX0 nm1X0 nm2X0 rfl (by decide +kernel) ⟨(Nat.le_of_ble_eq_true rfl), (Nat.le_of_ble_eq_true rfl)⟩ ⟨(Nat.le_of_ble_eq_true rfl), (Nat.le_of_ble_eq_true rfl)⟩ rfl rfl (Nat.le_of_ble_eq_true rfl) dX2_init_98 (fun q14 => ?_)
  refine kr_putF C hi inX2i_X2 tyX2_ok nmX2 14 rfl rfl 14 (by decide) fi14 rfl rfl rfl rfl rfl rfl (by show 14 < 16; decide) (X2 := (q14 0, .inl (cy 0, 120, .inl (fun _ => 0))) :: (r14, .inr (2, [.ref (q14 0), .int (nI 10)])) :: (q13 0, .inl (cy 0, 36, .inl (fun _ => 0))) :: (r13, .inr (2, [.ref (q13 0), .int (nI 6)])) :: (q12 0, .inl (cy 0, 60, .inl (fun _ => 0))) :: (r12, .inr (2, [.ref (q12 0), .int (nI 10)])) :: (q11 0, .inl (cy 0, 4, .inl (fun k => if k < 4 then (-1) else 0))) :: (r11, .inr (3, [.ref (q11 0), .int (-1)])) :: (q10 0, .inl (cy 0, 12, .inl (fun k => if k < 12 then (-1) else 0))) :: (r10, .inr (3, [.ref (q10 0), .int (-1)])) :: (q9 0, .inl (cy 0, 12, .inl (fun k => if k < 12 then (-1) else 0))) :: (r9, .inr (3, [.ref (q9 0), .int (-1)])) :: (q8 0, .inl (cy 0, 10, .inl (fun k => if k < 10 then (-1) else 0))) :: (r8, .inr (3, [.ref (q8 0), .int (-1)])) :: (h0, .inr (4, [.int 0, .int 0, .int 0, .int 0, .int 0, .int 0, .int 0, .int 0, .ref r8, .ref r9, .ref r10, .ref r11, .ref r12, .ref r13, .ref r14, .null])) :: Y) rfl dX2_init_101 ?_
  refine kr_aload_n C 0 dX2_init_104 rfl rfl ?_
  refine kr_new C (ci := 2) (fs := [.null, .int 0]) inX2i_X0 tyX0_ok nkX0 nsX0 niX0 rfl (fun j hj => by rcases (show j = 0 ∨ j = 1 by omega) with rfl | rfl <;> rfl) (Nat.le_of_ble_eq_true rfl) (Nat.le_of_ble_eq_true rfl) dX2_init_105 (fun r15 => ?_)
  refine kr_dup C dX2_init_108 rfl ?_
  refine kr_bipush C (v := nI 12) dX2_init_109 (by decide) ?_
  refine kr_bipush C (v := nI 6) dX2_init_111 (by decide) ?_
  refine kr_callI C (k := 2) (As := [.int (nI 12), .int (nI 6)]) (rest := [.ref r15, .ref h0]) (c_X0_init (N := 72) (a := 12) (b := 6) rfl (by decide)) gX2_init_X0_init rfl rfl rfl niX0 nm1X0 nm2X0 rfl (by decide +kernel) ⟨(Nat.le_of_ble_eq_true rfl), (Nat.le_of_ble_eq_true rfl)⟩ ⟨(Nat.le_of_ble_eq_true rfl), (Nat.le_of_ble_eq_true rfl)⟩ rfl rfl (Nat.le_of_ble_eq_true rfl) dX2_init_113 (fun q15 => ?_)
  refine kr_putF C hi inX2i_X2 tyX2_ok nmX2 16 rfl rfl 15 (by decide) fi15 rfl rfl rfl rfl rfl rfl (by show 15 < 16; decide) (X2 := (q15 0, .inl (cy 0, 72, .inl (fun _ => 0))) :: (r15, .inr (2, [.ref (q15 0), .int (nI 6)])) :: (q14 0, .inl (cy 0, 120, .inl (fun _ => 0))) :: (r14, .inr (2, [.ref (q14 0), .int (nI 10)])) :: (q13 0, .inl (cy 0, 36, .inl (fun _ => 0))) :: (r13, .inr (2, [.ref (q13 0), .int (nI 6)])) :: (q12 0, .inl (cy 0, 60, .inl (fun _ => 0))) :: (r12, .inr (2, [.ref (q12 0), .int (nI 10)])) :: (q11 0, .inl (cy 0, 4, .inl (fun k => if k < 4 then (-1) else 0))) :: (r11, .inr (3, [.ref (q11 0), .int (-1)])) :: (q10 0, .inl (cy 0, 12, .inl (fun k => if k < 12 then (-1) else 0))) :: (r10, .inr (3, [.ref (q10 0), .int (-1)])) :: (q9 0, .inl (cy 0, 12, .inl (fun k => if k < 12 then (-1) else 0))) :: (r9, .inr (3, [.ref (q9 0), .int (-1)])) :: (q8 0, .inl (cy 0, 10, .inl (fun k => if k < 10 then (-1) else 0))) :: (r8, .inr (3, [.ref (q8 0), .int (-1)])) :: (h0, .inr (4, [.int 0, .int 0, .int 0, .int 0, .int 0, .int 0, .int 0, .int 0, .ref r8, .ref r9, .ref r10, .ref r11, .ref r12, .ref r13, .ref r14, .ref r15])) :: Y) rfl dX2_init_116 ?_
  refine kr_aload_n C 0 dX2_init_119 rfl rfl ?_
  refine kr_iconst C (v := 1) dX2_init_120 (by decide) ?_
  refine kr_put C inX2i_X2 tyX2_ok nmX2 16 rfl rfl 0 (by decide) fi0 rfl rfl rfl rfl rfl (by show 0 < 16; decide) (X2 := (q15 0, .inl (cy 0, 72, .inl (fun _ => 0))) :: (r15, .inr (2, [.ref (q15 0), .int (nI 6)])) :: (q14 0, .inl (cy 0, 120, .inl (fun _ => 0))) :: (r14, .inr (2, [.ref (q14 0), .int (nI 10)])) :: (q13 0, .inl (cy 0, 36, .inl (fun _ => 0))) :: (r13, .inr (2, [.ref (q13 0), .int (nI 6)])) :: (q12 0, .inl (cy 0, 60, .inl (fun _ => 0))) :: (r12, .inr (2, [.ref (q12 0), .int (nI 10)])) :: (q11 0, .inl (cy 0, 4, .inl (fun k => if k < 4 then (-1) else 0))) :: (r11, .inr (3, [.ref (q11 0), .int (-1)])) :: (q10 0, .inl (cy 0, 12, .inl (fun k => if k < 12 then (-1) else 0))) :: (r10, .inr (3, [.ref (q10 0), .int (-1)])) :: (q9 0, .inl (cy 0, 12, .inl (fun k => if k < 12 then (-1) else 0))) :: (r9, .inr (3, [.ref (q9 0), .int (-1)])) :: (q8 0, .inl (cy 0, 10, .inl (fun k => if k < 10 then (-1) else 0))) :: (r8, .inr (3, [.ref (q8 0), .int (-1)])) :: (h0, .inr (4, [.int 1, .int 0, .int 0, .int 0, .int 0, .int 0, .int 0, .int 0, .ref r8, .ref r9, .ref r10, .ref r11, .ref r12, .ref r13, .ref r14, .ref r15])) :: Y) rfl dX2_init_121 ?_
  refine kr_aload_n C 0 dX2_init_124 rfl rfl ?_
  refine kr_iconst C (v := 1) dX2_init_125 (by decide) ?_
  refine kr_put C inX2i_X2 tyX2_ok nmX2 16 rfl rfl 5 (by decide) fi5 rfl rfl rfl rfl rfl (by show 5 < 16; decide) (X2 := (q15 0, .inl (cy 0, 72, .inl (fun _ => 0))) :: (r15, .inr (2, [.ref (q15 0), .int (nI 6)])) :: (q14 0, .inl (cy 0, 120, .inl (fun _ => 0))) :: (r14, .inr (2, [.ref (q14 0), .int (nI 10)])) :: (q13 0, .inl (cy 0, 36, .inl (fun _ => 0))) :: (r13, .inr (2, [.ref (q13 0), .int (nI 6)])) :: (q12 0, .inl (cy 0, 60, .inl (fun _ => 0))) :: (r12, .inr (2, [.ref (q12 0), .int (nI 10)])) :: (q11 0, .inl (cy 0, 4, .inl (fun k => if k < 4 then (-1) else 0))) :: (r11, .inr (3, [.ref (q11 0), .int (-1)])) :: (q10 0, .inl (cy 0, 12, .inl (fun k => if k < 12 then (-1) else 0))) :: (r10, .inr (3, [.ref (q10 0), .int (-1)])) :: (q9 0, .inl (cy 0, 12, .inl (fun k => if k < 12 then (-1) else 0))) :: (r9, .inr (3, [.ref (q9 0), .int (-1)])) :: (q8 0, .inl (cy 0, 10, .inl (fun k => if k < 10 then (-1) else 0))) :: (r8, .inr (3, [.ref (q8 0), .int (-1)])) :: (h0, .inr (4, [.int 1, .int 0, .int 0, .int 0, .int 0, .int 1, .int 0, .int 0, .ref r8, .ref r9, .ref r10, .ref r11, .ref r12, .ref r13, .ref r14, .ref r15])) :: Y) rfl dX2_init_126 ?_
  exact kr_ret_n C (fun j => if j = 8 then r8 else if j = 9 then r9 else if j = 10 then r10 else if j = 11 then r11 else if j = 12 then r12 else if j = 13 then r13 else if j = 14 then r14 else if j = 15 then r15 else if j = 16 then q8 0 else if j = 17 then q9 0 else if j = 18 then q10 0 else if j = 19 then q11 0 else if j = 20 then q12 0 else if j = 21 then q13 0 else if j = 22 then q14 0 else q15 0) rfl (Nat.le_of_ble_eq_true rfl) (Nat.le_of_ble_eq_true rfl) dX2_init_129
theorem o1X3 : Cond.methodLink RX3 1 objectInit ∈ wsX3_init := by decide +kernel
theorem o2X3 : Cond.instanceMethod objectInit ∈ wsX3_init := by decide +kernel
theorem o3X3 : Cond.code objectInit ⟨#[0xb1]⟩ 1 none ∈ wsX3_init := by decide +kernel
theorem arX3i : Cond.arrayClass .int ∈ wsX3_init := by decide +kernel
theorem arX3z : Cond.arrayClass .boolean ∈ wsX3_init := by decide +kernel
theorem inX3i : ∀ w ∈ wsX30, w ∈ wsX3_init := fun _ h => List.mem_cons_of_mem _ (List.mem_append_left _ (List.mem_append_right _ h))
theorem fmi_0 : Cond.fieldLink RX3 7 "FolderKeeperModel" "accounts" "I" ∈ wsX3_init := by decide +kernel
theorem fmi_1 : Cond.fieldLink RX3 13 "FolderKeeperModel" "haveLeft" "[Z" ∈ wsX3_init := by decide +kernel
theorem fmi_2 : Cond.fieldLink RX3 17 "FolderKeeperModel" "heirs" "[I" ∈ wsX3_init := by decide +kernel
theorem fmi_4 : Cond.fieldLink RX3 21 "FolderKeeperModel" "memberEnds" "[I" ∈ wsX3_init := by decide +kernel
theorem fmi_5 : Cond.fieldLink RX3 24 "FolderKeeperModel" "nestEnds" "[I" ∈ wsX3_init := by decide +kernel
theorem fmi_6 : Cond.fieldLink RX3 27 "FolderKeeperModel" "inGroups" "[Z" ∈ wsX3_init := by decide +kernel
theorem fmi_8 : Cond.fieldLink RX3 30 "FolderKeeperModel" "owners" "[I" ∈ wsX3_init := by decide +kernel
theorem fmi_9 : Cond.fieldLink RX3 33 "FolderKeeperModel" "parents" "[I" ∈ wsX3_init := by decide +kernel
theorem fmi_10 : Cond.fieldLink RX3 36 "FolderKeeperModel" "areBroken" "[Z" ∈ wsX3_init := by decide +kernel
theorem fmi_11 : Cond.fieldLink RX3 39 "FolderKeeperModel" "areHeld" "[Z" ∈ wsX3_init := by decide +kernel
theorem fmi_12 : Cond.fieldLink RX3 42 "FolderKeeperModel" "shares" "[I" ∈ wsX3_init := by decide +kernel
theorem fmi_13 : Cond.fieldLink RX3 45 "FolderKeeperModel" "groupShares" "[I" ∈ wsX3_init := by decide +kernel
theorem fmi_15 : Cond.fieldLink RX3 48 "FolderKeeperModel" "roomGroups" "[I" ∈ wsX3_init := by decide +kernel
theorem fmi_16 : Cond.fieldLink RX3 51 "FolderKeeperModel" "seen" "[Z" ∈ wsX3_init := by decide +kernel
/-- the cells of a new reference -/
def yi (q : Nat → Nat) (cy : Nat → ClassId) (h0 : Nat) (Y : va_W) : va_W := (q 16, .inl (cy 1, 10, .inl (fun _ => 0))) :: (q 15, .inl (cy 0, 4, .inl (fun _ => 0))) :: (q 13, .inl (cy 0, 72, .inl (fun _ => 0))) :: (q 12, .inl (cy 0, 120, .inl (fun _ => 0))) :: (q 11, .inl (cy 1, 12, .inl (fun _ => 0))) :: (q 10, .inl (cy 1, 12, .inl (fun _ => 0))) :: (q 9, .inl (cy 0, 12, .inl (fun _ => 0))) :: (q 8, .inl (cy 0, 12, .inl (fun _ => 0))) :: (q 6, .inl (cy 1, 6, .inl (fun _ => 0))) :: (q 5, .inl (cy 0, 36, .inl (fun _ => 0))) :: (q 4, .inl (cy 0, 60, .inl (fun _ => 0))) :: (q 2, .inl (cy 0, 10, .inl (upd (upd (upd (upd (upd (upd (upd (upd (upd (upd (fun _ => 0) 0 (-1)) 1 (-1)) 2 (-1)) 3 (-1)) 4 (-1)) 5 (-1)) 6 (-1)) 7 (-1)) 8 (-1)) 9 (-1)))) :: (q 1, .inl (cy 1, 10, .inl (fun _ => 0))) :: (h0, .inr (5, [.int 1, .ref (q 1), .ref (q 2), .int 0, .ref (q 4), .ref (q 5), .ref (q 6), .int 0, .ref (q 8), .ref (q 9), .ref (q 10), .ref (q 11), .ref (q 12), .ref (q 13), .int 0, .ref (q 15), .ref (q 16), .int 0, .int 0])) :: Y
set_option maxHeartbeats 8000000 in
set_option maxRecDepth 100000 in
theorem c_X3_init {l : Launch} {D : va_G} {cy : Nat → ClassId} {h0 : Nat} {Y : va_W} : kN l yX3_init wsX3_init ({ frames := 1, cells := 13, slots := 376, locals := 20 } : Room) D cy ((h0, .inr (5, [.int 0, .null, .null, .int 0, .null, .null, .null, .int 0, .null, .null, .null, .null, .null, .null, .int 0, .null, .null, .int 0, .int 0])) :: Y) [.ref h0] (fun q => yi q cy h0 Y) 13 376 := by
  refine kN.start (L := [(0, .ref h0)]) rfl rfl rfl rfl (Nat.le_of_ble_eq_true rfl) rfl (fun K A C hi => ?_)
  refine kr_aload_n C 0 dX3_init_0 rfl rfl ?_
  refine kr_obj C o1X3 o2X3 o3X3 (Nat.le_of_ble_eq_true rfl) (Nat.le_of_ble_eq_true rfl) dX3_init_1 ?_
  refine kr_aload_n C 0 dX3_init_4 rfl rfl ?_
  refine kr_iconst C (v := 1) dX3_init_5 (by decide) ?_
  refine kr_put C inX3i tyX3_ok nmX3 0 rfl rfl 0 (by decide) fmi_0 rfl rfl rfl rfl rfl (by show 0 < 19; decide) (X2 := (h0, .inr (5, [.int 1, .null, .null, .int 0, .null, .null, .null, .int 0, .null, .null, .null, .null, .null, .null, .int 0, .null, .null, .int 0, .int 0])) :: Y) rfl dX3_init_6 ?_
  refine kr_aload_n C 0 dX3_init_9 rfl rfl ?_
  refine kr_bipush C (v := 10) dX3_init_10 (by decide) ?_
  refine kr_newa C 1 (atype := .boolean) (N := 10) (a0 := (10, .inl (fun _ => 0))) arX3z rfl rfl hu_bool (fun _ => rfl) (by decide) (by decide) (by decide) (Nat.le_of_ble_eq_true rfl) (Nat.le_of_ble_eq_true rfl) dX3_init_12 (fun q12 => ?_)
  refine kr_putF C hi inX3i tyX3_ok nmX3 1 rfl rfl 1 (by decide) fmi_1 rfl rfl rfl rfl rfl rfl (by show 1 < 19; decide) (X2 := (q12, .inl (cy 1, 10, .inl (fun _ => 0))) :: (h0, .inr (5, [.int 1, .ref q12, .null, .int 0, .null, .null, .null, .int 0, .null, .null, .null, .null, .null, .null, .int 0, .null, .null, .int 0, .int 0])) :: Y) rfl dX3_init_14 ?_
  refine kr_aload_n C 0 dX3_init_17 rfl rfl ?_
  refine kr_bipush C (v := 10) dX3_init_18 (by decide) ?_
  refine kr_newa C 0 (atype := .int) (N := 10) (a0 := (10, .inl (fun _ => 0))) arX3i rfl rfl hu_int (fun _ => rfl) (by decide) (by decide) (by decide) (Nat.le_of_ble_eq_true rfl) (Nat.le_of_ble_eq_true rfl) dX3_init_20 (fun q20 => ?_)
  refine kr_dup C dX3_init_22 rfl ?_
  refine kr_iconst C (v := 0) dX3_init_23 (by decide) ?_
  refine kr_iconst C (v := (-1)) dX3_init_24 (by decide) ?_
  refine kr_iast C 0 rfl (vp_in_iff.mpr (by decide)) (X2 := (q20, .inl (cy 0, 10, .inl (upd (fun _ => 0) 0 (-1)))) :: (q12, .inl (cy 1, 10, .inl (fun _ => 0))) :: (h0, .inr (5, [.int 1, .ref q12, .null, .int 0, .null, .null, .null, .int 0, .null, .null, .null, .null, .null, .null, .int 0, .null, .null, .int 0, .int 0])) :: Y) rfl dX3_init_25 ?_
  refine kr_dup C dX3_init_26 rfl ?_
  refine kr_iconst C (v := 1) dX3_init_27 (by decide) ?_
  refine kr_iconst C (v := (-1)) dX3_init_28 (by decide) ?_
  refine kr_iast C 0 rfl (vp_in_iff.mpr (by decide)) (X2 := (q20, .inl (cy 0, 10, .inl (upd (upd (fun _ => 0) 0 (-1)) 1 (-1)))) :: (q12, .inl (cy 1, 10, .inl (fun _ => 0))) :: (h0, .inr (5, [.int 1, .ref q12, .null, .int 0, .null, .null, .null, .int 0, .null, .null, .null, .null, .null, .null, .int 0, .null, .null, .int 0, .int 0])) :: Y) rfl dX3_init_29 ?_
  refine kr_dup C dX3_init_30 rfl ?_
  refine kr_iconst C (v := 2) dX3_init_31 (by decide) ?_
  refine kr_iconst C (v := (-1)) dX3_init_32 (by decide) ?_
  refine kr_iast C 0 rfl (vp_in_iff.mpr (by decide)) (X2 := (q20, .inl (cy 0, 10, .inl (upd (upd (upd (fun _ => 0) 0 (-1)) 1 (-1)) 2 (-1)))) :: (q12, .inl (cy 1, 10, .inl (fun _ => 0))) :: (h0, .inr (5, [.int 1, .ref q12, .null, .int 0, .null, .null, .null, .int 0, .null, .null, .null, .null, .null, .null, .int 0, .null, .null, .int 0, .int 0])) :: Y) rfl dX3_init_33 ?_
  refine kr_dup C dX3_init_34 rfl ?_
  refine kr_iconst C (v := 3) dX3_init_35 (by decide) ?_
  refine kr_iconst C (v := (-1)) dX3_init_36 (by decide) ?_
  refine kr_iast C 0 rfl (vp_in_iff.mpr (by decide)) (X2 := (q20, .inl (cy 0, 10, .inl (upd (upd (upd (upd (fun _ => 0) 0 (-1)) 1 (-1)) 2 (-1)) 3 (-1)))) :: (q12, .inl (cy 1, 10, .inl (fun _ => 0))) :: (h0, .inr (5, [.int 1, .ref q12, .null, .int 0, .null, .null, .null, .int 0, .null, .null, .null, .null, .null, .null, .int 0, .null, .null, .int 0, .int 0])) :: Y) rfl dX3_init_37 ?_
  refine kr_dup C dX3_init_38 rfl ?_
  refine kr_iconst C (v := 4) dX3_init_39 (by decide) ?_
  refine kr_iconst C (v := (-1)) dX3_init_40 (by decide) ?_
  refine kr_iast C 0 rfl (vp_in_iff.mpr (by decide)) (X2 := (q20, .inl (cy 0, 10, .inl (upd (upd (upd (upd (upd (fun _ => 0) 0 (-1)) 1 (-1)) 2 (-1)) 3 (-1)) 4 (-1)))) :: (q12, .inl (cy 1, 10, .inl (fun _ => 0))) :: (h0, .inr (5, [.int 1, .ref q12, .null, .int 0, .null, .null, .null, .int 0, .null, .null, .null, .null, .null, .null, .int 0, .null, .null, .int 0, .int 0])) :: Y) rfl dX3_init_41 ?_
  refine kr_dup C dX3_init_42 rfl ?_
  refine kr_iconst C (v := 5) dX3_init_43 (by decide) ?_
  refine kr_iconst C (v := (-1)) dX3_init_44 (by decide) ?_
  refine kr_iast C 0 rfl (vp_in_iff.mpr (by decide)) (X2 := (q20, .inl (cy 0, 10, .inl (upd (upd (upd (upd (upd (upd (fun _ => 0) 0 (-1)) 1 (-1)) 2 (-1)) 3 (-1)) 4 (-1)) 5 (-1)))) :: (q12, .inl (cy 1, 10, .inl (fun _ => 0))) :: (h0, .inr (5, [.int 1, .ref q12, .null, .int 0, .null, .null, .null, .int 0, .null, .null, .null, .null, .null, .null, .int 0, .null, .null, .int 0, .int 0])) :: Y) rfl dX3_init_45 ?_
  refine kr_dup C dX3_init_46 rfl ?_
  refine kr_bipush C (v := 6) dX3_init_47 (by decide) ?_
  refine kr_iconst C (v := (-1)) dX3_init_49 (by decide) ?_
  refine kr_iast C 0 rfl (vp_in_iff.mpr (by decide)) (X2 := (q20, .inl (cy 0, 10, .inl (upd (upd (upd (upd (upd (upd (upd (fun _ => 0) 0 (-1)) 1 (-1)) 2 (-1)) 3 (-1)) 4 (-1)) 5 (-1)) 6 (-1)))) :: (q12, .inl (cy 1, 10, .inl (fun _ => 0))) :: (h0, .inr (5, [.int 1, .ref q12, .null, .int 0, .null, .null, .null, .int 0, .null, .null, .null, .null, .null, .null, .int 0, .null, .null, .int 0, .int 0])) :: Y) rfl dX3_init_50 ?_
  refine kr_dup C dX3_init_51 rfl ?_
  refine kr_bipush C (v := 7) dX3_init_52 (by decide) ?_
  refine kr_iconst C (v := (-1)) dX3_init_54 (by decide) ?_
  refine kr_iast C 0 rfl (vp_in_iff.mpr (by decide)) (X2 := (q20, .inl (cy 0, 10, .inl (upd (upd (upd (upd (upd (upd (upd (upd (fun _ => 0) 0 (-1)) 1 (-1)) 2 (-1)) 3 (-1)) 4 (-1)) 5 (-1)) 6 (-1)) 7 (-1)))) :: (q12, .inl (cy 1, 10, .inl (fun _ => 0))) :: (h0, .inr (5, [.int 1, .ref q12, .null, .int 0, .null, .null, .null, .int 0, .null, .null, .null, .null, .null, .null, .int 0, .null, .null, .int 0, .int 0])) :: Y) rfl dX3_init_55 ?_
  refine kr_dup C dX3_init_56 rfl ?_
  refine kr_bipush C (v := 8) dX3_init_57 (by decide) ?_
  refine kr_iconst C (v := (-1)) dX3_init_59 (by decide) ?_
  refine kr_iast C 0 rfl (vp_in_iff.mpr (by decide)) (X2 := (q20, .inl (cy 0, 10, .inl (upd (upd (upd (upd (upd (upd (upd (upd (upd (fun _ => 0) 0 (-1)) 1 (-1)) 2 (-1)) 3 (-1)) 4 (-1)) 5 (-1)) 6 (-1)) 7 (-1)) 8 (-1)))) :: (q12, .inl (cy 1, 10, .inl (fun _ => 0))) :: (h0, .inr (5, [.int 1, .ref q12, .null, .int 0, .null, .null, .null, .int 0, .null, .null, .null, .null, .null, .null, .int 0, .null, .null, .int 0, .int 0])) :: Y) rfl dX3_init_60 ?_
  refine kr_dup C dX3_init_61 rfl ?_
  refine kr_bipush C (v := 9) dX3_init_62 (by decide) ?_
  refine kr_iconst C (v := (-1)) dX3_init_64 (by decide) ?_
  refine kr_iast C 0 rfl (vp_in_iff.mpr (by decide)) (X2 := (q20, .inl (cy 0, 10, .inl (upd (upd (upd (upd (upd (upd (upd (upd (upd (upd (fun _ => 0) 0 (-1)) 1 (-1)) 2 (-1)) 3 (-1)) 4 (-1)) 5 (-1)) 6 (-1)) 7 (-1)) 8 (-1)) 9 (-1)))) :: (q12, .inl (cy 1, 10, .inl (fun _ => 0))) :: (h0, .inr (5, [.int 1, .ref q12, .null, .int 0, .null, .null, .null, .int 0, .null, .null, .null, .null, .null, .null, .int 0, .null, .null, .int 0, .int 0])) :: Y) rfl dX3_init_65 ?_
  refine kr_putF C hi inX3i tyX3_ok nmX3 2 rfl rfl 2 (by decide) fmi_2 rfl rfl rfl rfl rfl rfl (by show 2 < 19; decide) (X2 := (q20, .inl (cy 0, 10, .inl (upd (upd (upd (upd (upd (upd (upd (upd (upd (upd (fun _ => 0) 0 (-1)) 1 (-1)) 2 (-1)) 3 (-1)) 4 (-1)) 5 (-1)) 6 (-1)) 7 (-1)) 8 (-1)) 9 (-1)))) :: (q12, .inl (cy 1, 10, .inl (fun _ => 0))) :: (h0, .inr (5, [.int 1, .ref q12, .ref q20, .int 0, .null, .null, .null, .int 0, .null, .null, .null, .null, .null, .null, .int 0, .null, .null, .int 0, .int 0])) :: Y) rfl dX3_init_66 ?_
  refine kr_aload_n C 0 dX3_init_69 rfl rfl ?_
  refine kr_bipush C (v := 60) dX3_init_70 (by decide) ?_
  refine kr_newa C 0 (atype := .int) (N := 60) (a0 := (60, .inl (fun _ => 0))) arX3i rfl rfl hu_int (fun _ => rfl) (by decide) (by decide) (by decide) (Nat.le_of_ble_eq_true rfl) (Nat.le_of_ble_eq_true rfl) dX3_init_72 (fun q72 => ?_)
  refine kr_putF C hi inX3i tyX3_ok nmX3 3 rfl rfl 4 (by decide) fmi_4 rfl rfl rfl rfl rfl rfl (by show 4 < 19; decide) (X2 := (q72, .inl (cy 0, 60, .inl (fun _ => 0))) :: (q20, .inl (cy 0, 10, .inl (upd (upd (upd (upd (upd (upd (upd (upd (upd (upd (fun _ => 0) 0 (-1)) 1 (-1)) 2 (-1)) 3 (-1)) 4 (-1)) 5 (-1)) 6 (-1)) 7 (-1)) 8 (-1)) 9 (-1)))) :: (q12, .inl (cy 1, 10, .inl (fun _ => 0))) :: (h0, .inr (5, [.int 1, .ref q12, .ref q20, .int 0, .ref q72, .null, .null, .int 0, .null, .null, .null, .null, .null, .null, .int 0, .null, .null, .int 0, .int 0])) :: Y) rfl dX3_init_74 ?_
  refine kr_aload_n C 0 dX3_init_77 rfl rfl ?_
  refine kr_bipush C (v := 36) dX3_init_78 (by decide) ?_
  refine kr_newa C 0 (atype := .int) (N := 36) (a0 := (36, .inl (fun _ => 0))) arX3i rfl rfl hu_int (fun _ => rfl) (by decide) (by decide) (by decide) (Nat.le_of_ble_eq_true rfl) (Nat.le_of_ble_eq_true rfl) dX3_init_80 (fun q80 => ?_)
  refine kr_putF C hi inX3i tyX3_ok nmX3 4 rfl rfl 5 (by decide) fmi_5 rfl rfl rfl rfl rfl rfl (by show 5 < 19; decide) (X2 := (q80, .inl (cy 0, 36, .inl (fun _ => 0))) :: (q72, .inl (cy 0, 60, .inl (fun _ => 0))) :: (q20, .inl (cy 0, 10, .inl (upd (upd (upd (upd (upd (upd (upd (upd (upd (upd (fun _ => 0) 0 (-1)) 1 (-1)) 2 (-1)) 3 (-1)) 4 (-1)) 5 (-1)) 6 (-1)) 7 (-1)) 8 (-1)) 9 (-1)))) :: (q12, .inl (cy 1, 10, .inl (fun _ => 0))) :: (h0, .inr (5, [.int 1, .ref q12, .ref q20, .int 0, .ref q72, .ref q80, .null, .int 0, .null, .null, .null, .null, .null, .null, .int 0, .null, .null, .int 0, .int 0])) :: Y) rfl dX3_init_82 ?_
  refine kr_aload_n C 0 dX3_init_85 rfl rfl ?_
  refine kr_bipush C (v := 6) dX3_init_86 (by decide) ?_
  refine kr_newa C 1 (atype := .boolean) (N := 6) (a0 := (6, .inl (fun _ => 0))) arX3z rfl rfl hu_bool (fun _ => rfl) (by decide) (by decide) (by decide) (Nat.le_of_ble_eq_true rfl) (Nat.le_of_ble_eq_true rfl) dX3_init_88 (fun q88 => ?_)
  refine kr_putF C hi inX3i tyX3_ok nmX3 5 rfl rfl 6 (by decide) fmi_6 rfl rfl rfl rfl rfl rfl (by show 6 < 19; decide) (X2 := (q88, .inl (cy 1, 6, .inl (fun _ => 0))) :: (q80, .inl (cy 0, 36, .inl (fun _ => 0))) :: (q72, .inl (cy 0, 60, .inl (fun _ => 0))) :: (q20, .inl (cy 0, 10, .inl (upd (upd (upd (upd (upd (upd (upd (upd (upd (upd (fun _ => 0) 0 (-1)) 1 (-1)) 2 (-1)) 3 (-1)) 4 (-1)) 5 (-1)) 6 (-1)) 7 (-1)) 8 (-1)) 9 (-1)))) :: (q12, .inl (cy 1, 10, .inl (fun _ => 0))) :: (h0, .inr (5, [.int 1, .ref q12, .ref q20, .int 0, .ref q72, .ref q80, .ref q88, .int 0, .null, .null, .null, .null, .null, .null, .int 0, .null, .null, .int 0, .int 0])) :: Y) rfl dX3_init_90 ?_
  refine kr_aload_n C 0 dX3_init_93 rfl rfl ?_
  refine kr_bipush C (v := 12) dX3_init_94 (by decide) ?_
  refine kr_newa C 0 (atype := .int) (N := 12) (a0 := (12, .inl (fun _ => 0))) arX3i rfl rfl hu_int (fun _ => rfl) (by decide) (by decide) (by decide) (Nat.le_of_ble_eq_true rfl) (Nat.le_of_ble_eq_true rfl) dX3_init_96 (fun q96 => ?_)
  refine kr_putF C hi inX3i tyX3_ok nmX3 6 rfl rfl 8 (by decide) fmi_8 rfl rfl rfl rfl rfl rfl (by show 8 < 19; decide) (X2 := (q96, .inl (cy 0, 12, .inl (fun _ => 0))) :: (q88, .inl (cy 1, 6, .inl (fun _ => 0))) :: (q80, .inl (cy 0, 36, .inl (fun _ => 0))) :: (q72, .inl (cy 0, 60, .inl (fun _ => 0))) :: (q20, .inl (cy 0, 10, .inl (upd (upd (upd (upd (upd (upd (upd (upd (upd (upd (fun _ => 0) 0 (-1)) 1 (-1)) 2 (-1)) 3 (-1)) 4 (-1)) 5 (-1)) 6 (-1)) 7 (-1)) 8 (-1)) 9 (-1)))) :: (q12, .inl (cy 1, 10, .inl (fun _ => 0))) :: (h0, .inr (5, [.int 1, .ref q12, .ref q20, .int 0, .ref q72, .ref q80, .ref q88, .int 0, .ref q96, .null, .null, .null, .null, .null, .int 0, .null, .null, .int 0, .int 0])) :: Y) rfl dX3_init_98 ?_
  refine kr_aload_n C 0 dX3_init_101 rfl rfl ?_
  refine kr_bipush C (v := 12) dX3_init_102 (by decide) ?_
  refine kr_newa C 0 (atype := .int) (N := 12) (a0 := (12, .inl (fun _ => 0))) arX3i rfl rfl hu_int (fun _ => rfl) (by decide) (by decide) (by decide) (Nat.le_of_ble_eq_true rfl) (Nat.le_of_ble_eq_true rfl) dX3_init_104 (fun q104 => ?_)
  refine kr_putF C hi inX3i tyX3_ok nmX3 7 rfl rfl 9 (by decide) fmi_9 rfl rfl rfl rfl rfl rfl (by show 9 < 19; decide) (X2 := (q104, .inl (cy 0, 12, .inl (fun _ => 0))) :: (q96, .inl (cy 0, 12, .inl (fun _ => 0))) :: (q88, .inl (cy 1, 6, .inl (fun _ => 0))) :: (q80, .inl (cy 0, 36, .inl (fun _ => 0))) :: (q72, .inl (cy 0, 60, .inl (fun _ => 0))) :: (q20, .inl (cy 0, 10, .inl (upd (upd (upd (upd (upd (upd (upd (upd (upd (upd (fun _ => 0) 0 (-1)) 1 (-1)) 2 (-1)) 3 (-1)) 4 (-1)) 5 (-1)) 6 (-1)) 7 (-1)) 8 (-1)) 9 (-1)))) :: (q12, .inl (cy 1, 10, .inl (fun _ => 0))) :: (h0, .inr (5, [.int 1, .ref q12, .ref q20, .int 0, .ref q72, .ref q80, .ref q88, .int 0, .ref q96, .ref q104, .null, .null, .null, .null, .int 0, .null, .null, .int 0, .int 0])) :: Y) rfl dX3_init_106 ?_
  refine kr_aload_n C 0 dX3_init_109 rfl rfl ?_
  refine kr_bipush C (v := 12) dX3_init_110 (by decide) ?_
  refine kr_newa C 1 (atype := .boolean) (N := 12) (a0 := (12, .inl (fun _ => 0))) arX3z rfl rfl hu_bool (fun _ => rfl) (by decide) (by decide) (by decide) (Nat.le_of_ble_eq_true rfl) (Nat.le_of_ble_eq_true rfl) dX3_init_112 (fun q112 => ?_)
  refine kr_putF C hi inX3i tyX3_ok nmX3 8 rfl rfl 10 (by decide) fmi_10 rfl rfl rfl rfl rfl rfl (by show 10 < 19; decide) (X2 := (q112, .inl (cy 1, 12, .inl (fun _ => 0))) :: (q104, .inl (cy 0, 12, .inl (fun _ => 0))) :: (q96, .inl (cy 0, 12, .inl (fun _ => 0))) :: (q88, .inl (cy 1, 6, .inl (fun _ => 0))) :: (q80, .inl (cy 0, 36, .inl (fun _ => 0))) :: (q72, .inl (cy 0, 60, .inl (fun _ => 0))) :: (q20, .inl (cy 0, 10, .inl (upd (upd (upd (upd (upd (upd (upd (upd (upd (upd (fun _ => 0) 0 (-1)) 1 (-1)) 2 (-1)) 3 (-1)) 4 (-1)) 5 (-1)) 6 (-1)) 7 (-1)) 8 (-1)) 9 (-1)))) :: (q12, .inl (cy 1, 10, .inl (fun _ => 0))) :: (h0, .inr (5, [.int 1, .ref q12, .ref q20, .int 0, .ref q72, .ref q80, .ref q88, .int 0, .ref q96, .ref q104, .ref q112, .null, .null, .null, .int 0, .null, .null, .int 0, .int 0])) :: Y) rfl dX3_init_114 ?_
  refine kr_aload_n C 0 dX3_init_117 rfl rfl ?_
  refine kr_bipush C (v := 12) dX3_init_118 (by decide) ?_
  refine kr_newa C 1 (atype := .boolean) (N := 12) (a0 := (12, .inl (fun _ => 0))) arX3z rfl rfl hu_bool (fun _ => rfl) (by decide) (by decide) (by decide) (Nat.le_of_ble_eq_true rfl) (Nat.le_of_ble_eq_true rfl) dX3_init_120 (fun q120 => ?_)
  refine kr_putF C hi inX3i tyX3_ok nmX3 9 rfl rfl 11 (by decide) fmi_11 rfl rfl rfl rfl rfl rfl (by show 11 < 19; decide) (X2 := (q120, .inl (cy 1, 12, .inl (fun _ => 0))) :: (q112, .inl (cy 1, 12, .inl (fun _ => 0))) :: (q104, .inl (cy 0, 12, .inl (fun _ => 0))) :: (q96, .inl (cy 0, 12, .inl (fun _ => 0))) :: (q88, .inl (cy 1, 6, .inl (fun _ => 0))) :: (q80, .inl (cy 0, 36, .inl (fun _ => 0))) :: (q72, .inl (cy 0, 60, .inl (fun _ => 0))) :: (q20, .inl (cy 0, 10, .inl (upd (upd (upd (upd (upd (upd (upd (upd (upd (upd (fun _ => 0) 0 (-1)) 1 (-1)) 2 (-1)) 3 (-1)) 4 (-1)) 5 (-1)) 6 (-1)) 7 (-1)) 8 (-1)) 9 (-1)))) :: (q12, .inl (cy 1, 10, .inl (fun _ => 0))) :: (h0, .inr (5, [.int 1, .ref q12, .ref q20, .int 0, .ref q72, .ref q80, .ref q88, .int 0, .ref q96, .ref q104, .ref q112, .ref q120, .null, .null, .int 0, .null, .null, .int 0, .int 0])) :: Y) rfl dX3_init_122 ?_
  refine kr_aload_n C 0 dX3_init_125 rfl rfl ?_
  refine kr_bipush C (v := 120) dX3_init_126 (by decide) ?_
  refine kr_newa C 0 (atype := .int) (N := 120) (a0 := (120, .inl (fun _ => 0))) arX3i rfl rfl hu_int (fun _ => rfl) (by decide) (by decide) (by decide) (Nat.le_of_ble_eq_true rfl) (Nat.le_of_ble_eq_true rfl) dX3_init_128 (fun q128 => ?_)
  refine kr_putF C hi inX3i tyX3_ok nmX3 10 rfl rfl 12 (by decide) fmi_12 rfl rfl rfl rfl rfl rfl (by show 12 < 19; decide) (X2 := (q128, .inl (cy 0, 120, .inl (fun _ => 0))) :: (q120, .inl (cy 1, 12, .inl (fun _ => 0))) :: (q112, .inl (cy 1, 12, .inl (fun _ => 0))) :: (q104, .inl (cy 0, 12, .inl (fun _ => 0))) :: (q96, .inl (cy 0, 12, .inl (fun _ => 0))) :: (q88, .inl (cy 1, 6, .inl (fun _ => 0))) :: (q80, .inl (cy 0, 36, .inl (fun _ => 0))) :: (q72, .inl (cy 0, 60, .inl (fun _ => 0))) :: (q20, .inl (cy 0, 10, .inl (upd (upd (upd (upd (upd (upd (upd (upd (upd (upd (fun _ => 0) 0 (-1)) 1 (-1)) 2 (-1)) 3 (-1)) 4 (-1)) 5 (-1)) 6 (-1)) 7 (-1)) 8 (-1)) 9 (-1)))) :: (q12, .inl (cy 1, 10, .inl (fun _ => 0))) :: (h0, .inr (5, [.int 1, .ref q12, .ref q20, .int 0, .ref q72, .ref q80, .ref q88, .int 0, .ref q96, .ref q104, .ref q112, .ref q120, .ref q128, .null, .int 0, .null, .null, .int 0, .int 0])) :: Y) rfl dX3_init_130 ?_
  refine kr_aload_n C 0 dX3_init_133 rfl rfl ?_
  refine kr_bipush C (v := 72) dX3_init_134 (by decide) ?_
  refine kr_newa C 0 (atype := .int) (N := 72) (a0 := (72, .inl (fun _ => 0))) arX3i rfl rfl hu_int (fun _ => rfl) (by decide) (by decide) (by decide) (Nat.le_of_ble_eq_true rfl) (Nat.le_of_ble_eq_true rfl) dX3_init_136 (fun q136 => ?_)
  refine kr_putF C hi inX3i tyX3_ok nmX3 11 rfl rfl 13 (by decide) fmi_13 rfl rfl rfl rfl rfl rfl (by show 13 < 19; decide) (X2 := (q136, .inl (cy 0, 72, .inl (fun _ => 0))) :: (q128, .inl (cy 0, 120, .inl (fun _ => 0))) :: (q120, .inl (cy 1, 12, .inl (fun _ => 0))) :: (q112, .inl (cy 1, 12, .inl (fun _ => 0))) :: (q104, .inl (cy 0, 12, .inl (fun _ => 0))) :: (q96, .inl (cy 0, 12, .inl (fun _ => 0))) :: (q88, .inl (cy 1, 6, .inl (fun _ => 0))) :: (q80, .inl (cy 0, 36, .inl (fun _ => 0))) :: (q72, .inl (cy 0, 60, .inl (fun _ => 0))) :: (q20, .inl (cy 0, 10, .inl (upd (upd (upd (upd (upd (upd (upd (upd (upd (upd (fun _ => 0) 0 (-1)) 1 (-1)) 2 (-1)) 3 (-1)) 4 (-1)) 5 (-1)) 6 (-1)) 7 (-1)) 8 (-1)) 9 (-1)))) :: (q12, .inl (cy 1, 10, .inl (fun _ => 0))) :: (h0, .inr (5, [.int 1, .ref q12, .ref q20, .int 0, .ref q72, .ref q80, .ref q88, .int 0, .ref q96, .ref q104, .ref q112, .ref q120, .ref q128, .ref q136, .int 0, .null, .null, .int 0, .int 0])) :: Y) rfl dX3_init_138 ?_
  refine kr_aload_n C 0 dX3_init_141 rfl rfl ?_
  refine kr_iconst C (v := 4) dX3_init_142 (by decide) ?_
  refine kr_newa C 0 (atype := .int) (N := 4) (a0 := (4, .inl (fun _ => 0))) arX3i rfl rfl hu_int (fun _ => rfl) (by decide) (by decide) (by decide) (Nat.le_of_ble_eq_true rfl) (Nat.le_of_ble_eq_true rfl) dX3_init_143 (fun q143 => ?_)
  refine kr_putF C hi inX3i tyX3_ok nmX3 12 rfl rfl 15 (by decide) fmi_15 rfl rfl rfl rfl rfl rfl (by show 15 < 19; decide) (X2 := (q143, .inl (cy 0, 4, .inl (fun _ => 0))) :: (q136, .inl (cy 0, 72, .inl (fun _ => 0))) :: (q128, .inl (cy 0, 120, .inl (fun _ => 0))) :: (q120, .inl (cy 1, 12, .inl (fun _ => 0))) :: (q112, .inl (cy 1, 12, .inl (fun _ => 0))) :: (q104, .inl (cy 0, 12, .inl (fun _ => 0))) :: (q96, .inl (cy 0, 12, .inl (fun _ => 0))) :: (q88, .inl (cy 1, 6, .inl (fun _ => 0))) :: (q80, .inl (cy 0, 36, .inl (fun _ => 0))) :: (q72, .inl (cy 0, 60, .inl (fun _ => 0))) :: (q20, .inl (cy 0, 10, .inl (upd (upd (upd (upd (upd (upd (upd (upd (upd (upd (fun _ => 0) 0 (-1)) 1 (-1)) 2 (-1)) 3 (-1)) 4 (-1)) 5 (-1)) 6 (-1)) 7 (-1)) 8 (-1)) 9 (-1)))) :: (q12, .inl (cy 1, 10, .inl (fun _ => 0))) :: (h0, .inr (5, [.int 1, .ref q12, .ref q20, .int 0, .ref q72, .ref q80, .ref q88, .int 0, .ref q96, .ref q104, .ref q112, .ref q120, .ref q128, .ref q136, .int 0, .ref q143, .null, .int 0, .int 0])) :: Y) rfl dX3_init_145 ?_
  refine kr_aload_n C 0 dX3_init_148 rfl rfl ?_
  refine kr_bipush C (v := 10) dX3_init_149 (by decide) ?_
  refine kr_newa C 1 (atype := .boolean) (N := 10) (a0 := (10, .inl (fun _ => 0))) arX3z rfl rfl hu_bool (fun _ => rfl) (by decide) (by decide) (by decide) (Nat.le_of_ble_eq_true rfl) (Nat.le_of_ble_eq_true rfl) dX3_init_151 (fun q151 => ?_)
  refine kr_putF C hi inX3i tyX3_ok nmX3 13 rfl rfl 16 (by decide) fmi_16 rfl rfl rfl rfl rfl rfl (by show 16 < 19; decide) (X2 := (q151, .inl (cy 1, 10, .inl (fun _ => 0))) :: (q143, .inl (cy 0, 4, .inl (fun _ => 0))) :: (q136, .inl (cy 0, 72, .inl (fun _ => 0))) :: (q128, .inl (cy 0, 120, .inl (fun _ => 0))) :: (q120, .inl (cy 1, 12, .inl (fun _ => 0))) :: (q112, .inl (cy 1, 12, .inl (fun _ => 0))) :: (q104, .inl (cy 0, 12, .inl (fun _ => 0))) :: (q96, .inl (cy 0, 12, .inl (fun _ => 0))) :: (q88, .inl (cy 1, 6, .inl (fun _ => 0))) :: (q80, .inl (cy 0, 36, .inl (fun _ => 0))) :: (q72, .inl (cy 0, 60, .inl (fun _ => 0))) :: (q20, .inl (cy 0, 10, .inl (upd (upd (upd (upd (upd (upd (upd (upd (upd (upd (fun _ => 0) 0 (-1)) 1 (-1)) 2 (-1)) 3 (-1)) 4 (-1)) 5 (-1)) 6 (-1)) 7 (-1)) 8 (-1)) 9 (-1)))) :: (q12, .inl (cy 1, 10, .inl (fun _ => 0))) :: (h0, .inr (5, [.int 1, .ref q12, .ref q20, .int 0, .ref q72, .ref q80, .ref q88, .int 0, .ref q96, .ref q104, .ref q112, .ref q120, .ref q128, .ref q136, .int 0, .ref q143, .ref q151, .int 0, .int 0])) :: Y) rfl dX3_init_153 ?_
  exact kr_ret_n C (fun j => if j = 1 then q12 else if j = 2 then q20 else if j = 4 then q72 else if j = 5 then q80 else if j = 6 then q88 else if j = 8 then q96 else if j = 9 then q104 else if j = 10 then q112 else if j = 11 then q120 else if j = 12 then q128 else if j = 13 then q136 else if j = 15 then q143 else q151) rfl (Nat.le_of_ble_eq_true rfl) (Nat.le_of_ble_eq_true rfl) dX3_init_156
