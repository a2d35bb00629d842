/-! A WALK OVER A WORLD OF FIXED ADDRESSES: heap, frame and the array of locals are hidden; one row an instruction. -/
/-- the fixed things of a body's walk -/
abbrev kEnv : Type := Program × Env × State × MethodId × Array Value × List Frame × Method × Code
abbrev kTy (cy : Nat → ClassId) : List (ClassId × FieldType) := [(cy 0, .int), (cy 1, .boolean), (cy 2, .long), (cy 3, .double)]
def kPre (D : va_G) (cy : Nat → ClassId) (X : va_W) (sz : Nat) (U : State) : Prop := U.heap.size = sz ∧ va_P D vwCl X U.heap ∧ va_K D vwCl (kTy cy) U ∧ va_D (fun _ => True) X
def kPost (D : va_G) (cy : Nat → ClassId) (A : Nat → Prop) (X : va_W) (t : State) : Prop := va_P D vwCl X t.heap ∧ va_K D vwCl (kTy cy) t ∧ va_D A X
def kQ (D : va_G) (cy : Nat → ClassId) (A : Nat → Prop) (X : va_W) (rv : Option Value) : Array Value → State → Outcome → State → Prop := fun _ st oc t => (oc = .returned rv ∧ kPost D cy A X t) ∧ va_F A st t
/-- the contract of a method that returns: from the world X and the arguments av it answers rv and leaves the world X2 -/
def kM (l : Launch) (y : MethodName) (ws : List Cond) (rm : Room) (D : va_G) (cy : Nat → ClassId) (X : va_W) (av : List Value) (X2 : va_W) (rv : Option Value) (mc ms : Nat) : Prop :=
  ∀ sz : Nat, Met l y ws rm (va_Pc av (kPre D cy X sz)) (kQ D cy (va_A X sz) X2 rv) mc ms (va_A X sz)
abbrev kStrs : List (Nat × String) := [(52, "there is no room for another account"), (67, "an account is not its own heir"), (80, "there is no room for another group"), (94, "the account has left"), (110, "a group would come back to itself"), (117, "there is no such membership"), (129, "there is no room for another folder"), (156, "there is no room for another mail room"), (167, "the warden never leaves"), (183, "the folder is not held"), (188, "the number of days is out of range"), (195, "there are no folders"), (202, "no active account owns a folder"), (206, "there is no such account"), (209, "there is no such group"), (211, "there is no such folder"), (213, "there is no such room"), (215, "the day is out of range"), (217, "the folder is held"), (219, "the right is out of range")]
/-- the exceptions' classes that the system throws, and its texts -/
abbrev kExs : List String := ["java/lang/IllegalStateException", "java/lang/IllegalArgumentException", "java/lang/IndexOutOfBoundsException", "java/lang/UnsupportedOperationException", "java/util/NoSuchElementException", "java/lang/ArithmeticException"]
abbrev kSup : List String := ["java/lang/RuntimeException", "java/lang/Exception", Bundle.tN]
def kT (sa : Nat → Nat) (A : Nat → Prop) (U : State) : Prop :=
  vx_Zq Bundle.tN "UNASSIGNED_STACK" Bundle.steD A U U.heap ∧ vx_Zq Bundle.tN "SUPPRESSED_SENTINEL" Bundle.listD A U U.heap ∧ (∀ q ∈ kStrs, vk_R RX2 q.1 q.2 (sa q.1) U) ∧ (∀ E ∈ kExs, va_Nw (.castable E E) U) ∧ (∀ Y ∈ kSup, va_Nw (.declares (Bundle.initS Y)) U) ∧ (∀ E ∈ kExs, ∀ F ∈ kExs, E ≠ F → va_Nc E F U)
def kXQ (D : va_G) (cy : Nat → ClassId) (A : Nat → Prop) (X : va_W) (o : Option Value ⊕ String) : Array Value → State → Outcome → State → Prop := fun _ st oc t => (∃ rv, o = .inl rv ∧ oc = .returned rv ∧ kPost D cy A X t) ∧ va_F A st t
def kXX (D : va_G) (cy : Nat → ClassId) (A : Nat → Prop) (X : va_W) (o : Option Value ⊕ String) : String → State → State → Prop := fun E st t => (o = .inr E ∧ kPost D cy A X t) ∧ va_F A st t
/-- the contract of a method that may throw: it answers, or throws, as o says, and leaves the world X2 -/
def kX (l : Launch) (y : MethodName) (ws : List Cond) (rm : Room) (D : va_G) (cy : Nat → ClassId) (sa : Nat → Nat) (X : va_W) (av : List Value) (X2 : va_W) (o : Option Value ⊕ String) (mc ms : Nat) : Prop :=
  ∀ sz : Nat, vx_Met l y ws rm (va_Pc av (fun U => kPre D cy X sz U ∧ kT sa (va_A X sz) U)) (kXQ D cy (va_A X sz) X2 o) (kXX D cy (va_A X sz) X2 o) mc ms (va_A X sz)
/-- the judgement: over the world X, at pc with these locals and this stack, the machine comes to Q -/
def kG (K : kEnv) (l : Launch) (D : va_G) (A : Nat → Prop) (R : Room) (n : Nat) (Q : State → Prop) (X : va_W) (cells slots pc : Nat) (L : List (Nat × Value)) (st : List Value) : Prop :=
  match K with
  | (p, e, s, m, args, below, meth, c) => ∀ (H : Heap) (locs : List Loc) (ls : Array Slot), va_P D vwCl X H → va_D A X → va_S A s.heap H locs → lv_has ls n L → W p l e R s m args below meth c H locs cells slots Q (F0 m pc ls st)
/-- what is fixed in a body -/
def kC (K : kEnv) (D : va_G) (cy : Nat → ClassId) (A : Nat → Prop) (n : Nat) (cc : ByteArray) (own : String) (Ts : List Cond) (ret : Option FieldType) : Prop :=
  match K with
  | (p, _, s, m, args, _, meth, c) => p.tables.exec = Jvm.exec ∧ c.code = cc ∧ c.maxLocals = n ∧ s.vm.findClass own = some m.cls ∧ (∀ w ∈ Ts, w.before args s = true) ∧ va_K D vwCl (kTy cy) s ∧ (∀ q : Nat, s.heap.size ≤ q → A q) ∧ meth.locks = false ∧ meth.sig.returnType = ret
/-- .. and where it may throw -/
def kCX (K : kEnv) (l : Launch) (A : Nat → Prop) (sa : Nat → Nat) : Prop :=
  match K with
  | (_, _, s, _, _, _, _, _) => l.stackTraces = false ∧ kT sa A s
def kNoTab (K : kEnv) : Prop :=
  match K with
  | (_, _, _, _, _, _, _, c) => ∀ x ∈ c.exceptionTable.toList, False
def kEnd (K : kEnv) (D : va_G) (cy : Nat → ClassId) (A : Nat → Prop) (X : va_W) (rv : Option Value) (mc ms : Nat) : State → Prop :=
  match K with
  | (_, _, s, _, args, below, _, _) => MQ below (kQ D cy A X rv) args s mc ms A
def kEndX (K : kEnv) (D : va_G) (cy : Nat → ClassId) (A : Nat → Prop) (X : va_W) (o : Option Value ⊕ String) (mc ms : Nat) : State → Prop :=
  match K with
  | (_, _, s, _, args, below, _, _) => vx_MQ below (kXQ D cy A X o) (kXX D cy A X o) args s mc ms A
theorem kT.moved {sa : Nat → Nat} {A B : Nat → Prop} {s U : State} {H : Heap} {locs : List Loc} (h : kT sa A s) (hS : va_S A s.heap H locs) (hU : U.heap = H) (hW : s.WarmedH U.vm) (hAB : ∀ q, B q → A q) : kT sa B U := by
  obtain ⟨h1, h2, h3, h4, h6, h5⟩ := h
  refine ⟨?_, ?_, fun q hq => vk_R.warm hW (h3 q hq), fun E hE => va_Nw.warmC hW (h4 E hE), fun Y hY => va_Nw.warmD hW (h6 Y hY), fun E hE F hF hne => va_Nc.moved hW.alike (h5 E hE F hF hne)⟩
  · rw [hU]; exact vx_Zq.moved hW.alike ((h1.kept hS.2.1).narrow hAB)
  · rw [hU]; exact vx_Zq.moved hW.alike ((h2.kept hS.2.1).narrow hAB)
theorem kT.calling {sa : Nat → Nat} {A : Nat → Prop} {U : State} {g : JFrame} {mk : MethodId} {a : Array Value} (h : kT sa A U) : kT sa A (U.calling g mk a) :=
  kT.moved (H := U.heap) (locs := []) h va_S.rf rfl (State.WarmedH.refl U) (fun _ hq => hq)
theorem kPre.calling {D : va_G} {cy : Nat → ClassId} {X : va_W} {sz : Nat} {U : State} {g : JFrame} {mk : MethodId} {a : Array Value} (h : kPre D cy X sz U) : kPre D cy X sz (U.calling g mk a) := by
  obtain ⟨h1, h2, h3, h4⟩ := h
  exact ⟨h1, h2, va_K.moved (u := U) (U := U.calling g mk a) (Vm.Alike.refl U.vm) h3, h4⟩
theorem kFree {A : Nat → Prop} {X : va_W} {H0 H : Heap} {locs : List Loc} (hD : va_D A X) (hS : va_S A H0 H locs) (hA : ∀ q, H0.size ≤ q → A q) : ∀ q, va_A X H.size q → A q := by
  intro q h
  rcases h with ⟨k, e, h⟩ | h
  · exact hD.2 k (q, e) h
  · exact hA q (Nat.le_trans hS.1 h)
/-- a method's contract by a walk of its body -/
theorem kM.start {l : Launch} {y : MethodName} {ws ws1 : List Cond} {rm : Room} {D : va_G} {cy : Nat → ClassId} {X X2 : va_W} {av : List Value} {rv : Option Value} {mc ms n : Nat} {L : List (Nat × Value)} {cc : ByteArray} {own : String} {ret : Option FieldType}
    (hy : plainName y.cls = true) (hw : ws = .code y cc n ret :: ws1) (ho : y.cls = own) (hn : (lg_sl av).length ≤ n) (hL : lv_args 0 av = L)
    (body : ∀ (K : kEnv) (A : Nat → Prop), kC K D cy A n cc own ws ret → kG K l D A rm n (kEnd K D cy A X2 rv mc ms) X 0 0 0 L []) : kM l y ws rm D cy X av X2 rv mc ms := by
  intro sz
  refine Met.ofW (cc := cc) (maxL := n) (ret := ret) hy hw ?_
  intro p e s m args below meth c s₁ B hml hv
  obtain ⟨rfl, hsz, hP, hK, hD0⟩ := hv
  have hown : s.vm.findClass own = some m.cls := by rw [← ho]; exact findClass_of_methodNamed B.named
  have hts := atoms_spec (ws := ws) B.pre
  subst hsz
  have hD := hD0.self (sz := s.heap.size)
  have h := body (p, e, s, m, av.toArray, below, meth, c) (va_A X s.heap.size) ⟨B.exec, B.bytes, hml, hown, hts, hK, fun q h => Or.inr h, B.notSynchronized, B.returns⟩
  rw [lg_entry_eq]
  exact h s.heap [] _ hP hD va_S.rf (by rw [← hL]; exact lv_entry av hn)
theorem kX.start {l : Launch} {y : MethodName} {ws ws1 : List Cond} {rm : Room} {D : va_G} {cy : Nat → ClassId} {sa : Nat → Nat} {X X2 : va_W} {av : List Value} {o : Option Value ⊕ String} {mc ms n : Nat} {L : List (Nat × Value)} {cc : ByteArray} {own : String} {ret : Option FieldType}
    (hl : l.stackTraces = false) (hy : plainName y.cls = true) (hw : ws = .code y cc n ret :: ws1) (ho : y.cls = own) (hn : (lg_sl av).length ≤ n) (hL : lv_args 0 av = L)
    (body : ∀ (K : kEnv) (A : Nat → Prop), kC K D cy A n cc own ws ret → kCX K l A sa → kNoTab K → kG K l D A rm n (kEndX K D cy A X2 o mc ms) X 0 0 0 L []) : kX l y ws rm D cy sa X av X2 o mc ms := by
  intro sz
  refine vx_ofW (cc := cc) (maxL := n) (ret := ret) hy hw ?_
  intro p e s m args below meth c s₁ B hml hno hv
  obtain ⟨rfl, ⟨hsz, hP, hK, hD0⟩, hT⟩ := hv
  have hown : s.vm.findClass own = some m.cls := by rw [← ho]; exact findClass_of_methodNamed B.named
  have hts := atoms_spec (ws := ws) B.pre
  subst hsz
  have hD := hD0.self (sz := s.heap.size)
  have h := body (p, e, s, m, av.toArray, below, meth, c) (va_A X s.heap.size) ⟨B.exec, B.bytes, hml, hown, hts, hK, fun q h => Or.inr h, B.notSynchronized, B.returns⟩ ⟨hl, hT⟩ hno
  rw [lg_entry_eq]
  exact h s.heap [] _ hP hD va_S.rf (by rw [← hL]; exact lv_entry av hn)
def kInit (K : kEnv) : Prop :=
  match K with
  | (_, _, _, _, _, _, meth, _) => meth.name = "<init>"
section KR
variable {K : kEnv} {l : Launch} {D : va_G} {cy : Nat → ClassId} {A : Nat → Prop} {R : Room} {n : Nat} {Q : State → Prop} {X X2 : va_W} {cells slots pc : Nat} {L L2 : List (Nat × Value)} {st : List Value} {cc : ByteArray} {own : String} {Ts : List Cond} {ret : Option FieldType} {sa : Nat → Nat} {o : Option Value ⊕ String} {rv : Option Value} {mc ms : Nat}

theorem kr_iconst (C : kC K D cy A n cc own Ts ret) {k : Int} {v : Int32} (d : decode cc pc = .ok (.iconst k, 1)) (hv : Int32.ofInt k = v) (kk : kG K l D A R n Q X cells slots (pc + 1) L (.int v :: st)) : kG K l D A R n Q X cells slots (pc) L (st) := by
  obtain ⟨p, e, s, m, args, below, meth, c⟩ := K
  obtain ⟨hx, hb, hml, hown, hts, hK, hA, hlk, hrt⟩ := C
  intro H locs ls hP hD hS h
  exact lv_iconst hx hb d hv (kk H locs ls hP hD hS h)
theorem kr_bipush (C : kC K D cy A n cc own Ts ret) {k : Int} {v : Int32} (d : decode cc pc = .ok (.bipush k, 2)) (hv : (Int8.ofInt k).toInt32 = v) (kk : kG K l D A R n Q X cells slots (pc + 2) L (.int v :: st)) : kG K l D A R n Q X cells slots (pc) L (st) := by
  obtain ⟨p, e, s, m, args, below, meth, c⟩ := K
  obtain ⟨hx, hb, hml, hown, hts, hK, hA, hlk, hrt⟩ := C
  intro H locs ls hP hD hS h
  exact lv_bipush hx hb d hv (kk H locs ls hP hD hS h)
theorem kr_sipush (C : kC K D cy A n cc own Ts ret) {k : Int} {v : Int32} (d : decode cc pc = .ok (.sipush k, 3)) (hv : (Int16.ofInt k).toInt32 = v) (kk : kG K l D A R n Q X cells slots (pc + 3) L (.int v :: st)) : kG K l D A R n Q X cells slots (pc) L (st) := by
  obtain ⟨p, e, s, m, args, below, meth, c⟩ := K
  obtain ⟨hx, hb, hml, hown, hts, hK, hA, hlk, hrt⟩ := C
  intro H locs ls hP hD hS h
  exact lv_sipush hx hb d hv (kk H locs ls hP hD hS h)
theorem kr_lconst (C : kC K D cy A n cc own Ts ret) {k : Fin 2} {v : Int64} (d : decode cc pc = .ok (.lconst k, 1)) (hv : Int64.ofNat (k : Nat) = v) (kk : kG K l D A R n Q X cells slots (pc + 1) L (.long v :: st)) : kG K l D A R n Q X cells slots (pc) L (st) := by
  obtain ⟨p, e, s, m, args, below, meth, c⟩ := K
  obtain ⟨hx, hb, hml, hown, hts, hK, hA, hlk, hrt⟩ := C
  intro H locs ls hP hD hS h
  exact lv_lconst hx hb d hv (kk H locs ls hP hD hS h)
theorem kr_iload_n (C : kC K D cy A n cc own Ts ret) {k : Fin 4} {i : Nat} (j : Nat) {x : Int32} (d : decode cc pc = .ok (.iload_n k, 1)) (hi : (k : Nat) = i) (hl : L[j]? = some (i, .int x)) (kk : kG K l D A R n Q X cells slots (pc + 1) L (.int x :: st)) : kG K l D A R n Q X cells slots (pc) L (st) := by
  obtain ⟨p, e, s, m, args, below, meth, c⟩ := K
  obtain ⟨hx, hb, hml, hown, hts, hK, hA, hlk, hrt⟩ := C
  intro H locs ls hP hD hS h
  exact lv_iload_n hx hb d hi (lv_at h j hl) (kk H locs ls hP hD hS h)
theorem kr_iload (C : kC K D cy A n cc own Ts ret) {i : Nat} (j : Nat) {x : Int32} (d : decode cc pc = .ok (.iload i, 2)) (hl : L[j]? = some (i, .int x)) (kk : kG K l D A R n Q X cells slots (pc + 2) L (.int x :: st)) : kG K l D A R n Q X cells slots (pc) L (st) := by
  obtain ⟨p, e, s, m, args, below, meth, c⟩ := K
  obtain ⟨hx, hb, hml, hown, hts, hK, hA, hlk, hrt⟩ := C
  intro H locs ls hP hD hS h
  exact lv_iload hx hb d (lv_at h j hl) (kk H locs ls hP hD hS h)
theorem kr_aload_n (C : kC K D cy A n cc own Ts ret) {k : Fin 4} {i : Nat} (j : Nat) {x : Nat} (d : decode cc pc = .ok (.aload_n k, 1)) (hi : (k : Nat) = i) (hl : L[j]? = some (i, .ref x)) (kk : kG K l D A R n Q X cells slots (pc + 1) L (.ref x :: st)) : kG K l D A R n Q X cells slots (pc) L (st) := by
  obtain ⟨p, e, s, m, args, below, meth, c⟩ := K
  obtain ⟨hx, hb, hml, hown, hts, hK, hA, hlk, hrt⟩ := C
  intro H locs ls hP hD hS h
  exact lv_aload_n hx hb d hi (lv_at h j hl) (kk H locs ls hP hD hS h)
theorem kr_aload (C : kC K D cy A n cc own Ts ret) {i : Nat} (j : Nat) {x : Nat} (d : decode cc pc = .ok (.aload i, 2)) (hl : L[j]? = some (i, .ref x)) (kk : kG K l D A R n Q X cells slots (pc + 2) L (.ref x :: st)) : kG K l D A R n Q X cells slots (pc) L (st) := by
  obtain ⟨p, e, s, m, args, below, meth, c⟩ := K
  obtain ⟨hx, hb, hml, hown, hts, hK, hA, hlk, hrt⟩ := C
  intro H locs ls hP hD hS h
  exact lv_aload hx hb d (lv_at h j hl) (kk H locs ls hP hD hS h)
theorem kr_fload_n (C : kC K D cy A n cc own Ts ret) {k : Fin 4} {i : Nat} (j : Nat) {x : UInt32} (d : decode cc pc = .ok (.fload_n k, 1)) (hi : (k : Nat) = i) (hl : L[j]? = some (i, .float x)) (kk : kG K l D A R n Q X cells slots (pc + 1) L (.float x :: st)) : kG K l D A R n Q X cells slots (pc) L (st) := by
  obtain ⟨p, e, s, m, args, below, meth, c⟩ := K
  obtain ⟨hx, hb, hml, hown, hts, hK, hA, hlk, hrt⟩ := C
  intro H locs ls hP hD hS h
  exact lv_fload_n hx hb d hi (lv_at h j hl) (kk H locs ls hP hD hS h)
theorem kr_fload (C : kC K D cy A n cc own Ts ret) {i : Nat} (j : Nat) {x : UInt32} (d : decode cc pc = .ok (.fload i, 2)) (hl : L[j]? = some (i, .float x)) (kk : kG K l D A R n Q X cells slots (pc + 2) L (.float x :: st)) : kG K l D A R n Q X cells slots (pc) L (st) := by
  obtain ⟨p, e, s, m, args, below, meth, c⟩ := K
  obtain ⟨hx, hb, hml, hown, hts, hK, hA, hlk, hrt⟩ := C
  intro H locs ls hP hD hS h
  exact lv_fload hx hb d (lv_at h j hl) (kk H locs ls hP hD hS h)
theorem kr_dload_n (C : kC K D cy A n cc own Ts ret) {k : Fin 4} {i : Nat} (j : Nat) {x : UInt64} (d : decode cc pc = .ok (.dload_n k, 1)) (hi : (k : Nat) = i) (hl : L[j]? = some (i, .double x)) (kk : kG K l D A R n Q X cells slots (pc + 1) L (.double x :: st)) : kG K l D A R n Q X cells slots (pc) L (st) := by
  obtain ⟨p, e, s, m, args, below, meth, c⟩ := K
  obtain ⟨hx, hb, hml, hown, hts, hK, hA, hlk, hrt⟩ := C
  intro H locs ls hP hD hS h
  exact lv_dload_n hx hb d hi (lv_at h j hl) (kk H locs ls hP hD hS h)
theorem kr_dload (C : kC K D cy A n cc own Ts ret) {i : Nat} (j : Nat) {x : UInt64} (d : decode cc pc = .ok (.dload i, 2)) (hl : L[j]? = some (i, .double x)) (kk : kG K l D A R n Q X cells slots (pc + 2) L (.double x :: st)) : kG K l D A R n Q X cells slots (pc) L (st) := by
  obtain ⟨p, e, s, m, args, below, meth, c⟩ := K
  obtain ⟨hx, hb, hml, hown, hts, hK, hA, hlk, hrt⟩ := C
  intro H locs ls hP hD hS h
  exact lv_dload hx hb d (lv_at h j hl) (kk H locs ls hP hD hS h)
theorem kr_istore_n (C : kC K D cy A n cc own Ts ret) {k : Fin 4} {i : Nat} {x : Int32} (ks : List Nat) (d : decode cc pc = .ok (.istore_n k, 1)) (hi : (k : Nat) = i) (hn : i < n) (hl : lv_pick ((i, Value.int x) :: L.filter (fun q => !(q.1 == i) && !(q.1 + 1 == i && q.2.category == 2))) ks = L2) (kk : kG K l D A R n Q X cells slots (pc + 1) L2 (st)) : kG K l D A R n Q X cells slots (pc) L (.int x :: st) := by
  obtain ⟨p, e, s, m, args, below, meth, c⟩ := K
  obtain ⟨hx, hb, hml, hown, hts, hK, hA, hlk, hrt⟩ := C
  intro H locs ls hP hD hS h
  exact lv_istore_n hx hb d hi h hn rfl (fun ls2 h2 => kk H locs ls2 hP hD hS (lv_sub h2 ks hl))
theorem kr_istore (C : kC K D cy A n cc own Ts ret) {i : Nat} {x : Int32} (ks : List Nat) (d : decode cc pc = .ok (.istore i, 2)) (hn : i < n) (hl : lv_pick ((i, Value.int x) :: L.filter (fun q => !(q.1 == i) && !(q.1 + 1 == i && q.2.category == 2))) ks = L2) (kk : kG K l D A R n Q X cells slots (pc + 2) L2 (st)) : kG K l D A R n Q X cells slots (pc) L (.int x :: st) := by
  obtain ⟨p, e, s, m, args, below, meth, c⟩ := K
  obtain ⟨hx, hb, hml, hown, hts, hK, hA, hlk, hrt⟩ := C
  intro H locs ls hP hD hS h
  exact lv_istore hx hb d h hn rfl (fun ls2 h2 => kk H locs ls2 hP hD hS (lv_sub h2 ks hl))
theorem kr_astore_n (C : kC K D cy A n cc own Ts ret) {k : Fin 4} {i : Nat} {x : Nat} (ks : List Nat) (d : decode cc pc = .ok (.astore_n k, 1)) (hi : (k : Nat) = i) (hn : i < n) (hl : lv_pick ((i, Value.ref x) :: L.filter (fun q => !(q.1 == i) && !(q.1 + 1 == i && q.2.category == 2))) ks = L2) (kk : kG K l D A R n Q X cells slots (pc + 1) L2 (st)) : kG K l D A R n Q X cells slots (pc) L (.ref x :: st) := by
  obtain ⟨p, e, s, m, args, below, meth, c⟩ := K
  obtain ⟨hx, hb, hml, hown, hts, hK, hA, hlk, hrt⟩ := C
  intro H locs ls hP hD hS h
  exact lv_astore_n hx hb d hi h hn rfl (fun ls2 h2 => kk H locs ls2 hP hD hS (lv_sub h2 ks hl))
theorem kr_astore (C : kC K D cy A n cc own Ts ret) {i : Nat} {x : Nat} (ks : List Nat) (d : decode cc pc = .ok (.astore i, 2)) (hn : i < n) (hl : lv_pick ((i, Value.ref x) :: L.filter (fun q => !(q.1 == i) && !(q.1 + 1 == i && q.2.category == 2))) ks = L2) (kk : kG K l D A R n Q X cells slots (pc + 2) L2 (st)) : kG K l D A R n Q X cells slots (pc) L (.ref x :: st) := by
  obtain ⟨p, e, s, m, args, below, meth, c⟩ := K
  obtain ⟨hx, hb, hml, hown, hts, hK, hA, hlk, hrt⟩ := C
  intro H locs ls hP hD hS h
  exact lv_astore hx hb d h hn rfl (fun ls2 h2 => kk H locs ls2 hP hD hS (lv_sub h2 ks hl))
theorem kr_fstore_n (C : kC K D cy A n cc own Ts ret) {k : Fin 4} {i : Nat} {x : UInt32} (ks : List Nat) (d : decode cc pc = .ok (.fstore_n k, 1)) (hi : (k : Nat) = i) (hn : i < n) (hl : lv_pick ((i, Value.float x) :: L.filter (fun q => !(q.1 == i) && !(q.1 + 1 == i && q.2.category == 2))) ks = L2) (kk : kG K l D A R n Q X cells slots (pc + 1) L2 (st)) : kG K l D A R n Q X cells slots (pc) L (.float x :: st) := by
  obtain ⟨p, e, s, m, args, below, meth, c⟩ := K
  obtain ⟨hx, hb, hml, hown, hts, hK, hA, hlk, hrt⟩ := C
  intro H locs ls hP hD hS h
  exact lv_fstore_n hx hb d hi h hn rfl (fun ls2 h2 => kk H locs ls2 hP hD hS (lv_sub h2 ks hl))
theorem kr_fstore (C : kC K D cy A n cc own Ts ret) {i : Nat} {x : UInt32} (ks : List Nat) (d : decode cc pc = .ok (.fstore i, 2)) (hn : i < n) (hl : lv_pick ((i, Value.float x) :: L.filter (fun q => !(q.1 == i) && !(q.1 + 1 == i && q.2.category == 2))) ks = L2) (kk : kG K l D A R n Q X cells slots (pc + 2) L2 (st)) : kG K l D A R n Q X cells slots (pc) L (.float x :: st) := by
  obtain ⟨p, e, s, m, args, below, meth, c⟩ := K
  obtain ⟨hx, hb, hml, hown, hts, hK, hA, hlk, hrt⟩ := C
  intro H locs ls hP hD hS h
  exact lv_fstore hx hb d h hn rfl (fun ls2 h2 => kk H locs ls2 hP hD hS (lv_sub h2 ks hl))
theorem kr_dstore_n (C : kC K D cy A n cc own Ts ret) {k : Fin 4} {i : Nat} {x : UInt64} (ks : List Nat) (d : decode cc pc = .ok (.dstore_n k, 1)) (hi : (k : Nat) = i) (hn : i + 1 < n) (hl : lv_pick ((i, Value.double x) :: L.filter (fun q => !(q.1 == i) && (!(q.1 == i + 1) && !(q.1 + 1 == i && q.2.category == 2)))) ks = L2) (kk : kG K l D A R n Q X cells slots (pc + 1) L2 (st)) : kG K l D A R n Q X cells slots (pc) L (.double x :: st) := by
  obtain ⟨p, e, s, m, args, below, meth, c⟩ := K
  obtain ⟨hx, hb, hml, hown, hts, hK, hA, hlk, hrt⟩ := C
  intro H locs ls hP hD hS h
  exact lv_dstore_n hx hb d hi h hn rfl (fun ls2 h2 => kk H locs ls2 hP hD hS (lv_sub h2 ks hl))
theorem kr_dstore (C : kC K D cy A n cc own Ts ret) {i : Nat} {x : UInt64} (ks : List Nat) (d : decode cc pc = .ok (.dstore i, 2)) (hn : i + 1 < n) (hl : lv_pick ((i, Value.double x) :: L.filter (fun q => !(q.1 == i) && (!(q.1 == i + 1) && !(q.1 + 1 == i && q.2.category == 2)))) ks = L2) (kk : kG K l D A R n Q X cells slots (pc + 2) L2 (st)) : kG K l D A R n Q X cells slots (pc) L (.double x :: st) := by
  obtain ⟨p, e, s, m, args, below, meth, c⟩ := K
  obtain ⟨hx, hb, hml, hown, hts, hK, hA, hlk, hrt⟩ := C
  intro H locs ls hP hD hS h
  exact lv_dstore hx hb d h hn rfl (fun ls2 h2 => kk H locs ls2 hP hD hS (lv_sub h2 ks hl))
theorem kr_iinc (C : kC K D cy A n cc own Ts ret) {i : Nat} {z : Int} {x v : Int32} (j : Nat) (ks : List Nat) (d : decode cc pc = .ok (.iinc i z, 3)) (hk : L[j]? = some (i, .int x)) (hv : x + Int32.ofInt z = v) (hn : i < n) (hl : lv_pick ((i, Value.int v) :: L.filter (fun q => !(q.1 == i) && !(q.1 + 1 == i && q.2.category == 2))) ks = L2) (kk : kG K l D A R n Q X cells slots (pc + 3) L2 (st)) : kG K l D A R n Q X cells slots (pc) L (st) := by
  obtain ⟨p, e, s, m, args, below, meth, c⟩ := K
  obtain ⟨hx, hb, hml, hown, hts, hK, hA, hlk, hrt⟩ := C
  intro H locs ls hP hD hS h
  exact lv_iinc hx hb d h hk hv hn rfl (fun ls2 h2 => kk H locs ls2 hP hD hS (lv_sub h2 ks hl))
theorem kr_iadd (C : kC K D cy A n cc own Ts ret) {x y : Int32} (d : decode cc pc = .ok (.iadd, 1)) (kk : kG K l D A R n Q X cells slots (pc + 1) L (.int (x + y) :: st)) : kG K l D A R n Q X cells slots (pc) L (.int y :: .int x :: st) := by
  obtain ⟨p, e, s, m, args, below, meth, c⟩ := K
  obtain ⟨hx, hb, hml, hown, hts, hK, hA, hlk, hrt⟩ := C
  intro H locs ls hP hD hS h
  exact lv_iadd hx hb d  (kk H locs ls hP hD hS h)
theorem kr_isub (C : kC K D cy A n cc own Ts ret) {x y : Int32} (d : decode cc pc = .ok (.isub, 1)) (kk : kG K l D A R n Q X cells slots (pc + 1) L (.int (x - y) :: st)) : kG K l D A R n Q X cells slots (pc) L (.int y :: .int x :: st) := by
  obtain ⟨p, e, s, m, args, below, meth, c⟩ := K
  obtain ⟨hx, hb, hml, hown, hts, hK, hA, hlk, hrt⟩ := C
  intro H locs ls hP hD hS h
  exact lv_isub hx hb d  (kk H locs ls hP hD hS h)
theorem kr_imul (C : kC K D cy A n cc own Ts ret) {x y : Int32} (d : decode cc pc = .ok (.imul, 1)) (kk : kG K l D A R n Q X cells slots (pc + 1) L (.int (x * y) :: st)) : kG K l D A R n Q X cells slots (pc) L (.int y :: .int x :: st) := by
  obtain ⟨p, e, s, m, args, below, meth, c⟩ := K
  obtain ⟨hx, hb, hml, hown, hts, hK, hA, hlk, hrt⟩ := C
  intro H locs ls hP hD hS h
  exact lv_imul hx hb d  (kk H locs ls hP hD hS h)
theorem kr_iand (C : kC K D cy A n cc own Ts ret) {x y : Int32} (d : decode cc pc = .ok (.iand, 1)) (kk : kG K l D A R n Q X cells slots (pc + 1) L (.int (x &&& y) :: st)) : kG K l D A R n Q X cells slots (pc) L (.int y :: .int x :: st) := by
  obtain ⟨p, e, s, m, args, below, meth, c⟩ := K
  obtain ⟨hx, hb, hml, hown, hts, hK, hA, hlk, hrt⟩ := C
  intro H locs ls hP hD hS h
  exact lv_iand hx hb d  (kk H locs ls hP hD hS h)
theorem kr_ior (C : kC K D cy A n cc own Ts ret) {x y : Int32} (d : decode cc pc = .ok (.ior, 1)) (kk : kG K l D A R n Q X cells slots (pc + 1) L (.int (x ||| y) :: st)) : kG K l D A R n Q X cells slots (pc) L (.int y :: .int x :: st) := by
  obtain ⟨p, e, s, m, args, below, meth, c⟩ := K
  obtain ⟨hx, hb, hml, hown, hts, hK, hA, hlk, hrt⟩ := C
  intro H locs ls hP hD hS h
  exact lv_ior hx hb d  (kk H locs ls hP hD hS h)
theorem kr_ixor (C : kC K D cy A n cc own Ts ret) {x y : Int32} (d : decode cc pc = .ok (.ixor, 1)) (kk : kG K l D A R n Q X cells slots (pc + 1) L (.int (x ^^^ y) :: st)) : kG K l D A R n Q X cells slots (pc) L (.int y :: .int x :: st) := by
  obtain ⟨p, e, s, m, args, below, meth, c⟩ := K
  obtain ⟨hx, hb, hml, hown, hts, hK, hA, hlk, hrt⟩ := C
  intro H locs ls hP hD hS h
  exact lv_ixor hx hb d  (kk H locs ls hP hD hS h)
theorem kr_ishl (C : kC K D cy A n cc own Ts ret) {x y : Int32} (d : decode cc pc = .ok (.ishl, 1)) (kk : kG K l D A R n Q X cells slots (pc + 1) L (.int (x <<< (y &&& 31)) :: st)) : kG K l D A R n Q X cells slots (pc) L (.int y :: .int x :: st) := by
  obtain ⟨p, e, s, m, args, below, meth, c⟩ := K
  obtain ⟨hx, hb, hml, hown, hts, hK, hA, hlk, hrt⟩ := C
  intro H locs ls hP hD hS h
  exact lv_ishl hx hb d  (kk H locs ls hP hD hS h)
theorem kr_iushr (C : kC K D cy A n cc own Ts ret) {x y : Int32} (d : decode cc pc = .ok (.iushr, 1)) (kk : kG K l D A R n Q X cells slots (pc + 1) L (.int ((x.toUInt32 >>> (y.toUInt32 &&& Int32.toUInt32 31)).toInt32) :: st)) : kG K l D A R n Q X cells slots (pc) L (.int y :: .int x :: st) := by
  obtain ⟨p, e, s, m, args, below, meth, c⟩ := K
  obtain ⟨hx, hb, hml, hown, hts, hK, hA, hlk, hrt⟩ := C
  intro H locs ls hP hD hS h
  exact lv_iushr hx hb d rfl (kk H locs ls hP hD hS h)
theorem kr_dup (C : kC K D cy A n cc own Ts ret) {v : Value} (d : decode cc pc = .ok (.dup, 1)) (hv : v.category = 1) (kk : kG K l D A R n Q X cells slots (pc + 1) L (v :: v :: st)) : kG K l D A R n Q X cells slots (pc) L (v :: st) := by
  obtain ⟨p, e, s, m, args, below, meth, c⟩ := K
  obtain ⟨hx, hb, hml, hown, hts, hK, hA, hlk, hrt⟩ := C
  intro H locs ls hP hD hS h
  exact lv_dup hx hb d hv (kk H locs ls hP hD hS h)
theorem kr_icmp_eq (C : kC K D cy A n cc own Ts ret) {x y : Int32} {off : Int} (tgt : Nat) (d : decode cc pc = .ok (.if_icmp .eq off, 3)) (ht : (pc : Int) + off = (tgt : Int)) (kt : x = y → kG K l D A R n Q X cells slots (tgt) L (st)) (kf : ¬ x = y → kG K l D A R n Q X cells slots (pc + 3) L (st)) : kG K l D A R n Q X cells slots (pc) L (.int y :: .int x :: st) := by
  obtain ⟨p, e, s, m, args, below, meth, c⟩ := K
  obtain ⟨hx, hb, hml, hown, hts, hK, hA, hlk, hrt⟩ := C
  intro H locs ls hP hD hS h
  exact lv_icmp_eq hx hb d ht (fun z => kt z H locs ls hP hD hS h) (fun z => kf z H locs ls hP hD hS h)
theorem kr_if_eq (C : kC K D cy A n cc own Ts ret) {x : Int32} {off : Int} (tgt : Nat) (d : decode cc pc = .ok (.ifCond .eq off, 3)) (ht : (pc : Int) + off = (tgt : Int)) (kt : x = 0 → kG K l D A R n Q X cells slots (tgt) L (st)) (kf : ¬ x = 0 → kG K l D A R n Q X cells slots (pc + 3) L (st)) : kG K l D A R n Q X cells slots (pc) L (.int x :: st) := by
  obtain ⟨p, e, s, m, args, below, meth, c⟩ := K
  obtain ⟨hx, hb, hml, hown, hts, hK, hA, hlk, hrt⟩ := C
  intro H locs ls hP hD hS h
  exact lv_if_eq hx hb d ht (fun z => kt z H locs ls hP hD hS h) (fun z => kf z H locs ls hP hD hS h)
theorem kr_icmp_lt (C : kC K D cy A n cc own Ts ret) {x y : Int32} {off : Int} (tgt : Nat) (d : decode cc pc = .ok (.if_icmp .lt off, 3)) (ht : (pc : Int) + off = (tgt : Int)) (kt : x < y → kG K l D A R n Q X cells slots (tgt) L (st)) (kf : ¬ x < y → kG K l D A R n Q X cells slots (pc + 3) L (st)) : kG K l D A R n Q X cells slots (pc) L (.int y :: .int x :: st) := by
  obtain ⟨p, e, s, m, args, below, meth, c⟩ := K
  obtain ⟨hx, hb, hml, hown, hts, hK, hA, hlk, hrt⟩ := C
  intro H locs ls hP hD hS h
  exact lv_icmp_lt hx hb d ht (fun z => kt z H locs ls hP hD hS h) (fun z => kf z H locs ls hP hD hS h)
theorem kr_if_lt (C : kC K D cy A n cc own Ts ret) {x : Int32} {off : Int} (tgt : Nat) (d : decode cc pc = .ok (.ifCond .lt off, 3)) (ht : (pc : Int) + off = (tgt : Int)) (kt : x < 0 → kG K l D A R n Q X cells slots (tgt) L (st)) (kf : ¬ x < 0 → kG K l D A R n Q X cells slots (pc + 3) L (st)) : kG K l D A R n Q X cells slots (pc) L (.int x :: st) := by
  obtain ⟨p, e, s, m, args, below, meth, c⟩ := K
  obtain ⟨hx, hb, hml, hown, hts, hK, hA, hlk, hrt⟩ := C
  intro H locs ls hP hD hS h
  exact lv_if_lt hx hb d ht (fun z => kt z H locs ls hP hD hS h) (fun z => kf z H locs ls hP hD hS h)
theorem kr_icmp_ge (C : kC K D cy A n cc own Ts ret) {x y : Int32} {off : Int} (tgt : Nat) (d : decode cc pc = .ok (.if_icmp .ge off, 3)) (ht : (pc : Int) + off = (tgt : Int)) (kt : y ≤ x → kG K l D A R n Q X cells slots (tgt) L (st)) (kf : ¬ y ≤ x → kG K l D A R n Q X cells slots (pc + 3) L (st)) : kG K l D A R n Q X cells slots (pc) L (.int y :: .int x :: st) := by
  obtain ⟨p, e, s, m, args, below, meth, c⟩ := K
  obtain ⟨hx, hb, hml, hown, hts, hK, hA, hlk, hrt⟩ := C
  intro H locs ls hP hD hS h
  exact lv_icmp_ge hx hb d ht (fun z => kt z H locs ls hP hD hS h) (fun z => kf z H locs ls hP hD hS h)
theorem kr_if_ge (C : kC K D cy A n cc own Ts ret) {x : Int32} {off : Int} (tgt : Nat) (d : decode cc pc = .ok (.ifCond .ge off, 3)) (ht : (pc : Int) + off = (tgt : Int)) (kt : 0 ≤ x → kG K l D A R n Q X cells slots (tgt) L (st)) (kf : ¬ 0 ≤ x → kG K l D A R n Q X cells slots (pc + 3) L (st)) : kG K l D A R n Q X cells slots (pc) L (.int x :: st) := by
  obtain ⟨p, e, s, m, args, below, meth, c⟩ := K
  obtain ⟨hx, hb, hml, hown, hts, hK, hA, hlk, hrt⟩ := C
  intro H locs ls hP hD hS h
  exact lv_if_ge hx hb d ht (fun z => kt z H locs ls hP hD hS h) (fun z => kf z H locs ls hP hD hS h)
theorem kr_icmp_gt (C : kC K D cy A n cc own Ts ret) {x y : Int32} {off : Int} (tgt : Nat) (d : decode cc pc = .ok (.if_icmp .gt off, 3)) (ht : (pc : Int) + off = (tgt : Int)) (kt : y < x → kG K l D A R n Q X cells slots (tgt) L (st)) (kf : ¬ y < x → kG K l D A R n Q X cells slots (pc + 3) L (st)) : kG K l D A R n Q X cells slots (pc) L (.int y :: .int x :: st) := by
  obtain ⟨p, e, s, m, args, below, meth, c⟩ := K
  obtain ⟨hx, hb, hml, hown, hts, hK, hA, hlk, hrt⟩ := C
  intro H locs ls hP hD hS h
  exact lv_icmp_gt hx hb d ht (fun z => kt z H locs ls hP hD hS h) (fun z => kf z H locs ls hP hD hS h)
theorem kr_if_gt (C : kC K D cy A n cc own Ts ret) {x : Int32} {off : Int} (tgt : Nat) (d : decode cc pc = .ok (.ifCond .gt off, 3)) (ht : (pc : Int) + off = (tgt : Int)) (kt : 0 < x → kG K l D A R n Q X cells slots (tgt) L (st)) (kf : ¬ 0 < x → kG K l D A R n Q X cells slots (pc + 3) L (st)) : kG K l D A R n Q X cells slots (pc) L (.int x :: st) := by
  obtain ⟨p, e, s, m, args, below, meth, c⟩ := K
  obtain ⟨hx, hb, hml, hown, hts, hK, hA, hlk, hrt⟩ := C
  intro H locs ls hP hD hS h
  exact lv_if_gt hx hb d ht (fun z => kt z H locs ls hP hD hS h) (fun z => kf z H locs ls hP hD hS h)
theorem kr_icmp_le (C : kC K D cy A n cc own Ts ret) {x y : Int32} {off : Int} (tgt : Nat) (d : decode cc pc = .ok (.if_icmp .le off, 3)) (ht : (pc : Int) + off = (tgt : Int)) (kt : x ≤ y → kG K l D A R n Q X cells slots (tgt) L (st)) (kf : ¬ x ≤ y → kG K l D A R n Q X cells slots (pc + 3) L (st)) : kG K l D A R n Q X cells slots (pc) L (.int y :: .int x :: st) := by
  obtain ⟨p, e, s, m, args, below, meth, c⟩ := K
  obtain ⟨hx, hb, hml, hown, hts, hK, hA, hlk, hrt⟩ := C
  intro H locs ls hP hD hS h
  exact lv_icmp_le hx hb d ht (fun z => kt z H locs ls hP hD hS h) (fun z => kf z H locs ls hP hD hS h)
theorem kr_if_le (C : kC K D cy A n cc own Ts ret) {x : Int32} {off : Int} (tgt : Nat) (d : decode cc pc = .ok (.ifCond .le off, 3)) (ht : (pc : Int) + off = (tgt : Int)) (kt : x ≤ 0 → kG K l D A R n Q X cells slots (tgt) L (st)) (kf : ¬ x ≤ 0 → kG K l D A R n Q X cells slots (pc + 3) L (st)) : kG K l D A R n Q X cells slots (pc) L (.int x :: st) := by
  obtain ⟨p, e, s, m, args, below, meth, c⟩ := K
  obtain ⟨hx, hb, hml, hown, hts, hK, hA, hlk, hrt⟩ := C
  intro H locs ls hP hD hS h
  exact lv_if_le hx hb d ht (fun z => kt z H locs ls hP hD hS h) (fun z => kf z H locs ls hP hD hS h)
theorem kr_icmp_ne (C : kC K D cy A n cc own Ts ret) {x y : Int32} {off : Int} (tgt : Nat) (d : decode cc pc = .ok (.if_icmp .ne off, 3)) (ht : (pc : Int) + off = (tgt : Int)) (kf : x = y → kG K l D A R n Q X cells slots (pc + 3) L (st)) (kt : ¬ x = y → kG K l D A R n Q X cells slots (tgt) L (st)) : kG K l D A R n Q X cells slots (pc) L (.int y :: .int x :: st) := by
  obtain ⟨p, e, s, m, args, below, meth, c⟩ := K
  obtain ⟨hx, hb, hml, hown, hts, hK, hA, hlk, hrt⟩ := C
  intro H locs ls hP hD hS h
  exact lv_icmp_ne hx hb d ht (fun z => kt z H locs ls hP hD hS h) (fun z => kf z H locs ls hP hD hS h)
theorem kr_if_ne (C : kC K D cy A n cc own Ts ret) {x : Int32} {off : Int} (tgt : Nat) (d : decode cc pc = .ok (.ifCond .ne off, 3)) (ht : (pc : Int) + off = (tgt : Int)) (kf : x = 0 → kG K l D A R n Q X cells slots (pc + 3) L (st)) (kt : ¬ x = 0 → kG K l D A R n Q X cells slots (tgt) L (st)) : kG K l D A R n Q X cells slots (pc) L (.int x :: st) := by
  obtain ⟨p, e, s, m, args, below, meth, c⟩ := K
  obtain ⟨hx, hb, hml, hown, hts, hK, hA, hlk, hrt⟩ := C
  intro H locs ls hP hD hS h
  exact lv_if_ne hx hb d ht (fun z => kt z H locs ls hP hD hS h) (fun z => kf z H locs ls hP hD hS h)
theorem kr_goto (C : kC K D cy A n cc own Ts ret) {off : Int} (tgt : Nat) (d : decode cc pc = .ok (.goto off, 3)) (ht : (pc : Int) + off = (tgt : Int)) (kk : kG K l D A R n Q X cells slots (tgt) L (st)) : kG K l D A R n Q X cells slots (pc) L (st) := by
  obtain ⟨p, e, s, m, args, below, meth, c⟩ := K
  obtain ⟨hx, hb, hml, hown, hts, hK, hA, hlk, hrt⟩ := C
  intro H locs ls hP hD hS h
  exact lv_goto hx hb d ht (kk H locs ls hP hD hS h)
theorem kr_i2l (C : kC K D cy A n cc own Ts ret) {x : Int32} (d : decode cc pc = .ok (.i2l, 1)) (kk : kG K l D A R n Q X cells slots (pc + 1) L (.long x.toInt64 :: st)) : kG K l D A R n Q X cells slots (pc) L (.int x :: st) := by
  obtain ⟨p, e, s, m, args, below, meth, c⟩ := K
  obtain ⟨hx, hb, hml, hown, hts, hK, hA, hlk, hrt⟩ := C
  intro H locs ls hP hD hS h
  exact lv_i2l hx hb d rfl (kk H locs ls hP hD hS h)
theorem kr_i2f (C : kC K D cy A n cc own Ts ret) {x : Int32} (d : decode cc pc = .ok (.i2f, 1)) (kk : kG K l D A R n Q X cells slots (pc + 1) L (.float (FP.i2f x) :: st)) : kG K l D A R n Q X cells slots (pc) L (.int x :: st) := by
  obtain ⟨p, e, s, m, args, below, meth, c⟩ := K
  obtain ⟨hx, hb, hml, hown, hts, hK, hA, hlk, hrt⟩ := C
  intro H locs ls hP hD hS h
  exact lv_i2f hx hb d  (kk H locs ls hP hD hS h)
theorem kr_i2d (C : kC K D cy A n cc own Ts ret) {x : Int32} (d : decode cc pc = .ok (.i2d, 1)) (kk : kG K l D A R n Q X cells slots (pc + 1) L (.double (FP.i2d x) :: st)) : kG K l D A R n Q X cells slots (pc) L (.int x :: st) := by
  obtain ⟨p, e, s, m, args, below, meth, c⟩ := K
  obtain ⟨hx, hb, hml, hown, hts, hK, hA, hlk, hrt⟩ := C
  intro H locs ls hP hD hS h
  exact lv_i2d hx hb d  (kk H locs ls hP hD hS h)
theorem kr_fdiv (C : kC K D cy A n cc own Ts ret) {x y : UInt32} (d : decode cc pc = .ok (.fdiv, 1)) (hne : vf_n32 (FP.fdiv x y)) (kk : kG K l D A R n Q X cells slots (pc + 1) L (.float (FP.fdiv x y) :: st)) : kG K l D A R n Q X cells slots (pc) L (.float y :: .float x :: st) := by
  obtain ⟨p, e, s, m, args, below, meth, c⟩ := K
  obtain ⟨hx, hb, hml, hown, hts, hK, hA, hlk, hrt⟩ := C
  intro H locs ls hP hD hS h
  exact lv_fdiv hx hb d hne (kk H locs ls hP hD hS h)
theorem kr_ddiv (C : kC K D cy A n cc own Ts ret) {x y : UInt64} (d : decode cc pc = .ok (.ddiv, 1)) (hne : vf_n64 (FP.ddiv x y)) (kk : kG K l D A R n Q X cells slots (pc + 1) L (.double (FP.ddiv x y) :: st)) : kG K l D A R n Q X cells slots (pc) L (.double y :: .double x :: st) := by
  obtain ⟨p, e, s, m, args, below, meth, c⟩ := K
  obtain ⟨hx, hb, hml, hown, hts, hK, hA, hlk, hrt⟩ := C
  intro H locs ls hP hD hS h
  exact lv_ddiv hx hb d hne (kk H locs ls hP hD hS h)
theorem kr_f2d (C : kC K D cy A n cc own Ts ret) {x : UInt32} (d : decode cc pc = .ok (.f2d, 1)) (hne : vf_n64 (FP.f2d x)) (kk : kG K l D A R n Q X cells slots (pc + 1) L (.double (FP.f2d x) :: st)) : kG K l D A R n Q X cells slots (pc) L (.float x :: st) := by
  obtain ⟨p, e, s, m, args, below, meth, c⟩ := K
  obtain ⟨hx, hb, hml, hown, hts, hK, hA, hlk, hrt⟩ := C
  intro H locs ls hP hD hS h
  exact lv_f2d hx hb d hne (kk H locs ls hP hD hS h)
theorem kr_dcmp (C : kC K D cy A n cc own Ts ret) {x y : UInt64} {op : CmpOp} (d : decode cc pc = .ok (.dcmp op, 1)) (kk : kG K l D A R n Q X cells slots (pc + 1) L (.int (Op.cmpValue (FP.dcmp x y) op) :: st)) : kG K l D A R n Q X cells slots (pc) L (.double y :: .double x :: st) := by
  obtain ⟨p, e, s, m, args, below, meth, c⟩ := K
  obtain ⟨hx, hb, hml, hown, hts, hK, hA, hlk, hrt⟩ := C
  intro H locs ls hP hD hS h
  exact lv_dcmp hx hb d  (kk H locs ls hP hD hS h)
theorem kr_fcmp (C : kC K D cy A n cc own Ts ret) {x y : UInt32} {op : CmpOp} (d : decode cc pc = .ok (.fcmp op, 1)) (kk : kG K l D A R n Q X cells slots (pc + 1) L (.int (Op.cmpValue (FP.fcmp x y) op) :: st)) : kG K l D A R n Q X cells slots (pc) L (.float y :: .float x :: st) := by
  obtain ⟨p, e, s, m, args, below, meth, c⟩ := K
  obtain ⟨hx, hb, hml, hown, hts, hK, hA, hlk, hrt⟩ := C
  intro H locs ls hP hD hS h
  exact lv_fcmp hx hb d  (kk H locs ls hP hD hS h)
theorem kr_lcmp (C : kC K D cy A n cc own Ts ret) {x y : Int64} (d : decode cc pc = .ok (.lcmp, 1)) (kk : kG K l D A R n Q X cells slots (pc + 1) L (.int (lg_cmp x y) :: st)) : kG K l D A R n Q X cells slots (pc) L (.long y :: .long x :: st) := by
  obtain ⟨p, e, s, m, args, below, meth, c⟩ := K
  obtain ⟨hx, hb, hml, hown, hts, hK, hA, hlk, hrt⟩ := C
  intro H locs ls hP hD hS h
  exact W.lcmp hx hb d  (kk H locs ls hP hD hS h)
theorem kr_fconst0 (C : kC K D cy A n cc own Ts ret)  (d : decode cc pc = .ok (.fconst 0, 1)) (kk : kG K l D A R n Q X cells slots (pc + 1) L (.float FP.fconst0 :: st)) : kG K l D A R n Q X cells slots (pc) L (st) := by
  obtain ⟨p, e, s, m, args, below, meth, c⟩ := K
  obtain ⟨hx, hb, hml, hown, hts, hK, hA, hlk, hrt⟩ := C
  intro H locs ls hP hD hS h
  exact lv_fconst0 hx hb d  (kk H locs ls hP hD hS h)
theorem kr_dconst0 (C : kC K D cy A n cc own Ts ret)  (d : decode cc pc = .ok (.dconst 0, 1)) (kk : kG K l D A R n Q X cells slots (pc + 1) L (.double FP.dconst0 :: st)) : kG K l D A R n Q X cells slots (pc) L (st) := by
  obtain ⟨p, e, s, m, args, below, meth, c⟩ := K
  obtain ⟨hx, hb, hml, hown, hts, hK, hA, hlk, hrt⟩ := C
  intro H locs ls hP hD hS h
  exact lv_dconst0 hx hb d  (kk H locs ls hP hD hS h)
theorem kr_get (C : kC K D cy A n cc own Ts ret) {ref Cn : String} {T : u_T} {N ci index a : Nat} {fs : List Value} {v : Value} (hin : ∀ w ∈ u_ws Cn T N, w ∈ Ts) (q0 : Nat) (he : X[q0]? = some (a, .inr (ci, fs))) (hc : vwCl[ci]? = some (Cn, T, N)) (k : Nat) (hk : k < N) (hl : Cond.fieldLink own index ref (T k).2.1 (T k).2.2.1 ∈ Ts) (hs : (T k).1 = ref) (hv : fs[k]? = some v) (d : decode cc pc = .ok (.getfield index, 3)) (kk : kG K l D A R n Q X cells slots (pc + 3) L (v :: st)) : kG K l D A R n Q X cells slots (pc) L (.ref a :: st) := by
  obtain ⟨p, e, s, m, args, below, meth, c⟩ := K
  obtain ⟨hx, hb, hml, hown, hts, hK, hA, hlk, hrt⟩ := C
  intro H locs ls hP hD hS h
  exact va_get hx hb hts hin hown hK hP q0 he hc k hk (hts _ hl) (fun _ h9 => by rw [← hs]; exact h9) hv d (kk H locs ls hP hD hS h)
theorem kr_put (C : kC K D cy A n cc own Ts ret) {ref Cn : String} {T : u_T} {N ci index a : Nat} {fs : List Value} {v : Value} {ty : FieldType} {ty0 : Nat → FieldType} (hin : ∀ w ∈ u_ws Cn T N, w ∈ Ts) (hty : ∀ k, k < N → parseFieldDescriptor (T k).2.2.1 = some (ty0 k)) (hnm : ∀ a, a < N → ∀ b, b < N → a ≠ b → (T a).2.1 ≠ (T b).2.1) (q0 : Nat) (he : X[q0]? = some (a, .inr (ci, fs))) (hc : vwCl[ci]? = some (Cn, T, N)) (k : Nat) (hk : k < N) (hl : Cond.fieldLink own index ref (T k).2.1 (T k).2.2.1 ∈ Ts) (hs : (T k).1 = ref) (hfin : (T k).2.2.2 = false) (hd : ty0 k = ty) (hn : narrow ty v = v) (hfit : fits ty v = true) (hll : k < fs.length) (hX : X.set q0 (a, .inr (ci, fs.set k v)) = X2) (d : decode cc pc = .ok (.putfield index, 3)) (kk : kG K l D A R n Q X2 cells slots (pc + 3) L (st)) : kG K l D A R n Q X cells slots (pc) L (v :: .ref a :: st) := by
  obtain ⟨p, e, s, m, args, below, meth, c⟩ := K
  obtain ⟨hx, hb, hml, hown, hts, hK, hA, hlk, hrt⟩ := C
  intro H locs ls hP hD hS h
  exact va_put hx hb hts hin ty0 hty hnm hown hK hP hD hS q0 he hc k hk (hts _ hl) (fun _ h9 => by rw [← hs]; exact h9) hfin (by rw [hty k hk, hd]) hn hfit hll d (fun H1 locs1 hP1 hD1 hS1 => kk H1 locs1 ls (by rw [← hX]; exact hP1) (by rw [← hX]; exact hD1) hS1 h)
theorem kr_putF (C : kC K D cy A n cc own Ts ret) {ref Cn : String} {T : u_T} {N ci index a : Nat} {fs : List Value} {v : Value} {ty : FieldType} {ty0 : Nat → FieldType} (hinit : kInit K) (hin : ∀ w ∈ u_ws Cn T N, w ∈ Ts) (hty : ∀ k, k < N → parseFieldDescriptor (T k).2.2.1 = some (ty0 k)) (hnm : ∀ a, a < N → ∀ b, b < N → a ≠ b → (T a).2.1 ≠ (T b).2.1) (q0 : Nat) (he : X[q0]? = some (a, .inr (ci, fs))) (hc : vwCl[ci]? = some (Cn, T, N)) (k : Nat) (hk : k < N) (hl : Cond.fieldLink own index ref (T k).2.1 (T k).2.2.1 ∈ Ts) (hs : (T k).1 = ref) (hfin : (T k).2.2.2 = true) (hdc : (T k).1 = own) (hd : ty0 k = ty) (hn : narrow ty v = v) (hfit : fits ty v = true) (hll : k < fs.length) (hX : X.set q0 (a, .inr (ci, fs.set k v)) = X2) (d : decode cc pc = .ok (.putfield index, 3)) (kk : kG K l D A R n Q X2 cells slots (pc + 3) L (st)) : kG K l D A R n Q X cells slots (pc) L (v :: .ref a :: st) := by
  obtain ⟨p, e, s, m, args, below, meth, c⟩ := K
  obtain ⟨hx, hb, hml, hown, hts, hK, hA, hlk, hrt⟩ := C
  intro H locs ls hP hD hS h
  exact va_putF hx hb hts hin ty0 hty hnm hown hK hP hD hS q0 he hc k hk (hts _ hl) (fun _ h9 => by rw [← hs]; exact h9) hfin hinit hdc (by rw [hty k hk, hd]) hn hfit hll d (fun H1 locs1 hP1 hD1 hS1 => kk H1 locs1 ls (by rw [← hX]; exact hP1) (by rw [← hX]; exact hD1) hS1 h)
theorem kr_iald (C : kC K D cy A n cc own Ts ret) {a N : Nat} {f : Nat → Int32} {i : Int32} (q0 : Nat) (he : X[q0]? = some (a, .inl (cy 0, N, .inl f))) (hin : vp_in i N) (d : decode cc pc = .ok (.iaload, 1)) (kk : kG K l D A R n Q X cells slots (pc + 1) L (.int (f i.toNatClampNeg) :: st)) : kG K l D A R n Q X cells slots (pc) L (.int i :: .ref a :: st) := by
  obtain ⟨p, e, s, m, args, below, meth, c⟩ := K
  obtain ⟨hx, hb, hml, hown, hts, hK, hA, hlk, hrt⟩ := C
  intro H locs ls hP hD hS h
  exact va_iald hx hb hK hP q0 0 he rfl hin d (kk H locs ls hP hD hS h)
theorem kr_zald (C : kC K D cy A n cc own Ts ret) {a N : Nat} {f : Nat → Int32} {i : Int32} (q0 : Nat) (he : X[q0]? = some (a, .inl (cy 1, N, .inl f))) (hin : vp_in i N) (d : decode cc pc = .ok (.baload, 1)) (kk : kG K l D A R n Q X cells slots (pc + 1) L (.int (f i.toNatClampNeg) :: st)) : kG K l D A R n Q X cells slots (pc) L (.int i :: .ref a :: st) := by
  obtain ⟨p, e, s, m, args, below, meth, c⟩ := K
  obtain ⟨hx, hb, hml, hown, hts, hK, hA, hlk, hrt⟩ := C
  intro H locs ls hP hD hS h
  exact va_zald hx hb hK hP q0 1 he rfl hin d (kk H locs ls hP hD hS h)
theorem kr_lald (C : kC K D cy A n cc own Ts ret) {a N : Nat} {f : Nat → Int64} {i : Int32} (q0 : Nat) (he : X[q0]? = some (a, .inl (cy 2, N, .inr (.inl f)))) (hin : vp_in i N) (d : decode cc pc = .ok (.laload, 1)) (kk : kG K l D A R n Q X cells slots (pc + 1) L (.long (f i.toNatClampNeg) :: st)) : kG K l D A R n Q X cells slots (pc) L (.int i :: .ref a :: st) := by
  obtain ⟨p, e, s, m, args, below, meth, c⟩ := K
  obtain ⟨hx, hb, hml, hown, hts, hK, hA, hlk, hrt⟩ := C
  intro H locs ls hP hD hS h
  exact va_lald hx hb hK hP q0 2 he rfl hin d (kk H locs ls hP hD hS h)
theorem kr_dald (C : kC K D cy A n cc own Ts ret) {a N : Nat} {f : Nat → UInt64} {i : Int32} (q0 : Nat) (he : X[q0]? = some (a, .inl (cy 3, N, .inr (.inr (.inr (.inl f)))))) (hin : vp_in i N) (d : decode cc pc = .ok (.daload, 1)) (kk : kG K l D A R n Q X cells slots (pc + 1) L (.double (f i.toNatClampNeg) :: st)) : kG K l D A R n Q X cells slots (pc) L (.int i :: .ref a :: st) := by
  obtain ⟨p, e, s, m, args, below, meth, c⟩ := K
  obtain ⟨hx, hb, hml, hown, hts, hK, hA, hlk, hrt⟩ := C
  intro H locs ls hP hD hS h
  exact va_dald hx hb hK hP q0 3 he rfl hin d (kk H locs ls hP hD hS h)
theorem kr_iast (C : kC K D cy A n cc own Ts ret) {a N : Nat} {f : Nat → Int32} {i : Int32} {x : Int32} (q0 : Nat) (he : X[q0]? = some (a, .inl (cy 0, N, .inl f))) (hin : vp_in i N) (hX : X.set q0 (a, .inl (cy 0, N, .inl (upd f i.toNatClampNeg x))) = X2) (d : decode cc pc = .ok (.iastore, 1)) (kk : kG K l D A R n Q X2 cells slots (pc + 1) L (st)) : kG K l D A R n Q X cells slots (pc) L (.int x :: .int i :: .ref a :: st) := by
  obtain ⟨p, e, s, m, args, below, meth, c⟩ := K
  obtain ⟨hx, hb, hml, hown, hts, hK, hA, hlk, hrt⟩ := C
  intro H locs ls hP hD hS h
  exact va_iast hx hb hK hP hD hS q0 0 he rfl hin d (fun H1 locs1 hP1 hD1 hS1 => kk H1 locs1 ls (by rw [← hX]; exact hP1) (by rw [← hX]; exact hD1) hS1 h)
theorem kr_zast (C : kC K D cy A n cc own Ts ret) {a N : Nat} {f : Nat → Int32} {i : Int32} {x : Int32} (q0 : Nat) (he : X[q0]? = some (a, .inl (cy 1, N, .inl f))) (hin : vp_in i N) (hX : X.set q0 (a, .inl (cy 1, N, .inl (upd f i.toNatClampNeg (vp_nar .boolean x)))) = X2) (d : decode cc pc = .ok (.bastore, 1)) (kk : kG K l D A R n Q X2 cells slots (pc + 1) L (st)) : kG K l D A R n Q X cells slots (pc) L (.int x :: .int i :: .ref a :: st) := by
  obtain ⟨p, e, s, m, args, below, meth, c⟩ := K
  obtain ⟨hx, hb, hml, hown, hts, hK, hA, hlk, hrt⟩ := C
  intro H locs ls hP hD hS h
  exact va_zast hx hb hK hP hD hS q0 1 he rfl hin d (fun H1 locs1 hP1 hD1 hS1 => kk H1 locs1 ls (by rw [← hX]; exact hP1) (by rw [← hX]; exact hD1) hS1 h)
theorem kr_last (C : kC K D cy A n cc own Ts ret) {a N : Nat} {f : Nat → Int64} {i : Int32} {x : Int64} (q0 : Nat) (he : X[q0]? = some (a, .inl (cy 2, N, .inr (.inl f)))) (hin : vp_in i N) (hX : X.set q0 (a, .inl (cy 2, N, .inr (.inl (vp_updL f i.toNatClampNeg x)))) = X2) (d : decode cc pc = .ok (.lastore, 1)) (kk : kG K l D A R n Q X2 cells slots (pc + 1) L (st)) : kG K l D A R n Q X cells slots (pc) L (.long x :: .int i :: .ref a :: st) := by
  obtain ⟨p, e, s, m, args, below, meth, c⟩ := K
  obtain ⟨hx, hb, hml, hown, hts, hK, hA, hlk, hrt⟩ := C
  intro H locs ls hP hD hS h
  exact va_last hx hb hK hP hD hS q0 2 he rfl hin d (fun H1 locs1 hP1 hD1 hS1 => kk H1 locs1 ls (by rw [← hX]; exact hP1) (by rw [← hX]; exact hD1) hS1 h)
theorem kr_dast (C : kC K D cy A n cc own Ts ret) {a N : Nat} {f : Nat → UInt64} {i : Int32} {x : UInt64} (q0 : Nat) (he : X[q0]? = some (a, .inl (cy 3, N, .inr (.inr (.inr (.inl f)))))) (hin : vp_in i N) (hX : X.set q0 (a, .inl (cy 3, N, .inr (.inr (.inr (.inl (vf_upd f i.toNatClampNeg x)))))) = X2) (d : decode cc pc = .ok (.dastore, 1)) (kk : kG K l D A R n Q X2 cells slots (pc + 1) L (st)) : kG K l D A R n Q X cells slots (pc) L (.double x :: .int i :: .ref a :: st) := by
  obtain ⟨p, e, s, m, args, below, meth, c⟩ := K
  obtain ⟨hx, hb, hml, hown, hts, hK, hA, hlk, hrt⟩ := C
  intro H locs ls hP hD hS h
  exact va_dast hx hb hK hP hD hS q0 3 he rfl hin d (fun H1 locs1 hP1 hD1 hS1 => kk H1 locs1 ls (by rw [← hX]; exact hP1) (by rw [← hX]; exact hD1) hS1 h)
theorem kr_alen (C : kC K D cy A n cc own Ts ret) {a k0 : Nat} {x : vp_A} {v : Int32} (q0 t0 : Nat) {ty : FieldType} (he : X[q0]? = some (a, .inl (cy k0, x))) (ht : (kTy cy)[t0]? = some (cy k0, ty)) (hv : Int32.ofNat x.1 = v) (d : decode cc pc = .ok (.arraylength, 1)) (kk : kG K l D A R n Q X cells slots (pc + 1) L (.int v :: st)) : kG K l D A R n Q X cells slots (pc) L (.ref a :: st) := by
  obtain ⟨p, e, s, m, args, below, meth, c⟩ := K
  obtain ⟨hx, hb, hml, hown, hts, hK, hA, hlk, hrt⟩ := C
  intro H locs ls hP hD hS h
  exact va_alen hx hb hK hP q0 t0 he ht hv d (kk H locs ls hP hD hS h)
theorem kr_max (C : kC K D cy A n cc own Ts ret) {index : Nat} {x y : Int32} (hl : Cond.methodLink own index Lib.Math.max.name ∈ Ts) (h2 : Cond.static Lib.Math.max.name ∈ Ts) (h3 : Cond.initialized "java/lang/Math" ∈ Ts) (h4 : Cond.code Lib.Math.max.name Lib.Math.max.code 2 (some .int) ∈ Ts) (hf : 1 ≤ R.frames) (hlo : (st.map fun v => v.category).sum + 13 ≤ R.locals) (hc : cells ≤ R.cells) (hs : slots ≤ R.slots) (d : decode cc pc = .ok (.invokestatic index, 3)) (kk : kG K l D A R n Q X cells slots (pc + 3) L (.int (kmax x y) :: st)) : kG K l D A R n Q X cells slots (pc) L (.int y :: .int x :: st) := by
  obtain ⟨p, e, s, m, args, below, meth, c⟩ := K
  obtain ⟨hx, hb, hml, hown, hts, hK, hA, hlk, hrt⟩ := C
  intro H locs ls hP hD hS h
  exact va_mmax hx hb (hml.trans h.1.symm) hown (hts _ hl) (hts _ h2) (hts _ h3) (hts _ h4) hf hlo hc hs d (kk H locs ls hP hD hS h)
theorem kr_ret_i {A : Nat → Prop} (C : kC K D cy A n cc own Ts (some .int)) {v : Int32} (hc : cells ≤ mc) (hs : slots ≤ ms) (d : decode cc pc = .ok (.ireturn, 1)) : kG K l D A R n (kEnd K D cy A X (some (.int v)) mc ms) X cells slots (pc) L [.int v] := by
  obtain ⟨p, e, s, m, args, below, meth, c⟩ := K
  obtain ⟨hx, hb, hml, hown, hts, hK, hA, hlk, hrt⟩ := C
  intro H locs ls hP hD hS h
  exact W.widen hc hs (W.iret hx hb hrt (fun t ht hW => ⟨⟨rfl, by rw [ht]; exact hP, va_K.moved hW.alike hK, hD⟩, hS.F ht⟩) hS.2.2 d hlk)
theorem kr_ret_z {A : Nat → Prop} (C : kC K D cy A n cc own Ts (some .boolean)) {v : Int32} (hn : narrow .boolean (.int v) = .int v) (hc : cells ≤ mc) (hs : slots ≤ ms) (d : decode cc pc = .ok (.ireturn, 1)) : kG K l D A R n (kEnd K D cy A X (some (.int v)) mc ms) X cells slots (pc) L [.int v] := by
  obtain ⟨p, e, s, m, args, below, meth, c⟩ := K
  obtain ⟨hx, hb, hml, hown, hts, hK, hA, hlk, hrt⟩ := C
  intro H locs ls hP hD hS h
  exact W.widen hc hs (W.zret hx hb hrt hn (fun t ht hW => ⟨⟨rfl, by rw [ht]; exact hP, va_K.moved hW.alike hK, hD⟩, hS.F ht⟩) hS.2.2 d hlk)
theorem kr_ret_f {A : Nat → Prop} (C : kC K D cy A n cc own Ts (some .float)) {v : UInt32} (hc : cells ≤ mc) (hs : slots ≤ ms) (d : decode cc pc = .ok (.freturn, 1)) : kG K l D A R n (kEnd K D cy A X (some (.float v)) mc ms) X cells slots (pc) L ([.float v]) := by
  obtain ⟨p, e, s, m, args, below, meth, c⟩ := K
  obtain ⟨hx, hb, hml, hown, hts, hK, hA, hlk, hrt⟩ := C
  intro H locs ls hP hD hS h
  exact W.widen hc hs (W.fret hx hb hrt (fun t ht hW => ⟨⟨rfl, by rw [ht]; exact hP, va_K.moved hW.alike hK, hD⟩, hS.F ht⟩) hS.2.2 d hlk)
theorem kr_ret_d {A : Nat → Prop} (C : kC K D cy A n cc own Ts (some .double)) {v : UInt64} (hc : cells ≤ mc) (hs : slots ≤ ms) (d : decode cc pc = .ok (.dreturn, 1)) : kG K l D A R n (kEnd K D cy A X (some (.double v)) mc ms) X cells slots (pc) L ([.double v]) := by
  obtain ⟨p, e, s, m, args, below, meth, c⟩ := K
  obtain ⟨hx, hb, hml, hown, hts, hK, hA, hlk, hrt⟩ := C
  intro H locs ls hP hD hS h
  exact W.widen hc hs (W.dret hx hb hrt (fun t ht hW => ⟨⟨rfl, by rw [ht]; exact hP, va_K.moved hW.alike hK, hD⟩, hS.F ht⟩) hS.2.2 d hlk)
theorem kr_ret_v {A : Nat → Prop} (C : kC K D cy A n cc own Ts none) (hc : cells ≤ mc) (hs : slots ≤ ms) (d : decode cc pc = .ok (.return_, 1)) : kG K l D A R n (kEnd K D cy A X none mc ms) X cells slots (pc) L ([]) := by
  obtain ⟨p, e, s, m, args, below, meth, c⟩ := K
  obtain ⟨hx, hb, hml, hown, hts, hK, hA, hlk, hrt⟩ := C
  intro H locs ls hP hD hS h
  exact W.widen hc hs (W.vret hx hb hrt (fun t ht hW => ⟨⟨rfl, by rw [ht]; exact hP, va_K.moved hW.alike hK, hD⟩, hS.F ht⟩) hS.2.2 d hlk)
theorem kr_retX {A : Nat → Prop} {L : List (Nat × Value)} {st : List Value} (kk : kG K l D A R n (kEnd K D cy A X2 rv mc ms) X cells slots pc L st) : kG K l D A R n (kEndX K D cy A X2 (.inl rv) mc ms) X cells slots pc L st := by
  obtain ⟨p, e, s, m, args, below, meth, c⟩ := K
  intro H locs ls hP hD hS h
  have k1 := kk H locs ls hP hD hS h
  refine vx_ret ?_
  intro T hT X9
  obtain ⟨t, a1, o9, b1, b2, b3, b4⟩ := k1 T hT X9
  obtain ⟨⟨e1, e2⟩, e3⟩ := b3
  exact ⟨t, a1, o9, b1, b2, ⟨⟨rv, rfl, e1, e2⟩, e3⟩, b4⟩
/-- a call of a method that returns -/
theorem kr_run {p : Program} {l : Launch} {e : Env} {R : Room} {s : State} {m : MethodId} {args : Array Value} {below : List Frame} {meth : Method} {c : Code} {H : Heap} {locs : List Loc} {ls : Array Slot} {st0 rest : List Value} {a : Array Value} {free : Addr → Prop} {H0 : Heap} {A0 A1 : Nat → Prop}
    (hr : va_Run p l e R s m args below meth c H locs cells slots mc ms (F0 m pc ls st0) rest (kQ D cy A1 X2 rv a) free) (hS : va_S A0 H0 H locs) (hA : ∀ q, q < H.size → A1 q → A0 q) (hf : ∀ q, free q → A0 q) (hAA : ∀ q, A1 q → A0 q)
    (kk : ∀ (H1 : Heap) (locs1 : List Loc), va_P D vwCl X2 H1 → va_D A0 X2 → va_S A0 H0 H1 locs1 → W p l e R s m args below meth c H1 locs1 (cells + mc) (slots + ms) Q (F0 m (pc + 3) ls (rv.toList ++ rest))) : W p l e R s m args below meth c H locs cells slots Q (F0 m pc ls st0) := by
  intro T hT X9
  obtain ⟨v, st₀, t, T', L9, h0, X', hL, e1, e2, ⟨⟨hv, hB⟩, hz, hk⟩, st9⟩ := hr T hT X9
  cases hv
  rw [h0] at hz hk
  obtain ⟨hP1, -, hD1⟩ := hB
  obtain ⟨t2, a1, b1⟩ := kk T'.heap (locs ++ L9) (by rw [e1]; exact hP1) (hD1.weaken (fun _ q _ h => hAA q.1 h))
    ⟨Nat.le_trans hS.1 (by rw [e1]; exact hz), fun q h1 h2 => by rw [e1, hk q (Nat.lt_of_lt_of_le h1 hS.1) (fun z => h2 (hA q (Nat.lt_of_lt_of_le h1 hS.1) z))]; exact hS.2.1 q h1 h2, fun q hq => by
      rcases List.mem_append.mp hq with h | h
      · exact hS.2.2 q h
      · exact hf _ (hL q h)⟩ T' rfl X'
  exact ⟨t2, st9 t2 a1, b1⟩
theorem kr_callV (C : kC K D cy A n cc own Ts ret) {y : MethodName} {ws ws1 : List Cond} {rm : Room} {bytes : ByteArray} {maxL index k : Nat} {rt : Option FieldType} {As rest : List Value} {b ci : Nat} {fs : List Value} {Cn : String} {T : u_T} {N : Nat} (hM : kM l y ws rm D cy X (.ref b :: As) X2 rv mc ms) (hG : GoodIn Ts (wsV own index Cn y ws)) (hw : ws = .code y bytes maxL rt :: ws1) (hrc : rm.cells = mc) (hrs : rm.slots = ms)
    (hd : y.cls = Cn ∧ y.cls ≠ "java/lang/invoke/MethodHandle" ∧ y.cls ≠ "java/lang/invoke/VarHandle" ∧ (parseMethodDescriptor y.desc).map (fun d => d.parameters.length) = some k) (hR : rm.frames + 1 ≤ R.frames ∧ 8 + (maxL + 11) + rm.locals ≤ R.locals) (hf : cells + mc ≤ R.cells ∧ slots + ms ≤ R.slots) (q0 : Nat) (he : X[q0]? = some (b, .inr (ci, fs))) (hc : vwCl[ci]? = some (Cn, T, N)) (hn : As.length = k) (hst : st = As.reverse ++ .ref b :: rest) (hcat : (rest.map fun v => v.category).sum ≤ 8) (d : decode cc pc = .ok (.invokevirtual index, 3))
    (kk : kG K l D A R n Q X2 (cells + mc) (slots + ms) (pc + 3) L (rv.toList ++ rest)) : kG K l D A R n Q X cells slots (pc) L (st) := by
  obtain ⟨p, e, s, m, args, below, meth, c⟩ := K
  obtain ⟨hx, hb, hml, hown, hts, hK, hA, hlk, hrt⟩ := C
  intro H locs ls hP hD hS h
  have hFc := kFree hD hS hA
  exact kr_run (va_runV (As := As) (rest := rest) ⟨hx, hb, hml, hown, hts⟩ (hM H.size) (cwV k hts hG hw hrc hrs hd hR) ⟨fun _ _ _ _ q => ⟨q.1, q.2.calling⟩, va_recv hK hP hc he, fun U hU hW => ⟨rfl, by rw [hU], by rw [hU]; exact hP, va_K.moved hW.alike hK, hD.weaken (fun _ _ _ _ => trivial)⟩⟩ rfl hn h.1 hst (lv_room hcat) d hf) hS (fun q _ z => hFc q z) hFc hFc (fun H1 locs1 hP1 hD1 hS1 => kk H1 locs1 ls hP1 hD1 hS1 h)
theorem kr_callS (C : kC K D cy A n cc own Ts ret) {y : MethodName} {ws ws1 : List Cond} {rm : Room} {bytes : ByteArray} {maxL index k : Nat} {rt : Option FieldType} {As rest : List Value} (hM : kM l y ws rm D cy X As X2 rv mc ms) (hG : GoodIn Ts (va_wsS own index y ws)) (hw : ws = .code y bytes maxL rt :: ws1) (hrc : rm.cells = mc) (hrs : rm.slots = ms)
    (hd : y.cls ≠ "java/lang/invoke/MethodHandle" ∧ y.cls ≠ "java/lang/invoke/VarHandle" ∧ (parseMethodDescriptor y.desc).map (fun d => d.parameters.length) = some k) (hR : rm.frames + 1 ≤ R.frames ∧ 8 + (maxL + 11) + rm.locals ≤ R.locals) (hf : cells + mc ≤ R.cells ∧ slots + ms ≤ R.slots) (hn : As.length = k) (hst : st = As.reverse ++ rest) (hcat : (rest.map fun v => v.category).sum ≤ 8) (d : decode cc pc = .ok (.invokestatic index, 3))
    (kk : kG K l D A R n Q X2 (cells + mc) (slots + ms) (pc + 3) L (rv.toList ++ rest)) : kG K l D A R n Q X cells slots (pc) L (st) := by
  obtain ⟨p, e, s, m, args, below, meth, c⟩ := K
  obtain ⟨hx, hb, hml, hown, hts, hK, hA, hlk, hrt⟩ := C
  intro H locs ls hP hD hS h
  have hFc := kFree hD hS hA
  exact kr_run (va_runS (As := As) (rest := rest) ⟨hx, hb, hml, hown, hts⟩ (hM H.size) (va_cwS k hts hG hw hrc hrs hd hR) ⟨fun _ _ _ _ q => ⟨q.1, q.2.calling⟩, fun U hU hW => ⟨rfl, by rw [hU], by rw [hU]; exact hP, va_K.moved hW.alike hK, hD.weaken (fun _ _ _ _ => trivial)⟩⟩ rfl hn h.1 hst (lv_room hcat) d hf) hS (fun q _ z => hFc q z) hFc hFc (fun H1 locs1 hP1 hD1 hS1 => kk H1 locs1 ls hP1 hD1 hS1 h)
/-- a call of a method that may throw -/
theorem kr_runX {p : Program} {l : Launch} {e : Env} {R : Room} {s : State} {m : MethodId} {args : Array Value} {below : List Frame} {meth : Method} {c : Code} {H : Heap} {locs : List Loc} {ls : Array Slot} {st0 rest : List Value} {a : Array Value} {free : Addr → Prop} {H0 : Heap} {A0 A1 : Nat → Prop}
    (hr : vx_Run p l e R s m args below meth c H locs cells slots mc ms (F0 m pc ls st0) rest (kXQ D cy A1 X2 o a) (kXX D cy A1 X2 o) free) (hS : va_S A0 H0 H locs) (hA : ∀ q, q < H.size → A1 q → A0 q) (hf : ∀ q, free q → A0 q) (hAA : ∀ q, A1 q → A0 q)
    (kx : ∀ (E : String) (ce : Cell) (q9 : Addr) (H1 : Heap) (locs1 : List Loc), o = .inr E → va_P D vwCl X2 H1 → va_D A0 X2 → va_S A0 H0 H1 locs1 → H1[q9]? = some ce → ce.vm = .none → s.vm.findClass E = some ce.cls → vx_W p l e R s m args below meth c H1 locs1 (cells + mc) (slots + ms) Q (F0 m pc ls rest) q9)
    (kk : ∀ (rv : Option Value) (H1 : Heap) (locs1 : List Loc), o = .inl rv → va_P D vwCl X2 H1 → va_D A0 X2 → va_S A0 H0 H1 locs1 → W p l e R s m args below meth c H1 locs1 (cells + mc) (slots + ms) Q (F0 m (pc + 3) ls (rv.toList ++ rest))) : W p l e R s m args below meth c H locs cells slots Q (F0 m pc ls st0) := by
  intro T hT X9
  rcases hr T hT X9 with ⟨v, st₀, t, T', L9, h0, X', hL, e1, e2, ⟨⟨rv, ho, hv, hB⟩, hF⟩, st9⟩ | ⟨q, st₀, t, T', L9, E, ce, h0, X', hL, e1, e2, ⟨⟨ho, hB⟩, hF⟩, hce, hcv, hcl, st9⟩
  · cases hv
    obtain ⟨k1, k2, k3⟩ := vx_keep h0 e1 hS hA hf hL hF
    obtain ⟨hP1, -, hD1⟩ := hB
    obtain ⟨t2, a1, b1⟩ := kk v T'.heap (locs ++ L9) ho (by rw [e1]; exact hP1) (hD1.weaken (fun _ q _ h => hAA q.1 h)) k3 T' rfl X'
    exact ⟨t2, st9 t2 a1, b1⟩
  · obtain ⟨k1, k2, k3⟩ := vx_keep h0 e1 hS hA hf hL hF
    obtain ⟨hP1, -, hD1⟩ := hB
    obtain ⟨t2, a1, b1⟩ := kx E ce q T'.heap (locs ++ L9) ho (by rw [e1]; exact hP1) (hD1.weaken (fun _ q _ h => hAA q.1 h)) k3 (by rw [e1]; exact hce) hcv hcl T' rfl X'
    exact ⟨t2, st9.trans a1, b1⟩
theorem kr_xVok (C : kC K D cy A n cc own Ts ret) (CX : kCX K l A sa) {y : MethodName} {ws ws1 : List Cond} {rm : Room} {bytes : ByteArray} {maxL index k : Nat} {rt : Option FieldType} {As rest : List Value} {b ci : Nat} {fs : List Value} {Cn : String} {T : u_T} {N : Nat} (hM : kX l y ws rm D cy sa X (.ref b :: As) X2 (.inl rv) mc ms) (hG : GoodIn Ts (wsV own index Cn y ws)) (hw : ws = .code y bytes maxL rt :: ws1) (hrc : rm.cells = mc) (hrs : rm.slots = ms) (hd : y.cls = Cn ∧ y.cls ≠ "java/lang/invoke/MethodHandle" ∧ y.cls ≠ "java/lang/invoke/VarHandle" ∧ (parseMethodDescriptor y.desc).map (fun d => d.parameters.length) = some k) (hR : rm.frames + 1 ≤ R.frames ∧ 8 + (maxL + 11) + rm.locals ≤ R.locals) (hf : cells + mc ≤ R.cells ∧ slots + ms ≤ R.slots) (q0 : Nat) (he : X[q0]? = some (b, .inr (ci, fs))) (hc : vwCl[ci]? = some (Cn, T, N)) (hn : As.length = k) (hst : st = As.reverse ++ .ref b :: rest) (hcat : (rest.map fun v => v.category).sum ≤ 8) (d : decode cc pc = .ok (.invokevirtual index, 3))
    (kk : kG K l D A R n Q X2 (cells + mc) (slots + ms) (pc + 3) L (rv.toList ++ rest)) : kG K l D A R n Q X cells slots (pc) L (st) := by
  obtain ⟨p, e, s, m, args, below, meth, c⟩ := K
  obtain ⟨hx, hb, hml, hown, hts, hK, hA, hlk, hrt⟩ := C
  obtain ⟨hlt, hT⟩ := CX
  intro H locs ls hP hD hS h
  have hFc := kFree hD hS hA
  exact kr_runX (vx_runV (As := As) (rest := rest) ⟨hx, hb, hml, hown, hts⟩ (hM H.size) (cwV k hts hG hw hrc hrs hd hR) ⟨fun _ _ _ _ q => ⟨q.1, q.2.1.calling, q.2.2.calling⟩, va_recv hK hP hc he, fun U hU hW => ⟨rfl, ⟨by rw [hU], by rw [hU]; exact hP, va_K.moved hW.alike hK, hD.weaken (fun _ _ _ _ => trivial)⟩, hT.moved hS hU hW (fun q z => hFc q z)⟩⟩ rfl hn h.1 hst (lv_room hcat) d hf) hS (fun q _ z => hFc q z) hFc hFc (fun E ce q9 H1 locs1 ho => nomatch ho) (fun rv2 H1 locs1 ho hP1 hD1 hS1 => by cases ho; exact kk H1 locs1 ls hP1 hD1 hS1 h)
theorem kr_xVex {A : Nat → Prop} (C : kC K D cy A n cc own Ts ret) (CX : kCX K l A sa) (CN : kNoTab K) {E : String} {mc2 ms2 : Nat} {y : MethodName} {ws ws1 : List Cond} {rm : Room} {bytes : ByteArray} {maxL index k : Nat} {rt : Option FieldType} {As rest : List Value} {b ci : Nat} {fs : List Value} {Cn : String} {T : u_T} {N : Nat} (hM : kX l y ws rm D cy sa X (.ref b :: As) X2 (.inr E) mc ms) (hG : GoodIn Ts (wsV own index Cn y ws)) (hw : ws = .code y bytes maxL rt :: ws1) (hrc : rm.cells = mc) (hrs : rm.slots = ms) (hd : y.cls = Cn ∧ y.cls ≠ "java/lang/invoke/MethodHandle" ∧ y.cls ≠ "java/lang/invoke/VarHandle" ∧ (parseMethodDescriptor y.desc).map (fun d => d.parameters.length) = some k) (hR : rm.frames + 1 ≤ R.frames ∧ 8 + (maxL + 11) + rm.locals ≤ R.locals) (hf : cells + mc ≤ R.cells ∧ slots + ms ≤ R.slots) (q0 : Nat) (he : X[q0]? = some (b, .inr (ci, fs))) (hc : vwCl[ci]? = some (Cn, T, N)) (hn : As.length = k) (hst : st = As.reverse ++ .ref b :: rest) (hcat : (rest.map fun v => v.category).sum ≤ 8) (d : decode cc pc = .ok (.invokevirtual index, 3))
    (hcc : cells + mc ≤ mc2) (hss : slots + ms ≤ ms2) : kG K l D A R n (kEndX K D cy A X2 (.inr E) mc2 ms2) X cells slots (pc) L (st) := by
  obtain ⟨p, e, s, m, args, below, meth, c⟩ := K
  obtain ⟨hx, hb, hml, hown, hts, hK, hA, hlk, hrt⟩ := C
  obtain ⟨hlt, hT⟩ := CX
  intro H locs ls hP hD hS h
  have hFc := kFree hD hS hA
  exact kr_runX (vx_runV (As := As) (rest := rest) ⟨hx, hb, hml, hown, hts⟩ (hM H.size) (cwV k hts hG hw hrc hrs hd hR) ⟨fun _ _ _ _ q => ⟨q.1, q.2.1.calling, q.2.2.calling⟩, va_recv hK hP hc he, fun U hU hW => ⟨rfl, ⟨by rw [hU], by rw [hU]; exact hP, va_K.moved hW.alike hK, hD.weaken (fun _ _ _ _ => trivial)⟩, hT.moved hS hU hW (fun q z => hFc q z)⟩⟩ rfl hn h.1 hst (lv_room hcat) d hf) hS (fun q _ z => hFc q z) hFc hFc (fun E2 ce q9 H1 locs1 ho hP1 hD1 hS1 h1 h2 h3 => by cases ho; exact vx_out (fun x hx => (CN x hx).elim) hlk h1 h2 h3 (fun t ht hW => ⟨⟨rfl, by rw [ht]; exact hP1, va_K.moved hW hK, hD1⟩, hS1.F ht⟩) hS1.2.2 hcc hss) (fun rv2 H1 locs1 ho => nomatch ho)
theorem kr_xSok (C : kC K D cy A n cc own Ts ret) (CX : kCX K l A sa) {y : MethodName} {ws ws1 : List Cond} {rm : Room} {bytes : ByteArray} {maxL index k : Nat} {rt : Option FieldType} {As rest : List Value} (hM : kX l y ws rm D cy sa X As X2 (.inl rv) mc ms) (hG : GoodIn Ts (va_wsS own index y ws)) (hw : ws = .code y bytes maxL rt :: ws1) (hrc : rm.cells = mc) (hrs : rm.slots = ms) (hd : y.cls ≠ "java/lang/invoke/MethodHandle" ∧ y.cls ≠ "java/lang/invoke/VarHandle" ∧ (parseMethodDescriptor y.desc).map (fun d => d.parameters.length) = some k) (hR : rm.frames + 1 ≤ R.frames ∧ 8 + (maxL + 11) + rm.locals ≤ R.locals) (hf : cells + mc ≤ R.cells ∧ slots + ms ≤ R.slots) (hn : As.length = k) (hst : st = As.reverse ++ rest) (hcat : (rest.map fun v => v.category).sum ≤ 8) (d : decode cc pc = .ok (.invokestatic index, 3))
    (kk : kG K l D A R n Q X2 (cells + mc) (slots + ms) (pc + 3) L (rv.toList ++ rest)) : kG K l D A R n Q X cells slots (pc) L (st) := by
  obtain ⟨p, e, s, m, args, below, meth, c⟩ := K
  obtain ⟨hx, hb, hml, hown, hts, hK, hA, hlk, hrt⟩ := C
  obtain ⟨hlt, hT⟩ := CX
  intro H locs ls hP hD hS h
  have hFc := kFree hD hS hA
  exact kr_runX (vx_runS (As := As) (rest := rest) ⟨hx, hb, hml, hown, hts⟩ (hM H.size) (va_cwS k hts hG hw hrc hrs hd hR) ⟨fun _ _ _ _ q => ⟨q.1, q.2.1.calling, q.2.2.calling⟩, fun U hU hW => ⟨rfl, ⟨by rw [hU], by rw [hU]; exact hP, va_K.moved hW.alike hK, hD.weaken (fun _ _ _ _ => trivial)⟩, hT.moved hS hU hW (fun q z => hFc q z)⟩⟩ rfl hn h.1 hst (lv_room hcat) d hf) hS (fun q _ z => hFc q z) hFc hFc (fun E ce q9 H1 locs1 ho => nomatch ho) (fun rv2 H1 locs1 ho hP1 hD1 hS1 => by cases ho; exact kk H1 locs1 ls hP1 hD1 hS1 h)
theorem kr_xSex {A : Nat → Prop} (C : kC K D cy A n cc own Ts ret) (CX : kCX K l A sa) (CN : kNoTab K) {E : String} {mc2 ms2 : Nat} {y : MethodName} {ws ws1 : List Cond} {rm : Room} {bytes : ByteArray} {maxL index k : Nat} {rt : Option FieldType} {As rest : List Value} (hM : kX l y ws rm D cy sa X As X2 (.inr E) mc ms) (hG : GoodIn Ts (va_wsS own index y ws)) (hw : ws = .code y bytes maxL rt :: ws1) (hrc : rm.cells = mc) (hrs : rm.slots = ms) (hd : y.cls ≠ "java/lang/invoke/MethodHandle" ∧ y.cls ≠ "java/lang/invoke/VarHandle" ∧ (parseMethodDescriptor y.desc).map (fun d => d.parameters.length) = some k) (hR : rm.frames + 1 ≤ R.frames ∧ 8 + (maxL + 11) + rm.locals ≤ R.locals) (hf : cells + mc ≤ R.cells ∧ slots + ms ≤ R.slots) (hn : As.length = k) (hst : st = As.reverse ++ rest) (hcat : (rest.map fun v => v.category).sum ≤ 8) (d : decode cc pc = .ok (.invokestatic index, 3))
    (hcc : cells + mc ≤ mc2) (hss : slots + ms ≤ ms2) : kG K l D A R n (kEndX K D cy A X2 (.inr E) mc2 ms2) X cells slots (pc) L (st) := by
  obtain ⟨p, e, s, m, args, below, meth, c⟩ := K
  obtain ⟨hx, hb, hml, hown, hts, hK, hA, hlk, hrt⟩ := C
  obtain ⟨hlt, hT⟩ := CX
  intro H locs ls hP hD hS h
  have hFc := kFree hD hS hA
  exact kr_runX (vx_runS (As := As) (rest := rest) ⟨hx, hb, hml, hown, hts⟩ (hM H.size) (va_cwS k hts hG hw hrc hrs hd hR) ⟨fun _ _ _ _ q => ⟨q.1, q.2.1.calling, q.2.2.calling⟩, fun U hU hW => ⟨rfl, ⟨by rw [hU], by rw [hU]; exact hP, va_K.moved hW.alike hK, hD.weaken (fun _ _ _ _ => trivial)⟩, hT.moved hS hU hW (fun q z => hFc q z)⟩⟩ rfl hn h.1 hst (lv_room hcat) d hf) hS (fun q _ z => hFc q z) hFc hFc (fun E2 ce q9 H1 locs1 ho hP1 hD1 hS1 h1 h2 h3 => by cases ho; exact vx_out (fun x hx => (CN x hx).elim) hlk h1 h2 h3 (fun t ht hW => ⟨⟨rfl, by rw [ht]; exact hP1, va_K.moved hW hK, hD1⟩, hS1.F ht⟩) hS1.2.2 hcc hss) (fun rv2 H1 locs1 ho => nomatch ho)
theorem kr_throw {A : Nat → Prop} (C : kC K D cy A n cc RX2 Ts ret) (CX : kCX K l A sa) (CN : kNoTab K) {cls text : String} {ik is ic : Nat} (hcl : cls ∈ kExs) (hk : Cond.classLink RX2 ik cls ∈ Ts) (hini : Cond.initialized cls ∈ Ts) (hstr : (is, text) ∈ kStrs)
    (hat : ∀ w ∈ (vx_atS RX2 ic cls ["java/lang/RuntimeException", "java/lang/Exception"]).filter goodWord, w ∈ Ts) (hat2 : ∀ w ∈ (vx_atS RX2 ic cls ["java/lang/RuntimeException", "java/lang/Exception"]).filter (fun w => !goodWord w), w ∈ [Cond.castable cls cls, Cond.declares (Bundle.initS "java/lang/RuntimeException"), Cond.declares (Bundle.initS "java/lang/Exception"), Cond.declares (Bundle.initS Bundle.tN)]) (hgood : ∀ w ∈ Cond.classLink RX2 ik cls :: Cond.initialized cls :: vx_atS RX2 ic cls ["java/lang/RuntimeException", "java/lang/Exception"], vx_ot w = true) (hfit : Bundle.fit cls = true)
    (d0 : decode cc pc = .ok (.new ik, 3)) (d3 : decode cc (pc + 3) = .ok (.dup, 1)) (d4 : decode cc (pc + 4) = .ok (.ldc is, 2)) (d6 : decode cc (pc + 6) = .ok (.invokespecial ic, 3)) (d9 : decode cc (pc + 9) = .ok (.athrow, 1))
    (hRf : 5 < R.frames) (hRl : (st.map fun v => v.category).sum + 82 ≤ R.locals) (hRc : cells + 1 ≤ R.cells) (hRs : slots + 6 ≤ R.slots) (hcc : cells + 1 ≤ mc) (hss : slots + 6 ≤ ms) : kG K l D A R n (kEndX K D cy A X (.inr cls) mc ms) X cells slots (pc) L (st) := by
  obtain ⟨p, e, s, m, args, below, meth, c⟩ := K
  obtain ⟨hx, hb, hml, hown, hts, hK, hA, hlk, hrt⟩ := C
  obtain ⟨hlt, hU, hN, hsr, hca, hde, -⟩ := CX
  intro H locs ls hP hD hS h
  exact vx_throwS hx hb hlt hown hfit (by decide +kernel) (hts _ hk) (hts _ hini) (hsr _ hstr) (vx_hat (fun w hw => hts _ (hat w hw)) hat2 (vx_c (va_Nw.use rfl (hca _ hcl)) (vx_c (va_Nw.use rfl (hde _ (by simp))) (vx_c (va_Nw.use rfl (hde _ (by simp))) (vx_c (va_Nw.use rfl (hde _ (by simp))) vx_n))))) hgood hU hN hS (h.1.trans hml.symm) d0 d3 d4 d6 d9 (fun x hx => (CN x hx).elim) hRf hRl hRc hRs hlk
    (fun t hW hz hk => ⟨⟨rfl, hP.kept (fun k q hq => hk q.1 (hP k q hq).lt), va_K.moved hW hK, hD⟩, Nat.le_trans hS.1 hz, fun q h1 h2 => by rw [hk q (Nat.lt_of_lt_of_le h1 hS.1)]; exact hS.2.1 q h1 h2⟩) hS.2.2 hcc hss
theorem kr_throwN {A : Nat → Prop} (C : kC K D cy A n cc RX2 Ts ret) (CX : kCX K l A sa) (CN : kNoTab K) {text : String} {ik is : Nat} (hk : Cond.classLink RX2 ik nseE ∈ Ts) (hini : Cond.initialized nseE ∈ Ts) (hstr : (is, text) ∈ kStrs)
    (hat : ∀ w ∈ nseAt.filter goodWord, w ∈ Ts) (hat2 : ∀ w ∈ nseAt.filter (fun w => !goodWord w), w ∈ [Cond.castable nseE nseE, Cond.declares (Bundle.initS "java/lang/RuntimeException"), Cond.declares (Bundle.initS "java/lang/Exception"), Cond.declares (Bundle.initS Bundle.tN)]) (hgood : ∀ w ∈ Cond.classLink RX2 ik nseE :: Cond.initialized nseE :: nseAt, vx_ot w = true)
    (d0 : decode cc pc = .ok (.new ik, 3)) (d3 : decode cc (pc + 3) = .ok (.dup, 1)) (d4 : decode cc (pc + 4) = .ok (.ldc is, 2)) (d6 : decode cc (pc + 6) = .ok (.invokespecial 119, 3)) (d9 : decode cc (pc + 9) = .ok (.athrow, 1))
    (hRf : 5 < R.frames) (hRl : (st.map fun v => v.category).sum + 82 ≤ R.locals) (hRc : cells + 1 ≤ R.cells) (hRs : slots + 6 ≤ R.slots) (hcc : cells + 1 ≤ mc) (hss : slots + 6 ≤ ms) : kG K l D A R n (kEndX K D cy A X (.inr nseE) mc ms) X cells slots (pc) L (st) := by
  obtain ⟨p, e, s, m, args, below, meth, c⟩ := K
  obtain ⟨hx, hb, hml, hown, hts, hK, hA, hlk, hrt⟩ := C
  obtain ⟨hlt, hU, hN, hsr, hca, hde, -⟩ := CX
  intro H locs ls hP hD hS h
  exact nse_throw hx hb hlt hown (hts _ hk) (hts _ hini) (hsr _ hstr) (vx_hat (fun w hw => hts _ (hat w hw)) hat2 (vx_c (va_Nw.use rfl (hca _ (show nseE ∈ kExs by decide))) (vx_c (va_Nw.use rfl (hde _ (by simp))) (vx_c (va_Nw.use rfl (hde _ (by simp))) (vx_c (va_Nw.use rfl (hde _ (by simp))) vx_n))))) hgood hU hN hS (h.1.trans hml.symm) d0 d3 d4 d6 d9 (fun x hx => (CN x hx).elim) hRf hRl hRc hRs hlk
    (fun t hW hz hk => ⟨⟨rfl, hP.kept (fun k q hq => hk q.1 (hP k q hq).lt), va_K.moved hW hK, hD⟩, Nat.le_trans hS.1 hz, fun q h1 h2 => by rw [hk q (Nat.lt_of_lt_of_le h1 hS.1)]; exact hS.2.1 q h1 h2⟩) hS.2.2 hcc hss
theorem kr_ldcw (C : kC K D cy A n cc own Ts ret) {index : Nat} {v : Int32} (hl : Cond.constant own index v ∈ Ts) (d : decode cc pc = .ok (.ldc_w index, 3)) (kk : kG K l D A R n Q X cells slots (pc + 3) L (.int v :: st)) : kG K l D A R n Q X cells slots (pc) L (st) := by
  obtain ⟨p, e, s, m, args, below, meth, c⟩ := K
  obtain ⟨hx, hb, hml, hown, hts, hK, hA, hlk, hrt⟩ := C
  intro H locs ls hP hD hS h
  exact lv_ldcw hx hb hown (hts _ hl) d (kk H locs ls hP hD hS h)
theorem kr_sub (ks : List Nat) (hl : lv_pick L ks = L2) (kk : kG K l D A R n Q X cells slots (pc) L2 (st)) : kG K l D A R n Q X cells slots (pc) L (st) := by
  obtain ⟨p, e, s, m, args, below, meth, c⟩ := K
  intro H locs ls hP hD hS h
  exact kk H locs ls hP hD hS (lv_sub h ks hl)
theorem kr_rw {x y : Int32} (e9 : x = y) (kk : kG K l D A R n Q X cells slots (pc) L (.int y :: st)) : kG K l D A R n Q X cells slots (pc) L (.int x :: st) := e9 ▸ kk
theorem kr_callV1 (C : kC K D cy A n cc own Ts ret) {y : MethodName} {ws ws1 : List Cond} {rm : Room} {bytes : ByteArray} {maxL index k : Nat} {rt : Option FieldType} {v : Value} {As rest : List Value} {b ci : Nat} {fs : List Value} {Cn : String} {T : u_T} {N : Nat} (hM : kM l y ws rm D cy X (.ref b :: As) X2 (some v) mc ms) (hG : GoodIn Ts (wsV own index Cn y ws)) (hw : ws = .code y bytes maxL rt :: ws1) (hrc : rm.cells = mc) (hrs : rm.slots = ms) (hd : y.cls = Cn ∧ y.cls ≠ "java/lang/invoke/MethodHandle" ∧ y.cls ≠ "java/lang/invoke/VarHandle" ∧ (parseMethodDescriptor y.desc).map (fun d => d.parameters.length) = some k) (hR : rm.frames + 1 ≤ R.frames ∧ 8 + (maxL + 11) + rm.locals ≤ R.locals) (hf : cells + mc ≤ R.cells ∧ slots + ms ≤ R.slots) (q0 : Nat) (he : X[q0]? = some (b, .inr (ci, fs))) (hc : vwCl[ci]? = some (Cn, T, N)) (hn : As.length = k) (hst : st = As.reverse ++ .ref b :: rest) (hcat : (rest.map fun v => v.category).sum ≤ 8) (d : decode cc pc = .ok (.invokevirtual index, 3))
    (kk : kG K l D A R n Q X2 (cells + mc) (slots + ms) (pc + 3) L (v :: rest)) : kG K l D A R n Q X cells slots (pc) L (st) := kr_callV C hM hG hw hrc hrs hd hR hf q0 he hc hn hst hcat d kk
theorem kr_xV1 (C : kC K D cy A n cc own Ts ret) (CX : kCX K l A sa) {y : MethodName} {ws ws1 : List Cond} {rm : Room} {bytes : ByteArray} {maxL index k : Nat} {rt : Option FieldType} {v : Value} {As rest : List Value} {b ci : Nat} {fs : List Value} {Cn : String} {T : u_T} {N : Nat} (hM : kX l y ws rm D cy sa X (.ref b :: As) X2 (.inl (some v)) mc ms) (hG : GoodIn Ts (wsV own index Cn y ws)) (hw : ws = .code y bytes maxL rt :: ws1) (hrc : rm.cells = mc) (hrs : rm.slots = ms) (hd : y.cls = Cn ∧ y.cls ≠ "java/lang/invoke/MethodHandle" ∧ y.cls ≠ "java/lang/invoke/VarHandle" ∧ (parseMethodDescriptor y.desc).map (fun d => d.parameters.length) = some k) (hR : rm.frames + 1 ≤ R.frames ∧ 8 + (maxL + 11) + rm.locals ≤ R.locals) (hf : cells + mc ≤ R.cells ∧ slots + ms ≤ R.slots) (q0 : Nat) (he : X[q0]? = some (b, .inr (ci, fs))) (hc : vwCl[ci]? = some (Cn, T, N)) (hn : As.length = k) (hst : st = As.reverse ++ .ref b :: rest) (hcat : (rest.map fun v => v.category).sum ≤ 8) (d : decode cc pc = .ok (.invokevirtual index, 3))
    (kk : kG K l D A R n Q X2 (cells + mc) (slots + ms) (pc + 3) L (v :: rest)) : kG K l D A R n Q X cells slots (pc) L (st) := kr_xVok C CX hM hG hw hrc hrs hd hR hf q0 he hc hn hst hcat d kk
theorem kr_callV0 (C : kC K D cy A n cc own Ts ret) {y : MethodName} {ws ws1 : List Cond} {rm : Room} {bytes : ByteArray} {maxL index k : Nat} {rt : Option FieldType}  {As rest : List Value} {b ci : Nat} {fs : List Value} {Cn : String} {T : u_T} {N : Nat} (hM : kM l y ws rm D cy X (.ref b :: As) X2 none mc ms) (hG : GoodIn Ts (wsV own index Cn y ws)) (hw : ws = .code y bytes maxL rt :: ws1) (hrc : rm.cells = mc) (hrs : rm.slots = ms) (hd : y.cls = Cn ∧ y.cls ≠ "java/lang/invoke/MethodHandle" ∧ y.cls ≠ "java/lang/invoke/VarHandle" ∧ (parseMethodDescriptor y.desc).map (fun d => d.parameters.length) = some k) (hR : rm.frames + 1 ≤ R.frames ∧ 8 + (maxL + 11) + rm.locals ≤ R.locals) (hf : cells + mc ≤ R.cells ∧ slots + ms ≤ R.slots) (q0 : Nat) (he : X[q0]? = some (b, .inr (ci, fs))) (hc : vwCl[ci]? = some (Cn, T, N)) (hn : As.length = k) (hst : st = As.reverse ++ .ref b :: rest) (hcat : (rest.map fun v => v.category).sum ≤ 8) (d : decode cc pc = .ok (.invokevirtual index, 3))
    (kk : kG K l D A R n Q X2 (cells + mc) (slots + ms) (pc + 3) L (rest)) : kG K l D A R n Q X cells slots (pc) L (st) := kr_callV C hM hG hw hrc hrs hd hR hf q0 he hc hn hst hcat d kk
theorem kr_xV0 (C : kC K D cy A n cc own Ts ret) (CX : kCX K l A sa) {y : MethodName} {ws ws1 : List Cond} {rm : Room} {bytes : ByteArray} {maxL index k : Nat} {rt : Option FieldType}  {As rest : List Value} {b ci : Nat} {fs : List Value} {Cn : String} {T : u_T} {N : Nat} (hM : kX l y ws rm D cy sa X (.ref b :: As) X2 (.inl none) mc ms) (hG : GoodIn Ts (wsV own index Cn y ws)) (hw : ws = .code y bytes maxL rt :: ws1) (hrc : rm.cells = mc) (hrs : rm.slots = ms) (hd : y.cls = Cn ∧ y.cls ≠ "java/lang/invoke/MethodHandle" ∧ y.cls ≠ "java/lang/invoke/VarHandle" ∧ (parseMethodDescriptor y.desc).map (fun d => d.parameters.length) = some k) (hR : rm.frames + 1 ≤ R.frames ∧ 8 + (maxL + 11) + rm.locals ≤ R.locals) (hf : cells + mc ≤ R.cells ∧ slots + ms ≤ R.slots) (q0 : Nat) (he : X[q0]? = some (b, .inr (ci, fs))) (hc : vwCl[ci]? = some (Cn, T, N)) (hn : As.length = k) (hst : st = As.reverse ++ .ref b :: rest) (hcat : (rest.map fun v => v.category).sum ≤ 8) (d : decode cc pc = .ok (.invokevirtual index, 3))
    (kk : kG K l D A R n Q X2 (cells + mc) (slots + ms) (pc + 3) L (rest)) : kG K l D A R n Q X cells slots (pc) L (st) := kr_xVok C CX hM hG hw hrc hrs hd hR hf q0 he hc hn hst hcat d kk
theorem kr_callS1 (C : kC K D cy A n cc own Ts ret) {y : MethodName} {ws ws1 : List Cond} {rm : Room} {bytes : ByteArray} {maxL index k : Nat} {rt : Option FieldType} {v : Value} {As rest : List Value} (hM : kM l y ws rm D cy X As X2 (some v) mc ms) (hG : GoodIn Ts (va_wsS own index y ws)) (hw : ws = .code y bytes maxL rt :: ws1) (hrc : rm.cells = mc) (hrs : rm.slots = ms) (hd : y.cls ≠ "java/lang/invoke/MethodHandle" ∧ y.cls ≠ "java/lang/invoke/VarHandle" ∧ (parseMethodDescriptor y.desc).map (fun d => d.parameters.length) = some k) (hR : rm.frames + 1 ≤ R.frames ∧ 8 + (maxL + 11) + rm.locals ≤ R.locals) (hf : cells + mc ≤ R.cells ∧ slots + ms ≤ R.slots) (hn : As.length = k) (hst : st = As.reverse ++ rest) (hcat : (rest.map fun v => v.category).sum ≤ 8) (d : decode cc pc = .ok (.invokestatic index, 3))
    (kk : kG K l D A R n Q X2 (cells + mc) (slots + ms) (pc + 3) L (v :: rest)) : kG K l D A R n Q X cells slots (pc) L (st) := kr_callS C hM hG hw hrc hrs hd hR hf hn hst hcat d kk
theorem kr_xS1 (C : kC K D cy A n cc own Ts ret) (CX : kCX K l A sa) {y : MethodName} {ws ws1 : List Cond} {rm : Room} {bytes : ByteArray} {maxL index k : Nat} {rt : Option FieldType} {v : Value} {As rest : List Value} (hM : kX l y ws rm D cy sa X As X2 (.inl (some v)) mc ms) (hG : GoodIn Ts (va_wsS own index y ws)) (hw : ws = .code y bytes maxL rt :: ws1) (hrc : rm.cells = mc) (hrs : rm.slots = ms) (hd : y.cls ≠ "java/lang/invoke/MethodHandle" ∧ y.cls ≠ "java/lang/invoke/VarHandle" ∧ (parseMethodDescriptor y.desc).map (fun d => d.parameters.length) = some k) (hR : rm.frames + 1 ≤ R.frames ∧ 8 + (maxL + 11) + rm.locals ≤ R.locals) (hf : cells + mc ≤ R.cells ∧ slots + ms ≤ R.slots) (hn : As.length = k) (hst : st = As.reverse ++ rest) (hcat : (rest.map fun v => v.category).sum ≤ 8) (d : decode cc pc = .ok (.invokestatic index, 3))
    (kk : kG K l D A R n Q X2 (cells + mc) (slots + ms) (pc + 3) L (v :: rest)) : kG K l D A R n Q X cells slots (pc) L (st) := kr_xSok C CX hM hG hw hrc hrs hd hR hf hn hst hcat d kk
theorem kr_callS0 (C : kC K D cy A n cc own Ts ret) {y : MethodName} {ws ws1 : List Cond} {rm : Room} {bytes : ByteArray} {maxL index k : Nat} {rt : Option FieldType}  {As rest : List Value} (hM : kM l y ws rm D cy X As X2 none mc ms) (hG : GoodIn Ts (va_wsS own index y ws)) (hw : ws = .code y bytes maxL rt :: ws1) (hrc : rm.cells = mc) (hrs : rm.slots = ms) (hd : y.cls ≠ "java/lang/invoke/MethodHandle" ∧ y.cls ≠ "java/lang/invoke/VarHandle" ∧ (parseMethodDescriptor y.desc).map (fun d => d.parameters.length) = some k) (hR : rm.frames + 1 ≤ R.frames ∧ 8 + (maxL + 11) + rm.locals ≤ R.locals) (hf : cells + mc ≤ R.cells ∧ slots + ms ≤ R.slots) (hn : As.length = k) (hst : st = As.reverse ++ rest) (hcat : (rest.map fun v => v.category).sum ≤ 8) (d : decode cc pc = .ok (.invokestatic index, 3))
    (kk : kG K l D A R n Q X2 (cells + mc) (slots + ms) (pc + 3) L (rest)) : kG K l D A R n Q X cells slots (pc) L (st) := kr_callS C hM hG hw hrc hrs hd hR hf hn hst hcat d kk
theorem kr_xS0 (C : kC K D cy A n cc own Ts ret) (CX : kCX K l A sa) {y : MethodName} {ws ws1 : List Cond} {rm : Room} {bytes : ByteArray} {maxL index k : Nat} {rt : Option FieldType}  {As rest : List Value} (hM : kX l y ws rm D cy sa X As X2 (.inl none) mc ms) (hG : GoodIn Ts (va_wsS own index y ws)) (hw : ws = .code y bytes maxL rt :: ws1) (hrc : rm.cells = mc) (hrs : rm.slots = ms) (hd : y.cls ≠ "java/lang/invoke/MethodHandle" ∧ y.cls ≠ "java/lang/invoke/VarHandle" ∧ (parseMethodDescriptor y.desc).map (fun d => d.parameters.length) = some k) (hR : rm.frames + 1 ≤ R.frames ∧ 8 + (maxL + 11) + rm.locals ≤ R.locals) (hf : cells + mc ≤ R.cells ∧ slots + ms ≤ R.slots) (hn : As.length = k) (hst : st = As.reverse ++ rest) (hcat : (rest.map fun v => v.category).sum ≤ 8) (d : decode cc pc = .ok (.invokestatic index, 3))
    (kk : kG K l D A R n Q X2 (cells + mc) (slots + ms) (pc + 3) L (rest)) : kG K l D A R n Q X cells slots (pc) L (st) := kr_xSok C CX hM hG hw hrc hrs hd hR hf hn hst hcat d kk
end KR
theorem kob {α β : Type} {o : Option α} {k : α → Option β} {r : β} (h : o.bind k = some r) : ∃ v, o = some v ∧ k v = some r := by
  cases o with
  | none => cases h
  | some v => exact ⟨v, rfl, h⟩
theorem kif {α : Type} {b : Bool} {x : Option α} {r : α} (h : (if b = true then x else none) = some r) : b = true ∧ x = some r := by
  cases b with
  | false => cases h
  | true => exact ⟨rfl, h⟩
theorem kxb_some {α β : Type} {o : Option (α ⊕ String)} {z : String → Option β} {k : α → Option β} {r : β} (h : kxb o z k = some r) : (∃ E, o = some (.inr E) ∧ z E = some r) ∨ ∃ v, o = some (.inl v) ∧ k v = some r := by
  match o, h with
  | some (.inl v), h => exact Or.inr ⟨v, rfl, h⟩
  | some (.inr E), h => exact Or.inl ⟨E, rfl, h⟩
theorem kin_in {i : Int32} {N : Nat} (h : kin i N = true) : vp_in i N := by
  simp only [kin, Bool.and_eq_true, decide_eq_true_eq] at h
  exact vp_in_iff.mpr h
theorem kn32_of {x : UInt32} (h : kn32 x = true) : vf_n32 x := by unfold vf_n32; exact of_decide_eq_true h
theorem kn64_of {x : UInt64} (h : kn64 x = true) : vf_n64 x := by unfold vf_n64; exact of_decide_eq_true h
theorem nar_b (b : Bool) : narrow .boolean (.int (b2i b)) = .int (b2i b) := by cases b <;> rfl
theorem kbool_eq {x : Int32} {b : Bool} (h : kbool x = some b) : x = b2i b := by
  unfold kbool at h
  by_cases h0 : x = 0
  · rw [if_pos h0] at h; cases h; exact h0
  · rw [if_neg h0] at h
    by_cases h1 : x = 1
    · rw [if_pos h1] at h; cases h; exact h1
    · rw [if_neg h1] at h; cases h
def kOI : Int32 ⊕ String → Option Value ⊕ String | .inl v => .inl (some (.int v)) | .inr E => .inr E
def kOZ : Bool ⊕ String → Option Value ⊕ String | .inl v => .inl (some (.int (b2i v))) | .inr E => .inr E
def kOV : Unit ⊕ String → Option Value ⊕ String | .inl _ => .inl none | .inr E => .inr E
def kOF : UInt32 ⊕ String → Option Value ⊕ String | .inl v => .inl (some (.float v)) | .inr E => .inr E
def kOD : UInt64 ⊕ String → Option Value ⊕ String | .inl v => .inl (some (.double v)) | .inr E => .inr E
/-- the system's cells: the numbers S.1 0 .. 7, the rows S.2 8 .. 15, at the addresses a -/
def xf (a : Nat → Nat) (S : kSt) : List Value := [.int (S.1 0), .int (S.1 1), .int (S.1 2), .int (S.1 3), .int (S.1 4), .int (S.1 5), .int (S.1 6), .int (S.1 7), .ref (a 8), .ref (a 9), .ref (a 10), .ref (a 11), .ref (a 12), .ref (a 13), .ref (a 14), .ref (a 15)]
def xw (a : Nat → Nat) (cy : Nat → ClassId) (S : kSt) (Z : va_W) : va_W := (a 0, .inr (4, xf a S)) :: [(a 8, .inr (3, [.ref (a 16), .int (-1)])), (a 9, .inr (3, [.ref (a 17), .int (-1)])), (a 10, .inr (3, [.ref (a 18), .int (-1)])), (a 11, .inr (3, [.ref (a 19), .int (-1)])), (a 12, .inr (2, [.ref (a 20), .int 10])), (a 13, .inr (2, [.ref (a 21), .int 6])), (a 14, .inr (2, [.ref (a 22), .int 10])), (a 15, .inr (2, [.ref (a 23), .int 6])), (a 16, .inl (cy 0, 10, .inl (S.2 8))), (a 17, .inl (cy 0, 12, .inl (S.2 9))), (a 18, .inl (cy 0, 12, .inl (S.2 10))), (a 19, .inl (cy 0, 4, .inl (S.2 11))), (a 20, .inl (cy 0, 60, .inl (S.2 12))), (a 21, .inl (cy 0, 36, .inl (S.2 13))), (a 22, .inl (cy 0, 120, .inl (S.2 14))), (a 23, .inl (cy 0, 72, .inl (S.2 15)))] ++ Z
theorem xp0 (a : Nat → Nat) (cy : Nat → ClassId) (S : kSt) (Z : va_W) (v : Int32) : (xw a cy S Z).set 0 (a 0, .inr (4, (xf a S).set 0 (.int v))) = xw a cy (va_up S.1 0 v, S.2) Z := rfl
theorem xp1 (a : Nat → Nat) (cy : Nat → ClassId) (S : kSt) (Z : va_W) (v : Int32) : (xw a cy S Z).set 0 (a 0, .inr (4, (xf a S).set 1 (.int v))) = xw a cy (va_up S.1 1 v, S.2) Z := rfl
theorem xp2 (a : Nat → Nat) (cy : Nat → ClassId) (S : kSt) (Z : va_W) (v : Int32) : (xw a cy S Z).set 0 (a 0, .inr (4, (xf a S).set 2 (.int v))) = xw a cy (va_up S.1 2 v, S.2) Z := rfl
theorem xp3 (a : Nat → Nat) (cy : Nat → ClassId) (S : kSt) (Z : va_W) (v : Int32) : (xw a cy S Z).set 0 (a 0, .inr (4, (xf a S).set 3 (.int v))) = xw a cy (va_up S.1 3 v, S.2) Z := rfl
theorem xp4 (a : Nat → Nat) (cy : Nat → ClassId) (S : kSt) (Z : va_W) (v : Int32) : (xw a cy S Z).set 0 (a 0, .inr (4, (xf a S).set 4 (.int v))) = xw a cy (va_up S.1 4 v, S.2) Z := rfl
theorem xp5 (a : Nat → Nat) (cy : Nat → ClassId) (S : kSt) (Z : va_W) (v : Int32) : (xw a cy S Z).set 0 (a 0, .inr (4, (xf a S).set 5 (.int v))) = xw a cy (va_up S.1 5 v, S.2) Z := rfl
theorem xp6 (a : Nat → Nat) (cy : Nat → ClassId) (S : kSt) (Z : va_W) (v : Int32) : (xw a cy S Z).set 0 (a 0, .inr (4, (xf a S).set 6 (.int v))) = xw a cy (va_up S.1 6 v, S.2) Z := rfl
theorem xp7 (a : Nat → Nat) (cy : Nat → ClassId) (S : kSt) (Z : va_W) (v : Int32) : (xw a cy S Z).set 0 (a 0, .inr (4, (xf a S).set 7 (.int v))) = xw a cy (va_up S.1 7 v, S.2) Z := rfl
/-- the reference's cells -/
def yf (a : Nat → Nat) (S : kSt) : List Value := [.int (S.1 0), .ref (a 1), .ref (a 2), .int (S.1 3), .ref (a 4), .ref (a 5), .ref (a 6), .int (S.1 7), .ref (a 8), .ref (a 9), .ref (a 10), .ref (a 11), .ref (a 12), .ref (a 13), .int (S.1 14), .ref (a 15), .ref (a 16), .int (S.1 17), .int (S.1 18)]
def yw (a : Nat → Nat) (cy : Nat → ClassId) (S : kSt) (Z : va_W) : va_W := (a 0, .inr (5, yf a S)) :: [(a 1, .inl (cy 1, 10, .inl (S.2 1))), (a 2, .inl (cy 0, 10, .inl (S.2 2))), (a 4, .inl (cy 0, 60, .inl (S.2 4))), (a 5, .inl (cy 0, 36, .inl (S.2 5))), (a 6, .inl (cy 1, 6, .inl (S.2 6))), (a 8, .inl (cy 0, 12, .inl (S.2 8))), (a 9, .inl (cy 0, 12, .inl (S.2 9))), (a 10, .inl (cy 1, 12, .inl (S.2 10))), (a 11, .inl (cy 1, 12, .inl (S.2 11))), (a 12, .inl (cy 0, 120, .inl (S.2 12))), (a 13, .inl (cy 0, 72, .inl (S.2 13))), (a 15, .inl (cy 0, 4, .inl (S.2 15))), (a 16, .inl (cy 1, 10, .inl (S.2 16)))] ++ Z
theorem yp0 (a : Nat → Nat) (cy : Nat → ClassId) (S : kSt) (Z : va_W) (v : Int32) : (yw a cy S Z).set 0 (a 0, .inr (5, (yf a S).set 0 (.int v))) = yw a cy (va_up S.1 0 v, S.2) Z := rfl
theorem yp3 (a : Nat → Nat) (cy : Nat → ClassId) (S : kSt) (Z : va_W) (v : Int32) : (yw a cy S Z).set 0 (a 0, .inr (5, (yf a S).set 3 (.int v))) = yw a cy (va_up S.1 3 v, S.2) Z := rfl
theorem yp7 (a : Nat → Nat) (cy : Nat → ClassId) (S : kSt) (Z : va_W) (v : Int32) : (yw a cy S Z).set 0 (a 0, .inr (5, (yf a S).set 7 (.int v))) = yw a cy (va_up S.1 7 v, S.2) Z := rfl
theorem yp14 (a : Nat → Nat) (cy : Nat → ClassId) (S : kSt) (Z : va_W) (v : Int32) : (yw a cy S Z).set 0 (a 0, .inr (5, (yf a S).set 14 (.int v))) = yw a cy (va_up S.1 14 v, S.2) Z := rfl
theorem yp17 (a : Nat → Nat) (cy : Nat → ClassId) (S : kSt) (Z : va_W) (v : Int32) : (yw a cy S Z).set 0 (a 0, .inr (5, (yf a S).set 17 (.int v))) = yw a cy (va_up S.1 17 v, S.2) Z := rfl
theorem yp18 (a : Nat → Nat) (cy : Nat → ClassId) (S : kSt) (Z : va_W) (v : Int32) : (yw a cy S Z).set 0 (a 0, .inr (5, (yf a S).set 18 (.int v))) = yw a cy (va_up S.1 18 v, S.2) Z := rfl
theorem yq1 (a : Nat → Nat) (cy : Nat → ClassId) (S : kSt) (Z : va_W) (f : Nat → Int32) : (yw a cy S Z).set 1 (a 1, .inl (cy 1, 10, .inl f)) = yw a cy (S.1, va_up S.2 1 f) Z := rfl
theorem yq2 (a : Nat → Nat) (cy : Nat → ClassId) (S : kSt) (Z : va_W) (f : Nat → Int32) : (yw a cy S Z).set 2 (a 2, .inl (cy 0, 10, .inl f)) = yw a cy (S.1, va_up S.2 2 f) Z := rfl
theorem yq4 (a : Nat → Nat) (cy : Nat → ClassId) (S : kSt) (Z : va_W) (f : Nat → Int32) : (yw a cy S Z).set 3 (a 4, .inl (cy 0, 60, .inl f)) = yw a cy (S.1, va_up S.2 4 f) Z := rfl
theorem yq5 (a : Nat → Nat) (cy : Nat → ClassId) (S : kSt) (Z : va_W) (f : Nat → Int32) : (yw a cy S Z).set 4 (a 5, .inl (cy 0, 36, .inl f)) = yw a cy (S.1, va_up S.2 5 f) Z := rfl
theorem yq6 (a : Nat → Nat) (cy : Nat → ClassId) (S : kSt) (Z : va_W) (f : Nat → Int32) : (yw a cy S Z).set 5 (a 6, .inl (cy 1, 6, .inl f)) = yw a cy (S.1, va_up S.2 6 f) Z := rfl
theorem yq8 (a : Nat → Nat) (cy : Nat → ClassId) (S : kSt) (Z : va_W) (f : Nat → Int32) : (yw a cy S Z).set 6 (a 8, .inl (cy 0, 12, .inl f)) = yw a cy (S.1, va_up S.2 8 f) Z := rfl
theorem yq9 (a : Nat → Nat) (cy : Nat → ClassId) (S : kSt) (Z : va_W) (f : Nat → Int32) : (yw a cy S Z).set 7 (a 9, .inl (cy 0, 12, .inl f)) = yw a cy (S.1, va_up S.2 9 f) Z := rfl
theorem yq10 (a : Nat → Nat) (cy : Nat → ClassId) (S : kSt) (Z : va_W) (f : Nat → Int32) : (yw a cy S Z).set 8 (a 10, .inl (cy 1, 12, .inl f)) = yw a cy (S.1, va_up S.2 10 f) Z := rfl
theorem yq11 (a : Nat → Nat) (cy : Nat → ClassId) (S : kSt) (Z : va_W) (f : Nat → Int32) : (yw a cy S Z).set 9 (a 11, .inl (cy 1, 12, .inl f)) = yw a cy (S.1, va_up S.2 11 f) Z := rfl
theorem yq12 (a : Nat → Nat) (cy : Nat → ClassId) (S : kSt) (Z : va_W) (f : Nat → Int32) : (yw a cy S Z).set 10 (a 12, .inl (cy 0, 120, .inl f)) = yw a cy (S.1, va_up S.2 12 f) Z := rfl
theorem yq13 (a : Nat → Nat) (cy : Nat → ClassId) (S : kSt) (Z : va_W) (f : Nat → Int32) : (yw a cy S Z).set 11 (a 13, .inl (cy 0, 72, .inl f)) = yw a cy (S.1, va_up S.2 13 f) Z := rfl
theorem yq15 (a : Nat → Nat) (cy : Nat → ClassId) (S : kSt) (Z : va_W) (f : Nat → Int32) : (yw a cy S Z).set 12 (a 15, .inl (cy 0, 4, .inl f)) = yw a cy (S.1, va_up S.2 15 f) Z := rfl
theorem yq16 (a : Nat → Nat) (cy : Nat → ClassId) (S : kSt) (Z : va_W) (f : Nat → Int32) : (yw a cy S Z).set 13 (a 16, .inl (cy 1, 10, .inl f)) = yw a cy (S.1, va_up S.2 16 f) Z := rfl
theorem ax_54 : ∀ w ∈ (vx_atS RX2 54 "java/lang/IllegalStateException" ["java/lang/RuntimeException", "java/lang/Exception"]).filter (fun w => !goodWord w), w ∈ [Cond.castable "java/lang/IllegalStateException" "java/lang/IllegalStateException", Cond.declares (Bundle.initS "java/lang/RuntimeException"), Cond.declares (Bundle.initS "java/lang/Exception"), Cond.declares (Bundle.initS Bundle.tN)] := by decide +kernel
theorem ay_54_50 : ∀ w ∈ Cond.classLink RX2 50 "java/lang/IllegalStateException" :: Cond.initialized "java/lang/IllegalStateException" :: vx_atS RX2 54 "java/lang/IllegalStateException" ["java/lang/RuntimeException", "java/lang/Exception"], vx_ot w = true := by decide +kernel
theorem ax_69 : ∀ w ∈ (vx_atS RX2 69 "java/lang/IllegalArgumentException" ["java/lang/RuntimeException", "java/lang/Exception"]).filter (fun w => !goodWord w), w ∈ [Cond.castable "java/lang/IllegalArgumentException" "java/lang/IllegalArgumentException", Cond.declares (Bundle.initS "java/lang/RuntimeException"), Cond.declares (Bundle.initS "java/lang/Exception"), Cond.declares (Bundle.initS Bundle.tN)] := by decide +kernel
theorem ay_69_65 : ∀ w ∈ Cond.classLink RX2 65 "java/lang/IllegalArgumentException" :: Cond.initialized "java/lang/IllegalArgumentException" :: vx_atS RX2 69 "java/lang/IllegalArgumentException" ["java/lang/RuntimeException", "java/lang/Exception"], vx_ot w = true := by decide +kernel
theorem ax_96 : ∀ w ∈ (vx_atS RX2 96 "java/lang/UnsupportedOperationException" ["java/lang/RuntimeException", "java/lang/Exception"]).filter (fun w => !goodWord w), w ∈ [Cond.castable "java/lang/UnsupportedOperationException" "java/lang/UnsupportedOperationException", Cond.declares (Bundle.initS "java/lang/RuntimeException"), Cond.declares (Bundle.initS "java/lang/Exception"), Cond.declares (Bundle.initS Bundle.tN)] := by decide +kernel
theorem ay_96_92 : ∀ w ∈ Cond.classLink RX2 92 "java/lang/UnsupportedOperationException" :: Cond.initialized "java/lang/UnsupportedOperationException" :: vx_atS RX2 96 "java/lang/UnsupportedOperationException" ["java/lang/RuntimeException", "java/lang/Exception"], vx_ot w = true := by decide +kernel
theorem ax_119 : ∀ w ∈ nseAt.filter (fun w => !goodWord w), w ∈ [Cond.castable "java/util/NoSuchElementException" "java/util/NoSuchElementException", Cond.declares (Bundle.initS "java/lang/RuntimeException"), Cond.declares (Bundle.initS "java/lang/Exception"), Cond.declares (Bundle.initS Bundle.tN)] := by decide +kernel
theorem ay_119_115 : ∀ w ∈ Cond.classLink RX2 115 "java/util/NoSuchElementException" :: Cond.initialized "java/util/NoSuchElementException" :: nseAt, vx_ot w = true := by decide +kernel
theorem ax_197 : ∀ w ∈ (vx_atS RX2 197 "java/lang/ArithmeticException" ["java/lang/RuntimeException", "java/lang/Exception"]).filter (fun w => !goodWord w), w ∈ [Cond.castable "java/lang/ArithmeticException" "java/lang/ArithmeticException", Cond.declares (Bundle.initS "java/lang/RuntimeException"), Cond.declares (Bundle.initS "java/lang/Exception"), Cond.declares (Bundle.initS Bundle.tN)] := by decide +kernel
theorem ay_197_193 : ∀ w ∈ Cond.classLink RX2 193 "java/lang/ArithmeticException" :: Cond.initialized "java/lang/ArithmeticException" :: vx_atS RX2 197 "java/lang/ArithmeticException" ["java/lang/RuntimeException", "java/lang/Exception"], vx_ot w = true := by decide +kernel
theorem ax_208 : ∀ w ∈ (vx_atS RX2 208 "java/lang/IndexOutOfBoundsException" ["java/lang/RuntimeException", "java/lang/Exception"]).filter (fun w => !goodWord w), w ∈ [Cond.castable "java/lang/IndexOutOfBoundsException" "java/lang/IndexOutOfBoundsException", Cond.declares (Bundle.initS "java/lang/RuntimeException"), Cond.declares (Bundle.initS "java/lang/Exception"), Cond.declares (Bundle.initS Bundle.tN)] := by decide +kernel
theorem ay_208_204 : ∀ w ∈ Cond.classLink RX2 204 "java/lang/IndexOutOfBoundsException" :: Cond.initialized "java/lang/IndexOutOfBoundsException" :: vx_atS RX2 208 "java/lang/IndexOutOfBoundsException" ["java/lang/RuntimeException", "java/lang/Exception"], vx_ot w = true := by decide +kernel
