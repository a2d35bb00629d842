/-! A THROW WHOSE CONSTRUCTOR CALLS ITS SUPERCLASS BY ANOTHER INDEX: java/util/NoSuchElementException; the machine without stack traces -/
abbrev nseE : String := "java/util/NoSuchElementException"
abbrev nseR : String := "java/lang/RuntimeException"
def nseRx : ByteArray := ⟨#[0x2a, 0x2b, 0xb7, 0x00, 0x0d, 0xb1]⟩
/-- its words: those of any such throw, the two of the class's own constructor in their places -/
def nseAll : List Cond := (Bundle.ownAtoms "FolderKeeper" 119 nseE [nseR, "java/lang/Exception"]).map (fun w => if w = .methodLink nseE 7 (Bundle.initS nseR) then .methodLink nseE 13 (Bundle.initS nseR) else if w = .code (Bundle.initS nseE) Bundle.six 2 none then .code (Bundle.initS nseE) nseRx 2 none else w)
def nseAt : List Cond := nseAll.filter vx_no
theorem nse_in0 : ∀ w ∈ Bundle.passSAtoms nseE nseR 13 nseRx, w ∈ nseAll := by decide +kernel
theorem nse_in1 : ∀ w ∈ Bundle.throwableAtoms, w ∈ nseAll := by decide +kernel
theorem nse_in2 : ∀ w ∈ Bundle.throwableSAtoms, w ∈ nseAll := by decide +kernel
theorem nse_in3 : ∀ w ∈ Bundle.chainSAtoms nseR ["java/lang/Exception"], w ∈ nseAll := by decide +kernel
theorem nse_d0 : decode nseRx 0 = .ok (.aload_n 0, 1) := by decide +kernel
theorem nse_d1 : decode nseRx 1 = .ok (.aload_n 1, 1) := by decide +kernel
theorem nse_d2 : decode nseRx 2 = .ok (.invokespecial 13, 3) := by decide +kernel
theorem nse_d5 : decode nseRx 5 = .ok (.return_, 1) := by decide +kernel
section NSE
variable {p : Program} {l : Launch} {e : Env} {R : Room} {s : State} {m₀ : MethodId} {args : Array Value} {below : List Frame} {meth : Method} {c : Code} {W : State} {locs : List Loc} {cells slots : Nat}
theorem nse_sel (X : Stand p l e R s m₀ args below meth c W locs cells slots) {cE : ClassId} (hE : s.vm.findClass nseE = some cE) {t : MethodName} {mt : MethodId} (hm : s.methodNamed? t = some mt) (hc : t.cls ≠ "java/lang/invoke/MethodHandle" ∧ t.cls ≠ "java/lang/invoke/VarHandle") (h : (Cond.selects nseE t t).before args s = true) : selectMethod e.platform s.vm cE mt = .method mt := by
  obtain ⟨c2, r2, m2, q1, q2, q3, q4, -⟩ := Cond.selects_spec h
  have e1 : c2 = cE := Option.some.inj (q1.symm.trans hE)
  have e2 : r2 = mt := Option.some.inj (q2.symm.trans (State.methodFound?_of_named hm hc))
  have e3 : m2 = mt := Option.some.inj (q3.symm.trans hm)
  subst e1 e2 e3
  rw [Launch.admits_selectMethod X.admits]; exact q4
set_option maxHeartbeats 1000000 in
theorem nse_ctor (X : Stand p l e R s m₀ args below meth c W locs cells slots) (hexec : p.tables.exec = Jvm.exec) (htr : e.platform.stackTraces = false) (hown : s.vm.findClass "FolderKeeper" = some m₀.cls) (h : ∀ w ∈ nseAll, w.before args s = true)
    (hlocs : ∀ x ∈ locs, ∀ cell, s.heap[x.base]? = some cell → cell.vm.isStatics = false) {a : Addr} {cX : ClassId} {kX : Class} (hE : s.vm.findClass nseE = some cX) (hkX : s.vm.classes[cX]? = some kX) (hcell : W.heap[a]? = some (freshCell cX kX)) (hnew : s.heap.size ≤ a)
    {msg : Value} (hmsg : msg.isRef = true) {g : JFrame} (hg : g.method = m₀) (hsize : g.locals.size = c.maxLocals) (hlocked : g.locked = none) (hentered : g.entered = []) {rest : List Value} (hstack : g.stack = msg :: .ref a :: .ref a :: rest)
    (hd6 : decode c.code g.pc = .ok (.invokespecial 119, 3)) (hd9 : decode c.code (g.pc + 3) = .ok (.athrow, 1)) (hout : ∀ x ∈ c.exceptionTable.toList, covers x (g.pc + 3) = false)
    (hRframes : 5 < R.frames) (hRlocals : 2 * g.monitorRoom + ((Value.ref a :: rest).map fun v => v.category).sum + 81 ≤ R.locals) (hlocks : meth.locks = false) :
    ∃ U : State, Steps p.tables e below (W.setTop g) U ∧ U.status = .running ∧ Ended U below (.threw a) ∧ s.WarmedH U.vm ∧ s.sameButNew ({ U with vm := s.vm } : State) locs cells slots ∧
      ∃ ce, U.heap[a]? = some ce ∧ ce.vm = .none ∧ s.vm.findClass nseE = some ce.cls := by
  have hpl : e.platform.magicAccessors = ({} : Platform).magicAccessors := by rw [X.admits.platform]
  obtain ⟨T, Z0, L, -, Y⟩ := ThrowableC.of_atoms (args := args) (by rw [X.admits.platform]) (by rw [X.admits.platform]) hpl (fun x hx => h x (nse_in1 x hx))
  obtain ⟨Z, M, LZ, LM, hnZ⟩ := Init0T.ofS_atoms (args := args) hpl L Y (fun x hx => h x (nse_in2 x hx))
  obtain ⟨P2, Ps, hlen, L2, hL, hP2, hl2, hl3⟩ := Bundle.chainS (args := args) hpl hnZ ["java/lang/Exception"] nseR (by decide +kernel) (by decide +kernel) (fun x hx => h x (nse_in3 x hx))
  obtain ⟨P1, L1, hP1, hs1⟩ := PassC.ofS_atoms (args := args) (s := s) hpl (X := nseE) (Y := nseR) (by decide +kernel) (by decide +kernel) nse_d0 nse_d1 nse_d2 nse_d5 (fun x hx => h x (nse_in0 x hx))
  have hl1 : P1.sup = P2.m := Option.some.inj (hs1.symm.trans hP2)
  have e1 : cX = P1.m.cls := Option.some.inj (hE.symm.trans (findClass_of_methodNamed hP1))
  subst e1
  obtain ⟨c1, k1, hc1, hk1, hord, -, -, -⟩ := Cond.instantiable_spec (h (.instantiable nseE 6) (by decide +kernel))
  have e2 : c1 = P1.m.cls := Option.some.inj (hc1.symm.trans hE)
  subst e2
  have e3 : k1 = kX := Option.some.inj (hk1.symm.trans hkX)
  subst e3
  have hsel0 := nse_sel X hE Y.fill0 (by decide) (h (.selects nseE Bundle.tFill0 Bundle.tFill0) (by decide +kernel))
  have hselF := nse_sel X hE Y.fill (by decide) (h (.selects nseE Bundle.tFill Bundle.tFill) (by decide +kernel))
  -- the statics of Throwable
  obtain ⟨z, hz, hzs⟩ := Y.statics
  obtain ⟨u0, hu0⟩ := Cond.staticRefV Y.unassigned L.unassignedStatic L.statics hz hzs (h (.isRef (.static Bundle.tN "UNASSIGNED_STACK" Bundle.steD)) (by decide +kernel))
  obtain ⟨sen, hsen⟩ := Cond.staticRefV Y.sentinel L.sentinelStatic L.statics hz hzs (h (.isRef (.static Bundle.tN "SUPPRESSED_SENTINEL" Bundle.listD)) (by decide +kernel))
  obtain ⟨z2, hz2, hzv, -, hzk⟩ := X.same.2.2.2.2.2 T.aS z hz
  have hfree : ∀ i, (⟨T.aS, i⟩ : Loc) ∉ locs := fun i hm => by
    have := hlocs _ hm z hz
    rw [hzs] at this; cases this
  have hzn : z2.vm ≠ .unknown := fun hu => by
    rw [hzv] at hu
    rw [show z.vm = .unknown from hu] at hzs
    cases hzs
  have hza : T.aS ≠ a := Nat.ne_of_lt (Nat.lt_of_lt_of_le (Array.getElem?_eq_some_iff.mp hz).1 hnew)
  -- the fields
  obtain ⟨ci, ib, fB, b1, b2, b3, b4, -, b5, b6, b7⟩ := Cond.ownField (t := .object "java/lang/Object") Y.found L.cls (by decide +kernel) (h (.fieldLink Bundle.tN 198 Bundle.tN "backtrace" "Ljava/lang/Object;") (by decide +kernel)) (h (.lays Bundle.tN Bundle.tN "backtrace" "Ljava/lang/Object;") (by decide +kernel)) e.platform hpl
  obtain ⟨iM, hM⟩ := Y.msg
  obtain ⟨yC, dC, lC, nC⟩ := Cond.laysAt hE hkX Y.cause (h (.lays nseE Bundle.tN "cause" "Ljava/lang/Throwable;") (by decide +kernel))
  obtain ⟨yS, dS, lS, nS⟩ := Cond.laysAt hE hkX Y.stack (h (.lays nseE Bundle.tN "stackTrace" Bundle.steD) (by decide +kernel))
  obtain ⟨yP, dP, lP, nP⟩ := Cond.laysAt hE hkX Y.supp (h (.lays nseE Bundle.tN "suppressedExceptions" Bundle.listD) (by decide +kernel))
  obtain ⟨yM, dM, lM, nM⟩ := Cond.laysAt hE hkX hM (h (.lays nseE Bundle.tN "detailMessage" "Ljava/lang/String;") (by decide +kernel))
  obtain ⟨yB, dB, lB, nB⟩ := Cond.laysAt hE hkX b7 (h (.lays nseE Bundle.tN "backtrace" "Ljava/lang/Object;") (by decide +kernel))
  have pC := Cond.laysApart lB lC nB nC (by rw [b5, Y.causeName]; decide)
  have pS := Cond.laysApart lB lS nB nS (by rw [b5, Y.stackName]; decide)
  have pP := Cond.laysApart lB lP nB nP (by rw [b5, Y.suppName]; decide)
  have hskip : SkipFacts T e.platform s (fun u => u) u0 ((preparedCellV T.toThrowableT (freshCell P1.m.cls k1) a u0 sen).withEntry W.cur) := by
    refine ⟨{ ci198 := ci, i198 := ib, fBack := fB }, ⟨b1, b2, b3, b4⟩, ?_, fun _ _ => rfl⟩
    have hd := fresh_default (c := P1.m.cls) yB
    rw [b6] at hd
    simpa [preparedCellV, Cell.setSlot, Cell.withEntry, Array.getElem?_setIfInBounds, pC, pS, pP, pC.symm, pS.symm, pP.symm, defaultValue] using hd
  -- the calls
  obtain ⟨tm, mC, cd, kC, v1, hn1, -, -, -, -, -, -, -, hW1, st1⟩ := Steps.initColdS (tb := p.tables) (e := e) (below := below) (s := s) (U := W) X.here hexec X.warmed hpl hown (t := Bundle.initS nseE) rfl rfl (by decide)
    (h (.methodLink "FolderKeeper" 119 (Bundle.initS nseE)) (by decide +kernel)) (h (.instanceMethod (Bundle.initS nseE)) (by decide +kernel)) (bytes := nseRx) (maxL := 2) (h (.code (Bundle.initS nseE) nseRx 2 none) (by decide +kernel)) (f := g) hg (a := a) (msg := msg) (rest := .ref a :: rest) hstack hd6
  have e4 : tm = P1.m := Option.some.inj (hn1.symm.trans hP1)
  subst e4
  have X1 := X.noted hW1
  obtain ⟨v2, X2, st2⟩ := X1.ctorMessageOffV hexec (g := { g with stack := .ref a :: rest }) hg hsize T L Z LZ M LM (P1 :: P2 :: Ps)
    (fun P hP => by
      rcases List.mem_cons.mp hP with rfl | hP
      · exact L1
      · rcases List.mem_cons.mp hP with rfl | hP
        · exact L2
        · exact hL P hP) ⟨hl1, hl2, hl3⟩ (u0 := u0) (sen := sen) (self := a) hmsg (cell := freshCell P1.m.cls k1) (cellS := z2)
    hcell (fun _ => by simp) (by simp) rfl rfl hsel0 hselF hz2 hza hzn (by rw [hzk _ (hfree _)]; exact hu0) (by rw [hzk _ (hfree _)]; exact hsen)
    (Takes.of_laid hkX hord yC (by rw [Y.causeType]; rfl)) (Takes.of_laid hkX hord yS (by rw [Y.stackType]; exact fits_refV_array _ u0)) (Takes.of_laid hkX hord yP (by rw [Y.suppType]; exact fits_refV_object _ sen)) (Takes.of_laid hkX hord yM (by rw [Y.msgType]; exact fits_refV_object _ ⟨msg, hmsg⟩))
    Y.objLocals hskip htr [] hd6 (by simp only [List.length_cons, hlen, List.length_nil]; omega) (by simp only [List.length_cons, hlen, List.length_nil]; exact hRlocals)
  obtain ⟨hwalk, hrun, hend, hWU, hsame⟩ := X2.athrowLeaves hexec (g := { g with stack := .ref a :: rest, pc := g.pc + 3 }) hg hlocked hentered hout (a := a) (rest := rest) rfl hd9
  have hlt : a < ((W.setVm v1).setVm v2).heap.size := (Array.getElem?_eq_some_iff.mp hcell).1
  refine ⟨_, st1 _ (fun acts => ?_), hrun, hend, hWU, hsame.weaken (fun y hy hy2 => ?_) (Nat.le_refl _) (Nat.le_refl _), _, heapAt_setCell_self (s := (W.setVm v1).setVm v2) (plainBareV T.toThrowableT (freshCell P1.m.cls k1) a u0 sen msg) hlt, rfl, hE⟩
  · rw [doInvoke_state]
    exact st2 _ hwalk
  · rcases List.mem_append.mp hy with h1 | h1
    · exact h1
    · exfalso
      have hb : y.base = a := by
        simp only [List.mem_cons, List.not_mem_nil, or_false] at h1
        rcases h1 with rfl | rfl | rfl | rfl | rfl <;> rfl
      rw [hb] at hy2
      exact Nat.not_lt.mpr hnew hy2
end NSE
section NSW
variable {p : Program} {l : Launch} {e : Env} {R : Room} {s : State} {m : MethodId} {args : Array Value} {below : List Frame} {meth : Method} {c : Code} {H : Heap} {locs : List Loc} {cells slots : Nat} {ls : Array Slot} {rest : List Value} {free : Addr → Prop} {Qc : Array Value → State → Outcome → State → Prop} {XC : String → State → State → Prop}
/-- 'throw new NoSuchElementException("text")', after the row of any such throw -/
theorem nse_throw {cc : ByteArray} {pc : Nat} (hexec : p.tables.exec = Jvm.exec) (hb : c.code = cc) (hl : l.stackTraces = false) {text : String} {ik is mc ms sa : Nat} {A : Nat → Prop}
    (hown : s.vm.findClass "FolderKeeper" = some m.cls)
    (hk : (Cond.classLink "FolderKeeper" ik nseE).before args s = true) (hini : (Cond.initialized nseE).before args s = true) (hstr : vk_R "FolderKeeper" is text sa s) (hat : ∀ w ∈ nseAt, w.before args s = true)
    (hgood : ∀ w ∈ Cond.classLink "FolderKeeper" ik nseE :: Cond.initialized nseE :: nseAt, vx_ot w = true)
    (hU : vx_Zq Bundle.tN "UNASSIGNED_STACK" Bundle.steD A s s.heap) (hN : vx_Zq Bundle.tN "SUPPRESSED_SENTINEL" Bundle.listD A s s.heap) (hS : va_S A s.heap H locs) (hsize : ls.size = c.maxLocals)
    (d0 : decode cc pc = .ok (.new ik, 3)) (d3 : decode cc (pc + 3) = .ok (.dup, 1)) (d4 : decode cc (pc + 4) = .ok (.ldc is, 2)) (d6 : decode cc (pc + 6) = .ok (.invokespecial 119, 3)) (d9 : decode cc (pc + 9) = .ok (.athrow, 1))
    (hout : ∀ x ∈ c.exceptionTable.toList, covers x (pc + 9) = false)
    (hRframes : 5 < R.frames) (hRlocals : (rest.map fun v => v.category).sum + 82 ≤ R.locals) (hRcells : cells + 1 ≤ R.cells) (hRslots : slots + 6 ≤ R.slots) (hlocks : meth.locks = false)
    (hx : ∀ t : State, s.vm.Alike t.vm → H.size ≤ t.heap.size → (∀ q : Nat, q < H.size → t.heap[q]? = H[q]?) → XC nseE s t)
    (hf : ∀ z ∈ locs, free z.base) (hc : cells + 1 ≤ mc) (hs : slots + 6 ≤ ms) :
    W p l e R s m args below meth c H locs cells slots (vx_MQ below Qc XC args s mc ms free) (F0 m pc ls rest) := by
  intro T hT X
  have htr : e.platform.stackTraces = false := (show e.platform.stackTraces = l.stackTraces by rw [X.admits.platform]).trans hl
  have Y := vx_rebase X (R' := { frames := R.frames, locals := R.locals, cells := 1, slots := 6 }) (Nat.le_refl _) (Nat.le_refl _) hRcells hRslots
  obtain ⟨s', hA⟩ : ∃ z, z = (T.setVm s.vm).setFrames (.invoking m args :: below) := ⟨_, rfl⟩
  rw [← hA] at Y
  have hvm : s'.vm = s.vm := by rw [hA]; rfl
  have hhp : s'.heap = H := by rw [hA]; exact hT
  have hW0 : s.WarmedH s'.vm := by rw [hvm]; exact State.WarmedH.refl s
  have hat' : ∀ w ∈ nseAt, w.before args s' = true := fun w hw => vx_ot_at hW0 hvm.symm (hgood w (List.mem_cons_of_mem _ (List.mem_cons_of_mem _ hw))) (hat w hw)
  have hk' : (Cond.classLink "FolderKeeper" ik nseE).before args s' = true := vx_ot_at hW0 hvm.symm (hgood _ List.mem_cons_self) hk
  have hini' : (Cond.initialized nseE).before args s' = true := vx_ot_at hW0 hvm.symm (hgood _ (List.mem_cons_of_mem _ List.mem_cons_self)) hini
  have hU' : vx_Zq Bundle.tN "UNASSIGNED_STACK" Bundle.steD A s' s'.heap := by rw [hhp]; exact vx_Zq.moved hW0.alike (hU.kept hS.2.1)
  have hN' : vx_Zq Bundle.tN "SUPPRESSED_SENTINEL" Bundle.listD A s' s'.heap := by rw [hhp]; exact vx_Zq.moved hW0.alike (hN.kept hS.2.1)
  have h : ∀ w ∈ nseAll, w.before args s' = true := vx_own hat' (vx_isRefq hU'.1) (vx_isRefq hN'.1) hU'.2.word hN'.2.word
  have hown' : s'.vm.findClass "FolderKeeper" = some m.cls := by rw [hvm]; exact hown
  have hins : (Cond.instantiable nseE 6).before args s' = true := h _ (by decide +kernel)
  obtain ⟨vm₁, cX, kX, hfX, hkX, -, -, X₁, st1⟩ := Y.newCold hexec (own := "FolderKeeper") (C := nseE) (index := ik) (n := 6) hown' hk' hins hini'
    (g := F0 m pc ls rest) rfl (by rw [hb]; exact d0) (Nat.le_refl _) (Nat.le_refl _)
  generalize hT1 : (T.setVm vm₁).pushCell { cls := cX, slots := kX.instanceTypes.map defaultValue, vm := .none } = T1 at X₁ st1
  have hcat : (Value.ref T.heap.size).category = 1 := rfl
  have hcellA : T1.heap[T.heap.size]? = some (freshCell cX kX) := by rw [← hT1]; exact State.heap_pushCell_size _ _
  have d3' : decode c.code (pc + 3) = .ok (.dup, 1) := by rw [hb]; exact d3
  have d4' : decode c.code (pc + 4) = .ok (.ldc is, 2) := by rw [hb]; exact d4
  have hstr' : vk_R "FolderKeeper" is text sa s' := vk_R.warm hW0 hstr
  obtain ⟨U, hsteps, hrun, hend, hW, hsame, ce, hce, hOv, hOc⟩ := nse_ctor X₁ hexec htr hown' h (fun x hx => nomatch hx) hfX hkX hcellA (by rw [hhp, hT]; exact Nat.le_refl _) (msg := .ref sa) rfl
    (g := { method := m, pc := pc + 6, locals := ls, stack := .ref sa :: .ref T.heap.size :: .ref T.heap.size :: rest, locked := none }) rfl hsize rfl rfl (rest := rest) rfl
    (by rw [hb]; exact d6) (by rw [hb]; exact d9) hout hRframes (by simp only [List.map_cons, List.sum_cons, hcat]; omega) hlocks
  obtain ⟨f1, f2⟩ := vx_frame hsame
  rw [hhp] at f1 f2
  have hWs : s.WarmedH U.vm := State.WarmedH.trans hW0 hW
  have hcl : s.vm.findClass nseE = some ce.cls := by
    have h9 := hOc
    rw [hvm] at h9
    exact h9
  have hall : s.sameButNew ({ U with vm := s.vm } : State) locs mc ms := by
    subst hA
    obtain ⟨e1, e2⟩ := hsame
    rw [State.setFrames_setFrames] at e1
    have h2 : (T.setVm s.vm).sameButNew ({ U with vm := s.vm } : State) [] (0 + 1) (0 + 6) := ⟨e1, e2⟩
    have h3 := X.same.trans h2
    rw [List.append_nil] at h3
    exact h3.mono hc hs
  refine ⟨U, ?_, .threw T.heap.size, hrun, hend, Or.inr ⟨T.heap.size, rfl, nseE, ce, locs, hx U hWs.alike f1 (fun q hq => f2 q hq (fun z hz => nomatch hz)), hce, hOv, hcl, hWs, hall, hf⟩⟩
  refine st1 _ ?_
  show Steps p.tables e below (T1.setTop { method := m, pc := pc + 3, locals := ls, stack := .ref T.heap.size :: rest, locked := none }) _
  jvm_step X₁.here [X₁.here.top, hexec, d3', Value.category]
  exact X₁.ldcString hexec (own := "FolderKeeper") (text := text) (index := is) (a := sa) hown' hstr'.1 hstr'.2
    (g := { method := m, pc := pc + 4, locals := ls, stack := .ref T.heap.size :: .ref T.heap.size :: rest, locked := none }) rfl d4' _ hsteps
end NSW
