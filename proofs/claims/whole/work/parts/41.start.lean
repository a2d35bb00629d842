/-- the words of the law's own walk -/
theorem law_ini2 : Cond.initialized RX2 ∈ wsL_law := by decide +kernel
theorem law_ini3 : Cond.initialized RX3 ∈ wsL_law := by decide +kernel
theorem law_ck2 : Cond.classLink RL 8 RX2 ∈ wsL_law := by decide +kernel
theorem law_ck3 : Cond.classLink RL 105 RX3 ∈ wsL_law := by decide +kernel
theorem law_in2 : Cond.instantiable RX2 16 ∈ wsL_law := by decide +kernel
theorem law_in3 : Cond.instantiable RX3 19 ∈ wsL_law := by decide +kernel
theorem law_m2 : Cond.methodLink RL 104 yX2_init ∈ wsL_law := by decide +kernel
theorem law_m3 : Cond.methodLink RL 107 yX3_init ∈ wsL_law := by decide +kernel
theorem law_i2 : Cond.instanceMethod yX2_init ∈ wsL_law := by decide +kernel
theorem law_i3 : Cond.instanceMethod yX3_init ∈ wsL_law := by decide +kernel
theorem law_ai : Cond.arrayClass .int ∈ wsL_law := by decide +kernel
theorem law_az : Cond.arrayClass .boolean ∈ wsL_law := by decide +kernel
theorem law_al : Cond.arrayClass .long ∈ wsL_law := by decide +kernel
theorem law_ad : Cond.arrayClass .double ∈ wsL_law := by decide +kernel
theorem law_up {w : Cond} (h : w ∈ wsL_law0) : w ∈ wsL_law := List.mem_append_left _ (List.mem_append_left _ (List.mem_append_left _ (List.mem_append_left _ (List.mem_append_left _ (List.mem_append_left _ (List.mem_append_left _ h))))))
theorem law_x2 : ∀ w ∈ u_ws RX2 TX2 16, w ∈ wsL_law := fun _ h => law_up (List.mem_append_left _ (List.mem_append_left _ (List.mem_append_left _ (List.mem_append_left _ (List.mem_append_right _ h)))))
theorem law_x3 : ∀ w ∈ u_ws RX3 TX3 19, w ∈ wsL_law := fun _ h => law_up (List.mem_append_left _ (List.mem_append_left _ (List.mem_append_left _ (List.mem_append_right _ h))))
theorem hu_double (U : State) (c1 c2 : ClassId) (h1 : va_RA U c1 .double) (h2 : va_RA U c2 .double) : c1 = c2 := Option.some.inj (h1.symm.trans h2)
theorem arr_of {args : Array Value} {s : State} {ty : FieldType} (h : (Cond.arrayClass ty).before args s = true) : ∃ cA : ClassId, ArrOfT s cA ty ∧ s.vm.findClass ("[" ++ ty.toString) = some cA := by
  obtain ⟨cA, kA, comp, h1, h2, h3⟩ := Cond.arrayClass_spec h
  exact ⟨cA, fun n z => ⟨fun k h => (by cases h), kA, h2, comp, h3⟩, h1⟩
theorem cy_of {args : Array Value} {s : State} (h0 : (Cond.arrayClass .int).before args s = true) (h1 : (Cond.arrayClass .boolean).before args s = true) (h2 : (Cond.arrayClass .long).before args s = true) (h3 : (Cond.arrayClass .double).before args s = true) :
    ∃ cy : Nat → ClassId, ∀ (k : Nat) (q : ClassId × FieldType), (kTy cy)[k]? = some q → ArrOfT s q.1 q.2 ∧ va_RA s q.1 q.2 := by
  obtain ⟨c0, a0, b0⟩ := arr_of h0
  obtain ⟨c1, a1, b1⟩ := arr_of h1
  obtain ⟨c2, a2, b2⟩ := arr_of h2
  obtain ⟨c3, a3, b3⟩ := arr_of h3
  refine ⟨fun k => if k = 0 then c0 else if k = 1 then c1 else if k = 2 then c2 else c3, fun k q hq => ?_⟩
  match k, hq with
  | 0, hq => cases hq; exact ⟨a0, b0⟩
  | 1, hq => cases hq; exact ⟨a1, b1⟩
  | 2, hq => cases hq; exact ⟨a2, b2⟩
  | 3, hq => cases hq; exact ⟨a3, b3⟩
  | k + 4, hq => exact absurd hq (by simp)
theorem D_of {args : Array Value} {s : State} (hts : ∀ w ∈ lw_tbl, w.before args s = true) : ∃ D : va_G, ∀ (c : Nat) (q : vw_C), vwCl[c]? = some q → u_Kn s q.1 q.2.1 q.2.2 (D.1 c) (D.2 c) := by
  have h : ∀ c : Nat, ∃ d : ClassId × (Nat → Nat), ∀ q : vw_C, vwCl[c]? = some q → u_Kn s q.1 q.2.1 q.2.2 d.1 d.2 := by
    intro c
    match c with
    | 0 => obtain ⟨a, b, h⟩ := u_known hts il_x0 (hts _ in_0); exact ⟨(a, b), fun q hq => by cases hq; exact h⟩
    | 1 => obtain ⟨a, b, h⟩ := u_known hts il_j (hts _ in_j); exact ⟨(a, b), fun q hq => by cases hq; exact h⟩
    | 2 => obtain ⟨a, b, h⟩ := u_known hts il_x0 (hts _ in_0); exact ⟨(a, b), fun q hq => by cases hq; exact h⟩
    | 3 => obtain ⟨a, b, h⟩ := u_known hts il_x1 (hts _ in_1); exact ⟨(a, b), fun q hq => by cases hq; exact h⟩
    | 4 => obtain ⟨a, b, h⟩ := u_known hts il_x2 (hts _ in_2); exact ⟨(a, b), fun q hq => by cases hq; exact h⟩
    | 5 => obtain ⟨a, b, h⟩ := u_known hts il_x3 (hts _ in_3); exact ⟨(a, b), fun q hq => by cases hq; exact h⟩
    | c + 6 =>
      obtain ⟨a, b, h⟩ := u_known hts il_x0 (hts _ in_0)
      exact ⟨(a, b), fun q hq => absurd hq (by simp)⟩
  obtain ⟨F, hF⟩ := Classical.axiomOfChoice h
  exact ⟨(fun c => (F c).1, fun c => (F c).2), hF⟩
theorem sa_of {args : Array Value} {s : State} (hts : ∀ w ∈ lw_tbl, w.before args s = true) (hq : ∀ w ∈ flt, w.before args s = true) : ∃ sa : Nat → Nat, ∀ q ∈ kStrs, vk_R RX2 q.1 q.2 (sa q.1) s := by
  have h : ∀ k : Nat, ∃ a : Nat, ∀ tx : String, (k, tx) ∈ kStrs → vk_R RX2 k tx a s := by
    intro k
    by_cases hk : ∃ tx : String, (k, tx) ∈ kStrs
    · obtain ⟨tx, h1⟩ := hk
      obtain ⟨a, c, cell, kk, h2, -⟩ := Cond.exactly_spec (hq _ (sx_in (k, tx) h1))
      exact ⟨a, fun tx2 h3 => vk_R.of (hts _ (st_in (k, tx2) h3)) h2⟩
    · exact ⟨0, fun tx h1 => absurd ⟨tx, h1⟩ hk⟩
  obtain ⟨F, hF⟩ := Classical.axiomOfChoice h
  exact ⟨F, fun q hq => hF q.1 q.2 hq⟩
set_option maxHeartbeats 8000000 in
set_option maxRecDepth 100000 in
/-- from the law's entry to its loop -/
theorem law_body {K : kEnv} {l : Launch} {D : va_G} {cy : Nat → ClassId} {A : Nat → Prop} {sb L : Nat} {xs : Nat → Int32} {sa : Nat → Nat} {Q : State → Prop} (C : kC K D cy A 9 cL_law RL wsL_law ret) (CX : kCX K l A sa) (hlt : l.stackTraces = false) (CS : kScr K A sb L xs) (hL : L ≤ 2048)
    (hend : ∀ (X : va_W) (cells slots : Nat) (L9 : List (Nat × Value)), cells ≤ 20000 → slots ≤ 200000 → kG K l D A room_1 9 Q X cells slots 1854 L9 [.int 1]) : kG K l D A room_1 9 Q [] 0 0 0 [(0, .ref sb)] [] := by
  refine kr_new C (ci := 4) (fs := [.int 0, .int 0, .int 0, .int 0, .int 0, .int 0, .int 0, .int 0, .null, .null, .null, .null, .null, .null, .null, .null]) law_x2 tyX2_ok law_ck2 law_in2 law_ini2 rfl (fun j hj => by
    rcases (show j = 0 ∨ j = 1 ∨ j = 2 ∨ j = 3 ∨ j = 4 ∨ j = 5 ∨ j = 6 ∨ j = 7 ∨ j = 8 ∨ j = 9 ∨ j = 10 ∨ j = 11 ∨ j = 12 ∨ j = 13 ∨ j = 14 ∨ j = 15 by omega) with rfl | rfl | rfl | rfl | rfl | rfl | rfl | rfl | rfl | rfl | rfl | rfl | rfl | rfl | rfl | rfl <;> rfl) (Nat.le_of_ble_eq_true rfl) (Nat.le_of_ble_eq_true rfl) dL_law_0 (fun r0 => ?_)
  refine kr_dup C dL_law_3 rfl ?_
  refine kr_callI C (k := 0) (As := []) (rest := [.ref r0]) c_X2_init gL_law_X2_init rfl rfl rfl law_ini2 law_m2 law_i2 rfl (by decide +kernel) ⟨(Nat.le_of_ble_eq_true rfl), (Nat.le_of_ble_eq_true rfl)⟩ ⟨(Nat.le_of_ble_eq_true rfl), (Nat.le_of_ble_eq_true rfl)⟩ rfl rfl (Nat.le_of_ble_eq_true rfl) dL_law_4 (fun q => ?_)
  refine kr_astore_n C [1, 0] dL_law_7 rfl (by decide) rfl ?_
  refine kr_new C (ci := 5) (fs := [.int 0, .null, .null, .int 0, .null, .null, .null, .int 0, .null, .null, .null, .null, .null, .null, .int 0, .null, .null, .int 0, .int 0]) law_x3 tyX3_ok law_ck3 law_in3 law_ini3 rfl (fun j hj => by
    rcases (show j = 0 ∨ j = 1 ∨ j = 2 ∨ j = 3 ∨ j = 4 ∨ j = 5 ∨ j = 6 ∨ j = 7 ∨ j = 8 ∨ j = 9 ∨ j = 10 ∨ j = 11 ∨ j = 12 ∨ j = 13 ∨ j = 14 ∨ j = 15 ∨ j = 16 ∨ j = 17 ∨ j = 18 by omega) with rfl | rfl | rfl | rfl | rfl | rfl | rfl | rfl | rfl | rfl | rfl | rfl | rfl | rfl | rfl | rfl | rfl | rfl | rfl <;> rfl) (Nat.le_of_ble_eq_true rfl) (Nat.le_of_ble_eq_true rfl) dL_law_8 (fun r1 => ?_)
  refine kr_dup C dL_law_11 rfl ?_
  refine kr_callI C (k := 0) (As := []) (rest := [.ref r1]) c_X3_init gL_law_X3_init rfl rfl rfl law_ini3 law_m3 law_i3 rfl (by decide +kernel) ⟨(Nat.le_of_ble_eq_true rfl), (Nat.le_of_ble_eq_true rfl)⟩ ⟨(Nat.le_of_ble_eq_true rfl), (Nat.le_of_ble_eq_true rfl)⟩ rfl rfl (Nat.le_of_ble_eq_true rfl) dL_law_12 (fun z => ?_)
  refine kr_astore_n C [1, 2, 0] dL_law_15 rfl (by decide) rfl ?_
  refine kr_iconst C (v := 1) dL_law_16 (by decide) ?_
  refine kr_newa C 2 (atype := .long) (N := 1) (a0 := (1, .inr (.inl (fun _ => 0)))) law_al rfl rfl hu_long (fun _ => rfl) (by decide) (by decide) (by decide) (Nat.le_of_ble_eq_true rfl) (Nat.le_of_ble_eq_true rfl) dL_law_17 (fun o0 => ?_)
  refine kr_astore_n C [1, 2, 3, 0] dL_law_19 rfl (by decide) rfl ?_
  refine kr_iconst C (v := 1) dL_law_20 (by decide) ?_
  refine kr_newa C 3 (atype := .double) (N := 1) (a0 := (1, .inr (.inr (.inr (.inl (fun _ => 0)))))) law_ad rfl rfl hu_double (fun _ => rfl) (by decide) (by decide) (by decide) (Nat.le_of_ble_eq_true rfl) (Nat.le_of_ble_eq_true rfl) dL_law_21 (fun o1 => ?_)
  refine kr_astore C [1, 2, 3, 4, 0] dL_law_23 (by decide) rfl ?_
  refine kr_iconst C (v := 0) dL_law_25 (by decide) ?_
  refine kr_istore C [1, 2, 3, 4, 5, 0] dL_law_26 (by decide) rfl ?_
  refine kr_perm (X2 := lwx (fun k => if k = 0 then r0 else q k) (fun k => if k = 0 then r1 else z k) cy o0 o1 kS0 kT0 (fun _ => 0) (fun _ => 0)) [32, 31, 29, 27, 25, 23, 21, 19, 17, 30, 28, 26, 24, 22, 20, 18, 16, 15, 14, 13, 12, 11, 10, 9, 8, 7, 6, 5, 4, 3, 2, 1, 0] (by decide) rfl ?_
  exact lc_L_law C CX hlt CS hend 600 kS0 kT0 (fun _ => 0) (fun _ => 0) 0 _ _ (Nat.le_refl _) (Nat.le_of_ble_eq_true rfl) (Nat.le_of_ble_eq_true rfl) (law_true hL _ _)
