theorem flX0_at_19 : Cond.fieldLink RX0 19 "FolderKeeper$Grid" "width" "I" ∈ wsX0_at := by decide +kernel
theorem inX0_at_X0 : ∀ w ∈ wsX00, w ∈ wsX0_at := fun _ h => List.mem_cons_of_mem _ (List.mem_append_left _ (List.mem_append_right _ h))
theorem flX0_at_13 : Cond.fieldLink RX0 13 "FolderKeeper$Grid" "cells" "[I" ∈ wsX0_at := by decide +kernel
set_option maxHeartbeats 4000000 in
set_option maxRecDepth 100000 in
theorem c_X0_at {l : Launch} {D : va_G} {cy : Nat → ClassId} {X : va_W} {q0 q1 h0 h1 N : Nat} {wd : Int32} {S : Nat → Int32} {p1 : Int32} {p2 : Int32} {r : Int32} (hW0 : X[q0]? = some (h0, .inr (2, [.ref h1, .int wd]))) (hW1 : X[q1]? = some (h1, .inl (cy 0, N, .inl S))) (h : f_X0_at N wd S p1 p2 = some r) : kM l yX0_at wsX0_at ({ frames := 0, cells := 0, slots := 0, locals := 0 } : Room) D cy X [.ref (h0), .int p1, .int p2] X (some (.int r)) 0 0 := by
  rw [f_X0_at] at h
  refine kM.start (L := [(0, .ref (h0)), (1, .int (p1)), (2, .int (p2))]) rfl rfl rfl (Nat.le_of_ble_eq_true rfl) rfl (fun K A C => ?_)
  refine kr_iload_n C 2 dX0_at_0 rfl rfl ?_
  refine kr_if_lt C 12 dX0_at_1 (by decide) (fun hc => ?_) (fun hc => ?_)
  · have h := (if_pos hc).symm.trans h
    refine kr_iconst C (v := 0) dX0_at_12 (by decide) ?_
    cases h
    exact kr_ret_i C (Nat.le_of_ble_eq_true rfl) (Nat.le_of_ble_eq_true rfl) dX0_at_13
  have h := (if_neg hc).symm.trans h
  refine kr_iload_n C 2 dX0_at_4 rfl rfl ?_
  refine kr_aload_n C 0 dX0_at_5 rfl rfl ?_
  refine kr_get C inX0_at_X0 _ hW0 rfl 1 (by decide) flX0_at_19 rfl rfl dX0_at_6 ?_
  refine kr_icmp_lt C 14 dX0_at_9 (by decide) (fun hc => ?_) (fun hc => ?_)
  · have h := (if_pos hc).symm.trans h
    refine kr_iload_n C 1 dX0_at_14 rfl rfl ?_
    refine kr_aload_n C 0 dX0_at_15 rfl rfl ?_
    refine kr_get C inX0_at_X0 _ hW0 rfl 1 (by decide) flX0_at_19 rfl rfl dX0_at_16 ?_
    refine kr_imul C dX0_at_19 ?_
    refine kr_iload_n C 2 dX0_at_20 rfl rfl ?_
    refine kr_iadd C dX0_at_21 ?_
    refine kr_istore_n C [1, 2, 3, 0] dX0_at_22 rfl (by decide) rfl ?_
    refine kr_iload_n C 3 dX0_at_23 rfl rfl ?_
    refine kr_if_lt C 45 dX0_at_24 (by decide) (fun hc => ?_) (fun hc => ?_)
    · have h := (if_pos hc).symm.trans h
      refine kr_iconst C (v := 0) dX0_at_45 (by decide) ?_
      cases h
      exact kr_ret_i C (Nat.le_of_ble_eq_true rfl) (Nat.le_of_ble_eq_true rfl) dX0_at_46
    have h := (if_neg hc).symm.trans h
    refine kr_iload_n C 3 dX0_at_27 rfl rfl ?_
    refine kr_aload_n C 0 dX0_at_28 rfl rfl ?_
    refine kr_get C inX0_at_X0 _ hW0 rfl 0 (by decide) flX0_at_13 rfl rfl dX0_at_29 ?_
    refine kr_alen C _ 0 hW1 rfl rfl dX0_at_32 ?_
    refine kr_icmp_ge C 45 dX0_at_33 (by decide) (fun hc => ?_) (fun hc => ?_)
    · have h := (if_pos hc).symm.trans h
      refine kr_iconst C (v := 0) dX0_at_45 (by decide) ?_
      cases h
      exact kr_ret_i C (Nat.le_of_ble_eq_true rfl) (Nat.le_of_ble_eq_true rfl) dX0_at_46
    have h := (if_neg hc).symm.trans h
    refine kr_aload_n C 0 dX0_at_36 rfl rfl ?_
    refine kr_get C inX0_at_X0 _ hW0 rfl 0 (by decide) flX0_at_13 rfl rfl dX0_at_37 ?_
    refine kr_iload_n C 3 dX0_at_40 rfl rfl ?_
    obtain ⟨hb1, h⟩ := kif h
    refine kr_iald C _ hW1 (kin_in hb1) dX0_at_41 ?_
    refine kr_goto C 46 dX0_at_42 (by decide) ?_
    cases h
    exact kr_ret_i C (Nat.le_of_ble_eq_true rfl) (Nat.le_of_ble_eq_true rfl) dX0_at_46
  have h := (if_neg hc).symm.trans h
  refine kr_iconst C (v := 0) dX0_at_12 (by decide) ?_
  cases h
  exact kr_ret_i C (Nat.le_of_ble_eq_true rfl) (Nat.le_of_ble_eq_true rfl) dX0_at_13
theorem flX0_put_19 : Cond.fieldLink RX0 19 "FolderKeeper$Grid" "width" "I" ∈ wsX0_put := by decide +kernel
theorem inX0_put_X0 : ∀ w ∈ wsX00, w ∈ wsX0_put := fun _ h => List.mem_cons_of_mem _ (List.mem_append_left _ (List.mem_append_right _ h))
theorem flX0_put_13 : Cond.fieldLink RX0 13 "FolderKeeper$Grid" "cells" "[I" ∈ wsX0_put := by decide +kernel
set_option maxHeartbeats 4000000 in
set_option maxRecDepth 100000 in
theorem c_X0_put {l : Launch} {D : va_G} {cy : Nat → ClassId} {Wf : (Nat → Int32) → va_W} {q0 q1 h0 h1 N : Nat} {wd : Int32} {S : (Nat → Int32)} {p1 : Int32} {p2 : Int32} {p3 : Int32} {r : (Nat → Int32)} (hW0 : ∀ f, (Wf f)[q0]? = some (h0, .inr (2, [.ref h1, .int wd]))) (hW1 : ∀ f, (Wf f)[q1]? = some (h1, .inl (cy 0, N, .inl f))) (hW2 : ∀ f g, (Wf f).set q1 (h1, .inl (cy 0, N, .inl g)) = Wf g) (h : f_X0_put N wd S p1 p2 p3 = some r) : kM l yX0_put wsX0_put ({ frames := 0, cells := 0, slots := 0, locals := 0 } : Room) D cy (Wf S) [.ref (h0), .int p1, .int p2, .int p3] (Wf r) none 0 0 := by
  rw [f_X0_put] at h
  refine kM.start (L := [(0, .ref (h0)), (1, .int (p1)), (2, .int (p2)), (3, .int (p3))]) rfl rfl rfl (Nat.le_of_ble_eq_true rfl) rfl (fun K A C => ?_)
  refine kr_iload_n C 2 dX0_put_0 rfl rfl ?_
  refine kr_if_lt C 12 dX0_put_1 (by decide) (fun hc => ?_) (fun hc => ?_)
  · have h := (if_pos hc).symm.trans h
    cases h
    exact kr_ret_v C (Nat.le_of_ble_eq_true rfl) (Nat.le_of_ble_eq_true rfl) dX0_put_12
  have h := (if_neg hc).symm.trans h
  refine kr_iload_n C 2 dX0_put_4 rfl rfl ?_
  refine kr_aload_n C 0 dX0_put_5 rfl rfl ?_
  refine kr_get C inX0_put_X0 _ (hW0 _) rfl 1 (by decide) flX0_put_19 rfl rfl dX0_put_6 ?_
  refine kr_icmp_lt C 13 dX0_put_9 (by decide) (fun hc => ?_) (fun hc => ?_)
  · have h := (if_pos hc).symm.trans h
    refine kr_iload_n C 1 dX0_put_13 rfl rfl ?_
    refine kr_aload_n C 0 dX0_put_14 rfl rfl ?_
    refine kr_get C inX0_put_X0 _ (hW0 _) rfl 1 (by decide) flX0_put_19 rfl rfl dX0_put_15 ?_
    refine kr_imul C dX0_put_18 ?_
    refine kr_iload_n C 2 dX0_put_19 rfl rfl ?_
    refine kr_iadd C dX0_put_20 ?_
    refine kr_istore C [1, 2, 3, 4, 0] dX0_put_21 (by decide) rfl ?_
    refine kr_iload C 4 dX0_put_23 rfl ?_
    refine kr_if_lt C 46 dX0_put_25 (by decide) (fun hc => ?_) (fun hc => ?_)
    · have h := (if_pos hc).symm.trans h
      cases h
      exact kr_ret_v C (Nat.le_of_ble_eq_true rfl) (Nat.le_of_ble_eq_true rfl) dX0_put_46
    have h := (if_neg hc).symm.trans h
    refine kr_iload C 4 dX0_put_28 rfl ?_
    refine kr_aload_n C 0 dX0_put_30 rfl rfl ?_
    refine kr_get C inX0_put_X0 _ (hW0 _) rfl 0 (by decide) flX0_put_13 rfl rfl dX0_put_31 ?_
    refine kr_alen C _ 0 (hW1 _) rfl rfl dX0_put_34 ?_
    refine kr_icmp_ge C 46 dX0_put_35 (by decide) (fun hc => ?_) (fun hc => ?_)
    · have h := (if_pos hc).symm.trans h
      cases h
      exact kr_ret_v C (Nat.le_of_ble_eq_true rfl) (Nat.le_of_ble_eq_true rfl) dX0_put_46
    have h := (if_neg hc).symm.trans h
    refine kr_aload_n C 0 dX0_put_38 rfl rfl ?_
    refine kr_get C inX0_put_X0 _ (hW0 _) rfl 0 (by decide) flX0_put_13 rfl rfl dX0_put_39 ?_
    refine kr_iload C 4 dX0_put_42 rfl ?_
    refine kr_iload_n C 3 dX0_put_44 rfl rfl ?_
    obtain ⟨hb1, h⟩ := kif h
    refine kr_iast C _ (hW1 _) (kin_in hb1) (hW2 _ _) dX0_put_45 ?_
    cases h
    exact kr_ret_v C (Nat.le_of_ble_eq_true rfl) (Nat.le_of_ble_eq_true rfl) dX0_put_46
  have h := (if_neg hc).symm.trans h
  cases h
  exact kr_ret_v C (Nat.le_of_ble_eq_true rfl) (Nat.le_of_ble_eq_true rfl) dX0_put_12
theorem flX0_filled_19 : Cond.fieldLink RX0 19 "FolderKeeper$Grid" "width" "I" ∈ wsX0_filled := by decide +kernel
theorem inX0_filled_X0 : ∀ w ∈ wsX00, w ∈ wsX0_filled := fun _ h => List.mem_cons_of_mem _ (List.mem_append_left _ (List.mem_append_right _ h))
set_option maxHeartbeats 4000000 in
set_option maxRecDepth 100000 in
theorem lc_X0_filled_L4 {K : kEnv} {l : Launch} {D : va_G} {cy : Nat → ClassId} {A : Nat → Prop} {X : va_W} {q0 q1 h0 h1 N : Nat} {wd : Int32} {S : Nat → Int32} {r : Int32} (C : kC K D cy A 4 cX0_filled RX0 wsX0_filled (some .int)) (hW0 : X[q0]? = some (h0, .inr (2, [.ref h1, .int wd]))) (hW1 : X[q1]? = some (h1, .inl (cy 0, N, .inl S))) : ∀ (n : Nat) (x1 x2 x3 : Int32), f_X0_filled_L4 N wd n S x1 x2 x3 = some r → kG K l D A ({ frames := 1, cells := 0, slots := 0, locals := 23 } : Room) 4 (kEnd K D cy A X (some (.int r)) 0 0) X 0 0 4 [(0, .ref (h0)), (1, .int (x1)), (2, .int (x2)), (3, .int (x3))] [] := by
  intro n
  induction n with
  | zero => intro x1 x2 x3 h; rw [f_X0_filled_L4] at h; cases h
  | succ n ih =>
    intro x1 x2 x3 h
    rw [f_X0_filled_L4] at h
    refine kr_iload_n C 3 dX0_filled_4 rfl rfl ?_
    refine kr_aload_n C 0 dX0_filled_5 rfl rfl ?_
    refine kr_get C inX0_filled_X0 _ hW0 rfl 1 (by decide) flX0_filled_19 rfl rfl dX0_filled_6 ?_
    refine kr_icmp_ge C 30 dX0_filled_9 (by decide) (fun hc => ?_) (fun hc => ?_)
    · have h := (if_pos hc).symm.trans h
      refine kr_iload_n C 2 dX0_filled_30 rfl rfl ?_
      cases h
      exact kr_ret_i C (Nat.le_of_ble_eq_true rfl) (Nat.le_of_ble_eq_true rfl) dX0_filled_31
    have h := (if_neg hc).symm.trans h
    refine kr_aload_n C 0 dX0_filled_12 rfl rfl ?_
    refine kr_iload_n C 1 dX0_filled_13 rfl rfl ?_
    refine kr_iload_n C 3 dX0_filled_14 rfl rfl ?_
    obtain ⟨v1, hv1, h⟩ := kob h
    refine kr_callV1 C (k := 2) (As := [.int x1, .int x3]) (rest := []) (c_X0_at hW0 hW1 hv1) gX0_filled_X0_at rfl rfl rfl (by decide +kernel) ⟨(Nat.le_of_ble_eq_true rfl), (Nat.le_of_ble_eq_true rfl)⟩ ⟨(Nat.le_of_ble_eq_true rfl), (Nat.le_of_ble_eq_true rfl)⟩ _ hW0 rfl rfl rfl (Nat.le_of_ble_eq_true rfl) dX0_filled_15 ?_
    refine kr_if_eq C 24 dX0_filled_18 (by decide) (fun hc => ?_) (fun hc => ?_)
    · have h := (if_pos hc).symm.trans h
      refine kr_iinc C (v := (x3 + 1)) 3 [1, 2, 3, 0] dX0_filled_24 rfl rfl (by decide) rfl ?_
      refine kr_goto C 4 dX0_filled_27 (by decide) ?_
      exact ih _ _ _ h
    have h := (if_neg hc).symm.trans h
    refine kr_iinc C (v := (x2 + 1)) 2 [1, 2, 0, 3] dX0_filled_21 rfl rfl (by decide) rfl ?_
    refine kr_iinc C (v := (x3 + 1)) 3 [1, 2, 3, 0] dX0_filled_24 rfl rfl (by decide) rfl ?_
    refine kr_goto C 4 dX0_filled_27 (by decide) ?_
    exact ih _ _ _ h
set_option maxHeartbeats 4000000 in
set_option maxRecDepth 100000 in
theorem c_X0_filled {l : Launch} {D : va_G} {cy : Nat → ClassId} {X : va_W} {q0 q1 h0 h1 N : Nat} {wd : Int32} {S : Nat → Int32} {p1 : Int32} {r : Int32} (hW0 : X[q0]? = some (h0, .inr (2, [.ref h1, .int wd]))) (hW1 : X[q1]? = some (h1, .inl (cy 0, N, .inl S))) (h : f_X0_filled N wd S p1 = some r) : kM l yX0_filled wsX0_filled ({ frames := 1, cells := 0, slots := 0, locals := 23 } : Room) D cy X [.ref (h0), .int p1] X (some (.int r)) 0 0 := by
  rw [f_X0_filled] at h
  refine kM.start (L := [(0, .ref (h0)), (1, .int (p1))]) rfl rfl rfl (Nat.le_of_ble_eq_true rfl) rfl (fun K A C => ?_)
  refine kr_iconst C (v := 0) dX0_filled_0 (by decide) ?_
  refine kr_istore_n C [1, 2, 0] dX0_filled_1 rfl (by decide) rfl ?_
  refine kr_iconst C (v := 0) dX0_filled_2 (by decide) ?_
  refine kr_istore_n C [1, 2, 3, 0] dX0_filled_3 rfl (by decide) rfl ?_
  exact lc_X0_filled_L4 C hW0 hW1 _ _ _ _ h
theorem flX0_clearUpTo_13 : Cond.fieldLink RX0 13 "FolderKeeper$Grid" "cells" "[I" ∈ wsX0_clearUpTo := by decide +kernel
theorem inX0_clearUpTo_X0 : ∀ w ∈ wsX00, w ∈ wsX0_clearUpTo := fun _ h => List.mem_cons_of_mem _ (List.mem_append_left _ (List.mem_append_right _ h))
set_option maxHeartbeats 4000000 in
set_option maxRecDepth 100000 in
theorem lc_X0_clearUpTo_L4 {K : kEnv} {l : Launch} {D : va_G} {cy : Nat → ClassId} {A : Nat → Prop} {Wf : (Nat → Int32) → va_W} {q0 q1 h0 h1 N : Nat} {wd : Int32} {r : (Int32 × (Nat → Int32))} (C : kC K D cy A 4 cX0_clearUpTo RX0 wsX0_clearUpTo (some .int)) (hW0 : ∀ f, (Wf f)[q0]? = some (h0, .inr (2, [.ref h1, .int wd]))) (hW1 : ∀ f, (Wf f)[q1]? = some (h1, .inl (cy 0, N, .inl f))) (hW2 : ∀ f g, (Wf f).set q1 (h1, .inl (cy 0, N, .inl g)) = Wf g) : ∀ (n : Nat) (S : (Nat → Int32)) (x1 x2 x3 : Int32), f_X0_clearUpTo_L4 N wd n S x1 x2 x3 = some r → kG K l D A ({ frames := 0, cells := 0, slots := 0, locals := 0 } : Room) 4 (kEnd K D cy A (Wf r.2) (some (.int r.1)) 0 0) (Wf S) 0 0 4 [(0, .ref (h0)), (1, .int (x1)), (2, .int (x2)), (3, .int (x3))] [] := by
  intro n
  induction n with
  | zero => intro S x1 x2 x3 h; rw [f_X0_clearUpTo_L4] at h; cases h
  | succ n ih =>
    intro S x1 x2 x3 h
    rw [f_X0_clearUpTo_L4] at h
    refine kr_iload_n C 3 dX0_clearUpTo_4 rfl rfl ?_
    refine kr_aload_n C 0 dX0_clearUpTo_5 rfl rfl ?_
    refine kr_get C inX0_clearUpTo_X0 _ (hW0 _) rfl 0 (by decide) flX0_clearUpTo_13 rfl rfl dX0_clearUpTo_6 ?_
    refine kr_alen C _ 0 (hW1 _) rfl rfl dX0_clearUpTo_9 ?_
    refine kr_icmp_ge C 48 dX0_clearUpTo_10 (by decide) (fun hc => ?_) (fun hc => ?_)
    · have h := (if_pos hc).symm.trans h
      refine kr_iload_n C 2 dX0_clearUpTo_48 rfl rfl ?_
      cases h
      exact kr_ret_i C (Nat.le_of_ble_eq_true rfl) (Nat.le_of_ble_eq_true rfl) dX0_clearUpTo_49
    have h := (if_neg hc).symm.trans h
    refine kr_aload_n C 0 dX0_clearUpTo_13 rfl rfl ?_
    refine kr_get C inX0_clearUpTo_X0 _ (hW0 _) rfl 0 (by decide) flX0_clearUpTo_13 rfl rfl dX0_clearUpTo_14 ?_
    refine kr_iload_n C 3 dX0_clearUpTo_17 rfl rfl ?_
    obtain ⟨hb1, h⟩ := kif h
    refine kr_iald C _ (hW1 _) (kin_in hb1) dX0_clearUpTo_18 ?_
    refine kr_if_le C 42 dX0_clearUpTo_19 (by decide) (fun hc => ?_) (fun hc => ?_)
    · have h := (if_pos hc).symm.trans h
      refine kr_iinc C (v := (x3 + 1)) 3 [1, 2, 3, 0] dX0_clearUpTo_42 rfl rfl (by decide) rfl ?_
      refine kr_goto C 4 dX0_clearUpTo_45 (by decide) ?_
      exact ih _ _ _ _ h
    have h := (if_neg hc).symm.trans h
    refine kr_aload_n C 0 dX0_clearUpTo_22 rfl rfl ?_
    refine kr_get C inX0_clearUpTo_X0 _ (hW0 _) rfl 0 (by decide) flX0_clearUpTo_13 rfl rfl dX0_clearUpTo_23 ?_
    refine kr_iload_n C 3 dX0_clearUpTo_26 rfl rfl ?_
    obtain ⟨hb2, h⟩ := kif h
    refine kr_iald C _ (hW1 _) (kin_in hb2) dX0_clearUpTo_27 ?_
    refine kr_iload_n C 1 dX0_clearUpTo_28 rfl rfl ?_
    refine kr_icmp_gt C 42 dX0_clearUpTo_29 (by decide) (fun hc => ?_) (fun hc => ?_)
    · have h := (if_pos hc).symm.trans h
      refine kr_iinc C (v := (x3 + 1)) 3 [1, 2, 3, 0] dX0_clearUpTo_42 rfl rfl (by decide) rfl ?_
      refine kr_goto C 4 dX0_clearUpTo_45 (by decide) ?_
      exact ih _ _ _ _ h
    have h := (if_neg hc).symm.trans h
    refine kr_aload_n C 0 dX0_clearUpTo_32 rfl rfl ?_
    refine kr_get C inX0_clearUpTo_X0 _ (hW0 _) rfl 0 (by decide) flX0_clearUpTo_13 rfl rfl dX0_clearUpTo_33 ?_
    refine kr_iload_n C 3 dX0_clearUpTo_36 rfl rfl ?_
    refine kr_iconst C (v := 0) dX0_clearUpTo_37 (by decide) ?_
    obtain ⟨hb3, h⟩ := kif h
    refine kr_iast C _ (hW1 _) (kin_in hb3) (hW2 _ _) dX0_clearUpTo_38 ?_
    refine kr_iinc C (v := (x2 + 1)) 2 [1, 2, 0, 3] dX0_clearUpTo_39 rfl rfl (by decide) rfl ?_
    refine kr_iinc C (v := (x3 + 1)) 3 [1, 2, 3, 0] dX0_clearUpTo_42 rfl rfl (by decide) rfl ?_
    refine kr_goto C 4 dX0_clearUpTo_45 (by decide) ?_
    exact ih _ _ _ _ h
set_option maxHeartbeats 4000000 in
set_option maxRecDepth 100000 in
theorem c_X0_clearUpTo {l : Launch} {D : va_G} {cy : Nat → ClassId} {Wf : (Nat → Int32) → va_W} {q0 q1 h0 h1 N : Nat} {wd : Int32} {S : (Nat → Int32)} {p1 : Int32} {r : (Int32 × (Nat → Int32))} (hW0 : ∀ f, (Wf f)[q0]? = some (h0, .inr (2, [.ref h1, .int wd]))) (hW1 : ∀ f, (Wf f)[q1]? = some (h1, .inl (cy 0, N, .inl f))) (hW2 : ∀ f g, (Wf f).set q1 (h1, .inl (cy 0, N, .inl g)) = Wf g) (h : f_X0_clearUpTo N wd S p1 = some r) : kM l yX0_clearUpTo wsX0_clearUpTo ({ frames := 0, cells := 0, slots := 0, locals := 0 } : Room) D cy (Wf S) [.ref (h0), .int p1] (Wf r.2) (some (.int r.1)) 0 0 := by
  rw [f_X0_clearUpTo] at h
  refine kM.start (L := [(0, .ref (h0)), (1, .int (p1))]) rfl rfl rfl (Nat.le_of_ble_eq_true rfl) rfl (fun K A C => ?_)
  refine kr_iconst C (v := 0) dX0_clearUpTo_0 (by decide) ?_
  refine kr_istore_n C [1, 2, 0] dX0_clearUpTo_1 rfl (by decide) rfl ?_
  refine kr_iconst C (v := 0) dX0_clearUpTo_2 (by decide) ?_
  refine kr_istore_n C [1, 2, 3, 0] dX0_clearUpTo_3 rfl (by decide) rfl ?_
  exact lc_X0_clearUpTo_L4 C hW0 hW1 hW2 _ _ _ _ _ h
theorem flX1_at_19 : Cond.fieldLink RX1 19 "FolderKeeper$Row" "blank" "I" ∈ wsX1_at := by decide +kernel
theorem inX1_at_X1 : ∀ w ∈ wsX10, w ∈ wsX1_at := fun _ h => List.mem_cons_of_mem _ (List.mem_append_left _ (List.mem_append_right _ h))
theorem flX1_at_13 : Cond.fieldLink RX1 13 "FolderKeeper$Row" "cells" "[I" ∈ wsX1_at := by decide +kernel
set_option maxHeartbeats 4000000 in
set_option maxRecDepth 100000 in
theorem c_X1_at {l : Launch} {D : va_G} {cy : Nat → ClassId} {X : va_W} {q0 q1 h0 h1 N : Nat} {bl : Int32} {S : Nat → Int32} {p1 : Int32} {r : Int32} (hW0 : X[q0]? = some (h0, .inr (3, [.ref h1, .int bl]))) (hW1 : X[q1]? = some (h1, .inl (cy 0, N, .inl S))) (h : f_X1_at N bl S p1 = some r) : kM l yX1_at wsX1_at ({ frames := 0, cells := 0, slots := 0, locals := 0 } : Room) D cy X [.ref (h0), .int p1] X (some (.int r)) 0 0 := by
  rw [f_X1_at] at h
  refine kM.start (L := [(0, .ref (h0)), (1, .int (p1))]) rfl rfl rfl (Nat.le_of_ble_eq_true rfl) rfl (fun K A C => ?_)
  refine kr_iload_n C 1 dX1_at_0 rfl rfl ?_
  refine kr_if_lt C 22 dX1_at_1 (by decide) (fun hc => ?_) (fun hc => ?_)
  · have h := (if_pos hc).symm.trans h
    refine kr_aload_n C 0 dX1_at_22 rfl rfl ?_
    refine kr_get C inX1_at_X1 _ hW0 rfl 1 (by decide) flX1_at_19 rfl rfl dX1_at_23 ?_
    cases h
    exact kr_ret_i C (Nat.le_of_ble_eq_true rfl) (Nat.le_of_ble_eq_true rfl) dX1_at_26
  have h := (if_neg hc).symm.trans h
  refine kr_iload_n C 1 dX1_at_4 rfl rfl ?_
  refine kr_aload_n C 0 dX1_at_5 rfl rfl ?_
  refine kr_get C inX1_at_X1 _ hW0 rfl 0 (by decide) flX1_at_13 rfl rfl dX1_at_6 ?_
  refine kr_alen C _ 0 hW1 rfl rfl dX1_at_9 ?_
  refine kr_icmp_ge C 22 dX1_at_10 (by decide) (fun hc => ?_) (fun hc => ?_)
  · have h := (if_pos hc).symm.trans h
    refine kr_aload_n C 0 dX1_at_22 rfl rfl ?_
    refine kr_get C inX1_at_X1 _ hW0 rfl 1 (by decide) flX1_at_19 rfl rfl dX1_at_23 ?_
    cases h
    exact kr_ret_i C (Nat.le_of_ble_eq_true rfl) (Nat.le_of_ble_eq_true rfl) dX1_at_26
  have h := (if_neg hc).symm.trans h
  refine kr_aload_n C 0 dX1_at_13 rfl rfl ?_
  refine kr_get C inX1_at_X1 _ hW0 rfl 0 (by decide) flX1_at_13 rfl rfl dX1_at_14 ?_
  refine kr_iload_n C 1 dX1_at_17 rfl rfl ?_
  obtain ⟨hb1, h⟩ := kif h
  refine kr_iald C _ hW1 (kin_in hb1) dX1_at_18 ?_
  refine kr_goto C 26 dX1_at_19 (by decide) ?_
  cases h
  exact kr_ret_i C (Nat.le_of_ble_eq_true rfl) (Nat.le_of_ble_eq_true rfl) dX1_at_26
theorem flX1_put_13 : Cond.fieldLink RX1 13 "FolderKeeper$Row" "cells" "[I" ∈ wsX1_put := by decide +kernel
theorem inX1_put_X1 : ∀ w ∈ wsX10, w ∈ wsX1_put := fun _ h => List.mem_cons_of_mem _ (List.mem_append_left _ (List.mem_append_right _ h))
set_option maxHeartbeats 4000000 in
set_option maxRecDepth 100000 in
theorem c_X1_put {l : Launch} {D : va_G} {cy : Nat → ClassId} {Wf : (Nat → Int32) → va_W} {q0 q1 h0 h1 N : Nat} {bl : Int32} {S : (Nat → Int32)} {p1 : Int32} {p2 : Int32} {r : (Nat → Int32)} (hW0 : ∀ f, (Wf f)[q0]? = some (h0, .inr (3, [.ref h1, .int bl]))) (hW1 : ∀ f, (Wf f)[q1]? = some (h1, .inl (cy 0, N, .inl f))) (hW2 : ∀ f g, (Wf f).set q1 (h1, .inl (cy 0, N, .inl g)) = Wf g) (h : f_X1_put N bl S p1 p2 = some r) : kM l yX1_put wsX1_put ({ frames := 0, cells := 0, slots := 0, locals := 0 } : Room) D cy (Wf S) [.ref (h0), .int p1, .int p2] (Wf r) none 0 0 := by
  rw [f_X1_put] at h
  refine kM.start (L := [(0, .ref (h0)), (1, .int (p1)), (2, .int (p2))]) rfl rfl rfl (Nat.le_of_ble_eq_true rfl) rfl (fun K A C => ?_)
  refine kr_iload_n C 1 dX1_put_0 rfl rfl ?_
  refine kr_if_lt C 20 dX1_put_1 (by decide) (fun hc => ?_) (fun hc => ?_)
  · have h := (if_pos hc).symm.trans h
    cases h
    exact kr_ret_v C (Nat.le_of_ble_eq_true rfl) (Nat.le_of_ble_eq_true rfl) dX1_put_20
  have h := (if_neg hc).symm.trans h
  refine kr_iload_n C 1 dX1_put_4 rfl rfl ?_
  refine kr_aload_n C 0 dX1_put_5 rfl rfl ?_
  refine kr_get C inX1_put_X1 _ (hW0 _) rfl 0 (by decide) flX1_put_13 rfl rfl dX1_put_6 ?_
  refine kr_alen C _ 0 (hW1 _) rfl rfl dX1_put_9 ?_
  refine kr_icmp_ge C 20 dX1_put_10 (by decide) (fun hc => ?_) (fun hc => ?_)
  · have h := (if_pos hc).symm.trans h
    cases h
    exact kr_ret_v C (Nat.le_of_ble_eq_true rfl) (Nat.le_of_ble_eq_true rfl) dX1_put_20
  have h := (if_neg hc).symm.trans h
  refine kr_aload_n C 0 dX1_put_13 rfl rfl ?_
  refine kr_get C inX1_put_X1 _ (hW0 _) rfl 0 (by decide) flX1_put_13 rfl rfl dX1_put_14 ?_
  refine kr_iload_n C 1 dX1_put_17 rfl rfl ?_
  refine kr_iload_n C 2 dX1_put_18 rfl rfl ?_
  obtain ⟨hb1, h⟩ := kif h
  refine kr_iast C _ (hW1 _) (kin_in hb1) (hW2 _ _) dX1_put_19 ?_
  cases h
  exact kr_ret_v C (Nat.le_of_ble_eq_true rfl) (Nat.le_of_ble_eq_true rfl) dX1_put_20
theorem cwJ6_bitCount_0f7a4_265 : Cond.constant RJ6 265 (1431655765) ∈ wsJ6_bitCount_0f7a4 := by decide +kernel
theorem cwJ6_bitCount_0f7a4_266 : Cond.constant RJ6 266 (858993459) ∈ wsJ6_bitCount_0f7a4 := by decide +kernel
theorem cwJ6_bitCount_0f7a4_267 : Cond.constant RJ6 267 (252645135) ∈ wsJ6_bitCount_0f7a4 := by decide +kernel
set_option maxHeartbeats 4000000 in
set_option maxRecDepth 100000 in
theorem c_J6_bitCount_0f7a4 {l : Launch} {D : va_G} {cy : Nat → ClassId} {X : va_W} {p1 : Int32} {r : Int32} (h : f_J6_bitCount_0f7a4 p1 = some r) : kM l yJ6_bitCount_0f7a4 wsJ6_bitCount_0f7a4 ({ frames := 0, cells := 0, slots := 0, locals := 0 } : Room) D cy X [.int p1] X (some (.int r)) 0 0 := by
  rw [f_J6_bitCount_0f7a4] at h
  refine kM.start (L := [(0, .int (p1))]) rfl rfl rfl (Nat.le_of_ble_eq_true rfl) rfl (fun K A C => ?_)
  refine kr_iload_n C 0 dJ6_bitCount_0f7a4_0 rfl rfl ?_
  refine kr_iload_n C 0 dJ6_bitCount_0f7a4_1 rfl rfl ?_
  refine kr_iconst C (v := 1) dJ6_bitCount_0f7a4_2 (by decide) ?_
  refine kr_iushr C dJ6_bitCount_0f7a4_3 ?_
  refine kr_ldcw C cwJ6_bitCount_0f7a4_265 dJ6_bitCount_0f7a4_4 ?_
  refine kr_iand C dJ6_bitCount_0f7a4_7 ?_
  refine kr_isub C dJ6_bitCount_0f7a4_8 ?_
  refine kr_istore_n C [0] dJ6_bitCount_0f7a4_9 rfl (by decide) rfl ?_
  refine kr_iload_n C 0 dJ6_bitCount_0f7a4_10 rfl rfl ?_
  refine kr_ldcw C cwJ6_bitCount_0f7a4_266 dJ6_bitCount_0f7a4_11 ?_
  refine kr_iand C dJ6_bitCount_0f7a4_14 ?_
  refine kr_iload_n C 0 dJ6_bitCount_0f7a4_15 rfl rfl ?_
  refine kr_iconst C (v := 2) dJ6_bitCount_0f7a4_16 (by decide) ?_
  refine kr_iushr C dJ6_bitCount_0f7a4_17 ?_
  refine kr_ldcw C cwJ6_bitCount_0f7a4_266 dJ6_bitCount_0f7a4_18 ?_
  refine kr_iand C dJ6_bitCount_0f7a4_21 ?_
  refine kr_iadd C dJ6_bitCount_0f7a4_22 ?_
  obtain ⟨v1, hv1, h⟩ := kob h
  refine kr_rw (Option.some.inj hv1) ?_
  refine kr_istore_n C [0] dJ6_bitCount_0f7a4_23 rfl (by decide) rfl ?_
  refine kr_iload_n C 0 dJ6_bitCount_0f7a4_24 rfl rfl ?_
  refine kr_iload_n C 0 dJ6_bitCount_0f7a4_25 rfl rfl ?_
  refine kr_iconst C (v := 4) dJ6_bitCount_0f7a4_26 (by decide) ?_
  refine kr_iushr C dJ6_bitCount_0f7a4_27 ?_
  refine kr_iadd C dJ6_bitCount_0f7a4_28 ?_
  refine kr_ldcw C cwJ6_bitCount_0f7a4_267 dJ6_bitCount_0f7a4_29 ?_
  refine kr_iand C dJ6_bitCount_0f7a4_32 ?_
  refine kr_istore_n C [0] dJ6_bitCount_0f7a4_33 rfl (by decide) rfl ?_
  refine kr_iload_n C 0 dJ6_bitCount_0f7a4_34 rfl rfl ?_
  refine kr_iload_n C 0 dJ6_bitCount_0f7a4_35 rfl rfl ?_
  refine kr_bipush C (v := 8) dJ6_bitCount_0f7a4_36 (by decide) ?_
  refine kr_iushr C dJ6_bitCount_0f7a4_38 ?_
  refine kr_iadd C dJ6_bitCount_0f7a4_39 ?_
  obtain ⟨v2, hv2, h⟩ := kob h
  refine kr_rw (Option.some.inj hv2) ?_
  refine kr_istore_n C [0] dJ6_bitCount_0f7a4_40 rfl (by decide) rfl ?_
  refine kr_iload_n C 0 dJ6_bitCount_0f7a4_41 rfl rfl ?_
  refine kr_iload_n C 0 dJ6_bitCount_0f7a4_42 rfl rfl ?_
  refine kr_bipush C (v := 16) dJ6_bitCount_0f7a4_43 (by decide) ?_
  refine kr_iushr C dJ6_bitCount_0f7a4_45 ?_
  refine kr_iadd C dJ6_bitCount_0f7a4_46 ?_
  refine kr_istore_n C [0] dJ6_bitCount_0f7a4_47 rfl (by decide) rfl ?_
  refine kr_iload_n C 0 dJ6_bitCount_0f7a4_48 rfl rfl ?_
  refine kr_bipush C (v := 63) dJ6_bitCount_0f7a4_49 (by decide) ?_
  refine kr_iand C dJ6_bitCount_0f7a4_51 ?_
  cases h
  exact kr_ret_i C (Nat.le_of_ble_eq_true rfl) (Nat.le_of_ble_eq_true rfl) dJ6_bitCount_0f7a4_52
theorem flX2_active_47 : Cond.fieldLink RX2 47 "FolderKeeper" "activeAccounts" "I" ∈ wsX2_active := by decide +kernel
theorem inX2_active_X2 : ∀ w ∈ wsX20, w ∈ wsX2_active := fun _ h => List.mem_cons_of_mem _ (List.mem_append_right _ h)
set_option maxHeartbeats 4000000 in
set_option maxRecDepth 100000 in
theorem c_X2_active {l : Launch} {D : va_G} {cy : Nat → ClassId} {a : Nat → Nat} {Z : va_W} {S : kSt} {r : Int32} (h : f_X2_active S = some r) : kM l yX2_active wsX2_active ({ frames := 1, cells := 0, slots := 0, locals := 20 } : Room) D cy (xw a cy S Z) [.ref (a 0)] (xw a cy S Z) (some (.int r)) 0 0 := by
  rw [f_X2_active] at h
  refine kM.start (L := [(0, .ref (a 0))]) rfl rfl rfl (Nat.le_of_ble_eq_true rfl) rfl (fun K A C => ?_)
  refine kr_aload_n C 0 dX2_active_0 rfl rfl ?_
  refine kr_get C inX2_active_X2 0 rfl rfl 5 (by decide) flX2_active_47 rfl rfl dX2_active_1 ?_
  obtain ⟨v1, hv1, h⟩ := kob h
  refine kr_callS1 C (k := 1) (As := [.int (S.1 5)]) (rest := []) (c_J6_bitCount_0f7a4 hv1) gX2_active_J6_bitCount_0f7a4 rfl rfl rfl (by decide +kernel) ⟨(Nat.le_of_ble_eq_true rfl), (Nat.le_of_ble_eq_true rfl)⟩ ⟨(Nat.le_of_ble_eq_true rfl), (Nat.le_of_ble_eq_true rfl)⟩ rfl rfl (Nat.le_of_ble_eq_true rfl) dX2_active_4 ?_
  cases h
  exact kr_ret_i C (Nat.le_of_ble_eq_true rfl) (Nat.le_of_ble_eq_true rfl) dX2_active_7
set_option maxHeartbeats 4000000 in
set_option maxRecDepth 100000 in
theorem c_X2_contains {l : Launch} {D : va_G} {cy : Nat → ClassId} {X : va_W} {p1 : Int32} {p2 : Int32} {r : Bool} (h : f_X2_contains p1 p2 = some r) : kM l yX2_contains wsX2_contains ({ frames := 0, cells := 0, slots := 0, locals := 0 } : Room) D cy X [.int p1, .int p2] X (some (.int (b2i r))) 0 0 := by
  rw [f_X2_contains] at h
  refine kM.start (L := [(0, .int (p1)), (1, .int (p2))]) rfl rfl rfl (Nat.le_of_ble_eq_true rfl) rfl (fun K A C => ?_)
  refine kr_iload_n C 1 dX2_contains_0 rfl rfl ?_
  refine kr_if_lt C 22 dX2_contains_1 (by decide) (fun hc => ?_) (fun hc => ?_)
  · have h := (if_pos hc).symm.trans h
    refine kr_iconst C (v := 0) dX2_contains_22 (by decide) ?_
    cases h
    exact kr_ret_z (v := b2i false) C (nar_b _) (Nat.le_of_ble_eq_true rfl) (Nat.le_of_ble_eq_true rfl) dX2_contains_23
  have h := (if_neg hc).symm.trans h
  refine kr_iload_n C 1 dX2_contains_4 rfl rfl ?_
  refine kr_bipush C (v := 32) dX2_contains_5 (by decide) ?_
  refine kr_icmp_ge C 22 dX2_contains_7 (by decide) (fun hc => ?_) (fun hc => ?_)
  · have h := (if_pos hc).symm.trans h
    refine kr_iconst C (v := 0) dX2_contains_22 (by decide) ?_
    cases h
    exact kr_ret_z (v := b2i false) C (nar_b _) (Nat.le_of_ble_eq_true rfl) (Nat.le_of_ble_eq_true rfl) dX2_contains_23
  have h := (if_neg hc).symm.trans h
  refine kr_iload_n C 0 dX2_contains_10 rfl rfl ?_
  refine kr_iload_n C 1 dX2_contains_11 rfl rfl ?_
  refine kr_iushr C dX2_contains_12 ?_
  refine kr_iconst C (v := 1) dX2_contains_13 (by decide) ?_
  refine kr_iand C dX2_contains_14 ?_
  refine kr_if_eq C 22 dX2_contains_15 (by decide) (fun hc => ?_) (fun hc => ?_)
  · have h := (if_pos hc).symm.trans h
    refine kr_iconst C (v := 0) dX2_contains_22 (by decide) ?_
    cases h
    exact kr_ret_z (v := b2i false) C (nar_b _) (Nat.le_of_ble_eq_true rfl) (Nat.le_of_ble_eq_true rfl) dX2_contains_23
  have h := (if_neg hc).symm.trans h
  refine kr_iconst C (v := 1) dX2_contains_18 (by decide) ?_
  refine kr_goto C 23 dX2_contains_19 (by decide) ?_
  cases h
  exact kr_ret_z (v := b2i true) C (nar_b _) (Nat.le_of_ble_eq_true rfl) (Nat.le_of_ble_eq_true rfl) dX2_contains_23
theorem flX2_isActive_47 : Cond.fieldLink RX2 47 "FolderKeeper" "activeAccounts" "I" ∈ wsX2_isActive := by decide +kernel
theorem inX2_isActive_X2 : ∀ w ∈ wsX20, w ∈ wsX2_isActive := fun _ h => List.mem_cons_of_mem _ (List.mem_append_right _ h)
set_option maxHeartbeats 4000000 in
set_option maxRecDepth 100000 in
theorem c_X2_isActive {l : Launch} {D : va_G} {cy : Nat → ClassId} {a : Nat → Nat} {Z : va_W} {S : kSt} {p1 : Int32} {r : Bool} (h : f_X2_isActive S p1 = some r) : kM l yX2_isActive wsX2_isActive ({ frames := 1, cells := 0, slots := 0, locals := 21 } : Room) D cy (xw a cy S Z) [.ref (a 0), .int p1] (xw a cy S Z) (some (.int (b2i r))) 0 0 := by
  rw [f_X2_isActive] at h
  refine kM.start (L := [(0, .ref (a 0)), (1, .int (p1))]) rfl rfl rfl (Nat.le_of_ble_eq_true rfl) rfl (fun K A C => ?_)
  refine kr_aload_n C 0 dX2_isActive_0 rfl rfl ?_
  refine kr_get C inX2_isActive_X2 0 rfl rfl 5 (by decide) flX2_isActive_47 rfl rfl dX2_isActive_1 ?_
  refine kr_iload_n C 1 dX2_isActive_4 rfl rfl ?_
  obtain ⟨v1, hv1, h⟩ := kob h
  refine kr_callS1 C (k := 2) (As := [.int (S.1 5), .int p1]) (rest := []) (c_X2_contains hv1) gX2_isActive_X2_contains rfl rfl rfl (by decide +kernel) ⟨(Nat.le_of_ble_eq_true rfl), (Nat.le_of_ble_eq_true rfl)⟩ ⟨(Nat.le_of_ble_eq_true rfl), (Nat.le_of_ble_eq_true rfl)⟩ rfl rfl (Nat.le_of_ble_eq_true rfl) dX2_isActive_5 ?_
  cases h
  exact kr_ret_z C (nar_b _) (Nat.le_of_ble_eq_true rfl) (Nat.le_of_ble_eq_true rfl) dX2_isActive_8
theorem flX2_isMember_30 : Cond.fieldLink RX2 30 "FolderKeeper" "accountEnds" "LFolderKeeper$Grid;" ∈ wsX2_isMember := by decide +kernel
theorem inX2_isMember_X2 : ∀ w ∈ wsX20, w ∈ wsX2_isMember := fun _ h => List.mem_cons_of_mem _ (List.mem_append_left _ (List.mem_append_left _ (List.mem_append_right _ h)))
set_option maxHeartbeats 4000000 in
set_option maxRecDepth 100000 in
theorem c_X2_isMember {l : Launch} {D : va_G} {cy : Nat → ClassId} {a : Nat → Nat} {Z : va_W} {S : kSt} {p1 : Int32} {p2 : Int32} {r : Bool} (h : f_X2_isMember S p1 p2 = some r) : kM l yX2_isMember wsX2_isMember ({ frames := 1, cells := 0, slots := 0, locals := 23 } : Room) D cy (xw a cy S Z) [.ref (a 0), .int p1, .int p2] (xw a cy S Z) (some (.int (b2i r))) 0 0 := by
  rw [f_X2_isMember] at h
  refine kM.start (L := [(0, .ref (a 0)), (1, .int (p1)), (2, .int (p2))]) rfl rfl rfl (Nat.le_of_ble_eq_true rfl) rfl (fun K A C => ?_)
  refine kr_aload_n C 0 dX2_isMember_0 rfl rfl ?_
  refine kr_get C inX2_isMember_X2 0 rfl rfl 12 (by decide) flX2_isMember_30 rfl rfl dX2_isMember_1 ?_
  refine kr_iload_n C 2 dX2_isMember_4 rfl rfl ?_
  refine kr_iload_n C 1 dX2_isMember_5 rfl rfl ?_
  obtain ⟨v1, hv1, h⟩ := kob h
  refine kr_callV1 C (k := 2) (As := [.int p2, .int p1]) (rest := []) (c_X0_at (q0 := 5) (q1 := 13) rfl rfl hv1) gX2_isMember_X0_at rfl rfl rfl (by decide +kernel) ⟨(Nat.le_of_ble_eq_true rfl), (Nat.le_of_ble_eq_true rfl)⟩ ⟨(Nat.le_of_ble_eq_true rfl), (Nat.le_of_ble_eq_true rfl)⟩ 5 rfl rfl rfl rfl (Nat.le_of_ble_eq_true rfl) dX2_isMember_6 ?_
  refine kr_if_eq C 16 dX2_isMember_9 (by decide) (fun hc => ?_) (fun hc => ?_)
  · have h := (if_pos hc).symm.trans h
    refine kr_iconst C (v := 0) dX2_isMember_16 (by decide) ?_
    cases h
    exact kr_ret_z (v := b2i false) C (nar_b _) (Nat.le_of_ble_eq_true rfl) (Nat.le_of_ble_eq_true rfl) dX2_isMember_17
  have h := (if_neg hc).symm.trans h
  refine kr_iconst C (v := 1) dX2_isMember_12 (by decide) ?_
  refine kr_goto C 17 dX2_isMember_13 (by decide) ?_
  cases h
  exact kr_ret_z (v := b2i true) C (nar_b _) (Nat.le_of_ble_eq_true rfl) (Nat.le_of_ble_eq_true rfl) dX2_isMember_17
set_option maxHeartbeats 4000000 in
set_option maxRecDepth 100000 in
theorem c_X2_with {l : Launch} {D : va_G} {cy : Nat → ClassId} {X : va_W} {p1 : Int32} {p2 : Int32} {r : Int32} (h : f_X2_with p1 p2 = some r) : kM l yX2_with wsX2_with ({ frames := 0, cells := 0, slots := 0, locals := 0 } : Room) D cy X [.int p1, .int p2] X (some (.int r)) 0 0 := by
  rw [f_X2_with] at h
  refine kM.start (L := [(0, .int (p1)), (1, .int (p2))]) rfl rfl rfl (Nat.le_of_ble_eq_true rfl) rfl (fun K A C => ?_)
  refine kr_iload_n C 0 dX2_with_0 rfl rfl ?_
  refine kr_iconst C (v := 1) dX2_with_1 (by decide) ?_
  refine kr_iload_n C 1 dX2_with_2 rfl rfl ?_
  refine kr_ishl C dX2_with_3 ?_
  refine kr_ior C dX2_with_4 ?_
  cases h
  exact kr_ret_i C (Nat.le_of_ble_eq_true rfl) (Nat.le_of_ble_eq_true rfl) dX2_with_5
theorem flX2_isNested_34 : Cond.fieldLink RX2 34 "FolderKeeper" "groupEnds" "LFolderKeeper$Grid;" ∈ wsX2_isNested := by decide +kernel
theorem inX2_isNested_X2 : ∀ w ∈ wsX20, w ∈ wsX2_isNested := fun _ h => List.mem_cons_of_mem _ (List.mem_append_left _ (List.mem_append_left _ (List.mem_append_right _ h)))
set_option maxHeartbeats 4000000 in
set_option maxRecDepth 100000 in
theorem c_X2_isNested {l : Launch} {D : va_G} {cy : Nat → ClassId} {a : Nat → Nat} {Z : va_W} {S : kSt} {p1 : Int32} {p2 : Int32} {r : Bool} (h : f_X2_isNested S p1 p2 = some r) : kM l yX2_isNested wsX2_isNested ({ frames := 1, cells := 0, slots := 0, locals := 23 } : Room) D cy (xw a cy S Z) [.ref (a 0), .int p1, .int p2] (xw a cy S Z) (some (.int (b2i r))) 0 0 := by
  rw [f_X2_isNested] at h
  refine kM.start (L := [(0, .ref (a 0)), (1, .int (p1)), (2, .int (p2))]) rfl rfl rfl (Nat.le_of_ble_eq_true rfl) rfl (fun K A C => ?_)
  refine kr_aload_n C 0 dX2_isNested_0 rfl rfl ?_
  refine kr_get C inX2_isNested_X2 0 rfl rfl 13 (by decide) flX2_isNested_34 rfl rfl dX2_isNested_1 ?_
  refine kr_iload_n C 2 dX2_isNested_4 rfl rfl ?_
  refine kr_iload_n C 1 dX2_isNested_5 rfl rfl ?_
  obtain ⟨v1, hv1, h⟩ := kob h
  refine kr_callV1 C (k := 2) (As := [.int p2, .int p1]) (rest := []) (c_X0_at (q0 := 6) (q1 := 14) rfl rfl hv1) gX2_isNested_X0_at rfl rfl rfl (by decide +kernel) ⟨(Nat.le_of_ble_eq_true rfl), (Nat.le_of_ble_eq_true rfl)⟩ ⟨(Nat.le_of_ble_eq_true rfl), (Nat.le_of_ble_eq_true rfl)⟩ 6 rfl rfl rfl rfl (Nat.le_of_ble_eq_true rfl) dX2_isNested_6 ?_
  refine kr_if_eq C 16 dX2_isNested_9 (by decide) (fun hc => ?_) (fun hc => ?_)
  · have h := (if_pos hc).symm.trans h
    refine kr_iconst C (v := 0) dX2_isNested_16 (by decide) ?_
    cases h
    exact kr_ret_z (v := b2i false) C (nar_b _) (Nat.le_of_ble_eq_true rfl) (Nat.le_of_ble_eq_true rfl) dX2_isNested_17
  have h := (if_neg hc).symm.trans h
  refine kr_iconst C (v := 1) dX2_isNested_12 (by decide) ?_
  refine kr_goto C 17 dX2_isNested_13 (by decide) ?_
  cases h
  exact kr_ret_z (v := b2i true) C (nar_b _) (Nat.le_of_ble_eq_true rfl) (Nat.le_of_ble_eq_true rfl) dX2_isNested_17
theorem flX2_groupsNextAround_77 : Cond.fieldLink RX2 77 "FolderKeeper" "groups" "I" ∈ wsX2_groupsNextAround := by decide +kernel
theorem inX2_groupsNextAround_X2 : ∀ w ∈ wsX20, w ∈ wsX2_groupsNextAround := fun _ h => List.mem_cons_of_mem _ (List.mem_append_left _ (List.mem_append_left _ (List.mem_append_right _ h)))
set_option maxHeartbeats 4000000 in
set_option maxRecDepth 100000 in
theorem lc_X2_groupsNextAround_L4 {K : kEnv} {l : Launch} {D : va_G} {cy : Nat → ClassId} {A : Nat → Prop} {a : Nat → Nat} {Z : va_W} {S : kSt} {r : Int32} (C : kC K D cy A 4 cX2_groupsNextAround RX2 wsX2_groupsNextAround (some .int)) : ∀ (n : Nat) (x1 x2 x3 : Int32), f_X2_groupsNextAround_L4 n S x1 x2 x3 = some r → kG K l D A ({ frames := 2, cells := 0, slots := 0, locals := 45 } : Room) 4 (kEnd K D cy A (xw a cy S Z) (some (.int r)) 0 0) (xw a cy S Z) 0 0 4 [(0, .ref (a 0)), (1, .int (x1)), (2, .int (x2)), (3, .int (x3))] [] := by
  intro n
  induction n with
  | zero => intro x1 x2 x3 h; rw [f_X2_groupsNextAround_L4] at h; cases h
  | succ n ih =>
    intro x1 x2 x3 h
    rw [f_X2_groupsNextAround_L4] at h
    refine kr_iload_n C 3 dX2_groupsNextAround_4 rfl rfl ?_
    refine kr_aload_n C 0 dX2_groupsNextAround_5 rfl rfl ?_
    refine kr_get C inX2_groupsNextAround_X2 0 rfl rfl 1 (by decide) flX2_groupsNextAround_77 rfl rfl dX2_groupsNextAround_6 ?_
    refine kr_icmp_ge C 33 dX2_groupsNextAround_9 (by decide) (fun hc => ?_) (fun hc => ?_)
    · have h := (if_pos hc).symm.trans h
      refine kr_iload_n C 2 dX2_groupsNextAround_33 rfl rfl ?_
      cases h
      exact kr_ret_i C (Nat.le_of_ble_eq_true rfl) (Nat.le_of_ble_eq_true rfl) dX2_groupsNextAround_34
    have h := (if_neg hc).symm.trans h
    refine kr_aload_n C 0 dX2_groupsNextAround_12 rfl rfl ?_
    refine kr_iload_n C 1 dX2_groupsNextAround_13 rfl rfl ?_
    refine kr_iload_n C 3 dX2_groupsNextAround_14 rfl rfl ?_
    obtain ⟨v1, hv1, h⟩ := kob h
    refine kr_callV1 C (k := 2) (As := [.int x1, .int x3]) (rest := []) (c_X2_isNested hv1) gX2_groupsNextAround_X2_isNested rfl rfl rfl (by decide +kernel) ⟨(Nat.le_of_ble_eq_true rfl), (Nat.le_of_ble_eq_true rfl)⟩ ⟨(Nat.le_of_ble_eq_true rfl), (Nat.le_of_ble_eq_true rfl)⟩ 0 rfl rfl rfl rfl (Nat.le_of_ble_eq_true rfl) dX2_groupsNextAround_15 ?_
    refine kr_if_eq C 27 dX2_groupsNextAround_18 (by decide) (fun hc => ?_) (fun hc => ?_)
    · have h := (if_pos hc).symm.trans h
      refine kr_iinc C (v := (x3 + 1)) 3 [1, 2, 3, 0] dX2_groupsNextAround_27 rfl rfl (by decide) rfl ?_
      refine kr_goto C 4 dX2_groupsNextAround_30 (by decide) ?_
      exact ih _ _ _ h
    have h := (if_neg hc).symm.trans h
    refine kr_iload_n C 2 dX2_groupsNextAround_21 rfl rfl ?_
    refine kr_iload_n C 3 dX2_groupsNextAround_22 rfl rfl ?_
    obtain ⟨v2, hv2, h⟩ := kob h
    refine kr_callS1 C (k := 2) (As := [.int x2, .int x3]) (rest := []) (c_X2_with hv2) gX2_groupsNextAround_X2_with rfl rfl rfl (by decide +kernel) ⟨(Nat.le_of_ble_eq_true rfl), (Nat.le_of_ble_eq_true rfl)⟩ ⟨(Nat.le_of_ble_eq_true rfl), (Nat.le_of_ble_eq_true rfl)⟩ rfl rfl (Nat.le_of_ble_eq_true rfl) dX2_groupsNextAround_23 ?_
    refine kr_istore_n C [1, 2, 0, 3] dX2_groupsNextAround_26 rfl (by decide) rfl ?_
    refine kr_iinc C (v := (x3 + 1)) 3 [1, 2, 3, 0] dX2_groupsNextAround_27 rfl rfl (by decide) rfl ?_
    refine kr_goto C 4 dX2_groupsNextAround_30 (by decide) ?_
    exact ih _ _ _ h
set_option maxHeartbeats 4000000 in
set_option maxRecDepth 100000 in
theorem c_X2_groupsNextAround {l : Launch} {D : va_G} {cy : Nat → ClassId} {a : Nat → Nat} {Z : va_W} {S : kSt} {p1 : Int32} {r : Int32} (h : f_X2_groupsNextAround S p1 = some r) : kM l yX2_groupsNextAround wsX2_groupsNextAround ({ frames := 2, cells := 0, slots := 0, locals := 45 } : Room) D cy (xw a cy S Z) [.ref (a 0), .int p1] (xw a cy S Z) (some (.int r)) 0 0 := by
  rw [f_X2_groupsNextAround] at h
  refine kM.start (L := [(0, .ref (a 0)), (1, .int (p1))]) rfl rfl rfl (Nat.le_of_ble_eq_true rfl) rfl (fun K A C => ?_)
  refine kr_iconst C (v := 0) dX2_groupsNextAround_0 (by decide) ?_
  refine kr_istore_n C [1, 2, 0] dX2_groupsNextAround_1 rfl (by decide) rfl ?_
  refine kr_iconst C (v := 0) dX2_groupsNextAround_2 (by decide) ?_
  refine kr_istore_n C [1, 2, 3, 0] dX2_groupsNextAround_3 rfl (by decide) rfl ?_
  exact lc_X2_groupsNextAround_L4 C _ _ _ _ h
theorem flX2_andAllAround_77 : Cond.fieldLink RX2 77 "FolderKeeper" "groups" "I" ∈ wsX2_andAllAround := by decide +kernel
theorem inX2_andAllAround_X2 : ∀ w ∈ wsX20, w ∈ wsX2_andAllAround := fun _ h => List.mem_cons_of_mem _ (List.mem_append_left _ (List.mem_append_left _ (List.mem_append_right _ h)))
set_option maxHeartbeats 4000000 in
set_option maxRecDepth 100000 in
theorem lc_X2_andAllAround_L16 {K : kEnv} {l : Launch} {D : va_G} {cy : Nat → ClassId} {A : Nat → Prop} {a : Nat → Nat} {Z : va_W} {S : kSt} {r : Int32} {Q : State → Prop} (C : kC K D cy A 6 cX2_andAllAround RX2 wsX2_andAllAround (some .int)) : ∀ (n : Nat) (x2 x3 x4 x5 : Int32), f_X2_andAllAround_L16 n S x2 x3 x4 x5 = some r → kG K l D A ({ frames := 3, cells := 0, slots := 0, locals := 68 } : Room) 6 Q (xw a cy S Z) 0 0 49 [(0, .ref (a 0)), (2, .int (r)), (3, .int (x3)), (4, .int (x4))] [] → kG K l D A ({ frames := 3, cells := 0, slots := 0, locals := 68 } : Room) 6 Q (xw a cy S Z) 0 0 16 [(0, .ref (a 0)), (2, .int (x2)), (3, .int (x3)), (4, .int (x4)), (5, .int (x5))] [] := by
  intro n
  induction n with
  | zero => intro x2 x3 x4 x5 h kk; rw [f_X2_andAllAround_L16] at h; cases h
  | succ n ih =>
    intro x2 x3 x4 x5 h kk
    rw [f_X2_andAllAround_L16] at h
    refine kr_iload C 4 dX2_andAllAround_16 rfl ?_
    refine kr_aload_n C 0 dX2_andAllAround_18 rfl rfl ?_
    refine kr_get C inX2_andAllAround_X2 0 rfl rfl 1 (by decide) flX2_andAllAround_77 rfl rfl dX2_andAllAround_19 ?_
    refine kr_icmp_ge C 49 dX2_andAllAround_22 (by decide) (fun hc => ?_) (fun hc => ?_)
    · have h := (if_pos hc).symm.trans h
      cases h
      refine kr_sub [0, 1, 2, 3] rfl ?_
      exact kk
    have h := (if_neg hc).symm.trans h
    refine kr_iload_n C 1 dX2_andAllAround_25 rfl rfl ?_
    refine kr_iload C 4 dX2_andAllAround_26 rfl ?_
    obtain ⟨v1, hv1, h⟩ := kob h
    refine kr_callS1 C (k := 2) (As := [.int x2, .int x5]) (rest := []) (c_X2_contains hv1) gX2_andAllAround_X2_contains rfl rfl rfl (by decide +kernel) ⟨(Nat.le_of_ble_eq_true rfl), (Nat.le_of_ble_eq_true rfl)⟩ ⟨(Nat.le_of_ble_eq_true rfl), (Nat.le_of_ble_eq_true rfl)⟩ rfl rfl (Nat.le_of_ble_eq_true rfl) dX2_andAllAround_28 ?_
    refine kr_if_eq C 43 dX2_andAllAround_31 (by decide) (fun hc => ?_) (fun hc => ?_)
    · have h := (if_pos hc).symm.trans h
      refine kr_iinc C (v := (x5 + 1)) 4 [1, 2, 3, 4, 0] dX2_andAllAround_43 rfl rfl (by decide) rfl ?_
      refine kr_goto C 16 dX2_andAllAround_46 (by decide) ?_
      exact ih _ _ _ _ h kk
    have h := (if_neg hc).symm.trans h
    refine kr_iload_n C 1 dX2_andAllAround_34 rfl rfl ?_
    refine kr_aload_n C 0 dX2_andAllAround_35 rfl rfl ?_
    refine kr_iload C 4 dX2_andAllAround_36 rfl ?_
    obtain ⟨v2, hv2, h⟩ := kob h
    refine kr_callV1 C (k := 1) (As := [.int x5]) (rest := [.int (x2)]) (c_X2_groupsNextAround hv2) gX2_andAllAround_X2_groupsNextAround rfl rfl rfl (by decide +kernel) ⟨(Nat.le_of_ble_eq_true rfl), (Nat.le_of_ble_eq_true rfl)⟩ ⟨(Nat.le_of_ble_eq_true rfl), (Nat.le_of_ble_eq_true rfl)⟩ 0 rfl rfl rfl rfl (Nat.le_of_ble_eq_true rfl) dX2_andAllAround_38 ?_
    refine kr_ior C dX2_andAllAround_41 ?_
    refine kr_istore_n C [1, 0, 2, 3, 4] dX2_andAllAround_42 rfl (by decide) rfl ?_
    refine kr_iinc C (v := (x5 + 1)) 4 [1, 2, 3, 4, 0] dX2_andAllAround_43 rfl rfl (by decide) rfl ?_
    refine kr_goto C 16 dX2_andAllAround_46 (by decide) ?_
    exact ih _ _ _ _ h kk
set_option maxHeartbeats 4000000 in
set_option maxRecDepth 100000 in
theorem lc_X2_andAllAround_L4 {K : kEnv} {l : Launch} {D : va_G} {cy : Nat → ClassId} {A : Nat → Prop} {a : Nat → Nat} {Z : va_W} {S : kSt} {r : Int32} (C : kC K D cy A 6 cX2_andAllAround RX2 wsX2_andAllAround (some .int)) : ∀ (n : Nat) (x2 x3 : Int32), f_X2_andAllAround_L4 n S x2 x3 = some r → kG K l D A ({ frames := 3, cells := 0, slots := 0, locals := 68 } : Room) 6 (kEnd K D cy A (xw a cy S Z) (some (.int r)) 0 0) (xw a cy S Z) 0 0 4 [(0, .ref (a 0)), (2, .int (x2)), (3, .int (x3))] [] := by
  intro n
  induction n with
  | zero => intro x2 x3 h; rw [f_X2_andAllAround_L4] at h; cases h
  | succ n ih =>
    intro x2 x3 h
    rw [f_X2_andAllAround_L4] at h
    refine kr_iload_n C 2 dX2_andAllAround_4 rfl rfl ?_
    refine kr_bipush C (v := 6) dX2_andAllAround_5 (by decide) ?_
    refine kr_icmp_ge C 64 dX2_andAllAround_7 (by decide) (fun hc => ?_) (fun hc => ?_)
    · have h := (if_pos hc).symm.trans h
      refine kr_iload_n C 1 dX2_andAllAround_64 rfl rfl ?_
      cases h
      exact kr_ret_i C (Nat.le_of_ble_eq_true rfl) (Nat.le_of_ble_eq_true rfl) dX2_andAllAround_65
    have h := (if_neg hc).symm.trans h
    refine kr_iload_n C 1 dX2_andAllAround_10 rfl rfl ?_
    refine kr_istore C [1, 2, 3, 0] dX2_andAllAround_11 (by decide) rfl ?_
    refine kr_iconst C (v := 0) dX2_andAllAround_13 (by decide) ?_
    refine kr_istore C [1, 2, 3, 4, 0] dX2_andAllAround_14 (by decide) rfl ?_
    obtain ⟨q3, hq3, h⟩ := kob h
    refine lc_X2_andAllAround_L16 C _ _ _ _ _ hq3 ?_
    refine kr_iload_n C 1 dX2_andAllAround_49 rfl rfl ?_
    refine kr_iload C 3 dX2_andAllAround_50 rfl ?_
    refine kr_icmp_ne C 58 dX2_andAllAround_52 (by decide) (fun hc => ?_) (fun hc => ?_)
    · have h := (if_pos hc).symm.trans h
      refine kr_goto C 64 dX2_andAllAround_55 (by decide) ?_
      refine kr_iload_n C 1 dX2_andAllAround_64 rfl rfl ?_
      cases h
      exact kr_ret_i C (Nat.le_of_ble_eq_true rfl) (Nat.le_of_ble_eq_true rfl) dX2_andAllAround_65
    have h := (if_neg hc).symm.trans h
    refine kr_iinc C (v := (x3 + 1)) 2 [1, 2, 0, 3] dX2_andAllAround_58 rfl rfl (by decide) rfl ?_
    refine kr_goto C 4 dX2_andAllAround_61 (by decide) ?_
    refine kr_sub [0, 1, 2] rfl ?_
    exact ih _ _ h
set_option maxHeartbeats 4000000 in
set_option maxRecDepth 100000 in
theorem c_X2_andAllAround {l : Launch} {D : va_G} {cy : Nat → ClassId} {a : Nat → Nat} {Z : va_W} {S : kSt} {p1 : Int32} {r : Int32} (h : f_X2_andAllAround S p1 = some r) : kM l yX2_andAllAround wsX2_andAllAround ({ frames := 3, cells := 0, slots := 0, locals := 68 } : Room) D cy (xw a cy S Z) [.ref (a 0), .int p1] (xw a cy S Z) (some (.int r)) 0 0 := by
  rw [f_X2_andAllAround] at h
  refine kM.start (L := [(0, .ref (a 0)), (1, .int (p1))]) rfl rfl rfl (Nat.le_of_ble_eq_true rfl) rfl (fun K A C => ?_)
  refine kr_iload_n C 1 dX2_andAllAround_0 rfl rfl ?_
  refine kr_istore_n C [1, 2, 0] dX2_andAllAround_1 rfl (by decide) rfl ?_
  refine kr_iconst C (v := 0) dX2_andAllAround_2 (by decide) ?_
  refine kr_istore_n C [1, 2, 3, 0] dX2_andAllAround_3 rfl (by decide) rfl ?_
  refine kr_sub [0, 2, 3] rfl ?_
  exact lc_X2_andAllAround_L4 C _ _ _ h
theorem flX2_groupsOf_77 : Cond.fieldLink RX2 77 "FolderKeeper" "groups" "I" ∈ wsX2_groupsOf := by decide +kernel
theorem inX2_groupsOf_X2 : ∀ w ∈ wsX20, w ∈ wsX2_groupsOf := fun _ h => List.mem_cons_of_mem _ (List.mem_append_left _ (List.mem_append_left _ (List.mem_append_right _ h)))
set_option maxHeartbeats 4000000 in
set_option maxRecDepth 100000 in
theorem lc_X2_groupsOf_L4 {K : kEnv} {l : Launch} {D : va_G} {cy : Nat → ClassId} {A : Nat → Prop} {a : Nat → Nat} {Z : va_W} {S : kSt} {r : Int32} (C : kC K D cy A 4 cX2_groupsOf RX2 wsX2_groupsOf (some .int)) : ∀ (n : Nat) (x1 x2 x3 : Int32), f_X2_groupsOf_L4 n S x1 x2 x3 = some r → kG K l D A ({ frames := 4, cells := 0, slots := 0, locals := 93 } : Room) 4 (kEnd K D cy A (xw a cy S Z) (some (.int r)) 0 0) (xw a cy S Z) 0 0 4 [(0, .ref (a 0)), (1, .int (x1)), (2, .int (x2)), (3, .int (x3))] [] := by
  intro n
  induction n with
  | zero => intro x1 x2 x3 h; rw [f_X2_groupsOf_L4] at h; cases h
  | succ n ih =>
    intro x1 x2 x3 h
    rw [f_X2_groupsOf_L4] at h
    refine kr_iload_n C 3 dX2_groupsOf_4 rfl rfl ?_
    refine kr_aload_n C 0 dX2_groupsOf_5 rfl rfl ?_
    refine kr_get C inX2_groupsOf_X2 0 rfl rfl 1 (by decide) flX2_groupsOf_77 rfl rfl dX2_groupsOf_6 ?_
    refine kr_icmp_ge C 33 dX2_groupsOf_9 (by decide) (fun hc => ?_) (fun hc => ?_)
    · have h := (if_pos hc).symm.trans h
      refine kr_aload_n C 0 dX2_groupsOf_33 rfl rfl ?_
      refine kr_iload_n C 2 dX2_groupsOf_34 rfl rfl ?_
      obtain ⟨v1, hv1, h⟩ := kob h
      refine kr_callV1 C (k := 1) (As := [.int x2]) (rest := []) (c_X2_andAllAround hv1) gX2_groupsOf_X2_andAllAround rfl rfl rfl (by decide +kernel) ⟨(Nat.le_of_ble_eq_true rfl), (Nat.le_of_ble_eq_true rfl)⟩ ⟨(Nat.le_of_ble_eq_true rfl), (Nat.le_of_ble_eq_true rfl)⟩ 0 rfl rfl rfl rfl (Nat.le_of_ble_eq_true rfl) dX2_groupsOf_35 ?_
      cases h
      exact kr_ret_i C (Nat.le_of_ble_eq_true rfl) (Nat.le_of_ble_eq_true rfl) dX2_groupsOf_38
    have h := (if_neg hc).symm.trans h
    refine kr_aload_n C 0 dX2_groupsOf_12 rfl rfl ?_
    refine kr_iload_n C 1 dX2_groupsOf_13 rfl rfl ?_
    refine kr_iload_n C 3 dX2_groupsOf_14 rfl rfl ?_
    obtain ⟨v2, hv2, h⟩ := kob h
    refine kr_callV1 C (k := 2) (As := [.int x1, .int x3]) (rest := []) (c_X2_isMember hv2) gX2_groupsOf_X2_isMember rfl rfl rfl (by decide +kernel) ⟨(Nat.le_of_ble_eq_true rfl), (Nat.le_of_ble_eq_true rfl)⟩ ⟨(Nat.le_of_ble_eq_true rfl), (Nat.le_of_ble_eq_true rfl)⟩ 0 rfl rfl rfl rfl (Nat.le_of_ble_eq_true rfl) dX2_groupsOf_15 ?_
    refine kr_if_eq C 27 dX2_groupsOf_18 (by decide) (fun hc => ?_) (fun hc => ?_)
    · have h := (if_pos hc).symm.trans h
      refine kr_iinc C (v := (x3 + 1)) 3 [1, 2, 3, 0] dX2_groupsOf_27 rfl rfl (by decide) rfl ?_
      refine kr_goto C 4 dX2_groupsOf_30 (by decide) ?_
      exact ih _ _ _ h
    have h := (if_neg hc).symm.trans h
    refine kr_iload_n C 2 dX2_groupsOf_21 rfl rfl ?_
    refine kr_iload_n C 3 dX2_groupsOf_22 rfl rfl ?_
    obtain ⟨v3, hv3, h⟩ := kob h
    refine kr_callS1 C (k := 2) (As := [.int x2, .int x3]) (rest := []) (c_X2_with hv3) gX2_groupsOf_X2_with rfl rfl rfl (by decide +kernel) ⟨(Nat.le_of_ble_eq_true rfl), (Nat.le_of_ble_eq_true rfl)⟩ ⟨(Nat.le_of_ble_eq_true rfl), (Nat.le_of_ble_eq_true rfl)⟩ rfl rfl (Nat.le_of_ble_eq_true rfl) dX2_groupsOf_23 ?_
    refine kr_istore_n C [1, 2, 0, 3] dX2_groupsOf_26 rfl (by decide) rfl ?_
    refine kr_iinc C (v := (x3 + 1)) 3 [1, 2, 3, 0] dX2_groupsOf_27 rfl rfl (by decide) rfl ?_
    refine kr_goto C 4 dX2_groupsOf_30 (by decide) ?_
    exact ih _ _ _ h
set_option maxHeartbeats 4000000 in
set_option maxRecDepth 100000 in
theorem c_X2_groupsOf {l : Launch} {D : va_G} {cy : Nat → ClassId} {a : Nat → Nat} {Z : va_W} {S : kSt} {p1 : Int32} {r : Int32} (h : f_X2_groupsOf S p1 = some r) : kM l yX2_groupsOf wsX2_groupsOf ({ frames := 4, cells := 0, slots := 0, locals := 93 } : Room) D cy (xw a cy S Z) [.ref (a 0), .int p1] (xw a cy S Z) (some (.int r)) 0 0 := by
  rw [f_X2_groupsOf] at h
  refine kM.start (L := [(0, .ref (a 0)), (1, .int (p1))]) rfl rfl rfl (Nat.le_of_ble_eq_true rfl) rfl (fun K A C => ?_)
  refine kr_iconst C (v := 0) dX2_groupsOf_0 (by decide) ?_
  refine kr_istore_n C [1, 2, 0] dX2_groupsOf_1 rfl (by decide) rfl ?_
  refine kr_iconst C (v := 0) dX2_groupsOf_2 (by decide) ?_
  refine kr_istore_n C [1, 2, 3, 0] dX2_groupsOf_3 rfl (by decide) rfl ?_
  exact lc_X2_groupsOf_L4 C _ _ _ _ h
theorem flX2_activeIn_43 : Cond.fieldLink RX2 43 "FolderKeeper" "accounts" "I" ∈ wsX2_activeIn := by decide +kernel
theorem inX2_activeIn_X2 : ∀ w ∈ wsX20, w ∈ wsX2_activeIn := fun _ h => List.mem_cons_of_mem _ (List.mem_append_left _ (List.mem_append_left _ (List.mem_append_right _ h)))
set_option maxHeartbeats 4000000 in
set_option maxRecDepth 100000 in
theorem lc_X2_activeIn_L4 {K : kEnv} {l : Launch} {D : va_G} {cy : Nat → ClassId} {A : Nat → Prop} {a : Nat → Nat} {Z : va_W} {S : kSt} {r : Int32} (C : kC K D cy A 4 cX2_activeIn RX2 wsX2_activeIn (some .int)) : ∀ (n : Nat) (x1 x2 x3 : Int32), f_X2_activeIn_L4 n S x1 x2 x3 = some r → kG K l D A ({ frames := 5, cells := 0, slots := 0, locals := 116 } : Room) 4 (kEnd K D cy A (xw a cy S Z) (some (.int r)) 0 0) (xw a cy S Z) 0 0 4 [(0, .ref (a 0)), (1, .int (x1)), (2, .int (x2)), (3, .int (x3))] [] := by
  intro n
  induction n with
  | zero => intro x1 x2 x3 h; rw [f_X2_activeIn_L4] at h; cases h
  | succ n ih =>
    intro x1 x2 x3 h
    rw [f_X2_activeIn_L4] at h
    refine kr_iload_n C 3 dX2_activeIn_4 rfl rfl ?_
    refine kr_aload_n C 0 dX2_activeIn_5 rfl rfl ?_
    refine kr_get C inX2_activeIn_X2 0 rfl rfl 0 (by decide) flX2_activeIn_43 rfl rfl dX2_activeIn_6 ?_
    refine kr_icmp_ge C 41 dX2_activeIn_9 (by decide) (fun hc => ?_) (fun hc => ?_)
    · have h := (if_pos hc).symm.trans h
      refine kr_iload_n C 2 dX2_activeIn_41 rfl rfl ?_
      cases h
      exact kr_ret_i C (Nat.le_of_ble_eq_true rfl) (Nat.le_of_ble_eq_true rfl) dX2_activeIn_42
    have h := (if_neg hc).symm.trans h
    refine kr_aload_n C 0 dX2_activeIn_12 rfl rfl ?_
    refine kr_iload_n C 3 dX2_activeIn_13 rfl rfl ?_
    obtain ⟨v1, hv1, h⟩ := kob h
    refine kr_callV1 C (k := 1) (As := [.int x3]) (rest := []) (c_X2_isActive hv1) gX2_activeIn_X2_isActive rfl rfl rfl (by decide +kernel) ⟨(Nat.le_of_ble_eq_true rfl), (Nat.le_of_ble_eq_true rfl)⟩ ⟨(Nat.le_of_ble_eq_true rfl), (Nat.le_of_ble_eq_true rfl)⟩ 0 rfl rfl rfl rfl (Nat.le_of_ble_eq_true rfl) dX2_activeIn_14 ?_
    refine kr_if_eq C 35 dX2_activeIn_17 (by decide) (fun hc => ?_) (fun hc => ?_)
    · have h := (if_pos hc).symm.trans h
      refine kr_iinc C (v := (x3 + 1)) 3 [1, 2, 3, 0] dX2_activeIn_35 rfl rfl (by decide) rfl ?_
      refine kr_goto C 4 dX2_activeIn_38 (by decide) ?_
      exact ih _ _ _ h
    have h := (if_neg hc).symm.trans h
    refine kr_aload_n C 0 dX2_activeIn_20 rfl rfl ?_
    refine kr_iload_n C 3 dX2_activeIn_21 rfl rfl ?_
    obtain ⟨v2, hv2, h⟩ := kob h
    refine kr_callV1 C (k := 1) (As := [.int x3]) (rest := []) (c_X2_groupsOf hv2) gX2_activeIn_X2_groupsOf rfl rfl rfl (by decide +kernel) ⟨(Nat.le_of_ble_eq_true rfl), (Nat.le_of_ble_eq_true rfl)⟩ ⟨(Nat.le_of_ble_eq_true rfl), (Nat.le_of_ble_eq_true rfl)⟩ 0 rfl rfl rfl rfl (Nat.le_of_ble_eq_true rfl) dX2_activeIn_22 ?_
    refine kr_iload_n C 1 dX2_activeIn_25 rfl rfl ?_
    obtain ⟨v3, hv3, h⟩ := kob h
    refine kr_callS1 C (k := 2) (As := [.int v2, .int x1]) (rest := []) (c_X2_contains hv3) gX2_activeIn_X2_contains rfl rfl rfl (by decide +kernel) ⟨(Nat.le_of_ble_eq_true rfl), (Nat.le_of_ble_eq_true rfl)⟩ ⟨(Nat.le_of_ble_eq_true rfl), (Nat.le_of_ble_eq_true rfl)⟩ rfl rfl (Nat.le_of_ble_eq_true rfl) dX2_activeIn_26 ?_
    refine kr_if_eq C 35 dX2_activeIn_29 (by decide) (fun hc => ?_) (fun hc => ?_)
    · have h := (if_pos hc).symm.trans h
      refine kr_iinc C (v := (x3 + 1)) 3 [1, 2, 3, 0] dX2_activeIn_35 rfl rfl (by decide) rfl ?_
      refine kr_goto C 4 dX2_activeIn_38 (by decide) ?_
      exact ih _ _ _ h
    have h := (if_neg hc).symm.trans h
    refine kr_iinc C (v := (x2 + 1)) 2 [1, 2, 0, 3] dX2_activeIn_32 rfl rfl (by decide) rfl ?_
    refine kr_iinc C (v := (x3 + 1)) 3 [1, 2, 3, 0] dX2_activeIn_35 rfl rfl (by decide) rfl ?_
    refine kr_goto C 4 dX2_activeIn_38 (by decide) ?_
    exact ih _ _ _ h
set_option maxHeartbeats 4000000 in
set_option maxRecDepth 100000 in
theorem c_X2_activeIn {l : Launch} {D : va_G} {cy : Nat → ClassId} {a : Nat → Nat} {Z : va_W} {S : kSt} {p1 : Int32} {r : Int32} (h : f_X2_activeIn S p1 = some r) : kM l yX2_activeIn wsX2_activeIn ({ frames := 5, cells := 0, slots := 0, locals := 116 } : Room) D cy (xw a cy S Z) [.ref (a 0), .int p1] (xw a cy S Z) (some (.int r)) 0 0 := by
  rw [f_X2_activeIn] at h
  refine kM.start (L := [(0, .ref (a 0)), (1, .int (p1))]) rfl rfl rfl (Nat.le_of_ble_eq_true rfl) rfl (fun K A C => ?_)
  refine kr_iconst C (v := 0) dX2_activeIn_0 (by decide) ?_
  refine kr_istore_n C [1, 2, 0] dX2_activeIn_1 rfl (by decide) rfl ?_
  refine kr_iconst C (v := 0) dX2_activeIn_2 (by decide) ?_
  refine kr_istore_n C [1, 2, 3, 0] dX2_activeIn_3 rfl (by decide) rfl ?_
  exact lc_X2_activeIn_L4 C _ _ _ _ h
theorem flX2_addAccount_43 : Cond.fieldLink RX2 43 "FolderKeeper" "accounts" "I" ∈ wsX2_addAccount := by decide +kernel
theorem inX2_addAccount_X2 : ∀ w ∈ wsX20, w ∈ wsX2_addAccount := fun _ h => List.mem_cons_of_mem _ (List.mem_append_left _ (List.mem_append_right _ h))
theorem flX2_addAccount_47 : Cond.fieldLink RX2 47 "FolderKeeper" "activeAccounts" "I" ∈ wsX2_addAccount := by decide +kernel
theorem atX2_addAccount_54 : ∀ w ∈ (vx_atS RX2 54 "java/lang/IllegalStateException" ["java/lang/RuntimeException", "java/lang/Exception"]).filter goodWord, w ∈ wsX2_addAccount := fun _ h => List.mem_cons_of_mem _ (List.mem_append_right _ h)
theorem ckX2_addAccount_50 : Cond.classLink RX2 50 "java/lang/IllegalStateException" ∈ wsX2_addAccount := by decide +kernel
theorem ciX2_addAccount_50 : Cond.initialized "java/lang/IllegalStateException" ∈ wsX2_addAccount := by decide +kernel
set_option maxHeartbeats 4000000 in
set_option maxRecDepth 100000 in
theorem c_X2_addAccount {l : Launch} {D : va_G} {cy : Nat → ClassId} {a : Nat → Nat} {Z : va_W} {S : kSt} {r : ((Int32 ⊕ String) × kSt)} {sa : Nat → Nat} (hlt : l.stackTraces = false) (h : f_X2_addAccount S = some r) : kX l yX2_addAccount wsX2_addAccount ({ frames := 6, cells := 1, slots := 6, locals := 82 } : Room) D cy sa (xw a cy S Z) [.ref (a 0)] (xw a cy r.2 Z) (kOI r.1) 1 6 := by
  rw [f_X2_addAccount] at h
  refine kX.start (L := [(0, .ref (a 0))]) hlt rfl rfl rfl (Nat.le_of_ble_eq_true rfl) rfl (fun K A C CX CN => ?_)
  refine kr_aload_n C 0 dX2_addAccount_0 rfl rfl ?_
  refine kr_get C inX2_addAccount_X2 0 rfl rfl 0 (by decide) flX2_addAccount_43 rfl rfl dX2_addAccount_1 ?_
  refine kr_bipush C (v := 10) dX2_addAccount_4 (by decide) ?_
  refine kr_icmp_lt C 19 dX2_addAccount_6 (by decide) (fun hc => ?_) (fun hc => ?_)
  · have h := (if_pos hc).symm.trans h
    refine kr_aload_n C 0 dX2_addAccount_19 rfl rfl ?_
    refine kr_get C inX2_addAccount_X2 0 rfl rfl 0 (by decide) flX2_addAccount_43 rfl rfl dX2_addAccount_20 ?_
    refine kr_istore_n C [1, 0] dX2_addAccount_23 rfl (by decide) rfl ?_
    refine kr_aload_n C 0 dX2_addAccount_24 rfl rfl ?_
    refine kr_dup C dX2_addAccount_25 rfl ?_
    refine kr_get C inX2_addAccount_X2 0 rfl rfl 0 (by decide) flX2_addAccount_43 rfl rfl dX2_addAccount_26 ?_
    refine kr_iconst C (v := 1) dX2_addAccount_29 (by decide) ?_
    refine kr_iadd C dX2_addAccount_30 ?_
    refine kr_put C inX2_addAccount_X2 tyX2_ok nmX2 0 rfl rfl 0 (by decide) flX2_addAccount_43 rfl rfl rfl rfl rfl (by show 0 < 16; decide) (xp0 _ _ _ _ _) dX2_addAccount_31 ?_
    refine kr_aload_n C 0 dX2_addAccount_34 rfl rfl ?_
    refine kr_aload_n C 0 dX2_addAccount_35 rfl rfl ?_
    refine kr_get C inX2_addAccount_X2 0 rfl rfl 5 (by decide) flX2_addAccount_47 rfl rfl dX2_addAccount_36 ?_
    refine kr_iload_n C 1 dX2_addAccount_39 rfl rfl ?_
    obtain ⟨v1, hv1, h⟩ := kob h
    refine kr_callS1 C (k := 2) (As := [.int ((va_up S.1 0 ((S.1 0) + (1 : Int32)), S.2).1 5), .int (S.1 0)]) (rest := [.ref (a 0)]) (c_X2_with hv1) gX2_addAccount_X2_with rfl rfl rfl (by decide +kernel) ⟨(Nat.le_of_ble_eq_true rfl), (Nat.le_of_ble_eq_true rfl)⟩ ⟨(Nat.le_of_ble_eq_true rfl), (Nat.le_of_ble_eq_true rfl)⟩ rfl rfl (Nat.le_of_ble_eq_true rfl) dX2_addAccount_40 ?_
    refine kr_put C inX2_addAccount_X2 tyX2_ok nmX2 0 rfl rfl 5 (by decide) flX2_addAccount_47 rfl rfl rfl rfl rfl (by show 5 < 16; decide) (xp5 _ _ _ _ _) dX2_addAccount_43 ?_
    refine kr_iload_n C 1 dX2_addAccount_46 rfl rfl ?_
    cases h
    exact kr_retX (kr_ret_i C (Nat.le_of_ble_eq_true rfl) (Nat.le_of_ble_eq_true rfl) dX2_addAccount_47)
  have h := (if_neg hc).symm.trans h
  cases h
  exact kr_throw C CX CN (text := "there is no room for another account") (by decide) ckX2_addAccount_50 ciX2_addAccount_50 (by decide) atX2_addAccount_54 ax_54 ay_54_50 (by decide +kernel) dX2_addAccount_9 dX2_addAccount_12 dX2_addAccount_13 dX2_addAccount_15 dX2_addAccount_18 (Nat.le_of_ble_eq_true rfl) (Nat.le_of_ble_eq_true rfl) (Nat.le_of_ble_eq_true rfl) (Nat.le_of_ble_eq_true rfl) (Nat.le_of_ble_eq_true rfl) (Nat.le_of_ble_eq_true rfl)
theorem atX2_requireAccount_208 : ∀ w ∈ (vx_atS RX2 208 "java/lang/IndexOutOfBoundsException" ["java/lang/RuntimeException", "java/lang/Exception"]).filter goodWord, w ∈ wsX2_requireAccount := fun _ h => List.mem_cons_of_mem _ (List.mem_append_right _ h)
theorem ckX2_requireAccount_204 : Cond.classLink RX2 204 "java/lang/IndexOutOfBoundsException" ∈ wsX2_requireAccount := by decide +kernel
theorem ciX2_requireAccount_204 : Cond.initialized "java/lang/IndexOutOfBoundsException" ∈ wsX2_requireAccount := by decide +kernel
theorem flX2_requireAccount_43 : Cond.fieldLink RX2 43 "FolderKeeper" "accounts" "I" ∈ wsX2_requireAccount := by decide +kernel
theorem inX2_requireAccount_X2 : ∀ w ∈ wsX20, w ∈ wsX2_requireAccount := fun _ h => List.mem_cons_of_mem _ (List.mem_append_left _ (List.mem_append_right _ h))
set_option maxHeartbeats 4000000 in
set_option maxRecDepth 100000 in
theorem c_X2_requireAccount {l : Launch} {D : va_G} {cy : Nat → ClassId} {a : Nat → Nat} {Z : va_W} {S : kSt} {p1 : Int32} {r : (Unit ⊕ String)} {sa : Nat → Nat} (hlt : l.stackTraces = false) (h : f_X2_requireAccount S p1 = some r) : kX l yX2_requireAccount wsX2_requireAccount ({ frames := 6, cells := 1, slots := 6, locals := 82 } : Room) D cy sa (xw a cy S Z) [.ref (a 0), .int p1] (xw a cy S Z) (kOV r) 1 6 := by
  rw [f_X2_requireAccount] at h
  refine kX.start (L := [(0, .ref (a 0)), (1, .int (p1))]) hlt rfl rfl rfl (Nat.le_of_ble_eq_true rfl) rfl (fun K A C CX CN => ?_)
  refine kr_iload_n C 1 dX2_requireAccount_0 rfl rfl ?_
  refine kr_if_lt C 12 dX2_requireAccount_1 (by decide) (fun hc => ?_) (fun hc => ?_)
  · have h := (if_pos hc).symm.trans h
    cases h
    exact kr_throw C CX CN (text := "there is no such account") (by decide) ckX2_requireAccount_204 ciX2_requireAccount_204 (by decide) atX2_requireAccount_208 ax_208 ay_208_204 (by decide +kernel) dX2_requireAccount_12 dX2_requireAccount_15 dX2_requireAccount_16 dX2_requireAccount_18 dX2_requireAccount_21 (Nat.le_of_ble_eq_true rfl) (Nat.le_of_ble_eq_true rfl) (Nat.le_of_ble_eq_true rfl) (Nat.le_of_ble_eq_true rfl) (Nat.le_of_ble_eq_true rfl) (Nat.le_of_ble_eq_true rfl)
  have h := (if_neg hc).symm.trans h
  refine kr_iload_n C 1 dX2_requireAccount_4 rfl rfl ?_
  refine kr_aload_n C 0 dX2_requireAccount_5 rfl rfl ?_
  refine kr_get C inX2_requireAccount_X2 0 rfl rfl 0 (by decide) flX2_requireAccount_43 rfl rfl dX2_requireAccount_6 ?_
  refine kr_icmp_lt C 22 dX2_requireAccount_9 (by decide) (fun hc => ?_) (fun hc => ?_)
  · have h := (if_pos hc).symm.trans h
    cases h
    exact kr_retX (kr_ret_v C (Nat.le_of_ble_eq_true rfl) (Nat.le_of_ble_eq_true rfl) dX2_requireAccount_22)
  have h := (if_neg hc).symm.trans h
  cases h
  exact kr_throw C CX CN (text := "there is no such account") (by decide) ckX2_requireAccount_204 ciX2_requireAccount_204 (by decide) atX2_requireAccount_208 ax_208 ay_208_204 (by decide +kernel) dX2_requireAccount_12 dX2_requireAccount_15 dX2_requireAccount_16 dX2_requireAccount_18 dX2_requireAccount_21 (Nat.le_of_ble_eq_true rfl) (Nat.le_of_ble_eq_true rfl) (Nat.le_of_ble_eq_true rfl) (Nat.le_of_ble_eq_true rfl) (Nat.le_of_ble_eq_true rfl) (Nat.le_of_ble_eq_true rfl)
theorem atX2_requireFolder_208 : ∀ w ∈ (vx_atS RX2 208 "java/lang/IndexOutOfBoundsException" ["java/lang/RuntimeException", "java/lang/Exception"]).filter goodWord, w ∈ wsX2_requireFolder := fun _ h => List.mem_cons_of_mem _ (List.mem_append_right _ h)
theorem ckX2_requireFolder_204 : Cond.classLink RX2 204 "java/lang/IndexOutOfBoundsException" ∈ wsX2_requireFolder := by decide +kernel
theorem ciX2_requireFolder_204 : Cond.initialized "java/lang/IndexOutOfBoundsException" ∈ wsX2_requireFolder := by decide +kernel
theorem flX2_requireFolder_126 : Cond.fieldLink RX2 126 "FolderKeeper" "folders" "I" ∈ wsX2_requireFolder := by decide +kernel
theorem inX2_requireFolder_X2 : ∀ w ∈ wsX20, w ∈ wsX2_requireFolder := fun _ h => List.mem_cons_of_mem _ (List.mem_append_left _ (List.mem_append_right _ h))
set_option maxHeartbeats 4000000 in
set_option maxRecDepth 100000 in
theorem c_X2_requireFolder {l : Launch} {D : va_G} {cy : Nat → ClassId} {a : Nat → Nat} {Z : va_W} {S : kSt} {p1 : Int32} {r : (Unit ⊕ String)} {sa : Nat → Nat} (hlt : l.stackTraces = false) (h : f_X2_requireFolder S p1 = some r) : kX l yX2_requireFolder wsX2_requireFolder ({ frames := 6, cells := 1, slots := 6, locals := 82 } : Room) D cy sa (xw a cy S Z) [.ref (a 0), .int p1] (xw a cy S Z) (kOV r) 1 6 := by
  rw [f_X2_requireFolder] at h
  refine kX.start (L := [(0, .ref (a 0)), (1, .int (p1))]) hlt rfl rfl rfl (Nat.le_of_ble_eq_true rfl) rfl (fun K A C CX CN => ?_)
  refine kr_iload_n C 1 dX2_requireFolder_0 rfl rfl ?_
  refine kr_if_lt C 12 dX2_requireFolder_1 (by decide) (fun hc => ?_) (fun hc => ?_)
  · have h := (if_pos hc).symm.trans h
    cases h
    exact kr_throw C CX CN (text := "there is no such folder") (by decide) ckX2_requireFolder_204 ciX2_requireFolder_204 (by decide) atX2_requireFolder_208 ax_208 ay_208_204 (by decide +kernel) dX2_requireFolder_12 dX2_requireFolder_15 dX2_requireFolder_16 dX2_requireFolder_18 dX2_requireFolder_21 (Nat.le_of_ble_eq_true rfl) (Nat.le_of_ble_eq_true rfl) (Nat.le_of_ble_eq_true rfl) (Nat.le_of_ble_eq_true rfl) (Nat.le_of_ble_eq_true rfl) (Nat.le_of_ble_eq_true rfl)
  have h := (if_neg hc).symm.trans h
  refine kr_iload_n C 1 dX2_requireFolder_4 rfl rfl ?_
  refine kr_aload_n C 0 dX2_requireFolder_5 rfl rfl ?_
  refine kr_get C inX2_requireFolder_X2 0 rfl rfl 2 (by decide) flX2_requireFolder_126 rfl rfl dX2_requireFolder_6 ?_
  refine kr_icmp_lt C 22 dX2_requireFolder_9 (by decide) (fun hc => ?_) (fun hc => ?_)
  · have h := (if_pos hc).symm.trans h
    cases h
    exact kr_retX (kr_ret_v C (Nat.le_of_ble_eq_true rfl) (Nat.le_of_ble_eq_true rfl) dX2_requireFolder_22)
  have h := (if_neg hc).symm.trans h
  cases h
  exact kr_throw C CX CN (text := "there is no such folder") (by decide) ckX2_requireFolder_204 ciX2_requireFolder_204 (by decide) atX2_requireFolder_208 ax_208 ay_208_204 (by decide +kernel) dX2_requireFolder_12 dX2_requireFolder_15 dX2_requireFolder_16 dX2_requireFolder_18 dX2_requireFolder_21 (Nat.le_of_ble_eq_true rfl) (Nat.le_of_ble_eq_true rfl) (Nat.le_of_ble_eq_true rfl) (Nat.le_of_ble_eq_true rfl) (Nat.le_of_ble_eq_true rfl) (Nat.le_of_ble_eq_true rfl)
theorem atX2_addFolder_96 : ∀ w ∈ (vx_atS RX2 96 "java/lang/UnsupportedOperationException" ["java/lang/RuntimeException", "java/lang/Exception"]).filter goodWord, w ∈ wsX2_addFolder := fun _ h => List.mem_cons_of_mem _ (List.mem_append_left _ (List.mem_append_left _ (List.mem_append_left _ (List.mem_append_right _ h))))
theorem ckX2_addFolder_92 : Cond.classLink RX2 92 "java/lang/UnsupportedOperationException" ∈ wsX2_addFolder := by decide +kernel
theorem ciX2_addFolder_92 : Cond.initialized "java/lang/UnsupportedOperationException" ∈ wsX2_addFolder := by decide +kernel
theorem flX2_addFolder_126 : Cond.fieldLink RX2 126 "FolderKeeper" "folders" "I" ∈ wsX2_addFolder := by decide +kernel
theorem inX2_addFolder_X2 : ∀ w ∈ wsX20, w ∈ wsX2_addFolder := fun _ h => List.mem_cons_of_mem _ (List.mem_append_left _ (List.mem_append_left _ (List.mem_append_left _ (List.mem_append_left _ (List.mem_append_left _ (List.mem_append_right _ h))))))
theorem flX2_addFolder_18 : Cond.fieldLink RX2 18 "FolderKeeper" "owners" "LFolderKeeper$Row;" ∈ wsX2_addFolder := by decide +kernel
theorem flX2_addFolder_21 : Cond.fieldLink RX2 21 "FolderKeeper" "parents" "LFolderKeeper$Row;" ∈ wsX2_addFolder := by decide +kernel
theorem atX2_addFolder_54 : ∀ w ∈ (vx_atS RX2 54 "java/lang/IllegalStateException" ["java/lang/RuntimeException", "java/lang/Exception"]).filter goodWord, w ∈ wsX2_addFolder := fun _ h => List.mem_cons_of_mem _ (List.mem_append_left _ (List.mem_append_left _ (List.mem_append_right _ h)))
theorem ckX2_addFolder_50 : Cond.classLink RX2 50 "java/lang/IllegalStateException" ∈ wsX2_addFolder := by decide +kernel
theorem ciX2_addFolder_50 : Cond.initialized "java/lang/IllegalStateException" ∈ wsX2_addFolder := by decide +kernel
set_option maxHeartbeats 4000000 in
set_option maxRecDepth 100000 in
theorem c_X2_addFolder {l : Launch} {D : va_G} {cy : Nat → ClassId} {a : Nat → Nat} {Z : va_W} {S : kSt} {p1 : Int32} {p2 : Int32} {r : ((Int32 ⊕ String) × kSt)} {sa : Nat → Nat} (hlt : l.stackTraces = false) (h : f_X2_addFolder S p1 p2 = some r) : kX l yX2_addFolder wsX2_addFolder ({ frames := 7, cells := 3, slots := 18, locals := 103 } : Room) D cy sa (xw a cy S Z) [.ref (a 0), .int p1, .int p2] (xw a cy r.2 Z) (kOI r.1) 3 18 := by
  rw [f_X2_addFolder] at h
  refine kX.start (L := [(0, .ref (a 0)), (1, .int (p1)), (2, .int (p2))]) hlt rfl rfl rfl (Nat.le_of_ble_eq_true rfl) rfl (fun K A C CX CN => ?_)
  refine kr_aload_n C 0 dX2_addFolder_0 rfl rfl ?_
  refine kr_iload_n C 1 dX2_addFolder_1 rfl rfl ?_
  rcases kxb_some h with ⟨Ev1, hv1, h⟩ | ⟨v1, hv1, h⟩
  · cases h
    exact kr_xVex C CX CN (k := 1) (As := [.int p1]) (rest := []) (c_X2_requireAccount hlt hv1) gX2_addFolder_X2_requireAccount rfl rfl rfl (by decide +kernel) ⟨(Nat.le_of_ble_eq_true rfl), (Nat.le_of_ble_eq_true rfl)⟩ ⟨(Nat.le_of_ble_eq_true rfl), (Nat.le_of_ble_eq_true rfl)⟩ 0 rfl rfl rfl rfl (Nat.le_of_ble_eq_true rfl) dX2_addFolder_2 (Nat.le_of_ble_eq_true rfl) (Nat.le_of_ble_eq_true rfl)
  refine kr_xV0 C CX (k := 1) (As := [.int p1]) (rest := []) (c_X2_requireAccount hlt hv1) gX2_addFolder_X2_requireAccount rfl rfl rfl (by decide +kernel) ⟨(Nat.le_of_ble_eq_true rfl), (Nat.le_of_ble_eq_true rfl)⟩ ⟨(Nat.le_of_ble_eq_true rfl), (Nat.le_of_ble_eq_true rfl)⟩ 0 rfl rfl rfl rfl (Nat.le_of_ble_eq_true rfl) dX2_addFolder_2 ?_
  refine kr_iload_n C 2 dX2_addFolder_5 rfl rfl ?_
  refine kr_iconst C (v := -1) dX2_addFolder_6 (by decide) ?_
  refine kr_icmp_eq C 15 dX2_addFolder_7 (by decide) (fun hc => ?_) (fun hc => ?_)
  · have h := (if_pos hc).symm.trans h
    refine kr_aload_n C 0 dX2_addFolder_15 rfl rfl ?_
    refine kr_iload_n C 1 dX2_addFolder_16 rfl rfl ?_
    obtain ⟨v2, hv2, h⟩ := kob h
    refine kr_callV1 C (k := 1) (As := [.int p1]) (rest := []) (c_X2_isActive hv2) gX2_addFolder_X2_isActive rfl rfl rfl (by decide +kernel) ⟨(Nat.le_of_ble_eq_true rfl), (Nat.le_of_ble_eq_true rfl)⟩ ⟨(Nat.le_of_ble_eq_true rfl), (Nat.le_of_ble_eq_true rfl)⟩ 0 rfl rfl rfl rfl (Nat.le_of_ble_eq_true rfl) dX2_addFolder_17 ?_
    refine kr_if_ne C 33 dX2_addFolder_20 (by decide) (fun hc => ?_) (fun hc => ?_)
    · have h := (if_pos hc).symm.trans h
      cases h
      exact kr_throw C CX CN (text := "the account has left") (by decide) ckX2_addFolder_92 ciX2_addFolder_92 (by decide) atX2_addFolder_96 ax_96 ay_96_92 (by decide +kernel) dX2_addFolder_23 dX2_addFolder_26 dX2_addFolder_27 dX2_addFolder_29 dX2_addFolder_32 (Nat.le_of_ble_eq_true rfl) (Nat.le_of_ble_eq_true rfl) (Nat.le_of_ble_eq_true rfl) (Nat.le_of_ble_eq_true rfl) (Nat.le_of_ble_eq_true rfl) (Nat.le_of_ble_eq_true rfl)
    have h := (if_neg hc).symm.trans h
    refine kr_aload_n C 0 dX2_addFolder_33 rfl rfl ?_
    refine kr_get C inX2_addFolder_X2 0 rfl rfl 2 (by decide) flX2_addFolder_126 rfl rfl dX2_addFolder_34 ?_
    refine kr_bipush C (v := 12) dX2_addFolder_37 (by decide) ?_
    refine kr_icmp_lt C 52 dX2_addFolder_39 (by decide) (fun hc => ?_) (fun hc => ?_)
    · have h := (if_pos hc).symm.trans h
      refine kr_aload_n C 0 dX2_addFolder_52 rfl rfl ?_
      refine kr_get C inX2_addFolder_X2 0 rfl rfl 2 (by decide) flX2_addFolder_126 rfl rfl dX2_addFolder_53 ?_
      refine kr_istore_n C [1, 2, 3, 0] dX2_addFolder_56 rfl (by decide) rfl ?_
      refine kr_aload_n C 0 dX2_addFolder_57 rfl rfl ?_
      refine kr_dup C dX2_addFolder_58 rfl ?_
      refine kr_get C inX2_addFolder_X2 0 rfl rfl 2 (by decide) flX2_addFolder_126 rfl rfl dX2_addFolder_59 ?_
      refine kr_iconst C (v := 1) dX2_addFolder_62 (by decide) ?_
      refine kr_iadd C dX2_addFolder_63 ?_
      refine kr_put C inX2_addFolder_X2 tyX2_ok nmX2 0 rfl rfl 2 (by decide) flX2_addFolder_126 rfl rfl rfl rfl rfl (by show 2 < 16; decide) (xp2 _ _ _ _ _) dX2_addFolder_64 ?_
      refine kr_aload_n C 0 dX2_addFolder_67 rfl rfl ?_
      refine kr_get C inX2_addFolder_X2 0 rfl rfl 9 (by decide) flX2_addFolder_18 rfl rfl dX2_addFolder_68 ?_
      refine kr_iload_n C 3 dX2_addFolder_71 rfl rfl ?_
      refine kr_iload_n C 1 dX2_addFolder_72 rfl rfl ?_
      obtain ⟨v3, hv3, h⟩ := kob h
      refine kr_callV0 C (k := 2) (As := [.int (S.1 2), .int p1]) (rest := []) (c_X1_put (Wf := fun f => xw a cy ((va_up S.1 2 ((S.1 2) + (1 : Int32)), S.2).1, va_up (va_up S.1 2 ((S.1 2) + (1 : Int32)), S.2).2 9 f) Z) (q0 := 2) (q1 := 10) (fun _ => rfl) (fun _ => rfl) (fun _ _ => rfl) hv3) gX2_addFolder_X1_put rfl rfl rfl (by decide +kernel) ⟨(Nat.le_of_ble_eq_true rfl), (Nat.le_of_ble_eq_true rfl)⟩ ⟨(Nat.le_of_ble_eq_true rfl), (Nat.le_of_ble_eq_true rfl)⟩ 2 rfl rfl rfl rfl (Nat.le_of_ble_eq_true rfl) dX2_addFolder_73 ?_
      refine kr_aload_n C 0 dX2_addFolder_76 rfl rfl ?_
      refine kr_get C inX2_addFolder_X2 0 rfl rfl 10 (by decide) flX2_addFolder_21 rfl rfl dX2_addFolder_77 ?_
      refine kr_iload_n C 3 dX2_addFolder_80 rfl rfl ?_
      refine kr_iload_n C 2 dX2_addFolder_81 rfl rfl ?_
      obtain ⟨v4, hv4, h⟩ := kob h
      refine kr_callV0 C (k := 2) (As := [.int (S.1 2), .int p2]) (rest := []) (c_X1_put (Wf := fun f => xw a cy (((va_up S.1 2 ((S.1 2) + (1 : Int32)), S.2).1, va_up (va_up S.1 2 ((S.1 2) + (1 : Int32)), S.2).2 9 v3).1, va_up ((va_up S.1 2 ((S.1 2) + (1 : Int32)), S.2).1, va_up (va_up S.1 2 ((S.1 2) + (1 : Int32)), S.2).2 9 v3).2 10 f) Z) (q0 := 3) (q1 := 11) (fun _ => rfl) (fun _ => rfl) (fun _ _ => rfl) hv4) gX2_addFolder_X1_put rfl rfl rfl (by decide +kernel) ⟨(Nat.le_of_ble_eq_true rfl), (Nat.le_of_ble_eq_true rfl)⟩ ⟨(Nat.le_of_ble_eq_true rfl), (Nat.le_of_ble_eq_true rfl)⟩ 3 rfl rfl rfl rfl (Nat.le_of_ble_eq_true rfl) dX2_addFolder_82 ?_
      refine kr_iload_n C 3 dX2_addFolder_85 rfl rfl ?_
      cases h
      exact kr_retX (kr_ret_i C (Nat.le_of_ble_eq_true rfl) (Nat.le_of_ble_eq_true rfl) dX2_addFolder_86)
    have h := (if_neg hc).symm.trans h
    cases h
    exact kr_throw C CX CN (text := "there is no room for another folder") (by decide) ckX2_addFolder_50 ciX2_addFolder_50 (by decide) atX2_addFolder_54 ax_54 ay_54_50 (by decide +kernel) dX2_addFolder_42 dX2_addFolder_45 dX2_addFolder_46 dX2_addFolder_48 dX2_addFolder_51 (Nat.le_of_ble_eq_true rfl) (Nat.le_of_ble_eq_true rfl) (Nat.le_of_ble_eq_true rfl) (Nat.le_of_ble_eq_true rfl) (Nat.le_of_ble_eq_true rfl) (Nat.le_of_ble_eq_true rfl)
  have h := (if_neg hc).symm.trans h
  refine kr_aload_n C 0 dX2_addFolder_10 rfl rfl ?_
  refine kr_iload_n C 2 dX2_addFolder_11 rfl rfl ?_
  rcases kxb_some h with ⟨Ev5, hv5, h⟩ | ⟨v5, hv5, h⟩
  · cases h
    exact kr_xVex C CX CN (k := 1) (As := [.int p2]) (rest := []) (c_X2_requireFolder hlt hv5) gX2_addFolder_X2_requireFolder rfl rfl rfl (by decide +kernel) ⟨(Nat.le_of_ble_eq_true rfl), (Nat.le_of_ble_eq_true rfl)⟩ ⟨(Nat.le_of_ble_eq_true rfl), (Nat.le_of_ble_eq_true rfl)⟩ 0 rfl rfl rfl rfl (Nat.le_of_ble_eq_true rfl) dX2_addFolder_12 (Nat.le_of_ble_eq_true rfl) (Nat.le_of_ble_eq_true rfl)
  refine kr_xV0 C CX (k := 1) (As := [.int p2]) (rest := []) (c_X2_requireFolder hlt hv5) gX2_addFolder_X2_requireFolder rfl rfl rfl (by decide +kernel) ⟨(Nat.le_of_ble_eq_true rfl), (Nat.le_of_ble_eq_true rfl)⟩ ⟨(Nat.le_of_ble_eq_true rfl), (Nat.le_of_ble_eq_true rfl)⟩ 0 rfl rfl rfl rfl (Nat.le_of_ble_eq_true rfl) dX2_addFolder_12 ?_
  refine kr_aload_n C 0 dX2_addFolder_15 rfl rfl ?_
  refine kr_iload_n C 1 dX2_addFolder_16 rfl rfl ?_
  obtain ⟨v6, hv6, h⟩ := kob h
  refine kr_callV1 C (k := 1) (As := [.int p1]) (rest := []) (c_X2_isActive hv6) gX2_addFolder_X2_isActive rfl rfl rfl (by decide +kernel) ⟨(Nat.le_of_ble_eq_true rfl), (Nat.le_of_ble_eq_true rfl)⟩ ⟨(Nat.le_of_ble_eq_true rfl), (Nat.le_of_ble_eq_true rfl)⟩ 0 rfl rfl rfl rfl (Nat.le_of_ble_eq_true rfl) dX2_addFolder_17 ?_
  refine kr_if_ne C 33 dX2_addFolder_20 (by decide) (fun hc => ?_) (fun hc => ?_)
  · have h := (if_pos hc).symm.trans h
    cases h
    exact kr_throw C CX CN (text := "the account has left") (by decide) ckX2_addFolder_92 ciX2_addFolder_92 (by decide) atX2_addFolder_96 ax_96 ay_96_92 (by decide +kernel) dX2_addFolder_23 dX2_addFolder_26 dX2_addFolder_27 dX2_addFolder_29 dX2_addFolder_32 (Nat.le_of_ble_eq_true rfl) (Nat.le_of_ble_eq_true rfl) (Nat.le_of_ble_eq_true rfl) (Nat.le_of_ble_eq_true rfl) (Nat.le_of_ble_eq_true rfl) (Nat.le_of_ble_eq_true rfl)
  have h := (if_neg hc).symm.trans h
  refine kr_aload_n C 0 dX2_addFolder_33 rfl rfl ?_
  refine kr_get C inX2_addFolder_X2 0 rfl rfl 2 (by decide) flX2_addFolder_126 rfl rfl dX2_addFolder_34 ?_
  refine kr_bipush C (v := 12) dX2_addFolder_37 (by decide) ?_
  refine kr_icmp_lt C 52 dX2_addFolder_39 (by decide) (fun hc => ?_) (fun hc => ?_)
  · have h := (if_pos hc).symm.trans h
    refine kr_aload_n C 0 dX2_addFolder_52 rfl rfl ?_
    refine kr_get C inX2_addFolder_X2 0 rfl rfl 2 (by decide) flX2_addFolder_126 rfl rfl dX2_addFolder_53 ?_
    refine kr_istore_n C [1, 2, 3, 0] dX2_addFolder_56 rfl (by decide) rfl ?_
    refine kr_aload_n C 0 dX2_addFolder_57 rfl rfl ?_
    refine kr_dup C dX2_addFolder_58 rfl ?_
    refine kr_get C inX2_addFolder_X2 0 rfl rfl 2 (by decide) flX2_addFolder_126 rfl rfl dX2_addFolder_59 ?_
    refine kr_iconst C (v := 1) dX2_addFolder_62 (by decide) ?_
    refine kr_iadd C dX2_addFolder_63 ?_
    refine kr_put C inX2_addFolder_X2 tyX2_ok nmX2 0 rfl rfl 2 (by decide) flX2_addFolder_126 rfl rfl rfl rfl rfl (by show 2 < 16; decide) (xp2 _ _ _ _ _) dX2_addFolder_64 ?_
    refine kr_aload_n C 0 dX2_addFolder_67 rfl rfl ?_
    refine kr_get C inX2_addFolder_X2 0 rfl rfl 9 (by decide) flX2_addFolder_18 rfl rfl dX2_addFolder_68 ?_
    refine kr_iload_n C 3 dX2_addFolder_71 rfl rfl ?_
    refine kr_iload_n C 1 dX2_addFolder_72 rfl rfl ?_
    obtain ⟨v7, hv7, h⟩ := kob h
    refine kr_callV0 C (k := 2) (As := [.int (S.1 2), .int p1]) (rest := []) (c_X1_put (Wf := fun f => xw a cy ((va_up S.1 2 ((S.1 2) + (1 : Int32)), S.2).1, va_up (va_up S.1 2 ((S.1 2) + (1 : Int32)), S.2).2 9 f) Z) (q0 := 2) (q1 := 10) (fun _ => rfl) (fun _ => rfl) (fun _ _ => rfl) hv7) gX2_addFolder_X1_put rfl rfl rfl (by decide +kernel) ⟨(Nat.le_of_ble_eq_true rfl), (Nat.le_of_ble_eq_true rfl)⟩ ⟨(Nat.le_of_ble_eq_true rfl), (Nat.le_of_ble_eq_true rfl)⟩ 2 rfl rfl rfl rfl (Nat.le_of_ble_eq_true rfl) dX2_addFolder_73 ?_
    refine kr_aload_n C 0 dX2_addFolder_76 rfl rfl ?_
    refine kr_get C inX2_addFolder_X2 0 rfl rfl 10 (by decide) flX2_addFolder_21 rfl rfl dX2_addFolder_77 ?_
    refine kr_iload_n C 3 dX2_addFolder_80 rfl rfl ?_
    refine kr_iload_n C 2 dX2_addFolder_81 rfl rfl ?_
    obtain ⟨v8, hv8, h⟩ := kob h
    refine kr_callV0 C (k := 2) (As := [.int (S.1 2), .int p2]) (rest := []) (c_X1_put (Wf := fun f => xw a cy (((va_up S.1 2 ((S.1 2) + (1 : Int32)), S.2).1, va_up (va_up S.1 2 ((S.1 2) + (1 : Int32)), S.2).2 9 v7).1, va_up ((va_up S.1 2 ((S.1 2) + (1 : Int32)), S.2).1, va_up (va_up S.1 2 ((S.1 2) + (1 : Int32)), S.2).2 9 v7).2 10 f) Z) (q0 := 3) (q1 := 11) (fun _ => rfl) (fun _ => rfl) (fun _ _ => rfl) hv8) gX2_addFolder_X1_put rfl rfl rfl (by decide +kernel) ⟨(Nat.le_of_ble_eq_true rfl), (Nat.le_of_ble_eq_true rfl)⟩ ⟨(Nat.le_of_ble_eq_true rfl), (Nat.le_of_ble_eq_true rfl)⟩ 3 rfl rfl rfl rfl (Nat.le_of_ble_eq_true rfl) dX2_addFolder_82 ?_
    refine kr_iload_n C 3 dX2_addFolder_85 rfl rfl ?_
    cases h
    exact kr_retX (kr_ret_i C (Nat.le_of_ble_eq_true rfl) (Nat.le_of_ble_eq_true rfl) dX2_addFolder_86)
  have h := (if_neg hc).symm.trans h
  cases h
  exact kr_throw C CX CN (text := "there is no room for another folder") (by decide) ckX2_addFolder_50 ciX2_addFolder_50 (by decide) atX2_addFolder_54 ax_54 ay_54_50 (by decide +kernel) dX2_addFolder_42 dX2_addFolder_45 dX2_addFolder_46 dX2_addFolder_48 dX2_addFolder_51 (Nat.le_of_ble_eq_true rfl) (Nat.le_of_ble_eq_true rfl) (Nat.le_of_ble_eq_true rfl) (Nat.le_of_ble_eq_true rfl) (Nat.le_of_ble_eq_true rfl) (Nat.le_of_ble_eq_true rfl)
theorem flX2_addGroup_77 : Cond.fieldLink RX2 77 "FolderKeeper" "groups" "I" ∈ wsX2_addGroup := by decide +kernel
theorem inX2_addGroup_X2 : ∀ w ∈ wsX20, w ∈ wsX2_addGroup := fun _ h => List.mem_cons_of_mem _ (List.mem_append_left _ (List.mem_append_right _ h))
theorem atX2_addGroup_54 : ∀ w ∈ (vx_atS RX2 54 "java/lang/IllegalStateException" ["java/lang/RuntimeException", "java/lang/Exception"]).filter goodWord, w ∈ wsX2_addGroup := fun _ h => List.mem_cons_of_mem _ (List.mem_append_right _ h)
theorem ckX2_addGroup_50 : Cond.classLink RX2 50 "java/lang/IllegalStateException" ∈ wsX2_addGroup := by decide +kernel
theorem ciX2_addGroup_50 : Cond.initialized "java/lang/IllegalStateException" ∈ wsX2_addGroup := by decide +kernel
set_option maxHeartbeats 4000000 in
set_option maxRecDepth 100000 in
theorem c_X2_addGroup {l : Launch} {D : va_G} {cy : Nat → ClassId} {a : Nat → Nat} {Z : va_W} {S : kSt} {r : ((Int32 ⊕ String) × kSt)} {sa : Nat → Nat} (hlt : l.stackTraces = false) (h : f_X2_addGroup S = some r) : kX l yX2_addGroup wsX2_addGroup ({ frames := 6, cells := 1, slots := 6, locals := 82 } : Room) D cy sa (xw a cy S Z) [.ref (a 0)] (xw a cy r.2 Z) (kOI r.1) 1 6 := by
  rw [f_X2_addGroup] at h
  refine kX.start (L := [(0, .ref (a 0))]) hlt rfl rfl rfl (Nat.le_of_ble_eq_true rfl) rfl (fun K A C CX CN => ?_)
  refine kr_aload_n C 0 dX2_addGroup_0 rfl rfl ?_
  refine kr_get C inX2_addGroup_X2 0 rfl rfl 1 (by decide) flX2_addGroup_77 rfl rfl dX2_addGroup_1 ?_
  refine kr_bipush C (v := 6) dX2_addGroup_4 (by decide) ?_
  refine kr_icmp_lt C 19 dX2_addGroup_6 (by decide) (fun hc => ?_) (fun hc => ?_)
  · have h := (if_pos hc).symm.trans h
    refine kr_aload_n C 0 dX2_addGroup_19 rfl rfl ?_
    refine kr_get C inX2_addGroup_X2 0 rfl rfl 1 (by decide) flX2_addGroup_77 rfl rfl dX2_addGroup_20 ?_
    refine kr_istore_n C [1, 0] dX2_addGroup_23 rfl (by decide) rfl ?_
    refine kr_aload_n C 0 dX2_addGroup_24 rfl rfl ?_
    refine kr_dup C dX2_addGroup_25 rfl ?_
    refine kr_get C inX2_addGroup_X2 0 rfl rfl 1 (by decide) flX2_addGroup_77 rfl rfl dX2_addGroup_26 ?_
    refine kr_iconst C (v := 1) dX2_addGroup_29 (by decide) ?_
    refine kr_iadd C dX2_addGroup_30 ?_
    refine kr_put C inX2_addGroup_X2 tyX2_ok nmX2 0 rfl rfl 1 (by decide) flX2_addGroup_77 rfl rfl rfl rfl rfl (by show 1 < 16; decide) (xp1 _ _ _ _ _) dX2_addGroup_31 ?_
    refine kr_iload_n C 1 dX2_addGroup_34 rfl rfl ?_
    cases h
    exact kr_retX (kr_ret_i C (Nat.le_of_ble_eq_true rfl) (Nat.le_of_ble_eq_true rfl) dX2_addGroup_35)
  have h := (if_neg hc).symm.trans h
  cases h
  exact kr_throw C CX CN (text := "there is no room for another group") (by decide) ckX2_addGroup_50 ciX2_addGroup_50 (by decide) atX2_addGroup_54 ax_54 ay_54_50 (by decide +kernel) dX2_addGroup_9 dX2_addGroup_12 dX2_addGroup_13 dX2_addGroup_15 dX2_addGroup_18 (Nat.le_of_ble_eq_true rfl) (Nat.le_of_ble_eq_true rfl) (Nat.le_of_ble_eq_true rfl) (Nat.le_of_ble_eq_true rfl) (Nat.le_of_ble_eq_true rfl) (Nat.le_of_ble_eq_true rfl)
theorem atX2_requireGroup_208 : ∀ w ∈ (vx_atS RX2 208 "java/lang/IndexOutOfBoundsException" ["java/lang/RuntimeException", "java/lang/Exception"]).filter goodWord, w ∈ wsX2_requireGroup := fun _ h => List.mem_cons_of_mem _ (List.mem_append_right _ h)
theorem ckX2_requireGroup_204 : Cond.classLink RX2 204 "java/lang/IndexOutOfBoundsException" ∈ wsX2_requireGroup := by decide +kernel
theorem ciX2_requireGroup_204 : Cond.initialized "java/lang/IndexOutOfBoundsException" ∈ wsX2_requireGroup := by decide +kernel
theorem flX2_requireGroup_77 : Cond.fieldLink RX2 77 "FolderKeeper" "groups" "I" ∈ wsX2_requireGroup := by decide +kernel
theorem inX2_requireGroup_X2 : ∀ w ∈ wsX20, w ∈ wsX2_requireGroup := fun _ h => List.mem_cons_of_mem _ (List.mem_append_left _ (List.mem_append_right _ h))
set_option maxHeartbeats 4000000 in
set_option maxRecDepth 100000 in
theorem c_X2_requireGroup {l : Launch} {D : va_G} {cy : Nat → ClassId} {a : Nat → Nat} {Z : va_W} {S : kSt} {p1 : Int32} {r : (Unit ⊕ String)} {sa : Nat → Nat} (hlt : l.stackTraces = false) (h : f_X2_requireGroup S p1 = some r) : kX l yX2_requireGroup wsX2_requireGroup ({ frames := 6, cells := 1, slots := 6, locals := 82 } : Room) D cy sa (xw a cy S Z) [.ref (a 0), .int p1] (xw a cy S Z) (kOV r) 1 6 := by
  rw [f_X2_requireGroup] at h
  refine kX.start (L := [(0, .ref (a 0)), (1, .int (p1))]) hlt rfl rfl rfl (Nat.le_of_ble_eq_true rfl) rfl (fun K A C CX CN => ?_)
  refine kr_iload_n C 1 dX2_requireGroup_0 rfl rfl ?_
  refine kr_if_lt C 12 dX2_requireGroup_1 (by decide) (fun hc => ?_) (fun hc => ?_)
  · have h := (if_pos hc).symm.trans h
    cases h
    exact kr_throw C CX CN (text := "there is no such group") (by decide) ckX2_requireGroup_204 ciX2_requireGroup_204 (by decide) atX2_requireGroup_208 ax_208 ay_208_204 (by decide +kernel) dX2_requireGroup_12 dX2_requireGroup_15 dX2_requireGroup_16 dX2_requireGroup_18 dX2_requireGroup_21 (Nat.le_of_ble_eq_true rfl) (Nat.le_of_ble_eq_true rfl) (Nat.le_of_ble_eq_true rfl) (Nat.le_of_ble_eq_true rfl) (Nat.le_of_ble_eq_true rfl) (Nat.le_of_ble_eq_true rfl)
  have h := (if_neg hc).symm.trans h
  refine kr_iload_n C 1 dX2_requireGroup_4 rfl rfl ?_
  refine kr_aload_n C 0 dX2_requireGroup_5 rfl rfl ?_
  refine kr_get C inX2_requireGroup_X2 0 rfl rfl 1 (by decide) flX2_requireGroup_77 rfl rfl dX2_requireGroup_6 ?_
  refine kr_icmp_lt C 22 dX2_requireGroup_9 (by decide) (fun hc => ?_) (fun hc => ?_)
  · have h := (if_pos hc).symm.trans h
    cases h
    exact kr_retX (kr_ret_v C (Nat.le_of_ble_eq_true rfl) (Nat.le_of_ble_eq_true rfl) dX2_requireGroup_22)
  have h := (if_neg hc).symm.trans h
  cases h
  exact kr_throw C CX CN (text := "there is no such group") (by decide) ckX2_requireGroup_204 ciX2_requireGroup_204 (by decide) atX2_requireGroup_208 ax_208 ay_208_204 (by decide +kernel) dX2_requireGroup_12 dX2_requireGroup_15 dX2_requireGroup_16 dX2_requireGroup_18 dX2_requireGroup_21 (Nat.le_of_ble_eq_true rfl) (Nat.le_of_ble_eq_true rfl) (Nat.le_of_ble_eq_true rfl) (Nat.le_of_ble_eq_true rfl) (Nat.le_of_ble_eq_true rfl) (Nat.le_of_ble_eq_true rfl)
theorem flX2_addRoom_153 : Cond.fieldLink RX2 153 "FolderKeeper" "rooms" "I" ∈ wsX2_addRoom := by decide +kernel
theorem inX2_addRoom_X2 : ∀ w ∈ wsX20, w ∈ wsX2_addRoom := fun _ h => List.mem_cons_of_mem _ (List.mem_append_left _ (List.mem_append_left _ (List.mem_append_left _ (List.mem_append_left _ (List.mem_append_right _ h)))))
theorem flX2_addRoom_24 : Cond.fieldLink RX2 24 "FolderKeeper" "roomGroups" "LFolderKeeper$Row;" ∈ wsX2_addRoom := by decide +kernel
theorem atX2_addRoom_54 : ∀ w ∈ (vx_atS RX2 54 "java/lang/IllegalStateException" ["java/lang/RuntimeException", "java/lang/Exception"]).filter goodWord, w ∈ wsX2_addRoom := fun _ h => List.mem_cons_of_mem _ (List.mem_append_left _ (List.mem_append_left _ (List.mem_append_right _ h)))
theorem ckX2_addRoom_50 : Cond.classLink RX2 50 "java/lang/IllegalStateException" ∈ wsX2_addRoom := by decide +kernel
theorem ciX2_addRoom_50 : Cond.initialized "java/lang/IllegalStateException" ∈ wsX2_addRoom := by decide +kernel
set_option maxHeartbeats 4000000 in
set_option maxRecDepth 100000 in
theorem c_X2_addRoom {l : Launch} {D : va_G} {cy : Nat → ClassId} {a : Nat → Nat} {Z : va_W} {S : kSt} {p1 : Int32} {r : ((Int32 ⊕ String) × kSt)} {sa : Nat → Nat} (hlt : l.stackTraces = false) (h : f_X2_addRoom S p1 = some r) : kX l yX2_addRoom wsX2_addRoom ({ frames := 7, cells := 2, slots := 12, locals := 103 } : Room) D cy sa (xw a cy S Z) [.ref (a 0), .int p1] (xw a cy r.2 Z) (kOI r.1) 2 12 := by
  rw [f_X2_addRoom] at h
  refine kX.start (L := [(0, .ref (a 0)), (1, .int (p1))]) hlt rfl rfl rfl (Nat.le_of_ble_eq_true rfl) rfl (fun K A C CX CN => ?_)
  refine kr_aload_n C 0 dX2_addRoom_0 rfl rfl ?_
  refine kr_iload_n C 1 dX2_addRoom_1 rfl rfl ?_
  rcases kxb_some h with ⟨Ev1, hv1, h⟩ | ⟨v1, hv1, h⟩
  · cases h
    exact kr_xVex C CX CN (k := 1) (As := [.int p1]) (rest := []) (c_X2_requireGroup hlt hv1) gX2_addRoom_X2_requireGroup rfl rfl rfl (by decide +kernel) ⟨(Nat.le_of_ble_eq_true rfl), (Nat.le_of_ble_eq_true rfl)⟩ ⟨(Nat.le_of_ble_eq_true rfl), (Nat.le_of_ble_eq_true rfl)⟩ 0 rfl rfl rfl rfl (Nat.le_of_ble_eq_true rfl) dX2_addRoom_2 (Nat.le_of_ble_eq_true rfl) (Nat.le_of_ble_eq_true rfl)
  refine kr_xV0 C CX (k := 1) (As := [.int p1]) (rest := []) (c_X2_requireGroup hlt hv1) gX2_addRoom_X2_requireGroup rfl rfl rfl (by decide +kernel) ⟨(Nat.le_of_ble_eq_true rfl), (Nat.le_of_ble_eq_true rfl)⟩ ⟨(Nat.le_of_ble_eq_true rfl), (Nat.le_of_ble_eq_true rfl)⟩ 0 rfl rfl rfl rfl (Nat.le_of_ble_eq_true rfl) dX2_addRoom_2 ?_
  refine kr_aload_n C 0 dX2_addRoom_5 rfl rfl ?_
  refine kr_get C inX2_addRoom_X2 0 rfl rfl 3 (by decide) flX2_addRoom_153 rfl rfl dX2_addRoom_6 ?_
  refine kr_iconst C (v := 4) dX2_addRoom_9 (by decide) ?_
  refine kr_icmp_lt C 23 dX2_addRoom_10 (by decide) (fun hc => ?_) (fun hc => ?_)
  · have h := (if_pos hc).symm.trans h
    refine kr_aload_n C 0 dX2_addRoom_23 rfl rfl ?_
    refine kr_get C inX2_addRoom_X2 0 rfl rfl 3 (by decide) flX2_addRoom_153 rfl rfl dX2_addRoom_24 ?_
    refine kr_istore_n C [1, 2, 0] dX2_addRoom_27 rfl (by decide) rfl ?_
    refine kr_aload_n C 0 dX2_addRoom_28 rfl rfl ?_
    refine kr_dup C dX2_addRoom_29 rfl ?_
    refine kr_get C inX2_addRoom_X2 0 rfl rfl 3 (by decide) flX2_addRoom_153 rfl rfl dX2_addRoom_30 ?_
    refine kr_iconst C (v := 1) dX2_addRoom_33 (by decide) ?_
    refine kr_iadd C dX2_addRoom_34 ?_
    refine kr_put C inX2_addRoom_X2 tyX2_ok nmX2 0 rfl rfl 3 (by decide) flX2_addRoom_153 rfl rfl rfl rfl rfl (by show 3 < 16; decide) (xp3 _ _ _ _ _) dX2_addRoom_35 ?_
    refine kr_aload_n C 0 dX2_addRoom_38 rfl rfl ?_
    refine kr_get C inX2_addRoom_X2 0 rfl rfl 11 (by decide) flX2_addRoom_24 rfl rfl dX2_addRoom_39 ?_
    refine kr_iload_n C 2 dX2_addRoom_42 rfl rfl ?_
    refine kr_iload_n C 1 dX2_addRoom_43 rfl rfl ?_
    obtain ⟨v2, hv2, h⟩ := kob h
    refine kr_callV0 C (k := 2) (As := [.int (S.1 3), .int p1]) (rest := []) (c_X1_put (Wf := fun f => xw a cy ((va_up S.1 3 ((S.1 3) + (1 : Int32)), S.2).1, va_up (va_up S.1 3 ((S.1 3) + (1 : Int32)), S.2).2 11 f) Z) (q0 := 4) (q1 := 12) (fun _ => rfl) (fun _ => rfl) (fun _ _ => rfl) hv2) gX2_addRoom_X1_put rfl rfl rfl (by decide +kernel) ⟨(Nat.le_of_ble_eq_true rfl), (Nat.le_of_ble_eq_true rfl)⟩ ⟨(Nat.le_of_ble_eq_true rfl), (Nat.le_of_ble_eq_true rfl)⟩ 4 rfl rfl rfl rfl (Nat.le_of_ble_eq_true rfl) dX2_addRoom_44 ?_
    refine kr_iload_n C 2 dX2_addRoom_47 rfl rfl ?_
    cases h
    exact kr_retX (kr_ret_i C (Nat.le_of_ble_eq_true rfl) (Nat.le_of_ble_eq_true rfl) dX2_addRoom_48)
  have h := (if_neg hc).symm.trans h
  cases h
  exact kr_throw C CX CN (text := "there is no room for another mail room") (by decide) ckX2_addRoom_50 ciX2_addRoom_50 (by decide) atX2_addRoom_54 ax_54 ay_54_50 (by decide +kernel) dX2_addRoom_13 dX2_addRoom_16 dX2_addRoom_17 dX2_addRoom_19 dX2_addRoom_22 (Nat.le_of_ble_eq_true rfl) (Nat.le_of_ble_eq_true rfl) (Nat.le_of_ble_eq_true rfl) (Nat.le_of_ble_eq_true rfl) (Nat.le_of_ble_eq_true rfl) (Nat.le_of_ble_eq_true rfl)
theorem flX2_giverTo_140 : Cond.fieldLink RX2 140 "FolderKeeper" "brokenFolders" "I" ∈ wsX2_giverTo := by decide +kernel
theorem inX2_giverTo_X2 : ∀ w ∈ wsX20, w ∈ wsX2_giverTo := fun _ h => List.mem_cons_of_mem _ (List.mem_append_left _ (List.mem_append_left _ (List.mem_append_right _ h)))
theorem flX2_giverTo_21 : Cond.fieldLink RX2 21 "FolderKeeper" "parents" "LFolderKeeper$Row;" ∈ wsX2_giverTo := by decide +kernel
set_option maxHeartbeats 4000000 in
set_option maxRecDepth 100000 in
theorem c_X2_giverTo {l : Launch} {D : va_G} {cy : Nat → ClassId} {a : Nat → Nat} {Z : va_W} {S : kSt} {p1 : Int32} {r : Int32} (h : f_X2_giverTo S p1 = some r) : kM l yX2_giverTo wsX2_giverTo ({ frames := 1, cells := 0, slots := 0, locals := 21 } : Room) D cy (xw a cy S Z) [.ref (a 0), .int p1] (xw a cy S Z) (some (.int r)) 0 0 := by
  rw [f_X2_giverTo] at h
  refine kM.start (L := [(0, .ref (a 0)), (1, .int (p1))]) rfl rfl rfl (Nat.le_of_ble_eq_true rfl) rfl (fun K A C => ?_)
  refine kr_aload_n C 0 dX2_giverTo_0 rfl rfl ?_
  refine kr_get C inX2_giverTo_X2 0 rfl rfl 6 (by decide) flX2_giverTo_140 rfl rfl dX2_giverTo_1 ?_
  refine kr_iload_n C 1 dX2_giverTo_4 rfl rfl ?_
  obtain ⟨v1, hv1, h⟩ := kob h
  refine kr_callS1 C (k := 2) (As := [.int (S.1 6), .int p1]) (rest := []) (c_X2_contains hv1) gX2_giverTo_X2_contains rfl rfl rfl (by decide +kernel) ⟨(Nat.le_of_ble_eq_true rfl), (Nat.le_of_ble_eq_true rfl)⟩ ⟨(Nat.le_of_ble_eq_true rfl), (Nat.le_of_ble_eq_true rfl)⟩ rfl rfl (Nat.le_of_ble_eq_true rfl) dX2_giverTo_5 ?_
  refine kr_if_eq C 15 dX2_giverTo_8 (by decide) (fun hc => ?_) (fun hc => ?_)
  · have h := (if_pos hc).symm.trans h
    refine kr_aload_n C 0 dX2_giverTo_15 rfl rfl ?_
    refine kr_get C inX2_giverTo_X2 0 rfl rfl 10 (by decide) flX2_giverTo_21 rfl rfl dX2_giverTo_16 ?_
    refine kr_iload_n C 1 dX2_giverTo_19 rfl rfl ?_
    obtain ⟨v2, hv2, h⟩ := kob h
    refine kr_callV1 C (k := 1) (As := [.int p1]) (rest := []) (c_X1_at (q0 := 3) (q1 := 11) rfl rfl hv2) gX2_giverTo_X1_at rfl rfl rfl (by decide +kernel) ⟨(Nat.le_of_ble_eq_true rfl), (Nat.le_of_ble_eq_true rfl)⟩ ⟨(Nat.le_of_ble_eq_true rfl), (Nat.le_of_ble_eq_true rfl)⟩ 3 rfl rfl rfl rfl (Nat.le_of_ble_eq_true rfl) dX2_giverTo_20 ?_
    cases h
    exact kr_ret_i C (Nat.le_of_ble_eq_true rfl) (Nat.le_of_ble_eq_true rfl) dX2_giverTo_23
  have h := (if_neg hc).symm.trans h
  refine kr_iconst C (v := -1) dX2_giverTo_11 (by decide) ?_
  refine kr_goto C 23 dX2_giverTo_12 (by decide) ?_
  cases h
  exact kr_ret_i C (Nat.le_of_ble_eq_true rfl) (Nat.le_of_ble_eq_true rfl) dX2_giverTo_23
theorem flX2_leadsTo_77 : Cond.fieldLink RX2 77 "FolderKeeper" "groups" "I" ∈ wsX2_leadsTo := by decide +kernel
theorem inX2_leadsTo_X2 : ∀ w ∈ wsX20, w ∈ wsX2_leadsTo := fun _ h => List.mem_cons_of_mem _ (List.mem_append_left _ (List.mem_append_left _ (List.mem_append_right _ h)))
set_option maxHeartbeats 4000000 in
set_option maxRecDepth 100000 in
theorem lc_X2_leadsTo_L22 {K : kEnv} {l : Launch} {D : va_G} {cy : Nat → ClassId} {A : Nat → Prop} {a : Nat → Nat} {Z : va_W} {d : Nat} {S : kSt} {r : Bool} {rec : Int32 → Int32 → Int32 → Option Bool} (C : kC K D cy A 5 cX2_leadsTo RX2 wsX2_leadsTo (some .boolean)) (hrec : ∀ (y0 y1 y2 : Int32) (r : Bool), rec y0 y1 y2 = some r → kM l yX2_leadsTo wsX2_leadsTo ({ frames := 2 + d, cells := 0, slots := 0, locals := 45 + d * 24 } : Room) D cy (xw a cy S Z) [.ref (a 0), .int y0, .int y1, .int y2] (xw a cy S Z) (some (.int (b2i r))) 0 0) : ∀ (n : Nat) (x1 x2 x3 x4 : Int32), f_X2_leadsTo_L22 rec n S x1 x2 x3 x4 = some r → kG K l D A ({ frames := 2 + (d + 1), cells := 0, slots := 0, locals := 45 + (d + 1) * 24 } : Room) 5 (kEnd K D cy A (xw a cy S Z) (some (.int (b2i r))) 0 0) (xw a cy S Z) 0 0 22 [(0, .ref (a 0)), (1, .int (x1)), (2, .int (x2)), (3, .int (x3)), (4, .int (x4))] [] := by
  intro n
  induction n with
  | zero => intro x1 x2 x3 x4 h; rw [f_X2_leadsTo_L22] at h; cases h
  | succ n ih =>
    intro x1 x2 x3 x4 h
    rw [f_X2_leadsTo_L22] at h
    refine kr_iload C 4 dX2_leadsTo_22 rfl ?_
    refine kr_aload_n C 0 dX2_leadsTo_24 rfl rfl ?_
    refine kr_get C inX2_leadsTo_X2 0 rfl rfl 1 (by decide) flX2_leadsTo_77 rfl rfl dX2_leadsTo_25 ?_
    refine kr_icmp_ge C 62 dX2_leadsTo_28 (by decide) (fun hc => ?_) (fun hc => ?_)
    · have h := (if_pos hc).symm.trans h
      refine kr_iconst C (v := 0) dX2_leadsTo_62 (by decide) ?_
      cases h
      exact kr_ret_z (v := b2i false) C (nar_b _) (Nat.le_of_ble_eq_true rfl) (Nat.le_of_ble_eq_true rfl) dX2_leadsTo_63
    have h := (if_neg hc).symm.trans h
    refine kr_aload_n C 0 dX2_leadsTo_31 rfl rfl ?_
    refine kr_iload C 4 dX2_leadsTo_32 rfl ?_
    refine kr_iload_n C 2 dX2_leadsTo_34 rfl rfl ?_
    obtain ⟨v2, hv2, h⟩ := kob h
    refine kr_callV1 C (k := 2) (As := [.int x4, .int x2]) (rest := []) (c_X2_isNested hv2) gX2_leadsTo_X2_isNested rfl rfl rfl (by decide +kernel) ⟨by show 1 + 1 ≤ 2 + (d + 1); omega, by show 8 + (3 + 11) + 23 ≤ 45 + (d + 1) * 24; omega⟩ ⟨(Nat.le_of_ble_eq_true rfl), (Nat.le_of_ble_eq_true rfl)⟩ 0 rfl rfl rfl rfl (Nat.le_of_ble_eq_true rfl) dX2_leadsTo_35 ?_
    refine kr_if_eq C 56 dX2_leadsTo_38 (by decide) (fun hc => ?_) (fun hc => ?_)
    · have h := (if_pos hc).symm.trans h
      refine kr_iinc C (v := (x4 + 1)) 4 [1, 2, 3, 4, 0] dX2_leadsTo_56 rfl rfl (by decide) rfl ?_
      refine kr_goto C 22 dX2_leadsTo_59 (by decide) ?_
      exact ih _ _ _ _ h
    have h := (if_neg hc).symm.trans h
    refine kr_aload_n C 0 dX2_leadsTo_41 rfl rfl ?_
    refine kr_iload_n C 1 dX2_leadsTo_42 rfl rfl ?_
    refine kr_iload C 4 dX2_leadsTo_43 rfl ?_
    refine kr_iload_n C 3 dX2_leadsTo_45 rfl rfl ?_
    refine kr_iconst C (v := 1) dX2_leadsTo_46 (by decide) ?_
    refine kr_iadd C dX2_leadsTo_47 ?_
    obtain ⟨v3, hv3, h⟩ := kob h
    refine kr_callV1 C (k := 3) (As := [.int x1, .int x4, .int (x3 + (1 : Int32))]) (rest := []) (hrec _ _ _ _ hv3) gX2_leadsTo_X2_leadsTo rfl rfl rfl (by decide +kernel) ⟨by show 2 + d + 1 ≤ 2 + (d + 1); omega, by show 8 + (5 + 11) + (45 + d * 24) ≤ 45 + (d + 1) * 24; omega⟩ ⟨(Nat.le_of_ble_eq_true rfl), (Nat.le_of_ble_eq_true rfl)⟩ 0 rfl rfl rfl rfl (Nat.le_of_ble_eq_true rfl) dX2_leadsTo_48 ?_
    refine kr_if_eq C 56 dX2_leadsTo_51 (by decide) (fun hc => ?_) (fun hc => ?_)
    · have h := (if_pos hc).symm.trans h
      refine kr_iinc C (v := (x4 + 1)) 4 [1, 2, 3, 4, 0] dX2_leadsTo_56 rfl rfl (by decide) rfl ?_
      refine kr_goto C 22 dX2_leadsTo_59 (by decide) ?_
      exact ih _ _ _ _ h
    have h := (if_neg hc).symm.trans h
    refine kr_iconst C (v := 1) dX2_leadsTo_54 (by decide) ?_
    cases h
    exact kr_ret_z (v := b2i true) C (nar_b _) (Nat.le_of_ble_eq_true rfl) (Nat.le_of_ble_eq_true rfl) dX2_leadsTo_55
set_option maxHeartbeats 4000000 in
set_option maxRecDepth 100000 in
theorem c_X2_leadsTo {l : Launch} {D : va_G} {cy : Nat → ClassId} {a : Nat → Nat} {Z : va_W} {S : kSt} : ∀ (d : Nat) {p1 p2 p3 : Int32} {r : Bool}, f_X2_leadsTo d S p1 p2 p3 = some r → kM l yX2_leadsTo wsX2_leadsTo ({ frames := 2 + d, cells := 0, slots := 0, locals := 45 + d * 24 } : Room) D cy (xw a cy S Z) [.ref (a 0), .int p1, .int p2, .int p3] (xw a cy S Z) (some (.int (b2i r))) 0 0 := by
  intro d
  induction d with
  | zero => intro p1 p2 p3 r h; rw [f_X2_leadsTo] at h; cases h
  | succ d ihd =>
    intro p1 p2 p3 r h
    rw [f_X2_leadsTo] at h
    have hrec : ∀ (y0 y1 y2 : Int32) (r : Bool), f_X2_leadsTo d S y0 y1 y2 = some r → kM l yX2_leadsTo wsX2_leadsTo ({ frames := 2 + d, cells := 0, slots := 0, locals := 45 + d * 24 } : Room) D cy (xw a cy S Z) [.ref (a 0), .int y0, .int y1, .int y2] (xw a cy S Z) (some (.int (b2i r))) 0 0 := fun y0 y1 y2 r h => ihd h
    refine kM.start (L := [(0, .ref (a 0)), (1, .int (p1)), (2, .int (p2)), (3, .int (p3))]) rfl rfl rfl (Nat.le_of_ble_eq_true rfl) rfl (fun K A C => ?_)
    refine kr_aload_n C 0 dX2_leadsTo_0 rfl rfl ?_
    refine kr_iload_n C 1 dX2_leadsTo_1 rfl rfl ?_
    refine kr_iload_n C 2 dX2_leadsTo_2 rfl rfl ?_
    obtain ⟨v1, hv1, h⟩ := kob h
    refine kr_callV1 C (k := 2) (As := [.int p1, .int p2]) (rest := []) (c_X2_isMember hv1) gX2_leadsTo_X2_isMember rfl rfl rfl (by decide +kernel) ⟨by show 1 + 1 ≤ 2 + (d + 1); omega, by show 8 + (3 + 11) + 23 ≤ 45 + (d + 1) * 24; omega⟩ ⟨(Nat.le_of_ble_eq_true rfl), (Nat.le_of_ble_eq_true rfl)⟩ 0 rfl rfl rfl rfl (Nat.le_of_ble_eq_true rfl) dX2_leadsTo_3 ?_
    refine kr_if_eq C 11 dX2_leadsTo_6 (by decide) (fun hc => ?_) (fun hc => ?_)
    · have h := (if_pos hc).symm.trans h
      refine kr_iload_n C 3 dX2_leadsTo_11 rfl rfl ?_
      refine kr_bipush C (v := 6) dX2_leadsTo_12 (by decide) ?_
      refine kr_icmp_lt C 19 dX2_leadsTo_14 (by decide) (fun hc => ?_) (fun hc => ?_)
      · have h := (if_pos hc).symm.trans h
        refine kr_iconst C (v := 0) dX2_leadsTo_19 (by decide) ?_
        refine kr_istore C [1, 2, 3, 4, 0] dX2_leadsTo_20 (by decide) rfl ?_
        exact lc_X2_leadsTo_L22 C hrec _ _ _ _ _ h
      have h := (if_neg hc).symm.trans h
      refine kr_iconst C (v := 0) dX2_leadsTo_17 (by decide) ?_
      cases h
      exact kr_ret_z (v := b2i false) C (nar_b _) (Nat.le_of_ble_eq_true rfl) (Nat.le_of_ble_eq_true rfl) dX2_leadsTo_18
    have h := (if_neg hc).symm.trans h
    refine kr_iconst C (v := 1) dX2_leadsTo_9 (by decide) ?_
    cases h
    exact kr_ret_z (v := b2i true) C (nar_b _) (Nat.le_of_ble_eq_true rfl) (Nat.le_of_ble_eq_true rfl) dX2_leadsTo_10
theorem flX2_bestShareByWalking_37 : Cond.fieldLink RX2 37 "FolderKeeper" "accountShares" "LFolderKeeper$Grid;" ∈ wsX2_bestShareByWalking := by decide +kernel
theorem inX2_bestShareByWalking_X2 : ∀ w ∈ wsX20, w ∈ wsX2_bestShareByWalking := fun _ h => List.mem_cons_of_mem _ (List.mem_append_left _ (List.mem_append_left _ (List.mem_append_right _ h)))
theorem flX2_bestShareByWalking_77 : Cond.fieldLink RX2 77 "FolderKeeper" "groups" "I" ∈ wsX2_bestShareByWalking := by decide +kernel
theorem flX2_bestShareByWalking_40 : Cond.fieldLink RX2 40 "FolderKeeper" "groupShares" "LFolderKeeper$Grid;" ∈ wsX2_bestShareByWalking := by decide +kernel
set_option maxHeartbeats 4000000 in
set_option maxRecDepth 100000 in
theorem lc_X2_bestShareByWalking_L13 {K : kEnv} {l : Launch} {D : va_G} {cy : Nat → ClassId} {A : Nat → Prop} {a : Nat → Nat} {Z : va_W} {S : kSt} {r : Int32} (C : kC K D cy A 6 cX2_bestShareByWalking RX2 wsX2_bestShareByWalking (some .int)) : ∀ (n : Nat) (x1 x2 x3 x4 : Int32), f_X2_bestShareByWalking_L13 n S x1 x2 x3 x4 = some r → kG K l D A ({ frames := 11, cells := 0, slots := 0, locals := 261 } : Room) 6 (kEnd K D cy A (xw a cy S Z) (some (.int r)) 0 0) (xw a cy S Z) 0 0 13 [(0, .ref (a 0)), (1, .int (x1)), (2, .int (x2)), (3, .int (x3)), (4, .int (x4))] [] := by
  intro n
  induction n with
  | zero => intro x1 x2 x3 x4 h; rw [f_X2_bestShareByWalking_L13] at h; cases h
  | succ n ih =>
    intro x1 x2 x3 x4 h
    rw [f_X2_bestShareByWalking_L13] at h
    refine kr_iload C 4 dX2_bestShareByWalking_13 rfl ?_
    refine kr_aload_n C 0 dX2_bestShareByWalking_15 rfl rfl ?_
    refine kr_get C inX2_bestShareByWalking_X2 0 rfl rfl 1 (by decide) flX2_bestShareByWalking_77 rfl rfl dX2_bestShareByWalking_16 ?_
    refine kr_icmp_ge C 60 dX2_bestShareByWalking_19 (by decide) (fun hc => ?_) (fun hc => ?_)
    · have h := (if_pos hc).symm.trans h
      refine kr_iload_n C 3 dX2_bestShareByWalking_60 rfl rfl ?_
      cases h
      exact kr_ret_i C (Nat.le_of_ble_eq_true rfl) (Nat.le_of_ble_eq_true rfl) dX2_bestShareByWalking_61
    have h := (if_neg hc).symm.trans h
    refine kr_aload_n C 0 dX2_bestShareByWalking_22 rfl rfl ?_
    refine kr_get C inX2_bestShareByWalking_X2 0 rfl rfl 15 (by decide) flX2_bestShareByWalking_40 rfl rfl dX2_bestShareByWalking_23 ?_
    refine kr_iload_n C 2 dX2_bestShareByWalking_26 rfl rfl ?_
    refine kr_iload C 4 dX2_bestShareByWalking_27 rfl ?_
    obtain ⟨v2, hv2, h⟩ := kob h
    refine kr_callV1 C (k := 2) (As := [.int x2, .int x4]) (rest := []) (c_X0_at (q0 := 8) (q1 := 16) rfl rfl hv2) gX2_bestShareByWalking_X0_at rfl rfl rfl (by decide +kernel) ⟨(Nat.le_of_ble_eq_true rfl), (Nat.le_of_ble_eq_true rfl)⟩ ⟨(Nat.le_of_ble_eq_true rfl), (Nat.le_of_ble_eq_true rfl)⟩ 8 rfl rfl rfl rfl (Nat.le_of_ble_eq_true rfl) dX2_bestShareByWalking_29 ?_
    refine kr_istore C [1, 2, 3, 4, 5, 0] dX2_bestShareByWalking_32 (by decide) rfl ?_
    refine kr_iload C 5 dX2_bestShareByWalking_34 rfl ?_
    refine kr_iload_n C 3 dX2_bestShareByWalking_36 rfl rfl ?_
    refine kr_icmp_le C 54 dX2_bestShareByWalking_37 (by decide) (fun hc => ?_) (fun hc => ?_)
    · have h := (if_pos hc).symm.trans h
      refine kr_iinc C (v := (x4 + 1)) 4 [1, 2, 3, 4, 0, 5] dX2_bestShareByWalking_54 rfl rfl (by decide) rfl ?_
      refine kr_goto C 13 dX2_bestShareByWalking_57 (by decide) ?_
      refine kr_sub [0, 1, 2, 3, 4] rfl ?_
      exact ih _ _ _ _ h
    have h := (if_neg hc).symm.trans h
    refine kr_aload_n C 0 dX2_bestShareByWalking_40 rfl rfl ?_
    refine kr_iload_n C 1 dX2_bestShareByWalking_41 rfl rfl ?_
    refine kr_iload C 4 dX2_bestShareByWalking_42 rfl ?_
    refine kr_iconst C (v := 0) dX2_bestShareByWalking_44 (by decide) ?_
    obtain ⟨v3, hv3, h⟩ := kob h
    refine kr_callV1 C (k := 3) (As := [.int x1, .int x4, .int (0 : Int32)]) (rest := []) (c_X2_leadsTo _ hv3) gX2_bestShareByWalking_X2_leadsTo rfl rfl rfl (by decide +kernel) ⟨(Nat.le_of_ble_eq_true rfl), (Nat.le_of_ble_eq_true rfl)⟩ ⟨(Nat.le_of_ble_eq_true rfl), (Nat.le_of_ble_eq_true rfl)⟩ 0 rfl rfl rfl rfl (Nat.le_of_ble_eq_true rfl) dX2_bestShareByWalking_45 ?_
    refine kr_if_eq C 54 dX2_bestShareByWalking_48 (by decide) (fun hc => ?_) (fun hc => ?_)
    · have h := (if_pos hc).symm.trans h
      refine kr_iinc C (v := (x4 + 1)) 4 [1, 2, 3, 4, 0, 5] dX2_bestShareByWalking_54 rfl rfl (by decide) rfl ?_
      refine kr_goto C 13 dX2_bestShareByWalking_57 (by decide) ?_
      refine kr_sub [0, 1, 2, 3, 4] rfl ?_
      exact ih _ _ _ _ h
    have h := (if_neg hc).symm.trans h
    refine kr_iload C 5 dX2_bestShareByWalking_51 rfl ?_
    refine kr_istore_n C [1, 2, 3, 0, 4, 5] dX2_bestShareByWalking_53 rfl (by decide) rfl ?_
    refine kr_iinc C (v := (x4 + 1)) 4 [1, 2, 3, 4, 0, 5] dX2_bestShareByWalking_54 rfl rfl (by decide) rfl ?_
    refine kr_goto C 13 dX2_bestShareByWalking_57 (by decide) ?_
    refine kr_sub [0, 1, 2, 3, 4] rfl ?_
    exact ih _ _ _ _ h
set_option maxHeartbeats 4000000 in
set_option maxRecDepth 100000 in
theorem c_X2_bestShareByWalking {l : Launch} {D : va_G} {cy : Nat → ClassId} {a : Nat → Nat} {Z : va_W} {S : kSt} {p1 : Int32} {p2 : Int32} {r : Int32} (h : f_X2_bestShareByWalking S p1 p2 = some r) : kM l yX2_bestShareByWalking wsX2_bestShareByWalking ({ frames := 11, cells := 0, slots := 0, locals := 261 } : Room) D cy (xw a cy S Z) [.ref (a 0), .int p1, .int p2] (xw a cy S Z) (some (.int r)) 0 0 := by
  rw [f_X2_bestShareByWalking] at h
  refine kM.start (L := [(0, .ref (a 0)), (1, .int (p1)), (2, .int (p2))]) rfl rfl rfl (Nat.le_of_ble_eq_true rfl) rfl (fun K A C => ?_)
  refine kr_aload_n C 0 dX2_bestShareByWalking_0 rfl rfl ?_
  refine kr_get C inX2_bestShareByWalking_X2 0 rfl rfl 14 (by decide) flX2_bestShareByWalking_37 rfl rfl dX2_bestShareByWalking_1 ?_
  refine kr_iload_n C 2 dX2_bestShareByWalking_4 rfl rfl ?_
  refine kr_iload_n C 1 dX2_bestShareByWalking_5 rfl rfl ?_
  obtain ⟨v1, hv1, h⟩ := kob h
  refine kr_callV1 C (k := 2) (As := [.int p2, .int p1]) (rest := []) (c_X0_at (q0 := 7) (q1 := 15) rfl rfl hv1) gX2_bestShareByWalking_X0_at rfl rfl rfl (by decide +kernel) ⟨(Nat.le_of_ble_eq_true rfl), (Nat.le_of_ble_eq_true rfl)⟩ ⟨(Nat.le_of_ble_eq_true rfl), (Nat.le_of_ble_eq_true rfl)⟩ 7 rfl rfl rfl rfl (Nat.le_of_ble_eq_true rfl) dX2_bestShareByWalking_6 ?_
  refine kr_istore_n C [1, 2, 3, 0] dX2_bestShareByWalking_9 rfl (by decide) rfl ?_
  refine kr_iconst C (v := 0) dX2_bestShareByWalking_10 (by decide) ?_
  refine kr_istore C [1, 2, 3, 4, 0] dX2_bestShareByWalking_11 (by decide) rfl ?_
  exact lc_X2_bestShareByWalking_L13 C _ _ _ _ _ h
theorem mxX2_bestHandedByWalking_1 : Cond.methodLink RX2 236 Lib.Math.max.name ∈ wsX2_bestHandedByWalking := by decide +kernel
theorem mxX2_bestHandedByWalking_2 : Cond.static Lib.Math.max.name ∈ wsX2_bestHandedByWalking := by decide +kernel
theorem mxX2_bestHandedByWalking_3 : Cond.initialized "java/lang/Math" ∈ wsX2_bestHandedByWalking := by decide +kernel
theorem mxX2_bestHandedByWalking_4 : Cond.code Lib.Math.max.name Lib.Math.max.code 2 (some .int) ∈ wsX2_bestHandedByWalking := by decide +kernel
set_option maxHeartbeats 4000000 in
set_option maxRecDepth 100000 in
theorem c_X2_bestHandedByWalking {l : Launch} {D : va_G} {cy : Nat → ClassId} {a : Nat → Nat} {Z : va_W} {S : kSt} : ∀ (d : Nat) {p1 p2 p3 : Int32} {r : Int32}, f_X2_bestHandedByWalking d S p1 p2 p3 = some r → kM l yX2_bestHandedByWalking wsX2_bestHandedByWalking ({ frames := 12 + d, cells := 0, slots := 0, locals := 286 + d * 24 } : Room) D cy (xw a cy S Z) [.ref (a 0), .int p1, .int p2, .int p3] (xw a cy S Z) (some (.int r)) 0 0 := by
  intro d
  induction d with
  | zero => intro p1 p2 p3 r h; rw [f_X2_bestHandedByWalking] at h; cases h
  | succ d ihd =>
    intro p1 p2 p3 r h
    rw [f_X2_bestHandedByWalking] at h
    have hrec : ∀ (y0 y1 y2 : Int32) (r : Int32), f_X2_bestHandedByWalking d S y0 y1 y2 = some r → kM l yX2_bestHandedByWalking wsX2_bestHandedByWalking ({ frames := 12 + d, cells := 0, slots := 0, locals := 286 + d * 24 } : Room) D cy (xw a cy S Z) [.ref (a 0), .int y0, .int y1, .int y2] (xw a cy S Z) (some (.int r)) 0 0 := fun y0 y1 y2 r h => ihd h
    refine kM.start (L := [(0, .ref (a 0)), (1, .int (p1)), (2, .int (p2)), (3, .int (p3))]) rfl rfl rfl (Nat.le_of_ble_eq_true rfl) rfl (fun K A C => ?_)
    refine kr_iload_n C 2 dX2_bestHandedByWalking_0 rfl rfl ?_
    refine kr_iconst C (v := -1) dX2_bestHandedByWalking_1 (by decide) ?_
    refine kr_icmp_eq C 11 dX2_bestHandedByWalking_2 (by decide) (fun hc => ?_) (fun hc => ?_)
    · have h := (if_pos hc).symm.trans h
      refine kr_iconst C (v := 0) dX2_bestHandedByWalking_11 (by decide) ?_
      cases h
      exact kr_ret_i C (Nat.le_of_ble_eq_true rfl) (Nat.le_of_ble_eq_true rfl) dX2_bestHandedByWalking_12
    have h := (if_neg hc).symm.trans h
    refine kr_iload_n C 3 dX2_bestHandedByWalking_5 rfl rfl ?_
    refine kr_bipush C (v := 12) dX2_bestHandedByWalking_6 (by decide) ?_
    refine kr_icmp_lt C 13 dX2_bestHandedByWalking_8 (by decide) (fun hc => ?_) (fun hc => ?_)
    · have h := (if_pos hc).symm.trans h
      refine kr_aload_n C 0 dX2_bestHandedByWalking_13 rfl rfl ?_
      refine kr_iload_n C 1 dX2_bestHandedByWalking_14 rfl rfl ?_
      refine kr_aload_n C 0 dX2_bestHandedByWalking_15 rfl rfl ?_
      refine kr_iload_n C 2 dX2_bestHandedByWalking_16 rfl rfl ?_
      obtain ⟨v1, hv1, h⟩ := kob h
      refine kr_callV1 C (k := 1) (As := [.int p2]) (rest := [.int (p1), .ref (a 0)]) (c_X2_giverTo hv1) gX2_bestHandedByWalking_X2_giverTo rfl rfl rfl (by decide +kernel) ⟨by show 1 + 1 ≤ 12 + (d + 1); omega, by show 8 + (2 + 11) + 21 ≤ 286 + (d + 1) * 24; omega⟩ ⟨(Nat.le_of_ble_eq_true rfl), (Nat.le_of_ble_eq_true rfl)⟩ 0 rfl rfl rfl rfl (Nat.le_of_ble_eq_true rfl) dX2_bestHandedByWalking_17 ?_
      refine kr_iload_n C 3 dX2_bestHandedByWalking_20 rfl rfl ?_
      refine kr_iconst C (v := 1) dX2_bestHandedByWalking_21 (by decide) ?_
      refine kr_iadd C dX2_bestHandedByWalking_22 ?_
      obtain ⟨v2, hv2, h⟩ := kob h
      refine kr_callV1 C (k := 3) (As := [.int p1, .int v1, .int (p3 + (1 : Int32))]) (rest := []) (hrec _ _ _ _ hv2) gX2_bestHandedByWalking_X2_bestHandedByWalking rfl rfl rfl (by decide +kernel) ⟨by show 12 + d + 1 ≤ 12 + (d + 1); omega, by show 8 + (5 + 11) + (286 + d * 24) ≤ 286 + (d + 1) * 24; omega⟩ ⟨(Nat.le_of_ble_eq_true rfl), (Nat.le_of_ble_eq_true rfl)⟩ 0 rfl rfl rfl rfl (Nat.le_of_ble_eq_true rfl) dX2_bestHandedByWalking_23 ?_
      refine kr_istore C [1, 2, 3, 4, 0] dX2_bestHandedByWalking_26 (by decide) rfl ?_
      refine kr_iload C 4 dX2_bestHandedByWalking_28 rfl ?_
      refine kr_aload_n C 0 dX2_bestHandedByWalking_30 rfl rfl ?_
      refine kr_iload_n C 1 dX2_bestHandedByWalking_31 rfl rfl ?_
      refine kr_iload_n C 2 dX2_bestHandedByWalking_32 rfl rfl ?_
      obtain ⟨v3, hv3, h⟩ := kob h
      refine kr_callV1 C (k := 2) (As := [.int p1, .int p2]) (rest := [.int (v2)]) (c_X2_bestShareByWalking hv3) gX2_bestHandedByWalking_X2_bestShareByWalking rfl rfl rfl (by decide +kernel) ⟨by show 11 + 1 ≤ 12 + (d + 1); omega, by show 8 + (6 + 11) + 261 ≤ 286 + (d + 1) * 24; omega⟩ ⟨(Nat.le_of_ble_eq_true rfl), (Nat.le_of_ble_eq_true rfl)⟩ 0 rfl rfl rfl rfl (Nat.le_of_ble_eq_true rfl) dX2_bestHandedByWalking_33 ?_
      refine kr_max C mxX2_bestHandedByWalking_1 mxX2_bestHandedByWalking_2 mxX2_bestHandedByWalking_3 mxX2_bestHandedByWalking_4 (by show 1 ≤ 12 + (d + 1); omega) (by show 13 ≤ 286 + (d + 1) * 24; omega) (Nat.le_of_ble_eq_true rfl) (Nat.le_of_ble_eq_true rfl) dX2_bestHandedByWalking_36 ?_
      cases h
      exact kr_ret_i C (Nat.le_of_ble_eq_true rfl) (Nat.le_of_ble_eq_true rfl) dX2_bestHandedByWalking_39
    have h := (if_neg hc).symm.trans h
    refine kr_iconst C (v := 0) dX2_bestHandedByWalking_11 (by decide) ?_
    cases h
    exact kr_ret_i C (Nat.le_of_ble_eq_true rfl) (Nat.le_of_ble_eq_true rfl) dX2_bestHandedByWalking_12
theorem flX2_bestShareAmong_37 : Cond.fieldLink RX2 37 "FolderKeeper" "accountShares" "LFolderKeeper$Grid;" ∈ wsX2_bestShareAmong := by decide +kernel
theorem inX2_bestShareAmong_X2 : ∀ w ∈ wsX20, w ∈ wsX2_bestShareAmong := fun _ h => List.mem_cons_of_mem _ (List.mem_append_left _ (List.mem_append_left _ (List.mem_append_right _ h)))
theorem flX2_bestShareAmong_77 : Cond.fieldLink RX2 77 "FolderKeeper" "groups" "I" ∈ wsX2_bestShareAmong := by decide +kernel
theorem flX2_bestShareAmong_40 : Cond.fieldLink RX2 40 "FolderKeeper" "groupShares" "LFolderKeeper$Grid;" ∈ wsX2_bestShareAmong := by decide +kernel
theorem mxX2_bestShareAmong_1 : Cond.methodLink RX2 236 Lib.Math.max.name ∈ wsX2_bestShareAmong := by decide +kernel
theorem mxX2_bestShareAmong_2 : Cond.static Lib.Math.max.name ∈ wsX2_bestShareAmong := by decide +kernel
theorem mxX2_bestShareAmong_3 : Cond.initialized "java/lang/Math" ∈ wsX2_bestShareAmong := by decide +kernel
theorem mxX2_bestShareAmong_4 : Cond.code Lib.Math.max.name Lib.Math.max.code 2 (some .int) ∈ wsX2_bestShareAmong := by decide +kernel
set_option maxHeartbeats 4000000 in
set_option maxRecDepth 100000 in
theorem lc_X2_bestShareAmong_L14 {K : kEnv} {l : Launch} {D : va_G} {cy : Nat → ClassId} {A : Nat → Prop} {a : Nat → Nat} {Z : va_W} {S : kSt} {r : Int32} (C : kC K D cy A 6 cX2_bestShareAmong RX2 wsX2_bestShareAmong (some .int)) : ∀ (n : Nat) (x2 x3 x4 x5 : Int32), f_X2_bestShareAmong_L14 n S x2 x3 x4 x5 = some r → kG K l D A ({ frames := 1, cells := 0, slots := 0, locals := 23 } : Room) 6 (kEnd K D cy A (xw a cy S Z) (some (.int r)) 0 0) (xw a cy S Z) 0 0 14 [(0, .ref (a 0)), (2, .int (x2)), (3, .int (x3)), (4, .int (x4)), (5, .int (x5))] [] := by
  intro n
  induction n with
  | zero => intro x2 x3 x4 x5 h; rw [f_X2_bestShareAmong_L14] at h; cases h
  | succ n ih =>
    intro x2 x3 x4 x5 h
    rw [f_X2_bestShareAmong_L14] at h
    refine kr_iload C 4 dX2_bestShareAmong_14 rfl ?_
    refine kr_aload_n C 0 dX2_bestShareAmong_16 rfl rfl ?_
    refine kr_get C inX2_bestShareAmong_X2 0 rfl rfl 1 (by decide) flX2_bestShareAmong_77 rfl rfl dX2_bestShareAmong_17 ?_
    refine kr_icmp_ge C 55 dX2_bestShareAmong_20 (by decide) (fun hc => ?_) (fun hc => ?_)
    · have h := (if_pos hc).symm.trans h
      refine kr_iload C 3 dX2_bestShareAmong_55 rfl ?_
      cases h
      exact kr_ret_i C (Nat.le_of_ble_eq_true rfl) (Nat.le_of_ble_eq_true rfl) dX2_bestShareAmong_57
    have h := (if_neg hc).symm.trans h
    refine kr_iload_n C 1 dX2_bestShareAmong_23 rfl rfl ?_
    refine kr_iload C 4 dX2_bestShareAmong_24 rfl ?_
    obtain ⟨v2, hv2, h⟩ := kob h
    refine kr_callS1 C (k := 2) (As := [.int x2, .int x5]) (rest := []) (c_X2_contains hv2) gX2_bestShareAmong_X2_contains rfl rfl rfl (by decide +kernel) ⟨(Nat.le_of_ble_eq_true rfl), (Nat.le_of_ble_eq_true rfl)⟩ ⟨(Nat.le_of_ble_eq_true rfl), (Nat.le_of_ble_eq_true rfl)⟩ rfl rfl (Nat.le_of_ble_eq_true rfl) dX2_bestShareAmong_26 ?_
    refine kr_if_eq C 49 dX2_bestShareAmong_29 (by decide) (fun hc => ?_) (fun hc => ?_)
    · have h := (if_pos hc).symm.trans h
      refine kr_iinc C (v := (x5 + 1)) 4 [1, 2, 3, 4, 0] dX2_bestShareAmong_49 rfl rfl (by decide) rfl ?_
      refine kr_goto C 14 dX2_bestShareAmong_52 (by decide) ?_
      exact ih _ _ _ _ h
    have h := (if_neg hc).symm.trans h
    refine kr_iload C 3 dX2_bestShareAmong_32 rfl ?_
    refine kr_aload_n C 0 dX2_bestShareAmong_34 rfl rfl ?_
    refine kr_get C inX2_bestShareAmong_X2 0 rfl rfl 15 (by decide) flX2_bestShareAmong_40 rfl rfl dX2_bestShareAmong_35 ?_
    refine kr_iload_n C 2 dX2_bestShareAmong_38 rfl rfl ?_
    refine kr_iload C 4 dX2_bestShareAmong_39 rfl ?_
    obtain ⟨v3, hv3, h⟩ := kob h
    refine kr_callV1 C (k := 2) (As := [.int x3, .int x5]) (rest := [.int (x4)]) (c_X0_at (q0 := 8) (q1 := 16) rfl rfl hv3) gX2_bestShareAmong_X0_at rfl rfl rfl (by decide +kernel) ⟨(Nat.le_of_ble_eq_true rfl), (Nat.le_of_ble_eq_true rfl)⟩ ⟨(Nat.le_of_ble_eq_true rfl), (Nat.le_of_ble_eq_true rfl)⟩ 8 rfl rfl rfl rfl (Nat.le_of_ble_eq_true rfl) dX2_bestShareAmong_41 ?_
    refine kr_max C mxX2_bestShareAmong_1 mxX2_bestShareAmong_2 mxX2_bestShareAmong_3 mxX2_bestShareAmong_4 (Nat.le_of_ble_eq_true rfl) (Nat.le_of_ble_eq_true rfl) (Nat.le_of_ble_eq_true rfl) (Nat.le_of_ble_eq_true rfl) dX2_bestShareAmong_44 ?_
    refine kr_istore C [1, 2, 3, 0, 4] dX2_bestShareAmong_47 (by decide) rfl ?_
    refine kr_iinc C (v := (x5 + 1)) 4 [1, 2, 3, 4, 0] dX2_bestShareAmong_49 rfl rfl (by decide) rfl ?_
    refine kr_goto C 14 dX2_bestShareAmong_52 (by decide) ?_
    exact ih _ _ _ _ h
set_option maxHeartbeats 4000000 in
set_option maxRecDepth 100000 in
theorem c_X2_bestShareAmong {l : Launch} {D : va_G} {cy : Nat → ClassId} {a : Nat → Nat} {Z : va_W} {S : kSt} {p1 : Int32} {p2 : Int32} {p3 : Int32} {r : Int32} (h : f_X2_bestShareAmong S p1 p2 p3 = some r) : kM l yX2_bestShareAmong wsX2_bestShareAmong ({ frames := 1, cells := 0, slots := 0, locals := 23 } : Room) D cy (xw a cy S Z) [.ref (a 0), .int p1, .int p2, .int p3] (xw a cy S Z) (some (.int r)) 0 0 := by
  rw [f_X2_bestShareAmong] at h
  refine kM.start (L := [(0, .ref (a 0)), (1, .int (p1)), (2, .int (p2)), (3, .int (p3))]) rfl rfl rfl (Nat.le_of_ble_eq_true rfl) rfl (fun K A C => ?_)
  refine kr_aload_n C 0 dX2_bestShareAmong_0 rfl rfl ?_
  refine kr_get C inX2_bestShareAmong_X2 0 rfl rfl 14 (by decide) flX2_bestShareAmong_37 rfl rfl dX2_bestShareAmong_1 ?_
  refine kr_iload_n C 3 dX2_bestShareAmong_4 rfl rfl ?_
  refine kr_iload_n C 1 dX2_bestShareAmong_5 rfl rfl ?_
  obtain ⟨v1, hv1, h⟩ := kob h
  refine kr_callV1 C (k := 2) (As := [.int p3, .int p1]) (rest := []) (c_X0_at (q0 := 7) (q1 := 15) rfl rfl hv1) gX2_bestShareAmong_X0_at rfl rfl rfl (by decide +kernel) ⟨(Nat.le_of_ble_eq_true rfl), (Nat.le_of_ble_eq_true rfl)⟩ ⟨(Nat.le_of_ble_eq_true rfl), (Nat.le_of_ble_eq_true rfl)⟩ 7 rfl rfl rfl rfl (Nat.le_of_ble_eq_true rfl) dX2_bestShareAmong_6 ?_
  refine kr_istore C [1, 2, 3, 4, 0] dX2_bestShareAmong_9 (by decide) rfl ?_
  refine kr_iconst C (v := 0) dX2_bestShareAmong_11 (by decide) ?_
  refine kr_istore C [1, 2, 3, 4, 5, 0] dX2_bestShareAmong_12 (by decide) rfl ?_
  refine kr_sub [0, 2, 3, 4, 5] rfl ?_
  exact lc_X2_bestShareAmong_L14 C _ _ _ _ _ h
theorem flX2_day_185 : Cond.fieldLink RX2 185 "FolderKeeper" "today" "I" ∈ wsX2_day := by decide +kernel
theorem inX2_day_X2 : ∀ w ∈ wsX20, w ∈ wsX2_day := fun _ h => List.mem_cons_of_mem _ (List.mem_append_right _ h)
set_option maxHeartbeats 4000000 in
set_option maxRecDepth 100000 in
theorem c_X2_day {l : Launch} {D : va_G} {cy : Nat → ClassId} {a : Nat → Nat} {Z : va_W} {S : kSt} {r : Int32} (h : f_X2_day S = some r) : kM l yX2_day wsX2_day ({ frames := 0, cells := 0, slots := 0, locals := 0 } : Room) D cy (xw a cy S Z) [.ref (a 0)] (xw a cy S Z) (some (.int r)) 0 0 := by
  rw [f_X2_day] at h
  refine kM.start (L := [(0, .ref (a 0))]) rfl rfl rfl (Nat.le_of_ble_eq_true rfl) rfl (fun K A C => ?_)
  refine kr_aload_n C 0 dX2_day_0 rfl rfl ?_
  refine kr_get C inX2_day_X2 0 rfl rfl 4 (by decide) flX2_day_185 rfl rfl dX2_day_1 ?_
  cases h
  exact kr_ret_i C (Nat.le_of_ble_eq_true rfl) (Nat.le_of_ble_eq_true rfl) dX2_day_4
theorem atX2_drop_119 : ∀ w ∈ nseAt.filter goodWord, w ∈ wsX2_drop := fun _ h => List.mem_cons_of_mem _ (List.mem_append_left _ (List.mem_append_left _ (List.mem_append_right _ h)))
theorem ckX2_drop_115 : Cond.classLink RX2 115 "java/util/NoSuchElementException" ∈ wsX2_drop := by decide +kernel
theorem ciX2_drop_115 : Cond.initialized "java/util/NoSuchElementException" ∈ wsX2_drop := by decide +kernel
theorem flX2_drop_30 : Cond.fieldLink RX2 30 "FolderKeeper" "accountEnds" "LFolderKeeper$Grid;" ∈ wsX2_drop := by decide +kernel
theorem inX2_drop_X2 : ∀ w ∈ wsX20, w ∈ wsX2_drop := fun _ h => List.mem_cons_of_mem _ (List.mem_append_left _ (List.mem_append_left _ (List.mem_append_left _ (List.mem_append_left _ (List.mem_append_right _ h)))))
set_option maxHeartbeats 4000000 in
set_option maxRecDepth 100000 in
theorem c_X2_drop {l : Launch} {D : va_G} {cy : Nat → ClassId} {a : Nat → Nat} {Z : va_W} {S : kSt} {p1 : Int32} {p2 : Int32} {r : ((Int32 ⊕ String) × kSt)} {sa : Nat → Nat} (hlt : l.stackTraces = false) (h : f_X2_drop S p1 p2 = some r) : kX l yX2_drop wsX2_drop ({ frames := 7, cells := 3, slots := 18, locals := 103 } : Room) D cy sa (xw a cy S Z) [.ref (a 0), .int p1, .int p2] (xw a cy r.2 Z) (kOI r.1) 3 18 := by
  rw [f_X2_drop] at h
  refine kX.start (L := [(0, .ref (a 0)), (1, .int (p1)), (2, .int (p2))]) hlt rfl rfl rfl (Nat.le_of_ble_eq_true rfl) rfl (fun K A C CX CN => ?_)
  refine kr_aload_n C 0 dX2_drop_0 rfl rfl ?_
  refine kr_iload_n C 1 dX2_drop_1 rfl rfl ?_
  rcases kxb_some h with ⟨Ev1, hv1, h⟩ | ⟨v1, hv1, h⟩
  · cases h
    exact kr_xVex C CX CN (k := 1) (As := [.int p1]) (rest := []) (c_X2_requireAccount hlt hv1) gX2_drop_X2_requireAccount rfl rfl rfl (by decide +kernel) ⟨(Nat.le_of_ble_eq_true rfl), (Nat.le_of_ble_eq_true rfl)⟩ ⟨(Nat.le_of_ble_eq_true rfl), (Nat.le_of_ble_eq_true rfl)⟩ 0 rfl rfl rfl rfl (Nat.le_of_ble_eq_true rfl) dX2_drop_2 (Nat.le_of_ble_eq_true rfl) (Nat.le_of_ble_eq_true rfl)
  refine kr_xV0 C CX (k := 1) (As := [.int p1]) (rest := []) (c_X2_requireAccount hlt hv1) gX2_drop_X2_requireAccount rfl rfl rfl (by decide +kernel) ⟨(Nat.le_of_ble_eq_true rfl), (Nat.le_of_ble_eq_true rfl)⟩ ⟨(Nat.le_of_ble_eq_true rfl), (Nat.le_of_ble_eq_true rfl)⟩ 0 rfl rfl rfl rfl (Nat.le_of_ble_eq_true rfl) dX2_drop_2 ?_
  refine kr_aload_n C 0 dX2_drop_5 rfl rfl ?_
  refine kr_iload_n C 2 dX2_drop_6 rfl rfl ?_
  rcases kxb_some h with ⟨Ev2, hv2, h⟩ | ⟨v2, hv2, h⟩
  · cases h
    exact kr_xVex C CX CN (k := 1) (As := [.int p2]) (rest := []) (c_X2_requireGroup hlt hv2) gX2_drop_X2_requireGroup rfl rfl rfl (by decide +kernel) ⟨(Nat.le_of_ble_eq_true rfl), (Nat.le_of_ble_eq_true rfl)⟩ ⟨(Nat.le_of_ble_eq_true rfl), (Nat.le_of_ble_eq_true rfl)⟩ 0 rfl rfl rfl rfl (Nat.le_of_ble_eq_true rfl) dX2_drop_7 (Nat.le_of_ble_eq_true rfl) (Nat.le_of_ble_eq_true rfl)
  refine kr_xV0 C CX (k := 1) (As := [.int p2]) (rest := []) (c_X2_requireGroup hlt hv2) gX2_drop_X2_requireGroup rfl rfl rfl (by decide +kernel) ⟨(Nat.le_of_ble_eq_true rfl), (Nat.le_of_ble_eq_true rfl)⟩ ⟨(Nat.le_of_ble_eq_true rfl), (Nat.le_of_ble_eq_true rfl)⟩ 0 rfl rfl rfl rfl (Nat.le_of_ble_eq_true rfl) dX2_drop_7 ?_
  refine kr_aload_n C 0 dX2_drop_10 rfl rfl ?_
  refine kr_iload_n C 1 dX2_drop_11 rfl rfl ?_
  refine kr_iload_n C 2 dX2_drop_12 rfl rfl ?_
  obtain ⟨v3, hv3, h⟩ := kob h
  refine kr_callV1 C (k := 2) (As := [.int p1, .int p2]) (rest := []) (c_X2_isMember hv3) gX2_drop_X2_isMember rfl rfl rfl (by decide +kernel) ⟨(Nat.le_of_ble_eq_true rfl), (Nat.le_of_ble_eq_true rfl)⟩ ⟨(Nat.le_of_ble_eq_true rfl), (Nat.le_of_ble_eq_true rfl)⟩ 0 rfl rfl rfl rfl (Nat.le_of_ble_eq_true rfl) dX2_drop_13 ?_
  refine kr_if_ne C 29 dX2_drop_16 (by decide) (fun hc => ?_) (fun hc => ?_)
  · have h := (if_pos hc).symm.trans h
    cases h
    exact kr_throwN C CX CN (text := "there is no such membership") ckX2_drop_115 ciX2_drop_115 (by decide) atX2_drop_119 ax_119 ay_119_115 dX2_drop_19 dX2_drop_22 dX2_drop_23 dX2_drop_25 dX2_drop_28 (Nat.le_of_ble_eq_true rfl) (Nat.le_of_ble_eq_true rfl) (Nat.le_of_ble_eq_true rfl) (Nat.le_of_ble_eq_true rfl) (Nat.le_of_ble_eq_true rfl) (Nat.le_of_ble_eq_true rfl)
  have h := (if_neg hc).symm.trans h
  refine kr_aload_n C 0 dX2_drop_29 rfl rfl ?_
  refine kr_get C inX2_drop_X2 0 rfl rfl 12 (by decide) flX2_drop_30 rfl rfl dX2_drop_30 ?_
  refine kr_iload_n C 2 dX2_drop_33 rfl rfl ?_
  refine kr_iload_n C 1 dX2_drop_34 rfl rfl ?_
  refine kr_iconst C (v := 0) dX2_drop_35 (by decide) ?_
  obtain ⟨v4, hv4, h⟩ := kob h
  refine kr_callV0 C (k := 3) (As := [.int p2, .int p1, .int (0 : Int32)]) (rest := []) (c_X0_put (Wf := fun f => xw a cy (S.1, va_up S.2 12 f) Z) (q0 := 5) (q1 := 13) (fun _ => rfl) (fun _ => rfl) (fun _ _ => rfl) hv4) gX2_drop_X0_put rfl rfl rfl (by decide +kernel) ⟨(Nat.le_of_ble_eq_true rfl), (Nat.le_of_ble_eq_true rfl)⟩ ⟨(Nat.le_of_ble_eq_true rfl), (Nat.le_of_ble_eq_true rfl)⟩ 5 rfl rfl rfl rfl (Nat.le_of_ble_eq_true rfl) dX2_drop_36 ?_
  refine kr_aload_n C 0 dX2_drop_39 rfl rfl ?_
  refine kr_get C inX2_drop_X2 0 rfl rfl 12 (by decide) flX2_drop_30 rfl rfl dX2_drop_40 ?_
  refine kr_iload_n C 2 dX2_drop_43 rfl rfl ?_
  obtain ⟨v5, hv5, h⟩ := kob h
  refine kr_callV1 C (k := 1) (As := [.int p2]) (rest := []) (c_X0_filled (q0 := 5) (q1 := 13) rfl rfl hv5) gX2_drop_X0_filled rfl rfl rfl (by decide +kernel) ⟨(Nat.le_of_ble_eq_true rfl), (Nat.le_of_ble_eq_true rfl)⟩ ⟨(Nat.le_of_ble_eq_true rfl), (Nat.le_of_ble_eq_true rfl)⟩ 5 rfl rfl rfl rfl (Nat.le_of_ble_eq_true rfl) dX2_drop_44 ?_
  cases h
  exact kr_retX (kr_ret_i C (Nat.le_of_ble_eq_true rfl) (Nat.le_of_ble_eq_true rfl) dX2_drop_47)
theorem flX2_firstActiveHeir_14 : Cond.fieldLink RX2 14 "FolderKeeper" "heirs" "LFolderKeeper$Row;" ∈ wsX2_firstActiveHeir := by decide +kernel
theorem inX2_firstActiveHeir_X2 : ∀ w ∈ wsX20, w ∈ wsX2_firstActiveHeir := fun _ h => List.mem_cons_of_mem _ (List.mem_append_left _ (List.mem_append_left _ (List.mem_append_right _ h)))
set_option maxHeartbeats 4000000 in
set_option maxRecDepth 100000 in
theorem lc_X2_firstActiveHeir_L11 {K : kEnv} {l : Launch} {D : va_G} {cy : Nat → ClassId} {A : Nat → Prop} {a : Nat → Nat} {Z : va_W} {S : kSt} {r : Int32} (C : kC K D cy A 4 cX2_firstActiveHeir RX2 wsX2_firstActiveHeir (some .int)) : ∀ (n : Nat) (x1 x2 x3 : Int32), f_X2_firstActiveHeir_L11 n S x1 x2 x3 = some r → kG K l D A ({ frames := 2, cells := 0, slots := 0, locals := 42 } : Room) 4 (kEnd K D cy A (xw a cy S Z) (some (.int r)) 0 0) (xw a cy S Z) 0 0 11 [(0, .ref (a 0)), (1, .int (x1)), (2, .int (x2)), (3, .int (x3))] [] := by
  intro n
  induction n with
  | zero => intro x1 x2 x3 h; rw [f_X2_firstActiveHeir_L11] at h; cases h
  | succ n ih =>
    intro x1 x2 x3 h
    rw [f_X2_firstActiveHeir_L11] at h
    refine kr_iload_n C 3 dX2_firstActiveHeir_11 rfl rfl ?_
    refine kr_bipush C (v := 10) dX2_firstActiveHeir_12 (by decide) ?_
    refine kr_icmp_ge C 52 dX2_firstActiveHeir_14 (by decide) (fun hc => ?_) (fun hc => ?_)
    · have h := (if_pos hc).symm.trans h
      refine kr_iconst C (v := -1) dX2_firstActiveHeir_52 (by decide) ?_
      cases h
      exact kr_ret_i C (Nat.le_of_ble_eq_true rfl) (Nat.le_of_ble_eq_true rfl) dX2_firstActiveHeir_53
    have h := (if_neg hc).symm.trans h
    refine kr_iload_n C 2 dX2_firstActiveHeir_17 rfl rfl ?_
    refine kr_iconst C (v := -1) dX2_firstActiveHeir_18 (by decide) ?_
    refine kr_icmp_eq C 52 dX2_firstActiveHeir_19 (by decide) (fun hc => ?_) (fun hc => ?_)
    · have h := (if_pos hc).symm.trans h
      refine kr_iconst C (v := -1) dX2_firstActiveHeir_52 (by decide) ?_
      cases h
      exact kr_ret_i C (Nat.le_of_ble_eq_true rfl) (Nat.le_of_ble_eq_true rfl) dX2_firstActiveHeir_53
    have h := (if_neg hc).symm.trans h
    refine kr_iload_n C 2 dX2_firstActiveHeir_22 rfl rfl ?_
    refine kr_iload_n C 1 dX2_firstActiveHeir_23 rfl rfl ?_
    refine kr_icmp_eq C 37 dX2_firstActiveHeir_24 (by decide) (fun hc => ?_) (fun hc => ?_)
    · have h := (if_pos hc).symm.trans h
      refine kr_aload_n C 0 dX2_firstActiveHeir_37 rfl rfl ?_
      refine kr_get C inX2_firstActiveHeir_X2 0 rfl rfl 8 (by decide) flX2_firstActiveHeir_14 rfl rfl dX2_firstActiveHeir_38 ?_
      refine kr_iload_n C 2 dX2_firstActiveHeir_41 rfl rfl ?_
      obtain ⟨v2, hv2, h⟩ := kob h
      refine kr_callV1 C (k := 1) (As := [.int x2]) (rest := []) (c_X1_at (q0 := 1) (q1 := 9) rfl rfl hv2) gX2_firstActiveHeir_X1_at rfl rfl rfl (by decide +kernel) ⟨(Nat.le_of_ble_eq_true rfl), (Nat.le_of_ble_eq_true rfl)⟩ ⟨(Nat.le_of_ble_eq_true rfl), (Nat.le_of_ble_eq_true rfl)⟩ 1 rfl rfl rfl rfl (Nat.le_of_ble_eq_true rfl) dX2_firstActiveHeir_42 ?_
      refine kr_istore_n C [1, 2, 0, 3] dX2_firstActiveHeir_45 rfl (by decide) rfl ?_
      refine kr_iinc C (v := (x3 + 1)) 3 [1, 2, 3, 0] dX2_firstActiveHeir_46 rfl rfl (by decide) rfl ?_
      refine kr_goto C 11 dX2_firstActiveHeir_49 (by decide) ?_
      exact ih _ _ _ h
    have h := (if_neg hc).symm.trans h
    refine kr_aload_n C 0 dX2_firstActiveHeir_27 rfl rfl ?_
    refine kr_iload_n C 2 dX2_firstActiveHeir_28 rfl rfl ?_
    obtain ⟨v3, hv3, h⟩ := kob h
    refine kr_callV1 C (k := 1) (As := [.int x2]) (rest := []) (c_X2_isActive hv3) gX2_firstActiveHeir_X2_isActive rfl rfl rfl (by decide +kernel) ⟨(Nat.le_of_ble_eq_true rfl), (Nat.le_of_ble_eq_true rfl)⟩ ⟨(Nat.le_of_ble_eq_true rfl), (Nat.le_of_ble_eq_true rfl)⟩ 0 rfl rfl rfl rfl (Nat.le_of_ble_eq_true rfl) dX2_firstActiveHeir_29 ?_
    refine kr_if_eq C 37 dX2_firstActiveHeir_32 (by decide) (fun hc => ?_) (fun hc => ?_)
    · have h := (if_pos hc).symm.trans h
      refine kr_aload_n C 0 dX2_firstActiveHeir_37 rfl rfl ?_
      refine kr_get C inX2_firstActiveHeir_X2 0 rfl rfl 8 (by decide) flX2_firstActiveHeir_14 rfl rfl dX2_firstActiveHeir_38 ?_
      refine kr_iload_n C 2 dX2_firstActiveHeir_41 rfl rfl ?_
      obtain ⟨v4, hv4, h⟩ := kob h
      refine kr_callV1 C (k := 1) (As := [.int x2]) (rest := []) (c_X1_at (q0 := 1) (q1 := 9) rfl rfl hv4) gX2_firstActiveHeir_X1_at rfl rfl rfl (by decide +kernel) ⟨(Nat.le_of_ble_eq_true rfl), (Nat.le_of_ble_eq_true rfl)⟩ ⟨(Nat.le_of_ble_eq_true rfl), (Nat.le_of_ble_eq_true rfl)⟩ 1 rfl rfl rfl rfl (Nat.le_of_ble_eq_true rfl) dX2_firstActiveHeir_42 ?_
      refine kr_istore_n C [1, 2, 0, 3] dX2_firstActiveHeir_45 rfl (by decide) rfl ?_
      refine kr_iinc C (v := (x3 + 1)) 3 [1, 2, 3, 0] dX2_firstActiveHeir_46 rfl rfl (by decide) rfl ?_
      refine kr_goto C 11 dX2_firstActiveHeir_49 (by decide) ?_
      exact ih _ _ _ h
    have h := (if_neg hc).symm.trans h
    refine kr_iload_n C 2 dX2_firstActiveHeir_35 rfl rfl ?_
    cases h
    exact kr_ret_i C (Nat.le_of_ble_eq_true rfl) (Nat.le_of_ble_eq_true rfl) dX2_firstActiveHeir_36
set_option maxHeartbeats 4000000 in
set_option maxRecDepth 100000 in
theorem c_X2_firstActiveHeir {l : Launch} {D : va_G} {cy : Nat → ClassId} {a : Nat → Nat} {Z : va_W} {S : kSt} {p1 : Int32} {r : Int32} (h : f_X2_firstActiveHeir S p1 = some r) : kM l yX2_firstActiveHeir wsX2_firstActiveHeir ({ frames := 2, cells := 0, slots := 0, locals := 42 } : Room) D cy (xw a cy S Z) [.ref (a 0), .int p1] (xw a cy S Z) (some (.int r)) 0 0 := by
  rw [f_X2_firstActiveHeir] at h
  refine kM.start (L := [(0, .ref (a 0)), (1, .int (p1))]) rfl rfl rfl (Nat.le_of_ble_eq_true rfl) rfl (fun K A C => ?_)
  refine kr_aload_n C 0 dX2_firstActiveHeir_0 rfl rfl ?_
  refine kr_get C inX2_firstActiveHeir_X2 0 rfl rfl 8 (by decide) flX2_firstActiveHeir_14 rfl rfl dX2_firstActiveHeir_1 ?_
  refine kr_iload_n C 1 dX2_firstActiveHeir_4 rfl rfl ?_
  obtain ⟨v1, hv1, h⟩ := kob h
  refine kr_callV1 C (k := 1) (As := [.int p1]) (rest := []) (c_X1_at (q0 := 1) (q1 := 9) rfl rfl hv1) gX2_firstActiveHeir_X1_at rfl rfl rfl (by decide +kernel) ⟨(Nat.le_of_ble_eq_true rfl), (Nat.le_of_ble_eq_true rfl)⟩ ⟨(Nat.le_of_ble_eq_true rfl), (Nat.le_of_ble_eq_true rfl)⟩ 1 rfl rfl rfl rfl (Nat.le_of_ble_eq_true rfl) dX2_firstActiveHeir_5 ?_
  refine kr_istore_n C [1, 2, 0] dX2_firstActiveHeir_8 rfl (by decide) rfl ?_
  refine kr_iconst C (v := 0) dX2_firstActiveHeir_9 (by decide) ?_
  refine kr_istore_n C [1, 2, 3, 0] dX2_firstActiveHeir_10 rfl (by decide) rfl ?_
  exact lc_X2_firstActiveHeir_L11 C _ _ _ _ h
theorem flX2_isHeld_172 : Cond.fieldLink RX2 172 "FolderKeeper" "heldFolders" "I" ∈ wsX2_isHeld := by decide +kernel
theorem inX2_isHeld_X2 : ∀ w ∈ wsX20, w ∈ wsX2_isHeld := fun _ h => List.mem_cons_of_mem _ (List.mem_append_right _ h)
set_option maxHeartbeats 4000000 in
set_option maxRecDepth 100000 in
theorem c_X2_isHeld {l : Launch} {D : va_G} {cy : Nat → ClassId} {a : Nat → Nat} {Z : va_W} {S : kSt} {p1 : Int32} {r : Bool} (h : f_X2_isHeld S p1 = some r) : kM l yX2_isHeld wsX2_isHeld ({ frames := 1, cells := 0, slots := 0, locals := 21 } : Room) D cy (xw a cy S Z) [.ref (a 0), .int p1] (xw a cy S Z) (some (.int (b2i r))) 0 0 := by
  rw [f_X2_isHeld] at h
  refine kM.start (L := [(0, .ref (a 0)), (1, .int (p1))]) rfl rfl rfl (Nat.le_of_ble_eq_true rfl) rfl (fun K A C => ?_)
  refine kr_aload_n C 0 dX2_isHeld_0 rfl rfl ?_
  refine kr_get C inX2_isHeld_X2 0 rfl rfl 7 (by decide) flX2_isHeld_172 rfl rfl dX2_isHeld_1 ?_
  refine kr_iload_n C 1 dX2_isHeld_4 rfl rfl ?_
  obtain ⟨v1, hv1, h⟩ := kob h
  refine kr_callS1 C (k := 2) (As := [.int (S.1 7), .int p1]) (rest := []) (c_X2_contains hv1) gX2_isHeld_X2_contains rfl rfl rfl (by decide +kernel) ⟨(Nat.le_of_ble_eq_true rfl), (Nat.le_of_ble_eq_true rfl)⟩ ⟨(Nat.le_of_ble_eq_true rfl), (Nat.le_of_ble_eq_true rfl)⟩ rfl rfl (Nat.le_of_ble_eq_true rfl) dX2_isHeld_5 ?_
  cases h
  exact kr_ret_z C (nar_b _) (Nat.le_of_ble_eq_true rfl) (Nat.le_of_ble_eq_true rfl) dX2_isHeld_8
theorem flX2_isHandedOverBy_18 : Cond.fieldLink RX2 18 "FolderKeeper" "owners" "LFolderKeeper$Row;" ∈ wsX2_isHandedOverBy := by decide +kernel
theorem inX2_isHandedOverBy_X2 : ∀ w ∈ wsX20, w ∈ wsX2_isHandedOverBy := fun _ h => List.mem_cons_of_mem _ (List.mem_append_left _ (List.mem_append_left _ (List.mem_append_right _ h)))
set_option maxHeartbeats 4000000 in
set_option maxRecDepth 100000 in
theorem c_X2_isHandedOverBy {l : Launch} {D : va_G} {cy : Nat → ClassId} {a : Nat → Nat} {Z : va_W} {S : kSt} {p1 : Int32} {p2 : Int32} {r : Bool} (h : f_X2_isHandedOverBy S p1 p2 = some r) : kM l yX2_isHandedOverBy wsX2_isHandedOverBy ({ frames := 2, cells := 0, slots := 0, locals := 42 } : Room) D cy (xw a cy S Z) [.ref (a 0), .int p1, .int p2] (xw a cy S Z) (some (.int (b2i r))) 0 0 := by
  rw [f_X2_isHandedOverBy] at h
  refine kM.start (L := [(0, .ref (a 0)), (1, .int (p1)), (2, .int (p2))]) rfl rfl rfl (Nat.le_of_ble_eq_true rfl) rfl (fun K A C => ?_)
  refine kr_aload_n C 0 dX2_isHandedOverBy_0 rfl rfl ?_
  refine kr_get C inX2_isHandedOverBy_X2 0 rfl rfl 9 (by decide) flX2_isHandedOverBy_18 rfl rfl dX2_isHandedOverBy_1 ?_
  refine kr_iload_n C 2 dX2_isHandedOverBy_4 rfl rfl ?_
  obtain ⟨v1, hv1, h⟩ := kob h
  refine kr_callV1 C (k := 1) (As := [.int p2]) (rest := []) (c_X1_at (q0 := 2) (q1 := 10) rfl rfl hv1) gX2_isHandedOverBy_X1_at rfl rfl rfl (by decide +kernel) ⟨(Nat.le_of_ble_eq_true rfl), (Nat.le_of_ble_eq_true rfl)⟩ ⟨(Nat.le_of_ble_eq_true rfl), (Nat.le_of_ble_eq_true rfl)⟩ 2 rfl rfl rfl rfl (Nat.le_of_ble_eq_true rfl) dX2_isHandedOverBy_5 ?_
  refine kr_iload_n C 1 dX2_isHandedOverBy_8 rfl rfl ?_
  refine kr_icmp_ne C 24 dX2_isHandedOverBy_9 (by decide) (fun hc => ?_) (fun hc => ?_)
  · have h := (if_pos hc).symm.trans h
    refine kr_aload_n C 0 dX2_isHandedOverBy_12 rfl rfl ?_
    refine kr_iload_n C 2 dX2_isHandedOverBy_13 rfl rfl ?_
    obtain ⟨v2, hv2, h⟩ := kob h
    refine kr_callV1 C (k := 1) (As := [.int p2]) (rest := []) (c_X2_isHeld hv2) gX2_isHandedOverBy_X2_isHeld rfl rfl rfl (by decide +kernel) ⟨(Nat.le_of_ble_eq_true rfl), (Nat.le_of_ble_eq_true rfl)⟩ ⟨(Nat.le_of_ble_eq_true rfl), (Nat.le_of_ble_eq_true rfl)⟩ 0 rfl rfl rfl rfl (Nat.le_of_ble_eq_true rfl) dX2_isHandedOverBy_14 ?_
    refine kr_if_ne C 24 dX2_isHandedOverBy_17 (by decide) (fun hc => ?_) (fun hc => ?_)
    · have h := (if_pos hc).symm.trans h
      refine kr_iconst C (v := 1) dX2_isHandedOverBy_20 (by decide) ?_
      refine kr_goto C 25 dX2_isHandedOverBy_21 (by decide) ?_
      cases h
      exact kr_ret_z (v := b2i true) C (nar_b _) (Nat.le_of_ble_eq_true rfl) (Nat.le_of_ble_eq_true rfl) dX2_isHandedOverBy_25
    have h := (if_neg hc).symm.trans h
    refine kr_iconst C (v := 0) dX2_isHandedOverBy_24 (by decide) ?_
    cases h
    exact kr_ret_z (v := b2i false) C (nar_b _) (Nat.le_of_ble_eq_true rfl) (Nat.le_of_ble_eq_true rfl) dX2_isHandedOverBy_25
  have h := (if_neg hc).symm.trans h
  refine kr_iconst C (v := 0) dX2_isHandedOverBy_24 (by decide) ?_
  cases h
  exact kr_ret_z (v := b2i false) C (nar_b _) (Nat.le_of_ble_eq_true rfl) (Nat.le_of_ble_eq_true rfl) dX2_isHandedOverBy_25
theorem flX2_ownerAbove_21 : Cond.fieldLink RX2 21 "FolderKeeper" "parents" "LFolderKeeper$Row;" ∈ wsX2_ownerAbove := by decide +kernel
theorem inX2_ownerAbove_X2 : ∀ w ∈ wsX20, w ∈ wsX2_ownerAbove := fun _ h => List.mem_cons_of_mem _ (List.mem_append_left _ (List.mem_append_left _ (List.mem_append_right _ h)))
theorem flX2_ownerAbove_18 : Cond.fieldLink RX2 18 "FolderKeeper" "owners" "LFolderKeeper$Row;" ∈ wsX2_ownerAbove := by decide +kernel
set_option maxHeartbeats 4000000 in
set_option maxRecDepth 100000 in
theorem lc_X2_ownerAbove_L12 {K : kEnv} {l : Launch} {D : va_G} {cy : Nat → ClassId} {A : Nat → Prop} {a : Nat → Nat} {Z : va_W} {S : kSt} {r : Int32} (C : kC K D cy A 5 cX2_ownerAbove RX2 wsX2_ownerAbove (some .int)) : ∀ (n : Nat) (x2 x3 x4 : Int32), f_X2_ownerAbove_L12 n S x2 x3 x4 = some r → kG K l D A ({ frames := 3, cells := 0, slots := 0, locals := 64 } : Room) 5 (kEnd K D cy A (xw a cy S Z) (some (.int r)) 0 0) (xw a cy S Z) 0 0 12 [(0, .ref (a 0)), (2, .int (x2)), (3, .int (x3)), (4, .int (x4))] [] := by
  intro n
  induction n with
  | zero => intro x2 x3 x4 h; rw [f_X2_ownerAbove_L12] at h; cases h
  | succ n ih =>
    intro x2 x3 x4 h
    rw [f_X2_ownerAbove_L12] at h
    refine kr_iload C 3 dX2_ownerAbove_12 rfl ?_
    refine kr_bipush C (v := 12) dX2_ownerAbove_14 (by decide) ?_
    refine kr_icmp_ge C 43 dX2_ownerAbove_16 (by decide) (fun hc => ?_) (fun hc => ?_)
    · have h := (if_pos hc).symm.trans h
      refine kr_aload_n C 0 dX2_ownerAbove_43 rfl rfl ?_
      refine kr_get C inX2_ownerAbove_X2 0 rfl rfl 9 (by decide) flX2_ownerAbove_18 rfl rfl dX2_ownerAbove_44 ?_
      refine kr_iload_n C 2 dX2_ownerAbove_47 rfl rfl ?_
      obtain ⟨v2, hv2, h⟩ := kob h
      refine kr_callV1 C (k := 1) (As := [.int x3]) (rest := []) (c_X1_at (q0 := 2) (q1 := 10) rfl rfl hv2) gX2_ownerAbove_X1_at rfl rfl rfl (by decide +kernel) ⟨(Nat.le_of_ble_eq_true rfl), (Nat.le_of_ble_eq_true rfl)⟩ ⟨(Nat.le_of_ble_eq_true rfl), (Nat.le_of_ble_eq_true rfl)⟩ 2 rfl rfl rfl rfl (Nat.le_of_ble_eq_true rfl) dX2_ownerAbove_48 ?_
      refine kr_istore C [1, 2, 3, 0] dX2_ownerAbove_51 (by decide) rfl ?_
      refine kr_iload C 3 dX2_ownerAbove_53 rfl ?_
      refine kr_iload_n C 1 dX2_ownerAbove_55 rfl rfl ?_
      refine kr_icmp_eq C 73 dX2_ownerAbove_56 (by decide) (fun hc => ?_) (fun hc => ?_)
      · have h := (if_pos hc).symm.trans h
        refine kr_iconst C (v := 0) dX2_ownerAbove_73 (by decide) ?_
        cases h
        exact kr_ret_i C (Nat.le_of_ble_eq_true rfl) (Nat.le_of_ble_eq_true rfl) dX2_ownerAbove_74
      have h := (if_neg hc).symm.trans h
      refine kr_aload_n C 0 dX2_ownerAbove_59 rfl rfl ?_
      refine kr_iload C 3 dX2_ownerAbove_60 rfl ?_
      obtain ⟨v3, hv3, h⟩ := kob h
      refine kr_callV1 C (k := 1) (As := [.int v2]) (rest := []) (c_X2_isActive hv3) gX2_ownerAbove_X2_isActive rfl rfl rfl (by decide +kernel) ⟨(Nat.le_of_ble_eq_true rfl), (Nat.le_of_ble_eq_true rfl)⟩ ⟨(Nat.le_of_ble_eq_true rfl), (Nat.le_of_ble_eq_true rfl)⟩ 0 rfl rfl rfl rfl (Nat.le_of_ble_eq_true rfl) dX2_ownerAbove_62 ?_
      refine kr_if_eq C 73 dX2_ownerAbove_65 (by decide) (fun hc => ?_) (fun hc => ?_)
      · have h := (if_pos hc).symm.trans h
        refine kr_iconst C (v := 0) dX2_ownerAbove_73 (by decide) ?_
        cases h
        exact kr_ret_i C (Nat.le_of_ble_eq_true rfl) (Nat.le_of_ble_eq_true rfl) dX2_ownerAbove_74
      have h := (if_neg hc).symm.trans h
      refine kr_iload C 3 dX2_ownerAbove_68 rfl ?_
      refine kr_goto C 74 dX2_ownerAbove_70 (by decide) ?_
      cases h
      exact kr_ret_i C (Nat.le_of_ble_eq_true rfl) (Nat.le_of_ble_eq_true rfl) dX2_ownerAbove_74
    have h := (if_neg hc).symm.trans h
    refine kr_aload_n C 0 dX2_ownerAbove_19 rfl rfl ?_
    refine kr_iload_n C 1 dX2_ownerAbove_20 rfl rfl ?_
    refine kr_iload_n C 2 dX2_ownerAbove_21 rfl rfl ?_
    obtain ⟨v4, hv4, h⟩ := kob h
    refine kr_callV1 C (k := 2) (As := [.int x2, .int x3]) (rest := []) (c_X2_isHandedOverBy hv4) gX2_ownerAbove_X2_isHandedOverBy rfl rfl rfl (by decide +kernel) ⟨(Nat.le_of_ble_eq_true rfl), (Nat.le_of_ble_eq_true rfl)⟩ ⟨(Nat.le_of_ble_eq_true rfl), (Nat.le_of_ble_eq_true rfl)⟩ 0 rfl rfl rfl rfl (Nat.le_of_ble_eq_true rfl) dX2_ownerAbove_22 ?_
    refine kr_if_eq C 43 dX2_ownerAbove_25 (by decide) (fun hc => ?_) (fun hc => ?_)
    · have h := (if_pos hc).symm.trans h
      refine kr_aload_n C 0 dX2_ownerAbove_43 rfl rfl ?_
      refine kr_get C inX2_ownerAbove_X2 0 rfl rfl 9 (by decide) flX2_ownerAbove_18 rfl rfl dX2_ownerAbove_44 ?_
      refine kr_iload_n C 2 dX2_ownerAbove_47 rfl rfl ?_
      obtain ⟨v5, hv5, h⟩ := kob h
      refine kr_callV1 C (k := 1) (As := [.int x3]) (rest := []) (c_X1_at (q0 := 2) (q1 := 10) rfl rfl hv5) gX2_ownerAbove_X1_at rfl rfl rfl (by decide +kernel) ⟨(Nat.le_of_ble_eq_true rfl), (Nat.le_of_ble_eq_true rfl)⟩ ⟨(Nat.le_of_ble_eq_true rfl), (Nat.le_of_ble_eq_true rfl)⟩ 2 rfl rfl rfl rfl (Nat.le_of_ble_eq_true rfl) dX2_ownerAbove_48 ?_
      refine kr_istore C [1, 2, 3, 0] dX2_ownerAbove_51 (by decide) rfl ?_
      refine kr_iload C 3 dX2_ownerAbove_53 rfl ?_
      refine kr_iload_n C 1 dX2_ownerAbove_55 rfl rfl ?_
      refine kr_icmp_eq C 73 dX2_ownerAbove_56 (by decide) (fun hc => ?_) (fun hc => ?_)
      · have h := (if_pos hc).symm.trans h
        refine kr_iconst C (v := 0) dX2_ownerAbove_73 (by decide) ?_
        cases h
        exact kr_ret_i C (Nat.le_of_ble_eq_true rfl) (Nat.le_of_ble_eq_true rfl) dX2_ownerAbove_74
      have h := (if_neg hc).symm.trans h
      refine kr_aload_n C 0 dX2_ownerAbove_59 rfl rfl ?_
      refine kr_iload C 3 dX2_ownerAbove_60 rfl ?_
      obtain ⟨v6, hv6, h⟩ := kob h
      refine kr_callV1 C (k := 1) (As := [.int v5]) (rest := []) (c_X2_isActive hv6) gX2_ownerAbove_X2_isActive rfl rfl rfl (by decide +kernel) ⟨(Nat.le_of_ble_eq_true rfl), (Nat.le_of_ble_eq_true rfl)⟩ ⟨(Nat.le_of_ble_eq_true rfl), (Nat.le_of_ble_eq_true rfl)⟩ 0 rfl rfl rfl rfl (Nat.le_of_ble_eq_true rfl) dX2_ownerAbove_62 ?_
      refine kr_if_eq C 73 dX2_ownerAbove_65 (by decide) (fun hc => ?_) (fun hc => ?_)
      · have h := (if_pos hc).symm.trans h
        refine kr_iconst C (v := 0) dX2_ownerAbove_73 (by decide) ?_
        cases h
        exact kr_ret_i C (Nat.le_of_ble_eq_true rfl) (Nat.le_of_ble_eq_true rfl) dX2_ownerAbove_74
      have h := (if_neg hc).symm.trans h
      refine kr_iload C 3 dX2_ownerAbove_68 rfl ?_
      refine kr_goto C 74 dX2_ownerAbove_70 (by decide) ?_
      cases h
      exact kr_ret_i C (Nat.le_of_ble_eq_true rfl) (Nat.le_of_ble_eq_true rfl) dX2_ownerAbove_74
    have h := (if_neg hc).symm.trans h
    refine kr_aload_n C 0 dX2_ownerAbove_28 rfl rfl ?_
    refine kr_get C inX2_ownerAbove_X2 0 rfl rfl 10 (by decide) flX2_ownerAbove_21 rfl rfl dX2_ownerAbove_29 ?_
    refine kr_iload_n C 2 dX2_ownerAbove_32 rfl rfl ?_
    obtain ⟨v7, hv7, h⟩ := kob h
    refine kr_callV1 C (k := 1) (As := [.int x3]) (rest := []) (c_X1_at (q0 := 3) (q1 := 11) rfl rfl hv7) gX2_ownerAbove_X1_at rfl rfl rfl (by decide +kernel) ⟨(Nat.le_of_ble_eq_true rfl), (Nat.le_of_ble_eq_true rfl)⟩ ⟨(Nat.le_of_ble_eq_true rfl), (Nat.le_of_ble_eq_true rfl)⟩ 3 rfl rfl rfl rfl (Nat.le_of_ble_eq_true rfl) dX2_ownerAbove_33 ?_
    refine kr_istore_n C [1, 2, 0, 3] dX2_ownerAbove_36 rfl (by decide) rfl ?_
    refine kr_iinc C (v := (x4 + 1)) 3 [1, 2, 3, 0] dX2_ownerAbove_37 rfl rfl (by decide) rfl ?_
    refine kr_goto C 12 dX2_ownerAbove_40 (by decide) ?_
    exact ih _ _ _ h
set_option maxHeartbeats 4000000 in
set_option maxRecDepth 100000 in
theorem c_X2_ownerAbove {l : Launch} {D : va_G} {cy : Nat → ClassId} {a : Nat → Nat} {Z : va_W} {S : kSt} {p1 : Int32} {p2 : Int32} {r : Int32} (h : f_X2_ownerAbove S p1 p2 = some r) : kM l yX2_ownerAbove wsX2_ownerAbove ({ frames := 3, cells := 0, slots := 0, locals := 64 } : Room) D cy (xw a cy S Z) [.ref (a 0), .int p1, .int p2] (xw a cy S Z) (some (.int r)) 0 0 := by
  rw [f_X2_ownerAbove] at h
  refine kM.start (L := [(0, .ref (a 0)), (1, .int (p1)), (2, .int (p2))]) rfl rfl rfl (Nat.le_of_ble_eq_true rfl) rfl (fun K A C => ?_)
  refine kr_aload_n C 0 dX2_ownerAbove_0 rfl rfl ?_
  refine kr_get C inX2_ownerAbove_X2 0 rfl rfl 10 (by decide) flX2_ownerAbove_21 rfl rfl dX2_ownerAbove_1 ?_
  refine kr_iload_n C 1 dX2_ownerAbove_4 rfl rfl ?_
  obtain ⟨v1, hv1, h⟩ := kob h
  refine kr_callV1 C (k := 1) (As := [.int p1]) (rest := []) (c_X1_at (q0 := 3) (q1 := 11) rfl rfl hv1) gX2_ownerAbove_X1_at rfl rfl rfl (by decide +kernel) ⟨(Nat.le_of_ble_eq_true rfl), (Nat.le_of_ble_eq_true rfl)⟩ ⟨(Nat.le_of_ble_eq_true rfl), (Nat.le_of_ble_eq_true rfl)⟩ 3 rfl rfl rfl rfl (Nat.le_of_ble_eq_true rfl) dX2_ownerAbove_5 ?_
  refine kr_istore_n C [1, 2, 3, 0] dX2_ownerAbove_8 rfl (by decide) rfl ?_
  refine kr_iconst C (v := 0) dX2_ownerAbove_9 (by decide) ?_
  refine kr_istore C [1, 2, 3, 4, 0] dX2_ownerAbove_10 (by decide) rfl ?_
  refine kr_sub [0, 2, 3, 4] rfl ?_
  exact lc_X2_ownerAbove_L12 C _ _ _ _ h
theorem flX2_keeperAfterLeaving_18 : Cond.fieldLink RX2 18 "FolderKeeper" "owners" "LFolderKeeper$Row;" ∈ wsX2_keeperAfterLeaving := by decide +kernel
theorem inX2_keeperAfterLeaving_X2 : ∀ w ∈ wsX20, w ∈ wsX2_keeperAfterLeaving := fun _ h => List.mem_cons_of_mem _ (List.mem_append_left _ (List.mem_append_left _ (List.mem_append_right _ h)))
set_option maxHeartbeats 4000000 in
set_option maxRecDepth 100000 in
theorem c_X2_keeperAfterLeaving {l : Launch} {D : va_G} {cy : Nat → ClassId} {a : Nat → Nat} {Z : va_W} {S : kSt} {p1 : Int32} {r : Int32} (h : f_X2_keeperAfterLeaving S p1 = some r) : kM l yX2_keeperAfterLeaving wsX2_keeperAfterLeaving ({ frames := 4, cells := 0, slots := 0, locals := 88 } : Room) D cy (xw a cy S Z) [.ref (a 0), .int p1] (xw a cy S Z) (some (.int r)) 0 0 := by
  rw [f_X2_keeperAfterLeaving] at h
  refine kM.start (L := [(0, .ref (a 0)), (1, .int (p1))]) rfl rfl rfl (Nat.le_of_ble_eq_true rfl) rfl (fun K A C => ?_)
  refine kr_aload_n C 0 dX2_keeperAfterLeaving_0 rfl rfl ?_
  refine kr_get C inX2_keeperAfterLeaving_X2 0 rfl rfl 9 (by decide) flX2_keeperAfterLeaving_18 rfl rfl dX2_keeperAfterLeaving_1 ?_
  refine kr_iload_n C 1 dX2_keeperAfterLeaving_4 rfl rfl ?_
  obtain ⟨v1, hv1, h⟩ := kob h
  refine kr_callV1 C (k := 1) (As := [.int p1]) (rest := []) (c_X1_at (q0 := 2) (q1 := 10) rfl rfl hv1) gX2_keeperAfterLeaving_X1_at rfl rfl rfl (by decide +kernel) ⟨(Nat.le_of_ble_eq_true rfl), (Nat.le_of_ble_eq_true rfl)⟩ ⟨(Nat.le_of_ble_eq_true rfl), (Nat.le_of_ble_eq_true rfl)⟩ 2 rfl rfl rfl rfl (Nat.le_of_ble_eq_true rfl) dX2_keeperAfterLeaving_5 ?_
  refine kr_istore_n C [1, 2, 0] dX2_keeperAfterLeaving_8 rfl (by decide) rfl ?_
  refine kr_aload_n C 0 dX2_keeperAfterLeaving_9 rfl rfl ?_
  refine kr_iload_n C 2 dX2_keeperAfterLeaving_10 rfl rfl ?_
  obtain ⟨v2, hv2, h⟩ := kob h
  refine kr_callV1 C (k := 1) (As := [.int v1]) (rest := []) (c_X2_firstActiveHeir hv2) gX2_keeperAfterLeaving_X2_firstActiveHeir rfl rfl rfl (by decide +kernel) ⟨(Nat.le_of_ble_eq_true rfl), (Nat.le_of_ble_eq_true rfl)⟩ ⟨(Nat.le_of_ble_eq_true rfl), (Nat.le_of_ble_eq_true rfl)⟩ 0 rfl rfl rfl rfl (Nat.le_of_ble_eq_true rfl) dX2_keeperAfterLeaving_11 ?_
  refine kr_istore_n C [1, 2, 3, 0] dX2_keeperAfterLeaving_14 rfl (by decide) rfl ?_
  refine kr_iload_n C 3 dX2_keeperAfterLeaving_15 rfl rfl ?_
  refine kr_iconst C (v := -1) dX2_keeperAfterLeaving_16 (by decide) ?_
  refine kr_icmp_eq C 24 dX2_keeperAfterLeaving_17 (by decide) (fun hc => ?_) (fun hc => ?_)
  · have h := (if_pos hc).symm.trans h
    refine kr_aload_n C 0 dX2_keeperAfterLeaving_24 rfl rfl ?_
    refine kr_iload_n C 1 dX2_keeperAfterLeaving_25 rfl rfl ?_
    refine kr_iload_n C 2 dX2_keeperAfterLeaving_26 rfl rfl ?_
    obtain ⟨v3, hv3, h⟩ := kob h
    refine kr_callV1 C (k := 2) (As := [.int p1, .int v1]) (rest := []) (c_X2_ownerAbove hv3) gX2_keeperAfterLeaving_X2_ownerAbove rfl rfl rfl (by decide +kernel) ⟨(Nat.le_of_ble_eq_true rfl), (Nat.le_of_ble_eq_true rfl)⟩ ⟨(Nat.le_of_ble_eq_true rfl), (Nat.le_of_ble_eq_true rfl)⟩ 0 rfl rfl rfl rfl (Nat.le_of_ble_eq_true rfl) dX2_keeperAfterLeaving_27 ?_
    cases h
    exact kr_ret_i C (Nat.le_of_ble_eq_true rfl) (Nat.le_of_ble_eq_true rfl) dX2_keeperAfterLeaving_30
  have h := (if_neg hc).symm.trans h
  refine kr_iload_n C 3 dX2_keeperAfterLeaving_20 rfl rfl ?_
  refine kr_goto C 30 dX2_keeperAfterLeaving_21 (by decide) ?_
  cases h
  exact kr_ret_i C (Nat.le_of_ble_eq_true rfl) (Nat.le_of_ble_eq_true rfl) dX2_keeperAfterLeaving_30
theorem flX2_handOverFoldersOf_126 : Cond.fieldLink RX2 126 "FolderKeeper" "folders" "I" ∈ wsX2_handOverFoldersOf := by decide +kernel
theorem inX2_handOverFoldersOf_X2 : ∀ w ∈ wsX20, w ∈ wsX2_handOverFoldersOf := fun _ h => List.mem_cons_of_mem _ (List.mem_append_left _ (List.mem_append_left _ (List.mem_append_right _ h)))
theorem flX2_handOverFoldersOf_18 : Cond.fieldLink RX2 18 "FolderKeeper" "owners" "LFolderKeeper$Row;" ∈ wsX2_handOverFoldersOf := by decide +kernel
set_option maxHeartbeats 4000000 in
set_option maxRecDepth 100000 in
theorem lc_X2_handOverFoldersOf_L4 {K : kEnv} {l : Launch} {D : va_G} {cy : Nat → ClassId} {A : Nat → Prop} {a : Nat → Nat} {Z : va_W} {r : (Int32 × kSt)} (C : kC K D cy A 4 cX2_handOverFoldersOf RX2 wsX2_handOverFoldersOf (some .int)) : ∀ (n : Nat) (S : kSt) (x1 x2 x3 : Int32), f_X2_handOverFoldersOf_L4 n S x1 x2 x3 = some r → kG K l D A ({ frames := 5, cells := 0, slots := 0, locals := 111 } : Room) 4 (kEnd K D cy A (xw a cy r.2 Z) (some (.int r.1)) 0 0) (xw a cy S Z) 0 0 4 [(0, .ref (a 0)), (1, .int (x1)), (2, .int (x2)), (3, .int (x3))] [] := by
  intro n
  induction n with
  | zero => intro S x1 x2 x3 h; rw [f_X2_handOverFoldersOf_L4] at h; cases h
  | succ n ih =>
    intro S x1 x2 x3 h
    rw [f_X2_handOverFoldersOf_L4] at h
    refine kr_iload_n C 3 dX2_handOverFoldersOf_4 rfl rfl ?_
    refine kr_aload_n C 0 dX2_handOverFoldersOf_5 rfl rfl ?_
    refine kr_get C inX2_handOverFoldersOf_X2 0 rfl rfl 2 (by decide) flX2_handOverFoldersOf_126 rfl rfl dX2_handOverFoldersOf_6 ?_
    refine kr_icmp_ge C 43 dX2_handOverFoldersOf_9 (by decide) (fun hc => ?_) (fun hc => ?_)
    · have h := (if_pos hc).symm.trans h
      refine kr_iload_n C 2 dX2_handOverFoldersOf_43 rfl rfl ?_
      cases h
      exact kr_ret_i C (Nat.le_of_ble_eq_true rfl) (Nat.le_of_ble_eq_true rfl) dX2_handOverFoldersOf_44
    have h := (if_neg hc).symm.trans h
    refine kr_aload_n C 0 dX2_handOverFoldersOf_12 rfl rfl ?_
    refine kr_iload_n C 1 dX2_handOverFoldersOf_13 rfl rfl ?_
    refine kr_iload_n C 3 dX2_handOverFoldersOf_14 rfl rfl ?_
    obtain ⟨v1, hv1, h⟩ := kob h
    refine kr_callV1 C (k := 2) (As := [.int x1, .int x3]) (rest := []) (c_X2_isHandedOverBy hv1) gX2_handOverFoldersOf_X2_isHandedOverBy rfl rfl rfl (by decide +kernel) ⟨(Nat.le_of_ble_eq_true rfl), (Nat.le_of_ble_eq_true rfl)⟩ ⟨(Nat.le_of_ble_eq_true rfl), (Nat.le_of_ble_eq_true rfl)⟩ 0 rfl rfl rfl rfl (Nat.le_of_ble_eq_true rfl) dX2_handOverFoldersOf_15 ?_
    refine kr_if_eq C 37 dX2_handOverFoldersOf_18 (by decide) (fun hc => ?_) (fun hc => ?_)
    · have h := (if_pos hc).symm.trans h
      refine kr_iinc C (v := (x3 + 1)) 3 [1, 2, 3, 0] dX2_handOverFoldersOf_37 rfl rfl (by decide) rfl ?_
      refine kr_goto C 4 dX2_handOverFoldersOf_40 (by decide) ?_
      exact ih _ _ _ _ h
    have h := (if_neg hc).symm.trans h
    refine kr_aload_n C 0 dX2_handOverFoldersOf_21 rfl rfl ?_
    refine kr_get C inX2_handOverFoldersOf_X2 0 rfl rfl 9 (by decide) flX2_handOverFoldersOf_18 rfl rfl dX2_handOverFoldersOf_22 ?_
    refine kr_iload_n C 3 dX2_handOverFoldersOf_25 rfl rfl ?_
    refine kr_aload_n C 0 dX2_handOverFoldersOf_26 rfl rfl ?_
    refine kr_iload_n C 3 dX2_handOverFoldersOf_27 rfl rfl ?_
    obtain ⟨v2, hv2, h⟩ := kob h
    refine kr_callV1 C (k := 1) (As := [.int x3]) (rest := [.int (x3), .ref (a 9)]) (c_X2_keeperAfterLeaving hv2) gX2_handOverFoldersOf_X2_keeperAfterLeaving rfl rfl rfl (by decide +kernel) ⟨(Nat.le_of_ble_eq_true rfl), (Nat.le_of_ble_eq_true rfl)⟩ ⟨(Nat.le_of_ble_eq_true rfl), (Nat.le_of_ble_eq_true rfl)⟩ 0 rfl rfl rfl rfl (Nat.le_of_ble_eq_true rfl) dX2_handOverFoldersOf_28 ?_
    obtain ⟨v3, hv3, h⟩ := kob h
    refine kr_callV0 C (k := 2) (As := [.int x3, .int v2]) (rest := []) (c_X1_put (Wf := fun f => xw a cy (S.1, va_up S.2 9 f) Z) (q0 := 2) (q1 := 10) (fun _ => rfl) (fun _ => rfl) (fun _ _ => rfl) hv3) gX2_handOverFoldersOf_X1_put rfl rfl rfl (by decide +kernel) ⟨(Nat.le_of_ble_eq_true rfl), (Nat.le_of_ble_eq_true rfl)⟩ ⟨(Nat.le_of_ble_eq_true rfl), (Nat.le_of_ble_eq_true rfl)⟩ 2 rfl rfl rfl rfl (Nat.le_of_ble_eq_true rfl) dX2_handOverFoldersOf_31 ?_
    refine kr_iinc C (v := (x2 + 1)) 2 [1, 2, 0, 3] dX2_handOverFoldersOf_34 rfl rfl (by decide) rfl ?_
    refine kr_iinc C (v := (x3 + 1)) 3 [1, 2, 3, 0] dX2_handOverFoldersOf_37 rfl rfl (by decide) rfl ?_
    refine kr_goto C 4 dX2_handOverFoldersOf_40 (by decide) ?_
    exact ih _ _ _ _ h
set_option maxHeartbeats 4000000 in
set_option maxRecDepth 100000 in
theorem c_X2_handOverFoldersOf {l : Launch} {D : va_G} {cy : Nat → ClassId} {a : Nat → Nat} {Z : va_W} {S : kSt} {p1 : Int32} {r : (Int32 × kSt)} (h : f_X2_handOverFoldersOf S p1 = some r) : kM l yX2_handOverFoldersOf wsX2_handOverFoldersOf ({ frames := 5, cells := 0, slots := 0, locals := 111 } : Room) D cy (xw a cy S Z) [.ref (a 0), .int p1] (xw a cy r.2 Z) (some (.int r.1)) 0 0 := by
  rw [f_X2_handOverFoldersOf] at h
  refine kM.start (L := [(0, .ref (a 0)), (1, .int (p1))]) rfl rfl rfl (Nat.le_of_ble_eq_true rfl) rfl (fun K A C => ?_)
  refine kr_iconst C (v := 0) dX2_handOverFoldersOf_0 (by decide) ?_
  refine kr_istore_n C [1, 2, 0] dX2_handOverFoldersOf_1 rfl (by decide) rfl ?_
  refine kr_iconst C (v := 0) dX2_handOverFoldersOf_2 (by decide) ?_
  refine kr_istore_n C [1, 2, 3, 0] dX2_handOverFoldersOf_3 rfl (by decide) rfl ?_
  exact lc_X2_handOverFoldersOf_L4 C _ _ _ _ _ h
theorem atX2_requireNotHeld_54 : ∀ w ∈ (vx_atS RX2 54 "java/lang/IllegalStateException" ["java/lang/RuntimeException", "java/lang/Exception"]).filter goodWord, w ∈ wsX2_requireNotHeld := fun _ h => List.mem_cons_of_mem _ (List.mem_append_right _ h)
theorem ckX2_requireNotHeld_50 : Cond.classLink RX2 50 "java/lang/IllegalStateException" ∈ wsX2_requireNotHeld := by decide +kernel
theorem ciX2_requireNotHeld_50 : Cond.initialized "java/lang/IllegalStateException" ∈ wsX2_requireNotHeld := by decide +kernel
set_option maxHeartbeats 4000000 in
set_option maxRecDepth 100000 in
theorem c_X2_requireNotHeld {l : Launch} {D : va_G} {cy : Nat → ClassId} {a : Nat → Nat} {Z : va_W} {S : kSt} {p1 : Int32} {r : (Unit ⊕ String)} {sa : Nat → Nat} (hlt : l.stackTraces = false) (h : f_X2_requireNotHeld S p1 = some r) : kX l yX2_requireNotHeld wsX2_requireNotHeld ({ frames := 6, cells := 1, slots := 6, locals := 82 } : Room) D cy sa (xw a cy S Z) [.ref (a 0), .int p1] (xw a cy S Z) (kOV r) 1 6 := by
  rw [f_X2_requireNotHeld] at h
  refine kX.start (L := [(0, .ref (a 0)), (1, .int (p1))]) hlt rfl rfl rfl (Nat.le_of_ble_eq_true rfl) rfl (fun K A C CX CN => ?_)
  refine kr_aload_n C 0 dX2_requireNotHeld_0 rfl rfl ?_
  refine kr_iload_n C 1 dX2_requireNotHeld_1 rfl rfl ?_
  obtain ⟨v1, hv1, h⟩ := kob h
  refine kr_callV1 C (k := 1) (As := [.int p1]) (rest := []) (c_X2_isHeld hv1) gX2_requireNotHeld_X2_isHeld rfl rfl rfl (by decide +kernel) ⟨(Nat.le_of_ble_eq_true rfl), (Nat.le_of_ble_eq_true rfl)⟩ ⟨(Nat.le_of_ble_eq_true rfl), (Nat.le_of_ble_eq_true rfl)⟩ 0 rfl rfl rfl rfl (Nat.le_of_ble_eq_true rfl) dX2_requireNotHeld_2 ?_
  refine kr_if_eq C 18 dX2_requireNotHeld_5 (by decide) (fun hc => ?_) (fun hc => ?_)
  · have h := (if_pos hc).symm.trans h
    cases h
    exact kr_retX (kr_ret_v C (Nat.le_of_ble_eq_true rfl) (Nat.le_of_ble_eq_true rfl) dX2_requireNotHeld_18)
  have h := (if_neg hc).symm.trans h
  cases h
  exact kr_throw C CX CN (text := "the folder is held") (by decide) ckX2_requireNotHeld_50 ciX2_requireNotHeld_50 (by decide) atX2_requireNotHeld_54 ax_54 ay_54_50 (by decide +kernel) dX2_requireNotHeld_8 dX2_requireNotHeld_11 dX2_requireNotHeld_12 dX2_requireNotHeld_14 dX2_requireNotHeld_17 (Nat.le_of_ble_eq_true rfl) (Nat.le_of_ble_eq_true rfl) (Nat.le_of_ble_eq_true rfl) (Nat.le_of_ble_eq_true rfl) (Nat.le_of_ble_eq_true rfl) (Nat.le_of_ble_eq_true rfl)
theorem flX2_hold_172 : Cond.fieldLink RX2 172 "FolderKeeper" "heldFolders" "I" ∈ wsX2_hold := by decide +kernel
theorem inX2_hold_X2 : ∀ w ∈ wsX20, w ∈ wsX2_hold := fun _ h => List.mem_cons_of_mem _ (List.mem_append_left _ (List.mem_append_left _ (List.mem_append_right _ h)))
set_option maxHeartbeats 4000000 in
set_option maxRecDepth 100000 in
theorem c_X2_hold {l : Launch} {D : va_G} {cy : Nat → ClassId} {a : Nat → Nat} {Z : va_W} {S : kSt} {p1 : Int32} {r : ((Int32 ⊕ String) × kSt)} {sa : Nat → Nat} (hlt : l.stackTraces = false) (h : f_X2_hold S p1 = some r) : kX l yX2_hold wsX2_hold ({ frames := 7, cells := 2, slots := 12, locals := 103 } : Room) D cy sa (xw a cy S Z) [.ref (a 0), .int p1] (xw a cy r.2 Z) (kOI r.1) 2 12 := by
  rw [f_X2_hold] at h
  refine kX.start (L := [(0, .ref (a 0)), (1, .int (p1))]) hlt rfl rfl rfl (Nat.le_of_ble_eq_true rfl) rfl (fun K A C CX CN => ?_)
  refine kr_aload_n C 0 dX2_hold_0 rfl rfl ?_
  refine kr_iload_n C 1 dX2_hold_1 rfl rfl ?_
  rcases kxb_some h with ⟨Ev1, hv1, h⟩ | ⟨v1, hv1, h⟩
  · cases h
    exact kr_xVex C CX CN (k := 1) (As := [.int p1]) (rest := []) (c_X2_requireFolder hlt hv1) gX2_hold_X2_requireFolder rfl rfl rfl (by decide +kernel) ⟨(Nat.le_of_ble_eq_true rfl), (Nat.le_of_ble_eq_true rfl)⟩ ⟨(Nat.le_of_ble_eq_true rfl), (Nat.le_of_ble_eq_true rfl)⟩ 0 rfl rfl rfl rfl (Nat.le_of_ble_eq_true rfl) dX2_hold_2 (Nat.le_of_ble_eq_true rfl) (Nat.le_of_ble_eq_true rfl)
  refine kr_xV0 C CX (k := 1) (As := [.int p1]) (rest := []) (c_X2_requireFolder hlt hv1) gX2_hold_X2_requireFolder rfl rfl rfl (by decide +kernel) ⟨(Nat.le_of_ble_eq_true rfl), (Nat.le_of_ble_eq_true rfl)⟩ ⟨(Nat.le_of_ble_eq_true rfl), (Nat.le_of_ble_eq_true rfl)⟩ 0 rfl rfl rfl rfl (Nat.le_of_ble_eq_true rfl) dX2_hold_2 ?_
  refine kr_aload_n C 0 dX2_hold_5 rfl rfl ?_
  refine kr_iload_n C 1 dX2_hold_6 rfl rfl ?_
  rcases kxb_some h with ⟨Ev2, hv2, h⟩ | ⟨v2, hv2, h⟩
  · cases h
    exact kr_xVex C CX CN (k := 1) (As := [.int p1]) (rest := []) (c_X2_requireNotHeld hlt hv2) gX2_hold_X2_requireNotHeld rfl rfl rfl (by decide +kernel) ⟨(Nat.le_of_ble_eq_true rfl), (Nat.le_of_ble_eq_true rfl)⟩ ⟨(Nat.le_of_ble_eq_true rfl), (Nat.le_of_ble_eq_true rfl)⟩ 0 rfl rfl rfl rfl (Nat.le_of_ble_eq_true rfl) dX2_hold_7 (Nat.le_of_ble_eq_true rfl) (Nat.le_of_ble_eq_true rfl)
  refine kr_xV0 C CX (k := 1) (As := [.int p1]) (rest := []) (c_X2_requireNotHeld hlt hv2) gX2_hold_X2_requireNotHeld rfl rfl rfl (by decide +kernel) ⟨(Nat.le_of_ble_eq_true rfl), (Nat.le_of_ble_eq_true rfl)⟩ ⟨(Nat.le_of_ble_eq_true rfl), (Nat.le_of_ble_eq_true rfl)⟩ 0 rfl rfl rfl rfl (Nat.le_of_ble_eq_true rfl) dX2_hold_7 ?_
  refine kr_aload_n C 0 dX2_hold_10 rfl rfl ?_
  refine kr_aload_n C 0 dX2_hold_11 rfl rfl ?_
  refine kr_get C inX2_hold_X2 0 rfl rfl 7 (by decide) flX2_hold_172 rfl rfl dX2_hold_12 ?_
  refine kr_iload_n C 1 dX2_hold_15 rfl rfl ?_
  obtain ⟨v3, hv3, h⟩ := kob h
  refine kr_callS1 C (k := 2) (As := [.int (S.1 7), .int p1]) (rest := [.ref (a 0)]) (c_X2_with hv3) gX2_hold_X2_with rfl rfl rfl (by decide +kernel) ⟨(Nat.le_of_ble_eq_true rfl), (Nat.le_of_ble_eq_true rfl)⟩ ⟨(Nat.le_of_ble_eq_true rfl), (Nat.le_of_ble_eq_true rfl)⟩ rfl rfl (Nat.le_of_ble_eq_true rfl) dX2_hold_16 ?_
  refine kr_put C inX2_hold_X2 tyX2_ok nmX2 0 rfl rfl 7 (by decide) flX2_hold_172 rfl rfl rfl rfl rfl (by show 7 < 16; decide) (xp7 _ _ _ _ _) dX2_hold_19 ?_
  refine kr_aload_n C 0 dX2_hold_22 rfl rfl ?_
  refine kr_get C inX2_hold_X2 0 rfl rfl 7 (by decide) flX2_hold_172 rfl rfl dX2_hold_23 ?_
  obtain ⟨v4, hv4, h⟩ := kob h
  refine kr_callS1 C (k := 1) (As := [.int ((va_up S.1 7 v3, S.2).1 7)]) (rest := []) (c_J6_bitCount_0f7a4 hv4) gX2_hold_J6_bitCount_0f7a4 rfl rfl rfl (by decide +kernel) ⟨(Nat.le_of_ble_eq_true rfl), (Nat.le_of_ble_eq_true rfl)⟩ ⟨(Nat.le_of_ble_eq_true rfl), (Nat.le_of_ble_eq_true rfl)⟩ rfl rfl (Nat.le_of_ble_eq_true rfl) dX2_hold_26 ?_
  cases h
  exact kr_retX (kr_ret_i C (Nat.le_of_ble_eq_true rfl) (Nat.le_of_ble_eq_true rfl) dX2_hold_29)
theorem atX2_requireRight_69 : ∀ w ∈ (vx_atS RX2 69 "java/lang/IllegalArgumentException" ["java/lang/RuntimeException", "java/lang/Exception"]).filter goodWord, w ∈ wsX2_requireRight := fun _ h => List.mem_cons_of_mem _ (List.mem_append_right _ h)
theorem ckX2_requireRight_65 : Cond.classLink RX2 65 "java/lang/IllegalArgumentException" ∈ wsX2_requireRight := by decide +kernel
theorem ciX2_requireRight_65 : Cond.initialized "java/lang/IllegalArgumentException" ∈ wsX2_requireRight := by decide +kernel
set_option maxHeartbeats 4000000 in
set_option maxRecDepth 100000 in
theorem c_X2_requireRight {l : Launch} {D : va_G} {cy : Nat → ClassId} {X : va_W} {p1 : Int32} {p2 : Int32} {p3 : Int32} {r : (Unit ⊕ String)} {sa : Nat → Nat} (hlt : l.stackTraces = false) (h : f_X2_requireRight p1 p2 p3 = some r) : kX l yX2_requireRight wsX2_requireRight ({ frames := 6, cells := 1, slots := 6, locals := 82 } : Room) D cy sa X [.int p1, .int p2, .int p3] X (kOV r) 1 6 := by
  rw [f_X2_requireRight] at h
  refine kX.start (L := [(0, .int (p1)), (1, .int (p2)), (2, .int (p3))]) hlt rfl rfl rfl (Nat.le_of_ble_eq_true rfl) rfl (fun K A C CX CN => ?_)
  refine kr_iload_n C 0 dX2_requireRight_0 rfl rfl ?_
  refine kr_iload_n C 1 dX2_requireRight_1 rfl rfl ?_
  refine kr_icmp_lt C 10 dX2_requireRight_2 (by decide) (fun hc => ?_) (fun hc => ?_)
  · have h := (if_pos hc).symm.trans h
    cases h
    exact kr_throw C CX CN (text := "the right is out of range") (by decide) ckX2_requireRight_65 ciX2_requireRight_65 (by decide) atX2_requireRight_69 ax_69 ay_69_65 (by decide +kernel) dX2_requireRight_10 dX2_requireRight_13 dX2_requireRight_14 dX2_requireRight_16 dX2_requireRight_19 (Nat.le_of_ble_eq_true rfl) (Nat.le_of_ble_eq_true rfl) (Nat.le_of_ble_eq_true rfl) (Nat.le_of_ble_eq_true rfl) (Nat.le_of_ble_eq_true rfl) (Nat.le_of_ble_eq_true rfl)
  have h := (if_neg hc).symm.trans h
  refine kr_iload_n C 0 dX2_requireRight_5 rfl rfl ?_
  refine kr_iload_n C 2 dX2_requireRight_6 rfl rfl ?_
  refine kr_icmp_le C 20 dX2_requireRight_7 (by decide) (fun hc => ?_) (fun hc => ?_)
  · have h := (if_pos hc).symm.trans h
    cases h
    exact kr_retX (kr_ret_v C (Nat.le_of_ble_eq_true rfl) (Nat.le_of_ble_eq_true rfl) dX2_requireRight_20)
  have h := (if_neg hc).symm.trans h
  cases h
  exact kr_throw C CX CN (text := "the right is out of range") (by decide) ckX2_requireRight_65 ciX2_requireRight_65 (by decide) atX2_requireRight_69 ax_69 ay_69_65 (by decide +kernel) dX2_requireRight_10 dX2_requireRight_13 dX2_requireRight_14 dX2_requireRight_16 dX2_requireRight_19 (Nat.le_of_ble_eq_true rfl) (Nat.le_of_ble_eq_true rfl) (Nat.le_of_ble_eq_true rfl) (Nat.le_of_ble_eq_true rfl) (Nat.le_of_ble_eq_true rfl) (Nat.le_of_ble_eq_true rfl)
theorem flX2_rightAmong_18 : Cond.fieldLink RX2 18 "FolderKeeper" "owners" "LFolderKeeper$Row;" ∈ wsX2_rightAmong := by decide +kernel
theorem inX2_rightAmong_X2 : ∀ w ∈ wsX20, w ∈ wsX2_rightAmong := fun _ h => List.mem_cons_of_mem _ (List.mem_append_left _ (List.mem_append_left _ (List.mem_append_left _ (List.mem_append_right _ h))))
theorem mxX2_rightAmong_1 : Cond.methodLink RX2 236 Lib.Math.max.name ∈ wsX2_rightAmong := by decide +kernel
theorem mxX2_rightAmong_2 : Cond.static Lib.Math.max.name ∈ wsX2_rightAmong := by decide +kernel
theorem mxX2_rightAmong_3 : Cond.initialized "java/lang/Math" ∈ wsX2_rightAmong := by decide +kernel
theorem mxX2_rightAmong_4 : Cond.code Lib.Math.max.name Lib.Math.max.code 2 (some .int) ∈ wsX2_rightAmong := by decide +kernel
set_option maxHeartbeats 4000000 in
set_option maxRecDepth 100000 in
theorem lc_X2_rightAmong_L33 {K : kEnv} {l : Launch} {D : va_G} {cy : Nat → ClassId} {A : Nat → Prop} {a : Nat → Nat} {Z : va_W} {S : kSt} {r : Int32} (C : kC K D cy A 7 cX2_rightAmong RX2 wsX2_rightAmong (some .int)) : ∀ (n : Nat) (x1 x2 x4 x5 x6 : Int32), f_X2_rightAmong_L33 n S x1 x2 x4 x5 x6 = some r → kG K l D A ({ frames := 2, cells := 0, slots := 0, locals := 48 } : Room) 7 (kEnd K D cy A (xw a cy S Z) (some (.int r)) 0 0) (xw a cy S Z) 0 0 33 [(0, .ref (a 0)), (1, .int (x1)), (2, .int (x2)), (4, .int (x4)), (5, .int (x5)), (6, .int (x6))] [] := by
  intro n
  induction n with
  | zero => intro x1 x2 x4 x5 x6 h; rw [f_X2_rightAmong_L33] at h; cases h
  | succ n ih =>
    intro x1 x2 x4 x5 x6 h
    rw [f_X2_rightAmong_L33] at h
    refine kr_iload C 5 dX2_rightAmong_33 rfl ?_
    refine kr_bipush C (v := 12) dX2_rightAmong_35 (by decide) ?_
    refine kr_icmp_ge C 75 dX2_rightAmong_37 (by decide) (fun hc => ?_) (fun hc => ?_)
    · have h := (if_pos hc).symm.trans h
      refine kr_iload C 3 dX2_rightAmong_75 rfl ?_
      cases h
      exact kr_ret_i C (Nat.le_of_ble_eq_true rfl) (Nat.le_of_ble_eq_true rfl) dX2_rightAmong_77
    have h := (if_neg hc).symm.trans h
    refine kr_iload C 4 dX2_rightAmong_40 rfl ?_
    refine kr_iconst C (v := -1) dX2_rightAmong_42 (by decide) ?_
    refine kr_icmp_eq C 75 dX2_rightAmong_43 (by decide) (fun hc => ?_) (fun hc => ?_)
    · have h := (if_pos hc).symm.trans h
      refine kr_iload C 3 dX2_rightAmong_75 rfl ?_
      cases h
      exact kr_ret_i C (Nat.le_of_ble_eq_true rfl) (Nat.le_of_ble_eq_true rfl) dX2_rightAmong_77
    have h := (if_neg hc).symm.trans h
    refine kr_iload C 3 dX2_rightAmong_46 rfl ?_
    refine kr_aload_n C 0 dX2_rightAmong_48 rfl rfl ?_
    refine kr_iload_n C 1 dX2_rightAmong_49 rfl rfl ?_
    refine kr_iload_n C 2 dX2_rightAmong_50 rfl rfl ?_
    refine kr_iload C 4 dX2_rightAmong_51 rfl ?_
    obtain ⟨v3, hv3, h⟩ := kob h
    refine kr_callV1 C (k := 3) (As := [.int x1, .int x2, .int x5]) (rest := [.int (x4)]) (c_X2_bestShareAmong hv3) gX2_rightAmong_X2_bestShareAmong rfl rfl rfl (by decide +kernel) ⟨(Nat.le_of_ble_eq_true rfl), (Nat.le_of_ble_eq_true rfl)⟩ ⟨(Nat.le_of_ble_eq_true rfl), (Nat.le_of_ble_eq_true rfl)⟩ 0 rfl rfl rfl rfl (Nat.le_of_ble_eq_true rfl) dX2_rightAmong_53 ?_
    refine kr_max C mxX2_rightAmong_1 mxX2_rightAmong_2 mxX2_rightAmong_3 mxX2_rightAmong_4 (Nat.le_of_ble_eq_true rfl) (Nat.le_of_ble_eq_true rfl) (Nat.le_of_ble_eq_true rfl) (Nat.le_of_ble_eq_true rfl) dX2_rightAmong_56 ?_
    refine kr_istore C [1, 2, 3, 0, 4, 5] dX2_rightAmong_59 (by decide) rfl ?_
    refine kr_aload_n C 0 dX2_rightAmong_61 rfl rfl ?_
    refine kr_iload C 4 dX2_rightAmong_62 rfl ?_
    obtain ⟨v4, hv4, h⟩ := kob h
    refine kr_callV1 C (k := 1) (As := [.int x5]) (rest := []) (c_X2_giverTo hv4) gX2_rightAmong_X2_giverTo rfl rfl rfl (by decide +kernel) ⟨(Nat.le_of_ble_eq_true rfl), (Nat.le_of_ble_eq_true rfl)⟩ ⟨(Nat.le_of_ble_eq_true rfl), (Nat.le_of_ble_eq_true rfl)⟩ 0 rfl rfl rfl rfl (Nat.le_of_ble_eq_true rfl) dX2_rightAmong_64 ?_
    refine kr_istore C [1, 2, 3, 4, 0, 5] dX2_rightAmong_67 (by decide) rfl ?_
    refine kr_iinc C (v := (x6 + 1)) 5 [1, 2, 3, 4, 5, 0] dX2_rightAmong_69 rfl rfl (by decide) rfl ?_
    refine kr_goto C 33 dX2_rightAmong_72 (by decide) ?_
    exact ih _ _ _ _ _ h
set_option maxHeartbeats 4000000 in
set_option maxRecDepth 100000 in
theorem c_X2_rightAmong {l : Launch} {D : va_G} {cy : Nat → ClassId} {a : Nat → Nat} {Z : va_W} {S : kSt} {p1 : Int32} {p2 : Int32} {p3 : Int32} {r : Int32} (h : f_X2_rightAmong S p1 p2 p3 = some r) : kM l yX2_rightAmong wsX2_rightAmong ({ frames := 2, cells := 0, slots := 0, locals := 48 } : Room) D cy (xw a cy S Z) [.ref (a 0), .int p1, .int p2, .int p3] (xw a cy S Z) (some (.int r)) 0 0 := by
  rw [f_X2_rightAmong] at h
  refine kM.start (L := [(0, .ref (a 0)), (1, .int (p1)), (2, .int (p2)), (3, .int (p3))]) rfl rfl rfl (Nat.le_of_ble_eq_true rfl) rfl (fun K A C => ?_)
  refine kr_aload_n C 0 dX2_rightAmong_0 rfl rfl ?_
  refine kr_iload_n C 1 dX2_rightAmong_1 rfl rfl ?_
  obtain ⟨v1, hv1, h⟩ := kob h
  refine kr_callV1 C (k := 1) (As := [.int p1]) (rest := []) (c_X2_isActive hv1) gX2_rightAmong_X2_isActive rfl rfl rfl (by decide +kernel) ⟨(Nat.le_of_ble_eq_true rfl), (Nat.le_of_ble_eq_true rfl)⟩ ⟨(Nat.le_of_ble_eq_true rfl), (Nat.le_of_ble_eq_true rfl)⟩ 0 rfl rfl rfl rfl (Nat.le_of_ble_eq_true rfl) dX2_rightAmong_2 ?_
  refine kr_if_ne C 10 dX2_rightAmong_5 (by decide) (fun hc => ?_) (fun hc => ?_)
  · have h := (if_pos hc).symm.trans h
    refine kr_iconst C (v := 0) dX2_rightAmong_8 (by decide) ?_
    cases h
    exact kr_ret_i C (Nat.le_of_ble_eq_true rfl) (Nat.le_of_ble_eq_true rfl) dX2_rightAmong_9
  have h := (if_neg hc).symm.trans h
  refine kr_aload_n C 0 dX2_rightAmong_10 rfl rfl ?_
  refine kr_get C inX2_rightAmong_X2 0 rfl rfl 9 (by decide) flX2_rightAmong_18 rfl rfl dX2_rightAmong_11 ?_
  refine kr_iload_n C 3 dX2_rightAmong_14 rfl rfl ?_
  obtain ⟨v2, hv2, h⟩ := kob h
  refine kr_callV1 C (k := 1) (As := [.int p3]) (rest := []) (c_X1_at (q0 := 2) (q1 := 10) rfl rfl hv2) gX2_rightAmong_X1_at rfl rfl rfl (by decide +kernel) ⟨(Nat.le_of_ble_eq_true rfl), (Nat.le_of_ble_eq_true rfl)⟩ ⟨(Nat.le_of_ble_eq_true rfl), (Nat.le_of_ble_eq_true rfl)⟩ 2 rfl rfl rfl rfl (Nat.le_of_ble_eq_true rfl) dX2_rightAmong_15 ?_
  refine kr_iload_n C 1 dX2_rightAmong_18 rfl rfl ?_
  refine kr_icmp_ne C 24 dX2_rightAmong_19 (by decide) (fun hc => ?_) (fun hc => ?_)
  · have h := (if_pos hc).symm.trans h
    refine kr_iconst C (v := 3) dX2_rightAmong_22 (by decide) ?_
    cases h
    exact kr_ret_i C (Nat.le_of_ble_eq_true rfl) (Nat.le_of_ble_eq_true rfl) dX2_rightAmong_23
  have h := (if_neg hc).symm.trans h
  refine kr_iconst C (v := 0) dX2_rightAmong_24 (by decide) ?_
  refine kr_istore C [1, 2, 3, 4, 0] dX2_rightAmong_25 (by decide) rfl ?_
  refine kr_iload_n C 3 dX2_rightAmong_27 rfl rfl ?_
  refine kr_istore C [1, 2, 3, 4, 5, 0] dX2_rightAmong_28 (by decide) rfl ?_
  refine kr_iconst C (v := 0) dX2_rightAmong_30 (by decide) ?_
  refine kr_istore C [1, 2, 3, 4, 5, 6, 0] dX2_rightAmong_31 (by decide) rfl ?_
  refine kr_sub [0, 1, 2, 4, 5, 6] rfl ?_
  exact lc_X2_rightAmong_L33 C _ _ _ _ _ _ h
theorem flX2_holders_43 : Cond.fieldLink RX2 43 "FolderKeeper" "accounts" "I" ∈ wsX2_holders := by decide +kernel
theorem inX2_holders_X2 : ∀ w ∈ wsX20, w ∈ wsX2_holders := fun _ h => List.mem_cons_of_mem _ (List.mem_append_left _ (List.mem_append_left _ (List.mem_append_left _ (List.mem_append_left _ (List.mem_append_left _ (List.mem_append_right _ h))))))
set_option maxHeartbeats 4000000 in
set_option maxRecDepth 100000 in
theorem lc_X2_holders_L16 {K : kEnv} {l : Launch} {D : va_G} {cy : Nat → ClassId} {A : Nat → Prop} {a : Nat → Nat} {Z : va_W} {sa : Nat → Nat} {S : kSt} {r : (Int32 ⊕ String)} (C : kC K D cy A 5 cX2_holders RX2 wsX2_holders (some .int)) (CX : kCX K l A sa) (CN : kNoTab K) (hlt : l.stackTraces = false) : ∀ (n : Nat) (x1 x2 x3 x4 : Int32), f_X2_holders_L16 n S x1 x2 x3 x4 = some r → kG K l D A ({ frames := 7, cells := 2, slots := 12, locals := 116 } : Room) 5 (kEndX K D cy A (xw a cy S Z) (kOI r) 2 12) (xw a cy S Z) 2 12 16 [(0, .ref (a 0)), (1, .int (x1)), (2, .int (x2)), (3, .int (x3)), (4, .int (x4))] [] := by
  intro n
  induction n with
  | zero => intro x1 x2 x3 x4 h; rw [f_X2_holders_L16] at h; cases h
  | succ n ih =>
    intro x1 x2 x3 x4 h
    rw [f_X2_holders_L16] at h
    refine kr_iload C 4 dX2_holders_16 rfl ?_
    refine kr_aload_n C 0 dX2_holders_18 rfl rfl ?_
    refine kr_get C inX2_holders_X2 0 rfl rfl 0 (by decide) flX2_holders_43 rfl rfl dX2_holders_19 ?_
    refine kr_icmp_ge C 51 dX2_holders_22 (by decide) (fun hc => ?_) (fun hc => ?_)
    · have h := (if_pos hc).symm.trans h
      refine kr_iload_n C 3 dX2_holders_51 rfl rfl ?_
      cases h
      exact kr_retX (kr_ret_i C (Nat.le_of_ble_eq_true rfl) (Nat.le_of_ble_eq_true rfl) dX2_holders_52)
    have h := (if_neg hc).symm.trans h
    refine kr_aload_n C 0 dX2_holders_25 rfl rfl ?_
    refine kr_iload C 4 dX2_holders_26 rfl ?_
    refine kr_aload_n C 0 dX2_holders_28 rfl rfl ?_
    refine kr_iload C 4 dX2_holders_29 rfl ?_
    obtain ⟨v3, hv3, h⟩ := kob h
    refine kr_callV1 C (k := 1) (As := [.int x4]) (rest := [.int (x4), .ref (a 0)]) (c_X2_groupsOf hv3) gX2_holders_X2_groupsOf rfl rfl rfl (by decide +kernel) ⟨(Nat.le_of_ble_eq_true rfl), (Nat.le_of_ble_eq_true rfl)⟩ ⟨(Nat.le_of_ble_eq_true rfl), (Nat.le_of_ble_eq_true rfl)⟩ 0 rfl rfl rfl rfl (Nat.le_of_ble_eq_true rfl) dX2_holders_31 ?_
    refine kr_iload_n C 1 dX2_holders_34 rfl rfl ?_
    obtain ⟨v4, hv4, h⟩ := kob h
    refine kr_callV1 C (k := 3) (As := [.int x4, .int v3, .int x1]) (rest := []) (c_X2_rightAmong hv4) gX2_holders_X2_rightAmong rfl rfl rfl (by decide +kernel) ⟨(Nat.le_of_ble_eq_true rfl), (Nat.le_of_ble_eq_true rfl)⟩ ⟨(Nat.le_of_ble_eq_true rfl), (Nat.le_of_ble_eq_true rfl)⟩ 0 rfl rfl rfl rfl (Nat.le_of_ble_eq_true rfl) dX2_holders_35 ?_
    refine kr_iload_n C 2 dX2_holders_38 rfl rfl ?_
    refine kr_icmp_lt C 45 dX2_holders_39 (by decide) (fun hc => ?_) (fun hc => ?_)
    · have h := (if_pos hc).symm.trans h
      refine kr_iinc C (v := (x4 + 1)) 4 [1, 2, 3, 4, 0] dX2_holders_45 rfl rfl (by decide) rfl ?_
      refine kr_goto C 16 dX2_holders_48 (by decide) ?_
      exact ih _ _ _ _ h
    have h := (if_neg hc).symm.trans h
    refine kr_iinc C (v := (x3 + 1)) 3 [1, 2, 3, 0, 4] dX2_holders_42 rfl rfl (by decide) rfl ?_
    refine kr_iinc C (v := (x4 + 1)) 4 [1, 2, 3, 4, 0] dX2_holders_45 rfl rfl (by decide) rfl ?_
    refine kr_goto C 16 dX2_holders_48 (by decide) ?_
    exact ih _ _ _ _ h
set_option maxHeartbeats 4000000 in
set_option maxRecDepth 100000 in
theorem c_X2_holders {l : Launch} {D : va_G} {cy : Nat → ClassId} {a : Nat → Nat} {Z : va_W} {S : kSt} {p1 : Int32} {p2 : Int32} {r : (Int32 ⊕ String)} {sa : Nat → Nat} (hlt : l.stackTraces = false) (h : f_X2_holders S p1 p2 = some r) : kX l yX2_holders wsX2_holders ({ frames := 7, cells := 2, slots := 12, locals := 116 } : Room) D cy sa (xw a cy S Z) [.ref (a 0), .int p1, .int p2] (xw a cy S Z) (kOI r) 2 12 := by
  rw [f_X2_holders] at h
  refine kX.start (L := [(0, .ref (a 0)), (1, .int (p1)), (2, .int (p2))]) hlt rfl rfl rfl (Nat.le_of_ble_eq_true rfl) rfl (fun K A C CX CN => ?_)
  refine kr_aload_n C 0 dX2_holders_0 rfl rfl ?_
  refine kr_iload_n C 1 dX2_holders_1 rfl rfl ?_
  rcases kxb_some h with ⟨Ev1, hv1, h⟩ | ⟨v1, hv1, h⟩
  · cases h
    exact kr_xVex C CX CN (k := 1) (As := [.int p1]) (rest := []) (c_X2_requireFolder hlt hv1) gX2_holders_X2_requireFolder rfl rfl rfl (by decide +kernel) ⟨(Nat.le_of_ble_eq_true rfl), (Nat.le_of_ble_eq_true rfl)⟩ ⟨(Nat.le_of_ble_eq_true rfl), (Nat.le_of_ble_eq_true rfl)⟩ 0 rfl rfl rfl rfl (Nat.le_of_ble_eq_true rfl) dX2_holders_2 (Nat.le_of_ble_eq_true rfl) (Nat.le_of_ble_eq_true rfl)
  refine kr_xV0 C CX (k := 1) (As := [.int p1]) (rest := []) (c_X2_requireFolder hlt hv1) gX2_holders_X2_requireFolder rfl rfl rfl (by decide +kernel) ⟨(Nat.le_of_ble_eq_true rfl), (Nat.le_of_ble_eq_true rfl)⟩ ⟨(Nat.le_of_ble_eq_true rfl), (Nat.le_of_ble_eq_true rfl)⟩ 0 rfl rfl rfl rfl (Nat.le_of_ble_eq_true rfl) dX2_holders_2 ?_
  refine kr_iload_n C 2 dX2_holders_5 rfl rfl ?_
  refine kr_iconst C (v := 1) dX2_holders_6 (by decide) ?_
  refine kr_iconst C (v := 3) dX2_holders_7 (by decide) ?_
  rcases kxb_some h with ⟨Ev2, hv2, h⟩ | ⟨v2, hv2, h⟩
  · cases h
    exact kr_xSex C CX CN (k := 3) (As := [.int p2, .int (1 : Int32), .int (3 : Int32)]) (rest := []) (c_X2_requireRight hlt hv2) gX2_holders_X2_requireRight rfl rfl rfl (by decide +kernel) ⟨(Nat.le_of_ble_eq_true rfl), (Nat.le_of_ble_eq_true rfl)⟩ ⟨(Nat.le_of_ble_eq_true rfl), (Nat.le_of_ble_eq_true rfl)⟩ rfl rfl (Nat.le_of_ble_eq_true rfl) dX2_holders_8 (Nat.le_of_ble_eq_true rfl) (Nat.le_of_ble_eq_true rfl)
  refine kr_xS0 C CX (k := 3) (As := [.int p2, .int (1 : Int32), .int (3 : Int32)]) (rest := []) (c_X2_requireRight hlt hv2) gX2_holders_X2_requireRight rfl rfl rfl (by decide +kernel) ⟨(Nat.le_of_ble_eq_true rfl), (Nat.le_of_ble_eq_true rfl)⟩ ⟨(Nat.le_of_ble_eq_true rfl), (Nat.le_of_ble_eq_true rfl)⟩ rfl rfl (Nat.le_of_ble_eq_true rfl) dX2_holders_8 ?_
  refine kr_iconst C (v := 0) dX2_holders_11 (by decide) ?_
  refine kr_istore_n C [1, 2, 3, 0] dX2_holders_12 rfl (by decide) rfl ?_
  refine kr_iconst C (v := 0) dX2_holders_13 (by decide) ?_
  refine kr_istore C [1, 2, 3, 4, 0] dX2_holders_14 (by decide) rfl ?_
  exact lc_X2_holders_L16 C CX CN hlt _ _ _ _ _ h
set_option maxHeartbeats 4000000 in
set_option maxRecDepth 100000 in
theorem c_X2_isIn {l : Launch} {D : va_G} {cy : Nat → ClassId} {a : Nat → Nat} {Z : va_W} {S : kSt} {p1 : Int32} {p2 : Int32} {r : (Bool ⊕ String)} {sa : Nat → Nat} (hlt : l.stackTraces = false) (h : f_X2_isIn S p1 p2 = some r) : kX l yX2_isIn wsX2_isIn ({ frames := 7, cells := 2, slots := 12, locals := 116 } : Room) D cy sa (xw a cy S Z) [.ref (a 0), .int p1, .int p2] (xw a cy S Z) (kOZ r) 2 12 := by
  rw [f_X2_isIn] at h
  refine kX.start (L := [(0, .ref (a 0)), (1, .int (p1)), (2, .int (p2))]) hlt rfl rfl rfl (Nat.le_of_ble_eq_true rfl) rfl (fun K A C CX CN => ?_)
  refine kr_aload_n C 0 dX2_isIn_0 rfl rfl ?_
  refine kr_iload_n C 1 dX2_isIn_1 rfl rfl ?_
  rcases kxb_some h with ⟨Ev1, hv1, h⟩ | ⟨v1, hv1, h⟩
  · cases h
    exact kr_xVex C CX CN (k := 1) (As := [.int p1]) (rest := []) (c_X2_requireAccount hlt hv1) gX2_isIn_X2_requireAccount rfl rfl rfl (by decide +kernel) ⟨(Nat.le_of_ble_eq_true rfl), (Nat.le_of_ble_eq_true rfl)⟩ ⟨(Nat.le_of_ble_eq_true rfl), (Nat.le_of_ble_eq_true rfl)⟩ 0 rfl rfl rfl rfl (Nat.le_of_ble_eq_true rfl) dX2_isIn_2 (Nat.le_of_ble_eq_true rfl) (Nat.le_of_ble_eq_true rfl)
  refine kr_xV0 C CX (k := 1) (As := [.int p1]) (rest := []) (c_X2_requireAccount hlt hv1) gX2_isIn_X2_requireAccount rfl rfl rfl (by decide +kernel) ⟨(Nat.le_of_ble_eq_true rfl), (Nat.le_of_ble_eq_true rfl)⟩ ⟨(Nat.le_of_ble_eq_true rfl), (Nat.le_of_ble_eq_true rfl)⟩ 0 rfl rfl rfl rfl (Nat.le_of_ble_eq_true rfl) dX2_isIn_2 ?_
  refine kr_aload_n C 0 dX2_isIn_5 rfl rfl ?_
  refine kr_iload_n C 2 dX2_isIn_6 rfl rfl ?_
  rcases kxb_some h with ⟨Ev2, hv2, h⟩ | ⟨v2, hv2, h⟩
  · cases h
    exact kr_xVex C CX CN (k := 1) (As := [.int p2]) (rest := []) (c_X2_requireGroup hlt hv2) gX2_isIn_X2_requireGroup rfl rfl rfl (by decide +kernel) ⟨(Nat.le_of_ble_eq_true rfl), (Nat.le_of_ble_eq_true rfl)⟩ ⟨(Nat.le_of_ble_eq_true rfl), (Nat.le_of_ble_eq_true rfl)⟩ 0 rfl rfl rfl rfl (Nat.le_of_ble_eq_true rfl) dX2_isIn_7 (Nat.le_of_ble_eq_true rfl) (Nat.le_of_ble_eq_true rfl)
  refine kr_xV0 C CX (k := 1) (As := [.int p2]) (rest := []) (c_X2_requireGroup hlt hv2) gX2_isIn_X2_requireGroup rfl rfl rfl (by decide +kernel) ⟨(Nat.le_of_ble_eq_true rfl), (Nat.le_of_ble_eq_true rfl)⟩ ⟨(Nat.le_of_ble_eq_true rfl), (Nat.le_of_ble_eq_true rfl)⟩ 0 rfl rfl rfl rfl (Nat.le_of_ble_eq_true rfl) dX2_isIn_7 ?_
  refine kr_aload_n C 0 dX2_isIn_10 rfl rfl ?_
  refine kr_iload_n C 1 dX2_isIn_11 rfl rfl ?_
  obtain ⟨v3, hv3, h⟩ := kob h
  refine kr_callV1 C (k := 1) (As := [.int p1]) (rest := []) (c_X2_groupsOf hv3) gX2_isIn_X2_groupsOf rfl rfl rfl (by decide +kernel) ⟨(Nat.le_of_ble_eq_true rfl), (Nat.le_of_ble_eq_true rfl)⟩ ⟨(Nat.le_of_ble_eq_true rfl), (Nat.le_of_ble_eq_true rfl)⟩ 0 rfl rfl rfl rfl (Nat.le_of_ble_eq_true rfl) dX2_isIn_12 ?_
  refine kr_iload_n C 2 dX2_isIn_15 rfl rfl ?_
  obtain ⟨v4, hv4, h⟩ := kob h
  refine kr_callS1 C (k := 2) (As := [.int v3, .int p2]) (rest := []) (c_X2_contains hv4) gX2_isIn_X2_contains rfl rfl rfl (by decide +kernel) ⟨(Nat.le_of_ble_eq_true rfl), (Nat.le_of_ble_eq_true rfl)⟩ ⟨(Nat.le_of_ble_eq_true rfl), (Nat.le_of_ble_eq_true rfl)⟩ rfl rfl (Nat.le_of_ble_eq_true rfl) dX2_isIn_16 ?_
  cases h
  exact kr_retX (kr_ret_z C (nar_b _) (Nat.le_of_ble_eq_true rfl) (Nat.le_of_ble_eq_true rfl) dX2_isIn_19)
theorem flX2_requireEnd_185 : Cond.fieldLink RX2 185 "FolderKeeper" "today" "I" ∈ wsX2_requireEnd := by decide +kernel
theorem inX2_requireEnd_X2 : ∀ w ∈ wsX20, w ∈ wsX2_requireEnd := fun _ h => List.mem_cons_of_mem _ (List.mem_append_left _ (List.mem_append_right _ h))
theorem atX2_requireEnd_69 : ∀ w ∈ (vx_atS RX2 69 "java/lang/IllegalArgumentException" ["java/lang/RuntimeException", "java/lang/Exception"]).filter goodWord, w ∈ wsX2_requireEnd := fun _ h => List.mem_cons_of_mem _ (List.mem_append_right _ h)
theorem ckX2_requireEnd_65 : Cond.classLink RX2 65 "java/lang/IllegalArgumentException" ∈ wsX2_requireEnd := by decide +kernel
theorem ciX2_requireEnd_65 : Cond.initialized "java/lang/IllegalArgumentException" ∈ wsX2_requireEnd := by decide +kernel
set_option maxHeartbeats 4000000 in
set_option maxRecDepth 100000 in
theorem c_X2_requireEnd {l : Launch} {D : va_G} {cy : Nat → ClassId} {a : Nat → Nat} {Z : va_W} {S : kSt} {p1 : Int32} {r : (Unit ⊕ String)} {sa : Nat → Nat} (hlt : l.stackTraces = false) (h : f_X2_requireEnd S p1 = some r) : kX l yX2_requireEnd wsX2_requireEnd ({ frames := 6, cells := 1, slots := 6, locals := 82 } : Room) D cy sa (xw a cy S Z) [.ref (a 0), .int p1] (xw a cy S Z) (kOV r) 1 6 := by
  rw [f_X2_requireEnd] at h
  refine kX.start (L := [(0, .ref (a 0)), (1, .int (p1))]) hlt rfl rfl rfl (Nat.le_of_ble_eq_true rfl) rfl (fun K A C CX CN => ?_)
  refine kr_iload_n C 1 dX2_requireEnd_0 rfl rfl ?_
  refine kr_iconst C (v := -1) dX2_requireEnd_1 (by decide) ?_
  refine kr_icmp_eq C 30 dX2_requireEnd_2 (by decide) (fun hc => ?_) (fun hc => ?_)
  · have h := (if_pos hc).symm.trans h
    cases h
    exact kr_retX (kr_ret_v C (Nat.le_of_ble_eq_true rfl) (Nat.le_of_ble_eq_true rfl) dX2_requireEnd_30)
  have h := (if_neg hc).symm.trans h
  refine kr_iload_n C 1 dX2_requireEnd_5 rfl rfl ?_
  refine kr_aload_n C 0 dX2_requireEnd_6 rfl rfl ?_
  refine kr_get C inX2_requireEnd_X2 0 rfl rfl 4 (by decide) flX2_requireEnd_185 rfl rfl dX2_requireEnd_7 ?_
  refine kr_icmp_le C 20 dX2_requireEnd_10 (by decide) (fun hc => ?_) (fun hc => ?_)
  · have h := (if_pos hc).symm.trans h
    cases h
    exact kr_throw C CX CN (text := "the day is out of range") (by decide) ckX2_requireEnd_65 ciX2_requireEnd_65 (by decide) atX2_requireEnd_69 ax_69 ay_69_65 (by decide +kernel) dX2_requireEnd_20 dX2_requireEnd_23 dX2_requireEnd_24 dX2_requireEnd_26 dX2_requireEnd_29 (Nat.le_of_ble_eq_true rfl) (Nat.le_of_ble_eq_true rfl) (Nat.le_of_ble_eq_true rfl) (Nat.le_of_ble_eq_true rfl) (Nat.le_of_ble_eq_true rfl) (Nat.le_of_ble_eq_true rfl)
  have h := (if_neg hc).symm.trans h
  refine kr_iload_n C 1 dX2_requireEnd_13 rfl rfl ?_
  refine kr_sipush C (v := 999) dX2_requireEnd_14 (by decide) ?_
  refine kr_icmp_le C 30 dX2_requireEnd_17 (by decide) (fun hc => ?_) (fun hc => ?_)
  · have h := (if_pos hc).symm.trans h
    cases h
    exact kr_retX (kr_ret_v C (Nat.le_of_ble_eq_true rfl) (Nat.le_of_ble_eq_true rfl) dX2_requireEnd_30)
  have h := (if_neg hc).symm.trans h
  cases h
  exact kr_throw C CX CN (text := "the day is out of range") (by decide) ckX2_requireEnd_65 ciX2_requireEnd_65 (by decide) atX2_requireEnd_69 ax_69 ay_69_65 (by decide +kernel) dX2_requireEnd_20 dX2_requireEnd_23 dX2_requireEnd_24 dX2_requireEnd_26 dX2_requireEnd_29 (Nat.le_of_ble_eq_true rfl) (Nat.le_of_ble_eq_true rfl) (Nat.le_of_ble_eq_true rfl) (Nat.le_of_ble_eq_true rfl) (Nat.le_of_ble_eq_true rfl) (Nat.le_of_ble_eq_true rfl)
theorem atX2_join_96 : ∀ w ∈ (vx_atS RX2 96 "java/lang/UnsupportedOperationException" ["java/lang/RuntimeException", "java/lang/Exception"]).filter goodWord, w ∈ wsX2_join := fun _ h => List.mem_cons_of_mem _ (List.mem_append_left _ (List.mem_append_left _ (List.mem_append_left _ (List.mem_append_right _ h))))
theorem ckX2_join_92 : Cond.classLink RX2 92 "java/lang/UnsupportedOperationException" ∈ wsX2_join := by decide +kernel
theorem ciX2_join_92 : Cond.initialized "java/lang/UnsupportedOperationException" ∈ wsX2_join := by decide +kernel
theorem flX2_join_30 : Cond.fieldLink RX2 30 "FolderKeeper" "accountEnds" "LFolderKeeper$Grid;" ∈ wsX2_join := by decide +kernel
theorem inX2_join_X2 : ∀ w ∈ wsX20, w ∈ wsX2_join := fun _ h => List.mem_cons_of_mem _ (List.mem_append_left _ (List.mem_append_left _ (List.mem_append_left _ (List.mem_append_left _ (List.mem_append_left _ (List.mem_append_right _ h))))))
set_option maxHeartbeats 4000000 in
set_option maxRecDepth 100000 in
theorem c_X2_join {l : Launch} {D : va_G} {cy : Nat → ClassId} {a : Nat → Nat} {Z : va_W} {S : kSt} {p1 : Int32} {p2 : Int32} {p3 : Int32} {r : ((Int32 ⊕ String) × kSt)} {sa : Nat → Nat} (hlt : l.stackTraces = false) (h : f_X2_join S p1 p2 p3 = some r) : kX l yX2_join wsX2_join ({ frames := 7, cells := 4, slots := 24, locals := 103 } : Room) D cy sa (xw a cy S Z) [.ref (a 0), .int p1, .int p2, .int p3] (xw a cy r.2 Z) (kOI r.1) 4 24 := by
  rw [f_X2_join] at h
  refine kX.start (L := [(0, .ref (a 0)), (1, .int (p1)), (2, .int (p2)), (3, .int (p3))]) hlt rfl rfl rfl (Nat.le_of_ble_eq_true rfl) rfl (fun K A C CX CN => ?_)
  refine kr_aload_n C 0 dX2_join_0 rfl rfl ?_
  refine kr_iload_n C 1 dX2_join_1 rfl rfl ?_
  rcases kxb_some h with ⟨Ev1, hv1, h⟩ | ⟨v1, hv1, h⟩
  · cases h
    exact kr_xVex C CX CN (k := 1) (As := [.int p1]) (rest := []) (c_X2_requireAccount hlt hv1) gX2_join_X2_requireAccount rfl rfl rfl (by decide +kernel) ⟨(Nat.le_of_ble_eq_true rfl), (Nat.le_of_ble_eq_true rfl)⟩ ⟨(Nat.le_of_ble_eq_true rfl), (Nat.le_of_ble_eq_true rfl)⟩ 0 rfl rfl rfl rfl (Nat.le_of_ble_eq_true rfl) dX2_join_2 (Nat.le_of_ble_eq_true rfl) (Nat.le_of_ble_eq_true rfl)
  refine kr_xV0 C CX (k := 1) (As := [.int p1]) (rest := []) (c_X2_requireAccount hlt hv1) gX2_join_X2_requireAccount rfl rfl rfl (by decide +kernel) ⟨(Nat.le_of_ble_eq_true rfl), (Nat.le_of_ble_eq_true rfl)⟩ ⟨(Nat.le_of_ble_eq_true rfl), (Nat.le_of_ble_eq_true rfl)⟩ 0 rfl rfl rfl rfl (Nat.le_of_ble_eq_true rfl) dX2_join_2 ?_
  refine kr_aload_n C 0 dX2_join_5 rfl rfl ?_
  refine kr_iload_n C 2 dX2_join_6 rfl rfl ?_
  rcases kxb_some h with ⟨Ev2, hv2, h⟩ | ⟨v2, hv2, h⟩
  · cases h
    exact kr_xVex C CX CN (k := 1) (As := [.int p2]) (rest := []) (c_X2_requireGroup hlt hv2) gX2_join_X2_requireGroup rfl rfl rfl (by decide +kernel) ⟨(Nat.le_of_ble_eq_true rfl), (Nat.le_of_ble_eq_true rfl)⟩ ⟨(Nat.le_of_ble_eq_true rfl), (Nat.le_of_ble_eq_true rfl)⟩ 0 rfl rfl rfl rfl (Nat.le_of_ble_eq_true rfl) dX2_join_7 (Nat.le_of_ble_eq_true rfl) (Nat.le_of_ble_eq_true rfl)
  refine kr_xV0 C CX (k := 1) (As := [.int p2]) (rest := []) (c_X2_requireGroup hlt hv2) gX2_join_X2_requireGroup rfl rfl rfl (by decide +kernel) ⟨(Nat.le_of_ble_eq_true rfl), (Nat.le_of_ble_eq_true rfl)⟩ ⟨(Nat.le_of_ble_eq_true rfl), (Nat.le_of_ble_eq_true rfl)⟩ 0 rfl rfl rfl rfl (Nat.le_of_ble_eq_true rfl) dX2_join_7 ?_
  refine kr_aload_n C 0 dX2_join_10 rfl rfl ?_
  refine kr_iload_n C 3 dX2_join_11 rfl rfl ?_
  rcases kxb_some h with ⟨Ev3, hv3, h⟩ | ⟨v3, hv3, h⟩
  · cases h
    exact kr_xVex C CX CN (k := 1) (As := [.int p3]) (rest := []) (c_X2_requireEnd hlt hv3) gX2_join_X2_requireEnd rfl rfl rfl (by decide +kernel) ⟨(Nat.le_of_ble_eq_true rfl), (Nat.le_of_ble_eq_true rfl)⟩ ⟨(Nat.le_of_ble_eq_true rfl), (Nat.le_of_ble_eq_true rfl)⟩ 0 rfl rfl rfl rfl (Nat.le_of_ble_eq_true rfl) dX2_join_12 (Nat.le_of_ble_eq_true rfl) (Nat.le_of_ble_eq_true rfl)
  refine kr_xV0 C CX (k := 1) (As := [.int p3]) (rest := []) (c_X2_requireEnd hlt hv3) gX2_join_X2_requireEnd rfl rfl rfl (by decide +kernel) ⟨(Nat.le_of_ble_eq_true rfl), (Nat.le_of_ble_eq_true rfl)⟩ ⟨(Nat.le_of_ble_eq_true rfl), (Nat.le_of_ble_eq_true rfl)⟩ 0 rfl rfl rfl rfl (Nat.le_of_ble_eq_true rfl) dX2_join_12 ?_
  refine kr_aload_n C 0 dX2_join_15 rfl rfl ?_
  refine kr_iload_n C 1 dX2_join_16 rfl rfl ?_
  obtain ⟨v4, hv4, h⟩ := kob h
  refine kr_callV1 C (k := 1) (As := [.int p1]) (rest := []) (c_X2_isActive hv4) gX2_join_X2_isActive rfl rfl rfl (by decide +kernel) ⟨(Nat.le_of_ble_eq_true rfl), (Nat.le_of_ble_eq_true rfl)⟩ ⟨(Nat.le_of_ble_eq_true rfl), (Nat.le_of_ble_eq_true rfl)⟩ 0 rfl rfl rfl rfl (Nat.le_of_ble_eq_true rfl) dX2_join_17 ?_
  refine kr_if_ne C 33 dX2_join_20 (by decide) (fun hc => ?_) (fun hc => ?_)
  · have h := (if_pos hc).symm.trans h
    cases h
    exact kr_throw C CX CN (text := "the account has left") (by decide) ckX2_join_92 ciX2_join_92 (by decide) atX2_join_96 ax_96 ay_96_92 (by decide +kernel) dX2_join_23 dX2_join_26 dX2_join_27 dX2_join_29 dX2_join_32 (Nat.le_of_ble_eq_true rfl) (Nat.le_of_ble_eq_true rfl) (Nat.le_of_ble_eq_true rfl) (Nat.le_of_ble_eq_true rfl) (Nat.le_of_ble_eq_true rfl) (Nat.le_of_ble_eq_true rfl)
  have h := (if_neg hc).symm.trans h
  refine kr_aload_n C 0 dX2_join_33 rfl rfl ?_
  refine kr_get C inX2_join_X2 0 rfl rfl 12 (by decide) flX2_join_30 rfl rfl dX2_join_34 ?_
  refine kr_iload_n C 2 dX2_join_37 rfl rfl ?_
  refine kr_iload_n C 1 dX2_join_38 rfl rfl ?_
  refine kr_iload_n C 3 dX2_join_39 rfl rfl ?_
  obtain ⟨v5, hv5, h⟩ := kob h
  refine kr_callV0 C (k := 3) (As := [.int p2, .int p1, .int p3]) (rest := []) (c_X0_put (Wf := fun f => xw a cy (S.1, va_up S.2 12 f) Z) (q0 := 5) (q1 := 13) (fun _ => rfl) (fun _ => rfl) (fun _ _ => rfl) hv5) gX2_join_X0_put rfl rfl rfl (by decide +kernel) ⟨(Nat.le_of_ble_eq_true rfl), (Nat.le_of_ble_eq_true rfl)⟩ ⟨(Nat.le_of_ble_eq_true rfl), (Nat.le_of_ble_eq_true rfl)⟩ 5 rfl rfl rfl rfl (Nat.le_of_ble_eq_true rfl) dX2_join_40 ?_
  refine kr_aload_n C 0 dX2_join_43 rfl rfl ?_
  refine kr_get C inX2_join_X2 0 rfl rfl 12 (by decide) flX2_join_30 rfl rfl dX2_join_44 ?_
  refine kr_iload_n C 2 dX2_join_47 rfl rfl ?_
  obtain ⟨v6, hv6, h⟩ := kob h
  refine kr_callV1 C (k := 1) (As := [.int p2]) (rest := []) (c_X0_filled (q0 := 5) (q1 := 13) rfl rfl hv6) gX2_join_X0_filled rfl rfl rfl (by decide +kernel) ⟨(Nat.le_of_ble_eq_true rfl), (Nat.le_of_ble_eq_true rfl)⟩ ⟨(Nat.le_of_ble_eq_true rfl), (Nat.le_of_ble_eq_true rfl)⟩ 5 rfl rfl rfl rfl (Nat.le_of_ble_eq_true rfl) dX2_join_48 ?_
  cases h
  exact kr_retX (kr_ret_i C (Nat.le_of_ble_eq_true rfl) (Nat.le_of_ble_eq_true rfl) dX2_join_51)
set_option maxHeartbeats 4000000 in
set_option maxRecDepth 100000 in
theorem c_X2_keeper {l : Launch} {D : va_G} {cy : Nat → ClassId} {a : Nat → Nat} {Z : va_W} {S : kSt} {p1 : Int32} {r : (Int32 ⊕ String)} {sa : Nat → Nat} (hlt : l.stackTraces = false) (h : f_X2_keeper S p1 = some r) : kX l yX2_keeper wsX2_keeper ({ frames := 7, cells := 1, slots := 6, locals := 111 } : Room) D cy sa (xw a cy S Z) [.ref (a 0), .int p1] (xw a cy S Z) (kOI r) 1 6 := by
  rw [f_X2_keeper] at h
  refine kX.start (L := [(0, .ref (a 0)), (1, .int (p1))]) hlt rfl rfl rfl (Nat.le_of_ble_eq_true rfl) rfl (fun K A C CX CN => ?_)
  refine kr_aload_n C 0 dX2_keeper_0 rfl rfl ?_
  refine kr_iload_n C 1 dX2_keeper_1 rfl rfl ?_
  rcases kxb_some h with ⟨Ev1, hv1, h⟩ | ⟨v1, hv1, h⟩
  · cases h
    exact kr_xVex C CX CN (k := 1) (As := [.int p1]) (rest := []) (c_X2_requireFolder hlt hv1) gX2_keeper_X2_requireFolder rfl rfl rfl (by decide +kernel) ⟨(Nat.le_of_ble_eq_true rfl), (Nat.le_of_ble_eq_true rfl)⟩ ⟨(Nat.le_of_ble_eq_true rfl), (Nat.le_of_ble_eq_true rfl)⟩ 0 rfl rfl rfl rfl (Nat.le_of_ble_eq_true rfl) dX2_keeper_2 (Nat.le_of_ble_eq_true rfl) (Nat.le_of_ble_eq_true rfl)
  refine kr_xV0 C CX (k := 1) (As := [.int p1]) (rest := []) (c_X2_requireFolder hlt hv1) gX2_keeper_X2_requireFolder rfl rfl rfl (by decide +kernel) ⟨(Nat.le_of_ble_eq_true rfl), (Nat.le_of_ble_eq_true rfl)⟩ ⟨(Nat.le_of_ble_eq_true rfl), (Nat.le_of_ble_eq_true rfl)⟩ 0 rfl rfl rfl rfl (Nat.le_of_ble_eq_true rfl) dX2_keeper_2 ?_
  refine kr_aload_n C 0 dX2_keeper_5 rfl rfl ?_
  refine kr_iload_n C 1 dX2_keeper_6 rfl rfl ?_
  obtain ⟨v2, hv2, h⟩ := kob h
  refine kr_callV1 C (k := 1) (As := [.int p1]) (rest := []) (c_X2_keeperAfterLeaving hv2) gX2_keeper_X2_keeperAfterLeaving rfl rfl rfl (by decide +kernel) ⟨(Nat.le_of_ble_eq_true rfl), (Nat.le_of_ble_eq_true rfl)⟩ ⟨(Nat.le_of_ble_eq_true rfl), (Nat.le_of_ble_eq_true rfl)⟩ 0 rfl rfl rfl rfl (Nat.le_of_ble_eq_true rfl) dX2_keeper_7 ?_
  cases h
  exact kr_retX (kr_ret_i C (Nat.le_of_ble_eq_true rfl) (Nat.le_of_ble_eq_true rfl) dX2_keeper_10)
set_option maxHeartbeats 4000000 in
set_option maxRecDepth 100000 in
theorem c_X2_without {l : Launch} {D : va_G} {cy : Nat → ClassId} {X : va_W} {p1 : Int32} {p2 : Int32} {r : Int32} (h : f_X2_without p1 p2 = some r) : kM l yX2_without wsX2_without ({ frames := 0, cells := 0, slots := 0, locals := 0 } : Room) D cy X [.int p1, .int p2] X (some (.int r)) 0 0 := by
  rw [f_X2_without] at h
  refine kM.start (L := [(0, .int (p1)), (1, .int (p2))]) rfl rfl rfl (Nat.le_of_ble_eq_true rfl) rfl (fun K A C => ?_)
  refine kr_iload_n C 0 dX2_without_0 rfl rfl ?_
  refine kr_iconst C (v := 1) dX2_without_1 (by decide) ?_
  refine kr_iload_n C 1 dX2_without_2 rfl rfl ?_
  refine kr_ishl C dX2_without_3 ?_
  refine kr_iconst C (v := -1) dX2_without_4 (by decide) ?_
  refine kr_ixor C dX2_without_5 ?_
  refine kr_iand C dX2_without_6 ?_
  cases h
  exact kr_ret_i C (Nat.le_of_ble_eq_true rfl) (Nat.le_of_ble_eq_true rfl) dX2_without_7
theorem atX2_leave_96 : ∀ w ∈ (vx_atS RX2 96 "java/lang/UnsupportedOperationException" ["java/lang/RuntimeException", "java/lang/Exception"]).filter goodWord, w ∈ wsX2_leave := fun _ h => List.mem_cons_of_mem _ (List.mem_append_left _ (List.mem_append_left _ (List.mem_append_left _ (List.mem_append_right _ h))))
theorem ckX2_leave_92 : Cond.classLink RX2 92 "java/lang/UnsupportedOperationException" ∈ wsX2_leave := by decide +kernel
theorem ciX2_leave_92 : Cond.initialized "java/lang/UnsupportedOperationException" ∈ wsX2_leave := by decide +kernel
theorem atX2_leave_54 : ∀ w ∈ (vx_atS RX2 54 "java/lang/IllegalStateException" ["java/lang/RuntimeException", "java/lang/Exception"]).filter goodWord, w ∈ wsX2_leave := fun _ h => List.mem_cons_of_mem _ (List.mem_append_left _ (List.mem_append_left _ (List.mem_append_right _ h)))
theorem ckX2_leave_50 : Cond.classLink RX2 50 "java/lang/IllegalStateException" ∈ wsX2_leave := by decide +kernel
theorem ciX2_leave_50 : Cond.initialized "java/lang/IllegalStateException" ∈ wsX2_leave := by decide +kernel
theorem flX2_leave_47 : Cond.fieldLink RX2 47 "FolderKeeper" "activeAccounts" "I" ∈ wsX2_leave := by decide +kernel
theorem inX2_leave_X2 : ∀ w ∈ wsX20, w ∈ wsX2_leave := fun _ h => List.mem_cons_of_mem _ (List.mem_append_left _ (List.mem_append_left _ (List.mem_append_left _ (List.mem_append_left _ (List.mem_append_left _ (List.mem_append_right _ h))))))
set_option maxHeartbeats 4000000 in
set_option maxRecDepth 100000 in
theorem c_X2_leave {l : Launch} {D : va_G} {cy : Nat → ClassId} {a : Nat → Nat} {Z : va_W} {S : kSt} {p1 : Int32} {r : ((Int32 ⊕ String) × kSt)} {sa : Nat → Nat} (hlt : l.stackTraces = false) (h : f_X2_leave S p1 = some r) : kX l yX2_leave wsX2_leave ({ frames := 7, cells := 2, slots := 12, locals := 134 } : Room) D cy sa (xw a cy S Z) [.ref (a 0), .int p1] (xw a cy r.2 Z) (kOI r.1) 2 12 := by
  rw [f_X2_leave] at h
  refine kX.start (L := [(0, .ref (a 0)), (1, .int (p1))]) hlt rfl rfl rfl (Nat.le_of_ble_eq_true rfl) rfl (fun K A C CX CN => ?_)
  refine kr_aload_n C 0 dX2_leave_0 rfl rfl ?_
  refine kr_iload_n C 1 dX2_leave_1 rfl rfl ?_
  rcases kxb_some h with ⟨Ev1, hv1, h⟩ | ⟨v1, hv1, h⟩
  · cases h
    exact kr_xVex C CX CN (k := 1) (As := [.int p1]) (rest := []) (c_X2_requireAccount hlt hv1) gX2_leave_X2_requireAccount rfl rfl rfl (by decide +kernel) ⟨(Nat.le_of_ble_eq_true rfl), (Nat.le_of_ble_eq_true rfl)⟩ ⟨(Nat.le_of_ble_eq_true rfl), (Nat.le_of_ble_eq_true rfl)⟩ 0 rfl rfl rfl rfl (Nat.le_of_ble_eq_true rfl) dX2_leave_2 (Nat.le_of_ble_eq_true rfl) (Nat.le_of_ble_eq_true rfl)
  refine kr_xV0 C CX (k := 1) (As := [.int p1]) (rest := []) (c_X2_requireAccount hlt hv1) gX2_leave_X2_requireAccount rfl rfl rfl (by decide +kernel) ⟨(Nat.le_of_ble_eq_true rfl), (Nat.le_of_ble_eq_true rfl)⟩ ⟨(Nat.le_of_ble_eq_true rfl), (Nat.le_of_ble_eq_true rfl)⟩ 0 rfl rfl rfl rfl (Nat.le_of_ble_eq_true rfl) dX2_leave_2 ?_
  refine kr_iload_n C 1 dX2_leave_5 rfl rfl ?_
  refine kr_if_ne C 19 dX2_leave_6 (by decide) (fun hc => ?_) (fun hc => ?_)
  · have h := (if_pos hc).symm.trans h
    cases h
    exact kr_throw C CX CN (text := "the warden never leaves") (by decide) ckX2_leave_92 ciX2_leave_92 (by decide) atX2_leave_96 ax_96 ay_96_92 (by decide +kernel) dX2_leave_9 dX2_leave_12 dX2_leave_13 dX2_leave_15 dX2_leave_18 (Nat.le_of_ble_eq_true rfl) (Nat.le_of_ble_eq_true rfl) (Nat.le_of_ble_eq_true rfl) (Nat.le_of_ble_eq_true rfl) (Nat.le_of_ble_eq_true rfl) (Nat.le_of_ble_eq_true rfl)
  have h := (if_neg hc).symm.trans h
  refine kr_aload_n C 0 dX2_leave_19 rfl rfl ?_
  refine kr_iload_n C 1 dX2_leave_20 rfl rfl ?_
  obtain ⟨v2, hv2, h⟩ := kob h
  refine kr_callV1 C (k := 1) (As := [.int p1]) (rest := []) (c_X2_isActive hv2) gX2_leave_X2_isActive rfl rfl rfl (by decide +kernel) ⟨(Nat.le_of_ble_eq_true rfl), (Nat.le_of_ble_eq_true rfl)⟩ ⟨(Nat.le_of_ble_eq_true rfl), (Nat.le_of_ble_eq_true rfl)⟩ 0 rfl rfl rfl rfl (Nat.le_of_ble_eq_true rfl) dX2_leave_21 ?_
  refine kr_if_ne C 37 dX2_leave_24 (by decide) (fun hc => ?_) (fun hc => ?_)
  · have h := (if_pos hc).symm.trans h
    cases h
    exact kr_throw C CX CN (text := "the account has left") (by decide) ckX2_leave_50 ciX2_leave_50 (by decide) atX2_leave_54 ax_54 ay_54_50 (by decide +kernel) dX2_leave_27 dX2_leave_30 dX2_leave_31 dX2_leave_33 dX2_leave_36 (Nat.le_of_ble_eq_true rfl) (Nat.le_of_ble_eq_true rfl) (Nat.le_of_ble_eq_true rfl) (Nat.le_of_ble_eq_true rfl) (Nat.le_of_ble_eq_true rfl) (Nat.le_of_ble_eq_true rfl)
  have h := (if_neg hc).symm.trans h
  refine kr_aload_n C 0 dX2_leave_37 rfl rfl ?_
  refine kr_aload_n C 0 dX2_leave_38 rfl rfl ?_
  refine kr_get C inX2_leave_X2 0 rfl rfl 5 (by decide) flX2_leave_47 rfl rfl dX2_leave_39 ?_
  refine kr_iload_n C 1 dX2_leave_42 rfl rfl ?_
  obtain ⟨v3, hv3, h⟩ := kob h
  refine kr_callS1 C (k := 2) (As := [.int (S.1 5), .int p1]) (rest := [.ref (a 0)]) (c_X2_without hv3) gX2_leave_X2_without rfl rfl rfl (by decide +kernel) ⟨(Nat.le_of_ble_eq_true rfl), (Nat.le_of_ble_eq_true rfl)⟩ ⟨(Nat.le_of_ble_eq_true rfl), (Nat.le_of_ble_eq_true rfl)⟩ rfl rfl (Nat.le_of_ble_eq_true rfl) dX2_leave_43 ?_
  refine kr_put C inX2_leave_X2 tyX2_ok nmX2 0 rfl rfl 5 (by decide) flX2_leave_47 rfl rfl rfl rfl rfl (by show 5 < 16; decide) (xp5 _ _ _ _ _) dX2_leave_46 ?_
  refine kr_aload_n C 0 dX2_leave_49 rfl rfl ?_
  refine kr_iload_n C 1 dX2_leave_50 rfl rfl ?_
  obtain ⟨v4, hv4, h⟩ := kob h
  refine kr_callV1 C (k := 1) (As := [.int p1]) (rest := []) (c_X2_handOverFoldersOf hv4) gX2_leave_X2_handOverFoldersOf rfl rfl rfl (by decide +kernel) ⟨(Nat.le_of_ble_eq_true rfl), (Nat.le_of_ble_eq_true rfl)⟩ ⟨(Nat.le_of_ble_eq_true rfl), (Nat.le_of_ble_eq_true rfl)⟩ 0 rfl rfl rfl rfl (Nat.le_of_ble_eq_true rfl) dX2_leave_51 ?_
  cases h
  exact kr_retX (kr_ret_i C (Nat.le_of_ble_eq_true rfl) (Nat.le_of_ble_eq_true rfl) dX2_leave_54)
theorem flX2_meanOwned_126 : Cond.fieldLink RX2 126 "FolderKeeper" "folders" "I" ∈ wsX2_meanOwned := by decide +kernel
theorem inX2_meanOwned_X2 : ∀ w ∈ wsX20, w ∈ wsX2_meanOwned := fun _ h => List.mem_cons_of_mem _ (List.mem_append_left _ (List.mem_append_left _ (List.mem_append_left _ (List.mem_append_right _ h))))
theorem atX2_meanOwned_197 : ∀ w ∈ (vx_atS RX2 197 "java/lang/ArithmeticException" ["java/lang/RuntimeException", "java/lang/Exception"]).filter goodWord, w ∈ wsX2_meanOwned := fun _ h => List.mem_cons_of_mem _ (List.mem_append_left _ (List.mem_append_right _ h))
theorem ckX2_meanOwned_193 : Cond.classLink RX2 193 "java/lang/ArithmeticException" ∈ wsX2_meanOwned := by decide +kernel
theorem ciX2_meanOwned_193 : Cond.initialized "java/lang/ArithmeticException" ∈ wsX2_meanOwned := by decide +kernel
theorem flX2_meanOwned_18 : Cond.fieldLink RX2 18 "FolderKeeper" "owners" "LFolderKeeper$Row;" ∈ wsX2_meanOwned := by decide +kernel
set_option maxHeartbeats 4000000 in
set_option maxRecDepth 100000 in
theorem lc_X2_meanOwned_L6 {K : kEnv} {l : Launch} {D : va_G} {cy : Nat → ClassId} {A : Nat → Prop} {a : Nat → Nat} {Z : va_W} {sa : Nat → Nat} {S : kSt} {r : (UInt64 ⊕ String)} (C : kC K D cy A 5 cX2_meanOwned RX2 wsX2_meanOwned (some .double)) (CX : kCX K l A sa) (CN : kNoTab K) (hlt : l.stackTraces = false) : ∀ (n : Nat) (x1 x2 x3 : Int32), f_X2_meanOwned_L6 n S x1 x2 x3 = some r → kG K l D A ({ frames := 6, cells := 1, slots := 6, locals := 82 } : Room) 5 (kEndX K D cy A (xw a cy S Z) (kOD r) 1 6) (xw a cy S Z) 0 0 6 [(0, .ref (a 0)), (1, .int (x1)), (2, .int (x2)), (3, .int (x3))] [] := by
  intro n
  induction n with
  | zero => intro x1 x2 x3 h; rw [f_X2_meanOwned_L6] at h; cases h
  | succ n ih =>
    intro x1 x2 x3 h
    rw [f_X2_meanOwned_L6] at h
    refine kr_iload_n C 3 dX2_meanOwned_6 rfl rfl ?_
    refine kr_aload_n C 0 dX2_meanOwned_7 rfl rfl ?_
    refine kr_get C inX2_meanOwned_X2 0 rfl rfl 2 (by decide) flX2_meanOwned_126 rfl rfl dX2_meanOwned_8 ?_
    refine kr_icmp_ge C 49 dX2_meanOwned_11 (by decide) (fun hc => ?_) (fun hc => ?_)
    · have h := (if_pos hc).symm.trans h
      refine kr_iload_n C 1 dX2_meanOwned_49 rfl rfl ?_
      obtain ⟨v1, hv1, h⟩ := kob h
      refine kr_callS1 C (k := 1) (As := [.int x1]) (rest := []) (c_J6_bitCount_0f7a4 hv1) gX2_meanOwned_J6_bitCount_0f7a4 rfl rfl rfl (by decide +kernel) ⟨(Nat.le_of_ble_eq_true rfl), (Nat.le_of_ble_eq_true rfl)⟩ ⟨(Nat.le_of_ble_eq_true rfl), (Nat.le_of_ble_eq_true rfl)⟩ rfl rfl (Nat.le_of_ble_eq_true rfl) dX2_meanOwned_50 ?_
      refine kr_istore_n C [1, 2, 3, 0] dX2_meanOwned_53 rfl (by decide) rfl ?_
      refine kr_iload_n C 3 dX2_meanOwned_54 rfl rfl ?_
      refine kr_if_ne C 68 dX2_meanOwned_55 (by decide) (fun hc => ?_) (fun hc => ?_)
      · have h := (if_pos hc).symm.trans h
        cases h
        exact kr_throw C CX CN (text := "no active account owns a folder") (by decide) ckX2_meanOwned_193 ciX2_meanOwned_193 (by decide) atX2_meanOwned_197 ax_197 ay_197_193 (by decide +kernel) dX2_meanOwned_58 dX2_meanOwned_61 dX2_meanOwned_62 dX2_meanOwned_64 dX2_meanOwned_67 (Nat.le_of_ble_eq_true rfl) (Nat.le_of_ble_eq_true rfl) (Nat.le_of_ble_eq_true rfl) (Nat.le_of_ble_eq_true rfl) (Nat.le_of_ble_eq_true rfl) (Nat.le_of_ble_eq_true rfl)
      have h := (if_neg hc).symm.trans h
      refine kr_iload_n C 2 dX2_meanOwned_68 rfl rfl ?_
      refine kr_i2d C dX2_meanOwned_69 ?_
      refine kr_iload_n C 3 dX2_meanOwned_70 rfl rfl ?_
      refine kr_i2d C dX2_meanOwned_71 ?_
      obtain ⟨hb2, h⟩ := kif h
      refine kr_ddiv C dX2_meanOwned_72 (kn64_of hb2) ?_
      cases h
      exact kr_retX (kr_ret_d C (Nat.le_of_ble_eq_true rfl) (Nat.le_of_ble_eq_true rfl) dX2_meanOwned_73)
    have h := (if_neg hc).symm.trans h
    refine kr_aload_n C 0 dX2_meanOwned_14 rfl rfl ?_
    refine kr_get C inX2_meanOwned_X2 0 rfl rfl 9 (by decide) flX2_meanOwned_18 rfl rfl dX2_meanOwned_15 ?_
    refine kr_iload_n C 3 dX2_meanOwned_18 rfl rfl ?_
    obtain ⟨v3, hv3, h⟩ := kob h
    refine kr_callV1 C (k := 1) (As := [.int x3]) (rest := []) (c_X1_at (q0 := 2) (q1 := 10) rfl rfl hv3) gX2_meanOwned_X1_at rfl rfl rfl (by decide +kernel) ⟨(Nat.le_of_ble_eq_true rfl), (Nat.le_of_ble_eq_true rfl)⟩ ⟨(Nat.le_of_ble_eq_true rfl), (Nat.le_of_ble_eq_true rfl)⟩ 2 rfl rfl rfl rfl (Nat.le_of_ble_eq_true rfl) dX2_meanOwned_19 ?_
    refine kr_istore C [1, 2, 3, 4, 0] dX2_meanOwned_22 (by decide) rfl ?_
    refine kr_aload_n C 0 dX2_meanOwned_24 rfl rfl ?_
    refine kr_iload C 4 dX2_meanOwned_25 rfl ?_
    obtain ⟨v4, hv4, h⟩ := kob h
    refine kr_callV1 C (k := 1) (As := [.int v3]) (rest := []) (c_X2_isActive hv4) gX2_meanOwned_X2_isActive rfl rfl rfl (by decide +kernel) ⟨(Nat.le_of_ble_eq_true rfl), (Nat.le_of_ble_eq_true rfl)⟩ ⟨(Nat.le_of_ble_eq_true rfl), (Nat.le_of_ble_eq_true rfl)⟩ 0 rfl rfl rfl rfl (Nat.le_of_ble_eq_true rfl) dX2_meanOwned_27 ?_
    refine kr_if_eq C 43 dX2_meanOwned_30 (by decide) (fun hc => ?_) (fun hc => ?_)
    · have h := (if_pos hc).symm.trans h
      refine kr_iinc C (v := (x3 + 1)) 3 [1, 2, 3, 0, 4] dX2_meanOwned_43 rfl rfl (by decide) rfl ?_
      refine kr_goto C 6 dX2_meanOwned_46 (by decide) ?_
      refine kr_sub [0, 1, 2, 3] rfl ?_
      exact ih _ _ _ h
    have h := (if_neg hc).symm.trans h
    refine kr_iload_n C 1 dX2_meanOwned_33 rfl rfl ?_
    refine kr_iload C 4 dX2_meanOwned_34 rfl ?_
    obtain ⟨v5, hv5, h⟩ := kob h
    refine kr_callS1 C (k := 2) (As := [.int x1, .int v3]) (rest := []) (c_X2_with hv5) gX2_meanOwned_X2_with rfl rfl rfl (by decide +kernel) ⟨(Nat.le_of_ble_eq_true rfl), (Nat.le_of_ble_eq_true rfl)⟩ ⟨(Nat.le_of_ble_eq_true rfl), (Nat.le_of_ble_eq_true rfl)⟩ rfl rfl (Nat.le_of_ble_eq_true rfl) dX2_meanOwned_36 ?_
    refine kr_istore_n C [1, 0, 2, 3, 4] dX2_meanOwned_39 rfl (by decide) rfl ?_
    refine kr_iinc C (v := (x2 + 1)) 2 [1, 2, 0, 3, 4] dX2_meanOwned_40 rfl rfl (by decide) rfl ?_
    refine kr_iinc C (v := (x3 + 1)) 3 [1, 2, 3, 0, 4] dX2_meanOwned_43 rfl rfl (by decide) rfl ?_
    refine kr_goto C 6 dX2_meanOwned_46 (by decide) ?_
    refine kr_sub [0, 1, 2, 3] rfl ?_
    exact ih _ _ _ h
set_option maxHeartbeats 4000000 in
set_option maxRecDepth 100000 in
theorem c_X2_meanOwned {l : Launch} {D : va_G} {cy : Nat → ClassId} {a : Nat → Nat} {Z : va_W} {S : kSt} {r : (UInt64 ⊕ String)} {sa : Nat → Nat} (hlt : l.stackTraces = false) (h : f_X2_meanOwned S = some r) : kX l yX2_meanOwned wsX2_meanOwned ({ frames := 6, cells := 1, slots := 6, locals := 82 } : Room) D cy sa (xw a cy S Z) [.ref (a 0)] (xw a cy S Z) (kOD r) 1 6 := by
  rw [f_X2_meanOwned] at h
  refine kX.start (L := [(0, .ref (a 0))]) hlt rfl rfl rfl (Nat.le_of_ble_eq_true rfl) rfl (fun K A C CX CN => ?_)
  refine kr_iconst C (v := 0) dX2_meanOwned_0 (by decide) ?_
  refine kr_istore_n C [1, 0] dX2_meanOwned_1 rfl (by decide) rfl ?_
  refine kr_iconst C (v := 0) dX2_meanOwned_2 (by decide) ?_
  refine kr_istore_n C [1, 2, 0] dX2_meanOwned_3 rfl (by decide) rfl ?_
  refine kr_iconst C (v := 0) dX2_meanOwned_4 (by decide) ?_
  refine kr_istore_n C [1, 2, 3, 0] dX2_meanOwned_5 rfl (by decide) rfl ?_
  exact lc_X2_meanOwned_L6 C CX CN hlt _ _ _ _ h
theorem flX2_memberships_77 : Cond.fieldLink RX2 77 "FolderKeeper" "groups" "I" ∈ wsX2_memberships := by decide +kernel
theorem inX2_memberships_X2 : ∀ w ∈ wsX20, w ∈ wsX2_memberships := fun _ h => List.mem_cons_of_mem _ (List.mem_append_left _ (List.mem_append_left _ (List.mem_append_right _ h)))
theorem flX2_memberships_30 : Cond.fieldLink RX2 30 "FolderKeeper" "accountEnds" "LFolderKeeper$Grid;" ∈ wsX2_memberships := by decide +kernel
theorem flX2_memberships_34 : Cond.fieldLink RX2 34 "FolderKeeper" "groupEnds" "LFolderKeeper$Grid;" ∈ wsX2_memberships := by decide +kernel
set_option maxHeartbeats 4000000 in
set_option maxRecDepth 100000 in
theorem lc_X2_memberships_L4 {K : kEnv} {l : Launch} {D : va_G} {cy : Nat → ClassId} {A : Nat → Prop} {a : Nat → Nat} {Z : va_W} {S : kSt} {r : Int32} (C : kC K D cy A 3 cX2_memberships RX2 wsX2_memberships (some .int)) : ∀ (n : Nat) (x1 x2 : Int32), f_X2_memberships_L4 n S x1 x2 = some r → kG K l D A ({ frames := 2, cells := 0, slots := 0, locals := 46 } : Room) 3 (kEnd K D cy A (xw a cy S Z) (some (.int r)) 0 0) (xw a cy S Z) 0 0 4 [(0, .ref (a 0)), (1, .int (x1)), (2, .int (x2))] [] := by
  intro n
  induction n with
  | zero => intro x1 x2 h; rw [f_X2_memberships_L4] at h; cases h
  | succ n ih =>
    intro x1 x2 h
    rw [f_X2_memberships_L4] at h
    refine kr_iload_n C 2 dX2_memberships_4 rfl rfl ?_
    refine kr_aload_n C 0 dX2_memberships_5 rfl rfl ?_
    refine kr_get C inX2_memberships_X2 0 rfl rfl 1 (by decide) flX2_memberships_77 rfl rfl dX2_memberships_6 ?_
    refine kr_icmp_ge C 38 dX2_memberships_9 (by decide) (fun hc => ?_) (fun hc => ?_)
    · have h := (if_pos hc).symm.trans h
      refine kr_iload_n C 1 dX2_memberships_38 rfl rfl ?_
      cases h
      exact kr_ret_i C (Nat.le_of_ble_eq_true rfl) (Nat.le_of_ble_eq_true rfl) dX2_memberships_39
    have h := (if_neg hc).symm.trans h
    refine kr_iload_n C 1 dX2_memberships_12 rfl rfl ?_
    refine kr_aload_n C 0 dX2_memberships_13 rfl rfl ?_
    refine kr_get C inX2_memberships_X2 0 rfl rfl 12 (by decide) flX2_memberships_30 rfl rfl dX2_memberships_14 ?_
    refine kr_iload_n C 2 dX2_memberships_17 rfl rfl ?_
    obtain ⟨v1, hv1, h⟩ := kob h
    refine kr_callV1 C (k := 1) (As := [.int x2]) (rest := [.int (x1)]) (c_X0_filled (q0 := 5) (q1 := 13) rfl rfl hv1) gX2_memberships_X0_filled rfl rfl rfl (by decide +kernel) ⟨(Nat.le_of_ble_eq_true rfl), (Nat.le_of_ble_eq_true rfl)⟩ ⟨(Nat.le_of_ble_eq_true rfl), (Nat.le_of_ble_eq_true rfl)⟩ 5 rfl rfl rfl rfl (Nat.le_of_ble_eq_true rfl) dX2_memberships_18 ?_
    refine kr_aload_n C 0 dX2_memberships_21 rfl rfl ?_
    refine kr_get C inX2_memberships_X2 0 rfl rfl 13 (by decide) flX2_memberships_34 rfl rfl dX2_memberships_22 ?_
    refine kr_iload_n C 2 dX2_memberships_25 rfl rfl ?_
    obtain ⟨v2, hv2, h⟩ := kob h
    refine kr_callV1 C (k := 1) (As := [.int x2]) (rest := [.int (v1), .int (x1)]) (c_X0_filled (q0 := 6) (q1 := 14) rfl rfl hv2) gX2_memberships_X0_filled rfl rfl rfl (by decide +kernel) ⟨(Nat.le_of_ble_eq_true rfl), (Nat.le_of_ble_eq_true rfl)⟩ ⟨(Nat.le_of_ble_eq_true rfl), (Nat.le_of_ble_eq_true rfl)⟩ 6 rfl rfl rfl rfl (Nat.le_of_ble_eq_true rfl) dX2_memberships_26 ?_
    refine kr_iadd C dX2_memberships_29 ?_
    refine kr_iadd C dX2_memberships_30 ?_
    refine kr_istore_n C [1, 0, 2] dX2_memberships_31 rfl (by decide) rfl ?_
    refine kr_iinc C (v := (x2 + 1)) 2 [1, 2, 0] dX2_memberships_32 rfl rfl (by decide) rfl ?_
    refine kr_goto C 4 dX2_memberships_35 (by decide) ?_
    exact ih _ _ h
set_option maxHeartbeats 4000000 in
set_option maxRecDepth 100000 in
theorem c_X2_memberships {l : Launch} {D : va_G} {cy : Nat → ClassId} {a : Nat → Nat} {Z : va_W} {S : kSt} {r : Int32} (h : f_X2_memberships S = some r) : kM l yX2_memberships wsX2_memberships ({ frames := 2, cells := 0, slots := 0, locals := 46 } : Room) D cy (xw a cy S Z) [.ref (a 0)] (xw a cy S Z) (some (.int r)) 0 0 := by
  rw [f_X2_memberships] at h
  refine kM.start (L := [(0, .ref (a 0))]) rfl rfl rfl (Nat.le_of_ble_eq_true rfl) rfl (fun K A C => ?_)
  refine kr_iconst C (v := 0) dX2_memberships_0 (by decide) ?_
  refine kr_istore_n C [1, 0] dX2_memberships_1 rfl (by decide) rfl ?_
  refine kr_iconst C (v := 0) dX2_memberships_2 (by decide) ?_
  refine kr_istore_n C [1, 2, 0] dX2_memberships_3 rfl (by decide) rfl ?_
  exact lc_X2_memberships_L4 C _ _ _ h
theorem flX2_nest_34 : Cond.fieldLink RX2 34 "FolderKeeper" "groupEnds" "LFolderKeeper$Grid;" ∈ wsX2_nest := by decide +kernel
theorem inX2_nest_X2 : ∀ w ∈ wsX20, w ∈ wsX2_nest := fun _ h => List.mem_cons_of_mem _ (List.mem_append_left _ (List.mem_append_left _ (List.mem_append_left _ (List.mem_append_left _ (List.mem_append_left _ (List.mem_append_right _ h))))))
theorem atX2_nest_96 : ∀ w ∈ (vx_atS RX2 96 "java/lang/UnsupportedOperationException" ["java/lang/RuntimeException", "java/lang/Exception"]).filter goodWord, w ∈ wsX2_nest := fun _ h => List.mem_cons_of_mem _ (List.mem_append_left _ (List.mem_append_left _ (List.mem_append_left _ (List.mem_append_right _ h))))
theorem ckX2_nest_92 : Cond.classLink RX2 92 "java/lang/UnsupportedOperationException" ∈ wsX2_nest := by decide +kernel
theorem ciX2_nest_92 : Cond.initialized "java/lang/UnsupportedOperationException" ∈ wsX2_nest := by decide +kernel
set_option maxHeartbeats 4000000 in
set_option maxRecDepth 100000 in
theorem c_X2_nest {l : Launch} {D : va_G} {cy : Nat → ClassId} {a : Nat → Nat} {Z : va_W} {S : kSt} {p1 : Int32} {p2 : Int32} {p3 : Int32} {r : ((Int32 ⊕ String) × kSt)} {sa : Nat → Nat} (hlt : l.stackTraces = false) (h : f_X2_nest S p1 p2 p3 = some r) : kX l yX2_nest wsX2_nest ({ frames := 7, cells := 4, slots := 24, locals := 103 } : Room) D cy sa (xw a cy S Z) [.ref (a 0), .int p1, .int p2, .int p3] (xw a cy r.2 Z) (kOI r.1) 4 24 := by
  rw [f_X2_nest] at h
  refine kX.start (L := [(0, .ref (a 0)), (1, .int (p1)), (2, .int (p2)), (3, .int (p3))]) hlt rfl rfl rfl (Nat.le_of_ble_eq_true rfl) rfl (fun K A C CX CN => ?_)
  refine kr_aload_n C 0 dX2_nest_0 rfl rfl ?_
  refine kr_iload_n C 1 dX2_nest_1 rfl rfl ?_
  rcases kxb_some h with ⟨Ev1, hv1, h⟩ | ⟨v1, hv1, h⟩
  · cases h
    exact kr_xVex C CX CN (k := 1) (As := [.int p1]) (rest := []) (c_X2_requireGroup hlt hv1) gX2_nest_X2_requireGroup rfl rfl rfl (by decide +kernel) ⟨(Nat.le_of_ble_eq_true rfl), (Nat.le_of_ble_eq_true rfl)⟩ ⟨(Nat.le_of_ble_eq_true rfl), (Nat.le_of_ble_eq_true rfl)⟩ 0 rfl rfl rfl rfl (Nat.le_of_ble_eq_true rfl) dX2_nest_2 (Nat.le_of_ble_eq_true rfl) (Nat.le_of_ble_eq_true rfl)
  refine kr_xV0 C CX (k := 1) (As := [.int p1]) (rest := []) (c_X2_requireGroup hlt hv1) gX2_nest_X2_requireGroup rfl rfl rfl (by decide +kernel) ⟨(Nat.le_of_ble_eq_true rfl), (Nat.le_of_ble_eq_true rfl)⟩ ⟨(Nat.le_of_ble_eq_true rfl), (Nat.le_of_ble_eq_true rfl)⟩ 0 rfl rfl rfl rfl (Nat.le_of_ble_eq_true rfl) dX2_nest_2 ?_
  refine kr_aload_n C 0 dX2_nest_5 rfl rfl ?_
  refine kr_iload_n C 2 dX2_nest_6 rfl rfl ?_
  rcases kxb_some h with ⟨Ev2, hv2, h⟩ | ⟨v2, hv2, h⟩
  · cases h
    exact kr_xVex C CX CN (k := 1) (As := [.int p2]) (rest := []) (c_X2_requireGroup hlt hv2) gX2_nest_X2_requireGroup rfl rfl rfl (by decide +kernel) ⟨(Nat.le_of_ble_eq_true rfl), (Nat.le_of_ble_eq_true rfl)⟩ ⟨(Nat.le_of_ble_eq_true rfl), (Nat.le_of_ble_eq_true rfl)⟩ 0 rfl rfl rfl rfl (Nat.le_of_ble_eq_true rfl) dX2_nest_7 (Nat.le_of_ble_eq_true rfl) (Nat.le_of_ble_eq_true rfl)
  refine kr_xV0 C CX (k := 1) (As := [.int p2]) (rest := []) (c_X2_requireGroup hlt hv2) gX2_nest_X2_requireGroup rfl rfl rfl (by decide +kernel) ⟨(Nat.le_of_ble_eq_true rfl), (Nat.le_of_ble_eq_true rfl)⟩ ⟨(Nat.le_of_ble_eq_true rfl), (Nat.le_of_ble_eq_true rfl)⟩ 0 rfl rfl rfl rfl (Nat.le_of_ble_eq_true rfl) dX2_nest_7 ?_
  refine kr_aload_n C 0 dX2_nest_10 rfl rfl ?_
  refine kr_iload_n C 3 dX2_nest_11 rfl rfl ?_
  rcases kxb_some h with ⟨Ev3, hv3, h⟩ | ⟨v3, hv3, h⟩
  · cases h
    exact kr_xVex C CX CN (k := 1) (As := [.int p3]) (rest := []) (c_X2_requireEnd hlt hv3) gX2_nest_X2_requireEnd rfl rfl rfl (by decide +kernel) ⟨(Nat.le_of_ble_eq_true rfl), (Nat.le_of_ble_eq_true rfl)⟩ ⟨(Nat.le_of_ble_eq_true rfl), (Nat.le_of_ble_eq_true rfl)⟩ 0 rfl rfl rfl rfl (Nat.le_of_ble_eq_true rfl) dX2_nest_12 (Nat.le_of_ble_eq_true rfl) (Nat.le_of_ble_eq_true rfl)
  refine kr_xV0 C CX (k := 1) (As := [.int p3]) (rest := []) (c_X2_requireEnd hlt hv3) gX2_nest_X2_requireEnd rfl rfl rfl (by decide +kernel) ⟨(Nat.le_of_ble_eq_true rfl), (Nat.le_of_ble_eq_true rfl)⟩ ⟨(Nat.le_of_ble_eq_true rfl), (Nat.le_of_ble_eq_true rfl)⟩ 0 rfl rfl rfl rfl (Nat.le_of_ble_eq_true rfl) dX2_nest_12 ?_
  refine kr_aload_n C 0 dX2_nest_15 rfl rfl ?_
  refine kr_iconst C (v := 0) dX2_nest_16 (by decide) ?_
  refine kr_iload_n C 2 dX2_nest_17 rfl rfl ?_
  obtain ⟨v4, hv4, h⟩ := kob h
  refine kr_callS1 C (k := 2) (As := [.int (0 : Int32), .int p2]) (rest := [.ref (a 0)]) (c_X2_with hv4) gX2_nest_X2_with rfl rfl rfl (by decide +kernel) ⟨(Nat.le_of_ble_eq_true rfl), (Nat.le_of_ble_eq_true rfl)⟩ ⟨(Nat.le_of_ble_eq_true rfl), (Nat.le_of_ble_eq_true rfl)⟩ rfl rfl (Nat.le_of_ble_eq_true rfl) dX2_nest_18 ?_
  obtain ⟨v5, hv5, h⟩ := kob h
  refine kr_callV1 C (k := 1) (As := [.int v4]) (rest := []) (c_X2_andAllAround hv5) gX2_nest_X2_andAllAround rfl rfl rfl (by decide +kernel) ⟨(Nat.le_of_ble_eq_true rfl), (Nat.le_of_ble_eq_true rfl)⟩ ⟨(Nat.le_of_ble_eq_true rfl), (Nat.le_of_ble_eq_true rfl)⟩ 0 rfl rfl rfl rfl (Nat.le_of_ble_eq_true rfl) dX2_nest_21 ?_
  refine kr_iload_n C 1 dX2_nest_24 rfl rfl ?_
  obtain ⟨v6, hv6, h⟩ := kob h
  refine kr_callS1 C (k := 2) (As := [.int v5, .int p1]) (rest := []) (c_X2_contains hv6) gX2_nest_X2_contains rfl rfl rfl (by decide +kernel) ⟨(Nat.le_of_ble_eq_true rfl), (Nat.le_of_ble_eq_true rfl)⟩ ⟨(Nat.le_of_ble_eq_true rfl), (Nat.le_of_ble_eq_true rfl)⟩ rfl rfl (Nat.le_of_ble_eq_true rfl) dX2_nest_25 ?_
  refine kr_if_eq C 41 dX2_nest_28 (by decide) (fun hc => ?_) (fun hc => ?_)
  · have h := (if_pos hc).symm.trans h
    refine kr_aload_n C 0 dX2_nest_41 rfl rfl ?_
    refine kr_get C inX2_nest_X2 0 rfl rfl 13 (by decide) flX2_nest_34 rfl rfl dX2_nest_42 ?_
    refine kr_iload_n C 2 dX2_nest_45 rfl rfl ?_
    refine kr_iload_n C 1 dX2_nest_46 rfl rfl ?_
    refine kr_iload_n C 3 dX2_nest_47 rfl rfl ?_
    obtain ⟨v7, hv7, h⟩ := kob h
    refine kr_callV0 C (k := 3) (As := [.int p2, .int p1, .int p3]) (rest := []) (c_X0_put (Wf := fun f => xw a cy (S.1, va_up S.2 13 f) Z) (q0 := 6) (q1 := 14) (fun _ => rfl) (fun _ => rfl) (fun _ _ => rfl) hv7) gX2_nest_X0_put rfl rfl rfl (by decide +kernel) ⟨(Nat.le_of_ble_eq_true rfl), (Nat.le_of_ble_eq_true rfl)⟩ ⟨(Nat.le_of_ble_eq_true rfl), (Nat.le_of_ble_eq_true rfl)⟩ 6 rfl rfl rfl rfl (Nat.le_of_ble_eq_true rfl) dX2_nest_48 ?_
    refine kr_aload_n C 0 dX2_nest_51 rfl rfl ?_
    refine kr_get C inX2_nest_X2 0 rfl rfl 13 (by decide) flX2_nest_34 rfl rfl dX2_nest_52 ?_
    refine kr_iload_n C 2 dX2_nest_55 rfl rfl ?_
    obtain ⟨v8, hv8, h⟩ := kob h
    refine kr_callV1 C (k := 1) (As := [.int p2]) (rest := []) (c_X0_filled (q0 := 6) (q1 := 14) rfl rfl hv8) gX2_nest_X0_filled rfl rfl rfl (by decide +kernel) ⟨(Nat.le_of_ble_eq_true rfl), (Nat.le_of_ble_eq_true rfl)⟩ ⟨(Nat.le_of_ble_eq_true rfl), (Nat.le_of_ble_eq_true rfl)⟩ 6 rfl rfl rfl rfl (Nat.le_of_ble_eq_true rfl) dX2_nest_56 ?_
    cases h
    exact kr_retX (kr_ret_i C (Nat.le_of_ble_eq_true rfl) (Nat.le_of_ble_eq_true rfl) dX2_nest_59)
  have h := (if_neg hc).symm.trans h
  cases h
  exact kr_throw C CX CN (text := "a group would come back to itself") (by decide) ckX2_nest_92 ciX2_nest_92 (by decide) atX2_nest_96 ax_96 ay_96_92 (by decide +kernel) dX2_nest_31 dX2_nest_34 dX2_nest_35 dX2_nest_37 dX2_nest_40 (Nat.le_of_ble_eq_true rfl) (Nat.le_of_ble_eq_true rfl) (Nat.le_of_ble_eq_true rfl) (Nat.le_of_ble_eq_true rfl) (Nat.le_of_ble_eq_true rfl) (Nat.le_of_ble_eq_true rfl)
theorem flX2_openPairs_43 : Cond.fieldLink RX2 43 "FolderKeeper" "accounts" "I" ∈ wsX2_openPairs := by decide +kernel
theorem inX2_openPairs_X2 : ∀ w ∈ wsX20, w ∈ wsX2_openPairs := fun _ h => List.mem_cons_of_mem _ (List.mem_append_left _ (List.mem_append_left _ (List.mem_append_left _ (List.mem_append_right _ h))))
theorem flX2_openPairs_126 : Cond.fieldLink RX2 126 "FolderKeeper" "folders" "I" ∈ wsX2_openPairs := by decide +kernel
set_option maxHeartbeats 4000000 in
set_option maxRecDepth 100000 in
theorem lc_X2_openPairs_L21 {K : kEnv} {l : Launch} {D : va_G} {cy : Nat → ClassId} {A : Nat → Prop} {a : Nat → Nat} {Z : va_W} {S : kSt} {r : Int32} {Q : State → Prop} (C : kC K D cy A 5 cX2_openPairs RX2 wsX2_openPairs (some .int)) : ∀ (n : Nat) (x1 x2 x3 x4 : Int32), f_X2_openPairs_L21 n S x1 x2 x3 x4 = some r → kG K l D A ({ frames := 5, cells := 0, slots := 0, locals := 116 } : Room) 5 Q (xw a cy S Z) 0 0 51 [(0, .ref (a 0)), (1, .int (r)), (2, .int (x2))] [] → kG K l D A ({ frames := 5, cells := 0, slots := 0, locals := 116 } : Room) 5 Q (xw a cy S Z) 0 0 21 [(0, .ref (a 0)), (1, .int (x1)), (2, .int (x2)), (3, .int (x3)), (4, .int (x4))] [] := by
  intro n
  induction n with
  | zero => intro x1 x2 x3 x4 h kk; rw [f_X2_openPairs_L21] at h; cases h
  | succ n ih =>
    intro x1 x2 x3 x4 h kk
    rw [f_X2_openPairs_L21] at h
    refine kr_iload C 4 dX2_openPairs_21 rfl ?_
    refine kr_aload_n C 0 dX2_openPairs_23 rfl rfl ?_
    refine kr_get C inX2_openPairs_X2 0 rfl rfl 2 (by decide) flX2_openPairs_126 rfl rfl dX2_openPairs_24 ?_
    refine kr_icmp_ge C 51 dX2_openPairs_27 (by decide) (fun hc => ?_) (fun hc => ?_)
    · have h := (if_pos hc).symm.trans h
      cases h
      refine kr_sub [0, 1, 2] rfl ?_
      exact kk
    have h := (if_neg hc).symm.trans h
    refine kr_aload_n C 0 dX2_openPairs_30 rfl rfl ?_
    refine kr_iload_n C 2 dX2_openPairs_31 rfl rfl ?_
    refine kr_iload_n C 3 dX2_openPairs_32 rfl rfl ?_
    refine kr_iload C 4 dX2_openPairs_33 rfl ?_
    obtain ⟨v2, hv2, h⟩ := kob h
    refine kr_callV1 C (k := 3) (As := [.int x2, .int x3, .int x4]) (rest := []) (c_X2_rightAmong hv2) gX2_openPairs_X2_rightAmong rfl rfl rfl (by decide +kernel) ⟨(Nat.le_of_ble_eq_true rfl), (Nat.le_of_ble_eq_true rfl)⟩ ⟨(Nat.le_of_ble_eq_true rfl), (Nat.le_of_ble_eq_true rfl)⟩ 0 rfl rfl rfl rfl (Nat.le_of_ble_eq_true rfl) dX2_openPairs_35 ?_
    refine kr_iconst C (v := 1) dX2_openPairs_38 (by decide) ?_
    refine kr_icmp_lt C 45 dX2_openPairs_39 (by decide) (fun hc => ?_) (fun hc => ?_)
    · have h := (if_pos hc).symm.trans h
      refine kr_iinc C (v := (x4 + 1)) 4 [1, 2, 3, 4, 0] dX2_openPairs_45 rfl rfl (by decide) rfl ?_
      refine kr_goto C 21 dX2_openPairs_48 (by decide) ?_
      exact ih _ _ _ _ h kk
    have h := (if_neg hc).symm.trans h
    refine kr_iinc C (v := (x1 + 1)) 1 [1, 0, 2, 3, 4] dX2_openPairs_42 rfl rfl (by decide) rfl ?_
    refine kr_iinc C (v := (x4 + 1)) 4 [1, 2, 3, 4, 0] dX2_openPairs_45 rfl rfl (by decide) rfl ?_
    refine kr_goto C 21 dX2_openPairs_48 (by decide) ?_
    exact ih _ _ _ _ h kk
set_option maxHeartbeats 4000000 in
set_option maxRecDepth 100000 in
theorem lc_X2_openPairs_L4 {K : kEnv} {l : Launch} {D : va_G} {cy : Nat → ClassId} {A : Nat → Prop} {a : Nat → Nat} {Z : va_W} {S : kSt} {r : Int32} (C : kC K D cy A 5 cX2_openPairs RX2 wsX2_openPairs (some .int)) : ∀ (n : Nat) (x1 x2 : Int32), f_X2_openPairs_L4 n S x1 x2 = some r → kG K l D A ({ frames := 5, cells := 0, slots := 0, locals := 116 } : Room) 5 (kEnd K D cy A (xw a cy S Z) (some (.int r)) 0 0) (xw a cy S Z) 0 0 4 [(0, .ref (a 0)), (1, .int (x1)), (2, .int (x2))] [] := by
  intro n
  induction n with
  | zero => intro x1 x2 h; rw [f_X2_openPairs_L4] at h; cases h
  | succ n ih =>
    intro x1 x2 h
    rw [f_X2_openPairs_L4] at h
    refine kr_iload_n C 2 dX2_openPairs_4 rfl rfl ?_
    refine kr_aload_n C 0 dX2_openPairs_5 rfl rfl ?_
    refine kr_get C inX2_openPairs_X2 0 rfl rfl 0 (by decide) flX2_openPairs_43 rfl rfl dX2_openPairs_6 ?_
    refine kr_icmp_ge C 57 dX2_openPairs_9 (by decide) (fun hc => ?_) (fun hc => ?_)
    · have h := (if_pos hc).symm.trans h
      refine kr_iload_n C 1 dX2_openPairs_57 rfl rfl ?_
      cases h
      exact kr_ret_i C (Nat.le_of_ble_eq_true rfl) (Nat.le_of_ble_eq_true rfl) dX2_openPairs_58
    have h := (if_neg hc).symm.trans h
    refine kr_aload_n C 0 dX2_openPairs_12 rfl rfl ?_
    refine kr_iload_n C 2 dX2_openPairs_13 rfl rfl ?_
    obtain ⟨v1, hv1, h⟩ := kob h
    refine kr_callV1 C (k := 1) (As := [.int x2]) (rest := []) (c_X2_groupsOf hv1) gX2_openPairs_X2_groupsOf rfl rfl rfl (by decide +kernel) ⟨(Nat.le_of_ble_eq_true rfl), (Nat.le_of_ble_eq_true rfl)⟩ ⟨(Nat.le_of_ble_eq_true rfl), (Nat.le_of_ble_eq_true rfl)⟩ 0 rfl rfl rfl rfl (Nat.le_of_ble_eq_true rfl) dX2_openPairs_14 ?_
    refine kr_istore_n C [1, 2, 3, 0] dX2_openPairs_17 rfl (by decide) rfl ?_
    refine kr_iconst C (v := 0) dX2_openPairs_18 (by decide) ?_
    refine kr_istore C [1, 2, 3, 4, 0] dX2_openPairs_19 (by decide) rfl ?_
    obtain ⟨q3, hq3, h⟩ := kob h
    refine lc_X2_openPairs_L21 C _ _ _ _ _ hq3 ?_
    refine kr_iinc C (v := (x2 + 1)) 2 [1, 2, 0] dX2_openPairs_51 rfl rfl (by decide) rfl ?_
    refine kr_goto C 4 dX2_openPairs_54 (by decide) ?_
    exact ih _ _ h
set_option maxHeartbeats 4000000 in
set_option maxRecDepth 100000 in
theorem c_X2_openPairs {l : Launch} {D : va_G} {cy : Nat → ClassId} {a : Nat → Nat} {Z : va_W} {S : kSt} {r : Int32} (h : f_X2_openPairs S = some r) : kM l yX2_openPairs wsX2_openPairs ({ frames := 5, cells := 0, slots := 0, locals := 116 } : Room) D cy (xw a cy S Z) [.ref (a 0)] (xw a cy S Z) (some (.int r)) 0 0 := by
  rw [f_X2_openPairs] at h
  refine kM.start (L := [(0, .ref (a 0))]) rfl rfl rfl (Nat.le_of_ble_eq_true rfl) rfl (fun K A C => ?_)
  refine kr_iconst C (v := 0) dX2_openPairs_0 (by decide) ?_
  refine kr_istore_n C [1, 0] dX2_openPairs_1 rfl (by decide) rfl ?_
  refine kr_iconst C (v := 0) dX2_openPairs_2 (by decide) ?_
  refine kr_istore_n C [1, 2, 0] dX2_openPairs_3 rfl (by decide) rfl ?_
  exact lc_X2_openPairs_L4 C _ _ _ h
theorem flX2_openShare_47 : Cond.fieldLink RX2 47 "FolderKeeper" "activeAccounts" "I" ∈ wsX2_openShare := by decide +kernel
theorem inX2_openShare_X2 : ∀ w ∈ wsX20, w ∈ wsX2_openShare := fun _ h => List.mem_cons_of_mem _ (List.mem_append_left _ (List.mem_append_left _ (List.mem_append_left _ (List.mem_append_left _ (List.mem_append_right _ h)))))
theorem flX2_openShare_126 : Cond.fieldLink RX2 126 "FolderKeeper" "folders" "I" ∈ wsX2_openShare := by decide +kernel
theorem atX2_openShare_197 : ∀ w ∈ (vx_atS RX2 197 "java/lang/ArithmeticException" ["java/lang/RuntimeException", "java/lang/Exception"]).filter goodWord, w ∈ wsX2_openShare := fun _ h => List.mem_cons_of_mem _ (List.mem_append_left _ (List.mem_append_right _ h))
theorem ckX2_openShare_193 : Cond.classLink RX2 193 "java/lang/ArithmeticException" ∈ wsX2_openShare := by decide +kernel
theorem ciX2_openShare_193 : Cond.initialized "java/lang/ArithmeticException" ∈ wsX2_openShare := by decide +kernel
set_option maxHeartbeats 4000000 in
set_option maxRecDepth 100000 in
theorem c_X2_openShare {l : Launch} {D : va_G} {cy : Nat → ClassId} {a : Nat → Nat} {Z : va_W} {S : kSt} {r : (UInt32 ⊕ String)} {sa : Nat → Nat} (hlt : l.stackTraces = false) (h : f_X2_openShare S = some r) : kX l yX2_openShare wsX2_openShare ({ frames := 6, cells := 1, slots := 6, locals := 140 } : Room) D cy sa (xw a cy S Z) [.ref (a 0)] (xw a cy S Z) (kOF r) 1 6 := by
  rw [f_X2_openShare] at h
  refine kX.start (L := [(0, .ref (a 0))]) hlt rfl rfl rfl (Nat.le_of_ble_eq_true rfl) rfl (fun K A C CX CN => ?_)
  refine kr_aload_n C 0 dX2_openShare_0 rfl rfl ?_
  refine kr_get C inX2_openShare_X2 0 rfl rfl 5 (by decide) flX2_openShare_47 rfl rfl dX2_openShare_1 ?_
  obtain ⟨v1, hv1, h⟩ := kob h
  refine kr_callS1 C (k := 1) (As := [.int (S.1 5)]) (rest := []) (c_J6_bitCount_0f7a4 hv1) gX2_openShare_J6_bitCount_0f7a4 rfl rfl rfl (by decide +kernel) ⟨(Nat.le_of_ble_eq_true rfl), (Nat.le_of_ble_eq_true rfl)⟩ ⟨(Nat.le_of_ble_eq_true rfl), (Nat.le_of_ble_eq_true rfl)⟩ rfl rfl (Nat.le_of_ble_eq_true rfl) dX2_openShare_4 ?_
  refine kr_aload_n C 0 dX2_openShare_7 rfl rfl ?_
  refine kr_get C inX2_openShare_X2 0 rfl rfl 2 (by decide) flX2_openShare_126 rfl rfl dX2_openShare_8 ?_
  refine kr_imul C dX2_openShare_11 ?_
  refine kr_istore_n C [1, 0] dX2_openShare_12 rfl (by decide) rfl ?_
  refine kr_iload_n C 1 dX2_openShare_13 rfl rfl ?_
  refine kr_if_ne C 27 dX2_openShare_14 (by decide) (fun hc => ?_) (fun hc => ?_)
  · have h := (if_pos hc).symm.trans h
    cases h
    exact kr_throw C CX CN (text := "there are no folders") (by decide) ckX2_openShare_193 ciX2_openShare_193 (by decide) atX2_openShare_197 ax_197 ay_197_193 (by decide +kernel) dX2_openShare_17 dX2_openShare_20 dX2_openShare_21 dX2_openShare_23 dX2_openShare_26 (Nat.le_of_ble_eq_true rfl) (Nat.le_of_ble_eq_true rfl) (Nat.le_of_ble_eq_true rfl) (Nat.le_of_ble_eq_true rfl) (Nat.le_of_ble_eq_true rfl) (Nat.le_of_ble_eq_true rfl)
  have h := (if_neg hc).symm.trans h
  refine kr_aload_n C 0 dX2_openShare_27 rfl rfl ?_
  obtain ⟨v2, hv2, h⟩ := kob h
  refine kr_callV1 C (k := 0) (As := []) (rest := []) (c_X2_openPairs hv2) gX2_openShare_X2_openPairs rfl rfl rfl (by decide +kernel) ⟨(Nat.le_of_ble_eq_true rfl), (Nat.le_of_ble_eq_true rfl)⟩ ⟨(Nat.le_of_ble_eq_true rfl), (Nat.le_of_ble_eq_true rfl)⟩ 0 rfl rfl rfl rfl (Nat.le_of_ble_eq_true rfl) dX2_openShare_28 ?_
  refine kr_i2f C dX2_openShare_31 ?_
  refine kr_iload_n C 1 dX2_openShare_32 rfl rfl ?_
  refine kr_i2f C dX2_openShare_33 ?_
  obtain ⟨hb3, h⟩ := kif h
  refine kr_fdiv C dX2_openShare_34 (kn32_of hb3) ?_
  cases h
  exact kr_retX (kr_ret_f C (Nat.le_of_ble_eq_true rfl) (Nat.le_of_ble_eq_true rfl) dX2_openShare_35)
theorem flX2_owner_18 : Cond.fieldLink RX2 18 "FolderKeeper" "owners" "LFolderKeeper$Row;" ∈ wsX2_owner := by decide +kernel
theorem inX2_owner_X2 : ∀ w ∈ wsX20, w ∈ wsX2_owner := fun _ h => List.mem_cons_of_mem _ (List.mem_append_left _ (List.mem_append_left _ (List.mem_append_left _ (List.mem_append_right _ h))))
set_option maxHeartbeats 4000000 in
set_option maxRecDepth 100000 in
theorem c_X2_owner {l : Launch} {D : va_G} {cy : Nat → ClassId} {a : Nat → Nat} {Z : va_W} {S : kSt} {p1 : Int32} {r : (Int32 ⊕ String)} {sa : Nat → Nat} (hlt : l.stackTraces = false) (h : f_X2_owner S p1 = some r) : kX l yX2_owner wsX2_owner ({ frames := 7, cells := 1, slots := 6, locals := 103 } : Room) D cy sa (xw a cy S Z) [.ref (a 0), .int p1] (xw a cy S Z) (kOI r) 1 6 := by
  rw [f_X2_owner] at h
  refine kX.start (L := [(0, .ref (a 0)), (1, .int (p1))]) hlt rfl rfl rfl (Nat.le_of_ble_eq_true rfl) rfl (fun K A C CX CN => ?_)
  refine kr_aload_n C 0 dX2_owner_0 rfl rfl ?_
  refine kr_iload_n C 1 dX2_owner_1 rfl rfl ?_
  rcases kxb_some h with ⟨Ev1, hv1, h⟩ | ⟨v1, hv1, h⟩
  · cases h
    exact kr_xVex C CX CN (k := 1) (As := [.int p1]) (rest := []) (c_X2_requireFolder hlt hv1) gX2_owner_X2_requireFolder rfl rfl rfl (by decide +kernel) ⟨(Nat.le_of_ble_eq_true rfl), (Nat.le_of_ble_eq_true rfl)⟩ ⟨(Nat.le_of_ble_eq_true rfl), (Nat.le_of_ble_eq_true rfl)⟩ 0 rfl rfl rfl rfl (Nat.le_of_ble_eq_true rfl) dX2_owner_2 (Nat.le_of_ble_eq_true rfl) (Nat.le_of_ble_eq_true rfl)
  refine kr_xV0 C CX (k := 1) (As := [.int p1]) (rest := []) (c_X2_requireFolder hlt hv1) gX2_owner_X2_requireFolder rfl rfl rfl (by decide +kernel) ⟨(Nat.le_of_ble_eq_true rfl), (Nat.le_of_ble_eq_true rfl)⟩ ⟨(Nat.le_of_ble_eq_true rfl), (Nat.le_of_ble_eq_true rfl)⟩ 0 rfl rfl rfl rfl (Nat.le_of_ble_eq_true rfl) dX2_owner_2 ?_
  refine kr_aload_n C 0 dX2_owner_5 rfl rfl ?_
  refine kr_get C inX2_owner_X2 0 rfl rfl 9 (by decide) flX2_owner_18 rfl rfl dX2_owner_6 ?_
  refine kr_iload_n C 1 dX2_owner_9 rfl rfl ?_
  obtain ⟨v2, hv2, h⟩ := kob h
  refine kr_callV1 C (k := 1) (As := [.int p1]) (rest := []) (c_X1_at (q0 := 2) (q1 := 10) rfl rfl hv2) gX2_owner_X1_at rfl rfl rfl (by decide +kernel) ⟨(Nat.le_of_ble_eq_true rfl), (Nat.le_of_ble_eq_true rfl)⟩ ⟨(Nat.le_of_ble_eq_true rfl), (Nat.le_of_ble_eq_true rfl)⟩ 2 rfl rfl rfl rfl (Nat.le_of_ble_eq_true rfl) dX2_owner_10 ?_
  cases h
  exact kr_retX (kr_ret_i C (Nat.le_of_ble_eq_true rfl) (Nat.le_of_ble_eq_true rfl) dX2_owner_13)
theorem atX2_pass_69 : ∀ w ∈ (vx_atS RX2 69 "java/lang/IllegalArgumentException" ["java/lang/RuntimeException", "java/lang/Exception"]).filter goodWord, w ∈ wsX2_pass := fun _ h => List.mem_cons_of_mem _ (List.mem_append_left _ (List.mem_append_right _ h))
theorem ckX2_pass_65 : Cond.classLink RX2 65 "java/lang/IllegalArgumentException" ∈ wsX2_pass := by decide +kernel
theorem ciX2_pass_65 : Cond.initialized "java/lang/IllegalArgumentException" ∈ wsX2_pass := by decide +kernel
theorem flX2_pass_185 : Cond.fieldLink RX2 185 "FolderKeeper" "today" "I" ∈ wsX2_pass := by decide +kernel
theorem inX2_pass_X2 : ∀ w ∈ wsX20, w ∈ wsX2_pass := fun _ h => List.mem_cons_of_mem _ (List.mem_append_left _ (List.mem_append_left _ (List.mem_append_left _ (List.mem_append_right _ h))))
theorem flX2_pass_30 : Cond.fieldLink RX2 30 "FolderKeeper" "accountEnds" "LFolderKeeper$Grid;" ∈ wsX2_pass := by decide +kernel
theorem flX2_pass_34 : Cond.fieldLink RX2 34 "FolderKeeper" "groupEnds" "LFolderKeeper$Grid;" ∈ wsX2_pass := by decide +kernel
set_option maxHeartbeats 4000000 in
set_option maxRecDepth 100000 in
theorem c_X2_pass {l : Launch} {D : va_G} {cy : Nat → ClassId} {a : Nat → Nat} {Z : va_W} {S : kSt} {p1 : Int32} {r : ((Int32 ⊕ String) × kSt)} {sa : Nat → Nat} (hlt : l.stackTraces = false) (h : f_X2_pass S p1 = some r) : kX l yX2_pass wsX2_pass ({ frames := 6, cells := 1, slots := 6, locals := 82 } : Room) D cy sa (xw a cy S Z) [.ref (a 0), .int p1] (xw a cy r.2 Z) (kOI r.1) 1 6 := by
  rw [f_X2_pass] at h
  refine kX.start (L := [(0, .ref (a 0)), (1, .int (p1))]) hlt rfl rfl rfl (Nat.le_of_ble_eq_true rfl) rfl (fun K A C CX CN => ?_)
  refine kr_iload_n C 1 dX2_pass_0 rfl rfl ?_
  refine kr_iconst C (v := 1) dX2_pass_1 (by decide) ?_
  refine kr_icmp_lt C 23 dX2_pass_2 (by decide) (fun hc => ?_) (fun hc => ?_)
  · have h := (if_pos hc).symm.trans h
    cases h
    exact kr_throw C CX CN (text := "the number of days is out of range") (by decide) ckX2_pass_65 ciX2_pass_65 (by decide) atX2_pass_69 ax_69 ay_69_65 (by decide +kernel) dX2_pass_23 dX2_pass_26 dX2_pass_27 dX2_pass_29 dX2_pass_32 (Nat.le_of_ble_eq_true rfl) (Nat.le_of_ble_eq_true rfl) (Nat.le_of_ble_eq_true rfl) (Nat.le_of_ble_eq_true rfl) (Nat.le_of_ble_eq_true rfl) (Nat.le_of_ble_eq_true rfl)
  have h := (if_neg hc).symm.trans h
  refine kr_iload_n C 1 dX2_pass_5 rfl rfl ?_
  refine kr_bipush C (v := 99) dX2_pass_6 (by decide) ?_
  refine kr_icmp_gt C 23 dX2_pass_8 (by decide) (fun hc => ?_) (fun hc => ?_)
  · have h := (if_pos hc).symm.trans h
    cases h
    exact kr_throw C CX CN (text := "the number of days is out of range") (by decide) ckX2_pass_65 ciX2_pass_65 (by decide) atX2_pass_69 ax_69 ay_69_65 (by decide +kernel) dX2_pass_23 dX2_pass_26 dX2_pass_27 dX2_pass_29 dX2_pass_32 (Nat.le_of_ble_eq_true rfl) (Nat.le_of_ble_eq_true rfl) (Nat.le_of_ble_eq_true rfl) (Nat.le_of_ble_eq_true rfl) (Nat.le_of_ble_eq_true rfl) (Nat.le_of_ble_eq_true rfl)
  have h := (if_neg hc).symm.trans h
  refine kr_aload_n C 0 dX2_pass_11 rfl rfl ?_
  refine kr_get C inX2_pass_X2 0 rfl rfl 4 (by decide) flX2_pass_185 rfl rfl dX2_pass_12 ?_
  refine kr_iload_n C 1 dX2_pass_15 rfl rfl ?_
  refine kr_iadd C dX2_pass_16 ?_
  refine kr_sipush C (v := 999) dX2_pass_17 (by decide) ?_
  refine kr_icmp_le C 33 dX2_pass_20 (by decide) (fun hc => ?_) (fun hc => ?_)
  · have h := (if_pos hc).symm.trans h
    refine kr_aload_n C 0 dX2_pass_33 rfl rfl ?_
    refine kr_dup C dX2_pass_34 rfl ?_
    refine kr_get C inX2_pass_X2 0 rfl rfl 4 (by decide) flX2_pass_185 rfl rfl dX2_pass_35 ?_
    refine kr_iload_n C 1 dX2_pass_38 rfl rfl ?_
    refine kr_iadd C dX2_pass_39 ?_
    refine kr_put C inX2_pass_X2 tyX2_ok nmX2 0 rfl rfl 4 (by decide) flX2_pass_185 rfl rfl rfl rfl rfl (by show 4 < 16; decide) (xp4 _ _ _ _ _) dX2_pass_40 ?_
    refine kr_aload_n C 0 dX2_pass_43 rfl rfl ?_
    refine kr_get C inX2_pass_X2 0 rfl rfl 12 (by decide) flX2_pass_30 rfl rfl dX2_pass_44 ?_
    refine kr_aload_n C 0 dX2_pass_47 rfl rfl ?_
    refine kr_get C inX2_pass_X2 0 rfl rfl 4 (by decide) flX2_pass_185 rfl rfl dX2_pass_48 ?_
    obtain ⟨v1, hv1, h⟩ := kob h
    refine kr_callV1 C (k := 1) (As := [.int ((va_up S.1 4 ((S.1 4) + p1), S.2).1 4)]) (rest := []) (c_X0_clearUpTo (Wf := fun f => xw a cy ((va_up S.1 4 ((S.1 4) + p1), S.2).1, va_up (va_up S.1 4 ((S.1 4) + p1), S.2).2 12 f) Z) (q0 := 5) (q1 := 13) (fun _ => rfl) (fun _ => rfl) (fun _ _ => rfl) hv1) gX2_pass_X0_clearUpTo rfl rfl rfl (by decide +kernel) ⟨(Nat.le_of_ble_eq_true rfl), (Nat.le_of_ble_eq_true rfl)⟩ ⟨(Nat.le_of_ble_eq_true rfl), (Nat.le_of_ble_eq_true rfl)⟩ 5 rfl rfl rfl rfl (Nat.le_of_ble_eq_true rfl) dX2_pass_51 ?_
    refine kr_aload_n C 0 dX2_pass_54 rfl rfl ?_
    refine kr_get C inX2_pass_X2 0 rfl rfl 13 (by decide) flX2_pass_34 rfl rfl dX2_pass_55 ?_
    refine kr_aload_n C 0 dX2_pass_58 rfl rfl ?_
    refine kr_get C inX2_pass_X2 0 rfl rfl 4 (by decide) flX2_pass_185 rfl rfl dX2_pass_59 ?_
    obtain ⟨v2, hv2, h⟩ := kob h
    refine kr_callV1 C (k := 1) (As := [.int (((va_up S.1 4 ((S.1 4) + p1), S.2).1, va_up (va_up S.1 4 ((S.1 4) + p1), S.2).2 12 v1.2).1 4)]) (rest := [.int (v1.1)]) (c_X0_clearUpTo (Wf := fun f => xw a cy (((va_up S.1 4 ((S.1 4) + p1), S.2).1, va_up (va_up S.1 4 ((S.1 4) + p1), S.2).2 12 v1.2).1, va_up ((va_up S.1 4 ((S.1 4) + p1), S.2).1, va_up (va_up S.1 4 ((S.1 4) + p1), S.2).2 12 v1.2).2 13 f) Z) (q0 := 6) (q1 := 14) (fun _ => rfl) (fun _ => rfl) (fun _ _ => rfl) hv2) gX2_pass_X0_clearUpTo rfl rfl rfl (by decide +kernel) ⟨(Nat.le_of_ble_eq_true rfl), (Nat.le_of_ble_eq_true rfl)⟩ ⟨(Nat.le_of_ble_eq_true rfl), (Nat.le_of_ble_eq_true rfl)⟩ 6 rfl rfl rfl rfl (Nat.le_of_ble_eq_true rfl) dX2_pass_62 ?_
    refine kr_iadd C dX2_pass_65 ?_
    cases h
    exact kr_retX (kr_ret_i C (Nat.le_of_ble_eq_true rfl) (Nat.le_of_ble_eq_true rfl) dX2_pass_66)
  have h := (if_neg hc).symm.trans h
  cases h
  exact kr_throw C CX CN (text := "the number of days is out of range") (by decide) ckX2_pass_65 ciX2_pass_65 (by decide) atX2_pass_69 ax_69 ay_69_65 (by decide +kernel) dX2_pass_23 dX2_pass_26 dX2_pass_27 dX2_pass_29 dX2_pass_32 (Nat.le_of_ble_eq_true rfl) (Nat.le_of_ble_eq_true rfl) (Nat.le_of_ble_eq_true rfl) (Nat.le_of_ble_eq_true rfl) (Nat.le_of_ble_eq_true rfl) (Nat.le_of_ble_eq_true rfl)
theorem atX2_requireRoom_208 : ∀ w ∈ (vx_atS RX2 208 "java/lang/IndexOutOfBoundsException" ["java/lang/RuntimeException", "java/lang/Exception"]).filter goodWord, w ∈ wsX2_requireRoom := fun _ h => List.mem_cons_of_mem _ (List.mem_append_right _ h)
theorem ckX2_requireRoom_204 : Cond.classLink RX2 204 "java/lang/IndexOutOfBoundsException" ∈ wsX2_requireRoom := by decide +kernel
theorem ciX2_requireRoom_204 : Cond.initialized "java/lang/IndexOutOfBoundsException" ∈ wsX2_requireRoom := by decide +kernel
theorem flX2_requireRoom_153 : Cond.fieldLink RX2 153 "FolderKeeper" "rooms" "I" ∈ wsX2_requireRoom := by decide +kernel
theorem inX2_requireRoom_X2 : ∀ w ∈ wsX20, w ∈ wsX2_requireRoom := fun _ h => List.mem_cons_of_mem _ (List.mem_append_left _ (List.mem_append_right _ h))
set_option maxHeartbeats 4000000 in
set_option maxRecDepth 100000 in
theorem c_X2_requireRoom {l : Launch} {D : va_G} {cy : Nat → ClassId} {a : Nat → Nat} {Z : va_W} {S : kSt} {p1 : Int32} {r : (Unit ⊕ String)} {sa : Nat → Nat} (hlt : l.stackTraces = false) (h : f_X2_requireRoom S p1 = some r) : kX l yX2_requireRoom wsX2_requireRoom ({ frames := 6, cells := 1, slots := 6, locals := 82 } : Room) D cy sa (xw a cy S Z) [.ref (a 0), .int p1] (xw a cy S Z) (kOV r) 1 6 := by
  rw [f_X2_requireRoom] at h
  refine kX.start (L := [(0, .ref (a 0)), (1, .int (p1))]) hlt rfl rfl rfl (Nat.le_of_ble_eq_true rfl) rfl (fun K A C CX CN => ?_)
  refine kr_iload_n C 1 dX2_requireRoom_0 rfl rfl ?_
  refine kr_if_lt C 12 dX2_requireRoom_1 (by decide) (fun hc => ?_) (fun hc => ?_)
  · have h := (if_pos hc).symm.trans h
    cases h
    exact kr_throw C CX CN (text := "there is no such room") (by decide) ckX2_requireRoom_204 ciX2_requireRoom_204 (by decide) atX2_requireRoom_208 ax_208 ay_208_204 (by decide +kernel) dX2_requireRoom_12 dX2_requireRoom_15 dX2_requireRoom_16 dX2_requireRoom_18 dX2_requireRoom_21 (Nat.le_of_ble_eq_true rfl) (Nat.le_of_ble_eq_true rfl) (Nat.le_of_ble_eq_true rfl) (Nat.le_of_ble_eq_true rfl) (Nat.le_of_ble_eq_true rfl) (Nat.le_of_ble_eq_true rfl)
  have h := (if_neg hc).symm.trans h
  refine kr_iload_n C 1 dX2_requireRoom_4 rfl rfl ?_
  refine kr_aload_n C 0 dX2_requireRoom_5 rfl rfl ?_
  refine kr_get C inX2_requireRoom_X2 0 rfl rfl 3 (by decide) flX2_requireRoom_153 rfl rfl dX2_requireRoom_6 ?_
  refine kr_icmp_lt C 22 dX2_requireRoom_9 (by decide) (fun hc => ?_) (fun hc => ?_)
  · have h := (if_pos hc).symm.trans h
    cases h
    exact kr_retX (kr_ret_v C (Nat.le_of_ble_eq_true rfl) (Nat.le_of_ble_eq_true rfl) dX2_requireRoom_22)
  have h := (if_neg hc).symm.trans h
  cases h
  exact kr_throw C CX CN (text := "there is no such room") (by decide) ckX2_requireRoom_204 ciX2_requireRoom_204 (by decide) atX2_requireRoom_208 ax_208 ay_208_204 (by decide +kernel) dX2_requireRoom_12 dX2_requireRoom_15 dX2_requireRoom_16 dX2_requireRoom_18 dX2_requireRoom_21 (Nat.le_of_ble_eq_true rfl) (Nat.le_of_ble_eq_true rfl) (Nat.le_of_ble_eq_true rfl) (Nat.le_of_ble_eq_true rfl) (Nat.le_of_ble_eq_true rfl) (Nat.le_of_ble_eq_true rfl)
theorem flX2_readers_24 : Cond.fieldLink RX2 24 "FolderKeeper" "roomGroups" "LFolderKeeper$Row;" ∈ wsX2_readers := by decide +kernel
theorem inX2_readers_X2 : ∀ w ∈ wsX20, w ∈ wsX2_readers := fun _ h => List.mem_cons_of_mem _ (List.mem_append_left _ (List.mem_append_left _ (List.mem_append_left _ (List.mem_append_left _ (List.mem_append_right _ h)))))
set_option maxHeartbeats 4000000 in
set_option maxRecDepth 100000 in
theorem c_X2_readers {l : Launch} {D : va_G} {cy : Nat → ClassId} {a : Nat → Nat} {Z : va_W} {S : kSt} {p1 : Int32} {r : (Int32 ⊕ String)} {sa : Nat → Nat} (hlt : l.stackTraces = false) (h : f_X2_readers S p1 = some r) : kX l yX2_readers wsX2_readers ({ frames := 7, cells := 1, slots := 6, locals := 139 } : Room) D cy sa (xw a cy S Z) [.ref (a 0), .int p1] (xw a cy S Z) (kOI r) 1 6 := by
  rw [f_X2_readers] at h
  refine kX.start (L := [(0, .ref (a 0)), (1, .int (p1))]) hlt rfl rfl rfl (Nat.le_of_ble_eq_true rfl) rfl (fun K A C CX CN => ?_)
  refine kr_aload_n C 0 dX2_readers_0 rfl rfl ?_
  refine kr_iload_n C 1 dX2_readers_1 rfl rfl ?_
  rcases kxb_some h with ⟨Ev1, hv1, h⟩ | ⟨v1, hv1, h⟩
  · cases h
    exact kr_xVex C CX CN (k := 1) (As := [.int p1]) (rest := []) (c_X2_requireRoom hlt hv1) gX2_readers_X2_requireRoom rfl rfl rfl (by decide +kernel) ⟨(Nat.le_of_ble_eq_true rfl), (Nat.le_of_ble_eq_true rfl)⟩ ⟨(Nat.le_of_ble_eq_true rfl), (Nat.le_of_ble_eq_true rfl)⟩ 0 rfl rfl rfl rfl (Nat.le_of_ble_eq_true rfl) dX2_readers_2 (Nat.le_of_ble_eq_true rfl) (Nat.le_of_ble_eq_true rfl)
  refine kr_xV0 C CX (k := 1) (As := [.int p1]) (rest := []) (c_X2_requireRoom hlt hv1) gX2_readers_X2_requireRoom rfl rfl rfl (by decide +kernel) ⟨(Nat.le_of_ble_eq_true rfl), (Nat.le_of_ble_eq_true rfl)⟩ ⟨(Nat.le_of_ble_eq_true rfl), (Nat.le_of_ble_eq_true rfl)⟩ 0 rfl rfl rfl rfl (Nat.le_of_ble_eq_true rfl) dX2_readers_2 ?_
  refine kr_aload_n C 0 dX2_readers_5 rfl rfl ?_
  refine kr_aload_n C 0 dX2_readers_6 rfl rfl ?_
  refine kr_get C inX2_readers_X2 0 rfl rfl 11 (by decide) flX2_readers_24 rfl rfl dX2_readers_7 ?_
  refine kr_iload_n C 1 dX2_readers_10 rfl rfl ?_
  obtain ⟨v2, hv2, h⟩ := kob h
  refine kr_callV1 C (k := 1) (As := [.int p1]) (rest := [.ref (a 0)]) (c_X1_at (q0 := 4) (q1 := 12) rfl rfl hv2) gX2_readers_X1_at rfl rfl rfl (by decide +kernel) ⟨(Nat.le_of_ble_eq_true rfl), (Nat.le_of_ble_eq_true rfl)⟩ ⟨(Nat.le_of_ble_eq_true rfl), (Nat.le_of_ble_eq_true rfl)⟩ 4 rfl rfl rfl rfl (Nat.le_of_ble_eq_true rfl) dX2_readers_11 ?_
  obtain ⟨v3, hv3, h⟩ := kob h
  refine kr_callV1 C (k := 1) (As := [.int v2]) (rest := []) (c_X2_activeIn hv3) gX2_readers_X2_activeIn rfl rfl rfl (by decide +kernel) ⟨(Nat.le_of_ble_eq_true rfl), (Nat.le_of_ble_eq_true rfl)⟩ ⟨(Nat.le_of_ble_eq_true rfl), (Nat.le_of_ble_eq_true rfl)⟩ 0 rfl rfl rfl rfl (Nat.le_of_ble_eq_true rfl) dX2_readers_14 ?_
  refine kr_istore_n C [1, 2, 0] dX2_readers_17 rfl (by decide) rfl ?_
  refine kr_iload_n C 2 dX2_readers_18 rfl rfl ?_
  refine kr_if_ne C 26 dX2_readers_19 (by decide) (fun hc => ?_) (fun hc => ?_)
  · have h := (if_pos hc).symm.trans h
    refine kr_iconst C (v := 1) dX2_readers_22 (by decide) ?_
    refine kr_goto C 27 dX2_readers_23 (by decide) ?_
    cases h
    exact kr_retX (kr_ret_i C (Nat.le_of_ble_eq_true rfl) (Nat.le_of_ble_eq_true rfl) dX2_readers_27)
  have h := (if_neg hc).symm.trans h
  refine kr_iload_n C 2 dX2_readers_26 rfl rfl ?_
  cases h
  exact kr_retX (kr_ret_i C (Nat.le_of_ble_eq_true rfl) (Nat.le_of_ble_eq_true rfl) dX2_readers_27)
theorem flX2_reads_24 : Cond.fieldLink RX2 24 "FolderKeeper" "roomGroups" "LFolderKeeper$Row;" ∈ wsX2_reads := by decide +kernel
theorem inX2_reads_X2 : ∀ w ∈ wsX20, w ∈ wsX2_reads := fun _ h => List.mem_cons_of_mem _ (List.mem_append_left _ (List.mem_append_left _ (List.mem_append_left _ (List.mem_append_left _ (List.mem_append_right _ h)))))
set_option maxHeartbeats 4000000 in
set_option maxRecDepth 100000 in
theorem c_X2_reads {l : Launch} {D : va_G} {cy : Nat → ClassId} {a : Nat → Nat} {Z : va_W} {S : kSt} {p1 : Int32} {p2 : Int32} {r : (Bool ⊕ String)} {sa : Nat → Nat} (hlt : l.stackTraces = false) (h : f_X2_reads S p1 p2 = some r) : kX l yX2_reads wsX2_reads ({ frames := 7, cells := 2, slots := 12, locals := 139 } : Room) D cy sa (xw a cy S Z) [.ref (a 0), .int p1, .int p2] (xw a cy S Z) (kOZ r) 2 12 := by
  rw [f_X2_reads] at h
  refine kX.start (L := [(0, .ref (a 0)), (1, .int (p1)), (2, .int (p2))]) hlt rfl rfl rfl (Nat.le_of_ble_eq_true rfl) rfl (fun K A C CX CN => ?_)
  refine kr_aload_n C 0 dX2_reads_0 rfl rfl ?_
  refine kr_iload_n C 1 dX2_reads_1 rfl rfl ?_
  rcases kxb_some h with ⟨Ev1, hv1, h⟩ | ⟨v1, hv1, h⟩
  · cases h
    exact kr_xVex C CX CN (k := 1) (As := [.int p1]) (rest := []) (c_X2_requireAccount hlt hv1) gX2_reads_X2_requireAccount rfl rfl rfl (by decide +kernel) ⟨(Nat.le_of_ble_eq_true rfl), (Nat.le_of_ble_eq_true rfl)⟩ ⟨(Nat.le_of_ble_eq_true rfl), (Nat.le_of_ble_eq_true rfl)⟩ 0 rfl rfl rfl rfl (Nat.le_of_ble_eq_true rfl) dX2_reads_2 (Nat.le_of_ble_eq_true rfl) (Nat.le_of_ble_eq_true rfl)
  refine kr_xV0 C CX (k := 1) (As := [.int p1]) (rest := []) (c_X2_requireAccount hlt hv1) gX2_reads_X2_requireAccount rfl rfl rfl (by decide +kernel) ⟨(Nat.le_of_ble_eq_true rfl), (Nat.le_of_ble_eq_true rfl)⟩ ⟨(Nat.le_of_ble_eq_true rfl), (Nat.le_of_ble_eq_true rfl)⟩ 0 rfl rfl rfl rfl (Nat.le_of_ble_eq_true rfl) dX2_reads_2 ?_
  refine kr_aload_n C 0 dX2_reads_5 rfl rfl ?_
  refine kr_iload_n C 2 dX2_reads_6 rfl rfl ?_
  rcases kxb_some h with ⟨Ev2, hv2, h⟩ | ⟨v2, hv2, h⟩
  · cases h
    exact kr_xVex C CX CN (k := 1) (As := [.int p2]) (rest := []) (c_X2_requireRoom hlt hv2) gX2_reads_X2_requireRoom rfl rfl rfl (by decide +kernel) ⟨(Nat.le_of_ble_eq_true rfl), (Nat.le_of_ble_eq_true rfl)⟩ ⟨(Nat.le_of_ble_eq_true rfl), (Nat.le_of_ble_eq_true rfl)⟩ 0 rfl rfl rfl rfl (Nat.le_of_ble_eq_true rfl) dX2_reads_7 (Nat.le_of_ble_eq_true rfl) (Nat.le_of_ble_eq_true rfl)
  refine kr_xV0 C CX (k := 1) (As := [.int p2]) (rest := []) (c_X2_requireRoom hlt hv2) gX2_reads_X2_requireRoom rfl rfl rfl (by decide +kernel) ⟨(Nat.le_of_ble_eq_true rfl), (Nat.le_of_ble_eq_true rfl)⟩ ⟨(Nat.le_of_ble_eq_true rfl), (Nat.le_of_ble_eq_true rfl)⟩ 0 rfl rfl rfl rfl (Nat.le_of_ble_eq_true rfl) dX2_reads_7 ?_
  refine kr_aload_n C 0 dX2_reads_10 rfl rfl ?_
  refine kr_get C inX2_reads_X2 0 rfl rfl 11 (by decide) flX2_reads_24 rfl rfl dX2_reads_11 ?_
  refine kr_iload_n C 2 dX2_reads_14 rfl rfl ?_
  obtain ⟨v3, hv3, h⟩ := kob h
  refine kr_callV1 C (k := 1) (As := [.int p2]) (rest := []) (c_X1_at (q0 := 4) (q1 := 12) rfl rfl hv3) gX2_reads_X1_at rfl rfl rfl (by decide +kernel) ⟨(Nat.le_of_ble_eq_true rfl), (Nat.le_of_ble_eq_true rfl)⟩ ⟨(Nat.le_of_ble_eq_true rfl), (Nat.le_of_ble_eq_true rfl)⟩ 4 rfl rfl rfl rfl (Nat.le_of_ble_eq_true rfl) dX2_reads_15 ?_
  refine kr_istore_n C [1, 2, 3, 0] dX2_reads_18 rfl (by decide) rfl ?_
  refine kr_aload_n C 0 dX2_reads_19 rfl rfl ?_
  refine kr_iload_n C 1 dX2_reads_20 rfl rfl ?_
  obtain ⟨v4, hv4, h⟩ := kob h
  refine kr_callV1 C (k := 1) (As := [.int p1]) (rest := []) (c_X2_isActive hv4) gX2_reads_X2_isActive rfl rfl rfl (by decide +kernel) ⟨(Nat.le_of_ble_eq_true rfl), (Nat.le_of_ble_eq_true rfl)⟩ ⟨(Nat.le_of_ble_eq_true rfl), (Nat.le_of_ble_eq_true rfl)⟩ 0 rfl rfl rfl rfl (Nat.le_of_ble_eq_true rfl) dX2_reads_21 ?_
  refine kr_if_eq C 41 dX2_reads_24 (by decide) (fun hc => ?_) (fun hc => ?_)
  · have h := (if_pos hc).symm.trans h
    refine kr_iload_n C 1 dX2_reads_41 rfl rfl ?_
    refine kr_if_ne C 57 dX2_reads_42 (by decide) (fun hc => ?_) (fun hc => ?_)
    · have h := (if_pos hc).symm.trans h
      refine kr_aload_n C 0 dX2_reads_45 rfl rfl ?_
      refine kr_iload_n C 3 dX2_reads_46 rfl rfl ?_
      obtain ⟨v5, hv5, h⟩ := kob h
      refine kr_callV1 C (k := 1) (As := [.int v3]) (rest := []) (c_X2_activeIn hv5) gX2_reads_X2_activeIn rfl rfl rfl (by decide +kernel) ⟨(Nat.le_of_ble_eq_true rfl), (Nat.le_of_ble_eq_true rfl)⟩ ⟨(Nat.le_of_ble_eq_true rfl), (Nat.le_of_ble_eq_true rfl)⟩ 0 rfl rfl rfl rfl (Nat.le_of_ble_eq_true rfl) dX2_reads_47 ?_
      refine kr_if_ne C 57 dX2_reads_50 (by decide) (fun hc => ?_) (fun hc => ?_)
      · have h := (if_pos hc).symm.trans h
        refine kr_iconst C (v := 1) dX2_reads_53 (by decide) ?_
        refine kr_goto C 58 dX2_reads_54 (by decide) ?_
        cases h
        exact kr_retX (kr_ret_z (v := b2i true) C (nar_b _) (Nat.le_of_ble_eq_true rfl) (Nat.le_of_ble_eq_true rfl) dX2_reads_58)
      have h := (if_neg hc).symm.trans h
      refine kr_iconst C (v := 0) dX2_reads_57 (by decide) ?_
      cases h
      exact kr_retX (kr_ret_z (v := b2i false) C (nar_b _) (Nat.le_of_ble_eq_true rfl) (Nat.le_of_ble_eq_true rfl) dX2_reads_58)
    have h := (if_neg hc).symm.trans h
    refine kr_iconst C (v := 0) dX2_reads_57 (by decide) ?_
    cases h
    exact kr_retX (kr_ret_z (v := b2i false) C (nar_b _) (Nat.le_of_ble_eq_true rfl) (Nat.le_of_ble_eq_true rfl) dX2_reads_58)
  have h := (if_neg hc).symm.trans h
  refine kr_aload_n C 0 dX2_reads_27 rfl rfl ?_
  refine kr_iload_n C 1 dX2_reads_28 rfl rfl ?_
  obtain ⟨v6, hv6, h⟩ := kob h
  refine kr_callV1 C (k := 1) (As := [.int p1]) (rest := []) (c_X2_groupsOf hv6) gX2_reads_X2_groupsOf rfl rfl rfl (by decide +kernel) ⟨(Nat.le_of_ble_eq_true rfl), (Nat.le_of_ble_eq_true rfl)⟩ ⟨(Nat.le_of_ble_eq_true rfl), (Nat.le_of_ble_eq_true rfl)⟩ 0 rfl rfl rfl rfl (Nat.le_of_ble_eq_true rfl) dX2_reads_29 ?_
  refine kr_iload_n C 3 dX2_reads_32 rfl rfl ?_
  obtain ⟨v7, hv7, h⟩ := kob h
  refine kr_callS1 C (k := 2) (As := [.int v6, .int v3]) (rest := []) (c_X2_contains hv7) gX2_reads_X2_contains rfl rfl rfl (by decide +kernel) ⟨(Nat.le_of_ble_eq_true rfl), (Nat.le_of_ble_eq_true rfl)⟩ ⟨(Nat.le_of_ble_eq_true rfl), (Nat.le_of_ble_eq_true rfl)⟩ rfl rfl (Nat.le_of_ble_eq_true rfl) dX2_reads_33 ?_
  refine kr_if_eq C 41 dX2_reads_36 (by decide) (fun hc => ?_) (fun hc => ?_)
  · have h := (if_pos hc).symm.trans h
    refine kr_iload_n C 1 dX2_reads_41 rfl rfl ?_
    refine kr_if_ne C 57 dX2_reads_42 (by decide) (fun hc => ?_) (fun hc => ?_)
    · have h := (if_pos hc).symm.trans h
      refine kr_aload_n C 0 dX2_reads_45 rfl rfl ?_
      refine kr_iload_n C 3 dX2_reads_46 rfl rfl ?_
      obtain ⟨v8, hv8, h⟩ := kob h
      refine kr_callV1 C (k := 1) (As := [.int v3]) (rest := []) (c_X2_activeIn hv8) gX2_reads_X2_activeIn rfl rfl rfl (by decide +kernel) ⟨(Nat.le_of_ble_eq_true rfl), (Nat.le_of_ble_eq_true rfl)⟩ ⟨(Nat.le_of_ble_eq_true rfl), (Nat.le_of_ble_eq_true rfl)⟩ 0 rfl rfl rfl rfl (Nat.le_of_ble_eq_true rfl) dX2_reads_47 ?_
      refine kr_if_ne C 57 dX2_reads_50 (by decide) (fun hc => ?_) (fun hc => ?_)
      · have h := (if_pos hc).symm.trans h
        refine kr_iconst C (v := 1) dX2_reads_53 (by decide) ?_
        refine kr_goto C 58 dX2_reads_54 (by decide) ?_
        cases h
        exact kr_retX (kr_ret_z (v := b2i true) C (nar_b _) (Nat.le_of_ble_eq_true rfl) (Nat.le_of_ble_eq_true rfl) dX2_reads_58)
      have h := (if_neg hc).symm.trans h
      refine kr_iconst C (v := 0) dX2_reads_57 (by decide) ?_
      cases h
      exact kr_retX (kr_ret_z (v := b2i false) C (nar_b _) (Nat.le_of_ble_eq_true rfl) (Nat.le_of_ble_eq_true rfl) dX2_reads_58)
    have h := (if_neg hc).symm.trans h
    refine kr_iconst C (v := 0) dX2_reads_57 (by decide) ?_
    cases h
    exact kr_retX (kr_ret_z (v := b2i false) C (nar_b _) (Nat.le_of_ble_eq_true rfl) (Nat.le_of_ble_eq_true rfl) dX2_reads_58)
  have h := (if_neg hc).symm.trans h
  refine kr_iconst C (v := 1) dX2_reads_39 (by decide) ?_
  cases h
  exact kr_retX (kr_ret_z (v := b2i true) C (nar_b _) (Nat.le_of_ble_eq_true rfl) (Nat.le_of_ble_eq_true rfl) dX2_reads_40)
theorem atX2_release_54 : ∀ w ∈ (vx_atS RX2 54 "java/lang/IllegalStateException" ["java/lang/RuntimeException", "java/lang/Exception"]).filter goodWord, w ∈ wsX2_release := fun _ h => List.mem_cons_of_mem _ (List.mem_append_left _ (List.mem_append_left _ (List.mem_append_right _ h)))
theorem ckX2_release_50 : Cond.classLink RX2 50 "java/lang/IllegalStateException" ∈ wsX2_release := by decide +kernel
theorem ciX2_release_50 : Cond.initialized "java/lang/IllegalStateException" ∈ wsX2_release := by decide +kernel
theorem flX2_release_172 : Cond.fieldLink RX2 172 "FolderKeeper" "heldFolders" "I" ∈ wsX2_release := by decide +kernel
theorem inX2_release_X2 : ∀ w ∈ wsX20, w ∈ wsX2_release := fun _ h => List.mem_cons_of_mem _ (List.mem_append_left _ (List.mem_append_left _ (List.mem_append_left _ (List.mem_append_left _ (List.mem_append_right _ h)))))
theorem flX2_release_18 : Cond.fieldLink RX2 18 "FolderKeeper" "owners" "LFolderKeeper$Row;" ∈ wsX2_release := by decide +kernel
set_option maxHeartbeats 4000000 in
set_option maxRecDepth 100000 in
theorem c_X2_release {l : Launch} {D : va_G} {cy : Nat → ClassId} {a : Nat → Nat} {Z : va_W} {S : kSt} {p1 : Int32} {r : ((Int32 ⊕ String) × kSt)} {sa : Nat → Nat} (hlt : l.stackTraces = false) (h : f_X2_release S p1 = some r) : kX l yX2_release wsX2_release ({ frames := 7, cells := 2, slots := 12, locals := 111 } : Room) D cy sa (xw a cy S Z) [.ref (a 0), .int p1] (xw a cy r.2 Z) (kOI r.1) 2 12 := by
  rw [f_X2_release] at h
  refine kX.start (L := [(0, .ref (a 0)), (1, .int (p1))]) hlt rfl rfl rfl (Nat.le_of_ble_eq_true rfl) rfl (fun K A C CX CN => ?_)
  refine kr_aload_n C 0 dX2_release_0 rfl rfl ?_
  refine kr_iload_n C 1 dX2_release_1 rfl rfl ?_
  rcases kxb_some h with ⟨Ev1, hv1, h⟩ | ⟨v1, hv1, h⟩
  · cases h
    exact kr_xVex C CX CN (k := 1) (As := [.int p1]) (rest := []) (c_X2_requireFolder hlt hv1) gX2_release_X2_requireFolder rfl rfl rfl (by decide +kernel) ⟨(Nat.le_of_ble_eq_true rfl), (Nat.le_of_ble_eq_true rfl)⟩ ⟨(Nat.le_of_ble_eq_true rfl), (Nat.le_of_ble_eq_true rfl)⟩ 0 rfl rfl rfl rfl (Nat.le_of_ble_eq_true rfl) dX2_release_2 (Nat.le_of_ble_eq_true rfl) (Nat.le_of_ble_eq_true rfl)
  refine kr_xV0 C CX (k := 1) (As := [.int p1]) (rest := []) (c_X2_requireFolder hlt hv1) gX2_release_X2_requireFolder rfl rfl rfl (by decide +kernel) ⟨(Nat.le_of_ble_eq_true rfl), (Nat.le_of_ble_eq_true rfl)⟩ ⟨(Nat.le_of_ble_eq_true rfl), (Nat.le_of_ble_eq_true rfl)⟩ 0 rfl rfl rfl rfl (Nat.le_of_ble_eq_true rfl) dX2_release_2 ?_
  refine kr_aload_n C 0 dX2_release_5 rfl rfl ?_
  refine kr_iload_n C 1 dX2_release_6 rfl rfl ?_
  obtain ⟨v2, hv2, h⟩ := kob h
  refine kr_callV1 C (k := 1) (As := [.int p1]) (rest := []) (c_X2_isHeld hv2) gX2_release_X2_isHeld rfl rfl rfl (by decide +kernel) ⟨(Nat.le_of_ble_eq_true rfl), (Nat.le_of_ble_eq_true rfl)⟩ ⟨(Nat.le_of_ble_eq_true rfl), (Nat.le_of_ble_eq_true rfl)⟩ 0 rfl rfl rfl rfl (Nat.le_of_ble_eq_true rfl) dX2_release_7 ?_
  refine kr_if_ne C 23 dX2_release_10 (by decide) (fun hc => ?_) (fun hc => ?_)
  · have h := (if_pos hc).symm.trans h
    cases h
    exact kr_throw C CX CN (text := "the folder is not held") (by decide) ckX2_release_50 ciX2_release_50 (by decide) atX2_release_54 ax_54 ay_54_50 (by decide +kernel) dX2_release_13 dX2_release_16 dX2_release_17 dX2_release_19 dX2_release_22 (Nat.le_of_ble_eq_true rfl) (Nat.le_of_ble_eq_true rfl) (Nat.le_of_ble_eq_true rfl) (Nat.le_of_ble_eq_true rfl) (Nat.le_of_ble_eq_true rfl) (Nat.le_of_ble_eq_true rfl)
  have h := (if_neg hc).symm.trans h
  refine kr_aload_n C 0 dX2_release_23 rfl rfl ?_
  refine kr_aload_n C 0 dX2_release_24 rfl rfl ?_
  refine kr_get C inX2_release_X2 0 rfl rfl 7 (by decide) flX2_release_172 rfl rfl dX2_release_25 ?_
  refine kr_iload_n C 1 dX2_release_28 rfl rfl ?_
  obtain ⟨v3, hv3, h⟩ := kob h
  refine kr_callS1 C (k := 2) (As := [.int (S.1 7), .int p1]) (rest := [.ref (a 0)]) (c_X2_without hv3) gX2_release_X2_without rfl rfl rfl (by decide +kernel) ⟨(Nat.le_of_ble_eq_true rfl), (Nat.le_of_ble_eq_true rfl)⟩ ⟨(Nat.le_of_ble_eq_true rfl), (Nat.le_of_ble_eq_true rfl)⟩ rfl rfl (Nat.le_of_ble_eq_true rfl) dX2_release_29 ?_
  refine kr_put C inX2_release_X2 tyX2_ok nmX2 0 rfl rfl 7 (by decide) flX2_release_172 rfl rfl rfl rfl rfl (by show 7 < 16; decide) (xp7 _ _ _ _ _) dX2_release_32 ?_
  refine kr_aload_n C 0 dX2_release_35 rfl rfl ?_
  refine kr_aload_n C 0 dX2_release_36 rfl rfl ?_
  refine kr_get C inX2_release_X2 0 rfl rfl 9 (by decide) flX2_release_18 rfl rfl dX2_release_37 ?_
  refine kr_iload_n C 1 dX2_release_40 rfl rfl ?_
  obtain ⟨v4, hv4, h⟩ := kob h
  refine kr_callV1 C (k := 1) (As := [.int p1]) (rest := [.ref (a 0)]) (c_X1_at (q0 := 2) (q1 := 10) rfl rfl hv4) gX2_release_X1_at rfl rfl rfl (by decide +kernel) ⟨(Nat.le_of_ble_eq_true rfl), (Nat.le_of_ble_eq_true rfl)⟩ ⟨(Nat.le_of_ble_eq_true rfl), (Nat.le_of_ble_eq_true rfl)⟩ 2 rfl rfl rfl rfl (Nat.le_of_ble_eq_true rfl) dX2_release_41 ?_
  obtain ⟨v5, hv5, h⟩ := kob h
  refine kr_callV1 C (k := 1) (As := [.int v4]) (rest := []) (c_X2_isActive hv5) gX2_release_X2_isActive rfl rfl rfl (by decide +kernel) ⟨(Nat.le_of_ble_eq_true rfl), (Nat.le_of_ble_eq_true rfl)⟩ ⟨(Nat.le_of_ble_eq_true rfl), (Nat.le_of_ble_eq_true rfl)⟩ 0 rfl rfl rfl rfl (Nat.le_of_ble_eq_true rfl) dX2_release_44 ?_
  refine kr_if_ne C 63 dX2_release_47 (by decide) (fun hc => ?_) (fun hc => ?_)
  · have h := (if_pos hc).symm.trans h
    refine kr_aload_n C 0 dX2_release_50 rfl rfl ?_
    refine kr_get C inX2_release_X2 0 rfl rfl 9 (by decide) flX2_release_18 rfl rfl dX2_release_51 ?_
    refine kr_iload_n C 1 dX2_release_54 rfl rfl ?_
    refine kr_aload_n C 0 dX2_release_55 rfl rfl ?_
    refine kr_iload_n C 1 dX2_release_56 rfl rfl ?_
    obtain ⟨v6, hv6, h⟩ := kob h
    refine kr_callV1 C (k := 1) (As := [.int p1]) (rest := [.int (p1), .ref (a 9)]) (c_X2_keeperAfterLeaving hv6) gX2_release_X2_keeperAfterLeaving rfl rfl rfl (by decide +kernel) ⟨(Nat.le_of_ble_eq_true rfl), (Nat.le_of_ble_eq_true rfl)⟩ ⟨(Nat.le_of_ble_eq_true rfl), (Nat.le_of_ble_eq_true rfl)⟩ 0 rfl rfl rfl rfl (Nat.le_of_ble_eq_true rfl) dX2_release_57 ?_
    obtain ⟨v7, hv7, h⟩ := kob h
    refine kr_callV0 C (k := 2) (As := [.int p1, .int v6]) (rest := []) (c_X1_put (Wf := fun f => xw a cy ((va_up S.1 7 v3, S.2).1, va_up (va_up S.1 7 v3, S.2).2 9 f) Z) (q0 := 2) (q1 := 10) (fun _ => rfl) (fun _ => rfl) (fun _ _ => rfl) hv7) gX2_release_X1_put rfl rfl rfl (by decide +kernel) ⟨(Nat.le_of_ble_eq_true rfl), (Nat.le_of_ble_eq_true rfl)⟩ ⟨(Nat.le_of_ble_eq_true rfl), (Nat.le_of_ble_eq_true rfl)⟩ 2 rfl rfl rfl rfl (Nat.le_of_ble_eq_true rfl) dX2_release_60 ?_
    refine kr_aload_n C 0 dX2_release_63 rfl rfl ?_
    refine kr_get C inX2_release_X2 0 rfl rfl 9 (by decide) flX2_release_18 rfl rfl dX2_release_64 ?_
    refine kr_iload_n C 1 dX2_release_67 rfl rfl ?_
    obtain ⟨v8, hv8, h⟩ := kob h
    refine kr_callV1 C (k := 1) (As := [.int p1]) (rest := []) (c_X1_at (q0 := 2) (q1 := 10) rfl rfl hv8) gX2_release_X1_at rfl rfl rfl (by decide +kernel) ⟨(Nat.le_of_ble_eq_true rfl), (Nat.le_of_ble_eq_true rfl)⟩ ⟨(Nat.le_of_ble_eq_true rfl), (Nat.le_of_ble_eq_true rfl)⟩ 2 rfl rfl rfl rfl (Nat.le_of_ble_eq_true rfl) dX2_release_68 ?_
    cases h
    exact kr_retX (kr_ret_i C (Nat.le_of_ble_eq_true rfl) (Nat.le_of_ble_eq_true rfl) dX2_release_71)
  have h := (if_neg hc).symm.trans h
  refine kr_aload_n C 0 dX2_release_63 rfl rfl ?_
  refine kr_get C inX2_release_X2 0 rfl rfl 9 (by decide) flX2_release_18 rfl rfl dX2_release_64 ?_
  refine kr_iload_n C 1 dX2_release_67 rfl rfl ?_
  obtain ⟨v9, hv9, h⟩ := kob h
  refine kr_callV1 C (k := 1) (As := [.int p1]) (rest := []) (c_X1_at (q0 := 2) (q1 := 10) rfl rfl hv9) gX2_release_X1_at rfl rfl rfl (by decide +kernel) ⟨(Nat.le_of_ble_eq_true rfl), (Nat.le_of_ble_eq_true rfl)⟩ ⟨(Nat.le_of_ble_eq_true rfl), (Nat.le_of_ble_eq_true rfl)⟩ 2 rfl rfl rfl rfl (Nat.le_of_ble_eq_true rfl) dX2_release_68 ?_
  cases h
  exact kr_retX (kr_ret_i C (Nat.le_of_ble_eq_true rfl) (Nat.le_of_ble_eq_true rfl) dX2_release_71)
set_option maxHeartbeats 4000000 in
set_option maxRecDepth 100000 in
theorem c_X2_right {l : Launch} {D : va_G} {cy : Nat → ClassId} {a : Nat → Nat} {Z : va_W} {S : kSt} {p1 : Int32} {p2 : Int32} {r : (Int32 ⊕ String)} {sa : Nat → Nat} (hlt : l.stackTraces = false) (h : f_X2_right S p1 p2 = some r) : kX l yX2_right wsX2_right ({ frames := 7, cells := 2, slots := 12, locals := 116 } : Room) D cy sa (xw a cy S Z) [.ref (a 0), .int p1, .int p2] (xw a cy S Z) (kOI r) 2 12 := by
  rw [f_X2_right] at h
  refine kX.start (L := [(0, .ref (a 0)), (1, .int (p1)), (2, .int (p2))]) hlt rfl rfl rfl (Nat.le_of_ble_eq_true rfl) rfl (fun K A C CX CN => ?_)
  refine kr_aload_n C 0 dX2_right_0 rfl rfl ?_
  refine kr_iload_n C 1 dX2_right_1 rfl rfl ?_
  rcases kxb_some h with ⟨Ev1, hv1, h⟩ | ⟨v1, hv1, h⟩
  · cases h
    exact kr_xVex C CX CN (k := 1) (As := [.int p1]) (rest := []) (c_X2_requireAccount hlt hv1) gX2_right_X2_requireAccount rfl rfl rfl (by decide +kernel) ⟨(Nat.le_of_ble_eq_true rfl), (Nat.le_of_ble_eq_true rfl)⟩ ⟨(Nat.le_of_ble_eq_true rfl), (Nat.le_of_ble_eq_true rfl)⟩ 0 rfl rfl rfl rfl (Nat.le_of_ble_eq_true rfl) dX2_right_2 (Nat.le_of_ble_eq_true rfl) (Nat.le_of_ble_eq_true rfl)
  refine kr_xV0 C CX (k := 1) (As := [.int p1]) (rest := []) (c_X2_requireAccount hlt hv1) gX2_right_X2_requireAccount rfl rfl rfl (by decide +kernel) ⟨(Nat.le_of_ble_eq_true rfl), (Nat.le_of_ble_eq_true rfl)⟩ ⟨(Nat.le_of_ble_eq_true rfl), (Nat.le_of_ble_eq_true rfl)⟩ 0 rfl rfl rfl rfl (Nat.le_of_ble_eq_true rfl) dX2_right_2 ?_
  refine kr_aload_n C 0 dX2_right_5 rfl rfl ?_
  refine kr_iload_n C 2 dX2_right_6 rfl rfl ?_
  rcases kxb_some h with ⟨Ev2, hv2, h⟩ | ⟨v2, hv2, h⟩
  · cases h
    exact kr_xVex C CX CN (k := 1) (As := [.int p2]) (rest := []) (c_X2_requireFolder hlt hv2) gX2_right_X2_requireFolder rfl rfl rfl (by decide +kernel) ⟨(Nat.le_of_ble_eq_true rfl), (Nat.le_of_ble_eq_true rfl)⟩ ⟨(Nat.le_of_ble_eq_true rfl), (Nat.le_of_ble_eq_true rfl)⟩ 0 rfl rfl rfl rfl (Nat.le_of_ble_eq_true rfl) dX2_right_7 (Nat.le_of_ble_eq_true rfl) (Nat.le_of_ble_eq_true rfl)
  refine kr_xV0 C CX (k := 1) (As := [.int p2]) (rest := []) (c_X2_requireFolder hlt hv2) gX2_right_X2_requireFolder rfl rfl rfl (by decide +kernel) ⟨(Nat.le_of_ble_eq_true rfl), (Nat.le_of_ble_eq_true rfl)⟩ ⟨(Nat.le_of_ble_eq_true rfl), (Nat.le_of_ble_eq_true rfl)⟩ 0 rfl rfl rfl rfl (Nat.le_of_ble_eq_true rfl) dX2_right_7 ?_
  refine kr_aload_n C 0 dX2_right_10 rfl rfl ?_
  refine kr_iload_n C 1 dX2_right_11 rfl rfl ?_
  refine kr_aload_n C 0 dX2_right_12 rfl rfl ?_
  refine kr_iload_n C 1 dX2_right_13 rfl rfl ?_
  obtain ⟨v3, hv3, h⟩ := kob h
  refine kr_callV1 C (k := 1) (As := [.int p1]) (rest := [.int (p1), .ref (a 0)]) (c_X2_groupsOf hv3) gX2_right_X2_groupsOf rfl rfl rfl (by decide +kernel) ⟨(Nat.le_of_ble_eq_true rfl), (Nat.le_of_ble_eq_true rfl)⟩ ⟨(Nat.le_of_ble_eq_true rfl), (Nat.le_of_ble_eq_true rfl)⟩ 0 rfl rfl rfl rfl (Nat.le_of_ble_eq_true rfl) dX2_right_14 ?_
  refine kr_iload_n C 2 dX2_right_17 rfl rfl ?_
  obtain ⟨v4, hv4, h⟩ := kob h
  refine kr_callV1 C (k := 3) (As := [.int p1, .int v3, .int p2]) (rest := []) (c_X2_rightAmong hv4) gX2_right_X2_rightAmong rfl rfl rfl (by decide +kernel) ⟨(Nat.le_of_ble_eq_true rfl), (Nat.le_of_ble_eq_true rfl)⟩ ⟨(Nat.le_of_ble_eq_true rfl), (Nat.le_of_ble_eq_true rfl)⟩ 0 rfl rfl rfl rfl (Nat.le_of_ble_eq_true rfl) dX2_right_18 ?_
  cases h
  exact kr_retX (kr_ret_i C (Nat.le_of_ble_eq_true rfl) (Nat.le_of_ble_eq_true rfl) dX2_right_21)
theorem flX2_rightByWalking_18 : Cond.fieldLink RX2 18 "FolderKeeper" "owners" "LFolderKeeper$Row;" ∈ wsX2_rightByWalking := by decide +kernel
theorem inX2_rightByWalking_X2 : ∀ w ∈ wsX20, w ∈ wsX2_rightByWalking := fun _ h => List.mem_cons_of_mem _ (List.mem_append_left _ (List.mem_append_left _ (List.mem_append_left _ (List.mem_append_left _ (List.mem_append_right _ h)))))
set_option maxHeartbeats 4000000 in
set_option maxRecDepth 100000 in
theorem c_X2_rightByWalking {l : Launch} {D : va_G} {cy : Nat → ClassId} {a : Nat → Nat} {Z : va_W} {S : kSt} {p1 : Int32} {p2 : Int32} {r : (Int32 ⊕ String)} {sa : Nat → Nat} (hlt : l.stackTraces = false) (h : f_X2_rightByWalking S p1 p2 = some r) : kX l yX2_rightByWalking wsX2_rightByWalking ({ frames := 27, cells := 2, slots := 12, locals := 646 } : Room) D cy sa (xw a cy S Z) [.ref (a 0), .int p1, .int p2] (xw a cy S Z) (kOI r) 2 12 := by
  rw [f_X2_rightByWalking] at h
  refine kX.start (L := [(0, .ref (a 0)), (1, .int (p1)), (2, .int (p2))]) hlt rfl rfl rfl (Nat.le_of_ble_eq_true rfl) rfl (fun K A C CX CN => ?_)
  refine kr_aload_n C 0 dX2_rightByWalking_0 rfl rfl ?_
  refine kr_iload_n C 1 dX2_rightByWalking_1 rfl rfl ?_
  rcases kxb_some h with ⟨Ev1, hv1, h⟩ | ⟨v1, hv1, h⟩
  · cases h
    exact kr_xVex C CX CN (k := 1) (As := [.int p1]) (rest := []) (c_X2_requireAccount hlt hv1) gX2_rightByWalking_X2_requireAccount rfl rfl rfl (by decide +kernel) ⟨(Nat.le_of_ble_eq_true rfl), (Nat.le_of_ble_eq_true rfl)⟩ ⟨(Nat.le_of_ble_eq_true rfl), (Nat.le_of_ble_eq_true rfl)⟩ 0 rfl rfl rfl rfl (Nat.le_of_ble_eq_true rfl) dX2_rightByWalking_2 (Nat.le_of_ble_eq_true rfl) (Nat.le_of_ble_eq_true rfl)
  refine kr_xV0 C CX (k := 1) (As := [.int p1]) (rest := []) (c_X2_requireAccount hlt hv1) gX2_rightByWalking_X2_requireAccount rfl rfl rfl (by decide +kernel) ⟨(Nat.le_of_ble_eq_true rfl), (Nat.le_of_ble_eq_true rfl)⟩ ⟨(Nat.le_of_ble_eq_true rfl), (Nat.le_of_ble_eq_true rfl)⟩ 0 rfl rfl rfl rfl (Nat.le_of_ble_eq_true rfl) dX2_rightByWalking_2 ?_
  refine kr_aload_n C 0 dX2_rightByWalking_5 rfl rfl ?_
  refine kr_iload_n C 2 dX2_rightByWalking_6 rfl rfl ?_
  rcases kxb_some h with ⟨Ev2, hv2, h⟩ | ⟨v2, hv2, h⟩
  · cases h
    exact kr_xVex C CX CN (k := 1) (As := [.int p2]) (rest := []) (c_X2_requireFolder hlt hv2) gX2_rightByWalking_X2_requireFolder rfl rfl rfl (by decide +kernel) ⟨(Nat.le_of_ble_eq_true rfl), (Nat.le_of_ble_eq_true rfl)⟩ ⟨(Nat.le_of_ble_eq_true rfl), (Nat.le_of_ble_eq_true rfl)⟩ 0 rfl rfl rfl rfl (Nat.le_of_ble_eq_true rfl) dX2_rightByWalking_7 (Nat.le_of_ble_eq_true rfl) (Nat.le_of_ble_eq_true rfl)
  refine kr_xV0 C CX (k := 1) (As := [.int p2]) (rest := []) (c_X2_requireFolder hlt hv2) gX2_rightByWalking_X2_requireFolder rfl rfl rfl (by decide +kernel) ⟨(Nat.le_of_ble_eq_true rfl), (Nat.le_of_ble_eq_true rfl)⟩ ⟨(Nat.le_of_ble_eq_true rfl), (Nat.le_of_ble_eq_true rfl)⟩ 0 rfl rfl rfl rfl (Nat.le_of_ble_eq_true rfl) dX2_rightByWalking_7 ?_
  refine kr_aload_n C 0 dX2_rightByWalking_10 rfl rfl ?_
  refine kr_iload_n C 1 dX2_rightByWalking_11 rfl rfl ?_
  obtain ⟨v3, hv3, h⟩ := kob h
  refine kr_callV1 C (k := 1) (As := [.int p1]) (rest := []) (c_X2_isActive hv3) gX2_rightByWalking_X2_isActive rfl rfl rfl (by decide +kernel) ⟨(Nat.le_of_ble_eq_true rfl), (Nat.le_of_ble_eq_true rfl)⟩ ⟨(Nat.le_of_ble_eq_true rfl), (Nat.le_of_ble_eq_true rfl)⟩ 0 rfl rfl rfl rfl (Nat.le_of_ble_eq_true rfl) dX2_rightByWalking_12 ?_
  refine kr_if_ne C 20 dX2_rightByWalking_15 (by decide) (fun hc => ?_) (fun hc => ?_)
  · have h := (if_pos hc).symm.trans h
    refine kr_iconst C (v := 0) dX2_rightByWalking_18 (by decide) ?_
    cases h
    exact kr_retX (kr_ret_i C (Nat.le_of_ble_eq_true rfl) (Nat.le_of_ble_eq_true rfl) dX2_rightByWalking_19)
  have h := (if_neg hc).symm.trans h
  refine kr_aload_n C 0 dX2_rightByWalking_20 rfl rfl ?_
  refine kr_get C inX2_rightByWalking_X2 0 rfl rfl 9 (by decide) flX2_rightByWalking_18 rfl rfl dX2_rightByWalking_21 ?_
  refine kr_iload_n C 2 dX2_rightByWalking_24 rfl rfl ?_
  obtain ⟨v4, hv4, h⟩ := kob h
  refine kr_callV1 C (k := 1) (As := [.int p2]) (rest := []) (c_X1_at (q0 := 2) (q1 := 10) rfl rfl hv4) gX2_rightByWalking_X1_at rfl rfl rfl (by decide +kernel) ⟨(Nat.le_of_ble_eq_true rfl), (Nat.le_of_ble_eq_true rfl)⟩ ⟨(Nat.le_of_ble_eq_true rfl), (Nat.le_of_ble_eq_true rfl)⟩ 2 rfl rfl rfl rfl (Nat.le_of_ble_eq_true rfl) dX2_rightByWalking_25 ?_
  refine kr_iload_n C 1 dX2_rightByWalking_28 rfl rfl ?_
  refine kr_icmp_ne C 36 dX2_rightByWalking_29 (by decide) (fun hc => ?_) (fun hc => ?_)
  · have h := (if_pos hc).symm.trans h
    refine kr_iconst C (v := 3) dX2_rightByWalking_32 (by decide) ?_
    refine kr_goto C 43 dX2_rightByWalking_33 (by decide) ?_
    cases h
    exact kr_retX (kr_ret_i C (Nat.le_of_ble_eq_true rfl) (Nat.le_of_ble_eq_true rfl) dX2_rightByWalking_43)
  have h := (if_neg hc).symm.trans h
  refine kr_aload_n C 0 dX2_rightByWalking_36 rfl rfl ?_
  refine kr_iload_n C 1 dX2_rightByWalking_37 rfl rfl ?_
  refine kr_iload_n C 2 dX2_rightByWalking_38 rfl rfl ?_
  refine kr_iconst C (v := 0) dX2_rightByWalking_39 (by decide) ?_
  obtain ⟨v5, hv5, h⟩ := kob h
  refine kr_callV1 C (k := 3) (As := [.int p1, .int p2, .int (0 : Int32)]) (rest := []) (c_X2_bestHandedByWalking _ hv5) gX2_rightByWalking_X2_bestHandedByWalking rfl rfl rfl (by decide +kernel) ⟨(Nat.le_of_ble_eq_true rfl), (Nat.le_of_ble_eq_true rfl)⟩ ⟨(Nat.le_of_ble_eq_true rfl), (Nat.le_of_ble_eq_true rfl)⟩ 0 rfl rfl rfl rfl (Nat.le_of_ble_eq_true rfl) dX2_rightByWalking_40 ?_
  cases h
  exact kr_retX (kr_ret_i C (Nat.le_of_ble_eq_true rfl) (Nat.le_of_ble_eq_true rfl) dX2_rightByWalking_43)
theorem flX2_setBroken_140 : Cond.fieldLink RX2 140 "FolderKeeper" "brokenFolders" "I" ∈ wsX2_setBroken := by decide +kernel
theorem inX2_setBroken_X2 : ∀ w ∈ wsX20, w ∈ wsX2_setBroken := fun _ h => List.mem_cons_of_mem _ (List.mem_append_left _ (List.mem_append_left _ (List.mem_append_right _ h)))
set_option maxHeartbeats 4000000 in
set_option maxRecDepth 100000 in
theorem c_X2_setBroken {l : Launch} {D : va_G} {cy : Nat → ClassId} {a : Nat → Nat} {Z : va_W} {S : kSt} {p1 : Int32} {p2 : Bool} {r : ((Bool ⊕ String) × kSt)} {sa : Nat → Nat} (hlt : l.stackTraces = false) (h : f_X2_setBroken S p1 p2 = some r) : kX l yX2_setBroken wsX2_setBroken ({ frames := 7, cells := 2, slots := 12, locals := 103 } : Room) D cy sa (xw a cy S Z) [.ref (a 0), .int p1, .int (b2i p2)] (xw a cy r.2 Z) (kOZ r.1) 2 12 := by
  rw [f_X2_setBroken] at h
  refine kX.start (L := [(0, .ref (a 0)), (1, .int (p1)), (2, .int (b2i (p2)))]) hlt rfl rfl rfl (Nat.le_of_ble_eq_true rfl) rfl (fun K A C CX CN => ?_)
  refine kr_aload_n C 0 dX2_setBroken_0 rfl rfl ?_
  refine kr_iload_n C 1 dX2_setBroken_1 rfl rfl ?_
  rcases kxb_some h with ⟨Ev1, hv1, h⟩ | ⟨v1, hv1, h⟩
  · cases h
    exact kr_xVex C CX CN (k := 1) (As := [.int p1]) (rest := []) (c_X2_requireFolder hlt hv1) gX2_setBroken_X2_requireFolder rfl rfl rfl (by decide +kernel) ⟨(Nat.le_of_ble_eq_true rfl), (Nat.le_of_ble_eq_true rfl)⟩ ⟨(Nat.le_of_ble_eq_true rfl), (Nat.le_of_ble_eq_true rfl)⟩ 0 rfl rfl rfl rfl (Nat.le_of_ble_eq_true rfl) dX2_setBroken_2 (Nat.le_of_ble_eq_true rfl) (Nat.le_of_ble_eq_true rfl)
  refine kr_xV0 C CX (k := 1) (As := [.int p1]) (rest := []) (c_X2_requireFolder hlt hv1) gX2_setBroken_X2_requireFolder rfl rfl rfl (by decide +kernel) ⟨(Nat.le_of_ble_eq_true rfl), (Nat.le_of_ble_eq_true rfl)⟩ ⟨(Nat.le_of_ble_eq_true rfl), (Nat.le_of_ble_eq_true rfl)⟩ 0 rfl rfl rfl rfl (Nat.le_of_ble_eq_true rfl) dX2_setBroken_2 ?_
  refine kr_aload_n C 0 dX2_setBroken_5 rfl rfl ?_
  refine kr_iload_n C 1 dX2_setBroken_6 rfl rfl ?_
  rcases kxb_some h with ⟨Ev2, hv2, h⟩ | ⟨v2, hv2, h⟩
  · cases h
    exact kr_xVex C CX CN (k := 1) (As := [.int p1]) (rest := []) (c_X2_requireNotHeld hlt hv2) gX2_setBroken_X2_requireNotHeld rfl rfl rfl (by decide +kernel) ⟨(Nat.le_of_ble_eq_true rfl), (Nat.le_of_ble_eq_true rfl)⟩ ⟨(Nat.le_of_ble_eq_true rfl), (Nat.le_of_ble_eq_true rfl)⟩ 0 rfl rfl rfl rfl (Nat.le_of_ble_eq_true rfl) dX2_setBroken_7 (Nat.le_of_ble_eq_true rfl) (Nat.le_of_ble_eq_true rfl)
  refine kr_xV0 C CX (k := 1) (As := [.int p1]) (rest := []) (c_X2_requireNotHeld hlt hv2) gX2_setBroken_X2_requireNotHeld rfl rfl rfl (by decide +kernel) ⟨(Nat.le_of_ble_eq_true rfl), (Nat.le_of_ble_eq_true rfl)⟩ ⟨(Nat.le_of_ble_eq_true rfl), (Nat.le_of_ble_eq_true rfl)⟩ 0 rfl rfl rfl rfl (Nat.le_of_ble_eq_true rfl) dX2_setBroken_7 ?_
  refine kr_aload_n C 0 dX2_setBroken_10 rfl rfl ?_
  refine kr_get C inX2_setBroken_X2 0 rfl rfl 6 (by decide) flX2_setBroken_140 rfl rfl dX2_setBroken_11 ?_
  refine kr_iload_n C 1 dX2_setBroken_14 rfl rfl ?_
  obtain ⟨v3, hv3, h⟩ := kob h
  refine kr_callS1 C (k := 2) (As := [.int (S.1 6), .int p1]) (rest := []) (c_X2_contains hv3) gX2_setBroken_X2_contains rfl rfl rfl (by decide +kernel) ⟨(Nat.le_of_ble_eq_true rfl), (Nat.le_of_ble_eq_true rfl)⟩ ⟨(Nat.le_of_ble_eq_true rfl), (Nat.le_of_ble_eq_true rfl)⟩ rfl rfl (Nat.le_of_ble_eq_true rfl) dX2_setBroken_15 ?_
  refine kr_istore_n C [1, 2, 3, 0] dX2_setBroken_18 rfl (by decide) rfl ?_
  refine kr_aload_n C 0 dX2_setBroken_19 rfl rfl ?_
  refine kr_iload_n C 2 dX2_setBroken_20 rfl rfl ?_
  refine kr_if_eq C 35 dX2_setBroken_21 (by decide) (fun hc => ?_) (fun hc => ?_)
  · have h := (if_pos hc).symm.trans h
    refine kr_aload_n C 0 dX2_setBroken_35 rfl rfl ?_
    refine kr_get C inX2_setBroken_X2 0 rfl rfl 6 (by decide) flX2_setBroken_140 rfl rfl dX2_setBroken_36 ?_
    refine kr_iload_n C 1 dX2_setBroken_39 rfl rfl ?_
    obtain ⟨v4, hv4, h⟩ := kob h
    refine kr_callS1 C (k := 2) (As := [.int (S.1 6), .int p1]) (rest := [.ref (a 0)]) (c_X2_without hv4) gX2_setBroken_X2_without rfl rfl rfl (by decide +kernel) ⟨(Nat.le_of_ble_eq_true rfl), (Nat.le_of_ble_eq_true rfl)⟩ ⟨(Nat.le_of_ble_eq_true rfl), (Nat.le_of_ble_eq_true rfl)⟩ rfl rfl (Nat.le_of_ble_eq_true rfl) dX2_setBroken_40 ?_
    refine kr_put C inX2_setBroken_X2 tyX2_ok nmX2 0 rfl rfl 6 (by decide) flX2_setBroken_140 rfl rfl rfl rfl rfl (by show 6 < 16; decide) (xp6 _ _ _ _ _) dX2_setBroken_43 ?_
    refine kr_iload_n C 3 dX2_setBroken_46 rfl rfl ?_
    cases h
    exact kr_retX (kr_ret_z C (nar_b _) (Nat.le_of_ble_eq_true rfl) (Nat.le_of_ble_eq_true rfl) dX2_setBroken_47)
  have h := (if_neg hc).symm.trans h
  refine kr_aload_n C 0 dX2_setBroken_24 rfl rfl ?_
  refine kr_get C inX2_setBroken_X2 0 rfl rfl 6 (by decide) flX2_setBroken_140 rfl rfl dX2_setBroken_25 ?_
  refine kr_iload_n C 1 dX2_setBroken_28 rfl rfl ?_
  obtain ⟨v5, hv5, h⟩ := kob h
  refine kr_callS1 C (k := 2) (As := [.int (S.1 6), .int p1]) (rest := [.ref (a 0)]) (c_X2_with hv5) gX2_setBroken_X2_with rfl rfl rfl (by decide +kernel) ⟨(Nat.le_of_ble_eq_true rfl), (Nat.le_of_ble_eq_true rfl)⟩ ⟨(Nat.le_of_ble_eq_true rfl), (Nat.le_of_ble_eq_true rfl)⟩ rfl rfl (Nat.le_of_ble_eq_true rfl) dX2_setBroken_29 ?_
  refine kr_goto C 43 dX2_setBroken_32 (by decide) ?_
  refine kr_put C inX2_setBroken_X2 tyX2_ok nmX2 0 rfl rfl 6 (by decide) flX2_setBroken_140 rfl rfl rfl rfl rfl (by show 6 < 16; decide) (xp6 _ _ _ _ _) dX2_setBroken_43 ?_
  refine kr_iload_n C 3 dX2_setBroken_46 rfl rfl ?_
  cases h
  exact kr_retX (kr_ret_z C (nar_b _) (Nat.le_of_ble_eq_true rfl) (Nat.le_of_ble_eq_true rfl) dX2_setBroken_47)
theorem atX2_setHeir_69 : ∀ w ∈ (vx_atS RX2 69 "java/lang/IllegalArgumentException" ["java/lang/RuntimeException", "java/lang/Exception"]).filter goodWord, w ∈ wsX2_setHeir := fun _ h => List.mem_cons_of_mem _ (List.mem_append_left _ (List.mem_append_left _ (List.mem_append_right _ h)))
theorem ckX2_setHeir_65 : Cond.classLink RX2 65 "java/lang/IllegalArgumentException" ∈ wsX2_setHeir := by decide +kernel
theorem ciX2_setHeir_65 : Cond.initialized "java/lang/IllegalArgumentException" ∈ wsX2_setHeir := by decide +kernel
theorem flX2_setHeir_14 : Cond.fieldLink RX2 14 "FolderKeeper" "heirs" "LFolderKeeper$Row;" ∈ wsX2_setHeir := by decide +kernel
theorem inX2_setHeir_X2 : ∀ w ∈ wsX20, w ∈ wsX2_setHeir := fun _ h => List.mem_cons_of_mem _ (List.mem_append_left _ (List.mem_append_left _ (List.mem_append_left _ (List.mem_append_left _ (List.mem_append_right _ h)))))
set_option maxHeartbeats 4000000 in
set_option maxRecDepth 100000 in
theorem c_X2_setHeir {l : Launch} {D : va_G} {cy : Nat → ClassId} {a : Nat → Nat} {Z : va_W} {S : kSt} {p1 : Int32} {p2 : Int32} {r : ((Int32 ⊕ String) × kSt)} {sa : Nat → Nat} (hlt : l.stackTraces = false) (h : f_X2_setHeir S p1 p2 = some r) : kX l yX2_setHeir wsX2_setHeir ({ frames := 7, cells := 3, slots := 18, locals := 103 } : Room) D cy sa (xw a cy S Z) [.ref (a 0), .int p1, .int p2] (xw a cy r.2 Z) (kOI r.1) 3 18 := by
  rw [f_X2_setHeir] at h
  refine kX.start (L := [(0, .ref (a 0)), (1, .int (p1)), (2, .int (p2))]) hlt rfl rfl rfl (Nat.le_of_ble_eq_true rfl) rfl (fun K A C CX CN => ?_)
  refine kr_aload_n C 0 dX2_setHeir_0 rfl rfl ?_
  refine kr_iload_n C 1 dX2_setHeir_1 rfl rfl ?_
  rcases kxb_some h with ⟨Ev1, hv1, h⟩ | ⟨v1, hv1, h⟩
  · cases h
    exact kr_xVex C CX CN (k := 1) (As := [.int p1]) (rest := []) (c_X2_requireAccount hlt hv1) gX2_setHeir_X2_requireAccount rfl rfl rfl (by decide +kernel) ⟨(Nat.le_of_ble_eq_true rfl), (Nat.le_of_ble_eq_true rfl)⟩ ⟨(Nat.le_of_ble_eq_true rfl), (Nat.le_of_ble_eq_true rfl)⟩ 0 rfl rfl rfl rfl (Nat.le_of_ble_eq_true rfl) dX2_setHeir_2 (Nat.le_of_ble_eq_true rfl) (Nat.le_of_ble_eq_true rfl)
  refine kr_xV0 C CX (k := 1) (As := [.int p1]) (rest := []) (c_X2_requireAccount hlt hv1) gX2_setHeir_X2_requireAccount rfl rfl rfl (by decide +kernel) ⟨(Nat.le_of_ble_eq_true rfl), (Nat.le_of_ble_eq_true rfl)⟩ ⟨(Nat.le_of_ble_eq_true rfl), (Nat.le_of_ble_eq_true rfl)⟩ 0 rfl rfl rfl rfl (Nat.le_of_ble_eq_true rfl) dX2_setHeir_2 ?_
  refine kr_iload_n C 2 dX2_setHeir_5 rfl rfl ?_
  refine kr_iconst C (v := -1) dX2_setHeir_6 (by decide) ?_
  refine kr_icmp_eq C 15 dX2_setHeir_7 (by decide) (fun hc => ?_) (fun hc => ?_)
  · have h := (if_pos hc).symm.trans h
    refine kr_iload_n C 1 dX2_setHeir_15 rfl rfl ?_
    refine kr_iload_n C 2 dX2_setHeir_16 rfl rfl ?_
    refine kr_icmp_ne C 30 dX2_setHeir_17 (by decide) (fun hc => ?_) (fun hc => ?_)
    · have h := (if_pos hc).symm.trans h
      cases h
      exact kr_throw C CX CN (text := "an account is not its own heir") (by decide) ckX2_setHeir_65 ciX2_setHeir_65 (by decide) atX2_setHeir_69 ax_69 ay_69_65 (by decide +kernel) dX2_setHeir_20 dX2_setHeir_23 dX2_setHeir_24 dX2_setHeir_26 dX2_setHeir_29 (Nat.le_of_ble_eq_true rfl) (Nat.le_of_ble_eq_true rfl) (Nat.le_of_ble_eq_true rfl) (Nat.le_of_ble_eq_true rfl) (Nat.le_of_ble_eq_true rfl) (Nat.le_of_ble_eq_true rfl)
    have h := (if_neg hc).symm.trans h
    refine kr_aload_n C 0 dX2_setHeir_30 rfl rfl ?_
    refine kr_get C inX2_setHeir_X2 0 rfl rfl 8 (by decide) flX2_setHeir_14 rfl rfl dX2_setHeir_31 ?_
    refine kr_iload_n C 1 dX2_setHeir_34 rfl rfl ?_
    obtain ⟨v2, hv2, h⟩ := kob h
    refine kr_callV1 C (k := 1) (As := [.int p1]) (rest := []) (c_X1_at (q0 := 1) (q1 := 9) rfl rfl hv2) gX2_setHeir_X1_at rfl rfl rfl (by decide +kernel) ⟨(Nat.le_of_ble_eq_true rfl), (Nat.le_of_ble_eq_true rfl)⟩ ⟨(Nat.le_of_ble_eq_true rfl), (Nat.le_of_ble_eq_true rfl)⟩ 1 rfl rfl rfl rfl (Nat.le_of_ble_eq_true rfl) dX2_setHeir_35 ?_
    refine kr_istore_n C [1, 2, 3, 0] dX2_setHeir_38 rfl (by decide) rfl ?_
    refine kr_aload_n C 0 dX2_setHeir_39 rfl rfl ?_
    refine kr_get C inX2_setHeir_X2 0 rfl rfl 8 (by decide) flX2_setHeir_14 rfl rfl dX2_setHeir_40 ?_
    refine kr_iload_n C 1 dX2_setHeir_43 rfl rfl ?_
    refine kr_iload_n C 2 dX2_setHeir_44 rfl rfl ?_
    obtain ⟨v3, hv3, h⟩ := kob h
    refine kr_callV0 C (k := 2) (As := [.int p1, .int p2]) (rest := []) (c_X1_put (Wf := fun f => xw a cy (S.1, va_up S.2 8 f) Z) (q0 := 1) (q1 := 9) (fun _ => rfl) (fun _ => rfl) (fun _ _ => rfl) hv3) gX2_setHeir_X1_put rfl rfl rfl (by decide +kernel) ⟨(Nat.le_of_ble_eq_true rfl), (Nat.le_of_ble_eq_true rfl)⟩ ⟨(Nat.le_of_ble_eq_true rfl), (Nat.le_of_ble_eq_true rfl)⟩ 1 rfl rfl rfl rfl (Nat.le_of_ble_eq_true rfl) dX2_setHeir_45 ?_
    refine kr_iload_n C 3 dX2_setHeir_48 rfl rfl ?_
    cases h
    exact kr_retX (kr_ret_i C (Nat.le_of_ble_eq_true rfl) (Nat.le_of_ble_eq_true rfl) dX2_setHeir_49)
  have h := (if_neg hc).symm.trans h
  refine kr_aload_n C 0 dX2_setHeir_10 rfl rfl ?_
  refine kr_iload_n C 2 dX2_setHeir_11 rfl rfl ?_
  rcases kxb_some h with ⟨Ev4, hv4, h⟩ | ⟨v4, hv4, h⟩
  · cases h
    exact kr_xVex C CX CN (k := 1) (As := [.int p2]) (rest := []) (c_X2_requireAccount hlt hv4) gX2_setHeir_X2_requireAccount rfl rfl rfl (by decide +kernel) ⟨(Nat.le_of_ble_eq_true rfl), (Nat.le_of_ble_eq_true rfl)⟩ ⟨(Nat.le_of_ble_eq_true rfl), (Nat.le_of_ble_eq_true rfl)⟩ 0 rfl rfl rfl rfl (Nat.le_of_ble_eq_true rfl) dX2_setHeir_12 (Nat.le_of_ble_eq_true rfl) (Nat.le_of_ble_eq_true rfl)
  refine kr_xV0 C CX (k := 1) (As := [.int p2]) (rest := []) (c_X2_requireAccount hlt hv4) gX2_setHeir_X2_requireAccount rfl rfl rfl (by decide +kernel) ⟨(Nat.le_of_ble_eq_true rfl), (Nat.le_of_ble_eq_true rfl)⟩ ⟨(Nat.le_of_ble_eq_true rfl), (Nat.le_of_ble_eq_true rfl)⟩ 0 rfl rfl rfl rfl (Nat.le_of_ble_eq_true rfl) dX2_setHeir_12 ?_
  refine kr_iload_n C 1 dX2_setHeir_15 rfl rfl ?_
  refine kr_iload_n C 2 dX2_setHeir_16 rfl rfl ?_
  refine kr_icmp_ne C 30 dX2_setHeir_17 (by decide) (fun hc => ?_) (fun hc => ?_)
  · have h := (if_pos hc).symm.trans h
    cases h
    exact kr_throw C CX CN (text := "an account is not its own heir") (by decide) ckX2_setHeir_65 ciX2_setHeir_65 (by decide) atX2_setHeir_69 ax_69 ay_69_65 (by decide +kernel) dX2_setHeir_20 dX2_setHeir_23 dX2_setHeir_24 dX2_setHeir_26 dX2_setHeir_29 (Nat.le_of_ble_eq_true rfl) (Nat.le_of_ble_eq_true rfl) (Nat.le_of_ble_eq_true rfl) (Nat.le_of_ble_eq_true rfl) (Nat.le_of_ble_eq_true rfl) (Nat.le_of_ble_eq_true rfl)
  have h := (if_neg hc).symm.trans h
  refine kr_aload_n C 0 dX2_setHeir_30 rfl rfl ?_
  refine kr_get C inX2_setHeir_X2 0 rfl rfl 8 (by decide) flX2_setHeir_14 rfl rfl dX2_setHeir_31 ?_
  refine kr_iload_n C 1 dX2_setHeir_34 rfl rfl ?_
  obtain ⟨v5, hv5, h⟩ := kob h
  refine kr_callV1 C (k := 1) (As := [.int p1]) (rest := []) (c_X1_at (q0 := 1) (q1 := 9) rfl rfl hv5) gX2_setHeir_X1_at rfl rfl rfl (by decide +kernel) ⟨(Nat.le_of_ble_eq_true rfl), (Nat.le_of_ble_eq_true rfl)⟩ ⟨(Nat.le_of_ble_eq_true rfl), (Nat.le_of_ble_eq_true rfl)⟩ 1 rfl rfl rfl rfl (Nat.le_of_ble_eq_true rfl) dX2_setHeir_35 ?_
  refine kr_istore_n C [1, 2, 3, 0] dX2_setHeir_38 rfl (by decide) rfl ?_
  refine kr_aload_n C 0 dX2_setHeir_39 rfl rfl ?_
  refine kr_get C inX2_setHeir_X2 0 rfl rfl 8 (by decide) flX2_setHeir_14 rfl rfl dX2_setHeir_40 ?_
  refine kr_iload_n C 1 dX2_setHeir_43 rfl rfl ?_
  refine kr_iload_n C 2 dX2_setHeir_44 rfl rfl ?_
  obtain ⟨v6, hv6, h⟩ := kob h
  refine kr_callV0 C (k := 2) (As := [.int p1, .int p2]) (rest := []) (c_X1_put (Wf := fun f => xw a cy (S.1, va_up S.2 8 f) Z) (q0 := 1) (q1 := 9) (fun _ => rfl) (fun _ => rfl) (fun _ _ => rfl) hv6) gX2_setHeir_X1_put rfl rfl rfl (by decide +kernel) ⟨(Nat.le_of_ble_eq_true rfl), (Nat.le_of_ble_eq_true rfl)⟩ ⟨(Nat.le_of_ble_eq_true rfl), (Nat.le_of_ble_eq_true rfl)⟩ 1 rfl rfl rfl rfl (Nat.le_of_ble_eq_true rfl) dX2_setHeir_45 ?_
  refine kr_iload_n C 3 dX2_setHeir_48 rfl rfl ?_
  cases h
  exact kr_retX (kr_ret_i C (Nat.le_of_ble_eq_true rfl) (Nat.le_of_ble_eq_true rfl) dX2_setHeir_49)
theorem flX2_sharesOf_37 : Cond.fieldLink RX2 37 "FolderKeeper" "accountShares" "LFolderKeeper$Grid;" ∈ wsX2_sharesOf := by decide +kernel
theorem inX2_sharesOf_X2 : ∀ w ∈ wsX20, w ∈ wsX2_sharesOf := fun _ h => List.mem_cons_of_mem _ (List.mem_append_left _ (List.mem_append_left _ (List.mem_append_right _ h)))
theorem flX2_sharesOf_40 : Cond.fieldLink RX2 40 "FolderKeeper" "groupShares" "LFolderKeeper$Grid;" ∈ wsX2_sharesOf := by decide +kernel
set_option maxHeartbeats 4000000 in
set_option maxRecDepth 100000 in
theorem c_X2_sharesOf {l : Launch} {D : va_G} {cy : Nat → ClassId} {a : Nat → Nat} {Z : va_W} {S : kSt} {p1 : Int32} {r : Int32} (h : f_X2_sharesOf S p1 = some r) : kM l yX2_sharesOf wsX2_sharesOf ({ frames := 2, cells := 0, slots := 0, locals := 46 } : Room) D cy (xw a cy S Z) [.ref (a 0), .int p1] (xw a cy S Z) (some (.int r)) 0 0 := by
  rw [f_X2_sharesOf] at h
  refine kM.start (L := [(0, .ref (a 0)), (1, .int (p1))]) rfl rfl rfl (Nat.le_of_ble_eq_true rfl) rfl (fun K A C => ?_)
  refine kr_aload_n C 0 dX2_sharesOf_0 rfl rfl ?_
  refine kr_get C inX2_sharesOf_X2 0 rfl rfl 14 (by decide) flX2_sharesOf_37 rfl rfl dX2_sharesOf_1 ?_
  refine kr_iload_n C 1 dX2_sharesOf_4 rfl rfl ?_
  obtain ⟨v1, hv1, h⟩ := kob h
  refine kr_callV1 C (k := 1) (As := [.int p1]) (rest := []) (c_X0_filled (q0 := 7) (q1 := 15) rfl rfl hv1) gX2_sharesOf_X0_filled rfl rfl rfl (by decide +kernel) ⟨(Nat.le_of_ble_eq_true rfl), (Nat.le_of_ble_eq_true rfl)⟩ ⟨(Nat.le_of_ble_eq_true rfl), (Nat.le_of_ble_eq_true rfl)⟩ 7 rfl rfl rfl rfl (Nat.le_of_ble_eq_true rfl) dX2_sharesOf_5 ?_
  refine kr_aload_n C 0 dX2_sharesOf_8 rfl rfl ?_
  refine kr_get C inX2_sharesOf_X2 0 rfl rfl 15 (by decide) flX2_sharesOf_40 rfl rfl dX2_sharesOf_9 ?_
  refine kr_iload_n C 1 dX2_sharesOf_12 rfl rfl ?_
  obtain ⟨v2, hv2, h⟩ := kob h
  refine kr_callV1 C (k := 1) (As := [.int p1]) (rest := [.int (v1)]) (c_X0_filled (q0 := 8) (q1 := 16) rfl rfl hv2) gX2_sharesOf_X0_filled rfl rfl rfl (by decide +kernel) ⟨(Nat.le_of_ble_eq_true rfl), (Nat.le_of_ble_eq_true rfl)⟩ ⟨(Nat.le_of_ble_eq_true rfl), (Nat.le_of_ble_eq_true rfl)⟩ 8 rfl rfl rfl rfl (Nat.le_of_ble_eq_true rfl) dX2_sharesOf_13 ?_
  refine kr_iadd C dX2_sharesOf_16 ?_
  cases h
  exact kr_ret_i C (Nat.le_of_ble_eq_true rfl) (Nat.le_of_ble_eq_true rfl) dX2_sharesOf_17
theorem flX2_shareWith_37 : Cond.fieldLink RX2 37 "FolderKeeper" "accountShares" "LFolderKeeper$Grid;" ∈ wsX2_shareWith := by decide +kernel
theorem inX2_shareWith_X2 : ∀ w ∈ wsX20, w ∈ wsX2_shareWith := fun _ h => List.mem_cons_of_mem _ (List.mem_append_left _ (List.mem_append_left _ (List.mem_append_left _ (List.mem_append_left _ (List.mem_append_left _ (List.mem_append_right _ h))))))
set_option maxHeartbeats 4000000 in
set_option maxRecDepth 100000 in
theorem c_X2_shareWith {l : Launch} {D : va_G} {cy : Nat → ClassId} {a : Nat → Nat} {Z : va_W} {S : kSt} {p1 : Int32} {p2 : Int32} {p3 : Int32} {r : ((Int32 ⊕ String) × kSt)} {sa : Nat → Nat} (hlt : l.stackTraces = false) (h : f_X2_shareWith S p1 p2 p3 = some r) : kX l yX2_shareWith wsX2_shareWith ({ frames := 7, cells := 4, slots := 24, locals := 104 } : Room) D cy sa (xw a cy S Z) [.ref (a 0), .int p1, .int p2, .int p3] (xw a cy r.2 Z) (kOI r.1) 4 24 := by
  rw [f_X2_shareWith] at h
  refine kX.start (L := [(0, .ref (a 0)), (1, .int (p1)), (2, .int (p2)), (3, .int (p3))]) hlt rfl rfl rfl (Nat.le_of_ble_eq_true rfl) rfl (fun K A C CX CN => ?_)
  refine kr_aload_n C 0 dX2_shareWith_0 rfl rfl ?_
  refine kr_iload_n C 1 dX2_shareWith_1 rfl rfl ?_
  rcases kxb_some h with ⟨Ev1, hv1, h⟩ | ⟨v1, hv1, h⟩
  · cases h
    exact kr_xVex C CX CN (k := 1) (As := [.int p1]) (rest := []) (c_X2_requireFolder hlt hv1) gX2_shareWith_X2_requireFolder rfl rfl rfl (by decide +kernel) ⟨(Nat.le_of_ble_eq_true rfl), (Nat.le_of_ble_eq_true rfl)⟩ ⟨(Nat.le_of_ble_eq_true rfl), (Nat.le_of_ble_eq_true rfl)⟩ 0 rfl rfl rfl rfl (Nat.le_of_ble_eq_true rfl) dX2_shareWith_2 (Nat.le_of_ble_eq_true rfl) (Nat.le_of_ble_eq_true rfl)
  refine kr_xV0 C CX (k := 1) (As := [.int p1]) (rest := []) (c_X2_requireFolder hlt hv1) gX2_shareWith_X2_requireFolder rfl rfl rfl (by decide +kernel) ⟨(Nat.le_of_ble_eq_true rfl), (Nat.le_of_ble_eq_true rfl)⟩ ⟨(Nat.le_of_ble_eq_true rfl), (Nat.le_of_ble_eq_true rfl)⟩ 0 rfl rfl rfl rfl (Nat.le_of_ble_eq_true rfl) dX2_shareWith_2 ?_
  refine kr_aload_n C 0 dX2_shareWith_5 rfl rfl ?_
  refine kr_iload_n C 2 dX2_shareWith_6 rfl rfl ?_
  rcases kxb_some h with ⟨Ev2, hv2, h⟩ | ⟨v2, hv2, h⟩
  · cases h
    exact kr_xVex C CX CN (k := 1) (As := [.int p2]) (rest := []) (c_X2_requireAccount hlt hv2) gX2_shareWith_X2_requireAccount rfl rfl rfl (by decide +kernel) ⟨(Nat.le_of_ble_eq_true rfl), (Nat.le_of_ble_eq_true rfl)⟩ ⟨(Nat.le_of_ble_eq_true rfl), (Nat.le_of_ble_eq_true rfl)⟩ 0 rfl rfl rfl rfl (Nat.le_of_ble_eq_true rfl) dX2_shareWith_7 (Nat.le_of_ble_eq_true rfl) (Nat.le_of_ble_eq_true rfl)
  refine kr_xV0 C CX (k := 1) (As := [.int p2]) (rest := []) (c_X2_requireAccount hlt hv2) gX2_shareWith_X2_requireAccount rfl rfl rfl (by decide +kernel) ⟨(Nat.le_of_ble_eq_true rfl), (Nat.le_of_ble_eq_true rfl)⟩ ⟨(Nat.le_of_ble_eq_true rfl), (Nat.le_of_ble_eq_true rfl)⟩ 0 rfl rfl rfl rfl (Nat.le_of_ble_eq_true rfl) dX2_shareWith_7 ?_
  refine kr_iload_n C 3 dX2_shareWith_10 rfl rfl ?_
  refine kr_iconst C (v := 0) dX2_shareWith_11 (by decide) ?_
  refine kr_iconst C (v := 2) dX2_shareWith_12 (by decide) ?_
  rcases kxb_some h with ⟨Ev3, hv3, h⟩ | ⟨v3, hv3, h⟩
  · cases h
    exact kr_xSex C CX CN (k := 3) (As := [.int p3, .int (0 : Int32), .int (2 : Int32)]) (rest := []) (c_X2_requireRight hlt hv3) gX2_shareWith_X2_requireRight rfl rfl rfl (by decide +kernel) ⟨(Nat.le_of_ble_eq_true rfl), (Nat.le_of_ble_eq_true rfl)⟩ ⟨(Nat.le_of_ble_eq_true rfl), (Nat.le_of_ble_eq_true rfl)⟩ rfl rfl (Nat.le_of_ble_eq_true rfl) dX2_shareWith_13 (Nat.le_of_ble_eq_true rfl) (Nat.le_of_ble_eq_true rfl)
  refine kr_xS0 C CX (k := 3) (As := [.int p3, .int (0 : Int32), .int (2 : Int32)]) (rest := []) (c_X2_requireRight hlt hv3) gX2_shareWith_X2_requireRight rfl rfl rfl (by decide +kernel) ⟨(Nat.le_of_ble_eq_true rfl), (Nat.le_of_ble_eq_true rfl)⟩ ⟨(Nat.le_of_ble_eq_true rfl), (Nat.le_of_ble_eq_true rfl)⟩ rfl rfl (Nat.le_of_ble_eq_true rfl) dX2_shareWith_13 ?_
  refine kr_aload_n C 0 dX2_shareWith_16 rfl rfl ?_
  refine kr_iload_n C 1 dX2_shareWith_17 rfl rfl ?_
  rcases kxb_some h with ⟨Ev4, hv4, h⟩ | ⟨v4, hv4, h⟩
  · cases h
    exact kr_xVex C CX CN (k := 1) (As := [.int p1]) (rest := []) (c_X2_requireNotHeld hlt hv4) gX2_shareWith_X2_requireNotHeld rfl rfl rfl (by decide +kernel) ⟨(Nat.le_of_ble_eq_true rfl), (Nat.le_of_ble_eq_true rfl)⟩ ⟨(Nat.le_of_ble_eq_true rfl), (Nat.le_of_ble_eq_true rfl)⟩ 0 rfl rfl rfl rfl (Nat.le_of_ble_eq_true rfl) dX2_shareWith_18 (Nat.le_of_ble_eq_true rfl) (Nat.le_of_ble_eq_true rfl)
  refine kr_xV0 C CX (k := 1) (As := [.int p1]) (rest := []) (c_X2_requireNotHeld hlt hv4) gX2_shareWith_X2_requireNotHeld rfl rfl rfl (by decide +kernel) ⟨(Nat.le_of_ble_eq_true rfl), (Nat.le_of_ble_eq_true rfl)⟩ ⟨(Nat.le_of_ble_eq_true rfl), (Nat.le_of_ble_eq_true rfl)⟩ 0 rfl rfl rfl rfl (Nat.le_of_ble_eq_true rfl) dX2_shareWith_18 ?_
  refine kr_aload_n C 0 dX2_shareWith_21 rfl rfl ?_
  refine kr_get C inX2_shareWith_X2 0 rfl rfl 14 (by decide) flX2_shareWith_37 rfl rfl dX2_shareWith_22 ?_
  refine kr_iload_n C 1 dX2_shareWith_25 rfl rfl ?_
  refine kr_iload_n C 2 dX2_shareWith_26 rfl rfl ?_
  refine kr_iload_n C 3 dX2_shareWith_27 rfl rfl ?_
  obtain ⟨v5, hv5, h⟩ := kob h
  refine kr_callV0 C (k := 3) (As := [.int p1, .int p2, .int p3]) (rest := []) (c_X0_put (Wf := fun f => xw a cy (S.1, va_up S.2 14 f) Z) (q0 := 7) (q1 := 15) (fun _ => rfl) (fun _ => rfl) (fun _ _ => rfl) hv5) gX2_shareWith_X0_put rfl rfl rfl (by decide +kernel) ⟨(Nat.le_of_ble_eq_true rfl), (Nat.le_of_ble_eq_true rfl)⟩ ⟨(Nat.le_of_ble_eq_true rfl), (Nat.le_of_ble_eq_true rfl)⟩ 7 rfl rfl rfl rfl (Nat.le_of_ble_eq_true rfl) dX2_shareWith_28 ?_
  refine kr_aload_n C 0 dX2_shareWith_31 rfl rfl ?_
  refine kr_iload_n C 1 dX2_shareWith_32 rfl rfl ?_
  obtain ⟨v6, hv6, h⟩ := kob h
  refine kr_callV1 C (k := 1) (As := [.int p1]) (rest := []) (c_X2_sharesOf hv6) gX2_shareWith_X2_sharesOf rfl rfl rfl (by decide +kernel) ⟨(Nat.le_of_ble_eq_true rfl), (Nat.le_of_ble_eq_true rfl)⟩ ⟨(Nat.le_of_ble_eq_true rfl), (Nat.le_of_ble_eq_true rfl)⟩ 0 rfl rfl rfl rfl (Nat.le_of_ble_eq_true rfl) dX2_shareWith_33 ?_
  cases h
  exact kr_retX (kr_ret_i C (Nat.le_of_ble_eq_true rfl) (Nat.le_of_ble_eq_true rfl) dX2_shareWith_36)
theorem flX2_shareWithGroup_40 : Cond.fieldLink RX2 40 "FolderKeeper" "groupShares" "LFolderKeeper$Grid;" ∈ wsX2_shareWithGroup := by decide +kernel
theorem inX2_shareWithGroup_X2 : ∀ w ∈ wsX20, w ∈ wsX2_shareWithGroup := fun _ h => List.mem_cons_of_mem _ (List.mem_append_left _ (List.mem_append_left _ (List.mem_append_left _ (List.mem_append_left _ (List.mem_append_left _ (List.mem_append_right _ h))))))
set_option maxHeartbeats 4000000 in
set_option maxRecDepth 100000 in
theorem c_X2_shareWithGroup {l : Launch} {D : va_G} {cy : Nat → ClassId} {a : Nat → Nat} {Z : va_W} {S : kSt} {p1 : Int32} {p2 : Int32} {p3 : Int32} {r : ((Int32 ⊕ String) × kSt)} {sa : Nat → Nat} (hlt : l.stackTraces = false) (h : f_X2_shareWithGroup S p1 p2 p3 = some r) : kX l yX2_shareWithGroup wsX2_shareWithGroup ({ frames := 7, cells := 4, slots := 24, locals := 104 } : Room) D cy sa (xw a cy S Z) [.ref (a 0), .int p1, .int p2, .int p3] (xw a cy r.2 Z) (kOI r.1) 4 24 := by
  rw [f_X2_shareWithGroup] at h
  refine kX.start (L := [(0, .ref (a 0)), (1, .int (p1)), (2, .int (p2)), (3, .int (p3))]) hlt rfl rfl rfl (Nat.le_of_ble_eq_true rfl) rfl (fun K A C CX CN => ?_)
  refine kr_aload_n C 0 dX2_shareWithGroup_0 rfl rfl ?_
  refine kr_iload_n C 1 dX2_shareWithGroup_1 rfl rfl ?_
  rcases kxb_some h with ⟨Ev1, hv1, h⟩ | ⟨v1, hv1, h⟩
  · cases h
    exact kr_xVex C CX CN (k := 1) (As := [.int p1]) (rest := []) (c_X2_requireFolder hlt hv1) gX2_shareWithGroup_X2_requireFolder rfl rfl rfl (by decide +kernel) ⟨(Nat.le_of_ble_eq_true rfl), (Nat.le_of_ble_eq_true rfl)⟩ ⟨(Nat.le_of_ble_eq_true rfl), (Nat.le_of_ble_eq_true rfl)⟩ 0 rfl rfl rfl rfl (Nat.le_of_ble_eq_true rfl) dX2_shareWithGroup_2 (Nat.le_of_ble_eq_true rfl) (Nat.le_of_ble_eq_true rfl)
  refine kr_xV0 C CX (k := 1) (As := [.int p1]) (rest := []) (c_X2_requireFolder hlt hv1) gX2_shareWithGroup_X2_requireFolder rfl rfl rfl (by decide +kernel) ⟨(Nat.le_of_ble_eq_true rfl), (Nat.le_of_ble_eq_true rfl)⟩ ⟨(Nat.le_of_ble_eq_true rfl), (Nat.le_of_ble_eq_true rfl)⟩ 0 rfl rfl rfl rfl (Nat.le_of_ble_eq_true rfl) dX2_shareWithGroup_2 ?_
  refine kr_aload_n C 0 dX2_shareWithGroup_5 rfl rfl ?_
  refine kr_iload_n C 2 dX2_shareWithGroup_6 rfl rfl ?_
  rcases kxb_some h with ⟨Ev2, hv2, h⟩ | ⟨v2, hv2, h⟩
  · cases h
    exact kr_xVex C CX CN (k := 1) (As := [.int p2]) (rest := []) (c_X2_requireGroup hlt hv2) gX2_shareWithGroup_X2_requireGroup rfl rfl rfl (by decide +kernel) ⟨(Nat.le_of_ble_eq_true rfl), (Nat.le_of_ble_eq_true rfl)⟩ ⟨(Nat.le_of_ble_eq_true rfl), (Nat.le_of_ble_eq_true rfl)⟩ 0 rfl rfl rfl rfl (Nat.le_of_ble_eq_true rfl) dX2_shareWithGroup_7 (Nat.le_of_ble_eq_true rfl) (Nat.le_of_ble_eq_true rfl)
  refine kr_xV0 C CX (k := 1) (As := [.int p2]) (rest := []) (c_X2_requireGroup hlt hv2) gX2_shareWithGroup_X2_requireGroup rfl rfl rfl (by decide +kernel) ⟨(Nat.le_of_ble_eq_true rfl), (Nat.le_of_ble_eq_true rfl)⟩ ⟨(Nat.le_of_ble_eq_true rfl), (Nat.le_of_ble_eq_true rfl)⟩ 0 rfl rfl rfl rfl (Nat.le_of_ble_eq_true rfl) dX2_shareWithGroup_7 ?_
  refine kr_iload_n C 3 dX2_shareWithGroup_10 rfl rfl ?_
  refine kr_iconst C (v := 0) dX2_shareWithGroup_11 (by decide) ?_
  refine kr_iconst C (v := 2) dX2_shareWithGroup_12 (by decide) ?_
  rcases kxb_some h with ⟨Ev3, hv3, h⟩ | ⟨v3, hv3, h⟩
  · cases h
    exact kr_xSex C CX CN (k := 3) (As := [.int p3, .int (0 : Int32), .int (2 : Int32)]) (rest := []) (c_X2_requireRight hlt hv3) gX2_shareWithGroup_X2_requireRight rfl rfl rfl (by decide +kernel) ⟨(Nat.le_of_ble_eq_true rfl), (Nat.le_of_ble_eq_true rfl)⟩ ⟨(Nat.le_of_ble_eq_true rfl), (Nat.le_of_ble_eq_true rfl)⟩ rfl rfl (Nat.le_of_ble_eq_true rfl) dX2_shareWithGroup_13 (Nat.le_of_ble_eq_true rfl) (Nat.le_of_ble_eq_true rfl)
  refine kr_xS0 C CX (k := 3) (As := [.int p3, .int (0 : Int32), .int (2 : Int32)]) (rest := []) (c_X2_requireRight hlt hv3) gX2_shareWithGroup_X2_requireRight rfl rfl rfl (by decide +kernel) ⟨(Nat.le_of_ble_eq_true rfl), (Nat.le_of_ble_eq_true rfl)⟩ ⟨(Nat.le_of_ble_eq_true rfl), (Nat.le_of_ble_eq_true rfl)⟩ rfl rfl (Nat.le_of_ble_eq_true rfl) dX2_shareWithGroup_13 ?_
  refine kr_aload_n C 0 dX2_shareWithGroup_16 rfl rfl ?_
  refine kr_iload_n C 1 dX2_shareWithGroup_17 rfl rfl ?_
  rcases kxb_some h with ⟨Ev4, hv4, h⟩ | ⟨v4, hv4, h⟩
  · cases h
    exact kr_xVex C CX CN (k := 1) (As := [.int p1]) (rest := []) (c_X2_requireNotHeld hlt hv4) gX2_shareWithGroup_X2_requireNotHeld rfl rfl rfl (by decide +kernel) ⟨(Nat.le_of_ble_eq_true rfl), (Nat.le_of_ble_eq_true rfl)⟩ ⟨(Nat.le_of_ble_eq_true rfl), (Nat.le_of_ble_eq_true rfl)⟩ 0 rfl rfl rfl rfl (Nat.le_of_ble_eq_true rfl) dX2_shareWithGroup_18 (Nat.le_of_ble_eq_true rfl) (Nat.le_of_ble_eq_true rfl)
  refine kr_xV0 C CX (k := 1) (As := [.int p1]) (rest := []) (c_X2_requireNotHeld hlt hv4) gX2_shareWithGroup_X2_requireNotHeld rfl rfl rfl (by decide +kernel) ⟨(Nat.le_of_ble_eq_true rfl), (Nat.le_of_ble_eq_true rfl)⟩ ⟨(Nat.le_of_ble_eq_true rfl), (Nat.le_of_ble_eq_true rfl)⟩ 0 rfl rfl rfl rfl (Nat.le_of_ble_eq_true rfl) dX2_shareWithGroup_18 ?_
  refine kr_aload_n C 0 dX2_shareWithGroup_21 rfl rfl ?_
  refine kr_get C inX2_shareWithGroup_X2 0 rfl rfl 15 (by decide) flX2_shareWithGroup_40 rfl rfl dX2_shareWithGroup_22 ?_
  refine kr_iload_n C 1 dX2_shareWithGroup_25 rfl rfl ?_
  refine kr_iload_n C 2 dX2_shareWithGroup_26 rfl rfl ?_
  refine kr_iload_n C 3 dX2_shareWithGroup_27 rfl rfl ?_
  obtain ⟨v5, hv5, h⟩ := kob h
  refine kr_callV0 C (k := 3) (As := [.int p1, .int p2, .int p3]) (rest := []) (c_X0_put (Wf := fun f => xw a cy (S.1, va_up S.2 15 f) Z) (q0 := 8) (q1 := 16) (fun _ => rfl) (fun _ => rfl) (fun _ _ => rfl) hv5) gX2_shareWithGroup_X0_put rfl rfl rfl (by decide +kernel) ⟨(Nat.le_of_ble_eq_true rfl), (Nat.le_of_ble_eq_true rfl)⟩ ⟨(Nat.le_of_ble_eq_true rfl), (Nat.le_of_ble_eq_true rfl)⟩ 8 rfl rfl rfl rfl (Nat.le_of_ble_eq_true rfl) dX2_shareWithGroup_28 ?_
  refine kr_aload_n C 0 dX2_shareWithGroup_31 rfl rfl ?_
  refine kr_iload_n C 1 dX2_shareWithGroup_32 rfl rfl ?_
  obtain ⟨v6, hv6, h⟩ := kob h
  refine kr_callV1 C (k := 1) (As := [.int p1]) (rest := []) (c_X2_sharesOf hv6) gX2_shareWithGroup_X2_sharesOf rfl rfl rfl (by decide +kernel) ⟨(Nat.le_of_ble_eq_true rfl), (Nat.le_of_ble_eq_true rfl)⟩ ⟨(Nat.le_of_ble_eq_true rfl), (Nat.le_of_ble_eq_true rfl)⟩ 0 rfl rfl rfl rfl (Nat.le_of_ble_eq_true rfl) dX2_shareWithGroup_33 ?_
  cases h
  exact kr_retX (kr_ret_i C (Nat.le_of_ble_eq_true rfl) (Nat.le_of_ble_eq_true rfl) dX2_shareWithGroup_36)
