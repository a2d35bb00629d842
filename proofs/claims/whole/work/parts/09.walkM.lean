theorem flX3_actives_7 : Cond.fieldLink RX3 7 "FolderKeeperModel" "accounts" "I" ∈ wsX3_actives := by decide +kernel
theorem inX3_actives_X3 : ∀ w ∈ wsX30, w ∈ wsX3_actives := fun _ h => List.mem_cons_of_mem _ (List.mem_append_left _ (List.mem_append_right _ h))
theorem flX3_actives_13 : Cond.fieldLink RX3 13 "FolderKeeperModel" "haveLeft" "[Z" ∈ wsX3_actives := by decide +kernel
set_option maxHeartbeats 4000000 in
set_option maxRecDepth 100000 in
theorem lc_X3_actives_L4 {K : kEnv} {l : Launch} {D : va_G} {cy : Nat → ClassId} {A : Nat → Prop} {a : Nat → Nat} {Z : va_W} {S : kSt} {r : Int32} (C : kC K D cy A 3 cX3_actives RX3 wsX3_actives (some .int)) : ∀ (n : Nat) (x1 x2 : Int32), f_X3_actives_L4 n S x1 x2 = some r → kG K l D A ({ frames := 0, cells := 0, slots := 0, locals := 0 } : Room) 3 (kEnd K D cy A (yw a cy S Z) (some (.int r)) 0 0) (yw a cy S Z) 0 0 4 [(0, .ref (a 0)), (1, .int (x1)), (2, .int (x2))] [] := by
  intro n
  induction n with
  | zero => intro x1 x2 h; rw [f_X3_actives_L4] at h; cases h
  | succ n ih =>
    intro x1 x2 h
    rw [f_X3_actives_L4] at h
    refine kr_iload_n C 2 dX3_actives_4 rfl rfl ?_
    refine kr_aload_n C 0 dX3_actives_5 rfl rfl ?_
    refine kr_get C inX3_actives_X3 0 rfl rfl 0 (by decide) flX3_actives_7 rfl rfl dX3_actives_6 ?_
    refine kr_icmp_ge C 35 dX3_actives_9 (by decide) (fun hc => ?_) (fun hc => ?_)
    · have h := (if_pos hc).symm.trans h
      refine kr_iload_n C 1 dX3_actives_35 rfl rfl ?_
      cases h
      exact kr_ret_i C (Nat.le_of_ble_eq_true rfl) (Nat.le_of_ble_eq_true rfl) dX3_actives_36
    have h := (if_neg hc).symm.trans h
    refine kr_iload_n C 1 dX3_actives_12 rfl rfl ?_
    refine kr_aload_n C 0 dX3_actives_13 rfl rfl ?_
    refine kr_get C inX3_actives_X3 0 rfl rfl 1 (by decide) flX3_actives_13 rfl rfl dX3_actives_14 ?_
    refine kr_iload_n C 2 dX3_actives_17 rfl rfl ?_
    obtain ⟨hb1, h⟩ := kif h
    refine kr_zald C 1 rfl (kin_in hb1) dX3_actives_18 ?_
    refine kr_if_eq C 26 dX3_actives_19 (by decide) (fun hc => ?_) (fun hc => ?_)
    · have h := (if_pos hc).symm.trans h
      refine kr_iconst C (v := 1) dX3_actives_26 (by decide) ?_
      refine kr_iadd C dX3_actives_27 ?_
      refine kr_istore_n C [1, 0, 2] dX3_actives_28 rfl (by decide) rfl ?_
      refine kr_iinc C (v := (x2 + 1)) 2 [1, 2, 0] dX3_actives_29 rfl rfl (by decide) rfl ?_
      refine kr_goto C 4 dX3_actives_32 (by decide) ?_
      exact ih _ _ h
    have h := (if_neg hc).symm.trans h
    refine kr_iconst C (v := 0) dX3_actives_22 (by decide) ?_
    refine kr_goto C 27 dX3_actives_23 (by decide) ?_
    refine kr_iadd C dX3_actives_27 ?_
    refine kr_istore_n C [1, 0, 2] dX3_actives_28 rfl (by decide) rfl ?_
    refine kr_iinc C (v := (x2 + 1)) 2 [1, 2, 0] dX3_actives_29 rfl rfl (by decide) rfl ?_
    refine kr_goto C 4 dX3_actives_32 (by decide) ?_
    exact ih _ _ h
set_option maxHeartbeats 4000000 in
set_option maxRecDepth 100000 in
theorem c_X3_actives {l : Launch} {D : va_G} {cy : Nat → ClassId} {a : Nat → Nat} {Z : va_W} {S : kSt} {r : Int32} (h : f_X3_actives S = some r) : kM l yX3_actives wsX3_actives ({ frames := 0, cells := 0, slots := 0, locals := 0 } : Room) D cy (yw a cy S Z) [.ref (a 0)] (yw a cy S Z) (some (.int r)) 0 0 := by
  rw [f_X3_actives] at h
  refine kM.start (L := [(0, .ref (a 0))]) rfl rfl rfl (Nat.le_of_ble_eq_true rfl) rfl (fun K A C => ?_)
  refine kr_iconst C (v := 0) dX3_actives_0 (by decide) ?_
  refine kr_istore_n C [1, 0] dX3_actives_1 rfl (by decide) rfl ?_
  refine kr_iconst C (v := 0) dX3_actives_2 (by decide) ?_
  refine kr_istore_n C [1, 2, 0] dX3_actives_3 rfl (by decide) rfl ?_
  exact lc_X3_actives_L4 C _ _ _ h
theorem flX3_tells_54 : Cond.fieldLink RX3 54 "FolderKeeperModel" "code" "I" ∈ wsX3_tells := by decide +kernel
theorem inX3_tells_X3 : ∀ w ∈ wsX30, w ∈ wsX3_tells := fun _ h => List.mem_cons_of_mem _ (List.mem_append_right _ h)
set_option maxHeartbeats 4000000 in
set_option maxRecDepth 100000 in
theorem c_X3_tells {l : Launch} {D : va_G} {cy : Nat → ClassId} {a : Nat → Nat} {Z : va_W} {S : kSt} {p1 : Int32} {r : (Int32 × kSt)} (h : f_X3_tells S p1 = some r) : kM l yX3_tells wsX3_tells ({ frames := 0, cells := 0, slots := 0, locals := 0 } : Room) D cy (yw a cy S Z) [.ref (a 0), .int p1] (yw a cy r.2 Z) (some (.int r.1)) 0 0 := by
  rw [f_X3_tells] at h
  refine kM.start (L := [(0, .ref (a 0)), (1, .int (p1))]) rfl rfl rfl (Nat.le_of_ble_eq_true rfl) rfl (fun K A C => ?_)
  refine kr_aload_n C 0 dX3_tells_0 rfl rfl ?_
  refine kr_iconst C (v := 0) dX3_tells_1 (by decide) ?_
  refine kr_put C inX3_tells_X3 tyX3_ok nmX3 0 rfl rfl 18 (by decide) flX3_tells_54 rfl rfl rfl rfl rfl (by show 18 < 19; decide) (yp18 _ _ _ _ _) dX3_tells_2 ?_
  refine kr_iload_n C 1 dX3_tells_5 rfl rfl ?_
  cases h
  exact kr_ret_i C (Nat.le_of_ble_eq_true rfl) (Nat.le_of_ble_eq_true rfl) dX3_tells_6
set_option maxHeartbeats 4000000 in
set_option maxRecDepth 100000 in
theorem c_X3_active {l : Launch} {D : va_G} {cy : Nat → ClassId} {a : Nat → Nat} {Z : va_W} {S : kSt} {r : (Int32 × kSt)} (h : f_X3_active S = some r) : kM l yX3_active wsX3_active ({ frames := 1, cells := 0, slots := 0, locals := 22 } : Room) D cy (yw a cy S Z) [.ref (a 0)] (yw a cy r.2 Z) (some (.int r.1)) 0 0 := by
  rw [f_X3_active] at h
  refine kM.start (L := [(0, .ref (a 0))]) rfl rfl rfl (Nat.le_of_ble_eq_true rfl) rfl (fun K A C => ?_)
  refine kr_aload_n C 0 dX3_active_0 rfl rfl ?_
  refine kr_aload_n C 0 dX3_active_1 rfl rfl ?_
  obtain ⟨v1, hv1, h⟩ := kob h
  refine kr_callV1 C (k := 0) (As := []) (rest := [.ref (a 0)]) (c_X3_actives hv1) gX3_active_X3_actives rfl rfl rfl (by decide +kernel) ⟨(Nat.le_of_ble_eq_true rfl), (Nat.le_of_ble_eq_true rfl)⟩ ⟨(Nat.le_of_ble_eq_true rfl), (Nat.le_of_ble_eq_true rfl)⟩ 0 rfl rfl rfl rfl (Nat.le_of_ble_eq_true rfl) dX3_active_2 ?_
  obtain ⟨v2, hv2, h⟩ := kob h
  refine kr_callV1 C (k := 1) (As := [.int v1]) (rest := []) (c_X3_tells hv2) gX3_active_X3_tells rfl rfl rfl (by decide +kernel) ⟨(Nat.le_of_ble_eq_true rfl), (Nat.le_of_ble_eq_true rfl)⟩ ⟨(Nat.le_of_ble_eq_true rfl), (Nat.le_of_ble_eq_true rfl)⟩ 0 rfl rfl rfl rfl (Nat.le_of_ble_eq_true rfl) dX3_active_5 ?_
  cases h
  exact kr_ret_i C (Nat.le_of_ble_eq_true rfl) (Nat.le_of_ble_eq_true rfl) dX3_active_8
theorem flX3_fails_54 : Cond.fieldLink RX3 54 "FolderKeeperModel" "code" "I" ∈ wsX3_fails := by decide +kernel
theorem inX3_fails_X3 : ∀ w ∈ wsX30, w ∈ wsX3_fails := fun _ h => List.mem_cons_of_mem _ (List.mem_append_right _ h)
set_option maxHeartbeats 4000000 in
set_option maxRecDepth 100000 in
theorem c_X3_fails {l : Launch} {D : va_G} {cy : Nat → ClassId} {a : Nat → Nat} {Z : va_W} {S : kSt} {p1 : Int32} {r : (Bool × kSt)} (h : f_X3_fails S p1 = some r) : kM l yX3_fails wsX3_fails ({ frames := 0, cells := 0, slots := 0, locals := 0 } : Room) D cy (yw a cy S Z) [.ref (a 0), .int p1] (yw a cy r.2 Z) (some (.int (b2i r.1))) 0 0 := by
  rw [f_X3_fails] at h
  refine kM.start (L := [(0, .ref (a 0)), (1, .int (p1))]) rfl rfl rfl (Nat.le_of_ble_eq_true rfl) rfl (fun K A C => ?_)
  refine kr_aload_n C 0 dX3_fails_0 rfl rfl ?_
  refine kr_iload_n C 1 dX3_fails_1 rfl rfl ?_
  refine kr_put C inX3_fails_X3 tyX3_ok nmX3 0 rfl rfl 18 (by decide) flX3_fails_54 rfl rfl rfl rfl rfl (by show 18 < 19; decide) (yp18 _ _ _ _ _) dX3_fails_2 ?_
  refine kr_iload_n C 1 dX3_fails_5 rfl rfl ?_
  refine kr_if_le C 13 dX3_fails_6 (by decide) (fun hc => ?_) (fun hc => ?_)
  · have h := (if_pos hc).symm.trans h
    refine kr_iconst C (v := 0) dX3_fails_13 (by decide) ?_
    cases h
    exact kr_ret_z (v := b2i false) C (nar_b _) (Nat.le_of_ble_eq_true rfl) (Nat.le_of_ble_eq_true rfl) dX3_fails_14
  have h := (if_neg hc).symm.trans h
  refine kr_iconst C (v := 1) dX3_fails_9 (by decide) ?_
  refine kr_goto C 14 dX3_fails_10 (by decide) ?_
  cases h
  exact kr_ret_z (v := b2i true) C (nar_b _) (Nat.le_of_ble_eq_true rfl) (Nat.le_of_ble_eq_true rfl) dX3_fails_14
theorem flX3_addAccount_7 : Cond.fieldLink RX3 7 "FolderKeeperModel" "accounts" "I" ∈ wsX3_addAccount := by decide +kernel
theorem inX3_addAccount_X3 : ∀ w ∈ wsX30, w ∈ wsX3_addAccount := fun _ h => List.mem_cons_of_mem _ (List.mem_append_right _ h)
set_option maxHeartbeats 4000000 in
set_option maxRecDepth 100000 in
theorem c_X3_addAccount {l : Launch} {D : va_G} {cy : Nat → ClassId} {a : Nat → Nat} {Z : va_W} {S : kSt} {r : (Int32 × kSt)} (h : f_X3_addAccount S = some r) : kM l yX3_addAccount wsX3_addAccount ({ frames := 1, cells := 0, slots := 0, locals := 21 } : Room) D cy (yw a cy S Z) [.ref (a 0)] (yw a cy r.2 Z) (some (.int r.1)) 0 0 := by
  rw [f_X3_addAccount] at h
  refine kM.start (L := [(0, .ref (a 0))]) rfl rfl rfl (Nat.le_of_ble_eq_true rfl) rfl (fun K A C => ?_)
  refine kr_aload_n C 0 dX3_addAccount_0 rfl rfl ?_
  refine kr_aload_n C 0 dX3_addAccount_1 rfl rfl ?_
  refine kr_get C inX3_addAccount_X3 0 rfl rfl 0 (by decide) flX3_addAccount_7 rfl rfl dX3_addAccount_2 ?_
  refine kr_bipush C (v := 10) dX3_addAccount_5 (by decide) ?_
  refine kr_icmp_ne C 14 dX3_addAccount_7 (by decide) (fun hc => ?_) (fun hc => ?_)
  · have h := (if_pos hc).symm.trans h
    refine kr_iconst C (v := 1) dX3_addAccount_10 (by decide) ?_
    refine kr_goto C 15 dX3_addAccount_11 (by decide) ?_
    obtain ⟨v1, hv1, h⟩ := kob h
    refine kr_callV1 C (k := 1) (As := [.int (1 : Int32)]) (rest := []) (c_X3_fails hv1) gX3_addAccount_X3_fails rfl rfl rfl (by decide +kernel) ⟨(Nat.le_of_ble_eq_true rfl), (Nat.le_of_ble_eq_true rfl)⟩ ⟨(Nat.le_of_ble_eq_true rfl), (Nat.le_of_ble_eq_true rfl)⟩ 0 rfl rfl rfl rfl (Nat.le_of_ble_eq_true rfl) dX3_addAccount_15 ?_
    refine kr_if_eq C 23 dX3_addAccount_18 (by decide) (fun hc => ?_) (fun hc => ?_)
    · have h := (if_pos hc).symm.trans h
      refine kr_aload_n C 0 dX3_addAccount_23 rfl rfl ?_
      refine kr_dup C dX3_addAccount_24 rfl ?_
      refine kr_get C inX3_addAccount_X3 0 rfl rfl 0 (by decide) flX3_addAccount_7 rfl rfl dX3_addAccount_25 ?_
      refine kr_iconst C (v := 1) dX3_addAccount_28 (by decide) ?_
      refine kr_iadd C dX3_addAccount_29 ?_
      refine kr_put C inX3_addAccount_X3 tyX3_ok nmX3 0 rfl rfl 0 (by decide) flX3_addAccount_7 rfl rfl rfl rfl rfl (by show 0 < 19; decide) (yp0 _ _ _ _ _) dX3_addAccount_30 ?_
      refine kr_aload_n C 0 dX3_addAccount_33 rfl rfl ?_
      refine kr_get C inX3_addAccount_X3 0 rfl rfl 0 (by decide) flX3_addAccount_7 rfl rfl dX3_addAccount_34 ?_
      refine kr_iconst C (v := 1) dX3_addAccount_37 (by decide) ?_
      refine kr_isub C dX3_addAccount_38 ?_
      cases h
      exact kr_ret_i C (Nat.le_of_ble_eq_true rfl) (Nat.le_of_ble_eq_true rfl) dX3_addAccount_39
    have h := (if_neg hc).symm.trans h
    refine kr_iconst C (v := 0) dX3_addAccount_21 (by decide) ?_
    cases h
    exact kr_ret_i C (Nat.le_of_ble_eq_true rfl) (Nat.le_of_ble_eq_true rfl) dX3_addAccount_22
  have h := (if_neg hc).symm.trans h
  refine kr_iconst C (v := 0) dX3_addAccount_14 (by decide) ?_
  obtain ⟨v2, hv2, h⟩ := kob h
  refine kr_callV1 C (k := 1) (As := [.int (0 : Int32)]) (rest := []) (c_X3_fails hv2) gX3_addAccount_X3_fails rfl rfl rfl (by decide +kernel) ⟨(Nat.le_of_ble_eq_true rfl), (Nat.le_of_ble_eq_true rfl)⟩ ⟨(Nat.le_of_ble_eq_true rfl), (Nat.le_of_ble_eq_true rfl)⟩ 0 rfl rfl rfl rfl (Nat.le_of_ble_eq_true rfl) dX3_addAccount_15 ?_
  refine kr_if_eq C 23 dX3_addAccount_18 (by decide) (fun hc => ?_) (fun hc => ?_)
  · have h := (if_pos hc).symm.trans h
    refine kr_aload_n C 0 dX3_addAccount_23 rfl rfl ?_
    refine kr_dup C dX3_addAccount_24 rfl ?_
    refine kr_get C inX3_addAccount_X3 0 rfl rfl 0 (by decide) flX3_addAccount_7 rfl rfl dX3_addAccount_25 ?_
    refine kr_iconst C (v := 1) dX3_addAccount_28 (by decide) ?_
    refine kr_iadd C dX3_addAccount_29 ?_
    refine kr_put C inX3_addAccount_X3 tyX3_ok nmX3 0 rfl rfl 0 (by decide) flX3_addAccount_7 rfl rfl rfl rfl rfl (by show 0 < 19; decide) (yp0 _ _ _ _ _) dX3_addAccount_30 ?_
    refine kr_aload_n C 0 dX3_addAccount_33 rfl rfl ?_
    refine kr_get C inX3_addAccount_X3 0 rfl rfl 0 (by decide) flX3_addAccount_7 rfl rfl dX3_addAccount_34 ?_
    refine kr_iconst C (v := 1) dX3_addAccount_37 (by decide) ?_
    refine kr_isub C dX3_addAccount_38 ?_
    cases h
    exact kr_ret_i C (Nat.le_of_ble_eq_true rfl) (Nat.le_of_ble_eq_true rfl) dX3_addAccount_39
  have h := (if_neg hc).symm.trans h
  refine kr_iconst C (v := 0) dX3_addAccount_21 (by decide) ?_
  cases h
  exact kr_ret_i C (Nat.le_of_ble_eq_true rfl) (Nat.le_of_ble_eq_true rfl) dX3_addAccount_22
set_option maxHeartbeats 4000000 in
set_option maxRecDepth 100000 in
theorem c_X3_in {l : Launch} {D : va_G} {cy : Nat → ClassId} {X : va_W} {p1 : Int32} {p2 : Int32} {p3 : Int32} {r : Bool} (h : f_X3_in p1 p2 p3 = some r) : kM l yX3_in wsX3_in ({ frames := 0, cells := 0, slots := 0, locals := 0 } : Room) D cy X [.int p1, .int p2, .int p3] X (some (.int (b2i r))) 0 0 := by
  rw [f_X3_in] at h
  refine kM.start (L := [(0, .int (p1)), (1, .int (p2)), (2, .int (p3))]) rfl rfl rfl (Nat.le_of_ble_eq_true rfl) rfl (fun K A C => ?_)
  refine kr_iload_n C 0 dX3_in_0 rfl rfl ?_
  refine kr_iload_n C 1 dX3_in_1 rfl rfl ?_
  refine kr_icmp_lt C 14 dX3_in_2 (by decide) (fun hc => ?_) (fun hc => ?_)
  · have h := (if_pos hc).symm.trans h
    refine kr_iconst C (v := 0) dX3_in_14 (by decide) ?_
    cases h
    exact kr_ret_z (v := b2i false) C (nar_b _) (Nat.le_of_ble_eq_true rfl) (Nat.le_of_ble_eq_true rfl) dX3_in_15
  have h := (if_neg hc).symm.trans h
  refine kr_iload_n C 0 dX3_in_5 rfl rfl ?_
  refine kr_iload_n C 2 dX3_in_6 rfl rfl ?_
  refine kr_icmp_gt C 14 dX3_in_7 (by decide) (fun hc => ?_) (fun hc => ?_)
  · have h := (if_pos hc).symm.trans h
    refine kr_iconst C (v := 0) dX3_in_14 (by decide) ?_
    cases h
    exact kr_ret_z (v := b2i false) C (nar_b _) (Nat.le_of_ble_eq_true rfl) (Nat.le_of_ble_eq_true rfl) dX3_in_15
  have h := (if_neg hc).symm.trans h
  refine kr_iconst C (v := 1) dX3_in_10 (by decide) ?_
  refine kr_goto C 15 dX3_in_11 (by decide) ?_
  cases h
  exact kr_ret_z (v := b2i true) C (nar_b _) (Nat.le_of_ble_eq_true rfl) (Nat.le_of_ble_eq_true rfl) dX3_in_15
theorem flX3_isNoAccount_7 : Cond.fieldLink RX3 7 "FolderKeeperModel" "accounts" "I" ∈ wsX3_isNoAccount := by decide +kernel
theorem inX3_isNoAccount_X3 : ∀ w ∈ wsX30, w ∈ wsX3_isNoAccount := fun _ h => List.mem_cons_of_mem _ (List.mem_append_right _ h)
set_option maxHeartbeats 4000000 in
set_option maxRecDepth 100000 in
theorem c_X3_isNoAccount {l : Launch} {D : va_G} {cy : Nat → ClassId} {a : Nat → Nat} {Z : va_W} {S : kSt} {p1 : Int32} {r : Bool} (h : f_X3_isNoAccount S p1 = some r) : kM l yX3_isNoAccount wsX3_isNoAccount ({ frames := 1, cells := 0, slots := 0, locals := 22 } : Room) D cy (yw a cy S Z) [.ref (a 0), .int p1] (yw a cy S Z) (some (.int (b2i r))) 0 0 := by
  rw [f_X3_isNoAccount] at h
  refine kM.start (L := [(0, .ref (a 0)), (1, .int (p1))]) rfl rfl rfl (Nat.le_of_ble_eq_true rfl) rfl (fun K A C => ?_)
  refine kr_iload_n C 1 dX3_isNoAccount_0 rfl rfl ?_
  refine kr_iconst C (v := 0) dX3_isNoAccount_1 (by decide) ?_
  refine kr_aload_n C 0 dX3_isNoAccount_2 rfl rfl ?_
  refine kr_get C inX3_isNoAccount_X3 0 rfl rfl 0 (by decide) flX3_isNoAccount_7 rfl rfl dX3_isNoAccount_3 ?_
  refine kr_iconst C (v := 1) dX3_isNoAccount_6 (by decide) ?_
  refine kr_isub C dX3_isNoAccount_7 ?_
  obtain ⟨v1, hv1, h⟩ := kob h
  refine kr_callS1 C (k := 3) (As := [.int p1, .int (0 : Int32), .int ((S.1 0) - (1 : Int32))]) (rest := []) (c_X3_in hv1) gX3_isNoAccount_X3_in rfl rfl rfl (by decide +kernel) ⟨(Nat.le_of_ble_eq_true rfl), (Nat.le_of_ble_eq_true rfl)⟩ ⟨(Nat.le_of_ble_eq_true rfl), (Nat.le_of_ble_eq_true rfl)⟩ rfl rfl (Nat.le_of_ble_eq_true rfl) dX3_isNoAccount_8 ?_
  refine kr_if_ne C 18 dX3_isNoAccount_11 (by decide) (fun hc => ?_) (fun hc => ?_)
  · have h := (if_pos hc).symm.trans h
    refine kr_iconst C (v := 1) dX3_isNoAccount_14 (by decide) ?_
    refine kr_goto C 19 dX3_isNoAccount_15 (by decide) ?_
    cases h
    exact kr_ret_z (v := b2i true) C (nar_b _) (Nat.le_of_ble_eq_true rfl) (Nat.le_of_ble_eq_true rfl) dX3_isNoAccount_19
  have h := (if_neg hc).symm.trans h
  refine kr_iconst C (v := 0) dX3_isNoAccount_18 (by decide) ?_
  cases h
  exact kr_ret_z (v := b2i false) C (nar_b _) (Nat.le_of_ble_eq_true rfl) (Nat.le_of_ble_eq_true rfl) dX3_isNoAccount_19
theorem flX3_isNoFolder_64 : Cond.fieldLink RX3 64 "FolderKeeperModel" "folders" "I" ∈ wsX3_isNoFolder := by decide +kernel
theorem inX3_isNoFolder_X3 : ∀ w ∈ wsX30, w ∈ wsX3_isNoFolder := fun _ h => List.mem_cons_of_mem _ (List.mem_append_right _ h)
set_option maxHeartbeats 4000000 in
set_option maxRecDepth 100000 in
theorem c_X3_isNoFolder {l : Launch} {D : va_G} {cy : Nat → ClassId} {a : Nat → Nat} {Z : va_W} {S : kSt} {p1 : Int32} {r : Bool} (h : f_X3_isNoFolder S p1 = some r) : kM l yX3_isNoFolder wsX3_isNoFolder ({ frames := 1, cells := 0, slots := 0, locals := 22 } : Room) D cy (yw a cy S Z) [.ref (a 0), .int p1] (yw a cy S Z) (some (.int (b2i r))) 0 0 := by
  rw [f_X3_isNoFolder] at h
  refine kM.start (L := [(0, .ref (a 0)), (1, .int (p1))]) rfl rfl rfl (Nat.le_of_ble_eq_true rfl) rfl (fun K A C => ?_)
  refine kr_iload_n C 1 dX3_isNoFolder_0 rfl rfl ?_
  refine kr_iconst C (v := 0) dX3_isNoFolder_1 (by decide) ?_
  refine kr_aload_n C 0 dX3_isNoFolder_2 rfl rfl ?_
  refine kr_get C inX3_isNoFolder_X3 0 rfl rfl 7 (by decide) flX3_isNoFolder_64 rfl rfl dX3_isNoFolder_3 ?_
  refine kr_iconst C (v := 1) dX3_isNoFolder_6 (by decide) ?_
  refine kr_isub C dX3_isNoFolder_7 ?_
  obtain ⟨v1, hv1, h⟩ := kob h
  refine kr_callS1 C (k := 3) (As := [.int p1, .int (0 : Int32), .int ((S.1 7) - (1 : Int32))]) (rest := []) (c_X3_in hv1) gX3_isNoFolder_X3_in rfl rfl rfl (by decide +kernel) ⟨(Nat.le_of_ble_eq_true rfl), (Nat.le_of_ble_eq_true rfl)⟩ ⟨(Nat.le_of_ble_eq_true rfl), (Nat.le_of_ble_eq_true rfl)⟩ rfl rfl (Nat.le_of_ble_eq_true rfl) dX3_isNoFolder_8 ?_
  refine kr_if_ne C 18 dX3_isNoFolder_11 (by decide) (fun hc => ?_) (fun hc => ?_)
  · have h := (if_pos hc).symm.trans h
    refine kr_iconst C (v := 1) dX3_isNoFolder_14 (by decide) ?_
    refine kr_goto C 19 dX3_isNoFolder_15 (by decide) ?_
    cases h
    exact kr_ret_z (v := b2i true) C (nar_b _) (Nat.le_of_ble_eq_true rfl) (Nat.le_of_ble_eq_true rfl) dX3_isNoFolder_19
  have h := (if_neg hc).symm.trans h
  refine kr_iconst C (v := 0) dX3_isNoFolder_18 (by decide) ?_
  cases h
  exact kr_ret_z (v := b2i false) C (nar_b _) (Nat.le_of_ble_eq_true rfl) (Nat.le_of_ble_eq_true rfl) dX3_isNoFolder_19
theorem flX3_addFolder_13 : Cond.fieldLink RX3 13 "FolderKeeperModel" "haveLeft" "[Z" ∈ wsX3_addFolder := by decide +kernel
theorem inX3_addFolder_X3 : ∀ w ∈ wsX30, w ∈ wsX3_addFolder := fun _ h => List.mem_cons_of_mem _ (List.mem_append_left _ (List.mem_append_right _ h))
theorem flX3_addFolder_64 : Cond.fieldLink RX3 64 "FolderKeeperModel" "folders" "I" ∈ wsX3_addFolder := by decide +kernel
theorem flX3_addFolder_30 : Cond.fieldLink RX3 30 "FolderKeeperModel" "owners" "[I" ∈ wsX3_addFolder := by decide +kernel
theorem flX3_addFolder_33 : Cond.fieldLink RX3 33 "FolderKeeperModel" "parents" "[I" ∈ wsX3_addFolder := by decide +kernel
set_option maxHeartbeats 4000000 in
set_option maxRecDepth 100000 in
theorem c_X3_addFolder {l : Launch} {D : va_G} {cy : Nat → ClassId} {a : Nat → Nat} {Z : va_W} {S : kSt} {p1 : Int32} {p2 : Int32} {r : (Int32 × kSt)} (h : f_X3_addFolder S p1 p2 = some r) : kM l yX3_addFolder wsX3_addFolder ({ frames := 2, cells := 0, slots := 0, locals := 43 } : Room) D cy (yw a cy S Z) [.ref (a 0), .int p1, .int p2] (yw a cy r.2 Z) (some (.int r.1)) 0 0 := by
  rw [f_X3_addFolder] at h
  refine kM.start (L := [(0, .ref (a 0)), (1, .int (p1)), (2, .int (p2))]) rfl rfl rfl (Nat.le_of_ble_eq_true rfl) rfl (fun K A C => ?_)
  refine kr_aload_n C 0 dX3_addFolder_0 rfl rfl ?_
  refine kr_aload_n C 0 dX3_addFolder_1 rfl rfl ?_
  refine kr_iload_n C 1 dX3_addFolder_2 rfl rfl ?_
  obtain ⟨v1, hv1, h⟩ := kob h
  refine kr_callV1 C (k := 1) (As := [.int p1]) (rest := [.ref (a 0)]) (c_X3_isNoAccount hv1) gX3_addFolder_X3_isNoAccount rfl rfl rfl (by decide +kernel) ⟨(Nat.le_of_ble_eq_true rfl), (Nat.le_of_ble_eq_true rfl)⟩ ⟨(Nat.le_of_ble_eq_true rfl), (Nat.le_of_ble_eq_true rfl)⟩ 0 rfl rfl rfl rfl (Nat.le_of_ble_eq_true rfl) dX3_addFolder_3 ?_
  refine kr_if_ne C 22 dX3_addFolder_6 (by decide) (fun hc => ?_) (fun hc => ?_)
  · have h := (if_pos hc).symm.trans h
    refine kr_iload_n C 2 dX3_addFolder_9 rfl rfl ?_
    refine kr_iconst C (v := -1) dX3_addFolder_10 (by decide) ?_
    refine kr_icmp_eq C 26 dX3_addFolder_11 (by decide) (fun hc => ?_) (fun hc => ?_)
    · have h := (if_pos hc).symm.trans h
      refine kr_aload_n C 0 dX3_addFolder_26 rfl rfl ?_
      refine kr_get C inX3_addFolder_X3 0 rfl rfl 1 (by decide) flX3_addFolder_13 rfl rfl dX3_addFolder_27 ?_
      refine kr_iload_n C 1 dX3_addFolder_30 rfl rfl ?_
      obtain ⟨hb2, h⟩ := kif h
      refine kr_zald C 1 rfl (kin_in hb2) dX3_addFolder_31 ?_
      refine kr_if_eq C 39 dX3_addFolder_32 (by decide) (fun hc => ?_) (fun hc => ?_)
      · have h := (if_pos hc).symm.trans h
        refine kr_aload_n C 0 dX3_addFolder_39 rfl rfl ?_
        refine kr_get C inX3_addFolder_X3 0 rfl rfl 7 (by decide) flX3_addFolder_64 rfl rfl dX3_addFolder_40 ?_
        refine kr_bipush C (v := 12) dX3_addFolder_43 (by decide) ?_
        refine kr_icmp_ne C 52 dX3_addFolder_45 (by decide) (fun hc => ?_) (fun hc => ?_)
        · have h := (if_pos hc).symm.trans h
          refine kr_iconst C (v := 3) dX3_addFolder_48 (by decide) ?_
          refine kr_goto C 53 dX3_addFolder_49 (by decide) ?_
          obtain ⟨v3, hv3, h⟩ := kob h
          refine kr_callV1 C (k := 1) (As := [.int (3 : Int32)]) (rest := []) (c_X3_fails hv3) gX3_addFolder_X3_fails rfl rfl rfl (by decide +kernel) ⟨(Nat.le_of_ble_eq_true rfl), (Nat.le_of_ble_eq_true rfl)⟩ ⟨(Nat.le_of_ble_eq_true rfl), (Nat.le_of_ble_eq_true rfl)⟩ 0 rfl rfl rfl rfl (Nat.le_of_ble_eq_true rfl) dX3_addFolder_53 ?_
          refine kr_if_eq C 61 dX3_addFolder_56 (by decide) (fun hc => ?_) (fun hc => ?_)
          · have h := (if_pos hc).symm.trans h
            refine kr_aload_n C 0 dX3_addFolder_61 rfl rfl ?_
            refine kr_get C inX3_addFolder_X3 0 rfl rfl 8 (by decide) flX3_addFolder_30 rfl rfl dX3_addFolder_62 ?_
            refine kr_aload_n C 0 dX3_addFolder_65 rfl rfl ?_
            refine kr_get C inX3_addFolder_X3 0 rfl rfl 7 (by decide) flX3_addFolder_64 rfl rfl dX3_addFolder_66 ?_
            refine kr_iload_n C 1 dX3_addFolder_69 rfl rfl ?_
            obtain ⟨hb4, h⟩ := kif h
            refine kr_iast C 6 rfl (kin_in hb4) (yq8 _ _ _ _ _) dX3_addFolder_70 ?_
            refine kr_aload_n C 0 dX3_addFolder_71 rfl rfl ?_
            refine kr_get C inX3_addFolder_X3 0 rfl rfl 9 (by decide) flX3_addFolder_33 rfl rfl dX3_addFolder_72 ?_
            refine kr_aload_n C 0 dX3_addFolder_75 rfl rfl ?_
            refine kr_get C inX3_addFolder_X3 0 rfl rfl 7 (by decide) flX3_addFolder_64 rfl rfl dX3_addFolder_76 ?_
            refine kr_iload_n C 2 dX3_addFolder_79 rfl rfl ?_
            obtain ⟨hb5, h⟩ := kif h
            refine kr_iast C 7 rfl (kin_in hb5) (yq9 _ _ _ _ _) dX3_addFolder_80 ?_
            refine kr_aload_n C 0 dX3_addFolder_81 rfl rfl ?_
            refine kr_dup C dX3_addFolder_82 rfl ?_
            refine kr_get C inX3_addFolder_X3 0 rfl rfl 7 (by decide) flX3_addFolder_64 rfl rfl dX3_addFolder_83 ?_
            refine kr_iconst C (v := 1) dX3_addFolder_86 (by decide) ?_
            refine kr_iadd C dX3_addFolder_87 ?_
            refine kr_put C inX3_addFolder_X3 tyX3_ok nmX3 0 rfl rfl 7 (by decide) flX3_addFolder_64 rfl rfl rfl rfl rfl (by show 7 < 19; decide) (yp7 _ _ _ _ _) dX3_addFolder_88 ?_
            refine kr_aload_n C 0 dX3_addFolder_91 rfl rfl ?_
            refine kr_get C inX3_addFolder_X3 0 rfl rfl 7 (by decide) flX3_addFolder_64 rfl rfl dX3_addFolder_92 ?_
            refine kr_iconst C (v := 1) dX3_addFolder_95 (by decide) ?_
            refine kr_isub C dX3_addFolder_96 ?_
            cases h
            exact kr_ret_i C (Nat.le_of_ble_eq_true rfl) (Nat.le_of_ble_eq_true rfl) dX3_addFolder_97
          have h := (if_neg hc).symm.trans h
          refine kr_iconst C (v := 0) dX3_addFolder_59 (by decide) ?_
          cases h
          exact kr_ret_i C (Nat.le_of_ble_eq_true rfl) (Nat.le_of_ble_eq_true rfl) dX3_addFolder_60
        have h := (if_neg hc).symm.trans h
        refine kr_iconst C (v := 0) dX3_addFolder_52 (by decide) ?_
        obtain ⟨v6, hv6, h⟩ := kob h
        refine kr_callV1 C (k := 1) (As := [.int (0 : Int32)]) (rest := []) (c_X3_fails hv6) gX3_addFolder_X3_fails rfl rfl rfl (by decide +kernel) ⟨(Nat.le_of_ble_eq_true rfl), (Nat.le_of_ble_eq_true rfl)⟩ ⟨(Nat.le_of_ble_eq_true rfl), (Nat.le_of_ble_eq_true rfl)⟩ 0 rfl rfl rfl rfl (Nat.le_of_ble_eq_true rfl) dX3_addFolder_53 ?_
        refine kr_if_eq C 61 dX3_addFolder_56 (by decide) (fun hc => ?_) (fun hc => ?_)
        · have h := (if_pos hc).symm.trans h
          refine kr_aload_n C 0 dX3_addFolder_61 rfl rfl ?_
          refine kr_get C inX3_addFolder_X3 0 rfl rfl 8 (by decide) flX3_addFolder_30 rfl rfl dX3_addFolder_62 ?_
          refine kr_aload_n C 0 dX3_addFolder_65 rfl rfl ?_
          refine kr_get C inX3_addFolder_X3 0 rfl rfl 7 (by decide) flX3_addFolder_64 rfl rfl dX3_addFolder_66 ?_
          refine kr_iload_n C 1 dX3_addFolder_69 rfl rfl ?_
          obtain ⟨hb7, h⟩ := kif h
          refine kr_iast C 6 rfl (kin_in hb7) (yq8 _ _ _ _ _) dX3_addFolder_70 ?_
          refine kr_aload_n C 0 dX3_addFolder_71 rfl rfl ?_
          refine kr_get C inX3_addFolder_X3 0 rfl rfl 9 (by decide) flX3_addFolder_33 rfl rfl dX3_addFolder_72 ?_
          refine kr_aload_n C 0 dX3_addFolder_75 rfl rfl ?_
          refine kr_get C inX3_addFolder_X3 0 rfl rfl 7 (by decide) flX3_addFolder_64 rfl rfl dX3_addFolder_76 ?_
          refine kr_iload_n C 2 dX3_addFolder_79 rfl rfl ?_
          obtain ⟨hb8, h⟩ := kif h
          refine kr_iast C 7 rfl (kin_in hb8) (yq9 _ _ _ _ _) dX3_addFolder_80 ?_
          refine kr_aload_n C 0 dX3_addFolder_81 rfl rfl ?_
          refine kr_dup C dX3_addFolder_82 rfl ?_
          refine kr_get C inX3_addFolder_X3 0 rfl rfl 7 (by decide) flX3_addFolder_64 rfl rfl dX3_addFolder_83 ?_
          refine kr_iconst C (v := 1) dX3_addFolder_86 (by decide) ?_
          refine kr_iadd C dX3_addFolder_87 ?_
          refine kr_put C inX3_addFolder_X3 tyX3_ok nmX3 0 rfl rfl 7 (by decide) flX3_addFolder_64 rfl rfl rfl rfl rfl (by show 7 < 19; decide) (yp7 _ _ _ _ _) dX3_addFolder_88 ?_
          refine kr_aload_n C 0 dX3_addFolder_91 rfl rfl ?_
          refine kr_get C inX3_addFolder_X3 0 rfl rfl 7 (by decide) flX3_addFolder_64 rfl rfl dX3_addFolder_92 ?_
          refine kr_iconst C (v := 1) dX3_addFolder_95 (by decide) ?_
          refine kr_isub C dX3_addFolder_96 ?_
          cases h
          exact kr_ret_i C (Nat.le_of_ble_eq_true rfl) (Nat.le_of_ble_eq_true rfl) dX3_addFolder_97
        have h := (if_neg hc).symm.trans h
        refine kr_iconst C (v := 0) dX3_addFolder_59 (by decide) ?_
        cases h
        exact kr_ret_i C (Nat.le_of_ble_eq_true rfl) (Nat.le_of_ble_eq_true rfl) dX3_addFolder_60
      have h := (if_neg hc).symm.trans h
      refine kr_iconst C (v := 2) dX3_addFolder_35 (by decide) ?_
      refine kr_goto C 53 dX3_addFolder_36 (by decide) ?_
      obtain ⟨v9, hv9, h⟩ := kob h
      refine kr_callV1 C (k := 1) (As := [.int (2 : Int32)]) (rest := []) (c_X3_fails hv9) gX3_addFolder_X3_fails rfl rfl rfl (by decide +kernel) ⟨(Nat.le_of_ble_eq_true rfl), (Nat.le_of_ble_eq_true rfl)⟩ ⟨(Nat.le_of_ble_eq_true rfl), (Nat.le_of_ble_eq_true rfl)⟩ 0 rfl rfl rfl rfl (Nat.le_of_ble_eq_true rfl) dX3_addFolder_53 ?_
      refine kr_if_eq C 61 dX3_addFolder_56 (by decide) (fun hc => ?_) (fun hc => ?_)
      · have h := (if_pos hc).symm.trans h
        refine kr_aload_n C 0 dX3_addFolder_61 rfl rfl ?_
        refine kr_get C inX3_addFolder_X3 0 rfl rfl 8 (by decide) flX3_addFolder_30 rfl rfl dX3_addFolder_62 ?_
        refine kr_aload_n C 0 dX3_addFolder_65 rfl rfl ?_
        refine kr_get C inX3_addFolder_X3 0 rfl rfl 7 (by decide) flX3_addFolder_64 rfl rfl dX3_addFolder_66 ?_
        refine kr_iload_n C 1 dX3_addFolder_69 rfl rfl ?_
        obtain ⟨hb10, h⟩ := kif h
        refine kr_iast C 6 rfl (kin_in hb10) (yq8 _ _ _ _ _) dX3_addFolder_70 ?_
        refine kr_aload_n C 0 dX3_addFolder_71 rfl rfl ?_
        refine kr_get C inX3_addFolder_X3 0 rfl rfl 9 (by decide) flX3_addFolder_33 rfl rfl dX3_addFolder_72 ?_
        refine kr_aload_n C 0 dX3_addFolder_75 rfl rfl ?_
        refine kr_get C inX3_addFolder_X3 0 rfl rfl 7 (by decide) flX3_addFolder_64 rfl rfl dX3_addFolder_76 ?_
        refine kr_iload_n C 2 dX3_addFolder_79 rfl rfl ?_
        obtain ⟨hb11, h⟩ := kif h
        refine kr_iast C 7 rfl (kin_in hb11) (yq9 _ _ _ _ _) dX3_addFolder_80 ?_
        refine kr_aload_n C 0 dX3_addFolder_81 rfl rfl ?_
        refine kr_dup C dX3_addFolder_82 rfl ?_
        refine kr_get C inX3_addFolder_X3 0 rfl rfl 7 (by decide) flX3_addFolder_64 rfl rfl dX3_addFolder_83 ?_
        refine kr_iconst C (v := 1) dX3_addFolder_86 (by decide) ?_
        refine kr_iadd C dX3_addFolder_87 ?_
        refine kr_put C inX3_addFolder_X3 tyX3_ok nmX3 0 rfl rfl 7 (by decide) flX3_addFolder_64 rfl rfl rfl rfl rfl (by show 7 < 19; decide) (yp7 _ _ _ _ _) dX3_addFolder_88 ?_
        refine kr_aload_n C 0 dX3_addFolder_91 rfl rfl ?_
        refine kr_get C inX3_addFolder_X3 0 rfl rfl 7 (by decide) flX3_addFolder_64 rfl rfl dX3_addFolder_92 ?_
        refine kr_iconst C (v := 1) dX3_addFolder_95 (by decide) ?_
        refine kr_isub C dX3_addFolder_96 ?_
        cases h
        exact kr_ret_i C (Nat.le_of_ble_eq_true rfl) (Nat.le_of_ble_eq_true rfl) dX3_addFolder_97
      have h := (if_neg hc).symm.trans h
      refine kr_iconst C (v := 0) dX3_addFolder_59 (by decide) ?_
      cases h
      exact kr_ret_i C (Nat.le_of_ble_eq_true rfl) (Nat.le_of_ble_eq_true rfl) dX3_addFolder_60
    have h := (if_neg hc).symm.trans h
    refine kr_aload_n C 0 dX3_addFolder_14 rfl rfl ?_
    refine kr_iload_n C 2 dX3_addFolder_15 rfl rfl ?_
    obtain ⟨v12, hv12, h⟩ := kob h
    refine kr_callV1 C (k := 1) (As := [.int p2]) (rest := [.ref (a 0)]) (c_X3_isNoFolder hv12) gX3_addFolder_X3_isNoFolder rfl rfl rfl (by decide +kernel) ⟨(Nat.le_of_ble_eq_true rfl), (Nat.le_of_ble_eq_true rfl)⟩ ⟨(Nat.le_of_ble_eq_true rfl), (Nat.le_of_ble_eq_true rfl)⟩ 0 rfl rfl rfl rfl (Nat.le_of_ble_eq_true rfl) dX3_addFolder_16 ?_
    refine kr_if_eq C 26 dX3_addFolder_19 (by decide) (fun hc => ?_) (fun hc => ?_)
    · have h := (if_pos hc).symm.trans h
      refine kr_aload_n C 0 dX3_addFolder_26 rfl rfl ?_
      refine kr_get C inX3_addFolder_X3 0 rfl rfl 1 (by decide) flX3_addFolder_13 rfl rfl dX3_addFolder_27 ?_
      refine kr_iload_n C 1 dX3_addFolder_30 rfl rfl ?_
      obtain ⟨hb13, h⟩ := kif h
      refine kr_zald C 1 rfl (kin_in hb13) dX3_addFolder_31 ?_
      refine kr_if_eq C 39 dX3_addFolder_32 (by decide) (fun hc => ?_) (fun hc => ?_)
      · have h := (if_pos hc).symm.trans h
        refine kr_aload_n C 0 dX3_addFolder_39 rfl rfl ?_
        refine kr_get C inX3_addFolder_X3 0 rfl rfl 7 (by decide) flX3_addFolder_64 rfl rfl dX3_addFolder_40 ?_
        refine kr_bipush C (v := 12) dX3_addFolder_43 (by decide) ?_
        refine kr_icmp_ne C 52 dX3_addFolder_45 (by decide) (fun hc => ?_) (fun hc => ?_)
        · have h := (if_pos hc).symm.trans h
          refine kr_iconst C (v := 3) dX3_addFolder_48 (by decide) ?_
          refine kr_goto C 53 dX3_addFolder_49 (by decide) ?_
          obtain ⟨v14, hv14, h⟩ := kob h
          refine kr_callV1 C (k := 1) (As := [.int (3 : Int32)]) (rest := []) (c_X3_fails hv14) gX3_addFolder_X3_fails rfl rfl rfl (by decide +kernel) ⟨(Nat.le_of_ble_eq_true rfl), (Nat.le_of_ble_eq_true rfl)⟩ ⟨(Nat.le_of_ble_eq_true rfl), (Nat.le_of_ble_eq_true rfl)⟩ 0 rfl rfl rfl rfl (Nat.le_of_ble_eq_true rfl) dX3_addFolder_53 ?_
          refine kr_if_eq C 61 dX3_addFolder_56 (by decide) (fun hc => ?_) (fun hc => ?_)
          · have h := (if_pos hc).symm.trans h
            refine kr_aload_n C 0 dX3_addFolder_61 rfl rfl ?_
            refine kr_get C inX3_addFolder_X3 0 rfl rfl 8 (by decide) flX3_addFolder_30 rfl rfl dX3_addFolder_62 ?_
            refine kr_aload_n C 0 dX3_addFolder_65 rfl rfl ?_
            refine kr_get C inX3_addFolder_X3 0 rfl rfl 7 (by decide) flX3_addFolder_64 rfl rfl dX3_addFolder_66 ?_
            refine kr_iload_n C 1 dX3_addFolder_69 rfl rfl ?_
            obtain ⟨hb15, h⟩ := kif h
            refine kr_iast C 6 rfl (kin_in hb15) (yq8 _ _ _ _ _) dX3_addFolder_70 ?_
            refine kr_aload_n C 0 dX3_addFolder_71 rfl rfl ?_
            refine kr_get C inX3_addFolder_X3 0 rfl rfl 9 (by decide) flX3_addFolder_33 rfl rfl dX3_addFolder_72 ?_
            refine kr_aload_n C 0 dX3_addFolder_75 rfl rfl ?_
            refine kr_get C inX3_addFolder_X3 0 rfl rfl 7 (by decide) flX3_addFolder_64 rfl rfl dX3_addFolder_76 ?_
            refine kr_iload_n C 2 dX3_addFolder_79 rfl rfl ?_
            obtain ⟨hb16, h⟩ := kif h
            refine kr_iast C 7 rfl (kin_in hb16) (yq9 _ _ _ _ _) dX3_addFolder_80 ?_
            refine kr_aload_n C 0 dX3_addFolder_81 rfl rfl ?_
            refine kr_dup C dX3_addFolder_82 rfl ?_
            refine kr_get C inX3_addFolder_X3 0 rfl rfl 7 (by decide) flX3_addFolder_64 rfl rfl dX3_addFolder_83 ?_
            refine kr_iconst C (v := 1) dX3_addFolder_86 (by decide) ?_
            refine kr_iadd C dX3_addFolder_87 ?_
            refine kr_put C inX3_addFolder_X3 tyX3_ok nmX3 0 rfl rfl 7 (by decide) flX3_addFolder_64 rfl rfl rfl rfl rfl (by show 7 < 19; decide) (yp7 _ _ _ _ _) dX3_addFolder_88 ?_
            refine kr_aload_n C 0 dX3_addFolder_91 rfl rfl ?_
            refine kr_get C inX3_addFolder_X3 0 rfl rfl 7 (by decide) flX3_addFolder_64 rfl rfl dX3_addFolder_92 ?_
            refine kr_iconst C (v := 1) dX3_addFolder_95 (by decide) ?_
            refine kr_isub C dX3_addFolder_96 ?_
            cases h
            exact kr_ret_i C (Nat.le_of_ble_eq_true rfl) (Nat.le_of_ble_eq_true rfl) dX3_addFolder_97
          have h := (if_neg hc).symm.trans h
          refine kr_iconst C (v := 0) dX3_addFolder_59 (by decide) ?_
          cases h
          exact kr_ret_i C (Nat.le_of_ble_eq_true rfl) (Nat.le_of_ble_eq_true rfl) dX3_addFolder_60
        have h := (if_neg hc).symm.trans h
        refine kr_iconst C (v := 0) dX3_addFolder_52 (by decide) ?_
        obtain ⟨v17, hv17, h⟩ := kob h
        refine kr_callV1 C (k := 1) (As := [.int (0 : Int32)]) (rest := []) (c_X3_fails hv17) gX3_addFolder_X3_fails rfl rfl rfl (by decide +kernel) ⟨(Nat.le_of_ble_eq_true rfl), (Nat.le_of_ble_eq_true rfl)⟩ ⟨(Nat.le_of_ble_eq_true rfl), (Nat.le_of_ble_eq_true rfl)⟩ 0 rfl rfl rfl rfl (Nat.le_of_ble_eq_true rfl) dX3_addFolder_53 ?_
        refine kr_if_eq C 61 dX3_addFolder_56 (by decide) (fun hc => ?_) (fun hc => ?_)
        · have h := (if_pos hc).symm.trans h
          refine kr_aload_n C 0 dX3_addFolder_61 rfl rfl ?_
          refine kr_get C inX3_addFolder_X3 0 rfl rfl 8 (by decide) flX3_addFolder_30 rfl rfl dX3_addFolder_62 ?_
          refine kr_aload_n C 0 dX3_addFolder_65 rfl rfl ?_
          refine kr_get C inX3_addFolder_X3 0 rfl rfl 7 (by decide) flX3_addFolder_64 rfl rfl dX3_addFolder_66 ?_
          refine kr_iload_n C 1 dX3_addFolder_69 rfl rfl ?_
          obtain ⟨hb18, h⟩ := kif h
          refine kr_iast C 6 rfl (kin_in hb18) (yq8 _ _ _ _ _) dX3_addFolder_70 ?_
          refine kr_aload_n C 0 dX3_addFolder_71 rfl rfl ?_
          refine kr_get C inX3_addFolder_X3 0 rfl rfl 9 (by decide) flX3_addFolder_33 rfl rfl dX3_addFolder_72 ?_
          refine kr_aload_n C 0 dX3_addFolder_75 rfl rfl ?_
          refine kr_get C inX3_addFolder_X3 0 rfl rfl 7 (by decide) flX3_addFolder_64 rfl rfl dX3_addFolder_76 ?_
          refine kr_iload_n C 2 dX3_addFolder_79 rfl rfl ?_
          obtain ⟨hb19, h⟩ := kif h
          refine kr_iast C 7 rfl (kin_in hb19) (yq9 _ _ _ _ _) dX3_addFolder_80 ?_
          refine kr_aload_n C 0 dX3_addFolder_81 rfl rfl ?_
          refine kr_dup C dX3_addFolder_82 rfl ?_
          refine kr_get C inX3_addFolder_X3 0 rfl rfl 7 (by decide) flX3_addFolder_64 rfl rfl dX3_addFolder_83 ?_
          refine kr_iconst C (v := 1) dX3_addFolder_86 (by decide) ?_
          refine kr_iadd C dX3_addFolder_87 ?_
          refine kr_put C inX3_addFolder_X3 tyX3_ok nmX3 0 rfl rfl 7 (by decide) flX3_addFolder_64 rfl rfl rfl rfl rfl (by show 7 < 19; decide) (yp7 _ _ _ _ _) dX3_addFolder_88 ?_
          refine kr_aload_n C 0 dX3_addFolder_91 rfl rfl ?_
          refine kr_get C inX3_addFolder_X3 0 rfl rfl 7 (by decide) flX3_addFolder_64 rfl rfl dX3_addFolder_92 ?_
          refine kr_iconst C (v := 1) dX3_addFolder_95 (by decide) ?_
          refine kr_isub C dX3_addFolder_96 ?_
          cases h
          exact kr_ret_i C (Nat.le_of_ble_eq_true rfl) (Nat.le_of_ble_eq_true rfl) dX3_addFolder_97
        have h := (if_neg hc).symm.trans h
        refine kr_iconst C (v := 0) dX3_addFolder_59 (by decide) ?_
        cases h
        exact kr_ret_i C (Nat.le_of_ble_eq_true rfl) (Nat.le_of_ble_eq_true rfl) dX3_addFolder_60
      have h := (if_neg hc).symm.trans h
      refine kr_iconst C (v := 2) dX3_addFolder_35 (by decide) ?_
      refine kr_goto C 53 dX3_addFolder_36 (by decide) ?_
      obtain ⟨v20, hv20, h⟩ := kob h
      refine kr_callV1 C (k := 1) (As := [.int (2 : Int32)]) (rest := []) (c_X3_fails hv20) gX3_addFolder_X3_fails rfl rfl rfl (by decide +kernel) ⟨(Nat.le_of_ble_eq_true rfl), (Nat.le_of_ble_eq_true rfl)⟩ ⟨(Nat.le_of_ble_eq_true rfl), (Nat.le_of_ble_eq_true rfl)⟩ 0 rfl rfl rfl rfl (Nat.le_of_ble_eq_true rfl) dX3_addFolder_53 ?_
      refine kr_if_eq C 61 dX3_addFolder_56 (by decide) (fun hc => ?_) (fun hc => ?_)
      · have h := (if_pos hc).symm.trans h
        refine kr_aload_n C 0 dX3_addFolder_61 rfl rfl ?_
        refine kr_get C inX3_addFolder_X3 0 rfl rfl 8 (by decide) flX3_addFolder_30 rfl rfl dX3_addFolder_62 ?_
        refine kr_aload_n C 0 dX3_addFolder_65 rfl rfl ?_
        refine kr_get C inX3_addFolder_X3 0 rfl rfl 7 (by decide) flX3_addFolder_64 rfl rfl dX3_addFolder_66 ?_
        refine kr_iload_n C 1 dX3_addFolder_69 rfl rfl ?_
        obtain ⟨hb21, h⟩ := kif h
        refine kr_iast C 6 rfl (kin_in hb21) (yq8 _ _ _ _ _) dX3_addFolder_70 ?_
        refine kr_aload_n C 0 dX3_addFolder_71 rfl rfl ?_
        refine kr_get C inX3_addFolder_X3 0 rfl rfl 9 (by decide) flX3_addFolder_33 rfl rfl dX3_addFolder_72 ?_
        refine kr_aload_n C 0 dX3_addFolder_75 rfl rfl ?_
        refine kr_get C inX3_addFolder_X3 0 rfl rfl 7 (by decide) flX3_addFolder_64 rfl rfl dX3_addFolder_76 ?_
        refine kr_iload_n C 2 dX3_addFolder_79 rfl rfl ?_
        obtain ⟨hb22, h⟩ := kif h
        refine kr_iast C 7 rfl (kin_in hb22) (yq9 _ _ _ _ _) dX3_addFolder_80 ?_
        refine kr_aload_n C 0 dX3_addFolder_81 rfl rfl ?_
        refine kr_dup C dX3_addFolder_82 rfl ?_
        refine kr_get C inX3_addFolder_X3 0 rfl rfl 7 (by decide) flX3_addFolder_64 rfl rfl dX3_addFolder_83 ?_
        refine kr_iconst C (v := 1) dX3_addFolder_86 (by decide) ?_
        refine kr_iadd C dX3_addFolder_87 ?_
        refine kr_put C inX3_addFolder_X3 tyX3_ok nmX3 0 rfl rfl 7 (by decide) flX3_addFolder_64 rfl rfl rfl rfl rfl (by show 7 < 19; decide) (yp7 _ _ _ _ _) dX3_addFolder_88 ?_
        refine kr_aload_n C 0 dX3_addFolder_91 rfl rfl ?_
        refine kr_get C inX3_addFolder_X3 0 rfl rfl 7 (by decide) flX3_addFolder_64 rfl rfl dX3_addFolder_92 ?_
        refine kr_iconst C (v := 1) dX3_addFolder_95 (by decide) ?_
        refine kr_isub C dX3_addFolder_96 ?_
        cases h
        exact kr_ret_i C (Nat.le_of_ble_eq_true rfl) (Nat.le_of_ble_eq_true rfl) dX3_addFolder_97
      have h := (if_neg hc).symm.trans h
      refine kr_iconst C (v := 0) dX3_addFolder_59 (by decide) ?_
      cases h
      exact kr_ret_i C (Nat.le_of_ble_eq_true rfl) (Nat.le_of_ble_eq_true rfl) dX3_addFolder_60
    have h := (if_neg hc).symm.trans h
    refine kr_iconst C (v := 1) dX3_addFolder_22 (by decide) ?_
    refine kr_goto C 53 dX3_addFolder_23 (by decide) ?_
    obtain ⟨v23, hv23, h⟩ := kob h
    refine kr_callV1 C (k := 1) (As := [.int (1 : Int32)]) (rest := []) (c_X3_fails hv23) gX3_addFolder_X3_fails rfl rfl rfl (by decide +kernel) ⟨(Nat.le_of_ble_eq_true rfl), (Nat.le_of_ble_eq_true rfl)⟩ ⟨(Nat.le_of_ble_eq_true rfl), (Nat.le_of_ble_eq_true rfl)⟩ 0 rfl rfl rfl rfl (Nat.le_of_ble_eq_true rfl) dX3_addFolder_53 ?_
    refine kr_if_eq C 61 dX3_addFolder_56 (by decide) (fun hc => ?_) (fun hc => ?_)
    · have h := (if_pos hc).symm.trans h
      refine kr_aload_n C 0 dX3_addFolder_61 rfl rfl ?_
      refine kr_get C inX3_addFolder_X3 0 rfl rfl 8 (by decide) flX3_addFolder_30 rfl rfl dX3_addFolder_62 ?_
      refine kr_aload_n C 0 dX3_addFolder_65 rfl rfl ?_
      refine kr_get C inX3_addFolder_X3 0 rfl rfl 7 (by decide) flX3_addFolder_64 rfl rfl dX3_addFolder_66 ?_
      refine kr_iload_n C 1 dX3_addFolder_69 rfl rfl ?_
      obtain ⟨hb24, h⟩ := kif h
      refine kr_iast C 6 rfl (kin_in hb24) (yq8 _ _ _ _ _) dX3_addFolder_70 ?_
      refine kr_aload_n C 0 dX3_addFolder_71 rfl rfl ?_
      refine kr_get C inX3_addFolder_X3 0 rfl rfl 9 (by decide) flX3_addFolder_33 rfl rfl dX3_addFolder_72 ?_
      refine kr_aload_n C 0 dX3_addFolder_75 rfl rfl ?_
      refine kr_get C inX3_addFolder_X3 0 rfl rfl 7 (by decide) flX3_addFolder_64 rfl rfl dX3_addFolder_76 ?_
      refine kr_iload_n C 2 dX3_addFolder_79 rfl rfl ?_
      obtain ⟨hb25, h⟩ := kif h
      refine kr_iast C 7 rfl (kin_in hb25) (yq9 _ _ _ _ _) dX3_addFolder_80 ?_
      refine kr_aload_n C 0 dX3_addFolder_81 rfl rfl ?_
      refine kr_dup C dX3_addFolder_82 rfl ?_
      refine kr_get C inX3_addFolder_X3 0 rfl rfl 7 (by decide) flX3_addFolder_64 rfl rfl dX3_addFolder_83 ?_
      refine kr_iconst C (v := 1) dX3_addFolder_86 (by decide) ?_
      refine kr_iadd C dX3_addFolder_87 ?_
      refine kr_put C inX3_addFolder_X3 tyX3_ok nmX3 0 rfl rfl 7 (by decide) flX3_addFolder_64 rfl rfl rfl rfl rfl (by show 7 < 19; decide) (yp7 _ _ _ _ _) dX3_addFolder_88 ?_
      refine kr_aload_n C 0 dX3_addFolder_91 rfl rfl ?_
      refine kr_get C inX3_addFolder_X3 0 rfl rfl 7 (by decide) flX3_addFolder_64 rfl rfl dX3_addFolder_92 ?_
      refine kr_iconst C (v := 1) dX3_addFolder_95 (by decide) ?_
      refine kr_isub C dX3_addFolder_96 ?_
      cases h
      exact kr_ret_i C (Nat.le_of_ble_eq_true rfl) (Nat.le_of_ble_eq_true rfl) dX3_addFolder_97
    have h := (if_neg hc).symm.trans h
    refine kr_iconst C (v := 0) dX3_addFolder_59 (by decide) ?_
    cases h
    exact kr_ret_i C (Nat.le_of_ble_eq_true rfl) (Nat.le_of_ble_eq_true rfl) dX3_addFolder_60
  have h := (if_neg hc).symm.trans h
  refine kr_iconst C (v := 1) dX3_addFolder_22 (by decide) ?_
  refine kr_goto C 53 dX3_addFolder_23 (by decide) ?_
  obtain ⟨v26, hv26, h⟩ := kob h
  refine kr_callV1 C (k := 1) (As := [.int (1 : Int32)]) (rest := []) (c_X3_fails hv26) gX3_addFolder_X3_fails rfl rfl rfl (by decide +kernel) ⟨(Nat.le_of_ble_eq_true rfl), (Nat.le_of_ble_eq_true rfl)⟩ ⟨(Nat.le_of_ble_eq_true rfl), (Nat.le_of_ble_eq_true rfl)⟩ 0 rfl rfl rfl rfl (Nat.le_of_ble_eq_true rfl) dX3_addFolder_53 ?_
  refine kr_if_eq C 61 dX3_addFolder_56 (by decide) (fun hc => ?_) (fun hc => ?_)
  · have h := (if_pos hc).symm.trans h
    refine kr_aload_n C 0 dX3_addFolder_61 rfl rfl ?_
    refine kr_get C inX3_addFolder_X3 0 rfl rfl 8 (by decide) flX3_addFolder_30 rfl rfl dX3_addFolder_62 ?_
    refine kr_aload_n C 0 dX3_addFolder_65 rfl rfl ?_
    refine kr_get C inX3_addFolder_X3 0 rfl rfl 7 (by decide) flX3_addFolder_64 rfl rfl dX3_addFolder_66 ?_
    refine kr_iload_n C 1 dX3_addFolder_69 rfl rfl ?_
    obtain ⟨hb27, h⟩ := kif h
    refine kr_iast C 6 rfl (kin_in hb27) (yq8 _ _ _ _ _) dX3_addFolder_70 ?_
    refine kr_aload_n C 0 dX3_addFolder_71 rfl rfl ?_
    refine kr_get C inX3_addFolder_X3 0 rfl rfl 9 (by decide) flX3_addFolder_33 rfl rfl dX3_addFolder_72 ?_
    refine kr_aload_n C 0 dX3_addFolder_75 rfl rfl ?_
    refine kr_get C inX3_addFolder_X3 0 rfl rfl 7 (by decide) flX3_addFolder_64 rfl rfl dX3_addFolder_76 ?_
    refine kr_iload_n C 2 dX3_addFolder_79 rfl rfl ?_
    obtain ⟨hb28, h⟩ := kif h
    refine kr_iast C 7 rfl (kin_in hb28) (yq9 _ _ _ _ _) dX3_addFolder_80 ?_
    refine kr_aload_n C 0 dX3_addFolder_81 rfl rfl ?_
    refine kr_dup C dX3_addFolder_82 rfl ?_
    refine kr_get C inX3_addFolder_X3 0 rfl rfl 7 (by decide) flX3_addFolder_64 rfl rfl dX3_addFolder_83 ?_
    refine kr_iconst C (v := 1) dX3_addFolder_86 (by decide) ?_
    refine kr_iadd C dX3_addFolder_87 ?_
    refine kr_put C inX3_addFolder_X3 tyX3_ok nmX3 0 rfl rfl 7 (by decide) flX3_addFolder_64 rfl rfl rfl rfl rfl (by show 7 < 19; decide) (yp7 _ _ _ _ _) dX3_addFolder_88 ?_
    refine kr_aload_n C 0 dX3_addFolder_91 rfl rfl ?_
    refine kr_get C inX3_addFolder_X3 0 rfl rfl 7 (by decide) flX3_addFolder_64 rfl rfl dX3_addFolder_92 ?_
    refine kr_iconst C (v := 1) dX3_addFolder_95 (by decide) ?_
    refine kr_isub C dX3_addFolder_96 ?_
    cases h
    exact kr_ret_i C (Nat.le_of_ble_eq_true rfl) (Nat.le_of_ble_eq_true rfl) dX3_addFolder_97
  have h := (if_neg hc).symm.trans h
  refine kr_iconst C (v := 0) dX3_addFolder_59 (by decide) ?_
  cases h
  exact kr_ret_i C (Nat.le_of_ble_eq_true rfl) (Nat.le_of_ble_eq_true rfl) dX3_addFolder_60
theorem flX3_addGroup_61 : Cond.fieldLink RX3 61 "FolderKeeperModel" "groups" "I" ∈ wsX3_addGroup := by decide +kernel
theorem inX3_addGroup_X3 : ∀ w ∈ wsX30, w ∈ wsX3_addGroup := fun _ h => List.mem_cons_of_mem _ (List.mem_append_right _ h)
set_option maxHeartbeats 4000000 in
set_option maxRecDepth 100000 in
theorem c_X3_addGroup {l : Launch} {D : va_G} {cy : Nat → ClassId} {a : Nat → Nat} {Z : va_W} {S : kSt} {r : (Int32 × kSt)} (h : f_X3_addGroup S = some r) : kM l yX3_addGroup wsX3_addGroup ({ frames := 1, cells := 0, slots := 0, locals := 21 } : Room) D cy (yw a cy S Z) [.ref (a 0)] (yw a cy r.2 Z) (some (.int r.1)) 0 0 := by
  rw [f_X3_addGroup] at h
  refine kM.start (L := [(0, .ref (a 0))]) rfl rfl rfl (Nat.le_of_ble_eq_true rfl) rfl (fun K A C => ?_)
  refine kr_aload_n C 0 dX3_addGroup_0 rfl rfl ?_
  refine kr_aload_n C 0 dX3_addGroup_1 rfl rfl ?_
  refine kr_get C inX3_addGroup_X3 0 rfl rfl 3 (by decide) flX3_addGroup_61 rfl rfl dX3_addGroup_2 ?_
  refine kr_bipush C (v := 6) dX3_addGroup_5 (by decide) ?_
  refine kr_icmp_ne C 14 dX3_addGroup_7 (by decide) (fun hc => ?_) (fun hc => ?_)
  · have h := (if_pos hc).symm.trans h
    refine kr_iconst C (v := 1) dX3_addGroup_10 (by decide) ?_
    refine kr_goto C 15 dX3_addGroup_11 (by decide) ?_
    obtain ⟨v1, hv1, h⟩ := kob h
    refine kr_callV1 C (k := 1) (As := [.int (1 : Int32)]) (rest := []) (c_X3_fails hv1) gX3_addGroup_X3_fails rfl rfl rfl (by decide +kernel) ⟨(Nat.le_of_ble_eq_true rfl), (Nat.le_of_ble_eq_true rfl)⟩ ⟨(Nat.le_of_ble_eq_true rfl), (Nat.le_of_ble_eq_true rfl)⟩ 0 rfl rfl rfl rfl (Nat.le_of_ble_eq_true rfl) dX3_addGroup_15 ?_
    refine kr_if_eq C 23 dX3_addGroup_18 (by decide) (fun hc => ?_) (fun hc => ?_)
    · have h := (if_pos hc).symm.trans h
      refine kr_aload_n C 0 dX3_addGroup_23 rfl rfl ?_
      refine kr_dup C dX3_addGroup_24 rfl ?_
      refine kr_get C inX3_addGroup_X3 0 rfl rfl 3 (by decide) flX3_addGroup_61 rfl rfl dX3_addGroup_25 ?_
      refine kr_iconst C (v := 1) dX3_addGroup_28 (by decide) ?_
      refine kr_iadd C dX3_addGroup_29 ?_
      refine kr_put C inX3_addGroup_X3 tyX3_ok nmX3 0 rfl rfl 3 (by decide) flX3_addGroup_61 rfl rfl rfl rfl rfl (by show 3 < 19; decide) (yp3 _ _ _ _ _) dX3_addGroup_30 ?_
      refine kr_aload_n C 0 dX3_addGroup_33 rfl rfl ?_
      refine kr_get C inX3_addGroup_X3 0 rfl rfl 3 (by decide) flX3_addGroup_61 rfl rfl dX3_addGroup_34 ?_
      refine kr_iconst C (v := 1) dX3_addGroup_37 (by decide) ?_
      refine kr_isub C dX3_addGroup_38 ?_
      cases h
      exact kr_ret_i C (Nat.le_of_ble_eq_true rfl) (Nat.le_of_ble_eq_true rfl) dX3_addGroup_39
    have h := (if_neg hc).symm.trans h
    refine kr_iconst C (v := 0) dX3_addGroup_21 (by decide) ?_
    cases h
    exact kr_ret_i C (Nat.le_of_ble_eq_true rfl) (Nat.le_of_ble_eq_true rfl) dX3_addGroup_22
  have h := (if_neg hc).symm.trans h
  refine kr_iconst C (v := 0) dX3_addGroup_14 (by decide) ?_
  obtain ⟨v2, hv2, h⟩ := kob h
  refine kr_callV1 C (k := 1) (As := [.int (0 : Int32)]) (rest := []) (c_X3_fails hv2) gX3_addGroup_X3_fails rfl rfl rfl (by decide +kernel) ⟨(Nat.le_of_ble_eq_true rfl), (Nat.le_of_ble_eq_true rfl)⟩ ⟨(Nat.le_of_ble_eq_true rfl), (Nat.le_of_ble_eq_true rfl)⟩ 0 rfl rfl rfl rfl (Nat.le_of_ble_eq_true rfl) dX3_addGroup_15 ?_
  refine kr_if_eq C 23 dX3_addGroup_18 (by decide) (fun hc => ?_) (fun hc => ?_)
  · have h := (if_pos hc).symm.trans h
    refine kr_aload_n C 0 dX3_addGroup_23 rfl rfl ?_
    refine kr_dup C dX3_addGroup_24 rfl ?_
    refine kr_get C inX3_addGroup_X3 0 rfl rfl 3 (by decide) flX3_addGroup_61 rfl rfl dX3_addGroup_25 ?_
    refine kr_iconst C (v := 1) dX3_addGroup_28 (by decide) ?_
    refine kr_iadd C dX3_addGroup_29 ?_
    refine kr_put C inX3_addGroup_X3 tyX3_ok nmX3 0 rfl rfl 3 (by decide) flX3_addGroup_61 rfl rfl rfl rfl rfl (by show 3 < 19; decide) (yp3 _ _ _ _ _) dX3_addGroup_30 ?_
    refine kr_aload_n C 0 dX3_addGroup_33 rfl rfl ?_
    refine kr_get C inX3_addGroup_X3 0 rfl rfl 3 (by decide) flX3_addGroup_61 rfl rfl dX3_addGroup_34 ?_
    refine kr_iconst C (v := 1) dX3_addGroup_37 (by decide) ?_
    refine kr_isub C dX3_addGroup_38 ?_
    cases h
    exact kr_ret_i C (Nat.le_of_ble_eq_true rfl) (Nat.le_of_ble_eq_true rfl) dX3_addGroup_39
  have h := (if_neg hc).symm.trans h
  refine kr_iconst C (v := 0) dX3_addGroup_21 (by decide) ?_
  cases h
  exact kr_ret_i C (Nat.le_of_ble_eq_true rfl) (Nat.le_of_ble_eq_true rfl) dX3_addGroup_22
theorem flX3_isNoGroup_61 : Cond.fieldLink RX3 61 "FolderKeeperModel" "groups" "I" ∈ wsX3_isNoGroup := by decide +kernel
theorem inX3_isNoGroup_X3 : ∀ w ∈ wsX30, w ∈ wsX3_isNoGroup := fun _ h => List.mem_cons_of_mem _ (List.mem_append_right _ h)
set_option maxHeartbeats 4000000 in
set_option maxRecDepth 100000 in
theorem c_X3_isNoGroup {l : Launch} {D : va_G} {cy : Nat → ClassId} {a : Nat → Nat} {Z : va_W} {S : kSt} {p1 : Int32} {r : Bool} (h : f_X3_isNoGroup S p1 = some r) : kM l yX3_isNoGroup wsX3_isNoGroup ({ frames := 1, cells := 0, slots := 0, locals := 22 } : Room) D cy (yw a cy S Z) [.ref (a 0), .int p1] (yw a cy S Z) (some (.int (b2i r))) 0 0 := by
  rw [f_X3_isNoGroup] at h
  refine kM.start (L := [(0, .ref (a 0)), (1, .int (p1))]) rfl rfl rfl (Nat.le_of_ble_eq_true rfl) rfl (fun K A C => ?_)
  refine kr_iload_n C 1 dX3_isNoGroup_0 rfl rfl ?_
  refine kr_iconst C (v := 0) dX3_isNoGroup_1 (by decide) ?_
  refine kr_aload_n C 0 dX3_isNoGroup_2 rfl rfl ?_
  refine kr_get C inX3_isNoGroup_X3 0 rfl rfl 3 (by decide) flX3_isNoGroup_61 rfl rfl dX3_isNoGroup_3 ?_
  refine kr_iconst C (v := 1) dX3_isNoGroup_6 (by decide) ?_
  refine kr_isub C dX3_isNoGroup_7 ?_
  obtain ⟨v1, hv1, h⟩ := kob h
  refine kr_callS1 C (k := 3) (As := [.int p1, .int (0 : Int32), .int ((S.1 3) - (1 : Int32))]) (rest := []) (c_X3_in hv1) gX3_isNoGroup_X3_in rfl rfl rfl (by decide +kernel) ⟨(Nat.le_of_ble_eq_true rfl), (Nat.le_of_ble_eq_true rfl)⟩ ⟨(Nat.le_of_ble_eq_true rfl), (Nat.le_of_ble_eq_true rfl)⟩ rfl rfl (Nat.le_of_ble_eq_true rfl) dX3_isNoGroup_8 ?_
  refine kr_if_ne C 18 dX3_isNoGroup_11 (by decide) (fun hc => ?_) (fun hc => ?_)
  · have h := (if_pos hc).symm.trans h
    refine kr_iconst C (v := 1) dX3_isNoGroup_14 (by decide) ?_
    refine kr_goto C 19 dX3_isNoGroup_15 (by decide) ?_
    cases h
    exact kr_ret_z (v := b2i true) C (nar_b _) (Nat.le_of_ble_eq_true rfl) (Nat.le_of_ble_eq_true rfl) dX3_isNoGroup_19
  have h := (if_neg hc).symm.trans h
  refine kr_iconst C (v := 0) dX3_isNoGroup_18 (by decide) ?_
  cases h
  exact kr_ret_z (v := b2i false) C (nar_b _) (Nat.le_of_ble_eq_true rfl) (Nat.le_of_ble_eq_true rfl) dX3_isNoGroup_19
theorem flX3_addRoom_114 : Cond.fieldLink RX3 114 "FolderKeeperModel" "rooms" "I" ∈ wsX3_addRoom := by decide +kernel
theorem inX3_addRoom_X3 : ∀ w ∈ wsX30, w ∈ wsX3_addRoom := fun _ h => List.mem_cons_of_mem _ (List.mem_append_left _ (List.mem_append_right _ h))
theorem flX3_addRoom_48 : Cond.fieldLink RX3 48 "FolderKeeperModel" "roomGroups" "[I" ∈ wsX3_addRoom := by decide +kernel
set_option maxHeartbeats 4000000 in
set_option maxRecDepth 100000 in
theorem c_X3_addRoom {l : Launch} {D : va_G} {cy : Nat → ClassId} {a : Nat → Nat} {Z : va_W} {S : kSt} {p1 : Int32} {r : (Int32 × kSt)} (h : f_X3_addRoom S p1 = some r) : kM l yX3_addRoom wsX3_addRoom ({ frames := 2, cells := 0, slots := 0, locals := 43 } : Room) D cy (yw a cy S Z) [.ref (a 0), .int p1] (yw a cy r.2 Z) (some (.int r.1)) 0 0 := by
  rw [f_X3_addRoom] at h
  refine kM.start (L := [(0, .ref (a 0)), (1, .int (p1))]) rfl rfl rfl (Nat.le_of_ble_eq_true rfl) rfl (fun K A C => ?_)
  refine kr_aload_n C 0 dX3_addRoom_0 rfl rfl ?_
  refine kr_aload_n C 0 dX3_addRoom_1 rfl rfl ?_
  refine kr_iload_n C 1 dX3_addRoom_2 rfl rfl ?_
  obtain ⟨v1, hv1, h⟩ := kob h
  refine kr_callV1 C (k := 1) (As := [.int p1]) (rest := [.ref (a 0)]) (c_X3_isNoGroup hv1) gX3_addRoom_X3_isNoGroup rfl rfl rfl (by decide +kernel) ⟨(Nat.le_of_ble_eq_true rfl), (Nat.le_of_ble_eq_true rfl)⟩ ⟨(Nat.le_of_ble_eq_true rfl), (Nat.le_of_ble_eq_true rfl)⟩ 0 rfl rfl rfl rfl (Nat.le_of_ble_eq_true rfl) dX3_addRoom_3 ?_
  refine kr_if_eq C 13 dX3_addRoom_6 (by decide) (fun hc => ?_) (fun hc => ?_)
  · have h := (if_pos hc).symm.trans h
    refine kr_aload_n C 0 dX3_addRoom_13 rfl rfl ?_
    refine kr_get C inX3_addRoom_X3 0 rfl rfl 14 (by decide) flX3_addRoom_114 rfl rfl dX3_addRoom_14 ?_
    refine kr_iconst C (v := 4) dX3_addRoom_17 (by decide) ?_
    refine kr_icmp_ne C 25 dX3_addRoom_18 (by decide) (fun hc => ?_) (fun hc => ?_)
    · have h := (if_pos hc).symm.trans h
      refine kr_iconst C (v := 2) dX3_addRoom_21 (by decide) ?_
      refine kr_goto C 26 dX3_addRoom_22 (by decide) ?_
      obtain ⟨v2, hv2, h⟩ := kob h
      refine kr_callV1 C (k := 1) (As := [.int (2 : Int32)]) (rest := []) (c_X3_fails hv2) gX3_addRoom_X3_fails rfl rfl rfl (by decide +kernel) ⟨(Nat.le_of_ble_eq_true rfl), (Nat.le_of_ble_eq_true rfl)⟩ ⟨(Nat.le_of_ble_eq_true rfl), (Nat.le_of_ble_eq_true rfl)⟩ 0 rfl rfl rfl rfl (Nat.le_of_ble_eq_true rfl) dX3_addRoom_26 ?_
      refine kr_if_eq C 34 dX3_addRoom_29 (by decide) (fun hc => ?_) (fun hc => ?_)
      · have h := (if_pos hc).symm.trans h
        refine kr_aload_n C 0 dX3_addRoom_34 rfl rfl ?_
        refine kr_get C inX3_addRoom_X3 0 rfl rfl 15 (by decide) flX3_addRoom_48 rfl rfl dX3_addRoom_35 ?_
        refine kr_aload_n C 0 dX3_addRoom_38 rfl rfl ?_
        refine kr_get C inX3_addRoom_X3 0 rfl rfl 14 (by decide) flX3_addRoom_114 rfl rfl dX3_addRoom_39 ?_
        refine kr_iload_n C 1 dX3_addRoom_42 rfl rfl ?_
        obtain ⟨hb3, h⟩ := kif h
        refine kr_iast C 12 rfl (kin_in hb3) (yq15 _ _ _ _ _) dX3_addRoom_43 ?_
        refine kr_aload_n C 0 dX3_addRoom_44 rfl rfl ?_
        refine kr_dup C dX3_addRoom_45 rfl ?_
        refine kr_get C inX3_addRoom_X3 0 rfl rfl 14 (by decide) flX3_addRoom_114 rfl rfl dX3_addRoom_46 ?_
        refine kr_iconst C (v := 1) dX3_addRoom_49 (by decide) ?_
        refine kr_iadd C dX3_addRoom_50 ?_
        refine kr_put C inX3_addRoom_X3 tyX3_ok nmX3 0 rfl rfl 14 (by decide) flX3_addRoom_114 rfl rfl rfl rfl rfl (by show 14 < 19; decide) (yp14 _ _ _ _ _) dX3_addRoom_51 ?_
        refine kr_aload_n C 0 dX3_addRoom_54 rfl rfl ?_
        refine kr_get C inX3_addRoom_X3 0 rfl rfl 14 (by decide) flX3_addRoom_114 rfl rfl dX3_addRoom_55 ?_
        refine kr_iconst C (v := 1) dX3_addRoom_58 (by decide) ?_
        refine kr_isub C dX3_addRoom_59 ?_
        cases h
        exact kr_ret_i C (Nat.le_of_ble_eq_true rfl) (Nat.le_of_ble_eq_true rfl) dX3_addRoom_60
      have h := (if_neg hc).symm.trans h
      refine kr_iconst C (v := 0) dX3_addRoom_32 (by decide) ?_
      cases h
      exact kr_ret_i C (Nat.le_of_ble_eq_true rfl) (Nat.le_of_ble_eq_true rfl) dX3_addRoom_33
    have h := (if_neg hc).symm.trans h
    refine kr_iconst C (v := 0) dX3_addRoom_25 (by decide) ?_
    obtain ⟨v4, hv4, h⟩ := kob h
    refine kr_callV1 C (k := 1) (As := [.int (0 : Int32)]) (rest := []) (c_X3_fails hv4) gX3_addRoom_X3_fails rfl rfl rfl (by decide +kernel) ⟨(Nat.le_of_ble_eq_true rfl), (Nat.le_of_ble_eq_true rfl)⟩ ⟨(Nat.le_of_ble_eq_true rfl), (Nat.le_of_ble_eq_true rfl)⟩ 0 rfl rfl rfl rfl (Nat.le_of_ble_eq_true rfl) dX3_addRoom_26 ?_
    refine kr_if_eq C 34 dX3_addRoom_29 (by decide) (fun hc => ?_) (fun hc => ?_)
    · have h := (if_pos hc).symm.trans h
      refine kr_aload_n C 0 dX3_addRoom_34 rfl rfl ?_
      refine kr_get C inX3_addRoom_X3 0 rfl rfl 15 (by decide) flX3_addRoom_48 rfl rfl dX3_addRoom_35 ?_
      refine kr_aload_n C 0 dX3_addRoom_38 rfl rfl ?_
      refine kr_get C inX3_addRoom_X3 0 rfl rfl 14 (by decide) flX3_addRoom_114 rfl rfl dX3_addRoom_39 ?_
      refine kr_iload_n C 1 dX3_addRoom_42 rfl rfl ?_
      obtain ⟨hb5, h⟩ := kif h
      refine kr_iast C 12 rfl (kin_in hb5) (yq15 _ _ _ _ _) dX3_addRoom_43 ?_
      refine kr_aload_n C 0 dX3_addRoom_44 rfl rfl ?_
      refine kr_dup C dX3_addRoom_45 rfl ?_
      refine kr_get C inX3_addRoom_X3 0 rfl rfl 14 (by decide) flX3_addRoom_114 rfl rfl dX3_addRoom_46 ?_
      refine kr_iconst C (v := 1) dX3_addRoom_49 (by decide) ?_
      refine kr_iadd C dX3_addRoom_50 ?_
      refine kr_put C inX3_addRoom_X3 tyX3_ok nmX3 0 rfl rfl 14 (by decide) flX3_addRoom_114 rfl rfl rfl rfl rfl (by show 14 < 19; decide) (yp14 _ _ _ _ _) dX3_addRoom_51 ?_
      refine kr_aload_n C 0 dX3_addRoom_54 rfl rfl ?_
      refine kr_get C inX3_addRoom_X3 0 rfl rfl 14 (by decide) flX3_addRoom_114 rfl rfl dX3_addRoom_55 ?_
      refine kr_iconst C (v := 1) dX3_addRoom_58 (by decide) ?_
      refine kr_isub C dX3_addRoom_59 ?_
      cases h
      exact kr_ret_i C (Nat.le_of_ble_eq_true rfl) (Nat.le_of_ble_eq_true rfl) dX3_addRoom_60
    have h := (if_neg hc).symm.trans h
    refine kr_iconst C (v := 0) dX3_addRoom_32 (by decide) ?_
    cases h
    exact kr_ret_i C (Nat.le_of_ble_eq_true rfl) (Nat.le_of_ble_eq_true rfl) dX3_addRoom_33
  have h := (if_neg hc).symm.trans h
  refine kr_iconst C (v := 1) dX3_addRoom_9 (by decide) ?_
  refine kr_goto C 26 dX3_addRoom_10 (by decide) ?_
  obtain ⟨v6, hv6, h⟩ := kob h
  refine kr_callV1 C (k := 1) (As := [.int (1 : Int32)]) (rest := []) (c_X3_fails hv6) gX3_addRoom_X3_fails rfl rfl rfl (by decide +kernel) ⟨(Nat.le_of_ble_eq_true rfl), (Nat.le_of_ble_eq_true rfl)⟩ ⟨(Nat.le_of_ble_eq_true rfl), (Nat.le_of_ble_eq_true rfl)⟩ 0 rfl rfl rfl rfl (Nat.le_of_ble_eq_true rfl) dX3_addRoom_26 ?_
  refine kr_if_eq C 34 dX3_addRoom_29 (by decide) (fun hc => ?_) (fun hc => ?_)
  · have h := (if_pos hc).symm.trans h
    refine kr_aload_n C 0 dX3_addRoom_34 rfl rfl ?_
    refine kr_get C inX3_addRoom_X3 0 rfl rfl 15 (by decide) flX3_addRoom_48 rfl rfl dX3_addRoom_35 ?_
    refine kr_aload_n C 0 dX3_addRoom_38 rfl rfl ?_
    refine kr_get C inX3_addRoom_X3 0 rfl rfl 14 (by decide) flX3_addRoom_114 rfl rfl dX3_addRoom_39 ?_
    refine kr_iload_n C 1 dX3_addRoom_42 rfl rfl ?_
    obtain ⟨hb7, h⟩ := kif h
    refine kr_iast C 12 rfl (kin_in hb7) (yq15 _ _ _ _ _) dX3_addRoom_43 ?_
    refine kr_aload_n C 0 dX3_addRoom_44 rfl rfl ?_
    refine kr_dup C dX3_addRoom_45 rfl ?_
    refine kr_get C inX3_addRoom_X3 0 rfl rfl 14 (by decide) flX3_addRoom_114 rfl rfl dX3_addRoom_46 ?_
    refine kr_iconst C (v := 1) dX3_addRoom_49 (by decide) ?_
    refine kr_iadd C dX3_addRoom_50 ?_
    refine kr_put C inX3_addRoom_X3 tyX3_ok nmX3 0 rfl rfl 14 (by decide) flX3_addRoom_114 rfl rfl rfl rfl rfl (by show 14 < 19; decide) (yp14 _ _ _ _ _) dX3_addRoom_51 ?_
    refine kr_aload_n C 0 dX3_addRoom_54 rfl rfl ?_
    refine kr_get C inX3_addRoom_X3 0 rfl rfl 14 (by decide) flX3_addRoom_114 rfl rfl dX3_addRoom_55 ?_
    refine kr_iconst C (v := 1) dX3_addRoom_58 (by decide) ?_
    refine kr_isub C dX3_addRoom_59 ?_
    cases h
    exact kr_ret_i C (Nat.le_of_ble_eq_true rfl) (Nat.le_of_ble_eq_true rfl) dX3_addRoom_60
  have h := (if_neg hc).symm.trans h
  refine kr_iconst C (v := 0) dX3_addRoom_32 (by decide) ?_
  cases h
  exact kr_ret_i C (Nat.le_of_ble_eq_true rfl) (Nat.le_of_ble_eq_true rfl) dX3_addRoom_33
theorem flX3_isNested_24 : Cond.fieldLink RX3 24 "FolderKeeperModel" "nestEnds" "[I" ∈ wsX3_isNested := by decide +kernel
theorem inX3_isNested_X3 : ∀ w ∈ wsX30, w ∈ wsX3_isNested := fun _ h => List.mem_cons_of_mem _ (List.mem_append_left _ (List.mem_append_right _ h))
set_option maxHeartbeats 4000000 in
set_option maxRecDepth 100000 in
theorem c_X3_isNested {l : Launch} {D : va_G} {cy : Nat → ClassId} {a : Nat → Nat} {Z : va_W} {S : kSt} {p1 : Int32} {p2 : Int32} {r : Bool} (h : f_X3_isNested S p1 p2 = some r) : kM l yX3_isNested wsX3_isNested ({ frames := 0, cells := 0, slots := 0, locals := 0 } : Room) D cy (yw a cy S Z) [.ref (a 0), .int p1, .int p2] (yw a cy S Z) (some (.int (b2i r))) 0 0 := by
  rw [f_X3_isNested] at h
  refine kM.start (L := [(0, .ref (a 0)), (1, .int (p1)), (2, .int (p2))]) rfl rfl rfl (Nat.le_of_ble_eq_true rfl) rfl (fun K A C => ?_)
  refine kr_aload_n C 0 dX3_isNested_0 rfl rfl ?_
  refine kr_get C inX3_isNested_X3 0 rfl rfl 5 (by decide) flX3_isNested_24 rfl rfl dX3_isNested_1 ?_
  refine kr_bipush C (v := 6) dX3_isNested_4 (by decide) ?_
  refine kr_iload_n C 1 dX3_isNested_6 rfl rfl ?_
  refine kr_imul C dX3_isNested_7 ?_
  refine kr_iload_n C 2 dX3_isNested_8 rfl rfl ?_
  refine kr_iadd C dX3_isNested_9 ?_
  obtain ⟨hb1, h⟩ := kif h
  refine kr_iald C 4 rfl (kin_in hb1) dX3_isNested_10 ?_
  refine kr_if_le C 18 dX3_isNested_11 (by decide) (fun hc => ?_) (fun hc => ?_)
  · have h := (if_pos hc).symm.trans h
    refine kr_iconst C (v := 0) dX3_isNested_18 (by decide) ?_
    cases h
    exact kr_ret_z (v := b2i false) C (nar_b _) (Nat.le_of_ble_eq_true rfl) (Nat.le_of_ble_eq_true rfl) dX3_isNested_19
  have h := (if_neg hc).symm.trans h
  refine kr_iconst C (v := 1) dX3_isNested_14 (by decide) ?_
  refine kr_goto C 19 dX3_isNested_15 (by decide) ?_
  cases h
  exact kr_ret_z (v := b2i true) C (nar_b _) (Nat.le_of_ble_eq_true rfl) (Nat.le_of_ble_eq_true rfl) dX3_isNested_19
theorem flX3_leads_61 : Cond.fieldLink RX3 61 "FolderKeeperModel" "groups" "I" ∈ wsX3_leads := by decide +kernel
theorem inX3_leads_X3 : ∀ w ∈ wsX30, w ∈ wsX3_leads := fun _ h => List.mem_cons_of_mem _ (List.mem_append_left _ (List.mem_append_right _ h))
set_option maxHeartbeats 4000000 in
set_option maxRecDepth 100000 in
theorem lc_X3_leads_L9 {K : kEnv} {l : Launch} {D : va_G} {cy : Nat → ClassId} {A : Nat → Prop} {a : Nat → Nat} {Z : va_W} {d : Nat} {S : kSt} {r : Bool} {rec : Int32 → Int32 → Option Bool} (C : kC K D cy A 4 cX3_leads RX3 wsX3_leads (some .boolean)) (hrec : ∀ (y0 y1 : Int32) (r : Bool), rec y0 y1 = some r → kM l yX3_leads wsX3_leads ({ frames := 1 + d, cells := 0, slots := 0, locals := 22 + d * 23 } : Room) D cy (yw a cy S Z) [.ref (a 0), .int y0, .int y1] (yw a cy S Z) (some (.int (b2i r))) 0 0) : ∀ (n : Nat) (x1 x2 x3 : Int32), f_X3_leads_L9 rec n S x1 x2 x3 = some r → kG K l D A ({ frames := 1 + (d + 1), cells := 0, slots := 0, locals := 22 + (d + 1) * 23 } : Room) 4 (kEnd K D cy A (yw a cy S Z) (some (.int (b2i r))) 0 0) (yw a cy S Z) 0 0 9 [(0, .ref (a 0)), (1, .int (x1)), (2, .int (x2)), (3, .int (x3))] [] := by
  intro n
  induction n with
  | zero => intro x1 x2 x3 h; rw [f_X3_leads_L9] at h; cases h
  | succ n ih =>
    intro x1 x2 x3 h
    rw [f_X3_leads_L9] at h
    refine kr_iload_n C 3 dX3_leads_9 rfl rfl ?_
    refine kr_aload_n C 0 dX3_leads_10 rfl rfl ?_
    refine kr_get C inX3_leads_X3 0 rfl rfl 3 (by decide) flX3_leads_61 rfl rfl dX3_leads_11 ?_
    refine kr_icmp_ge C 43 dX3_leads_14 (by decide) (fun hc => ?_) (fun hc => ?_)
    · have h := (if_pos hc).symm.trans h
      refine kr_iconst C (v := 0) dX3_leads_43 (by decide) ?_
      cases h
      exact kr_ret_z (v := b2i false) C (nar_b _) (Nat.le_of_ble_eq_true rfl) (Nat.le_of_ble_eq_true rfl) dX3_leads_44
    have h := (if_neg hc).symm.trans h
    refine kr_aload_n C 0 dX3_leads_17 rfl rfl ?_
    refine kr_iload_n C 1 dX3_leads_18 rfl rfl ?_
    refine kr_iload_n C 3 dX3_leads_19 rfl rfl ?_
    obtain ⟨v1, hv1, h⟩ := kob h
    refine kr_callV1 C (k := 2) (As := [.int x1, .int x3]) (rest := []) (c_X3_isNested hv1) gX3_leads_X3_isNested rfl rfl rfl (by decide +kernel) ⟨by show 0 + 1 ≤ 1 + (d + 1); omega, by show 8 + (3 + 11) + 0 ≤ 22 + (d + 1) * 23; omega⟩ ⟨(Nat.le_of_ble_eq_true rfl), (Nat.le_of_ble_eq_true rfl)⟩ 0 rfl rfl rfl rfl (Nat.le_of_ble_eq_true rfl) dX3_leads_20 ?_
    refine kr_if_eq C 37 dX3_leads_23 (by decide) (fun hc => ?_) (fun hc => ?_)
    · have h := (if_pos hc).symm.trans h
      refine kr_iinc C (v := (x3 + 1)) 3 [1, 2, 3, 0] dX3_leads_37 rfl rfl (by decide) rfl ?_
      refine kr_goto C 9 dX3_leads_40 (by decide) ?_
      exact ih _ _ _ h
    have h := (if_neg hc).symm.trans h
    refine kr_aload_n C 0 dX3_leads_26 rfl rfl ?_
    refine kr_iload_n C 3 dX3_leads_27 rfl rfl ?_
    refine kr_iload_n C 2 dX3_leads_28 rfl rfl ?_
    obtain ⟨v2, hv2, h⟩ := kob h
    refine kr_callV1 C (k := 2) (As := [.int x3, .int x2]) (rest := []) (hrec _ _ _ hv2) gX3_leads_X3_leads rfl rfl rfl (by decide +kernel) ⟨by show 1 + d + 1 ≤ 1 + (d + 1); omega, by show 8 + (4 + 11) + (22 + d * 23) ≤ 22 + (d + 1) * 23; omega⟩ ⟨(Nat.le_of_ble_eq_true rfl), (Nat.le_of_ble_eq_true rfl)⟩ 0 rfl rfl rfl rfl (Nat.le_of_ble_eq_true rfl) dX3_leads_29 ?_
    refine kr_if_eq C 37 dX3_leads_32 (by decide) (fun hc => ?_) (fun hc => ?_)
    · have h := (if_pos hc).symm.trans h
      refine kr_iinc C (v := (x3 + 1)) 3 [1, 2, 3, 0] dX3_leads_37 rfl rfl (by decide) rfl ?_
      refine kr_goto C 9 dX3_leads_40 (by decide) ?_
      exact ih _ _ _ h
    have h := (if_neg hc).symm.trans h
    refine kr_iconst C (v := 1) dX3_leads_35 (by decide) ?_
    cases h
    exact kr_ret_z (v := b2i true) C (nar_b _) (Nat.le_of_ble_eq_true rfl) (Nat.le_of_ble_eq_true rfl) dX3_leads_36
set_option maxHeartbeats 4000000 in
set_option maxRecDepth 100000 in
theorem c_X3_leads {l : Launch} {D : va_G} {cy : Nat → ClassId} {a : Nat → Nat} {Z : va_W} {S : kSt} : ∀ (d : Nat) {p1 p2 : Int32} {r : Bool}, f_X3_leads d S p1 p2 = some r → kM l yX3_leads wsX3_leads ({ frames := 1 + d, cells := 0, slots := 0, locals := 22 + d * 23 } : Room) D cy (yw a cy S Z) [.ref (a 0), .int p1, .int p2] (yw a cy S Z) (some (.int (b2i r))) 0 0 := by
  intro d
  induction d with
  | zero => intro p1 p2 r h; rw [f_X3_leads] at h; cases h
  | succ d ihd =>
    intro p1 p2 r h
    rw [f_X3_leads] at h
    have hrec : ∀ (y0 y1 : Int32) (r : Bool), f_X3_leads d S y0 y1 = some r → kM l yX3_leads wsX3_leads ({ frames := 1 + d, cells := 0, slots := 0, locals := 22 + d * 23 } : Room) D cy (yw a cy S Z) [.ref (a 0), .int y0, .int y1] (yw a cy S Z) (some (.int (b2i r))) 0 0 := fun y0 y1 r h => ihd h
    refine kM.start (L := [(0, .ref (a 0)), (1, .int (p1)), (2, .int (p2))]) rfl rfl rfl (Nat.le_of_ble_eq_true rfl) rfl (fun K A C => ?_)
    refine kr_iload_n C 1 dX3_leads_0 rfl rfl ?_
    refine kr_iload_n C 2 dX3_leads_1 rfl rfl ?_
    refine kr_icmp_ne C 7 dX3_leads_2 (by decide) (fun hc => ?_) (fun hc => ?_)
    · have h := (if_pos hc).symm.trans h
      refine kr_iconst C (v := 1) dX3_leads_5 (by decide) ?_
      cases h
      exact kr_ret_z (v := b2i true) C (nar_b _) (Nat.le_of_ble_eq_true rfl) (Nat.le_of_ble_eq_true rfl) dX3_leads_6
    have h := (if_neg hc).symm.trans h
    refine kr_iconst C (v := 0) dX3_leads_7 (by decide) ?_
    refine kr_istore_n C [1, 2, 3, 0] dX3_leads_8 rfl (by decide) rfl ?_
    exact lc_X3_leads_L9 C hrec _ _ _ _ h
theorem flX3_isMember_61 : Cond.fieldLink RX3 61 "FolderKeeperModel" "groups" "I" ∈ wsX3_isMember := by decide +kernel
theorem inX3_isMember_X3 : ∀ w ∈ wsX30, w ∈ wsX3_isMember := fun _ h => List.mem_cons_of_mem _ (List.mem_append_left _ (List.mem_append_right _ h))
theorem flX3_isMember_21 : Cond.fieldLink RX3 21 "FolderKeeperModel" "memberEnds" "[I" ∈ wsX3_isMember := by decide +kernel
set_option maxHeartbeats 4000000 in
set_option maxRecDepth 100000 in
theorem lc_X3_isMember_L2 {K : kEnv} {l : Launch} {D : va_G} {cy : Nat → ClassId} {A : Nat → Prop} {a : Nat → Nat} {Z : va_W} {S : kSt} {r : Bool} (C : kC K D cy A 4 cX3_isMember RX3 wsX3_isMember (some .boolean)) : ∀ (n : Nat) (x1 x2 x3 : Int32), f_X3_isMember_L2 n S x1 x2 x3 = some r → kG K l D A ({ frames := 10, cells := 0, slots := 0, locals := 229 } : Room) 4 (kEnd K D cy A (yw a cy S Z) (some (.int (b2i r))) 0 0) (yw a cy S Z) 0 0 2 [(0, .ref (a 0)), (1, .int (x1)), (2, .int (x2)), (3, .int (x3))] [] := by
  intro n
  induction n with
  | zero => intro x1 x2 x3 h; rw [f_X3_isMember_L2] at h; cases h
  | succ n ih =>
    intro x1 x2 x3 h
    rw [f_X3_isMember_L2] at h
    refine kr_iload_n C 3 dX3_isMember_2 rfl rfl ?_
    refine kr_aload_n C 0 dX3_isMember_3 rfl rfl ?_
    refine kr_get C inX3_isMember_X3 0 rfl rfl 3 (by decide) flX3_isMember_61 rfl rfl dX3_isMember_4 ?_
    refine kr_icmp_ge C 41 dX3_isMember_7 (by decide) (fun hc => ?_) (fun hc => ?_)
    · have h := (if_pos hc).symm.trans h
      refine kr_iconst C (v := 0) dX3_isMember_41 (by decide) ?_
      cases h
      exact kr_ret_z (v := b2i false) C (nar_b _) (Nat.le_of_ble_eq_true rfl) (Nat.le_of_ble_eq_true rfl) dX3_isMember_42
    have h := (if_neg hc).symm.trans h
    refine kr_aload_n C 0 dX3_isMember_10 rfl rfl ?_
    refine kr_get C inX3_isMember_X3 0 rfl rfl 4 (by decide) flX3_isMember_21 rfl rfl dX3_isMember_11 ?_
    refine kr_bipush C (v := 6) dX3_isMember_14 (by decide) ?_
    refine kr_iload_n C 1 dX3_isMember_16 rfl rfl ?_
    refine kr_imul C dX3_isMember_17 ?_
    refine kr_iload_n C 3 dX3_isMember_18 rfl rfl ?_
    refine kr_iadd C dX3_isMember_19 ?_
    obtain ⟨hb1, h⟩ := kif h
    refine kr_iald C 3 rfl (kin_in hb1) dX3_isMember_20 ?_
    refine kr_if_le C 35 dX3_isMember_21 (by decide) (fun hc => ?_) (fun hc => ?_)
    · have h := (if_pos hc).symm.trans h
      refine kr_iinc C (v := (x3 + 1)) 3 [1, 2, 3, 0] dX3_isMember_35 rfl rfl (by decide) rfl ?_
      refine kr_goto C 2 dX3_isMember_38 (by decide) ?_
      exact ih _ _ _ h
    have h := (if_neg hc).symm.trans h
    refine kr_aload_n C 0 dX3_isMember_24 rfl rfl ?_
    refine kr_iload_n C 3 dX3_isMember_25 rfl rfl ?_
    refine kr_iload_n C 2 dX3_isMember_26 rfl rfl ?_
    obtain ⟨v2, hv2, h⟩ := kob h
    refine kr_callV1 C (k := 2) (As := [.int x3, .int x2]) (rest := []) (c_X3_leads _ hv2) gX3_isMember_X3_leads rfl rfl rfl (by decide +kernel) ⟨(Nat.le_of_ble_eq_true rfl), (Nat.le_of_ble_eq_true rfl)⟩ ⟨(Nat.le_of_ble_eq_true rfl), (Nat.le_of_ble_eq_true rfl)⟩ 0 rfl rfl rfl rfl (Nat.le_of_ble_eq_true rfl) dX3_isMember_27 ?_
    refine kr_if_eq C 35 dX3_isMember_30 (by decide) (fun hc => ?_) (fun hc => ?_)
    · have h := (if_pos hc).symm.trans h
      refine kr_iinc C (v := (x3 + 1)) 3 [1, 2, 3, 0] dX3_isMember_35 rfl rfl (by decide) rfl ?_
      refine kr_goto C 2 dX3_isMember_38 (by decide) ?_
      exact ih _ _ _ h
    have h := (if_neg hc).symm.trans h
    refine kr_iconst C (v := 1) dX3_isMember_33 (by decide) ?_
    cases h
    exact kr_ret_z (v := b2i true) C (nar_b _) (Nat.le_of_ble_eq_true rfl) (Nat.le_of_ble_eq_true rfl) dX3_isMember_34
set_option maxHeartbeats 4000000 in
set_option maxRecDepth 100000 in
theorem c_X3_isMember {l : Launch} {D : va_G} {cy : Nat → ClassId} {a : Nat → Nat} {Z : va_W} {S : kSt} {p1 : Int32} {p2 : Int32} {r : Bool} (h : f_X3_isMember S p1 p2 = some r) : kM l yX3_isMember wsX3_isMember ({ frames := 10, cells := 0, slots := 0, locals := 229 } : Room) D cy (yw a cy S Z) [.ref (a 0), .int p1, .int p2] (yw a cy S Z) (some (.int (b2i r))) 0 0 := by
  rw [f_X3_isMember] at h
  refine kM.start (L := [(0, .ref (a 0)), (1, .int (p1)), (2, .int (p2))]) rfl rfl rfl (Nat.le_of_ble_eq_true rfl) rfl (fun K A C => ?_)
  refine kr_iconst C (v := 0) dX3_isMember_0 (by decide) ?_
  refine kr_istore_n C [1, 2, 3, 0] dX3_isMember_1 rfl (by decide) rfl ?_
  exact lc_X3_isMember_L2 C _ _ _ _ h
theorem flX3_rightOf_13 : Cond.fieldLink RX3 13 "FolderKeeperModel" "haveLeft" "[Z" ∈ wsX3_rightOf := by decide +kernel
theorem inX3_rightOf_X3 : ∀ w ∈ wsX30, w ∈ wsX3_rightOf := fun _ h => List.mem_cons_of_mem _ (List.mem_append_left _ (List.mem_append_right _ h))
theorem flX3_rightOf_30 : Cond.fieldLink RX3 30 "FolderKeeperModel" "owners" "[I" ∈ wsX3_rightOf := by decide +kernel
theorem flX3_rightOf_61 : Cond.fieldLink RX3 61 "FolderKeeperModel" "groups" "I" ∈ wsX3_rightOf := by decide +kernel
theorem flX3_rightOf_42 : Cond.fieldLink RX3 42 "FolderKeeperModel" "shares" "[I" ∈ wsX3_rightOf := by decide +kernel
theorem flX3_rightOf_27 : Cond.fieldLink RX3 27 "FolderKeeperModel" "inGroups" "[Z" ∈ wsX3_rightOf := by decide +kernel
theorem flX3_rightOf_45 : Cond.fieldLink RX3 45 "FolderKeeperModel" "groupShares" "[I" ∈ wsX3_rightOf := by decide +kernel
theorem flX3_rightOf_36 : Cond.fieldLink RX3 36 "FolderKeeperModel" "areBroken" "[Z" ∈ wsX3_rightOf := by decide +kernel
theorem flX3_rightOf_33 : Cond.fieldLink RX3 33 "FolderKeeperModel" "parents" "[I" ∈ wsX3_rightOf := by decide +kernel
set_option maxHeartbeats 4000000 in
set_option maxRecDepth 100000 in
theorem lc_X3_rightOf_L78 {K : kEnv} {l : Launch} {D : va_G} {cy : Nat → ClassId} {A : Nat → Prop} {a : Nat → Nat} {Z : va_W} {S : kSt} {r : Int32} {Q : State → Prop} (C : kC K D cy A 7 cX3_rightOf RX3 wsX3_rightOf (some .int)) : ∀ (n : Nat) (x1 x3 x4 x5 x6 : Int32), f_X3_rightOf_L78 n S x1 x3 x4 x5 x6 = some r → kG K l D A ({ frames := 11, cells := 0, slots := 0, locals := 252 } : Room) 7 Q (yw a cy S Z) 0 0 136 [(0, .ref (a 0)), (1, .int (x1)), (3, .int (x3)), (4, .int (x4)), (5, .int (r))] [] → kG K l D A ({ frames := 11, cells := 0, slots := 0, locals := 252 } : Room) 7 Q (yw a cy S Z) 0 0 78 [(0, .ref (a 0)), (1, .int (x1)), (3, .int (x3)), (4, .int (x4)), (5, .int (x5)), (6, .int (x6))] [] := by
  intro n
  induction n with
  | zero => intro x1 x3 x4 x5 x6 h kk; rw [f_X3_rightOf_L78] at h; cases h
  | succ n ih =>
    intro x1 x3 x4 x5 x6 h kk
    rw [f_X3_rightOf_L78] at h
    refine kr_iload C 5 dX3_rightOf_78 rfl ?_
    refine kr_aload_n C 0 dX3_rightOf_80 rfl rfl ?_
    refine kr_get C inX3_rightOf_X3 0 rfl rfl 3 (by decide) flX3_rightOf_61 rfl rfl dX3_rightOf_81 ?_
    refine kr_icmp_ge C 136 dX3_rightOf_84 (by decide) (fun hc => ?_) (fun hc => ?_)
    · have h := (if_pos hc).symm.trans h
      cases h
      refine kr_sub [0, 1, 2, 3, 4] rfl ?_
      exact kk
    have h := (if_neg hc).symm.trans h
    refine kr_aload_n C 0 dX3_rightOf_87 rfl rfl ?_
    refine kr_get C inX3_rightOf_X3 0 rfl rfl 6 (by decide) flX3_rightOf_27 rfl rfl dX3_rightOf_88 ?_
    refine kr_iload C 5 dX3_rightOf_91 rfl ?_
    obtain ⟨hb4, h⟩ := kif h
    refine kr_zald C 5 rfl (kin_in hb4) dX3_rightOf_93 ?_
    refine kr_if_eq C 130 dX3_rightOf_94 (by decide) (fun hc => ?_) (fun hc => ?_)
    · have h := (if_pos hc).symm.trans h
      refine kr_iinc C (v := (x6 + 1)) 5 [1, 2, 3, 4, 5, 0] dX3_rightOf_130 rfl rfl (by decide) rfl ?_
      refine kr_goto C 78 dX3_rightOf_133 (by decide) ?_
      exact ih _ _ _ _ _ h kk
    have h := (if_neg hc).symm.trans h
    refine kr_aload_n C 0 dX3_rightOf_97 rfl rfl ?_
    refine kr_get C inX3_rightOf_X3 0 rfl rfl 13 (by decide) flX3_rightOf_45 rfl rfl dX3_rightOf_98 ?_
    refine kr_bipush C (v := 6) dX3_rightOf_101 (by decide) ?_
    refine kr_iload C 3 dX3_rightOf_103 rfl ?_
    refine kr_imul C dX3_rightOf_105 ?_
    refine kr_iload C 5 dX3_rightOf_106 rfl ?_
    refine kr_iadd C dX3_rightOf_108 ?_
    obtain ⟨hb5, h⟩ := kif h
    refine kr_iald C 11 rfl (kin_in hb5) dX3_rightOf_109 ?_
    refine kr_iload C 4 dX3_rightOf_110 rfl ?_
    refine kr_icmp_le C 130 dX3_rightOf_112 (by decide) (fun hc => ?_) (fun hc => ?_)
    · have h := (if_pos hc).symm.trans h
      refine kr_iinc C (v := (x6 + 1)) 5 [1, 2, 3, 4, 5, 0] dX3_rightOf_130 rfl rfl (by decide) rfl ?_
      refine kr_goto C 78 dX3_rightOf_133 (by decide) ?_
      exact ih _ _ _ _ _ h kk
    have h := (if_neg hc).symm.trans h
    refine kr_aload_n C 0 dX3_rightOf_115 rfl rfl ?_
    refine kr_get C inX3_rightOf_X3 0 rfl rfl 13 (by decide) flX3_rightOf_45 rfl rfl dX3_rightOf_116 ?_
    refine kr_bipush C (v := 6) dX3_rightOf_119 (by decide) ?_
    refine kr_iload C 3 dX3_rightOf_121 rfl ?_
    refine kr_imul C dX3_rightOf_123 ?_
    refine kr_iload C 5 dX3_rightOf_124 rfl ?_
    refine kr_iadd C dX3_rightOf_126 ?_
    obtain ⟨hb6, h⟩ := kif h
    refine kr_iald C 11 rfl (kin_in hb6) dX3_rightOf_127 ?_
    refine kr_istore C [1, 2, 3, 4, 0, 5] dX3_rightOf_128 (by decide) rfl ?_
    refine kr_iinc C (v := (x6 + 1)) 5 [1, 2, 3, 4, 5, 0] dX3_rightOf_130 rfl rfl (by decide) rfl ?_
    refine kr_goto C 78 dX3_rightOf_133 (by decide) ?_
    exact ih _ _ _ _ _ h kk
set_option maxHeartbeats 4000000 in
set_option maxRecDepth 100000 in
theorem lc_X3_rightOf_L56 {K : kEnv} {l : Launch} {D : va_G} {cy : Nat → ClassId} {A : Nat → Prop} {a : Nat → Nat} {Z : va_W} {S : kSt} {r : (Int32 × kSt)} (C : kC K D cy A 7 cX3_rightOf RX3 wsX3_rightOf (some .int)) : ∀ (n : Nat) (x1 x3 x4 : Int32), f_X3_rightOf_L56 n S x1 x3 x4 = some r → kG K l D A ({ frames := 11, cells := 0, slots := 0, locals := 252 } : Room) 7 (kEnd K D cy A (yw a cy r.2 Z) (some (.int r.1)) 0 0) (yw a cy S Z) 0 0 56 [(0, .ref (a 0)), (1, .int (x1)), (3, .int (x3)), (4, .int (x4))] [] := by
  intro n
  induction n with
  | zero => intro x1 x3 x4 h; rw [f_X3_rightOf_L56] at h; cases h
  | succ n ih =>
    intro x1 x3 x4 h
    rw [f_X3_rightOf_L56] at h
    refine kr_iload C 3 dX3_rightOf_56 rfl ?_
    refine kr_if_lt C 175 dX3_rightOf_58 (by decide) (fun hc => ?_) (fun hc => ?_)
    · have h := (if_pos hc).symm.trans h
      refine kr_iload_n C 2 dX3_rightOf_175 rfl rfl ?_
      cases h
      exact kr_ret_i C (Nat.le_of_ble_eq_true rfl) (Nat.le_of_ble_eq_true rfl) dX3_rightOf_176
    have h := (if_neg hc).symm.trans h
    refine kr_aload_n C 0 dX3_rightOf_61 rfl rfl ?_
    refine kr_get C inX3_rightOf_X3 0 rfl rfl 12 (by decide) flX3_rightOf_42 rfl rfl dX3_rightOf_62 ?_
    refine kr_bipush C (v := 10) dX3_rightOf_65 (by decide) ?_
    refine kr_iload C 3 dX3_rightOf_67 rfl ?_
    refine kr_imul C dX3_rightOf_69 ?_
    refine kr_iload_n C 1 dX3_rightOf_70 rfl rfl ?_
    refine kr_iadd C dX3_rightOf_71 ?_
    obtain ⟨hb3, h⟩ := kif h
    refine kr_iald C 10 rfl (kin_in hb3) dX3_rightOf_72 ?_
    refine kr_istore C [1, 2, 3, 4, 0] dX3_rightOf_73 (by decide) rfl ?_
    refine kr_iconst C (v := 0) dX3_rightOf_75 (by decide) ?_
    refine kr_istore C [1, 2, 3, 4, 5, 0] dX3_rightOf_76 (by decide) rfl ?_
    obtain ⟨q7, hq7, h⟩ := kob h
    refine lc_X3_rightOf_L78 C _ _ _ _ _ _ hq7 ?_
    refine kr_iload C 4 dX3_rightOf_136 rfl ?_
    refine kr_iload_n C 2 dX3_rightOf_138 rfl rfl ?_
    refine kr_icmp_le C 147 dX3_rightOf_139 (by decide) (fun hc => ?_) (fun hc => ?_)
    · have h := (if_pos hc).symm.trans h
      refine kr_iload_n C 2 dX3_rightOf_147 rfl rfl ?_
      refine kr_istore_n C [1, 2, 0, 3, 4] dX3_rightOf_148 rfl (by decide) rfl ?_
      refine kr_aload_n C 0 dX3_rightOf_149 rfl rfl ?_
      refine kr_get C inX3_rightOf_X3 0 rfl rfl 10 (by decide) flX3_rightOf_36 rfl rfl dX3_rightOf_150 ?_
      refine kr_iload C 3 dX3_rightOf_153 rfl ?_
      obtain ⟨hb8, h⟩ := kif h
      refine kr_zald C 8 rfl (kin_in hb8) dX3_rightOf_155 ?_
      refine kr_if_eq C 163 dX3_rightOf_156 (by decide) (fun hc => ?_) (fun hc => ?_)
      · have h := (if_pos hc).symm.trans h
        refine kr_aload_n C 0 dX3_rightOf_163 rfl rfl ?_
        refine kr_get C inX3_rightOf_X3 0 rfl rfl 9 (by decide) flX3_rightOf_33 rfl rfl dX3_rightOf_164 ?_
        refine kr_iload C 3 dX3_rightOf_167 rfl ?_
        obtain ⟨hb9, h⟩ := kif h
        refine kr_iald C 7 rfl (kin_in hb9) dX3_rightOf_169 ?_
        refine kr_istore C [1, 2, 3, 0, 4] dX3_rightOf_170 (by decide) rfl ?_
        refine kr_goto C 56 dX3_rightOf_172 (by decide) ?_
        refine kr_sub [0, 1, 2, 3] rfl ?_
        exact ih _ _ _ h
      have h := (if_neg hc).symm.trans h
      refine kr_iconst C (v := -1) dX3_rightOf_159 (by decide) ?_
      refine kr_goto C 170 dX3_rightOf_160 (by decide) ?_
      refine kr_istore C [1, 2, 3, 0, 4] dX3_rightOf_170 (by decide) rfl ?_
      refine kr_goto C 56 dX3_rightOf_172 (by decide) ?_
      refine kr_sub [0, 1, 2, 3] rfl ?_
      exact ih _ _ _ h
    have h := (if_neg hc).symm.trans h
    refine kr_iload C 4 dX3_rightOf_142 rfl ?_
    refine kr_goto C 148 dX3_rightOf_144 (by decide) ?_
    refine kr_istore_n C [1, 2, 0, 3, 4] dX3_rightOf_148 rfl (by decide) rfl ?_
    refine kr_aload_n C 0 dX3_rightOf_149 rfl rfl ?_
    refine kr_get C inX3_rightOf_X3 0 rfl rfl 10 (by decide) flX3_rightOf_36 rfl rfl dX3_rightOf_150 ?_
    refine kr_iload C 3 dX3_rightOf_153 rfl ?_
    obtain ⟨hb10, h⟩ := kif h
    refine kr_zald C 8 rfl (kin_in hb10) dX3_rightOf_155 ?_
    refine kr_if_eq C 163 dX3_rightOf_156 (by decide) (fun hc => ?_) (fun hc => ?_)
    · have h := (if_pos hc).symm.trans h
      refine kr_aload_n C 0 dX3_rightOf_163 rfl rfl ?_
      refine kr_get C inX3_rightOf_X3 0 rfl rfl 9 (by decide) flX3_rightOf_33 rfl rfl dX3_rightOf_164 ?_
      refine kr_iload C 3 dX3_rightOf_167 rfl ?_
      obtain ⟨hb11, h⟩ := kif h
      refine kr_iald C 7 rfl (kin_in hb11) dX3_rightOf_169 ?_
      refine kr_istore C [1, 2, 3, 0, 4] dX3_rightOf_170 (by decide) rfl ?_
      refine kr_goto C 56 dX3_rightOf_172 (by decide) ?_
      refine kr_sub [0, 1, 2, 3] rfl ?_
      exact ih _ _ _ h
    have h := (if_neg hc).symm.trans h
    refine kr_iconst C (v := -1) dX3_rightOf_159 (by decide) ?_
    refine kr_goto C 170 dX3_rightOf_160 (by decide) ?_
    refine kr_istore C [1, 2, 3, 0, 4] dX3_rightOf_170 (by decide) rfl ?_
    refine kr_goto C 56 dX3_rightOf_172 (by decide) ?_
    refine kr_sub [0, 1, 2, 3] rfl ?_
    exact ih _ _ _ h
set_option maxHeartbeats 4000000 in
set_option maxRecDepth 100000 in
theorem lc_X3_rightOf_L25 {K : kEnv} {l : Launch} {D : va_G} {cy : Nat → ClassId} {A : Nat → Prop} {a : Nat → Nat} {Z : va_W} {r : (Int32 × kSt)} (C : kC K D cy A 7 cX3_rightOf RX3 wsX3_rightOf (some .int)) : ∀ (n : Nat) (S : kSt) (x1 x2 x3 : Int32), f_X3_rightOf_L25 n S x1 x2 x3 = some r → kG K l D A ({ frames := 11, cells := 0, slots := 0, locals := 252 } : Room) 7 (kEnd K D cy A (yw a cy r.2 Z) (some (.int r.1)) 0 0) (yw a cy S Z) 0 0 25 [(0, .ref (a 0)), (1, .int (x1)), (2, .int (x2)), (3, .int (x3))] [] := by
  intro n
  induction n with
  | zero => intro S x1 x2 x3 h; rw [f_X3_rightOf_L25] at h; cases h
  | succ n ih =>
    intro S x1 x2 x3 h
    rw [f_X3_rightOf_L25] at h
    refine kr_iload_n C 3 dX3_rightOf_25 rfl rfl ?_
    refine kr_aload_n C 0 dX3_rightOf_26 rfl rfl ?_
    refine kr_get C inX3_rightOf_X3 0 rfl rfl 3 (by decide) flX3_rightOf_61 rfl rfl dX3_rightOf_27 ?_
    refine kr_icmp_ge C 51 dX3_rightOf_30 (by decide) (fun hc => ?_) (fun hc => ?_)
    · have h := (if_pos hc).symm.trans h
      refine kr_iconst C (v := 0) dX3_rightOf_51 (by decide) ?_
      refine kr_istore_n C [1, 2, 3, 0] dX3_rightOf_52 rfl (by decide) rfl ?_
      refine kr_iload_n C 2 dX3_rightOf_53 rfl rfl ?_
      refine kr_istore C [1, 2, 3, 4, 0] dX3_rightOf_54 (by decide) rfl ?_
      refine kr_sub [0, 1, 3, 4] rfl ?_
      exact lc_X3_rightOf_L56 C _ _ _ _ h
    have h := (if_neg hc).symm.trans h
    refine kr_aload_n C 0 dX3_rightOf_33 rfl rfl ?_
    refine kr_get C inX3_rightOf_X3 0 rfl rfl 6 (by decide) flX3_rightOf_27 rfl rfl dX3_rightOf_34 ?_
    refine kr_iload_n C 3 dX3_rightOf_37 rfl rfl ?_
    refine kr_aload_n C 0 dX3_rightOf_38 rfl rfl ?_
    refine kr_iload_n C 1 dX3_rightOf_39 rfl rfl ?_
    refine kr_iload_n C 3 dX3_rightOf_40 rfl rfl ?_
    obtain ⟨v12, hv12, h⟩ := kob h
    refine kr_callV1 C (k := 2) (As := [.int x1, .int x3]) (rest := [.int (x3), .ref (a 6)]) (c_X3_isMember hv12) gX3_rightOf_X3_isMember rfl rfl rfl (by decide +kernel) ⟨(Nat.le_of_ble_eq_true rfl), (Nat.le_of_ble_eq_true rfl)⟩ ⟨(Nat.le_of_ble_eq_true rfl), (Nat.le_of_ble_eq_true rfl)⟩ 0 rfl rfl rfl rfl (Nat.le_of_ble_eq_true rfl) dX3_rightOf_41 ?_
    obtain ⟨hb13, h⟩ := kif h
    refine kr_zast C 5 rfl (kin_in hb13) (yq6 _ _ _ _ _) dX3_rightOf_44 ?_
    refine kr_iinc C (v := (x3 + 1)) 3 [1, 2, 3, 0] dX3_rightOf_45 rfl rfl (by decide) rfl ?_
    refine kr_goto C 25 dX3_rightOf_48 (by decide) ?_
    exact ih _ _ _ _ h
set_option maxHeartbeats 4000000 in
set_option maxRecDepth 100000 in
theorem c_X3_rightOf {l : Launch} {D : va_G} {cy : Nat → ClassId} {a : Nat → Nat} {Z : va_W} {S : kSt} {p1 : Int32} {p2 : Int32} {r : (Int32 × kSt)} (h : f_X3_rightOf S p1 p2 = some r) : kM l yX3_rightOf wsX3_rightOf ({ frames := 11, cells := 0, slots := 0, locals := 252 } : Room) D cy (yw a cy S Z) [.ref (a 0), .int p1, .int p2] (yw a cy r.2 Z) (some (.int r.1)) 0 0 := by
  rw [f_X3_rightOf] at h
  refine kM.start (L := [(0, .ref (a 0)), (1, .int (p1)), (2, .int (p2))]) rfl rfl rfl (Nat.le_of_ble_eq_true rfl) rfl (fun K A C => ?_)
  refine kr_aload_n C 0 dX3_rightOf_0 rfl rfl ?_
  refine kr_get C inX3_rightOf_X3 0 rfl rfl 1 (by decide) flX3_rightOf_13 rfl rfl dX3_rightOf_1 ?_
  refine kr_iload_n C 1 dX3_rightOf_4 rfl rfl ?_
  obtain ⟨hb1, h⟩ := kif h
  refine kr_zald C 1 rfl (kin_in hb1) dX3_rightOf_5 ?_
  refine kr_if_eq C 11 dX3_rightOf_6 (by decide) (fun hc => ?_) (fun hc => ?_)
  · have h := (if_pos hc).symm.trans h
    refine kr_aload_n C 0 dX3_rightOf_11 rfl rfl ?_
    refine kr_get C inX3_rightOf_X3 0 rfl rfl 8 (by decide) flX3_rightOf_30 rfl rfl dX3_rightOf_12 ?_
    refine kr_iload_n C 2 dX3_rightOf_15 rfl rfl ?_
    obtain ⟨hb2, h⟩ := kif h
    refine kr_iald C 6 rfl (kin_in hb2) dX3_rightOf_16 ?_
    refine kr_iload_n C 1 dX3_rightOf_17 rfl rfl ?_
    refine kr_icmp_ne C 23 dX3_rightOf_18 (by decide) (fun hc => ?_) (fun hc => ?_)
    · have h := (if_pos hc).symm.trans h
      refine kr_iconst C (v := 3) dX3_rightOf_21 (by decide) ?_
      cases h
      exact kr_ret_i C (Nat.le_of_ble_eq_true rfl) (Nat.le_of_ble_eq_true rfl) dX3_rightOf_22
    have h := (if_neg hc).symm.trans h
    refine kr_iconst C (v := 0) dX3_rightOf_23 (by decide) ?_
    refine kr_istore_n C [1, 2, 3, 0] dX3_rightOf_24 rfl (by decide) rfl ?_
    exact lc_X3_rightOf_L25 C _ _ _ _ _ h
  have h := (if_neg hc).symm.trans h
  refine kr_iconst C (v := 0) dX3_rightOf_9 (by decide) ?_
  cases h
  exact kr_ret_i C (Nat.le_of_ble_eq_true rfl) (Nat.le_of_ble_eq_true rfl) dX3_rightOf_10
set_option maxHeartbeats 4000000 in
set_option maxRecDepth 100000 in
theorem c_X3_asked {l : Launch} {D : va_G} {cy : Nat → ClassId} {a : Nat → Nat} {Z : va_W} {S : kSt} {p1 : Int32} {p2 : Int32} {r : (Int32 × kSt)} (h : f_X3_asked S p1 p2 = some r) : kM l yX3_asked wsX3_asked ({ frames := 12, cells := 0, slots := 0, locals := 278 } : Room) D cy (yw a cy S Z) [.ref (a 0), .int p1, .int p2] (yw a cy r.2 Z) (some (.int r.1)) 0 0 := by
  rw [f_X3_asked] at h
  refine kM.start (L := [(0, .ref (a 0)), (1, .int (p1)), (2, .int (p2))]) rfl rfl rfl (Nat.le_of_ble_eq_true rfl) rfl (fun K A C => ?_)
  refine kr_aload_n C 0 dX3_asked_0 rfl rfl ?_
  refine kr_aload_n C 0 dX3_asked_1 rfl rfl ?_
  refine kr_iload_n C 1 dX3_asked_2 rfl rfl ?_
  obtain ⟨v1, hv1, h⟩ := kob h
  refine kr_callV1 C (k := 1) (As := [.int p1]) (rest := [.ref (a 0)]) (c_X3_isNoAccount hv1) gX3_asked_X3_isNoAccount rfl rfl rfl (by decide +kernel) ⟨(Nat.le_of_ble_eq_true rfl), (Nat.le_of_ble_eq_true rfl)⟩ ⟨(Nat.le_of_ble_eq_true rfl), (Nat.le_of_ble_eq_true rfl)⟩ 0 rfl rfl rfl rfl (Nat.le_of_ble_eq_true rfl) dX3_asked_3 ?_
  refine kr_if_ne C 17 dX3_asked_6 (by decide) (fun hc => ?_) (fun hc => ?_)
  · have h := (if_pos hc).symm.trans h
    refine kr_aload_n C 0 dX3_asked_9 rfl rfl ?_
    refine kr_iload_n C 2 dX3_asked_10 rfl rfl ?_
    obtain ⟨v2, hv2, h⟩ := kob h
    refine kr_callV1 C (k := 1) (As := [.int p2]) (rest := [.ref (a 0)]) (c_X3_isNoFolder hv2) gX3_asked_X3_isNoFolder rfl rfl rfl (by decide +kernel) ⟨(Nat.le_of_ble_eq_true rfl), (Nat.le_of_ble_eq_true rfl)⟩ ⟨(Nat.le_of_ble_eq_true rfl), (Nat.le_of_ble_eq_true rfl)⟩ 0 rfl rfl rfl rfl (Nat.le_of_ble_eq_true rfl) dX3_asked_11 ?_
    refine kr_if_eq C 21 dX3_asked_14 (by decide) (fun hc => ?_) (fun hc => ?_)
    · have h := (if_pos hc).symm.trans h
      refine kr_iconst C (v := 0) dX3_asked_21 (by decide) ?_
      obtain ⟨v3, hv3, h⟩ := kob h
      refine kr_callV1 C (k := 1) (As := [.int (0 : Int32)]) (rest := []) (c_X3_fails hv3) gX3_asked_X3_fails rfl rfl rfl (by decide +kernel) ⟨(Nat.le_of_ble_eq_true rfl), (Nat.le_of_ble_eq_true rfl)⟩ ⟨(Nat.le_of_ble_eq_true rfl), (Nat.le_of_ble_eq_true rfl)⟩ 0 rfl rfl rfl rfl (Nat.le_of_ble_eq_true rfl) dX3_asked_22 ?_
      refine kr_if_eq C 32 dX3_asked_25 (by decide) (fun hc => ?_) (fun hc => ?_)
      · have h := (if_pos hc).symm.trans h
        refine kr_aload_n C 0 dX3_asked_32 rfl rfl ?_
        refine kr_iload_n C 1 dX3_asked_33 rfl rfl ?_
        refine kr_iload_n C 2 dX3_asked_34 rfl rfl ?_
        obtain ⟨v4, hv4, h⟩ := kob h
        refine kr_callV1 C (k := 2) (As := [.int p1, .int p2]) (rest := []) (c_X3_rightOf hv4) gX3_asked_X3_rightOf rfl rfl rfl (by decide +kernel) ⟨(Nat.le_of_ble_eq_true rfl), (Nat.le_of_ble_eq_true rfl)⟩ ⟨(Nat.le_of_ble_eq_true rfl), (Nat.le_of_ble_eq_true rfl)⟩ 0 rfl rfl rfl rfl (Nat.le_of_ble_eq_true rfl) dX3_asked_35 ?_
        cases h
        exact kr_ret_i C (Nat.le_of_ble_eq_true rfl) (Nat.le_of_ble_eq_true rfl) dX3_asked_38
      have h := (if_neg hc).symm.trans h
      refine kr_iconst C (v := 0) dX3_asked_28 (by decide) ?_
      refine kr_goto C 38 dX3_asked_29 (by decide) ?_
      cases h
      exact kr_ret_i C (Nat.le_of_ble_eq_true rfl) (Nat.le_of_ble_eq_true rfl) dX3_asked_38
    have h := (if_neg hc).symm.trans h
    refine kr_iconst C (v := 1) dX3_asked_17 (by decide) ?_
    refine kr_goto C 22 dX3_asked_18 (by decide) ?_
    obtain ⟨v5, hv5, h⟩ := kob h
    refine kr_callV1 C (k := 1) (As := [.int (1 : Int32)]) (rest := []) (c_X3_fails hv5) gX3_asked_X3_fails rfl rfl rfl (by decide +kernel) ⟨(Nat.le_of_ble_eq_true rfl), (Nat.le_of_ble_eq_true rfl)⟩ ⟨(Nat.le_of_ble_eq_true rfl), (Nat.le_of_ble_eq_true rfl)⟩ 0 rfl rfl rfl rfl (Nat.le_of_ble_eq_true rfl) dX3_asked_22 ?_
    refine kr_if_eq C 32 dX3_asked_25 (by decide) (fun hc => ?_) (fun hc => ?_)
    · have h := (if_pos hc).symm.trans h
      refine kr_aload_n C 0 dX3_asked_32 rfl rfl ?_
      refine kr_iload_n C 1 dX3_asked_33 rfl rfl ?_
      refine kr_iload_n C 2 dX3_asked_34 rfl rfl ?_
      obtain ⟨v6, hv6, h⟩ := kob h
      refine kr_callV1 C (k := 2) (As := [.int p1, .int p2]) (rest := []) (c_X3_rightOf hv6) gX3_asked_X3_rightOf rfl rfl rfl (by decide +kernel) ⟨(Nat.le_of_ble_eq_true rfl), (Nat.le_of_ble_eq_true rfl)⟩ ⟨(Nat.le_of_ble_eq_true rfl), (Nat.le_of_ble_eq_true rfl)⟩ 0 rfl rfl rfl rfl (Nat.le_of_ble_eq_true rfl) dX3_asked_35 ?_
      cases h
      exact kr_ret_i C (Nat.le_of_ble_eq_true rfl) (Nat.le_of_ble_eq_true rfl) dX3_asked_38
    have h := (if_neg hc).symm.trans h
    refine kr_iconst C (v := 0) dX3_asked_28 (by decide) ?_
    refine kr_goto C 38 dX3_asked_29 (by decide) ?_
    cases h
    exact kr_ret_i C (Nat.le_of_ble_eq_true rfl) (Nat.le_of_ble_eq_true rfl) dX3_asked_38
  have h := (if_neg hc).symm.trans h
  refine kr_iconst C (v := 1) dX3_asked_17 (by decide) ?_
  refine kr_goto C 22 dX3_asked_18 (by decide) ?_
  obtain ⟨v7, hv7, h⟩ := kob h
  refine kr_callV1 C (k := 1) (As := [.int (1 : Int32)]) (rest := []) (c_X3_fails hv7) gX3_asked_X3_fails rfl rfl rfl (by decide +kernel) ⟨(Nat.le_of_ble_eq_true rfl), (Nat.le_of_ble_eq_true rfl)⟩ ⟨(Nat.le_of_ble_eq_true rfl), (Nat.le_of_ble_eq_true rfl)⟩ 0 rfl rfl rfl rfl (Nat.le_of_ble_eq_true rfl) dX3_asked_22 ?_
  refine kr_if_eq C 32 dX3_asked_25 (by decide) (fun hc => ?_) (fun hc => ?_)
  · have h := (if_pos hc).symm.trans h
    refine kr_aload_n C 0 dX3_asked_32 rfl rfl ?_
    refine kr_iload_n C 1 dX3_asked_33 rfl rfl ?_
    refine kr_iload_n C 2 dX3_asked_34 rfl rfl ?_
    obtain ⟨v8, hv8, h⟩ := kob h
    refine kr_callV1 C (k := 2) (As := [.int p1, .int p2]) (rest := []) (c_X3_rightOf hv8) gX3_asked_X3_rightOf rfl rfl rfl (by decide +kernel) ⟨(Nat.le_of_ble_eq_true rfl), (Nat.le_of_ble_eq_true rfl)⟩ ⟨(Nat.le_of_ble_eq_true rfl), (Nat.le_of_ble_eq_true rfl)⟩ 0 rfl rfl rfl rfl (Nat.le_of_ble_eq_true rfl) dX3_asked_35 ?_
    cases h
    exact kr_ret_i C (Nat.le_of_ble_eq_true rfl) (Nat.le_of_ble_eq_true rfl) dX3_asked_38
  have h := (if_neg hc).symm.trans h
  refine kr_iconst C (v := 0) dX3_asked_28 (by decide) ?_
  refine kr_goto C 38 dX3_asked_29 (by decide) ?_
  cases h
  exact kr_ret_i C (Nat.le_of_ble_eq_true rfl) (Nat.le_of_ble_eq_true rfl) dX3_asked_38
theorem flX3_day_74 : Cond.fieldLink RX3 74 "FolderKeeperModel" "day" "I" ∈ wsX3_day := by decide +kernel
theorem inX3_day_X3 : ∀ w ∈ wsX30, w ∈ wsX3_day := fun _ h => List.mem_cons_of_mem _ (List.mem_append_right _ h)
set_option maxHeartbeats 4000000 in
set_option maxRecDepth 100000 in
theorem c_X3_day {l : Launch} {D : va_G} {cy : Nat → ClassId} {a : Nat → Nat} {Z : va_W} {S : kSt} {r : (Int32 × kSt)} (h : f_X3_day S = some r) : kM l yX3_day wsX3_day ({ frames := 1, cells := 0, slots := 0, locals := 21 } : Room) D cy (yw a cy S Z) [.ref (a 0)] (yw a cy r.2 Z) (some (.int r.1)) 0 0 := by
  rw [f_X3_day] at h
  refine kM.start (L := [(0, .ref (a 0))]) rfl rfl rfl (Nat.le_of_ble_eq_true rfl) rfl (fun K A C => ?_)
  refine kr_aload_n C 0 dX3_day_0 rfl rfl ?_
  refine kr_aload_n C 0 dX3_day_1 rfl rfl ?_
  refine kr_get C inX3_day_X3 0 rfl rfl 17 (by decide) flX3_day_74 rfl rfl dX3_day_2 ?_
  obtain ⟨v1, hv1, h⟩ := kob h
  refine kr_callV1 C (k := 1) (As := [.int (S.1 17)]) (rest := []) (c_X3_tells hv1) gX3_day_X3_tells rfl rfl rfl (by decide +kernel) ⟨(Nat.le_of_ble_eq_true rfl), (Nat.le_of_ble_eq_true rfl)⟩ ⟨(Nat.le_of_ble_eq_true rfl), (Nat.le_of_ble_eq_true rfl)⟩ 0 rfl rfl rfl rfl (Nat.le_of_ble_eq_true rfl) dX3_day_5 ?_
  cases h
  exact kr_ret_i C (Nat.le_of_ble_eq_true rfl) (Nat.le_of_ble_eq_true rfl) dX3_day_8
theorem flX3_membersOf_7 : Cond.fieldLink RX3 7 "FolderKeeperModel" "accounts" "I" ∈ wsX3_membersOf := by decide +kernel
theorem inX3_membersOf_X3 : ∀ w ∈ wsX30, w ∈ wsX3_membersOf := fun _ h => List.mem_cons_of_mem _ (List.mem_append_left _ (List.mem_append_right _ h))
theorem flX3_membersOf_21 : Cond.fieldLink RX3 21 "FolderKeeperModel" "memberEnds" "[I" ∈ wsX3_membersOf := by decide +kernel
set_option maxHeartbeats 4000000 in
set_option maxRecDepth 100000 in
theorem lc_X3_membersOf_L4 {K : kEnv} {l : Launch} {D : va_G} {cy : Nat → ClassId} {A : Nat → Prop} {a : Nat → Nat} {Z : va_W} {S : kSt} {r : Int32} (C : kC K D cy A 4 cX3_membersOf RX3 wsX3_membersOf (some .int)) : ∀ (n : Nat) (x1 x2 x3 : Int32), f_X3_membersOf_L4 n S x1 x2 x3 = some r → kG K l D A ({ frames := 0, cells := 0, slots := 0, locals := 0 } : Room) 4 (kEnd K D cy A (yw a cy S Z) (some (.int r)) 0 0) (yw a cy S Z) 0 0 4 [(0, .ref (a 0)), (1, .int (x1)), (2, .int (x2)), (3, .int (x3))] [] := by
  intro n
  induction n with
  | zero => intro x1 x2 x3 h; rw [f_X3_membersOf_L4] at h; cases h
  | succ n ih =>
    intro x1 x2 x3 h
    rw [f_X3_membersOf_L4] at h
    refine kr_iload_n C 3 dX3_membersOf_4 rfl rfl ?_
    refine kr_aload_n C 0 dX3_membersOf_5 rfl rfl ?_
    refine kr_get C inX3_membersOf_X3 0 rfl rfl 0 (by decide) flX3_membersOf_7 rfl rfl dX3_membersOf_6 ?_
    refine kr_icmp_ge C 40 dX3_membersOf_9 (by decide) (fun hc => ?_) (fun hc => ?_)
    · have h := (if_pos hc).symm.trans h
      refine kr_iload_n C 2 dX3_membersOf_40 rfl rfl ?_
      cases h
      exact kr_ret_i C (Nat.le_of_ble_eq_true rfl) (Nat.le_of_ble_eq_true rfl) dX3_membersOf_41
    have h := (if_neg hc).symm.trans h
    refine kr_iload_n C 2 dX3_membersOf_12 rfl rfl ?_
    refine kr_aload_n C 0 dX3_membersOf_13 rfl rfl ?_
    refine kr_get C inX3_membersOf_X3 0 rfl rfl 4 (by decide) flX3_membersOf_21 rfl rfl dX3_membersOf_14 ?_
    refine kr_bipush C (v := 6) dX3_membersOf_17 (by decide) ?_
    refine kr_iload_n C 3 dX3_membersOf_19 rfl rfl ?_
    refine kr_imul C dX3_membersOf_20 ?_
    refine kr_iload_n C 1 dX3_membersOf_21 rfl rfl ?_
    refine kr_iadd C dX3_membersOf_22 ?_
    obtain ⟨hb1, h⟩ := kif h
    refine kr_iald C 3 rfl (kin_in hb1) dX3_membersOf_23 ?_
    refine kr_if_le C 31 dX3_membersOf_24 (by decide) (fun hc => ?_) (fun hc => ?_)
    · have h := (if_pos hc).symm.trans h
      refine kr_iconst C (v := 0) dX3_membersOf_31 (by decide) ?_
      refine kr_iadd C dX3_membersOf_32 ?_
      refine kr_istore_n C [1, 2, 0, 3] dX3_membersOf_33 rfl (by decide) rfl ?_
      refine kr_iinc C (v := (x3 + 1)) 3 [1, 2, 3, 0] dX3_membersOf_34 rfl rfl (by decide) rfl ?_
      refine kr_goto C 4 dX3_membersOf_37 (by decide) ?_
      exact ih _ _ _ h
    have h := (if_neg hc).symm.trans h
    refine kr_iconst C (v := 1) dX3_membersOf_27 (by decide) ?_
    refine kr_goto C 32 dX3_membersOf_28 (by decide) ?_
    refine kr_iadd C dX3_membersOf_32 ?_
    refine kr_istore_n C [1, 2, 0, 3] dX3_membersOf_33 rfl (by decide) rfl ?_
    refine kr_iinc C (v := (x3 + 1)) 3 [1, 2, 3, 0] dX3_membersOf_34 rfl rfl (by decide) rfl ?_
    refine kr_goto C 4 dX3_membersOf_37 (by decide) ?_
    exact ih _ _ _ h
set_option maxHeartbeats 4000000 in
set_option maxRecDepth 100000 in
theorem c_X3_membersOf {l : Launch} {D : va_G} {cy : Nat → ClassId} {a : Nat → Nat} {Z : va_W} {S : kSt} {p1 : Int32} {r : Int32} (h : f_X3_membersOf S p1 = some r) : kM l yX3_membersOf wsX3_membersOf ({ frames := 0, cells := 0, slots := 0, locals := 0 } : Room) D cy (yw a cy S Z) [.ref (a 0), .int p1] (yw a cy S Z) (some (.int r)) 0 0 := by
  rw [f_X3_membersOf] at h
  refine kM.start (L := [(0, .ref (a 0)), (1, .int (p1))]) rfl rfl rfl (Nat.le_of_ble_eq_true rfl) rfl (fun K A C => ?_)
  refine kr_iconst C (v := 0) dX3_membersOf_0 (by decide) ?_
  refine kr_istore_n C [1, 2, 0] dX3_membersOf_1 rfl (by decide) rfl ?_
  refine kr_iconst C (v := 0) dX3_membersOf_2 (by decide) ?_
  refine kr_istore_n C [1, 2, 3, 0] dX3_membersOf_3 rfl (by decide) rfl ?_
  exact lc_X3_membersOf_L4 C _ _ _ _ h
theorem flX3_drop_21 : Cond.fieldLink RX3 21 "FolderKeeperModel" "memberEnds" "[I" ∈ wsX3_drop := by decide +kernel
theorem inX3_drop_X3 : ∀ w ∈ wsX30, w ∈ wsX3_drop := fun _ h => List.mem_cons_of_mem _ (List.mem_append_left _ (List.mem_append_right _ h))
set_option maxHeartbeats 4000000 in
set_option maxRecDepth 100000 in
theorem c_X3_drop {l : Launch} {D : va_G} {cy : Nat → ClassId} {a : Nat → Nat} {Z : va_W} {S : kSt} {p1 : Int32} {p2 : Int32} {r : (Int32 × kSt)} (h : f_X3_drop S p1 p2 = some r) : kM l yX3_drop wsX3_drop ({ frames := 2, cells := 0, slots := 0, locals := 43 } : Room) D cy (yw a cy S Z) [.ref (a 0), .int p1, .int p2] (yw a cy r.2 Z) (some (.int r.1)) 0 0 := by
  rw [f_X3_drop] at h
  refine kM.start (L := [(0, .ref (a 0)), (1, .int (p1)), (2, .int (p2))]) rfl rfl rfl (Nat.le_of_ble_eq_true rfl) rfl (fun K A C => ?_)
  refine kr_aload_n C 0 dX3_drop_0 rfl rfl ?_
  refine kr_aload_n C 0 dX3_drop_1 rfl rfl ?_
  refine kr_iload_n C 1 dX3_drop_2 rfl rfl ?_
  obtain ⟨v1, hv1, h⟩ := kob h
  refine kr_callV1 C (k := 1) (As := [.int p1]) (rest := [.ref (a 0)]) (c_X3_isNoAccount hv1) gX3_drop_X3_isNoAccount rfl rfl rfl (by decide +kernel) ⟨(Nat.le_of_ble_eq_true rfl), (Nat.le_of_ble_eq_true rfl)⟩ ⟨(Nat.le_of_ble_eq_true rfl), (Nat.le_of_ble_eq_true rfl)⟩ 0 rfl rfl rfl rfl (Nat.le_of_ble_eq_true rfl) dX3_drop_3 ?_
  refine kr_if_ne C 17 dX3_drop_6 (by decide) (fun hc => ?_) (fun hc => ?_)
  · have h := (if_pos hc).symm.trans h
    refine kr_aload_n C 0 dX3_drop_9 rfl rfl ?_
    refine kr_iload_n C 2 dX3_drop_10 rfl rfl ?_
    obtain ⟨v2, hv2, h⟩ := kob h
    refine kr_callV1 C (k := 1) (As := [.int p2]) (rest := [.ref (a 0)]) (c_X3_isNoGroup hv2) gX3_drop_X3_isNoGroup rfl rfl rfl (by decide +kernel) ⟨(Nat.le_of_ble_eq_true rfl), (Nat.le_of_ble_eq_true rfl)⟩ ⟨(Nat.le_of_ble_eq_true rfl), (Nat.le_of_ble_eq_true rfl)⟩ 0 rfl rfl rfl rfl (Nat.le_of_ble_eq_true rfl) dX3_drop_11 ?_
    refine kr_if_eq C 21 dX3_drop_14 (by decide) (fun hc => ?_) (fun hc => ?_)
    · have h := (if_pos hc).symm.trans h
      refine kr_aload_n C 0 dX3_drop_21 rfl rfl ?_
      refine kr_get C inX3_drop_X3 0 rfl rfl 4 (by decide) flX3_drop_21 rfl rfl dX3_drop_22 ?_
      refine kr_bipush C (v := 6) dX3_drop_25 (by decide) ?_
      refine kr_iload_n C 1 dX3_drop_27 rfl rfl ?_
      refine kr_imul C dX3_drop_28 ?_
      refine kr_iload_n C 2 dX3_drop_29 rfl rfl ?_
      refine kr_iadd C dX3_drop_30 ?_
      obtain ⟨hb3, h⟩ := kif h
      refine kr_iald C 3 rfl (kin_in hb3) dX3_drop_31 ?_
      refine kr_if_ne C 39 dX3_drop_32 (by decide) (fun hc => ?_) (fun hc => ?_)
      · have h := (if_pos hc).symm.trans h
        refine kr_iconst C (v := 2) dX3_drop_35 (by decide) ?_
        refine kr_goto C 40 dX3_drop_36 (by decide) ?_
        obtain ⟨v4, hv4, h⟩ := kob h
        refine kr_callV1 C (k := 1) (As := [.int (2 : Int32)]) (rest := []) (c_X3_fails hv4) gX3_drop_X3_fails rfl rfl rfl (by decide +kernel) ⟨(Nat.le_of_ble_eq_true rfl), (Nat.le_of_ble_eq_true rfl)⟩ ⟨(Nat.le_of_ble_eq_true rfl), (Nat.le_of_ble_eq_true rfl)⟩ 0 rfl rfl rfl rfl (Nat.le_of_ble_eq_true rfl) dX3_drop_40 ?_
        refine kr_if_eq C 48 dX3_drop_43 (by decide) (fun hc => ?_) (fun hc => ?_)
        · have h := (if_pos hc).symm.trans h
          refine kr_aload_n C 0 dX3_drop_48 rfl rfl ?_
          refine kr_get C inX3_drop_X3 0 rfl rfl 4 (by decide) flX3_drop_21 rfl rfl dX3_drop_49 ?_
          refine kr_bipush C (v := 6) dX3_drop_52 (by decide) ?_
          refine kr_iload_n C 1 dX3_drop_54 rfl rfl ?_
          refine kr_imul C dX3_drop_55 ?_
          refine kr_iload_n C 2 dX3_drop_56 rfl rfl ?_
          refine kr_iadd C dX3_drop_57 ?_
          refine kr_iconst C (v := 0) dX3_drop_58 (by decide) ?_
          obtain ⟨hb5, h⟩ := kif h
          refine kr_iast C 3 rfl (kin_in hb5) (yq4 _ _ _ _ _) dX3_drop_59 ?_
          refine kr_aload_n C 0 dX3_drop_60 rfl rfl ?_
          refine kr_iload_n C 2 dX3_drop_61 rfl rfl ?_
          obtain ⟨v6, hv6, h⟩ := kob h
          refine kr_callV1 C (k := 1) (As := [.int p2]) (rest := []) (c_X3_membersOf hv6) gX3_drop_X3_membersOf rfl rfl rfl (by decide +kernel) ⟨(Nat.le_of_ble_eq_true rfl), (Nat.le_of_ble_eq_true rfl)⟩ ⟨(Nat.le_of_ble_eq_true rfl), (Nat.le_of_ble_eq_true rfl)⟩ 0 rfl rfl rfl rfl (Nat.le_of_ble_eq_true rfl) dX3_drop_62 ?_
          cases h
          exact kr_ret_i C (Nat.le_of_ble_eq_true rfl) (Nat.le_of_ble_eq_true rfl) dX3_drop_65
        have h := (if_neg hc).symm.trans h
        refine kr_iconst C (v := 0) dX3_drop_46 (by decide) ?_
        cases h
        exact kr_ret_i C (Nat.le_of_ble_eq_true rfl) (Nat.le_of_ble_eq_true rfl) dX3_drop_47
      have h := (if_neg hc).symm.trans h
      refine kr_iconst C (v := 0) dX3_drop_39 (by decide) ?_
      obtain ⟨v7, hv7, h⟩ := kob h
      refine kr_callV1 C (k := 1) (As := [.int (0 : Int32)]) (rest := []) (c_X3_fails hv7) gX3_drop_X3_fails rfl rfl rfl (by decide +kernel) ⟨(Nat.le_of_ble_eq_true rfl), (Nat.le_of_ble_eq_true rfl)⟩ ⟨(Nat.le_of_ble_eq_true rfl), (Nat.le_of_ble_eq_true rfl)⟩ 0 rfl rfl rfl rfl (Nat.le_of_ble_eq_true rfl) dX3_drop_40 ?_
      refine kr_if_eq C 48 dX3_drop_43 (by decide) (fun hc => ?_) (fun hc => ?_)
      · have h := (if_pos hc).symm.trans h
        refine kr_aload_n C 0 dX3_drop_48 rfl rfl ?_
        refine kr_get C inX3_drop_X3 0 rfl rfl 4 (by decide) flX3_drop_21 rfl rfl dX3_drop_49 ?_
        refine kr_bipush C (v := 6) dX3_drop_52 (by decide) ?_
        refine kr_iload_n C 1 dX3_drop_54 rfl rfl ?_
        refine kr_imul C dX3_drop_55 ?_
        refine kr_iload_n C 2 dX3_drop_56 rfl rfl ?_
        refine kr_iadd C dX3_drop_57 ?_
        refine kr_iconst C (v := 0) dX3_drop_58 (by decide) ?_
        obtain ⟨hb8, h⟩ := kif h
        refine kr_iast C 3 rfl (kin_in hb8) (yq4 _ _ _ _ _) dX3_drop_59 ?_
        refine kr_aload_n C 0 dX3_drop_60 rfl rfl ?_
        refine kr_iload_n C 2 dX3_drop_61 rfl rfl ?_
        obtain ⟨v9, hv9, h⟩ := kob h
        refine kr_callV1 C (k := 1) (As := [.int p2]) (rest := []) (c_X3_membersOf hv9) gX3_drop_X3_membersOf rfl rfl rfl (by decide +kernel) ⟨(Nat.le_of_ble_eq_true rfl), (Nat.le_of_ble_eq_true rfl)⟩ ⟨(Nat.le_of_ble_eq_true rfl), (Nat.le_of_ble_eq_true rfl)⟩ 0 rfl rfl rfl rfl (Nat.le_of_ble_eq_true rfl) dX3_drop_62 ?_
        cases h
        exact kr_ret_i C (Nat.le_of_ble_eq_true rfl) (Nat.le_of_ble_eq_true rfl) dX3_drop_65
      have h := (if_neg hc).symm.trans h
      refine kr_iconst C (v := 0) dX3_drop_46 (by decide) ?_
      cases h
      exact kr_ret_i C (Nat.le_of_ble_eq_true rfl) (Nat.le_of_ble_eq_true rfl) dX3_drop_47
    have h := (if_neg hc).symm.trans h
    refine kr_iconst C (v := 1) dX3_drop_17 (by decide) ?_
    refine kr_goto C 40 dX3_drop_18 (by decide) ?_
    obtain ⟨v10, hv10, h⟩ := kob h
    refine kr_callV1 C (k := 1) (As := [.int (1 : Int32)]) (rest := []) (c_X3_fails hv10) gX3_drop_X3_fails rfl rfl rfl (by decide +kernel) ⟨(Nat.le_of_ble_eq_true rfl), (Nat.le_of_ble_eq_true rfl)⟩ ⟨(Nat.le_of_ble_eq_true rfl), (Nat.le_of_ble_eq_true rfl)⟩ 0 rfl rfl rfl rfl (Nat.le_of_ble_eq_true rfl) dX3_drop_40 ?_
    refine kr_if_eq C 48 dX3_drop_43 (by decide) (fun hc => ?_) (fun hc => ?_)
    · have h := (if_pos hc).symm.trans h
      refine kr_aload_n C 0 dX3_drop_48 rfl rfl ?_
      refine kr_get C inX3_drop_X3 0 rfl rfl 4 (by decide) flX3_drop_21 rfl rfl dX3_drop_49 ?_
      refine kr_bipush C (v := 6) dX3_drop_52 (by decide) ?_
      refine kr_iload_n C 1 dX3_drop_54 rfl rfl ?_
      refine kr_imul C dX3_drop_55 ?_
      refine kr_iload_n C 2 dX3_drop_56 rfl rfl ?_
      refine kr_iadd C dX3_drop_57 ?_
      refine kr_iconst C (v := 0) dX3_drop_58 (by decide) ?_
      obtain ⟨hb11, h⟩ := kif h
      refine kr_iast C 3 rfl (kin_in hb11) (yq4 _ _ _ _ _) dX3_drop_59 ?_
      refine kr_aload_n C 0 dX3_drop_60 rfl rfl ?_
      refine kr_iload_n C 2 dX3_drop_61 rfl rfl ?_
      obtain ⟨v12, hv12, h⟩ := kob h
      refine kr_callV1 C (k := 1) (As := [.int p2]) (rest := []) (c_X3_membersOf hv12) gX3_drop_X3_membersOf rfl rfl rfl (by decide +kernel) ⟨(Nat.le_of_ble_eq_true rfl), (Nat.le_of_ble_eq_true rfl)⟩ ⟨(Nat.le_of_ble_eq_true rfl), (Nat.le_of_ble_eq_true rfl)⟩ 0 rfl rfl rfl rfl (Nat.le_of_ble_eq_true rfl) dX3_drop_62 ?_
      cases h
      exact kr_ret_i C (Nat.le_of_ble_eq_true rfl) (Nat.le_of_ble_eq_true rfl) dX3_drop_65
    have h := (if_neg hc).symm.trans h
    refine kr_iconst C (v := 0) dX3_drop_46 (by decide) ?_
    cases h
    exact kr_ret_i C (Nat.le_of_ble_eq_true rfl) (Nat.le_of_ble_eq_true rfl) dX3_drop_47
  have h := (if_neg hc).symm.trans h
  refine kr_iconst C (v := 1) dX3_drop_17 (by decide) ?_
  refine kr_goto C 40 dX3_drop_18 (by decide) ?_
  obtain ⟨v13, hv13, h⟩ := kob h
  refine kr_callV1 C (k := 1) (As := [.int (1 : Int32)]) (rest := []) (c_X3_fails hv13) gX3_drop_X3_fails rfl rfl rfl (by decide +kernel) ⟨(Nat.le_of_ble_eq_true rfl), (Nat.le_of_ble_eq_true rfl)⟩ ⟨(Nat.le_of_ble_eq_true rfl), (Nat.le_of_ble_eq_true rfl)⟩ 0 rfl rfl rfl rfl (Nat.le_of_ble_eq_true rfl) dX3_drop_40 ?_
  refine kr_if_eq C 48 dX3_drop_43 (by decide) (fun hc => ?_) (fun hc => ?_)
  · have h := (if_pos hc).symm.trans h
    refine kr_aload_n C 0 dX3_drop_48 rfl rfl ?_
    refine kr_get C inX3_drop_X3 0 rfl rfl 4 (by decide) flX3_drop_21 rfl rfl dX3_drop_49 ?_
    refine kr_bipush C (v := 6) dX3_drop_52 (by decide) ?_
    refine kr_iload_n C 1 dX3_drop_54 rfl rfl ?_
    refine kr_imul C dX3_drop_55 ?_
    refine kr_iload_n C 2 dX3_drop_56 rfl rfl ?_
    refine kr_iadd C dX3_drop_57 ?_
    refine kr_iconst C (v := 0) dX3_drop_58 (by decide) ?_
    obtain ⟨hb14, h⟩ := kif h
    refine kr_iast C 3 rfl (kin_in hb14) (yq4 _ _ _ _ _) dX3_drop_59 ?_
    refine kr_aload_n C 0 dX3_drop_60 rfl rfl ?_
    refine kr_iload_n C 2 dX3_drop_61 rfl rfl ?_
    obtain ⟨v15, hv15, h⟩ := kob h
    refine kr_callV1 C (k := 1) (As := [.int p2]) (rest := []) (c_X3_membersOf hv15) gX3_drop_X3_membersOf rfl rfl rfl (by decide +kernel) ⟨(Nat.le_of_ble_eq_true rfl), (Nat.le_of_ble_eq_true rfl)⟩ ⟨(Nat.le_of_ble_eq_true rfl), (Nat.le_of_ble_eq_true rfl)⟩ 0 rfl rfl rfl rfl (Nat.le_of_ble_eq_true rfl) dX3_drop_62 ?_
    cases h
    exact kr_ret_i C (Nat.le_of_ble_eq_true rfl) (Nat.le_of_ble_eq_true rfl) dX3_drop_65
  have h := (if_neg hc).symm.trans h
  refine kr_iconst C (v := 0) dX3_drop_46 (by decide) ?_
  cases h
  exact kr_ret_i C (Nat.le_of_ble_eq_true rfl) (Nat.le_of_ble_eq_true rfl) dX3_drop_47
theorem flX3_heirOf_7 : Cond.fieldLink RX3 7 "FolderKeeperModel" "accounts" "I" ∈ wsX3_heirOf := by decide +kernel
theorem inX3_heirOf_X3 : ∀ w ∈ wsX30, w ∈ wsX3_heirOf := fun _ h => List.mem_cons_of_mem _ (List.mem_append_left _ (List.mem_append_right _ h))
theorem flX3_heirOf_17 : Cond.fieldLink RX3 17 "FolderKeeperModel" "heirs" "[I" ∈ wsX3_heirOf := by decide +kernel
theorem flX3_heirOf_51 : Cond.fieldLink RX3 51 "FolderKeeperModel" "seen" "[Z" ∈ wsX3_heirOf := by decide +kernel
theorem flX3_heirOf_13 : Cond.fieldLink RX3 13 "FolderKeeperModel" "haveLeft" "[Z" ∈ wsX3_heirOf := by decide +kernel
set_option maxHeartbeats 4000000 in
set_option maxRecDepth 100000 in
theorem lc_X3_heirOf_L39 {K : kEnv} {l : Launch} {D : va_G} {cy : Nat → ClassId} {A : Nat → Prop} {a : Nat → Nat} {Z : va_W} {r : (Int32 × kSt)} (C : kC K D cy A 3 cX3_heirOf RX3 wsX3_heirOf (some .int)) : ∀ (n : Nat) (S : kSt) (x2 : Int32), f_X3_heirOf_L39 n S x2 = some r → kG K l D A ({ frames := 0, cells := 0, slots := 0, locals := 0 } : Room) 3 (kEnd K D cy A (yw a cy r.2 Z) (some (.int r.1)) 0 0) (yw a cy S Z) 0 0 39 [(0, .ref (a 0)), (2, .int (x2))] [] := by
  intro n
  induction n with
  | zero => intro S x2 h; rw [f_X3_heirOf_L39] at h; cases h
  | succ n ih =>
    intro S x2 h
    rw [f_X3_heirOf_L39] at h
    refine kr_iload_n C 1 dX3_heirOf_39 rfl rfl ?_
    refine kr_if_lt C 80 dX3_heirOf_40 (by decide) (fun hc => ?_) (fun hc => ?_)
    · have h := (if_pos hc).symm.trans h
      refine kr_iconst C (v := -1) dX3_heirOf_80 (by decide) ?_
      cases h
      exact kr_ret_i C (Nat.le_of_ble_eq_true rfl) (Nat.le_of_ble_eq_true rfl) dX3_heirOf_81
    have h := (if_neg hc).symm.trans h
    refine kr_aload_n C 0 dX3_heirOf_43 rfl rfl ?_
    refine kr_get C inX3_heirOf_X3 0 rfl rfl 16 (by decide) flX3_heirOf_51 rfl rfl dX3_heirOf_44 ?_
    refine kr_iload_n C 1 dX3_heirOf_47 rfl rfl ?_
    obtain ⟨hb2, h⟩ := kif h
    refine kr_zald C 13 rfl (kin_in hb2) dX3_heirOf_48 ?_
    refine kr_if_ne C 80 dX3_heirOf_49 (by decide) (fun hc => ?_) (fun hc => ?_)
    · have h := (if_pos hc).symm.trans h
      refine kr_aload_n C 0 dX3_heirOf_52 rfl rfl ?_
      refine kr_get C inX3_heirOf_X3 0 rfl rfl 1 (by decide) flX3_heirOf_13 rfl rfl dX3_heirOf_53 ?_
      refine kr_iload_n C 1 dX3_heirOf_56 rfl rfl ?_
      obtain ⟨hb3, h⟩ := kif h
      refine kr_zald C 1 rfl (kin_in hb3) dX3_heirOf_57 ?_
      refine kr_if_ne C 63 dX3_heirOf_58 (by decide) (fun hc => ?_) (fun hc => ?_)
      · have h := (if_pos hc).symm.trans h
        refine kr_iload_n C 1 dX3_heirOf_61 rfl rfl ?_
        cases h
        exact kr_ret_i C (Nat.le_of_ble_eq_true rfl) (Nat.le_of_ble_eq_true rfl) dX3_heirOf_62
      have h := (if_neg hc).symm.trans h
      refine kr_aload_n C 0 dX3_heirOf_63 rfl rfl ?_
      refine kr_get C inX3_heirOf_X3 0 rfl rfl 16 (by decide) flX3_heirOf_51 rfl rfl dX3_heirOf_64 ?_
      refine kr_iload_n C 1 dX3_heirOf_67 rfl rfl ?_
      refine kr_iconst C (v := 1) dX3_heirOf_68 (by decide) ?_
      obtain ⟨hb4, h⟩ := kif h
      refine kr_zast C 13 rfl (kin_in hb4) (yq16 _ _ _ _ _) dX3_heirOf_69 ?_
      refine kr_aload_n C 0 dX3_heirOf_70 rfl rfl ?_
      refine kr_get C inX3_heirOf_X3 0 rfl rfl 2 (by decide) flX3_heirOf_17 rfl rfl dX3_heirOf_71 ?_
      refine kr_iload_n C 1 dX3_heirOf_74 rfl rfl ?_
      obtain ⟨hb5, h⟩ := kif h
      refine kr_iald C 2 rfl (kin_in hb5) dX3_heirOf_75 ?_
      refine kr_istore_n C [1, 0] dX3_heirOf_76 rfl (by decide) rfl ?_
      refine kr_goto C 39 dX3_heirOf_77 (by decide) ?_
      exact ih _ _ h
    have h := (if_neg hc).symm.trans h
    refine kr_iconst C (v := -1) dX3_heirOf_80 (by decide) ?_
    cases h
    exact kr_ret_i C (Nat.le_of_ble_eq_true rfl) (Nat.le_of_ble_eq_true rfl) dX3_heirOf_81
set_option maxHeartbeats 4000000 in
set_option maxRecDepth 100000 in
theorem lc_X3_heirOf_L2 {K : kEnv} {l : Launch} {D : va_G} {cy : Nat → ClassId} {A : Nat → Prop} {a : Nat → Nat} {Z : va_W} {r : (Int32 × kSt)} (C : kC K D cy A 3 cX3_heirOf RX3 wsX3_heirOf (some .int)) : ∀ (n : Nat) (S : kSt) (x1 x2 : Int32), f_X3_heirOf_L2 n S x1 x2 = some r → kG K l D A ({ frames := 0, cells := 0, slots := 0, locals := 0 } : Room) 3 (kEnd K D cy A (yw a cy r.2 Z) (some (.int r.1)) 0 0) (yw a cy S Z) 0 0 2 [(0, .ref (a 0)), (1, .int (x1)), (2, .int (x2))] [] := by
  intro n
  induction n with
  | zero => intro S x1 x2 h; rw [f_X3_heirOf_L2] at h; cases h
  | succ n ih =>
    intro S x1 x2 h
    rw [f_X3_heirOf_L2] at h
    refine kr_iload_n C 2 dX3_heirOf_2 rfl rfl ?_
    refine kr_aload_n C 0 dX3_heirOf_3 rfl rfl ?_
    refine kr_get C inX3_heirOf_X3 0 rfl rfl 0 (by decide) flX3_heirOf_7 rfl rfl dX3_heirOf_4 ?_
    refine kr_icmp_ge C 32 dX3_heirOf_7 (by decide) (fun hc => ?_) (fun hc => ?_)
    · have h := (if_pos hc).symm.trans h
      refine kr_aload_n C 0 dX3_heirOf_32 rfl rfl ?_
      refine kr_get C inX3_heirOf_X3 0 rfl rfl 2 (by decide) flX3_heirOf_17 rfl rfl dX3_heirOf_33 ?_
      refine kr_iload_n C 1 dX3_heirOf_36 rfl rfl ?_
      obtain ⟨hb1, h⟩ := kif h
      refine kr_iald C 2 rfl (kin_in hb1) dX3_heirOf_37 ?_
      refine kr_istore_n C [1, 2, 0] dX3_heirOf_38 rfl (by decide) rfl ?_
      refine kr_sub [0, 2] rfl ?_
      exact lc_X3_heirOf_L39 C _ _ _ h
    have h := (if_neg hc).symm.trans h
    refine kr_aload_n C 0 dX3_heirOf_10 rfl rfl ?_
    refine kr_get C inX3_heirOf_X3 0 rfl rfl 16 (by decide) flX3_heirOf_51 rfl rfl dX3_heirOf_11 ?_
    refine kr_iload_n C 2 dX3_heirOf_14 rfl rfl ?_
    refine kr_iload_n C 2 dX3_heirOf_15 rfl rfl ?_
    refine kr_iload_n C 1 dX3_heirOf_16 rfl rfl ?_
    refine kr_icmp_ne C 24 dX3_heirOf_17 (by decide) (fun hc => ?_) (fun hc => ?_)
    · have h := (if_pos hc).symm.trans h
      refine kr_iconst C (v := 1) dX3_heirOf_20 (by decide) ?_
      refine kr_goto C 25 dX3_heirOf_21 (by decide) ?_
      obtain ⟨hb6, h⟩ := kif h
      refine kr_zast C 13 rfl (kin_in hb6) (yq16 _ _ _ _ _) dX3_heirOf_25 ?_
      refine kr_iinc C (v := (x2 + 1)) 2 [1, 2, 0] dX3_heirOf_26 rfl rfl (by decide) rfl ?_
      refine kr_goto C 2 dX3_heirOf_29 (by decide) ?_
      exact ih _ _ _ h
    have h := (if_neg hc).symm.trans h
    refine kr_iconst C (v := 0) dX3_heirOf_24 (by decide) ?_
    obtain ⟨hb7, h⟩ := kif h
    refine kr_zast C 13 rfl (kin_in hb7) (yq16 _ _ _ _ _) dX3_heirOf_25 ?_
    refine kr_iinc C (v := (x2 + 1)) 2 [1, 2, 0] dX3_heirOf_26 rfl rfl (by decide) rfl ?_
    refine kr_goto C 2 dX3_heirOf_29 (by decide) ?_
    exact ih _ _ _ h
set_option maxHeartbeats 4000000 in
set_option maxRecDepth 100000 in
theorem c_X3_heirOf {l : Launch} {D : va_G} {cy : Nat → ClassId} {a : Nat → Nat} {Z : va_W} {S : kSt} {p1 : Int32} {r : (Int32 × kSt)} (h : f_X3_heirOf S p1 = some r) : kM l yX3_heirOf wsX3_heirOf ({ frames := 0, cells := 0, slots := 0, locals := 0 } : Room) D cy (yw a cy S Z) [.ref (a 0), .int p1] (yw a cy r.2 Z) (some (.int r.1)) 0 0 := by
  rw [f_X3_heirOf] at h
  refine kM.start (L := [(0, .ref (a 0)), (1, .int (p1))]) rfl rfl rfl (Nat.le_of_ble_eq_true rfl) rfl (fun K A C => ?_)
  refine kr_iconst C (v := 0) dX3_heirOf_0 (by decide) ?_
  refine kr_istore_n C [1, 2, 0] dX3_heirOf_1 rfl (by decide) rfl ?_
  exact lc_X3_heirOf_L2 C _ _ _ _ h
theorem flX3_held_64 : Cond.fieldLink RX3 64 "FolderKeeperModel" "folders" "I" ∈ wsX3_held := by decide +kernel
theorem inX3_held_X3 : ∀ w ∈ wsX30, w ∈ wsX3_held := fun _ h => List.mem_cons_of_mem _ (List.mem_append_left _ (List.mem_append_right _ h))
theorem flX3_held_39 : Cond.fieldLink RX3 39 "FolderKeeperModel" "areHeld" "[Z" ∈ wsX3_held := by decide +kernel
set_option maxHeartbeats 4000000 in
set_option maxRecDepth 100000 in
theorem lc_X3_held_L4 {K : kEnv} {l : Launch} {D : va_G} {cy : Nat → ClassId} {A : Nat → Prop} {a : Nat → Nat} {Z : va_W} {S : kSt} {r : Int32} (C : kC K D cy A 3 cX3_held RX3 wsX3_held (some .int)) : ∀ (n : Nat) (x1 x2 : Int32), f_X3_held_L4 n S x1 x2 = some r → kG K l D A ({ frames := 0, cells := 0, slots := 0, locals := 0 } : Room) 3 (kEnd K D cy A (yw a cy S Z) (some (.int r)) 0 0) (yw a cy S Z) 0 0 4 [(0, .ref (a 0)), (1, .int (x1)), (2, .int (x2))] [] := by
  intro n
  induction n with
  | zero => intro x1 x2 h; rw [f_X3_held_L4] at h; cases h
  | succ n ih =>
    intro x1 x2 h
    rw [f_X3_held_L4] at h
    refine kr_iload_n C 2 dX3_held_4 rfl rfl ?_
    refine kr_aload_n C 0 dX3_held_5 rfl rfl ?_
    refine kr_get C inX3_held_X3 0 rfl rfl 7 (by decide) flX3_held_64 rfl rfl dX3_held_6 ?_
    refine kr_icmp_ge C 35 dX3_held_9 (by decide) (fun hc => ?_) (fun hc => ?_)
    · have h := (if_pos hc).symm.trans h
      refine kr_iload_n C 1 dX3_held_35 rfl rfl ?_
      cases h
      exact kr_ret_i C (Nat.le_of_ble_eq_true rfl) (Nat.le_of_ble_eq_true rfl) dX3_held_36
    have h := (if_neg hc).symm.trans h
    refine kr_iload_n C 1 dX3_held_12 rfl rfl ?_
    refine kr_aload_n C 0 dX3_held_13 rfl rfl ?_
    refine kr_get C inX3_held_X3 0 rfl rfl 11 (by decide) flX3_held_39 rfl rfl dX3_held_14 ?_
    refine kr_iload_n C 2 dX3_held_17 rfl rfl ?_
    obtain ⟨hb1, h⟩ := kif h
    refine kr_zald C 9 rfl (kin_in hb1) dX3_held_18 ?_
    refine kr_if_eq C 26 dX3_held_19 (by decide) (fun hc => ?_) (fun hc => ?_)
    · have h := (if_pos hc).symm.trans h
      refine kr_iconst C (v := 0) dX3_held_26 (by decide) ?_
      refine kr_iadd C dX3_held_27 ?_
      refine kr_istore_n C [1, 0, 2] dX3_held_28 rfl (by decide) rfl ?_
      refine kr_iinc C (v := (x2 + 1)) 2 [1, 2, 0] dX3_held_29 rfl rfl (by decide) rfl ?_
      refine kr_goto C 4 dX3_held_32 (by decide) ?_
      exact ih _ _ h
    have h := (if_neg hc).symm.trans h
    refine kr_iconst C (v := 1) dX3_held_22 (by decide) ?_
    refine kr_goto C 27 dX3_held_23 (by decide) ?_
    refine kr_iadd C dX3_held_27 ?_
    refine kr_istore_n C [1, 0, 2] dX3_held_28 rfl (by decide) rfl ?_
    refine kr_iinc C (v := (x2 + 1)) 2 [1, 2, 0] dX3_held_29 rfl rfl (by decide) rfl ?_
    refine kr_goto C 4 dX3_held_32 (by decide) ?_
    exact ih _ _ h
set_option maxHeartbeats 4000000 in
set_option maxRecDepth 100000 in
theorem c_X3_held {l : Launch} {D : va_G} {cy : Nat → ClassId} {a : Nat → Nat} {Z : va_W} {S : kSt} {r : Int32} (h : f_X3_held S = some r) : kM l yX3_held wsX3_held ({ frames := 0, cells := 0, slots := 0, locals := 0 } : Room) D cy (yw a cy S Z) [.ref (a 0)] (yw a cy S Z) (some (.int r)) 0 0 := by
  rw [f_X3_held] at h
  refine kM.start (L := [(0, .ref (a 0))]) rfl rfl rfl (Nat.le_of_ble_eq_true rfl) rfl (fun K A C => ?_)
  refine kr_iconst C (v := 0) dX3_held_0 (by decide) ?_
  refine kr_istore_n C [1, 0] dX3_held_1 rfl (by decide) rfl ?_
  refine kr_iconst C (v := 0) dX3_held_2 (by decide) ?_
  refine kr_istore_n C [1, 2, 0] dX3_held_3 rfl (by decide) rfl ?_
  exact lc_X3_held_L4 C _ _ _ h
theorem flX3_hold_39 : Cond.fieldLink RX3 39 "FolderKeeperModel" "areHeld" "[Z" ∈ wsX3_hold := by decide +kernel
theorem inX3_hold_X3 : ∀ w ∈ wsX30, w ∈ wsX3_hold := fun _ h => List.mem_cons_of_mem _ (List.mem_append_left _ (List.mem_append_right _ h))
set_option maxHeartbeats 4000000 in
set_option maxRecDepth 100000 in
theorem c_X3_hold {l : Launch} {D : va_G} {cy : Nat → ClassId} {a : Nat → Nat} {Z : va_W} {S : kSt} {p1 : Int32} {r : (Int32 × kSt)} (h : f_X3_hold S p1 = some r) : kM l yX3_hold wsX3_hold ({ frames := 2, cells := 0, slots := 0, locals := 43 } : Room) D cy (yw a cy S Z) [.ref (a 0), .int p1] (yw a cy r.2 Z) (some (.int r.1)) 0 0 := by
  rw [f_X3_hold] at h
  refine kM.start (L := [(0, .ref (a 0)), (1, .int (p1))]) rfl rfl rfl (Nat.le_of_ble_eq_true rfl) rfl (fun K A C => ?_)
  refine kr_aload_n C 0 dX3_hold_0 rfl rfl ?_
  refine kr_aload_n C 0 dX3_hold_1 rfl rfl ?_
  refine kr_iload_n C 1 dX3_hold_2 rfl rfl ?_
  obtain ⟨v1, hv1, h⟩ := kob h
  refine kr_callV1 C (k := 1) (As := [.int p1]) (rest := [.ref (a 0)]) (c_X3_isNoFolder hv1) gX3_hold_X3_isNoFolder rfl rfl rfl (by decide +kernel) ⟨(Nat.le_of_ble_eq_true rfl), (Nat.le_of_ble_eq_true rfl)⟩ ⟨(Nat.le_of_ble_eq_true rfl), (Nat.le_of_ble_eq_true rfl)⟩ 0 rfl rfl rfl rfl (Nat.le_of_ble_eq_true rfl) dX3_hold_3 ?_
  refine kr_if_eq C 13 dX3_hold_6 (by decide) (fun hc => ?_) (fun hc => ?_)
  · have h := (if_pos hc).symm.trans h
    refine kr_aload_n C 0 dX3_hold_13 rfl rfl ?_
    refine kr_get C inX3_hold_X3 0 rfl rfl 11 (by decide) flX3_hold_39 rfl rfl dX3_hold_14 ?_
    refine kr_iload_n C 1 dX3_hold_17 rfl rfl ?_
    obtain ⟨hb2, h⟩ := kif h
    refine kr_zald C 9 rfl (kin_in hb2) dX3_hold_18 ?_
    refine kr_if_eq C 26 dX3_hold_19 (by decide) (fun hc => ?_) (fun hc => ?_)
    · have h := (if_pos hc).symm.trans h
      refine kr_iconst C (v := 0) dX3_hold_26 (by decide) ?_
      obtain ⟨v3, hv3, h⟩ := kob h
      refine kr_callV1 C (k := 1) (As := [.int (0 : Int32)]) (rest := []) (c_X3_fails hv3) gX3_hold_X3_fails rfl rfl rfl (by decide +kernel) ⟨(Nat.le_of_ble_eq_true rfl), (Nat.le_of_ble_eq_true rfl)⟩ ⟨(Nat.le_of_ble_eq_true rfl), (Nat.le_of_ble_eq_true rfl)⟩ 0 rfl rfl rfl rfl (Nat.le_of_ble_eq_true rfl) dX3_hold_27 ?_
      refine kr_if_eq C 35 dX3_hold_30 (by decide) (fun hc => ?_) (fun hc => ?_)
      · have h := (if_pos hc).symm.trans h
        refine kr_aload_n C 0 dX3_hold_35 rfl rfl ?_
        refine kr_get C inX3_hold_X3 0 rfl rfl 11 (by decide) flX3_hold_39 rfl rfl dX3_hold_36 ?_
        refine kr_iload_n C 1 dX3_hold_39 rfl rfl ?_
        refine kr_iconst C (v := 1) dX3_hold_40 (by decide) ?_
        obtain ⟨hb4, h⟩ := kif h
        refine kr_zast C 9 rfl (kin_in hb4) (yq11 _ _ _ _ _) dX3_hold_41 ?_
        refine kr_aload_n C 0 dX3_hold_42 rfl rfl ?_
        obtain ⟨v5, hv5, h⟩ := kob h
        refine kr_callV1 C (k := 0) (As := []) (rest := []) (c_X3_held hv5) gX3_hold_X3_held rfl rfl rfl (by decide +kernel) ⟨(Nat.le_of_ble_eq_true rfl), (Nat.le_of_ble_eq_true rfl)⟩ ⟨(Nat.le_of_ble_eq_true rfl), (Nat.le_of_ble_eq_true rfl)⟩ 0 rfl rfl rfl rfl (Nat.le_of_ble_eq_true rfl) dX3_hold_43 ?_
        cases h
        exact kr_ret_i C (Nat.le_of_ble_eq_true rfl) (Nat.le_of_ble_eq_true rfl) dX3_hold_46
      have h := (if_neg hc).symm.trans h
      refine kr_iconst C (v := 0) dX3_hold_33 (by decide) ?_
      cases h
      exact kr_ret_i C (Nat.le_of_ble_eq_true rfl) (Nat.le_of_ble_eq_true rfl) dX3_hold_34
    have h := (if_neg hc).symm.trans h
    refine kr_iconst C (v := 2) dX3_hold_22 (by decide) ?_
    refine kr_goto C 27 dX3_hold_23 (by decide) ?_
    obtain ⟨v6, hv6, h⟩ := kob h
    refine kr_callV1 C (k := 1) (As := [.int (2 : Int32)]) (rest := []) (c_X3_fails hv6) gX3_hold_X3_fails rfl rfl rfl (by decide +kernel) ⟨(Nat.le_of_ble_eq_true rfl), (Nat.le_of_ble_eq_true rfl)⟩ ⟨(Nat.le_of_ble_eq_true rfl), (Nat.le_of_ble_eq_true rfl)⟩ 0 rfl rfl rfl rfl (Nat.le_of_ble_eq_true rfl) dX3_hold_27 ?_
    refine kr_if_eq C 35 dX3_hold_30 (by decide) (fun hc => ?_) (fun hc => ?_)
    · have h := (if_pos hc).symm.trans h
      refine kr_aload_n C 0 dX3_hold_35 rfl rfl ?_
      refine kr_get C inX3_hold_X3 0 rfl rfl 11 (by decide) flX3_hold_39 rfl rfl dX3_hold_36 ?_
      refine kr_iload_n C 1 dX3_hold_39 rfl rfl ?_
      refine kr_iconst C (v := 1) dX3_hold_40 (by decide) ?_
      obtain ⟨hb7, h⟩ := kif h
      refine kr_zast C 9 rfl (kin_in hb7) (yq11 _ _ _ _ _) dX3_hold_41 ?_
      refine kr_aload_n C 0 dX3_hold_42 rfl rfl ?_
      obtain ⟨v8, hv8, h⟩ := kob h
      refine kr_callV1 C (k := 0) (As := []) (rest := []) (c_X3_held hv8) gX3_hold_X3_held rfl rfl rfl (by decide +kernel) ⟨(Nat.le_of_ble_eq_true rfl), (Nat.le_of_ble_eq_true rfl)⟩ ⟨(Nat.le_of_ble_eq_true rfl), (Nat.le_of_ble_eq_true rfl)⟩ 0 rfl rfl rfl rfl (Nat.le_of_ble_eq_true rfl) dX3_hold_43 ?_
      cases h
      exact kr_ret_i C (Nat.le_of_ble_eq_true rfl) (Nat.le_of_ble_eq_true rfl) dX3_hold_46
    have h := (if_neg hc).symm.trans h
    refine kr_iconst C (v := 0) dX3_hold_33 (by decide) ?_
    cases h
    exact kr_ret_i C (Nat.le_of_ble_eq_true rfl) (Nat.le_of_ble_eq_true rfl) dX3_hold_34
  have h := (if_neg hc).symm.trans h
  refine kr_iconst C (v := 1) dX3_hold_9 (by decide) ?_
  refine kr_goto C 27 dX3_hold_10 (by decide) ?_
  obtain ⟨v9, hv9, h⟩ := kob h
  refine kr_callV1 C (k := 1) (As := [.int (1 : Int32)]) (rest := []) (c_X3_fails hv9) gX3_hold_X3_fails rfl rfl rfl (by decide +kernel) ⟨(Nat.le_of_ble_eq_true rfl), (Nat.le_of_ble_eq_true rfl)⟩ ⟨(Nat.le_of_ble_eq_true rfl), (Nat.le_of_ble_eq_true rfl)⟩ 0 rfl rfl rfl rfl (Nat.le_of_ble_eq_true rfl) dX3_hold_27 ?_
  refine kr_if_eq C 35 dX3_hold_30 (by decide) (fun hc => ?_) (fun hc => ?_)
  · have h := (if_pos hc).symm.trans h
    refine kr_aload_n C 0 dX3_hold_35 rfl rfl ?_
    refine kr_get C inX3_hold_X3 0 rfl rfl 11 (by decide) flX3_hold_39 rfl rfl dX3_hold_36 ?_
    refine kr_iload_n C 1 dX3_hold_39 rfl rfl ?_
    refine kr_iconst C (v := 1) dX3_hold_40 (by decide) ?_
    obtain ⟨hb10, h⟩ := kif h
    refine kr_zast C 9 rfl (kin_in hb10) (yq11 _ _ _ _ _) dX3_hold_41 ?_
    refine kr_aload_n C 0 dX3_hold_42 rfl rfl ?_
    obtain ⟨v11, hv11, h⟩ := kob h
    refine kr_callV1 C (k := 0) (As := []) (rest := []) (c_X3_held hv11) gX3_hold_X3_held rfl rfl rfl (by decide +kernel) ⟨(Nat.le_of_ble_eq_true rfl), (Nat.le_of_ble_eq_true rfl)⟩ ⟨(Nat.le_of_ble_eq_true rfl), (Nat.le_of_ble_eq_true rfl)⟩ 0 rfl rfl rfl rfl (Nat.le_of_ble_eq_true rfl) dX3_hold_43 ?_
    cases h
    exact kr_ret_i C (Nat.le_of_ble_eq_true rfl) (Nat.le_of_ble_eq_true rfl) dX3_hold_46
  have h := (if_neg hc).symm.trans h
  refine kr_iconst C (v := 0) dX3_hold_33 (by decide) ?_
  cases h
  exact kr_ret_i C (Nat.le_of_ble_eq_true rfl) (Nat.le_of_ble_eq_true rfl) dX3_hold_34
theorem flX3_holders_7 : Cond.fieldLink RX3 7 "FolderKeeperModel" "accounts" "I" ∈ wsX3_holders := by decide +kernel
theorem inX3_holders_X3 : ∀ w ∈ wsX30, w ∈ wsX3_holders := fun _ h => List.mem_cons_of_mem _ (List.mem_append_left _ (List.mem_append_right _ h))
set_option maxHeartbeats 4000000 in
set_option maxRecDepth 100000 in
theorem lc_X3_holders_L40 {K : kEnv} {l : Launch} {D : va_G} {cy : Nat → ClassId} {A : Nat → Prop} {a : Nat → Nat} {Z : va_W} {r : (Int32 × kSt)} (C : kC K D cy A 5 cX3_holders RX3 wsX3_holders (some .int)) : ∀ (n : Nat) (S : kSt) (x1 x2 x3 x4 : Int32), f_X3_holders_L40 n S x1 x2 x3 x4 = some r → kG K l D A ({ frames := 12, cells := 0, slots := 0, locals := 278 } : Room) 5 (kEnd K D cy A (yw a cy r.2 Z) (some (.int r.1)) 0 0) (yw a cy S Z) 0 0 40 [(0, .ref (a 0)), (1, .int (x1)), (2, .int (x2)), (3, .int (x3)), (4, .int (x4))] [] := by
  intro n
  induction n with
  | zero => intro S x1 x2 x3 x4 h; rw [f_X3_holders_L40] at h; cases h
  | succ n ih =>
    intro S x1 x2 x3 x4 h
    rw [f_X3_holders_L40] at h
    refine kr_iload C 4 dX3_holders_40 rfl ?_
    refine kr_aload_n C 0 dX3_holders_42 rfl rfl ?_
    refine kr_get C inX3_holders_X3 0 rfl rfl 0 (by decide) flX3_holders_7 rfl rfl dX3_holders_43 ?_
    refine kr_icmp_ge C 74 dX3_holders_46 (by decide) (fun hc => ?_) (fun hc => ?_)
    · have h := (if_pos hc).symm.trans h
      refine kr_iload_n C 3 dX3_holders_74 rfl rfl ?_
      cases h
      exact kr_ret_i C (Nat.le_of_ble_eq_true rfl) (Nat.le_of_ble_eq_true rfl) dX3_holders_75
    have h := (if_neg hc).symm.trans h
    refine kr_iload_n C 3 dX3_holders_49 rfl rfl ?_
    refine kr_aload_n C 0 dX3_holders_50 rfl rfl ?_
    refine kr_iload C 4 dX3_holders_51 rfl ?_
    refine kr_iload_n C 1 dX3_holders_53 rfl rfl ?_
    obtain ⟨v4, hv4, h⟩ := kob h
    refine kr_callV1 C (k := 2) (As := [.int x4, .int x1]) (rest := [.int (x3)]) (c_X3_rightOf hv4) gX3_holders_X3_rightOf rfl rfl rfl (by decide +kernel) ⟨(Nat.le_of_ble_eq_true rfl), (Nat.le_of_ble_eq_true rfl)⟩ ⟨(Nat.le_of_ble_eq_true rfl), (Nat.le_of_ble_eq_true rfl)⟩ 0 rfl rfl rfl rfl (Nat.le_of_ble_eq_true rfl) dX3_holders_54 ?_
    refine kr_iload_n C 2 dX3_holders_57 rfl rfl ?_
    refine kr_icmp_lt C 65 dX3_holders_58 (by decide) (fun hc => ?_) (fun hc => ?_)
    · have h := (if_pos hc).symm.trans h
      refine kr_iconst C (v := 0) dX3_holders_65 (by decide) ?_
      refine kr_iadd C dX3_holders_66 ?_
      refine kr_istore_n C [1, 2, 3, 0, 4] dX3_holders_67 rfl (by decide) rfl ?_
      refine kr_iinc C (v := (x4 + 1)) 4 [1, 2, 3, 4, 0] dX3_holders_68 rfl rfl (by decide) rfl ?_
      refine kr_goto C 40 dX3_holders_71 (by decide) ?_
      exact ih _ _ _ _ _ h
    have h := (if_neg hc).symm.trans h
    refine kr_iconst C (v := 1) dX3_holders_61 (by decide) ?_
    refine kr_goto C 66 dX3_holders_62 (by decide) ?_
    refine kr_iadd C dX3_holders_66 ?_
    refine kr_istore_n C [1, 2, 3, 0, 4] dX3_holders_67 rfl (by decide) rfl ?_
    refine kr_iinc C (v := (x4 + 1)) 4 [1, 2, 3, 4, 0] dX3_holders_68 rfl rfl (by decide) rfl ?_
    refine kr_goto C 40 dX3_holders_71 (by decide) ?_
    exact ih _ _ _ _ _ h
set_option maxHeartbeats 4000000 in
set_option maxRecDepth 100000 in
theorem c_X3_holders {l : Launch} {D : va_G} {cy : Nat → ClassId} {a : Nat → Nat} {Z : va_W} {S : kSt} {p1 : Int32} {p2 : Int32} {r : (Int32 × kSt)} (h : f_X3_holders S p1 p2 = some r) : kM l yX3_holders wsX3_holders ({ frames := 12, cells := 0, slots := 0, locals := 278 } : Room) D cy (yw a cy S Z) [.ref (a 0), .int p1, .int p2] (yw a cy r.2 Z) (some (.int r.1)) 0 0 := by
  rw [f_X3_holders] at h
  refine kM.start (L := [(0, .ref (a 0)), (1, .int (p1)), (2, .int (p2))]) rfl rfl rfl (Nat.le_of_ble_eq_true rfl) rfl (fun K A C => ?_)
  refine kr_aload_n C 0 dX3_holders_0 rfl rfl ?_
  refine kr_aload_n C 0 dX3_holders_1 rfl rfl ?_
  refine kr_iload_n C 1 dX3_holders_2 rfl rfl ?_
  obtain ⟨v1, hv1, h⟩ := kob h
  refine kr_callV1 C (k := 1) (As := [.int p1]) (rest := [.ref (a 0)]) (c_X3_isNoFolder hv1) gX3_holders_X3_isNoFolder rfl rfl rfl (by decide +kernel) ⟨(Nat.le_of_ble_eq_true rfl), (Nat.le_of_ble_eq_true rfl)⟩ ⟨(Nat.le_of_ble_eq_true rfl), (Nat.le_of_ble_eq_true rfl)⟩ 0 rfl rfl rfl rfl (Nat.le_of_ble_eq_true rfl) dX3_holders_3 ?_
  refine kr_if_eq C 13 dX3_holders_6 (by decide) (fun hc => ?_) (fun hc => ?_)
  · have h := (if_pos hc).symm.trans h
    refine kr_iload_n C 2 dX3_holders_13 rfl rfl ?_
    refine kr_iconst C (v := 1) dX3_holders_14 (by decide) ?_
    refine kr_iconst C (v := 3) dX3_holders_15 (by decide) ?_
    obtain ⟨v2, hv2, h⟩ := kob h
    refine kr_callS1 C (k := 3) (As := [.int p2, .int (1 : Int32), .int (3 : Int32)]) (rest := [.ref (a 0)]) (c_X3_in hv2) gX3_holders_X3_in rfl rfl rfl (by decide +kernel) ⟨(Nat.le_of_ble_eq_true rfl), (Nat.le_of_ble_eq_true rfl)⟩ ⟨(Nat.le_of_ble_eq_true rfl), (Nat.le_of_ble_eq_true rfl)⟩ rfl rfl (Nat.le_of_ble_eq_true rfl) dX3_holders_16 ?_
    refine kr_if_eq C 26 dX3_holders_19 (by decide) (fun hc => ?_) (fun hc => ?_)
    · have h := (if_pos hc).symm.trans h
      refine kr_iconst C (v := 2) dX3_holders_26 (by decide) ?_
      obtain ⟨v3, hv3, h⟩ := kob h
      refine kr_callV1 C (k := 1) (As := [.int (2 : Int32)]) (rest := []) (c_X3_fails hv3) gX3_holders_X3_fails rfl rfl rfl (by decide +kernel) ⟨(Nat.le_of_ble_eq_true rfl), (Nat.le_of_ble_eq_true rfl)⟩ ⟨(Nat.le_of_ble_eq_true rfl), (Nat.le_of_ble_eq_true rfl)⟩ 0 rfl rfl rfl rfl (Nat.le_of_ble_eq_true rfl) dX3_holders_27 ?_
      refine kr_if_eq C 35 dX3_holders_30 (by decide) (fun hc => ?_) (fun hc => ?_)
      · have h := (if_pos hc).symm.trans h
        refine kr_iconst C (v := 0) dX3_holders_35 (by decide) ?_
        refine kr_istore_n C [1, 2, 3, 0] dX3_holders_36 rfl (by decide) rfl ?_
        refine kr_iconst C (v := 0) dX3_holders_37 (by decide) ?_
        refine kr_istore C [1, 2, 3, 4, 0] dX3_holders_38 (by decide) rfl ?_
        exact lc_X3_holders_L40 C _ _ _ _ _ _ h
      have h := (if_neg hc).symm.trans h
      refine kr_iconst C (v := 0) dX3_holders_33 (by decide) ?_
      cases h
      exact kr_ret_i C (Nat.le_of_ble_eq_true rfl) (Nat.le_of_ble_eq_true rfl) dX3_holders_34
    have h := (if_neg hc).symm.trans h
    refine kr_iconst C (v := 0) dX3_holders_22 (by decide) ?_
    refine kr_goto C 27 dX3_holders_23 (by decide) ?_
    obtain ⟨v5, hv5, h⟩ := kob h
    refine kr_callV1 C (k := 1) (As := [.int (0 : Int32)]) (rest := []) (c_X3_fails hv5) gX3_holders_X3_fails rfl rfl rfl (by decide +kernel) ⟨(Nat.le_of_ble_eq_true rfl), (Nat.le_of_ble_eq_true rfl)⟩ ⟨(Nat.le_of_ble_eq_true rfl), (Nat.le_of_ble_eq_true rfl)⟩ 0 rfl rfl rfl rfl (Nat.le_of_ble_eq_true rfl) dX3_holders_27 ?_
    refine kr_if_eq C 35 dX3_holders_30 (by decide) (fun hc => ?_) (fun hc => ?_)
    · have h := (if_pos hc).symm.trans h
      refine kr_iconst C (v := 0) dX3_holders_35 (by decide) ?_
      refine kr_istore_n C [1, 2, 3, 0] dX3_holders_36 rfl (by decide) rfl ?_
      refine kr_iconst C (v := 0) dX3_holders_37 (by decide) ?_
      refine kr_istore C [1, 2, 3, 4, 0] dX3_holders_38 (by decide) rfl ?_
      exact lc_X3_holders_L40 C _ _ _ _ _ _ h
    have h := (if_neg hc).symm.trans h
    refine kr_iconst C (v := 0) dX3_holders_33 (by decide) ?_
    cases h
    exact kr_ret_i C (Nat.le_of_ble_eq_true rfl) (Nat.le_of_ble_eq_true rfl) dX3_holders_34
  have h := (if_neg hc).symm.trans h
  refine kr_iconst C (v := 1) dX3_holders_9 (by decide) ?_
  refine kr_goto C 27 dX3_holders_10 (by decide) ?_
  obtain ⟨v6, hv6, h⟩ := kob h
  refine kr_callV1 C (k := 1) (As := [.int (1 : Int32)]) (rest := []) (c_X3_fails hv6) gX3_holders_X3_fails rfl rfl rfl (by decide +kernel) ⟨(Nat.le_of_ble_eq_true rfl), (Nat.le_of_ble_eq_true rfl)⟩ ⟨(Nat.le_of_ble_eq_true rfl), (Nat.le_of_ble_eq_true rfl)⟩ 0 rfl rfl rfl rfl (Nat.le_of_ble_eq_true rfl) dX3_holders_27 ?_
  refine kr_if_eq C 35 dX3_holders_30 (by decide) (fun hc => ?_) (fun hc => ?_)
  · have h := (if_pos hc).symm.trans h
    refine kr_iconst C (v := 0) dX3_holders_35 (by decide) ?_
    refine kr_istore_n C [1, 2, 3, 0] dX3_holders_36 rfl (by decide) rfl ?_
    refine kr_iconst C (v := 0) dX3_holders_37 (by decide) ?_
    refine kr_istore C [1, 2, 3, 4, 0] dX3_holders_38 (by decide) rfl ?_
    exact lc_X3_holders_L40 C _ _ _ _ _ _ h
  have h := (if_neg hc).symm.trans h
  refine kr_iconst C (v := 0) dX3_holders_33 (by decide) ?_
  cases h
  exact kr_ret_i C (Nat.le_of_ble_eq_true rfl) (Nat.le_of_ble_eq_true rfl) dX3_holders_34
theorem flX3_inside_7 : Cond.fieldLink RX3 7 "FolderKeeperModel" "accounts" "I" ∈ wsX3_inside := by decide +kernel
theorem inX3_inside_X3 : ∀ w ∈ wsX30, w ∈ wsX3_inside := fun _ h => List.mem_cons_of_mem _ (List.mem_append_left _ (List.mem_append_right _ h))
theorem flX3_inside_13 : Cond.fieldLink RX3 13 "FolderKeeperModel" "haveLeft" "[Z" ∈ wsX3_inside := by decide +kernel
theorem flX3_inside_48 : Cond.fieldLink RX3 48 "FolderKeeperModel" "roomGroups" "[I" ∈ wsX3_inside := by decide +kernel
set_option maxHeartbeats 4000000 in
set_option maxRecDepth 100000 in
theorem lc_X3_inside_L4 {K : kEnv} {l : Launch} {D : va_G} {cy : Nat → ClassId} {A : Nat → Prop} {a : Nat → Nat} {Z : va_W} {S : kSt} {r : Int32} (C : kC K D cy A 4 cX3_inside RX3 wsX3_inside (some .int)) : ∀ (n : Nat) (x1 x2 x3 : Int32), f_X3_inside_L4 n S x1 x2 x3 = some r → kG K l D A ({ frames := 11, cells := 0, slots := 0, locals := 252 } : Room) 4 (kEnd K D cy A (yw a cy S Z) (some (.int r)) 0 0) (yw a cy S Z) 0 0 4 [(0, .ref (a 0)), (1, .int (x1)), (2, .int (x2)), (3, .int (x3))] [] := by
  intro n
  induction n with
  | zero => intro x1 x2 x3 h; rw [f_X3_inside_L4] at h; cases h
  | succ n ih =>
    intro x1 x2 x3 h
    rw [f_X3_inside_L4] at h
    refine kr_iload_n C 3 dX3_inside_4 rfl rfl ?_
    refine kr_aload_n C 0 dX3_inside_5 rfl rfl ?_
    refine kr_get C inX3_inside_X3 0 rfl rfl 0 (by decide) flX3_inside_7 rfl rfl dX3_inside_6 ?_
    refine kr_icmp_ge C 49 dX3_inside_9 (by decide) (fun hc => ?_) (fun hc => ?_)
    · have h := (if_pos hc).symm.trans h
      refine kr_iload_n C 2 dX3_inside_49 rfl rfl ?_
      cases h
      exact kr_ret_i C (Nat.le_of_ble_eq_true rfl) (Nat.le_of_ble_eq_true rfl) dX3_inside_50
    have h := (if_neg hc).symm.trans h
    refine kr_iload_n C 2 dX3_inside_12 rfl rfl ?_
    refine kr_aload_n C 0 dX3_inside_13 rfl rfl ?_
    refine kr_get C inX3_inside_X3 0 rfl rfl 1 (by decide) flX3_inside_13 rfl rfl dX3_inside_14 ?_
    refine kr_iload_n C 3 dX3_inside_17 rfl rfl ?_
    obtain ⟨hb1, h⟩ := kif h
    refine kr_zald C 1 rfl (kin_in hb1) dX3_inside_18 ?_
    refine kr_if_ne C 40 dX3_inside_19 (by decide) (fun hc => ?_) (fun hc => ?_)
    · have h := (if_pos hc).symm.trans h
      refine kr_aload_n C 0 dX3_inside_22 rfl rfl ?_
      refine kr_iload_n C 3 dX3_inside_23 rfl rfl ?_
      refine kr_aload_n C 0 dX3_inside_24 rfl rfl ?_
      refine kr_get C inX3_inside_X3 0 rfl rfl 15 (by decide) flX3_inside_48 rfl rfl dX3_inside_25 ?_
      refine kr_iload_n C 1 dX3_inside_28 rfl rfl ?_
      obtain ⟨hb2, h⟩ := kif h
      refine kr_iald C 12 rfl (kin_in hb2) dX3_inside_29 ?_
      obtain ⟨v3, hv3, h⟩ := kob h
      refine kr_callV1 C (k := 2) (As := [.int x3, .int (S.2 15 x1.toNatClampNeg)]) (rest := [.int (x2)]) (c_X3_isMember hv3) gX3_inside_X3_isMember rfl rfl rfl (by decide +kernel) ⟨(Nat.le_of_ble_eq_true rfl), (Nat.le_of_ble_eq_true rfl)⟩ ⟨(Nat.le_of_ble_eq_true rfl), (Nat.le_of_ble_eq_true rfl)⟩ 0 rfl rfl rfl rfl (Nat.le_of_ble_eq_true rfl) dX3_inside_30 ?_
      refine kr_if_eq C 40 dX3_inside_33 (by decide) (fun hc => ?_) (fun hc => ?_)
      · have h := (if_pos hc).symm.trans h
        refine kr_iconst C (v := 0) dX3_inside_40 (by decide) ?_
        refine kr_iadd C dX3_inside_41 ?_
        refine kr_istore_n C [1, 2, 0, 3] dX3_inside_42 rfl (by decide) rfl ?_
        refine kr_iinc C (v := (x3 + 1)) 3 [1, 2, 3, 0] dX3_inside_43 rfl rfl (by decide) rfl ?_
        refine kr_goto C 4 dX3_inside_46 (by decide) ?_
        exact ih _ _ _ h
      have h := (if_neg hc).symm.trans h
      refine kr_iconst C (v := 1) dX3_inside_36 (by decide) ?_
      refine kr_goto C 41 dX3_inside_37 (by decide) ?_
      refine kr_iadd C dX3_inside_41 ?_
      refine kr_istore_n C [1, 2, 0, 3] dX3_inside_42 rfl (by decide) rfl ?_
      refine kr_iinc C (v := (x3 + 1)) 3 [1, 2, 3, 0] dX3_inside_43 rfl rfl (by decide) rfl ?_
      refine kr_goto C 4 dX3_inside_46 (by decide) ?_
      exact ih _ _ _ h
    have h := (if_neg hc).symm.trans h
    refine kr_iconst C (v := 0) dX3_inside_40 (by decide) ?_
    refine kr_iadd C dX3_inside_41 ?_
    refine kr_istore_n C [1, 2, 0, 3] dX3_inside_42 rfl (by decide) rfl ?_
    refine kr_iinc C (v := (x3 + 1)) 3 [1, 2, 3, 0] dX3_inside_43 rfl rfl (by decide) rfl ?_
    refine kr_goto C 4 dX3_inside_46 (by decide) ?_
    exact ih _ _ _ h
set_option maxHeartbeats 4000000 in
set_option maxRecDepth 100000 in
theorem c_X3_inside {l : Launch} {D : va_G} {cy : Nat → ClassId} {a : Nat → Nat} {Z : va_W} {S : kSt} {p1 : Int32} {r : Int32} (h : f_X3_inside S p1 = some r) : kM l yX3_inside wsX3_inside ({ frames := 11, cells := 0, slots := 0, locals := 252 } : Room) D cy (yw a cy S Z) [.ref (a 0), .int p1] (yw a cy S Z) (some (.int r)) 0 0 := by
  rw [f_X3_inside] at h
  refine kM.start (L := [(0, .ref (a 0)), (1, .int (p1))]) rfl rfl rfl (Nat.le_of_ble_eq_true rfl) rfl (fun K A C => ?_)
  refine kr_iconst C (v := 0) dX3_inside_0 (by decide) ?_
  refine kr_istore_n C [1, 2, 0] dX3_inside_1 rfl (by decide) rfl ?_
  refine kr_iconst C (v := 0) dX3_inside_2 (by decide) ?_
  refine kr_istore_n C [1, 2, 3, 0] dX3_inside_3 rfl (by decide) rfl ?_
  exact lc_X3_inside_L4 C _ _ _ _ h
set_option maxHeartbeats 4000000 in
set_option maxRecDepth 100000 in
theorem c_X3_isIn {l : Launch} {D : va_G} {cy : Nat → ClassId} {a : Nat → Nat} {Z : va_W} {S : kSt} {p1 : Int32} {p2 : Int32} {r : (Bool × kSt)} (h : f_X3_isIn S p1 p2 = some r) : kM l yX3_isIn wsX3_isIn ({ frames := 11, cells := 0, slots := 0, locals := 252 } : Room) D cy (yw a cy S Z) [.ref (a 0), .int p1, .int p2] (yw a cy r.2 Z) (some (.int (b2i r.1))) 0 0 := by
  rw [f_X3_isIn] at h
  refine kM.start (L := [(0, .ref (a 0)), (1, .int (p1)), (2, .int (p2))]) rfl rfl rfl (Nat.le_of_ble_eq_true rfl) rfl (fun K A C => ?_)
  refine kr_aload_n C 0 dX3_isIn_0 rfl rfl ?_
  refine kr_aload_n C 0 dX3_isIn_1 rfl rfl ?_
  refine kr_iload_n C 1 dX3_isIn_2 rfl rfl ?_
  obtain ⟨v1, hv1, h⟩ := kob h
  refine kr_callV1 C (k := 1) (As := [.int p1]) (rest := [.ref (a 0)]) (c_X3_isNoAccount hv1) gX3_isIn_X3_isNoAccount rfl rfl rfl (by decide +kernel) ⟨(Nat.le_of_ble_eq_true rfl), (Nat.le_of_ble_eq_true rfl)⟩ ⟨(Nat.le_of_ble_eq_true rfl), (Nat.le_of_ble_eq_true rfl)⟩ 0 rfl rfl rfl rfl (Nat.le_of_ble_eq_true rfl) dX3_isIn_3 ?_
  refine kr_if_ne C 17 dX3_isIn_6 (by decide) (fun hc => ?_) (fun hc => ?_)
  · have h := (if_pos hc).symm.trans h
    refine kr_aload_n C 0 dX3_isIn_9 rfl rfl ?_
    refine kr_iload_n C 2 dX3_isIn_10 rfl rfl ?_
    obtain ⟨v2, hv2, h⟩ := kob h
    refine kr_callV1 C (k := 1) (As := [.int p2]) (rest := [.ref (a 0)]) (c_X3_isNoGroup hv2) gX3_isIn_X3_isNoGroup rfl rfl rfl (by decide +kernel) ⟨(Nat.le_of_ble_eq_true rfl), (Nat.le_of_ble_eq_true rfl)⟩ ⟨(Nat.le_of_ble_eq_true rfl), (Nat.le_of_ble_eq_true rfl)⟩ 0 rfl rfl rfl rfl (Nat.le_of_ble_eq_true rfl) dX3_isIn_11 ?_
    refine kr_if_eq C 21 dX3_isIn_14 (by decide) (fun hc => ?_) (fun hc => ?_)
    · have h := (if_pos hc).symm.trans h
      refine kr_iconst C (v := 0) dX3_isIn_21 (by decide) ?_
      obtain ⟨v3, hv3, h⟩ := kob h
      refine kr_callV1 C (k := 1) (As := [.int (0 : Int32)]) (rest := []) (c_X3_fails hv3) gX3_isIn_X3_fails rfl rfl rfl (by decide +kernel) ⟨(Nat.le_of_ble_eq_true rfl), (Nat.le_of_ble_eq_true rfl)⟩ ⟨(Nat.le_of_ble_eq_true rfl), (Nat.le_of_ble_eq_true rfl)⟩ 0 rfl rfl rfl rfl (Nat.le_of_ble_eq_true rfl) dX3_isIn_22 ?_
      refine kr_if_ne C 41 dX3_isIn_25 (by decide) (fun hc => ?_) (fun hc => ?_)
      · have h := (if_pos hc).symm.trans h
        refine kr_aload_n C 0 dX3_isIn_28 rfl rfl ?_
        refine kr_iload_n C 1 dX3_isIn_29 rfl rfl ?_
        refine kr_iload_n C 2 dX3_isIn_30 rfl rfl ?_
        obtain ⟨v4, hv4, h⟩ := kob h
        refine kr_callV1 C (k := 2) (As := [.int p1, .int p2]) (rest := []) (c_X3_isMember hv4) gX3_isIn_X3_isMember rfl rfl rfl (by decide +kernel) ⟨(Nat.le_of_ble_eq_true rfl), (Nat.le_of_ble_eq_true rfl)⟩ ⟨(Nat.le_of_ble_eq_true rfl), (Nat.le_of_ble_eq_true rfl)⟩ 0 rfl rfl rfl rfl (Nat.le_of_ble_eq_true rfl) dX3_isIn_31 ?_
        refine kr_if_eq C 41 dX3_isIn_34 (by decide) (fun hc => ?_) (fun hc => ?_)
        · have h := (if_pos hc).symm.trans h
          refine kr_iconst C (v := 0) dX3_isIn_41 (by decide) ?_
          cases h
          exact kr_ret_z (v := b2i false) C (nar_b _) (Nat.le_of_ble_eq_true rfl) (Nat.le_of_ble_eq_true rfl) dX3_isIn_42
        have h := (if_neg hc).symm.trans h
        refine kr_iconst C (v := 1) dX3_isIn_37 (by decide) ?_
        refine kr_goto C 42 dX3_isIn_38 (by decide) ?_
        cases h
        exact kr_ret_z (v := b2i true) C (nar_b _) (Nat.le_of_ble_eq_true rfl) (Nat.le_of_ble_eq_true rfl) dX3_isIn_42
      have h := (if_neg hc).symm.trans h
      refine kr_iconst C (v := 0) dX3_isIn_41 (by decide) ?_
      cases h
      exact kr_ret_z (v := b2i false) C (nar_b _) (Nat.le_of_ble_eq_true rfl) (Nat.le_of_ble_eq_true rfl) dX3_isIn_42
    have h := (if_neg hc).symm.trans h
    refine kr_iconst C (v := 1) dX3_isIn_17 (by decide) ?_
    refine kr_goto C 22 dX3_isIn_18 (by decide) ?_
    obtain ⟨v5, hv5, h⟩ := kob h
    refine kr_callV1 C (k := 1) (As := [.int (1 : Int32)]) (rest := []) (c_X3_fails hv5) gX3_isIn_X3_fails rfl rfl rfl (by decide +kernel) ⟨(Nat.le_of_ble_eq_true rfl), (Nat.le_of_ble_eq_true rfl)⟩ ⟨(Nat.le_of_ble_eq_true rfl), (Nat.le_of_ble_eq_true rfl)⟩ 0 rfl rfl rfl rfl (Nat.le_of_ble_eq_true rfl) dX3_isIn_22 ?_
    refine kr_if_ne C 41 dX3_isIn_25 (by decide) (fun hc => ?_) (fun hc => ?_)
    · have h := (if_pos hc).symm.trans h
      refine kr_aload_n C 0 dX3_isIn_28 rfl rfl ?_
      refine kr_iload_n C 1 dX3_isIn_29 rfl rfl ?_
      refine kr_iload_n C 2 dX3_isIn_30 rfl rfl ?_
      obtain ⟨v6, hv6, h⟩ := kob h
      refine kr_callV1 C (k := 2) (As := [.int p1, .int p2]) (rest := []) (c_X3_isMember hv6) gX3_isIn_X3_isMember rfl rfl rfl (by decide +kernel) ⟨(Nat.le_of_ble_eq_true rfl), (Nat.le_of_ble_eq_true rfl)⟩ ⟨(Nat.le_of_ble_eq_true rfl), (Nat.le_of_ble_eq_true rfl)⟩ 0 rfl rfl rfl rfl (Nat.le_of_ble_eq_true rfl) dX3_isIn_31 ?_
      refine kr_if_eq C 41 dX3_isIn_34 (by decide) (fun hc => ?_) (fun hc => ?_)
      · have h := (if_pos hc).symm.trans h
        refine kr_iconst C (v := 0) dX3_isIn_41 (by decide) ?_
        cases h
        exact kr_ret_z (v := b2i false) C (nar_b _) (Nat.le_of_ble_eq_true rfl) (Nat.le_of_ble_eq_true rfl) dX3_isIn_42
      have h := (if_neg hc).symm.trans h
      refine kr_iconst C (v := 1) dX3_isIn_37 (by decide) ?_
      refine kr_goto C 42 dX3_isIn_38 (by decide) ?_
      cases h
      exact kr_ret_z (v := b2i true) C (nar_b _) (Nat.le_of_ble_eq_true rfl) (Nat.le_of_ble_eq_true rfl) dX3_isIn_42
    have h := (if_neg hc).symm.trans h
    refine kr_iconst C (v := 0) dX3_isIn_41 (by decide) ?_
    cases h
    exact kr_ret_z (v := b2i false) C (nar_b _) (Nat.le_of_ble_eq_true rfl) (Nat.le_of_ble_eq_true rfl) dX3_isIn_42
  have h := (if_neg hc).symm.trans h
  refine kr_iconst C (v := 1) dX3_isIn_17 (by decide) ?_
  refine kr_goto C 22 dX3_isIn_18 (by decide) ?_
  obtain ⟨v7, hv7, h⟩ := kob h
  refine kr_callV1 C (k := 1) (As := [.int (1 : Int32)]) (rest := []) (c_X3_fails hv7) gX3_isIn_X3_fails rfl rfl rfl (by decide +kernel) ⟨(Nat.le_of_ble_eq_true rfl), (Nat.le_of_ble_eq_true rfl)⟩ ⟨(Nat.le_of_ble_eq_true rfl), (Nat.le_of_ble_eq_true rfl)⟩ 0 rfl rfl rfl rfl (Nat.le_of_ble_eq_true rfl) dX3_isIn_22 ?_
  refine kr_if_ne C 41 dX3_isIn_25 (by decide) (fun hc => ?_) (fun hc => ?_)
  · have h := (if_pos hc).symm.trans h
    refine kr_aload_n C 0 dX3_isIn_28 rfl rfl ?_
    refine kr_iload_n C 1 dX3_isIn_29 rfl rfl ?_
    refine kr_iload_n C 2 dX3_isIn_30 rfl rfl ?_
    obtain ⟨v8, hv8, h⟩ := kob h
    refine kr_callV1 C (k := 2) (As := [.int p1, .int p2]) (rest := []) (c_X3_isMember hv8) gX3_isIn_X3_isMember rfl rfl rfl (by decide +kernel) ⟨(Nat.le_of_ble_eq_true rfl), (Nat.le_of_ble_eq_true rfl)⟩ ⟨(Nat.le_of_ble_eq_true rfl), (Nat.le_of_ble_eq_true rfl)⟩ 0 rfl rfl rfl rfl (Nat.le_of_ble_eq_true rfl) dX3_isIn_31 ?_
    refine kr_if_eq C 41 dX3_isIn_34 (by decide) (fun hc => ?_) (fun hc => ?_)
    · have h := (if_pos hc).symm.trans h
      refine kr_iconst C (v := 0) dX3_isIn_41 (by decide) ?_
      cases h
      exact kr_ret_z (v := b2i false) C (nar_b _) (Nat.le_of_ble_eq_true rfl) (Nat.le_of_ble_eq_true rfl) dX3_isIn_42
    have h := (if_neg hc).symm.trans h
    refine kr_iconst C (v := 1) dX3_isIn_37 (by decide) ?_
    refine kr_goto C 42 dX3_isIn_38 (by decide) ?_
    cases h
    exact kr_ret_z (v := b2i true) C (nar_b _) (Nat.le_of_ble_eq_true rfl) (Nat.le_of_ble_eq_true rfl) dX3_isIn_42
  have h := (if_neg hc).symm.trans h
  refine kr_iconst C (v := 0) dX3_isIn_41 (by decide) ?_
  cases h
  exact kr_ret_z (v := b2i false) C (nar_b _) (Nat.le_of_ble_eq_true rfl) (Nat.le_of_ble_eq_true rfl) dX3_isIn_42
theorem flX3_isKept_39 : Cond.fieldLink RX3 39 "FolderKeeperModel" "areHeld" "[Z" ∈ wsX3_isKept := by decide +kernel
theorem inX3_isKept_X3 : ∀ w ∈ wsX30, w ∈ wsX3_isKept := fun _ h => List.mem_cons_of_mem _ (List.mem_append_left _ (List.mem_append_right _ h))
set_option maxHeartbeats 4000000 in
set_option maxRecDepth 100000 in
theorem c_X3_isKept {l : Launch} {D : va_G} {cy : Nat → ClassId} {a : Nat → Nat} {Z : va_W} {S : kSt} {p1 : Bool} {p2 : Int32} {p3 : Int32} {r : (Bool × kSt)} (h : f_X3_isKept S p1 p2 p3 = some r) : kM l yX3_isKept wsX3_isKept ({ frames := 1, cells := 0, slots := 0, locals := 22 } : Room) D cy (yw a cy S Z) [.ref (a 0), .int (b2i p1), .int p2, .int p3] (yw a cy r.2 Z) (some (.int (b2i r.1))) 0 0 := by
  rw [f_X3_isKept] at h
  refine kM.start (L := [(0, .ref (a 0)), (1, .int (b2i (p1))), (2, .int (p2)), (3, .int (p3))]) rfl rfl rfl (Nat.le_of_ble_eq_true rfl) rfl (fun K A C => ?_)
  refine kr_aload_n C 0 dX3_isKept_0 rfl rfl ?_
  refine kr_iload_n C 1 dX3_isKept_1 rfl rfl ?_
  refine kr_if_ne C 9 dX3_isKept_2 (by decide) (fun hc => ?_) (fun hc => ?_)
  · have h := (if_pos hc).symm.trans h
    refine kr_iconst C (v := 1) dX3_isKept_5 (by decide) ?_
    refine kr_goto C 36 dX3_isKept_6 (by decide) ?_
    obtain ⟨v1, hv1, h⟩ := kob h
    refine kr_callV1 C (k := 1) (As := [.int (1 : Int32)]) (rest := []) (c_X3_fails hv1) gX3_isKept_X3_fails rfl rfl rfl (by decide +kernel) ⟨(Nat.le_of_ble_eq_true rfl), (Nat.le_of_ble_eq_true rfl)⟩ ⟨(Nat.le_of_ble_eq_true rfl), (Nat.le_of_ble_eq_true rfl)⟩ 0 rfl rfl rfl rfl (Nat.le_of_ble_eq_true rfl) dX3_isKept_36 ?_
    cases h
    exact kr_ret_z C (nar_b _) (Nat.le_of_ble_eq_true rfl) (Nat.le_of_ble_eq_true rfl) dX3_isKept_39
  have h := (if_neg hc).symm.trans h
  refine kr_iload_n C 3 dX3_isKept_9 rfl rfl ?_
  refine kr_iconst C (v := 0) dX3_isKept_10 (by decide) ?_
  refine kr_iconst C (v := 2) dX3_isKept_11 (by decide) ?_
  obtain ⟨v2, hv2, h⟩ := kob h
  refine kr_callS1 C (k := 3) (As := [.int p3, .int (0 : Int32), .int (2 : Int32)]) (rest := [.ref (a 0)]) (c_X3_in hv2) gX3_isKept_X3_in rfl rfl rfl (by decide +kernel) ⟨(Nat.le_of_ble_eq_true rfl), (Nat.le_of_ble_eq_true rfl)⟩ ⟨(Nat.le_of_ble_eq_true rfl), (Nat.le_of_ble_eq_true rfl)⟩ rfl rfl (Nat.le_of_ble_eq_true rfl) dX3_isKept_12 ?_
  refine kr_if_ne C 22 dX3_isKept_15 (by decide) (fun hc => ?_) (fun hc => ?_)
  · have h := (if_pos hc).symm.trans h
    refine kr_iconst C (v := 2) dX3_isKept_18 (by decide) ?_
    refine kr_goto C 36 dX3_isKept_19 (by decide) ?_
    obtain ⟨v3, hv3, h⟩ := kob h
    refine kr_callV1 C (k := 1) (As := [.int (2 : Int32)]) (rest := []) (c_X3_fails hv3) gX3_isKept_X3_fails rfl rfl rfl (by decide +kernel) ⟨(Nat.le_of_ble_eq_true rfl), (Nat.le_of_ble_eq_true rfl)⟩ ⟨(Nat.le_of_ble_eq_true rfl), (Nat.le_of_ble_eq_true rfl)⟩ 0 rfl rfl rfl rfl (Nat.le_of_ble_eq_true rfl) dX3_isKept_36 ?_
    cases h
    exact kr_ret_z C (nar_b _) (Nat.le_of_ble_eq_true rfl) (Nat.le_of_ble_eq_true rfl) dX3_isKept_39
  have h := (if_neg hc).symm.trans h
  refine kr_aload_n C 0 dX3_isKept_22 rfl rfl ?_
  refine kr_get C inX3_isKept_X3 0 rfl rfl 11 (by decide) flX3_isKept_39 rfl rfl dX3_isKept_23 ?_
  refine kr_iload_n C 2 dX3_isKept_26 rfl rfl ?_
  obtain ⟨hb4, h⟩ := kif h
  refine kr_zald C 9 rfl (kin_in hb4) dX3_isKept_27 ?_
  refine kr_if_eq C 35 dX3_isKept_28 (by decide) (fun hc => ?_) (fun hc => ?_)
  · have h := (if_pos hc).symm.trans h
    refine kr_iconst C (v := 0) dX3_isKept_35 (by decide) ?_
    obtain ⟨v5, hv5, h⟩ := kob h
    refine kr_callV1 C (k := 1) (As := [.int (0 : Int32)]) (rest := []) (c_X3_fails hv5) gX3_isKept_X3_fails rfl rfl rfl (by decide +kernel) ⟨(Nat.le_of_ble_eq_true rfl), (Nat.le_of_ble_eq_true rfl)⟩ ⟨(Nat.le_of_ble_eq_true rfl), (Nat.le_of_ble_eq_true rfl)⟩ 0 rfl rfl rfl rfl (Nat.le_of_ble_eq_true rfl) dX3_isKept_36 ?_
    cases h
    exact kr_ret_z C (nar_b _) (Nat.le_of_ble_eq_true rfl) (Nat.le_of_ble_eq_true rfl) dX3_isKept_39
  have h := (if_neg hc).symm.trans h
  refine kr_iconst C (v := 3) dX3_isKept_31 (by decide) ?_
  refine kr_goto C 36 dX3_isKept_32 (by decide) ?_
  obtain ⟨v6, hv6, h⟩ := kob h
  refine kr_callV1 C (k := 1) (As := [.int (3 : Int32)]) (rest := []) (c_X3_fails hv6) gX3_isKept_X3_fails rfl rfl rfl (by decide +kernel) ⟨(Nat.le_of_ble_eq_true rfl), (Nat.le_of_ble_eq_true rfl)⟩ ⟨(Nat.le_of_ble_eq_true rfl), (Nat.le_of_ble_eq_true rfl)⟩ 0 rfl rfl rfl rfl (Nat.le_of_ble_eq_true rfl) dX3_isKept_36 ?_
  cases h
  exact kr_ret_z C (nar_b _) (Nat.le_of_ble_eq_true rfl) (Nat.le_of_ble_eq_true rfl) dX3_isKept_39
theorem flX3_isNoEnd_74 : Cond.fieldLink RX3 74 "FolderKeeperModel" "day" "I" ∈ wsX3_isNoEnd := by decide +kernel
theorem inX3_isNoEnd_X3 : ∀ w ∈ wsX30, w ∈ wsX3_isNoEnd := fun _ h => List.mem_cons_of_mem _ (List.mem_append_right _ h)
set_option maxHeartbeats 4000000 in
set_option maxRecDepth 100000 in
theorem c_X3_isNoEnd {l : Launch} {D : va_G} {cy : Nat → ClassId} {a : Nat → Nat} {Z : va_W} {S : kSt} {p1 : Int32} {r : Bool} (h : f_X3_isNoEnd S p1 = some r) : kM l yX3_isNoEnd wsX3_isNoEnd ({ frames := 1, cells := 0, slots := 0, locals := 22 } : Room) D cy (yw a cy S Z) [.ref (a 0), .int p1] (yw a cy S Z) (some (.int (b2i r))) 0 0 := by
  rw [f_X3_isNoEnd] at h
  refine kM.start (L := [(0, .ref (a 0)), (1, .int (p1))]) rfl rfl rfl (Nat.le_of_ble_eq_true rfl) rfl (fun K A C => ?_)
  refine kr_iload_n C 1 dX3_isNoEnd_0 rfl rfl ?_
  refine kr_iconst C (v := -1) dX3_isNoEnd_1 (by decide) ?_
  refine kr_icmp_eq C 25 dX3_isNoEnd_2 (by decide) (fun hc => ?_) (fun hc => ?_)
  · have h := (if_pos hc).symm.trans h
    refine kr_iconst C (v := 0) dX3_isNoEnd_25 (by decide) ?_
    cases h
    exact kr_ret_z (v := b2i false) C (nar_b _) (Nat.le_of_ble_eq_true rfl) (Nat.le_of_ble_eq_true rfl) dX3_isNoEnd_26
  have h := (if_neg hc).symm.trans h
  refine kr_iload_n C 1 dX3_isNoEnd_5 rfl rfl ?_
  refine kr_aload_n C 0 dX3_isNoEnd_6 rfl rfl ?_
  refine kr_get C inX3_isNoEnd_X3 0 rfl rfl 17 (by decide) flX3_isNoEnd_74 rfl rfl dX3_isNoEnd_7 ?_
  refine kr_iconst C (v := 1) dX3_isNoEnd_10 (by decide) ?_
  refine kr_iadd C dX3_isNoEnd_11 ?_
  refine kr_sipush C (v := 999) dX3_isNoEnd_12 (by decide) ?_
  obtain ⟨v1, hv1, h⟩ := kob h
  refine kr_callS1 C (k := 3) (As := [.int p1, .int ((S.1 17) + (1 : Int32)), .int (999 : Int32)]) (rest := []) (c_X3_in hv1) gX3_isNoEnd_X3_in rfl rfl rfl (by decide +kernel) ⟨(Nat.le_of_ble_eq_true rfl), (Nat.le_of_ble_eq_true rfl)⟩ ⟨(Nat.le_of_ble_eq_true rfl), (Nat.le_of_ble_eq_true rfl)⟩ rfl rfl (Nat.le_of_ble_eq_true rfl) dX3_isNoEnd_15 ?_
  refine kr_if_ne C 25 dX3_isNoEnd_18 (by decide) (fun hc => ?_) (fun hc => ?_)
  · have h := (if_pos hc).symm.trans h
    refine kr_iconst C (v := 1) dX3_isNoEnd_21 (by decide) ?_
    refine kr_goto C 26 dX3_isNoEnd_22 (by decide) ?_
    cases h
    exact kr_ret_z (v := b2i true) C (nar_b _) (Nat.le_of_ble_eq_true rfl) (Nat.le_of_ble_eq_true rfl) dX3_isNoEnd_26
  have h := (if_neg hc).symm.trans h
  refine kr_iconst C (v := 0) dX3_isNoEnd_25 (by decide) ?_
  cases h
  exact kr_ret_z (v := b2i false) C (nar_b _) (Nat.le_of_ble_eq_true rfl) (Nat.le_of_ble_eq_true rfl) dX3_isNoEnd_26
theorem flX3_isNoRoom_114 : Cond.fieldLink RX3 114 "FolderKeeperModel" "rooms" "I" ∈ wsX3_isNoRoom := by decide +kernel
theorem inX3_isNoRoom_X3 : ∀ w ∈ wsX30, w ∈ wsX3_isNoRoom := fun _ h => List.mem_cons_of_mem _ (List.mem_append_right _ h)
set_option maxHeartbeats 4000000 in
set_option maxRecDepth 100000 in
theorem c_X3_isNoRoom {l : Launch} {D : va_G} {cy : Nat → ClassId} {a : Nat → Nat} {Z : va_W} {S : kSt} {p1 : Int32} {r : Bool} (h : f_X3_isNoRoom S p1 = some r) : kM l yX3_isNoRoom wsX3_isNoRoom ({ frames := 1, cells := 0, slots := 0, locals := 22 } : Room) D cy (yw a cy S Z) [.ref (a 0), .int p1] (yw a cy S Z) (some (.int (b2i r))) 0 0 := by
  rw [f_X3_isNoRoom] at h
  refine kM.start (L := [(0, .ref (a 0)), (1, .int (p1))]) rfl rfl rfl (Nat.le_of_ble_eq_true rfl) rfl (fun K A C => ?_)
  refine kr_iload_n C 1 dX3_isNoRoom_0 rfl rfl ?_
  refine kr_iconst C (v := 0) dX3_isNoRoom_1 (by decide) ?_
  refine kr_aload_n C 0 dX3_isNoRoom_2 rfl rfl ?_
  refine kr_get C inX3_isNoRoom_X3 0 rfl rfl 14 (by decide) flX3_isNoRoom_114 rfl rfl dX3_isNoRoom_3 ?_
  refine kr_iconst C (v := 1) dX3_isNoRoom_6 (by decide) ?_
  refine kr_isub C dX3_isNoRoom_7 ?_
  obtain ⟨v1, hv1, h⟩ := kob h
  refine kr_callS1 C (k := 3) (As := [.int p1, .int (0 : Int32), .int ((S.1 14) - (1 : Int32))]) (rest := []) (c_X3_in hv1) gX3_isNoRoom_X3_in rfl rfl rfl (by decide +kernel) ⟨(Nat.le_of_ble_eq_true rfl), (Nat.le_of_ble_eq_true rfl)⟩ ⟨(Nat.le_of_ble_eq_true rfl), (Nat.le_of_ble_eq_true rfl)⟩ rfl rfl (Nat.le_of_ble_eq_true rfl) dX3_isNoRoom_8 ?_
  refine kr_if_ne C 18 dX3_isNoRoom_11 (by decide) (fun hc => ?_) (fun hc => ?_)
  · have h := (if_pos hc).symm.trans h
    refine kr_iconst C (v := 1) dX3_isNoRoom_14 (by decide) ?_
    refine kr_goto C 19 dX3_isNoRoom_15 (by decide) ?_
    cases h
    exact kr_ret_z (v := b2i true) C (nar_b _) (Nat.le_of_ble_eq_true rfl) (Nat.le_of_ble_eq_true rfl) dX3_isNoRoom_19
  have h := (if_neg hc).symm.trans h
  refine kr_iconst C (v := 0) dX3_isNoRoom_18 (by decide) ?_
  cases h
  exact kr_ret_z (v := b2i false) C (nar_b _) (Nat.le_of_ble_eq_true rfl) (Nat.le_of_ble_eq_true rfl) dX3_isNoRoom_19
theorem flX3_join_13 : Cond.fieldLink RX3 13 "FolderKeeperModel" "haveLeft" "[Z" ∈ wsX3_join := by decide +kernel
theorem inX3_join_X3 : ∀ w ∈ wsX30, w ∈ wsX3_join := fun _ h => List.mem_cons_of_mem _ (List.mem_append_left _ (List.mem_append_right _ h))
theorem flX3_join_21 : Cond.fieldLink RX3 21 "FolderKeeperModel" "memberEnds" "[I" ∈ wsX3_join := by decide +kernel
set_option maxHeartbeats 4000000 in
set_option maxRecDepth 100000 in
theorem c_X3_join {l : Launch} {D : va_G} {cy : Nat → ClassId} {a : Nat → Nat} {Z : va_W} {S : kSt} {p1 : Int32} {p2 : Int32} {p3 : Int32} {r : (Int32 × kSt)} (h : f_X3_join S p1 p2 p3 = some r) : kM l yX3_join wsX3_join ({ frames := 2, cells := 0, slots := 0, locals := 43 } : Room) D cy (yw a cy S Z) [.ref (a 0), .int p1, .int p2, .int p3] (yw a cy r.2 Z) (some (.int r.1)) 0 0 := by
  rw [f_X3_join] at h
  refine kM.start (L := [(0, .ref (a 0)), (1, .int (p1)), (2, .int (p2)), (3, .int (p3))]) rfl rfl rfl (Nat.le_of_ble_eq_true rfl) rfl (fun K A C => ?_)
  refine kr_aload_n C 0 dX3_join_0 rfl rfl ?_
  refine kr_aload_n C 0 dX3_join_1 rfl rfl ?_
  refine kr_iload_n C 1 dX3_join_2 rfl rfl ?_
  obtain ⟨v1, hv1, h⟩ := kob h
  refine kr_callV1 C (k := 1) (As := [.int p1]) (rest := [.ref (a 0)]) (c_X3_isNoAccount hv1) gX3_join_X3_isNoAccount rfl rfl rfl (by decide +kernel) ⟨(Nat.le_of_ble_eq_true rfl), (Nat.le_of_ble_eq_true rfl)⟩ ⟨(Nat.le_of_ble_eq_true rfl), (Nat.le_of_ble_eq_true rfl)⟩ 0 rfl rfl rfl rfl (Nat.le_of_ble_eq_true rfl) dX3_join_3 ?_
  refine kr_if_ne C 17 dX3_join_6 (by decide) (fun hc => ?_) (fun hc => ?_)
  · have h := (if_pos hc).symm.trans h
    refine kr_aload_n C 0 dX3_join_9 rfl rfl ?_
    refine kr_iload_n C 2 dX3_join_10 rfl rfl ?_
    obtain ⟨v2, hv2, h⟩ := kob h
    refine kr_callV1 C (k := 1) (As := [.int p2]) (rest := [.ref (a 0)]) (c_X3_isNoGroup hv2) gX3_join_X3_isNoGroup rfl rfl rfl (by decide +kernel) ⟨(Nat.le_of_ble_eq_true rfl), (Nat.le_of_ble_eq_true rfl)⟩ ⟨(Nat.le_of_ble_eq_true rfl), (Nat.le_of_ble_eq_true rfl)⟩ 0 rfl rfl rfl rfl (Nat.le_of_ble_eq_true rfl) dX3_join_11 ?_
    refine kr_if_eq C 21 dX3_join_14 (by decide) (fun hc => ?_) (fun hc => ?_)
    · have h := (if_pos hc).symm.trans h
      refine kr_aload_n C 0 dX3_join_21 rfl rfl ?_
      refine kr_iload_n C 3 dX3_join_22 rfl rfl ?_
      obtain ⟨v3, hv3, h⟩ := kob h
      refine kr_callV1 C (k := 1) (As := [.int p3]) (rest := [.ref (a 0)]) (c_X3_isNoEnd hv3) gX3_join_X3_isNoEnd rfl rfl rfl (by decide +kernel) ⟨(Nat.le_of_ble_eq_true rfl), (Nat.le_of_ble_eq_true rfl)⟩ ⟨(Nat.le_of_ble_eq_true rfl), (Nat.le_of_ble_eq_true rfl)⟩ 0 rfl rfl rfl rfl (Nat.le_of_ble_eq_true rfl) dX3_join_23 ?_
      refine kr_if_eq C 33 dX3_join_26 (by decide) (fun hc => ?_) (fun hc => ?_)
      · have h := (if_pos hc).symm.trans h
        refine kr_aload_n C 0 dX3_join_33 rfl rfl ?_
        refine kr_get C inX3_join_X3 0 rfl rfl 1 (by decide) flX3_join_13 rfl rfl dX3_join_34 ?_
        refine kr_iload_n C 1 dX3_join_37 rfl rfl ?_
        obtain ⟨hb4, h⟩ := kif h
        refine kr_zald C 1 rfl (kin_in hb4) dX3_join_38 ?_
        refine kr_if_eq C 46 dX3_join_39 (by decide) (fun hc => ?_) (fun hc => ?_)
        · have h := (if_pos hc).symm.trans h
          refine kr_iconst C (v := 0) dX3_join_46 (by decide) ?_
          obtain ⟨v5, hv5, h⟩ := kob h
          refine kr_callV1 C (k := 1) (As := [.int (0 : Int32)]) (rest := []) (c_X3_fails hv5) gX3_join_X3_fails rfl rfl rfl (by decide +kernel) ⟨(Nat.le_of_ble_eq_true rfl), (Nat.le_of_ble_eq_true rfl)⟩ ⟨(Nat.le_of_ble_eq_true rfl), (Nat.le_of_ble_eq_true rfl)⟩ 0 rfl rfl rfl rfl (Nat.le_of_ble_eq_true rfl) dX3_join_47 ?_
          refine kr_if_eq C 55 dX3_join_50 (by decide) (fun hc => ?_) (fun hc => ?_)
          · have h := (if_pos hc).symm.trans h
            refine kr_aload_n C 0 dX3_join_55 rfl rfl ?_
            refine kr_get C inX3_join_X3 0 rfl rfl 4 (by decide) flX3_join_21 rfl rfl dX3_join_56 ?_
            refine kr_bipush C (v := 6) dX3_join_59 (by decide) ?_
            refine kr_iload_n C 1 dX3_join_61 rfl rfl ?_
            refine kr_imul C dX3_join_62 ?_
            refine kr_iload_n C 2 dX3_join_63 rfl rfl ?_
            refine kr_iadd C dX3_join_64 ?_
            refine kr_iload_n C 3 dX3_join_65 rfl rfl ?_
            refine kr_iconst C (v := -1) dX3_join_66 (by decide) ?_
            refine kr_icmp_ne C 76 dX3_join_67 (by decide) (fun hc => ?_) (fun hc => ?_)
            · have h := (if_pos hc).symm.trans h
              refine kr_sipush C (v := 9999) dX3_join_70 (by decide) ?_
              refine kr_goto C 77 dX3_join_73 (by decide) ?_
              obtain ⟨hb6, h⟩ := kif h
              refine kr_iast C 3 rfl (kin_in hb6) (yq4 _ _ _ _ _) dX3_join_77 ?_
              refine kr_aload_n C 0 dX3_join_78 rfl rfl ?_
              refine kr_iload_n C 2 dX3_join_79 rfl rfl ?_
              obtain ⟨v7, hv7, h⟩ := kob h
              refine kr_callV1 C (k := 1) (As := [.int p2]) (rest := []) (c_X3_membersOf hv7) gX3_join_X3_membersOf rfl rfl rfl (by decide +kernel) ⟨(Nat.le_of_ble_eq_true rfl), (Nat.le_of_ble_eq_true rfl)⟩ ⟨(Nat.le_of_ble_eq_true rfl), (Nat.le_of_ble_eq_true rfl)⟩ 0 rfl rfl rfl rfl (Nat.le_of_ble_eq_true rfl) dX3_join_80 ?_
              cases h
              exact kr_ret_i C (Nat.le_of_ble_eq_true rfl) (Nat.le_of_ble_eq_true rfl) dX3_join_83
            have h := (if_neg hc).symm.trans h
            refine kr_iload_n C 3 dX3_join_76 rfl rfl ?_
            obtain ⟨hb8, h⟩ := kif h
            refine kr_iast C 3 rfl (kin_in hb8) (yq4 _ _ _ _ _) dX3_join_77 ?_
            refine kr_aload_n C 0 dX3_join_78 rfl rfl ?_
            refine kr_iload_n C 2 dX3_join_79 rfl rfl ?_
            obtain ⟨v9, hv9, h⟩ := kob h
            refine kr_callV1 C (k := 1) (As := [.int p2]) (rest := []) (c_X3_membersOf hv9) gX3_join_X3_membersOf rfl rfl rfl (by decide +kernel) ⟨(Nat.le_of_ble_eq_true rfl), (Nat.le_of_ble_eq_true rfl)⟩ ⟨(Nat.le_of_ble_eq_true rfl), (Nat.le_of_ble_eq_true rfl)⟩ 0 rfl rfl rfl rfl (Nat.le_of_ble_eq_true rfl) dX3_join_80 ?_
            cases h
            exact kr_ret_i C (Nat.le_of_ble_eq_true rfl) (Nat.le_of_ble_eq_true rfl) dX3_join_83
          have h := (if_neg hc).symm.trans h
          refine kr_iconst C (v := 0) dX3_join_53 (by decide) ?_
          cases h
          exact kr_ret_i C (Nat.le_of_ble_eq_true rfl) (Nat.le_of_ble_eq_true rfl) dX3_join_54
        have h := (if_neg hc).symm.trans h
        refine kr_iconst C (v := 3) dX3_join_42 (by decide) ?_
        refine kr_goto C 47 dX3_join_43 (by decide) ?_
        obtain ⟨v10, hv10, h⟩ := kob h
        refine kr_callV1 C (k := 1) (As := [.int (3 : Int32)]) (rest := []) (c_X3_fails hv10) gX3_join_X3_fails rfl rfl rfl (by decide +kernel) ⟨(Nat.le_of_ble_eq_true rfl), (Nat.le_of_ble_eq_true rfl)⟩ ⟨(Nat.le_of_ble_eq_true rfl), (Nat.le_of_ble_eq_true rfl)⟩ 0 rfl rfl rfl rfl (Nat.le_of_ble_eq_true rfl) dX3_join_47 ?_
        refine kr_if_eq C 55 dX3_join_50 (by decide) (fun hc => ?_) (fun hc => ?_)
        · have h := (if_pos hc).symm.trans h
          refine kr_aload_n C 0 dX3_join_55 rfl rfl ?_
          refine kr_get C inX3_join_X3 0 rfl rfl 4 (by decide) flX3_join_21 rfl rfl dX3_join_56 ?_
          refine kr_bipush C (v := 6) dX3_join_59 (by decide) ?_
          refine kr_iload_n C 1 dX3_join_61 rfl rfl ?_
          refine kr_imul C dX3_join_62 ?_
          refine kr_iload_n C 2 dX3_join_63 rfl rfl ?_
          refine kr_iadd C dX3_join_64 ?_
          refine kr_iload_n C 3 dX3_join_65 rfl rfl ?_
          refine kr_iconst C (v := -1) dX3_join_66 (by decide) ?_
          refine kr_icmp_ne C 76 dX3_join_67 (by decide) (fun hc => ?_) (fun hc => ?_)
          · have h := (if_pos hc).symm.trans h
            refine kr_sipush C (v := 9999) dX3_join_70 (by decide) ?_
            refine kr_goto C 77 dX3_join_73 (by decide) ?_
            obtain ⟨hb11, h⟩ := kif h
            refine kr_iast C 3 rfl (kin_in hb11) (yq4 _ _ _ _ _) dX3_join_77 ?_
            refine kr_aload_n C 0 dX3_join_78 rfl rfl ?_
            refine kr_iload_n C 2 dX3_join_79 rfl rfl ?_
            obtain ⟨v12, hv12, h⟩ := kob h
            refine kr_callV1 C (k := 1) (As := [.int p2]) (rest := []) (c_X3_membersOf hv12) gX3_join_X3_membersOf rfl rfl rfl (by decide +kernel) ⟨(Nat.le_of_ble_eq_true rfl), (Nat.le_of_ble_eq_true rfl)⟩ ⟨(Nat.le_of_ble_eq_true rfl), (Nat.le_of_ble_eq_true rfl)⟩ 0 rfl rfl rfl rfl (Nat.le_of_ble_eq_true rfl) dX3_join_80 ?_
            cases h
            exact kr_ret_i C (Nat.le_of_ble_eq_true rfl) (Nat.le_of_ble_eq_true rfl) dX3_join_83
          have h := (if_neg hc).symm.trans h
          refine kr_iload_n C 3 dX3_join_76 rfl rfl ?_
          obtain ⟨hb13, h⟩ := kif h
          refine kr_iast C 3 rfl (kin_in hb13) (yq4 _ _ _ _ _) dX3_join_77 ?_
          refine kr_aload_n C 0 dX3_join_78 rfl rfl ?_
          refine kr_iload_n C 2 dX3_join_79 rfl rfl ?_
          obtain ⟨v14, hv14, h⟩ := kob h
          refine kr_callV1 C (k := 1) (As := [.int p2]) (rest := []) (c_X3_membersOf hv14) gX3_join_X3_membersOf rfl rfl rfl (by decide +kernel) ⟨(Nat.le_of_ble_eq_true rfl), (Nat.le_of_ble_eq_true rfl)⟩ ⟨(Nat.le_of_ble_eq_true rfl), (Nat.le_of_ble_eq_true rfl)⟩ 0 rfl rfl rfl rfl (Nat.le_of_ble_eq_true rfl) dX3_join_80 ?_
          cases h
          exact kr_ret_i C (Nat.le_of_ble_eq_true rfl) (Nat.le_of_ble_eq_true rfl) dX3_join_83
        have h := (if_neg hc).symm.trans h
        refine kr_iconst C (v := 0) dX3_join_53 (by decide) ?_
        cases h
        exact kr_ret_i C (Nat.le_of_ble_eq_true rfl) (Nat.le_of_ble_eq_true rfl) dX3_join_54
      have h := (if_neg hc).symm.trans h
      refine kr_iconst C (v := 2) dX3_join_29 (by decide) ?_
      refine kr_goto C 47 dX3_join_30 (by decide) ?_
      obtain ⟨v15, hv15, h⟩ := kob h
      refine kr_callV1 C (k := 1) (As := [.int (2 : Int32)]) (rest := []) (c_X3_fails hv15) gX3_join_X3_fails rfl rfl rfl (by decide +kernel) ⟨(Nat.le_of_ble_eq_true rfl), (Nat.le_of_ble_eq_true rfl)⟩ ⟨(Nat.le_of_ble_eq_true rfl), (Nat.le_of_ble_eq_true rfl)⟩ 0 rfl rfl rfl rfl (Nat.le_of_ble_eq_true rfl) dX3_join_47 ?_
      refine kr_if_eq C 55 dX3_join_50 (by decide) (fun hc => ?_) (fun hc => ?_)
      · have h := (if_pos hc).symm.trans h
        refine kr_aload_n C 0 dX3_join_55 rfl rfl ?_
        refine kr_get C inX3_join_X3 0 rfl rfl 4 (by decide) flX3_join_21 rfl rfl dX3_join_56 ?_
        refine kr_bipush C (v := 6) dX3_join_59 (by decide) ?_
        refine kr_iload_n C 1 dX3_join_61 rfl rfl ?_
        refine kr_imul C dX3_join_62 ?_
        refine kr_iload_n C 2 dX3_join_63 rfl rfl ?_
        refine kr_iadd C dX3_join_64 ?_
        refine kr_iload_n C 3 dX3_join_65 rfl rfl ?_
        refine kr_iconst C (v := -1) dX3_join_66 (by decide) ?_
        refine kr_icmp_ne C 76 dX3_join_67 (by decide) (fun hc => ?_) (fun hc => ?_)
        · have h := (if_pos hc).symm.trans h
          refine kr_sipush C (v := 9999) dX3_join_70 (by decide) ?_
          refine kr_goto C 77 dX3_join_73 (by decide) ?_
          obtain ⟨hb16, h⟩ := kif h
          refine kr_iast C 3 rfl (kin_in hb16) (yq4 _ _ _ _ _) dX3_join_77 ?_
          refine kr_aload_n C 0 dX3_join_78 rfl rfl ?_
          refine kr_iload_n C 2 dX3_join_79 rfl rfl ?_
          obtain ⟨v17, hv17, h⟩ := kob h
          refine kr_callV1 C (k := 1) (As := [.int p2]) (rest := []) (c_X3_membersOf hv17) gX3_join_X3_membersOf rfl rfl rfl (by decide +kernel) ⟨(Nat.le_of_ble_eq_true rfl), (Nat.le_of_ble_eq_true rfl)⟩ ⟨(Nat.le_of_ble_eq_true rfl), (Nat.le_of_ble_eq_true rfl)⟩ 0 rfl rfl rfl rfl (Nat.le_of_ble_eq_true rfl) dX3_join_80 ?_
          cases h
          exact kr_ret_i C (Nat.le_of_ble_eq_true rfl) (Nat.le_of_ble_eq_true rfl) dX3_join_83
        have h := (if_neg hc).symm.trans h
        refine kr_iload_n C 3 dX3_join_76 rfl rfl ?_
        obtain ⟨hb18, h⟩ := kif h
        refine kr_iast C 3 rfl (kin_in hb18) (yq4 _ _ _ _ _) dX3_join_77 ?_
        refine kr_aload_n C 0 dX3_join_78 rfl rfl ?_
        refine kr_iload_n C 2 dX3_join_79 rfl rfl ?_
        obtain ⟨v19, hv19, h⟩ := kob h
        refine kr_callV1 C (k := 1) (As := [.int p2]) (rest := []) (c_X3_membersOf hv19) gX3_join_X3_membersOf rfl rfl rfl (by decide +kernel) ⟨(Nat.le_of_ble_eq_true rfl), (Nat.le_of_ble_eq_true rfl)⟩ ⟨(Nat.le_of_ble_eq_true rfl), (Nat.le_of_ble_eq_true rfl)⟩ 0 rfl rfl rfl rfl (Nat.le_of_ble_eq_true rfl) dX3_join_80 ?_
        cases h
        exact kr_ret_i C (Nat.le_of_ble_eq_true rfl) (Nat.le_of_ble_eq_true rfl) dX3_join_83
      have h := (if_neg hc).symm.trans h
      refine kr_iconst C (v := 0) dX3_join_53 (by decide) ?_
      cases h
      exact kr_ret_i C (Nat.le_of_ble_eq_true rfl) (Nat.le_of_ble_eq_true rfl) dX3_join_54
    have h := (if_neg hc).symm.trans h
    refine kr_iconst C (v := 1) dX3_join_17 (by decide) ?_
    refine kr_goto C 47 dX3_join_18 (by decide) ?_
    obtain ⟨v20, hv20, h⟩ := kob h
    refine kr_callV1 C (k := 1) (As := [.int (1 : Int32)]) (rest := []) (c_X3_fails hv20) gX3_join_X3_fails rfl rfl rfl (by decide +kernel) ⟨(Nat.le_of_ble_eq_true rfl), (Nat.le_of_ble_eq_true rfl)⟩ ⟨(Nat.le_of_ble_eq_true rfl), (Nat.le_of_ble_eq_true rfl)⟩ 0 rfl rfl rfl rfl (Nat.le_of_ble_eq_true rfl) dX3_join_47 ?_
    refine kr_if_eq C 55 dX3_join_50 (by decide) (fun hc => ?_) (fun hc => ?_)
    · have h := (if_pos hc).symm.trans h
      refine kr_aload_n C 0 dX3_join_55 rfl rfl ?_
      refine kr_get C inX3_join_X3 0 rfl rfl 4 (by decide) flX3_join_21 rfl rfl dX3_join_56 ?_
      refine kr_bipush C (v := 6) dX3_join_59 (by decide) ?_
      refine kr_iload_n C 1 dX3_join_61 rfl rfl ?_
      refine kr_imul C dX3_join_62 ?_
      refine kr_iload_n C 2 dX3_join_63 rfl rfl ?_
      refine kr_iadd C dX3_join_64 ?_
      refine kr_iload_n C 3 dX3_join_65 rfl rfl ?_
      refine kr_iconst C (v := -1) dX3_join_66 (by decide) ?_
      refine kr_icmp_ne C 76 dX3_join_67 (by decide) (fun hc => ?_) (fun hc => ?_)
      · have h := (if_pos hc).symm.trans h
        refine kr_sipush C (v := 9999) dX3_join_70 (by decide) ?_
        refine kr_goto C 77 dX3_join_73 (by decide) ?_
        obtain ⟨hb21, h⟩ := kif h
        refine kr_iast C 3 rfl (kin_in hb21) (yq4 _ _ _ _ _) dX3_join_77 ?_
        refine kr_aload_n C 0 dX3_join_78 rfl rfl ?_
        refine kr_iload_n C 2 dX3_join_79 rfl rfl ?_
        obtain ⟨v22, hv22, h⟩ := kob h
        refine kr_callV1 C (k := 1) (As := [.int p2]) (rest := []) (c_X3_membersOf hv22) gX3_join_X3_membersOf rfl rfl rfl (by decide +kernel) ⟨(Nat.le_of_ble_eq_true rfl), (Nat.le_of_ble_eq_true rfl)⟩ ⟨(Nat.le_of_ble_eq_true rfl), (Nat.le_of_ble_eq_true rfl)⟩ 0 rfl rfl rfl rfl (Nat.le_of_ble_eq_true rfl) dX3_join_80 ?_
        cases h
        exact kr_ret_i C (Nat.le_of_ble_eq_true rfl) (Nat.le_of_ble_eq_true rfl) dX3_join_83
      have h := (if_neg hc).symm.trans h
      refine kr_iload_n C 3 dX3_join_76 rfl rfl ?_
      obtain ⟨hb23, h⟩ := kif h
      refine kr_iast C 3 rfl (kin_in hb23) (yq4 _ _ _ _ _) dX3_join_77 ?_
      refine kr_aload_n C 0 dX3_join_78 rfl rfl ?_
      refine kr_iload_n C 2 dX3_join_79 rfl rfl ?_
      obtain ⟨v24, hv24, h⟩ := kob h
      refine kr_callV1 C (k := 1) (As := [.int p2]) (rest := []) (c_X3_membersOf hv24) gX3_join_X3_membersOf rfl rfl rfl (by decide +kernel) ⟨(Nat.le_of_ble_eq_true rfl), (Nat.le_of_ble_eq_true rfl)⟩ ⟨(Nat.le_of_ble_eq_true rfl), (Nat.le_of_ble_eq_true rfl)⟩ 0 rfl rfl rfl rfl (Nat.le_of_ble_eq_true rfl) dX3_join_80 ?_
      cases h
      exact kr_ret_i C (Nat.le_of_ble_eq_true rfl) (Nat.le_of_ble_eq_true rfl) dX3_join_83
    have h := (if_neg hc).symm.trans h
    refine kr_iconst C (v := 0) dX3_join_53 (by decide) ?_
    cases h
    exact kr_ret_i C (Nat.le_of_ble_eq_true rfl) (Nat.le_of_ble_eq_true rfl) dX3_join_54
  have h := (if_neg hc).symm.trans h
  refine kr_iconst C (v := 1) dX3_join_17 (by decide) ?_
  refine kr_goto C 47 dX3_join_18 (by decide) ?_
  obtain ⟨v25, hv25, h⟩ := kob h
  refine kr_callV1 C (k := 1) (As := [.int (1 : Int32)]) (rest := []) (c_X3_fails hv25) gX3_join_X3_fails rfl rfl rfl (by decide +kernel) ⟨(Nat.le_of_ble_eq_true rfl), (Nat.le_of_ble_eq_true rfl)⟩ ⟨(Nat.le_of_ble_eq_true rfl), (Nat.le_of_ble_eq_true rfl)⟩ 0 rfl rfl rfl rfl (Nat.le_of_ble_eq_true rfl) dX3_join_47 ?_
  refine kr_if_eq C 55 dX3_join_50 (by decide) (fun hc => ?_) (fun hc => ?_)
  · have h := (if_pos hc).symm.trans h
    refine kr_aload_n C 0 dX3_join_55 rfl rfl ?_
    refine kr_get C inX3_join_X3 0 rfl rfl 4 (by decide) flX3_join_21 rfl rfl dX3_join_56 ?_
    refine kr_bipush C (v := 6) dX3_join_59 (by decide) ?_
    refine kr_iload_n C 1 dX3_join_61 rfl rfl ?_
    refine kr_imul C dX3_join_62 ?_
    refine kr_iload_n C 2 dX3_join_63 rfl rfl ?_
    refine kr_iadd C dX3_join_64 ?_
    refine kr_iload_n C 3 dX3_join_65 rfl rfl ?_
    refine kr_iconst C (v := -1) dX3_join_66 (by decide) ?_
    refine kr_icmp_ne C 76 dX3_join_67 (by decide) (fun hc => ?_) (fun hc => ?_)
    · have h := (if_pos hc).symm.trans h
      refine kr_sipush C (v := 9999) dX3_join_70 (by decide) ?_
      refine kr_goto C 77 dX3_join_73 (by decide) ?_
      obtain ⟨hb26, h⟩ := kif h
      refine kr_iast C 3 rfl (kin_in hb26) (yq4 _ _ _ _ _) dX3_join_77 ?_
      refine kr_aload_n C 0 dX3_join_78 rfl rfl ?_
      refine kr_iload_n C 2 dX3_join_79 rfl rfl ?_
      obtain ⟨v27, hv27, h⟩ := kob h
      refine kr_callV1 C (k := 1) (As := [.int p2]) (rest := []) (c_X3_membersOf hv27) gX3_join_X3_membersOf rfl rfl rfl (by decide +kernel) ⟨(Nat.le_of_ble_eq_true rfl), (Nat.le_of_ble_eq_true rfl)⟩ ⟨(Nat.le_of_ble_eq_true rfl), (Nat.le_of_ble_eq_true rfl)⟩ 0 rfl rfl rfl rfl (Nat.le_of_ble_eq_true rfl) dX3_join_80 ?_
      cases h
      exact kr_ret_i C (Nat.le_of_ble_eq_true rfl) (Nat.le_of_ble_eq_true rfl) dX3_join_83
    have h := (if_neg hc).symm.trans h
    refine kr_iload_n C 3 dX3_join_76 rfl rfl ?_
    obtain ⟨hb28, h⟩ := kif h
    refine kr_iast C 3 rfl (kin_in hb28) (yq4 _ _ _ _ _) dX3_join_77 ?_
    refine kr_aload_n C 0 dX3_join_78 rfl rfl ?_
    refine kr_iload_n C 2 dX3_join_79 rfl rfl ?_
    obtain ⟨v29, hv29, h⟩ := kob h
    refine kr_callV1 C (k := 1) (As := [.int p2]) (rest := []) (c_X3_membersOf hv29) gX3_join_X3_membersOf rfl rfl rfl (by decide +kernel) ⟨(Nat.le_of_ble_eq_true rfl), (Nat.le_of_ble_eq_true rfl)⟩ ⟨(Nat.le_of_ble_eq_true rfl), (Nat.le_of_ble_eq_true rfl)⟩ 0 rfl rfl rfl rfl (Nat.le_of_ble_eq_true rfl) dX3_join_80 ?_
    cases h
    exact kr_ret_i C (Nat.le_of_ble_eq_true rfl) (Nat.le_of_ble_eq_true rfl) dX3_join_83
  have h := (if_neg hc).symm.trans h
  refine kr_iconst C (v := 0) dX3_join_53 (by decide) ?_
  cases h
  exact kr_ret_i C (Nat.le_of_ble_eq_true rfl) (Nat.le_of_ble_eq_true rfl) dX3_join_54
theorem flX3_keeperOf_30 : Cond.fieldLink RX3 30 "FolderKeeperModel" "owners" "[I" ∈ wsX3_keeperOf := by decide +kernel
theorem inX3_keeperOf_X3 : ∀ w ∈ wsX30, w ∈ wsX3_keeperOf := fun _ h => List.mem_cons_of_mem _ (List.mem_append_left _ (List.mem_append_right _ h))
theorem flX3_keeperOf_33 : Cond.fieldLink RX3 33 "FolderKeeperModel" "parents" "[I" ∈ wsX3_keeperOf := by decide +kernel
theorem flX3_keeperOf_13 : Cond.fieldLink RX3 13 "FolderKeeperModel" "haveLeft" "[Z" ∈ wsX3_keeperOf := by decide +kernel
theorem flX3_keeperOf_39 : Cond.fieldLink RX3 39 "FolderKeeperModel" "areHeld" "[Z" ∈ wsX3_keeperOf := by decide +kernel
set_option maxHeartbeats 4000000 in
set_option maxRecDepth 100000 in
theorem lc_X3_keeperOf_L28 {K : kEnv} {l : Launch} {D : va_G} {cy : Nat → ClassId} {A : Nat → Prop} {a : Nat → Nat} {Z : va_W} {S : kSt} {r : (Int32 × kSt)} (C : kC K D cy A 4 cX3_keeperOf RX3 wsX3_keeperOf (some .int)) : ∀ (n : Nat) (x2 x3 : Int32), f_X3_keeperOf_L28 n S x2 x3 = some r → kG K l D A ({ frames := 1, cells := 0, slots := 0, locals := 22 } : Room) 4 (kEnd K D cy A (yw a cy r.2 Z) (some (.int r.1)) 0 0) (yw a cy S Z) 0 0 28 [(0, .ref (a 0)), (2, .int (x2)), (3, .int (x3))] [] := by
  intro n
  induction n with
  | zero => intro x2 x3 h; rw [f_X3_keeperOf_L28] at h; cases h
  | succ n ih =>
    intro x2 x3 h
    rw [f_X3_keeperOf_L28] at h
    refine kr_iload_n C 2 dX3_keeperOf_28 rfl rfl ?_
    refine kr_if_lt C 61 dX3_keeperOf_29 (by decide) (fun hc => ?_) (fun hc => ?_)
    · have h := (if_pos hc).symm.trans h
      refine kr_iload_n C 2 dX3_keeperOf_61 rfl rfl ?_
      refine kr_if_lt C 89 dX3_keeperOf_62 (by decide) (fun hc => ?_) (fun hc => ?_)
      · have h := (if_pos hc).symm.trans h
        refine kr_iconst C (v := 0) dX3_keeperOf_89 (by decide) ?_
        refine kr_goto C 99 dX3_keeperOf_90 (by decide) ?_
        cases h
        exact kr_ret_i C (Nat.le_of_ble_eq_true rfl) (Nat.le_of_ble_eq_true rfl) dX3_keeperOf_99
      have h := (if_neg hc).symm.trans h
      refine kr_aload_n C 0 dX3_keeperOf_65 rfl rfl ?_
      refine kr_get C inX3_keeperOf_X3 0 rfl rfl 8 (by decide) flX3_keeperOf_30 rfl rfl dX3_keeperOf_66 ?_
      refine kr_iload_n C 2 dX3_keeperOf_69 rfl rfl ?_
      obtain ⟨hb4, h⟩ := kif h
      refine kr_iald C 6 rfl (kin_in hb4) dX3_keeperOf_70 ?_
      refine kr_iload_n C 1 dX3_keeperOf_71 rfl rfl ?_
      refine kr_icmp_eq C 89 dX3_keeperOf_72 (by decide) (fun hc => ?_) (fun hc => ?_)
      · have h := (if_pos hc).symm.trans h
        refine kr_iconst C (v := 0) dX3_keeperOf_89 (by decide) ?_
        refine kr_goto C 99 dX3_keeperOf_90 (by decide) ?_
        cases h
        exact kr_ret_i C (Nat.le_of_ble_eq_true rfl) (Nat.le_of_ble_eq_true rfl) dX3_keeperOf_99
      have h := (if_neg hc).symm.trans h
      refine kr_aload_n C 0 dX3_keeperOf_75 rfl rfl ?_
      refine kr_get C inX3_keeperOf_X3 0 rfl rfl 1 (by decide) flX3_keeperOf_13 rfl rfl dX3_keeperOf_76 ?_
      refine kr_aload_n C 0 dX3_keeperOf_79 rfl rfl ?_
      refine kr_get C inX3_keeperOf_X3 0 rfl rfl 8 (by decide) flX3_keeperOf_30 rfl rfl dX3_keeperOf_80 ?_
      refine kr_iload_n C 2 dX3_keeperOf_83 rfl rfl ?_
      obtain ⟨hb5, h⟩ := kif h
      refine kr_iald C 6 rfl (kin_in hb5) dX3_keeperOf_84 ?_
      obtain ⟨hb6, h⟩ := kif h
      refine kr_zald C 1 rfl (kin_in hb6) dX3_keeperOf_85 ?_
      refine kr_if_eq C 93 dX3_keeperOf_86 (by decide) (fun hc => ?_) (fun hc => ?_)
      · have h := (if_pos hc).symm.trans h
        refine kr_aload_n C 0 dX3_keeperOf_93 rfl rfl ?_
        refine kr_get C inX3_keeperOf_X3 0 rfl rfl 8 (by decide) flX3_keeperOf_30 rfl rfl dX3_keeperOf_94 ?_
        refine kr_iload_n C 2 dX3_keeperOf_97 rfl rfl ?_
        obtain ⟨hb7, h⟩ := kif h
        refine kr_iald C 6 rfl (kin_in hb7) dX3_keeperOf_98 ?_
        cases h
        exact kr_ret_i C (Nat.le_of_ble_eq_true rfl) (Nat.le_of_ble_eq_true rfl) dX3_keeperOf_99
      have h := (if_neg hc).symm.trans h
      refine kr_iconst C (v := 0) dX3_keeperOf_89 (by decide) ?_
      refine kr_goto C 99 dX3_keeperOf_90 (by decide) ?_
      cases h
      exact kr_ret_i C (Nat.le_of_ble_eq_true rfl) (Nat.le_of_ble_eq_true rfl) dX3_keeperOf_99
    have h := (if_neg hc).symm.trans h
    refine kr_aload_n C 0 dX3_keeperOf_32 rfl rfl ?_
    refine kr_get C inX3_keeperOf_X3 0 rfl rfl 8 (by decide) flX3_keeperOf_30 rfl rfl dX3_keeperOf_33 ?_
    refine kr_iload_n C 2 dX3_keeperOf_36 rfl rfl ?_
    obtain ⟨hb8, h⟩ := kif h
    refine kr_iald C 6 rfl (kin_in hb8) dX3_keeperOf_37 ?_
    refine kr_iload_n C 1 dX3_keeperOf_38 rfl rfl ?_
    refine kr_icmp_ne C 61 dX3_keeperOf_39 (by decide) (fun hc => ?_) (fun hc => ?_)
    · have h := (if_pos hc).symm.trans h
      refine kr_aload_n C 0 dX3_keeperOf_42 rfl rfl ?_
      refine kr_get C inX3_keeperOf_X3 0 rfl rfl 11 (by decide) flX3_keeperOf_39 rfl rfl dX3_keeperOf_43 ?_
      refine kr_iload_n C 2 dX3_keeperOf_46 rfl rfl ?_
      obtain ⟨hb9, h⟩ := kif h
      refine kr_zald C 9 rfl (kin_in hb9) dX3_keeperOf_47 ?_
      refine kr_if_ne C 61 dX3_keeperOf_48 (by decide) (fun hc => ?_) (fun hc => ?_)
      · have h := (if_pos hc).symm.trans h
        refine kr_aload_n C 0 dX3_keeperOf_51 rfl rfl ?_
        refine kr_get C inX3_keeperOf_X3 0 rfl rfl 9 (by decide) flX3_keeperOf_33 rfl rfl dX3_keeperOf_52 ?_
        refine kr_iload_n C 2 dX3_keeperOf_55 rfl rfl ?_
        obtain ⟨hb10, h⟩ := kif h
        refine kr_iald C 7 rfl (kin_in hb10) dX3_keeperOf_56 ?_
        refine kr_istore_n C [1, 2, 0] dX3_keeperOf_57 rfl (by decide) rfl ?_
        refine kr_goto C 28 dX3_keeperOf_58 (by decide) ?_
        exact ih _ _ h
      have h := (if_neg hc).symm.trans h
      refine kr_iload_n C 2 dX3_keeperOf_61 rfl rfl ?_
      refine kr_if_lt C 89 dX3_keeperOf_62 (by decide) (fun hc => ?_) (fun hc => ?_)
      · have h := (if_pos hc).symm.trans h
        refine kr_iconst C (v := 0) dX3_keeperOf_89 (by decide) ?_
        refine kr_goto C 99 dX3_keeperOf_90 (by decide) ?_
        cases h
        exact kr_ret_i C (Nat.le_of_ble_eq_true rfl) (Nat.le_of_ble_eq_true rfl) dX3_keeperOf_99
      have h := (if_neg hc).symm.trans h
      refine kr_aload_n C 0 dX3_keeperOf_65 rfl rfl ?_
      refine kr_get C inX3_keeperOf_X3 0 rfl rfl 8 (by decide) flX3_keeperOf_30 rfl rfl dX3_keeperOf_66 ?_
      refine kr_iload_n C 2 dX3_keeperOf_69 rfl rfl ?_
      obtain ⟨hb11, h⟩ := kif h
      refine kr_iald C 6 rfl (kin_in hb11) dX3_keeperOf_70 ?_
      refine kr_iload_n C 1 dX3_keeperOf_71 rfl rfl ?_
      refine kr_icmp_eq C 89 dX3_keeperOf_72 (by decide) (fun hc => ?_) (fun hc => ?_)
      · have h := (if_pos hc).symm.trans h
        refine kr_iconst C (v := 0) dX3_keeperOf_89 (by decide) ?_
        refine kr_goto C 99 dX3_keeperOf_90 (by decide) ?_
        cases h
        exact kr_ret_i C (Nat.le_of_ble_eq_true rfl) (Nat.le_of_ble_eq_true rfl) dX3_keeperOf_99
      have h := (if_neg hc).symm.trans h
      refine kr_aload_n C 0 dX3_keeperOf_75 rfl rfl ?_
      refine kr_get C inX3_keeperOf_X3 0 rfl rfl 1 (by decide) flX3_keeperOf_13 rfl rfl dX3_keeperOf_76 ?_
      refine kr_aload_n C 0 dX3_keeperOf_79 rfl rfl ?_
      refine kr_get C inX3_keeperOf_X3 0 rfl rfl 8 (by decide) flX3_keeperOf_30 rfl rfl dX3_keeperOf_80 ?_
      refine kr_iload_n C 2 dX3_keeperOf_83 rfl rfl ?_
      obtain ⟨hb12, h⟩ := kif h
      refine kr_iald C 6 rfl (kin_in hb12) dX3_keeperOf_84 ?_
      obtain ⟨hb13, h⟩ := kif h
      refine kr_zald C 1 rfl (kin_in hb13) dX3_keeperOf_85 ?_
      refine kr_if_eq C 93 dX3_keeperOf_86 (by decide) (fun hc => ?_) (fun hc => ?_)
      · have h := (if_pos hc).symm.trans h
        refine kr_aload_n C 0 dX3_keeperOf_93 rfl rfl ?_
        refine kr_get C inX3_keeperOf_X3 0 rfl rfl 8 (by decide) flX3_keeperOf_30 rfl rfl dX3_keeperOf_94 ?_
        refine kr_iload_n C 2 dX3_keeperOf_97 rfl rfl ?_
        obtain ⟨hb14, h⟩ := kif h
        refine kr_iald C 6 rfl (kin_in hb14) dX3_keeperOf_98 ?_
        cases h
        exact kr_ret_i C (Nat.le_of_ble_eq_true rfl) (Nat.le_of_ble_eq_true rfl) dX3_keeperOf_99
      have h := (if_neg hc).symm.trans h
      refine kr_iconst C (v := 0) dX3_keeperOf_89 (by decide) ?_
      refine kr_goto C 99 dX3_keeperOf_90 (by decide) ?_
      cases h
      exact kr_ret_i C (Nat.le_of_ble_eq_true rfl) (Nat.le_of_ble_eq_true rfl) dX3_keeperOf_99
    have h := (if_neg hc).symm.trans h
    refine kr_iload_n C 2 dX3_keeperOf_61 rfl rfl ?_
    refine kr_if_lt C 89 dX3_keeperOf_62 (by decide) (fun hc => ?_) (fun hc => ?_)
    · have h := (if_pos hc).symm.trans h
      refine kr_iconst C (v := 0) dX3_keeperOf_89 (by decide) ?_
      refine kr_goto C 99 dX3_keeperOf_90 (by decide) ?_
      cases h
      exact kr_ret_i C (Nat.le_of_ble_eq_true rfl) (Nat.le_of_ble_eq_true rfl) dX3_keeperOf_99
    have h := (if_neg hc).symm.trans h
    refine kr_aload_n C 0 dX3_keeperOf_65 rfl rfl ?_
    refine kr_get C inX3_keeperOf_X3 0 rfl rfl 8 (by decide) flX3_keeperOf_30 rfl rfl dX3_keeperOf_66 ?_
    refine kr_iload_n C 2 dX3_keeperOf_69 rfl rfl ?_
    obtain ⟨hb15, h⟩ := kif h
    refine kr_iald C 6 rfl (kin_in hb15) dX3_keeperOf_70 ?_
    refine kr_iload_n C 1 dX3_keeperOf_71 rfl rfl ?_
    refine kr_icmp_eq C 89 dX3_keeperOf_72 (by decide) (fun hc => ?_) (fun hc => ?_)
    · have h := (if_pos hc).symm.trans h
      refine kr_iconst C (v := 0) dX3_keeperOf_89 (by decide) ?_
      refine kr_goto C 99 dX3_keeperOf_90 (by decide) ?_
      cases h
      exact kr_ret_i C (Nat.le_of_ble_eq_true rfl) (Nat.le_of_ble_eq_true rfl) dX3_keeperOf_99
    have h := (if_neg hc).symm.trans h
    refine kr_aload_n C 0 dX3_keeperOf_75 rfl rfl ?_
    refine kr_get C inX3_keeperOf_X3 0 rfl rfl 1 (by decide) flX3_keeperOf_13 rfl rfl dX3_keeperOf_76 ?_
    refine kr_aload_n C 0 dX3_keeperOf_79 rfl rfl ?_
    refine kr_get C inX3_keeperOf_X3 0 rfl rfl 8 (by decide) flX3_keeperOf_30 rfl rfl dX3_keeperOf_80 ?_
    refine kr_iload_n C 2 dX3_keeperOf_83 rfl rfl ?_
    obtain ⟨hb16, h⟩ := kif h
    refine kr_iald C 6 rfl (kin_in hb16) dX3_keeperOf_84 ?_
    obtain ⟨hb17, h⟩ := kif h
    refine kr_zald C 1 rfl (kin_in hb17) dX3_keeperOf_85 ?_
    refine kr_if_eq C 93 dX3_keeperOf_86 (by decide) (fun hc => ?_) (fun hc => ?_)
    · have h := (if_pos hc).symm.trans h
      refine kr_aload_n C 0 dX3_keeperOf_93 rfl rfl ?_
      refine kr_get C inX3_keeperOf_X3 0 rfl rfl 8 (by decide) flX3_keeperOf_30 rfl rfl dX3_keeperOf_94 ?_
      refine kr_iload_n C 2 dX3_keeperOf_97 rfl rfl ?_
      obtain ⟨hb18, h⟩ := kif h
      refine kr_iald C 6 rfl (kin_in hb18) dX3_keeperOf_98 ?_
      cases h
      exact kr_ret_i C (Nat.le_of_ble_eq_true rfl) (Nat.le_of_ble_eq_true rfl) dX3_keeperOf_99
    have h := (if_neg hc).symm.trans h
    refine kr_iconst C (v := 0) dX3_keeperOf_89 (by decide) ?_
    refine kr_goto C 99 dX3_keeperOf_90 (by decide) ?_
    cases h
    exact kr_ret_i C (Nat.le_of_ble_eq_true rfl) (Nat.le_of_ble_eq_true rfl) dX3_keeperOf_99
set_option maxHeartbeats 4000000 in
set_option maxRecDepth 100000 in
theorem c_X3_keeperOf {l : Launch} {D : va_G} {cy : Nat → ClassId} {a : Nat → Nat} {Z : va_W} {S : kSt} {p1 : Int32} {r : (Int32 × kSt)} (h : f_X3_keeperOf S p1 = some r) : kM l yX3_keeperOf wsX3_keeperOf ({ frames := 1, cells := 0, slots := 0, locals := 22 } : Room) D cy (yw a cy S Z) [.ref (a 0), .int p1] (yw a cy r.2 Z) (some (.int r.1)) 0 0 := by
  rw [f_X3_keeperOf] at h
  refine kM.start (L := [(0, .ref (a 0)), (1, .int (p1))]) rfl rfl rfl (Nat.le_of_ble_eq_true rfl) rfl (fun K A C => ?_)
  refine kr_aload_n C 0 dX3_keeperOf_0 rfl rfl ?_
  refine kr_get C inX3_keeperOf_X3 0 rfl rfl 8 (by decide) flX3_keeperOf_30 rfl rfl dX3_keeperOf_1 ?_
  refine kr_iload_n C 1 dX3_keeperOf_4 rfl rfl ?_
  obtain ⟨hb1, h⟩ := kif h
  refine kr_iald C 6 rfl (kin_in hb1) dX3_keeperOf_5 ?_
  refine kr_istore_n C [1, 2, 0] dX3_keeperOf_6 rfl (by decide) rfl ?_
  refine kr_aload_n C 0 dX3_keeperOf_7 rfl rfl ?_
  refine kr_iload_n C 2 dX3_keeperOf_8 rfl rfl ?_
  obtain ⟨v2, hv2, h⟩ := kob h
  refine kr_callV1 C (k := 1) (As := [.int (S.2 8 p1.toNatClampNeg)]) (rest := []) (c_X3_heirOf hv2) gX3_keeperOf_X3_heirOf rfl rfl rfl (by decide +kernel) ⟨(Nat.le_of_ble_eq_true rfl), (Nat.le_of_ble_eq_true rfl)⟩ ⟨(Nat.le_of_ble_eq_true rfl), (Nat.le_of_ble_eq_true rfl)⟩ 0 rfl rfl rfl rfl (Nat.le_of_ble_eq_true rfl) dX3_keeperOf_9 ?_
  refine kr_if_lt C 21 dX3_keeperOf_12 (by decide) (fun hc => ?_) (fun hc => ?_)
  · have h := (if_pos hc).symm.trans h
    refine kr_aload_n C 0 dX3_keeperOf_21 rfl rfl ?_
    refine kr_get C inX3_keeperOf_X3 0 rfl rfl 9 (by decide) flX3_keeperOf_33 rfl rfl dX3_keeperOf_22 ?_
    refine kr_iload_n C 1 dX3_keeperOf_25 rfl rfl ?_
    obtain ⟨hb3, h⟩ := kif h
    refine kr_iald C 7 rfl (kin_in hb3) dX3_keeperOf_26 ?_
    refine kr_istore_n C [1, 2, 3, 0] dX3_keeperOf_27 rfl (by decide) rfl ?_
    refine kr_sub [0, 2, 3] rfl ?_
    exact lc_X3_keeperOf_L28 C _ _ _ h
  have h := (if_neg hc).symm.trans h
  refine kr_aload_n C 0 dX3_keeperOf_15 rfl rfl ?_
  refine kr_iload_n C 2 dX3_keeperOf_16 rfl rfl ?_
  obtain ⟨v19, hv19, h⟩ := kob h
  refine kr_callV1 C (k := 1) (As := [.int (S.2 8 p1.toNatClampNeg)]) (rest := []) (c_X3_heirOf hv19) gX3_keeperOf_X3_heirOf rfl rfl rfl (by decide +kernel) ⟨(Nat.le_of_ble_eq_true rfl), (Nat.le_of_ble_eq_true rfl)⟩ ⟨(Nat.le_of_ble_eq_true rfl), (Nat.le_of_ble_eq_true rfl)⟩ 0 rfl rfl rfl rfl (Nat.le_of_ble_eq_true rfl) dX3_keeperOf_17 ?_
  cases h
  exact kr_ret_i C (Nat.le_of_ble_eq_true rfl) (Nat.le_of_ble_eq_true rfl) dX3_keeperOf_20
set_option maxHeartbeats 4000000 in
set_option maxRecDepth 100000 in
theorem c_X3_keeper {l : Launch} {D : va_G} {cy : Nat → ClassId} {a : Nat → Nat} {Z : va_W} {S : kSt} {p1 : Int32} {r : (Int32 × kSt)} (h : f_X3_keeper S p1 = some r) : kM l yX3_keeper wsX3_keeper ({ frames := 2, cells := 0, slots := 0, locals := 45 } : Room) D cy (yw a cy S Z) [.ref (a 0), .int p1] (yw a cy r.2 Z) (some (.int r.1)) 0 0 := by
  rw [f_X3_keeper] at h
  refine kM.start (L := [(0, .ref (a 0)), (1, .int (p1))]) rfl rfl rfl (Nat.le_of_ble_eq_true rfl) rfl (fun K A C => ?_)
  refine kr_aload_n C 0 dX3_keeper_0 rfl rfl ?_
  refine kr_aload_n C 0 dX3_keeper_1 rfl rfl ?_
  refine kr_iload_n C 1 dX3_keeper_2 rfl rfl ?_
  obtain ⟨v1, hv1, h⟩ := kob h
  refine kr_callV1 C (k := 1) (As := [.int p1]) (rest := [.ref (a 0)]) (c_X3_isNoFolder hv1) gX3_keeper_X3_isNoFolder rfl rfl rfl (by decide +kernel) ⟨(Nat.le_of_ble_eq_true rfl), (Nat.le_of_ble_eq_true rfl)⟩ ⟨(Nat.le_of_ble_eq_true rfl), (Nat.le_of_ble_eq_true rfl)⟩ 0 rfl rfl rfl rfl (Nat.le_of_ble_eq_true rfl) dX3_keeper_3 ?_
  refine kr_if_eq C 13 dX3_keeper_6 (by decide) (fun hc => ?_) (fun hc => ?_)
  · have h := (if_pos hc).symm.trans h
    refine kr_iconst C (v := 0) dX3_keeper_13 (by decide) ?_
    obtain ⟨v2, hv2, h⟩ := kob h
    refine kr_callV1 C (k := 1) (As := [.int (0 : Int32)]) (rest := []) (c_X3_fails hv2) gX3_keeper_X3_fails rfl rfl rfl (by decide +kernel) ⟨(Nat.le_of_ble_eq_true rfl), (Nat.le_of_ble_eq_true rfl)⟩ ⟨(Nat.le_of_ble_eq_true rfl), (Nat.le_of_ble_eq_true rfl)⟩ 0 rfl rfl rfl rfl (Nat.le_of_ble_eq_true rfl) dX3_keeper_14 ?_
    refine kr_if_eq C 24 dX3_keeper_17 (by decide) (fun hc => ?_) (fun hc => ?_)
    · have h := (if_pos hc).symm.trans h
      refine kr_aload_n C 0 dX3_keeper_24 rfl rfl ?_
      refine kr_iload_n C 1 dX3_keeper_25 rfl rfl ?_
      obtain ⟨v3, hv3, h⟩ := kob h
      refine kr_callV1 C (k := 1) (As := [.int p1]) (rest := []) (c_X3_keeperOf hv3) gX3_keeper_X3_keeperOf rfl rfl rfl (by decide +kernel) ⟨(Nat.le_of_ble_eq_true rfl), (Nat.le_of_ble_eq_true rfl)⟩ ⟨(Nat.le_of_ble_eq_true rfl), (Nat.le_of_ble_eq_true rfl)⟩ 0 rfl rfl rfl rfl (Nat.le_of_ble_eq_true rfl) dX3_keeper_26 ?_
      cases h
      exact kr_ret_i C (Nat.le_of_ble_eq_true rfl) (Nat.le_of_ble_eq_true rfl) dX3_keeper_29
    have h := (if_neg hc).symm.trans h
    refine kr_iconst C (v := 0) dX3_keeper_20 (by decide) ?_
    refine kr_goto C 29 dX3_keeper_21 (by decide) ?_
    cases h
    exact kr_ret_i C (Nat.le_of_ble_eq_true rfl) (Nat.le_of_ble_eq_true rfl) dX3_keeper_29
  have h := (if_neg hc).symm.trans h
  refine kr_iconst C (v := 1) dX3_keeper_9 (by decide) ?_
  refine kr_goto C 14 dX3_keeper_10 (by decide) ?_
  obtain ⟨v4, hv4, h⟩ := kob h
  refine kr_callV1 C (k := 1) (As := [.int (1 : Int32)]) (rest := []) (c_X3_fails hv4) gX3_keeper_X3_fails rfl rfl rfl (by decide +kernel) ⟨(Nat.le_of_ble_eq_true rfl), (Nat.le_of_ble_eq_true rfl)⟩ ⟨(Nat.le_of_ble_eq_true rfl), (Nat.le_of_ble_eq_true rfl)⟩ 0 rfl rfl rfl rfl (Nat.le_of_ble_eq_true rfl) dX3_keeper_14 ?_
  refine kr_if_eq C 24 dX3_keeper_17 (by decide) (fun hc => ?_) (fun hc => ?_)
  · have h := (if_pos hc).symm.trans h
    refine kr_aload_n C 0 dX3_keeper_24 rfl rfl ?_
    refine kr_iload_n C 1 dX3_keeper_25 rfl rfl ?_
    obtain ⟨v5, hv5, h⟩ := kob h
    refine kr_callV1 C (k := 1) (As := [.int p1]) (rest := []) (c_X3_keeperOf hv5) gX3_keeper_X3_keeperOf rfl rfl rfl (by decide +kernel) ⟨(Nat.le_of_ble_eq_true rfl), (Nat.le_of_ble_eq_true rfl)⟩ ⟨(Nat.le_of_ble_eq_true rfl), (Nat.le_of_ble_eq_true rfl)⟩ 0 rfl rfl rfl rfl (Nat.le_of_ble_eq_true rfl) dX3_keeper_26 ?_
    cases h
    exact kr_ret_i C (Nat.le_of_ble_eq_true rfl) (Nat.le_of_ble_eq_true rfl) dX3_keeper_29
  have h := (if_neg hc).symm.trans h
  refine kr_iconst C (v := 0) dX3_keeper_20 (by decide) ?_
  refine kr_goto C 29 dX3_keeper_21 (by decide) ?_
  cases h
  exact kr_ret_i C (Nat.le_of_ble_eq_true rfl) (Nat.le_of_ble_eq_true rfl) dX3_keeper_29
theorem flX3_leave_13 : Cond.fieldLink RX3 13 "FolderKeeperModel" "haveLeft" "[Z" ∈ wsX3_leave := by decide +kernel
theorem inX3_leave_X3 : ∀ w ∈ wsX30, w ∈ wsX3_leave := fun _ h => List.mem_cons_of_mem _ (List.mem_append_left _ (List.mem_append_right _ h))
theorem flX3_leave_64 : Cond.fieldLink RX3 64 "FolderKeeperModel" "folders" "I" ∈ wsX3_leave := by decide +kernel
theorem flX3_leave_30 : Cond.fieldLink RX3 30 "FolderKeeperModel" "owners" "[I" ∈ wsX3_leave := by decide +kernel
theorem flX3_leave_39 : Cond.fieldLink RX3 39 "FolderKeeperModel" "areHeld" "[Z" ∈ wsX3_leave := by decide +kernel
set_option maxHeartbeats 4000000 in
set_option maxRecDepth 100000 in
theorem lc_X3_leave_L54 {K : kEnv} {l : Launch} {D : va_G} {cy : Nat → ClassId} {A : Nat → Prop} {a : Nat → Nat} {Z : va_W} {r : (Int32 × kSt)} (C : kC K D cy A 4 cX3_leave RX3 wsX3_leave (some .int)) : ∀ (n : Nat) (S : kSt) (x1 x2 x3 : Int32), f_X3_leave_L54 n S x1 x2 x3 = some r → kG K l D A ({ frames := 2, cells := 0, slots := 0, locals := 45 } : Room) 4 (kEnd K D cy A (yw a cy r.2 Z) (some (.int r.1)) 0 0) (yw a cy S Z) 0 0 54 [(0, .ref (a 0)), (1, .int (x1)), (2, .int (x2)), (3, .int (x3))] [] := by
  intro n
  induction n with
  | zero => intro S x1 x2 x3 h; rw [f_X3_leave_L54] at h; cases h
  | succ n ih =>
    intro S x1 x2 x3 h
    rw [f_X3_leave_L54] at h
    refine kr_iload_n C 3 dX3_leave_54 rfl rfl ?_
    refine kr_aload_n C 0 dX3_leave_55 rfl rfl ?_
    refine kr_get C inX3_leave_X3 0 rfl rfl 7 (by decide) flX3_leave_64 rfl rfl dX3_leave_56 ?_
    refine kr_icmp_ge C 104 dX3_leave_59 (by decide) (fun hc => ?_) (fun hc => ?_)
    · have h := (if_pos hc).symm.trans h
      refine kr_iload_n C 2 dX3_leave_104 rfl rfl ?_
      cases h
      exact kr_ret_i C (Nat.le_of_ble_eq_true rfl) (Nat.le_of_ble_eq_true rfl) dX3_leave_105
    have h := (if_neg hc).symm.trans h
    refine kr_aload_n C 0 dX3_leave_62 rfl rfl ?_
    refine kr_get C inX3_leave_X3 0 rfl rfl 8 (by decide) flX3_leave_30 rfl rfl dX3_leave_63 ?_
    refine kr_iload_n C 3 dX3_leave_66 rfl rfl ?_
    obtain ⟨hb4, h⟩ := kif h
    refine kr_iald C 6 rfl (kin_in hb4) dX3_leave_67 ?_
    refine kr_iload_n C 1 dX3_leave_68 rfl rfl ?_
    refine kr_icmp_ne C 98 dX3_leave_69 (by decide) (fun hc => ?_) (fun hc => ?_)
    · have h := (if_pos hc).symm.trans h
      refine kr_aload_n C 0 dX3_leave_72 rfl rfl ?_
      refine kr_get C inX3_leave_X3 0 rfl rfl 11 (by decide) flX3_leave_39 rfl rfl dX3_leave_73 ?_
      refine kr_iload_n C 3 dX3_leave_76 rfl rfl ?_
      obtain ⟨hb5, h⟩ := kif h
      refine kr_zald C 9 rfl (kin_in hb5) dX3_leave_77 ?_
      refine kr_if_eq C 84 dX3_leave_78 (by decide) (fun hc => ?_) (fun hc => ?_)
      · have h := (if_pos hc).symm.trans h
        refine kr_aload_n C 0 dX3_leave_84 rfl rfl ?_
        refine kr_get C inX3_leave_X3 0 rfl rfl 8 (by decide) flX3_leave_30 rfl rfl dX3_leave_85 ?_
        refine kr_iload_n C 3 dX3_leave_88 rfl rfl ?_
        refine kr_aload_n C 0 dX3_leave_89 rfl rfl ?_
        refine kr_iload_n C 3 dX3_leave_90 rfl rfl ?_
        obtain ⟨v6, hv6, h⟩ := kob h
        refine kr_callV1 C (k := 1) (As := [.int x3]) (rest := [.int (x3), .ref (a 8)]) (c_X3_keeperOf hv6) gX3_leave_X3_keeperOf rfl rfl rfl (by decide +kernel) ⟨(Nat.le_of_ble_eq_true rfl), (Nat.le_of_ble_eq_true rfl)⟩ ⟨(Nat.le_of_ble_eq_true rfl), (Nat.le_of_ble_eq_true rfl)⟩ 0 rfl rfl rfl rfl (Nat.le_of_ble_eq_true rfl) dX3_leave_91 ?_
        obtain ⟨hb7, h⟩ := kif h
        refine kr_iast C 6 rfl (kin_in hb7) (yq8 _ _ _ _ _) dX3_leave_94 ?_
        refine kr_iinc C (v := (x2 + 1)) 2 [1, 2, 0, 3] dX3_leave_95 rfl rfl (by decide) rfl ?_
        refine kr_iinc C (v := (x3 + 1)) 3 [1, 2, 3, 0] dX3_leave_98 rfl rfl (by decide) rfl ?_
        refine kr_goto C 54 dX3_leave_101 (by decide) ?_
        exact ih _ _ _ _ h
      have h := (if_neg hc).symm.trans h
      refine kr_goto C 98 dX3_leave_81 (by decide) ?_
      refine kr_iinc C (v := (x3 + 1)) 3 [1, 2, 3, 0] dX3_leave_98 rfl rfl (by decide) rfl ?_
      refine kr_goto C 54 dX3_leave_101 (by decide) ?_
      exact ih _ _ _ _ h
    have h := (if_neg hc).symm.trans h
    refine kr_iinc C (v := (x3 + 1)) 3 [1, 2, 3, 0] dX3_leave_98 rfl rfl (by decide) rfl ?_
    refine kr_goto C 54 dX3_leave_101 (by decide) ?_
    exact ih _ _ _ _ h
set_option maxHeartbeats 4000000 in
set_option maxRecDepth 100000 in
theorem c_X3_leave {l : Launch} {D : va_G} {cy : Nat → ClassId} {a : Nat → Nat} {Z : va_W} {S : kSt} {p1 : Int32} {r : (Int32 × kSt)} (h : f_X3_leave S p1 = some r) : kM l yX3_leave wsX3_leave ({ frames := 2, cells := 0, slots := 0, locals := 45 } : Room) D cy (yw a cy S Z) [.ref (a 0), .int p1] (yw a cy r.2 Z) (some (.int r.1)) 0 0 := by
  rw [f_X3_leave] at h
  refine kM.start (L := [(0, .ref (a 0)), (1, .int (p1))]) rfl rfl rfl (Nat.le_of_ble_eq_true rfl) rfl (fun K A C => ?_)
  refine kr_aload_n C 0 dX3_leave_0 rfl rfl ?_
  refine kr_aload_n C 0 dX3_leave_1 rfl rfl ?_
  refine kr_iload_n C 1 dX3_leave_2 rfl rfl ?_
  obtain ⟨v1, hv1, h⟩ := kob h
  refine kr_callV1 C (k := 1) (As := [.int p1]) (rest := [.ref (a 0)]) (c_X3_isNoAccount hv1) gX3_leave_X3_isNoAccount rfl rfl rfl (by decide +kernel) ⟨(Nat.le_of_ble_eq_true rfl), (Nat.le_of_ble_eq_true rfl)⟩ ⟨(Nat.le_of_ble_eq_true rfl), (Nat.le_of_ble_eq_true rfl)⟩ 0 rfl rfl rfl rfl (Nat.le_of_ble_eq_true rfl) dX3_leave_3 ?_
  refine kr_if_eq C 13 dX3_leave_6 (by decide) (fun hc => ?_) (fun hc => ?_)
  · have h := (if_pos hc).symm.trans h
    refine kr_iload_n C 1 dX3_leave_13 rfl rfl ?_
    refine kr_if_ne C 21 dX3_leave_14 (by decide) (fun hc => ?_) (fun hc => ?_)
    · have h := (if_pos hc).symm.trans h
      refine kr_iconst C (v := 2) dX3_leave_17 (by decide) ?_
      refine kr_goto C 35 dX3_leave_18 (by decide) ?_
      obtain ⟨v2, hv2, h⟩ := kob h
      refine kr_callV1 C (k := 1) (As := [.int (2 : Int32)]) (rest := []) (c_X3_fails hv2) gX3_leave_X3_fails rfl rfl rfl (by decide +kernel) ⟨(Nat.le_of_ble_eq_true rfl), (Nat.le_of_ble_eq_true rfl)⟩ ⟨(Nat.le_of_ble_eq_true rfl), (Nat.le_of_ble_eq_true rfl)⟩ 0 rfl rfl rfl rfl (Nat.le_of_ble_eq_true rfl) dX3_leave_35 ?_
      refine kr_if_eq C 43 dX3_leave_38 (by decide) (fun hc => ?_) (fun hc => ?_)
      · have h := (if_pos hc).symm.trans h
        refine kr_aload_n C 0 dX3_leave_43 rfl rfl ?_
        refine kr_get C inX3_leave_X3 0 rfl rfl 1 (by decide) flX3_leave_13 rfl rfl dX3_leave_44 ?_
        refine kr_iload_n C 1 dX3_leave_47 rfl rfl ?_
        refine kr_iconst C (v := 1) dX3_leave_48 (by decide) ?_
        obtain ⟨hb3, h⟩ := kif h
        refine kr_zast C 1 rfl (kin_in hb3) (yq1 _ _ _ _ _) dX3_leave_49 ?_
        refine kr_iconst C (v := 0) dX3_leave_50 (by decide) ?_
        refine kr_istore_n C [1, 2, 0] dX3_leave_51 rfl (by decide) rfl ?_
        refine kr_iconst C (v := 0) dX3_leave_52 (by decide) ?_
        refine kr_istore_n C [1, 2, 3, 0] dX3_leave_53 rfl (by decide) rfl ?_
        exact lc_X3_leave_L54 C _ _ _ _ _ h
      have h := (if_neg hc).symm.trans h
      refine kr_iconst C (v := 0) dX3_leave_41 (by decide) ?_
      cases h
      exact kr_ret_i C (Nat.le_of_ble_eq_true rfl) (Nat.le_of_ble_eq_true rfl) dX3_leave_42
    have h := (if_neg hc).symm.trans h
    refine kr_aload_n C 0 dX3_leave_21 rfl rfl ?_
    refine kr_get C inX3_leave_X3 0 rfl rfl 1 (by decide) flX3_leave_13 rfl rfl dX3_leave_22 ?_
    refine kr_iload_n C 1 dX3_leave_25 rfl rfl ?_
    obtain ⟨hb8, h⟩ := kif h
    refine kr_zald C 1 rfl (kin_in hb8) dX3_leave_26 ?_
    refine kr_if_eq C 34 dX3_leave_27 (by decide) (fun hc => ?_) (fun hc => ?_)
    · have h := (if_pos hc).symm.trans h
      refine kr_iconst C (v := 0) dX3_leave_34 (by decide) ?_
      obtain ⟨v9, hv9, h⟩ := kob h
      refine kr_callV1 C (k := 1) (As := [.int (0 : Int32)]) (rest := []) (c_X3_fails hv9) gX3_leave_X3_fails rfl rfl rfl (by decide +kernel) ⟨(Nat.le_of_ble_eq_true rfl), (Nat.le_of_ble_eq_true rfl)⟩ ⟨(Nat.le_of_ble_eq_true rfl), (Nat.le_of_ble_eq_true rfl)⟩ 0 rfl rfl rfl rfl (Nat.le_of_ble_eq_true rfl) dX3_leave_35 ?_
      refine kr_if_eq C 43 dX3_leave_38 (by decide) (fun hc => ?_) (fun hc => ?_)
      · have h := (if_pos hc).symm.trans h
        refine kr_aload_n C 0 dX3_leave_43 rfl rfl ?_
        refine kr_get C inX3_leave_X3 0 rfl rfl 1 (by decide) flX3_leave_13 rfl rfl dX3_leave_44 ?_
        refine kr_iload_n C 1 dX3_leave_47 rfl rfl ?_
        refine kr_iconst C (v := 1) dX3_leave_48 (by decide) ?_
        obtain ⟨hb10, h⟩ := kif h
        refine kr_zast C 1 rfl (kin_in hb10) (yq1 _ _ _ _ _) dX3_leave_49 ?_
        refine kr_iconst C (v := 0) dX3_leave_50 (by decide) ?_
        refine kr_istore_n C [1, 2, 0] dX3_leave_51 rfl (by decide) rfl ?_
        refine kr_iconst C (v := 0) dX3_leave_52 (by decide) ?_
        refine kr_istore_n C [1, 2, 3, 0] dX3_leave_53 rfl (by decide) rfl ?_
        exact lc_X3_leave_L54 C _ _ _ _ _ h
      have h := (if_neg hc).symm.trans h
      refine kr_iconst C (v := 0) dX3_leave_41 (by decide) ?_
      cases h
      exact kr_ret_i C (Nat.le_of_ble_eq_true rfl) (Nat.le_of_ble_eq_true rfl) dX3_leave_42
    have h := (if_neg hc).symm.trans h
    refine kr_iconst C (v := 3) dX3_leave_30 (by decide) ?_
    refine kr_goto C 35 dX3_leave_31 (by decide) ?_
    obtain ⟨v11, hv11, h⟩ := kob h
    refine kr_callV1 C (k := 1) (As := [.int (3 : Int32)]) (rest := []) (c_X3_fails hv11) gX3_leave_X3_fails rfl rfl rfl (by decide +kernel) ⟨(Nat.le_of_ble_eq_true rfl), (Nat.le_of_ble_eq_true rfl)⟩ ⟨(Nat.le_of_ble_eq_true rfl), (Nat.le_of_ble_eq_true rfl)⟩ 0 rfl rfl rfl rfl (Nat.le_of_ble_eq_true rfl) dX3_leave_35 ?_
    refine kr_if_eq C 43 dX3_leave_38 (by decide) (fun hc => ?_) (fun hc => ?_)
    · have h := (if_pos hc).symm.trans h
      refine kr_aload_n C 0 dX3_leave_43 rfl rfl ?_
      refine kr_get C inX3_leave_X3 0 rfl rfl 1 (by decide) flX3_leave_13 rfl rfl dX3_leave_44 ?_
      refine kr_iload_n C 1 dX3_leave_47 rfl rfl ?_
      refine kr_iconst C (v := 1) dX3_leave_48 (by decide) ?_
      obtain ⟨hb12, h⟩ := kif h
      refine kr_zast C 1 rfl (kin_in hb12) (yq1 _ _ _ _ _) dX3_leave_49 ?_
      refine kr_iconst C (v := 0) dX3_leave_50 (by decide) ?_
      refine kr_istore_n C [1, 2, 0] dX3_leave_51 rfl (by decide) rfl ?_
      refine kr_iconst C (v := 0) dX3_leave_52 (by decide) ?_
      refine kr_istore_n C [1, 2, 3, 0] dX3_leave_53 rfl (by decide) rfl ?_
      exact lc_X3_leave_L54 C _ _ _ _ _ h
    have h := (if_neg hc).symm.trans h
    refine kr_iconst C (v := 0) dX3_leave_41 (by decide) ?_
    cases h
    exact kr_ret_i C (Nat.le_of_ble_eq_true rfl) (Nat.le_of_ble_eq_true rfl) dX3_leave_42
  have h := (if_neg hc).symm.trans h
  refine kr_iconst C (v := 1) dX3_leave_9 (by decide) ?_
  refine kr_goto C 35 dX3_leave_10 (by decide) ?_
  obtain ⟨v13, hv13, h⟩ := kob h
  refine kr_callV1 C (k := 1) (As := [.int (1 : Int32)]) (rest := []) (c_X3_fails hv13) gX3_leave_X3_fails rfl rfl rfl (by decide +kernel) ⟨(Nat.le_of_ble_eq_true rfl), (Nat.le_of_ble_eq_true rfl)⟩ ⟨(Nat.le_of_ble_eq_true rfl), (Nat.le_of_ble_eq_true rfl)⟩ 0 rfl rfl rfl rfl (Nat.le_of_ble_eq_true rfl) dX3_leave_35 ?_
  refine kr_if_eq C 43 dX3_leave_38 (by decide) (fun hc => ?_) (fun hc => ?_)
  · have h := (if_pos hc).symm.trans h
    refine kr_aload_n C 0 dX3_leave_43 rfl rfl ?_
    refine kr_get C inX3_leave_X3 0 rfl rfl 1 (by decide) flX3_leave_13 rfl rfl dX3_leave_44 ?_
    refine kr_iload_n C 1 dX3_leave_47 rfl rfl ?_
    refine kr_iconst C (v := 1) dX3_leave_48 (by decide) ?_
    obtain ⟨hb14, h⟩ := kif h
    refine kr_zast C 1 rfl (kin_in hb14) (yq1 _ _ _ _ _) dX3_leave_49 ?_
    refine kr_iconst C (v := 0) dX3_leave_50 (by decide) ?_
    refine kr_istore_n C [1, 2, 0] dX3_leave_51 rfl (by decide) rfl ?_
    refine kr_iconst C (v := 0) dX3_leave_52 (by decide) ?_
    refine kr_istore_n C [1, 2, 3, 0] dX3_leave_53 rfl (by decide) rfl ?_
    exact lc_X3_leave_L54 C _ _ _ _ _ h
  have h := (if_neg hc).symm.trans h
  refine kr_iconst C (v := 0) dX3_leave_41 (by decide) ?_
  cases h
  exact kr_ret_i C (Nat.le_of_ble_eq_true rfl) (Nat.le_of_ble_eq_true rfl) dX3_leave_42
theorem flX3_meanOwned_7 : Cond.fieldLink RX3 7 "FolderKeeperModel" "accounts" "I" ∈ wsX3_meanOwned := by decide +kernel
theorem inX3_meanOwned_X3 : ∀ w ∈ wsX30, w ∈ wsX3_meanOwned := fun _ h => List.mem_cons_of_mem _ (List.mem_append_left _ (List.mem_append_right _ h))
theorem flX3_meanOwned_64 : Cond.fieldLink RX3 64 "FolderKeeperModel" "folders" "I" ∈ wsX3_meanOwned := by decide +kernel
theorem flX3_meanOwned_30 : Cond.fieldLink RX3 30 "FolderKeeperModel" "owners" "[I" ∈ wsX3_meanOwned := by decide +kernel
theorem flX3_meanOwned_13 : Cond.fieldLink RX3 13 "FolderKeeperModel" "haveLeft" "[Z" ∈ wsX3_meanOwned := by decide +kernel
set_option maxHeartbeats 4000000 in
set_option maxRecDepth 100000 in
theorem lc_X3_meanOwned_L20 {K : kEnv} {l : Launch} {D : va_G} {cy : Nat → ClassId} {A : Nat → Prop} {a : Nat → Nat} {Z : va_W} {S : kSt} {r : Int32} {Q : State → Prop} (C : kC K D cy A 6 cX3_meanOwned RX3 wsX3_meanOwned (some .double)) : ∀ (n : Nat) (x1 x2 x3 x4 x5 : Int32), f_X3_meanOwned_L20 n S x1 x2 x3 x4 x5 = some r → kG K l D A ({ frames := 1, cells := 0, slots := 0, locals := 21 } : Room) 6 Q (yw a cy S Z) 0 0 65 [(0, .ref (a 0)), (1, .int (x1)), (2, .int (x2)), (3, .int (x3)), (4, .int (r))] [] → kG K l D A ({ frames := 1, cells := 0, slots := 0, locals := 21 } : Room) 6 Q (yw a cy S Z) 0 0 20 [(0, .ref (a 0)), (1, .int (x1)), (2, .int (x2)), (3, .int (x3)), (4, .int (x4)), (5, .int (x5))] [] := by
  intro n
  induction n with
  | zero => intro x1 x2 x3 x4 x5 h kk; rw [f_X3_meanOwned_L20] at h; cases h
  | succ n ih =>
    intro x1 x2 x3 x4 x5 h kk
    rw [f_X3_meanOwned_L20] at h
    refine kr_iload C 5 dX3_meanOwned_20 rfl ?_
    refine kr_aload_n C 0 dX3_meanOwned_22 rfl rfl ?_
    refine kr_get C inX3_meanOwned_X3 0 rfl rfl 7 (by decide) flX3_meanOwned_64 rfl rfl dX3_meanOwned_23 ?_
    refine kr_icmp_ge C 65 dX3_meanOwned_26 (by decide) (fun hc => ?_) (fun hc => ?_)
    · have h := (if_pos hc).symm.trans h
      cases h
      refine kr_sub [0, 1, 2, 3, 4] rfl ?_
      exact kk
    have h := (if_neg hc).symm.trans h
    refine kr_iload C 4 dX3_meanOwned_29 rfl ?_
    refine kr_aload_n C 0 dX3_meanOwned_31 rfl rfl ?_
    refine kr_get C inX3_meanOwned_X3 0 rfl rfl 8 (by decide) flX3_meanOwned_30 rfl rfl dX3_meanOwned_32 ?_
    refine kr_iload C 5 dX3_meanOwned_35 rfl ?_
    obtain ⟨hb5, h⟩ := kif h
    refine kr_iald C 6 rfl (kin_in hb5) dX3_meanOwned_37 ?_
    refine kr_iload_n C 3 dX3_meanOwned_38 rfl rfl ?_
    refine kr_icmp_ne C 55 dX3_meanOwned_39 (by decide) (fun hc => ?_) (fun hc => ?_)
    · have h := (if_pos hc).symm.trans h
      refine kr_aload_n C 0 dX3_meanOwned_42 rfl rfl ?_
      refine kr_get C inX3_meanOwned_X3 0 rfl rfl 1 (by decide) flX3_meanOwned_13 rfl rfl dX3_meanOwned_43 ?_
      refine kr_iload_n C 3 dX3_meanOwned_46 rfl rfl ?_
      obtain ⟨hb6, h⟩ := kif h
      refine kr_zald C 1 rfl (kin_in hb6) dX3_meanOwned_47 ?_
      refine kr_if_ne C 55 dX3_meanOwned_48 (by decide) (fun hc => ?_) (fun hc => ?_)
      · have h := (if_pos hc).symm.trans h
        refine kr_iconst C (v := 1) dX3_meanOwned_51 (by decide) ?_
        refine kr_goto C 56 dX3_meanOwned_52 (by decide) ?_
        refine kr_iadd C dX3_meanOwned_56 ?_
        refine kr_istore C [1, 2, 3, 4, 0, 5] dX3_meanOwned_57 (by decide) rfl ?_
        refine kr_iinc C (v := (x5 + 1)) 5 [1, 2, 3, 4, 5, 0] dX3_meanOwned_59 rfl rfl (by decide) rfl ?_
        refine kr_goto C 20 dX3_meanOwned_62 (by decide) ?_
        exact ih _ _ _ _ _ h kk
      have h := (if_neg hc).symm.trans h
      refine kr_iconst C (v := 0) dX3_meanOwned_55 (by decide) ?_
      refine kr_iadd C dX3_meanOwned_56 ?_
      refine kr_istore C [1, 2, 3, 4, 0, 5] dX3_meanOwned_57 (by decide) rfl ?_
      refine kr_iinc C (v := (x5 + 1)) 5 [1, 2, 3, 4, 5, 0] dX3_meanOwned_59 rfl rfl (by decide) rfl ?_
      refine kr_goto C 20 dX3_meanOwned_62 (by decide) ?_
      exact ih _ _ _ _ _ h kk
    have h := (if_neg hc).symm.trans h
    refine kr_iconst C (v := 0) dX3_meanOwned_55 (by decide) ?_
    refine kr_iadd C dX3_meanOwned_56 ?_
    refine kr_istore C [1, 2, 3, 4, 0, 5] dX3_meanOwned_57 (by decide) rfl ?_
    refine kr_iinc C (v := (x5 + 1)) 5 [1, 2, 3, 4, 5, 0] dX3_meanOwned_59 rfl rfl (by decide) rfl ?_
    refine kr_goto C 20 dX3_meanOwned_62 (by decide) ?_
    exact ih _ _ _ _ _ h kk
set_option maxHeartbeats 4000000 in
set_option maxRecDepth 100000 in
theorem lc_X3_meanOwned_L6 {K : kEnv} {l : Launch} {D : va_G} {cy : Nat → ClassId} {A : Nat → Prop} {a : Nat → Nat} {Z : va_W} {r : (UInt64 × kSt)} (C : kC K D cy A 6 cX3_meanOwned RX3 wsX3_meanOwned (some .double)) : ∀ (n : Nat) (S : kSt) (x1 x2 x3 : Int32), f_X3_meanOwned_L6 n S x1 x2 x3 = some r → kG K l D A ({ frames := 1, cells := 0, slots := 0, locals := 21 } : Room) 6 (kEnd K D cy A (yw a cy r.2 Z) (some (.double r.1)) 0 0) (yw a cy S Z) 0 0 6 [(0, .ref (a 0)), (1, .int (x1)), (2, .int (x2)), (3, .int (x3))] [] := by
  intro n
  induction n with
  | zero => intro S x1 x2 x3 h; rw [f_X3_meanOwned_L6] at h; cases h
  | succ n ih =>
    intro S x1 x2 x3 h
    rw [f_X3_meanOwned_L6] at h
    refine kr_iload_n C 3 dX3_meanOwned_6 rfl rfl ?_
    refine kr_aload_n C 0 dX3_meanOwned_7 rfl rfl ?_
    refine kr_get C inX3_meanOwned_X3 0 rfl rfl 0 (by decide) flX3_meanOwned_7 rfl rfl dX3_meanOwned_8 ?_
    refine kr_icmp_ge C 89 dX3_meanOwned_11 (by decide) (fun hc => ?_) (fun hc => ?_)
    · have h := (if_pos hc).symm.trans h
      refine kr_aload_n C 0 dX3_meanOwned_89 rfl rfl ?_
      refine kr_iload_n C 2 dX3_meanOwned_90 rfl rfl ?_
      refine kr_if_ne C 98 dX3_meanOwned_91 (by decide) (fun hc => ?_) (fun hc => ?_)
      · have h := (if_pos hc).symm.trans h
        refine kr_iconst C (v := 1) dX3_meanOwned_94 (by decide) ?_
        refine kr_goto C 99 dX3_meanOwned_95 (by decide) ?_
        obtain ⟨v1, hv1, h⟩ := kob h
        refine kr_callV1 C (k := 1) (As := [.int (1 : Int32)]) (rest := []) (c_X3_fails hv1) gX3_meanOwned_X3_fails rfl rfl rfl (by decide +kernel) ⟨(Nat.le_of_ble_eq_true rfl), (Nat.le_of_ble_eq_true rfl)⟩ ⟨(Nat.le_of_ble_eq_true rfl), (Nat.le_of_ble_eq_true rfl)⟩ 0 rfl rfl rfl rfl (Nat.le_of_ble_eq_true rfl) dX3_meanOwned_99 ?_
        refine kr_if_eq C 109 dX3_meanOwned_102 (by decide) (fun hc => ?_) (fun hc => ?_)
        · have h := (if_pos hc).symm.trans h
          refine kr_iload_n C 1 dX3_meanOwned_109 rfl rfl ?_
          refine kr_i2d C dX3_meanOwned_110 ?_
          refine kr_iload_n C 2 dX3_meanOwned_111 rfl rfl ?_
          refine kr_i2d C dX3_meanOwned_112 ?_
          obtain ⟨hb2, h⟩ := kif h
          refine kr_ddiv C dX3_meanOwned_113 (kn64_of hb2) ?_
          cases h
          exact kr_ret_d C (Nat.le_of_ble_eq_true rfl) (Nat.le_of_ble_eq_true rfl) dX3_meanOwned_114
        have h := (if_neg hc).symm.trans h
        refine kr_dconst0 C dX3_meanOwned_105 ?_
        refine kr_goto C 114 dX3_meanOwned_106 (by decide) ?_
        cases h
        exact kr_ret_d C (Nat.le_of_ble_eq_true rfl) (Nat.le_of_ble_eq_true rfl) dX3_meanOwned_114
      have h := (if_neg hc).symm.trans h
      refine kr_iconst C (v := 0) dX3_meanOwned_98 (by decide) ?_
      obtain ⟨v3, hv3, h⟩ := kob h
      refine kr_callV1 C (k := 1) (As := [.int (0 : Int32)]) (rest := []) (c_X3_fails hv3) gX3_meanOwned_X3_fails rfl rfl rfl (by decide +kernel) ⟨(Nat.le_of_ble_eq_true rfl), (Nat.le_of_ble_eq_true rfl)⟩ ⟨(Nat.le_of_ble_eq_true rfl), (Nat.le_of_ble_eq_true rfl)⟩ 0 rfl rfl rfl rfl (Nat.le_of_ble_eq_true rfl) dX3_meanOwned_99 ?_
      refine kr_if_eq C 109 dX3_meanOwned_102 (by decide) (fun hc => ?_) (fun hc => ?_)
      · have h := (if_pos hc).symm.trans h
        refine kr_iload_n C 1 dX3_meanOwned_109 rfl rfl ?_
        refine kr_i2d C dX3_meanOwned_110 ?_
        refine kr_iload_n C 2 dX3_meanOwned_111 rfl rfl ?_
        refine kr_i2d C dX3_meanOwned_112 ?_
        obtain ⟨hb4, h⟩ := kif h
        refine kr_ddiv C dX3_meanOwned_113 (kn64_of hb4) ?_
        cases h
        exact kr_ret_d C (Nat.le_of_ble_eq_true rfl) (Nat.le_of_ble_eq_true rfl) dX3_meanOwned_114
      have h := (if_neg hc).symm.trans h
      refine kr_dconst0 C dX3_meanOwned_105 ?_
      refine kr_goto C 114 dX3_meanOwned_106 (by decide) ?_
      cases h
      exact kr_ret_d C (Nat.le_of_ble_eq_true rfl) (Nat.le_of_ble_eq_true rfl) dX3_meanOwned_114
    have h := (if_neg hc).symm.trans h
    refine kr_iconst C (v := 0) dX3_meanOwned_14 (by decide) ?_
    refine kr_istore C [1, 2, 3, 4, 0] dX3_meanOwned_15 (by decide) rfl ?_
    refine kr_iconst C (v := 0) dX3_meanOwned_17 (by decide) ?_
    refine kr_istore C [1, 2, 3, 4, 5, 0] dX3_meanOwned_18 (by decide) rfl ?_
    obtain ⟨q7, hq7, h⟩ := kob h
    refine lc_X3_meanOwned_L20 C _ _ _ _ _ _ hq7 ?_
    refine kr_iload_n C 1 dX3_meanOwned_65 rfl rfl ?_
    refine kr_iload C 4 dX3_meanOwned_66 rfl ?_
    refine kr_iadd C dX3_meanOwned_68 ?_
    refine kr_istore_n C [1, 0, 2, 3, 4] dX3_meanOwned_69 rfl (by decide) rfl ?_
    refine kr_iload_n C 2 dX3_meanOwned_70 rfl rfl ?_
    refine kr_iload C 4 dX3_meanOwned_71 rfl ?_
    refine kr_if_le C 80 dX3_meanOwned_73 (by decide) (fun hc => ?_) (fun hc => ?_)
    · have h := (if_pos hc).symm.trans h
      refine kr_iconst C (v := 0) dX3_meanOwned_80 (by decide) ?_
      refine kr_iadd C dX3_meanOwned_81 ?_
      refine kr_istore_n C [1, 2, 0, 3, 4] dX3_meanOwned_82 rfl (by decide) rfl ?_
      refine kr_iinc C (v := (x3 + 1)) 3 [1, 2, 3, 0, 4] dX3_meanOwned_83 rfl rfl (by decide) rfl ?_
      refine kr_goto C 6 dX3_meanOwned_86 (by decide) ?_
      refine kr_sub [0, 1, 2, 3] rfl ?_
      exact ih _ _ _ _ h
    have h := (if_neg hc).symm.trans h
    refine kr_iconst C (v := 1) dX3_meanOwned_76 (by decide) ?_
    refine kr_goto C 81 dX3_meanOwned_77 (by decide) ?_
    refine kr_iadd C dX3_meanOwned_81 ?_
    refine kr_istore_n C [1, 2, 0, 3, 4] dX3_meanOwned_82 rfl (by decide) rfl ?_
    refine kr_iinc C (v := (x3 + 1)) 3 [1, 2, 3, 0, 4] dX3_meanOwned_83 rfl rfl (by decide) rfl ?_
    refine kr_goto C 6 dX3_meanOwned_86 (by decide) ?_
    refine kr_sub [0, 1, 2, 3] rfl ?_
    exact ih _ _ _ _ h
set_option maxHeartbeats 4000000 in
set_option maxRecDepth 100000 in
theorem c_X3_meanOwned {l : Launch} {D : va_G} {cy : Nat → ClassId} {a : Nat → Nat} {Z : va_W} {S : kSt} {r : (UInt64 × kSt)} (h : f_X3_meanOwned S = some r) : kM l yX3_meanOwned wsX3_meanOwned ({ frames := 1, cells := 0, slots := 0, locals := 21 } : Room) D cy (yw a cy S Z) [.ref (a 0)] (yw a cy r.2 Z) (some (.double r.1)) 0 0 := by
  rw [f_X3_meanOwned] at h
  refine kM.start (L := [(0, .ref (a 0))]) rfl rfl rfl (Nat.le_of_ble_eq_true rfl) rfl (fun K A C => ?_)
  refine kr_iconst C (v := 0) dX3_meanOwned_0 (by decide) ?_
  refine kr_istore_n C [1, 0] dX3_meanOwned_1 rfl (by decide) rfl ?_
  refine kr_iconst C (v := 0) dX3_meanOwned_2 (by decide) ?_
  refine kr_istore_n C [1, 2, 0] dX3_meanOwned_3 rfl (by decide) rfl ?_
  refine kr_iconst C (v := 0) dX3_meanOwned_4 (by decide) ?_
  refine kr_istore_n C [1, 2, 3, 0] dX3_meanOwned_5 rfl (by decide) rfl ?_
  exact lc_X3_meanOwned_L6 C _ _ _ _ _ h
theorem flX3_memberships_54 : Cond.fieldLink RX3 54 "FolderKeeperModel" "code" "I" ∈ wsX3_memberships := by decide +kernel
theorem inX3_memberships_X3 : ∀ w ∈ wsX30, w ∈ wsX3_memberships := fun _ h => List.mem_cons_of_mem _ (List.mem_append_left _ (List.mem_append_right _ h))
theorem flX3_memberships_24 : Cond.fieldLink RX3 24 "FolderKeeperModel" "nestEnds" "[I" ∈ wsX3_memberships := by decide +kernel
theorem flX3_memberships_21 : Cond.fieldLink RX3 21 "FolderKeeperModel" "memberEnds" "[I" ∈ wsX3_memberships := by decide +kernel
set_option maxHeartbeats 4000000 in
set_option maxRecDepth 100000 in
theorem lc_X3_memberships_L40 {K : kEnv} {l : Launch} {D : va_G} {cy : Nat → ClassId} {A : Nat → Prop} {a : Nat → Nat} {Z : va_W} {S : kSt} {r : (Int32 × kSt)} (C : kC K D cy A 3 cX3_memberships RX3 wsX3_memberships (some .int)) : ∀ (n : Nat) (x1 x2 : Int32), f_X3_memberships_L40 n S x1 x2 = some r → kG K l D A ({ frames := 0, cells := 0, slots := 0, locals := 0 } : Room) 3 (kEnd K D cy A (yw a cy r.2 Z) (some (.int r.1)) 0 0) (yw a cy S Z) 0 0 40 [(0, .ref (a 0)), (1, .int (x1)), (2, .int (x2))] [] := by
  intro n
  induction n with
  | zero => intro x1 x2 h; rw [f_X3_memberships_L40] at h; cases h
  | succ n ih =>
    intro x1 x2 h
    rw [f_X3_memberships_L40] at h
    refine kr_iload_n C 2 dX3_memberships_40 rfl rfl ?_
    refine kr_bipush C (v := 36) dX3_memberships_41 (by decide) ?_
    refine kr_icmp_ge C 69 dX3_memberships_43 (by decide) (fun hc => ?_) (fun hc => ?_)
    · have h := (if_pos hc).symm.trans h
      refine kr_iload_n C 1 dX3_memberships_69 rfl rfl ?_
      cases h
      exact kr_ret_i C (Nat.le_of_ble_eq_true rfl) (Nat.le_of_ble_eq_true rfl) dX3_memberships_70
    have h := (if_neg hc).symm.trans h
    refine kr_iload_n C 1 dX3_memberships_46 rfl rfl ?_
    refine kr_aload_n C 0 dX3_memberships_47 rfl rfl ?_
    refine kr_get C inX3_memberships_X3 0 rfl rfl 5 (by decide) flX3_memberships_24 rfl rfl dX3_memberships_48 ?_
    refine kr_iload_n C 2 dX3_memberships_51 rfl rfl ?_
    obtain ⟨hb1, h⟩ := kif h
    refine kr_iald C 4 rfl (kin_in hb1) dX3_memberships_52 ?_
    refine kr_if_le C 60 dX3_memberships_53 (by decide) (fun hc => ?_) (fun hc => ?_)
    · have h := (if_pos hc).symm.trans h
      refine kr_iconst C (v := 0) dX3_memberships_60 (by decide) ?_
      refine kr_iadd C dX3_memberships_61 ?_
      refine kr_istore_n C [1, 0, 2] dX3_memberships_62 rfl (by decide) rfl ?_
      refine kr_iinc C (v := (x2 + 1)) 2 [1, 2, 0] dX3_memberships_63 rfl rfl (by decide) rfl ?_
      refine kr_goto C 40 dX3_memberships_66 (by decide) ?_
      exact ih _ _ h
    have h := (if_neg hc).symm.trans h
    refine kr_iconst C (v := 1) dX3_memberships_56 (by decide) ?_
    refine kr_goto C 61 dX3_memberships_57 (by decide) ?_
    refine kr_iadd C dX3_memberships_61 ?_
    refine kr_istore_n C [1, 0, 2] dX3_memberships_62 rfl (by decide) rfl ?_
    refine kr_iinc C (v := (x2 + 1)) 2 [1, 2, 0] dX3_memberships_63 rfl rfl (by decide) rfl ?_
    refine kr_goto C 40 dX3_memberships_66 (by decide) ?_
    exact ih _ _ h
set_option maxHeartbeats 4000000 in
set_option maxRecDepth 100000 in
theorem lc_X3_memberships_L9 {K : kEnv} {l : Launch} {D : va_G} {cy : Nat → ClassId} {A : Nat → Prop} {a : Nat → Nat} {Z : va_W} {S : kSt} {r : (Int32 × kSt)} (C : kC K D cy A 3 cX3_memberships RX3 wsX3_memberships (some .int)) : ∀ (n : Nat) (x1 x2 : Int32), f_X3_memberships_L9 n S x1 x2 = some r → kG K l D A ({ frames := 0, cells := 0, slots := 0, locals := 0 } : Room) 3 (kEnd K D cy A (yw a cy r.2 Z) (some (.int r.1)) 0 0) (yw a cy S Z) 0 0 9 [(0, .ref (a 0)), (1, .int (x1)), (2, .int (x2))] [] := by
  intro n
  induction n with
  | zero => intro x1 x2 h; rw [f_X3_memberships_L9] at h; cases h
  | succ n ih =>
    intro x1 x2 h
    rw [f_X3_memberships_L9] at h
    refine kr_iload_n C 2 dX3_memberships_9 rfl rfl ?_
    refine kr_bipush C (v := 60) dX3_memberships_10 (by decide) ?_
    refine kr_icmp_ge C 38 dX3_memberships_12 (by decide) (fun hc => ?_) (fun hc => ?_)
    · have h := (if_pos hc).symm.trans h
      refine kr_iconst C (v := 0) dX3_memberships_38 (by decide) ?_
      refine kr_istore_n C [1, 2, 0] dX3_memberships_39 rfl (by decide) rfl ?_
      exact lc_X3_memberships_L40 C _ _ _ h
    have h := (if_neg hc).symm.trans h
    refine kr_iload_n C 1 dX3_memberships_15 rfl rfl ?_
    refine kr_aload_n C 0 dX3_memberships_16 rfl rfl ?_
    refine kr_get C inX3_memberships_X3 0 rfl rfl 4 (by decide) flX3_memberships_21 rfl rfl dX3_memberships_17 ?_
    refine kr_iload_n C 2 dX3_memberships_20 rfl rfl ?_
    obtain ⟨hb2, h⟩ := kif h
    refine kr_iald C 3 rfl (kin_in hb2) dX3_memberships_21 ?_
    refine kr_if_le C 29 dX3_memberships_22 (by decide) (fun hc => ?_) (fun hc => ?_)
    · have h := (if_pos hc).symm.trans h
      refine kr_iconst C (v := 0) dX3_memberships_29 (by decide) ?_
      refine kr_iadd C dX3_memberships_30 ?_
      refine kr_istore_n C [1, 0, 2] dX3_memberships_31 rfl (by decide) rfl ?_
      refine kr_iinc C (v := (x2 + 1)) 2 [1, 2, 0] dX3_memberships_32 rfl rfl (by decide) rfl ?_
      refine kr_goto C 9 dX3_memberships_35 (by decide) ?_
      exact ih _ _ h
    have h := (if_neg hc).symm.trans h
    refine kr_iconst C (v := 1) dX3_memberships_25 (by decide) ?_
    refine kr_goto C 30 dX3_memberships_26 (by decide) ?_
    refine kr_iadd C dX3_memberships_30 ?_
    refine kr_istore_n C [1, 0, 2] dX3_memberships_31 rfl (by decide) rfl ?_
    refine kr_iinc C (v := (x2 + 1)) 2 [1, 2, 0] dX3_memberships_32 rfl rfl (by decide) rfl ?_
    refine kr_goto C 9 dX3_memberships_35 (by decide) ?_
    exact ih _ _ h
set_option maxHeartbeats 4000000 in
set_option maxRecDepth 100000 in
theorem c_X3_memberships {l : Launch} {D : va_G} {cy : Nat → ClassId} {a : Nat → Nat} {Z : va_W} {S : kSt} {r : (Int32 × kSt)} (h : f_X3_memberships S = some r) : kM l yX3_memberships wsX3_memberships ({ frames := 0, cells := 0, slots := 0, locals := 0 } : Room) D cy (yw a cy S Z) [.ref (a 0)] (yw a cy r.2 Z) (some (.int r.1)) 0 0 := by
  rw [f_X3_memberships] at h
  refine kM.start (L := [(0, .ref (a 0))]) rfl rfl rfl (Nat.le_of_ble_eq_true rfl) rfl (fun K A C => ?_)
  refine kr_aload_n C 0 dX3_memberships_0 rfl rfl ?_
  refine kr_iconst C (v := 0) dX3_memberships_1 (by decide) ?_
  refine kr_put C inX3_memberships_X3 tyX3_ok nmX3 0 rfl rfl 18 (by decide) flX3_memberships_54 rfl rfl rfl rfl rfl (by show 18 < 19; decide) (yp18 _ _ _ _ _) dX3_memberships_2 ?_
  refine kr_iconst C (v := 0) dX3_memberships_5 (by decide) ?_
  refine kr_istore_n C [1, 0] dX3_memberships_6 rfl (by decide) rfl ?_
  refine kr_iconst C (v := 0) dX3_memberships_7 (by decide) ?_
  refine kr_istore_n C [1, 2, 0] dX3_memberships_8 rfl (by decide) rfl ?_
  exact lc_X3_memberships_L9 C _ _ _ h
theorem flX3_nest_24 : Cond.fieldLink RX3 24 "FolderKeeperModel" "nestEnds" "[I" ∈ wsX3_nest := by decide +kernel
theorem inX3_nest_X3 : ∀ w ∈ wsX30, w ∈ wsX3_nest := fun _ h => List.mem_cons_of_mem _ (List.mem_append_left _ (List.mem_append_right _ h))
theorem flX3_nest_61 : Cond.fieldLink RX3 61 "FolderKeeperModel" "groups" "I" ∈ wsX3_nest := by decide +kernel
set_option maxHeartbeats 4000000 in
set_option maxRecDepth 100000 in
theorem lc_X3_nest_L84 {K : kEnv} {l : Launch} {D : va_G} {cy : Nat → ClassId} {A : Nat → Prop} {a : Nat → Nat} {Z : va_W} {S : kSt} {r : (Int32 × kSt)} (C : kC K D cy A 6 cX3_nest RX3 wsX3_nest (some .int)) : ∀ (n : Nat) (x2 x4 x5 : Int32), f_X3_nest_L84 n S x2 x4 x5 = some r → kG K l D A ({ frames := 10, cells := 0, slots := 0, locals := 229 } : Room) 6 (kEnd K D cy A (yw a cy r.2 Z) (some (.int r.1)) 0 0) (yw a cy S Z) 0 0 84 [(0, .ref (a 0)), (2, .int (x2)), (4, .int (x4)), (5, .int (x5))] [] := by
  intro n
  induction n with
  | zero => intro x2 x4 x5 h; rw [f_X3_nest_L84] at h; cases h
  | succ n ih =>
    intro x2 x4 x5 h
    rw [f_X3_nest_L84] at h
    refine kr_iload C 3 dX3_nest_84 rfl ?_
    refine kr_aload_n C 0 dX3_nest_86 rfl rfl ?_
    refine kr_get C inX3_nest_X3 0 rfl rfl 3 (by decide) flX3_nest_61 rfl rfl dX3_nest_87 ?_
    refine kr_icmp_ge C 119 dX3_nest_90 (by decide) (fun hc => ?_) (fun hc => ?_)
    · have h := (if_pos hc).symm.trans h
      refine kr_iload C 2 dX3_nest_119 rfl ?_
      cases h
      exact kr_ret_i C (Nat.le_of_ble_eq_true rfl) (Nat.le_of_ble_eq_true rfl) dX3_nest_121
    have h := (if_neg hc).symm.trans h
    refine kr_iload C 2 dX3_nest_93 rfl ?_
    refine kr_aload_n C 0 dX3_nest_95 rfl rfl ?_
    refine kr_iload C 3 dX3_nest_96 rfl ?_
    refine kr_iload_n C 1 dX3_nest_98 rfl rfl ?_
    obtain ⟨v7, hv7, h⟩ := kob h
    refine kr_callV1 C (k := 2) (As := [.int x5, .int x2]) (rest := [.int (x4)]) (c_X3_isNested hv7) gX3_nest_X3_isNested rfl rfl rfl (by decide +kernel) ⟨(Nat.le_of_ble_eq_true rfl), (Nat.le_of_ble_eq_true rfl)⟩ ⟨(Nat.le_of_ble_eq_true rfl), (Nat.le_of_ble_eq_true rfl)⟩ 0 rfl rfl rfl rfl (Nat.le_of_ble_eq_true rfl) dX3_nest_99 ?_
    refine kr_if_eq C 109 dX3_nest_102 (by decide) (fun hc => ?_) (fun hc => ?_)
    · have h := (if_pos hc).symm.trans h
      refine kr_iconst C (v := 0) dX3_nest_109 (by decide) ?_
      refine kr_iadd C dX3_nest_110 ?_
      refine kr_istore C [1, 2, 0, 3] dX3_nest_111 (by decide) rfl ?_
      refine kr_iinc C (v := (x5 + 1)) 3 [1, 2, 3, 0] dX3_nest_113 rfl rfl (by decide) rfl ?_
      refine kr_goto C 84 dX3_nest_116 (by decide) ?_
      exact ih _ _ _ h
    have h := (if_neg hc).symm.trans h
    refine kr_iconst C (v := 1) dX3_nest_105 (by decide) ?_
    refine kr_goto C 110 dX3_nest_106 (by decide) ?_
    refine kr_iadd C dX3_nest_110 ?_
    refine kr_istore C [1, 2, 0, 3] dX3_nest_111 (by decide) rfl ?_
    refine kr_iinc C (v := (x5 + 1)) 3 [1, 2, 3, 0] dX3_nest_113 rfl rfl (by decide) rfl ?_
    refine kr_goto C 84 dX3_nest_116 (by decide) ?_
    exact ih _ _ _ h
set_option maxHeartbeats 4000000 in
set_option maxRecDepth 100000 in
theorem c_X3_nest {l : Launch} {D : va_G} {cy : Nat → ClassId} {a : Nat → Nat} {Z : va_W} {S : kSt} {p1 : Int32} {p2 : Int32} {p3 : Int32} {r : (Int32 × kSt)} (h : f_X3_nest S p1 p2 p3 = some r) : kM l yX3_nest wsX3_nest ({ frames := 10, cells := 0, slots := 0, locals := 229 } : Room) D cy (yw a cy S Z) [.ref (a 0), .int p1, .int p2, .int p3] (yw a cy r.2 Z) (some (.int r.1)) 0 0 := by
  rw [f_X3_nest] at h
  refine kM.start (L := [(0, .ref (a 0)), (1, .int (p1)), (2, .int (p2)), (3, .int (p3))]) rfl rfl rfl (Nat.le_of_ble_eq_true rfl) rfl (fun K A C => ?_)
  refine kr_aload_n C 0 dX3_nest_0 rfl rfl ?_
  refine kr_aload_n C 0 dX3_nest_1 rfl rfl ?_
  refine kr_iload_n C 1 dX3_nest_2 rfl rfl ?_
  obtain ⟨v1, hv1, h⟩ := kob h
  refine kr_callV1 C (k := 1) (As := [.int p1]) (rest := [.ref (a 0)]) (c_X3_isNoGroup hv1) gX3_nest_X3_isNoGroup rfl rfl rfl (by decide +kernel) ⟨(Nat.le_of_ble_eq_true rfl), (Nat.le_of_ble_eq_true rfl)⟩ ⟨(Nat.le_of_ble_eq_true rfl), (Nat.le_of_ble_eq_true rfl)⟩ 0 rfl rfl rfl rfl (Nat.le_of_ble_eq_true rfl) dX3_nest_3 ?_
  refine kr_if_ne C 17 dX3_nest_6 (by decide) (fun hc => ?_) (fun hc => ?_)
  · have h := (if_pos hc).symm.trans h
    refine kr_aload_n C 0 dX3_nest_9 rfl rfl ?_
    refine kr_iload_n C 2 dX3_nest_10 rfl rfl ?_
    obtain ⟨v2, hv2, h⟩ := kob h
    refine kr_callV1 C (k := 1) (As := [.int p2]) (rest := [.ref (a 0)]) (c_X3_isNoGroup hv2) gX3_nest_X3_isNoGroup rfl rfl rfl (by decide +kernel) ⟨(Nat.le_of_ble_eq_true rfl), (Nat.le_of_ble_eq_true rfl)⟩ ⟨(Nat.le_of_ble_eq_true rfl), (Nat.le_of_ble_eq_true rfl)⟩ 0 rfl rfl rfl rfl (Nat.le_of_ble_eq_true rfl) dX3_nest_11 ?_
    refine kr_if_eq C 21 dX3_nest_14 (by decide) (fun hc => ?_) (fun hc => ?_)
    · have h := (if_pos hc).symm.trans h
      refine kr_aload_n C 0 dX3_nest_21 rfl rfl ?_
      refine kr_iload_n C 3 dX3_nest_22 rfl rfl ?_
      obtain ⟨v3, hv3, h⟩ := kob h
      refine kr_callV1 C (k := 1) (As := [.int p3]) (rest := [.ref (a 0)]) (c_X3_isNoEnd hv3) gX3_nest_X3_isNoEnd rfl rfl rfl (by decide +kernel) ⟨(Nat.le_of_ble_eq_true rfl), (Nat.le_of_ble_eq_true rfl)⟩ ⟨(Nat.le_of_ble_eq_true rfl), (Nat.le_of_ble_eq_true rfl)⟩ 0 rfl rfl rfl rfl (Nat.le_of_ble_eq_true rfl) dX3_nest_23 ?_
      refine kr_if_eq C 33 dX3_nest_26 (by decide) (fun hc => ?_) (fun hc => ?_)
      · have h := (if_pos hc).symm.trans h
        refine kr_aload_n C 0 dX3_nest_33 rfl rfl ?_
        refine kr_iload_n C 2 dX3_nest_34 rfl rfl ?_
        refine kr_iload_n C 1 dX3_nest_35 rfl rfl ?_
        obtain ⟨v4, hv4, h⟩ := kob h
        refine kr_callV1 C (k := 2) (As := [.int p2, .int p1]) (rest := [.ref (a 0)]) (c_X3_leads _ hv4) gX3_nest_X3_leads rfl rfl rfl (by decide +kernel) ⟨(Nat.le_of_ble_eq_true rfl), (Nat.le_of_ble_eq_true rfl)⟩ ⟨(Nat.le_of_ble_eq_true rfl), (Nat.le_of_ble_eq_true rfl)⟩ 0 rfl rfl rfl rfl (Nat.le_of_ble_eq_true rfl) dX3_nest_36 ?_
        refine kr_if_eq C 46 dX3_nest_39 (by decide) (fun hc => ?_) (fun hc => ?_)
        · have h := (if_pos hc).symm.trans h
          refine kr_iconst C (v := 0) dX3_nest_46 (by decide) ?_
          obtain ⟨v5, hv5, h⟩ := kob h
          refine kr_callV1 C (k := 1) (As := [.int (0 : Int32)]) (rest := []) (c_X3_fails hv5) gX3_nest_X3_fails rfl rfl rfl (by decide +kernel) ⟨(Nat.le_of_ble_eq_true rfl), (Nat.le_of_ble_eq_true rfl)⟩ ⟨(Nat.le_of_ble_eq_true rfl), (Nat.le_of_ble_eq_true rfl)⟩ 0 rfl rfl rfl rfl (Nat.le_of_ble_eq_true rfl) dX3_nest_47 ?_
          refine kr_if_eq C 55 dX3_nest_50 (by decide) (fun hc => ?_) (fun hc => ?_)
          · have h := (if_pos hc).symm.trans h
            refine kr_aload_n C 0 dX3_nest_55 rfl rfl ?_
            refine kr_get C inX3_nest_X3 0 rfl rfl 5 (by decide) flX3_nest_24 rfl rfl dX3_nest_56 ?_
            refine kr_bipush C (v := 6) dX3_nest_59 (by decide) ?_
            refine kr_iload_n C 1 dX3_nest_61 rfl rfl ?_
            refine kr_imul C dX3_nest_62 ?_
            refine kr_iload_n C 2 dX3_nest_63 rfl rfl ?_
            refine kr_iadd C dX3_nest_64 ?_
            refine kr_iload_n C 3 dX3_nest_65 rfl rfl ?_
            refine kr_iconst C (v := -1) dX3_nest_66 (by decide) ?_
            refine kr_icmp_ne C 76 dX3_nest_67 (by decide) (fun hc => ?_) (fun hc => ?_)
            · have h := (if_pos hc).symm.trans h
              refine kr_sipush C (v := 9999) dX3_nest_70 (by decide) ?_
              refine kr_goto C 77 dX3_nest_73 (by decide) ?_
              obtain ⟨hb6, h⟩ := kif h
              refine kr_iast C 4 rfl (kin_in hb6) (yq5 _ _ _ _ _) dX3_nest_77 ?_
              refine kr_iconst C (v := 0) dX3_nest_78 (by decide) ?_
              refine kr_istore C [1, 2, 3, 4, 0] dX3_nest_79 (by decide) rfl ?_
              refine kr_iconst C (v := 0) dX3_nest_81 (by decide) ?_
              refine kr_istore C [1, 2, 3, 4, 5, 0] dX3_nest_82 (by decide) rfl ?_
              refine kr_sub [0, 2, 4, 5] rfl ?_
              exact lc_X3_nest_L84 C _ _ _ _ h
            have h := (if_neg hc).symm.trans h
            refine kr_iload_n C 3 dX3_nest_76 rfl rfl ?_
            obtain ⟨hb8, h⟩ := kif h
            refine kr_iast C 4 rfl (kin_in hb8) (yq5 _ _ _ _ _) dX3_nest_77 ?_
            refine kr_iconst C (v := 0) dX3_nest_78 (by decide) ?_
            refine kr_istore C [1, 2, 3, 4, 0] dX3_nest_79 (by decide) rfl ?_
            refine kr_iconst C (v := 0) dX3_nest_81 (by decide) ?_
            refine kr_istore C [1, 2, 3, 4, 5, 0] dX3_nest_82 (by decide) rfl ?_
            refine kr_sub [0, 2, 4, 5] rfl ?_
            exact lc_X3_nest_L84 C _ _ _ _ h
          have h := (if_neg hc).symm.trans h
          refine kr_iconst C (v := 0) dX3_nest_53 (by decide) ?_
          cases h
          exact kr_ret_i C (Nat.le_of_ble_eq_true rfl) (Nat.le_of_ble_eq_true rfl) dX3_nest_54
        have h := (if_neg hc).symm.trans h
        refine kr_iconst C (v := 3) dX3_nest_42 (by decide) ?_
        refine kr_goto C 47 dX3_nest_43 (by decide) ?_
        obtain ⟨v9, hv9, h⟩ := kob h
        refine kr_callV1 C (k := 1) (As := [.int (3 : Int32)]) (rest := []) (c_X3_fails hv9) gX3_nest_X3_fails rfl rfl rfl (by decide +kernel) ⟨(Nat.le_of_ble_eq_true rfl), (Nat.le_of_ble_eq_true rfl)⟩ ⟨(Nat.le_of_ble_eq_true rfl), (Nat.le_of_ble_eq_true rfl)⟩ 0 rfl rfl rfl rfl (Nat.le_of_ble_eq_true rfl) dX3_nest_47 ?_
        refine kr_if_eq C 55 dX3_nest_50 (by decide) (fun hc => ?_) (fun hc => ?_)
        · have h := (if_pos hc).symm.trans h
          refine kr_aload_n C 0 dX3_nest_55 rfl rfl ?_
          refine kr_get C inX3_nest_X3 0 rfl rfl 5 (by decide) flX3_nest_24 rfl rfl dX3_nest_56 ?_
          refine kr_bipush C (v := 6) dX3_nest_59 (by decide) ?_
          refine kr_iload_n C 1 dX3_nest_61 rfl rfl ?_
          refine kr_imul C dX3_nest_62 ?_
          refine kr_iload_n C 2 dX3_nest_63 rfl rfl ?_
          refine kr_iadd C dX3_nest_64 ?_
          refine kr_iload_n C 3 dX3_nest_65 rfl rfl ?_
          refine kr_iconst C (v := -1) dX3_nest_66 (by decide) ?_
          refine kr_icmp_ne C 76 dX3_nest_67 (by decide) (fun hc => ?_) (fun hc => ?_)
          · have h := (if_pos hc).symm.trans h
            refine kr_sipush C (v := 9999) dX3_nest_70 (by decide) ?_
            refine kr_goto C 77 dX3_nest_73 (by decide) ?_
            obtain ⟨hb10, h⟩ := kif h
            refine kr_iast C 4 rfl (kin_in hb10) (yq5 _ _ _ _ _) dX3_nest_77 ?_
            refine kr_iconst C (v := 0) dX3_nest_78 (by decide) ?_
            refine kr_istore C [1, 2, 3, 4, 0] dX3_nest_79 (by decide) rfl ?_
            refine kr_iconst C (v := 0) dX3_nest_81 (by decide) ?_
            refine kr_istore C [1, 2, 3, 4, 5, 0] dX3_nest_82 (by decide) rfl ?_
            refine kr_sub [0, 2, 4, 5] rfl ?_
            exact lc_X3_nest_L84 C _ _ _ _ h
          have h := (if_neg hc).symm.trans h
          refine kr_iload_n C 3 dX3_nest_76 rfl rfl ?_
          obtain ⟨hb11, h⟩ := kif h
          refine kr_iast C 4 rfl (kin_in hb11) (yq5 _ _ _ _ _) dX3_nest_77 ?_
          refine kr_iconst C (v := 0) dX3_nest_78 (by decide) ?_
          refine kr_istore C [1, 2, 3, 4, 0] dX3_nest_79 (by decide) rfl ?_
          refine kr_iconst C (v := 0) dX3_nest_81 (by decide) ?_
          refine kr_istore C [1, 2, 3, 4, 5, 0] dX3_nest_82 (by decide) rfl ?_
          refine kr_sub [0, 2, 4, 5] rfl ?_
          exact lc_X3_nest_L84 C _ _ _ _ h
        have h := (if_neg hc).symm.trans h
        refine kr_iconst C (v := 0) dX3_nest_53 (by decide) ?_
        cases h
        exact kr_ret_i C (Nat.le_of_ble_eq_true rfl) (Nat.le_of_ble_eq_true rfl) dX3_nest_54
      have h := (if_neg hc).symm.trans h
      refine kr_iconst C (v := 2) dX3_nest_29 (by decide) ?_
      refine kr_goto C 47 dX3_nest_30 (by decide) ?_
      obtain ⟨v12, hv12, h⟩ := kob h
      refine kr_callV1 C (k := 1) (As := [.int (2 : Int32)]) (rest := []) (c_X3_fails hv12) gX3_nest_X3_fails rfl rfl rfl (by decide +kernel) ⟨(Nat.le_of_ble_eq_true rfl), (Nat.le_of_ble_eq_true rfl)⟩ ⟨(Nat.le_of_ble_eq_true rfl), (Nat.le_of_ble_eq_true rfl)⟩ 0 rfl rfl rfl rfl (Nat.le_of_ble_eq_true rfl) dX3_nest_47 ?_
      refine kr_if_eq C 55 dX3_nest_50 (by decide) (fun hc => ?_) (fun hc => ?_)
      · have h := (if_pos hc).symm.trans h
        refine kr_aload_n C 0 dX3_nest_55 rfl rfl ?_
        refine kr_get C inX3_nest_X3 0 rfl rfl 5 (by decide) flX3_nest_24 rfl rfl dX3_nest_56 ?_
        refine kr_bipush C (v := 6) dX3_nest_59 (by decide) ?_
        refine kr_iload_n C 1 dX3_nest_61 rfl rfl ?_
        refine kr_imul C dX3_nest_62 ?_
        refine kr_iload_n C 2 dX3_nest_63 rfl rfl ?_
        refine kr_iadd C dX3_nest_64 ?_
        refine kr_iload_n C 3 dX3_nest_65 rfl rfl ?_
        refine kr_iconst C (v := -1) dX3_nest_66 (by decide) ?_
        refine kr_icmp_ne C 76 dX3_nest_67 (by decide) (fun hc => ?_) (fun hc => ?_)
        · have h := (if_pos hc).symm.trans h
          refine kr_sipush C (v := 9999) dX3_nest_70 (by decide) ?_
          refine kr_goto C 77 dX3_nest_73 (by decide) ?_
          obtain ⟨hb13, h⟩ := kif h
          refine kr_iast C 4 rfl (kin_in hb13) (yq5 _ _ _ _ _) dX3_nest_77 ?_
          refine kr_iconst C (v := 0) dX3_nest_78 (by decide) ?_
          refine kr_istore C [1, 2, 3, 4, 0] dX3_nest_79 (by decide) rfl ?_
          refine kr_iconst C (v := 0) dX3_nest_81 (by decide) ?_
          refine kr_istore C [1, 2, 3, 4, 5, 0] dX3_nest_82 (by decide) rfl ?_
          refine kr_sub [0, 2, 4, 5] rfl ?_
          exact lc_X3_nest_L84 C _ _ _ _ h
        have h := (if_neg hc).symm.trans h
        refine kr_iload_n C 3 dX3_nest_76 rfl rfl ?_
        obtain ⟨hb14, h⟩ := kif h
        refine kr_iast C 4 rfl (kin_in hb14) (yq5 _ _ _ _ _) dX3_nest_77 ?_
        refine kr_iconst C (v := 0) dX3_nest_78 (by decide) ?_
        refine kr_istore C [1, 2, 3, 4, 0] dX3_nest_79 (by decide) rfl ?_
        refine kr_iconst C (v := 0) dX3_nest_81 (by decide) ?_
        refine kr_istore C [1, 2, 3, 4, 5, 0] dX3_nest_82 (by decide) rfl ?_
        refine kr_sub [0, 2, 4, 5] rfl ?_
        exact lc_X3_nest_L84 C _ _ _ _ h
      have h := (if_neg hc).symm.trans h
      refine kr_iconst C (v := 0) dX3_nest_53 (by decide) ?_
      cases h
      exact kr_ret_i C (Nat.le_of_ble_eq_true rfl) (Nat.le_of_ble_eq_true rfl) dX3_nest_54
    have h := (if_neg hc).symm.trans h
    refine kr_iconst C (v := 1) dX3_nest_17 (by decide) ?_
    refine kr_goto C 47 dX3_nest_18 (by decide) ?_
    obtain ⟨v15, hv15, h⟩ := kob h
    refine kr_callV1 C (k := 1) (As := [.int (1 : Int32)]) (rest := []) (c_X3_fails hv15) gX3_nest_X3_fails rfl rfl rfl (by decide +kernel) ⟨(Nat.le_of_ble_eq_true rfl), (Nat.le_of_ble_eq_true rfl)⟩ ⟨(Nat.le_of_ble_eq_true rfl), (Nat.le_of_ble_eq_true rfl)⟩ 0 rfl rfl rfl rfl (Nat.le_of_ble_eq_true rfl) dX3_nest_47 ?_
    refine kr_if_eq C 55 dX3_nest_50 (by decide) (fun hc => ?_) (fun hc => ?_)
    · have h := (if_pos hc).symm.trans h
      refine kr_aload_n C 0 dX3_nest_55 rfl rfl ?_
      refine kr_get C inX3_nest_X3 0 rfl rfl 5 (by decide) flX3_nest_24 rfl rfl dX3_nest_56 ?_
      refine kr_bipush C (v := 6) dX3_nest_59 (by decide) ?_
      refine kr_iload_n C 1 dX3_nest_61 rfl rfl ?_
      refine kr_imul C dX3_nest_62 ?_
      refine kr_iload_n C 2 dX3_nest_63 rfl rfl ?_
      refine kr_iadd C dX3_nest_64 ?_
      refine kr_iload_n C 3 dX3_nest_65 rfl rfl ?_
      refine kr_iconst C (v := -1) dX3_nest_66 (by decide) ?_
      refine kr_icmp_ne C 76 dX3_nest_67 (by decide) (fun hc => ?_) (fun hc => ?_)
      · have h := (if_pos hc).symm.trans h
        refine kr_sipush C (v := 9999) dX3_nest_70 (by decide) ?_
        refine kr_goto C 77 dX3_nest_73 (by decide) ?_
        obtain ⟨hb16, h⟩ := kif h
        refine kr_iast C 4 rfl (kin_in hb16) (yq5 _ _ _ _ _) dX3_nest_77 ?_
        refine kr_iconst C (v := 0) dX3_nest_78 (by decide) ?_
        refine kr_istore C [1, 2, 3, 4, 0] dX3_nest_79 (by decide) rfl ?_
        refine kr_iconst C (v := 0) dX3_nest_81 (by decide) ?_
        refine kr_istore C [1, 2, 3, 4, 5, 0] dX3_nest_82 (by decide) rfl ?_
        refine kr_sub [0, 2, 4, 5] rfl ?_
        exact lc_X3_nest_L84 C _ _ _ _ h
      have h := (if_neg hc).symm.trans h
      refine kr_iload_n C 3 dX3_nest_76 rfl rfl ?_
      obtain ⟨hb17, h⟩ := kif h
      refine kr_iast C 4 rfl (kin_in hb17) (yq5 _ _ _ _ _) dX3_nest_77 ?_
      refine kr_iconst C (v := 0) dX3_nest_78 (by decide) ?_
      refine kr_istore C [1, 2, 3, 4, 0] dX3_nest_79 (by decide) rfl ?_
      refine kr_iconst C (v := 0) dX3_nest_81 (by decide) ?_
      refine kr_istore C [1, 2, 3, 4, 5, 0] dX3_nest_82 (by decide) rfl ?_
      refine kr_sub [0, 2, 4, 5] rfl ?_
      exact lc_X3_nest_L84 C _ _ _ _ h
    have h := (if_neg hc).symm.trans h
    refine kr_iconst C (v := 0) dX3_nest_53 (by decide) ?_
    cases h
    exact kr_ret_i C (Nat.le_of_ble_eq_true rfl) (Nat.le_of_ble_eq_true rfl) dX3_nest_54
  have h := (if_neg hc).symm.trans h
  refine kr_iconst C (v := 1) dX3_nest_17 (by decide) ?_
  refine kr_goto C 47 dX3_nest_18 (by decide) ?_
  obtain ⟨v18, hv18, h⟩ := kob h
  refine kr_callV1 C (k := 1) (As := [.int (1 : Int32)]) (rest := []) (c_X3_fails hv18) gX3_nest_X3_fails rfl rfl rfl (by decide +kernel) ⟨(Nat.le_of_ble_eq_true rfl), (Nat.le_of_ble_eq_true rfl)⟩ ⟨(Nat.le_of_ble_eq_true rfl), (Nat.le_of_ble_eq_true rfl)⟩ 0 rfl rfl rfl rfl (Nat.le_of_ble_eq_true rfl) dX3_nest_47 ?_
  refine kr_if_eq C 55 dX3_nest_50 (by decide) (fun hc => ?_) (fun hc => ?_)
  · have h := (if_pos hc).symm.trans h
    refine kr_aload_n C 0 dX3_nest_55 rfl rfl ?_
    refine kr_get C inX3_nest_X3 0 rfl rfl 5 (by decide) flX3_nest_24 rfl rfl dX3_nest_56 ?_
    refine kr_bipush C (v := 6) dX3_nest_59 (by decide) ?_
    refine kr_iload_n C 1 dX3_nest_61 rfl rfl ?_
    refine kr_imul C dX3_nest_62 ?_
    refine kr_iload_n C 2 dX3_nest_63 rfl rfl ?_
    refine kr_iadd C dX3_nest_64 ?_
    refine kr_iload_n C 3 dX3_nest_65 rfl rfl ?_
    refine kr_iconst C (v := -1) dX3_nest_66 (by decide) ?_
    refine kr_icmp_ne C 76 dX3_nest_67 (by decide) (fun hc => ?_) (fun hc => ?_)
    · have h := (if_pos hc).symm.trans h
      refine kr_sipush C (v := 9999) dX3_nest_70 (by decide) ?_
      refine kr_goto C 77 dX3_nest_73 (by decide) ?_
      obtain ⟨hb19, h⟩ := kif h
      refine kr_iast C 4 rfl (kin_in hb19) (yq5 _ _ _ _ _) dX3_nest_77 ?_
      refine kr_iconst C (v := 0) dX3_nest_78 (by decide) ?_
      refine kr_istore C [1, 2, 3, 4, 0] dX3_nest_79 (by decide) rfl ?_
      refine kr_iconst C (v := 0) dX3_nest_81 (by decide) ?_
      refine kr_istore C [1, 2, 3, 4, 5, 0] dX3_nest_82 (by decide) rfl ?_
      refine kr_sub [0, 2, 4, 5] rfl ?_
      exact lc_X3_nest_L84 C _ _ _ _ h
    have h := (if_neg hc).symm.trans h
    refine kr_iload_n C 3 dX3_nest_76 rfl rfl ?_
    obtain ⟨hb20, h⟩ := kif h
    refine kr_iast C 4 rfl (kin_in hb20) (yq5 _ _ _ _ _) dX3_nest_77 ?_
    refine kr_iconst C (v := 0) dX3_nest_78 (by decide) ?_
    refine kr_istore C [1, 2, 3, 4, 0] dX3_nest_79 (by decide) rfl ?_
    refine kr_iconst C (v := 0) dX3_nest_81 (by decide) ?_
    refine kr_istore C [1, 2, 3, 4, 5, 0] dX3_nest_82 (by decide) rfl ?_
    refine kr_sub [0, 2, 4, 5] rfl ?_
    exact lc_X3_nest_L84 C _ _ _ _ h
  have h := (if_neg hc).symm.trans h
  refine kr_iconst C (v := 0) dX3_nest_53 (by decide) ?_
  cases h
  exact kr_ret_i C (Nat.le_of_ble_eq_true rfl) (Nat.le_of_ble_eq_true rfl) dX3_nest_54
theorem flX3_openShare_64 : Cond.fieldLink RX3 64 "FolderKeeperModel" "folders" "I" ∈ wsX3_openShare := by decide +kernel
theorem inX3_openShare_X3 : ∀ w ∈ wsX30, w ∈ wsX3_openShare := fun _ h => List.mem_cons_of_mem _ (List.mem_append_left _ (List.mem_append_right _ h))
theorem flX3_openShare_7 : Cond.fieldLink RX3 7 "FolderKeeperModel" "accounts" "I" ∈ wsX3_openShare := by decide +kernel
set_option maxHeartbeats 4000000 in
set_option maxRecDepth 100000 in
theorem lc_X3_openShare_L35 {K : kEnv} {l : Launch} {D : va_G} {cy : Nat → ClassId} {A : Nat → Prop} {a : Nat → Nat} {Z : va_W} {r : (Int32 × kSt)} {Q : State → Prop} (C : kC K D cy A 4 cX3_openShare RX3 wsX3_openShare (some .float)) : ∀ (n : Nat) (S : kSt) (x1 x2 x3 : Int32), f_X3_openShare_L35 n S x1 x2 x3 = some r → kG K l D A ({ frames := 12, cells := 0, slots := 0, locals := 278 } : Room) 4 Q (yw a cy r.2 Z) 0 0 66 [(0, .ref (a 0)), (1, .int (r.1)), (2, .int (x2))] [] → kG K l D A ({ frames := 12, cells := 0, slots := 0, locals := 278 } : Room) 4 Q (yw a cy S Z) 0 0 35 [(0, .ref (a 0)), (1, .int (x1)), (2, .int (x2)), (3, .int (x3))] [] := by
  intro n
  induction n with
  | zero => intro S x1 x2 x3 h kk; rw [f_X3_openShare_L35] at h; cases h
  | succ n ih =>
    intro S x1 x2 x3 h kk
    rw [f_X3_openShare_L35] at h
    refine kr_iload_n C 3 dX3_openShare_35 rfl rfl ?_
    refine kr_aload_n C 0 dX3_openShare_36 rfl rfl ?_
    refine kr_get C inX3_openShare_X3 0 rfl rfl 7 (by decide) flX3_openShare_64 rfl rfl dX3_openShare_37 ?_
    refine kr_icmp_ge C 66 dX3_openShare_40 (by decide) (fun hc => ?_) (fun hc => ?_)
    · have h := (if_pos hc).symm.trans h
      cases h
      refine kr_sub [0, 1, 2] rfl ?_
      exact kk
    have h := (if_neg hc).symm.trans h
    refine kr_iload_n C 1 dX3_openShare_43 rfl rfl ?_
    refine kr_aload_n C 0 dX3_openShare_44 rfl rfl ?_
    refine kr_iload_n C 2 dX3_openShare_45 rfl rfl ?_
    refine kr_iload_n C 3 dX3_openShare_46 rfl rfl ?_
    obtain ⟨v4, hv4, h⟩ := kob h
    refine kr_callV1 C (k := 2) (As := [.int x2, .int x3]) (rest := [.int (x1)]) (c_X3_rightOf hv4) gX3_openShare_X3_rightOf rfl rfl rfl (by decide +kernel) ⟨(Nat.le_of_ble_eq_true rfl), (Nat.le_of_ble_eq_true rfl)⟩ ⟨(Nat.le_of_ble_eq_true rfl), (Nat.le_of_ble_eq_true rfl)⟩ 0 rfl rfl rfl rfl (Nat.le_of_ble_eq_true rfl) dX3_openShare_47 ?_
    refine kr_if_le C 57 dX3_openShare_50 (by decide) (fun hc => ?_) (fun hc => ?_)
    · have h := (if_pos hc).symm.trans h
      refine kr_iconst C (v := 0) dX3_openShare_57 (by decide) ?_
      refine kr_iadd C dX3_openShare_58 ?_
      refine kr_istore_n C [1, 0, 2, 3] dX3_openShare_59 rfl (by decide) rfl ?_
      refine kr_iinc C (v := (x3 + 1)) 3 [1, 2, 3, 0] dX3_openShare_60 rfl rfl (by decide) rfl ?_
      refine kr_goto C 35 dX3_openShare_63 (by decide) ?_
      exact ih _ _ _ _ h kk
    have h := (if_neg hc).symm.trans h
    refine kr_iconst C (v := 1) dX3_openShare_53 (by decide) ?_
    refine kr_goto C 58 dX3_openShare_54 (by decide) ?_
    refine kr_iadd C dX3_openShare_58 ?_
    refine kr_istore_n C [1, 0, 2, 3] dX3_openShare_59 rfl (by decide) rfl ?_
    refine kr_iinc C (v := (x3 + 1)) 3 [1, 2, 3, 0] dX3_openShare_60 rfl rfl (by decide) rfl ?_
    refine kr_goto C 35 dX3_openShare_63 (by decide) ?_
    exact ih _ _ _ _ h kk
set_option maxHeartbeats 4000000 in
set_option maxRecDepth 100000 in
theorem lc_X3_openShare_L25 {K : kEnv} {l : Launch} {D : va_G} {cy : Nat → ClassId} {A : Nat → Prop} {a : Nat → Nat} {Z : va_W} {r : (UInt32 × kSt)} (C : kC K D cy A 4 cX3_openShare RX3 wsX3_openShare (some .float)) : ∀ (n : Nat) (S : kSt) (x1 x2 : Int32), f_X3_openShare_L25 n S x1 x2 = some r → kG K l D A ({ frames := 12, cells := 0, slots := 0, locals := 278 } : Room) 4 (kEnd K D cy A (yw a cy r.2 Z) (some (.float r.1)) 0 0) (yw a cy S Z) 0 0 25 [(0, .ref (a 0)), (1, .int (x1)), (2, .int (x2))] [] := by
  intro n
  induction n with
  | zero => intro S x1 x2 h; rw [f_X3_openShare_L25] at h; cases h
  | succ n ih =>
    intro S x1 x2 h
    rw [f_X3_openShare_L25] at h
    refine kr_iload_n C 2 dX3_openShare_25 rfl rfl ?_
    refine kr_aload_n C 0 dX3_openShare_26 rfl rfl ?_
    refine kr_get C inX3_openShare_X3 0 rfl rfl 0 (by decide) flX3_openShare_7 rfl rfl dX3_openShare_27 ?_
    refine kr_icmp_ge C 72 dX3_openShare_30 (by decide) (fun hc => ?_) (fun hc => ?_)
    · have h := (if_pos hc).symm.trans h
      refine kr_iload_n C 1 dX3_openShare_72 rfl rfl ?_
      refine kr_i2f C dX3_openShare_73 ?_
      refine kr_aload_n C 0 dX3_openShare_74 rfl rfl ?_
      obtain ⟨v2, hv2, h⟩ := kob h
      refine kr_callV1 C (k := 0) (As := []) (rest := [.float ((FP.i2f x1))]) (c_X3_actives hv2) gX3_openShare_X3_actives rfl rfl rfl (by decide +kernel) ⟨(Nat.le_of_ble_eq_true rfl), (Nat.le_of_ble_eq_true rfl)⟩ ⟨(Nat.le_of_ble_eq_true rfl), (Nat.le_of_ble_eq_true rfl)⟩ 0 rfl rfl rfl rfl (Nat.le_of_ble_eq_true rfl) dX3_openShare_75 ?_
      refine kr_aload_n C 0 dX3_openShare_78 rfl rfl ?_
      refine kr_get C inX3_openShare_X3 0 rfl rfl 7 (by decide) flX3_openShare_64 rfl rfl dX3_openShare_79 ?_
      refine kr_imul C dX3_openShare_82 ?_
      refine kr_i2f C dX3_openShare_83 ?_
      obtain ⟨hb3, h⟩ := kif h
      refine kr_fdiv C dX3_openShare_84 (kn32_of hb3) ?_
      cases h
      exact kr_ret_f C (Nat.le_of_ble_eq_true rfl) (Nat.le_of_ble_eq_true rfl) dX3_openShare_85
    have h := (if_neg hc).symm.trans h
    refine kr_iconst C (v := 0) dX3_openShare_33 (by decide) ?_
    refine kr_istore_n C [1, 2, 3, 0] dX3_openShare_34 rfl (by decide) rfl ?_
    obtain ⟨q5, hq5, h⟩ := kob h
    refine lc_X3_openShare_L35 C _ _ _ _ _ hq5 ?_
    refine kr_iinc C (v := (x2 + 1)) 2 [1, 2, 0] dX3_openShare_66 rfl rfl (by decide) rfl ?_
    refine kr_goto C 25 dX3_openShare_69 (by decide) ?_
    exact ih _ _ _ h
set_option maxHeartbeats 4000000 in
set_option maxRecDepth 100000 in
theorem c_X3_openShare {l : Launch} {D : va_G} {cy : Nat → ClassId} {a : Nat → Nat} {Z : va_W} {S : kSt} {r : (UInt32 × kSt)} (h : f_X3_openShare S = some r) : kM l yX3_openShare wsX3_openShare ({ frames := 12, cells := 0, slots := 0, locals := 278 } : Room) D cy (yw a cy S Z) [.ref (a 0)] (yw a cy r.2 Z) (some (.float r.1)) 0 0 := by
  rw [f_X3_openShare] at h
  refine kM.start (L := [(0, .ref (a 0))]) rfl rfl rfl (Nat.le_of_ble_eq_true rfl) rfl (fun K A C => ?_)
  refine kr_aload_n C 0 dX3_openShare_0 rfl rfl ?_
  refine kr_aload_n C 0 dX3_openShare_1 rfl rfl ?_
  refine kr_get C inX3_openShare_X3 0 rfl rfl 7 (by decide) flX3_openShare_64 rfl rfl dX3_openShare_2 ?_
  refine kr_if_ne C 12 dX3_openShare_5 (by decide) (fun hc => ?_) (fun hc => ?_)
  · have h := (if_pos hc).symm.trans h
    refine kr_iconst C (v := 1) dX3_openShare_8 (by decide) ?_
    refine kr_goto C 13 dX3_openShare_9 (by decide) ?_
    obtain ⟨v1, hv1, h⟩ := kob h
    refine kr_callV1 C (k := 1) (As := [.int (1 : Int32)]) (rest := []) (c_X3_fails hv1) gX3_openShare_X3_fails rfl rfl rfl (by decide +kernel) ⟨(Nat.le_of_ble_eq_true rfl), (Nat.le_of_ble_eq_true rfl)⟩ ⟨(Nat.le_of_ble_eq_true rfl), (Nat.le_of_ble_eq_true rfl)⟩ 0 rfl rfl rfl rfl (Nat.le_of_ble_eq_true rfl) dX3_openShare_13 ?_
    refine kr_if_eq C 21 dX3_openShare_16 (by decide) (fun hc => ?_) (fun hc => ?_)
    · have h := (if_pos hc).symm.trans h
      refine kr_iconst C (v := 0) dX3_openShare_21 (by decide) ?_
      refine kr_istore_n C [1, 0] dX3_openShare_22 rfl (by decide) rfl ?_
      refine kr_iconst C (v := 0) dX3_openShare_23 (by decide) ?_
      refine kr_istore_n C [1, 2, 0] dX3_openShare_24 rfl (by decide) rfl ?_
      exact lc_X3_openShare_L25 C _ _ _ _ h
    have h := (if_neg hc).symm.trans h
    refine kr_fconst0 C dX3_openShare_19 ?_
    cases h
    exact kr_ret_f C (Nat.le_of_ble_eq_true rfl) (Nat.le_of_ble_eq_true rfl) dX3_openShare_20
  have h := (if_neg hc).symm.trans h
  refine kr_iconst C (v := 0) dX3_openShare_12 (by decide) ?_
  obtain ⟨v6, hv6, h⟩ := kob h
  refine kr_callV1 C (k := 1) (As := [.int (0 : Int32)]) (rest := []) (c_X3_fails hv6) gX3_openShare_X3_fails rfl rfl rfl (by decide +kernel) ⟨(Nat.le_of_ble_eq_true rfl), (Nat.le_of_ble_eq_true rfl)⟩ ⟨(Nat.le_of_ble_eq_true rfl), (Nat.le_of_ble_eq_true rfl)⟩ 0 rfl rfl rfl rfl (Nat.le_of_ble_eq_true rfl) dX3_openShare_13 ?_
  refine kr_if_eq C 21 dX3_openShare_16 (by decide) (fun hc => ?_) (fun hc => ?_)
  · have h := (if_pos hc).symm.trans h
    refine kr_iconst C (v := 0) dX3_openShare_21 (by decide) ?_
    refine kr_istore_n C [1, 0] dX3_openShare_22 rfl (by decide) rfl ?_
    refine kr_iconst C (v := 0) dX3_openShare_23 (by decide) ?_
    refine kr_istore_n C [1, 2, 0] dX3_openShare_24 rfl (by decide) rfl ?_
    exact lc_X3_openShare_L25 C _ _ _ _ h
  have h := (if_neg hc).symm.trans h
  refine kr_fconst0 C dX3_openShare_19 ?_
  cases h
  exact kr_ret_f C (Nat.le_of_ble_eq_true rfl) (Nat.le_of_ble_eq_true rfl) dX3_openShare_20
theorem flX3_owner_30 : Cond.fieldLink RX3 30 "FolderKeeperModel" "owners" "[I" ∈ wsX3_owner := by decide +kernel
theorem inX3_owner_X3 : ∀ w ∈ wsX30, w ∈ wsX3_owner := fun _ h => List.mem_cons_of_mem _ (List.mem_append_left _ (List.mem_append_right _ h))
set_option maxHeartbeats 4000000 in
set_option maxRecDepth 100000 in
theorem c_X3_owner {l : Launch} {D : va_G} {cy : Nat → ClassId} {a : Nat → Nat} {Z : va_W} {S : kSt} {p1 : Int32} {r : (Int32 × kSt)} (h : f_X3_owner S p1 = some r) : kM l yX3_owner wsX3_owner ({ frames := 2, cells := 0, slots := 0, locals := 43 } : Room) D cy (yw a cy S Z) [.ref (a 0), .int p1] (yw a cy r.2 Z) (some (.int r.1)) 0 0 := by
  rw [f_X3_owner] at h
  refine kM.start (L := [(0, .ref (a 0)), (1, .int (p1))]) rfl rfl rfl (Nat.le_of_ble_eq_true rfl) rfl (fun K A C => ?_)
  refine kr_aload_n C 0 dX3_owner_0 rfl rfl ?_
  refine kr_aload_n C 0 dX3_owner_1 rfl rfl ?_
  refine kr_iload_n C 1 dX3_owner_2 rfl rfl ?_
  obtain ⟨v1, hv1, h⟩ := kob h
  refine kr_callV1 C (k := 1) (As := [.int p1]) (rest := [.ref (a 0)]) (c_X3_isNoFolder hv1) gX3_owner_X3_isNoFolder rfl rfl rfl (by decide +kernel) ⟨(Nat.le_of_ble_eq_true rfl), (Nat.le_of_ble_eq_true rfl)⟩ ⟨(Nat.le_of_ble_eq_true rfl), (Nat.le_of_ble_eq_true rfl)⟩ 0 rfl rfl rfl rfl (Nat.le_of_ble_eq_true rfl) dX3_owner_3 ?_
  refine kr_if_eq C 13 dX3_owner_6 (by decide) (fun hc => ?_) (fun hc => ?_)
  · have h := (if_pos hc).symm.trans h
    refine kr_iconst C (v := 0) dX3_owner_13 (by decide) ?_
    obtain ⟨v2, hv2, h⟩ := kob h
    refine kr_callV1 C (k := 1) (As := [.int (0 : Int32)]) (rest := []) (c_X3_fails hv2) gX3_owner_X3_fails rfl rfl rfl (by decide +kernel) ⟨(Nat.le_of_ble_eq_true rfl), (Nat.le_of_ble_eq_true rfl)⟩ ⟨(Nat.le_of_ble_eq_true rfl), (Nat.le_of_ble_eq_true rfl)⟩ 0 rfl rfl rfl rfl (Nat.le_of_ble_eq_true rfl) dX3_owner_14 ?_
    refine kr_if_eq C 24 dX3_owner_17 (by decide) (fun hc => ?_) (fun hc => ?_)
    · have h := (if_pos hc).symm.trans h
      refine kr_aload_n C 0 dX3_owner_24 rfl rfl ?_
      refine kr_get C inX3_owner_X3 0 rfl rfl 8 (by decide) flX3_owner_30 rfl rfl dX3_owner_25 ?_
      refine kr_iload_n C 1 dX3_owner_28 rfl rfl ?_
      obtain ⟨hb3, h⟩ := kif h
      refine kr_iald C 6 rfl (kin_in hb3) dX3_owner_29 ?_
      cases h
      exact kr_ret_i C (Nat.le_of_ble_eq_true rfl) (Nat.le_of_ble_eq_true rfl) dX3_owner_30
    have h := (if_neg hc).symm.trans h
    refine kr_iconst C (v := 0) dX3_owner_20 (by decide) ?_
    refine kr_goto C 30 dX3_owner_21 (by decide) ?_
    cases h
    exact kr_ret_i C (Nat.le_of_ble_eq_true rfl) (Nat.le_of_ble_eq_true rfl) dX3_owner_30
  have h := (if_neg hc).symm.trans h
  refine kr_iconst C (v := 1) dX3_owner_9 (by decide) ?_
  refine kr_goto C 14 dX3_owner_10 (by decide) ?_
  obtain ⟨v4, hv4, h⟩ := kob h
  refine kr_callV1 C (k := 1) (As := [.int (1 : Int32)]) (rest := []) (c_X3_fails hv4) gX3_owner_X3_fails rfl rfl rfl (by decide +kernel) ⟨(Nat.le_of_ble_eq_true rfl), (Nat.le_of_ble_eq_true rfl)⟩ ⟨(Nat.le_of_ble_eq_true rfl), (Nat.le_of_ble_eq_true rfl)⟩ 0 rfl rfl rfl rfl (Nat.le_of_ble_eq_true rfl) dX3_owner_14 ?_
  refine kr_if_eq C 24 dX3_owner_17 (by decide) (fun hc => ?_) (fun hc => ?_)
  · have h := (if_pos hc).symm.trans h
    refine kr_aload_n C 0 dX3_owner_24 rfl rfl ?_
    refine kr_get C inX3_owner_X3 0 rfl rfl 8 (by decide) flX3_owner_30 rfl rfl dX3_owner_25 ?_
    refine kr_iload_n C 1 dX3_owner_28 rfl rfl ?_
    obtain ⟨hb5, h⟩ := kif h
    refine kr_iald C 6 rfl (kin_in hb5) dX3_owner_29 ?_
    cases h
    exact kr_ret_i C (Nat.le_of_ble_eq_true rfl) (Nat.le_of_ble_eq_true rfl) dX3_owner_30
  have h := (if_neg hc).symm.trans h
  refine kr_iconst C (v := 0) dX3_owner_20 (by decide) ?_
  refine kr_goto C 30 dX3_owner_21 (by decide) ?_
  cases h
  exact kr_ret_i C (Nat.le_of_ble_eq_true rfl) (Nat.le_of_ble_eq_true rfl) dX3_owner_30
theorem flX3_pass_74 : Cond.fieldLink RX3 74 "FolderKeeperModel" "day" "I" ∈ wsX3_pass := by decide +kernel
theorem inX3_pass_X3 : ∀ w ∈ wsX30, w ∈ wsX3_pass := fun _ h => List.mem_cons_of_mem _ (List.mem_append_left _ (List.mem_append_right _ h))
theorem flX3_pass_24 : Cond.fieldLink RX3 24 "FolderKeeperModel" "nestEnds" "[I" ∈ wsX3_pass := by decide +kernel
theorem flX3_pass_21 : Cond.fieldLink RX3 21 "FolderKeeperModel" "memberEnds" "[I" ∈ wsX3_pass := by decide +kernel
set_option maxHeartbeats 4000000 in
set_option maxRecDepth 100000 in
theorem lc_X3_pass_L99 {K : kEnv} {l : Launch} {D : va_G} {cy : Nat → ClassId} {A : Nat → Prop} {a : Nat → Nat} {Z : va_W} {r : (Int32 × kSt)} (C : kC K D cy A 4 cX3_pass RX3 wsX3_pass (some .int)) : ∀ (n : Nat) (S : kSt) (x2 x3 : Int32), f_X3_pass_L99 n S x2 x3 = some r → kG K l D A ({ frames := 1, cells := 0, slots := 0, locals := 22 } : Room) 4 (kEnd K D cy A (yw a cy r.2 Z) (some (.int r.1)) 0 0) (yw a cy S Z) 0 0 99 [(0, .ref (a 0)), (2, .int (x2)), (3, .int (x3))] [] := by
  intro n
  induction n with
  | zero => intro S x2 x3 h; rw [f_X3_pass_L99] at h; cases h
  | succ n ih =>
    intro S x2 x3 h
    rw [f_X3_pass_L99] at h
    refine kr_iload_n C 2 dX3_pass_99 rfl rfl ?_
    refine kr_bipush C (v := 36) dX3_pass_100 (by decide) ?_
    refine kr_icmp_ge C 146 dX3_pass_102 (by decide) (fun hc => ?_) (fun hc => ?_)
    · have h := (if_pos hc).symm.trans h
      refine kr_iload_n C 1 dX3_pass_146 rfl rfl ?_
      cases h
      exact kr_ret_i C (Nat.le_of_ble_eq_true rfl) (Nat.le_of_ble_eq_true rfl) dX3_pass_147
    have h := (if_neg hc).symm.trans h
    refine kr_aload_n C 0 dX3_pass_105 rfl rfl ?_
    refine kr_get C inX3_pass_X3 0 rfl rfl 5 (by decide) flX3_pass_24 rfl rfl dX3_pass_106 ?_
    refine kr_iload_n C 2 dX3_pass_109 rfl rfl ?_
    obtain ⟨hb3, h⟩ := kif h
    refine kr_iald C 4 rfl (kin_in hb3) dX3_pass_110 ?_
    refine kr_if_eq C 140 dX3_pass_111 (by decide) (fun hc => ?_) (fun hc => ?_)
    · have h := (if_pos hc).symm.trans h
      refine kr_iinc C (v := (x3 + 1)) 2 [1, 2, 0] dX3_pass_140 rfl rfl (by decide) rfl ?_
      refine kr_goto C 99 dX3_pass_143 (by decide) ?_
      exact ih _ _ _ h
    have h := (if_neg hc).symm.trans h
    refine kr_aload_n C 0 dX3_pass_114 rfl rfl ?_
    refine kr_get C inX3_pass_X3 0 rfl rfl 5 (by decide) flX3_pass_24 rfl rfl dX3_pass_115 ?_
    refine kr_iload_n C 2 dX3_pass_118 rfl rfl ?_
    obtain ⟨hb4, h⟩ := kif h
    refine kr_iald C 4 rfl (kin_in hb4) dX3_pass_119 ?_
    refine kr_aload_n C 0 dX3_pass_120 rfl rfl ?_
    refine kr_get C inX3_pass_X3 0 rfl rfl 17 (by decide) flX3_pass_74 rfl rfl dX3_pass_121 ?_
    refine kr_icmp_le C 130 dX3_pass_124 (by decide) (fun hc => ?_) (fun hc => ?_)
    · have h := (if_pos hc).symm.trans h
      refine kr_aload_n C 0 dX3_pass_130 rfl rfl ?_
      refine kr_get C inX3_pass_X3 0 rfl rfl 5 (by decide) flX3_pass_24 rfl rfl dX3_pass_131 ?_
      refine kr_iload_n C 2 dX3_pass_134 rfl rfl ?_
      refine kr_iconst C (v := 0) dX3_pass_135 (by decide) ?_
      obtain ⟨hb5, h⟩ := kif h
      refine kr_iast C 4 rfl (kin_in hb5) (yq5 _ _ _ _ _) dX3_pass_136 ?_
      refine kr_iinc C (v := (x2 + 1)) 1 [1, 0, 2] dX3_pass_137 rfl rfl (by decide) rfl ?_
      refine kr_iinc C (v := (x3 + 1)) 2 [1, 2, 0] dX3_pass_140 rfl rfl (by decide) rfl ?_
      refine kr_goto C 99 dX3_pass_143 (by decide) ?_
      exact ih _ _ _ h
    have h := (if_neg hc).symm.trans h
    refine kr_goto C 140 dX3_pass_127 (by decide) ?_
    refine kr_iinc C (v := (x3 + 1)) 2 [1, 2, 0] dX3_pass_140 rfl rfl (by decide) rfl ?_
    refine kr_goto C 99 dX3_pass_143 (by decide) ?_
    exact ih _ _ _ h
set_option maxHeartbeats 4000000 in
set_option maxRecDepth 100000 in
theorem lc_X3_pass_L50 {K : kEnv} {l : Launch} {D : va_G} {cy : Nat → ClassId} {A : Nat → Prop} {a : Nat → Nat} {Z : va_W} {r : (Int32 × kSt)} (C : kC K D cy A 4 cX3_pass RX3 wsX3_pass (some .int)) : ∀ (n : Nat) (S : kSt) (x2 x3 : Int32), f_X3_pass_L50 n S x2 x3 = some r → kG K l D A ({ frames := 1, cells := 0, slots := 0, locals := 22 } : Room) 4 (kEnd K D cy A (yw a cy r.2 Z) (some (.int r.1)) 0 0) (yw a cy S Z) 0 0 50 [(0, .ref (a 0)), (2, .int (x2)), (3, .int (x3))] [] := by
  intro n
  induction n with
  | zero => intro S x2 x3 h; rw [f_X3_pass_L50] at h; cases h
  | succ n ih =>
    intro S x2 x3 h
    rw [f_X3_pass_L50] at h
    refine kr_iload_n C 2 dX3_pass_50 rfl rfl ?_
    refine kr_bipush C (v := 60) dX3_pass_51 (by decide) ?_
    refine kr_icmp_ge C 97 dX3_pass_53 (by decide) (fun hc => ?_) (fun hc => ?_)
    · have h := (if_pos hc).symm.trans h
      refine kr_iconst C (v := 0) dX3_pass_97 (by decide) ?_
      refine kr_istore_n C [1, 2, 0] dX3_pass_98 rfl (by decide) rfl ?_
      exact lc_X3_pass_L99 C _ _ _ _ h
    have h := (if_neg hc).symm.trans h
    refine kr_aload_n C 0 dX3_pass_56 rfl rfl ?_
    refine kr_get C inX3_pass_X3 0 rfl rfl 4 (by decide) flX3_pass_21 rfl rfl dX3_pass_57 ?_
    refine kr_iload_n C 2 dX3_pass_60 rfl rfl ?_
    obtain ⟨hb6, h⟩ := kif h
    refine kr_iald C 3 rfl (kin_in hb6) dX3_pass_61 ?_
    refine kr_if_eq C 91 dX3_pass_62 (by decide) (fun hc => ?_) (fun hc => ?_)
    · have h := (if_pos hc).symm.trans h
      refine kr_iinc C (v := (x3 + 1)) 2 [1, 2, 0] dX3_pass_91 rfl rfl (by decide) rfl ?_
      refine kr_goto C 50 dX3_pass_94 (by decide) ?_
      exact ih _ _ _ h
    have h := (if_neg hc).symm.trans h
    refine kr_aload_n C 0 dX3_pass_65 rfl rfl ?_
    refine kr_get C inX3_pass_X3 0 rfl rfl 4 (by decide) flX3_pass_21 rfl rfl dX3_pass_66 ?_
    refine kr_iload_n C 2 dX3_pass_69 rfl rfl ?_
    obtain ⟨hb7, h⟩ := kif h
    refine kr_iald C 3 rfl (kin_in hb7) dX3_pass_70 ?_
    refine kr_aload_n C 0 dX3_pass_71 rfl rfl ?_
    refine kr_get C inX3_pass_X3 0 rfl rfl 17 (by decide) flX3_pass_74 rfl rfl dX3_pass_72 ?_
    refine kr_icmp_le C 81 dX3_pass_75 (by decide) (fun hc => ?_) (fun hc => ?_)
    · have h := (if_pos hc).symm.trans h
      refine kr_aload_n C 0 dX3_pass_81 rfl rfl ?_
      refine kr_get C inX3_pass_X3 0 rfl rfl 4 (by decide) flX3_pass_21 rfl rfl dX3_pass_82 ?_
      refine kr_iload_n C 2 dX3_pass_85 rfl rfl ?_
      refine kr_iconst C (v := 0) dX3_pass_86 (by decide) ?_
      obtain ⟨hb8, h⟩ := kif h
      refine kr_iast C 3 rfl (kin_in hb8) (yq4 _ _ _ _ _) dX3_pass_87 ?_
      refine kr_iinc C (v := (x2 + 1)) 1 [1, 0, 2] dX3_pass_88 rfl rfl (by decide) rfl ?_
      refine kr_iinc C (v := (x3 + 1)) 2 [1, 2, 0] dX3_pass_91 rfl rfl (by decide) rfl ?_
      refine kr_goto C 50 dX3_pass_94 (by decide) ?_
      exact ih _ _ _ h
    have h := (if_neg hc).symm.trans h
    refine kr_goto C 91 dX3_pass_78 (by decide) ?_
    refine kr_iinc C (v := (x3 + 1)) 2 [1, 2, 0] dX3_pass_91 rfl rfl (by decide) rfl ?_
    refine kr_goto C 50 dX3_pass_94 (by decide) ?_
    exact ih _ _ _ h
set_option maxHeartbeats 4000000 in
set_option maxRecDepth 100000 in
theorem c_X3_pass {l : Launch} {D : va_G} {cy : Nat → ClassId} {a : Nat → Nat} {Z : va_W} {S : kSt} {p1 : Int32} {r : (Int32 × kSt)} (h : f_X3_pass S p1 = some r) : kM l yX3_pass wsX3_pass ({ frames := 1, cells := 0, slots := 0, locals := 22 } : Room) D cy (yw a cy S Z) [.ref (a 0), .int p1] (yw a cy r.2 Z) (some (.int r.1)) 0 0 := by
  rw [f_X3_pass] at h
  refine kM.start (L := [(0, .ref (a 0)), (1, .int (p1))]) rfl rfl rfl (Nat.le_of_ble_eq_true rfl) rfl (fun K A C => ?_)
  refine kr_aload_n C 0 dX3_pass_0 rfl rfl ?_
  refine kr_iload_n C 1 dX3_pass_1 rfl rfl ?_
  refine kr_iconst C (v := 1) dX3_pass_2 (by decide) ?_
  refine kr_bipush C (v := 99) dX3_pass_3 (by decide) ?_
  obtain ⟨v1, hv1, h⟩ := kob h
  refine kr_callS1 C (k := 3) (As := [.int p1, .int (1 : Int32), .int (99 : Int32)]) (rest := [.ref (a 0)]) (c_X3_in hv1) gX3_pass_X3_in rfl rfl rfl (by decide +kernel) ⟨(Nat.le_of_ble_eq_true rfl), (Nat.le_of_ble_eq_true rfl)⟩ ⟨(Nat.le_of_ble_eq_true rfl), (Nat.le_of_ble_eq_true rfl)⟩ rfl rfl (Nat.le_of_ble_eq_true rfl) dX3_pass_5 ?_
  refine kr_if_eq C 27 dX3_pass_8 (by decide) (fun hc => ?_) (fun hc => ?_)
  · have h := (if_pos hc).symm.trans h
    refine kr_iconst C (v := 1) dX3_pass_27 (by decide) ?_
    obtain ⟨v2, hv2, h⟩ := kob h
    refine kr_callV1 C (k := 1) (As := [.int (1 : Int32)]) (rest := []) (c_X3_fails hv2) gX3_pass_X3_fails rfl rfl rfl (by decide +kernel) ⟨(Nat.le_of_ble_eq_true rfl), (Nat.le_of_ble_eq_true rfl)⟩ ⟨(Nat.le_of_ble_eq_true rfl), (Nat.le_of_ble_eq_true rfl)⟩ 0 rfl rfl rfl rfl (Nat.le_of_ble_eq_true rfl) dX3_pass_28 ?_
    refine kr_if_eq C 36 dX3_pass_31 (by decide) (fun hc => ?_) (fun hc => ?_)
    · have h := (if_pos hc).symm.trans h
      refine kr_aload_n C 0 dX3_pass_36 rfl rfl ?_
      refine kr_dup C dX3_pass_37 rfl ?_
      refine kr_get C inX3_pass_X3 0 rfl rfl 17 (by decide) flX3_pass_74 rfl rfl dX3_pass_38 ?_
      refine kr_iload_n C 1 dX3_pass_41 rfl rfl ?_
      refine kr_iadd C dX3_pass_42 ?_
      refine kr_put C inX3_pass_X3 tyX3_ok nmX3 0 rfl rfl 17 (by decide) flX3_pass_74 rfl rfl rfl rfl rfl (by show 17 < 19; decide) (yp17 _ _ _ _ _) dX3_pass_43 ?_
      refine kr_iconst C (v := 0) dX3_pass_46 (by decide) ?_
      refine kr_istore_n C [1, 2, 0] dX3_pass_47 rfl (by decide) rfl ?_
      refine kr_iconst C (v := 0) dX3_pass_48 (by decide) ?_
      refine kr_istore_n C [1, 2, 3, 0] dX3_pass_49 rfl (by decide) rfl ?_
      refine kr_sub [0, 2, 3] rfl ?_
      exact lc_X3_pass_L50 C _ _ _ _ h
    have h := (if_neg hc).symm.trans h
    refine kr_iconst C (v := 0) dX3_pass_34 (by decide) ?_
    cases h
    exact kr_ret_i C (Nat.le_of_ble_eq_true rfl) (Nat.le_of_ble_eq_true rfl) dX3_pass_35
  have h := (if_neg hc).symm.trans h
  refine kr_aload_n C 0 dX3_pass_11 rfl rfl ?_
  refine kr_get C inX3_pass_X3 0 rfl rfl 17 (by decide) flX3_pass_74 rfl rfl dX3_pass_12 ?_
  refine kr_iload_n C 1 dX3_pass_15 rfl rfl ?_
  refine kr_iadd C dX3_pass_16 ?_
  refine kr_sipush C (v := 999) dX3_pass_17 (by decide) ?_
  refine kr_icmp_gt C 27 dX3_pass_20 (by decide) (fun hc => ?_) (fun hc => ?_)
  · have h := (if_pos hc).symm.trans h
    refine kr_iconst C (v := 1) dX3_pass_27 (by decide) ?_
    obtain ⟨v9, hv9, h⟩ := kob h
    refine kr_callV1 C (k := 1) (As := [.int (1 : Int32)]) (rest := []) (c_X3_fails hv9) gX3_pass_X3_fails rfl rfl rfl (by decide +kernel) ⟨(Nat.le_of_ble_eq_true rfl), (Nat.le_of_ble_eq_true rfl)⟩ ⟨(Nat.le_of_ble_eq_true rfl), (Nat.le_of_ble_eq_true rfl)⟩ 0 rfl rfl rfl rfl (Nat.le_of_ble_eq_true rfl) dX3_pass_28 ?_
    refine kr_if_eq C 36 dX3_pass_31 (by decide) (fun hc => ?_) (fun hc => ?_)
    · have h := (if_pos hc).symm.trans h
      refine kr_aload_n C 0 dX3_pass_36 rfl rfl ?_
      refine kr_dup C dX3_pass_37 rfl ?_
      refine kr_get C inX3_pass_X3 0 rfl rfl 17 (by decide) flX3_pass_74 rfl rfl dX3_pass_38 ?_
      refine kr_iload_n C 1 dX3_pass_41 rfl rfl ?_
      refine kr_iadd C dX3_pass_42 ?_
      refine kr_put C inX3_pass_X3 tyX3_ok nmX3 0 rfl rfl 17 (by decide) flX3_pass_74 rfl rfl rfl rfl rfl (by show 17 < 19; decide) (yp17 _ _ _ _ _) dX3_pass_43 ?_
      refine kr_iconst C (v := 0) dX3_pass_46 (by decide) ?_
      refine kr_istore_n C [1, 2, 0] dX3_pass_47 rfl (by decide) rfl ?_
      refine kr_iconst C (v := 0) dX3_pass_48 (by decide) ?_
      refine kr_istore_n C [1, 2, 3, 0] dX3_pass_49 rfl (by decide) rfl ?_
      refine kr_sub [0, 2, 3] rfl ?_
      exact lc_X3_pass_L50 C _ _ _ _ h
    have h := (if_neg hc).symm.trans h
    refine kr_iconst C (v := 0) dX3_pass_34 (by decide) ?_
    cases h
    exact kr_ret_i C (Nat.le_of_ble_eq_true rfl) (Nat.le_of_ble_eq_true rfl) dX3_pass_35
  have h := (if_neg hc).symm.trans h
  refine kr_iconst C (v := 0) dX3_pass_23 (by decide) ?_
  refine kr_goto C 28 dX3_pass_24 (by decide) ?_
  obtain ⟨v10, hv10, h⟩ := kob h
  refine kr_callV1 C (k := 1) (As := [.int (0 : Int32)]) (rest := []) (c_X3_fails hv10) gX3_pass_X3_fails rfl rfl rfl (by decide +kernel) ⟨(Nat.le_of_ble_eq_true rfl), (Nat.le_of_ble_eq_true rfl)⟩ ⟨(Nat.le_of_ble_eq_true rfl), (Nat.le_of_ble_eq_true rfl)⟩ 0 rfl rfl rfl rfl (Nat.le_of_ble_eq_true rfl) dX3_pass_28 ?_
  refine kr_if_eq C 36 dX3_pass_31 (by decide) (fun hc => ?_) (fun hc => ?_)
  · have h := (if_pos hc).symm.trans h
    refine kr_aload_n C 0 dX3_pass_36 rfl rfl ?_
    refine kr_dup C dX3_pass_37 rfl ?_
    refine kr_get C inX3_pass_X3 0 rfl rfl 17 (by decide) flX3_pass_74 rfl rfl dX3_pass_38 ?_
    refine kr_iload_n C 1 dX3_pass_41 rfl rfl ?_
    refine kr_iadd C dX3_pass_42 ?_
    refine kr_put C inX3_pass_X3 tyX3_ok nmX3 0 rfl rfl 17 (by decide) flX3_pass_74 rfl rfl rfl rfl rfl (by show 17 < 19; decide) (yp17 _ _ _ _ _) dX3_pass_43 ?_
    refine kr_iconst C (v := 0) dX3_pass_46 (by decide) ?_
    refine kr_istore_n C [1, 2, 0] dX3_pass_47 rfl (by decide) rfl ?_
    refine kr_iconst C (v := 0) dX3_pass_48 (by decide) ?_
    refine kr_istore_n C [1, 2, 3, 0] dX3_pass_49 rfl (by decide) rfl ?_
    refine kr_sub [0, 2, 3] rfl ?_
    exact lc_X3_pass_L50 C _ _ _ _ h
  have h := (if_neg hc).symm.trans h
  refine kr_iconst C (v := 0) dX3_pass_34 (by decide) ?_
  cases h
  exact kr_ret_i C (Nat.le_of_ble_eq_true rfl) (Nat.le_of_ble_eq_true rfl) dX3_pass_35
set_option maxHeartbeats 4000000 in
set_option maxRecDepth 100000 in
theorem c_X3_readers {l : Launch} {D : va_G} {cy : Nat → ClassId} {a : Nat → Nat} {Z : va_W} {S : kSt} {p1 : Int32} {r : (Int32 × kSt)} (h : f_X3_readers S p1 = some r) : kM l yX3_readers wsX3_readers ({ frames := 12, cells := 0, slots := 0, locals := 275 } : Room) D cy (yw a cy S Z) [.ref (a 0), .int p1] (yw a cy r.2 Z) (some (.int r.1)) 0 0 := by
  rw [f_X3_readers] at h
  refine kM.start (L := [(0, .ref (a 0)), (1, .int (p1))]) rfl rfl rfl (Nat.le_of_ble_eq_true rfl) rfl (fun K A C => ?_)
  refine kr_aload_n C 0 dX3_readers_0 rfl rfl ?_
  refine kr_aload_n C 0 dX3_readers_1 rfl rfl ?_
  refine kr_iload_n C 1 dX3_readers_2 rfl rfl ?_
  obtain ⟨v1, hv1, h⟩ := kob h
  refine kr_callV1 C (k := 1) (As := [.int p1]) (rest := [.ref (a 0)]) (c_X3_isNoRoom hv1) gX3_readers_X3_isNoRoom rfl rfl rfl (by decide +kernel) ⟨(Nat.le_of_ble_eq_true rfl), (Nat.le_of_ble_eq_true rfl)⟩ ⟨(Nat.le_of_ble_eq_true rfl), (Nat.le_of_ble_eq_true rfl)⟩ 0 rfl rfl rfl rfl (Nat.le_of_ble_eq_true rfl) dX3_readers_3 ?_
  refine kr_if_eq C 13 dX3_readers_6 (by decide) (fun hc => ?_) (fun hc => ?_)
  · have h := (if_pos hc).symm.trans h
    refine kr_iconst C (v := 0) dX3_readers_13 (by decide) ?_
    obtain ⟨v2, hv2, h⟩ := kob h
    refine kr_callV1 C (k := 1) (As := [.int (0 : Int32)]) (rest := []) (c_X3_fails hv2) gX3_readers_X3_fails rfl rfl rfl (by decide +kernel) ⟨(Nat.le_of_ble_eq_true rfl), (Nat.le_of_ble_eq_true rfl)⟩ ⟨(Nat.le_of_ble_eq_true rfl), (Nat.le_of_ble_eq_true rfl)⟩ 0 rfl rfl rfl rfl (Nat.le_of_ble_eq_true rfl) dX3_readers_14 ?_
    refine kr_if_eq C 24 dX3_readers_17 (by decide) (fun hc => ?_) (fun hc => ?_)
    · have h := (if_pos hc).symm.trans h
      refine kr_aload_n C 0 dX3_readers_24 rfl rfl ?_
      refine kr_iload_n C 1 dX3_readers_25 rfl rfl ?_
      obtain ⟨v3, hv3, h⟩ := kob h
      refine kr_callV1 C (k := 1) (As := [.int p1]) (rest := []) (c_X3_inside hv3) gX3_readers_X3_inside rfl rfl rfl (by decide +kernel) ⟨(Nat.le_of_ble_eq_true rfl), (Nat.le_of_ble_eq_true rfl)⟩ ⟨(Nat.le_of_ble_eq_true rfl), (Nat.le_of_ble_eq_true rfl)⟩ 0 rfl rfl rfl rfl (Nat.le_of_ble_eq_true rfl) dX3_readers_26 ?_
      refine kr_if_ne C 36 dX3_readers_29 (by decide) (fun hc => ?_) (fun hc => ?_)
      · have h := (if_pos hc).symm.trans h
        refine kr_iconst C (v := 1) dX3_readers_32 (by decide) ?_
        refine kr_goto C 41 dX3_readers_33 (by decide) ?_
        cases h
        exact kr_ret_i C (Nat.le_of_ble_eq_true rfl) (Nat.le_of_ble_eq_true rfl) dX3_readers_41
      have h := (if_neg hc).symm.trans h
      refine kr_aload_n C 0 dX3_readers_36 rfl rfl ?_
      refine kr_iload_n C 1 dX3_readers_37 rfl rfl ?_
      obtain ⟨v4, hv4, h⟩ := kob h
      refine kr_callV1 C (k := 1) (As := [.int p1]) (rest := []) (c_X3_inside hv4) gX3_readers_X3_inside rfl rfl rfl (by decide +kernel) ⟨(Nat.le_of_ble_eq_true rfl), (Nat.le_of_ble_eq_true rfl)⟩ ⟨(Nat.le_of_ble_eq_true rfl), (Nat.le_of_ble_eq_true rfl)⟩ 0 rfl rfl rfl rfl (Nat.le_of_ble_eq_true rfl) dX3_readers_38 ?_
      cases h
      exact kr_ret_i C (Nat.le_of_ble_eq_true rfl) (Nat.le_of_ble_eq_true rfl) dX3_readers_41
    have h := (if_neg hc).symm.trans h
    refine kr_iconst C (v := 0) dX3_readers_20 (by decide) ?_
    refine kr_goto C 41 dX3_readers_21 (by decide) ?_
    cases h
    exact kr_ret_i C (Nat.le_of_ble_eq_true rfl) (Nat.le_of_ble_eq_true rfl) dX3_readers_41
  have h := (if_neg hc).symm.trans h
  refine kr_iconst C (v := 1) dX3_readers_9 (by decide) ?_
  refine kr_goto C 14 dX3_readers_10 (by decide) ?_
  obtain ⟨v5, hv5, h⟩ := kob h
  refine kr_callV1 C (k := 1) (As := [.int (1 : Int32)]) (rest := []) (c_X3_fails hv5) gX3_readers_X3_fails rfl rfl rfl (by decide +kernel) ⟨(Nat.le_of_ble_eq_true rfl), (Nat.le_of_ble_eq_true rfl)⟩ ⟨(Nat.le_of_ble_eq_true rfl), (Nat.le_of_ble_eq_true rfl)⟩ 0 rfl rfl rfl rfl (Nat.le_of_ble_eq_true rfl) dX3_readers_14 ?_
  refine kr_if_eq C 24 dX3_readers_17 (by decide) (fun hc => ?_) (fun hc => ?_)
  · have h := (if_pos hc).symm.trans h
    refine kr_aload_n C 0 dX3_readers_24 rfl rfl ?_
    refine kr_iload_n C 1 dX3_readers_25 rfl rfl ?_
    obtain ⟨v6, hv6, h⟩ := kob h
    refine kr_callV1 C (k := 1) (As := [.int p1]) (rest := []) (c_X3_inside hv6) gX3_readers_X3_inside rfl rfl rfl (by decide +kernel) ⟨(Nat.le_of_ble_eq_true rfl), (Nat.le_of_ble_eq_true rfl)⟩ ⟨(Nat.le_of_ble_eq_true rfl), (Nat.le_of_ble_eq_true rfl)⟩ 0 rfl rfl rfl rfl (Nat.le_of_ble_eq_true rfl) dX3_readers_26 ?_
    refine kr_if_ne C 36 dX3_readers_29 (by decide) (fun hc => ?_) (fun hc => ?_)
    · have h := (if_pos hc).symm.trans h
      refine kr_iconst C (v := 1) dX3_readers_32 (by decide) ?_
      refine kr_goto C 41 dX3_readers_33 (by decide) ?_
      cases h
      exact kr_ret_i C (Nat.le_of_ble_eq_true rfl) (Nat.le_of_ble_eq_true rfl) dX3_readers_41
    have h := (if_neg hc).symm.trans h
    refine kr_aload_n C 0 dX3_readers_36 rfl rfl ?_
    refine kr_iload_n C 1 dX3_readers_37 rfl rfl ?_
    obtain ⟨v7, hv7, h⟩ := kob h
    refine kr_callV1 C (k := 1) (As := [.int p1]) (rest := []) (c_X3_inside hv7) gX3_readers_X3_inside rfl rfl rfl (by decide +kernel) ⟨(Nat.le_of_ble_eq_true rfl), (Nat.le_of_ble_eq_true rfl)⟩ ⟨(Nat.le_of_ble_eq_true rfl), (Nat.le_of_ble_eq_true rfl)⟩ 0 rfl rfl rfl rfl (Nat.le_of_ble_eq_true rfl) dX3_readers_38 ?_
    cases h
    exact kr_ret_i C (Nat.le_of_ble_eq_true rfl) (Nat.le_of_ble_eq_true rfl) dX3_readers_41
  have h := (if_neg hc).symm.trans h
  refine kr_iconst C (v := 0) dX3_readers_20 (by decide) ?_
  refine kr_goto C 41 dX3_readers_21 (by decide) ?_
  cases h
  exact kr_ret_i C (Nat.le_of_ble_eq_true rfl) (Nat.le_of_ble_eq_true rfl) dX3_readers_41
theorem flX3_reads_13 : Cond.fieldLink RX3 13 "FolderKeeperModel" "haveLeft" "[Z" ∈ wsX3_reads := by decide +kernel
theorem inX3_reads_X3 : ∀ w ∈ wsX30, w ∈ wsX3_reads := fun _ h => List.mem_cons_of_mem _ (List.mem_append_left _ (List.mem_append_right _ h))
theorem flX3_reads_48 : Cond.fieldLink RX3 48 "FolderKeeperModel" "roomGroups" "[I" ∈ wsX3_reads := by decide +kernel
set_option maxHeartbeats 4000000 in
set_option maxRecDepth 100000 in
theorem c_X3_reads {l : Launch} {D : va_G} {cy : Nat → ClassId} {a : Nat → Nat} {Z : va_W} {S : kSt} {p1 : Int32} {p2 : Int32} {r : (Bool × kSt)} (h : f_X3_reads S p1 p2 = some r) : kM l yX3_reads wsX3_reads ({ frames := 12, cells := 0, slots := 0, locals := 275 } : Room) D cy (yw a cy S Z) [.ref (a 0), .int p1, .int p2] (yw a cy r.2 Z) (some (.int (b2i r.1))) 0 0 := by
  rw [f_X3_reads] at h
  refine kM.start (L := [(0, .ref (a 0)), (1, .int (p1)), (2, .int (p2))]) rfl rfl rfl (Nat.le_of_ble_eq_true rfl) rfl (fun K A C => ?_)
  refine kr_aload_n C 0 dX3_reads_0 rfl rfl ?_
  refine kr_aload_n C 0 dX3_reads_1 rfl rfl ?_
  refine kr_iload_n C 1 dX3_reads_2 rfl rfl ?_
  obtain ⟨v1, hv1, h⟩ := kob h
  refine kr_callV1 C (k := 1) (As := [.int p1]) (rest := [.ref (a 0)]) (c_X3_isNoAccount hv1) gX3_reads_X3_isNoAccount rfl rfl rfl (by decide +kernel) ⟨(Nat.le_of_ble_eq_true rfl), (Nat.le_of_ble_eq_true rfl)⟩ ⟨(Nat.le_of_ble_eq_true rfl), (Nat.le_of_ble_eq_true rfl)⟩ 0 rfl rfl rfl rfl (Nat.le_of_ble_eq_true rfl) dX3_reads_3 ?_
  refine kr_if_ne C 17 dX3_reads_6 (by decide) (fun hc => ?_) (fun hc => ?_)
  · have h := (if_pos hc).symm.trans h
    refine kr_aload_n C 0 dX3_reads_9 rfl rfl ?_
    refine kr_iload_n C 2 dX3_reads_10 rfl rfl ?_
    obtain ⟨v2, hv2, h⟩ := kob h
    refine kr_callV1 C (k := 1) (As := [.int p2]) (rest := [.ref (a 0)]) (c_X3_isNoRoom hv2) gX3_reads_X3_isNoRoom rfl rfl rfl (by decide +kernel) ⟨(Nat.le_of_ble_eq_true rfl), (Nat.le_of_ble_eq_true rfl)⟩ ⟨(Nat.le_of_ble_eq_true rfl), (Nat.le_of_ble_eq_true rfl)⟩ 0 rfl rfl rfl rfl (Nat.le_of_ble_eq_true rfl) dX3_reads_11 ?_
    refine kr_if_eq C 21 dX3_reads_14 (by decide) (fun hc => ?_) (fun hc => ?_)
    · have h := (if_pos hc).symm.trans h
      refine kr_iconst C (v := 0) dX3_reads_21 (by decide) ?_
      obtain ⟨v3, hv3, h⟩ := kob h
      refine kr_callV1 C (k := 1) (As := [.int (0 : Int32)]) (rest := []) (c_X3_fails hv3) gX3_reads_X3_fails rfl rfl rfl (by decide +kernel) ⟨(Nat.le_of_ble_eq_true rfl), (Nat.le_of_ble_eq_true rfl)⟩ ⟨(Nat.le_of_ble_eq_true rfl), (Nat.le_of_ble_eq_true rfl)⟩ 0 rfl rfl rfl rfl (Nat.le_of_ble_eq_true rfl) dX3_reads_22 ?_
      refine kr_if_eq C 30 dX3_reads_25 (by decide) (fun hc => ?_) (fun hc => ?_)
      · have h := (if_pos hc).symm.trans h
        refine kr_aload_n C 0 dX3_reads_30 rfl rfl ?_
        refine kr_iload_n C 2 dX3_reads_31 rfl rfl ?_
        obtain ⟨v4, hv4, h⟩ := kob h
        refine kr_callV1 C (k := 1) (As := [.int p2]) (rest := []) (c_X3_inside hv4) gX3_reads_X3_inside rfl rfl rfl (by decide +kernel) ⟨(Nat.le_of_ble_eq_true rfl), (Nat.le_of_ble_eq_true rfl)⟩ ⟨(Nat.le_of_ble_eq_true rfl), (Nat.le_of_ble_eq_true rfl)⟩ 0 rfl rfl rfl rfl (Nat.le_of_ble_eq_true rfl) dX3_reads_32 ?_
        refine kr_if_ne C 50 dX3_reads_35 (by decide) (fun hc => ?_) (fun hc => ?_)
        · have h := (if_pos hc).symm.trans h
          refine kr_iload_n C 1 dX3_reads_38 rfl rfl ?_
          refine kr_if_ne C 46 dX3_reads_39 (by decide) (fun hc => ?_) (fun hc => ?_)
          · have h := (if_pos hc).symm.trans h
            refine kr_iconst C (v := 1) dX3_reads_42 (by decide) ?_
            refine kr_goto C 78 dX3_reads_43 (by decide) ?_
            cases h
            exact kr_ret_z (v := b2i true) C (nar_b _) (Nat.le_of_ble_eq_true rfl) (Nat.le_of_ble_eq_true rfl) dX3_reads_78
          have h := (if_neg hc).symm.trans h
          refine kr_iconst C (v := 0) dX3_reads_46 (by decide) ?_
          refine kr_goto C 78 dX3_reads_47 (by decide) ?_
          cases h
          exact kr_ret_z (v := b2i false) C (nar_b _) (Nat.le_of_ble_eq_true rfl) (Nat.le_of_ble_eq_true rfl) dX3_reads_78
        have h := (if_neg hc).symm.trans h
        refine kr_aload_n C 0 dX3_reads_50 rfl rfl ?_
        refine kr_get C inX3_reads_X3 0 rfl rfl 1 (by decide) flX3_reads_13 rfl rfl dX3_reads_51 ?_
        refine kr_iload_n C 1 dX3_reads_54 rfl rfl ?_
        obtain ⟨hb5, h⟩ := kif h
        refine kr_zald C 1 rfl (kin_in hb5) dX3_reads_55 ?_
        refine kr_if_ne C 77 dX3_reads_56 (by decide) (fun hc => ?_) (fun hc => ?_)
        · have h := (if_pos hc).symm.trans h
          refine kr_aload_n C 0 dX3_reads_59 rfl rfl ?_
          refine kr_iload_n C 1 dX3_reads_60 rfl rfl ?_
          refine kr_aload_n C 0 dX3_reads_61 rfl rfl ?_
          refine kr_get C inX3_reads_X3 0 rfl rfl 15 (by decide) flX3_reads_48 rfl rfl dX3_reads_62 ?_
          refine kr_iload_n C 2 dX3_reads_65 rfl rfl ?_
          obtain ⟨hb6, h⟩ := kif h
          refine kr_iald C 12 rfl (kin_in hb6) dX3_reads_66 ?_
          obtain ⟨v7, hv7, h⟩ := kob h
          refine kr_callV1 C (k := 2) (As := [.int p1, .int (v3.2.2 15 p2.toNatClampNeg)]) (rest := []) (c_X3_isMember hv7) gX3_reads_X3_isMember rfl rfl rfl (by decide +kernel) ⟨(Nat.le_of_ble_eq_true rfl), (Nat.le_of_ble_eq_true rfl)⟩ ⟨(Nat.le_of_ble_eq_true rfl), (Nat.le_of_ble_eq_true rfl)⟩ 0 rfl rfl rfl rfl (Nat.le_of_ble_eq_true rfl) dX3_reads_67 ?_
          refine kr_if_eq C 77 dX3_reads_70 (by decide) (fun hc => ?_) (fun hc => ?_)
          · have h := (if_pos hc).symm.trans h
            refine kr_iconst C (v := 0) dX3_reads_77 (by decide) ?_
            cases h
            exact kr_ret_z (v := b2i false) C (nar_b _) (Nat.le_of_ble_eq_true rfl) (Nat.le_of_ble_eq_true rfl) dX3_reads_78
          have h := (if_neg hc).symm.trans h
          refine kr_iconst C (v := 1) dX3_reads_73 (by decide) ?_
          refine kr_goto C 78 dX3_reads_74 (by decide) ?_
          cases h
          exact kr_ret_z (v := b2i true) C (nar_b _) (Nat.le_of_ble_eq_true rfl) (Nat.le_of_ble_eq_true rfl) dX3_reads_78
        have h := (if_neg hc).symm.trans h
        refine kr_iconst C (v := 0) dX3_reads_77 (by decide) ?_
        cases h
        exact kr_ret_z (v := b2i false) C (nar_b _) (Nat.le_of_ble_eq_true rfl) (Nat.le_of_ble_eq_true rfl) dX3_reads_78
      have h := (if_neg hc).symm.trans h
      refine kr_iconst C (v := 0) dX3_reads_28 (by decide) ?_
      cases h
      exact kr_ret_z (v := b2i false) C (nar_b _) (Nat.le_of_ble_eq_true rfl) (Nat.le_of_ble_eq_true rfl) dX3_reads_29
    have h := (if_neg hc).symm.trans h
    refine kr_iconst C (v := 1) dX3_reads_17 (by decide) ?_
    refine kr_goto C 22 dX3_reads_18 (by decide) ?_
    obtain ⟨v8, hv8, h⟩ := kob h
    refine kr_callV1 C (k := 1) (As := [.int (1 : Int32)]) (rest := []) (c_X3_fails hv8) gX3_reads_X3_fails rfl rfl rfl (by decide +kernel) ⟨(Nat.le_of_ble_eq_true rfl), (Nat.le_of_ble_eq_true rfl)⟩ ⟨(Nat.le_of_ble_eq_true rfl), (Nat.le_of_ble_eq_true rfl)⟩ 0 rfl rfl rfl rfl (Nat.le_of_ble_eq_true rfl) dX3_reads_22 ?_
    refine kr_if_eq C 30 dX3_reads_25 (by decide) (fun hc => ?_) (fun hc => ?_)
    · have h := (if_pos hc).symm.trans h
      refine kr_aload_n C 0 dX3_reads_30 rfl rfl ?_
      refine kr_iload_n C 2 dX3_reads_31 rfl rfl ?_
      obtain ⟨v9, hv9, h⟩ := kob h
      refine kr_callV1 C (k := 1) (As := [.int p2]) (rest := []) (c_X3_inside hv9) gX3_reads_X3_inside rfl rfl rfl (by decide +kernel) ⟨(Nat.le_of_ble_eq_true rfl), (Nat.le_of_ble_eq_true rfl)⟩ ⟨(Nat.le_of_ble_eq_true rfl), (Nat.le_of_ble_eq_true rfl)⟩ 0 rfl rfl rfl rfl (Nat.le_of_ble_eq_true rfl) dX3_reads_32 ?_
      refine kr_if_ne C 50 dX3_reads_35 (by decide) (fun hc => ?_) (fun hc => ?_)
      · have h := (if_pos hc).symm.trans h
        refine kr_iload_n C 1 dX3_reads_38 rfl rfl ?_
        refine kr_if_ne C 46 dX3_reads_39 (by decide) (fun hc => ?_) (fun hc => ?_)
        · have h := (if_pos hc).symm.trans h
          refine kr_iconst C (v := 1) dX3_reads_42 (by decide) ?_
          refine kr_goto C 78 dX3_reads_43 (by decide) ?_
          cases h
          exact kr_ret_z (v := b2i true) C (nar_b _) (Nat.le_of_ble_eq_true rfl) (Nat.le_of_ble_eq_true rfl) dX3_reads_78
        have h := (if_neg hc).symm.trans h
        refine kr_iconst C (v := 0) dX3_reads_46 (by decide) ?_
        refine kr_goto C 78 dX3_reads_47 (by decide) ?_
        cases h
        exact kr_ret_z (v := b2i false) C (nar_b _) (Nat.le_of_ble_eq_true rfl) (Nat.le_of_ble_eq_true rfl) dX3_reads_78
      have h := (if_neg hc).symm.trans h
      refine kr_aload_n C 0 dX3_reads_50 rfl rfl ?_
      refine kr_get C inX3_reads_X3 0 rfl rfl 1 (by decide) flX3_reads_13 rfl rfl dX3_reads_51 ?_
      refine kr_iload_n C 1 dX3_reads_54 rfl rfl ?_
      obtain ⟨hb10, h⟩ := kif h
      refine kr_zald C 1 rfl (kin_in hb10) dX3_reads_55 ?_
      refine kr_if_ne C 77 dX3_reads_56 (by decide) (fun hc => ?_) (fun hc => ?_)
      · have h := (if_pos hc).symm.trans h
        refine kr_aload_n C 0 dX3_reads_59 rfl rfl ?_
        refine kr_iload_n C 1 dX3_reads_60 rfl rfl ?_
        refine kr_aload_n C 0 dX3_reads_61 rfl rfl ?_
        refine kr_get C inX3_reads_X3 0 rfl rfl 15 (by decide) flX3_reads_48 rfl rfl dX3_reads_62 ?_
        refine kr_iload_n C 2 dX3_reads_65 rfl rfl ?_
        obtain ⟨hb11, h⟩ := kif h
        refine kr_iald C 12 rfl (kin_in hb11) dX3_reads_66 ?_
        obtain ⟨v12, hv12, h⟩ := kob h
        refine kr_callV1 C (k := 2) (As := [.int p1, .int (v8.2.2 15 p2.toNatClampNeg)]) (rest := []) (c_X3_isMember hv12) gX3_reads_X3_isMember rfl rfl rfl (by decide +kernel) ⟨(Nat.le_of_ble_eq_true rfl), (Nat.le_of_ble_eq_true rfl)⟩ ⟨(Nat.le_of_ble_eq_true rfl), (Nat.le_of_ble_eq_true rfl)⟩ 0 rfl rfl rfl rfl (Nat.le_of_ble_eq_true rfl) dX3_reads_67 ?_
        refine kr_if_eq C 77 dX3_reads_70 (by decide) (fun hc => ?_) (fun hc => ?_)
        · have h := (if_pos hc).symm.trans h
          refine kr_iconst C (v := 0) dX3_reads_77 (by decide) ?_
          cases h
          exact kr_ret_z (v := b2i false) C (nar_b _) (Nat.le_of_ble_eq_true rfl) (Nat.le_of_ble_eq_true rfl) dX3_reads_78
        have h := (if_neg hc).symm.trans h
        refine kr_iconst C (v := 1) dX3_reads_73 (by decide) ?_
        refine kr_goto C 78 dX3_reads_74 (by decide) ?_
        cases h
        exact kr_ret_z (v := b2i true) C (nar_b _) (Nat.le_of_ble_eq_true rfl) (Nat.le_of_ble_eq_true rfl) dX3_reads_78
      have h := (if_neg hc).symm.trans h
      refine kr_iconst C (v := 0) dX3_reads_77 (by decide) ?_
      cases h
      exact kr_ret_z (v := b2i false) C (nar_b _) (Nat.le_of_ble_eq_true rfl) (Nat.le_of_ble_eq_true rfl) dX3_reads_78
    have h := (if_neg hc).symm.trans h
    refine kr_iconst C (v := 0) dX3_reads_28 (by decide) ?_
    cases h
    exact kr_ret_z (v := b2i false) C (nar_b _) (Nat.le_of_ble_eq_true rfl) (Nat.le_of_ble_eq_true rfl) dX3_reads_29
  have h := (if_neg hc).symm.trans h
  refine kr_iconst C (v := 1) dX3_reads_17 (by decide) ?_
  refine kr_goto C 22 dX3_reads_18 (by decide) ?_
  obtain ⟨v13, hv13, h⟩ := kob h
  refine kr_callV1 C (k := 1) (As := [.int (1 : Int32)]) (rest := []) (c_X3_fails hv13) gX3_reads_X3_fails rfl rfl rfl (by decide +kernel) ⟨(Nat.le_of_ble_eq_true rfl), (Nat.le_of_ble_eq_true rfl)⟩ ⟨(Nat.le_of_ble_eq_true rfl), (Nat.le_of_ble_eq_true rfl)⟩ 0 rfl rfl rfl rfl (Nat.le_of_ble_eq_true rfl) dX3_reads_22 ?_
  refine kr_if_eq C 30 dX3_reads_25 (by decide) (fun hc => ?_) (fun hc => ?_)
  · have h := (if_pos hc).symm.trans h
    refine kr_aload_n C 0 dX3_reads_30 rfl rfl ?_
    refine kr_iload_n C 2 dX3_reads_31 rfl rfl ?_
    obtain ⟨v14, hv14, h⟩ := kob h
    refine kr_callV1 C (k := 1) (As := [.int p2]) (rest := []) (c_X3_inside hv14) gX3_reads_X3_inside rfl rfl rfl (by decide +kernel) ⟨(Nat.le_of_ble_eq_true rfl), (Nat.le_of_ble_eq_true rfl)⟩ ⟨(Nat.le_of_ble_eq_true rfl), (Nat.le_of_ble_eq_true rfl)⟩ 0 rfl rfl rfl rfl (Nat.le_of_ble_eq_true rfl) dX3_reads_32 ?_
    refine kr_if_ne C 50 dX3_reads_35 (by decide) (fun hc => ?_) (fun hc => ?_)
    · have h := (if_pos hc).symm.trans h
      refine kr_iload_n C 1 dX3_reads_38 rfl rfl ?_
      refine kr_if_ne C 46 dX3_reads_39 (by decide) (fun hc => ?_) (fun hc => ?_)
      · have h := (if_pos hc).symm.trans h
        refine kr_iconst C (v := 1) dX3_reads_42 (by decide) ?_
        refine kr_goto C 78 dX3_reads_43 (by decide) ?_
        cases h
        exact kr_ret_z (v := b2i true) C (nar_b _) (Nat.le_of_ble_eq_true rfl) (Nat.le_of_ble_eq_true rfl) dX3_reads_78
      have h := (if_neg hc).symm.trans h
      refine kr_iconst C (v := 0) dX3_reads_46 (by decide) ?_
      refine kr_goto C 78 dX3_reads_47 (by decide) ?_
      cases h
      exact kr_ret_z (v := b2i false) C (nar_b _) (Nat.le_of_ble_eq_true rfl) (Nat.le_of_ble_eq_true rfl) dX3_reads_78
    have h := (if_neg hc).symm.trans h
    refine kr_aload_n C 0 dX3_reads_50 rfl rfl ?_
    refine kr_get C inX3_reads_X3 0 rfl rfl 1 (by decide) flX3_reads_13 rfl rfl dX3_reads_51 ?_
    refine kr_iload_n C 1 dX3_reads_54 rfl rfl ?_
    obtain ⟨hb15, h⟩ := kif h
    refine kr_zald C 1 rfl (kin_in hb15) dX3_reads_55 ?_
    refine kr_if_ne C 77 dX3_reads_56 (by decide) (fun hc => ?_) (fun hc => ?_)
    · have h := (if_pos hc).symm.trans h
      refine kr_aload_n C 0 dX3_reads_59 rfl rfl ?_
      refine kr_iload_n C 1 dX3_reads_60 rfl rfl ?_
      refine kr_aload_n C 0 dX3_reads_61 rfl rfl ?_
      refine kr_get C inX3_reads_X3 0 rfl rfl 15 (by decide) flX3_reads_48 rfl rfl dX3_reads_62 ?_
      refine kr_iload_n C 2 dX3_reads_65 rfl rfl ?_
      obtain ⟨hb16, h⟩ := kif h
      refine kr_iald C 12 rfl (kin_in hb16) dX3_reads_66 ?_
      obtain ⟨v17, hv17, h⟩ := kob h
      refine kr_callV1 C (k := 2) (As := [.int p1, .int (v13.2.2 15 p2.toNatClampNeg)]) (rest := []) (c_X3_isMember hv17) gX3_reads_X3_isMember rfl rfl rfl (by decide +kernel) ⟨(Nat.le_of_ble_eq_true rfl), (Nat.le_of_ble_eq_true rfl)⟩ ⟨(Nat.le_of_ble_eq_true rfl), (Nat.le_of_ble_eq_true rfl)⟩ 0 rfl rfl rfl rfl (Nat.le_of_ble_eq_true rfl) dX3_reads_67 ?_
      refine kr_if_eq C 77 dX3_reads_70 (by decide) (fun hc => ?_) (fun hc => ?_)
      · have h := (if_pos hc).symm.trans h
        refine kr_iconst C (v := 0) dX3_reads_77 (by decide) ?_
        cases h
        exact kr_ret_z (v := b2i false) C (nar_b _) (Nat.le_of_ble_eq_true rfl) (Nat.le_of_ble_eq_true rfl) dX3_reads_78
      have h := (if_neg hc).symm.trans h
      refine kr_iconst C (v := 1) dX3_reads_73 (by decide) ?_
      refine kr_goto C 78 dX3_reads_74 (by decide) ?_
      cases h
      exact kr_ret_z (v := b2i true) C (nar_b _) (Nat.le_of_ble_eq_true rfl) (Nat.le_of_ble_eq_true rfl) dX3_reads_78
    have h := (if_neg hc).symm.trans h
    refine kr_iconst C (v := 0) dX3_reads_77 (by decide) ?_
    cases h
    exact kr_ret_z (v := b2i false) C (nar_b _) (Nat.le_of_ble_eq_true rfl) (Nat.le_of_ble_eq_true rfl) dX3_reads_78
  have h := (if_neg hc).symm.trans h
  refine kr_iconst C (v := 0) dX3_reads_28 (by decide) ?_
  cases h
  exact kr_ret_z (v := b2i false) C (nar_b _) (Nat.le_of_ble_eq_true rfl) (Nat.le_of_ble_eq_true rfl) dX3_reads_29
theorem flX3_release_39 : Cond.fieldLink RX3 39 "FolderKeeperModel" "areHeld" "[Z" ∈ wsX3_release := by decide +kernel
theorem inX3_release_X3 : ∀ w ∈ wsX30, w ∈ wsX3_release := fun _ h => List.mem_cons_of_mem _ (List.mem_append_left _ (List.mem_append_right _ h))
theorem flX3_release_13 : Cond.fieldLink RX3 13 "FolderKeeperModel" "haveLeft" "[Z" ∈ wsX3_release := by decide +kernel
theorem flX3_release_30 : Cond.fieldLink RX3 30 "FolderKeeperModel" "owners" "[I" ∈ wsX3_release := by decide +kernel
set_option maxHeartbeats 4000000 in
set_option maxRecDepth 100000 in
theorem c_X3_release {l : Launch} {D : va_G} {cy : Nat → ClassId} {a : Nat → Nat} {Z : va_W} {S : kSt} {p1 : Int32} {r : (Int32 × kSt)} (h : f_X3_release S p1 = some r) : kM l yX3_release wsX3_release ({ frames := 2, cells := 0, slots := 0, locals := 45 } : Room) D cy (yw a cy S Z) [.ref (a 0), .int p1] (yw a cy r.2 Z) (some (.int r.1)) 0 0 := by
  rw [f_X3_release] at h
  refine kM.start (L := [(0, .ref (a 0)), (1, .int (p1))]) rfl rfl rfl (Nat.le_of_ble_eq_true rfl) rfl (fun K A C => ?_)
  refine kr_aload_n C 0 dX3_release_0 rfl rfl ?_
  refine kr_aload_n C 0 dX3_release_1 rfl rfl ?_
  refine kr_iload_n C 1 dX3_release_2 rfl rfl ?_
  obtain ⟨v1, hv1, h⟩ := kob h
  refine kr_callV1 C (k := 1) (As := [.int p1]) (rest := [.ref (a 0)]) (c_X3_isNoFolder hv1) gX3_release_X3_isNoFolder rfl rfl rfl (by decide +kernel) ⟨(Nat.le_of_ble_eq_true rfl), (Nat.le_of_ble_eq_true rfl)⟩ ⟨(Nat.le_of_ble_eq_true rfl), (Nat.le_of_ble_eq_true rfl)⟩ 0 rfl rfl rfl rfl (Nat.le_of_ble_eq_true rfl) dX3_release_3 ?_
  refine kr_if_eq C 13 dX3_release_6 (by decide) (fun hc => ?_) (fun hc => ?_)
  · have h := (if_pos hc).symm.trans h
    refine kr_aload_n C 0 dX3_release_13 rfl rfl ?_
    refine kr_get C inX3_release_X3 0 rfl rfl 11 (by decide) flX3_release_39 rfl rfl dX3_release_14 ?_
    refine kr_iload_n C 1 dX3_release_17 rfl rfl ?_
    obtain ⟨hb2, h⟩ := kif h
    refine kr_zald C 9 rfl (kin_in hb2) dX3_release_18 ?_
    refine kr_if_eq C 26 dX3_release_19 (by decide) (fun hc => ?_) (fun hc => ?_)
    · have h := (if_pos hc).symm.trans h
      refine kr_iconst C (v := 2) dX3_release_26 (by decide) ?_
      obtain ⟨v3, hv3, h⟩ := kob h
      refine kr_callV1 C (k := 1) (As := [.int (2 : Int32)]) (rest := []) (c_X3_fails hv3) gX3_release_X3_fails rfl rfl rfl (by decide +kernel) ⟨(Nat.le_of_ble_eq_true rfl), (Nat.le_of_ble_eq_true rfl)⟩ ⟨(Nat.le_of_ble_eq_true rfl), (Nat.le_of_ble_eq_true rfl)⟩ 0 rfl rfl rfl rfl (Nat.le_of_ble_eq_true rfl) dX3_release_27 ?_
      refine kr_if_eq C 35 dX3_release_30 (by decide) (fun hc => ?_) (fun hc => ?_)
      · have h := (if_pos hc).symm.trans h
        refine kr_aload_n C 0 dX3_release_35 rfl rfl ?_
        refine kr_get C inX3_release_X3 0 rfl rfl 11 (by decide) flX3_release_39 rfl rfl dX3_release_36 ?_
        refine kr_iload_n C 1 dX3_release_39 rfl rfl ?_
        refine kr_iconst C (v := 0) dX3_release_40 (by decide) ?_
        obtain ⟨hb4, h⟩ := kif h
        refine kr_zast C 9 rfl (kin_in hb4) (yq11 _ _ _ _ _) dX3_release_41 ?_
        refine kr_aload_n C 0 dX3_release_42 rfl rfl ?_
        refine kr_get C inX3_release_X3 0 rfl rfl 1 (by decide) flX3_release_13 rfl rfl dX3_release_43 ?_
        refine kr_aload_n C 0 dX3_release_46 rfl rfl ?_
        refine kr_get C inX3_release_X3 0 rfl rfl 8 (by decide) flX3_release_30 rfl rfl dX3_release_47 ?_
        refine kr_iload_n C 1 dX3_release_50 rfl rfl ?_
        obtain ⟨hb5, h⟩ := kif h
        refine kr_iald C 6 rfl (kin_in hb5) dX3_release_51 ?_
        obtain ⟨hb6, h⟩ := kif h
        refine kr_zald C 1 rfl (kin_in hb6) dX3_release_52 ?_
        refine kr_if_eq C 67 dX3_release_53 (by decide) (fun hc => ?_) (fun hc => ?_)
        · have h := (if_pos hc).symm.trans h
          refine kr_aload_n C 0 dX3_release_67 rfl rfl ?_
          refine kr_get C inX3_release_X3 0 rfl rfl 8 (by decide) flX3_release_30 rfl rfl dX3_release_68 ?_
          refine kr_iload_n C 1 dX3_release_71 rfl rfl ?_
          obtain ⟨hb7, h⟩ := kif h
          refine kr_iald C 6 rfl (kin_in hb7) dX3_release_72 ?_
          cases h
          exact kr_ret_i C (Nat.le_of_ble_eq_true rfl) (Nat.le_of_ble_eq_true rfl) dX3_release_73
        have h := (if_neg hc).symm.trans h
        refine kr_aload_n C 0 dX3_release_56 rfl rfl ?_
        refine kr_get C inX3_release_X3 0 rfl rfl 8 (by decide) flX3_release_30 rfl rfl dX3_release_57 ?_
        refine kr_iload_n C 1 dX3_release_60 rfl rfl ?_
        refine kr_aload_n C 0 dX3_release_61 rfl rfl ?_
        refine kr_iload_n C 1 dX3_release_62 rfl rfl ?_
        obtain ⟨v8, hv8, h⟩ := kob h
        refine kr_callV1 C (k := 1) (As := [.int p1]) (rest := [.int (p1), .ref (a 8)]) (c_X3_keeperOf hv8) gX3_release_X3_keeperOf rfl rfl rfl (by decide +kernel) ⟨(Nat.le_of_ble_eq_true rfl), (Nat.le_of_ble_eq_true rfl)⟩ ⟨(Nat.le_of_ble_eq_true rfl), (Nat.le_of_ble_eq_true rfl)⟩ 0 rfl rfl rfl rfl (Nat.le_of_ble_eq_true rfl) dX3_release_63 ?_
        obtain ⟨hb9, h⟩ := kif h
        refine kr_iast C 6 rfl (kin_in hb9) (yq8 _ _ _ _ _) dX3_release_66 ?_
        refine kr_aload_n C 0 dX3_release_67 rfl rfl ?_
        refine kr_get C inX3_release_X3 0 rfl rfl 8 (by decide) flX3_release_30 rfl rfl dX3_release_68 ?_
        refine kr_iload_n C 1 dX3_release_71 rfl rfl ?_
        obtain ⟨hb10, h⟩ := kif h
        refine kr_iald C 6 rfl (kin_in hb10) dX3_release_72 ?_
        cases h
        exact kr_ret_i C (Nat.le_of_ble_eq_true rfl) (Nat.le_of_ble_eq_true rfl) dX3_release_73
      have h := (if_neg hc).symm.trans h
      refine kr_iconst C (v := 0) dX3_release_33 (by decide) ?_
      cases h
      exact kr_ret_i C (Nat.le_of_ble_eq_true rfl) (Nat.le_of_ble_eq_true rfl) dX3_release_34
    have h := (if_neg hc).symm.trans h
    refine kr_iconst C (v := 0) dX3_release_22 (by decide) ?_
    refine kr_goto C 27 dX3_release_23 (by decide) ?_
    obtain ⟨v11, hv11, h⟩ := kob h
    refine kr_callV1 C (k := 1) (As := [.int (0 : Int32)]) (rest := []) (c_X3_fails hv11) gX3_release_X3_fails rfl rfl rfl (by decide +kernel) ⟨(Nat.le_of_ble_eq_true rfl), (Nat.le_of_ble_eq_true rfl)⟩ ⟨(Nat.le_of_ble_eq_true rfl), (Nat.le_of_ble_eq_true rfl)⟩ 0 rfl rfl rfl rfl (Nat.le_of_ble_eq_true rfl) dX3_release_27 ?_
    refine kr_if_eq C 35 dX3_release_30 (by decide) (fun hc => ?_) (fun hc => ?_)
    · have h := (if_pos hc).symm.trans h
      refine kr_aload_n C 0 dX3_release_35 rfl rfl ?_
      refine kr_get C inX3_release_X3 0 rfl rfl 11 (by decide) flX3_release_39 rfl rfl dX3_release_36 ?_
      refine kr_iload_n C 1 dX3_release_39 rfl rfl ?_
      refine kr_iconst C (v := 0) dX3_release_40 (by decide) ?_
      obtain ⟨hb12, h⟩ := kif h
      refine kr_zast C 9 rfl (kin_in hb12) (yq11 _ _ _ _ _) dX3_release_41 ?_
      refine kr_aload_n C 0 dX3_release_42 rfl rfl ?_
      refine kr_get C inX3_release_X3 0 rfl rfl 1 (by decide) flX3_release_13 rfl rfl dX3_release_43 ?_
      refine kr_aload_n C 0 dX3_release_46 rfl rfl ?_
      refine kr_get C inX3_release_X3 0 rfl rfl 8 (by decide) flX3_release_30 rfl rfl dX3_release_47 ?_
      refine kr_iload_n C 1 dX3_release_50 rfl rfl ?_
      obtain ⟨hb13, h⟩ := kif h
      refine kr_iald C 6 rfl (kin_in hb13) dX3_release_51 ?_
      obtain ⟨hb14, h⟩ := kif h
      refine kr_zald C 1 rfl (kin_in hb14) dX3_release_52 ?_
      refine kr_if_eq C 67 dX3_release_53 (by decide) (fun hc => ?_) (fun hc => ?_)
      · have h := (if_pos hc).symm.trans h
        refine kr_aload_n C 0 dX3_release_67 rfl rfl ?_
        refine kr_get C inX3_release_X3 0 rfl rfl 8 (by decide) flX3_release_30 rfl rfl dX3_release_68 ?_
        refine kr_iload_n C 1 dX3_release_71 rfl rfl ?_
        obtain ⟨hb15, h⟩ := kif h
        refine kr_iald C 6 rfl (kin_in hb15) dX3_release_72 ?_
        cases h
        exact kr_ret_i C (Nat.le_of_ble_eq_true rfl) (Nat.le_of_ble_eq_true rfl) dX3_release_73
      have h := (if_neg hc).symm.trans h
      refine kr_aload_n C 0 dX3_release_56 rfl rfl ?_
      refine kr_get C inX3_release_X3 0 rfl rfl 8 (by decide) flX3_release_30 rfl rfl dX3_release_57 ?_
      refine kr_iload_n C 1 dX3_release_60 rfl rfl ?_
      refine kr_aload_n C 0 dX3_release_61 rfl rfl ?_
      refine kr_iload_n C 1 dX3_release_62 rfl rfl ?_
      obtain ⟨v16, hv16, h⟩ := kob h
      refine kr_callV1 C (k := 1) (As := [.int p1]) (rest := [.int (p1), .ref (a 8)]) (c_X3_keeperOf hv16) gX3_release_X3_keeperOf rfl rfl rfl (by decide +kernel) ⟨(Nat.le_of_ble_eq_true rfl), (Nat.le_of_ble_eq_true rfl)⟩ ⟨(Nat.le_of_ble_eq_true rfl), (Nat.le_of_ble_eq_true rfl)⟩ 0 rfl rfl rfl rfl (Nat.le_of_ble_eq_true rfl) dX3_release_63 ?_
      obtain ⟨hb17, h⟩ := kif h
      refine kr_iast C 6 rfl (kin_in hb17) (yq8 _ _ _ _ _) dX3_release_66 ?_
      refine kr_aload_n C 0 dX3_release_67 rfl rfl ?_
      refine kr_get C inX3_release_X3 0 rfl rfl 8 (by decide) flX3_release_30 rfl rfl dX3_release_68 ?_
      refine kr_iload_n C 1 dX3_release_71 rfl rfl ?_
      obtain ⟨hb18, h⟩ := kif h
      refine kr_iald C 6 rfl (kin_in hb18) dX3_release_72 ?_
      cases h
      exact kr_ret_i C (Nat.le_of_ble_eq_true rfl) (Nat.le_of_ble_eq_true rfl) dX3_release_73
    have h := (if_neg hc).symm.trans h
    refine kr_iconst C (v := 0) dX3_release_33 (by decide) ?_
    cases h
    exact kr_ret_i C (Nat.le_of_ble_eq_true rfl) (Nat.le_of_ble_eq_true rfl) dX3_release_34
  have h := (if_neg hc).symm.trans h
  refine kr_iconst C (v := 1) dX3_release_9 (by decide) ?_
  refine kr_goto C 27 dX3_release_10 (by decide) ?_
  obtain ⟨v19, hv19, h⟩ := kob h
  refine kr_callV1 C (k := 1) (As := [.int (1 : Int32)]) (rest := []) (c_X3_fails hv19) gX3_release_X3_fails rfl rfl rfl (by decide +kernel) ⟨(Nat.le_of_ble_eq_true rfl), (Nat.le_of_ble_eq_true rfl)⟩ ⟨(Nat.le_of_ble_eq_true rfl), (Nat.le_of_ble_eq_true rfl)⟩ 0 rfl rfl rfl rfl (Nat.le_of_ble_eq_true rfl) dX3_release_27 ?_
  refine kr_if_eq C 35 dX3_release_30 (by decide) (fun hc => ?_) (fun hc => ?_)
  · have h := (if_pos hc).symm.trans h
    refine kr_aload_n C 0 dX3_release_35 rfl rfl ?_
    refine kr_get C inX3_release_X3 0 rfl rfl 11 (by decide) flX3_release_39 rfl rfl dX3_release_36 ?_
    refine kr_iload_n C 1 dX3_release_39 rfl rfl ?_
    refine kr_iconst C (v := 0) dX3_release_40 (by decide) ?_
    obtain ⟨hb20, h⟩ := kif h
    refine kr_zast C 9 rfl (kin_in hb20) (yq11 _ _ _ _ _) dX3_release_41 ?_
    refine kr_aload_n C 0 dX3_release_42 rfl rfl ?_
    refine kr_get C inX3_release_X3 0 rfl rfl 1 (by decide) flX3_release_13 rfl rfl dX3_release_43 ?_
    refine kr_aload_n C 0 dX3_release_46 rfl rfl ?_
    refine kr_get C inX3_release_X3 0 rfl rfl 8 (by decide) flX3_release_30 rfl rfl dX3_release_47 ?_
    refine kr_iload_n C 1 dX3_release_50 rfl rfl ?_
    obtain ⟨hb21, h⟩ := kif h
    refine kr_iald C 6 rfl (kin_in hb21) dX3_release_51 ?_
    obtain ⟨hb22, h⟩ := kif h
    refine kr_zald C 1 rfl (kin_in hb22) dX3_release_52 ?_
    refine kr_if_eq C 67 dX3_release_53 (by decide) (fun hc => ?_) (fun hc => ?_)
    · have h := (if_pos hc).symm.trans h
      refine kr_aload_n C 0 dX3_release_67 rfl rfl ?_
      refine kr_get C inX3_release_X3 0 rfl rfl 8 (by decide) flX3_release_30 rfl rfl dX3_release_68 ?_
      refine kr_iload_n C 1 dX3_release_71 rfl rfl ?_
      obtain ⟨hb23, h⟩ := kif h
      refine kr_iald C 6 rfl (kin_in hb23) dX3_release_72 ?_
      cases h
      exact kr_ret_i C (Nat.le_of_ble_eq_true rfl) (Nat.le_of_ble_eq_true rfl) dX3_release_73
    have h := (if_neg hc).symm.trans h
    refine kr_aload_n C 0 dX3_release_56 rfl rfl ?_
    refine kr_get C inX3_release_X3 0 rfl rfl 8 (by decide) flX3_release_30 rfl rfl dX3_release_57 ?_
    refine kr_iload_n C 1 dX3_release_60 rfl rfl ?_
    refine kr_aload_n C 0 dX3_release_61 rfl rfl ?_
    refine kr_iload_n C 1 dX3_release_62 rfl rfl ?_
    obtain ⟨v24, hv24, h⟩ := kob h
    refine kr_callV1 C (k := 1) (As := [.int p1]) (rest := [.int (p1), .ref (a 8)]) (c_X3_keeperOf hv24) gX3_release_X3_keeperOf rfl rfl rfl (by decide +kernel) ⟨(Nat.le_of_ble_eq_true rfl), (Nat.le_of_ble_eq_true rfl)⟩ ⟨(Nat.le_of_ble_eq_true rfl), (Nat.le_of_ble_eq_true rfl)⟩ 0 rfl rfl rfl rfl (Nat.le_of_ble_eq_true rfl) dX3_release_63 ?_
    obtain ⟨hb25, h⟩ := kif h
    refine kr_iast C 6 rfl (kin_in hb25) (yq8 _ _ _ _ _) dX3_release_66 ?_
    refine kr_aload_n C 0 dX3_release_67 rfl rfl ?_
    refine kr_get C inX3_release_X3 0 rfl rfl 8 (by decide) flX3_release_30 rfl rfl dX3_release_68 ?_
    refine kr_iload_n C 1 dX3_release_71 rfl rfl ?_
    obtain ⟨hb26, h⟩ := kif h
    refine kr_iald C 6 rfl (kin_in hb26) dX3_release_72 ?_
    cases h
    exact kr_ret_i C (Nat.le_of_ble_eq_true rfl) (Nat.le_of_ble_eq_true rfl) dX3_release_73
  have h := (if_neg hc).symm.trans h
  refine kr_iconst C (v := 0) dX3_release_33 (by decide) ?_
  cases h
  exact kr_ret_i C (Nat.le_of_ble_eq_true rfl) (Nat.le_of_ble_eq_true rfl) dX3_release_34
set_option maxHeartbeats 4000000 in
set_option maxRecDepth 100000 in
theorem c_X3_right {l : Launch} {D : va_G} {cy : Nat → ClassId} {a : Nat → Nat} {Z : va_W} {S : kSt} {p1 : Int32} {p2 : Int32} {r : (Int32 × kSt)} (h : f_X3_right S p1 p2 = some r) : kM l yX3_right wsX3_right ({ frames := 13, cells := 0, slots := 0, locals := 300 } : Room) D cy (yw a cy S Z) [.ref (a 0), .int p1, .int p2] (yw a cy r.2 Z) (some (.int r.1)) 0 0 := by
  rw [f_X3_right] at h
  refine kM.start (L := [(0, .ref (a 0)), (1, .int (p1)), (2, .int (p2))]) rfl rfl rfl (Nat.le_of_ble_eq_true rfl) rfl (fun K A C => ?_)
  refine kr_aload_n C 0 dX3_right_0 rfl rfl ?_
  refine kr_iload_n C 1 dX3_right_1 rfl rfl ?_
  refine kr_iload_n C 2 dX3_right_2 rfl rfl ?_
  obtain ⟨v1, hv1, h⟩ := kob h
  refine kr_callV1 C (k := 2) (As := [.int p1, .int p2]) (rest := []) (c_X3_asked hv1) gX3_right_X3_asked rfl rfl rfl (by decide +kernel) ⟨(Nat.le_of_ble_eq_true rfl), (Nat.le_of_ble_eq_true rfl)⟩ ⟨(Nat.le_of_ble_eq_true rfl), (Nat.le_of_ble_eq_true rfl)⟩ 0 rfl rfl rfl rfl (Nat.le_of_ble_eq_true rfl) dX3_right_3 ?_
  cases h
  exact kr_ret_i C (Nat.le_of_ble_eq_true rfl) (Nat.le_of_ble_eq_true rfl) dX3_right_6
set_option maxHeartbeats 4000000 in
set_option maxRecDepth 100000 in
theorem c_X3_rightByWalking {l : Launch} {D : va_G} {cy : Nat → ClassId} {a : Nat → Nat} {Z : va_W} {S : kSt} {p1 : Int32} {p2 : Int32} {r : (Int32 × kSt)} (h : f_X3_rightByWalking S p1 p2 = some r) : kM l yX3_rightByWalking wsX3_rightByWalking ({ frames := 13, cells := 0, slots := 0, locals := 300 } : Room) D cy (yw a cy S Z) [.ref (a 0), .int p1, .int p2] (yw a cy r.2 Z) (some (.int r.1)) 0 0 := by
  rw [f_X3_rightByWalking] at h
  refine kM.start (L := [(0, .ref (a 0)), (1, .int (p1)), (2, .int (p2))]) rfl rfl rfl (Nat.le_of_ble_eq_true rfl) rfl (fun K A C => ?_)
  refine kr_aload_n C 0 dX3_rightByWalking_0 rfl rfl ?_
  refine kr_iload_n C 1 dX3_rightByWalking_1 rfl rfl ?_
  refine kr_iload_n C 2 dX3_rightByWalking_2 rfl rfl ?_
  obtain ⟨v1, hv1, h⟩ := kob h
  refine kr_callV1 C (k := 2) (As := [.int p1, .int p2]) (rest := []) (c_X3_asked hv1) gX3_rightByWalking_X3_asked rfl rfl rfl (by decide +kernel) ⟨(Nat.le_of_ble_eq_true rfl), (Nat.le_of_ble_eq_true rfl)⟩ ⟨(Nat.le_of_ble_eq_true rfl), (Nat.le_of_ble_eq_true rfl)⟩ 0 rfl rfl rfl rfl (Nat.le_of_ble_eq_true rfl) dX3_rightByWalking_3 ?_
  cases h
  exact kr_ret_i C (Nat.le_of_ble_eq_true rfl) (Nat.le_of_ble_eq_true rfl) dX3_rightByWalking_6
theorem flX3_setBroken_39 : Cond.fieldLink RX3 39 "FolderKeeperModel" "areHeld" "[Z" ∈ wsX3_setBroken := by decide +kernel
theorem inX3_setBroken_X3 : ∀ w ∈ wsX30, w ∈ wsX3_setBroken := fun _ h => List.mem_cons_of_mem _ (List.mem_append_left _ (List.mem_append_right _ h))
theorem flX3_setBroken_36 : Cond.fieldLink RX3 36 "FolderKeeperModel" "areBroken" "[Z" ∈ wsX3_setBroken := by decide +kernel
set_option maxHeartbeats 4000000 in
set_option maxRecDepth 100000 in
theorem c_X3_setBroken {l : Launch} {D : va_G} {cy : Nat → ClassId} {a : Nat → Nat} {Z : va_W} {S : kSt} {p1 : Int32} {p2 : Bool} {r : (Bool × kSt)} (h : f_X3_setBroken S p1 p2 = some r) : kM l yX3_setBroken wsX3_setBroken ({ frames := 2, cells := 0, slots := 0, locals := 43 } : Room) D cy (yw a cy S Z) [.ref (a 0), .int p1, .int (b2i p2)] (yw a cy r.2 Z) (some (.int (b2i r.1))) 0 0 := by
  rw [f_X3_setBroken] at h
  refine kM.start (L := [(0, .ref (a 0)), (1, .int (p1)), (2, .int (b2i (p2)))]) rfl rfl rfl (Nat.le_of_ble_eq_true rfl) rfl (fun K A C => ?_)
  refine kr_aload_n C 0 dX3_setBroken_0 rfl rfl ?_
  refine kr_aload_n C 0 dX3_setBroken_1 rfl rfl ?_
  refine kr_iload_n C 1 dX3_setBroken_2 rfl rfl ?_
  obtain ⟨v1, hv1, h⟩ := kob h
  refine kr_callV1 C (k := 1) (As := [.int p1]) (rest := [.ref (a 0)]) (c_X3_isNoFolder hv1) gX3_setBroken_X3_isNoFolder rfl rfl rfl (by decide +kernel) ⟨(Nat.le_of_ble_eq_true rfl), (Nat.le_of_ble_eq_true rfl)⟩ ⟨(Nat.le_of_ble_eq_true rfl), (Nat.le_of_ble_eq_true rfl)⟩ 0 rfl rfl rfl rfl (Nat.le_of_ble_eq_true rfl) dX3_setBroken_3 ?_
  refine kr_if_eq C 13 dX3_setBroken_6 (by decide) (fun hc => ?_) (fun hc => ?_)
  · have h := (if_pos hc).symm.trans h
    refine kr_aload_n C 0 dX3_setBroken_13 rfl rfl ?_
    refine kr_get C inX3_setBroken_X3 0 rfl rfl 11 (by decide) flX3_setBroken_39 rfl rfl dX3_setBroken_14 ?_
    refine kr_iload_n C 1 dX3_setBroken_17 rfl rfl ?_
    obtain ⟨hb2, h⟩ := kif h
    refine kr_zald C 9 rfl (kin_in hb2) dX3_setBroken_18 ?_
    refine kr_if_eq C 26 dX3_setBroken_19 (by decide) (fun hc => ?_) (fun hc => ?_)
    · have h := (if_pos hc).symm.trans h
      refine kr_iconst C (v := 0) dX3_setBroken_26 (by decide) ?_
      obtain ⟨v3, hv3, h⟩ := kob h
      refine kr_callV1 C (k := 1) (As := [.int (0 : Int32)]) (rest := []) (c_X3_fails hv3) gX3_setBroken_X3_fails rfl rfl rfl (by decide +kernel) ⟨(Nat.le_of_ble_eq_true rfl), (Nat.le_of_ble_eq_true rfl)⟩ ⟨(Nat.le_of_ble_eq_true rfl), (Nat.le_of_ble_eq_true rfl)⟩ 0 rfl rfl rfl rfl (Nat.le_of_ble_eq_true rfl) dX3_setBroken_27 ?_
      refine kr_if_eq C 35 dX3_setBroken_30 (by decide) (fun hc => ?_) (fun hc => ?_)
      · have h := (if_pos hc).symm.trans h
        refine kr_aload_n C 0 dX3_setBroken_35 rfl rfl ?_
        refine kr_get C inX3_setBroken_X3 0 rfl rfl 10 (by decide) flX3_setBroken_36 rfl rfl dX3_setBroken_36 ?_
        refine kr_iload_n C 1 dX3_setBroken_39 rfl rfl ?_
        obtain ⟨hb4, h⟩ := kif h
        refine kr_zald C 8 rfl (kin_in hb4) dX3_setBroken_40 ?_
        refine kr_istore_n C [1, 2, 3, 0] dX3_setBroken_41 rfl (by decide) rfl ?_
        refine kr_aload_n C 0 dX3_setBroken_42 rfl rfl ?_
        refine kr_get C inX3_setBroken_X3 0 rfl rfl 10 (by decide) flX3_setBroken_36 rfl rfl dX3_setBroken_43 ?_
        refine kr_iload_n C 1 dX3_setBroken_46 rfl rfl ?_
        refine kr_iload_n C 2 dX3_setBroken_47 rfl rfl ?_
        obtain ⟨hb5, h⟩ := kif h
        refine kr_zast C 8 rfl (kin_in hb5) (yq10 _ _ _ _ _) dX3_setBroken_48 ?_
        refine kr_iload_n C 3 dX3_setBroken_49 rfl rfl ?_
        obtain ⟨b6, hvb6, h⟩ := kob h
        rw [kbool_eq hvb6]
        cases h
        exact kr_ret_z C (nar_b _) (Nat.le_of_ble_eq_true rfl) (Nat.le_of_ble_eq_true rfl) dX3_setBroken_50
      have h := (if_neg hc).symm.trans h
      refine kr_iconst C (v := 0) dX3_setBroken_33 (by decide) ?_
      cases h
      exact kr_ret_z (v := b2i false) C (nar_b _) (Nat.le_of_ble_eq_true rfl) (Nat.le_of_ble_eq_true rfl) dX3_setBroken_34
    have h := (if_neg hc).symm.trans h
    refine kr_iconst C (v := 2) dX3_setBroken_22 (by decide) ?_
    refine kr_goto C 27 dX3_setBroken_23 (by decide) ?_
    obtain ⟨v7, hv7, h⟩ := kob h
    refine kr_callV1 C (k := 1) (As := [.int (2 : Int32)]) (rest := []) (c_X3_fails hv7) gX3_setBroken_X3_fails rfl rfl rfl (by decide +kernel) ⟨(Nat.le_of_ble_eq_true rfl), (Nat.le_of_ble_eq_true rfl)⟩ ⟨(Nat.le_of_ble_eq_true rfl), (Nat.le_of_ble_eq_true rfl)⟩ 0 rfl rfl rfl rfl (Nat.le_of_ble_eq_true rfl) dX3_setBroken_27 ?_
    refine kr_if_eq C 35 dX3_setBroken_30 (by decide) (fun hc => ?_) (fun hc => ?_)
    · have h := (if_pos hc).symm.trans h
      refine kr_aload_n C 0 dX3_setBroken_35 rfl rfl ?_
      refine kr_get C inX3_setBroken_X3 0 rfl rfl 10 (by decide) flX3_setBroken_36 rfl rfl dX3_setBroken_36 ?_
      refine kr_iload_n C 1 dX3_setBroken_39 rfl rfl ?_
      obtain ⟨hb8, h⟩ := kif h
      refine kr_zald C 8 rfl (kin_in hb8) dX3_setBroken_40 ?_
      refine kr_istore_n C [1, 2, 3, 0] dX3_setBroken_41 rfl (by decide) rfl ?_
      refine kr_aload_n C 0 dX3_setBroken_42 rfl rfl ?_
      refine kr_get C inX3_setBroken_X3 0 rfl rfl 10 (by decide) flX3_setBroken_36 rfl rfl dX3_setBroken_43 ?_
      refine kr_iload_n C 1 dX3_setBroken_46 rfl rfl ?_
      refine kr_iload_n C 2 dX3_setBroken_47 rfl rfl ?_
      obtain ⟨hb9, h⟩ := kif h
      refine kr_zast C 8 rfl (kin_in hb9) (yq10 _ _ _ _ _) dX3_setBroken_48 ?_
      refine kr_iload_n C 3 dX3_setBroken_49 rfl rfl ?_
      obtain ⟨b10, hvb10, h⟩ := kob h
      rw [kbool_eq hvb10]
      cases h
      exact kr_ret_z C (nar_b _) (Nat.le_of_ble_eq_true rfl) (Nat.le_of_ble_eq_true rfl) dX3_setBroken_50
    have h := (if_neg hc).symm.trans h
    refine kr_iconst C (v := 0) dX3_setBroken_33 (by decide) ?_
    cases h
    exact kr_ret_z (v := b2i false) C (nar_b _) (Nat.le_of_ble_eq_true rfl) (Nat.le_of_ble_eq_true rfl) dX3_setBroken_34
  have h := (if_neg hc).symm.trans h
  refine kr_iconst C (v := 1) dX3_setBroken_9 (by decide) ?_
  refine kr_goto C 27 dX3_setBroken_10 (by decide) ?_
  obtain ⟨v11, hv11, h⟩ := kob h
  refine kr_callV1 C (k := 1) (As := [.int (1 : Int32)]) (rest := []) (c_X3_fails hv11) gX3_setBroken_X3_fails rfl rfl rfl (by decide +kernel) ⟨(Nat.le_of_ble_eq_true rfl), (Nat.le_of_ble_eq_true rfl)⟩ ⟨(Nat.le_of_ble_eq_true rfl), (Nat.le_of_ble_eq_true rfl)⟩ 0 rfl rfl rfl rfl (Nat.le_of_ble_eq_true rfl) dX3_setBroken_27 ?_
  refine kr_if_eq C 35 dX3_setBroken_30 (by decide) (fun hc => ?_) (fun hc => ?_)
  · have h := (if_pos hc).symm.trans h
    refine kr_aload_n C 0 dX3_setBroken_35 rfl rfl ?_
    refine kr_get C inX3_setBroken_X3 0 rfl rfl 10 (by decide) flX3_setBroken_36 rfl rfl dX3_setBroken_36 ?_
    refine kr_iload_n C 1 dX3_setBroken_39 rfl rfl ?_
    obtain ⟨hb12, h⟩ := kif h
    refine kr_zald C 8 rfl (kin_in hb12) dX3_setBroken_40 ?_
    refine kr_istore_n C [1, 2, 3, 0] dX3_setBroken_41 rfl (by decide) rfl ?_
    refine kr_aload_n C 0 dX3_setBroken_42 rfl rfl ?_
    refine kr_get C inX3_setBroken_X3 0 rfl rfl 10 (by decide) flX3_setBroken_36 rfl rfl dX3_setBroken_43 ?_
    refine kr_iload_n C 1 dX3_setBroken_46 rfl rfl ?_
    refine kr_iload_n C 2 dX3_setBroken_47 rfl rfl ?_
    obtain ⟨hb13, h⟩ := kif h
    refine kr_zast C 8 rfl (kin_in hb13) (yq10 _ _ _ _ _) dX3_setBroken_48 ?_
    refine kr_iload_n C 3 dX3_setBroken_49 rfl rfl ?_
    obtain ⟨b14, hvb14, h⟩ := kob h
    rw [kbool_eq hvb14]
    cases h
    exact kr_ret_z C (nar_b _) (Nat.le_of_ble_eq_true rfl) (Nat.le_of_ble_eq_true rfl) dX3_setBroken_50
  have h := (if_neg hc).symm.trans h
  refine kr_iconst C (v := 0) dX3_setBroken_33 (by decide) ?_
  cases h
  exact kr_ret_z (v := b2i false) C (nar_b _) (Nat.le_of_ble_eq_true rfl) (Nat.le_of_ble_eq_true rfl) dX3_setBroken_34
theorem flX3_setHeir_17 : Cond.fieldLink RX3 17 "FolderKeeperModel" "heirs" "[I" ∈ wsX3_setHeir := by decide +kernel
theorem inX3_setHeir_X3 : ∀ w ∈ wsX30, w ∈ wsX3_setHeir := fun _ h => List.mem_cons_of_mem _ (List.mem_append_left _ (List.mem_append_right _ h))
set_option maxHeartbeats 4000000 in
set_option maxRecDepth 100000 in
theorem c_X3_setHeir {l : Launch} {D : va_G} {cy : Nat → ClassId} {a : Nat → Nat} {Z : va_W} {S : kSt} {p1 : Int32} {p2 : Int32} {r : (Int32 × kSt)} (h : f_X3_setHeir S p1 p2 = some r) : kM l yX3_setHeir wsX3_setHeir ({ frames := 2, cells := 0, slots := 0, locals := 43 } : Room) D cy (yw a cy S Z) [.ref (a 0), .int p1, .int p2] (yw a cy r.2 Z) (some (.int r.1)) 0 0 := by
  rw [f_X3_setHeir] at h
  refine kM.start (L := [(0, .ref (a 0)), (1, .int (p1)), (2, .int (p2))]) rfl rfl rfl (Nat.le_of_ble_eq_true rfl) rfl (fun K A C => ?_)
  refine kr_aload_n C 0 dX3_setHeir_0 rfl rfl ?_
  refine kr_aload_n C 0 dX3_setHeir_1 rfl rfl ?_
  refine kr_iload_n C 1 dX3_setHeir_2 rfl rfl ?_
  obtain ⟨v1, hv1, h⟩ := kob h
  refine kr_callV1 C (k := 1) (As := [.int p1]) (rest := [.ref (a 0)]) (c_X3_isNoAccount hv1) gX3_setHeir_X3_isNoAccount rfl rfl rfl (by decide +kernel) ⟨(Nat.le_of_ble_eq_true rfl), (Nat.le_of_ble_eq_true rfl)⟩ ⟨(Nat.le_of_ble_eq_true rfl), (Nat.le_of_ble_eq_true rfl)⟩ 0 rfl rfl rfl rfl (Nat.le_of_ble_eq_true rfl) dX3_setHeir_3 ?_
  refine kr_if_ne C 22 dX3_setHeir_6 (by decide) (fun hc => ?_) (fun hc => ?_)
  · have h := (if_pos hc).symm.trans h
    refine kr_iload_n C 2 dX3_setHeir_9 rfl rfl ?_
    refine kr_iconst C (v := -1) dX3_setHeir_10 (by decide) ?_
    refine kr_icmp_eq C 26 dX3_setHeir_11 (by decide) (fun hc => ?_) (fun hc => ?_)
    · have h := (if_pos hc).symm.trans h
      refine kr_iload_n C 1 dX3_setHeir_26 rfl rfl ?_
      refine kr_iload_n C 2 dX3_setHeir_27 rfl rfl ?_
      refine kr_icmp_ne C 35 dX3_setHeir_28 (by decide) (fun hc => ?_) (fun hc => ?_)
      · have h := (if_pos hc).symm.trans h
        refine kr_iconst C (v := 2) dX3_setHeir_31 (by decide) ?_
        refine kr_goto C 36 dX3_setHeir_32 (by decide) ?_
        obtain ⟨v2, hv2, h⟩ := kob h
        refine kr_callV1 C (k := 1) (As := [.int (2 : Int32)]) (rest := []) (c_X3_fails hv2) gX3_setHeir_X3_fails rfl rfl rfl (by decide +kernel) ⟨(Nat.le_of_ble_eq_true rfl), (Nat.le_of_ble_eq_true rfl)⟩ ⟨(Nat.le_of_ble_eq_true rfl), (Nat.le_of_ble_eq_true rfl)⟩ 0 rfl rfl rfl rfl (Nat.le_of_ble_eq_true rfl) dX3_setHeir_36 ?_
        refine kr_if_eq C 44 dX3_setHeir_39 (by decide) (fun hc => ?_) (fun hc => ?_)
        · have h := (if_pos hc).symm.trans h
          refine kr_aload_n C 0 dX3_setHeir_44 rfl rfl ?_
          refine kr_get C inX3_setHeir_X3 0 rfl rfl 2 (by decide) flX3_setHeir_17 rfl rfl dX3_setHeir_45 ?_
          refine kr_iload_n C 1 dX3_setHeir_48 rfl rfl ?_
          obtain ⟨hb3, h⟩ := kif h
          refine kr_iald C 2 rfl (kin_in hb3) dX3_setHeir_49 ?_
          refine kr_istore_n C [1, 2, 3, 0] dX3_setHeir_50 rfl (by decide) rfl ?_
          refine kr_aload_n C 0 dX3_setHeir_51 rfl rfl ?_
          refine kr_get C inX3_setHeir_X3 0 rfl rfl 2 (by decide) flX3_setHeir_17 rfl rfl dX3_setHeir_52 ?_
          refine kr_iload_n C 1 dX3_setHeir_55 rfl rfl ?_
          refine kr_iload_n C 2 dX3_setHeir_56 rfl rfl ?_
          obtain ⟨hb4, h⟩ := kif h
          refine kr_iast C 2 rfl (kin_in hb4) (yq2 _ _ _ _ _) dX3_setHeir_57 ?_
          refine kr_iload_n C 3 dX3_setHeir_58 rfl rfl ?_
          cases h
          exact kr_ret_i C (Nat.le_of_ble_eq_true rfl) (Nat.le_of_ble_eq_true rfl) dX3_setHeir_59
        have h := (if_neg hc).symm.trans h
        refine kr_iconst C (v := 0) dX3_setHeir_42 (by decide) ?_
        cases h
        exact kr_ret_i C (Nat.le_of_ble_eq_true rfl) (Nat.le_of_ble_eq_true rfl) dX3_setHeir_43
      have h := (if_neg hc).symm.trans h
      refine kr_iconst C (v := 0) dX3_setHeir_35 (by decide) ?_
      obtain ⟨v5, hv5, h⟩ := kob h
      refine kr_callV1 C (k := 1) (As := [.int (0 : Int32)]) (rest := []) (c_X3_fails hv5) gX3_setHeir_X3_fails rfl rfl rfl (by decide +kernel) ⟨(Nat.le_of_ble_eq_true rfl), (Nat.le_of_ble_eq_true rfl)⟩ ⟨(Nat.le_of_ble_eq_true rfl), (Nat.le_of_ble_eq_true rfl)⟩ 0 rfl rfl rfl rfl (Nat.le_of_ble_eq_true rfl) dX3_setHeir_36 ?_
      refine kr_if_eq C 44 dX3_setHeir_39 (by decide) (fun hc => ?_) (fun hc => ?_)
      · have h := (if_pos hc).symm.trans h
        refine kr_aload_n C 0 dX3_setHeir_44 rfl rfl ?_
        refine kr_get C inX3_setHeir_X3 0 rfl rfl 2 (by decide) flX3_setHeir_17 rfl rfl dX3_setHeir_45 ?_
        refine kr_iload_n C 1 dX3_setHeir_48 rfl rfl ?_
        obtain ⟨hb6, h⟩ := kif h
        refine kr_iald C 2 rfl (kin_in hb6) dX3_setHeir_49 ?_
        refine kr_istore_n C [1, 2, 3, 0] dX3_setHeir_50 rfl (by decide) rfl ?_
        refine kr_aload_n C 0 dX3_setHeir_51 rfl rfl ?_
        refine kr_get C inX3_setHeir_X3 0 rfl rfl 2 (by decide) flX3_setHeir_17 rfl rfl dX3_setHeir_52 ?_
        refine kr_iload_n C 1 dX3_setHeir_55 rfl rfl ?_
        refine kr_iload_n C 2 dX3_setHeir_56 rfl rfl ?_
        obtain ⟨hb7, h⟩ := kif h
        refine kr_iast C 2 rfl (kin_in hb7) (yq2 _ _ _ _ _) dX3_setHeir_57 ?_
        refine kr_iload_n C 3 dX3_setHeir_58 rfl rfl ?_
        cases h
        exact kr_ret_i C (Nat.le_of_ble_eq_true rfl) (Nat.le_of_ble_eq_true rfl) dX3_setHeir_59
      have h := (if_neg hc).symm.trans h
      refine kr_iconst C (v := 0) dX3_setHeir_42 (by decide) ?_
      cases h
      exact kr_ret_i C (Nat.le_of_ble_eq_true rfl) (Nat.le_of_ble_eq_true rfl) dX3_setHeir_43
    have h := (if_neg hc).symm.trans h
    refine kr_aload_n C 0 dX3_setHeir_14 rfl rfl ?_
    refine kr_iload_n C 2 dX3_setHeir_15 rfl rfl ?_
    obtain ⟨v8, hv8, h⟩ := kob h
    refine kr_callV1 C (k := 1) (As := [.int p2]) (rest := [.ref (a 0)]) (c_X3_isNoAccount hv8) gX3_setHeir_X3_isNoAccount rfl rfl rfl (by decide +kernel) ⟨(Nat.le_of_ble_eq_true rfl), (Nat.le_of_ble_eq_true rfl)⟩ ⟨(Nat.le_of_ble_eq_true rfl), (Nat.le_of_ble_eq_true rfl)⟩ 0 rfl rfl rfl rfl (Nat.le_of_ble_eq_true rfl) dX3_setHeir_16 ?_
    refine kr_if_eq C 26 dX3_setHeir_19 (by decide) (fun hc => ?_) (fun hc => ?_)
    · have h := (if_pos hc).symm.trans h
      refine kr_iload_n C 1 dX3_setHeir_26 rfl rfl ?_
      refine kr_iload_n C 2 dX3_setHeir_27 rfl rfl ?_
      refine kr_icmp_ne C 35 dX3_setHeir_28 (by decide) (fun hc => ?_) (fun hc => ?_)
      · have h := (if_pos hc).symm.trans h
        refine kr_iconst C (v := 2) dX3_setHeir_31 (by decide) ?_
        refine kr_goto C 36 dX3_setHeir_32 (by decide) ?_
        obtain ⟨v9, hv9, h⟩ := kob h
        refine kr_callV1 C (k := 1) (As := [.int (2 : Int32)]) (rest := []) (c_X3_fails hv9) gX3_setHeir_X3_fails rfl rfl rfl (by decide +kernel) ⟨(Nat.le_of_ble_eq_true rfl), (Nat.le_of_ble_eq_true rfl)⟩ ⟨(Nat.le_of_ble_eq_true rfl), (Nat.le_of_ble_eq_true rfl)⟩ 0 rfl rfl rfl rfl (Nat.le_of_ble_eq_true rfl) dX3_setHeir_36 ?_
        refine kr_if_eq C 44 dX3_setHeir_39 (by decide) (fun hc => ?_) (fun hc => ?_)
        · have h := (if_pos hc).symm.trans h
          refine kr_aload_n C 0 dX3_setHeir_44 rfl rfl ?_
          refine kr_get C inX3_setHeir_X3 0 rfl rfl 2 (by decide) flX3_setHeir_17 rfl rfl dX3_setHeir_45 ?_
          refine kr_iload_n C 1 dX3_setHeir_48 rfl rfl ?_
          obtain ⟨hb10, h⟩ := kif h
          refine kr_iald C 2 rfl (kin_in hb10) dX3_setHeir_49 ?_
          refine kr_istore_n C [1, 2, 3, 0] dX3_setHeir_50 rfl (by decide) rfl ?_
          refine kr_aload_n C 0 dX3_setHeir_51 rfl rfl ?_
          refine kr_get C inX3_setHeir_X3 0 rfl rfl 2 (by decide) flX3_setHeir_17 rfl rfl dX3_setHeir_52 ?_
          refine kr_iload_n C 1 dX3_setHeir_55 rfl rfl ?_
          refine kr_iload_n C 2 dX3_setHeir_56 rfl rfl ?_
          obtain ⟨hb11, h⟩ := kif h
          refine kr_iast C 2 rfl (kin_in hb11) (yq2 _ _ _ _ _) dX3_setHeir_57 ?_
          refine kr_iload_n C 3 dX3_setHeir_58 rfl rfl ?_
          cases h
          exact kr_ret_i C (Nat.le_of_ble_eq_true rfl) (Nat.le_of_ble_eq_true rfl) dX3_setHeir_59
        have h := (if_neg hc).symm.trans h
        refine kr_iconst C (v := 0) dX3_setHeir_42 (by decide) ?_
        cases h
        exact kr_ret_i C (Nat.le_of_ble_eq_true rfl) (Nat.le_of_ble_eq_true rfl) dX3_setHeir_43
      have h := (if_neg hc).symm.trans h
      refine kr_iconst C (v := 0) dX3_setHeir_35 (by decide) ?_
      obtain ⟨v12, hv12, h⟩ := kob h
      refine kr_callV1 C (k := 1) (As := [.int (0 : Int32)]) (rest := []) (c_X3_fails hv12) gX3_setHeir_X3_fails rfl rfl rfl (by decide +kernel) ⟨(Nat.le_of_ble_eq_true rfl), (Nat.le_of_ble_eq_true rfl)⟩ ⟨(Nat.le_of_ble_eq_true rfl), (Nat.le_of_ble_eq_true rfl)⟩ 0 rfl rfl rfl rfl (Nat.le_of_ble_eq_true rfl) dX3_setHeir_36 ?_
      refine kr_if_eq C 44 dX3_setHeir_39 (by decide) (fun hc => ?_) (fun hc => ?_)
      · have h := (if_pos hc).symm.trans h
        refine kr_aload_n C 0 dX3_setHeir_44 rfl rfl ?_
        refine kr_get C inX3_setHeir_X3 0 rfl rfl 2 (by decide) flX3_setHeir_17 rfl rfl dX3_setHeir_45 ?_
        refine kr_iload_n C 1 dX3_setHeir_48 rfl rfl ?_
        obtain ⟨hb13, h⟩ := kif h
        refine kr_iald C 2 rfl (kin_in hb13) dX3_setHeir_49 ?_
        refine kr_istore_n C [1, 2, 3, 0] dX3_setHeir_50 rfl (by decide) rfl ?_
        refine kr_aload_n C 0 dX3_setHeir_51 rfl rfl ?_
        refine kr_get C inX3_setHeir_X3 0 rfl rfl 2 (by decide) flX3_setHeir_17 rfl rfl dX3_setHeir_52 ?_
        refine kr_iload_n C 1 dX3_setHeir_55 rfl rfl ?_
        refine kr_iload_n C 2 dX3_setHeir_56 rfl rfl ?_
        obtain ⟨hb14, h⟩ := kif h
        refine kr_iast C 2 rfl (kin_in hb14) (yq2 _ _ _ _ _) dX3_setHeir_57 ?_
        refine kr_iload_n C 3 dX3_setHeir_58 rfl rfl ?_
        cases h
        exact kr_ret_i C (Nat.le_of_ble_eq_true rfl) (Nat.le_of_ble_eq_true rfl) dX3_setHeir_59
      have h := (if_neg hc).symm.trans h
      refine kr_iconst C (v := 0) dX3_setHeir_42 (by decide) ?_
      cases h
      exact kr_ret_i C (Nat.le_of_ble_eq_true rfl) (Nat.le_of_ble_eq_true rfl) dX3_setHeir_43
    have h := (if_neg hc).symm.trans h
    refine kr_iconst C (v := 1) dX3_setHeir_22 (by decide) ?_
    refine kr_goto C 36 dX3_setHeir_23 (by decide) ?_
    obtain ⟨v15, hv15, h⟩ := kob h
    refine kr_callV1 C (k := 1) (As := [.int (1 : Int32)]) (rest := []) (c_X3_fails hv15) gX3_setHeir_X3_fails rfl rfl rfl (by decide +kernel) ⟨(Nat.le_of_ble_eq_true rfl), (Nat.le_of_ble_eq_true rfl)⟩ ⟨(Nat.le_of_ble_eq_true rfl), (Nat.le_of_ble_eq_true rfl)⟩ 0 rfl rfl rfl rfl (Nat.le_of_ble_eq_true rfl) dX3_setHeir_36 ?_
    refine kr_if_eq C 44 dX3_setHeir_39 (by decide) (fun hc => ?_) (fun hc => ?_)
    · have h := (if_pos hc).symm.trans h
      refine kr_aload_n C 0 dX3_setHeir_44 rfl rfl ?_
      refine kr_get C inX3_setHeir_X3 0 rfl rfl 2 (by decide) flX3_setHeir_17 rfl rfl dX3_setHeir_45 ?_
      refine kr_iload_n C 1 dX3_setHeir_48 rfl rfl ?_
      obtain ⟨hb16, h⟩ := kif h
      refine kr_iald C 2 rfl (kin_in hb16) dX3_setHeir_49 ?_
      refine kr_istore_n C [1, 2, 3, 0] dX3_setHeir_50 rfl (by decide) rfl ?_
      refine kr_aload_n C 0 dX3_setHeir_51 rfl rfl ?_
      refine kr_get C inX3_setHeir_X3 0 rfl rfl 2 (by decide) flX3_setHeir_17 rfl rfl dX3_setHeir_52 ?_
      refine kr_iload_n C 1 dX3_setHeir_55 rfl rfl ?_
      refine kr_iload_n C 2 dX3_setHeir_56 rfl rfl ?_
      obtain ⟨hb17, h⟩ := kif h
      refine kr_iast C 2 rfl (kin_in hb17) (yq2 _ _ _ _ _) dX3_setHeir_57 ?_
      refine kr_iload_n C 3 dX3_setHeir_58 rfl rfl ?_
      cases h
      exact kr_ret_i C (Nat.le_of_ble_eq_true rfl) (Nat.le_of_ble_eq_true rfl) dX3_setHeir_59
    have h := (if_neg hc).symm.trans h
    refine kr_iconst C (v := 0) dX3_setHeir_42 (by decide) ?_
    cases h
    exact kr_ret_i C (Nat.le_of_ble_eq_true rfl) (Nat.le_of_ble_eq_true rfl) dX3_setHeir_43
  have h := (if_neg hc).symm.trans h
  refine kr_iconst C (v := 1) dX3_setHeir_22 (by decide) ?_
  refine kr_goto C 36 dX3_setHeir_23 (by decide) ?_
  obtain ⟨v18, hv18, h⟩ := kob h
  refine kr_callV1 C (k := 1) (As := [.int (1 : Int32)]) (rest := []) (c_X3_fails hv18) gX3_setHeir_X3_fails rfl rfl rfl (by decide +kernel) ⟨(Nat.le_of_ble_eq_true rfl), (Nat.le_of_ble_eq_true rfl)⟩ ⟨(Nat.le_of_ble_eq_true rfl), (Nat.le_of_ble_eq_true rfl)⟩ 0 rfl rfl rfl rfl (Nat.le_of_ble_eq_true rfl) dX3_setHeir_36 ?_
  refine kr_if_eq C 44 dX3_setHeir_39 (by decide) (fun hc => ?_) (fun hc => ?_)
  · have h := (if_pos hc).symm.trans h
    refine kr_aload_n C 0 dX3_setHeir_44 rfl rfl ?_
    refine kr_get C inX3_setHeir_X3 0 rfl rfl 2 (by decide) flX3_setHeir_17 rfl rfl dX3_setHeir_45 ?_
    refine kr_iload_n C 1 dX3_setHeir_48 rfl rfl ?_
    obtain ⟨hb19, h⟩ := kif h
    refine kr_iald C 2 rfl (kin_in hb19) dX3_setHeir_49 ?_
    refine kr_istore_n C [1, 2, 3, 0] dX3_setHeir_50 rfl (by decide) rfl ?_
    refine kr_aload_n C 0 dX3_setHeir_51 rfl rfl ?_
    refine kr_get C inX3_setHeir_X3 0 rfl rfl 2 (by decide) flX3_setHeir_17 rfl rfl dX3_setHeir_52 ?_
    refine kr_iload_n C 1 dX3_setHeir_55 rfl rfl ?_
    refine kr_iload_n C 2 dX3_setHeir_56 rfl rfl ?_
    obtain ⟨hb20, h⟩ := kif h
    refine kr_iast C 2 rfl (kin_in hb20) (yq2 _ _ _ _ _) dX3_setHeir_57 ?_
    refine kr_iload_n C 3 dX3_setHeir_58 rfl rfl ?_
    cases h
    exact kr_ret_i C (Nat.le_of_ble_eq_true rfl) (Nat.le_of_ble_eq_true rfl) dX3_setHeir_59
  have h := (if_neg hc).symm.trans h
  refine kr_iconst C (v := 0) dX3_setHeir_42 (by decide) ?_
  cases h
  exact kr_ret_i C (Nat.le_of_ble_eq_true rfl) (Nat.le_of_ble_eq_true rfl) dX3_setHeir_43
theorem flX3_sharesOf_45 : Cond.fieldLink RX3 45 "FolderKeeperModel" "groupShares" "[I" ∈ wsX3_sharesOf := by decide +kernel
theorem inX3_sharesOf_X3 : ∀ w ∈ wsX30, w ∈ wsX3_sharesOf := fun _ h => List.mem_cons_of_mem _ (List.mem_append_left _ (List.mem_append_right _ h))
theorem flX3_sharesOf_42 : Cond.fieldLink RX3 42 "FolderKeeperModel" "shares" "[I" ∈ wsX3_sharesOf := by decide +kernel
set_option maxHeartbeats 4000000 in
set_option maxRecDepth 100000 in
theorem lc_X3_sharesOf_L40 {K : kEnv} {l : Launch} {D : va_G} {cy : Nat → ClassId} {A : Nat → Prop} {a : Nat → Nat} {Z : va_W} {S : kSt} {r : Int32} (C : kC K D cy A 4 cX3_sharesOf RX3 wsX3_sharesOf (some .int)) : ∀ (n : Nat) (x1 x2 x3 : Int32), f_X3_sharesOf_L40 n S x1 x2 x3 = some r → kG K l D A ({ frames := 0, cells := 0, slots := 0, locals := 0 } : Room) 4 (kEnd K D cy A (yw a cy S Z) (some (.int r)) 0 0) (yw a cy S Z) 0 0 40 [(0, .ref (a 0)), (1, .int (x1)), (2, .int (x2)), (3, .int (x3))] [] := by
  intro n
  induction n with
  | zero => intro x1 x2 x3 h; rw [f_X3_sharesOf_L40] at h; cases h
  | succ n ih =>
    intro x1 x2 x3 h
    rw [f_X3_sharesOf_L40] at h
    refine kr_iload_n C 3 dX3_sharesOf_40 rfl rfl ?_
    refine kr_bipush C (v := 6) dX3_sharesOf_41 (by decide) ?_
    refine kr_icmp_ge C 74 dX3_sharesOf_43 (by decide) (fun hc => ?_) (fun hc => ?_)
    · have h := (if_pos hc).symm.trans h
      refine kr_iload_n C 2 dX3_sharesOf_74 rfl rfl ?_
      cases h
      exact kr_ret_i C (Nat.le_of_ble_eq_true rfl) (Nat.le_of_ble_eq_true rfl) dX3_sharesOf_75
    have h := (if_neg hc).symm.trans h
    refine kr_iload_n C 2 dX3_sharesOf_46 rfl rfl ?_
    refine kr_aload_n C 0 dX3_sharesOf_47 rfl rfl ?_
    refine kr_get C inX3_sharesOf_X3 0 rfl rfl 13 (by decide) flX3_sharesOf_45 rfl rfl dX3_sharesOf_48 ?_
    refine kr_bipush C (v := 6) dX3_sharesOf_51 (by decide) ?_
    refine kr_iload_n C 1 dX3_sharesOf_53 rfl rfl ?_
    refine kr_imul C dX3_sharesOf_54 ?_
    refine kr_iload_n C 3 dX3_sharesOf_55 rfl rfl ?_
    refine kr_iadd C dX3_sharesOf_56 ?_
    obtain ⟨hb1, h⟩ := kif h
    refine kr_iald C 11 rfl (kin_in hb1) dX3_sharesOf_57 ?_
    refine kr_if_le C 65 dX3_sharesOf_58 (by decide) (fun hc => ?_) (fun hc => ?_)
    · have h := (if_pos hc).symm.trans h
      refine kr_iconst C (v := 0) dX3_sharesOf_65 (by decide) ?_
      refine kr_iadd C dX3_sharesOf_66 ?_
      refine kr_istore_n C [1, 2, 0, 3] dX3_sharesOf_67 rfl (by decide) rfl ?_
      refine kr_iinc C (v := (x3 + 1)) 3 [1, 2, 3, 0] dX3_sharesOf_68 rfl rfl (by decide) rfl ?_
      refine kr_goto C 40 dX3_sharesOf_71 (by decide) ?_
      exact ih _ _ _ h
    have h := (if_neg hc).symm.trans h
    refine kr_iconst C (v := 1) dX3_sharesOf_61 (by decide) ?_
    refine kr_goto C 66 dX3_sharesOf_62 (by decide) ?_
    refine kr_iadd C dX3_sharesOf_66 ?_
    refine kr_istore_n C [1, 2, 0, 3] dX3_sharesOf_67 rfl (by decide) rfl ?_
    refine kr_iinc C (v := (x3 + 1)) 3 [1, 2, 3, 0] dX3_sharesOf_68 rfl rfl (by decide) rfl ?_
    refine kr_goto C 40 dX3_sharesOf_71 (by decide) ?_
    exact ih _ _ _ h
set_option maxHeartbeats 4000000 in
set_option maxRecDepth 100000 in
theorem lc_X3_sharesOf_L4 {K : kEnv} {l : Launch} {D : va_G} {cy : Nat → ClassId} {A : Nat → Prop} {a : Nat → Nat} {Z : va_W} {S : kSt} {r : Int32} (C : kC K D cy A 4 cX3_sharesOf RX3 wsX3_sharesOf (some .int)) : ∀ (n : Nat) (x1 x2 x3 : Int32), f_X3_sharesOf_L4 n S x1 x2 x3 = some r → kG K l D A ({ frames := 0, cells := 0, slots := 0, locals := 0 } : Room) 4 (kEnd K D cy A (yw a cy S Z) (some (.int r)) 0 0) (yw a cy S Z) 0 0 4 [(0, .ref (a 0)), (1, .int (x1)), (2, .int (x2)), (3, .int (x3))] [] := by
  intro n
  induction n with
  | zero => intro x1 x2 x3 h; rw [f_X3_sharesOf_L4] at h; cases h
  | succ n ih =>
    intro x1 x2 x3 h
    rw [f_X3_sharesOf_L4] at h
    refine kr_iload_n C 3 dX3_sharesOf_4 rfl rfl ?_
    refine kr_bipush C (v := 10) dX3_sharesOf_5 (by decide) ?_
    refine kr_icmp_ge C 38 dX3_sharesOf_7 (by decide) (fun hc => ?_) (fun hc => ?_)
    · have h := (if_pos hc).symm.trans h
      refine kr_iconst C (v := 0) dX3_sharesOf_38 (by decide) ?_
      refine kr_istore_n C [1, 2, 3, 0] dX3_sharesOf_39 rfl (by decide) rfl ?_
      exact lc_X3_sharesOf_L40 C _ _ _ _ h
    have h := (if_neg hc).symm.trans h
    refine kr_iload_n C 2 dX3_sharesOf_10 rfl rfl ?_
    refine kr_aload_n C 0 dX3_sharesOf_11 rfl rfl ?_
    refine kr_get C inX3_sharesOf_X3 0 rfl rfl 12 (by decide) flX3_sharesOf_42 rfl rfl dX3_sharesOf_12 ?_
    refine kr_bipush C (v := 10) dX3_sharesOf_15 (by decide) ?_
    refine kr_iload_n C 1 dX3_sharesOf_17 rfl rfl ?_
    refine kr_imul C dX3_sharesOf_18 ?_
    refine kr_iload_n C 3 dX3_sharesOf_19 rfl rfl ?_
    refine kr_iadd C dX3_sharesOf_20 ?_
    obtain ⟨hb2, h⟩ := kif h
    refine kr_iald C 10 rfl (kin_in hb2) dX3_sharesOf_21 ?_
    refine kr_if_le C 29 dX3_sharesOf_22 (by decide) (fun hc => ?_) (fun hc => ?_)
    · have h := (if_pos hc).symm.trans h
      refine kr_iconst C (v := 0) dX3_sharesOf_29 (by decide) ?_
      refine kr_iadd C dX3_sharesOf_30 ?_
      refine kr_istore_n C [1, 2, 0, 3] dX3_sharesOf_31 rfl (by decide) rfl ?_
      refine kr_iinc C (v := (x3 + 1)) 3 [1, 2, 3, 0] dX3_sharesOf_32 rfl rfl (by decide) rfl ?_
      refine kr_goto C 4 dX3_sharesOf_35 (by decide) ?_
      exact ih _ _ _ h
    have h := (if_neg hc).symm.trans h
    refine kr_iconst C (v := 1) dX3_sharesOf_25 (by decide) ?_
    refine kr_goto C 30 dX3_sharesOf_26 (by decide) ?_
    refine kr_iadd C dX3_sharesOf_30 ?_
    refine kr_istore_n C [1, 2, 0, 3] dX3_sharesOf_31 rfl (by decide) rfl ?_
    refine kr_iinc C (v := (x3 + 1)) 3 [1, 2, 3, 0] dX3_sharesOf_32 rfl rfl (by decide) rfl ?_
    refine kr_goto C 4 dX3_sharesOf_35 (by decide) ?_
    exact ih _ _ _ h
set_option maxHeartbeats 4000000 in
set_option maxRecDepth 100000 in
theorem c_X3_sharesOf {l : Launch} {D : va_G} {cy : Nat → ClassId} {a : Nat → Nat} {Z : va_W} {S : kSt} {p1 : Int32} {r : Int32} (h : f_X3_sharesOf S p1 = some r) : kM l yX3_sharesOf wsX3_sharesOf ({ frames := 0, cells := 0, slots := 0, locals := 0 } : Room) D cy (yw a cy S Z) [.ref (a 0), .int p1] (yw a cy S Z) (some (.int r)) 0 0 := by
  rw [f_X3_sharesOf] at h
  refine kM.start (L := [(0, .ref (a 0)), (1, .int (p1))]) rfl rfl rfl (Nat.le_of_ble_eq_true rfl) rfl (fun K A C => ?_)
  refine kr_iconst C (v := 0) dX3_sharesOf_0 (by decide) ?_
  refine kr_istore_n C [1, 2, 0] dX3_sharesOf_1 rfl (by decide) rfl ?_
  refine kr_iconst C (v := 0) dX3_sharesOf_2 (by decide) ?_
  refine kr_istore_n C [1, 2, 3, 0] dX3_sharesOf_3 rfl (by decide) rfl ?_
  exact lc_X3_sharesOf_L4 C _ _ _ _ h
theorem flX3_shareWith_42 : Cond.fieldLink RX3 42 "FolderKeeperModel" "shares" "[I" ∈ wsX3_shareWith := by decide +kernel
theorem inX3_shareWith_X3 : ∀ w ∈ wsX30, w ∈ wsX3_shareWith := fun _ h => List.mem_cons_of_mem _ (List.mem_append_left _ (List.mem_append_right _ h))
set_option maxHeartbeats 4000000 in
set_option maxRecDepth 100000 in
theorem c_X3_shareWith {l : Launch} {D : va_G} {cy : Nat → ClassId} {a : Nat → Nat} {Z : va_W} {S : kSt} {p1 : Int32} {p2 : Int32} {p3 : Int32} {r : (Int32 × kSt)} (h : f_X3_shareWith S p1 p2 p3 = some r) : kM l yX3_shareWith wsX3_shareWith ({ frames := 2, cells := 0, slots := 0, locals := 45 } : Room) D cy (yw a cy S Z) [.ref (a 0), .int p1, .int p2, .int p3] (yw a cy r.2 Z) (some (.int r.1)) 0 0 := by
  rw [f_X3_shareWith] at h
  refine kM.start (L := [(0, .ref (a 0)), (1, .int (p1)), (2, .int (p2)), (3, .int (p3))]) rfl rfl rfl (Nat.le_of_ble_eq_true rfl) rfl (fun K A C => ?_)
  refine kr_aload_n C 0 dX3_shareWith_0 rfl rfl ?_
  refine kr_aload_n C 0 dX3_shareWith_1 rfl rfl ?_
  refine kr_iload_n C 1 dX3_shareWith_2 rfl rfl ?_
  obtain ⟨v1, hv1, h⟩ := kob h
  refine kr_callV1 C (k := 1) (As := [.int p1]) (rest := [.ref (a 0)]) (c_X3_isNoFolder hv1) gX3_shareWith_X3_isNoFolder rfl rfl rfl (by decide +kernel) ⟨(Nat.le_of_ble_eq_true rfl), (Nat.le_of_ble_eq_true rfl)⟩ ⟨(Nat.le_of_ble_eq_true rfl), (Nat.le_of_ble_eq_true rfl)⟩ 0 rfl rfl rfl rfl (Nat.le_of_ble_eq_true rfl) dX3_shareWith_3 ?_
  refine kr_if_ne C 21 dX3_shareWith_6 (by decide) (fun hc => ?_) (fun hc => ?_)
  · have h := (if_pos hc).symm.trans h
    refine kr_aload_n C 0 dX3_shareWith_9 rfl rfl ?_
    refine kr_iload_n C 2 dX3_shareWith_10 rfl rfl ?_
    obtain ⟨v2, hv2, h⟩ := kob h
    refine kr_callV1 C (k := 1) (As := [.int p2]) (rest := [.ref (a 0)]) (c_X3_isNoAccount hv2) gX3_shareWith_X3_isNoAccount rfl rfl rfl (by decide +kernel) ⟨(Nat.le_of_ble_eq_true rfl), (Nat.le_of_ble_eq_true rfl)⟩ ⟨(Nat.le_of_ble_eq_true rfl), (Nat.le_of_ble_eq_true rfl)⟩ 0 rfl rfl rfl rfl (Nat.le_of_ble_eq_true rfl) dX3_shareWith_11 ?_
    refine kr_if_ne C 21 dX3_shareWith_14 (by decide) (fun hc => ?_) (fun hc => ?_)
    · have h := (if_pos hc).symm.trans h
      refine kr_iconst C (v := 1) dX3_shareWith_17 (by decide) ?_
      refine kr_goto C 22 dX3_shareWith_18 (by decide) ?_
      refine kr_iload_n C 1 dX3_shareWith_22 rfl rfl ?_
      refine kr_iload_n C 3 dX3_shareWith_23 rfl rfl ?_
      obtain ⟨v3, hv3, h⟩ := kob h
      refine kr_callV1 C (k := 3) (As := [.int (b2i true), .int p1, .int p3]) (rest := []) (c_X3_isKept hv3) gX3_shareWith_X3_isKept rfl rfl rfl (by decide +kernel) ⟨(Nat.le_of_ble_eq_true rfl), (Nat.le_of_ble_eq_true rfl)⟩ ⟨(Nat.le_of_ble_eq_true rfl), (Nat.le_of_ble_eq_true rfl)⟩ 0 rfl rfl rfl rfl (Nat.le_of_ble_eq_true rfl) dX3_shareWith_24 ?_
      refine kr_if_eq C 32 dX3_shareWith_27 (by decide) (fun hc => ?_) (fun hc => ?_)
      · have h := (if_pos hc).symm.trans h
        refine kr_aload_n C 0 dX3_shareWith_32 rfl rfl ?_
        refine kr_get C inX3_shareWith_X3 0 rfl rfl 12 (by decide) flX3_shareWith_42 rfl rfl dX3_shareWith_33 ?_
        refine kr_bipush C (v := 10) dX3_shareWith_36 (by decide) ?_
        refine kr_iload_n C 1 dX3_shareWith_38 rfl rfl ?_
        refine kr_imul C dX3_shareWith_39 ?_
        refine kr_iload_n C 2 dX3_shareWith_40 rfl rfl ?_
        refine kr_iadd C dX3_shareWith_41 ?_
        refine kr_iload_n C 3 dX3_shareWith_42 rfl rfl ?_
        obtain ⟨hb4, h⟩ := kif h
        refine kr_iast C 10 rfl (kin_in hb4) (yq12 _ _ _ _ _) dX3_shareWith_43 ?_
        refine kr_aload_n C 0 dX3_shareWith_44 rfl rfl ?_
        refine kr_iload_n C 1 dX3_shareWith_45 rfl rfl ?_
        obtain ⟨v5, hv5, h⟩ := kob h
        refine kr_callV1 C (k := 1) (As := [.int p1]) (rest := []) (c_X3_sharesOf hv5) gX3_shareWith_X3_sharesOf rfl rfl rfl (by decide +kernel) ⟨(Nat.le_of_ble_eq_true rfl), (Nat.le_of_ble_eq_true rfl)⟩ ⟨(Nat.le_of_ble_eq_true rfl), (Nat.le_of_ble_eq_true rfl)⟩ 0 rfl rfl rfl rfl (Nat.le_of_ble_eq_true rfl) dX3_shareWith_46 ?_
        cases h
        exact kr_ret_i C (Nat.le_of_ble_eq_true rfl) (Nat.le_of_ble_eq_true rfl) dX3_shareWith_49
      have h := (if_neg hc).symm.trans h
      refine kr_iconst C (v := 0) dX3_shareWith_30 (by decide) ?_
      cases h
      exact kr_ret_i C (Nat.le_of_ble_eq_true rfl) (Nat.le_of_ble_eq_true rfl) dX3_shareWith_31
    have h := (if_neg hc).symm.trans h
    refine kr_iconst C (v := 0) dX3_shareWith_21 (by decide) ?_
    refine kr_iload_n C 1 dX3_shareWith_22 rfl rfl ?_
    refine kr_iload_n C 3 dX3_shareWith_23 rfl rfl ?_
    obtain ⟨v6, hv6, h⟩ := kob h
    refine kr_callV1 C (k := 3) (As := [.int (b2i false), .int p1, .int p3]) (rest := []) (c_X3_isKept hv6) gX3_shareWith_X3_isKept rfl rfl rfl (by decide +kernel) ⟨(Nat.le_of_ble_eq_true rfl), (Nat.le_of_ble_eq_true rfl)⟩ ⟨(Nat.le_of_ble_eq_true rfl), (Nat.le_of_ble_eq_true rfl)⟩ 0 rfl rfl rfl rfl (Nat.le_of_ble_eq_true rfl) dX3_shareWith_24 ?_
    refine kr_if_eq C 32 dX3_shareWith_27 (by decide) (fun hc => ?_) (fun hc => ?_)
    · have h := (if_pos hc).symm.trans h
      refine kr_aload_n C 0 dX3_shareWith_32 rfl rfl ?_
      refine kr_get C inX3_shareWith_X3 0 rfl rfl 12 (by decide) flX3_shareWith_42 rfl rfl dX3_shareWith_33 ?_
      refine kr_bipush C (v := 10) dX3_shareWith_36 (by decide) ?_
      refine kr_iload_n C 1 dX3_shareWith_38 rfl rfl ?_
      refine kr_imul C dX3_shareWith_39 ?_
      refine kr_iload_n C 2 dX3_shareWith_40 rfl rfl ?_
      refine kr_iadd C dX3_shareWith_41 ?_
      refine kr_iload_n C 3 dX3_shareWith_42 rfl rfl ?_
      obtain ⟨hb7, h⟩ := kif h
      refine kr_iast C 10 rfl (kin_in hb7) (yq12 _ _ _ _ _) dX3_shareWith_43 ?_
      refine kr_aload_n C 0 dX3_shareWith_44 rfl rfl ?_
      refine kr_iload_n C 1 dX3_shareWith_45 rfl rfl ?_
      obtain ⟨v8, hv8, h⟩ := kob h
      refine kr_callV1 C (k := 1) (As := [.int p1]) (rest := []) (c_X3_sharesOf hv8) gX3_shareWith_X3_sharesOf rfl rfl rfl (by decide +kernel) ⟨(Nat.le_of_ble_eq_true rfl), (Nat.le_of_ble_eq_true rfl)⟩ ⟨(Nat.le_of_ble_eq_true rfl), (Nat.le_of_ble_eq_true rfl)⟩ 0 rfl rfl rfl rfl (Nat.le_of_ble_eq_true rfl) dX3_shareWith_46 ?_
      cases h
      exact kr_ret_i C (Nat.le_of_ble_eq_true rfl) (Nat.le_of_ble_eq_true rfl) dX3_shareWith_49
    have h := (if_neg hc).symm.trans h
    refine kr_iconst C (v := 0) dX3_shareWith_30 (by decide) ?_
    cases h
    exact kr_ret_i C (Nat.le_of_ble_eq_true rfl) (Nat.le_of_ble_eq_true rfl) dX3_shareWith_31
  have h := (if_neg hc).symm.trans h
  refine kr_iconst C (v := 0) dX3_shareWith_21 (by decide) ?_
  refine kr_iload_n C 1 dX3_shareWith_22 rfl rfl ?_
  refine kr_iload_n C 3 dX3_shareWith_23 rfl rfl ?_
  obtain ⟨v9, hv9, h⟩ := kob h
  refine kr_callV1 C (k := 3) (As := [.int (b2i false), .int p1, .int p3]) (rest := []) (c_X3_isKept hv9) gX3_shareWith_X3_isKept rfl rfl rfl (by decide +kernel) ⟨(Nat.le_of_ble_eq_true rfl), (Nat.le_of_ble_eq_true rfl)⟩ ⟨(Nat.le_of_ble_eq_true rfl), (Nat.le_of_ble_eq_true rfl)⟩ 0 rfl rfl rfl rfl (Nat.le_of_ble_eq_true rfl) dX3_shareWith_24 ?_
  refine kr_if_eq C 32 dX3_shareWith_27 (by decide) (fun hc => ?_) (fun hc => ?_)
  · have h := (if_pos hc).symm.trans h
    refine kr_aload_n C 0 dX3_shareWith_32 rfl rfl ?_
    refine kr_get C inX3_shareWith_X3 0 rfl rfl 12 (by decide) flX3_shareWith_42 rfl rfl dX3_shareWith_33 ?_
    refine kr_bipush C (v := 10) dX3_shareWith_36 (by decide) ?_
    refine kr_iload_n C 1 dX3_shareWith_38 rfl rfl ?_
    refine kr_imul C dX3_shareWith_39 ?_
    refine kr_iload_n C 2 dX3_shareWith_40 rfl rfl ?_
    refine kr_iadd C dX3_shareWith_41 ?_
    refine kr_iload_n C 3 dX3_shareWith_42 rfl rfl ?_
    obtain ⟨hb10, h⟩ := kif h
    refine kr_iast C 10 rfl (kin_in hb10) (yq12 _ _ _ _ _) dX3_shareWith_43 ?_
    refine kr_aload_n C 0 dX3_shareWith_44 rfl rfl ?_
    refine kr_iload_n C 1 dX3_shareWith_45 rfl rfl ?_
    obtain ⟨v11, hv11, h⟩ := kob h
    refine kr_callV1 C (k := 1) (As := [.int p1]) (rest := []) (c_X3_sharesOf hv11) gX3_shareWith_X3_sharesOf rfl rfl rfl (by decide +kernel) ⟨(Nat.le_of_ble_eq_true rfl), (Nat.le_of_ble_eq_true rfl)⟩ ⟨(Nat.le_of_ble_eq_true rfl), (Nat.le_of_ble_eq_true rfl)⟩ 0 rfl rfl rfl rfl (Nat.le_of_ble_eq_true rfl) dX3_shareWith_46 ?_
    cases h
    exact kr_ret_i C (Nat.le_of_ble_eq_true rfl) (Nat.le_of_ble_eq_true rfl) dX3_shareWith_49
  have h := (if_neg hc).symm.trans h
  refine kr_iconst C (v := 0) dX3_shareWith_30 (by decide) ?_
  cases h
  exact kr_ret_i C (Nat.le_of_ble_eq_true rfl) (Nat.le_of_ble_eq_true rfl) dX3_shareWith_31
theorem flX3_shareWithGroup_45 : Cond.fieldLink RX3 45 "FolderKeeperModel" "groupShares" "[I" ∈ wsX3_shareWithGroup := by decide +kernel
theorem inX3_shareWithGroup_X3 : ∀ w ∈ wsX30, w ∈ wsX3_shareWithGroup := fun _ h => List.mem_cons_of_mem _ (List.mem_append_left _ (List.mem_append_right _ h))
set_option maxHeartbeats 4000000 in
set_option maxRecDepth 100000 in
theorem c_X3_shareWithGroup {l : Launch} {D : va_G} {cy : Nat → ClassId} {a : Nat → Nat} {Z : va_W} {S : kSt} {p1 : Int32} {p2 : Int32} {p3 : Int32} {r : (Int32 × kSt)} (h : f_X3_shareWithGroup S p1 p2 p3 = some r) : kM l yX3_shareWithGroup wsX3_shareWithGroup ({ frames := 2, cells := 0, slots := 0, locals := 45 } : Room) D cy (yw a cy S Z) [.ref (a 0), .int p1, .int p2, .int p3] (yw a cy r.2 Z) (some (.int r.1)) 0 0 := by
  rw [f_X3_shareWithGroup] at h
  refine kM.start (L := [(0, .ref (a 0)), (1, .int (p1)), (2, .int (p2)), (3, .int (p3))]) rfl rfl rfl (Nat.le_of_ble_eq_true rfl) rfl (fun K A C => ?_)
  refine kr_aload_n C 0 dX3_shareWithGroup_0 rfl rfl ?_
  refine kr_aload_n C 0 dX3_shareWithGroup_1 rfl rfl ?_
  refine kr_iload_n C 1 dX3_shareWithGroup_2 rfl rfl ?_
  obtain ⟨v1, hv1, h⟩ := kob h
  refine kr_callV1 C (k := 1) (As := [.int p1]) (rest := [.ref (a 0)]) (c_X3_isNoFolder hv1) gX3_shareWithGroup_X3_isNoFolder rfl rfl rfl (by decide +kernel) ⟨(Nat.le_of_ble_eq_true rfl), (Nat.le_of_ble_eq_true rfl)⟩ ⟨(Nat.le_of_ble_eq_true rfl), (Nat.le_of_ble_eq_true rfl)⟩ 0 rfl rfl rfl rfl (Nat.le_of_ble_eq_true rfl) dX3_shareWithGroup_3 ?_
  refine kr_if_ne C 21 dX3_shareWithGroup_6 (by decide) (fun hc => ?_) (fun hc => ?_)
  · have h := (if_pos hc).symm.trans h
    refine kr_aload_n C 0 dX3_shareWithGroup_9 rfl rfl ?_
    refine kr_iload_n C 2 dX3_shareWithGroup_10 rfl rfl ?_
    obtain ⟨v2, hv2, h⟩ := kob h
    refine kr_callV1 C (k := 1) (As := [.int p2]) (rest := [.ref (a 0)]) (c_X3_isNoGroup hv2) gX3_shareWithGroup_X3_isNoGroup rfl rfl rfl (by decide +kernel) ⟨(Nat.le_of_ble_eq_true rfl), (Nat.le_of_ble_eq_true rfl)⟩ ⟨(Nat.le_of_ble_eq_true rfl), (Nat.le_of_ble_eq_true rfl)⟩ 0 rfl rfl rfl rfl (Nat.le_of_ble_eq_true rfl) dX3_shareWithGroup_11 ?_
    refine kr_if_ne C 21 dX3_shareWithGroup_14 (by decide) (fun hc => ?_) (fun hc => ?_)
    · have h := (if_pos hc).symm.trans h
      refine kr_iconst C (v := 1) dX3_shareWithGroup_17 (by decide) ?_
      refine kr_goto C 22 dX3_shareWithGroup_18 (by decide) ?_
      refine kr_iload_n C 1 dX3_shareWithGroup_22 rfl rfl ?_
      refine kr_iload_n C 3 dX3_shareWithGroup_23 rfl rfl ?_
      obtain ⟨v3, hv3, h⟩ := kob h
      refine kr_callV1 C (k := 3) (As := [.int (b2i true), .int p1, .int p3]) (rest := []) (c_X3_isKept hv3) gX3_shareWithGroup_X3_isKept rfl rfl rfl (by decide +kernel) ⟨(Nat.le_of_ble_eq_true rfl), (Nat.le_of_ble_eq_true rfl)⟩ ⟨(Nat.le_of_ble_eq_true rfl), (Nat.le_of_ble_eq_true rfl)⟩ 0 rfl rfl rfl rfl (Nat.le_of_ble_eq_true rfl) dX3_shareWithGroup_24 ?_
      refine kr_if_eq C 32 dX3_shareWithGroup_27 (by decide) (fun hc => ?_) (fun hc => ?_)
      · have h := (if_pos hc).symm.trans h
        refine kr_aload_n C 0 dX3_shareWithGroup_32 rfl rfl ?_
        refine kr_get C inX3_shareWithGroup_X3 0 rfl rfl 13 (by decide) flX3_shareWithGroup_45 rfl rfl dX3_shareWithGroup_33 ?_
        refine kr_bipush C (v := 6) dX3_shareWithGroup_36 (by decide) ?_
        refine kr_iload_n C 1 dX3_shareWithGroup_38 rfl rfl ?_
        refine kr_imul C dX3_shareWithGroup_39 ?_
        refine kr_iload_n C 2 dX3_shareWithGroup_40 rfl rfl ?_
        refine kr_iadd C dX3_shareWithGroup_41 ?_
        refine kr_iload_n C 3 dX3_shareWithGroup_42 rfl rfl ?_
        obtain ⟨hb4, h⟩ := kif h
        refine kr_iast C 11 rfl (kin_in hb4) (yq13 _ _ _ _ _) dX3_shareWithGroup_43 ?_
        refine kr_aload_n C 0 dX3_shareWithGroup_44 rfl rfl ?_
        refine kr_iload_n C 1 dX3_shareWithGroup_45 rfl rfl ?_
        obtain ⟨v5, hv5, h⟩ := kob h
        refine kr_callV1 C (k := 1) (As := [.int p1]) (rest := []) (c_X3_sharesOf hv5) gX3_shareWithGroup_X3_sharesOf rfl rfl rfl (by decide +kernel) ⟨(Nat.le_of_ble_eq_true rfl), (Nat.le_of_ble_eq_true rfl)⟩ ⟨(Nat.le_of_ble_eq_true rfl), (Nat.le_of_ble_eq_true rfl)⟩ 0 rfl rfl rfl rfl (Nat.le_of_ble_eq_true rfl) dX3_shareWithGroup_46 ?_
        cases h
        exact kr_ret_i C (Nat.le_of_ble_eq_true rfl) (Nat.le_of_ble_eq_true rfl) dX3_shareWithGroup_49
      have h := (if_neg hc).symm.trans h
      refine kr_iconst C (v := 0) dX3_shareWithGroup_30 (by decide) ?_
      cases h
      exact kr_ret_i C (Nat.le_of_ble_eq_true rfl) (Nat.le_of_ble_eq_true rfl) dX3_shareWithGroup_31
    have h := (if_neg hc).symm.trans h
    refine kr_iconst C (v := 0) dX3_shareWithGroup_21 (by decide) ?_
    refine kr_iload_n C 1 dX3_shareWithGroup_22 rfl rfl ?_
    refine kr_iload_n C 3 dX3_shareWithGroup_23 rfl rfl ?_
    obtain ⟨v6, hv6, h⟩ := kob h
    refine kr_callV1 C (k := 3) (As := [.int (b2i false), .int p1, .int p3]) (rest := []) (c_X3_isKept hv6) gX3_shareWithGroup_X3_isKept rfl rfl rfl (by decide +kernel) ⟨(Nat.le_of_ble_eq_true rfl), (Nat.le_of_ble_eq_true rfl)⟩ ⟨(Nat.le_of_ble_eq_true rfl), (Nat.le_of_ble_eq_true rfl)⟩ 0 rfl rfl rfl rfl (Nat.le_of_ble_eq_true rfl) dX3_shareWithGroup_24 ?_
    refine kr_if_eq C 32 dX3_shareWithGroup_27 (by decide) (fun hc => ?_) (fun hc => ?_)
    · have h := (if_pos hc).symm.trans h
      refine kr_aload_n C 0 dX3_shareWithGroup_32 rfl rfl ?_
      refine kr_get C inX3_shareWithGroup_X3 0 rfl rfl 13 (by decide) flX3_shareWithGroup_45 rfl rfl dX3_shareWithGroup_33 ?_
      refine kr_bipush C (v := 6) dX3_shareWithGroup_36 (by decide) ?_
      refine kr_iload_n C 1 dX3_shareWithGroup_38 rfl rfl ?_
      refine kr_imul C dX3_shareWithGroup_39 ?_
      refine kr_iload_n C 2 dX3_shareWithGroup_40 rfl rfl ?_
      refine kr_iadd C dX3_shareWithGroup_41 ?_
      refine kr_iload_n C 3 dX3_shareWithGroup_42 rfl rfl ?_
      obtain ⟨hb7, h⟩ := kif h
      refine kr_iast C 11 rfl (kin_in hb7) (yq13 _ _ _ _ _) dX3_shareWithGroup_43 ?_
      refine kr_aload_n C 0 dX3_shareWithGroup_44 rfl rfl ?_
      refine kr_iload_n C 1 dX3_shareWithGroup_45 rfl rfl ?_
      obtain ⟨v8, hv8, h⟩ := kob h
      refine kr_callV1 C (k := 1) (As := [.int p1]) (rest := []) (c_X3_sharesOf hv8) gX3_shareWithGroup_X3_sharesOf rfl rfl rfl (by decide +kernel) ⟨(Nat.le_of_ble_eq_true rfl), (Nat.le_of_ble_eq_true rfl)⟩ ⟨(Nat.le_of_ble_eq_true rfl), (Nat.le_of_ble_eq_true rfl)⟩ 0 rfl rfl rfl rfl (Nat.le_of_ble_eq_true rfl) dX3_shareWithGroup_46 ?_
      cases h
      exact kr_ret_i C (Nat.le_of_ble_eq_true rfl) (Nat.le_of_ble_eq_true rfl) dX3_shareWithGroup_49
    have h := (if_neg hc).symm.trans h
    refine kr_iconst C (v := 0) dX3_shareWithGroup_30 (by decide) ?_
    cases h
    exact kr_ret_i C (Nat.le_of_ble_eq_true rfl) (Nat.le_of_ble_eq_true rfl) dX3_shareWithGroup_31
  have h := (if_neg hc).symm.trans h
  refine kr_iconst C (v := 0) dX3_shareWithGroup_21 (by decide) ?_
  refine kr_iload_n C 1 dX3_shareWithGroup_22 rfl rfl ?_
  refine kr_iload_n C 3 dX3_shareWithGroup_23 rfl rfl ?_
  obtain ⟨v9, hv9, h⟩ := kob h
  refine kr_callV1 C (k := 3) (As := [.int (b2i false), .int p1, .int p3]) (rest := []) (c_X3_isKept hv9) gX3_shareWithGroup_X3_isKept rfl rfl rfl (by decide +kernel) ⟨(Nat.le_of_ble_eq_true rfl), (Nat.le_of_ble_eq_true rfl)⟩ ⟨(Nat.le_of_ble_eq_true rfl), (Nat.le_of_ble_eq_true rfl)⟩ 0 rfl rfl rfl rfl (Nat.le_of_ble_eq_true rfl) dX3_shareWithGroup_24 ?_
  refine kr_if_eq C 32 dX3_shareWithGroup_27 (by decide) (fun hc => ?_) (fun hc => ?_)
  · have h := (if_pos hc).symm.trans h
    refine kr_aload_n C 0 dX3_shareWithGroup_32 rfl rfl ?_
    refine kr_get C inX3_shareWithGroup_X3 0 rfl rfl 13 (by decide) flX3_shareWithGroup_45 rfl rfl dX3_shareWithGroup_33 ?_
    refine kr_bipush C (v := 6) dX3_shareWithGroup_36 (by decide) ?_
    refine kr_iload_n C 1 dX3_shareWithGroup_38 rfl rfl ?_
    refine kr_imul C dX3_shareWithGroup_39 ?_
    refine kr_iload_n C 2 dX3_shareWithGroup_40 rfl rfl ?_
    refine kr_iadd C dX3_shareWithGroup_41 ?_
    refine kr_iload_n C 3 dX3_shareWithGroup_42 rfl rfl ?_
    obtain ⟨hb10, h⟩ := kif h
    refine kr_iast C 11 rfl (kin_in hb10) (yq13 _ _ _ _ _) dX3_shareWithGroup_43 ?_
    refine kr_aload_n C 0 dX3_shareWithGroup_44 rfl rfl ?_
    refine kr_iload_n C 1 dX3_shareWithGroup_45 rfl rfl ?_
    obtain ⟨v11, hv11, h⟩ := kob h
    refine kr_callV1 C (k := 1) (As := [.int p1]) (rest := []) (c_X3_sharesOf hv11) gX3_shareWithGroup_X3_sharesOf rfl rfl rfl (by decide +kernel) ⟨(Nat.le_of_ble_eq_true rfl), (Nat.le_of_ble_eq_true rfl)⟩ ⟨(Nat.le_of_ble_eq_true rfl), (Nat.le_of_ble_eq_true rfl)⟩ 0 rfl rfl rfl rfl (Nat.le_of_ble_eq_true rfl) dX3_shareWithGroup_46 ?_
    cases h
    exact kr_ret_i C (Nat.le_of_ble_eq_true rfl) (Nat.le_of_ble_eq_true rfl) dX3_shareWithGroup_49
  have h := (if_neg hc).symm.trans h
  refine kr_iconst C (v := 0) dX3_shareWithGroup_30 (by decide) ?_
  cases h
  exact kr_ret_i C (Nat.le_of_ble_eq_true rfl) (Nat.le_of_ble_eq_true rfl) dX3_shareWithGroup_31
theorem flX3_thrown_54 : Cond.fieldLink RX3 54 "FolderKeeperModel" "code" "I" ∈ wsX3_thrown := by decide +kernel
theorem inX3_thrown_X3 : ∀ w ∈ wsX30, w ∈ wsX3_thrown := fun _ h => List.mem_cons_of_mem _ (List.mem_append_right _ h)
set_option maxHeartbeats 4000000 in
set_option maxRecDepth 100000 in
theorem c_X3_thrown {l : Launch} {D : va_G} {cy : Nat → ClassId} {a : Nat → Nat} {Z : va_W} {S : kSt} {r : Int32} (h : f_X3_thrown S = some r) : kM l yX3_thrown wsX3_thrown ({ frames := 0, cells := 0, slots := 0, locals := 0 } : Room) D cy (yw a cy S Z) [.ref (a 0)] (yw a cy S Z) (some (.int r)) 0 0 := by
  rw [f_X3_thrown] at h
  refine kM.start (L := [(0, .ref (a 0))]) rfl rfl rfl (Nat.le_of_ble_eq_true rfl) rfl (fun K A C => ?_)
  refine kr_aload_n C 0 dX3_thrown_0 rfl rfl ?_
  refine kr_get C inX3_thrown_X3 0 rfl rfl 18 (by decide) flX3_thrown_54 rfl rfl dX3_thrown_1 ?_
  cases h
  exact kr_ret_i C (Nat.le_of_ble_eq_true rfl) (Nat.le_of_ble_eq_true rfl) dX3_thrown_4
