theorem clL_addAccount_13 : Cond.classLink RL 13 "java/lang/IllegalStateException" ∈ wsL_addAccount := by decide +kernel
set_option maxHeartbeats 4000000 in
set_option maxRecDepth 100000 in
theorem c_L_addAccount {l : Launch} {D : va_G} {cy : Nat → ClassId} {a b : Nat → Nat} {o0 o1 : Nat} {S T : kSt} {g : Nat → Int64} {d : Nat → UInt64}  {r : Int32 × kSt × (Nat → Int64)} {sa : Nat → Nat} (hlt : l.stackTraces = false) (h : f_L_addAccount S g  = some r) : kX l yL_addAccount wsL_addAccount ({ frames := 7, cells := 1, slots := 6, locals := 103 } : Room) D cy sa (lwx a b cy o0 o1 S T g d) [.ref (a 0), .ref o0] (lwx a b cy o0 o1 r.2.1 T r.2.2 d) (.inl (some (.int r.1))) 1 6 := by
  rw [f_L_addAccount] at h
  refine kX.startH (L := [(0, .ref (a 0)), (1, .ref (o0))]) hlt rfl rfl rfl (Nat.le_of_ble_eq_true rfl) rfl (fun K A C CX CT => ?_)
  refine kr_aload_n C 1 dL_addAccount_0 rfl rfl ?_
  refine kr_iconst C (v := 0) dL_addAccount_1 (by decide) ?_
  refine kr_aload_n C 0 dL_addAccount_2 rfl rfl ?_
  rcases kxs_some h with ⟨Ev1, Sv1, hv1, h⟩ | ⟨v1, Sv1, hv1, h⟩
  · by_cases hE0 : Ev1 = "java/lang/IllegalStateException"
    · have h := (if_pos hE0).symm.trans h
      cases h
      subst hE0
      refine kr_xVh C CX CT (k := 0) (As := []) (rest := [.int ((0 : Int32)), .ref (o0)]) (c_X2_addAccount hlt hv1) gL_addAccount_X2_addAccount rfl rfl rfl (by decide +kernel) ⟨(Nat.le_of_ble_eq_true rfl), (Nat.le_of_ble_eq_true rfl)⟩ ⟨(Nat.le_of_ble_eq_true rfl), (Nat.le_of_ble_eq_true rfl)⟩ 0 rfl rfl rfl rfl (Nat.le_of_ble_eq_true rfl) dL_addAccount_3 (by decide) [] ⟨0, 8, 11, 13⟩ [] rfl (fun _ h => absurd h List.not_mem_nil) (by decide) (by decide) clL_addAccount_13 (fun q9 => ?_)
      refine kr_astore_n C [1, 2, 0] dL_addAccount_11 rfl (by decide) rfl ?_
      refine kr_iconst C (v := 1) dL_addAccount_12 (by decide) ?_
      exact kr_retX (kr_ret_i C (Nat.le_of_ble_eq_true rfl) (Nat.le_of_ble_eq_true rfl) dL_addAccount_13)
    have h := (if_neg hE0).symm.trans h
    cases h
  refine kr_xV1 C CX (k := 0) (As := []) (rest := [.int ((0 : Int32)), .ref (o0)]) (c_X2_addAccount hlt hv1) gL_addAccount_X2_addAccount rfl rfl rfl (by decide +kernel) ⟨(Nat.le_of_ble_eq_true rfl), (Nat.le_of_ble_eq_true rfl)⟩ ⟨(Nat.le_of_ble_eq_true rfl), (Nat.le_of_ble_eq_true rfl)⟩ 0 rfl rfl rfl rfl (Nat.le_of_ble_eq_true rfl) dL_addAccount_3 (X2 := (lwx a b cy o0 o1 Sv1 T g d)) ?_
  refine kr_i2l C dL_addAccount_6 ?_
  refine kr_last C 31 rfl (vp_in_iff.mpr (by decide)) (X2 := (lwx a b cy o0 o1 Sv1 T (vp_updL g (0 : Int32).toNatClampNeg v1.toInt64) d)) rfl dL_addAccount_7 ?_
  refine kr_goto C 14 dL_addAccount_8 (by decide) ?_
  refine kr_iconst C (v := 0) dL_addAccount_14 (by decide) ?_
  cases h
  exact kr_retX (kr_ret_i C (Nat.le_of_ble_eq_true rfl) (Nat.le_of_ble_eq_true rfl) dL_addAccount_15)
theorem clL_addFolder_19 : Cond.classLink RL 19 "java/lang/IndexOutOfBoundsException" ∈ wsL_addFolder := by decide +kernel
theorem clL_addFolder_30 : Cond.classLink RL 30 "java/lang/UnsupportedOperationException" ∈ wsL_addFolder := by decide +kernel
theorem clL_addFolder_13 : Cond.classLink RL 13 "java/lang/IllegalStateException" ∈ wsL_addFolder := by decide +kernel
set_option maxHeartbeats 4000000 in
set_option maxRecDepth 100000 in
theorem c_L_addFolder {l : Launch} {D : va_G} {cy : Nat → ClassId} {a b : Nat → Nat} {o0 o1 : Nat} {S T : kSt} {g : Nat → Int64} {d : Nat → UInt64} {p1 : Int32} {p2 : Int32} {r : Int32 × kSt × (Nat → Int64)} {sa : Nat → Nat} (hlt : l.stackTraces = false) (h : f_L_addFolder S g p1 p2 = some r) : kX l yL_addFolder wsL_addFolder ({ frames := 8, cells := 3, slots := 18, locals := 126 } : Room) D cy sa (lwx a b cy o0 o1 S T g d) [.ref (a 0), .int p1, .int p2, .ref o0] (lwx a b cy o0 o1 r.2.1 T r.2.2 d) (.inl (some (.int r.1))) 3 18 := by
  rw [f_L_addFolder] at h
  refine kX.startH (L := [(0, .ref (a 0)), (1, .int (p1)), (2, .int (p2)), (3, .ref (o0))]) hlt rfl rfl rfl (Nat.le_of_ble_eq_true rfl) rfl (fun K A C CX CT => ?_)
  refine kr_aload_n C 3 dL_addFolder_0 rfl rfl ?_
  refine kr_iconst C (v := 0) dL_addFolder_1 (by decide) ?_
  refine kr_aload_n C 0 dL_addFolder_2 rfl rfl ?_
  refine kr_iload_n C 1 dL_addFolder_3 rfl rfl ?_
  refine kr_iload_n C 2 dL_addFolder_4 rfl rfl ?_
  rcases kxs_some h with ⟨Ev1, Sv1, hv1, h⟩ | ⟨v1, Sv1, hv1, h⟩
  · by_cases hE0 : Ev1 = "java/lang/IndexOutOfBoundsException"
    · have h := (if_pos hE0).symm.trans h
      cases h
      subst hE0
      refine kr_xVh C CX CT (k := 2) (As := [.int p1, .int p2]) (rest := [.int ((0 : Int32)), .ref (o0)]) (c_X2_addFolder hlt hv1) gL_addFolder_X2_addFolder rfl rfl rfl (by decide +kernel) ⟨(Nat.le_of_ble_eq_true rfl), (Nat.le_of_ble_eq_true rfl)⟩ ⟨(Nat.le_of_ble_eq_true rfl), (Nat.le_of_ble_eq_true rfl)⟩ 0 rfl rfl rfl rfl (Nat.le_of_ble_eq_true rfl) dL_addFolder_5 (by decide) [] ⟨0, 10, 13, 19⟩ [⟨0, 10, 17, 30⟩, ⟨0, 10, 21, 13⟩] rfl (fun _ h => absurd h List.not_mem_nil) (by decide) (by decide) clL_addFolder_19 (fun q9 => ?_)
      refine kr_astore C [1, 2, 3, 4, 0] dL_addFolder_13 (by decide) rfl ?_
      refine kr_iconst C (v := 1) dL_addFolder_15 (by decide) ?_
      exact kr_retX (kr_ret_i C (Nat.le_of_ble_eq_true rfl) (Nat.le_of_ble_eq_true rfl) dL_addFolder_16)
    have h := (if_neg hE0).symm.trans h
    by_cases hE1 : Ev1 = "java/lang/UnsupportedOperationException"
    · have h := (if_pos hE1).symm.trans h
      cases h
      subst hE1
      refine kr_xVh C CX CT (k := 2) (As := [.int p1, .int p2]) (rest := [.int ((0 : Int32)), .ref (o0)]) (c_X2_addFolder hlt hv1) gL_addFolder_X2_addFolder rfl rfl rfl (by decide +kernel) ⟨(Nat.le_of_ble_eq_true rfl), (Nat.le_of_ble_eq_true rfl)⟩ ⟨(Nat.le_of_ble_eq_true rfl), (Nat.le_of_ble_eq_true rfl)⟩ 0 rfl rfl rfl rfl (Nat.le_of_ble_eq_true rfl) dL_addFolder_5 (by decide) [⟨0, 10, 13, 19⟩] ⟨0, 10, 17, 30⟩ [⟨0, 10, 21, 13⟩] rfl (List.forall_mem_cons.mpr ⟨⟨by decide, "java/lang/IndexOutOfBoundsException", clL_addFolder_19, by decide, by decide⟩, (fun _ h => absurd h List.not_mem_nil)⟩) (by decide) (by decide) clL_addFolder_30 (fun q9 => ?_)
      refine kr_astore C [1, 2, 3, 4, 0] dL_addFolder_17 (by decide) rfl ?_
      refine kr_iconst C (v := 2) dL_addFolder_19 (by decide) ?_
      exact kr_retX (kr_ret_i C (Nat.le_of_ble_eq_true rfl) (Nat.le_of_ble_eq_true rfl) dL_addFolder_20)
    have h := (if_neg hE1).symm.trans h
    by_cases hE2 : Ev1 = "java/lang/IllegalStateException"
    · have h := (if_pos hE2).symm.trans h
      cases h
      subst hE2
      refine kr_xVh C CX CT (k := 2) (As := [.int p1, .int p2]) (rest := [.int ((0 : Int32)), .ref (o0)]) (c_X2_addFolder hlt hv1) gL_addFolder_X2_addFolder rfl rfl rfl (by decide +kernel) ⟨(Nat.le_of_ble_eq_true rfl), (Nat.le_of_ble_eq_true rfl)⟩ ⟨(Nat.le_of_ble_eq_true rfl), (Nat.le_of_ble_eq_true rfl)⟩ 0 rfl rfl rfl rfl (Nat.le_of_ble_eq_true rfl) dL_addFolder_5 (by decide) [⟨0, 10, 13, 19⟩, ⟨0, 10, 17, 30⟩] ⟨0, 10, 21, 13⟩ [] rfl (List.forall_mem_cons.mpr ⟨⟨by decide, "java/lang/IndexOutOfBoundsException", clL_addFolder_19, by decide, by decide⟩, (List.forall_mem_cons.mpr ⟨⟨by decide, "java/lang/UnsupportedOperationException", clL_addFolder_30, by decide, by decide⟩, (fun _ h => absurd h List.not_mem_nil)⟩)⟩) (by decide) (by decide) clL_addFolder_13 (fun q9 => ?_)
      refine kr_astore C [1, 2, 3, 4, 0] dL_addFolder_21 (by decide) rfl ?_
      refine kr_iconst C (v := 3) dL_addFolder_23 (by decide) ?_
      exact kr_retX (kr_ret_i C (Nat.le_of_ble_eq_true rfl) (Nat.le_of_ble_eq_true rfl) dL_addFolder_24)
    have h := (if_neg hE2).symm.trans h
    cases h
  refine kr_xV1 C CX (k := 2) (As := [.int p1, .int p2]) (rest := [.int ((0 : Int32)), .ref (o0)]) (c_X2_addFolder hlt hv1) gL_addFolder_X2_addFolder rfl rfl rfl (by decide +kernel) ⟨(Nat.le_of_ble_eq_true rfl), (Nat.le_of_ble_eq_true rfl)⟩ ⟨(Nat.le_of_ble_eq_true rfl), (Nat.le_of_ble_eq_true rfl)⟩ 0 rfl rfl rfl rfl (Nat.le_of_ble_eq_true rfl) dL_addFolder_5 (X2 := (lwx a b cy o0 o1 Sv1 T g d)) ?_
  refine kr_i2l C dL_addFolder_8 ?_
  refine kr_last C 31 rfl (vp_in_iff.mpr (by decide)) (X2 := (lwx a b cy o0 o1 Sv1 T (vp_updL g (0 : Int32).toNatClampNeg v1.toInt64) d)) rfl dL_addFolder_9 ?_
  refine kr_goto C 25 dL_addFolder_10 (by decide) ?_
  refine kr_iconst C (v := 0) dL_addFolder_25 (by decide) ?_
  cases h
  exact kr_retX (kr_ret_i C (Nat.le_of_ble_eq_true rfl) (Nat.le_of_ble_eq_true rfl) dL_addFolder_26)
theorem clL_addGroup_13 : Cond.classLink RL 13 "java/lang/IllegalStateException" ∈ wsL_addGroup := by decide +kernel
set_option maxHeartbeats 4000000 in
set_option maxRecDepth 100000 in
theorem c_L_addGroup {l : Launch} {D : va_G} {cy : Nat → ClassId} {a b : Nat → Nat} {o0 o1 : Nat} {S T : kSt} {g : Nat → Int64} {d : Nat → UInt64}  {r : Int32 × kSt × (Nat → Int64)} {sa : Nat → Nat} (hlt : l.stackTraces = false) (h : f_L_addGroup S g  = some r) : kX l yL_addGroup wsL_addGroup ({ frames := 7, cells := 1, slots := 6, locals := 103 } : Room) D cy sa (lwx a b cy o0 o1 S T g d) [.ref (a 0), .ref o0] (lwx a b cy o0 o1 r.2.1 T r.2.2 d) (.inl (some (.int r.1))) 1 6 := by
  rw [f_L_addGroup] at h
  refine kX.startH (L := [(0, .ref (a 0)), (1, .ref (o0))]) hlt rfl rfl rfl (Nat.le_of_ble_eq_true rfl) rfl (fun K A C CX CT => ?_)
  refine kr_aload_n C 1 dL_addGroup_0 rfl rfl ?_
  refine kr_iconst C (v := 0) dL_addGroup_1 (by decide) ?_
  refine kr_aload_n C 0 dL_addGroup_2 rfl rfl ?_
  rcases kxs_some h with ⟨Ev1, Sv1, hv1, h⟩ | ⟨v1, Sv1, hv1, h⟩
  · by_cases hE0 : Ev1 = "java/lang/IllegalStateException"
    · have h := (if_pos hE0).symm.trans h
      cases h
      subst hE0
      refine kr_xVh C CX CT (k := 0) (As := []) (rest := [.int ((0 : Int32)), .ref (o0)]) (c_X2_addGroup hlt hv1) gL_addGroup_X2_addGroup rfl rfl rfl (by decide +kernel) ⟨(Nat.le_of_ble_eq_true rfl), (Nat.le_of_ble_eq_true rfl)⟩ ⟨(Nat.le_of_ble_eq_true rfl), (Nat.le_of_ble_eq_true rfl)⟩ 0 rfl rfl rfl rfl (Nat.le_of_ble_eq_true rfl) dL_addGroup_3 (by decide) [] ⟨0, 8, 11, 13⟩ [] rfl (fun _ h => absurd h List.not_mem_nil) (by decide) (by decide) clL_addGroup_13 (fun q9 => ?_)
      refine kr_astore_n C [1, 2, 0] dL_addGroup_11 rfl (by decide) rfl ?_
      refine kr_iconst C (v := 1) dL_addGroup_12 (by decide) ?_
      exact kr_retX (kr_ret_i C (Nat.le_of_ble_eq_true rfl) (Nat.le_of_ble_eq_true rfl) dL_addGroup_13)
    have h := (if_neg hE0).symm.trans h
    cases h
  refine kr_xV1 C CX (k := 0) (As := []) (rest := [.int ((0 : Int32)), .ref (o0)]) (c_X2_addGroup hlt hv1) gL_addGroup_X2_addGroup rfl rfl rfl (by decide +kernel) ⟨(Nat.le_of_ble_eq_true rfl), (Nat.le_of_ble_eq_true rfl)⟩ ⟨(Nat.le_of_ble_eq_true rfl), (Nat.le_of_ble_eq_true rfl)⟩ 0 rfl rfl rfl rfl (Nat.le_of_ble_eq_true rfl) dL_addGroup_3 (X2 := (lwx a b cy o0 o1 Sv1 T g d)) ?_
  refine kr_i2l C dL_addGroup_6 ?_
  refine kr_last C 31 rfl (vp_in_iff.mpr (by decide)) (X2 := (lwx a b cy o0 o1 Sv1 T (vp_updL g (0 : Int32).toNatClampNeg v1.toInt64) d)) rfl dL_addGroup_7 ?_
  refine kr_goto C 14 dL_addGroup_8 (by decide) ?_
  refine kr_iconst C (v := 0) dL_addGroup_14 (by decide) ?_
  cases h
  exact kr_retX (kr_ret_i C (Nat.le_of_ble_eq_true rfl) (Nat.le_of_ble_eq_true rfl) dL_addGroup_15)
theorem clL_addRoom_19 : Cond.classLink RL 19 "java/lang/IndexOutOfBoundsException" ∈ wsL_addRoom := by decide +kernel
theorem clL_addRoom_13 : Cond.classLink RL 13 "java/lang/IllegalStateException" ∈ wsL_addRoom := by decide +kernel
set_option maxHeartbeats 4000000 in
set_option maxRecDepth 100000 in
theorem c_L_addRoom {l : Launch} {D : va_G} {cy : Nat → ClassId} {a b : Nat → Nat} {o0 o1 : Nat} {S T : kSt} {g : Nat → Int64} {d : Nat → UInt64} {p1 : Int32} {r : Int32 × kSt × (Nat → Int64)} {sa : Nat → Nat} (hlt : l.stackTraces = false) (h : f_L_addRoom S g p1 = some r) : kX l yL_addRoom wsL_addRoom ({ frames := 8, cells := 2, slots := 12, locals := 125 } : Room) D cy sa (lwx a b cy o0 o1 S T g d) [.ref (a 0), .int p1, .ref o0] (lwx a b cy o0 o1 r.2.1 T r.2.2 d) (.inl (some (.int r.1))) 2 12 := by
  rw [f_L_addRoom] at h
  refine kX.startH (L := [(0, .ref (a 0)), (1, .int (p1)), (2, .ref (o0))]) hlt rfl rfl rfl (Nat.le_of_ble_eq_true rfl) rfl (fun K A C CX CT => ?_)
  refine kr_aload_n C 2 dL_addRoom_0 rfl rfl ?_
  refine kr_iconst C (v := 0) dL_addRoom_1 (by decide) ?_
  refine kr_aload_n C 0 dL_addRoom_2 rfl rfl ?_
  refine kr_iload_n C 1 dL_addRoom_3 rfl rfl ?_
  rcases kxs_some h with ⟨Ev1, Sv1, hv1, h⟩ | ⟨v1, Sv1, hv1, h⟩
  · by_cases hE0 : Ev1 = "java/lang/IndexOutOfBoundsException"
    · have h := (if_pos hE0).symm.trans h
      cases h
      subst hE0
      refine kr_xVh C CX CT (k := 1) (As := [.int p1]) (rest := [.int ((0 : Int32)), .ref (o0)]) (c_X2_addRoom hlt hv1) gL_addRoom_X2_addRoom rfl rfl rfl (by decide +kernel) ⟨(Nat.le_of_ble_eq_true rfl), (Nat.le_of_ble_eq_true rfl)⟩ ⟨(Nat.le_of_ble_eq_true rfl), (Nat.le_of_ble_eq_true rfl)⟩ 0 rfl rfl rfl rfl (Nat.le_of_ble_eq_true rfl) dL_addRoom_4 (by decide) [] ⟨0, 9, 12, 19⟩ [⟨0, 9, 15, 13⟩] rfl (fun _ h => absurd h List.not_mem_nil) (by decide) (by decide) clL_addRoom_19 (fun q9 => ?_)
      refine kr_astore_n C [1, 2, 3, 0] dL_addRoom_12 rfl (by decide) rfl ?_
      refine kr_iconst C (v := 1) dL_addRoom_13 (by decide) ?_
      exact kr_retX (kr_ret_i C (Nat.le_of_ble_eq_true rfl) (Nat.le_of_ble_eq_true rfl) dL_addRoom_14)
    have h := (if_neg hE0).symm.trans h
    by_cases hE1 : Ev1 = "java/lang/IllegalStateException"
    · have h := (if_pos hE1).symm.trans h
      cases h
      subst hE1
      refine kr_xVh C CX CT (k := 1) (As := [.int p1]) (rest := [.int ((0 : Int32)), .ref (o0)]) (c_X2_addRoom hlt hv1) gL_addRoom_X2_addRoom rfl rfl rfl (by decide +kernel) ⟨(Nat.le_of_ble_eq_true rfl), (Nat.le_of_ble_eq_true rfl)⟩ ⟨(Nat.le_of_ble_eq_true rfl), (Nat.le_of_ble_eq_true rfl)⟩ 0 rfl rfl rfl rfl (Nat.le_of_ble_eq_true rfl) dL_addRoom_4 (by decide) [⟨0, 9, 12, 19⟩] ⟨0, 9, 15, 13⟩ [] rfl (List.forall_mem_cons.mpr ⟨⟨by decide, "java/lang/IndexOutOfBoundsException", clL_addRoom_19, by decide, by decide⟩, (fun _ h => absurd h List.not_mem_nil)⟩) (by decide) (by decide) clL_addRoom_13 (fun q9 => ?_)
      refine kr_astore_n C [1, 2, 3, 0] dL_addRoom_15 rfl (by decide) rfl ?_
      refine kr_iconst C (v := 2) dL_addRoom_16 (by decide) ?_
      exact kr_retX (kr_ret_i C (Nat.le_of_ble_eq_true rfl) (Nat.le_of_ble_eq_true rfl) dL_addRoom_17)
    have h := (if_neg hE1).symm.trans h
    cases h
  refine kr_xV1 C CX (k := 1) (As := [.int p1]) (rest := [.int ((0 : Int32)), .ref (o0)]) (c_X2_addRoom hlt hv1) gL_addRoom_X2_addRoom rfl rfl rfl (by decide +kernel) ⟨(Nat.le_of_ble_eq_true rfl), (Nat.le_of_ble_eq_true rfl)⟩ ⟨(Nat.le_of_ble_eq_true rfl), (Nat.le_of_ble_eq_true rfl)⟩ 0 rfl rfl rfl rfl (Nat.le_of_ble_eq_true rfl) dL_addRoom_4 (X2 := (lwx a b cy o0 o1 Sv1 T g d)) ?_
  refine kr_i2l C dL_addRoom_7 ?_
  refine kr_last C 31 rfl (vp_in_iff.mpr (by decide)) (X2 := (lwx a b cy o0 o1 Sv1 T (vp_updL g (0 : Int32).toNatClampNeg v1.toInt64) d)) rfl dL_addRoom_8 ?_
  refine kr_goto C 18 dL_addRoom_9 (by decide) ?_
  refine kr_iconst C (v := 0) dL_addRoom_18 (by decide) ?_
  cases h
  exact kr_retX (kr_ret_i C (Nat.le_of_ble_eq_true rfl) (Nat.le_of_ble_eq_true rfl) dL_addRoom_19)
theorem clL_drop_19 : Cond.classLink RL 19 "java/lang/IndexOutOfBoundsException" ∈ wsL_drop := by decide +kernel
theorem clL_drop_38 : Cond.classLink RL 38 "java/util/NoSuchElementException" ∈ wsL_drop := by decide +kernel
set_option maxHeartbeats 4000000 in
set_option maxRecDepth 100000 in
theorem c_L_drop {l : Launch} {D : va_G} {cy : Nat → ClassId} {a b : Nat → Nat} {o0 o1 : Nat} {S T : kSt} {g : Nat → Int64} {d : Nat → UInt64} {p1 : Int32} {p2 : Int32} {r : Int32 × kSt × (Nat → Int64)} {sa : Nat → Nat} (hlt : l.stackTraces = false) (h : f_L_drop S g p1 p2 = some r) : kX l yL_drop wsL_drop ({ frames := 8, cells := 3, slots := 18, locals := 125 } : Room) D cy sa (lwx a b cy o0 o1 S T g d) [.ref (a 0), .int p1, .int p2, .ref o0] (lwx a b cy o0 o1 r.2.1 T r.2.2 d) (.inl (some (.int r.1))) 3 18 := by
  rw [f_L_drop] at h
  refine kX.startH (L := [(0, .ref (a 0)), (1, .int (p1)), (2, .int (p2)), (3, .ref (o0))]) hlt rfl rfl rfl (Nat.le_of_ble_eq_true rfl) rfl (fun K A C CX CT => ?_)
  refine kr_aload_n C 3 dL_drop_0 rfl rfl ?_
  refine kr_iconst C (v := 0) dL_drop_1 (by decide) ?_
  refine kr_aload_n C 0 dL_drop_2 rfl rfl ?_
  refine kr_iload_n C 1 dL_drop_3 rfl rfl ?_
  refine kr_iload_n C 2 dL_drop_4 rfl rfl ?_
  rcases kxs_some h with ⟨Ev1, Sv1, hv1, h⟩ | ⟨v1, Sv1, hv1, h⟩
  · by_cases hE0 : Ev1 = "java/lang/IndexOutOfBoundsException"
    · have h := (if_pos hE0).symm.trans h
      cases h
      subst hE0
      refine kr_xVh C CX CT (k := 2) (As := [.int p1, .int p2]) (rest := [.int ((0 : Int32)), .ref (o0)]) (c_X2_drop hlt hv1) gL_drop_X2_drop rfl rfl rfl (by decide +kernel) ⟨(Nat.le_of_ble_eq_true rfl), (Nat.le_of_ble_eq_true rfl)⟩ ⟨(Nat.le_of_ble_eq_true rfl), (Nat.le_of_ble_eq_true rfl)⟩ 0 rfl rfl rfl rfl (Nat.le_of_ble_eq_true rfl) dL_drop_5 (by decide) [] ⟨0, 10, 13, 19⟩ [⟨0, 10, 17, 38⟩] rfl (fun _ h => absurd h List.not_mem_nil) (by decide) (by decide) clL_drop_19 (fun q9 => ?_)
      refine kr_astore C [1, 2, 3, 4, 0] dL_drop_13 (by decide) rfl ?_
      refine kr_iconst C (v := 1) dL_drop_15 (by decide) ?_
      exact kr_retX (kr_ret_i C (Nat.le_of_ble_eq_true rfl) (Nat.le_of_ble_eq_true rfl) dL_drop_16)
    have h := (if_neg hE0).symm.trans h
    by_cases hE1 : Ev1 = "java/util/NoSuchElementException"
    · have h := (if_pos hE1).symm.trans h
      cases h
      subst hE1
      refine kr_xVh C CX CT (k := 2) (As := [.int p1, .int p2]) (rest := [.int ((0 : Int32)), .ref (o0)]) (c_X2_drop hlt hv1) gL_drop_X2_drop rfl rfl rfl (by decide +kernel) ⟨(Nat.le_of_ble_eq_true rfl), (Nat.le_of_ble_eq_true rfl)⟩ ⟨(Nat.le_of_ble_eq_true rfl), (Nat.le_of_ble_eq_true rfl)⟩ 0 rfl rfl rfl rfl (Nat.le_of_ble_eq_true rfl) dL_drop_5 (by decide) [⟨0, 10, 13, 19⟩] ⟨0, 10, 17, 38⟩ [] rfl (List.forall_mem_cons.mpr ⟨⟨by decide, "java/lang/IndexOutOfBoundsException", clL_drop_19, by decide, by decide⟩, (fun _ h => absurd h List.not_mem_nil)⟩) (by decide) (by decide) clL_drop_38 (fun q9 => ?_)
      refine kr_astore C [1, 2, 3, 4, 0] dL_drop_17 (by decide) rfl ?_
      refine kr_iconst C (v := 2) dL_drop_19 (by decide) ?_
      exact kr_retX (kr_ret_i C (Nat.le_of_ble_eq_true rfl) (Nat.le_of_ble_eq_true rfl) dL_drop_20)
    have h := (if_neg hE1).symm.trans h
    cases h
  refine kr_xV1 C CX (k := 2) (As := [.int p1, .int p2]) (rest := [.int ((0 : Int32)), .ref (o0)]) (c_X2_drop hlt hv1) gL_drop_X2_drop rfl rfl rfl (by decide +kernel) ⟨(Nat.le_of_ble_eq_true rfl), (Nat.le_of_ble_eq_true rfl)⟩ ⟨(Nat.le_of_ble_eq_true rfl), (Nat.le_of_ble_eq_true rfl)⟩ 0 rfl rfl rfl rfl (Nat.le_of_ble_eq_true rfl) dL_drop_5 (X2 := (lwx a b cy o0 o1 Sv1 T g d)) ?_
  refine kr_i2l C dL_drop_8 ?_
  refine kr_last C 31 rfl (vp_in_iff.mpr (by decide)) (X2 := (lwx a b cy o0 o1 Sv1 T (vp_updL g (0 : Int32).toNatClampNeg v1.toInt64) d)) rfl dL_drop_9 ?_
  refine kr_goto C 21 dL_drop_10 (by decide) ?_
  refine kr_iconst C (v := 0) dL_drop_21 (by decide) ?_
  cases h
  exact kr_retX (kr_ret_i C (Nat.le_of_ble_eq_true rfl) (Nat.le_of_ble_eq_true rfl) dL_drop_22)
theorem clL_hold_19 : Cond.classLink RL 19 "java/lang/IndexOutOfBoundsException" ∈ wsL_hold := by decide +kernel
theorem clL_hold_13 : Cond.classLink RL 13 "java/lang/IllegalStateException" ∈ wsL_hold := by decide +kernel
set_option maxHeartbeats 4000000 in
set_option maxRecDepth 100000 in
theorem c_L_hold {l : Launch} {D : va_G} {cy : Nat → ClassId} {a b : Nat → Nat} {o0 o1 : Nat} {S T : kSt} {g : Nat → Int64} {d : Nat → UInt64} {p1 : Int32} {r : Int32 × kSt × (Nat → Int64)} {sa : Nat → Nat} (hlt : l.stackTraces = false) (h : f_L_hold S g p1 = some r) : kX l yL_hold wsL_hold ({ frames := 8, cells := 2, slots := 12, locals := 124 } : Room) D cy sa (lwx a b cy o0 o1 S T g d) [.ref (a 0), .int p1, .ref o0] (lwx a b cy o0 o1 r.2.1 T r.2.2 d) (.inl (some (.int r.1))) 2 12 := by
  rw [f_L_hold] at h
  refine kX.startH (L := [(0, .ref (a 0)), (1, .int (p1)), (2, .ref (o0))]) hlt rfl rfl rfl (Nat.le_of_ble_eq_true rfl) rfl (fun K A C CX CT => ?_)
  refine kr_aload_n C 2 dL_hold_0 rfl rfl ?_
  refine kr_iconst C (v := 0) dL_hold_1 (by decide) ?_
  refine kr_aload_n C 0 dL_hold_2 rfl rfl ?_
  refine kr_iload_n C 1 dL_hold_3 rfl rfl ?_
  rcases kxs_some h with ⟨Ev1, Sv1, hv1, h⟩ | ⟨v1, Sv1, hv1, h⟩
  · by_cases hE0 : Ev1 = "java/lang/IndexOutOfBoundsException"
    · have h := (if_pos hE0).symm.trans h
      cases h
      subst hE0
      refine kr_xVh C CX CT (k := 1) (As := [.int p1]) (rest := [.int ((0 : Int32)), .ref (o0)]) (c_X2_hold hlt hv1) gL_hold_X2_hold rfl rfl rfl (by decide +kernel) ⟨(Nat.le_of_ble_eq_true rfl), (Nat.le_of_ble_eq_true rfl)⟩ ⟨(Nat.le_of_ble_eq_true rfl), (Nat.le_of_ble_eq_true rfl)⟩ 0 rfl rfl rfl rfl (Nat.le_of_ble_eq_true rfl) dL_hold_4 (by decide) [] ⟨0, 9, 12, 19⟩ [⟨0, 9, 15, 13⟩] rfl (fun _ h => absurd h List.not_mem_nil) (by decide) (by decide) clL_hold_19 (fun q9 => ?_)
      refine kr_astore_n C [1, 2, 3, 0] dL_hold_12 rfl (by decide) rfl ?_
      refine kr_iconst C (v := 1) dL_hold_13 (by decide) ?_
      exact kr_retX (kr_ret_i C (Nat.le_of_ble_eq_true rfl) (Nat.le_of_ble_eq_true rfl) dL_hold_14)
    have h := (if_neg hE0).symm.trans h
    by_cases hE1 : Ev1 = "java/lang/IllegalStateException"
    · have h := (if_pos hE1).symm.trans h
      cases h
      subst hE1
      refine kr_xVh C CX CT (k := 1) (As := [.int p1]) (rest := [.int ((0 : Int32)), .ref (o0)]) (c_X2_hold hlt hv1) gL_hold_X2_hold rfl rfl rfl (by decide +kernel) ⟨(Nat.le_of_ble_eq_true rfl), (Nat.le_of_ble_eq_true rfl)⟩ ⟨(Nat.le_of_ble_eq_true rfl), (Nat.le_of_ble_eq_true rfl)⟩ 0 rfl rfl rfl rfl (Nat.le_of_ble_eq_true rfl) dL_hold_4 (by decide) [⟨0, 9, 12, 19⟩] ⟨0, 9, 15, 13⟩ [] rfl (List.forall_mem_cons.mpr ⟨⟨by decide, "java/lang/IndexOutOfBoundsException", clL_hold_19, by decide, by decide⟩, (fun _ h => absurd h List.not_mem_nil)⟩) (by decide) (by decide) clL_hold_13 (fun q9 => ?_)
      refine kr_astore_n C [1, 2, 3, 0] dL_hold_15 rfl (by decide) rfl ?_
      refine kr_iconst C (v := 2) dL_hold_16 (by decide) ?_
      exact kr_retX (kr_ret_i C (Nat.le_of_ble_eq_true rfl) (Nat.le_of_ble_eq_true rfl) dL_hold_17)
    have h := (if_neg hE1).symm.trans h
    cases h
  refine kr_xV1 C CX (k := 1) (As := [.int p1]) (rest := [.int ((0 : Int32)), .ref (o0)]) (c_X2_hold hlt hv1) gL_hold_X2_hold rfl rfl rfl (by decide +kernel) ⟨(Nat.le_of_ble_eq_true rfl), (Nat.le_of_ble_eq_true rfl)⟩ ⟨(Nat.le_of_ble_eq_true rfl), (Nat.le_of_ble_eq_true rfl)⟩ 0 rfl rfl rfl rfl (Nat.le_of_ble_eq_true rfl) dL_hold_4 (X2 := (lwx a b cy o0 o1 Sv1 T g d)) ?_
  refine kr_i2l C dL_hold_7 ?_
  refine kr_last C 31 rfl (vp_in_iff.mpr (by decide)) (X2 := (lwx a b cy o0 o1 Sv1 T (vp_updL g (0 : Int32).toNatClampNeg v1.toInt64) d)) rfl dL_hold_8 ?_
  refine kr_goto C 18 dL_hold_9 (by decide) ?_
  refine kr_iconst C (v := 0) dL_hold_18 (by decide) ?_
  cases h
  exact kr_retX (kr_ret_i C (Nat.le_of_ble_eq_true rfl) (Nat.le_of_ble_eq_true rfl) dL_hold_19)
theorem clL_holders_19 : Cond.classLink RL 19 "java/lang/IndexOutOfBoundsException" ∈ wsL_holders := by decide +kernel
theorem clL_holders_21 : Cond.classLink RL 21 "java/lang/IllegalArgumentException" ∈ wsL_holders := by decide +kernel
set_option maxHeartbeats 4000000 in
set_option maxRecDepth 100000 in
theorem c_L_holders {l : Launch} {D : va_G} {cy : Nat → ClassId} {a b : Nat → Nat} {o0 o1 : Nat} {S T : kSt} {g : Nat → Int64} {d : Nat → UInt64} {p1 : Int32} {p2 : Int32} {r : Int32 × kSt × (Nat → Int64)} {sa : Nat → Nat} (hlt : l.stackTraces = false) (h : f_L_holders S g p1 p2 = some r) : kX l yL_holders wsL_holders ({ frames := 8, cells := 2, slots := 12, locals := 140 } : Room) D cy sa (lwx a b cy o0 o1 S T g d) [.ref (a 0), .int p1, .int p2, .ref o0] (lwx a b cy o0 o1 r.2.1 T r.2.2 d) (.inl (some (.int r.1))) 2 12 := by
  rw [f_L_holders] at h
  refine kX.startH (L := [(0, .ref (a 0)), (1, .int (p1)), (2, .int (p2)), (3, .ref (o0))]) hlt rfl rfl rfl (Nat.le_of_ble_eq_true rfl) rfl (fun K A C CX CT => ?_)
  refine kr_aload_n C 3 dL_holders_0 rfl rfl ?_
  refine kr_iconst C (v := 0) dL_holders_1 (by decide) ?_
  refine kr_aload_n C 0 dL_holders_2 rfl rfl ?_
  refine kr_iload_n C 1 dL_holders_3 rfl rfl ?_
  refine kr_iload_n C 2 dL_holders_4 rfl rfl ?_
  rcases kxb_some h with ⟨Ev1, hv1, h⟩ | ⟨v1, hv1, h⟩
  · by_cases hE0 : Ev1 = "java/lang/IndexOutOfBoundsException"
    · have h := (if_pos hE0).symm.trans h
      cases h
      subst hE0
      refine kr_xVh C CX CT (k := 2) (As := [.int p1, .int p2]) (rest := [.int ((0 : Int32)), .ref (o0)]) (c_X2_holders hlt hv1) gL_holders_X2_holders rfl rfl rfl (by decide +kernel) ⟨(Nat.le_of_ble_eq_true rfl), (Nat.le_of_ble_eq_true rfl)⟩ ⟨(Nat.le_of_ble_eq_true rfl), (Nat.le_of_ble_eq_true rfl)⟩ 0 rfl rfl rfl rfl (Nat.le_of_ble_eq_true rfl) dL_holders_5 (by decide) [] ⟨0, 10, 13, 19⟩ [⟨0, 10, 17, 21⟩] rfl (fun _ h => absurd h List.not_mem_nil) (by decide) (by decide) clL_holders_19 (fun q9 => ?_)
      refine kr_astore C [1, 2, 3, 4, 0] dL_holders_13 (by decide) rfl ?_
      refine kr_iconst C (v := 1) dL_holders_15 (by decide) ?_
      exact kr_retX (kr_ret_i C (Nat.le_of_ble_eq_true rfl) (Nat.le_of_ble_eq_true rfl) dL_holders_16)
    have h := (if_neg hE0).symm.trans h
    by_cases hE1 : Ev1 = "java/lang/IllegalArgumentException"
    · have h := (if_pos hE1).symm.trans h
      cases h
      subst hE1
      refine kr_xVh C CX CT (k := 2) (As := [.int p1, .int p2]) (rest := [.int ((0 : Int32)), .ref (o0)]) (c_X2_holders hlt hv1) gL_holders_X2_holders rfl rfl rfl (by decide +kernel) ⟨(Nat.le_of_ble_eq_true rfl), (Nat.le_of_ble_eq_true rfl)⟩ ⟨(Nat.le_of_ble_eq_true rfl), (Nat.le_of_ble_eq_true rfl)⟩ 0 rfl rfl rfl rfl (Nat.le_of_ble_eq_true rfl) dL_holders_5 (by decide) [⟨0, 10, 13, 19⟩] ⟨0, 10, 17, 21⟩ [] rfl (List.forall_mem_cons.mpr ⟨⟨by decide, "java/lang/IndexOutOfBoundsException", clL_holders_19, by decide, by decide⟩, (fun _ h => absurd h List.not_mem_nil)⟩) (by decide) (by decide) clL_holders_21 (fun q9 => ?_)
      refine kr_astore C [1, 2, 3, 4, 0] dL_holders_17 (by decide) rfl ?_
      refine kr_iconst C (v := 2) dL_holders_19 (by decide) ?_
      exact kr_retX (kr_ret_i C (Nat.le_of_ble_eq_true rfl) (Nat.le_of_ble_eq_true rfl) dL_holders_20)
    have h := (if_neg hE1).symm.trans h
    cases h
  refine kr_xV1 C CX (k := 2) (As := [.int p1, .int p2]) (rest := [.int ((0 : Int32)), .ref (o0)]) (c_X2_holders hlt hv1) gL_holders_X2_holders rfl rfl rfl (by decide +kernel) ⟨(Nat.le_of_ble_eq_true rfl), (Nat.le_of_ble_eq_true rfl)⟩ ⟨(Nat.le_of_ble_eq_true rfl), (Nat.le_of_ble_eq_true rfl)⟩ 0 rfl rfl rfl rfl (Nat.le_of_ble_eq_true rfl) dL_holders_5 (X2 := (lwx a b cy o0 o1 S T g d)) ?_
  refine kr_i2l C dL_holders_8 ?_
  refine kr_last C 31 rfl (vp_in_iff.mpr (by decide)) (X2 := (lwx a b cy o0 o1 S T (vp_updL g (0 : Int32).toNatClampNeg v1.toInt64) d)) rfl dL_holders_9 ?_
  refine kr_goto C 21 dL_holders_10 (by decide) ?_
  refine kr_iconst C (v := 0) dL_holders_21 (by decide) ?_
  cases h
  exact kr_retX (kr_ret_i C (Nat.le_of_ble_eq_true rfl) (Nat.le_of_ble_eq_true rfl) dL_holders_22)
theorem clL_isIn_19 : Cond.classLink RL 19 "java/lang/IndexOutOfBoundsException" ∈ wsL_isIn := by decide +kernel
set_option maxHeartbeats 4000000 in
set_option maxRecDepth 100000 in
theorem c_L_isIn {l : Launch} {D : va_G} {cy : Nat → ClassId} {a b : Nat → Nat} {o0 o1 : Nat} {S T : kSt} {g : Nat → Int64} {d : Nat → UInt64} {p1 : Int32} {p2 : Int32} {r : Int32 × kSt × (Nat → Int64)} {sa : Nat → Nat} (hlt : l.stackTraces = false) (h : f_L_isIn S g p1 p2 = some r) : kX l yL_isIn wsL_isIn ({ frames := 8, cells := 2, slots := 12, locals := 138 } : Room) D cy sa (lwx a b cy o0 o1 S T g d) [.ref (a 0), .int p1, .int p2, .ref o0] (lwx a b cy o0 o1 r.2.1 T r.2.2 d) (.inl (some (.int r.1))) 2 12 := by
  rw [f_L_isIn] at h
  refine kX.startH (L := [(0, .ref (a 0)), (1, .int (p1)), (2, .int (p2)), (3, .ref (o0))]) hlt rfl rfl rfl (Nat.le_of_ble_eq_true rfl) rfl (fun K A C CX CT => ?_)
  refine kr_aload_n C 3 dL_isIn_0 rfl rfl ?_
  refine kr_iconst C (v := 0) dL_isIn_1 (by decide) ?_
  refine kr_aload_n C 0 dL_isIn_2 rfl rfl ?_
  refine kr_iload_n C 1 dL_isIn_3 rfl rfl ?_
  refine kr_iload_n C 2 dL_isIn_4 rfl rfl ?_
  rcases kxb_some h with ⟨Ev1, hv1, h⟩ | ⟨v1, hv1, h⟩
  · by_cases hE0 : Ev1 = "java/lang/IndexOutOfBoundsException"
    · have h := (if_pos hE0).symm.trans h
      cases h
      subst hE0
      refine kr_xVh C CX CT (k := 2) (As := [.int p1, .int p2]) (rest := [.int ((0 : Int32)), .ref (o0)]) (c_X2_isIn hlt hv1) gL_isIn_X2_isIn rfl rfl rfl (by decide +kernel) ⟨(Nat.le_of_ble_eq_true rfl), (Nat.le_of_ble_eq_true rfl)⟩ ⟨(Nat.le_of_ble_eq_true rfl), (Nat.le_of_ble_eq_true rfl)⟩ 0 rfl rfl rfl rfl (Nat.le_of_ble_eq_true rfl) dL_isIn_5 (by decide) [] ⟨0, 17, 20, 19⟩ [] rfl (fun _ h => absurd h List.not_mem_nil) (by decide) (by decide) clL_isIn_19 (fun q9 => ?_)
      refine kr_astore C [1, 2, 3, 4, 0] dL_isIn_20 (by decide) rfl ?_
      refine kr_iconst C (v := 1) dL_isIn_22 (by decide) ?_
      exact kr_retX (kr_ret_i C (Nat.le_of_ble_eq_true rfl) (Nat.le_of_ble_eq_true rfl) dL_isIn_23)
    have h := (if_neg hE0).symm.trans h
    cases h
  refine kr_xV1 C CX (k := 2) (As := [.int p1, .int p2]) (rest := [.int ((0 : Int32)), .ref (o0)]) (c_X2_isIn hlt hv1) gL_isIn_X2_isIn rfl rfl rfl (by decide +kernel) ⟨(Nat.le_of_ble_eq_true rfl), (Nat.le_of_ble_eq_true rfl)⟩ ⟨(Nat.le_of_ble_eq_true rfl), (Nat.le_of_ble_eq_true rfl)⟩ 0 rfl rfl rfl rfl (Nat.le_of_ble_eq_true rfl) dL_isIn_5 (X2 := (lwx a b cy o0 o1 S T g d)) ?_
  refine kr_if_eq C 15 dL_isIn_8 (by decide) (fun hc => ?_) (fun hc => ?_)
  · have h := (if_pos hc).symm.trans h
    refine kr_lconst C (v := 0) dL_isIn_15 (by decide) ?_
    refine kr_last C 31 rfl (vp_in_iff.mpr (by decide)) (X2 := (lwx a b cy o0 o1 S T (vp_updL g (0 : Int32).toNatClampNeg (0 : Int64)) d)) rfl dL_isIn_16 ?_
    refine kr_goto C 24 dL_isIn_17 (by decide) ?_
    refine kr_iconst C (v := 0) dL_isIn_24 (by decide) ?_
    cases h
    exact kr_retX (kr_ret_i C (Nat.le_of_ble_eq_true rfl) (Nat.le_of_ble_eq_true rfl) dL_isIn_25)
  have h := (if_neg hc).symm.trans h
  refine kr_lconst C (v := 1) dL_isIn_11 (by decide) ?_
  refine kr_goto C 16 dL_isIn_12 (by decide) ?_
  refine kr_last C 31 rfl (vp_in_iff.mpr (by decide)) (X2 := (lwx a b cy o0 o1 S T (vp_updL g (0 : Int32).toNatClampNeg (1 : Int64)) d)) rfl dL_isIn_16 ?_
  refine kr_goto C 24 dL_isIn_17 (by decide) ?_
  refine kr_iconst C (v := 0) dL_isIn_24 (by decide) ?_
  cases h
  exact kr_retX (kr_ret_i C (Nat.le_of_ble_eq_true rfl) (Nat.le_of_ble_eq_true rfl) dL_isIn_25)
theorem clL_join_19 : Cond.classLink RL 19 "java/lang/IndexOutOfBoundsException" ∈ wsL_join := by decide +kernel
theorem clL_join_21 : Cond.classLink RL 21 "java/lang/IllegalArgumentException" ∈ wsL_join := by decide +kernel
theorem clL_join_30 : Cond.classLink RL 30 "java/lang/UnsupportedOperationException" ∈ wsL_join := by decide +kernel
set_option maxHeartbeats 4000000 in
set_option maxRecDepth 100000 in
theorem c_L_join {l : Launch} {D : va_G} {cy : Nat → ClassId} {a b : Nat → Nat} {o0 o1 : Nat} {S T : kSt} {g : Nat → Int64} {d : Nat → UInt64} {p1 : Int32} {p2 : Int32} {p3 : Int32} {r : Int32 × kSt × (Nat → Int64)} {sa : Nat → Nat} (hlt : l.stackTraces = false) (h : f_L_join S g p1 p2 p3 = some r) : kX l yL_join wsL_join ({ frames := 8, cells := 4, slots := 24, locals := 126 } : Room) D cy sa (lwx a b cy o0 o1 S T g d) [.ref (a 0), .int p1, .int p2, .int p3, .ref o0] (lwx a b cy o0 o1 r.2.1 T r.2.2 d) (.inl (some (.int r.1))) 4 24 := by
  rw [f_L_join] at h
  refine kX.startH (L := [(0, .ref (a 0)), (1, .int (p1)), (2, .int (p2)), (3, .int (p3)), (4, .ref (o0))]) hlt rfl rfl rfl (Nat.le_of_ble_eq_true rfl) rfl (fun K A C CX CT => ?_)
  refine kr_aload C 4 dL_join_0 rfl ?_
  refine kr_iconst C (v := 0) dL_join_2 (by decide) ?_
  refine kr_aload_n C 0 dL_join_3 rfl rfl ?_
  refine kr_iload_n C 1 dL_join_4 rfl rfl ?_
  refine kr_iload_n C 2 dL_join_5 rfl rfl ?_
  refine kr_iload_n C 3 dL_join_6 rfl rfl ?_
  rcases kxs_some h with ⟨Ev1, Sv1, hv1, h⟩ | ⟨v1, Sv1, hv1, h⟩
  · by_cases hE0 : Ev1 = "java/lang/IndexOutOfBoundsException"
    · have h := (if_pos hE0).symm.trans h
      cases h
      subst hE0
      refine kr_xVh C CX CT (k := 3) (As := [.int p1, .int p2, .int p3]) (rest := [.int ((0 : Int32)), .ref (o0)]) (c_X2_join hlt hv1) gL_join_X2_join rfl rfl rfl (by decide +kernel) ⟨(Nat.le_of_ble_eq_true rfl), (Nat.le_of_ble_eq_true rfl)⟩ ⟨(Nat.le_of_ble_eq_true rfl), (Nat.le_of_ble_eq_true rfl)⟩ 0 rfl rfl rfl rfl (Nat.le_of_ble_eq_true rfl) dL_join_7 (by decide) [] ⟨0, 12, 15, 19⟩ [⟨0, 12, 19, 21⟩, ⟨0, 12, 23, 30⟩] rfl (fun _ h => absurd h List.not_mem_nil) (by decide) (by decide) clL_join_19 (fun q9 => ?_)
      refine kr_astore C [1, 2, 3, 4, 5, 0] dL_join_15 (by decide) rfl ?_
      refine kr_iconst C (v := 1) dL_join_17 (by decide) ?_
      exact kr_retX (kr_ret_i C (Nat.le_of_ble_eq_true rfl) (Nat.le_of_ble_eq_true rfl) dL_join_18)
    have h := (if_neg hE0).symm.trans h
    by_cases hE1 : Ev1 = "java/lang/IllegalArgumentException"
    · have h := (if_pos hE1).symm.trans h
      cases h
      subst hE1
      refine kr_xVh C CX CT (k := 3) (As := [.int p1, .int p2, .int p3]) (rest := [.int ((0 : Int32)), .ref (o0)]) (c_X2_join hlt hv1) gL_join_X2_join rfl rfl rfl (by decide +kernel) ⟨(Nat.le_of_ble_eq_true rfl), (Nat.le_of_ble_eq_true rfl)⟩ ⟨(Nat.le_of_ble_eq_true rfl), (Nat.le_of_ble_eq_true rfl)⟩ 0 rfl rfl rfl rfl (Nat.le_of_ble_eq_true rfl) dL_join_7 (by decide) [⟨0, 12, 15, 19⟩] ⟨0, 12, 19, 21⟩ [⟨0, 12, 23, 30⟩] rfl (List.forall_mem_cons.mpr ⟨⟨by decide, "java/lang/IndexOutOfBoundsException", clL_join_19, by decide, by decide⟩, (fun _ h => absurd h List.not_mem_nil)⟩) (by decide) (by decide) clL_join_21 (fun q9 => ?_)
      refine kr_astore C [1, 2, 3, 4, 5, 0] dL_join_19 (by decide) rfl ?_
      refine kr_iconst C (v := 2) dL_join_21 (by decide) ?_
      exact kr_retX (kr_ret_i C (Nat.le_of_ble_eq_true rfl) (Nat.le_of_ble_eq_true rfl) dL_join_22)
    have h := (if_neg hE1).symm.trans h
    by_cases hE2 : Ev1 = "java/lang/UnsupportedOperationException"
    · have h := (if_pos hE2).symm.trans h
      cases h
      subst hE2
      refine kr_xVh C CX CT (k := 3) (As := [.int p1, .int p2, .int p3]) (rest := [.int ((0 : Int32)), .ref (o0)]) (c_X2_join hlt hv1) gL_join_X2_join rfl rfl rfl (by decide +kernel) ⟨(Nat.le_of_ble_eq_true rfl), (Nat.le_of_ble_eq_true rfl)⟩ ⟨(Nat.le_of_ble_eq_true rfl), (Nat.le_of_ble_eq_true rfl)⟩ 0 rfl rfl rfl rfl (Nat.le_of_ble_eq_true rfl) dL_join_7 (by decide) [⟨0, 12, 15, 19⟩, ⟨0, 12, 19, 21⟩] ⟨0, 12, 23, 30⟩ [] rfl (List.forall_mem_cons.mpr ⟨⟨by decide, "java/lang/IndexOutOfBoundsException", clL_join_19, by decide, by decide⟩, (List.forall_mem_cons.mpr ⟨⟨by decide, "java/lang/IllegalArgumentException", clL_join_21, by decide, by decide⟩, (fun _ h => absurd h List.not_mem_nil)⟩)⟩) (by decide) (by decide) clL_join_30 (fun q9 => ?_)
      refine kr_astore C [1, 2, 3, 4, 5, 0] dL_join_23 (by decide) rfl ?_
      refine kr_iconst C (v := 3) dL_join_25 (by decide) ?_
      exact kr_retX (kr_ret_i C (Nat.le_of_ble_eq_true rfl) (Nat.le_of_ble_eq_true rfl) dL_join_26)
    have h := (if_neg hE2).symm.trans h
    cases h
  refine kr_xV1 C CX (k := 3) (As := [.int p1, .int p2, .int p3]) (rest := [.int ((0 : Int32)), .ref (o0)]) (c_X2_join hlt hv1) gL_join_X2_join rfl rfl rfl (by decide +kernel) ⟨(Nat.le_of_ble_eq_true rfl), (Nat.le_of_ble_eq_true rfl)⟩ ⟨(Nat.le_of_ble_eq_true rfl), (Nat.le_of_ble_eq_true rfl)⟩ 0 rfl rfl rfl rfl (Nat.le_of_ble_eq_true rfl) dL_join_7 (X2 := (lwx a b cy o0 o1 Sv1 T g d)) ?_
  refine kr_i2l C dL_join_10 ?_
  refine kr_last C 31 rfl (vp_in_iff.mpr (by decide)) (X2 := (lwx a b cy o0 o1 Sv1 T (vp_updL g (0 : Int32).toNatClampNeg v1.toInt64) d)) rfl dL_join_11 ?_
  refine kr_goto C 27 dL_join_12 (by decide) ?_
  refine kr_iconst C (v := 0) dL_join_27 (by decide) ?_
  cases h
  exact kr_retX (kr_ret_i C (Nat.le_of_ble_eq_true rfl) (Nat.le_of_ble_eq_true rfl) dL_join_28)
theorem clL_keeper_19 : Cond.classLink RL 19 "java/lang/IndexOutOfBoundsException" ∈ wsL_keeper := by decide +kernel
set_option maxHeartbeats 4000000 in
set_option maxRecDepth 100000 in
theorem c_L_keeper {l : Launch} {D : va_G} {cy : Nat → ClassId} {a b : Nat → Nat} {o0 o1 : Nat} {S T : kSt} {g : Nat → Int64} {d : Nat → UInt64} {p1 : Int32} {r : Int32 × kSt × (Nat → Int64)} {sa : Nat → Nat} (hlt : l.stackTraces = false) (h : f_L_keeper S g p1 = some r) : kX l yL_keeper wsL_keeper ({ frames := 8, cells := 1, slots := 6, locals := 132 } : Room) D cy sa (lwx a b cy o0 o1 S T g d) [.ref (a 0), .int p1, .ref o0] (lwx a b cy o0 o1 r.2.1 T r.2.2 d) (.inl (some (.int r.1))) 1 6 := by
  rw [f_L_keeper] at h
  refine kX.startH (L := [(0, .ref (a 0)), (1, .int (p1)), (2, .ref (o0))]) hlt rfl rfl rfl (Nat.le_of_ble_eq_true rfl) rfl (fun K A C CX CT => ?_)
  refine kr_aload_n C 2 dL_keeper_0 rfl rfl ?_
  refine kr_iconst C (v := 0) dL_keeper_1 (by decide) ?_
  refine kr_aload_n C 0 dL_keeper_2 rfl rfl ?_
  refine kr_iload_n C 1 dL_keeper_3 rfl rfl ?_
  rcases kxb_some h with ⟨Ev1, hv1, h⟩ | ⟨v1, hv1, h⟩
  · by_cases hE0 : Ev1 = "java/lang/IndexOutOfBoundsException"
    · have h := (if_pos hE0).symm.trans h
      cases h
      subst hE0
      refine kr_xVh C CX CT (k := 1) (As := [.int p1]) (rest := [.int ((0 : Int32)), .ref (o0)]) (c_X2_keeper hlt hv1) gL_keeper_X2_keeper rfl rfl rfl (by decide +kernel) ⟨(Nat.le_of_ble_eq_true rfl), (Nat.le_of_ble_eq_true rfl)⟩ ⟨(Nat.le_of_ble_eq_true rfl), (Nat.le_of_ble_eq_true rfl)⟩ 0 rfl rfl rfl rfl (Nat.le_of_ble_eq_true rfl) dL_keeper_4 (by decide) [] ⟨0, 9, 12, 19⟩ [] rfl (fun _ h => absurd h List.not_mem_nil) (by decide) (by decide) clL_keeper_19 (fun q9 => ?_)
      refine kr_astore_n C [1, 2, 3, 0] dL_keeper_12 rfl (by decide) rfl ?_
      refine kr_iconst C (v := 1) dL_keeper_13 (by decide) ?_
      exact kr_retX (kr_ret_i C (Nat.le_of_ble_eq_true rfl) (Nat.le_of_ble_eq_true rfl) dL_keeper_14)
    have h := (if_neg hE0).symm.trans h
    cases h
  refine kr_xV1 C CX (k := 1) (As := [.int p1]) (rest := [.int ((0 : Int32)), .ref (o0)]) (c_X2_keeper hlt hv1) gL_keeper_X2_keeper rfl rfl rfl (by decide +kernel) ⟨(Nat.le_of_ble_eq_true rfl), (Nat.le_of_ble_eq_true rfl)⟩ ⟨(Nat.le_of_ble_eq_true rfl), (Nat.le_of_ble_eq_true rfl)⟩ 0 rfl rfl rfl rfl (Nat.le_of_ble_eq_true rfl) dL_keeper_4 (X2 := (lwx a b cy o0 o1 S T g d)) ?_
  refine kr_i2l C dL_keeper_7 ?_
  refine kr_last C 31 rfl (vp_in_iff.mpr (by decide)) (X2 := (lwx a b cy o0 o1 S T (vp_updL g (0 : Int32).toNatClampNeg v1.toInt64) d)) rfl dL_keeper_8 ?_
  refine kr_goto C 15 dL_keeper_9 (by decide) ?_
  refine kr_iconst C (v := 0) dL_keeper_15 (by decide) ?_
  cases h
  exact kr_retX (kr_ret_i C (Nat.le_of_ble_eq_true rfl) (Nat.le_of_ble_eq_true rfl) dL_keeper_16)
theorem clL_leave_19 : Cond.classLink RL 19 "java/lang/IndexOutOfBoundsException" ∈ wsL_leave := by decide +kernel
theorem clL_leave_30 : Cond.classLink RL 30 "java/lang/UnsupportedOperationException" ∈ wsL_leave := by decide +kernel
theorem clL_leave_13 : Cond.classLink RL 13 "java/lang/IllegalStateException" ∈ wsL_leave := by decide +kernel
set_option maxHeartbeats 4000000 in
set_option maxRecDepth 100000 in
theorem c_L_leave {l : Launch} {D : va_G} {cy : Nat → ClassId} {a b : Nat → Nat} {o0 o1 : Nat} {S T : kSt} {g : Nat → Int64} {d : Nat → UInt64} {p1 : Int32} {r : Int32 × kSt × (Nat → Int64)} {sa : Nat → Nat} (hlt : l.stackTraces = false) (h : f_L_leave S g p1 = some r) : kX l yL_leave wsL_leave ({ frames := 8, cells := 2, slots := 12, locals := 155 } : Room) D cy sa (lwx a b cy o0 o1 S T g d) [.ref (a 0), .int p1, .ref o0] (lwx a b cy o0 o1 r.2.1 T r.2.2 d) (.inl (some (.int r.1))) 2 12 := by
  rw [f_L_leave] at h
  refine kX.startH (L := [(0, .ref (a 0)), (1, .int (p1)), (2, .ref (o0))]) hlt rfl rfl rfl (Nat.le_of_ble_eq_true rfl) rfl (fun K A C CX CT => ?_)
  refine kr_aload_n C 2 dL_leave_0 rfl rfl ?_
  refine kr_iconst C (v := 0) dL_leave_1 (by decide) ?_
  refine kr_aload_n C 0 dL_leave_2 rfl rfl ?_
  refine kr_iload_n C 1 dL_leave_3 rfl rfl ?_
  rcases kxs_some h with ⟨Ev1, Sv1, hv1, h⟩ | ⟨v1, Sv1, hv1, h⟩
  · by_cases hE0 : Ev1 = "java/lang/IndexOutOfBoundsException"
    · have h := (if_pos hE0).symm.trans h
      cases h
      subst hE0
      refine kr_xVh C CX CT (k := 1) (As := [.int p1]) (rest := [.int ((0 : Int32)), .ref (o0)]) (c_X2_leave hlt hv1) gL_leave_X2_leave rfl rfl rfl (by decide +kernel) ⟨(Nat.le_of_ble_eq_true rfl), (Nat.le_of_ble_eq_true rfl)⟩ ⟨(Nat.le_of_ble_eq_true rfl), (Nat.le_of_ble_eq_true rfl)⟩ 0 rfl rfl rfl rfl (Nat.le_of_ble_eq_true rfl) dL_leave_4 (by decide) [] ⟨0, 9, 12, 19⟩ [⟨0, 9, 15, 30⟩, ⟨0, 9, 18, 13⟩] rfl (fun _ h => absurd h List.not_mem_nil) (by decide) (by decide) clL_leave_19 (fun q9 => ?_)
      refine kr_astore_n C [1, 2, 3, 0] dL_leave_12 rfl (by decide) rfl ?_
      refine kr_iconst C (v := 1) dL_leave_13 (by decide) ?_
      exact kr_retX (kr_ret_i C (Nat.le_of_ble_eq_true rfl) (Nat.le_of_ble_eq_true rfl) dL_leave_14)
    have h := (if_neg hE0).symm.trans h
    by_cases hE1 : Ev1 = "java/lang/UnsupportedOperationException"
    · have h := (if_pos hE1).symm.trans h
      cases h
      subst hE1
      refine kr_xVh C CX CT (k := 1) (As := [.int p1]) (rest := [.int ((0 : Int32)), .ref (o0)]) (c_X2_leave hlt hv1) gL_leave_X2_leave rfl rfl rfl (by decide +kernel) ⟨(Nat.le_of_ble_eq_true rfl), (Nat.le_of_ble_eq_true rfl)⟩ ⟨(Nat.le_of_ble_eq_true rfl), (Nat.le_of_ble_eq_true rfl)⟩ 0 rfl rfl rfl rfl (Nat.le_of_ble_eq_true rfl) dL_leave_4 (by decide) [⟨0, 9, 12, 19⟩] ⟨0, 9, 15, 30⟩ [⟨0, 9, 18, 13⟩] rfl (List.forall_mem_cons.mpr ⟨⟨by decide, "java/lang/IndexOutOfBoundsException", clL_leave_19, by decide, by decide⟩, (fun _ h => absurd h List.not_mem_nil)⟩) (by decide) (by decide) clL_leave_30 (fun q9 => ?_)
      refine kr_astore_n C [1, 2, 3, 0] dL_leave_15 rfl (by decide) rfl ?_
      refine kr_iconst C (v := 2) dL_leave_16 (by decide) ?_
      exact kr_retX (kr_ret_i C (Nat.le_of_ble_eq_true rfl) (Nat.le_of_ble_eq_true rfl) dL_leave_17)
    have h := (if_neg hE1).symm.trans h
    by_cases hE2 : Ev1 = "java/lang/IllegalStateException"
    · have h := (if_pos hE2).symm.trans h
      cases h
      subst hE2
      refine kr_xVh C CX CT (k := 1) (As := [.int p1]) (rest := [.int ((0 : Int32)), .ref (o0)]) (c_X2_leave hlt hv1) gL_leave_X2_leave rfl rfl rfl (by decide +kernel) ⟨(Nat.le_of_ble_eq_true rfl), (Nat.le_of_ble_eq_true rfl)⟩ ⟨(Nat.le_of_ble_eq_true rfl), (Nat.le_of_ble_eq_true rfl)⟩ 0 rfl rfl rfl rfl (Nat.le_of_ble_eq_true rfl) dL_leave_4 (by decide) [⟨0, 9, 12, 19⟩, ⟨0, 9, 15, 30⟩] ⟨0, 9, 18, 13⟩ [] rfl (List.forall_mem_cons.mpr ⟨⟨by decide, "java/lang/IndexOutOfBoundsException", clL_leave_19, by decide, by decide⟩, (List.forall_mem_cons.mpr ⟨⟨by decide, "java/lang/UnsupportedOperationException", clL_leave_30, by decide, by decide⟩, (fun _ h => absurd h List.not_mem_nil)⟩)⟩) (by decide) (by decide) clL_leave_13 (fun q9 => ?_)
      refine kr_astore_n C [1, 2, 3, 0] dL_leave_18 rfl (by decide) rfl ?_
      refine kr_iconst C (v := 3) dL_leave_19 (by decide) ?_
      exact kr_retX (kr_ret_i C (Nat.le_of_ble_eq_true rfl) (Nat.le_of_ble_eq_true rfl) dL_leave_20)
    have h := (if_neg hE2).symm.trans h
    cases h
  refine kr_xV1 C CX (k := 1) (As := [.int p1]) (rest := [.int ((0 : Int32)), .ref (o0)]) (c_X2_leave hlt hv1) gL_leave_X2_leave rfl rfl rfl (by decide +kernel) ⟨(Nat.le_of_ble_eq_true rfl), (Nat.le_of_ble_eq_true rfl)⟩ ⟨(Nat.le_of_ble_eq_true rfl), (Nat.le_of_ble_eq_true rfl)⟩ 0 rfl rfl rfl rfl (Nat.le_of_ble_eq_true rfl) dL_leave_4 (X2 := (lwx a b cy o0 o1 Sv1 T g d)) ?_
  refine kr_i2l C dL_leave_7 ?_
  refine kr_last C 31 rfl (vp_in_iff.mpr (by decide)) (X2 := (lwx a b cy o0 o1 Sv1 T (vp_updL g (0 : Int32).toNatClampNeg v1.toInt64) d)) rfl dL_leave_8 ?_
  refine kr_goto C 21 dL_leave_9 (by decide) ?_
  refine kr_iconst C (v := 0) dL_leave_21 (by decide) ?_
  cases h
  exact kr_retX (kr_ret_i C (Nat.le_of_ble_eq_true rfl) (Nat.le_of_ble_eq_true rfl) dL_leave_22)
theorem clL_meanOwned_98 : Cond.classLink RL 98 "java/lang/ArithmeticException" ∈ wsL_meanOwned := by decide +kernel
set_option maxHeartbeats 4000000 in
set_option maxRecDepth 100000 in
theorem c_L_meanOwned {l : Launch} {D : va_G} {cy : Nat → ClassId} {a b : Nat → Nat} {o0 o1 : Nat} {S T : kSt} {g : Nat → Int64} {d : Nat → UInt64}  {r : Int32 × kSt × (Nat → UInt64)} {sa : Nat → Nat} (hlt : l.stackTraces = false) (h : f_L_meanOwned S d  = some r) : kX l yL_meanOwned wsL_meanOwned ({ frames := 7, cells := 1, slots := 6, locals := 106 } : Room) D cy sa (lwx a b cy o0 o1 S T g d) [.ref (a 0), .ref o1] (lwx a b cy o0 o1 r.2.1 T g r.2.2) (.inl (some (.int r.1))) 1 6 := by
  rw [f_L_meanOwned] at h
  refine kX.startH (L := [(0, .ref (a 0)), (1, .ref (o1))]) hlt rfl rfl rfl (Nat.le_of_ble_eq_true rfl) rfl (fun K A C CX CT => ?_)
  refine kr_aload_n C 1 dL_meanOwned_0 rfl rfl ?_
  refine kr_iconst C (v := 0) dL_meanOwned_1 (by decide) ?_
  refine kr_aload_n C 0 dL_meanOwned_2 rfl rfl ?_
  rcases kxb_some h with ⟨Ev1, hv1, h⟩ | ⟨v1, hv1, h⟩
  · by_cases hE0 : Ev1 = "java/lang/ArithmeticException"
    · have h := (if_pos hE0).symm.trans h
      cases h
      subst hE0
      refine kr_xVh C CX CT (k := 0) (As := []) (rest := [.int ((0 : Int32)), .ref (o1)]) (c_X2_meanOwned hlt hv1) gL_meanOwned_X2_meanOwned rfl rfl rfl (by decide +kernel) ⟨(Nat.le_of_ble_eq_true rfl), (Nat.le_of_ble_eq_true rfl)⟩ ⟨(Nat.le_of_ble_eq_true rfl), (Nat.le_of_ble_eq_true rfl)⟩ 0 rfl rfl rfl rfl (Nat.le_of_ble_eq_true rfl) dL_meanOwned_3 (by decide) [] ⟨0, 7, 10, 98⟩ [] rfl (fun _ h => absurd h List.not_mem_nil) (by decide) (by decide) clL_meanOwned_98 (fun q9 => ?_)
      refine kr_astore_n C [1, 2, 0] dL_meanOwned_10 rfl (by decide) rfl ?_
      refine kr_iconst C (v := 1) dL_meanOwned_11 (by decide) ?_
      exact kr_retX (kr_ret_i C (Nat.le_of_ble_eq_true rfl) (Nat.le_of_ble_eq_true rfl) dL_meanOwned_12)
    have h := (if_neg hE0).symm.trans h
    cases h
  refine kr_xV1 C CX (k := 0) (As := []) (rest := [.int ((0 : Int32)), .ref (o1)]) (c_X2_meanOwned hlt hv1) gL_meanOwned_X2_meanOwned rfl rfl rfl (by decide +kernel) ⟨(Nat.le_of_ble_eq_true rfl), (Nat.le_of_ble_eq_true rfl)⟩ ⟨(Nat.le_of_ble_eq_true rfl), (Nat.le_of_ble_eq_true rfl)⟩ 0 rfl rfl rfl rfl (Nat.le_of_ble_eq_true rfl) dL_meanOwned_3 (X2 := (lwx a b cy o0 o1 S T g d)) ?_
  refine kr_dast C 32 rfl (vp_in_iff.mpr (by decide)) (X2 := (lwx a b cy o0 o1 S T g (vf_upd d (0 : Int32).toNatClampNeg v1))) rfl dL_meanOwned_6 ?_
  refine kr_goto C 13 dL_meanOwned_7 (by decide) ?_
  refine kr_iconst C (v := 0) dL_meanOwned_13 (by decide) ?_
  cases h
  exact kr_retX (kr_ret_i C (Nat.le_of_ble_eq_true rfl) (Nat.le_of_ble_eq_true rfl) dL_meanOwned_14)
theorem clL_nest_19 : Cond.classLink RL 19 "java/lang/IndexOutOfBoundsException" ∈ wsL_nest := by decide +kernel
theorem clL_nest_21 : Cond.classLink RL 21 "java/lang/IllegalArgumentException" ∈ wsL_nest := by decide +kernel
theorem clL_nest_30 : Cond.classLink RL 30 "java/lang/UnsupportedOperationException" ∈ wsL_nest := by decide +kernel
set_option maxHeartbeats 4000000 in
set_option maxRecDepth 100000 in
theorem c_L_nest {l : Launch} {D : va_G} {cy : Nat → ClassId} {a b : Nat → Nat} {o0 o1 : Nat} {S T : kSt} {g : Nat → Int64} {d : Nat → UInt64} {p1 : Int32} {p2 : Int32} {p3 : Int32} {r : Int32 × kSt × (Nat → Int64)} {sa : Nat → Nat} (hlt : l.stackTraces = false) (h : f_L_nest S g p1 p2 p3 = some r) : kX l yL_nest wsL_nest ({ frames := 8, cells := 4, slots := 24, locals := 126 } : Room) D cy sa (lwx a b cy o0 o1 S T g d) [.ref (a 0), .int p1, .int p2, .int p3, .ref o0] (lwx a b cy o0 o1 r.2.1 T r.2.2 d) (.inl (some (.int r.1))) 4 24 := by
  rw [f_L_nest] at h
  refine kX.startH (L := [(0, .ref (a 0)), (1, .int (p1)), (2, .int (p2)), (3, .int (p3)), (4, .ref (o0))]) hlt rfl rfl rfl (Nat.le_of_ble_eq_true rfl) rfl (fun K A C CX CT => ?_)
  refine kr_aload C 4 dL_nest_0 rfl ?_
  refine kr_iconst C (v := 0) dL_nest_2 (by decide) ?_
  refine kr_aload_n C 0 dL_nest_3 rfl rfl ?_
  refine kr_iload_n C 1 dL_nest_4 rfl rfl ?_
  refine kr_iload_n C 2 dL_nest_5 rfl rfl ?_
  refine kr_iload_n C 3 dL_nest_6 rfl rfl ?_
  rcases kxs_some h with ⟨Ev1, Sv1, hv1, h⟩ | ⟨v1, Sv1, hv1, h⟩
  · by_cases hE0 : Ev1 = "java/lang/IndexOutOfBoundsException"
    · have h := (if_pos hE0).symm.trans h
      cases h
      subst hE0
      refine kr_xVh C CX CT (k := 3) (As := [.int p1, .int p2, .int p3]) (rest := [.int ((0 : Int32)), .ref (o0)]) (c_X2_nest hlt hv1) gL_nest_X2_nest rfl rfl rfl (by decide +kernel) ⟨(Nat.le_of_ble_eq_true rfl), (Nat.le_of_ble_eq_true rfl)⟩ ⟨(Nat.le_of_ble_eq_true rfl), (Nat.le_of_ble_eq_true rfl)⟩ 0 rfl rfl rfl rfl (Nat.le_of_ble_eq_true rfl) dL_nest_7 (by decide) [] ⟨0, 12, 15, 19⟩ [⟨0, 12, 19, 21⟩, ⟨0, 12, 23, 30⟩] rfl (fun _ h => absurd h List.not_mem_nil) (by decide) (by decide) clL_nest_19 (fun q9 => ?_)
      refine kr_astore C [1, 2, 3, 4, 5, 0] dL_nest_15 (by decide) rfl ?_
      refine kr_iconst C (v := 1) dL_nest_17 (by decide) ?_
      exact kr_retX (kr_ret_i C (Nat.le_of_ble_eq_true rfl) (Nat.le_of_ble_eq_true rfl) dL_nest_18)
    have h := (if_neg hE0).symm.trans h
    by_cases hE1 : Ev1 = "java/lang/IllegalArgumentException"
    · have h := (if_pos hE1).symm.trans h
      cases h
      subst hE1
      refine kr_xVh C CX CT (k := 3) (As := [.int p1, .int p2, .int p3]) (rest := [.int ((0 : Int32)), .ref (o0)]) (c_X2_nest hlt hv1) gL_nest_X2_nest rfl rfl rfl (by decide +kernel) ⟨(Nat.le_of_ble_eq_true rfl), (Nat.le_of_ble_eq_true rfl)⟩ ⟨(Nat.le_of_ble_eq_true rfl), (Nat.le_of_ble_eq_true rfl)⟩ 0 rfl rfl rfl rfl (Nat.le_of_ble_eq_true rfl) dL_nest_7 (by decide) [⟨0, 12, 15, 19⟩] ⟨0, 12, 19, 21⟩ [⟨0, 12, 23, 30⟩] rfl (List.forall_mem_cons.mpr ⟨⟨by decide, "java/lang/IndexOutOfBoundsException", clL_nest_19, by decide, by decide⟩, (fun _ h => absurd h List.not_mem_nil)⟩) (by decide) (by decide) clL_nest_21 (fun q9 => ?_)
      refine kr_astore C [1, 2, 3, 4, 5, 0] dL_nest_19 (by decide) rfl ?_
      refine kr_iconst C (v := 2) dL_nest_21 (by decide) ?_
      exact kr_retX (kr_ret_i C (Nat.le_of_ble_eq_true rfl) (Nat.le_of_ble_eq_true rfl) dL_nest_22)
    have h := (if_neg hE1).symm.trans h
    by_cases hE2 : Ev1 = "java/lang/UnsupportedOperationException"
    · have h := (if_pos hE2).symm.trans h
      cases h
      subst hE2
      refine kr_xVh C CX CT (k := 3) (As := [.int p1, .int p2, .int p3]) (rest := [.int ((0 : Int32)), .ref (o0)]) (c_X2_nest hlt hv1) gL_nest_X2_nest rfl rfl rfl (by decide +kernel) ⟨(Nat.le_of_ble_eq_true rfl), (Nat.le_of_ble_eq_true rfl)⟩ ⟨(Nat.le_of_ble_eq_true rfl), (Nat.le_of_ble_eq_true rfl)⟩ 0 rfl rfl rfl rfl (Nat.le_of_ble_eq_true rfl) dL_nest_7 (by decide) [⟨0, 12, 15, 19⟩, ⟨0, 12, 19, 21⟩] ⟨0, 12, 23, 30⟩ [] rfl (List.forall_mem_cons.mpr ⟨⟨by decide, "java/lang/IndexOutOfBoundsException", clL_nest_19, by decide, by decide⟩, (List.forall_mem_cons.mpr ⟨⟨by decide, "java/lang/IllegalArgumentException", clL_nest_21, by decide, by decide⟩, (fun _ h => absurd h List.not_mem_nil)⟩)⟩) (by decide) (by decide) clL_nest_30 (fun q9 => ?_)
      refine kr_astore C [1, 2, 3, 4, 5, 0] dL_nest_23 (by decide) rfl ?_
      refine kr_iconst C (v := 3) dL_nest_25 (by decide) ?_
      exact kr_retX (kr_ret_i C (Nat.le_of_ble_eq_true rfl) (Nat.le_of_ble_eq_true rfl) dL_nest_26)
    have h := (if_neg hE2).symm.trans h
    cases h
  refine kr_xV1 C CX (k := 3) (As := [.int p1, .int p2, .int p3]) (rest := [.int ((0 : Int32)), .ref (o0)]) (c_X2_nest hlt hv1) gL_nest_X2_nest rfl rfl rfl (by decide +kernel) ⟨(Nat.le_of_ble_eq_true rfl), (Nat.le_of_ble_eq_true rfl)⟩ ⟨(Nat.le_of_ble_eq_true rfl), (Nat.le_of_ble_eq_true rfl)⟩ 0 rfl rfl rfl rfl (Nat.le_of_ble_eq_true rfl) dL_nest_7 (X2 := (lwx a b cy o0 o1 Sv1 T g d)) ?_
  refine kr_i2l C dL_nest_10 ?_
  refine kr_last C 31 rfl (vp_in_iff.mpr (by decide)) (X2 := (lwx a b cy o0 o1 Sv1 T (vp_updL g (0 : Int32).toNatClampNeg v1.toInt64) d)) rfl dL_nest_11 ?_
  refine kr_goto C 27 dL_nest_12 (by decide) ?_
  refine kr_iconst C (v := 0) dL_nest_27 (by decide) ?_
  cases h
  exact kr_retX (kr_ret_i C (Nat.le_of_ble_eq_true rfl) (Nat.le_of_ble_eq_true rfl) dL_nest_28)
theorem clL_openShare_98 : Cond.classLink RL 98 "java/lang/ArithmeticException" ∈ wsL_openShare := by decide +kernel
set_option maxHeartbeats 4000000 in
set_option maxRecDepth 100000 in
theorem c_L_openShare {l : Launch} {D : va_G} {cy : Nat → ClassId} {a b : Nat → Nat} {o0 o1 : Nat} {S T : kSt} {g : Nat → Int64} {d : Nat → UInt64}  {r : Int32 × kSt × (Nat → UInt64)} {sa : Nat → Nat} (hlt : l.stackTraces = false) (h : f_L_openShare S d  = some r) : kX l yL_openShare wsL_openShare ({ frames := 7, cells := 1, slots := 6, locals := 161 } : Room) D cy sa (lwx a b cy o0 o1 S T g d) [.ref (a 0), .ref o1] (lwx a b cy o0 o1 r.2.1 T g r.2.2) (.inl (some (.int r.1))) 1 6 := by
  rw [f_L_openShare] at h
  refine kX.startH (L := [(0, .ref (a 0)), (1, .ref (o1))]) hlt rfl rfl rfl (Nat.le_of_ble_eq_true rfl) rfl (fun K A C CX CT => ?_)
  refine kr_aload_n C 1 dL_openShare_0 rfl rfl ?_
  refine kr_iconst C (v := 0) dL_openShare_1 (by decide) ?_
  refine kr_aload_n C 0 dL_openShare_2 rfl rfl ?_
  rcases kxb_some h with ⟨Ev1, hv1, h⟩ | ⟨v1, hv1, h⟩
  · by_cases hE0 : Ev1 = "java/lang/ArithmeticException"
    · have h := (if_pos hE0).symm.trans h
      cases h
      subst hE0
      refine kr_xVh C CX CT (k := 0) (As := []) (rest := [.int ((0 : Int32)), .ref (o1)]) (c_X2_openShare hlt hv1) gL_openShare_X2_openShare rfl rfl rfl (by decide +kernel) ⟨(Nat.le_of_ble_eq_true rfl), (Nat.le_of_ble_eq_true rfl)⟩ ⟨(Nat.le_of_ble_eq_true rfl), (Nat.le_of_ble_eq_true rfl)⟩ 0 rfl rfl rfl rfl (Nat.le_of_ble_eq_true rfl) dL_openShare_3 (by decide) [] ⟨0, 8, 11, 98⟩ [] rfl (fun _ h => absurd h List.not_mem_nil) (by decide) (by decide) clL_openShare_98 (fun q9 => ?_)
      refine kr_astore_n C [1, 2, 0] dL_openShare_11 rfl (by decide) rfl ?_
      refine kr_iconst C (v := 1) dL_openShare_12 (by decide) ?_
      exact kr_retX (kr_ret_i C (Nat.le_of_ble_eq_true rfl) (Nat.le_of_ble_eq_true rfl) dL_openShare_13)
    have h := (if_neg hE0).symm.trans h
    cases h
  refine kr_xV1 C CX (k := 0) (As := []) (rest := [.int ((0 : Int32)), .ref (o1)]) (c_X2_openShare hlt hv1) gL_openShare_X2_openShare rfl rfl rfl (by decide +kernel) ⟨(Nat.le_of_ble_eq_true rfl), (Nat.le_of_ble_eq_true rfl)⟩ ⟨(Nat.le_of_ble_eq_true rfl), (Nat.le_of_ble_eq_true rfl)⟩ 0 rfl rfl rfl rfl (Nat.le_of_ble_eq_true rfl) dL_openShare_3 (X2 := (lwx a b cy o0 o1 S T g d)) ?_
  obtain ⟨hb2, h⟩ := kif h
  refine kr_f2d C dL_openShare_6 (kn64_of hb2) ?_
  refine kr_dast C 32 rfl (vp_in_iff.mpr (by decide)) (X2 := (lwx a b cy o0 o1 S T g (vf_upd d (0 : Int32).toNatClampNeg (FP.f2d v1)))) rfl dL_openShare_7 ?_
  refine kr_goto C 14 dL_openShare_8 (by decide) ?_
  refine kr_iconst C (v := 0) dL_openShare_14 (by decide) ?_
  cases h
  exact kr_retX (kr_ret_i C (Nat.le_of_ble_eq_true rfl) (Nat.le_of_ble_eq_true rfl) dL_openShare_15)
theorem clL_owner_19 : Cond.classLink RL 19 "java/lang/IndexOutOfBoundsException" ∈ wsL_owner := by decide +kernel
set_option maxHeartbeats 4000000 in
set_option maxRecDepth 100000 in
theorem c_L_owner {l : Launch} {D : va_G} {cy : Nat → ClassId} {a b : Nat → Nat} {o0 o1 : Nat} {S T : kSt} {g : Nat → Int64} {d : Nat → UInt64} {p1 : Int32} {r : Int32 × kSt × (Nat → Int64)} {sa : Nat → Nat} (hlt : l.stackTraces = false) (h : f_L_owner S g p1 = some r) : kX l yL_owner wsL_owner ({ frames := 8, cells := 1, slots := 6, locals := 124 } : Room) D cy sa (lwx a b cy o0 o1 S T g d) [.ref (a 0), .int p1, .ref o0] (lwx a b cy o0 o1 r.2.1 T r.2.2 d) (.inl (some (.int r.1))) 1 6 := by
  rw [f_L_owner] at h
  refine kX.startH (L := [(0, .ref (a 0)), (1, .int (p1)), (2, .ref (o0))]) hlt rfl rfl rfl (Nat.le_of_ble_eq_true rfl) rfl (fun K A C CX CT => ?_)
  refine kr_aload_n C 2 dL_owner_0 rfl rfl ?_
  refine kr_iconst C (v := 0) dL_owner_1 (by decide) ?_
  refine kr_aload_n C 0 dL_owner_2 rfl rfl ?_
  refine kr_iload_n C 1 dL_owner_3 rfl rfl ?_
  rcases kxb_some h with ⟨Ev1, hv1, h⟩ | ⟨v1, hv1, h⟩
  · by_cases hE0 : Ev1 = "java/lang/IndexOutOfBoundsException"
    · have h := (if_pos hE0).symm.trans h
      cases h
      subst hE0
      refine kr_xVh C CX CT (k := 1) (As := [.int p1]) (rest := [.int ((0 : Int32)), .ref (o0)]) (c_X2_owner hlt hv1) gL_owner_X2_owner rfl rfl rfl (by decide +kernel) ⟨(Nat.le_of_ble_eq_true rfl), (Nat.le_of_ble_eq_true rfl)⟩ ⟨(Nat.le_of_ble_eq_true rfl), (Nat.le_of_ble_eq_true rfl)⟩ 0 rfl rfl rfl rfl (Nat.le_of_ble_eq_true rfl) dL_owner_4 (by decide) [] ⟨0, 9, 12, 19⟩ [] rfl (fun _ h => absurd h List.not_mem_nil) (by decide) (by decide) clL_owner_19 (fun q9 => ?_)
      refine kr_astore_n C [1, 2, 3, 0] dL_owner_12 rfl (by decide) rfl ?_
      refine kr_iconst C (v := 1) dL_owner_13 (by decide) ?_
      exact kr_retX (kr_ret_i C (Nat.le_of_ble_eq_true rfl) (Nat.le_of_ble_eq_true rfl) dL_owner_14)
    have h := (if_neg hE0).symm.trans h
    cases h
  refine kr_xV1 C CX (k := 1) (As := [.int p1]) (rest := [.int ((0 : Int32)), .ref (o0)]) (c_X2_owner hlt hv1) gL_owner_X2_owner rfl rfl rfl (by decide +kernel) ⟨(Nat.le_of_ble_eq_true rfl), (Nat.le_of_ble_eq_true rfl)⟩ ⟨(Nat.le_of_ble_eq_true rfl), (Nat.le_of_ble_eq_true rfl)⟩ 0 rfl rfl rfl rfl (Nat.le_of_ble_eq_true rfl) dL_owner_4 (X2 := (lwx a b cy o0 o1 S T g d)) ?_
  refine kr_i2l C dL_owner_7 ?_
  refine kr_last C 31 rfl (vp_in_iff.mpr (by decide)) (X2 := (lwx a b cy o0 o1 S T (vp_updL g (0 : Int32).toNatClampNeg v1.toInt64) d)) rfl dL_owner_8 ?_
  refine kr_goto C 15 dL_owner_9 (by decide) ?_
  refine kr_iconst C (v := 0) dL_owner_15 (by decide) ?_
  cases h
  exact kr_retX (kr_ret_i C (Nat.le_of_ble_eq_true rfl) (Nat.le_of_ble_eq_true rfl) dL_owner_16)
theorem clL_pass_21 : Cond.classLink RL 21 "java/lang/IllegalArgumentException" ∈ wsL_pass := by decide +kernel
set_option maxHeartbeats 4000000 in
set_option maxRecDepth 100000 in
theorem c_L_pass {l : Launch} {D : va_G} {cy : Nat → ClassId} {a b : Nat → Nat} {o0 o1 : Nat} {S T : kSt} {g : Nat → Int64} {d : Nat → UInt64} {p1 : Int32} {r : Int32 × kSt × (Nat → Int64)} {sa : Nat → Nat} (hlt : l.stackTraces = false) (h : f_L_pass S g p1 = some r) : kX l yL_pass wsL_pass ({ frames := 7, cells := 1, slots := 6, locals := 103 } : Room) D cy sa (lwx a b cy o0 o1 S T g d) [.ref (a 0), .int p1, .ref o0] (lwx a b cy o0 o1 r.2.1 T r.2.2 d) (.inl (some (.int r.1))) 1 6 := by
  rw [f_L_pass] at h
  refine kX.startH (L := [(0, .ref (a 0)), (1, .int (p1)), (2, .ref (o0))]) hlt rfl rfl rfl (Nat.le_of_ble_eq_true rfl) rfl (fun K A C CX CT => ?_)
  refine kr_aload_n C 2 dL_pass_0 rfl rfl ?_
  refine kr_iconst C (v := 0) dL_pass_1 (by decide) ?_
  refine kr_aload_n C 0 dL_pass_2 rfl rfl ?_
  refine kr_iload_n C 1 dL_pass_3 rfl rfl ?_
  rcases kxs_some h with ⟨Ev1, Sv1, hv1, h⟩ | ⟨v1, Sv1, hv1, h⟩
  · by_cases hE0 : Ev1 = "java/lang/IllegalArgumentException"
    · have h := (if_pos hE0).symm.trans h
      cases h
      subst hE0
      refine kr_xVh C CX CT (k := 1) (As := [.int p1]) (rest := [.int ((0 : Int32)), .ref (o0)]) (c_X2_pass hlt hv1) gL_pass_X2_pass rfl rfl rfl (by decide +kernel) ⟨(Nat.le_of_ble_eq_true rfl), (Nat.le_of_ble_eq_true rfl)⟩ ⟨(Nat.le_of_ble_eq_true rfl), (Nat.le_of_ble_eq_true rfl)⟩ 0 rfl rfl rfl rfl (Nat.le_of_ble_eq_true rfl) dL_pass_4 (by decide) [] ⟨0, 9, 12, 21⟩ [] rfl (fun _ h => absurd h List.not_mem_nil) (by decide) (by decide) clL_pass_21 (fun q9 => ?_)
      refine kr_astore_n C [1, 2, 3, 0] dL_pass_12 rfl (by decide) rfl ?_
      refine kr_iconst C (v := 1) dL_pass_13 (by decide) ?_
      exact kr_retX (kr_ret_i C (Nat.le_of_ble_eq_true rfl) (Nat.le_of_ble_eq_true rfl) dL_pass_14)
    have h := (if_neg hE0).symm.trans h
    cases h
  refine kr_xV1 C CX (k := 1) (As := [.int p1]) (rest := [.int ((0 : Int32)), .ref (o0)]) (c_X2_pass hlt hv1) gL_pass_X2_pass rfl rfl rfl (by decide +kernel) ⟨(Nat.le_of_ble_eq_true rfl), (Nat.le_of_ble_eq_true rfl)⟩ ⟨(Nat.le_of_ble_eq_true rfl), (Nat.le_of_ble_eq_true rfl)⟩ 0 rfl rfl rfl rfl (Nat.le_of_ble_eq_true rfl) dL_pass_4 (X2 := (lwx a b cy o0 o1 Sv1 T g d)) ?_
  refine kr_i2l C dL_pass_7 ?_
  refine kr_last C 31 rfl (vp_in_iff.mpr (by decide)) (X2 := (lwx a b cy o0 o1 Sv1 T (vp_updL g (0 : Int32).toNatClampNeg v1.toInt64) d)) rfl dL_pass_8 ?_
  refine kr_goto C 15 dL_pass_9 (by decide) ?_
  refine kr_iconst C (v := 0) dL_pass_15 (by decide) ?_
  cases h
  exact kr_retX (kr_ret_i C (Nat.le_of_ble_eq_true rfl) (Nat.le_of_ble_eq_true rfl) dL_pass_16)
theorem clL_readers_19 : Cond.classLink RL 19 "java/lang/IndexOutOfBoundsException" ∈ wsL_readers := by decide +kernel
set_option maxHeartbeats 4000000 in
set_option maxRecDepth 100000 in
theorem c_L_readers {l : Launch} {D : va_G} {cy : Nat → ClassId} {a b : Nat → Nat} {o0 o1 : Nat} {S T : kSt} {g : Nat → Int64} {d : Nat → UInt64} {p1 : Int32} {r : Int32 × kSt × (Nat → Int64)} {sa : Nat → Nat} (hlt : l.stackTraces = false) (h : f_L_readers S g p1 = some r) : kX l yL_readers wsL_readers ({ frames := 8, cells := 1, slots := 6, locals := 161 } : Room) D cy sa (lwx a b cy o0 o1 S T g d) [.ref (a 0), .int p1, .ref o0] (lwx a b cy o0 o1 r.2.1 T r.2.2 d) (.inl (some (.int r.1))) 1 6 := by
  rw [f_L_readers] at h
  refine kX.startH (L := [(0, .ref (a 0)), (1, .int (p1)), (2, .ref (o0))]) hlt rfl rfl rfl (Nat.le_of_ble_eq_true rfl) rfl (fun K A C CX CT => ?_)
  refine kr_aload_n C 2 dL_readers_0 rfl rfl ?_
  refine kr_iconst C (v := 0) dL_readers_1 (by decide) ?_
  refine kr_aload_n C 0 dL_readers_2 rfl rfl ?_
  refine kr_iload_n C 1 dL_readers_3 rfl rfl ?_
  rcases kxb_some h with ⟨Ev1, hv1, h⟩ | ⟨v1, hv1, h⟩
  · by_cases hE0 : Ev1 = "java/lang/IndexOutOfBoundsException"
    · have h := (if_pos hE0).symm.trans h
      cases h
      subst hE0
      refine kr_xVh C CX CT (k := 1) (As := [.int p1]) (rest := [.int ((0 : Int32)), .ref (o0)]) (c_X2_readers hlt hv1) gL_readers_X2_readers rfl rfl rfl (by decide +kernel) ⟨(Nat.le_of_ble_eq_true rfl), (Nat.le_of_ble_eq_true rfl)⟩ ⟨(Nat.le_of_ble_eq_true rfl), (Nat.le_of_ble_eq_true rfl)⟩ 0 rfl rfl rfl rfl (Nat.le_of_ble_eq_true rfl) dL_readers_4 (by decide) [] ⟨0, 9, 12, 19⟩ [] rfl (fun _ h => absurd h List.not_mem_nil) (by decide) (by decide) clL_readers_19 (fun q9 => ?_)
      refine kr_astore_n C [1, 2, 3, 0] dL_readers_12 rfl (by decide) rfl ?_
      refine kr_iconst C (v := 1) dL_readers_13 (by decide) ?_
      exact kr_retX (kr_ret_i C (Nat.le_of_ble_eq_true rfl) (Nat.le_of_ble_eq_true rfl) dL_readers_14)
    have h := (if_neg hE0).symm.trans h
    cases h
  refine kr_xV1 C CX (k := 1) (As := [.int p1]) (rest := [.int ((0 : Int32)), .ref (o0)]) (c_X2_readers hlt hv1) gL_readers_X2_readers rfl rfl rfl (by decide +kernel) ⟨(Nat.le_of_ble_eq_true rfl), (Nat.le_of_ble_eq_true rfl)⟩ ⟨(Nat.le_of_ble_eq_true rfl), (Nat.le_of_ble_eq_true rfl)⟩ 0 rfl rfl rfl rfl (Nat.le_of_ble_eq_true rfl) dL_readers_4 (X2 := (lwx a b cy o0 o1 S T g d)) ?_
  refine kr_i2l C dL_readers_7 ?_
  refine kr_last C 31 rfl (vp_in_iff.mpr (by decide)) (X2 := (lwx a b cy o0 o1 S T (vp_updL g (0 : Int32).toNatClampNeg v1.toInt64) d)) rfl dL_readers_8 ?_
  refine kr_goto C 15 dL_readers_9 (by decide) ?_
  refine kr_iconst C (v := 0) dL_readers_15 (by decide) ?_
  cases h
  exact kr_retX (kr_ret_i C (Nat.le_of_ble_eq_true rfl) (Nat.le_of_ble_eq_true rfl) dL_readers_16)
theorem clL_reads_19 : Cond.classLink RL 19 "java/lang/IndexOutOfBoundsException" ∈ wsL_reads := by decide +kernel
set_option maxHeartbeats 4000000 in
set_option maxRecDepth 100000 in
theorem c_L_reads {l : Launch} {D : va_G} {cy : Nat → ClassId} {a b : Nat → Nat} {o0 o1 : Nat} {S T : kSt} {g : Nat → Int64} {d : Nat → UInt64} {p1 : Int32} {p2 : Int32} {r : Int32 × kSt × (Nat → Int64)} {sa : Nat → Nat} (hlt : l.stackTraces = false) (h : f_L_reads S g p1 p2 = some r) : kX l yL_reads wsL_reads ({ frames := 8, cells := 2, slots := 12, locals := 162 } : Room) D cy sa (lwx a b cy o0 o1 S T g d) [.ref (a 0), .int p1, .int p2, .ref o0] (lwx a b cy o0 o1 r.2.1 T r.2.2 d) (.inl (some (.int r.1))) 2 12 := by
  rw [f_L_reads] at h
  refine kX.startH (L := [(0, .ref (a 0)), (1, .int (p1)), (2, .int (p2)), (3, .ref (o0))]) hlt rfl rfl rfl (Nat.le_of_ble_eq_true rfl) rfl (fun K A C CX CT => ?_)
  refine kr_aload_n C 3 dL_reads_0 rfl rfl ?_
  refine kr_iconst C (v := 0) dL_reads_1 (by decide) ?_
  refine kr_aload_n C 0 dL_reads_2 rfl rfl ?_
  refine kr_iload_n C 1 dL_reads_3 rfl rfl ?_
  refine kr_iload_n C 2 dL_reads_4 rfl rfl ?_
  rcases kxb_some h with ⟨Ev1, hv1, h⟩ | ⟨v1, hv1, h⟩
  · by_cases hE0 : Ev1 = "java/lang/IndexOutOfBoundsException"
    · have h := (if_pos hE0).symm.trans h
      cases h
      subst hE0
      refine kr_xVh C CX CT (k := 2) (As := [.int p1, .int p2]) (rest := [.int ((0 : Int32)), .ref (o0)]) (c_X2_reads hlt hv1) gL_reads_X2_reads rfl rfl rfl (by decide +kernel) ⟨(Nat.le_of_ble_eq_true rfl), (Nat.le_of_ble_eq_true rfl)⟩ ⟨(Nat.le_of_ble_eq_true rfl), (Nat.le_of_ble_eq_true rfl)⟩ 0 rfl rfl rfl rfl (Nat.le_of_ble_eq_true rfl) dL_reads_5 (by decide) [] ⟨0, 17, 20, 19⟩ [] rfl (fun _ h => absurd h List.not_mem_nil) (by decide) (by decide) clL_reads_19 (fun q9 => ?_)
      refine kr_astore C [1, 2, 3, 4, 0] dL_reads_20 (by decide) rfl ?_
      refine kr_iconst C (v := 1) dL_reads_22 (by decide) ?_
      exact kr_retX (kr_ret_i C (Nat.le_of_ble_eq_true rfl) (Nat.le_of_ble_eq_true rfl) dL_reads_23)
    have h := (if_neg hE0).symm.trans h
    cases h
  refine kr_xV1 C CX (k := 2) (As := [.int p1, .int p2]) (rest := [.int ((0 : Int32)), .ref (o0)]) (c_X2_reads hlt hv1) gL_reads_X2_reads rfl rfl rfl (by decide +kernel) ⟨(Nat.le_of_ble_eq_true rfl), (Nat.le_of_ble_eq_true rfl)⟩ ⟨(Nat.le_of_ble_eq_true rfl), (Nat.le_of_ble_eq_true rfl)⟩ 0 rfl rfl rfl rfl (Nat.le_of_ble_eq_true rfl) dL_reads_5 (X2 := (lwx a b cy o0 o1 S T g d)) ?_
  refine kr_if_eq C 15 dL_reads_8 (by decide) (fun hc => ?_) (fun hc => ?_)
  · have h := (if_pos hc).symm.trans h
    refine kr_lconst C (v := 0) dL_reads_15 (by decide) ?_
    refine kr_last C 31 rfl (vp_in_iff.mpr (by decide)) (X2 := (lwx a b cy o0 o1 S T (vp_updL g (0 : Int32).toNatClampNeg (0 : Int64)) d)) rfl dL_reads_16 ?_
    refine kr_goto C 24 dL_reads_17 (by decide) ?_
    refine kr_iconst C (v := 0) dL_reads_24 (by decide) ?_
    cases h
    exact kr_retX (kr_ret_i C (Nat.le_of_ble_eq_true rfl) (Nat.le_of_ble_eq_true rfl) dL_reads_25)
  have h := (if_neg hc).symm.trans h
  refine kr_lconst C (v := 1) dL_reads_11 (by decide) ?_
  refine kr_goto C 16 dL_reads_12 (by decide) ?_
  refine kr_last C 31 rfl (vp_in_iff.mpr (by decide)) (X2 := (lwx a b cy o0 o1 S T (vp_updL g (0 : Int32).toNatClampNeg (1 : Int64)) d)) rfl dL_reads_16 ?_
  refine kr_goto C 24 dL_reads_17 (by decide) ?_
  refine kr_iconst C (v := 0) dL_reads_24 (by decide) ?_
  cases h
  exact kr_retX (kr_ret_i C (Nat.le_of_ble_eq_true rfl) (Nat.le_of_ble_eq_true rfl) dL_reads_25)
theorem clL_release_19 : Cond.classLink RL 19 "java/lang/IndexOutOfBoundsException" ∈ wsL_release := by decide +kernel
theorem clL_release_13 : Cond.classLink RL 13 "java/lang/IllegalStateException" ∈ wsL_release := by decide +kernel
set_option maxHeartbeats 4000000 in
set_option maxRecDepth 100000 in
theorem c_L_release {l : Launch} {D : va_G} {cy : Nat → ClassId} {a b : Nat → Nat} {o0 o1 : Nat} {S T : kSt} {g : Nat → Int64} {d : Nat → UInt64} {p1 : Int32} {r : Int32 × kSt × (Nat → Int64)} {sa : Nat → Nat} (hlt : l.stackTraces = false) (h : f_L_release S g p1 = some r) : kX l yL_release wsL_release ({ frames := 8, cells := 2, slots := 12, locals := 132 } : Room) D cy sa (lwx a b cy o0 o1 S T g d) [.ref (a 0), .int p1, .ref o0] (lwx a b cy o0 o1 r.2.1 T r.2.2 d) (.inl (some (.int r.1))) 2 12 := by
  rw [f_L_release] at h
  refine kX.startH (L := [(0, .ref (a 0)), (1, .int (p1)), (2, .ref (o0))]) hlt rfl rfl rfl (Nat.le_of_ble_eq_true rfl) rfl (fun K A C CX CT => ?_)
  refine kr_aload_n C 2 dL_release_0 rfl rfl ?_
  refine kr_iconst C (v := 0) dL_release_1 (by decide) ?_
  refine kr_aload_n C 0 dL_release_2 rfl rfl ?_
  refine kr_iload_n C 1 dL_release_3 rfl rfl ?_
  rcases kxs_some h with ⟨Ev1, Sv1, hv1, h⟩ | ⟨v1, Sv1, hv1, h⟩
  · by_cases hE0 : Ev1 = "java/lang/IndexOutOfBoundsException"
    · have h := (if_pos hE0).symm.trans h
      cases h
      subst hE0
      refine kr_xVh C CX CT (k := 1) (As := [.int p1]) (rest := [.int ((0 : Int32)), .ref (o0)]) (c_X2_release hlt hv1) gL_release_X2_release rfl rfl rfl (by decide +kernel) ⟨(Nat.le_of_ble_eq_true rfl), (Nat.le_of_ble_eq_true rfl)⟩ ⟨(Nat.le_of_ble_eq_true rfl), (Nat.le_of_ble_eq_true rfl)⟩ 0 rfl rfl rfl rfl (Nat.le_of_ble_eq_true rfl) dL_release_4 (by decide) [] ⟨0, 9, 12, 19⟩ [⟨0, 9, 15, 13⟩] rfl (fun _ h => absurd h List.not_mem_nil) (by decide) (by decide) clL_release_19 (fun q9 => ?_)
      refine kr_astore_n C [1, 2, 3, 0] dL_release_12 rfl (by decide) rfl ?_
      refine kr_iconst C (v := 1) dL_release_13 (by decide) ?_
      exact kr_retX (kr_ret_i C (Nat.le_of_ble_eq_true rfl) (Nat.le_of_ble_eq_true rfl) dL_release_14)
    have h := (if_neg hE0).symm.trans h
    by_cases hE1 : Ev1 = "java/lang/IllegalStateException"
    · have h := (if_pos hE1).symm.trans h
      cases h
      subst hE1
      refine kr_xVh C CX CT (k := 1) (As := [.int p1]) (rest := [.int ((0 : Int32)), .ref (o0)]) (c_X2_release hlt hv1) gL_release_X2_release rfl rfl rfl (by decide +kernel) ⟨(Nat.le_of_ble_eq_true rfl), (Nat.le_of_ble_eq_true rfl)⟩ ⟨(Nat.le_of_ble_eq_true rfl), (Nat.le_of_ble_eq_true rfl)⟩ 0 rfl rfl rfl rfl (Nat.le_of_ble_eq_true rfl) dL_release_4 (by decide) [⟨0, 9, 12, 19⟩] ⟨0, 9, 15, 13⟩ [] rfl (List.forall_mem_cons.mpr ⟨⟨by decide, "java/lang/IndexOutOfBoundsException", clL_release_19, by decide, by decide⟩, (fun _ h => absurd h List.not_mem_nil)⟩) (by decide) (by decide) clL_release_13 (fun q9 => ?_)
      refine kr_astore_n C [1, 2, 3, 0] dL_release_15 rfl (by decide) rfl ?_
      refine kr_iconst C (v := 2) dL_release_16 (by decide) ?_
      exact kr_retX (kr_ret_i C (Nat.le_of_ble_eq_true rfl) (Nat.le_of_ble_eq_true rfl) dL_release_17)
    have h := (if_neg hE1).symm.trans h
    cases h
  refine kr_xV1 C CX (k := 1) (As := [.int p1]) (rest := [.int ((0 : Int32)), .ref (o0)]) (c_X2_release hlt hv1) gL_release_X2_release rfl rfl rfl (by decide +kernel) ⟨(Nat.le_of_ble_eq_true rfl), (Nat.le_of_ble_eq_true rfl)⟩ ⟨(Nat.le_of_ble_eq_true rfl), (Nat.le_of_ble_eq_true rfl)⟩ 0 rfl rfl rfl rfl (Nat.le_of_ble_eq_true rfl) dL_release_4 (X2 := (lwx a b cy o0 o1 Sv1 T g d)) ?_
  refine kr_i2l C dL_release_7 ?_
  refine kr_last C 31 rfl (vp_in_iff.mpr (by decide)) (X2 := (lwx a b cy o0 o1 Sv1 T (vp_updL g (0 : Int32).toNatClampNeg v1.toInt64) d)) rfl dL_release_8 ?_
  refine kr_goto C 18 dL_release_9 (by decide) ?_
  refine kr_iconst C (v := 0) dL_release_18 (by decide) ?_
  cases h
  exact kr_retX (kr_ret_i C (Nat.le_of_ble_eq_true rfl) (Nat.le_of_ble_eq_true rfl) dL_release_19)
theorem clL_right_19 : Cond.classLink RL 19 "java/lang/IndexOutOfBoundsException" ∈ wsL_right := by decide +kernel
set_option maxHeartbeats 4000000 in
set_option maxRecDepth 100000 in
theorem c_L_right {l : Launch} {D : va_G} {cy : Nat → ClassId} {a b : Nat → Nat} {o0 o1 : Nat} {S T : kSt} {g : Nat → Int64} {d : Nat → UInt64} {p1 : Int32} {p2 : Int32} {r : Int32 × kSt × (Nat → Int64)} {sa : Nat → Nat} (hlt : l.stackTraces = false) (h : f_L_right S g p1 p2 = some r) : kX l yL_right wsL_right ({ frames := 8, cells := 2, slots := 12, locals := 138 } : Room) D cy sa (lwx a b cy o0 o1 S T g d) [.ref (a 0), .int p1, .int p2, .ref o0] (lwx a b cy o0 o1 r.2.1 T r.2.2 d) (.inl (some (.int r.1))) 2 12 := by
  rw [f_L_right] at h
  refine kX.startH (L := [(0, .ref (a 0)), (1, .int (p1)), (2, .int (p2)), (3, .ref (o0))]) hlt rfl rfl rfl (Nat.le_of_ble_eq_true rfl) rfl (fun K A C CX CT => ?_)
  refine kr_aload_n C 3 dL_right_0 rfl rfl ?_
  refine kr_iconst C (v := 0) dL_right_1 (by decide) ?_
  refine kr_aload_n C 0 dL_right_2 rfl rfl ?_
  refine kr_iload_n C 1 dL_right_3 rfl rfl ?_
  refine kr_iload_n C 2 dL_right_4 rfl rfl ?_
  rcases kxb_some h with ⟨Ev1, hv1, h⟩ | ⟨v1, hv1, h⟩
  · by_cases hE0 : Ev1 = "java/lang/IndexOutOfBoundsException"
    · have h := (if_pos hE0).symm.trans h
      cases h
      subst hE0
      refine kr_xVh C CX CT (k := 2) (As := [.int p1, .int p2]) (rest := [.int ((0 : Int32)), .ref (o0)]) (c_X2_right hlt hv1) gL_right_X2_right rfl rfl rfl (by decide +kernel) ⟨(Nat.le_of_ble_eq_true rfl), (Nat.le_of_ble_eq_true rfl)⟩ ⟨(Nat.le_of_ble_eq_true rfl), (Nat.le_of_ble_eq_true rfl)⟩ 0 rfl rfl rfl rfl (Nat.le_of_ble_eq_true rfl) dL_right_5 (by decide) [] ⟨0, 10, 13, 19⟩ [] rfl (fun _ h => absurd h List.not_mem_nil) (by decide) (by decide) clL_right_19 (fun q9 => ?_)
      refine kr_astore C [1, 2, 3, 4, 0] dL_right_13 (by decide) rfl ?_
      refine kr_iconst C (v := 1) dL_right_15 (by decide) ?_
      exact kr_retX (kr_ret_i C (Nat.le_of_ble_eq_true rfl) (Nat.le_of_ble_eq_true rfl) dL_right_16)
    have h := (if_neg hE0).symm.trans h
    cases h
  refine kr_xV1 C CX (k := 2) (As := [.int p1, .int p2]) (rest := [.int ((0 : Int32)), .ref (o0)]) (c_X2_right hlt hv1) gL_right_X2_right rfl rfl rfl (by decide +kernel) ⟨(Nat.le_of_ble_eq_true rfl), (Nat.le_of_ble_eq_true rfl)⟩ ⟨(Nat.le_of_ble_eq_true rfl), (Nat.le_of_ble_eq_true rfl)⟩ 0 rfl rfl rfl rfl (Nat.le_of_ble_eq_true rfl) dL_right_5 (X2 := (lwx a b cy o0 o1 S T g d)) ?_
  refine kr_i2l C dL_right_8 ?_
  refine kr_last C 31 rfl (vp_in_iff.mpr (by decide)) (X2 := (lwx a b cy o0 o1 S T (vp_updL g (0 : Int32).toNatClampNeg v1.toInt64) d)) rfl dL_right_9 ?_
  refine kr_goto C 17 dL_right_10 (by decide) ?_
  refine kr_iconst C (v := 0) dL_right_17 (by decide) ?_
  cases h
  exact kr_retX (kr_ret_i C (Nat.le_of_ble_eq_true rfl) (Nat.le_of_ble_eq_true rfl) dL_right_18)
theorem clL_rightByWalking_19 : Cond.classLink RL 19 "java/lang/IndexOutOfBoundsException" ∈ wsL_rightByWalking := by decide +kernel
set_option maxHeartbeats 4000000 in
set_option maxRecDepth 100000 in
theorem c_L_rightByWalking {l : Launch} {D : va_G} {cy : Nat → ClassId} {a b : Nat → Nat} {o0 o1 : Nat} {S T : kSt} {g : Nat → Int64} {d : Nat → UInt64} {p1 : Int32} {p2 : Int32} {r : Int32 × kSt × (Nat → Int64)} {sa : Nat → Nat} (hlt : l.stackTraces = false) (h : f_L_rightByWalking S g p1 p2 = some r) : kX l yL_rightByWalking wsL_rightByWalking ({ frames := 28, cells := 2, slots := 12, locals := 668 } : Room) D cy sa (lwx a b cy o0 o1 S T g d) [.ref (a 0), .int p1, .int p2, .ref o0] (lwx a b cy o0 o1 r.2.1 T r.2.2 d) (.inl (some (.int r.1))) 2 12 := by
  rw [f_L_rightByWalking] at h
  refine kX.startH (L := [(0, .ref (a 0)), (1, .int (p1)), (2, .int (p2)), (3, .ref (o0))]) hlt rfl rfl rfl (Nat.le_of_ble_eq_true rfl) rfl (fun K A C CX CT => ?_)
  refine kr_aload_n C 3 dL_rightByWalking_0 rfl rfl ?_
  refine kr_iconst C (v := 0) dL_rightByWalking_1 (by decide) ?_
  refine kr_aload_n C 0 dL_rightByWalking_2 rfl rfl ?_
  refine kr_iload_n C 1 dL_rightByWalking_3 rfl rfl ?_
  refine kr_iload_n C 2 dL_rightByWalking_4 rfl rfl ?_
  rcases kxb_some h with ⟨Ev1, hv1, h⟩ | ⟨v1, hv1, h⟩
  · by_cases hE0 : Ev1 = "java/lang/IndexOutOfBoundsException"
    · have h := (if_pos hE0).symm.trans h
      cases h
      subst hE0
      refine kr_xVh C CX CT (k := 2) (As := [.int p1, .int p2]) (rest := [.int ((0 : Int32)), .ref (o0)]) (c_X2_rightByWalking hlt hv1) gL_rightByWalking_X2_rightByWalking rfl rfl rfl (by decide +kernel) ⟨(Nat.le_of_ble_eq_true rfl), (Nat.le_of_ble_eq_true rfl)⟩ ⟨(Nat.le_of_ble_eq_true rfl), (Nat.le_of_ble_eq_true rfl)⟩ 0 rfl rfl rfl rfl (Nat.le_of_ble_eq_true rfl) dL_rightByWalking_5 (by decide) [] ⟨0, 10, 13, 19⟩ [] rfl (fun _ h => absurd h List.not_mem_nil) (by decide) (by decide) clL_rightByWalking_19 (fun q9 => ?_)
      refine kr_astore C [1, 2, 3, 4, 0] dL_rightByWalking_13 (by decide) rfl ?_
      refine kr_iconst C (v := 1) dL_rightByWalking_15 (by decide) ?_
      exact kr_retX (kr_ret_i C (Nat.le_of_ble_eq_true rfl) (Nat.le_of_ble_eq_true rfl) dL_rightByWalking_16)
    have h := (if_neg hE0).symm.trans h
    cases h
  refine kr_xV1 C CX (k := 2) (As := [.int p1, .int p2]) (rest := [.int ((0 : Int32)), .ref (o0)]) (c_X2_rightByWalking hlt hv1) gL_rightByWalking_X2_rightByWalking rfl rfl rfl (by decide +kernel) ⟨(Nat.le_of_ble_eq_true rfl), (Nat.le_of_ble_eq_true rfl)⟩ ⟨(Nat.le_of_ble_eq_true rfl), (Nat.le_of_ble_eq_true rfl)⟩ 0 rfl rfl rfl rfl (Nat.le_of_ble_eq_true rfl) dL_rightByWalking_5 (X2 := (lwx a b cy o0 o1 S T g d)) ?_
  refine kr_i2l C dL_rightByWalking_8 ?_
  refine kr_last C 31 rfl (vp_in_iff.mpr (by decide)) (X2 := (lwx a b cy o0 o1 S T (vp_updL g (0 : Int32).toNatClampNeg v1.toInt64) d)) rfl dL_rightByWalking_9 ?_
  refine kr_goto C 17 dL_rightByWalking_10 (by decide) ?_
  refine kr_iconst C (v := 0) dL_rightByWalking_17 (by decide) ?_
  cases h
  exact kr_retX (kr_ret_i C (Nat.le_of_ble_eq_true rfl) (Nat.le_of_ble_eq_true rfl) dL_rightByWalking_18)
theorem clL_setBroken_19 : Cond.classLink RL 19 "java/lang/IndexOutOfBoundsException" ∈ wsL_setBroken := by decide +kernel
theorem clL_setBroken_13 : Cond.classLink RL 13 "java/lang/IllegalStateException" ∈ wsL_setBroken := by decide +kernel
set_option maxHeartbeats 4000000 in
set_option maxRecDepth 100000 in
theorem c_L_setBroken {l : Launch} {D : va_G} {cy : Nat → ClassId} {a b : Nat → Nat} {o0 o1 : Nat} {S T : kSt} {g : Nat → Int64} {d : Nat → UInt64} {p1 : Int32} {p2 : Bool} {r : Int32 × kSt × (Nat → Int64)} {sa : Nat → Nat} (hlt : l.stackTraces = false) (h : f_L_setBroken S g p1 p2 = some r) : kX l yL_setBroken wsL_setBroken ({ frames := 8, cells := 2, slots := 12, locals := 126 } : Room) D cy sa (lwx a b cy o0 o1 S T g d) [.ref (a 0), .int p1, .int (b2i p2), .ref o0] (lwx a b cy o0 o1 r.2.1 T r.2.2 d) (.inl (some (.int r.1))) 2 12 := by
  rw [f_L_setBroken] at h
  refine kX.startH (L := [(0, .ref (a 0)), (1, .int (p1)), (2, .int (b2i (p2))), (3, .ref (o0))]) hlt rfl rfl rfl (Nat.le_of_ble_eq_true rfl) rfl (fun K A C CX CT => ?_)
  refine kr_aload_n C 3 dL_setBroken_0 rfl rfl ?_
  refine kr_iconst C (v := 0) dL_setBroken_1 (by decide) ?_
  refine kr_aload_n C 0 dL_setBroken_2 rfl rfl ?_
  refine kr_iload_n C 1 dL_setBroken_3 rfl rfl ?_
  refine kr_iload_n C 2 dL_setBroken_4 rfl rfl ?_
  rcases kxs_some h with ⟨Ev1, Sv1, hv1, h⟩ | ⟨v1, Sv1, hv1, h⟩
  · by_cases hE0 : Ev1 = "java/lang/IndexOutOfBoundsException"
    · have h := (if_pos hE0).symm.trans h
      cases h
      subst hE0
      refine kr_xVh C CX CT (k := 2) (As := [.int p1, .int (b2i p2)]) (rest := [.int ((0 : Int32)), .ref (o0)]) (c_X2_setBroken hlt hv1) gL_setBroken_X2_setBroken rfl rfl rfl (by decide +kernel) ⟨(Nat.le_of_ble_eq_true rfl), (Nat.le_of_ble_eq_true rfl)⟩ ⟨(Nat.le_of_ble_eq_true rfl), (Nat.le_of_ble_eq_true rfl)⟩ 0 rfl rfl rfl rfl (Nat.le_of_ble_eq_true rfl) dL_setBroken_5 (by decide) [] ⟨0, 17, 20, 19⟩ [⟨0, 17, 24, 13⟩] rfl (fun _ h => absurd h List.not_mem_nil) (by decide) (by decide) clL_setBroken_19 (fun q9 => ?_)
      refine kr_astore C [1, 2, 3, 4, 0] dL_setBroken_20 (by decide) rfl ?_
      refine kr_iconst C (v := 1) dL_setBroken_22 (by decide) ?_
      exact kr_retX (kr_ret_i C (Nat.le_of_ble_eq_true rfl) (Nat.le_of_ble_eq_true rfl) dL_setBroken_23)
    have h := (if_neg hE0).symm.trans h
    by_cases hE1 : Ev1 = "java/lang/IllegalStateException"
    · have h := (if_pos hE1).symm.trans h
      cases h
      subst hE1
      refine kr_xVh C CX CT (k := 2) (As := [.int p1, .int (b2i p2)]) (rest := [.int ((0 : Int32)), .ref (o0)]) (c_X2_setBroken hlt hv1) gL_setBroken_X2_setBroken rfl rfl rfl (by decide +kernel) ⟨(Nat.le_of_ble_eq_true rfl), (Nat.le_of_ble_eq_true rfl)⟩ ⟨(Nat.le_of_ble_eq_true rfl), (Nat.le_of_ble_eq_true rfl)⟩ 0 rfl rfl rfl rfl (Nat.le_of_ble_eq_true rfl) dL_setBroken_5 (by decide) [⟨0, 17, 20, 19⟩] ⟨0, 17, 24, 13⟩ [] rfl (List.forall_mem_cons.mpr ⟨⟨by decide, "java/lang/IndexOutOfBoundsException", clL_setBroken_19, by decide, by decide⟩, (fun _ h => absurd h List.not_mem_nil)⟩) (by decide) (by decide) clL_setBroken_13 (fun q9 => ?_)
      refine kr_astore C [1, 2, 3, 4, 0] dL_setBroken_24 (by decide) rfl ?_
      refine kr_iconst C (v := 2) dL_setBroken_26 (by decide) ?_
      exact kr_retX (kr_ret_i C (Nat.le_of_ble_eq_true rfl) (Nat.le_of_ble_eq_true rfl) dL_setBroken_27)
    have h := (if_neg hE1).symm.trans h
    cases h
  refine kr_xV1 C CX (k := 2) (As := [.int p1, .int (b2i p2)]) (rest := [.int ((0 : Int32)), .ref (o0)]) (c_X2_setBroken hlt hv1) gL_setBroken_X2_setBroken rfl rfl rfl (by decide +kernel) ⟨(Nat.le_of_ble_eq_true rfl), (Nat.le_of_ble_eq_true rfl)⟩ ⟨(Nat.le_of_ble_eq_true rfl), (Nat.le_of_ble_eq_true rfl)⟩ 0 rfl rfl rfl rfl (Nat.le_of_ble_eq_true rfl) dL_setBroken_5 (X2 := (lwx a b cy o0 o1 Sv1 T g d)) ?_
  refine kr_if_eq C 15 dL_setBroken_8 (by decide) (fun hc => ?_) (fun hc => ?_)
  · have h := (if_pos hc).symm.trans h
    refine kr_lconst C (v := 0) dL_setBroken_15 (by decide) ?_
    refine kr_last C 31 rfl (vp_in_iff.mpr (by decide)) (X2 := (lwx a b cy o0 o1 Sv1 T (vp_updL g (0 : Int32).toNatClampNeg (0 : Int64)) d)) rfl dL_setBroken_16 ?_
    refine kr_goto C 28 dL_setBroken_17 (by decide) ?_
    refine kr_iconst C (v := 0) dL_setBroken_28 (by decide) ?_
    cases h
    exact kr_retX (kr_ret_i C (Nat.le_of_ble_eq_true rfl) (Nat.le_of_ble_eq_true rfl) dL_setBroken_29)
  have h := (if_neg hc).symm.trans h
  refine kr_lconst C (v := 1) dL_setBroken_11 (by decide) ?_
  refine kr_goto C 16 dL_setBroken_12 (by decide) ?_
  refine kr_last C 31 rfl (vp_in_iff.mpr (by decide)) (X2 := (lwx a b cy o0 o1 Sv1 T (vp_updL g (0 : Int32).toNatClampNeg (1 : Int64)) d)) rfl dL_setBroken_16 ?_
  refine kr_goto C 28 dL_setBroken_17 (by decide) ?_
  refine kr_iconst C (v := 0) dL_setBroken_28 (by decide) ?_
  cases h
  exact kr_retX (kr_ret_i C (Nat.le_of_ble_eq_true rfl) (Nat.le_of_ble_eq_true rfl) dL_setBroken_29)
theorem clL_setHeir_19 : Cond.classLink RL 19 "java/lang/IndexOutOfBoundsException" ∈ wsL_setHeir := by decide +kernel
theorem clL_setHeir_21 : Cond.classLink RL 21 "java/lang/IllegalArgumentException" ∈ wsL_setHeir := by decide +kernel
set_option maxHeartbeats 4000000 in
set_option maxRecDepth 100000 in
theorem c_L_setHeir {l : Launch} {D : va_G} {cy : Nat → ClassId} {a b : Nat → Nat} {o0 o1 : Nat} {S T : kSt} {g : Nat → Int64} {d : Nat → UInt64} {p1 : Int32} {p2 : Int32} {r : Int32 × kSt × (Nat → Int64)} {sa : Nat → Nat} (hlt : l.stackTraces = false) (h : f_L_setHeir S g p1 p2 = some r) : kX l yL_setHeir wsL_setHeir ({ frames := 8, cells := 3, slots := 18, locals := 126 } : Room) D cy sa (lwx a b cy o0 o1 S T g d) [.ref (a 0), .int p1, .int p2, .ref o0] (lwx a b cy o0 o1 r.2.1 T r.2.2 d) (.inl (some (.int r.1))) 3 18 := by
  rw [f_L_setHeir] at h
  refine kX.startH (L := [(0, .ref (a 0)), (1, .int (p1)), (2, .int (p2)), (3, .ref (o0))]) hlt rfl rfl rfl (Nat.le_of_ble_eq_true rfl) rfl (fun K A C CX CT => ?_)
  refine kr_aload_n C 3 dL_setHeir_0 rfl rfl ?_
  refine kr_iconst C (v := 0) dL_setHeir_1 (by decide) ?_
  refine kr_aload_n C 0 dL_setHeir_2 rfl rfl ?_
  refine kr_iload_n C 1 dL_setHeir_3 rfl rfl ?_
  refine kr_iload_n C 2 dL_setHeir_4 rfl rfl ?_
  rcases kxs_some h with ⟨Ev1, Sv1, hv1, h⟩ | ⟨v1, Sv1, hv1, h⟩
  · by_cases hE0 : Ev1 = "java/lang/IndexOutOfBoundsException"
    · have h := (if_pos hE0).symm.trans h
      cases h
      subst hE0
      refine kr_xVh C CX CT (k := 2) (As := [.int p1, .int p2]) (rest := [.int ((0 : Int32)), .ref (o0)]) (c_X2_setHeir hlt hv1) gL_setHeir_X2_setHeir rfl rfl rfl (by decide +kernel) ⟨(Nat.le_of_ble_eq_true rfl), (Nat.le_of_ble_eq_true rfl)⟩ ⟨(Nat.le_of_ble_eq_true rfl), (Nat.le_of_ble_eq_true rfl)⟩ 0 rfl rfl rfl rfl (Nat.le_of_ble_eq_true rfl) dL_setHeir_5 (by decide) [] ⟨0, 10, 13, 19⟩ [⟨0, 10, 17, 21⟩] rfl (fun _ h => absurd h List.not_mem_nil) (by decide) (by decide) clL_setHeir_19 (fun q9 => ?_)
      refine kr_astore C [1, 2, 3, 4, 0] dL_setHeir_13 (by decide) rfl ?_
      refine kr_iconst C (v := 1) dL_setHeir_15 (by decide) ?_
      exact kr_retX (kr_ret_i C (Nat.le_of_ble_eq_true rfl) (Nat.le_of_ble_eq_true rfl) dL_setHeir_16)
    have h := (if_neg hE0).symm.trans h
    by_cases hE1 : Ev1 = "java/lang/IllegalArgumentException"
    · have h := (if_pos hE1).symm.trans h
      cases h
      subst hE1
      refine kr_xVh C CX CT (k := 2) (As := [.int p1, .int p2]) (rest := [.int ((0 : Int32)), .ref (o0)]) (c_X2_setHeir hlt hv1) gL_setHeir_X2_setHeir rfl rfl rfl (by decide +kernel) ⟨(Nat.le_of_ble_eq_true rfl), (Nat.le_of_ble_eq_true rfl)⟩ ⟨(Nat.le_of_ble_eq_true rfl), (Nat.le_of_ble_eq_true rfl)⟩ 0 rfl rfl rfl rfl (Nat.le_of_ble_eq_true rfl) dL_setHeir_5 (by decide) [⟨0, 10, 13, 19⟩] ⟨0, 10, 17, 21⟩ [] rfl (List.forall_mem_cons.mpr ⟨⟨by decide, "java/lang/IndexOutOfBoundsException", clL_setHeir_19, by decide, by decide⟩, (fun _ h => absurd h List.not_mem_nil)⟩) (by decide) (by decide) clL_setHeir_21 (fun q9 => ?_)
      refine kr_astore C [1, 2, 3, 4, 0] dL_setHeir_17 (by decide) rfl ?_
      refine kr_iconst C (v := 2) dL_setHeir_19 (by decide) ?_
      exact kr_retX (kr_ret_i C (Nat.le_of_ble_eq_true rfl) (Nat.le_of_ble_eq_true rfl) dL_setHeir_20)
    have h := (if_neg hE1).symm.trans h
    cases h
  refine kr_xV1 C CX (k := 2) (As := [.int p1, .int p2]) (rest := [.int ((0 : Int32)), .ref (o0)]) (c_X2_setHeir hlt hv1) gL_setHeir_X2_setHeir rfl rfl rfl (by decide +kernel) ⟨(Nat.le_of_ble_eq_true rfl), (Nat.le_of_ble_eq_true rfl)⟩ ⟨(Nat.le_of_ble_eq_true rfl), (Nat.le_of_ble_eq_true rfl)⟩ 0 rfl rfl rfl rfl (Nat.le_of_ble_eq_true rfl) dL_setHeir_5 (X2 := (lwx a b cy o0 o1 Sv1 T g d)) ?_
  refine kr_i2l C dL_setHeir_8 ?_
  refine kr_last C 31 rfl (vp_in_iff.mpr (by decide)) (X2 := (lwx a b cy o0 o1 Sv1 T (vp_updL g (0 : Int32).toNatClampNeg v1.toInt64) d)) rfl dL_setHeir_9 ?_
  refine kr_goto C 21 dL_setHeir_10 (by decide) ?_
  refine kr_iconst C (v := 0) dL_setHeir_21 (by decide) ?_
  cases h
  exact kr_retX (kr_ret_i C (Nat.le_of_ble_eq_true rfl) (Nat.le_of_ble_eq_true rfl) dL_setHeir_22)
theorem clL_shareWith_19 : Cond.classLink RL 19 "java/lang/IndexOutOfBoundsException" ∈ wsL_shareWith := by decide +kernel
theorem clL_shareWith_21 : Cond.classLink RL 21 "java/lang/IllegalArgumentException" ∈ wsL_shareWith := by decide +kernel
theorem clL_shareWith_13 : Cond.classLink RL 13 "java/lang/IllegalStateException" ∈ wsL_shareWith := by decide +kernel
set_option maxHeartbeats 4000000 in
set_option maxRecDepth 100000 in
theorem c_L_shareWith {l : Launch} {D : va_G} {cy : Nat → ClassId} {a b : Nat → Nat} {o0 o1 : Nat} {S T : kSt} {g : Nat → Int64} {d : Nat → UInt64} {p1 : Int32} {p2 : Int32} {p3 : Int32} {r : Int32 × kSt × (Nat → Int64)} {sa : Nat → Nat} (hlt : l.stackTraces = false) (h : f_L_shareWith S g p1 p2 p3 = some r) : kX l yL_shareWith wsL_shareWith ({ frames := 8, cells := 4, slots := 24, locals := 127 } : Room) D cy sa (lwx a b cy o0 o1 S T g d) [.ref (a 0), .int p1, .int p2, .int p3, .ref o0] (lwx a b cy o0 o1 r.2.1 T r.2.2 d) (.inl (some (.int r.1))) 4 24 := by
  rw [f_L_shareWith] at h
  refine kX.startH (L := [(0, .ref (a 0)), (1, .int (p1)), (2, .int (p2)), (3, .int (p3)), (4, .ref (o0))]) hlt rfl rfl rfl (Nat.le_of_ble_eq_true rfl) rfl (fun K A C CX CT => ?_)
  refine kr_aload C 4 dL_shareWith_0 rfl ?_
  refine kr_iconst C (v := 0) dL_shareWith_2 (by decide) ?_
  refine kr_aload_n C 0 dL_shareWith_3 rfl rfl ?_
  refine kr_iload_n C 1 dL_shareWith_4 rfl rfl ?_
  refine kr_iload_n C 2 dL_shareWith_5 rfl rfl ?_
  refine kr_iload_n C 3 dL_shareWith_6 rfl rfl ?_
  rcases kxs_some h with ⟨Ev1, Sv1, hv1, h⟩ | ⟨v1, Sv1, hv1, h⟩
  · by_cases hE0 : Ev1 = "java/lang/IndexOutOfBoundsException"
    · have h := (if_pos hE0).symm.trans h
      cases h
      subst hE0
      refine kr_xVh C CX CT (k := 3) (As := [.int p1, .int p2, .int p3]) (rest := [.int ((0 : Int32)), .ref (o0)]) (c_X2_shareWith hlt hv1) gL_shareWith_X2_shareWith rfl rfl rfl (by decide +kernel) ⟨(Nat.le_of_ble_eq_true rfl), (Nat.le_of_ble_eq_true rfl)⟩ ⟨(Nat.le_of_ble_eq_true rfl), (Nat.le_of_ble_eq_true rfl)⟩ 0 rfl rfl rfl rfl (Nat.le_of_ble_eq_true rfl) dL_shareWith_7 (by decide) [] ⟨0, 12, 15, 19⟩ [⟨0, 12, 19, 21⟩, ⟨0, 12, 23, 13⟩] rfl (fun _ h => absurd h List.not_mem_nil) (by decide) (by decide) clL_shareWith_19 (fun q9 => ?_)
      refine kr_astore C [1, 2, 3, 4, 5, 0] dL_shareWith_15 (by decide) rfl ?_
      refine kr_iconst C (v := 1) dL_shareWith_17 (by decide) ?_
      exact kr_retX (kr_ret_i C (Nat.le_of_ble_eq_true rfl) (Nat.le_of_ble_eq_true rfl) dL_shareWith_18)
    have h := (if_neg hE0).symm.trans h
    by_cases hE1 : Ev1 = "java/lang/IllegalArgumentException"
    · have h := (if_pos hE1).symm.trans h
      cases h
      subst hE1
      refine kr_xVh C CX CT (k := 3) (As := [.int p1, .int p2, .int p3]) (rest := [.int ((0 : Int32)), .ref (o0)]) (c_X2_shareWith hlt hv1) gL_shareWith_X2_shareWith rfl rfl rfl (by decide +kernel) ⟨(Nat.le_of_ble_eq_true rfl), (Nat.le_of_ble_eq_true rfl)⟩ ⟨(Nat.le_of_ble_eq_true rfl), (Nat.le_of_ble_eq_true rfl)⟩ 0 rfl rfl rfl rfl (Nat.le_of_ble_eq_true rfl) dL_shareWith_7 (by decide) [⟨0, 12, 15, 19⟩] ⟨0, 12, 19, 21⟩ [⟨0, 12, 23, 13⟩] rfl (List.forall_mem_cons.mpr ⟨⟨by decide, "java/lang/IndexOutOfBoundsException", clL_shareWith_19, by decide, by decide⟩, (fun _ h => absurd h List.not_mem_nil)⟩) (by decide) (by decide) clL_shareWith_21 (fun q9 => ?_)
      refine kr_astore C [1, 2, 3, 4, 5, 0] dL_shareWith_19 (by decide) rfl ?_
      refine kr_iconst C (v := 2) dL_shareWith_21 (by decide) ?_
      exact kr_retX (kr_ret_i C (Nat.le_of_ble_eq_true rfl) (Nat.le_of_ble_eq_true rfl) dL_shareWith_22)
    have h := (if_neg hE1).symm.trans h
    by_cases hE2 : Ev1 = "java/lang/IllegalStateException"
    · have h := (if_pos hE2).symm.trans h
      cases h
      subst hE2
      refine kr_xVh C CX CT (k := 3) (As := [.int p1, .int p2, .int p3]) (rest := [.int ((0 : Int32)), .ref (o0)]) (c_X2_shareWith hlt hv1) gL_shareWith_X2_shareWith rfl rfl rfl (by decide +kernel) ⟨(Nat.le_of_ble_eq_true rfl), (Nat.le_of_ble_eq_true rfl)⟩ ⟨(Nat.le_of_ble_eq_true rfl), (Nat.le_of_ble_eq_true rfl)⟩ 0 rfl rfl rfl rfl (Nat.le_of_ble_eq_true rfl) dL_shareWith_7 (by decide) [⟨0, 12, 15, 19⟩, ⟨0, 12, 19, 21⟩] ⟨0, 12, 23, 13⟩ [] rfl (List.forall_mem_cons.mpr ⟨⟨by decide, "java/lang/IndexOutOfBoundsException", clL_shareWith_19, by decide, by decide⟩, (List.forall_mem_cons.mpr ⟨⟨by decide, "java/lang/IllegalArgumentException", clL_shareWith_21, by decide, by decide⟩, (fun _ h => absurd h List.not_mem_nil)⟩)⟩) (by decide) (by decide) clL_shareWith_13 (fun q9 => ?_)
      refine kr_astore C [1, 2, 3, 4, 5, 0] dL_shareWith_23 (by decide) rfl ?_
      refine kr_iconst C (v := 3) dL_shareWith_25 (by decide) ?_
      exact kr_retX (kr_ret_i C (Nat.le_of_ble_eq_true rfl) (Nat.le_of_ble_eq_true rfl) dL_shareWith_26)
    have h := (if_neg hE2).symm.trans h
    cases h
  refine kr_xV1 C CX (k := 3) (As := [.int p1, .int p2, .int p3]) (rest := [.int ((0 : Int32)), .ref (o0)]) (c_X2_shareWith hlt hv1) gL_shareWith_X2_shareWith rfl rfl rfl (by decide +kernel) ⟨(Nat.le_of_ble_eq_true rfl), (Nat.le_of_ble_eq_true rfl)⟩ ⟨(Nat.le_of_ble_eq_true rfl), (Nat.le_of_ble_eq_true rfl)⟩ 0 rfl rfl rfl rfl (Nat.le_of_ble_eq_true rfl) dL_shareWith_7 (X2 := (lwx a b cy o0 o1 Sv1 T g d)) ?_
  refine kr_i2l C dL_shareWith_10 ?_
  refine kr_last C 31 rfl (vp_in_iff.mpr (by decide)) (X2 := (lwx a b cy o0 o1 Sv1 T (vp_updL g (0 : Int32).toNatClampNeg v1.toInt64) d)) rfl dL_shareWith_11 ?_
  refine kr_goto C 27 dL_shareWith_12 (by decide) ?_
  refine kr_iconst C (v := 0) dL_shareWith_27 (by decide) ?_
  cases h
  exact kr_retX (kr_ret_i C (Nat.le_of_ble_eq_true rfl) (Nat.le_of_ble_eq_true rfl) dL_shareWith_28)
theorem clL_shareWithGroup_19 : Cond.classLink RL 19 "java/lang/IndexOutOfBoundsException" ∈ wsL_shareWithGroup := by decide +kernel
theorem clL_shareWithGroup_21 : Cond.classLink RL 21 "java/lang/IllegalArgumentException" ∈ wsL_shareWithGroup := by decide +kernel
theorem clL_shareWithGroup_13 : Cond.classLink RL 13 "java/lang/IllegalStateException" ∈ wsL_shareWithGroup := by decide +kernel
set_option maxHeartbeats 4000000 in
set_option maxRecDepth 100000 in
theorem c_L_shareWithGroup {l : Launch} {D : va_G} {cy : Nat → ClassId} {a b : Nat → Nat} {o0 o1 : Nat} {S T : kSt} {g : Nat → Int64} {d : Nat → UInt64} {p1 : Int32} {p2 : Int32} {p3 : Int32} {r : Int32 × kSt × (Nat → Int64)} {sa : Nat → Nat} (hlt : l.stackTraces = false) (h : f_L_shareWithGroup S g p1 p2 p3 = some r) : kX l yL_shareWithGroup wsL_shareWithGroup ({ frames := 8, cells := 4, slots := 24, locals := 127 } : Room) D cy sa (lwx a b cy o0 o1 S T g d) [.ref (a 0), .int p1, .int p2, .int p3, .ref o0] (lwx a b cy o0 o1 r.2.1 T r.2.2 d) (.inl (some (.int r.1))) 4 24 := by
  rw [f_L_shareWithGroup] at h
  refine kX.startH (L := [(0, .ref (a 0)), (1, .int (p1)), (2, .int (p2)), (3, .int (p3)), (4, .ref (o0))]) hlt rfl rfl rfl (Nat.le_of_ble_eq_true rfl) rfl (fun K A C CX CT => ?_)
  refine kr_aload C 4 dL_shareWithGroup_0 rfl ?_
  refine kr_iconst C (v := 0) dL_shareWithGroup_2 (by decide) ?_
  refine kr_aload_n C 0 dL_shareWithGroup_3 rfl rfl ?_
  refine kr_iload_n C 1 dL_shareWithGroup_4 rfl rfl ?_
  refine kr_iload_n C 2 dL_shareWithGroup_5 rfl rfl ?_
  refine kr_iload_n C 3 dL_shareWithGroup_6 rfl rfl ?_
  rcases kxs_some h with ⟨Ev1, Sv1, hv1, h⟩ | ⟨v1, Sv1, hv1, h⟩
  · by_cases hE0 : Ev1 = "java/lang/IndexOutOfBoundsException"
    · have h := (if_pos hE0).symm.trans h
      cases h
      subst hE0
      refine kr_xVh C CX CT (k := 3) (As := [.int p1, .int p2, .int p3]) (rest := [.int ((0 : Int32)), .ref (o0)]) (c_X2_shareWithGroup hlt hv1) gL_shareWithGroup_X2_shareWithGroup rfl rfl rfl (by decide +kernel) ⟨(Nat.le_of_ble_eq_true rfl), (Nat.le_of_ble_eq_true rfl)⟩ ⟨(Nat.le_of_ble_eq_true rfl), (Nat.le_of_ble_eq_true rfl)⟩ 0 rfl rfl rfl rfl (Nat.le_of_ble_eq_true rfl) dL_shareWithGroup_7 (by decide) [] ⟨0, 12, 15, 19⟩ [⟨0, 12, 19, 21⟩, ⟨0, 12, 23, 13⟩] rfl (fun _ h => absurd h List.not_mem_nil) (by decide) (by decide) clL_shareWithGroup_19 (fun q9 => ?_)
      refine kr_astore C [1, 2, 3, 4, 5, 0] dL_shareWithGroup_15 (by decide) rfl ?_
      refine kr_iconst C (v := 1) dL_shareWithGroup_17 (by decide) ?_
      exact kr_retX (kr_ret_i C (Nat.le_of_ble_eq_true rfl) (Nat.le_of_ble_eq_true rfl) dL_shareWithGroup_18)
    have h := (if_neg hE0).symm.trans h
    by_cases hE1 : Ev1 = "java/lang/IllegalArgumentException"
    · have h := (if_pos hE1).symm.trans h
      cases h
      subst hE1
      refine kr_xVh C CX CT (k := 3) (As := [.int p1, .int p2, .int p3]) (rest := [.int ((0 : Int32)), .ref (o0)]) (c_X2_shareWithGroup hlt hv1) gL_shareWithGroup_X2_shareWithGroup rfl rfl rfl (by decide +kernel) ⟨(Nat.le_of_ble_eq_true rfl), (Nat.le_of_ble_eq_true rfl)⟩ ⟨(Nat.le_of_ble_eq_true rfl), (Nat.le_of_ble_eq_true rfl)⟩ 0 rfl rfl rfl rfl (Nat.le_of_ble_eq_true rfl) dL_shareWithGroup_7 (by decide) [⟨0, 12, 15, 19⟩] ⟨0, 12, 19, 21⟩ [⟨0, 12, 23, 13⟩] rfl (List.forall_mem_cons.mpr ⟨⟨by decide, "java/lang/IndexOutOfBoundsException", clL_shareWithGroup_19, by decide, by decide⟩, (fun _ h => absurd h List.not_mem_nil)⟩) (by decide) (by decide) clL_shareWithGroup_21 (fun q9 => ?_)
      refine kr_astore C [1, 2, 3, 4, 5, 0] dL_shareWithGroup_19 (by decide) rfl ?_
      refine kr_iconst C (v := 2) dL_shareWithGroup_21 (by decide) ?_
      exact kr_retX (kr_ret_i C (Nat.le_of_ble_eq_true rfl) (Nat.le_of_ble_eq_true rfl) dL_shareWithGroup_22)
    have h := (if_neg hE1).symm.trans h
    by_cases hE2 : Ev1 = "java/lang/IllegalStateException"
    · have h := (if_pos hE2).symm.trans h
      cases h
      subst hE2
      refine kr_xVh C CX CT (k := 3) (As := [.int p1, .int p2, .int p3]) (rest := [.int ((0 : Int32)), .ref (o0)]) (c_X2_shareWithGroup hlt hv1) gL_shareWithGroup_X2_shareWithGroup rfl rfl rfl (by decide +kernel) ⟨(Nat.le_of_ble_eq_true rfl), (Nat.le_of_ble_eq_true rfl)⟩ ⟨(Nat.le_of_ble_eq_true rfl), (Nat.le_of_ble_eq_true rfl)⟩ 0 rfl rfl rfl rfl (Nat.le_of_ble_eq_true rfl) dL_shareWithGroup_7 (by decide) [⟨0, 12, 15, 19⟩, ⟨0, 12, 19, 21⟩] ⟨0, 12, 23, 13⟩ [] rfl (List.forall_mem_cons.mpr ⟨⟨by decide, "java/lang/IndexOutOfBoundsException", clL_shareWithGroup_19, by decide, by decide⟩, (List.forall_mem_cons.mpr ⟨⟨by decide, "java/lang/IllegalArgumentException", clL_shareWithGroup_21, by decide, by decide⟩, (fun _ h => absurd h List.not_mem_nil)⟩)⟩) (by decide) (by decide) clL_shareWithGroup_13 (fun q9 => ?_)
      refine kr_astore C [1, 2, 3, 4, 5, 0] dL_shareWithGroup_23 (by decide) rfl ?_
      refine kr_iconst C (v := 3) dL_shareWithGroup_25 (by decide) ?_
      exact kr_retX (kr_ret_i C (Nat.le_of_ble_eq_true rfl) (Nat.le_of_ble_eq_true rfl) dL_shareWithGroup_26)
    have h := (if_neg hE2).symm.trans h
    cases h
  refine kr_xV1 C CX (k := 3) (As := [.int p1, .int p2, .int p3]) (rest := [.int ((0 : Int32)), .ref (o0)]) (c_X2_shareWithGroup hlt hv1) gL_shareWithGroup_X2_shareWithGroup rfl rfl rfl (by decide +kernel) ⟨(Nat.le_of_ble_eq_true rfl), (Nat.le_of_ble_eq_true rfl)⟩ ⟨(Nat.le_of_ble_eq_true rfl), (Nat.le_of_ble_eq_true rfl)⟩ 0 rfl rfl rfl rfl (Nat.le_of_ble_eq_true rfl) dL_shareWithGroup_7 (X2 := (lwx a b cy o0 o1 Sv1 T g d)) ?_
  refine kr_i2l C dL_shareWithGroup_10 ?_
  refine kr_last C 31 rfl (vp_in_iff.mpr (by decide)) (X2 := (lwx a b cy o0 o1 Sv1 T (vp_updL g (0 : Int32).toNatClampNeg v1.toInt64) d)) rfl dL_shareWithGroup_11 ?_
  refine kr_goto C 27 dL_shareWithGroup_12 (by decide) ?_
  refine kr_iconst C (v := 0) dL_shareWithGroup_27 (by decide) ?_
  cases h
  exact kr_retX (kr_ret_i C (Nat.le_of_ble_eq_true rfl) (Nat.le_of_ble_eq_true rfl) dL_shareWithGroup_28)
