/-! THE LAW'S LOOP -/
theorem runL {o : Option (Int32 × kSt × (Nat → Int64))} {t : Option (Int32 × kSt)} (h : agL o t) (d : Nat → UInt64) : ∃ q : kLw, (o.bind fun v1 => t.bind fun v2 => (f_X3_thrown v2.2).bind fun v3 => if v3 = v1.1 then (if v1.1 = 0 then (if (lg_cmp (v1.2.2 (0 : Int32).toNatClampNeg) v2.1.toInt64) = 0 then (some (some (v1.2.1, v2.2, v1.2.2, d))) else (some none)) else (some (some (v1.2.1, v2.2, v1.2.2, d)))) else (some none)) = some (some q) ∧ kRx q.1 q.2.1 := by
  obtain ⟨c, S2, g2, w, T2, e1, e2, e3, e4, e5⟩ := h
  refine ⟨(S2, T2, g2, d), ?_, e3⟩
  rw [e1, kbind, e2, kbind, f_X3_thrown, kbind]
  refine (if_pos e4).trans ?_
  by_cases z : c = 0
  · refine (if_pos z).trans ?_
    exact if_pos (lgc (e5 z))
  · exact if_neg z
theorem runB {o : Option (Int32 × kSt × (Nat → Int64))} {t : Option (Bool × kSt)} (h : agB o t) (d : Nat → UInt64) : ∃ q : kLw, (o.bind fun v1 => t.bind fun v2 => (f_X3_thrown v2.2).bind fun v3 => if v3 = v1.1 then (if v1.1 = 0 then (if b2i (v2.1) = 0 then (if (lg_cmp (v1.2.2 (0 : Int32).toNatClampNeg) (0 : Int64)) = 0 then (some (some (v1.2.1, v2.2, v1.2.2, d))) else (some none)) else (if (lg_cmp (v1.2.2 (0 : Int32).toNatClampNeg) (1 : Int64)) = 0 then (some (some (v1.2.1, v2.2, v1.2.2, d))) else (some none))) else (some (some (v1.2.1, v2.2, v1.2.2, d)))) else (some none)) = some (some q) ∧ kRx q.1 q.2.1 := by
  obtain ⟨c, S2, g2, w, T2, e1, e2, e3, e4, e5⟩ := h
  refine ⟨(S2, T2, g2, d), ?_, e3⟩
  rw [e1, kbind, e2, kbind, f_X3_thrown, kbind]
  refine (if_pos e4).trans ?_
  by_cases z : c = 0
  · refine (if_pos z).trans ?_
    cases w with
    | false => exact (if_pos b2i_f).trans (if_pos (lgc ((e5 z).trans (if_pos b2i_f))))
    | true => exact (if_neg b2i_t).trans (if_pos (lgc ((e5 z).trans (if_neg b2i_t))))
  · exact if_neg z
section LL
variable {S T : kSt} {na ng nf nr day A B H L : Nat} {xs : Nat → Int32} {g : Nat → Int64} {d : Nat → UInt64} {i : Nat}
theorem kN1 (hi : i + 4 ≤ L) (hL : L < 2 ^ 31) : kin (nI i + (1 : Int32)) L = true := by rw [nI_1]; exact kin_nI (by omega) hL
theorem kN2 (hi : i + 4 ≤ L) (hL : L < 2 ^ 31) : kin (nI i + (2 : Int32)) L = true := by rw [show (2 : Int32) = nI 2 from rfl, nI_add]; exact kin_nI (by omega) hL
theorem kN3 (hi : i + 4 ≤ L) (hL : L < 2 ^ 31) : kin (nI i + (3 : Int32)) L = true := by rw [show (3 : Int32) = nI 3 from rfl, nI_add]; exact kin_nI (by omega) hL
theorem d_c0 (h : kR S T na ng nf nr day A B H) (hi : i + 4 ≤ L) (hL : L < 2 ^ 31) : ∃ q : kLw, f_L_c0 L xs S T g d (nI i) = some (some q) ∧ kRx q.1 q.2.1 := by
  unfold f_L_c0
  exact runL (o_addAccount h g) d
theorem d_c1 (h : kR S T na ng nf nr day A B H) (hi : i + 4 ≤ L) (hL : L < 2 ^ 31) : ∃ q : kLw, f_L_c1 L xs S T g d (nI i) = some (some q) ∧ kRx q.1 q.2.1 := by
  have k1 := kN1 hi hL
  have k2 := kN2 hi hL
  have k3 := kN3 hi hL
  unfold f_L_c1
  simp only [k1, k2, ↓reduceIte]
  exact runL (o_setHeir h g _ _) d
theorem d_c2 (h : kR S T na ng nf nr day A B H) (hi : i + 4 ≤ L) (hL : L < 2 ^ 31) : ∃ q : kLw, f_L_c2 L xs S T g d (nI i) = some (some q) ∧ kRx q.1 q.2.1 := by
  unfold f_L_c2
  exact runL (o_addGroup h g) d
theorem d_c3 (h : kR S T na ng nf nr day A B H) (hi : i + 4 ≤ L) (hL : L < 2 ^ 31) : ∃ q : kLw, f_L_c3 L xs S T g d (nI i) = some (some q) ∧ kRx q.1 q.2.1 := by
  have k1 := kN1 hi hL
  have k2 := kN2 hi hL
  have k3 := kN3 hi hL
  unfold f_L_c3
  simp only [k1, k2, k3, ↓reduceIte]
  exact runL (o_join h g _ _ _) d
theorem d_c4 (h : kR S T na ng nf nr day A B H) (hi : i + 4 ≤ L) (hL : L < 2 ^ 31) : ∃ q : kLw, f_L_c4 L xs S T g d (nI i) = some (some q) ∧ kRx q.1 q.2.1 := by
  have k1 := kN1 hi hL
  have k2 := kN2 hi hL
  have k3 := kN3 hi hL
  unfold f_L_c4
  simp only [k1, k2, k3, ↓reduceIte]
  exact runL (o_nest h g _ _ _) d
theorem d_c5 (h : kR S T na ng nf nr day A B H) (hi : i + 4 ≤ L) (hL : L < 2 ^ 31) : ∃ q : kLw, f_L_c5 L xs S T g d (nI i) = some (some q) ∧ kRx q.1 q.2.1 := by
  have k1 := kN1 hi hL
  have k2 := kN2 hi hL
  have k3 := kN3 hi hL
  unfold f_L_c5
  simp only [k1, k2, ↓reduceIte]
  exact runL (o_drop h g _ _) d
theorem d_c6 (h : kR S T na ng nf nr day A B H) (hi : i + 4 ≤ L) (hL : L < 2 ^ 31) : ∃ q : kLw, f_L_c6 L xs S T g d (nI i) = some (some q) ∧ kRx q.1 q.2.1 := by
  have k1 := kN1 hi hL
  have k2 := kN2 hi hL
  have k3 := kN3 hi hL
  unfold f_L_c6
  simp only [k1, k2, ↓reduceIte]
  exact runB (o_isIn h g _ _) d
theorem d_c7 (h : kR S T na ng nf nr day A B H) (hi : i + 4 ≤ L) (hL : L < 2 ^ 31) : ∃ q : kLw, f_L_c7 L xs S T g d (nI i) = some (some q) ∧ kRx q.1 q.2.1 := by
  obtain ⟨v, e1, e2⟩ := o_memberships h
  refine ⟨(S, tc T 0, g, d), ?_, (h.tc 0).x⟩
  rw [f_L_c7, e1, kbind, e2, kbind]; exact if_pos rfl
theorem d_c8 (h : kR S T na ng nf nr day A B H) (hi : i + 4 ≤ L) (hL : L < 2 ^ 31) : ∃ q : kLw, f_L_c8 L xs S T g d (nI i) = some (some q) ∧ kRx q.1 q.2.1 := by
  have k1 := kN1 hi hL
  have k2 := kN2 hi hL
  have k3 := kN3 hi hL
  unfold f_L_c8
  simp only [k1, k2, ↓reduceIte]
  exact runL (o_addFolder h g _ _) d
theorem d_c9 (h : kR S T na ng nf nr day A B H) (hi : i + 4 ≤ L) (hL : L < 2 ^ 31) : ∃ q : kLw, f_L_c9 L xs S T g d (nI i) = some (some q) ∧ kRx q.1 q.2.1 := by
  have k1 := kN1 hi hL
  have k2 := kN2 hi hL
  have k3 := kN3 hi hL
  unfold f_L_c9
  simp only [k1, k2, k3, ↓reduceIte]
  exact runL (o_shareWith h g _ _ _) d
theorem d_c10 (h : kR S T na ng nf nr day A B H) (hi : i + 4 ≤ L) (hL : L < 2 ^ 31) : ∃ q : kLw, f_L_c10 L xs S T g d (nI i) = some (some q) ∧ kRx q.1 q.2.1 := by
  have k1 := kN1 hi hL
  have k2 := kN2 hi hL
  have k3 := kN3 hi hL
  unfold f_L_c10
  simp only [k1, k2, k3, ↓reduceIte]
  exact runL (o_shareWithGroup h g _ _ _) d
theorem d_c11 (h : kR S T na ng nf nr day A B H) (hi : i + 4 ≤ L) (hL : L < 2 ^ 31) : ∃ q : kLw, f_L_c11 L xs S T g d (nI i) = some (some q) ∧ kRx q.1 q.2.1 := by
  have k1 := kN1 hi hL
  have k2 := kN2 hi hL
  unfold f_L_c11
  by_cases z : xs (nI i + (2 : Int32)).toNatClampNeg = 0
  · simp only [k1, k2, z, ↓reduceIte]
    exact runB (o_setBroken h g _ _) d
  · simp only [k1, k2, z, ↓reduceIte]
    exact runB (o_setBroken h g _ _) d
theorem d_c12 (h : kR S T na ng nf nr day A B H) (hi : i + 4 ≤ L) (hL : L < 2 ^ 31) : ∃ q : kLw, f_L_c12 L xs S T g d (nI i) = some (some q) ∧ kRx q.1 q.2.1 := by
  have k1 := kN1 hi hL
  have k2 := kN2 hi hL
  have k3 := kN3 hi hL
  unfold f_L_c12
  simp only [k1, ↓reduceIte]
  exact runL (o_owner h g _) d
theorem d_c13 (h : kR S T na ng nf nr day A B H) (hi : i + 4 ≤ L) (hL : L < 2 ^ 31) : ∃ q : kLw, f_L_c13 L xs S T g d (nI i) = some (some q) ∧ kRx q.1 q.2.1 := by
  have k1 := kN1 hi hL
  have k2 := kN2 hi hL
  have k3 := kN3 hi hL
  unfold f_L_c13
  simp only [k1, k2, ↓reduceIte]
  exact runL (o_right h g _ _) d
theorem d_c14 (h : kR S T na ng nf nr day A B H) (hi : i + 4 ≤ L) (hL : L < 2 ^ 31) : ∃ q : kLw, f_L_c14 L xs S T g d (nI i) = some (some q) ∧ kRx q.1 q.2.1 := by
  have k1 := kN1 hi hL
  have k2 := kN2 hi hL
  have k3 := kN3 hi hL
  unfold f_L_c14
  simp only [k1, k2, ↓reduceIte]
  exact runL (o_rightByWalking h g _ _) d
theorem d_c15 (h : kR S T na ng nf nr day A B H) (hi : i + 4 ≤ L) (hL : L < 2 ^ 31) : ∃ q : kLw, f_L_c15 L xs S T g d (nI i) = some (some q) ∧ kRx q.1 q.2.1 := by
  have k1 := kN1 hi hL
  have k2 := kN2 hi hL
  have k3 := kN3 hi hL
  unfold f_L_c15
  simp only [k1, k2, ↓reduceIte]
  exact runL (o_holders h g _ _) d
theorem d_c16 (h : kR S T na ng nf nr day A B H) (hi : i + 4 ≤ L) (hL : L < 2 ^ 31) : ∃ q : kLw, f_L_c16 L xs S T g d (nI i) = some (some q) ∧ kRx q.1 q.2.1 := by
  have k1 := kN1 hi hL
  have k2 := kN2 hi hL
  have k3 := kN3 hi hL
  unfold f_L_c16
  simp only [k1, ↓reduceIte]
  exact runL (o_addRoom h g _) d
theorem d_c17 (h : kR S T na ng nf nr day A B H) (hi : i + 4 ≤ L) (hL : L < 2 ^ 31) : ∃ q : kLw, f_L_c17 L xs S T g d (nI i) = some (some q) ∧ kRx q.1 q.2.1 := by
  have k1 := kN1 hi hL
  have k2 := kN2 hi hL
  have k3 := kN3 hi hL
  unfold f_L_c17
  simp only [k1, k2, ↓reduceIte]
  exact runB (o_reads h g _ _) d
theorem d_c18 (h : kR S T na ng nf nr day A B H) (hi : i + 4 ≤ L) (hL : L < 2 ^ 31) : ∃ q : kLw, f_L_c18 L xs S T g d (nI i) = some (some q) ∧ kRx q.1 q.2.1 := by
  have k1 := kN1 hi hL
  have k2 := kN2 hi hL
  have k3 := kN3 hi hL
  unfold f_L_c18
  simp only [k1, ↓reduceIte]
  exact runL (o_readers h g _) d
theorem d_c19 (h : kR S T na ng nf nr day A B H) (hi : i + 4 ≤ L) (hL : L < 2 ^ 31) : ∃ q : kLw, f_L_c19 L xs S T g d (nI i) = some (some q) ∧ kRx q.1 q.2.1 := by
  have k1 := kN1 hi hL
  have k2 := kN2 hi hL
  have k3 := kN3 hi hL
  unfold f_L_c19
  simp only [k1, ↓reduceIte]
  exact runL (o_keeper h g _) d
theorem d_c20 (h : kR S T na ng nf nr day A B H) (hi : i + 4 ≤ L) (hL : L < 2 ^ 31) : ∃ q : kLw, f_L_c20 L xs S T g d (nI i) = some (some q) ∧ kRx q.1 q.2.1 := by
  have k1 := kN1 hi hL
  have k2 := kN2 hi hL
  have k3 := kN3 hi hL
  unfold f_L_c20
  simp only [k1, ↓reduceIte]
  exact runL (o_leave h g _) d
theorem d_c21 (h : kR S T na ng nf nr day A B H) (hi : i + 4 ≤ L) (hL : L < 2 ^ 31) : ∃ q : kLw, f_L_c21 L xs S T g d (nI i) = some (some q) ∧ kRx q.1 q.2.1 := by
  have k1 := kN1 hi hL
  have k2 := kN2 hi hL
  have k3 := kN3 hi hL
  unfold f_L_c21
  simp only [k1, ↓reduceIte]
  exact runL (o_hold h g _) d
theorem d_c22 (h : kR S T na ng nf nr day A B H) (hi : i + 4 ≤ L) (hL : L < 2 ^ 31) : ∃ q : kLw, f_L_c22 L xs S T g d (nI i) = some (some q) ∧ kRx q.1 q.2.1 := by
  have k1 := kN1 hi hL
  have k2 := kN2 hi hL
  have k3 := kN3 hi hL
  unfold f_L_c22
  simp only [k1, ↓reduceIte]
  exact runL (o_release h g _) d
theorem d_c23 (h : kR S T na ng nf nr day A B H) (hi : i + 4 ≤ L) (hL : L < 2 ^ 31) : ∃ q : kLw, f_L_c23 L xs S T g d (nI i) = some (some q) ∧ kRx q.1 q.2.1 := by
  have k1 := kN1 hi hL
  have k2 := kN2 hi hL
  have k3 := kN3 hi hL
  unfold f_L_c23
  simp only [k1, ↓reduceIte]
  exact runL (o_pass h g _) d
theorem d_c24 (h : kR S T na ng nf nr day A B H) (hi : i + 4 ≤ L) (hL : L < 2 ^ 31) : ∃ q : kLw, f_L_c24 L xs S T g d (nI i) = some (some q) ∧ kRx q.1 q.2.1 := by
  obtain ⟨e1, e2⟩ := o_day h
  refine ⟨(S, tc T 0, g, d), ?_, (h.tc 0).x⟩
  rw [f_L_c24, e1, kbind, e2, kbind]; exact if_pos rfl
theorem d_c25 (h : kR S T na ng nf nr day A B H) (hi : i + 4 ≤ L) (hL : L < 2 ^ 31) : ∃ q : kLw, f_L_c25 L xs S T g d (nI i) = some (some q) ∧ kRx q.1 q.2.1 := by
  obtain ⟨v, e1, e2⟩ := o_active h
  refine ⟨(S, tc T 0, g, d), ?_, (h.tc 0).x⟩
  rw [f_L_c25, e1, kbind, e2, kbind]; exact if_pos rfl
theorem d_c26 (h : kR S T na ng nf nr day A B H) (hi : i + 4 ≤ L) (hL : L < 2 ^ 31) : ∃ q : kLw, f_L_c26 L xs S T g d (nI i) = some (some q) ∧ kRx q.1 q.2.1 := by
  rcases o_openShare h with ⟨-, e1, v, e2⟩ | ⟨x, T2, e1, e2, e3, e4, e5, e6⟩
  · refine ⟨(S, tc T 1, g, d), ?_, (h.tc 1).x⟩
    rw [f_L_c26, f_L_openShare, e1, kxb, if_pos rfl, kbind, e2, kbind, f_X3_thrown, kbind]
    exact (if_pos (tc_18 T 1)).trans (if_neg (show ¬ (1 : Int32) = 0 by decide))
  · refine ⟨(S, T2, g, vf_upd d (0 : Int32).toNatClampNeg (FP.f2d x)), ?_, e3⟩
    have e7 : vf_upd d (0 : Int32).toNatClampNeg (FP.f2d x) (0 : Int32).toNatClampNeg = FP.f2d x := if_pos rfl
    rw [f_L_c26, f_L_openShare, e1, kxb, if_pos e5, kbind, e2, kbind, f_X3_thrown, kbind]
    refine (if_pos e4).trans ((if_pos rfl).trans ((if_pos e5).trans ?_))
    show (if Op.cmpValue (FP.dcmp (vf_upd d (0 : Int32).toNatClampNeg (FP.f2d x) (0 : Int32).toNatClampNeg) (FP.f2d x)) CmpOp.l = 0 then _ else _) = _
    rw [e7]; exact if_pos e6
theorem d_c27 (h : kR S T na ng nf nr day A B H) (hi : i + 4 ≤ L) (hL : L < 2 ^ 31) : ∃ q : kLw, f_L_c27 L xs S T g d (nI i) = some (some q) ∧ kRx q.1 q.2.1 := by
  rcases o_meanOwned h with ⟨e1, v, e2⟩ | ⟨x, e1, e2, e6⟩
  · refine ⟨(S, tc T 1, g, d), ?_, (h.tc 1).x⟩
    rw [f_L_c27, f_L_meanOwned, e1, kxb, if_pos rfl, kbind, e2, kbind, f_X3_thrown, kbind]
    exact (if_pos (tc_18 T 1)).trans (if_neg (show ¬ (1 : Int32) = 0 by decide))
  · refine ⟨(S, tc T 0, g, vf_upd d (0 : Int32).toNatClampNeg x), ?_, (h.tc 0).x⟩
    have e7 : vf_upd d (0 : Int32).toNatClampNeg x (0 : Int32).toNatClampNeg = x := if_pos rfl
    rw [f_L_c27, f_L_meanOwned, e1, kxb, kbind, e2, kbind, f_X3_thrown, kbind]
    refine (if_pos (tc_18 T 0)).trans ((if_pos rfl).trans ?_)
    show (if Op.cmpValue (FP.dcmp (vf_upd d (0 : Int32).toNatClampNeg x (0 : Int32).toNatClampNeg) x) CmpOp.l = 0 then _ else _) = _
    rw [e7]; exact if_pos e6
theorem d_sel (h : kR S T na ng nf nr day A B H) (hi : i + 4 ≤ L) (hL : L < 2 ^ 31) : ∃ q : kLw, f_L_sel L xs S T g d (nI i) = some (some q) ∧ kRx q.1 q.2.1 := by
  unfold f_L_sel
  generalize (xs (nI i).toNatClampNeg &&& (31 : Int32)) = z
  by_cases e0 : z = (0 : Int32)
  · rw [if_pos e0]; exact d_c0 h hi hL
  rw [if_neg e0]
  by_cases e1 : z = (1 : Int32)
  · rw [if_pos e1]; exact d_c1 h hi hL
  rw [if_neg e1]
  by_cases e2 : z = (2 : Int32)
  · rw [if_pos e2]; exact d_c2 h hi hL
  rw [if_neg e2]
  by_cases e3 : z = (3 : Int32)
  · rw [if_pos e3]; exact d_c3 h hi hL
  rw [if_neg e3]
  by_cases e4 : z = (4 : Int32)
  · rw [if_pos e4]; exact d_c4 h hi hL
  rw [if_neg e4]
  by_cases e5 : z = (5 : Int32)
  · rw [if_pos e5]; exact d_c5 h hi hL
  rw [if_neg e5]
  by_cases e6 : z = (6 : Int32)
  · rw [if_pos e6]; exact d_c6 h hi hL
  rw [if_neg e6]
  by_cases e7 : z = (7 : Int32)
  · rw [if_pos e7]; exact d_c7 h hi hL
  rw [if_neg e7]
  by_cases e8 : z = (8 : Int32)
  · rw [if_pos e8]; exact d_c8 h hi hL
  rw [if_neg e8]
  by_cases e9 : z = (9 : Int32)
  · rw [if_pos e9]; exact d_c9 h hi hL
  rw [if_neg e9]
  by_cases e10 : z = (10 : Int32)
  · rw [if_pos e10]; exact d_c10 h hi hL
  rw [if_neg e10]
  by_cases e11 : z = (11 : Int32)
  · rw [if_pos e11]; exact d_c11 h hi hL
  rw [if_neg e11]
  by_cases e12 : z = (12 : Int32)
  · rw [if_pos e12]; exact d_c12 h hi hL
  rw [if_neg e12]
  by_cases e13 : z = (13 : Int32)
  · rw [if_pos e13]; exact d_c13 h hi hL
  rw [if_neg e13]
  by_cases e14 : z = (14 : Int32)
  · rw [if_pos e14]; exact d_c14 h hi hL
  rw [if_neg e14]
  by_cases e15 : z = (15 : Int32)
  · rw [if_pos e15]; exact d_c15 h hi hL
  rw [if_neg e15]
  by_cases e16 : z = (16 : Int32)
  · rw [if_pos e16]; exact d_c16 h hi hL
  rw [if_neg e16]
  by_cases e17 : z = (17 : Int32)
  · rw [if_pos e17]; exact d_c17 h hi hL
  rw [if_neg e17]
  by_cases e18 : z = (18 : Int32)
  · rw [if_pos e18]; exact d_c18 h hi hL
  rw [if_neg e18]
  by_cases e19 : z = (19 : Int32)
  · rw [if_pos e19]; exact d_c19 h hi hL
  rw [if_neg e19]
  by_cases e20 : z = (20 : Int32)
  · rw [if_pos e20]; exact d_c20 h hi hL
  rw [if_neg e20]
  by_cases e21 : z = (21 : Int32)
  · rw [if_pos e21]; exact d_c21 h hi hL
  rw [if_neg e21]
  by_cases e22 : z = (22 : Int32)
  · rw [if_pos e22]; exact d_c22 h hi hL
  rw [if_neg e22]
  by_cases e23 : z = (23 : Int32)
  · rw [if_pos e23]; exact d_c23 h hi hL
  rw [if_neg e23]
  by_cases e24 : z = (24 : Int32)
  · rw [if_pos e24]; exact d_c24 h hi hL
  rw [if_neg e24]
  by_cases e25 : z = (25 : Int32)
  · rw [if_pos e25]; exact d_c25 h hi hL
  rw [if_neg e25]
  by_cases e26 : z = (26 : Int32)
  · rw [if_pos e26]; exact d_c26 h hi hL
  rw [if_neg e26]
  by_cases e27 : z = (27 : Int32)
  · rw [if_pos e27]; exact d_c27 h hi hL
  rw [if_neg e27]
  exact ⟨(S, T, g, d), rfl, h.x⟩
end LL
theorem law_loop {L : Nat} {xs : Nat → Int32} (hL : L < 4096) : ∀ r i S T g d n, kRx S T → i < 4096 → L < i + 4 * r + 4 → r < n → f_L_law_L28 L xs n S T g d (nI i) = some true := by
  have e4 : (Int32.ofNat L - (4 : Int32)).toInt = (L : Int) - 4 := by
    have h1 : (4 : Int32).toInt = 4 := rfl
    have h2 : (Int32.ofNat L).toInt = (L : Int) := nI_toInt (n := L) (by omega)
    rw [fb_subI (by rw [h2, h1]; omega) (by rw [h2, h1]; omega), h2, h1]
  intro r
  induction r with
  | zero =>
    intro i S T g d n h hi h1 h2
    obtain ⟨n, rfl⟩ : ∃ z, n = z + 1 := ⟨n - 1, by omega⟩
    rw [f_L_law_L28, if_pos (by rw [fa_lt, e4, nI_toInt (by omega)]; omega)]
  | succ r ih =>
    intro i S T g d n h hi h1 h2
    obtain ⟨n, rfl⟩ : ∃ z, n = z + 1 := ⟨n - 1, by omega⟩
    rw [f_L_law_L28]
    by_cases q : L < i + 4
    · rw [if_pos (by rw [fa_lt, e4, nI_toInt (by omega)]; omega)]
    · obtain ⟨_, _, _, _, _, _, _, _, h⟩ := h
      obtain ⟨w, e1, e2⟩ := d_sel (L := L) (xs := xs) (g := g) (d := d) (i := i) h (by omega) (by omega)
      rw [if_neg (fun z => by rw [fa_lt, e4, nI_toInt (by omega)] at z; omega), if_pos (kin_nI (by omega) (by omega)), e1]
      show f_L_law_L28 L xs n w.1 w.2.1 w.2.2.1 w.2.2.2 (nI i + 4) = some true
      rw [show (4 : Int32) = nI 4 from rfl, nI_add]
      exact ih (i + 4) _ _ _ _ n e2 (by omega) (by omega) (by omega)
/-- the reference as its constructor lays it -/
def kT0 : kSt := (fun k => if k = 0 then 1 else 0, fun k => if k = 2 then (upd (upd (upd (upd (upd (upd (upd (upd (upd (upd (fun _ => 0) 0 (-1)) 1 (-1)) 2 (-1)) 3 (-1)) 4 (-1)) 5 (-1)) 6 (-1)) 7 (-1)) 8 (-1)) 9 (-1)) else fun _ => 0)
theorem kT0_2 : ∀ i, i < 10 → kT0.2 2 i = -1 := by decide
theorem kS0_8 : ∀ i, i < 10 → kS0.2 8 i = -1 := by decide
theorem kR_0 : kR kS0 kT0 1 0 0 0 0 1 0 0 := by
  have b0 : ∀ i, (0 : Nat).testBit i = false := Nat.zero_testBit
  refine ⟨⟨by omega, by omega, by omega, by omega, by omega, by omega⟩, ⟨rfl, rfl, rfl, rfl, rfl, rfl, rfl, rfl⟩, ⟨rfl, rfl, rfl, rfl, rfl⟩, ⟨by decide, by decide, by decide, by decide⟩, ⟨fun i hi => ?_, fun f _ => ?_, fun f _ => ?_⟩, fun i hi => ⟨(kT0_2 i hi).trans (kS0_8 i hi).symm, Or.inl (kS0_8 i hi)⟩, fun f hf => absurd hf (by omega), fun f hf => absurd hf (by omega), fun r hr => absurd hr (by omega), fun a g ha hg => ⟨rfl, Or.inl rfl, fun _ => rfl⟩, fun a g ha hg => ⟨rfl, Or.inl rfl, fun _ => rfl⟩, ⟨fun _ => 0, fun i o _ _ he => ?_⟩, fun f a _ _ => ⟨rfl, ⟨0, by omega, rfl⟩, fun _ => rfl⟩, fun f a _ _ => ⟨rfl, ⟨0, by omega, rfl⟩, fun _ => rfl⟩⟩
  · show (0 : Int32) = _
    by_cases e : i = 0
    · subst e; decide
    · have : ¬ i < 1 := by omega
      simp [this]; rfl
  · show (0 : Int32) = _; rw [b0]; rfl
  · show (0 : Int32) = _; rw [b0]; rfl
  · exfalso
    have he2 : decide ((0 : Int32) ≠ 0) = true := he
    exact absurd he2 (by decide)
theorem law_true {L : Nat} {xs : Nat → Int32} (hL : L ≤ 2048) (g : Nat → Int64) (d : Nat → UInt64) : f_L_law_L28 L xs 600 kS0 kT0 g d 0 = some true :=
  law_loop (L := L) (xs := xs) (by omega) 599 0 kS0 kT0 g d 600 kR_0.x (by omega) (by omega) (by omega)
