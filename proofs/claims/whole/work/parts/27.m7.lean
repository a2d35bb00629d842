/-! THE SMALL CALLS -/
theorem va_u {f : Nat → Nat → Int32} {k i j : Nat} {v : Int32} : va_up f k (upd (f k) i v) k j = if j = i then v else f k j := by rw [va_up_self]; rfl
section OB
variable {S T : kSt} {na ng nf nr day A B H : Nat}
theorem o_addGroup (h : kR S T na ng nf nr day A B H) (g : Nat → Int64) : agL (f_L_addGroup S g) (f_X3_addGroup T) := by
  have hng := h.1.2.2.1
  by_cases q : ng = 6
  · have e1 : f_X2_addGroup S = some (.inr "java/lang/IllegalStateException", S) := by
      rw [f_X2_addGroup, h.2.1.2.1, q, if_neg (by decide)]
    rw [f_L_addGroup, e1, f_X3_addGroup, h.2.2.1.2.1, q, if_pos (by decide), fails1, kbind]
    exact agL.f h.x 1 (by decide)
  · have e0 : nI ng < (6 : Int32) := nI_lt (b := 6) (by omega) (by omega)
    have e3 : ¬ nI ng = (6 : Int32) := fun z => q ((nI_eq (b := 6) (by omega) (by omega)).mp z)
    have e1 : f_X2_addGroup S = some (.inl (nI ng), (va_up S.1 1 (nI (ng + 1)), S.2)) := by
      rw [f_X2_addGroup, h.2.1.2.1, if_pos e0, nI_1]
    have e2 : f_X3_addGroup T = some (nI ng, (va_up (tc T 0).1 3 (nI (ng + 1)), T.2)) := by
      rw [f_X3_addGroup, h.2.2.1.2.1, if_neg e3, fails0, kbind]
      dsimp only
      rw [if_pos b2i_f, (h.tc 0).2.2.1.2.1, nI_1, va_up_self, nI_pred]
      rfl
    rw [f_L_addGroup, e1, e2]
    obtain ⟨h1, h2, h3, h4, h5, h6, h7, h8, h9, h10, h11, h12, h13, h14⟩ := h
    refine agL.s ⟨na, ng + 1, nf, nr, day, A, B, H, ⟨h1.1, h1.2.1, by omega, h1.2.2.2⟩, ⟨h2.1, rfl, h2.2.2⟩, ⟨h3.1, rfl, h3.2.2⟩, h4, h5, h6, h7, h8, fun r hr => ?_, fun a g ha hg => ?_, fun i o hi ho => ?_, h12, h13, fun f g hf hg => ?_⟩ ?_
    · obtain ⟨a1, j, hj, e⟩ := h9 r hr
      exact ⟨a1, j, by omega, e⟩
    · obtain ⟨a1, a2, a3⟩ := h10 a g ha hg
      exact ⟨a1, a2, fun z => a3 (by omega)⟩
    · obtain ⟨a1, a2, a3⟩ := h11 i o hi ho
      exact ⟨a1, a2, fun z => a3 (by omega)⟩
    · obtain ⟨a1, a2, a3⟩ := h14 f g hf hg
      exact ⟨a1, a2, fun z => a3 (by omega)⟩
    · exact tc_18 T 0
theorem o_addRoom (h : kR S T na ng nf nr day A B H) (g : Nat → Int64) (p1 : Int32) : agL (f_L_addRoom S g p1) (f_X3_addRoom T p1) := by
  have hnr := h.1.2.2.2.2.1
  rcases idx p1 ng with ⟨j, hj, rfl⟩ | hb
  · by_cases q : nr = 4
    · have e1 : f_X2_addRoom S (nI j) = some (.inr "java/lang/IllegalStateException", S) := by
        rw [f_X2_addRoom, h.reG hj, kxb, h.2.1.2.2.2.1, q, if_neg (by decide)]
      rw [f_L_addRoom, e1, f_X3_addRoom, h.noG hj, kbind, if_pos b2i_f, h.2.2.1.2.2.2.1, q, if_pos (by decide), fails2, kbind]
      exact agL.f h.x 2 (by decide)
    · have e0 : nI nr < (4 : Int32) := nI_lt (b := 4) (by omega) (by omega)
      have e3 : ¬ nI nr = (4 : Int32) := fun z => q ((nI_eq (b := 4) (by omega) (by omega)).mp z)
      have e1 : f_X2_addRoom S (nI j) = some (.inl (nI nr), (va_up S.1 3 (nI (nr + 1)), va_up S.2 11 (upd (S.2 11) nr (nI j)))) := by
        rw [f_X2_addRoom, h.reG hj, kxb, h.2.1.2.2.2.1, if_pos e0, nI_1, put_row (by omega) (by omega), kbind]
      have e2 : f_X3_addRoom T (nI j) = some (nI nr, (va_up (tc T 0).1 14 (nI (nr + 1)), va_up T.2 15 (upd (T.2 15) nr (nI j)))) := by
        rw [f_X3_addRoom, h.noG hj, kbind, if_pos b2i_f, h.2.2.1.2.2.2.1, if_neg e3, fails0, kbind]
        dsimp only
        rw [if_pos b2i_f, (h.tc 0).2.2.1.2.2.2.1, if_pos (kin_nI (by omega) (by omega)), nI_1, va_up_self, nI_pred, nI_clamp (by omega)]
        rfl
      rw [f_L_addRoom, e1, e2]
      obtain ⟨h1, h2, h3, h4, h5, h6, h7, h8, h9, h10, h11, h12, h13, h14⟩ := h
      refine agL.s ⟨na, ng, nf, nr + 1, day, A, B, H, ⟨h1.1, h1.2.1, h1.2.2.1, h1.2.2.2.1, by omega, h1.2.2.2.2.2⟩, ⟨h2.1, h2.2.1, h2.2.2.1, rfl, h2.2.2.2.2⟩, ⟨h3.1, h3.2.1, h3.2.2.1, rfl, h3.2.2.2.2⟩, h4, h5, h6, h7, h8, fun r hr => ?_, h10, h11, h12, h13, h14⟩ ?_
      · show va_up T.2 15 (upd (T.2 15) nr (nI j)) 15 r = va_up S.2 11 (upd (S.2 11) nr (nI j)) 11 r ∧ ∃ g, g < ng ∧ va_up S.2 11 (upd (S.2 11) nr (nI j)) 11 r = nI g
        rw [va_u, va_u]
        by_cases e : r = nr
        · rw [if_pos e, if_pos e]; exact ⟨rfl, j, hj, rfl⟩
        · rw [if_neg e, if_neg e]; exact h9 r (by omega)
      · exact tc_18 T 0
  · rw [f_L_addRoom, f_X2_addRoom, h.reG' hb, f_X3_addRoom, h.noG' hb, kbind, if_neg b2i_t, fails1, kbind]
    exact agL.f h.x 1 (by decide)
theorem o_owner (h : kR S T na ng nf nr day A B H) (g : Nat → Int64) (p1 : Int32) : agL (f_L_owner S g p1) (f_X3_owner T p1) := by
  have hnf := h.1.2.2.2.1
  rcases idx p1 nf with ⟨j, hj, rfl⟩ | hb
  · rw [f_L_owner, f_X2_owner, h.reF hj, kxb, at_row (by omega) (by omega), kbind, kxb, f_X3_owner, h.noF hj, kbind, if_pos b2i_f, fails0, kbind]
    dsimp only
    rw [if_pos b2i_f, if_pos (kin_nI (by omega) (by omega)), nI_clamp (by omega), ((h.tc 0).2.2.2.2.2.2.1 j hj).1]
    exact agL.s (h.tc 0).x (tc_18 T 0)
  · rw [f_L_owner, f_X2_owner, h.reF' hb, f_X3_owner, h.noF' hb, kbind, if_neg b2i_t, fails1, kbind]
    exact agL.f h.x 1 (by decide)
theorem o_keeper (h : kR S T na ng nf nr day A B H) (g : Nat → Int64) (p1 : Int32) : agL (f_L_keeper S g p1) (f_X3_keeper T p1) := by
  rcases idx p1 nf with ⟨j, hj, rfl⟩ | hb
  · obtain ⟨v, T2, a1, a2, a3, -⟩ := k_keeper (h.tc 0) hj
    rw [f_L_keeper, f_X2_keeper, h.reF hj, kxb, a1, kbind, kxb, f_X3_keeper, h.noF hj, kbind, if_pos b2i_f, fails0, kbind]
    dsimp only
    rw [if_pos b2i_f, a2, kbind]
    exact agL.s ((h.tc 0).same a3).x ((a3.1 18).trans (tc_18 T 0))
  · rw [f_L_keeper, f_X2_keeper, h.reF' hb, f_X3_keeper, h.noF' hb, kbind, if_neg b2i_t, fails1, kbind]
    exact agL.f h.x 1 (by decide)
theorem m_asked (h : kR S T na ng nf nr day A B H) {a f : Nat} (ha : a < na) (hf : f < nf) : ∃ T2, f_X3_asked T (nI a) (nI f) = some (rgt S ng A B a f, T2) ∧ kR S T2 na ng nf nr day A B H ∧ T2.1 18 = 0 := by
  obtain ⟨T2, a1, a2⟩ := m_rightOf (h.tc 0) ha hf
  refine ⟨T2, ?_, (h.tc 0).same a2, (a2.1 18).trans (tc_18 T 0)⟩
  rw [f_X3_asked, h.noA ha, kbind, if_pos b2i_f, h.noF hf, kbind, if_pos b2i_f, fails0, kbind]
  dsimp only
  rw [if_pos b2i_f, a1, kbind]
theorem m_asked1 (h : kR S T na ng nf nr day A B H) {x y : Int32} (hb : bad x na) : f_X3_asked T x y = some (0, tc T 1) := by
  rw [f_X3_asked, h.noA' hb, kbind, if_neg b2i_t, fails1, kbind]; rfl
theorem m_asked2 (h : kR S T na ng nf nr day A B H) {a : Nat} {y : Int32} (ha : a < na) (hb : bad y nf) : f_X3_asked T (nI a) y = some (0, tc T 1) := by
  rw [f_X3_asked, h.noA ha, kbind, if_pos b2i_f, h.noF' hb, kbind, if_neg b2i_t, fails1, kbind]; rfl
theorem o_right (h : kR S T na ng nf nr day A B H) (g : Nat → Int64) (p1 p2 : Int32) : agL (f_L_right S g p1 p2) (f_X3_right T p1 p2) := by
  have hna := h.1.2.1
  rcases idx p1 na with ⟨a, ha, rfl⟩ | hb
  · rcases idx p2 nf with ⟨f, hf, rfl⟩ | hb
    · obtain ⟨T2, a1, a2, a3⟩ := m_asked h ha hf
      obtain ⟨M, b1, b2, b3⟩ := h.groupsOf (a := a) (by omega)
      rw [f_L_right, f_X2_right, h.reA ha, kxb, h.reF hf, kxb, b1, kbind, k_rightAmong h (by omega) hf b2 b3, kbind, kxb, f_X3_right, a1, kbind]
      exact agL.s a2.x a3
    · rw [f_L_right, f_X2_right, h.reA ha, kxb, h.reF' hb, kxb, kxb, f_X3_right, m_asked2 h ha hb, kbind]
      exact agL.f h.x 1 (by decide)
  · rw [f_L_right, f_X2_right, h.reA' hb, kxb, kxb, f_X3_right, m_asked1 h hb, kbind]
    exact agL.f h.x 1 (by decide)
theorem k_rightWalk (h : kR S T na ng nf nr day A B H) {a f : Nat} (ha : a < na) (hf : f < nf) : f_X2_rightByWalking S (nI a) (nI f) = some (.inl (rgt S ng A B a f)) := by
  have hna := h.1.2.1
  have hnf := h.1.2.2.2.1
  rw [f_X2_rightByWalking, h.reA ha, kxb, h.reF hf, kxb, h.isActive (by omega), kbind, rgt]
  cases A.testBit a with
  | false => rw [if_pos b2i_f]; rfl
  | true =>
    rw [if_neg b2i_t, if_pos rfl, at_row (by omega) (by omega), kbind]
    by_cases q : S.2 9 f = nI a
    · rw [if_pos q, if_pos q]
    · rw [if_neg q, if_neg q, k_walk h (by omega) hf, kbind]
theorem o_rightByWalking (h : kR S T na ng nf nr day A B H) (g : Nat → Int64) (p1 p2 : Int32) : agL (f_L_rightByWalking S g p1 p2) (f_X3_rightByWalking T p1 p2) := by
  rcases idx p1 na with ⟨a, ha, rfl⟩ | hb
  · rcases idx p2 nf with ⟨f, hf, rfl⟩ | hb
    · obtain ⟨T2, a1, a2, a3⟩ := m_asked h ha hf
      rw [f_L_rightByWalking, k_rightWalk h ha hf, kxb, f_X3_rightByWalking, a1, kbind]
      exact agL.s a2.x a3
    · rw [f_L_rightByWalking, f_X2_rightByWalking, h.reA ha, kxb, h.reF' hb, kxb, kxb, f_X3_rightByWalking, m_asked2 h ha hb, kbind]
      exact agL.f h.x 1 (by decide)
  · rw [f_L_rightByWalking, f_X2_rightByWalking, h.reA' hb, kxb, kxb, f_X3_rightByWalking, m_asked1 h hb, kbind]
    exact agL.f h.x 1 (by decide)
theorem o_isIn (h : kR S T na ng nf nr day A B H) (g : Nat → Int64) (p1 p2 : Int32) : agB (f_L_isIn S g p1 p2) (f_X3_isIn T p1 p2) := by
  have hna := h.1.2.1
  have hng := h.1.2.2.1
  rcases idx p1 na with ⟨a, ha, rfl⟩ | hb
  · rcases idx p2 ng with ⟨o, ho, rfl⟩ | hb
    · obtain ⟨M, b1, b2, b3⟩ := h.groupsOf (a := a) (by omega)
      have e : f_X3_isIn T (nI a) (nI o) = some (inB S a o, tc T 0) := by
        rw [f_X3_isIn, h.noA ha, kbind, if_pos b2i_f, h.noG ho, kbind, if_pos b2i_f, fails0, kbind]
        dsimp only
        rw [if_pos b2i_f, (h.tc 0).isMember (by omega) (by omega), kbind]
        cases inB S a o with
        | false => exact if_pos b2i_f
        | true => exact if_neg b2i_t
      rw [f_L_isIn, f_X2_isIn, h.reA ha, kxb, h.reG ho, kxb, b1, kbind, contains_bit (by omega) (by omega), kbind, kxb, b3 o (by omega), e]
      exact agB.s (h.tc 0).x (tc_18 T 0)
    · rw [f_L_isIn, f_X2_isIn, h.reA ha, kxb, h.reG' hb, kxb, kxb, f_X3_isIn, h.noA ha, kbind, if_pos b2i_f, h.noG' hb, kbind, if_neg b2i_t, fails1, kbind]
      exact agB.f h.x 1 (by decide)
  · rw [f_L_isIn, f_X2_isIn, h.reA' hb, kxb, kxb, f_X3_isIn, h.noA' hb, kbind, if_neg b2i_t, fails1, kbind]
    exact agB.f h.x 1 (by decide)
theorem o_setHeir (h : kR S T na ng nf nr day A B H) (g : Nat → Int64) (p1 p2 : Int32) : agL (f_L_setHeir S g p1 p2) (f_X3_setHeir T p1 p2) := by
  have hna := h.1.2.1
  have main : ∀ a x, a < na → (x = -1 ∨ ∃ j, j < na ∧ x = nI j) → agL (some (0, (S.1, va_up S.2 8 (upd (S.2 8) a x)), vp_updL g (0 : Int32).toNatClampNeg (S.2 8 a).toInt64)) (some ((tc T 0).2 2 a, ((tc T 0).1, va_up (tc T 0).2 2 (upd ((tc T 0).2 2) a x)))) := by
    intro a x ha hx
    rw [((h.tc 0).2.2.2.2.2.1 a (by omega)).1]
    obtain ⟨h1, h2, h3, h4, h5, h6, h7, h8, h9, h10, h11, h12, h13, h14⟩ := h
    refine agL.s ⟨na, ng, nf, nr, day, A, B, H, h1, h2, h3, h4, h5, fun i hi => ?_, h7, h8, h9, h10, h11, h12, h13, h14⟩ ?_
    · show va_up (tc T 0).2 2 (upd ((tc T 0).2 2) a x) 2 i = va_up S.2 8 (upd (S.2 8) a x) 8 i ∧ (va_up S.2 8 (upd (S.2 8) a x) 8 i = -1 ∨ ∃ j, j < na ∧ va_up S.2 8 (upd (S.2 8) a x) 8 i = nI j)
      rw [va_u, va_u]
      by_cases e : i = a
      · rw [if_pos e, if_pos e]; exact ⟨rfl, hx⟩
      · rw [if_neg e, if_neg e]; exact h6 i hi
    · exact tc_18 T 0
  rcases idx p1 na with ⟨a, ha, rfl⟩ | hb
  · by_cases q : p2 = -1
    · subst q
      have e9 : ¬ nI a = -1 := nI_m1 (by omega)
      rw [f_L_setHeir, f_X2_setHeir, h.reA ha, kxb, if_pos rfl, if_neg e9, at_row (by omega) (by omega), kbind, put_row (by omega) (by omega), kbind, kxs, f_X3_setHeir, h.noA ha, kbind, if_pos b2i_f, if_pos rfl, if_neg e9, fails0, kbind]
      dsimp only
      rw [if_pos b2i_f, if_pos (kin_nI (by omega) (by omega)), if_pos (kin_nI (by omega) (by omega)), nI_clamp (by omega)]
      exact main a (-1) ha (Or.inl rfl)
    · rcases idx p2 na with ⟨b, hb, rfl⟩ | hb
      · by_cases e : nI a = nI b
        · rw [f_L_setHeir, f_X2_setHeir, h.reA ha, kxb, if_neg q, h.reA hb, kxb, if_pos e, kxs, f_X3_setHeir, h.noA ha, kbind, if_pos b2i_f, if_neg q, h.noA hb, kbind, if_pos b2i_f, if_pos e, fails2, kbind]
          exact agL.f h.x 2 (by decide)
        · rw [f_L_setHeir, f_X2_setHeir, h.reA ha, kxb, if_neg q, h.reA hb, kxb, if_neg e, at_row (by omega) (by omega), kbind, put_row (by omega) (by omega), kbind, kxs, f_X3_setHeir, h.noA ha, kbind, if_pos b2i_f, if_neg q, h.noA hb, kbind, if_pos b2i_f, if_neg e, fails0, kbind]
          dsimp only
          rw [if_pos b2i_f, if_pos (kin_nI (by omega) (by omega)), if_pos (kin_nI (by omega) (by omega)), nI_clamp (by omega)]
          exact main a (nI b) ha (Or.inr ⟨b, hb, rfl⟩)
      · rw [f_L_setHeir, f_X2_setHeir, h.reA ha, kxb, if_neg q, h.reA' hb, kxb, kxs, f_X3_setHeir, h.noA ha, kbind, if_pos b2i_f, if_neg q, h.noA' hb, kbind, if_neg b2i_t, fails1, kbind]
        exact agL.f h.x 1 (by decide)
  · rw [f_L_setHeir, f_X2_setHeir, h.reA' hb, kxb, kxs, f_X3_setHeir, h.noA' hb, kbind, if_neg b2i_t, fails1, kbind]
    exact agL.f h.x 1 (by decide)
theorem o_day (h : kR S T na ng nf nr day A B H) : f_X2_day S = some (nI day) ∧ f_X3_day T = some (nI day, tc T 0) := by
  refine ⟨by rw [f_X2_day, h.2.1.2.2.2.2.1], ?_⟩
  rw [f_X3_day, f_X3_tells, h.2.2.1.2.2.2.2, kbind]; rfl
end OB
