/-! NEW FOLDERS, LEAVING, RELEASING -/
section LV
variable {S T : kSt} {na ng nf nr day A B H : Nat}
theorem kR.addF (h : kR S T na ng nf nr day A B H) {a : Nat} {x : Int32} (ha : a < na) (hx : x = -1 ∨ ∃ p, p < nf ∧ x = nI p) (hn : nf < 12) :
    kR (va_up S.1 2 (nI (nf + 1)), va_up (va_up S.2 9 (upd (S.2 9) nf (nI a))) 10 (upd (va_up S.2 9 (upd (S.2 9) nf (nI a)) 10) nf x)) (va_up T.1 7 (nI (nf + 1)), va_up (va_up T.2 8 (upd (T.2 8) nf (nI a))) 9 (upd (va_up T.2 8 (upd (T.2 8) nf (nI a)) 9) nf x)) na ng (nf + 1) nr day A B H := by
  obtain ⟨h1, h2, h3, h4, h5, h6, h7, h8, h9, h10, h11, h12, h13, h14⟩ := h
  have hp : 2 ^ nf < 2 ^ (nf + 1) := Nat.pow_lt_pow_right (by decide) (Nat.lt_succ_self nf)
  refine ⟨⟨h1.1, h1.2.1, h1.2.2.1, by omega, h1.2.2.2.2⟩, ⟨h2.1, h2.2.1, rfl, h2.2.2.2⟩, ⟨h3.1, h3.2.1, rfl, h3.2.2.2⟩, ⟨h4.1, h4.2.1, h4.2.2.1, Nat.lt_trans h4.2.2.2 hp⟩, h5, h6, fun f hf => ?_, fun f hf => ?_, h9, h10, h11, h12, fun f b hf hb => ?_, fun f b hf hb => ?_⟩
  · show (if f = nf then nI a else T.2 8 f) = (if f = nf then nI a else S.2 9 f) ∧ ∃ j, j < na ∧ (if f = nf then nI a else S.2 9 f) = nI j
    by_cases e : f = nf
    · rw [if_pos e, if_pos e]; exact ⟨rfl, a, ha, rfl⟩
    · rw [if_neg e, if_neg e]; exact h7 f (by omega)
  · show (if f = nf then x else T.2 9 f) = (if f = nf then x else S.2 10 f) ∧ ((if f = nf then x else S.2 10 f) = -1 ∨ ∃ p, p < f ∧ (if f = nf then x else S.2 10 f) = nI p)
    by_cases e : f = nf
    · rw [if_pos e, if_pos e]
      exact ⟨rfl, hx.imp id (fun ⟨p, q1, q2⟩ => ⟨p, by omega, q2⟩)⟩
    · rw [if_neg e, if_neg e]; exact h8 f (by omega)
  · obtain ⟨a1, a2, a3⟩ := h13 f b hf hb
    exact ⟨a1, a2, fun z => a3 (by omega)⟩
  · obtain ⟨a1, a2, a3⟩ := h14 f b hf hb
    exact ⟨a1, a2, fun z => a3 (by omega)⟩
theorem o_addFolder (h : kR S T na ng nf nr day A B H) (gg : Nat → Int64) (p1 p2 : Int32) : agL (f_L_addFolder S gg p1 p2) (f_X3_addFolder T p1 p2) := by
  have hna := h.1.2.1
  have hnf := h.1.2.2.2.1
  rcases idx p1 na with ⟨a, ha, rfl⟩ | hb
  · have hT9 := m_left h ha
    have e12 : nf ≠ 12 → ¬ nI nf = (12 : Int32) := fun q z => q ((nI_eq (b := 12) (by omega) (by omega)).mp z)
    have l12 : nf ≠ 12 → nI nf < (12 : Int32) := fun q => nI_lt (b := 12) (by omega) (by omega)
    by_cases q : p2 = -1
    · cases hA : A.testBit a with
      | false =>
        rw [f_L_addFolder, f_X2_addFolder, h.reA ha, kxb, if_pos q, h.isActive (by omega), kbind, hA, if_pos b2i_f, kxs, f_X3_addFolder, h.noA ha, kbind, if_pos b2i_f, if_pos q, if_pos (kin_nI (by omega) (by omega)), nI_clamp (by omega), hT9, hA, if_neg (show ¬ b2i (!false) = 0 by decide), fails2, kbind]
        exact agL.f h.x 2 (by decide)
      | true =>
        by_cases q9 : nf = 12
        · rw [f_L_addFolder, f_X2_addFolder, h.reA ha, kxb, if_pos q, h.isActive (by omega), kbind, hA, if_neg b2i_t, h.2.1.2.2.1, if_neg (show ¬ nI nf < (12 : Int32) by rw [q9]; decide), kxs, f_X3_addFolder, h.noA ha, kbind, if_pos b2i_f, if_pos q, if_pos (kin_nI (by omega) (by omega)), nI_clamp (by omega), hT9, hA, if_pos (show b2i (!true) = 0 by decide), h.2.2.1.2.2.1, if_pos (show nI nf = (12 : Int32) by rw [q9]; decide), fails3, kbind]
          exact agL.f h.x 3 (by decide)
        · have h2 := (h.tc 0).addF (x := p2) ha (Or.inl q) (by omega)
          rw [f_L_addFolder, f_X2_addFolder, h.reA ha, kxb, if_pos q, h.isActive (by omega), kbind, hA, if_neg b2i_t, h.2.1.2.2.1, if_pos (l12 q9), nI_1, put_row (by omega) (by omega), kbind, put_row (by omega) (by omega), kbind, kxs, f_X3_addFolder, h.noA ha, kbind, if_pos b2i_f, if_pos q, if_pos (kin_nI (by omega) (by omega)), nI_clamp (by omega), hT9, hA, if_pos (show b2i (!true) = 0 by decide), h.2.2.1.2.2.1, if_neg (e12 q9), fails0, kbind]
          dsimp only
          rw [if_pos b2i_f, (h.tc 0).2.2.1.2.2.1, if_pos (kin_nI (by omega) (by omega)), if_pos (kin_nI (by omega) (by omega)), nI_clamp (by omega), nI_1, va_up_self, nI_pred]
          exact agL.s h2.x (tc_18 T 0)
    · rcases idx p2 nf with ⟨p, hp, rfl⟩ | hb
      · cases hA : A.testBit a with
        | false =>
          rw [f_L_addFolder, f_X2_addFolder, h.reA ha, kxb, if_neg q, h.reF hp, kxb, h.isActive (by omega), kbind, hA, if_pos b2i_f, kxs, f_X3_addFolder, h.noA ha, kbind, if_pos b2i_f, if_neg q, h.noF hp, kbind, if_pos b2i_f, if_pos (kin_nI (by omega) (by omega)), nI_clamp (by omega), hT9, hA, if_neg (show ¬ b2i (!false) = 0 by decide), fails2, kbind]
          exact agL.f h.x 2 (by decide)
        | true =>
          by_cases q9 : nf = 12
          · rw [f_L_addFolder, f_X2_addFolder, h.reA ha, kxb, if_neg q, h.reF hp, kxb, h.isActive (by omega), kbind, hA, if_neg b2i_t, h.2.1.2.2.1, if_neg (show ¬ nI nf < (12 : Int32) by rw [q9]; decide), kxs, f_X3_addFolder, h.noA ha, kbind, if_pos b2i_f, if_neg q, h.noF hp, kbind, if_pos b2i_f, if_pos (kin_nI (by omega) (by omega)), nI_clamp (by omega), hT9, hA, if_pos (show b2i (!true) = 0 by decide), h.2.2.1.2.2.1, if_pos (show nI nf = (12 : Int32) by rw [q9]; decide), fails3, kbind]
            exact agL.f h.x 3 (by decide)
          · have h2 := (h.tc 0).addF (x := nI p) ha (Or.inr ⟨p, hp, rfl⟩) (by omega)
            rw [f_L_addFolder, f_X2_addFolder, h.reA ha, kxb, if_neg q, h.reF hp, kxb, h.isActive (by omega), kbind, hA, if_neg b2i_t, h.2.1.2.2.1, if_pos (l12 q9), nI_1, put_row (by omega) (by omega), kbind, put_row (by omega) (by omega), kbind, kxs, f_X3_addFolder, h.noA ha, kbind, if_pos b2i_f, if_neg q, h.noF hp, kbind, if_pos b2i_f, if_pos (kin_nI (by omega) (by omega)), nI_clamp (by omega), hT9, hA, if_pos (show b2i (!true) = 0 by decide), h.2.2.1.2.2.1, if_neg (e12 q9), fails0, kbind]
            dsimp only
            rw [if_pos b2i_f, (h.tc 0).2.2.1.2.2.1, if_pos (kin_nI (by omega) (by omega)), if_pos (kin_nI (by omega) (by omega)), nI_clamp (by omega), nI_1, va_up_self, nI_pred]
            exact agL.s h2.x (tc_18 T 0)
      · rw [f_L_addFolder, f_X2_addFolder, h.reA ha, kxb, if_neg q, h.reF' hb, kxb, kxs, f_X3_addFolder, h.noA ha, kbind, if_pos b2i_f, if_neg q, h.noF' hb, kbind, if_neg b2i_t, fails1, kbind]
        exact agL.f h.x 1 (by decide)
  · rw [f_L_addFolder, f_X2_addFolder, h.reA' hb, kxb, kxs, f_X3_addFolder, h.noA' hb, kbind, if_neg b2i_t, fails1, kbind]
    exact agL.f h.x 1 (by decide)
theorem kR.setA (h : kR S T na ng nf nr day A B H) {a : Nat} (ha : a < na) (h0 : a ≠ 0) : kR (va_up S.1 5 (nI (wo A a)), S.2) (T.1, va_up T.2 1 (upd (T.2 1) a (b2i true))) na ng nf nr day (wo A a) B H := by
  have hA16 := h.A16
  obtain ⟨h1, h2, h3, h4, ⟨b1, b2, b3⟩, h6, h7, h8, h9, h10, h11, h12, h13, h14⟩ := h
  refine ⟨h1, ⟨h2.1, h2.2.1, h2.2.2.1, h2.2.2.2.1, h2.2.2.2.2.1, rfl, h2.2.2.2.2.2.2⟩, h3, ⟨Nat.lt_of_le_of_lt (wo_le A a) h4.1, by rw [wo_bit hA16, h4.2.1]; simp; omega, h4.2.2⟩, ⟨fun i hi => ?_, b2, b3⟩, h6, h7, h8, h9, h10, h11, h12, h13, h14⟩
  show va_up T.2 1 (upd (T.2 1) a (b2i true)) 1 i = _
  rw [va_u, wo_bit hA16]
  by_cases e : i = a
  · subst e; rw [if_pos rfl]; simp [ha]
  · rw [if_neg e, b1 i hi]; simp [e]
theorem hand_loop {l : Nat} (hl : l < 10) : ∀ r i acc (S T : kSt) n m, kR S T na ng nf nr day A B H → i + r = nf → r < n → r < m →
    ∃ S2 T2 v, f_X2_handOverFoldersOf_L4 n S (nI l) (nI acc) (nI i) = some (nI v, S2) ∧ f_X3_leave_L54 m T (nI l) (nI acc) (nI i) = some (nI v, T2) ∧ kR S2 T2 na ng nf nr day A B H ∧ T2.1 18 = T.1 18 := by
  intro r
  induction r with
  | zero =>
    intro i acc S T n m h h1 h2 h3
    obtain ⟨n, rfl⟩ : ∃ z, n = z + 1 := ⟨n - 1, by omega⟩
    obtain ⟨m, rfl⟩ : ∃ z, m = z + 1 := ⟨m - 1, by omega⟩
    have hnf := h.1.2.2.2.1
    refine ⟨S, T, acc, ?_, ?_, h, rfl⟩
    · rw [f_X2_handOverFoldersOf_L4, h.2.1.2.2.1, if_pos (nI_le (by omega) (by omega))]
    · rw [f_X3_leave_L54, h.2.2.1.2.2.1, if_pos (nI_le (by omega) (by omega))]
  | succ r ih =>
    intro i acc S T n m h h1 h2 h3
    obtain ⟨n, rfl⟩ : ∃ z, n = z + 1 := ⟨n - 1, by omega⟩
    obtain ⟨m, rfl⟩ : ∃ z, m = z + 1 := ⟨m - 1, by omega⟩
    have hnf := h.1.2.2.2.1
    have ek := kin_nI (i := i) (N := 12) (by omega) (by omega)
    obtain ⟨eo, w, hw, ew⟩ := h.2.2.2.2.2.2.1 i (by omega)
    rw [f_X2_handOverFoldersOf_L4, h.2.1.2.2.1, if_neg (nI_ge (by omega) (by omega)), f_X2_isHandedOverBy, at_row (by omega) (by omega), kbind, f_X3_leave_L54, h.2.2.1.2.2.1, if_neg (nI_ge (by omega) (by omega)), if_pos ek, nI_clamp (by omega), eo, if_pos ek, h.heldT (by omega), nI_1, nI_1]
    by_cases q : S.2 9 i = nI l
    · rw [if_pos q, if_pos q, h.isHeld (by omega), kbind]
      cases H.testBit i with
      | true =>
        rw [if_neg b2i_t, kbind, if_pos b2i_f, if_neg b2i_t]
        exact ih (i + 1) acc S T n m h (by omega) (by omega) (by omega)
      | false =>
        obtain ⟨v, T2, a1, a2, a3, a4⟩ := k_keeper h (f := i) (by omega)
        rw [if_pos b2i_f, kbind, if_neg b2i_t, a1, kbind, put_row (by omega) (by omega), kbind, if_pos b2i_f, a2, kbind]
        dsimp only
        rw [if_pos ek]
        obtain ⟨S3, T3, v3, c1, c2, c3, c4⟩ := ih (i + 1) (acc + 1) _ _ n m ((h.same a3).setOwn (f := i) a4) (by omega) (by omega) (by omega)
        exact ⟨S3, T3, v3, c1, c2, c3, c4.trans (a3.1 18)⟩
    · rw [if_neg q, if_neg q, kbind, if_pos b2i_f]
      exact ih (i + 1) acc S T n m h (by omega) (by omega) (by omega)
theorem o_leave (h : kR S T na ng nf nr day A B H) (gg : Nat → Int64) (p1 : Int32) : agL (f_L_leave S gg p1) (f_X3_leave T p1) := by
  have hna := h.1.2.1
  have hnf := h.1.2.2.2.1
  rcases idx p1 na with ⟨a, ha, rfl⟩ | hb
  · by_cases q : a = 0
    · have e0 : nI a = 0 := by rw [q]; rfl
      rw [f_L_leave, f_X2_leave, h.reA ha, kxb, if_pos e0, kxs, f_X3_leave, h.noA ha, kbind, if_pos b2i_f, if_pos e0, fails2, kbind]
      exact agL.f h.x 2 (by decide)
    · have e0 : ¬ nI a = 0 := nI_ne0 (by omega) (by omega)
      cases hA : A.testBit a with
      | false =>
        rw [f_L_leave, f_X2_leave, h.reA ha, kxb, if_neg e0, h.isActive (by omega), kbind, hA, if_pos b2i_f, kxs, f_X3_leave, h.noA ha, kbind, if_pos b2i_f, if_neg e0, if_pos (kin_nI (by omega) (by omega)), nI_clamp (by omega), m_left h ha, hA, if_neg (show ¬ b2i (!false) = 0 by decide), fails3, kbind]
        exact agL.f h.x 3 (by decide)
      | true =>
        have h2 := (h.tc 0).setA ha q
        obtain ⟨S2, T2, v, a1, a2, a3, a4⟩ := hand_loop (l := a) (by omega) nf 0 0 _ _ 200 200 h2 (by omega) (by omega) (by omega)
        have a1' : f_X2_handOverFoldersOf (va_up S.1 5 (nI (wo A a)), S.2) (nI a) = some (nI v, S2) := a1
        have a2' : f_X3_leave_L54 200 ((tc T 0).1, va_up (tc T 0).2 1 (upd ((tc T 0).2 1) a (vp_nar .boolean (1 : Int32)))) (nI a) 0 0 = some (nI v, T2) := a2
        rw [f_L_leave, f_X2_leave, h.reA ha, kxb, if_neg e0, h.isActive (by omega), kbind, hA, if_neg b2i_t, h.2.1.2.2.2.2.2.1, k_without (by omega), kbind, a1', kbind, kxs, f_X3_leave, h.noA ha, kbind, if_pos b2i_f, if_neg e0, if_pos (kin_nI (by omega) (by omega)), nI_clamp (by omega), m_left h ha, hA, if_pos (show b2i (!true) = 0 by decide), fails0, kbind]
        dsimp only
        rw [if_pos b2i_f, if_pos (kin_nI (by omega) (by omega)), a2']
        exact agL.s a3.x (a4.trans (tc_18 T 0))
  · rw [f_L_leave, f_X2_leave, h.reA' hb, kxb, kxs, f_X3_leave, h.noA' hb, kbind, if_neg b2i_t, fails1, kbind]
    exact agL.f h.x 1 (by decide)
theorem o_release (h : kR S T na ng nf nr day A B H) (gg : Nat → Int64) (p1 : Int32) : agL (f_L_release S gg p1) (f_X3_release T p1) := by
  have hna := h.1.2.1
  have hnf := h.1.2.2.2.1
  rcases idx p1 nf with ⟨f, hf, rfl⟩ | hb
  · have ek := kin_nI (i := f) (N := 12) (by omega) (by omega)
    cases q : H.testBit f with
    | false =>
      rw [f_L_release, f_X2_release, h.reF hf, kxb, h.isHeld (by omega), kbind, q, if_pos b2i_f, kxs, f_X3_release, h.noF hf, kbind, if_pos b2i_f, if_pos ek, nI_clamp (by omega), h.heldT (by omega), q, if_pos b2i_f, fails2, kbind]
      exact agL.f h.x 2 (by decide)
    | true =>
      have h2 := (h.tc 0).setH (f := f) (H2 := wo H f) (b := false) (fun i => by rw [wo_bit h.H16]; by_cases e : i = f <;> simp [e]) (Nat.lt_of_le_of_lt (wo_le H f) h.2.2.2.1.2.2.2)
      have h18 : ((tc T 0).1, va_up (tc T 0).2 11 (upd ((tc T 0).2 11) f (b2i false))).1 18 = 0 := tc_18 T 0
      obtain ⟨W, hW⟩ : ∃ W : kSt, W = ((tc T 0).1, va_up (tc T 0).2 11 (upd ((tc T 0).2 11) f (b2i false))) := ⟨_, rfl⟩
      obtain ⟨V, hV⟩ : ∃ V : kSt, V = (va_up S.1 7 (nI (wo H f)), S.2) := ⟨_, rfl⟩
      rw [← hW] at h2 h18
      rw [← hV] at h2
      obtain ⟨eo, w, hw, ew⟩ := h2.2.2.2.2.2.2.1 f hf
      have ekw := kin_nI (i := w) (N := 10) (by omega) (by omega)
      have e3 : f_X3_release T (nI f) = (if kin (nI f) 12 = true then if kin (nI f) 12 = true then if kin (W.2 8 f) 10 = true then if W.2 1 (W.2 8 f).toNatClampNeg = 0 then (if kin (nI f) 12 = true then some (W.2 8 f, W) else none) else ((f_X3_keeperOf W (nI f)).bind fun v8 => if kin (nI f) 12 = true then if kin (nI f) 12 = true then some (va_up v8.2.2 8 (upd (v8.2.2 8) f v8.1) 8 f, (v8.2.1, va_up v8.2.2 8 (upd (v8.2.2 8) f v8.1))) else none else none) else none else none else none) := by
        rw [hW, f_X3_release, h.noF hf, kbind, if_pos b2i_f, if_pos ek, nI_clamp (by omega), h.heldT (by omega), q, if_neg b2i_t, fails0, kbind]
        exact if_pos (show b2i (false, tc T 0).1 = 0 from rfl)
      have e4 : f_X2_release S (nI f) = ((f_X1_at 12 (-1) (V.2 9) (nI f)).bind fun v4 => (f_X2_isActive V v4).bind fun v5 => if b2i (v5) = 0 then ((f_X2_keeperAfterLeaving V (nI f)).bind fun v6 => (f_X1_put 12 (-1) (V.2 9) (nI f) v6).bind fun v7 => (f_X1_at 12 (-1) ((va_up V.2 9 v7) 9) (nI f)).bind fun v8 => some ((.inl v8, (V.1, va_up V.2 9 v7)))) else ((f_X1_at 12 (-1) (V.2 9) (nI f)).bind fun v9 => some ((.inl v9, V)))) := by
        rw [hV, f_X2_release, h.reF hf, kxb, h.isHeld (by omega), kbind, q, if_neg b2i_t, h.2.1.2.2.2.2.2.2.2, k_without (by omega), kbind]
      rw [f_L_release, e4, at_row (by omega) (by omega), kbind, kbind, ew, h2.isActive (by omega), kbind, e3, if_pos ek, if_pos ek, eo, ew, if_pos ekw, nI_clamp (by omega), m_left h2 hw]
      cases A.testBit w with
      | true =>
        rw [if_neg b2i_t, kxs, if_pos (show b2i (!true) = 0 by decide), if_pos ek]
        exact agL.s h2.x h18
      | false =>
        obtain ⟨v, T2, a1, a2, a3, a4⟩ := k_keeper h2 hf
        have h3 := (h2.same a3).setOwn (f := f) a4
        rw [if_pos b2i_f, a1, kbind, put_row (by omega) (by omega), kbind, at_row (by omega) (by omega), kbind, va_u, if_pos rfl, kxs, if_neg (show ¬ b2i (!false) = 0 by decide), a2, kbind]
        dsimp only
        rw [if_pos ek, if_pos ek, va_u, if_pos rfl]
        exact agL.s h3.x ((a3.1 18).trans h18)
  · rw [f_L_release, f_X2_release, h.reF' hb, kxb, kxs, f_X3_release, h.noF' hb, kbind, if_neg b2i_t, fails1, kbind]
    exact agL.f h.x 1 (by decide)
end LV
