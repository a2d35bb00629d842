/-! SETS OF FOLDERS AND ACCOUNTS; SHARES -/
def wo (m j : Nat) : Nat := m &&& (2 ^ j ^^^ (2 ^ 32 - 1))
theorem wo_bit {m j : Nat} (hm : m < 65536) (i : Nat) : (wo m j).testBit i = (m.testBit i && !decide (i = j)) := by
  unfold wo
  rw [Nat.testBit_and, Nat.testBit_xor, Nat.testBit_two_pow, Nat.testBit_two_pow_sub_one]
  by_cases q : i < 32
  · by_cases e : i = j
    · subst e; simp [q]
    · have e2 : ¬ j = i := fun z => e z.symm
      simp [q, e, e2]
  · have h2 : 65536 ≤ 2 ^ i := Nat.le_trans (by decide) (Nat.pow_le_pow_right (n := 2) (i := 16) (by decide) (show 16 ≤ i by omega))
    have : m.testBit i = false := Nat.testBit_lt_two_pow (by omega)
    simp [this]
theorem wo_le (m j : Nat) : wo m j ≤ m := Nat.and_le_left
theorem k_without {m j : Nat} (hj : j < 31) : f_X2_without (nI m) (nI j) = some (nI (wo m j)) := by
  rw [f_X2_without, sh1 j hj, show (-1 : Int32) = nI (2 ^ 32 - 1) by decide, nx_xor, nx_and]; rfl
theorem bits2 : ∀ a, a < 64 → ∀ b, b < 64 → f_J6_bitCount_0f7a4 (nI (64 * a + b)) = some (nI (kct (fun i => (64 * a + b).testBit i) 0 12)) := by decide +kernel
theorem k_bits {m : Nat} (hm : m < 4096) : f_J6_bitCount_0f7a4 (nI m) = some (nI (kct (fun i => m.testBit i) 0 12)) := by
  have := bits2 (m / 64) (by omega) (m % 64) (by omega)
  rw [show 64 * (m / 64) + m % 64 = m by omega] at this
  exact this
theorem kct_bits {m n : Nat} (hm : m < 2 ^ n) (hn : n ≤ 12) : kct (fun i => m.testBit i) 0 12 = kct (fun i => m.testBit i) 0 n :=
  kct_cut hn (fun i h1 _ => Nat.testBit_lt_two_pow (Nat.lt_of_lt_of_le hm (Nat.pow_le_pow_right (by decide) h1)))
section SH
variable {S T : kSt} {na ng nf nr day A B H : Nat}
theorem kR.A12 (h : kR S T na ng nf nr day A B H) : A < 4096 := by
  have h1 := h.2.2.2.1.1
  have h2 : 2 ^ na ≤ 2 ^ 10 := Nat.pow_le_pow_right (by decide) h.1.2.1
  omega
theorem kR.H12 (h : kR S T na ng nf nr day A B H) : H < 4096 := by
  have h1 := h.2.2.2.1.2.2.2
  have h2 : 2 ^ nf ≤ 2 ^ 12 := Nat.pow_le_pow_right (by decide) h.1.2.2.2.1
  omega
theorem kR.setH (h : kR S T na ng nf nr day A B H) {f H2 : Nat} {b : Bool} (hH : ∀ i, H2.testBit i = if i = f then b else H.testBit i) (hl : H2 < 2 ^ nf) : kR (va_up S.1 7 (nI H2), S.2) (T.1, va_up T.2 11 (upd (T.2 11) f (b2i b))) na ng nf nr day A B H2 := by
  obtain ⟨h1, h2, h3, h4, ⟨b1, b2, b3⟩, h6, h7, h8, h9, h10, h11, h12, h13, h14⟩ := h
  refine ⟨h1, ⟨h2.1, h2.2.1, h2.2.2.1, h2.2.2.2.1, h2.2.2.2.2.1, h2.2.2.2.2.2.1, h2.2.2.2.2.2.2.1, rfl⟩, h3, ⟨h4.1, h4.2.1, h4.2.2.1, hl⟩, ⟨b1, b2, fun i hi => ?_⟩, h6, h7, h8, h9, h10, h11, h12, h13, h14⟩
  show va_up T.2 11 (upd (T.2 11) f (b2i b)) 11 i = _
  rw [va_u, hH i]
  by_cases e : i = f
  · rw [if_pos e, if_pos e]
  · rw [if_neg e, if_neg e]; exact b3 i hi
theorem kR.setB (h : kR S T na ng nf nr day A B H) {f B2 : Nat} {b : Bool} (hB : ∀ i, B2.testBit i = if i = f then b else B.testBit i) (hl : B2 < 2 ^ 12) : kR (va_up S.1 6 (nI B2), S.2) (T.1, va_up T.2 10 (upd (T.2 10) f (b2i b))) na ng nf nr day A B2 H := by
  obtain ⟨h1, h2, h3, h4, ⟨b1, b2, b3⟩, h6, h7, h8, h9, h10, h11, h12, h13, h14⟩ := h
  refine ⟨h1, ⟨h2.1, h2.2.1, h2.2.2.1, h2.2.2.2.1, h2.2.2.2.2.1, h2.2.2.2.2.2.1, rfl, h2.2.2.2.2.2.2.2⟩, h3, ⟨h4.1, h4.2.1, hl, h4.2.2.2⟩, ⟨b1, fun i hi => ?_, b3⟩, h6, h7, h8, h9, h10, h11, h12, h13, h14⟩
  show va_up T.2 10 (upd (T.2 10) f (b2i b)) 10 i = _
  rw [va_u, hB i]
  by_cases e : i = f
  · rw [if_pos e, if_pos e]
  · rw [if_neg e, if_neg e]; exact b2 i hi
theorem kR.setOwn (h : kR S T na ng nf nr day A B H) {f : Nat} {x : Int32} (hx : ∃ j, j < na ∧ x = nI j) : kR (S.1, va_up S.2 9 (upd (S.2 9) f x)) (T.1, va_up T.2 8 (upd (T.2 8) f x)) na ng nf nr day A B H := by
  obtain ⟨h1, h2, h3, h4, h5, h6, h7, h8, h9, h10, h11, h12, h13, h14⟩ := h
  refine ⟨h1, h2, h3, h4, h5, h6, fun i hi => ?_, h8, h9, h10, h11, h12, h13, h14⟩
  show va_up T.2 8 (upd (T.2 8) f x) 8 i = va_up S.2 9 (upd (S.2 9) f x) 9 i ∧ ∃ j, j < na ∧ va_up S.2 9 (upd (S.2 9) f x) 9 i = nI j
  rw [va_u, va_u]
  by_cases e : i = f
  · rw [if_pos e, if_pos e]; exact ⟨rfl, hx⟩
  · rw [if_neg e, if_neg e]; exact h7 i hi
theorem kR.setSh (h : kR S T na ng nf nr day A B H) {f a w : Nat} (hf : f < nf) (ha : a < na) (hw : w ≤ 2) : kR (S.1, va_up S.2 14 (upd (S.2 14) (f * 10 + a) (nI w))) (T.1, va_up T.2 12 (upd (T.2 12) (10 * f + a) (nI w))) na ng nf nr day A B H := by
  obtain ⟨h1, h2, h3, h4, h5, h6, h7, h8, h9, h10, h11, h12, h13, h14⟩ := h
  refine ⟨h1, h2, h3, h4, h5, h6, h7, h8, h9, h10, h11, h12, fun k b hk hb => ?_, h14⟩
  show va_up T.2 12 (upd (T.2 12) (10 * f + a) (nI w)) 12 (10 * k + b) = va_up S.2 14 (upd (S.2 14) (f * 10 + a) (nI w)) 14 (k * 10 + b) ∧ (∃ v, v ≤ 2 ∧ va_up S.2 14 (upd (S.2 14) (f * 10 + a) (nI w)) 14 (k * 10 + b) = nI v) ∧ (_ → va_up S.2 14 (upd (S.2 14) (f * 10 + a) (nI w)) 14 (k * 10 + b) = 0)
  rw [va_u, va_u]
  by_cases e : k * 10 + b = f * 10 + a
  · rw [if_pos e, if_pos (by omega)]; exact ⟨rfl, ⟨w, hw, rfl⟩, fun z => absurd z (by omega)⟩
  · rw [if_neg e, if_neg (by omega)]; exact h13 k b hk hb
theorem kR.setGs (h : kR S T na ng nf nr day A B H) {f g w : Nat} (hf : f < nf) (hg : g < ng) (hw : w ≤ 2) : kR (S.1, va_up S.2 15 (upd (S.2 15) (f * 6 + g) (nI w))) (T.1, va_up T.2 13 (upd (T.2 13) (6 * f + g) (nI w))) na ng nf nr day A B H := by
  obtain ⟨h1, h2, h3, h4, h5, h6, h7, h8, h9, h10, h11, h12, h13, h14⟩ := h
  refine ⟨h1, h2, h3, h4, h5, h6, h7, h8, h9, h10, h11, h12, h13, fun k b hk hb => ?_⟩
  show va_up T.2 13 (upd (T.2 13) (6 * f + g) (nI w)) 13 (6 * k + b) = va_up S.2 15 (upd (S.2 15) (f * 6 + g) (nI w)) 15 (k * 6 + b) ∧ (∃ v, v ≤ 2 ∧ va_up S.2 15 (upd (S.2 15) (f * 6 + g) (nI w)) 15 (k * 6 + b) = nI v) ∧ (_ → va_up S.2 15 (upd (S.2 15) (f * 6 + g) (nI w)) 15 (k * 6 + b) = 0)
  rw [va_u, va_u]
  by_cases e : k * 6 + b = f * 6 + g
  · rw [if_pos e, if_pos (by omega)]; exact ⟨rfl, ⟨w, hw, rfl⟩, fun z => absurd z (by omega)⟩
  · rw [if_neg e, if_neg (by omega)]; exact h14 k b hk hb
theorem kR.heldT (h : kR S T na ng nf nr day A B H) {f : Nat} (hf : f < 12) : T.2 11 f = b2i (H.testBit f) := h.2.2.2.2.1.2.2 f hf
theorem kR.reH (h : kR S T na ng nf nr day A B H) {f : Nat} (hf : f < 12) (q : H.testBit f = false) : f_X2_requireNotHeld S (nI f) = some (.inl ()) := by
  rw [f_X2_requireNotHeld, h.isHeld (by omega), kbind, q, if_pos b2i_f]
theorem kR.reH' (h : kR S T na ng nf nr day A B H) {f : Nat} (hf : f < 12) (q : H.testBit f = true) : f_X2_requireNotHeld S (nI f) = some (.inr "java/lang/IllegalStateException") := by
  rw [f_X2_requireNotHeld, h.isHeld (by omega), kbind, q, if_neg b2i_t]
theorem m_held (h : kR S T na ng nf nr day A B H) : f_X3_held T = some (nI (kct (fun i => H.testBit i) 0 12)) := by
  have hnf := h.1.2.2.2.1
  have hL := loop_ct (fun n acc i => f_X3_held_L4 n T (nI acc) (nI i)) (fun i => H.testBit i) nf (fun acc => nI acc) ?_ ?_ nf 0 0 200 (by omega) (by omega)
  · rw [Nat.zero_add] at hL
    rw [kct_bits h.2.2.2.1.2.2.2 hnf]
    exact hL
  · intro n acc i hi
    show f_X3_held_L4 (n + 1) T (nI acc) (nI i) = f_X3_held_L4 n T (nI (acc + _)) (nI (i + 1))
    rw [f_X3_held_L4, h.2.2.1.2.2.1, if_neg (nI_ge hi (by omega)), if_pos (kin_nI (by omega) (by omega)), nI_clamp (by omega), h.heldT (by omega), nI_1, nI_1, z_add]
    cases H.testBit i with
    | false => rw [if_pos b2i_f]; rfl
    | true => rw [if_neg b2i_t]; rfl
  · intro n acc
    show f_X3_held_L4 (n + 1) T (nI acc) (nI nf) = some (nI acc)
    rw [f_X3_held_L4, h.2.2.1.2.2.1, if_pos (nI_le (Nat.le_refl nf) (by omega))]
theorem m_actives (h : kR S T na ng nf nr day A B H) : f_X3_actives T = some (nI (kct (fun i => A.testBit i) 0 12)) := by
  have hna := h.1.2.1
  have hL := loop_ct (fun n acc i => f_X3_actives_L4 n T (nI acc) (nI i)) (fun i => A.testBit i) na (fun acc => nI acc) ?_ ?_ na 0 0 200 (by omega) (by omega)
  · rw [Nat.zero_add] at hL
    rw [kct_bits h.2.2.2.1.1 (by omega)]
    exact hL
  · intro n acc i hi
    show f_X3_actives_L4 (n + 1) T (nI acc) (nI i) = f_X3_actives_L4 n T (nI (acc + _)) (nI (i + 1))
    rw [f_X3_actives_L4, h.2.2.1.1, if_neg (nI_ge hi (by omega)), if_pos (kin_nI (by omega) (by omega)), nI_clamp (by omega), m_left h hi, nI_1, nI_1, z_add]
    cases A.testBit i with
    | false => rw [if_neg (show ¬ b2i (!false) = 0 by decide)]; rfl
    | true => rw [if_pos (show b2i (!true) = 0 by decide)]; rfl
  · intro n acc
    show f_X3_actives_L4 (n + 1) T (nI acc) (nI na) = some (nI acc)
    rw [f_X3_actives_L4, h.2.2.1.1, if_pos (nI_le (Nat.le_refl na) (by omega))]
theorem k_active (h : kR S T na ng nf nr day A B H) : f_X2_active S = some (nI (kct (fun i => A.testBit i) 0 12)) := by
  rw [f_X2_active, h.2.1.2.2.2.2.2.1, k_bits h.A12, kbind]
theorem o_active (h : kR S T na ng nf nr day A B H) : ∃ v, f_X2_active S = some v ∧ f_X3_active T = some (v, tc T 0) := by
  refine ⟨_, k_active h, ?_⟩
  rw [f_X3_active, m_actives h, kbind, f_X3_tells, kbind]; rfl
theorem o_hold (h : kR S T na ng nf nr day A B H) (g : Nat → Int64) (p1 : Int32) : agL (f_L_hold S g p1) (f_X3_hold T p1) := by
  have hnf := h.1.2.2.2.1
  rcases idx p1 nf with ⟨f, hf, rfl⟩ | hb
  · cases q : H.testBit f with
    | true =>
      rw [f_L_hold, f_X2_hold, h.reF hf, kxb, h.reH' (by omega) q, kxb, kxs, f_X3_hold, h.noF hf, kbind, if_pos b2i_f, if_pos (kin_nI (by omega) (by omega)), nI_clamp (by omega), h.heldT (by omega), q, if_neg b2i_t, fails2, kbind]
      exact agL.f h.x 2 (by decide)
    | false =>
      have hp : 2 ^ f < 2 ^ nf := Nat.pow_lt_pow_right (by decide) hf
      have h2 := (h.tc 0).setH (f := f) (H2 := H ||| 2 ^ f) (b := true) (fun i => by rw [fb_bit_set]; by_cases e : i = f <;> simp [e]) (Nat.or_lt_two_pow h.2.2.2.1.2.2.2 hp)
      have e7 : (va_up S.1 7 (nI (H ||| 2 ^ f)), S.2).1 7 = nI (H ||| 2 ^ f) := rfl
      rw [f_L_hold, f_X2_hold, h.reF hf, kxb, h.reH (by omega) q, kxb, h.2.1.2.2.2.2.2.2.2, k_with (by omega), kbind, e7, k_bits h2.H12, kbind, kxs, f_X3_hold, h.noF hf, kbind, if_pos b2i_f, if_pos (kin_nI (by omega) (by omega)), nI_clamp (by omega), h.heldT (by omega), q, if_pos b2i_f, fails0, kbind]
      dsimp only
      rw [if_pos b2i_f, if_pos (kin_nI (by omega) (by omega)), show vp_nar .boolean (1 : Int32) = b2i true from rfl, m_held h2, kbind]
      exact agL.s h2.x (tc_18 T 0)
  · rw [f_L_hold, f_X2_hold, h.reF' hb, kxb, kxs, f_X3_hold, h.noF' hb, kbind, if_neg b2i_t, fails1, kbind]
    exact agL.f h.x 1 (by decide)
theorem kbool_b (b : Bool) : kbool (b2i b) = some b := by cases b <;> rfl
theorem o_setBroken (h : kR S T na ng nf nr day A B H) (g : Nat → Int64) (p1 : Int32) (p2 : Bool) : agB (f_L_setBroken S g p1 p2) (f_X3_setBroken T p1 p2) := by
  have hnf := h.1.2.2.2.1
  rcases idx p1 nf with ⟨f, hf, rfl⟩ | hb
  · cases q : H.testBit f with
    | true =>
      rw [f_L_setBroken, f_X2_setBroken, h.reF hf, kxb, h.reH' (by omega) q, kxb, kxs, f_X3_setBroken, h.noF hf, kbind, if_pos b2i_f, if_pos (kin_nI (by omega) (by omega)), nI_clamp (by omega), h.heldT (by omega), q, if_neg b2i_t, fails2, kbind]
      exact agB.f h.x 2 (by decide)
    | false =>
      have hB := h.2.2.2.1.2.2.1
      have hp : 2 ^ f < 2 ^ 12 := Nat.pow_lt_pow_right (by decide) (by omega)
      have e3 : f_X3_setBroken T (nI f) p2 = some (B.testBit f, ((tc T 0).1, va_up (tc T 0).2 10 (upd ((tc T 0).2 10) f (b2i p2)))) := by
        rw [f_X3_setBroken, h.noF hf, kbind, if_pos b2i_f, if_pos (kin_nI (by omega) (by omega)), nI_clamp (by omega), h.heldT (by omega), q, if_pos b2i_f, fails0, kbind]
        dsimp only
        rw [if_pos b2i_f, if_pos (kin_nI (by omega) (by omega)), if_pos (kin_nI (by omega) (by omega)), (h.tc 0).2.2.2.2.1.2.1 f (by omega), kbool_b, kbind, vnb]
      rw [f_L_setBroken, f_X2_setBroken, h.reF hf, kxb, h.reH (by omega) q, kxb, h.2.1.2.2.2.2.2.2.1, contains_bit h.B16 (by omega), kbind, e3]
      cases p2 with
      | false =>
        have h2 := (h.tc 0).setB (f := f) (B2 := wo B f) (b := false) (fun i => by rw [wo_bit h.B16]; by_cases e : i = f <;> simp [e]) (Nat.lt_of_le_of_lt (wo_le B f) hB)
        rw [if_pos b2i_f, k_without (by omega), kbind, kxs]
        exact agB.s h2.x (tc_18 T 0)
      | true =>
        have h2 := (h.tc 0).setB (f := f) (B2 := B ||| 2 ^ f) (b := true) (fun i => by rw [fb_bit_set]; by_cases e : i = f <;> simp [e]) (Nat.or_lt_two_pow hB hp)
        rw [if_neg b2i_t, k_with (by omega), kbind, kxs]
        exact agB.s h2.x (tc_18 T 0)
  · rw [f_L_setBroken, f_X2_setBroken, h.reF' hb, kxb, kxs, f_X3_setBroken, h.noF' hb, kbind, if_neg b2i_t, fails1, kbind]
    exact agB.f h.x 1 (by decide)
theorem sh_z {w : Nat} (h : w ≤ 2) : nI w ≤ 0 ↔ nI w = 0 := by
  have h0 : (0 : Int32).toInt = 0 := rfl
  rw [fa_le, fa_eq, nI_toInt (by omega), h0]; omega
theorem m_sharesOf (h : kR S T na ng nf nr day A B H) {f : Nat} (hf : f < 12) : f_X3_sharesOf T (nI f) = some (nI (kct (fun c => decide (S.2 14 (f * 10 + c) ≠ 0)) 0 10 + kct (fun c => decide (S.2 15 (f * 6 + c) ≠ 0)) 0 6)) := by
  have hL := loop_ct (fun n acc i => f_X3_sharesOf_L4 n T (nI f) (nI acc) (nI i)) (fun c => decide (S.2 14 (f * 10 + c) ≠ 0)) 10 (fun acc => nI (acc + kct (fun c => decide (S.2 15 (f * 6 + c) ≠ 0)) 0 6)) ?_ ?_ 10 0 0 200 (by omega) (by omega)
  · rw [Nat.zero_add] at hL; rw [f_X3_sharesOf]; exact hL
  · intro n acc i hi
    show f_X3_sharesOf_L4 (n + 1) T (nI f) (nI acc) (nI i) = f_X3_sharesOf_L4 n T (nI f) (nI (acc + _)) (nI (i + 1))
    obtain ⟨e1, ⟨w, hw, e2⟩, -⟩ := h.2.2.2.2.2.2.2.2.2.2.2.2.1 f i hf hi
    have hge : ¬ (10 : Int32) ≤ nI i := nI_ge (b := 10) hi (by omega)
    rw [f_X3_sharesOf_L4, if_neg hge, mul10, if_pos (kin_nI (by omega) (by omega)), nI_clamp (by omega), e1, nI_1, nI_1, z_add, e2]
    by_cases z : nI w = 0
    · rw [if_pos ((sh_z hw).mpr z), if_neg (by simp [z])]; rfl
    · rw [if_neg (fun y => z ((sh_z hw).mp y)), if_pos (by simp [z])]
  · intro n acc
    show f_X3_sharesOf_L4 (n + 1) T (nI f) (nI acc) 10 = some (nI (acc + _))
    rw [f_X3_sharesOf_L4, if_pos (by decide)]
    have hL := loop_ct (fun n acc i => f_X3_sharesOf_L40 n T (nI f) (nI acc) (nI i)) (fun c => decide (S.2 15 (f * 6 + c) ≠ 0)) 6 (fun acc => nI acc) ?_ ?_ 6 0 acc 200 (by omega) (by omega)
    · exact hL
    · intro n acc i hi
      show f_X3_sharesOf_L40 (n + 1) T (nI f) (nI acc) (nI i) = f_X3_sharesOf_L40 n T (nI f) (nI (acc + _)) (nI (i + 1))
      obtain ⟨e1, ⟨w, hw, e2⟩, -⟩ := h.2.2.2.2.2.2.2.2.2.2.2.2.2 f i hf hi
      have hge : ¬ (6 : Int32) ≤ nI i := nI_ge (b := 6) hi (by omega)
      rw [f_X3_sharesOf_L40, if_neg hge, mul6, if_pos (kin_nI (by omega) (by omega)), nI_clamp (by omega), e1, nI_1, nI_1, z_add, e2]
      by_cases z : nI w = 0
      · rw [if_pos ((sh_z hw).mpr z), if_neg (by simp [z])]; rfl
      · rw [if_neg (fun y => z ((sh_z hw).mp y)), if_pos (by simp [z])]
    · intro n acc
      show f_X3_sharesOf_L40 (n + 1) T (nI f) (nI acc) 6 = some (nI acc)
      rw [f_X3_sharesOf_L40, if_pos (by decide)]
theorem k_sharesOf (h : kR S T na ng nf nr day A B H) {f : Nat} (hf : f < 12) : f_X2_sharesOf S (nI f) = some (nI (kct (fun c => decide (S.2 14 (f * 10 + c) ≠ 0)) 0 10 + kct (fun c => decide (S.2 15 (f * 6 + c) ≠ 0)) 0 6)) := by
  have e1 : f_X0_filled 120 10 (S.2 14) (nI f) = some (nI (kct (fun c => decide (S.2 14 (f * 10 + c) ≠ 0)) 0 10)) := filled_grid (W := 10) (by omega) (by omega) (by omega)
  have e2 : f_X0_filled 72 6 (S.2 15) (nI f) = some (nI (kct (fun c => decide (S.2 15 (f * 6 + c) ≠ 0)) 0 6)) := filled_grid (W := 6) (by omega) (by omega) (by omega)
  rw [f_X2_sharesOf, e1, kbind, e2, kbind, nI_add]
theorem in2_ok {w : Nat} (hw : w < 3) : f_X3_in (nI w) 0 2 = some true := by
  have e : (2 : Int32) = nI 3 - 1 := by decide
  rw [e]; exact in_ok hw (by omega)
theorem in2_no {x : Int32} (hb : bad x 3) : f_X3_in x 0 2 = some false := by
  have e : (2 : Int32) = nI 3 - 1 := by decide
  rw [e]; exact in_no hb (by omega)
theorem rr_ok {w : Nat} (hw : w < 3) : f_X2_requireRight (nI w) 0 2 = some (.inl ()) := by
  have e : nI w ≤ (2 : Int32) := nI_le (b := 2) (by omega) (by omega)
  rw [f_X2_requireRight, if_neg (nI_pos (by omega)), if_pos e]
theorem rr_no {x : Int32} (hb : bad x 3) : f_X2_requireRight x 0 2 = some (.inr "java/lang/IllegalArgumentException") := by
  have h0 : (0 : Int32).toInt = 0 := rfl
  have h2 : (2 : Int32).toInt = 2 := rfl
  rw [f_X2_requireRight]
  rcases hb with q | q
  · rw [if_pos (by rw [fa_lt, h0]; exact q)]
  · rw [if_neg (fun z => by rw [fa_lt, h0] at z; omega), if_neg (fun z => by rw [fa_le, h2] at z; omega)]
theorem kept1 {x y : Int32} : f_X3_isKept T false x y = some (true, tc T 1) := by rw [f_X3_isKept, if_pos b2i_f, fails1, kbind]
theorem kept2 {x y : Int32} (hb : bad y 3) : f_X3_isKept T true x y = some (true, tc T 2) := by rw [f_X3_isKept, if_neg b2i_t, in2_no hb, kbind, if_pos b2i_f, fails2, kbind]
theorem k_kept3 (h : kR S T na ng nf nr day A B H) {f w : Nat} (hf : f < 12) (hw : w < 3) (q : H.testBit f = true) : f_X3_isKept T true (nI f) (nI w) = some (true, tc T 3) := by
  rw [f_X3_isKept, if_neg b2i_t, in2_ok hw, kbind, if_neg b2i_t, if_pos (kin_nI (by omega) (by omega)), nI_clamp (by omega), h.heldT hf, q, if_neg b2i_t, fails3, kbind]
theorem k_kept0 (h : kR S T na ng nf nr day A B H) {f w : Nat} (hf : f < 12) (hw : w < 3) (q : H.testBit f = false) : f_X3_isKept T true (nI f) (nI w) = some (false, tc T 0) := by
  rw [f_X3_isKept, if_neg b2i_t, in2_ok hw, kbind, if_neg b2i_t, if_pos (kin_nI (by omega) (by omega)), nI_clamp (by omega), h.heldT hf, q, if_pos b2i_f, fails0, kbind]
theorem o_shareWith (h : kR S T na ng nf nr day A B H) (g : Nat → Int64) (p1 p2 p3 : Int32) : agL (f_L_shareWith S g p1 p2 p3) (f_X3_shareWith T p1 p2 p3) := by
  have hna := h.1.2.1
  have hnf := h.1.2.2.2.1
  rcases idx p1 nf with ⟨f, hf, rfl⟩ | hb
  · rcases idx p2 na with ⟨a, ha, rfl⟩ | hb
    · rcases idx p3 3 with ⟨w, hw, rfl⟩ | hb
      · cases q : H.testBit f with
        | true =>
          rw [f_L_shareWith, f_X2_shareWith, h.reF hf, kxb, h.reA ha, kxb, rr_ok hw, kxb, h.reH' (by omega) q, kxb, kxs, f_X3_shareWith, h.noF hf, kbind, if_pos b2i_f, h.noA ha, kbind, if_pos b2i_f, k_kept3 h (by omega) hw q, kbind]
          exact agL.f h.x 3 (by decide)
        | false =>
          have h2 := (h.tc 0).setSh (w := w) hf ha (by omega)
          rw [f_L_shareWith, f_X2_shareWith, h.reF hf, kxb, h.reA ha, kxb, rr_ok hw, kxb, h.reH (by omega) q, kxb, put120 (by omega) (by omega), kbind, k_sharesOf h2 (by omega), kbind, kxs, f_X3_shareWith, h.noF hf, kbind, if_pos b2i_f, h.noA ha, kbind, if_pos b2i_f, k_kept0 h (by omega) hw q, kbind]
          dsimp only
          rw [if_pos b2i_f, mul10, if_pos (kin_nI (by omega) (by omega)), nI_clamp (by omega), m_sharesOf h2 (by omega), kbind]
          exact agL.s h2.x (tc_18 T 0)
      · rw [f_L_shareWith, f_X2_shareWith, h.reF hf, kxb, h.reA ha, kxb, rr_no hb, kxb, kxs, f_X3_shareWith, h.noF hf, kbind, if_pos b2i_f, h.noA ha, kbind, if_pos b2i_f, kept2 hb, kbind]
        exact agL.f h.x 2 (by decide)
    · rw [f_L_shareWith, f_X2_shareWith, h.reF hf, kxb, h.reA' hb, kxb, kxs, f_X3_shareWith, h.noF hf, kbind, if_pos b2i_f, h.noA' hb, kbind, if_neg b2i_t, kept1, kbind]
      exact agL.f h.x 1 (by decide)
  · rw [f_L_shareWith, f_X2_shareWith, h.reF' hb, kxb, kxs, f_X3_shareWith, h.noF' hb, kbind, if_neg b2i_t, kept1, kbind]
    exact agL.f h.x 1 (by decide)
theorem o_shareWithGroup (h : kR S T na ng nf nr day A B H) (gg : Nat → Int64) (p1 p2 p3 : Int32) : agL (f_L_shareWithGroup S gg p1 p2 p3) (f_X3_shareWithGroup T p1 p2 p3) := by
  have hng := h.1.2.2.1
  have hnf := h.1.2.2.2.1
  rcases idx p1 nf with ⟨f, hf, rfl⟩ | hb
  · rcases idx p2 ng with ⟨g, hg, rfl⟩ | hb
    · rcases idx p3 3 with ⟨w, hw, rfl⟩ | hb
      · cases q : H.testBit f with
        | true =>
          rw [f_L_shareWithGroup, f_X2_shareWithGroup, h.reF hf, kxb, h.reG hg, kxb, rr_ok hw, kxb, h.reH' (by omega) q, kxb, kxs, f_X3_shareWithGroup, h.noF hf, kbind, if_pos b2i_f, h.noG hg, kbind, if_pos b2i_f, k_kept3 h (by omega) hw q, kbind]
          exact agL.f h.x 3 (by decide)
        | false =>
          have h2 := (h.tc 0).setGs (w := w) hf hg (by omega)
          rw [f_L_shareWithGroup, f_X2_shareWithGroup, h.reF hf, kxb, h.reG hg, kxb, rr_ok hw, kxb, h.reH (by omega) q, kxb, put72 (by omega) (by omega), kbind, k_sharesOf h2 (by omega), kbind, kxs, f_X3_shareWithGroup, h.noF hf, kbind, if_pos b2i_f, h.noG hg, kbind, if_pos b2i_f, k_kept0 h (by omega) hw q, kbind]
          dsimp only
          rw [if_pos b2i_f, mul6, if_pos (kin_nI (by omega) (by omega)), nI_clamp (by omega), m_sharesOf h2 (by omega), kbind]
          exact agL.s h2.x (tc_18 T 0)
      · rw [f_L_shareWithGroup, f_X2_shareWithGroup, h.reF hf, kxb, h.reG hg, kxb, rr_no hb, kxb, kxs, f_X3_shareWithGroup, h.noF hf, kbind, if_pos b2i_f, h.noG hg, kbind, if_pos b2i_f, kept2 hb, kbind]
        exact agL.f h.x 2 (by decide)
    · rw [f_L_shareWithGroup, f_X2_shareWithGroup, h.reF hf, kxb, h.reG' hb, kxb, kxs, f_X3_shareWithGroup, h.noF hf, kbind, if_pos b2i_f, h.noG' hb, kbind, if_neg b2i_t, kept1, kbind]
      exact agL.f h.x 1 (by decide)
  · rw [f_L_shareWithGroup, f_X2_shareWithGroup, h.reF' hb, kxb, kxs, f_X3_shareWithGroup, h.noF' hb, kbind, if_neg b2i_t, kept1, kbind]
    exact agL.f h.x 1 (by decide)
end SH
