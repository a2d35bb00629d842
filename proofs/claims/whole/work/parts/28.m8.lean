/-! MEMBERSHIPS, SHARES, HOLDING -/
def okEnd (day : Nat) (x : Int32) : Prop := x = -1 ∨ ∃ e : Nat, day < e ∧ e ≤ 999 ∧ x = nI e
def badEnd (day : Nat) (x : Int32) : Prop := x ≠ -1 ∧ (x.toInt ≤ (day : Int) ∨ 999 < x.toInt)
theorem idxE (x : Int32) (day : Nat) : okEnd day x ∨ badEnd day x := by
  by_cases q : x = -1
  · exact Or.inl (Or.inl q)
  · by_cases q2 : x.toInt ≤ (day : Int) ∨ 999 < x.toInt
    · exact Or.inr ⟨q, q2⟩
    · refine Or.inl (Or.inr ⟨x.toInt.toNat, by omega, by omega, ?_⟩)
      have := fb_rng x
      rw [fa_eq, nI_toInt (by omega)]; omega
theorem okEnd.e {day : Nat} {x : Int32} (h : okEnd day x) : okE day x := Or.inr h
theorem okEnd.nz {day : Nat} {x : Int32} (h : okEnd day x) : x ≠ 0 := by
  rcases h with rfl | ⟨e, h1, h2, rfl⟩
  · decide
  · exact nI_ne0 (by omega) (by omega)
section EN
variable {S T : kSt} {na ng nf nr day A B H : Nat}
theorem kR.noE (h : kR S T na ng nf nr day A B H) {x : Int32} (hx : okEnd day x) : f_X3_isNoEnd T x = some false := by
  have hd := h.1.2.2.2.2.2
  rw [f_X3_isNoEnd]
  rcases hx with rfl | ⟨e, h1, h2, rfl⟩
  · rw [if_pos rfl]
  · have h9 : (999 : Int32).toInt = 999 := by decide
    rw [if_neg (nI_m1 (by omega)), h.2.2.1.2.2.2.2, nI_1, f_X3_in, if_neg (nI_nlt (by omega) (by omega)), if_neg (fun z => by rw [fa_lt, h9, nI_toInt (by omega)] at z; omega), kbind, if_neg b2i_t]
theorem kR.noE' (h : kR S T na ng nf nr day A B H) {x : Int32} (hx : badEnd day x) : f_X3_isNoEnd T x = some true := by
  have hd := h.1.2.2.2.2.2
  obtain ⟨h1, h2⟩ := hx
  have h9 : (999 : Int32).toInt = 999 := by decide
  rw [f_X3_isNoEnd, if_neg h1, h.2.2.1.2.2.2.2, nI_1, f_X3_in]
  rcases h2 with q | q
  · rw [if_pos (by rw [fa_lt, nI_toInt (by omega)]; omega), kbind, if_pos b2i_f]
  · rw [if_neg (fun z => by rw [fa_lt, nI_toInt (by omega)] at z; omega), if_pos (by rw [fa_lt, h9]; exact q), kbind, if_pos b2i_f]
theorem kR.reE (h : kR S T na ng nf nr day A B H) {x : Int32} (hx : okEnd day x) : f_X2_requireEnd S x = some (.inl ()) := by
  have hd := h.1.2.2.2.2.2
  rw [f_X2_requireEnd]
  rcases hx with rfl | ⟨e, h1, h2, rfl⟩
  · rw [if_pos rfl]
  · have h9 : (999 : Int32).toInt = 999 := by decide
    rw [if_neg (nI_m1 (by omega)), h.2.1.2.2.2.2.1, if_neg (nI_ge (by omega) (by omega)), if_pos (by rw [fa_le, h9, nI_toInt (by omega)]; omega)]
theorem kR.reE' (h : kR S T na ng nf nr day A B H) {x : Int32} (hx : badEnd day x) : f_X2_requireEnd S x = some (.inr "java/lang/IllegalArgumentException") := by
  have hd := h.1.2.2.2.2.2
  obtain ⟨h1, h2⟩ := hx
  have h9 : (999 : Int32).toInt = 999 := by decide
  rw [f_X2_requireEnd, if_neg h1, h.2.1.2.2.2.2.1]
  by_cases q : x.toInt ≤ (day : Int)
  · rw [if_pos (by rw [fa_le, nI_toInt (by omega)]; omega)]
  · rw [if_neg (fun z => by rw [fa_le, nI_toInt (by omega)] at z; omega), if_neg (fun z => by rw [fa_le, h9] at z; omega)]
theorem kR.setMem (h : kR S T na ng nf nr day A B H) {a g : Nat} {x : Int32} (ha : a < na) (hg : g < ng) (hx : okE day x) : kR (S.1, va_up S.2 12 (upd (S.2 12) (g * 10 + a) x)) (T.1, va_up T.2 4 (upd (T.2 4) (6 * a + g) (encT x))) na ng nf nr day A B H := by
  obtain ⟨h1, h2, h3, h4, h5, h6, h7, h8, h9, h10, h11, h12, h13, h14⟩ := h
  refine ⟨h1, h2, h3, h4, h5, h6, h7, h8, h9, fun b k hb hk => ?_, h11, h12, h13, h14⟩
  show va_up T.2 4 (upd (T.2 4) (6 * a + g) (encT x)) 4 (6 * b + k) = encT (va_up S.2 12 (upd (S.2 12) (g * 10 + a) x) 12 (k * 10 + b)) ∧ okE day (va_up S.2 12 (upd (S.2 12) (g * 10 + a) x) 12 (k * 10 + b)) ∧ (_ → va_up S.2 12 (upd (S.2 12) (g * 10 + a) x) 12 (k * 10 + b) = 0)
  rw [va_u, va_u]
  by_cases e : k * 10 + b = g * 10 + a
  · rw [if_pos e, if_pos (by omega)]; exact ⟨rfl, hx, fun z => absurd z (by omega)⟩
  · rw [if_neg e, if_neg (by omega)]; exact h10 b k hb hk
theorem kR.setNest (h : kR S T na ng nf nr day A B H) {i o : Nat} {x : Int32} (hi : i < ng) (ho : o < ng) (hx : okE day x) (hr : ¬ rch S o i) : kR (S.1, va_up S.2 13 (upd (S.2 13) (o * 6 + i) x)) (T.1, va_up T.2 5 (upd (T.2 5) (6 * i + o) (encT x))) na ng nf nr day A B H := by
  obtain ⟨h1, h2, h3, h4, h5, h6, h7, h8, h9, h10, h11, ⟨rk, hrk⟩, h13, h14⟩ := h
  have hng := h1.2.2.1
  refine ⟨h1, h2, h3, h4, h5, h6, h7, h8, h9, h10, fun b k hb hk => ?_, ⟨fun z => rk z + if rB S o z = true then rk i + 1 else 0, fun b k hb hk he => ?_⟩, h13, h14⟩
  · show va_up T.2 5 (upd (T.2 5) (6 * i + o) (encT x)) 5 (6 * b + k) = encT (va_up S.2 13 (upd (S.2 13) (o * 6 + i) x) 13 (k * 6 + b)) ∧ okE day (va_up S.2 13 (upd (S.2 13) (o * 6 + i) x) 13 (k * 6 + b)) ∧ (_ → va_up S.2 13 (upd (S.2 13) (o * 6 + i) x) 13 (k * 6 + b) = 0)
    rw [va_u, va_u]
    by_cases e : k * 6 + b = o * 6 + i
    · rw [if_pos e, if_pos (by omega)]; exact ⟨rfl, hx, fun z => absurd z (by omega)⟩
    · rw [if_neg e, if_neg (by omega)]; exact h11 b k hb hk
  · show rk b + (if rB S o b = true then rk i + 1 else 0) < rk k + (if rB S o k = true then rk i + 1 else 0)
    by_cases e : k * 6 + b = o * 6 + i
    · have e1 : b = i := by omega
      have e2 : k = o := by omega
      rw [e1, e2, if_neg (fun z => hr (rB_iff.mp z)), if_pos (rB_iff.mpr (rch_refl S o))]; omega
    · have he2 : edg S b k = true := by
        have he3 : decide (va_up S.2 13 (upd (S.2 13) (o * 6 + i) x) 13 (k * 6 + b) ≠ 0) = true := he
        rw [va_u, if_neg e] at he3; exact he3
      have h9 := hrk b k hb hk he2
      by_cases q : rch S o b
      · rw [if_pos (rB_iff.mpr q), if_pos (rB_iff.mpr (rch_trans q (rch_step hk he2 (rch_refl S k))))]; omega
      · rw [if_neg (fun z => q (rB_iff.mp z))]; omega
theorem kR.filledM (h : kR S T na ng nf nr day A B H) {g : Nat} (hg : g < 6) : f_X0_filled 60 10 (S.2 12) (nI g) = some (nI (kct (fun a => mbr S a g) 0 10)) :=
  filled_grid (W := 10) (by omega) (by omega) (by omega)
theorem kR.filledN (h : kR S T na ng nf nr day A B H) {o : Nat} (ho : o < 6) : f_X0_filled 36 6 (S.2 13) (nI o) = some (nI (kct (fun i => edg S i o) 0 6)) :=
  filled_grid (W := 6) (by omega) (by omega) (by omega)
theorem z_add (n : Nat) : nI n + (0 : Int32) = nI n := by rw [show (0 : Int32) = nI 0 from rfl, nI_add, Nat.add_zero]
theorem m_membersOf (h : kR S T na ng nf nr day A B H) {g : Nat} (hg : g < 6) : f_X3_membersOf T (nI g) = some (nI (kct (fun a => mbr S a g) 0 10)) := by
  have hna := h.1.2.1
  have hL := loop_ct (fun n acc i => f_X3_membersOf_L4 n T (nI g) (nI acc) (nI i)) (fun a => mbr S a g) na (fun acc => nI acc) ?_ ?_ na 0 0 200 (by omega) (by omega)
  · rw [Nat.zero_add] at hL
    rw [kct_cut hna (fun i h1 h2 => by have := (h.2.2.2.2.2.2.2.2.2.1 i g h2 hg).2.2 (Or.inl h1); simp [mbr, this])]
    exact hL
  · intro n acc i hi
    show f_X3_membersOf_L4 (n + 1) T (nI g) (nI acc) (nI i) = f_X3_membersOf_L4 n T (nI g) (nI (acc + _)) (nI (i + 1))
    obtain ⟨e1, e2, -⟩ := h.2.2.2.2.2.2.2.2.2.1 i g (by omega) hg
    rw [f_X3_membersOf_L4, h.2.2.1.1, if_neg (nI_ge hi (by omega)), mul6, if_pos (kin_nI (by omega) (by omega)), nI_clamp (by omega), e1, nI_1, nI_1, z_add]
    by_cases z : S.2 12 (g * 10 + i) = 0
    · rw [if_pos ((encT_le e2).mpr z), if_neg (by simp [mbr, z])]; rfl
    · rw [if_neg (fun y => z ((encT_le e2).mp y)), if_pos (by simp [mbr, z])]
  · intro n acc
    show f_X3_membersOf_L4 (n + 1) T (nI g) (nI acc) (nI na) = some (nI acc)
    rw [f_X3_membersOf_L4, h.2.2.1.1, if_pos (nI_le (Nat.le_refl na) (by omega))]
theorem m_nestCount (h : kR S T na ng nf nr day A B H) {o : Nat} (ho : o < 6) : f_X3_nest_L84 200 T (nI o) 0 0 = some (nI (kct (fun i => edg S i o) 0 6), T) := by
  have hng := h.1.2.2.1
  have hL := loop_ct (fun n acc i => f_X3_nest_L84 n T (nI o) (nI acc) (nI i)) (fun i => edg S i o) ng (fun acc => (nI acc, T)) ?_ ?_ ng 0 0 200 (by omega) (by omega)
  · rw [Nat.zero_add] at hL
    rw [kct_cut hng (fun i h1 h2 => h.ez i o h2 ho (Or.inl h1))]
    exact hL
  · intro n acc i hi
    show f_X3_nest_L84 (n + 1) T (nI o) (nI acc) (nI i) = f_X3_nest_L84 n T (nI o) (nI (acc + _)) (nI (i + 1))
    rw [f_X3_nest_L84, h.2.2.1.2.1, if_neg (nI_ge hi (by omega)), m_isNested h.2.2.2.2.2.2.2.2.2.2.1 (by omega) ho, kbind, nI_1, nI_1, z_add]
    cases edg S i o with
    | false => rw [if_pos b2i_f]; rfl
    | true => rw [if_neg b2i_t]; rfl
  · intro n acc
    show f_X3_nest_L84 (n + 1) T (nI o) (nI acc) (nI ng) = some (nI acc, T)
    rw [f_X3_nest_L84, h.2.2.1.2.1, if_pos (nI_le (Nat.le_refl ng) (by omega))]
theorem put60 {a g : Nat} {x : Int32} {f : Nat → Int32} (ha : a < 10) (hg : g < 6) : f_X0_put 60 10 f (nI g) (nI a) x = some (upd f (g * 10 + a) x) := put_grid (W := 10) (by omega) (by omega) (by omega) (by omega)
theorem put36 {i o : Nat} {x : Int32} {f : Nat → Int32} (hi : i < 6) (ho : o < 6) : f_X0_put 36 6 f (nI o) (nI i) x = some (upd f (o * 6 + i) x) := put_grid (W := 6) (by omega) (by omega) (by omega) (by omega)
theorem put120 {a f : Nat} {x : Int32} {q : Nat → Int32} (ha : a < 10) (hf : f < 12) : f_X0_put 120 10 q (nI f) (nI a) x = some (upd q (f * 10 + a) x) := put_grid (W := 10) (by omega) (by omega) (by omega) (by omega)
theorem put72 {g f : Nat} {x : Int32} {q : Nat → Int32} (hg : g < 6) (hf : f < 12) : f_X0_put 72 6 q (nI f) (nI g) x = some (upd q (f * 6 + g) x) := put_grid (W := 6) (by omega) (by omega) (by omega) (by omega)
theorem o_join (h : kR S T na ng nf nr day A B H) (gg : Nat → Int64) (p1 p2 p3 : Int32) : agL (f_L_join S gg p1 p2 p3) (f_X3_join T p1 p2 p3) := by
  have hna := h.1.2.1
  have hng := h.1.2.2.1
  rcases idx p1 na with ⟨a, ha, rfl⟩ | hb
  · rcases idx p2 ng with ⟨g, hg, rfl⟩ | hb
    · rcases idxE p3 day with hx | hb
      · rw [f_L_join, f_X2_join, h.reA ha, kxb, h.reG hg, kxb, h.reE hx, kxb, h.isActive (by omega), kbind, f_X3_join, h.noA ha, kbind, if_pos b2i_f, h.noG hg, kbind, if_pos b2i_f, h.noE hx, kbind, if_pos b2i_f, if_pos (kin_nI (by omega) (by omega)), nI_clamp (by omega), m_left h ha]
        cases A.testBit a with
        | false =>
          rw [if_pos b2i_f, if_neg (show ¬ b2i (!false) = 0 by decide), kxs, fails3, kbind]
          exact agL.f h.x 3 (by decide)
        | true =>
          have h2 := (h.tc 0).setMem ha hg hx.e
          rw [if_neg b2i_t, put60 (by omega) (by omega), kbind, h2.filledM (by omega), kbind, kxs, if_pos (show b2i (!true) = 0 by decide), fails0, kbind]
          dsimp only
          rw [if_pos b2i_f, mul6, if_pos (kin_nI (by omega) (by omega)), nI_clamp (by omega), if_pos (kin_nI (by omega) (by omega))]
          by_cases q : p3 = -1
          · have e9 : encT p3 = 9999 := by rw [encT, if_pos q]
            rw [e9] at h2
            rw [if_pos q, m_membersOf h2 (by omega), kbind]
            exact agL.s h2.x (tc_18 T 0)
          · have e9 : encT p3 = p3 := by rw [encT, if_neg q]
            rw [e9] at h2
            rw [if_neg q, m_membersOf h2 (by omega), kbind]
            exact agL.s h2.x (tc_18 T 0)
      · rw [f_L_join, f_X2_join, h.reA ha, kxb, h.reG hg, kxb, h.reE' hb, kxb, kxs, f_X3_join, h.noA ha, kbind, if_pos b2i_f, h.noG hg, kbind, if_pos b2i_f, h.noE' hb, kbind, if_neg b2i_t, fails2, kbind]
        exact agL.f h.x 2 (by decide)
    · rw [f_L_join, f_X2_join, h.reA ha, kxb, h.reG' hb, kxb, kxs, f_X3_join, h.noA ha, kbind, if_pos b2i_f, h.noG' hb, kbind, if_neg b2i_t, fails1, kbind]
      exact agL.f h.x 1 (by decide)
  · rw [f_L_join, f_X2_join, h.reA' hb, kxb, kxs, f_X3_join, h.noA' hb, kbind, if_neg b2i_t, fails1, kbind]
    exact agL.f h.x 1 (by decide)
theorem o_drop (h : kR S T na ng nf nr day A B H) (gg : Nat → Int64) (p1 p2 : Int32) : agL (f_L_drop S gg p1 p2) (f_X3_drop T p1 p2) := by
  have hna := h.1.2.1
  have hng := h.1.2.2.1
  rcases idx p1 na with ⟨a, ha, rfl⟩ | hb
  · rcases idx p2 ng with ⟨g, hg, rfl⟩ | hb
    · obtain ⟨e1, e2, -⟩ := h.2.2.2.2.2.2.2.2.2.1 a g (by omega) (by omega)
      rw [f_L_drop, f_X2_drop, h.reA ha, kxb, h.reG hg, kxb, k_isMember (by omega) (by omega), kbind, f_X3_drop, h.noA ha, kbind, if_pos b2i_f, h.noG hg, kbind, if_pos b2i_f, mul6, if_pos (kin_nI (by omega) (by omega)), nI_clamp (by omega), e1]
      by_cases z : S.2 12 (g * 10 + a) = 0
      · rw [show mbr S a g = false by simp [mbr, z], if_pos b2i_f, if_pos ((encT_z e2).mpr z), kxs, fails2, kbind]
        exact agL.f h.x 2 (by decide)
      · have h2 := (h.tc 0).setMem (x := 0) ha hg (Or.inl rfl)
        have e9 : encT 0 = 0 := by decide
        rw [show mbr S a g = true by simp [mbr, z], if_neg b2i_t, put60 (by omega) (by omega), kbind, h2.filledM (by omega), kbind, kxs, if_neg (fun y => z ((encT_z e2).mp y)), fails0, kbind]
        dsimp only
        rw [e9] at h2
        rw [if_pos b2i_f, if_pos (kin_nI (by omega) (by omega)), m_membersOf h2 (by omega), kbind]
        exact agL.s h2.x (tc_18 T 0)
    · rw [f_L_drop, f_X2_drop, h.reA ha, kxb, h.reG' hb, kxb, kxs, f_X3_drop, h.noA ha, kbind, if_pos b2i_f, h.noG' hb, kbind, if_neg b2i_t, fails1, kbind]
      exact agL.f h.x 1 (by decide)
  · rw [f_L_drop, f_X2_drop, h.reA' hb, kxb, kxs, f_X3_drop, h.noA' hb, kbind, if_neg b2i_t, fails1, kbind]
    exact agL.f h.x 1 (by decide)
theorem o_nest (h : kR S T na ng nf nr day A B H) (gg : Nat → Int64) (p1 p2 p3 : Int32) : agL (f_L_nest S gg p1 p2 p3) (f_X3_nest T p1 p2 p3) := by
  have hng := h.1.2.2.1
  rcases idx p1 ng with ⟨i, hi, rfl⟩ | hb
  · rcases idx p2 ng with ⟨o, ho, rfl⟩ | hb
    · rcases idxE p3 day with hx | hb
      · obtain ⟨rk, hrk⟩ := h.2.2.2.2.2.2.2.2.2.2.2.1
        have hup := upc_6 (rk := rk) (x := o) (by omega)
        have hw : f_X2_with (0 : Int32) (nI o) = some (nI (0 ||| 2 ^ o)) := k_with (m := 0) (by omega)
        have hp : 2 ^ o < 2 ^ 6 := Nat.pow_lt_pow_right (by decide) (by omega)
        obtain ⟨M, b1, b2, b3⟩ := k_andAll (M0 := 0 ||| 2 ^ o) h.2.1.2.1 hng h.ez (by rw [Nat.zero_or]; exact hp)
        have hc : M.testBit i = rB S o i := by
          refine beq_of ?_
          rw [b3 i, rB_iff]
          constructor
          · rintro ⟨g0, c1, c2⟩
            rw [fb_bit_set, Nat.zero_testBit, Bool.false_or, decide_eq_true_eq] at c1
            rw [← c1]; exact c2
          · intro c
            exact ⟨o, by rw [fb_bit_set]; simp, c⟩
        rw [f_L_nest, f_X2_nest, h.reG hi, kxb, h.reG ho, kxb, h.reE hx, kxb, hw, kbind, b1, kbind, contains_bit (by omega) (by omega), kbind, hc, f_X3_nest, h.noG hi, kbind, if_pos b2i_f, h.noG ho, kbind, if_pos b2i_f, h.noE hx, kbind, if_pos b2i_f, m_leads h.2.2.2.2.2.2.2.2.2.2.1 h.2.2.1.2.1 hng hrk 8 o i (by omega) (by omega) (by omega), kbind]
        by_cases q : rch S o i
        · rw [rB_iff.mpr q, if_neg b2i_t, if_neg b2i_t, kxs, fails3, kbind]
          exact agL.f h.x 3 (by decide)
        · have hq : rB S o i = false := by cases e : rB S o i with | false => rfl | true => exact absurd (rB_iff.mp e) q
          have h2 := (h.tc 0).setNest hi ho hx.e q
          rw [hq, if_pos b2i_f, put36 (by omega) (by omega), kbind, h2.filledN (by omega), kbind, kxs, if_pos b2i_f, fails0, kbind]
          dsimp only
          rw [if_pos b2i_f, mul6, if_pos (kin_nI (by omega) (by omega)), nI_clamp (by omega), if_pos (kin_nI (by omega) (by omega))]
          by_cases q : p3 = -1
          · have e9 : encT p3 = 9999 := by rw [encT, if_pos q]
            rw [e9] at h2
            rw [if_pos q, m_nestCount h2 (by omega)]
            exact agL.s h2.x (tc_18 T 0)
          · have e9 : encT p3 = p3 := by rw [encT, if_neg q]
            rw [e9] at h2
            rw [if_neg q, m_nestCount h2 (by omega)]
            exact agL.s h2.x (tc_18 T 0)
      · rw [f_L_nest, f_X2_nest, h.reG hi, kxb, h.reG ho, kxb, h.reE' hb, kxb, kxs, f_X3_nest, h.noG hi, kbind, if_pos b2i_f, h.noG ho, kbind, if_pos b2i_f, h.noE' hb, kbind, if_neg b2i_t, fails2, kbind]
        exact agL.f h.x 2 (by decide)
    · rw [f_L_nest, f_X2_nest, h.reG hi, kxb, h.reG' hb, kxb, kxs, f_X3_nest, h.noG hi, kbind, if_pos b2i_f, h.noG' hb, kbind, if_neg b2i_t, fails1, kbind]
      exact agL.f h.x 1 (by decide)
  · rw [f_L_nest, f_X2_nest, h.reG' hb, kxb, kxs, f_X3_nest, h.noG' hb, kbind, if_neg b2i_t, fails1, kbind]
    exact agL.f h.x 1 (by decide)
end EN
