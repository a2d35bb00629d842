/-! ONE CALL ON BOTH SIDES -/
def kRx (S T : kSt) : Prop := ∃ na ng nf nr day A B H, kR S T na ng nf nr day A B H
theorem kR.x {S T : kSt} {na ng nf nr day A B H : Nat} (h : kR S T na ng nf nr day A B H) : kRx S T := ⟨na, ng, nf, nr, day, A, B, H, h⟩
def bad (x : Int32) (n : Nat) : Prop := x.toInt < 0 ∨ (n : Int) ≤ x.toInt
theorem idx (x : Int32) (n : Nat) : (∃ j, j < n ∧ x = nI j) ∨ bad x n := by
  by_cases q : 0 ≤ x.toInt ∧ x.toInt < n
  · refine Or.inl ⟨x.toInt.toNat, by omega, ?_⟩
    have := fb_rng x
    rw [fa_eq, nI_toInt (by omega)]; omega
  · exact Or.inr (by unfold bad; omega)
theorem in_ok {n j : Nat} (hj : j < n) (hn : n < 2 ^ 31) : f_X3_in (nI j) 0 (nI n - 1) = some true := by
  have e : (nI n - 1 : Int32).toInt = (n : Int) - 1 := by
    have h1 : (1 : Int32).toInt = 1 := rfl
    rw [fb_subI (by rw [nI_toInt hn, h1]; omega) (by rw [nI_toInt hn, h1]; omega), nI_toInt hn, h1]
  have e2 := nI_toInt (n := j) (by omega)
  rw [f_X3_in, if_neg (nI_pos (by omega)), if_neg (fun z => by rw [fa_lt, e, e2] at z; omega)]
theorem in_no {x : Int32} {n : Nat} (hb : bad x n) (hn : n < 2 ^ 31) : f_X3_in x 0 (nI n - 1) = some false := by
  have e : (nI n - 1 : Int32).toInt = (n : Int) - 1 := by
    have h1 : (1 : Int32).toInt = 1 := rfl
    rw [fb_subI (by rw [nI_toInt hn, h1]; omega) (by rw [nI_toInt hn, h1]; omega), nI_toInt hn, h1]
  have h0 : (0 : Int32).toInt = 0 := rfl
  rw [f_X3_in]
  rcases hb with q | q
  · rw [if_pos (by rw [fa_lt, h0]; exact q)]
  · rw [if_neg (fun z => by rw [fa_lt, h0] at z; omega), if_pos (by rw [fa_lt, e]; omega)]
theorem re_ok {n j : Nat} (hj : j < n) (hn : n < 2 ^ 31) {α : Type} (u v w : α) : (if nI j < 0 then u else (if nI j < nI n then v else w)) = v := by
  rw [if_neg (nI_pos (by omega)), if_pos (nI_lt hj hn)]
theorem re_no {x : Int32} {n : Nat} (hb : bad x n) (hn : n < 2 ^ 31) {α : Type} (u v : α) : (if x < 0 then u else (if x < nI n then v else u)) = u := by
  rcases hb with q | q
  · have h0 : (0 : Int32).toInt = 0 := rfl
    rw [if_pos (by rw [fa_lt, h0]; exact q)]
  · rw [if_neg (c := x < nI n) (fun z => by rw [fa_lt, nI_toInt hn] at z; omega), ite_self]
theorem fails0 (T : kSt) : f_X3_fails T 0 = some (false, tc T 0) := if_pos (by decide)
theorem fails1 (T : kSt) : f_X3_fails T 1 = some (true, tc T 1) := if_neg (by decide)
theorem fails2 (T : kSt) : f_X3_fails T 2 = some (true, tc T 2) := if_neg (by decide)
theorem fails3 (T : kSt) : f_X3_fails T 3 = some (true, tc T 3) := if_neg (by decide)
theorem tc_18 (T : kSt) (c : Int32) : (tc T c).1 18 = c := by show va_up T.1 18 c 18 = c; exact va_up_self _ _ _
theorem tc_o (T : kSt) (c : Int32) {k : Nat} (h : k ≠ 18) : (tc T c).1 k = T.1 k := va_up_ne _ _ h
section HP
variable {S T : kSt} {na ng nf nr day A B H : Nat}
theorem kR.tc (h : kR S T na ng nf nr day A B H) (c : Int32) : kR S (tc T c) na ng nf nr day A B H := h.sameC (sameC.tc T c)
theorem kR.noA (h : kR S T na ng nf nr day A B H) {j : Nat} (hj : j < na) : f_X3_isNoAccount T (nI j) = some false := by
  have := h.1.2.1
  rw [f_X3_isNoAccount, h.2.2.1.1, in_ok hj (by omega), kbind, if_neg b2i_t]
theorem kR.noA' (h : kR S T na ng nf nr day A B H) {x : Int32} (hb : bad x na) : f_X3_isNoAccount T x = some true := by
  have := h.1.2.1
  rw [f_X3_isNoAccount, h.2.2.1.1, in_no hb (by omega), kbind, if_pos b2i_f]
theorem kR.noG (h : kR S T na ng nf nr day A B H) {j : Nat} (hj : j < ng) : f_X3_isNoGroup T (nI j) = some false := by
  have := h.1.2.2.1
  rw [f_X3_isNoGroup, h.2.2.1.2.1, in_ok hj (by omega), kbind, if_neg b2i_t]
theorem kR.noG' (h : kR S T na ng nf nr day A B H) {x : Int32} (hb : bad x ng) : f_X3_isNoGroup T x = some true := by
  have := h.1.2.2.1
  rw [f_X3_isNoGroup, h.2.2.1.2.1, in_no hb (by omega), kbind, if_pos b2i_f]
theorem kR.noF (h : kR S T na ng nf nr day A B H) {j : Nat} (hj : j < nf) : f_X3_isNoFolder T (nI j) = some false := by
  have := h.1.2.2.2.1
  rw [f_X3_isNoFolder, h.2.2.1.2.2.1, in_ok hj (by omega), kbind, if_neg b2i_t]
theorem kR.noF' (h : kR S T na ng nf nr day A B H) {x : Int32} (hb : bad x nf) : f_X3_isNoFolder T x = some true := by
  have := h.1.2.2.2.1
  rw [f_X3_isNoFolder, h.2.2.1.2.2.1, in_no hb (by omega), kbind, if_pos b2i_f]
theorem kR.noR (h : kR S T na ng nf nr day A B H) {j : Nat} (hj : j < nr) : f_X3_isNoRoom T (nI j) = some false := by
  have := h.1.2.2.2.2.1
  rw [f_X3_isNoRoom, h.2.2.1.2.2.2.1, in_ok hj (by omega), kbind, if_neg b2i_t]
theorem kR.noR' (h : kR S T na ng nf nr day A B H) {x : Int32} (hb : bad x nr) : f_X3_isNoRoom T x = some true := by
  have := h.1.2.2.2.2.1
  rw [f_X3_isNoRoom, h.2.2.1.2.2.2.1, in_no hb (by omega), kbind, if_pos b2i_f]
theorem kR.reA (h : kR S T na ng nf nr day A B H) {j : Nat} (hj : j < na) : f_X2_requireAccount S (nI j) = some (.inl ()) := by
  have := h.1.2.1
  rw [f_X2_requireAccount, h.2.1.1]; exact re_ok hj (by omega) _ _ _
theorem kR.reA' (h : kR S T na ng nf nr day A B H) {x : Int32} (hb : bad x na) : f_X2_requireAccount S x = some (.inr "java/lang/IndexOutOfBoundsException") := by
  have := h.1.2.1
  rw [f_X2_requireAccount, h.2.1.1]; exact re_no hb (by omega) _ _
theorem kR.reG (h : kR S T na ng nf nr day A B H) {j : Nat} (hj : j < ng) : f_X2_requireGroup S (nI j) = some (.inl ()) := by
  have := h.1.2.2.1
  rw [f_X2_requireGroup, h.2.1.2.1]; exact re_ok hj (by omega) _ _ _
theorem kR.reG' (h : kR S T na ng nf nr day A B H) {x : Int32} (hb : bad x ng) : f_X2_requireGroup S x = some (.inr "java/lang/IndexOutOfBoundsException") := by
  have := h.1.2.2.1
  rw [f_X2_requireGroup, h.2.1.2.1]; exact re_no hb (by omega) _ _
theorem kR.reF (h : kR S T na ng nf nr day A B H) {j : Nat} (hj : j < nf) : f_X2_requireFolder S (nI j) = some (.inl ()) := by
  have := h.1.2.2.2.1
  rw [f_X2_requireFolder, h.2.1.2.2.1]; exact re_ok hj (by omega) _ _ _
theorem kR.reF' (h : kR S T na ng nf nr day A B H) {x : Int32} (hb : bad x nf) : f_X2_requireFolder S x = some (.inr "java/lang/IndexOutOfBoundsException") := by
  have := h.1.2.2.2.1
  rw [f_X2_requireFolder, h.2.1.2.2.1]; exact re_no hb (by omega) _ _
theorem kR.reR (h : kR S T na ng nf nr day A B H) {j : Nat} (hj : j < nr) : f_X2_requireRoom S (nI j) = some (.inl ()) := by
  have := h.1.2.2.2.2.1
  rw [f_X2_requireRoom, h.2.1.2.2.2.1]; exact re_ok hj (by omega) _ _ _
theorem kR.reR' (h : kR S T na ng nf nr day A B H) {x : Int32} (hb : bad x nr) : f_X2_requireRoom S x = some (.inr "java/lang/IndexOutOfBoundsException") := by
  have := h.1.2.2.2.2.1
  rw [f_X2_requireRoom, h.2.1.2.2.2.1]; exact re_no hb (by omega) _ _
end HP
def agL (o : Option (Int32 × kSt × (Nat → Int64))) (t : Option (Int32 × kSt)) : Prop := ∃ c S2 g2 w T2, o = some (c, S2, g2) ∧ t = some (w, T2) ∧ kRx S2 T2 ∧ T2.1 18 = c ∧ (c = 0 → g2 (0 : Int32).toNatClampNeg = w.toInt64)
def agB (o : Option (Int32 × kSt × (Nat → Int64))) (t : Option (Bool × kSt)) : Prop := ∃ c S2 g2 w T2, o = some (c, S2, g2) ∧ t = some (w, T2) ∧ kRx S2 T2 ∧ T2.1 18 = c ∧ (c = 0 → g2 (0 : Int32).toNatClampNeg = if b2i w = 0 then (0 : Int64) else 1)
theorem agL.f {S T : kSt} {g : Nat → Int64} {w : Int32} (h : kRx S T) (c : Int32) (hc : c ≠ 0) : agL (some (c, S, g)) (some (w, tc T c)) := by
  obtain ⟨_, _, _, _, _, _, _, _, h⟩ := h
  exact ⟨c, S, g, w, tc T c, rfl, rfl, (h.tc c).x, tc_18 T c, fun e => absurd e hc⟩
theorem agL.s {S T : kSt} {g : Nat → Int64} {w : Int32} (h : kRx S T) (h18 : T.1 18 = 0) : agL (some (0, S, vp_updL g (0 : Int32).toNatClampNeg w.toInt64)) (some (w, T)) := ⟨0, S, _, w, T, rfl, rfl, h, h18, fun _ => if_pos rfl⟩
theorem agB.f {S T : kSt} {g : Nat → Int64} {w : Bool} (h : kRx S T) (c : Int32) (hc : c ≠ 0) : agB (some (c, S, g)) (some (w, tc T c)) := by
  obtain ⟨_, _, _, _, _, _, _, _, h⟩ := h
  exact ⟨c, S, g, w, tc T c, rfl, rfl, (h.tc c).x, tc_18 T c, fun e => absurd e hc⟩
theorem agB.s {S T : kSt} {g : Nat → Int64} {w : Bool} (h : kRx S T) (h18 : T.1 18 = 0) : agB (if b2i w = 0 then some (0, S, vp_updL g (0 : Int32).toNatClampNeg 0) else some (0, S, vp_updL g (0 : Int32).toNatClampNeg 1)) (some (w, T)) := by
  cases w with
  | false => exact ⟨0, S, _, false, T, rfl, rfl, h, h18, fun _ => if_pos rfl⟩
  | true => exact ⟨0, S, _, true, T, rfl, rfl, h, h18, fun _ => if_pos rfl⟩
theorem lgc {x y : Int64} (h : x = y) : lg_cmp x y = 0 := by
  unfold lg_cmp
  rw [h, if_neg (fun z => by have z2 : y < y := z; rw [fa_lt64] at z2; omega), if_pos rfl]
section OA
variable {S T : kSt} {na ng nf nr day A B H : Nat}
theorem o_addAccount (h : kR S T na ng nf nr day A B H) (g : Nat → Int64) : agL (f_L_addAccount S g) (f_X3_addAccount T) := by
  have hna := h.1.2.1
  by_cases q : na = 10
  · have e1 : f_X2_addAccount S = some (.inr "java/lang/IllegalStateException", S) := by
      rw [f_X2_addAccount, h.2.1.1, q, if_neg (by decide)]
    rw [f_L_addAccount, e1, f_X3_addAccount, h.2.2.1.1, q, if_pos (by decide), fails1, kbind]
    exact agL.f h.x 1 (by decide)
  · have e0 : nI na < (10 : Int32) := nI_lt (b := 10) (by omega) (by omega)
    have e3 : ¬ nI na = (10 : Int32) := fun z => q ((nI_eq (b := 10) (by omega) (by omega)).mp z)
    have e1 : f_X2_addAccount S = some (.inl (nI na), (va_up (va_up S.1 0 (nI (na + 1))) 5 (nI (A ||| 2 ^ na)), S.2)) := by
      have e5 : (va_up S.1 0 (nI (na + 1)), S.2).1 5 = nI A := h.2.1.2.2.2.2.2.1
      rw [f_X2_addAccount, h.2.1.1, if_pos e0, nI_1, e5, k_with (by omega), kbind]
    have e2 : f_X3_addAccount T = some (nI na, (va_up (tc T 0).1 0 (nI (na + 1)), T.2)) := by
      rw [f_X3_addAccount, h.2.2.1.1, if_neg e3, fails0, kbind]
      dsimp only
      rw [if_pos b2i_f, (h.tc 0).2.2.1.1, nI_1, va_up_self, nI_pred]
      rfl
    rw [f_L_addAccount, e1, e2]
    obtain ⟨h1, h2, h3, h4, ⟨b1, b2, b3⟩, h6, h7, h8, h9, h10, h11, h12, h13, h14⟩ := h
    have hp : 2 ^ na < 2 ^ (na + 1) := Nat.pow_lt_pow_right (by decide) (Nat.lt_succ_self na)
    refine agL.s ⟨na + 1, ng, nf, nr, day, A ||| 2 ^ na, B, H, ⟨by omega, by omega, h1.2.2⟩, ⟨rfl, h2.2.1, h2.2.2.1, h2.2.2.2.1, h2.2.2.2.2.1, rfl, h2.2.2.2.2.2.2⟩, ⟨rfl, h3.2⟩, ⟨Nat.or_lt_two_pow (Nat.lt_trans h4.1 hp) hp, by rw [Nat.testBit_or, h4.2.1]; rfl, h4.2.2⟩, ⟨fun i hi => ?_, b2, b3⟩, fun i hi => ?_, fun f hf => ?_, h8, h9, fun a g ha hg => ?_, h11, h12, fun f a hf ha => ?_, h14⟩ ?_
    · refine (b1 i hi).trans ?_
      rw [fb_bit_set]
      by_cases e : i = na
      · simp [e]
      · have : (i < na + 1) ↔ (i < na) := by omega
        simp [e, this]
    · obtain ⟨a1, a2⟩ := h6 i hi
      exact ⟨a1, a2.imp id (fun ⟨j, hj, e⟩ => ⟨j, by omega, e⟩)⟩
    · obtain ⟨a1, j, hj, e⟩ := h7 f hf
      exact ⟨a1, j, by omega, e⟩
    · obtain ⟨a1, a2, a3⟩ := h10 a g ha hg
      exact ⟨a1, a2, fun z => a3 (by omega)⟩
    · obtain ⟨a1, a2, a3⟩ := h13 f a hf ha
      exact ⟨a1, a2, fun z => a3 (by omega)⟩
    · exact tc_18 T 0
end OA
