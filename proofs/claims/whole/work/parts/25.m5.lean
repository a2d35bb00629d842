/-! WHO KEEPS A FOLDER -/
def tc (T : kSt) (c : Int32) : kSt := (va_up T.1 18 c, T.2)
theorem sameC.tc (T : kSt) (c : Int32) : sameC T (tc T c) := ⟨fun _ hk => va_up_ne _ _ hk, fun _ _ _ => rfl⟩
section KP
variable {S T : kSt} {na ng nf nr day A B H : Nat}
theorem heir_stuck (h : kR S T na ng nf nr day A B H) {l : Nat} (hl : l < na) {C : Nat → Bool} (hC : ∀ i, C i = true → i < na ∧ (i = l ∨ A.testBit i = false) ∧ ∃ j, C j = true ∧ S.2 8 i = nI j) :
    ∀ r cnt i n, cnt + r = 10 → r < n → C i = true → f_X2_firstActiveHeir_L11 n S (nI l) (nI i) (nI cnt) = some (-1) := by
  have hna := h.1.2.1
  intro r
  induction r with
  | zero =>
    intro cnt i n h1 h2 h3
    obtain ⟨n, rfl⟩ : ∃ z, n = z + 1 := ⟨n - 1, by omega⟩
    have e : (10 : Int32) ≤ nI cnt := nI_le (a := 10) (by omega) (by omega)
    rw [f_X2_firstActiveHeir_L11, if_pos e]
  | succ r ih =>
    intro cnt i n h1 h2 h3
    obtain ⟨n, rfl⟩ : ∃ z, n = z + 1 := ⟨n - 1, by omega⟩
    have e : ¬ (10 : Int32) ≤ nI cnt := nI_ge (b := 10) (by omega) (by omega)
    obtain ⟨c1, c2, j, c3, c4⟩ := hC i h3
    have hat : f_X1_at 10 (-1) (S.2 8) (nI i) = some (nI j) := by rw [at_row (by omega) (by omega), c4]
    rw [f_X2_firstActiveHeir_L11, if_neg e, if_neg (nI_m1 (by omega))]
    by_cases q : i = l
    · rw [if_pos (by rw [q]), hat, kbind, nI_1]; exact ih (cnt + 1) j n (by omega) (by omega) c3
    · rw [if_neg (fun z => q ((nI_eq (by omega) (by omega)).mp z)), h.isActive (by omega), kbind, c2.resolve_left q, if_pos b2i_f, hat, kbind, nI_1]; exact ih (cnt + 1) j n (by omega) (by omega) c3
theorem heir_walk (h : kR S T na ng nf nr day A B H) {l : Nat} (hl : l < na) :
    ∀ r cnt x (sn : Nat → Bool) T9 n m, cnt + r = 10 → r < n → r < m → sameT T T9 → (∀ i, i < na → T9.2 16 i = b2i (sn i)) → sn l = true →
      (∀ i, sn i = true → i < na ∧ (i = l ∨ A.testBit i = false) ∧ (S.2 8 i = x ∨ ∃ j, sn j = true ∧ S.2 8 i = nI j)) → cnt + 1 ≤ kct sn 0 10 → (x = -1 ∨ ∃ j, j < na ∧ x = nI j) →
      ∃ v T2, f_X2_firstActiveHeir_L11 n S (nI l) x (nI cnt) = some v ∧ f_X3_heirOf_L39 m T9 x = some (v, T2) ∧ sameT T T2 ∧ (v = -1 ∨ ∃ j, j < na ∧ v = nI j ∧ A.testBit j = true) := by
  have hna := h.1.2.1
  intro r
  induction r with
  | zero =>
    intro cnt x sn T9 n m h1 _ _ _ _ _ _ h8
    have := kct_le sn 10 0
    omega
  | succ r ih =>
    intro cnt x sn T9 n m h1 h2 h3 h4 h5 h6 h7 h8 h9
    obtain ⟨n, rfl⟩ : ∃ z, n = z + 1 := ⟨n - 1, by omega⟩
    obtain ⟨m, rfl⟩ : ∃ z, m = z + 1 := ⟨m - 1, by omega⟩
    have e : ¬ (10 : Int32) ≤ nI cnt := nI_ge (b := 10) (by omega) (by omega)
    have hR9 := h.same h4
    rcases h9 with e1 | ⟨j, hj, e1⟩
    · refine ⟨-1, T9, ?_, ?_, h4, Or.inl rfl⟩
      · rw [e1, f_X2_firstActiveHeir_L11, if_neg e, if_pos rfl]
      · rw [e1, f_X3_heirOf_L39, if_pos (by decide)]
    · cases hs : sn j with
      | true =>
        refine ⟨-1, T9, ?_, ?_, h4, Or.inl rfl⟩
        · rw [e1]
          refine heir_stuck h hl (C := sn) (fun i hi => ?_) (r + 1) cnt j (n + 1) h1 h2 hs
          obtain ⟨a1, a2, a3⟩ := h7 i hi
          refine ⟨a1, a2, ?_⟩
          rcases a3 with a3 | a3
          · exact ⟨j, hs, by rw [a3, e1]⟩
          · exact a3
        · rw [e1, f_X3_heirOf_L39, if_neg (nI_pos (by omega)), if_pos (kin_nI (by omega) (by omega)), nI_clamp (by omega), h5 j hj, hs, if_neg b2i_t]
      | false =>
        have hjl : ¬ j = l := fun z => by rw [z, h6] at hs; cases hs
        have hK : f_X2_firstActiveHeir_L11 (n + 1) S (nI l) x (nI cnt) = (if b2i (A.testBit j) = 0 then f_X2_firstActiveHeir_L11 n S (nI l) (S.2 8 j) (nI (cnt + 1)) else some (nI j)) := by
          rw [e1, f_X2_firstActiveHeir_L11, if_neg e, if_neg (nI_m1 (by omega)), if_neg (fun z => hjl ((nI_eq (by omega) (by omega)).mp z)), h.isActive (by omega), kbind, at_row (by omega) (by omega), kbind, nI_1]
        have hM : f_X3_heirOf_L39 (m + 1) T9 x = (if b2i (!A.testBit j) = 0 then some (nI j, T9) else f_X3_heirOf_L39 m (T9.1, va_up T9.2 16 (upd (T9.2 16) j (b2i true))) (S.2 8 j)) := by
          have hh : va_up T9.2 16 (upd (T9.2 16) j (b2i true)) 2 j = S.2 8 j := (congrFun (va_up_ne T9.2 (upd (T9.2 16) j (b2i true)) (by decide)) j).trans (hR9.2.2.2.2.2.1 j (by omega)).1
          rw [e1, f_X3_heirOf_L39, if_neg (nI_pos (by omega)), if_pos (kin_nI (by omega) (by omega)), nI_clamp (by omega), h5 j hj, hs, if_pos b2i_f, if_pos (kin_nI (by omega) (by omega)), m_left hR9 hj, if_pos (kin_nI (by omega) (by omega)), if_pos (kin_nI (by omega) (by omega))]
          rw [← hh]
          rfl
        cases hA : A.testBit j with
        | true =>
          refine ⟨nI j, T9, ?_, ?_, h4, Or.inr ⟨j, hj, rfl, hA⟩⟩
          · rw [hK, hA, if_neg b2i_t]
          · rw [hM, hA]; exact if_pos b2i_f
        | false =>
          rw [hK, hM, hA, if_pos b2i_f, if_neg (show ¬ b2i (!false) = 0 by decide)]
          refine ih (cnt + 1) (S.2 8 j) (fun i => decide (i = j) || sn i) (T9.1, va_up T9.2 16 (upd (T9.2 16) j (b2i true))) n m (by omega) (by omega) (by omega) ⟨fun k => h4.1 k, fun k k6 k16 => ?_⟩ (fun i hi => ?_) (by simp [h6]) (fun i hi => ?_) ?_ ?_
          · exact (va_up_ne T9.2 _ k16).trans (h4.2 k k6 k16)
          · show va_up T9.2 16 (upd (T9.2 16) j (b2i true)) 16 i = b2i (decide (i = j) || sn i)
            rw [va_up_self]
            show (if i = j then b2i true else T9.2 16 i) = _
            by_cases q : i = j
            · rw [if_pos q]; simp [q]
            · rw [if_neg q, h5 i hi]; simp [q]
          · by_cases q : i = j
            · exact ⟨by omega, Or.inr (by rw [q]; exact hA), Or.inl (by rw [q])⟩
            · have hi2 : sn i = true := by simpa [q] using hi
              obtain ⟨a1, a2, a3⟩ := h7 i hi2
              refine ⟨a1, a2, Or.inr ?_⟩
              rcases a3 with a3 | ⟨z, a4, a5⟩
              · exact ⟨j, by simp, by rw [a3, e1]⟩
              · exact ⟨z, by simp [a4], a5⟩
          · have := kct_lt (p := sn) (q := fun i => decide (i = j) || sn i) 10 0 (fun i _ _ hi => by simp [hi]) ⟨j, by omega, by omega, hs, by simp⟩
            omega
          · exact (h.2.2.2.2.2.1 j (by omega)).2
theorem m_heirOf (h : kR S T na ng nf nr day A B H) {l : Nat} (hl : l < na) :
    ∃ v T2, f_X2_firstActiveHeir S (nI l) = some v ∧ f_X3_heirOf T (nI l) = some (v, T2) ∧ sameT T T2 ∧ (v = -1 ∨ ∃ j, j < na ∧ v = nI j ∧ A.testBit j = true) := by
  have hna := h.1.2.1
  have hW : ∀ T9, sameT T T9 → (∀ g, g < na → T9.2 16 g = b2i (decide (g = l))) → ∃ v T2, f_X2_firstActiveHeir_L11 200 S (nI l) (S.2 8 l) (nI 0) = some v ∧ f_X3_heirOf_L39 200 T9 (S.2 8 l) = some (v, T2) ∧ sameT T T2 ∧ (v = -1 ∨ ∃ j, j < na ∧ v = nI j ∧ A.testBit j = true) := by
    intro T9 h1 h2
    refine heir_walk h hl 10 0 (S.2 8 l) (fun i => decide (i = l)) T9 200 200 rfl (by omega) (by omega) h1 h2 (by simp) (fun i hi => ?_) ?_ (h.2.2.2.2.2.1 l (by omega)).2
    · have e : i = l := by simpa using hi
      exact ⟨by omega, Or.inl e, Or.inl (by rw [e])⟩
    · rcases Nat.eq_zero_or_pos (kct (fun i => decide (i = l)) 0 10) with z | z
      · have := (kct_zero 10 0).mp z l (by omega) (by omega)
        simp at this
      · omega
  have hL := loop_st (fun n (T9 : kSt) j => f_X3_heirOf_L2 n T9 (nI l) (nI j)) (fun j T9 => sameT T T9 ∧ ∀ g, g < j → T9.2 16 g = b2i (decide (g = l))) (fun T9 j => (T9.1, va_up T9.2 16 (upd (T9.2 16) j (b2i (decide (j = l)))))) na (fun T9 => (f_X3_heirOf_L39 200 T9 (S.2 8 l)).getD (0, T9)) ?_ ?_ na 0 T 200 (by omega) (by omega) ⟨sameT.rf T, fun g hg => absurd hg (by omega)⟩
  · obtain ⟨h1, h2, h3⟩ := hL
    obtain ⟨v, T2, a1, a2, a3, a4⟩ := hW _ h2 h3
    refine ⟨v, T2, ?_, ?_, a3, a4⟩
    · rw [f_X2_firstActiveHeir, at_row (by omega) (by omega), kbind]; exact a1
    · rw [f_X3_heirOf]
      refine Eq.trans h1 ?_
      rw [a2]; rfl
  · rintro n T9 j hj ⟨h1, h2⟩
    have hR9 := h.same h1
    refine ⟨?_, ⟨fun k => h1.1 k, fun k h6 h16 => ?_⟩, fun g hg => ?_⟩
    · show f_X3_heirOf_L2 (n + 1) T9 (nI l) (nI j) = f_X3_heirOf_L2 n (T9.1, va_up T9.2 16 (upd (T9.2 16) j (b2i (decide (j = l))))) (nI l) (nI (j + 1))
      rw [f_X3_heirOf_L2, hR9.2.2.1.1, if_neg (nI_ge hj (by omega)), nI_clamp (by omega), nI_1]
      by_cases q : j = l
      · rw [if_pos (by rw [q]), if_pos (kin_nI (by omega) (by omega)), show decide (j = l) = true by simp [q]]; rfl
      · rw [if_neg (fun z => q ((nI_eq (by omega) (by omega)).mp z)), if_pos (kin_nI (by omega) (by omega)), show decide (j = l) = false by simp [q]]; rfl
    · show va_up T9.2 16 _ k = T.2 k
      rw [va_up_ne _ _ h16]; exact h1.2 k h6 h16
    · show va_up T9.2 16 (upd (T9.2 16) j (b2i (decide (j = l)))) 16 g = b2i (decide (g = l))
      rw [va_up_self]
      show (if g = j then b2i (decide (j = l)) else T9.2 16 g) = b2i (decide (g = l))
      by_cases e : g = j
      · rw [if_pos e, e]
      · rw [if_neg e]; exact h2 g (by omega)
  · rintro n T9 ⟨h1, h2⟩
    have hR9 := h.same h1
    show f_X3_heirOf_L2 (n + 1) T9 (nI l) (nI na) = some ((f_X3_heirOf_L39 200 T9 (S.2 8 l)).getD (0, T9))
    rw [f_X3_heirOf_L2, hR9.2.2.1.1, if_pos (nI_le (Nat.le_refl na) (by omega)), if_pos (kin_nI (by omega) (by omega)), nI_clamp (by omega), (hR9.2.2.2.2.2.1 l (by omega)).1]
    obtain ⟨v, T2, a1, a2, a3, a4⟩ := hW _ h1 h2
    rw [a2]; rfl
theorem own_walk (h : kR S T na ng nf nr day A B H) {o : Nat} (ho : o < na) :
    ∀ r cnt gv n m, cnt ≤ 12 → (gv = -1 ∨ ∃ p, p < nf ∧ p < r ∧ cnt + p < 12 ∧ gv = nI p) → r < n → r < m → ∃ v, f_X2_ownerAbove_L12 n S (nI o) gv (nI cnt) = some v ∧ f_X3_keeperOf_L28 m T (nI o) gv = some (v, T) ∧ ∃ j, j < na ∧ v = nI j := by
  have hna := h.1.2.1
  have hna1 := h.1.1
  have hnf := h.1.2.2.2.1
  have hm1 : ∀ cnt gv n m, cnt ≤ 12 → gv = -1 → 0 < n → 0 < m → ∃ v, f_X2_ownerAbove_L12 n S (nI o) gv (nI cnt) = some v ∧ f_X3_keeperOf_L28 m T (nI o) gv = some (v, T) ∧ ∃ j, j < na ∧ v = nI j := by
    intro cnt gv n m hc e h1 h2
    obtain ⟨n, rfl⟩ : ∃ z, n = z + 1 := ⟨n - 1, by omega⟩
    obtain ⟨m, rfl⟩ : ∃ z, m = z + 1 := ⟨m - 1, by omega⟩
    have hne : ¬ (-1 : Int32) = nI o := fun z => nI_m1 (by omega) z.symm
    refine ⟨0, ?_, ?_, 0, by omega, rfl⟩
    · have hF : ((f_X1_at 12 (-1) (S.2 9) (-1)).bind fun v2 => if v2 = nI o then (some ((0 : Int32))) else ((f_X2_isActive S v2).bind fun v3 => if b2i (v3) = 0 then (some ((0 : Int32))) else (some (v2)))) = some 0 := by
        rw [at_rowN, kbind, if_neg hne, h.isActiveN, kbind, if_pos b2i_f]
      rw [e, f_X2_ownerAbove_L12, hF, f_X2_isHandedOverBy, at_rowN, kbind, if_neg hne, kbind, if_pos b2i_f, ite_self]
    · rw [e, f_X3_keeperOf_L28, if_pos (by decide), if_pos (by decide)]
  intro r
  induction r with
  | zero =>
    intro cnt gv n m hc h1 h2 h3
    rcases h1 with e | ⟨p, _, hp, _⟩
    · exact hm1 cnt gv n m hc e h2 h3
    · omega
  | succ r ih =>
    intro cnt gv n m hc h1 h2 h3
    rcases h1 with e | ⟨p, hp, hpr, hcp, e⟩
    · exact hm1 cnt gv n m hc e (by omega) (by omega)
    · obtain ⟨n, rfl⟩ : ∃ z, n = z + 1 := ⟨n - 1, by omega⟩
      obtain ⟨m, rfl⟩ : ∃ z, m = z + 1 := ⟨m - 1, by omega⟩
      have h12 : ¬ (12 : Int32) ≤ nI cnt := nI_ge (b := 12) (by omega) (by omega)
      obtain ⟨eo, w, hw, ew⟩ := h.2.2.2.2.2.2.1 p hp
      have ek := kin_nI (i := p) (N := 12) (by omega) (by omega)
      have eh := h.2.2.2.2.1.2.2 p (by omega)
      obtain ⟨ep, hpar⟩ := h.2.2.2.2.2.2.2.1 p hp
      have hlw := m_left h hw
      rw [e, f_X2_ownerAbove_L12, if_neg h12, f_X2_isHandedOverBy, at_row (by omega) (by omega), kbind, kbind, f_X3_keeperOf_L28, if_neg (nI_pos (by omega)), if_pos ek, nI_clamp (by omega), eo, ew]
      by_cases q : w = o
      · subst q
        rw [if_pos rfl, if_pos rfl, if_pos rfl, if_pos ek, eh, h.isHeld (by omega), kbind]
        cases H.testBit p with
        | true =>
          refine ⟨0, ?_, ?_, 0, by omega, rfl⟩
          · rw [if_neg b2i_t, kbind, if_pos b2i_f]
          · rw [if_neg b2i_t, if_neg (nI_pos (by omega)), if_pos ek, if_pos rfl]
        | false =>
          rw [if_pos b2i_f, kbind, if_neg b2i_t, if_pos b2i_f, if_pos ek, at_row (by omega) (by omega), kbind, nI_1, ep]
          refine ih (cnt + 1) _ n m (by omega) ?_ (by omega) (by omega)
          rcases hpar with e2 | ⟨p2, e2, e3⟩
          · exact Or.inl e2
          · exact Or.inr ⟨p2, by omega, by omega, by omega, e3⟩
      · have hne : ¬ nI w = nI o := fun z => q ((nI_eq (by omega) (by omega)).mp z)
        have ekw := kin_nI (i := w) (N := 10) (by omega) (by omega)
        rw [if_neg hne, if_neg hne, kbind, if_pos b2i_f, if_neg hne, if_neg (nI_pos (by omega)), if_pos ek, if_neg hne, if_pos ek, if_pos ekw, nI_clamp (by omega), hlw, h.isActive (by omega), kbind]
        cases A.testBit w with
        | true =>
          refine ⟨nI w, ?_, ?_, w, hw, rfl⟩
          · rw [if_neg b2i_t]
          · exact (if_pos b2i_f).trans (if_pos ek)
        | false =>
          refine ⟨0, ?_, ?_, 0, by omega, rfl⟩
          · rw [if_pos b2i_f]
          · exact if_neg b2i_t
theorem k_keeper (h : kR S T na ng nf nr day A B H) {f : Nat} (hf : f < nf) : ∃ v T2, f_X2_keeperAfterLeaving S (nI f) = some v ∧ f_X3_keeperOf T (nI f) = some (v, T2) ∧ sameT T T2 ∧ ∃ j, j < na ∧ v = nI j := by
  have hna := h.1.2.1
  have hnf := h.1.2.2.2.1
  obtain ⟨eo, w, hw, ew⟩ := h.2.2.2.2.2.2.1 f hf
  have ek := kin_nI (i := f) (N := 12) (by omega) (by omega)
  obtain ⟨v, T2, a1, a2, a3, a4⟩ := m_heirOf h hw
  have h2 := h.same a3
  rw [f_X2_keeperAfterLeaving, at_row (by omega) (by omega), kbind, f_X3_keeperOf, if_pos ek, nI_clamp (by omega), eo, ew, a1, kbind, a2, kbind]
  rcases a4 with e | ⟨j, hj, e, -⟩
  · obtain ⟨ep, hpar⟩ := h2.2.2.2.2.2.2.2.1 f hf
    have hop : S.2 10 f = -1 ∨ ∃ p, p < nf ∧ p < 12 ∧ 0 + p < 12 ∧ S.2 10 f = nI p := by
      rcases hpar with q | ⟨p, q1, q2⟩
      · exact Or.inl q
      · exact Or.inr ⟨p, by omega, by omega, by omega, q2⟩
    obtain ⟨u, b1, b2, b3⟩ := own_walk h2 hw 12 0 (S.2 10 f) 200 200 (by omega) hop (by omega) (by omega)
    refine ⟨u, T2, ?_, ?_, a3, b3⟩
    · rw [e, if_pos rfl, f_X2_ownerAbove, at_row (by omega) (by omega), kbind]
      show (f_X2_ownerAbove_L12 200 S (nI w) (S.2 10 f) (nI 0)).bind _ = _
      rw [b1]; rfl
    · show (if v < 0 then _ else _) = _
      rw [e, if_pos (by decide), if_pos ek, ep, b2]
  · obtain ⟨v3, T3, c1, c2, c3, c4⟩ := m_heirOf h2 hw
    have hv : v3 = v := by rw [a1] at c1; exact (Option.some.inj c1).symm
    refine ⟨v, T3, ?_, ?_, a3.tr c3, j, hj, e⟩
    · rw [e, if_neg (nI_m1 (by omega))]
    · show (if v < 0 then _ else _) = _
      rw [e, if_neg (nI_pos (by omega)), c2, kbind, hv, e]
end KP
