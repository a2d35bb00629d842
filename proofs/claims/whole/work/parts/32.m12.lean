/-! DAYS PASS; HOLDERS -/
theorem vuu {α : Type} (f : Nat → α) (k : Nat) (u v : α) : va_up (va_up f k u) k v = va_up f k v := by
  funext j; simp only [va_up]; split <;> rfl
theorem vid {α : Type} (f : Nat → α) (k : Nat) : va_up f k (f k) = f := by
  funext j; simp only [va_up]; split
  · next e => rw [e]
  · rfl
def mcl (f : Nat → Int32) (last : Int32) (N : Nat) : Nat → Int32 := fun k => if k < N ∧ ¬ f k = 0 ∧ f k ≤ last then 0 else f k
theorem m_pass99 {U : kSt} {last : Int32} (hl : U.1 17 = last) (acc : Nat) : f_X3_pass_L99 200 U (nI acc) 0 = some (nI (acc + kct (fun k => decide (¬ U.2 5 k = 0 ∧ U.2 5 k ≤ last)) 0 36), (U.1, va_up U.2 5 (mcl (U.2 5) last 36))) := by
  have h := loop_st (fun n (s : Nat × (Nat → Int32)) i => f_X3_pass_L99 n (U.1, va_up U.2 5 s.2) (nI s.1) (nI i)) (fun i s => s.2 = mcl (U.2 5) last i ∧ s.1 = acc + kct (fun k => decide (¬ U.2 5 k = 0 ∧ U.2 5 k ≤ last)) 0 i) (fun s i => if ¬ U.2 5 i = 0 ∧ U.2 5 i ≤ last then (s.1 + 1, upd s.2 i 0) else s) 36 (fun s => (nI s.1, (U.1, va_up U.2 5 s.2))) ?_ ?_ 36 0 (acc, U.2 5) 200 (by omega) (by omega) ?_
  · obtain ⟨h1, h2, h3⟩ := h
    have h1' : f_X3_pass_L99 200 (U.1, va_up U.2 5 (U.2 5)) (nI acc) 0 = _ := h1
    rw [vid] at h1'
    refine Eq.trans h1' ?_
    show some (_, _) = _
    rw [h2, h3]
  · rintro n ⟨c, g⟩ i hi ⟨h1, h2⟩
    dsimp only at h1 h2
    have hgi : va_up U.2 5 g 5 i = U.2 5 i := by rw [va_up_self, h1]; simp [mcl]
    have hn : ¬ (36 : Int32) ≤ nI i := nI_ge (b := 36) hi (by omega)
    have hk := kin_nI hi (show 36 < 2 ^ 31 by omega)
    have hc : kct (fun k => decide (¬ U.2 5 k = 0 ∧ U.2 5 k ≤ last)) 0 (i + 1) = kct (fun k => decide (¬ U.2 5 k = 0 ∧ U.2 5 k ≤ last)) 0 i + (if ¬ U.2 5 i = 0 ∧ U.2 5 i ≤ last then 1 else 0) := by
      rw [kct_split]; simp only [kct, Nat.zero_add, Nat.add_zero, decide_eq_true_eq]
    have hu : va_up (va_up U.2 5 g) 5 (upd (va_up U.2 5 g 5) i 0) = va_up U.2 5 (upd g i 0) := by rw [vuu, va_up_self]
    have hF : f_X3_pass_L99 (n + 1) (U.1, va_up U.2 5 g) (nI c) (nI i) = (if ¬ U.2 5 i = 0 ∧ U.2 5 i ≤ last then f_X3_pass_L99 n (U.1, va_up U.2 5 (upd g i 0)) (nI (c + 1)) (nI (i + 1)) else f_X3_pass_L99 n (U.1, va_up U.2 5 g) (nI c) (nI (i + 1))) := by
      rw [f_X3_pass_L99, if_neg hn, if_pos hk, nI_clamp (by omega)]
      show (if va_up U.2 5 g 5 i = 0 then _ else if _ then if va_up U.2 5 g 5 i ≤ U.1 17 then if _ then f_X3_pass_L99 n (U.1, va_up (va_up U.2 5 g) 5 (upd (va_up U.2 5 g 5) i 0)) _ _ else none else _ else none) = _
      rw [hgi, hl, hu, nI_1, nI_1, if_pos hk]
      by_cases z : U.2 5 i = 0
      · rw [if_pos z, if_neg (fun y => y.1 z)]
      · rw [if_neg z]
        by_cases y : U.2 5 i ≤ last
        · rw [if_pos y, if_pos (And.intro z y), if_pos hk]
        · rw [if_neg y, if_neg (fun x => y x.2)]
    by_cases hb : ¬ U.2 5 i = 0 ∧ U.2 5 i ≤ last
    · refine ⟨?_, ?_⟩
      · rw [if_pos hb] at hF
        show f_X3_pass_L99 (n + 1) (U.1, va_up U.2 5 g) (nI c) (nI i) = f_X3_pass_L99 n (U.1, va_up U.2 5 (ite _ _ _ : Nat × (Nat → Int32)).2) (nI (ite _ _ _ : Nat × (Nat → Int32)).1) (nI (i + 1))
        rw [if_pos hb, hF]
      · dsimp only
        rw [if_pos hb]
        refine ⟨?_, by rw [hc, if_pos hb, h2]; rfl⟩
        funext k
        rw [h1]
        simp only [upd, mcl]
        by_cases e : k = i
        · subst e; rw [if_pos rfl, if_pos ⟨by omega, hb⟩]
        · rw [if_neg e]
          by_cases q : k < i
          · simp only [q, show k < i + 1 by omega]
          · simp only [q, show ¬ k < i + 1 by omega]
    · refine ⟨?_, ?_⟩
      · rw [if_neg hb] at hF
        show f_X3_pass_L99 (n + 1) (U.1, va_up U.2 5 g) (nI c) (nI i) = f_X3_pass_L99 n (U.1, va_up U.2 5 (ite _ _ _ : Nat × (Nat → Int32)).2) (nI (ite _ _ _ : Nat × (Nat → Int32)).1) (nI (i + 1))
        rw [if_neg hb, hF]
      · dsimp only
        rw [if_neg hb]
        refine ⟨?_, by rw [hc, if_neg hb, h2]; rfl⟩
        funext k
        rw [h1]
        simp only [mcl]
        by_cases e : k = i
        · subst e; rw [if_neg (fun z => hb z.2), if_neg (fun z => hb z.2)]
        · by_cases q : k < i
          · simp only [q, show k < i + 1 by omega]
          · simp only [q, show ¬ k < i + 1 by omega]
  · rintro n ⟨c, g⟩ ⟨h1, h2⟩
    dsimp only at h1 h2
    show f_X3_pass_L99 (n + 1) (U.1, va_up U.2 5 g) (nI c) 36 = _
    rw [f_X3_pass_L99, if_pos (by decide)]
  · refine ⟨?_, rfl⟩
    funext k
    simp [mcl]
theorem m_pass50 {U : kSt} {last : Int32} (hl : U.1 17 = last) (acc : Nat) : f_X3_pass_L50 200 U (nI acc) 0 = some (nI (acc + kct (fun k => decide (¬ U.2 4 k = 0 ∧ U.2 4 k ≤ last)) 0 60 + kct (fun k => decide (¬ U.2 5 k = 0 ∧ U.2 5 k ≤ last)) 0 36), (U.1, va_up (va_up U.2 4 (mcl (U.2 4) last 60)) 5 (mcl (U.2 5) last 36))) := by
  have h := loop_st (fun n (s : Nat × (Nat → Int32)) i => f_X3_pass_L50 n (U.1, va_up U.2 4 s.2) (nI s.1) (nI i)) (fun i s => s.2 = mcl (U.2 4) last i ∧ s.1 = acc + kct (fun k => decide (¬ U.2 4 k = 0 ∧ U.2 4 k ≤ last)) 0 i) (fun s i => if ¬ U.2 4 i = 0 ∧ U.2 4 i ≤ last then (s.1 + 1, upd s.2 i 0) else s) 60 (fun s => (nI (s.1 + kct (fun k => decide (¬ U.2 5 k = 0 ∧ U.2 5 k ≤ last)) 0 36), (U.1, va_up (va_up U.2 4 s.2) 5 (mcl (U.2 5) last 36)))) ?_ ?_ 60 0 (acc, U.2 4) 200 (by omega) (by omega) ?_
  · obtain ⟨h1, h2, h3⟩ := h
    have h1' : f_X3_pass_L50 200 (U.1, va_up U.2 4 (U.2 4)) (nI acc) 0 = _ := h1
    rw [vid] at h1'
    refine Eq.trans h1' ?_
    show some (_, _) = _
    rw [h2, h3]
  · rintro n ⟨c, g⟩ i hi ⟨h1, h2⟩
    dsimp only at h1 h2
    have hgi : va_up U.2 4 g 4 i = U.2 4 i := by rw [va_up_self, h1]; simp [mcl]
    have hn : ¬ (60 : Int32) ≤ nI i := nI_ge (b := 60) hi (by omega)
    have hk := kin_nI hi (show 60 < 2 ^ 31 by omega)
    have hc : kct (fun k => decide (¬ U.2 4 k = 0 ∧ U.2 4 k ≤ last)) 0 (i + 1) = kct (fun k => decide (¬ U.2 4 k = 0 ∧ U.2 4 k ≤ last)) 0 i + (if ¬ U.2 4 i = 0 ∧ U.2 4 i ≤ last then 1 else 0) := by
      rw [kct_split]; simp only [kct, Nat.zero_add, Nat.add_zero, decide_eq_true_eq]
    have hu : va_up (va_up U.2 4 g) 4 (upd (va_up U.2 4 g 4) i 0) = va_up U.2 4 (upd g i 0) := by rw [vuu, va_up_self]
    have hF : f_X3_pass_L50 (n + 1) (U.1, va_up U.2 4 g) (nI c) (nI i) = (if ¬ U.2 4 i = 0 ∧ U.2 4 i ≤ last then f_X3_pass_L50 n (U.1, va_up U.2 4 (upd g i 0)) (nI (c + 1)) (nI (i + 1)) else f_X3_pass_L50 n (U.1, va_up U.2 4 g) (nI c) (nI (i + 1))) := by
      rw [f_X3_pass_L50, if_neg hn, if_pos hk, nI_clamp (by omega)]
      show (if va_up U.2 4 g 4 i = 0 then _ else if _ then if va_up U.2 4 g 4 i ≤ U.1 17 then if _ then f_X3_pass_L50 n (U.1, va_up (va_up U.2 4 g) 4 (upd (va_up U.2 4 g 4) i 0)) _ _ else none else _ else none) = _
      rw [hgi, hl, hu, nI_1, nI_1, if_pos hk]
      by_cases z : U.2 4 i = 0
      · rw [if_pos z, if_neg (fun y => y.1 z)]
      · rw [if_neg z]
        by_cases y : U.2 4 i ≤ last
        · rw [if_pos y, if_pos (And.intro z y), if_pos hk]
        · rw [if_neg y, if_neg (fun x => y x.2)]
    by_cases hb : ¬ U.2 4 i = 0 ∧ U.2 4 i ≤ last
    · refine ⟨?_, ?_⟩
      · rw [if_pos hb] at hF
        show f_X3_pass_L50 (n + 1) (U.1, va_up U.2 4 g) (nI c) (nI i) = f_X3_pass_L50 n (U.1, va_up U.2 4 (ite _ _ _ : Nat × (Nat → Int32)).2) (nI (ite _ _ _ : Nat × (Nat → Int32)).1) (nI (i + 1))
        rw [if_pos hb, hF]
      · dsimp only
        rw [if_pos hb]
        refine ⟨?_, by rw [hc, if_pos hb, h2]; rfl⟩
        funext k
        rw [h1]
        simp only [upd, mcl]
        by_cases e : k = i
        · subst e; rw [if_pos rfl, if_pos ⟨by omega, hb⟩]
        · rw [if_neg e]
          by_cases q : k < i
          · simp only [q, show k < i + 1 by omega]
          · simp only [q, show ¬ k < i + 1 by omega]
    · refine ⟨?_, ?_⟩
      · rw [if_neg hb] at hF
        show f_X3_pass_L50 (n + 1) (U.1, va_up U.2 4 g) (nI c) (nI i) = f_X3_pass_L50 n (U.1, va_up U.2 4 (ite _ _ _ : Nat × (Nat → Int32)).2) (nI (ite _ _ _ : Nat × (Nat → Int32)).1) (nI (i + 1))
        rw [if_neg hb, hF]
      · dsimp only
        rw [if_neg hb]
        refine ⟨?_, by rw [hc, if_neg hb, h2]; rfl⟩
        funext k
        rw [h1]
        simp only [mcl]
        by_cases e : k = i
        · subst e; rw [if_neg (fun z => hb z.2), if_neg (fun z => hb z.2)]
        · by_cases q : k < i
          · simp only [q, show k < i + 1 by omega]
          · simp only [q, show ¬ k < i + 1 by omega]
  · rintro n ⟨c, g⟩ ⟨h1, h2⟩
    dsimp only at h1 h2
    show f_X3_pass_L50 (n + 1) (U.1, va_up U.2 4 g) (nI c) 60 = _
    rw [f_X3_pass_L50, if_pos (by decide)]
    have h9 := m_pass99 (U := (U.1, va_up U.2 4 g)) (last := last) hl c
    exact h9
  · refine ⟨?_, rfl⟩
    funext k
    simp [mcl]
theorem cl_x {day d2 : Nat} {x : Int32} (h : okE day x) (hd : d2 ≤ 999) : ((¬ encT x = 0 ∧ encT x ≤ nI d2) ↔ (0 < x ∧ x ≤ nI d2)) ∧ okE d2 (if 0 < x ∧ x ≤ nI d2 then 0 else x) ∧ (encT (if 0 < x ∧ x ≤ nI d2 then 0 else x) = if 0 < x ∧ x ≤ nI d2 then 0 else encT x) := by
  have h0 : encT 0 = 0 := by decide
  rcases h with rfl | rfl | ⟨e, h1, h2, rfl⟩
  · have n1 : ¬ ((0 : Int32) < 0 ∧ (0 : Int32) ≤ nI d2) := fun z => absurd z.1 (by decide)
    refine ⟨⟨fun z => absurd h0 z.1, fun z => absurd z n1⟩, ?_, ?_⟩
    · rw [if_neg n1]; exact Or.inl rfl
    · rw [if_neg n1, if_neg n1]
  · have n1 : ¬ ((0 : Int32) < -1 ∧ (-1 : Int32) ≤ nI d2) := fun z => absurd z.1 (by decide)
    have h9 : encT (-1) = nI 9999 := by decide
    refine ⟨⟨fun z => absurd z.2 (by rw [h9]; exact nI_ge (by omega) (by omega)), fun z => absurd z n1⟩, ?_, ?_⟩
    · rw [if_neg n1]; exact Or.inr (Or.inl rfl)
    · rw [if_neg n1, if_neg n1]
  · have hp : (0 : Int32) < nI e := nI_lt (a := 0) (by omega) (by omega)
    rw [encT_nI (by omega)]
    refine ⟨⟨fun z => ⟨hp, z.2⟩, fun z => ⟨nI_ne0 (by omega) (by omega), z.2⟩⟩, ?_, ?_⟩
    · by_cases q : e ≤ d2
      · rw [if_pos ⟨hp, nI_le q (by omega)⟩]; exact Or.inl rfl
      · rw [if_neg (fun z => absurd z.2 (nI_ge (by omega) (by omega)))]; exact Or.inr (Or.inr ⟨e, by omega, h2, rfl⟩)
    · by_cases q : 0 < nI e ∧ nI e ≤ nI d2
      · rw [if_pos q]; exact h0
      · rw [if_neg q, encT_nI (by omega)]
section PS
variable {S T : kSt} {na ng nf nr day A B H : Nat}
theorem kR.passes (h : kR S T na ng nf nr day A B H) {d2 : Nat} (hd : d2 ≤ 999) : kR (va_up S.1 4 (nI d2), va_up (va_up S.2 12 (kcl (S.2 12) (nI d2) 60)) 13 (kcl (S.2 13) (nI d2) 36)) (va_up T.1 17 (nI d2), va_up (va_up T.2 4 (mcl (T.2 4) (nI d2) 60)) 5 (mcl (T.2 5) (nI d2) 36)) na ng nf nr d2 A B H := by
  obtain ⟨h1, h2, h3, h4, h5, h6, h7, h8, h9, h10, h11, ⟨rk, hrk⟩, h13, h14⟩ := h
  refine ⟨⟨h1.1, h1.2.1, h1.2.2.1, h1.2.2.2.1, h1.2.2.2.2.1, hd⟩, ⟨h2.1, h2.2.1, h2.2.2.1, h2.2.2.2.1, rfl, h2.2.2.2.2.2⟩, ⟨h3.1, h3.2.1, h3.2.2.1, h3.2.2.2.1, rfl⟩, h4, h5, h6, h7, h8, h9, fun a g ha hg => ?_, fun a g ha hg => ?_, ⟨rk, fun i o hi ho he => hrk i o hi ho ?_⟩, h13, h14⟩
  · show mcl (T.2 4) (nI d2) 60 (6 * a + g) = encT (kcl (S.2 12) (nI d2) 60 (g * 10 + a)) ∧ okE d2 (kcl (S.2 12) (nI d2) 60 (g * 10 + a)) ∧ (_ → kcl (S.2 12) (nI d2) 60 (g * 10 + a) = 0)
    obtain ⟨e1, e2, e3⟩ := h10 a g ha hg
    obtain ⟨c1, c2, c3⟩ := cl_x e2 hd
    have eK : kcl (S.2 12) (nI d2) 60 (g * 10 + a) = if 0 < S.2 12 (g * 10 + a) ∧ S.2 12 (g * 10 + a) ≤ nI d2 then 0 else S.2 12 (g * 10 + a) := by
      unfold kcl; simp only [show g * 10 + a < 60 by omega, true_and]
    have eM : mcl (T.2 4) (nI d2) 60 (6 * a + g) = if 0 < S.2 12 (g * 10 + a) ∧ S.2 12 (g * 10 + a) ≤ nI d2 then 0 else encT (S.2 12 (g * 10 + a)) := by
      unfold mcl; rw [e1]; simp only [show 6 * a + g < 60 by omega, true_and, c1]
    rw [eM, eK]
    exact ⟨c3.symm, c2, fun z => by rw [e3 z, ite_self]⟩
  · show mcl (T.2 5) (nI d2) 36 (6 * a + g) = encT (kcl (S.2 13) (nI d2) 36 (g * 6 + a)) ∧ okE d2 (kcl (S.2 13) (nI d2) 36 (g * 6 + a)) ∧ (_ → kcl (S.2 13) (nI d2) 36 (g * 6 + a) = 0)
    obtain ⟨e1, e2, e3⟩ := h11 a g ha hg
    obtain ⟨c1, c2, c3⟩ := cl_x e2 hd
    have eK : kcl (S.2 13) (nI d2) 36 (g * 6 + a) = if 0 < S.2 13 (g * 6 + a) ∧ S.2 13 (g * 6 + a) ≤ nI d2 then 0 else S.2 13 (g * 6 + a) := by
      unfold kcl; simp only [show g * 6 + a < 36 by omega, true_and]
    have eM : mcl (T.2 5) (nI d2) 36 (6 * a + g) = if 0 < S.2 13 (g * 6 + a) ∧ S.2 13 (g * 6 + a) ≤ nI d2 then 0 else encT (S.2 13 (g * 6 + a)) := by
      unfold mcl; rw [e1]; simp only [show 6 * a + g < 36 by omega, true_and, c1]
    rw [eM, eK]
    exact ⟨c3.symm, c2, fun z => by rw [e3 z, ite_self]⟩
  · have he2 : decide (kcl (S.2 13) (nI d2) 36 (o * 6 + i) ≠ 0) = true := he
    have he3 : kcl (S.2 13) (nI d2) 36 (o * 6 + i) ≠ 0 := of_decide_eq_true he2
    show decide (S.2 13 (o * 6 + i) ≠ 0) = true
    refine decide_eq_true (fun z => he3 ?_)
    unfold kcl; rw [z, ite_self]
theorem k_count (h : kR S T na ng nf nr day A B H) {d2 : Nat} (hd : d2 ≤ 999) : kct (fun k => decide (0 < S.2 12 k ∧ S.2 12 k ≤ nI d2)) 0 60 = kct (fun k => decide (¬ T.2 4 k = 0 ∧ T.2 4 k ≤ nI d2)) 0 60 ∧ kct (fun k => decide (0 < S.2 13 k ∧ S.2 13 k ≤ nI d2)) 0 36 = kct (fun k => decide (¬ T.2 5 k = 0 ∧ T.2 5 k ≤ nI d2)) 0 36 := by
  rw [kct_ksm, kct_ksm, kct_ksm, kct_ksm]
  constructor
  · refine ksm_mirror (m := 10) (r := 6) (fun a g ha hg => ?_)
    obtain ⟨e1, e2, -⟩ := h.2.2.2.2.2.2.2.2.2.1 a g ha hg
    obtain ⟨c1, -⟩ := cl_x e2 hd
    simp only [show a * 6 + g = 6 * a + g by omega, e1, c1]
  · refine ksm_mirror (m := 6) (r := 6) (fun a g ha hg => ?_)
    obtain ⟨e1, e2, -⟩ := h.2.2.2.2.2.2.2.2.2.2.1 a g ha hg
    obtain ⟨c1, -⟩ := cl_x e2 hd
    simp only [show a * 6 + g = 6 * a + g by omega, e1, c1]
theorem idxR (x : Int32) (lo hi : Nat) : (∃ w, lo ≤ w ∧ w ≤ hi ∧ x = nI w) ∨ x.toInt < (lo : Int) ∨ (hi : Int) < x.toInt := by
  by_cases q : (lo : Int) ≤ x.toInt ∧ x.toInt ≤ hi
  · refine Or.inl ⟨x.toInt.toNat, by omega, by omega, ?_⟩
    have := fb_rng x
    rw [fa_eq, nI_toInt (by omega)]; omega
  · exact Or.inr (by omega)
theorem inR_ok {w lo hi : Nat} (h1 : lo ≤ w) (h2 : w ≤ hi) (h3 : hi < 2 ^ 31) : f_X3_in (nI w) (nI lo) (nI hi) = some true := by
  rw [f_X3_in, if_neg (nI_nlt h1 (by omega)), if_neg (nI_nlt h2 (by omega))]
theorem inR_no {x : Int32} {lo hi : Nat} (hb : x.toInt < (lo : Int) ∨ (hi : Int) < x.toInt) (h3 : hi < 2 ^ 31) (h4 : lo < 2 ^ 31) : f_X3_in x (nI lo) (nI hi) = some false := by
  rw [f_X3_in]
  by_cases q : x < nI lo
  · rw [if_pos q]
  · rw [if_neg q, if_pos (by rw [fa_lt, nI_toInt h4] at q; rw [fa_lt, nI_toInt h3]; omega)]
theorem o_pass (h : kR S T na ng nf nr day A B H) (gg : Nat → Int64) (p1 : Int32) : agL (f_L_pass S gg p1) (f_X3_pass T p1) := by
  have hd := h.1.2.2.2.2.2
  have h999 : (999 : Int32) = nI 999 := rfl
  rcases idxR p1 1 99 with ⟨p, h1, h2, rfl⟩ | hb
  · have i1 : f_X3_in (nI p) (1 : Int32) (99 : Int32) = some true := inR_ok (lo := 1) (hi := 99) h1 h2 (by omega)
    have n1 : ¬ nI p < (1 : Int32) := nI_nlt (a := p) (b := 1) h1 (by omega)
    have n2 : ¬ (99 : Int32) < nI p := nI_nlt (a := 99) h2 (by omega)
    by_cases q : day + p ≤ 999
    · have l1 : nI (day + p) ≤ (999 : Int32) := nI_le (b := 999) q (by omega)
      have l2 : ¬ (999 : Int32) < nI (day + p) := nI_nlt (a := 999) q (by omega)
      have h9 := (h.tc 0).passes q
      have e1 : f_X2_pass S (nI p) = some (.inl (nI (kct (fun k => decide (0 < S.2 12 k ∧ S.2 12 k ≤ nI (day + p))) 0 60 + kct (fun k => decide (0 < S.2 13 k ∧ S.2 13 k ≤ nI (day + p))) 0 36)), (va_up S.1 4 (nI (day + p)), va_up (va_up S.2 12 (kcl (S.2 12) (nI (day + p)) 60)) 13 (kcl (S.2 13) (nI (day + p)) 36))) := by
        rw [f_X2_pass, if_neg n1, if_neg n2, h.2.1.2.2.2.2.1, nI_add, if_pos l1]
        dsimp only
        rw [va_up_self, clear_grid (by omega), kbind]
        dsimp only
        rw [va_up_ne (α := Nat → Int32) S.2 (k := 12) (j := 13) _ (by decide), clear_grid (by omega), kbind, nI_add]
      have e2 : f_X3_pass T (nI p) = some (nI (0 + kct (fun k => decide (¬ T.2 4 k = 0 ∧ T.2 4 k ≤ nI (day + p))) 0 60 + kct (fun k => decide (¬ T.2 5 k = 0 ∧ T.2 5 k ≤ nI (day + p))) 0 36), (va_up (tc T 0).1 17 (nI (day + p)), va_up (va_up (tc T 0).2 4 (mcl ((tc T 0).2 4) (nI (day + p)) 60)) 5 (mcl ((tc T 0).2 5) (nI (day + p)) 36))) := by
        rw [f_X3_pass, i1, kbind, if_neg b2i_t, h.2.2.1.2.2.2.2, nI_add, if_neg l2, fails0, kbind]
        dsimp only
        rw [if_pos b2i_f, (h.tc 0).2.2.1.2.2.2.2, nI_add]
        exact m_pass50 (U := (va_up (tc T 0).1 17 (nI (day + p)), (tc T 0).2)) (show va_up (tc T 0).1 17 (nI (day + p)) 17 = nI (day + p) from va_up_self _ _ _) 0
      obtain ⟨k1, k2⟩ := k_count h q
      rw [f_L_pass, e1, e2, kxs, k1, k2, Nat.zero_add]
      exact agL.s h9.x (tc_18 T 0)
    · have l1 : ¬ nI (day + p) ≤ (999 : Int32) := nI_ge (a := 999) (by omega) (by omega)
      have l2 : (999 : Int32) < nI (day + p) := nI_lt (a := 999) (by omega) (by omega)
      rw [f_L_pass, f_X2_pass, if_neg n1, if_neg n2, h.2.1.2.2.2.2.1, nI_add, if_neg l1, kxs, f_X3_pass, i1, kbind, if_neg b2i_t, h.2.2.1.2.2.2.2, nI_add, if_pos l2, fails1, kbind]
      exact agL.f h.x 1 (by decide)
  · have i1 : f_X3_in p1 (1 : Int32) (99 : Int32) = some false := inR_no (lo := 1) (hi := 99) hb (by omega) (by omega)
    have c1 : (1 : Int32).toInt = 1 := rfl
    have c9 : (99 : Int32).toInt = 99 := by decide
    have e1 : f_X2_pass S p1 = some (.inr "java/lang/IllegalArgumentException", S) := by
      rw [f_X2_pass]
      by_cases q : p1 < 1
      · rw [if_pos q]
      · rw [if_neg q, if_pos (by rw [fa_lt, c1] at q; rw [fa_lt, c9]; omega)]
    rw [f_L_pass, e1, kxs, f_X3_pass, i1, kbind, if_pos b2i_f, fails1, kbind]
    exact agL.f h.x 1 (by decide)
theorem hold_loop {f : Nat} (hf : f < nf) (x : Int32) : ∀ r i acc (T : kSt) n, kR S T na ng nf nr day A B H → i + r = na → r < n →
    ∃ T2, f_X3_holders_L40 n T (nI f) x (nI acc) (nI i) = some (nI (acc + kct (fun a => !decide (rgt S ng A B a f < x)) i r), T2) ∧ kR S T2 na ng nf nr day A B H ∧ T2.1 18 = T.1 18 := by
  intro r
  induction r with
  | zero =>
    intro i acc T n h h1 h2
    obtain ⟨n, rfl⟩ : ∃ z, n = z + 1 := ⟨n - 1, by omega⟩
    have hna := h.1.2.1
    refine ⟨T, ?_, h, rfl⟩
    rw [f_X3_holders_L40, h.2.2.1.1, if_pos (nI_le (by omega) (by omega))]; rfl
  | succ r ih =>
    intro i acc T n h h1 h2
    obtain ⟨n, rfl⟩ : ∃ z, n = z + 1 := ⟨n - 1, by omega⟩
    have hna := h.1.2.1
    obtain ⟨T2, a1, a2⟩ := m_rightOf h (a := i) (f := f) (by omega) hf
    rw [f_X3_holders_L40, h.2.2.1.1, if_neg (nI_ge (by omega) (by omega)), a1, kbind]
    dsimp only
    rw [nI_1, nI_1, z_add]
    by_cases q : rgt S ng A B i f < x
    · obtain ⟨T3, c1, c2, c3⟩ := ih (i + 1) acc T2 n (h.same a2) (by omega) (by omega)
      refine ⟨T3, ?_, c2, c3.trans (a2.1 18)⟩
      rw [if_pos q, c1]; simp only [kct]; rw [if_neg (by simp [q])]; rw [Nat.zero_add]
    · obtain ⟨T3, c1, c2, c3⟩ := ih (i + 1) (acc + 1) T2 n (h.same a2) (by omega) (by omega)
      refine ⟨T3, ?_, c2, c3.trans (a2.1 18)⟩
      rw [if_neg q, c1]; simp only [kct]; rw [if_pos (by simp [q])]; rw [Nat.add_assoc]
theorem o_holders (h : kR S T na ng nf nr day A B H) (gg : Nat → Int64) (p1 p2 : Int32) : agL (f_L_holders S gg p1 p2) (f_X3_holders T p1 p2) := by
  have hna := h.1.2.1
  have hnf := h.1.2.2.2.1
  have c1 : (1 : Int32).toInt = 1 := rfl
  have c3 : (3 : Int32).toInt = 3 := rfl
  rcases idx p1 nf with ⟨f, hf, rfl⟩ | hb
  · rcases idxR p2 1 3 with ⟨w, h1, h2, rfl⟩ | hb
    · have i1 : f_X3_in (nI w) (1 : Int32) (3 : Int32) = some true := inR_ok (lo := 1) (hi := 3) h1 h2 (by omega)
      have n1 : ¬ nI w < (1 : Int32) := nI_nlt (a := w) (b := 1) h1 (by omega)
      have n2 : nI w ≤ (3 : Int32) := nI_le (b := 3) h2 (by omega)
      have hL := loop_ct (fun n acc i => f_X2_holders_L16 n S (nI f) (nI w) (nI acc) (nI i)) (fun a => !decide (rgt S ng A B a f < nI w)) na (fun acc => .inl (nI acc)) ?_ ?_ na 0 0 200 (by omega) (by omega)
      · have hL' : f_X2_holders_L16 200 S (nI f) (nI w) 0 0 = _ := hL
        obtain ⟨T2, a1, a2, a3⟩ := hold_loop hf (nI w) na 0 0 (tc T 0) 200 (h.tc 0) (by omega) (by omega)
        have a1' : f_X3_holders_L40 200 (tc T 0) (nI f) (nI w) 0 0 = _ := a1
        rw [f_L_holders, f_X2_holders, h.reF hf, kxb, f_X2_requireRight, if_neg n1, if_pos n2, kxb, hL', kxb, f_X3_holders, h.noF hf, kbind, if_pos b2i_f, i1, kbind, if_neg b2i_t, fails0, kbind]
        dsimp only
        rw [if_pos b2i_f, a1']
        exact agL.s a2.x (a3.trans (tc_18 T 0))
      · intro n acc i hi
        obtain ⟨M, b1, b2, b3⟩ := h.groupsOf (a := i) (by omega)
        show f_X2_holders_L16 (n + 1) S (nI f) (nI w) (nI acc) (nI i) = f_X2_holders_L16 n S (nI f) (nI w) (nI (acc + _)) (nI (i + 1))
        rw [f_X2_holders_L16, h.2.1.1, if_neg (nI_ge hi (by omega)), b1, kbind, k_rightAmong h (by omega) hf b2 b3, kbind, nI_1, nI_1]
        by_cases q : rgt S ng A B i f < nI w
        · rw [if_pos q, if_neg (by simp [q])]; rfl
        · rw [if_neg q, if_pos (by simp [q])]
      · intro n acc
        show f_X2_holders_L16 (n + 1) S (nI f) (nI w) (nI acc) (nI na) = some (.inl (nI acc))
        rw [f_X2_holders_L16, h.2.1.1, if_pos (nI_le (Nat.le_refl na) (by omega))]
    · have i1 : f_X3_in p2 (1 : Int32) (3 : Int32) = some false := inR_no (lo := 1) (hi := 3) hb (by omega) (by omega)
      have e1 : f_X2_requireRight p2 1 3 = some (.inr "java/lang/IllegalArgumentException") := by
        rw [f_X2_requireRight]
        by_cases q : p2 < 1
        · rw [if_pos q]
        · rw [if_neg q, if_neg (fun z => by rw [fa_lt, c1] at q; rw [fa_le, c3] at z; omega)]
      rw [f_L_holders, f_X2_holders, h.reF hf, kxb, e1, kxb, kxb, f_X3_holders, h.noF hf, kbind, if_pos b2i_f, i1, kbind, if_pos b2i_f, fails2, kbind]
      exact agL.f h.x 2 (by decide)
  · rw [f_L_holders, f_X2_holders, h.reF' hb, kxb, kxb, f_X3_holders, h.noF' hb, kbind, if_neg b2i_t, fails1, kbind]
    exact agL.f h.x 1 (by decide)
end PS
