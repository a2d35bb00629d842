/-! THE REFERENCE'S RIGHTS; RIGHTS BY WALKING; WHO IS IN A ROOM -/
theorem vnb (b : Bool) : vp_nar .boolean (b2i b) = b2i b := by cases b <;> rfl
theorem b2i_z {b : Bool} : b2i b = 0 ↔ b = false := by cases b <;> decide
section RM
variable {S T : kSt} {na ng nf nr day A B H : Nat}
theorem m_L78 (h : kR S T na ng nf nr day A B H) {a f : Nat} (hf : f < 12) (hI : ∀ g, g < ng → T.2 6 g = b2i (inB S a g)) (x1 x3 best0 : Int32) :
    f_X3_rightOf_L78 200 T x1 x3 (nI f) best0 0 = some (kfo (fun best g => if inB S a g = true then kmax best (S.2 15 (f * 6 + g)) else best) 0 ng best0) := by
  have hg := h.2.2.1.2.1
  have hng := h.1.2.2.1
  have hGs := h.2.2.2.2.2.2.2.2.2.2.2.2.2
  refine (loop_st (fun n (best : Int32) j => f_X3_rightOf_L78 n T x1 x3 (nI f) best (nI j)) (fun _ _ => True) (fun best g => if inB S a g = true then kmax best (S.2 15 (f * 6 + g)) else best) ng (fun best => best) ?_ ?_ ng 0 best0 200 (by omega) (by omega) trivial).1
  · intro n best j hj _
    refine ⟨?_, trivial⟩
    show f_X3_rightOf_L78 (n + 1) T x1 x3 (nI f) best (nI j) = f_X3_rightOf_L78 n T x1 x3 (nI f) (if _ then _ else _) (nI (j + 1))
    rw [f_X3_rightOf_L78, hg, if_neg (nI_ge hj (by omega)), if_pos (kin_nI (by omega) (by omega)), nI_clamp (by omega), hI j hj, nI_1]
    cases inB S a j with
    | false => rw [if_pos b2i_f]; rfl
    | true =>
      rw [if_neg b2i_t, mul6, if_pos (kin_nI (by omega) (by omega)), nI_clamp (by omega), (hGs f j hf (by omega)).1, if_pos (kin_nI (by omega) (by omega)), if_pos rfl]
      by_cases q : S.2 15 (f * 6 + j) ≤ best
      · rw [if_pos q, kmax, if_neg (fun z => by rw [fa_le] at q; rw [fa_lt] at z; omega)]
      · rw [if_neg q, kmax, if_pos (by rw [fa_le] at q; rw [fa_lt]; omega)]
  · intro n best _
    show f_X3_rightOf_L78 (n + 1) T x1 x3 (nI f) best (nI ng) = some best
    rw [f_X3_rightOf_L78, hg, if_pos (nI_le (Nat.le_refl ng) (by omega))]
theorem m_L56 (h : kR S T na ng nf nr day A B H) {a : Nat} (ha : a < 10) (hI : ∀ g, g < ng → T.2 6 g = b2i (inB S a g)) :
    ∀ r gv best n, (gv = -1 ∨ ∃ f, f < nf ∧ f < r ∧ gv = nI f) → r < n → f_X3_rightOf_L56 n T (nI a) best gv = some (chn S ng a B r gv best, T) := by
  have hnf := h.1.2.2.2.1
  intro r
  induction r with
  | zero =>
    intro gv best n h1 h2
    obtain ⟨n, rfl⟩ : ∃ z, n = z + 1 := ⟨n - 1, by omega⟩
    rcases h1 with e | ⟨f, _, hf, _⟩
    · rw [e, f_X3_rightOf_L56, if_pos (by decide)]; rfl
    · omega
  | succ r ih =>
    intro gv best n h1 h2
    obtain ⟨n, rfl⟩ : ∃ z, n = z + 1 := ⟨n - 1, by omega⟩
    rcases h1 with e | ⟨f, hf, hfr, e⟩
    · rw [e, f_X3_rightOf_L56, if_pos (by decide), chn, if_pos rfl]
    · have hSh := (h.2.2.2.2.2.2.2.2.2.2.2.2.1 f a (by omega) ha).1
      have hbr := h.2.2.2.2.1.2.1 f (by omega)
      have hpa := (h.2.2.2.2.2.2.2.1 f hf).1
      have hnx : nxt S B f = -1 ∨ ∃ p, p < nf ∧ p < r ∧ nxt S B f = nI p := by
        rcases h.nxt_ok hf with q | ⟨p, q1, q2⟩
        · exact Or.inl q
        · exact Or.inr ⟨p, by omega, by omega, q2⟩
      rw [e, f_X3_rightOf_L56, if_neg (nI_pos (by omega)), mul10, if_pos (kin_nI (by omega) (by omega)), nI_clamp (by omega), hSh, m_L78 h (by omega) hI, kbind]
      have hb : kfo (fun best g => if inB S a g = true then kmax best (S.2 15 (f * 6 + g)) else best) 0 ng (S.2 14 (f * 10 + a)) = bsh S ng a f := rfl
      rw [hb, chn, if_neg (nI_m1 (by omega)), nI_clamp (by omega), if_pos (kin_nI (by omega) (by omega)), if_pos (kin_nI (by omega) (by omega)), hbr, hpa]
      have key : ∀ bb : Int32, (if b2i (B.testBit f) = 0 then f_X3_rightOf_L56 n T (nI a) bb (S.2 10 f) else f_X3_rightOf_L56 n T (nI a) bb (-1)) = some (chn S ng a B r (nxt S B f) bb, T) := by
        intro bb
        rw [← ih (nxt S B f) bb n hnx (by omega), nxt]
        cases B.testBit f with
        | false => rw [if_pos b2i_f]; rfl
        | true => rw [if_neg b2i_t]; rfl
      by_cases q : bsh S ng a f ≤ best
      · rw [if_pos q, key, kmax, if_neg (fun z => by rw [fa_le] at q; rw [fa_lt] at z; omega)]
      · rw [if_neg q, if_pos (kin_nI (by omega) (by omega)), if_pos (kin_nI (by omega) (by omega)), key, kmax, if_pos (by rw [fa_le] at q; rw [fa_lt]; omega)]
theorem m_rightOf (h : kR S T na ng nf nr day A B H) {a f : Nat} (ha : a < na) (hf : f < nf) : ∃ T2, f_X3_rightOf T (nI a) (nI f) = some (rgt S ng A B a f, T2) ∧ sameT T T2 := by
  have hna := h.1.2.1
  have hnf := h.1.2.2.2.1
  have hng := h.1.2.2.1
  have hl := h.2.2.2.2.1.1 a (by omega)
  rw [f_X3_rightOf, if_pos (kin_nI (by omega) (by omega)), nI_clamp (by omega), hl, rgt]
  cases hA : A.testBit a with
  | false =>
    refine ⟨T, ?_, sameT.rf T⟩
    rw [show (decide (a < na) && !false) = true by simp [ha], if_neg b2i_t]; rfl
  | true =>
    rw [show (decide (a < na) && !true) = false by simp, if_pos b2i_f, if_pos (kin_nI (by omega) (by omega)), nI_clamp (by omega), (h.2.2.2.2.2.2.1 f hf).1, if_pos rfl]
    by_cases q : S.2 9 f = nI a
    · rw [if_pos q, if_pos q]; exact ⟨T, rfl, sameT.rf T⟩
    · rw [if_neg q, if_neg q]
      have hL := loop_st (fun n (T9 : kSt) j => f_X3_rightOf_L25 n T9 (nI a) (nI f) (nI j)) (fun j T9 => sameT T T9 ∧ ∀ g, g < j → T9.2 6 g = b2i (inB S a g)) (fun T9 j => (T9.1, va_up T9.2 6 (upd (T9.2 6) j (b2i (inB S a j))))) ng (fun T9 => (chn S ng a B 12 (nI f) 0, T9)) ?_ ?_ ng 0 T 200 (by omega) (by omega) ⟨sameT.rf T, fun g hg => absurd hg (by omega)⟩
      · obtain ⟨h1, h2, -⟩ := hL
        exact ⟨_, h1, h2⟩
      · rintro n T9 j hj ⟨h1, h2⟩
        have hR9 := h.same h1
        refine ⟨?_, ⟨fun k => h1.1 k, fun k h6 h16 => ?_⟩, fun g hg => ?_⟩
        · show f_X3_rightOf_L25 (n + 1) T9 (nI a) (nI f) (nI j) = f_X3_rightOf_L25 n (T9.1, va_up T9.2 6 (upd (T9.2 6) j (b2i (inB S a j)))) (nI a) (nI f) (nI (j + 1))
          rw [f_X3_rightOf_L25, hR9.2.2.1.2.1, if_neg (nI_ge hj (by omega)), hR9.isMember (by omega) (by omega), kbind, if_pos (kin_nI (by omega) (by omega)), nI_clamp (by omega), vnb, nI_1]
        · show va_up T9.2 6 _ k = T.2 k
          rw [va_up_ne _ _ h6]; exact h1.2 k h6 h16
        · show va_up T9.2 6 (upd (T9.2 6) j (b2i (inB S a j))) 6 g = b2i (inB S a g)
          rw [va_up_self]
          show (if g = j then b2i (inB S a j) else T9.2 6 g) = b2i (inB S a g)
          by_cases e : g = j
          · rw [if_pos e, e]
          · rw [if_neg e]; exact h2 g (by omega)
      · rintro n T9 ⟨h1, h2⟩
        have hR9 := h.same h1
        show f_X3_rightOf_L25 (n + 1) T9 (nI a) (nI f) (nI ng) = some (chn S ng a B 12 (nI f) 0, T9)
        rw [f_X3_rightOf_L25, hR9.2.2.1.2.1, if_pos (nI_le (Nat.le_refl ng) (by omega))]
        exact m_L56 hR9 (by omega) h2 12 (nI f) 0 200 (Or.inr ⟨f, hf, by omega, rfl⟩) (by omega)
-- by walking
theorem kmax_comm (x y : Int32) : kmax x y = kmax y x := by
  unfold kmax
  by_cases h1 : x < y
  · rw [if_pos h1, if_neg (fun z => by rw [fa_lt] at h1 z; omega)]
  · by_cases h2 : y < x
    · rw [if_neg h1, if_pos h2]
    · rw [if_neg h1, if_neg h2]; rw [fa_lt] at h1 h2; exact Int32.toInt_inj.mp (by omega)
theorem kmax_toInt (x y : Int32) : (kmax x y).toInt = max x.toInt y.toInt := by
  unfold kmax
  by_cases h1 : x < y
  · rw [if_pos h1]; rw [fa_lt] at h1; omega
  · rw [if_neg h1]; rw [fa_lt] at h1; omega
noncomputable def bhw (S : kSt) (ng a B : Nat) : Nat → Int32 → Int32
  | 0, _ => 0
  | k + 1, gv => if gv = -1 then 0 else kmax (bhw S ng a B k (nxt S B gv.toNatClampNeg)) (bsh S ng a gv.toNatClampNeg)
theorem chn_bhw (a B : Nat) : ∀ k gv best, 0 ≤ best.toInt → (chn S ng a B k gv best).toInt = max best.toInt (bhw S ng a B k gv).toInt := by
  intro k
  induction k with
  | zero => intro gv best h; show best.toInt = max best.toInt (0 : Int32).toInt; rw [show (0 : Int32).toInt = 0 from rfl]; omega
  | succ k ih =>
    intro gv best h
    rw [chn, bhw]
    by_cases e : gv = -1
    · rw [if_pos e, if_pos e, show (0 : Int32).toInt = 0 from rfl]; omega
    · have h9 : 0 ≤ (kmax best (bsh S ng a gv.toNatClampNeg)).toInt := by rw [kmax_toInt]; omega
      rw [if_neg e, if_neg e, ih _ _ h9, kmax_toInt, kmax_toInt]
      omega
theorem bhw_pos (a B : Nat) : ∀ k gv, 0 ≤ (bhw S ng a B k gv).toInt := by
  intro k
  induction k with
  | zero => intro gv; exact Int.le_refl 0
  | succ k ih =>
    intro gv
    rw [bhw]
    split
    · exact Int.le_refl 0
    · rw [kmax_toInt]; have := ih (nxt S B gv.toNatClampNeg); omega
theorem k_bestHanded (h : kR S T na ng nf nr day A B H) {a : Nat} (ha : a < 10) : ∀ r d k gv, k + r = 12 → r + 2 = d → (gv = -1 ∨ ∃ f, f < nf ∧ gv = nI f) → f_X2_bestHandedByWalking d S (nI a) gv (nI k) = some (bhw S ng a B r gv) := by
  have hnf := h.1.2.2.2.1
  intro r
  induction r with
  | zero =>
    intro d k gv h1 h2 h3
    obtain ⟨d, rfl⟩ : ∃ z, d = z + 1 := ⟨d - 1, by omega⟩
    have e : ¬ nI k < (12 : Int32) := nI_nlt (b := 12) (by omega) (by omega)
    rw [f_X2_bestHandedByWalking, if_neg e]
    rcases h3 with e1 | ⟨f, hf, e1⟩
    · rw [if_pos e1]; rfl
    · rw [e1, if_neg (nI_m1 (by omega))]; rfl
  | succ r ih =>
    intro d k gv h1 h2 h3
    obtain ⟨d, rfl⟩ : ∃ z, d = z + 1 := ⟨d - 1, by omega⟩
    have e : nI k < (12 : Int32) := nI_lt (b := 12) (by omega) (by omega)
    rw [f_X2_bestHandedByWalking, bhw]
    rcases h3 with e1 | ⟨f, hf, e1⟩
    · rw [if_pos e1, if_pos e1]
    · have hnx : nxt S B f = -1 ∨ ∃ p, p < nf ∧ nxt S B f = nI p := by
        rcases h.nxt_ok hf with q | ⟨p, q1, q2⟩
        · exact Or.inl q
        · exact Or.inr ⟨p, by omega, q2⟩
      rw [e1, if_neg (nI_m1 (by omega)), if_neg (nI_m1 (by omega)), if_pos e, h.giverTo (by omega), kbind, nI_1, ih d (k + 1) _ (by omega) (by omega) hnx, kbind, k_bestShareByWalking h ha (by omega), kbind, nI_clamp (by omega)]
theorem k_walk (h : kR S T na ng nf nr day A B H) {a f : Nat} (ha : a < 10) (hf : f < nf) : f_X2_bestHandedByWalking 14 S (nI a) (nI f) 0 = some (chn S ng a B 12 (nI f) 0) := by
  have e := k_bestHanded h ha 12 14 0 (nI f) rfl rfl (Or.inr ⟨f, hf, rfl⟩)
  refine Eq.trans e ?_
  congr 1
  refine Int32.toInt_inj.mp ?_
  rw [chn_bhw a B 12 (nI f) 0 (Int.le_refl 0), show (0 : Int32).toInt = 0 from rfl]
  have := bhw_pos (S := S) (ng := ng) a B 12 (nI f)
  omega
-- rooms
theorem k_activeIn (h : kR S T na ng nf nr day A B H) {g : Nat} (hg : g < 6) : f_X2_activeIn S (nI g) = some (nI (kct (fun a => A.testBit a && inB S a g) 0 na)) := by
  have hna := h.1.2.1
  have hL := loop_ct (fun n acc i => f_X2_activeIn_L4 n S (nI g) (nI acc) (nI i)) (fun a => A.testBit a && inB S a g) na (fun acc => nI acc) ?_ ?_ na 0 0 200 (by omega) (by omega)
  · rw [Nat.zero_add] at hL; rw [f_X2_activeIn]; exact hL
  · intro n acc i hi
    show f_X2_activeIn_L4 (n + 1) S (nI g) (nI acc) (nI i) = f_X2_activeIn_L4 n S (nI g) (nI (acc + _)) (nI (i + 1))
    rw [f_X2_activeIn_L4, h.2.1.1, if_neg (nI_ge hi (by omega)), h.isActive (by omega), kbind, nI_1]
    cases A.testBit i with
    | false => rw [if_pos b2i_f]; rfl
    | true =>
      obtain ⟨M, e1, e2, e3⟩ := h.groupsOf (a := i) (by omega)
      rw [if_neg b2i_t, e1, kbind, contains_bit (by omega) (by omega), kbind, e3 g hg]
      cases inB S i g with
      | false => rw [if_pos b2i_f]; rfl
      | true => rw [if_neg b2i_t, nI_1]; rfl
  · intro n acc
    show f_X2_activeIn_L4 (n + 1) S (nI g) (nI acc) (nI na) = some (nI acc)
    rw [f_X2_activeIn_L4, h.2.1.1, if_pos (nI_le (Nat.le_refl na) (by omega))]
theorem m_left (h : kR S T na ng nf nr day A B H) {i : Nat} (hi : i < na) : T.2 1 i = b2i (!A.testBit i) := by
  have := h.2.2.2.2.1.1 i (by have := h.1.2.1; omega)
  rw [this]; simp [hi]
theorem m_inside (h : kR S T na ng nf nr day A B H) {r g : Nat} (hr : r < nr) (hg : g < ng) (e : S.2 11 r = nI g) : f_X3_inside T (nI r) = some (nI (kct (fun a => A.testBit a && inB S a g) 0 na)) := by
  have hna := h.1.2.1
  have hng := h.1.2.2.1
  have hnr := h.1.2.2.2.2.1
  have hrm := (h.2.2.2.2.2.2.2.2.1 r hr).1
  have hL := loop_ct (fun n acc i => f_X3_inside_L4 n T (nI r) (nI acc) (nI i)) (fun a => A.testBit a && inB S a g) na (fun acc => nI acc) ?_ ?_ na 0 0 200 (by omega) (by omega)
  · rw [Nat.zero_add] at hL; rw [f_X3_inside]; exact hL
  · intro n acc i hi
    show f_X3_inside_L4 (n + 1) T (nI r) (nI acc) (nI i) = f_X3_inside_L4 n T (nI r) (nI (acc + _)) (nI (i + 1))
    have z0 : nI acc + (0 : Int32) = nI acc := by rw [show (0 : Int32) = nI 0 from rfl, nI_add, Nat.add_zero]
    rw [f_X3_inside_L4, h.2.2.1.1, if_neg (nI_ge hi (by omega)), if_pos (kin_nI (by omega) (by omega)), nI_clamp (by omega), m_left h hi, if_pos (kin_nI (by omega) (by omega)), nI_clamp (by omega), hrm, e, h.isMember (by omega) (by omega), kbind, nI_1, nI_1, z0]
    cases A.testBit i with
    | false => rw [show (!false) = true from rfl, if_neg b2i_t]; rfl
    | true =>
      rw [show (!true) = false from rfl, if_pos b2i_f]
      cases inB S i g with
      | false => rw [if_pos b2i_f]; rfl
      | true => rw [if_neg b2i_t]; rfl
  · intro n acc
    show f_X3_inside_L4 (n + 1) T (nI r) (nI acc) (nI na) = some (nI acc)
    rw [f_X3_inside_L4, h.2.2.1.1, if_pos (nI_le (Nat.le_refl na) (by omega))]
end RM
