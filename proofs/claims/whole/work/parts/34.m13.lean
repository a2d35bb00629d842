/-! SHARES OF OPEN PAIRS; MEANS OF OWNED FOLDERS -/
theorem ksm_one {v : Nat → Nat} {o : Nat} : ∀ k c, c ≤ o → o < c + k → ksm (fun a => if a = o then v a else 0) c k = v o := by
  intro k
  induction k with
  | zero => intro c h1 h2; omega
  | succ k ih =>
    intro c h1 h2
    simp only [ksm]
    by_cases e : c = o
    · rw [if_pos e, ksm_zero k (c + 1) (fun i h3 _ => if_neg (by omega)), e]; rfl
    · rw [if_neg e, ih (c + 1) (by omega) (by omega), Nat.zero_add]
section MN
variable {S T : kSt} {na ng nf nr day A B H : Nat}
/-- the open pairs of one account -/
noncomputable def opn (S : kSt) (ng nf A B a : Nat) : Nat := kct (fun f => !decide (rgt S ng A B a f < 1)) 0 nf
theorem opn_le (S : kSt) (ng nf A B a : Nat) : opn S ng nf A B a ≤ nf := kct_le _ nf 0
theorem k_openPairs (h : kR S T na ng nf nr day A B H) : f_X2_openPairs S = some (nI (ksm (opn S ng nf A B) 0 na)) := by
  have hna := h.1.2.1
  have hnf := h.1.2.2.2.1
  have hL := loop_sm (fun n acc i => f_X2_openPairs_L4 n S (nI acc) (nI i)) (opn S ng nf A B) na (fun acc => nI acc) ?_ ?_ na 0 0 200 (by omega) (by omega)
  · rw [Nat.zero_add] at hL; rw [f_X2_openPairs]; exact hL
  · intro n acc i hi
    obtain ⟨M, b1, b2, b3⟩ := h.groupsOf (a := i) (by omega)
    show f_X2_openPairs_L4 (n + 1) S (nI acc) (nI i) = f_X2_openPairs_L4 n S (nI (acc + _)) (nI (i + 1))
    have hL := loop_ct (fun n acc j => f_X2_openPairs_L21 n S (nI acc) (nI i) (nI M) (nI j)) (fun f => !decide (rgt S ng A B i f < 1)) nf (fun acc => nI acc) ?_ ?_ nf 0 acc 200 (by omega) (by omega)
    · have hL' : f_X2_openPairs_L21 200 S (nI acc) (nI i) (nI M) 0 = _ := hL
      rw [f_X2_openPairs_L4, h.2.1.1, if_neg (nI_ge hi (by omega)), b1, kbind, hL', kbind, nI_1]; rfl
    · intro n acc j hj
      show f_X2_openPairs_L21 (n + 1) S (nI acc) (nI i) (nI M) (nI j) = f_X2_openPairs_L21 n S (nI (acc + _)) (nI i) (nI M) (nI (j + 1))
      rw [f_X2_openPairs_L21, h.2.1.2.2.1, if_neg (nI_ge hj (by omega)), k_rightAmong h (by omega) hj b2 b3, kbind, nI_1, nI_1]
      by_cases q : rgt S ng A B i j < 1
      · rw [if_pos q, if_neg (by simp [q])]; rfl
      · rw [if_neg q, if_pos (by simp [q])]
    · intro n acc
      show f_X2_openPairs_L21 (n + 1) S (nI acc) (nI i) (nI M) (nI nf) = some (nI acc)
      rw [f_X2_openPairs_L21, h.2.1.2.2.1, if_pos (nI_le (Nat.le_refl nf) (by omega))]
  · intro n acc
    show f_X2_openPairs_L4 (n + 1) S (nI acc) (nI na) = some (nI acc)
    rw [f_X2_openPairs_L4, h.2.1.1, if_pos (nI_le (Nat.le_refl na) (by omega))]
theorem op_loop1 {a : Nat} (ha : a < na) : ∀ r i acc (T : kSt) n, kR S T na ng nf nr day A B H → i + r = nf → r < n →
    ∃ T2, f_X3_openShare_L35 n T (nI acc) (nI a) (nI i) = some (nI (acc + kct (fun f => !decide (rgt S ng A B a f < 1)) i r), T2) ∧ kR S T2 na ng nf nr day A B H ∧ T2.1 18 = T.1 18 := by
  intro r
  induction r with
  | zero =>
    intro i acc T n h h1 h2
    obtain ⟨n, rfl⟩ : ∃ z, n = z + 1 := ⟨n - 1, by omega⟩
    have hnf := h.1.2.2.2.1
    refine ⟨T, ?_, h, rfl⟩
    rw [f_X3_openShare_L35, h.2.2.1.2.2.1, if_pos (nI_le (by omega) (by omega))]; rfl
  | succ r ih =>
    intro i acc T n h h1 h2
    obtain ⟨n, rfl⟩ : ∃ z, n = z + 1 := ⟨n - 1, by omega⟩
    have hnf := h.1.2.2.2.1
    obtain ⟨T2, a1, a2⟩ := m_rightOf h (a := a) (f := i) ha (by omega)
    rw [f_X3_openShare_L35, h.2.2.1.2.2.1, if_neg (nI_ge (by omega) (by omega)), a1, kbind]
    dsimp only
    rw [nI_1, nI_1, z_add]
    have c0 : (0 : Int32).toInt = 0 := rfl
    have c1 : (1 : Int32).toInt = 1 := rfl
    by_cases q : rgt S ng A B a i < 1
    · obtain ⟨T3, d1, d2, d3⟩ := ih (i + 1) acc T2 n (h.same a2) (by omega) (by omega)
      refine ⟨T3, ?_, d2, d3.trans (a2.1 18)⟩
      rw [if_pos (by rw [fa_lt, c1] at q; rw [fa_le, c0]; omega), d1]; simp only [kct]; rw [if_neg (by simp [q])]; rw [Nat.zero_add]
    · obtain ⟨T3, d1, d2, d3⟩ := ih (i + 1) (acc + 1) T2 n (h.same a2) (by omega) (by omega)
      refine ⟨T3, ?_, d2, d3.trans (a2.1 18)⟩
      rw [if_neg (fun z => q (by rw [fa_le, c0] at z; rw [fa_lt, c1]; omega)), d1]; simp only [kct]; rw [if_pos (by simp [q])]; rw [Nat.add_assoc]
theorem op_loop2 {q : Int32} (hq : q = nI nf) (hk : ∀ p, p ≤ 120 → kn32 (FP.fdiv (FP.i2f (nI p)) (FP.i2f (nI (kct (fun i => A.testBit i) 0 12) * q))) = true) : ∀ r i acc (T : kSt) n, kR S T na ng nf nr day A B H → i + r = na → acc + 12 * r ≤ 120 → r < n →
    ∃ T2, f_X3_openShare_L25 n T (nI acc) (nI i) = some (FP.fdiv (FP.i2f (nI (acc + ksm (opn S ng nf A B) i r))) (FP.i2f (nI (kct (fun i => A.testBit i) 0 12) * q)), T2) ∧ kR S T2 na ng nf nr day A B H ∧ T2.1 18 = T.1 18 := by
  intro r
  induction r with
  | zero =>
    intro i acc T n h h1 hb h2
    obtain ⟨n, rfl⟩ : ∃ z, n = z + 1 := ⟨n - 1, by omega⟩
    have hna := h.1.2.1
    refine ⟨T, ?_, h, rfl⟩
    rw [f_X3_openShare_L25, h.2.2.1.1, if_pos (nI_le (by omega) (by omega)), m_actives h, kbind, h.2.2.1.2.2.1, ← hq, if_pos (hk acc (by omega))]; rfl
  | succ r ih =>
    intro i acc T n h h1 hb h2
    obtain ⟨n, rfl⟩ : ∃ z, n = z + 1 := ⟨n - 1, by omega⟩
    have hna := h.1.2.1
    have hnf := h.1.2.2.2.1
    obtain ⟨T2, a1, a2, a3⟩ := op_loop1 (a := i) (by omega) nf 0 acc T 200 h (by omega) (by omega)
    have a1' : f_X3_openShare_L35 200 T (nI acc) (nI i) 0 = _ := a1
    have hle := opn_le S ng nf A B i
    obtain ⟨T3, d1, d2, d3⟩ := ih (i + 1) (acc + opn S ng nf A B i) T2 n a2 (by omega) (by omega) (by omega)
    refine ⟨T3, ?_, d2, d3.trans a3⟩
    rw [f_X3_openShare_L25, h.2.2.1.1, if_neg (nI_ge (by omega) (by omega)), a1', kbind]
    dsimp only
    rw [nI_1]
    refine Eq.trans d1 ?_
    simp only [ksm]; rw [Nat.add_assoc]
theorem act_pos (h : kR S T na ng nf nr day A B H) : 0 < kct (fun i => A.testBit i) 0 12 ∧ kct (fun i => A.testBit i) 0 12 ≤ 10 := by
  have hna := h.1.2.1
  refine ⟨?_, ?_⟩
  · rcases Nat.eq_zero_or_pos (kct (fun i => A.testBit i) 0 12) with z | z
    · have := (kct_zero 12 0).mp z 0 (by omega) (by omega)
      rw [h.2.2.2.1.2.1] at this; cases this
    · exact z
  · rw [kct_bits h.2.2.2.1.1 (by omega)]
    have := kct_le (fun i => A.testBit i) na 0
    omega
theorem ksm_le (w : Nat → Nat) (b : Nat) (h : ∀ i, w i ≤ b) : ∀ k c, ksm w c k ≤ b * k := by
  intro k
  induction k with
  | zero => intro c; exact Nat.zero_le _
  | succ k ih => intro c; simp only [ksm]; have := ih (c + 1); have := h c; rw [Nat.mul_succ]; omega
theorem o_openShare (h : kR S T na ng nf nr day A B H) : (nf = 0 ∧ f_X2_openShare S = some (.inr "java/lang/ArithmeticException") ∧ ∃ v, f_X3_openShare T = some (v, tc T 1)) ∨
    ∃ x T2, f_X2_openShare S = some (.inl x) ∧ f_X3_openShare T = some (x, T2) ∧ kRx S T2 ∧ T2.1 18 = 0 ∧ kn64 (FP.f2d x) = true ∧ Op.cmpValue (FP.dcmp (FP.f2d x) (FP.f2d x)) CmpOp.l = 0 := by
  have hna := h.1.2.1
  have hnf := h.1.2.2.2.1
  obtain ⟨hc0, hc1⟩ := act_pos h
  have e5 : f_J6_bitCount_0f7a4 (S.1 5) = some (nI (kct (fun i => A.testBit i) 0 12)) := by rw [h.2.1.2.2.2.2.2.1]; exact k_bits h.A12
  have hm : kct (fun i => A.testBit i) 0 12 * nf ≤ 120 := by
    have := Nat.mul_le_mul hc1 hnf; omega
  by_cases q : nf = 0
  · refine Or.inl ⟨q, ?_, FP.fconst0, ?_⟩
    · rw [f_X2_openShare, e5, kbind, h.2.1.2.2.1, pk_mul, q, Nat.mul_zero, if_pos (by decide)]
    · rw [f_X3_openShare, h.2.2.1.2.2.1, q, if_pos (by decide), fails1, kbind]; exact if_neg b2i_t
  · have hpos : 0 < kct (fun i => A.testBit i) 0 12 * nf := Nat.mul_pos hc0 (by omega)
    have hP : ksm (opn S ng nf A B) 0 na ≤ 120 := by
      have h1 := ksm_le (opn S ng nf A B) nf (fun i => opn_le S ng nf A B i) na 0
      have h2 := Nat.mul_le_mul hnf hna
      omega
    obtain ⟨f1, f2, f3⟩ := fpf hP hpos hm
    have hk : ∀ p, p ≤ 120 → kn32 (FP.fdiv (FP.i2f (nI p)) (FP.i2f (nI (kct (fun i => A.testBit i) 0 12) * nI nf))) = true := fun p hp => by
      rw [pk_mul]; exact (fpf hp hpos hm).1
    obtain ⟨T2, a1, a2, a3⟩ := op_loop2 (S := S) (ng := ng) (B := B) (H := H) (day := day) (nr := nr) rfl hk na 0 0 (tc T 0) 200 (h.tc 0) (by omega) (by omega) (by omega)
    have a1' : f_X3_openShare_L25 200 (tc T 0) 0 0 = _ := a1
    refine Or.inr ⟨FP.fdiv (FP.i2f (nI (ksm (opn S ng nf A B) 0 na))) (FP.i2f (nI (kct (fun i => A.testBit i) 0 12 * nf))), T2, ?_, ?_, a2.x, a3.trans (tc_18 T 0), f2, f3⟩
    · rw [f_X2_openShare, e5, kbind, h.2.1.2.2.1, pk_mul, if_neg (nI_ne0 hpos (by omega)), k_openPairs h, kbind, if_pos f1]
    · rw [f_X3_openShare, h.2.2.1.2.2.1, if_neg (nI_ne0 (by omega) (by omega)), fails0, kbind]
      refine (if_pos (show b2i (false, tc T 0).1 = 0 from rfl)).trans ?_
      rw [a1', pk_mul, Nat.zero_add]
/-- an account owns a folder -/
def owns (S : kSt) (A a f : Nat) : Bool := decide (S.2 9 f = nI a) && A.testBit a
theorem mo_in (h : kR S T na ng nf nr day A B H) {a : Nat} (ha : a < na) (x1 x2 : Int32) : f_X3_meanOwned_L20 200 T x1 x2 (nI a) 0 0 = some (nI (kct (fun f => owns S A a f) 0 nf)) := by
  have hna := h.1.2.1
  have hnf := h.1.2.2.2.1
  have hL := loop_ct (fun n acc j => f_X3_meanOwned_L20 n T x1 x2 (nI a) (nI acc) (nI j)) (fun f => owns S A a f) nf (fun acc => nI acc) ?_ ?_ nf 0 0 200 (by omega) (by omega)
  · rw [Nat.zero_add] at hL; exact hL
  · intro n acc j hj
    show f_X3_meanOwned_L20 (n + 1) T x1 x2 (nI a) (nI acc) (nI j) = f_X3_meanOwned_L20 n T x1 x2 (nI a) (nI (acc + _)) (nI (j + 1))
    rw [f_X3_meanOwned_L20, h.2.2.1.2.2.1, if_neg (nI_ge hj (by omega)), if_pos (kin_nI (by omega) (by omega)), nI_clamp (by omega), (h.2.2.2.2.2.2.1 j hj).1, if_pos (kin_nI (by omega) (by omega)), nI_clamp (by omega), m_left h ha, nI_1, nI_1, z_add, owns]
    by_cases q : S.2 9 j = nI a
    · rw [if_pos q]
      cases A.testBit a with
      | false => rw [if_neg (show ¬ b2i (!false) = 0 by decide), if_neg (by simp)]; rfl
      | true => rw [if_pos (show b2i (!true) = 0 by decide), if_pos (by simp [q])]
    · rw [if_neg q, if_neg (by simp [q])]; rfl
  · intro n acc
    show f_X3_meanOwned_L20 (n + 1) T x1 x2 (nI a) (nI acc) (nI nf) = some (nI acc)
    rw [f_X3_meanOwned_L20, h.2.2.1.2.2.1, if_pos (nI_le (Nat.le_refl nf) (by omega))]
/-- what the reference answers at the loop's end -/
noncomputable def mo_end (T : kSt) (x1 x2 : Nat) : Option (UInt64 × kSt) := if x2 = 0 then some (FP.dconst0, tc T 1) else some (FP.ddiv (FP.i2d (nI x1)) (FP.i2d (nI x2)), tc T 0)
theorem mo_out (h : kR S T na ng nf nr day A B H) : ∀ r i x1 x2 n, i + r = na → r < n → x1 + ksm (fun a => kct (fun f => owns S A a f) 0 nf) i r ≤ 12 → x2 + r ≤ 12 →
    f_X3_meanOwned_L6 n T (nI x1) (nI x2) (nI i) = mo_end T (x1 + ksm (fun a => kct (fun f => owns S A a f) 0 nf) i r) (x2 + kct (fun a => decide (kct (fun f => owns S A a f) 0 nf ≠ 0)) i r) := by
  have hna := h.1.2.1
  have hnf := h.1.2.2.2.1
  intro r
  induction r with
  | zero =>
    intro i x1 x2 n h1 h2 h3 h4
    obtain ⟨n, rfl⟩ : ∃ z, n = z + 1 := ⟨n - 1, by omega⟩
    simp only [ksm, kct, Nat.add_zero] at h3 h4 ⊢
    rw [f_X3_meanOwned_L6, h.2.2.1.1, if_pos (nI_le (by omega) (by omega)), mo_end]
    by_cases q : x2 = 0
    · rw [if_pos (by rw [q]; rfl), if_pos q, fails1, kbind]; exact if_neg b2i_t
    · obtain ⟨f1, -⟩ := fpd (p := x1) (m := x2) (by omega) (by omega) (by omega)
      rw [if_neg (nI_ne0 (by omega) (by omega)), if_neg q, fails0, kbind]
      exact (if_pos (show b2i (false, tc T 0).1 = 0 from rfl)).trans (if_pos f1)
  | succ r ih =>
    intro i x1 x2 n h1 h2 h3 h4
    obtain ⟨n, rfl⟩ : ∃ z, n = z + 1 := ⟨n - 1, by omega⟩
    simp only [ksm] at h3
    have hle := kct_le (fun f => owns S A i f) nf 0
    rw [f_X3_meanOwned_L6, h.2.2.1.1, if_neg (nI_ge (by omega) (by omega)), mo_in h (by omega), kbind, nI_add, nI_1, nI_1, z_add]
    simp only [ksm, kct]
    by_cases q : kct (fun f => owns S A i f) 0 nf = 0
    · rw [if_pos (by rw [q]; decide), ih (i + 1) _ x2 n (by omega) (by omega) (by omega) (by omega), if_neg (by simp [q])]
      rw [Nat.add_assoc, Nat.zero_add]
    · rw [if_neg (nI_nle (by omega) (by omega)), ih (i + 1) _ (x2 + 1) n (by omega) (by omega) (by omega) (by omega), if_pos (by simp [q])]
      rw [Nat.add_assoc, Nat.add_assoc]
theorem mk_loop (h : kR S T na ng nf nr day A B H) : ∀ r i m c n, i + r = nf → r < n → m < 65536 → (∀ a, m.testBit a = true ↔ ∃ f, f < i ∧ owns S A a f = true) → c = kct (fun f => A.testBit (S.2 9 f).toNatClampNeg) 0 i →
    ∃ m2 c2, f_X2_meanOwned_L6 n S (nI m) (nI c) (nI i) = f_X2_meanOwned_L6 (n - r) S (nI m2) (nI c2) (nI nf) ∧ m2 < 65536 ∧ (∀ a, m2.testBit a = true ↔ ∃ f, f < nf ∧ owns S A a f = true) ∧ c2 = kct (fun f => A.testBit (S.2 9 f).toNatClampNeg) 0 nf := by
  have hna := h.1.2.1
  have hnf := h.1.2.2.2.1
  intro r
  induction r with
  | zero =>
    intro i m c n h1 h2 h3 h4 h5
    have e : i = nf := by omega
    subst e
    exact ⟨m, c, rfl, h3, h4, h5⟩
  | succ r ih =>
    intro i m c n h1 h2 h3 h4 h5
    obtain ⟨n, rfl⟩ : ∃ z, n = z + 1 := ⟨n - 1, by omega⟩
    obtain ⟨-, w, hw, ew⟩ := h.2.2.2.2.2.2.1 i (by omega)
    have hs : kct (fun f => A.testBit (S.2 9 f).toNatClampNeg) 0 (i + 1) = kct (fun f => A.testBit (S.2 9 f).toNatClampNeg) 0 i + (if A.testBit w = true then 1 else 0) := by
      rw [kct_split]; simp only [kct, Nat.zero_add, Nat.add_zero, ew, nI_clamp (show w < 2 ^ 31 by omega)]
    rw [f_X2_meanOwned_L6, h.2.1.2.2.1, if_neg (nI_ge (by omega) (by omega)), at_row (by omega) (by omega), kbind, ew, h.isActive (by omega), kbind, nI_1, nI_1, show n + 1 - (r + 1) = n - r by omega]
    cases hA : A.testBit w with
    | false =>
      rw [if_pos b2i_f]
      refine ih (i + 1) m c n (by omega) (by omega) h3 (fun a => ?_) (by rw [hs, hA, h5]; rfl)
      rw [h4 a]
      constructor
      · rintro ⟨f, f1, f2⟩; exact ⟨f, by omega, f2⟩
      · rintro ⟨f, f1, f2⟩
        by_cases e : f = i
        · exfalso
          rw [e, owns, Bool.and_eq_true, decide_eq_true_eq, ew] at f2
          have ha16 : a < 16 := by
            rcases Nat.lt_or_ge a 16 with q | q
            · exact q
            · have := Nat.testBit_lt_two_pow (x := A) (i := a) (Nat.lt_of_lt_of_le h.A16 (Nat.pow_le_pow_right (n := 2) (i := 16) (by decide) q))
              rw [this] at f2; exact absurd f2.2 (by decide)
          have : w = a := (nI_eq (by omega) (by omega)).mp f2.1
          rw [← this, hA] at f2; exact absurd f2.2 (by decide)
        · exact ⟨f, by omega, f2⟩
    | true =>
      rw [if_neg b2i_t, k_with (by omega), kbind]
      have hp : 2 ^ w < 2 ^ 16 := Nat.pow_lt_pow_right (by decide) (by omega)
      refine ih (i + 1) (m ||| 2 ^ w) (c + 1) n (by omega) (by omega) (Nat.or_lt_two_pow (n := 16) h3 hp) (fun a => ?_) (by rw [hs, hA, h5]; rfl)
      rw [fb_bit_set, Bool.or_eq_true, decide_eq_true_eq, h4 a]
      constructor
      · rintro (⟨f, f1, f2⟩ | e)
        · exact ⟨f, by omega, f2⟩
        · exact ⟨i, by omega, by rw [owns, ew, e, hA]; simp⟩
      · rintro ⟨f, f1, f2⟩
        by_cases e : f = i
        · right
          rw [e, owns, Bool.and_eq_true, decide_eq_true_eq, ew] at f2
          have ha16 : a < 16 := by
            rcases Nat.lt_or_ge a 16 with q | q
            · exact q
            · have := Nat.testBit_lt_two_pow (x := A) (i := a) (Nat.lt_of_lt_of_le h.A16 (Nat.pow_le_pow_right (n := 2) (i := 16) (by decide) q))
              rw [this] at f2; exact absurd f2.2 (by decide)
          exact ((nI_eq (by omega) (by omega)).mp f2.1).symm
        · exact Or.inl ⟨f, by omega, f2⟩
theorem o_meanOwned (h : kR S T na ng nf nr day A B H) : (f_X2_meanOwned S = some (.inr "java/lang/ArithmeticException") ∧ ∃ v, f_X3_meanOwned T = some (v, tc T 1)) ∨
    ∃ x, f_X2_meanOwned S = some (.inl x) ∧ f_X3_meanOwned T = some (x, tc T 0) ∧ Op.cmpValue (FP.dcmp x x) CmpOp.l = 0 := by
  have hna := h.1.2.1
  have hnf := h.1.2.2.2.1
  obtain ⟨m2, c2, a1, a2, a3, a4⟩ := mk_loop h nf 0 0 0 200 (by omega) (by omega) (by omega) (fun a => by rw [Nat.zero_testBit]; exact ⟨fun z => (nomatch z), fun ⟨f, z, _⟩ => absurd z (by omega)⟩) rfl
  have hbit : ∀ a, a < na → m2.testBit a = decide (kct (fun f => owns S A a f) 0 nf ≠ 0) := fun a ha => by
    refine beq_of ?_
    rw [a3 a, decide_eq_true_eq]
    constructor
    · rintro ⟨f, f1, f2⟩ z
      have := (kct_zero nf 0).mp z f (by omega) (by omega)
      rw [this] at f2; cases f2
    · intro z
      refine Classical.byContradiction fun hno => z ((kct_zero nf 0).mpr (fun f _ hf => ?_))
      cases e : owns S A a f with
      | false => rfl
      | true => exact absurd ⟨f, by omega, e⟩ hno
  have hm2 : m2 < 2 ^ na := by
    refine Nat.lt_pow_two_of_testBit m2 (fun i hi => ?_)
    cases e : m2.testBit i with
    | false => rfl
    | true =>
      obtain ⟨f, f1, f2⟩ := (a3 i).mp e
      rw [owns, Bool.and_eq_true] at f2
      have := Nat.testBit_lt_two_pow (x := A) (i := i) (Nat.lt_of_lt_of_le h.2.2.2.1.1 (Nat.pow_le_pow_right (by decide) hi))
      rw [this] at f2; exact absurd f2.2 (by decide)
  have hp10 : 2 ^ na ≤ 2 ^ 10 := Nat.pow_le_pow_right (by decide) hna
  have hcnt : kct (fun i => m2.testBit i) 0 12 = kct (fun a => decide (kct (fun f => owns S A a f) 0 nf ≠ 0)) 0 na := by
    rw [kct_bits hm2 (by omega)]
    exact kct_cong na 0 (fun i _ hi => hbit i (by omega))
  have hsum : c2 = ksm (fun a => kct (fun f => owns S A a f) 0 nf) 0 na := by
    rw [a4, kct_ksm, ksm_cong (w := fun a => kct (fun f => owns S A a f) 0 nf) na 0 (v := fun a => ksm (fun f => if owns S A a f = true then 1 else 0) 0 nf) (fun a _ _ => kct_ksm _ nf 0), ksm_swap (fun f a => if owns S A a f = true then 1 else 0) nf na]
    refine ksm_cong nf 0 (fun f _ hf => ?_)
    obtain ⟨-, w, hw, ew⟩ := h.2.2.2.2.2.2.1 f (by omega)
    rw [ksm_cong na 0 (v := fun a => if a = w then (if A.testBit a = true then 1 else 0) else 0) (fun a _ ha => ?_), ksm_one na 0 (by omega) (by omega), ew, nI_clamp (by omega)]
    rw [owns, ew]
    by_cases e : a = w
    · rw [if_pos e, e]; simp
    · rw [if_neg e, if_neg (fun z => by
        rw [Bool.and_eq_true, decide_eq_true_eq] at z
        exact e ((nI_eq (by omega) (by omega)).mp z.1).symm)]
  have hc12 : c2 ≤ 12 := by rw [a4]; have := kct_le (fun f => A.testBit (S.2 9 f).toNatClampNeg) nf 0; omega
  have eK : f_X2_meanOwned S = (if nI (kct (fun i => m2.testBit i) 0 12) = 0 then some (.inr "java/lang/ArithmeticException") else (if kn64 (FP.ddiv (FP.i2d (nI c2)) (FP.i2d (nI (kct (fun i => m2.testBit i) 0 12)))) = true then some (.inl (FP.ddiv (FP.i2d (nI c2)) (FP.i2d (nI (kct (fun i => m2.testBit i) 0 12))))) else none)) := by
    rw [f_X2_meanOwned]
    refine Eq.trans a1 ?_
    obtain ⟨k, hk⟩ : ∃ k, 200 - nf = k + 1 := ⟨199 - nf, by omega⟩
    rw [hk, f_X2_meanOwned_L6, h.2.1.2.2.1, if_pos (nI_le (Nat.le_refl nf) (by omega)), k_bits (by omega), kbind]
  have eM : f_X3_meanOwned T = mo_end T (0 + ksm (fun a => kct (fun f => owns S A a f) 0 nf) 0 na) (0 + kct (fun a => decide (kct (fun f => owns S A a f) 0 nf ≠ 0)) 0 na) := by
    rw [f_X3_meanOwned]
    exact mo_out h na 0 0 0 200 (by omega) (by omega) (by rw [← hsum]; omega) (by omega)
  rw [Nat.zero_add, Nat.zero_add, ← hsum, ← hcnt, mo_end] at eM
  have hb10 : kct (fun i => m2.testBit i) 0 12 ≤ 12 := kct_le _ 12 0
  by_cases q : kct (fun i => m2.testBit i) 0 12 = 0
  · rw [if_pos q] at eM
    rw [if_pos (by rw [q]; rfl)] at eK
    exact Or.inl ⟨eK, _, eM⟩
  · obtain ⟨f1, f2⟩ := fpd hc12 (by omega) hb10
    rw [if_neg q] at eM
    rw [if_neg (nI_ne0 (by omega) (by omega)), if_pos f1] at eK
    exact Or.inr ⟨_, eK, eM, f2⟩
end MN
