/-! DAYS, COUNTS OVER GRIDS, ROOMS, HOLDERS -/
def ksm (w : Nat → Nat) : Nat → Nat → Nat
  | _, 0 => 0
  | c, k + 1 => w c + ksm w (c + 1) k
theorem kct_ksm (p : Nat → Bool) : ∀ k c, kct p c k = ksm (fun i => if p i = true then 1 else 0) c k := by
  intro k
  induction k with
  | zero => intro c; rfl
  | succ k ih => intro c; simp only [kct, ksm]; rw [ih]
theorem ksm_split (w : Nat → Nat) : ∀ k c m, ksm w c (k + m) = ksm w c k + ksm w (c + k) m := by
  intro k
  induction k with
  | zero => intro c m; simp [ksm]
  | succ k ih => intro c m; rw [show k + 1 + m = (k + m) + 1 by omega]; simp only [ksm]; rw [ih (c + 1) m, show c + 1 + k = c + (k + 1) by omega]; omega
theorem ksm_zero {w : Nat → Nat} : ∀ k c, (∀ i, c ≤ i → i < c + k → w i = 0) → ksm w c k = 0 := by
  intro k
  induction k with
  | zero => intro c _; rfl
  | succ k ih => intro c h; simp only [ksm]; rw [h c (by omega) (by omega), ih (c + 1) (fun i h1 h2 => h i (by omega) (by omega))]
theorem ksm_cut {w : Nat → Nat} {m n : Nat} (h : m ≤ n) (h0 : ∀ i, m ≤ i → i < n → w i = 0) : ksm w 0 n = ksm w 0 m := by
  obtain ⟨k, rfl⟩ : ∃ k, n = m + k := ⟨n - m, by omega⟩
  rw [ksm_split, ksm_zero k (0 + m) (fun i h1 h2 => h0 i (by omega) (by omega))]; rfl
theorem ksm_cong {w v : Nat → Nat} : ∀ k c, (∀ i, c ≤ i → i < c + k → w i = v i) → ksm w c k = ksm v c k := by
  intro k
  induction k with
  | zero => intro c _; rfl
  | succ k ih => intro c h; simp only [ksm]; rw [h c (by omega) (by omega), ih (c + 1) (fun i h1 h2 => h i (by omega) (by omega))]
theorem ksm_add (w v : Nat → Nat) : ∀ k c, ksm (fun i => w i + v i) c k = ksm w c k + ksm v c k := by
  intro k
  induction k with
  | zero => intro c; rfl
  | succ k ih => intro c; simp only [ksm]; rw [ih]; omega
theorem loop_sm {ρ : Type} (F : Nat → Nat → Nat → Option ρ) (w : Nat → Nat) (hi : Nat) (out : Nat → ρ)
    (hs : ∀ n acc i, i < hi → F (n + 1) acc i = F n (acc + w i) (i + 1))
    (he : ∀ n acc, F (n + 1) acc hi = some (out acc)) : ∀ k i acc n, i + k = hi → k < n → F n acc i = some (out (acc + ksm w i k)) := by
  intro k
  induction k with
  | zero =>
    intro i acc n h1 h2
    obtain ⟨n, rfl⟩ : ∃ z, n = z + 1 := ⟨n - 1, by omega⟩
    rw [show i = hi by omega, he]; rfl
  | succ k ih =>
    intro i acc n h1 h2
    obtain ⟨n, rfl⟩ : ∃ z, n = z + 1 := ⟨n - 1, by omega⟩
    rw [hs n acc i (by omega), ih (i + 1) _ n (by omega) (by omega)]
    simp only [ksm]; rw [Nat.add_assoc]
/-- a grid's rows one after another -/
theorem ksm_rows (w : Nat → Nat) (W : Nat) : ∀ r, ksm w 0 (r * W) = ksm (fun g => ksm w (g * W) W) 0 r := by
  intro r
  induction r with
  | zero => simp [ksm]
  | succ r ih =>
    rw [Nat.succ_mul, ksm_split, ih, ksm_split, Nat.zero_add, Nat.zero_add]
    simp only [ksm]; omega
theorem ksm_shift (w : Nat → Nat) (b : Nat) : ∀ k c, ksm w (b + c) k = ksm (fun i => w (b + i)) c k := by
  intro k
  induction k with
  | zero => intro c; rfl
  | succ k ih => intro c; simp only [ksm]; rw [← ih, Nat.add_assoc]
theorem ksm_swap (w : Nat → Nat → Nat) (m : Nat) : ∀ r, ksm (fun g => ksm (fun a => w a g) 0 m) 0 r = ksm (fun a => ksm (fun g => w a g) 0 r) 0 m := by
  intro r
  induction r with
  | zero => symm; exact ksm_zero m 0 (fun i _ _ => rfl)
  | succ r ih =>
    rw [ksm_split, ih]
    have e : ∀ a, ksm (fun g => w a g) 0 (r + 1) = ksm (fun g => w a g) 0 r + w a r := fun a => by rw [ksm_split, Nat.zero_add]; simp only [ksm]; omega
    rw [ksm_cong m 0 (v := fun a => ksm (fun g => w a g) 0 r + w a r) (fun i _ _ => e i), ksm_add, Nat.zero_add]
    simp only [ksm]; omega
/-- the same count over a grid and over its mirror -/
theorem ksm_mirror {w v : Nat → Nat} {m r : Nat} (h : ∀ a g, a < m → g < r → w (g * m + a) = v (a * r + g)) : ksm w 0 (r * m) = ksm v 0 (m * r) := by
  rw [ksm_rows w m r, ksm_rows v r m]
  have e1 : ∀ g, g < r → ksm w (g * m) m = ksm (fun a => v (a * r + g)) 0 m := by
    intro g hg
    have := ksm_shift w (g * m) m 0
    rw [Nat.add_zero] at this
    rw [this]
    exact ksm_cong m 0 (fun a _ ha => h a g (by omega) hg)
  have e2 : ∀ a, a < m → ksm v (a * r) r = ksm (fun g => v (a * r + g)) 0 r := by
    intro a _
    have := ksm_shift v (a * r) r 0
    rw [Nat.add_zero] at this
    exact this
  rw [ksm_cong r 0 (v := fun g => ksm (fun a => v (a * r + g)) 0 m) (fun g _ hg => e1 g (by omega)), ksm_cong m 0 (v := fun a => ksm (fun g => v (a * r + g)) 0 r) (fun a _ ha => e2 a (by omega))]
  exact ksm_swap (fun a g => v (a * r + g)) m r
section DY
variable {S T : kSt} {na ng nf nr day A B H : Nat}
theorem m_memberships (h : kR S T na ng nf nr day A B H) : f_X3_memberships T = some (nI (ksm (fun k => if decide (T.2 4 k ≠ 0) = true then 1 else 0) 0 60 + ksm (fun k => if decide (T.2 5 k ≠ 0) = true then 1 else 0) 0 36), tc T 0) := by
  have z4 : ∀ k, k < 60 → (T.2 4 k ≤ 0 ↔ T.2 4 k = 0) := by
    intro k hk
    obtain ⟨e1, e2, -⟩ := h.2.2.2.2.2.2.2.2.2.1 (k / 6) (k % 6) (by omega) (by omega)
    rw [show 6 * (k / 6) + k % 6 = k by omega] at e1
    rw [e1]; exact (encT_le e2).trans (encT_z e2).symm
  have z5 : ∀ k, k < 36 → (T.2 5 k ≤ 0 ↔ T.2 5 k = 0) := by
    intro k hk
    obtain ⟨e1, e2, -⟩ := h.2.2.2.2.2.2.2.2.2.2.1 (k / 6) (k % 6) (by omega) (by omega)
    rw [show 6 * (k / 6) + k % 6 = k by omega] at e1
    rw [e1]; exact (encT_le e2).trans (encT_z e2).symm
  have hL := loop_sm (fun n acc i => f_X3_memberships_L9 n (tc T 0) (nI acc) (nI i)) (fun k => if decide (T.2 4 k ≠ 0) = true then 1 else 0) 60 (fun acc => (nI (acc + ksm (fun k => if decide (T.2 5 k ≠ 0) = true then 1 else 0) 0 36), tc T 0)) ?_ ?_ 60 0 0 200 (by omega) (by omega)
  · rw [Nat.zero_add] at hL; rw [f_X3_memberships]; exact hL
  · intro n acc i hi
    show f_X3_memberships_L9 (n + 1) (tc T 0) (nI acc) (nI i) = f_X3_memberships_L9 n (tc T 0) (nI (acc + _)) (nI (i + 1))
    have hge : ¬ (60 : Int32) ≤ nI i := nI_ge (b := 60) hi (by omega)
    have e4 : (tc T 0).2 4 i = T.2 4 i := rfl
    rw [f_X3_memberships_L9, if_neg hge, if_pos (kin_nI (by omega) (by omega)), nI_clamp (by omega), e4, nI_1, nI_1, z_add]
    by_cases z : T.2 4 i = 0
    · rw [if_pos ((z4 i hi).mpr z), if_neg (by simp [z])]; rfl
    · rw [if_neg (fun y => z ((z4 i hi).mp y)), if_pos (by simp [z])]
  · intro n acc
    show f_X3_memberships_L9 (n + 1) (tc T 0) (nI acc) 60 = some _
    rw [f_X3_memberships_L9, if_pos (by decide)]
    have hL := loop_sm (fun n acc i => f_X3_memberships_L40 n (tc T 0) (nI acc) (nI i)) (fun k => if decide (T.2 5 k ≠ 0) = true then 1 else 0) 36 (fun acc => (nI acc, tc T 0)) ?_ ?_ 36 0 acc 200 (by omega) (by omega)
    · exact hL
    · intro n acc i hi
      show f_X3_memberships_L40 (n + 1) (tc T 0) (nI acc) (nI i) = f_X3_memberships_L40 n (tc T 0) (nI (acc + _)) (nI (i + 1))
      have hge : ¬ (36 : Int32) ≤ nI i := nI_ge (b := 36) hi (by omega)
      have e4 : (tc T 0).2 5 i = T.2 5 i := rfl
      rw [f_X3_memberships_L40, if_neg hge, if_pos (kin_nI (by omega) (by omega)), nI_clamp (by omega), e4, nI_1, nI_1, z_add]
      by_cases z : T.2 5 i = 0
      · rw [if_pos ((z5 i hi).mpr z), if_neg (by simp [z])]; rfl
      · rw [if_neg (fun y => z ((z5 i hi).mp y)), if_pos (by simp [z])]
    · intro n acc
      show f_X3_memberships_L40 (n + 1) (tc T 0) (nI acc) 36 = some _
      rw [f_X3_memberships_L40, if_pos (by decide)]
theorem o_memberships (h : kR S T na ng nf nr day A B H) : ∃ v, f_X2_memberships S = some v ∧ f_X3_memberships T = some (v, tc T 0) := by
  have hng := h.1.2.2.1
  refine ⟨_, ?_, m_memberships h⟩
  have hL := loop_sm (fun n acc i => f_X2_memberships_L4 n S (nI acc) (nI i)) (fun g => kct (fun a => mbr S a g) 0 10 + kct (fun i => edg S i g) 0 6) ng (fun acc => nI acc) ?_ ?_ ng 0 0 200 (by omega) (by omega)
  · rw [Nat.zero_add] at hL
    rw [f_X2_memberships]
    refine Eq.trans hL ?_
    refine congrArg (fun z => some (nI z)) ?_
    rw [← ksm_cut hng (fun g h1 h2 => by rw [(kct_zero 10 0).mpr (fun a _ ha => by have := (h.2.2.2.2.2.2.2.2.2.1 a g (by omega) h2).2.2 (Or.inr h1); simp [mbr, this]), (kct_zero 6 0).mpr (fun i _ hi => h.ez i g (by omega) h2 (Or.inr h1))]), ksm_add]
    have e1 : ksm (fun k => if decide (S.2 12 k ≠ 0) = true then 1 else 0) 0 (6 * 10) = ksm (fun k => if decide (T.2 4 k ≠ 0) = true then 1 else 0) 0 (10 * 6) := ksm_mirror (fun a g ha hg => by
      obtain ⟨e1, e2, -⟩ := h.2.2.2.2.2.2.2.2.2.1 a g ha hg
      rw [show a * 6 + g = 6 * a + g by omega, e1]
      by_cases z : S.2 12 (g * 10 + a) = 0
      · have := (encT_z e2).mpr z; rw [this, z]
      · have : ¬ encT (S.2 12 (g * 10 + a)) = 0 := fun y => z ((encT_z e2).mp y)
        simp [z, this])
    have e2 : ksm (fun k => if decide (S.2 13 k ≠ 0) = true then 1 else 0) 0 (6 * 6) = ksm (fun k => if decide (T.2 5 k ≠ 0) = true then 1 else 0) 0 (6 * 6) := ksm_mirror (fun a g ha hg => by
      obtain ⟨e1, e2, -⟩ := h.2.2.2.2.2.2.2.2.2.2.1 a g ha hg
      rw [show a * 6 + g = 6 * a + g by omega, e1]
      by_cases z : S.2 13 (g * 6 + a) = 0
      · have := (encT_z e2).mpr z; rw [this, z]
      · have : ¬ encT (S.2 13 (g * 6 + a)) = 0 := fun y => z ((encT_z e2).mp y)
        simp [z, this])
    rw [← show 10 * 6 = 60 from rfl, ← show 6 * 6 = 36 from rfl, ← e1, ← e2, ksm_rows, ksm_rows]
    refine congr (congrArg HAdd.hAdd ?_) ?_
    · refine ksm_cong 6 0 (fun g _ _ => ?_)
      have := ksm_shift (fun k => if decide (S.2 12 k ≠ 0) = true then 1 else 0) (g * 10) 10 0
      rw [Nat.add_zero] at this
      rw [this, kct_ksm]; rfl
    · refine ksm_cong 6 0 (fun g _ _ => ?_)
      have := ksm_shift (fun k => if decide (S.2 13 k ≠ 0) = true then 1 else 0) (g * 6) 6 0
      rw [Nat.add_zero] at this
      rw [this, kct_ksm]; rfl
  · intro n acc i hi
    show f_X2_memberships_L4 (n + 1) S (nI acc) (nI i) = f_X2_memberships_L4 n S (nI (acc + _)) (nI (i + 1))
    rw [f_X2_memberships_L4, h.2.1.2.1, if_neg (nI_ge hi (by omega)), h.filledM (by omega), kbind, h.filledN (by omega), kbind, nI_add, nI_add, nI_1]
  · intro n acc
    show f_X2_memberships_L4 (n + 1) S (nI acc) (nI ng) = some (nI acc)
    rw [f_X2_memberships_L4, h.2.1.2.1, if_pos (nI_le (Nat.le_refl ng) (by omega))]
theorem o_readers (h : kR S T na ng nf nr day A B H) (gg : Nat → Int64) (p1 : Int32) : agL (f_L_readers S gg p1) (f_X3_readers T p1) := by
  have hnr := h.1.2.2.2.2.1
  have hng := h.1.2.2.1
  rcases idx p1 nr with ⟨r, hr, rfl⟩ | hb
  · obtain ⟨e1, g, hg, e2⟩ := h.2.2.2.2.2.2.2.2.1 r hr
    have e3 : f_X3_readers T (nI r) = some ((if nI (kct (fun a => A.testBit a && inB S a g) 0 na) = 0 then 1 else nI (kct (fun a => A.testBit a && inB S a g) 0 na)), tc T 0) := by
      rw [f_X3_readers, h.noR hr, kbind, if_pos b2i_f, fails0, kbind]
      dsimp only
      rw [if_pos b2i_f, m_inside (h.tc 0) hr hg e2, kbind, kbind]
      by_cases z : nI (kct (fun a => A.testBit a && inB S a g) 0 na) = 0
      · rw [if_pos z, if_pos z]
      · rw [if_neg z, if_neg z]
    rw [e3, f_L_readers, f_X2_readers, h.reR hr, kxb, at_row (by omega) (by omega), kbind, e2, k_activeIn h (by omega), kbind]
    by_cases z : nI (kct (fun a => A.testBit a && inB S a g) 0 na) = 0
    · rw [if_pos z, if_pos z, kxb]; exact agL.s (h.tc 0).x (tc_18 T 0)
    · rw [if_neg z, if_neg z, kxb]; exact agL.s (h.tc 0).x (tc_18 T 0)
  · rw [f_L_readers, f_X2_readers, h.reR' hb, kxb, kxb, f_X3_readers, h.noR' hb, kbind, if_neg b2i_t, fails1, kbind]
    exact agL.f h.x 1 (by decide)
theorem o_reads (h : kR S T na ng nf nr day A B H) (gg : Nat → Int64) (p1 p2 : Int32) : agB (f_L_reads S gg p1 p2) (f_X3_reads T p1 p2) := by
  have hna := h.1.2.1
  have hnr := h.1.2.2.2.2.1
  have hng := h.1.2.2.1
  rcases idx p1 na with ⟨a, ha, rfl⟩ | hb
  · rcases idx p2 nr with ⟨r, hr, rfl⟩ | hb
    · obtain ⟨e1, g, hg, e2⟩ := h.2.2.2.2.2.2.2.2.1 r hr
      have hC : kct (fun a => A.testBit a && inB S a g) 0 na ≤ na := kct_le _ na 0
      have hz : nI (kct (fun a => A.testBit a && inB S a g) 0 na) = 0 ↔ kct (fun a => A.testBit a && inB S a g) 0 na = 0 := nI_eq (b := 0) (by omega) (by omega)
      have e3 : f_X3_reads T (nI a) (nI r) = some ((if kct (fun a => A.testBit a && inB S a g) 0 na = 0 then decide (a = 0) else (A.testBit a && inB S a g)), tc T 0) := by
        rw [f_X3_reads, h.noA ha, kbind, if_pos b2i_f, h.noR hr, kbind, if_pos b2i_f, fails0, kbind]
        have hm := (h.tc 0).isMember (a := a) (g := g) (by omega) (by omega)
        refine (if_pos (show b2i (false, tc T 0).1 = 0 from rfl)).trans ?_
        show ((f_X3_inside (tc T 0) (nI r)).bind fun v4 => _) = _
        rw [m_inside (h.tc 0) hr hg e2, kbind]
        by_cases z : kct (fun a => A.testBit a && inB S a g) 0 na = 0
        · rw [if_pos (hz.mpr z), if_pos z]
          by_cases q : a = 0
          · rw [if_pos (by rw [q]; rfl)]; simp [q]
          · rw [if_neg (nI_ne0 (by omega) (by omega))]; simp [q]
        · rw [if_neg (fun y => z (hz.mp y)), if_neg z, if_pos (kin_nI (by omega) (by omega))]
          have e9 : (false, tc T 0).2.2 1 (nI a).toNatClampNeg = b2i (!A.testBit a) := by
            rw [nI_clamp (by omega)]; exact m_left (h.tc 0) ha
          rw [e9]
          cases A.testBit a with
          | false => exact if_neg (show ¬ b2i (!false) = 0 by decide)
          | true =>
            refine (if_pos (show b2i (!true) = 0 by decide)).trans ?_
            rw [if_pos (kin_nI (by omega) (by omega))]
            have e8 : (false, tc T 0).2.2 15 (nI r).toNatClampNeg = nI g := by
              rw [nI_clamp (by omega)]; exact ((h.tc 0).2.2.2.2.2.2.2.2.1 r hr).1.trans e2
            rw [e8]
            refine (congrArg (fun o => Option.bind o _) hm).trans ?_
            rw [kbind]
            cases inB S a g with
            | false => exact if_pos b2i_f
            | true => exact if_neg b2i_t
      have e4 : f_X2_reads S (nI a) (nI r) = some (.inl (if kct (fun a => A.testBit a && inB S a g) 0 na = 0 then decide (a = 0) else (A.testBit a && inB S a g))) := by
        obtain ⟨M, b1, b2, b3⟩ := h.groupsOf (a := a) (by omega)
        have hT : (if nI a = 0 then (some (Sum.inl (decide (kct (fun a => A.testBit a && inB S a g) 0 na = 0))) : Option (Bool ⊕ String)) else some (.inl false)) = some (.inl (decide (a = 0) && decide (kct (fun a => A.testBit a && inB S a g) 0 na = 0))) := by
          by_cases q : a = 0
          · rw [if_pos (by rw [q]; rfl)]; simp [q]
          · rw [if_neg (nI_ne0 (by omega) (by omega))]; simp [q]
        have hB : ((f_X2_activeIn S (nI g)).bind fun v5 => if v5 = 0 then (some (.inl true) : Option (Bool ⊕ String)) else (some (.inl false))) = some (.inl (decide (kct (fun a => A.testBit a && inB S a g) 0 na = 0))) := by
          rw [k_activeIn h (by omega), kbind]
          by_cases z : kct (fun a => A.testBit a && inB S a g) 0 na = 0
          · rw [if_pos (hz.mpr z)]; simp [z]
          · rw [if_neg (fun y => z (hz.mp y))]; simp [z]
        rw [f_X2_reads, h.reA ha, kxb, h.reR hr, kxb, at_row (by omega) (by omega), kbind, e2, hB, hT, h.isActive (by omega), kbind, b1, kbind, contains_bit (by omega) (by omega), kbind, b3 g (by omega)]
        cases hA : A.testBit a with
        | false =>
          rw [if_pos b2i_f]
          by_cases z : kct (fun a => A.testBit a && inB S a g) 0 na = 0
          · rw [if_pos z]; simp [z]
          · rw [if_neg z]; simp [z]
        | true =>
          rw [if_neg b2i_t]
          cases hI : inB S a g with
          | false =>
            rw [if_pos b2i_f]
            by_cases z : kct (fun a => A.testBit a && inB S a g) 0 na = 0
            · rw [if_pos z]; simp [z]
            · rw [if_neg z]; simp [z]
          | true =>
            have z : ¬ kct (fun a => A.testBit a && inB S a g) 0 na = 0 := fun y => by
              have := (kct_zero na 0).mp y a (by omega) (by omega)
              rw [hA, hI] at this; cases this
            rw [if_neg b2i_t, if_neg z]; rfl
      rw [e3, f_L_reads, e4, kxb]
      exact agB.s (h.tc 0).x (tc_18 T 0)
    · rw [f_L_reads, f_X2_reads, h.reA ha, kxb, h.reR' hb, kxb, kxb, f_X3_reads, h.noA ha, kbind, if_pos b2i_f, h.noR' hb, kbind, if_neg b2i_t, fails1, kbind]
      exact agB.f h.x 1 (by decide)
  · rw [f_L_reads, f_X2_reads, h.reA' hb, kxb, kxb, f_X3_reads, h.noA' hb, kbind, if_neg b2i_t, fails1, kbind]
    exact agB.f h.x 1 (by decide)
end DY
