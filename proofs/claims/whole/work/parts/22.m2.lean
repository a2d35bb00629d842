/-! GROUPS IN GROUPS: what each walk over memberships answers -/
def edg (S : kSt) (i o : Nat) : Bool := decide (S.2 13 (o * 6 + i) ≠ 0)
def mbr (S : kSt) (a g : Nat) : Bool := decide (S.2 12 (g * 10 + a) ≠ 0)
def encT (x : Int32) : Int32 := if x = -1 then 9999 else x
def okE (day : Nat) (x : Int32) : Prop := x = 0 ∨ x = -1 ∨ ∃ e : Nat, day < e ∧ e ≤ 999 ∧ x = nI e
def iMem (S T : kSt) (na ng day : Nat) : Prop := ∀ a g, a < 10 → g < 6 → T.2 4 (6 * a + g) = encT (S.2 12 (g * 10 + a)) ∧ okE day (S.2 12 (g * 10 + a)) ∧ ((na ≤ a ∨ ng ≤ g) → S.2 12 (g * 10 + a) = 0)
def iNest (S T : kSt) (ng day : Nat) : Prop := ∀ i o, i < 6 → o < 6 → T.2 5 (6 * i + o) = encT (S.2 13 (o * 6 + i)) ∧ okE day (S.2 13 (o * 6 + i)) ∧ ((ng ≤ i ∨ ng ≤ o) → S.2 13 (o * 6 + i) = 0)
def iAcy (S : kSt) : Prop := ∃ rk : Nat → Nat, ∀ i o, i < 6 → o < 6 → edg S i o = true → rk i < rk o
theorem encT_nI {e : Nat} (h : e < 2 ^ 31) : encT (nI e) = nI e := by
  unfold encT
  rw [if_neg (fun z => by
    have := congrArg Int32.toInt z
    rw [nI_toInt h] at this
    have h9 : (-1 : Int32).toInt = -1 := by decide
    omega)]
theorem encT_le {day : Nat} {x : Int32} (h : okE day x) : encT x ≤ 0 ↔ x = 0 := by
  rcases h with rfl | rfl | ⟨e, h1, h2, rfl⟩
  · decide
  · decide
  · rw [encT_nI (by omega)]
    exact ⟨fun z => absurd z (nI_nle (by omega) (by omega)), fun z => absurd z (nI_ne0 (by omega) (by omega))⟩
theorem encT_z {day : Nat} {x : Int32} (h : okE day x) : encT x = 0 ↔ x = 0 := by
  rcases h with rfl | rfl | ⟨e, h1, h2, rfl⟩
  · decide
  · decide
  · rw [encT_nI (by omega)]
theorem mul6 (i o : Nat) : (6 : Int32) * nI i + nI o = nI (6 * i + o) := by rw [show (6 : Int32) = nI 6 from rfl, pk_mul, nI_add]
theorem mul10 (i o : Nat) : (10 : Int32) * nI i + nI o = nI (10 * i + o) := by rw [show (10 : Int32) = nI 10 from rfl, pk_mul, nI_add]
theorem b2i_f : b2i false = 0 := rfl
theorem b2i_t : ¬ b2i true = 0 := by decide
theorem m_isNested {S T : kSt} {ng day : Nat} (h : iNest S T ng day) {i o : Nat} (hi : i < 6) (ho : o < 6) : f_X3_isNested T (nI i) (nI o) = some (edg S i o) := by
  rw [f_X3_isNested, mul6, if_pos (kin_nI (by omega) (by omega)), nI_clamp (by omega)]
  obtain ⟨e1, e2, -⟩ := h i o hi ho
  rw [e1]
  by_cases z : S.2 13 (o * 6 + i) = 0
  · rw [if_pos ((encT_le e2).mpr z)]; simp [edg, z]
  · rw [if_neg (fun y => z ((encT_le e2).mp y))]; simp [edg, z]
theorem k_isNested {S : kSt} {i o : Nat} (hi : i < 6) (ho : o < 6) : f_X2_isNested S (nI i) (nI o) = some (edg S i o) := by
  have e : f_X0_at 36 6 (S.2 13) (nI o) (nI i) = some (S.2 13 (o * 6 + i)) := at_grid (W := 6) hi (by omega) (by omega) (by omega)
  rw [f_X2_isNested, e, kbind]
  by_cases z : S.2 13 (o * 6 + i) = 0
  · rw [if_pos z]; simp [edg, z]
  · rw [if_neg z]; simp [edg, z]
theorem k_isMember {S : kSt} {a g : Nat} (ha : a < 10) (hg : g < 6) : f_X2_isMember S (nI a) (nI g) = some (mbr S a g) := by
  have e : f_X0_at 60 10 (S.2 12) (nI g) (nI a) = some (S.2 12 (g * 10 + a)) := at_grid (W := 10) ha (by omega) (by omega) (by omega)
  rw [f_X2_isMember, e, kbind]
  by_cases z : S.2 12 (g * 10 + a) = 0
  · rw [if_pos z]; simp [mbr, z]
  · rw [if_neg z]; simp [mbr, z]
-- leading from one to another
def rd (S : kSt) : Nat → Nat → Nat → Prop
  | 0, x, y => x = y
  | k + 1, x, y => x = y ∨ ∃ z, z < 6 ∧ edg S x z = true ∧ rd S k z y
def rch (S : kSt) (x y : Nat) : Prop := ∃ k, rd S k x y
theorem rch_refl (S : kSt) (x : Nat) : rch S x x := ⟨0, rfl⟩
theorem rch_step {S : kSt} {x y z : Nat} (hz : z < 6) (h : edg S x z = true) (h2 : rch S z y) : rch S x y := by
  obtain ⟨k, hk⟩ := h2
  exact ⟨k + 1, Or.inr ⟨z, hz, h, hk⟩⟩
theorem rch_cases {S : kSt} {x y : Nat} (h : rch S x y) : x = y ∨ ∃ z, z < 6 ∧ edg S x z = true ∧ rch S z y := by
  obtain ⟨k, hk⟩ := h
  cases k with
  | zero => exact Or.inl hk
  | succ k =>
    rcases hk with e | ⟨z, h1, h2, h3⟩
    · exact Or.inl e
    · exact Or.inr ⟨z, h1, h2, k, h3⟩
theorem rd_trans {S : kSt} {y w : Nat} (h2 : rch S y w) : ∀ k x, rd S k x y → rch S x w := by
  intro k
  induction k with
  | zero => intro x h; have e : x = y := h; rw [e]; exact h2
  | succ k ih =>
    intro x h
    rcases h with e | ⟨z, a1, a2, a3⟩
    · rw [e]; exact h2
    · exact rch_step a1 a2 (ih z a3)
theorem rch_trans {S : kSt} {x y w : Nat} (h : rch S x y) (h2 : rch S y w) : rch S x w := by
  obtain ⟨k, hk⟩ := h
  exact rd_trans h2 k x hk
theorem rch_last {S : kSt} {x y : Nat} (hx : x < 6) (hy : y < 6) (h : rch S x y) : x = y ∨ ∃ z, z < 6 ∧ edg S z y = true ∧ rch S x z := by
  obtain ⟨k, hk⟩ := h
  induction k generalizing x with
  | zero => exact Or.inl hk
  | succ k ih =>
    rcases hk with e | ⟨z, a1, a2, a3⟩
    · exact Or.inl e
    · rcases ih a1 a3 with e | ⟨v, b1, b2, b3⟩
      · subst e; exact Or.inr ⟨x, hx, a2, rch_refl S x⟩
      · exact Or.inr ⟨v, b1, b2, rch_step a1 a2 b3⟩
noncomputable def rB (S : kSt) (x y : Nat) : Bool := @decide (rch S x y) (Classical.propDecidable _)
theorem rB_iff {S : kSt} {x y : Nat} : rB S x y = true ↔ rch S x y := by unfold rB; exact @decide_eq_true_iff _ (Classical.propDecidable _)
def inP (S : kSt) (a g : Nat) : Prop := ∃ g0, g0 < 6 ∧ mbr S a g0 = true ∧ rch S g0 g
noncomputable def inB (S : kSt) (a g : Nat) : Bool := @decide (inP S a g) (Classical.propDecidable _)
theorem inB_iff {S : kSt} {a g : Nat} : inB S a g = true ↔ inP S a g := by unfold inB; exact @decide_eq_true_iff _ (Classical.propDecidable _)
theorem beq_of {a b : Bool} (h : a = true ↔ b = true) : a = b := by
  cases a <;> cases b <;> simp_all
-- how far a chain may go on
theorem kct_lt {p q : Nat → Bool} : ∀ k c, (∀ i, c ≤ i → i < c + k → p i = true → q i = true) → (∃ i, c ≤ i ∧ i < c + k ∧ p i = false ∧ q i = true) → kct p c k < kct q c k := by
  intro k
  induction k with
  | zero => intro c _ ⟨i, h1, h2, _⟩; omega
  | succ k ih =>
    intro c h ⟨i, h1, h2, h3, h4⟩
    simp only [kct]
    have hle : ∀ (k c : Nat), (∀ i, c ≤ i → i < c + k → p i = true → q i = true) → kct p c k ≤ kct q c k := by
      intro k
      induction k with
      | zero => intro c _; exact Nat.le_refl 0
      | succ k ih2 =>
        intro c h
        simp only [kct]
        have := ih2 (c + 1) (fun i a b => h i (by omega) (by omega))
        by_cases hp : p c = true
        · rw [if_pos hp, if_pos (h c (by omega) (by omega) hp)]; omega
        · rw [if_neg hp]; omega
    by_cases e : i = c
    · subst e
      have := hle k (i + 1) (fun j a b => h j (by omega) (by omega))
      rw [if_neg (by rw [h3]; decide), if_pos h4]; omega
    · have := ih (c + 1) (fun j a b => h j (by omega) (by omega)) ⟨i, by omega, by omega, h3, h4⟩
      by_cases hp : p c = true
      · rw [if_pos hp, if_pos (h c (by omega) (by omega) hp)]; omega
      · rw [if_neg hp]; omega
def upc (rk : Nat → Nat) (x : Nat) : Nat := kct (fun y => decide (rk x < rk y)) 0 6
def dnc (rk : Nat → Nat) (x : Nat) : Nat := kct (fun y => decide (rk y < rk x)) 0 6
theorem upc_lt {rk : Nat → Nat} {x z : Nat} (hz : z < 6) (h : rk x < rk z) : upc rk z < upc rk x := by
  refine kct_lt 6 0 (fun i _ _ hi => ?_) ⟨z, by omega, by omega, ?_, ?_⟩
  · simp only [decide_eq_true_eq] at hi ⊢; omega
  · simp
  · simp [h]
theorem dnc_lt {rk : Nat → Nat} {x z : Nat} (hz : z < 6) (h : rk z < rk x) : dnc rk z < dnc rk x := by
  refine kct_lt 6 0 (fun i _ _ hi => ?_) ⟨z, by omega, by omega, ?_, ?_⟩
  · simp only [decide_eq_true_eq] at hi ⊢; omega
  · simp
  · simp [h]
theorem upc_6 {rk : Nat → Nat} {x : Nat} (hx : x < 6) : upc rk x < 6 := by
  have := kct_lt (p := fun y => decide (rk x < rk y)) (q := fun _ => true) 6 0 (fun _ _ _ _ => rfl) ⟨x, by omega, by omega, by simp, rfl⟩
  exact Nat.lt_of_lt_of_le this (kct_le _ 6 0)
theorem dnc_6 {rk : Nat → Nat} {x : Nat} (hx : x < 6) : dnc rk x < 6 := by
  have := kct_lt (p := fun y => decide (rk y < rk x)) (q := fun _ => true) 6 0 (fun _ _ _ _ => rfl) ⟨x, by omega, by omega, by simp, rfl⟩
  exact Nat.lt_of_lt_of_le this (kct_le _ 6 0)
-- the reference: leads, isMember
theorem m_leads {S T : kSt} {ng day : Nat} (hN : iNest S T ng day) (hg : T.1 3 = nI ng) (hng : ng ≤ 6) {rk : Nat → Nat} (hrk : ∀ i o, i < 6 → o < 6 → edg S i o = true → rk i < rk o) :
    ∀ d x y, x < 6 → y < 6 → upc rk x < d → f_X3_leads d T (nI x) (nI y) = some (rB S x y) := by
  intro d
  induction d with
  | zero => intro x y _ _ h; omega
  | succ d ih =>
    intro x y hx hy hd
    rw [f_X3_leads]
    by_cases e : x = y
    · rw [if_pos (by rw [e]), e, rB_iff.mpr (rch_refl S y)]
    · rw [if_neg (fun z => e ((nI_eq (by omega) (by omega)).mp z))]
      have h := loop_ex (fun n i => f_X3_leads_L9 (f_X3_leads d T) n T (nI x) (nI y) (nI i)) (fun i => edg S x i && rB S i y) ng ?_ ?_ ng 0 200 (by omega) (by omega)
      · refine h.trans ?_
        congr 1
        refine beq_of ?_
        rw [kex_iff, rB_iff]
        constructor
        · rintro ⟨i, -, h2, h3⟩
          simp only [Bool.and_eq_true] at h3
          exact rch_step (by omega) h3.1 (rB_iff.mp h3.2)
        · intro h
          rcases rch_cases h with q | ⟨z, h1, h2, h3⟩
          · exact absurd q e
          · refine ⟨z, by omega, ?_, ?_⟩
            · rcases Nat.lt_or_ge z ng with q | q
              · omega
              · have := (hN x z hx h1).2.2 (Or.inr q)
                simp [edg, this] at h2
            · simp [h2, rB_iff.mpr h3]
      · intro n i hi
        show f_X3_leads_L9 (f_X3_leads d T) (n + 1) T (nI x) (nI y) (nI i) = if _ then _ else f_X3_leads_L9 (f_X3_leads d T) n T (nI x) (nI y) (nI (i + 1))
        rw [f_X3_leads_L9, hg, if_neg (nI_ge hi (by omega)), m_isNested hN hx (by omega), kbind, nI_1]
        cases he : edg S x i with
        | false => rw [if_pos b2i_f]; rfl
        | true =>
          rw [if_neg b2i_t, ih i y (by omega) hy (by have := upc_lt (rk := rk) (x := x) (z := i) (by omega) (hrk x i hx (by omega) he); omega), kbind]
          cases rB S i y with
          | false => rw [if_pos b2i_f]; rfl
          | true => rw [if_neg b2i_t]; rfl
      · intro n
        show f_X3_leads_L9 (f_X3_leads d T) (n + 1) T (nI x) (nI y) (nI ng) = some false
        rw [f_X3_leads_L9, hg, if_pos (nI_le (Nat.le_refl ng) (by omega))]
theorem m_isMember {S T : kSt} {na ng day : Nat} (hM : iMem S T na ng day) (hN : iNest S T ng day) (hg : T.1 3 = nI ng) (hng : ng ≤ 6) (hA : iAcy S) {a g : Nat} (ha : a < 10) (hgg : g < 6) : f_X3_isMember T (nI a) (nI g) = some (inB S a g) := by
  obtain ⟨rk, hrk⟩ := hA
  have h := loop_ex (fun n i => f_X3_isMember_L2 n T (nI a) (nI g) (nI i)) (fun i => mbr S a i && rB S i g) ng ?_ ?_ ng 0 200 (by omega) (by omega)
  · rw [f_X3_isMember]
    refine h.trans ?_
    congr 1
    refine beq_of ?_
    rw [kex_iff, inB_iff]
    constructor
    · rintro ⟨i, -, h2, h3⟩
      simp only [Bool.and_eq_true] at h3
      exact ⟨i, by omega, h3.1, rB_iff.mp h3.2⟩
    · rintro ⟨i, h1, h2, h3⟩
      refine ⟨i, by omega, ?_, by simp [h2, rB_iff.mpr h3]⟩
      rcases Nat.lt_or_ge i ng with q | q
      · omega
      · have := (hM a i ha h1).2.2 (Or.inr q)
        simp [mbr, this] at h2
  · intro n i hi
    show f_X3_isMember_L2 (n + 1) T (nI a) (nI g) (nI i) = if _ then _ else f_X3_isMember_L2 n T (nI a) (nI g) (nI (i + 1))
    obtain ⟨e1, e2, -⟩ := hM a i ha (by omega)
    rw [f_X3_isMember_L2, hg, if_neg (nI_ge hi (by omega)), mul6, if_pos (kin_nI (by omega) (by omega)), nI_clamp (by omega), e1, nI_1]
    by_cases z : S.2 12 (i * 10 + a) = 0
    · rw [if_pos ((encT_le e2).mpr z)]; simp [mbr, z]
    · rw [if_neg (fun y => z ((encT_le e2).mp y)), m_leads hN hg hng hrk 8 i g (by omega) hgg (by have := upc_6 (rk := rk) (x := i) (by omega); omega), kbind]
      have hm : mbr S a i = true := by simp [mbr, z]
      rw [hm]
      cases rB S i g with
      | false => rw [if_pos b2i_f]; rfl
      | true => rw [if_neg b2i_t]; rfl
  · intro n
    show f_X3_isMember_L2 (n + 1) T (nI a) (nI g) (nI ng) = some false
    rw [f_X3_isMember_L2, hg, if_pos (nI_le (Nat.le_refl ng) (by omega))]
-- the class: leadsTo
theorem k_leadsTo {S : kSt} {ng : Nat} (hg : S.1 1 = nI ng) (hng : ng ≤ 6) (hz : ∀ i o, i < 6 → o < 6 → ng ≤ i → edg S i o = false) {rk : Nat → Nat} (hrk : ∀ i o, i < 6 → o < 6 → edg S i o = true → rk i < rk o) {a : Nat} (ha : a < 10) :
    ∀ d x k, x < 6 → dnc rk x + k ≤ 5 → 8 ≤ d + k → f_X2_leadsTo d S (nI a) (nI x) (nI k) = some (inB S a x) := by
  intro d
  induction d with
  | zero => intro x k _ h1 h2; omega
  | succ d ih =>
    intro x k hx hk hd
    rw [f_X2_leadsTo, k_isMember ha hx, kbind]
    cases hm : mbr S a x with
    | true => rw [if_neg b2i_t, inB_iff.mpr ⟨x, hx, hm, rch_refl S x⟩]
    | false =>
      have h6 : nI k < (6 : Int32) := nI_lt (b := 6) (by omega) (by omega)
      rw [if_pos b2i_f, if_pos h6]
      have h := loop_ex (fun n i => f_X2_leadsTo_L22 (f_X2_leadsTo d S) n S (nI a) (nI x) (nI k) (nI i)) (fun i => edg S i x && inB S a i) ng ?_ ?_ ng 0 200 (by omega) (by omega)
      · refine h.trans ?_
        congr 1
        refine beq_of ?_
        rw [kex_iff, inB_iff]
        constructor
        · rintro ⟨i, -, h2, h3⟩
          simp only [Bool.and_eq_true] at h3
          obtain ⟨g0, b1, b2, b3⟩ := inB_iff.mp h3.2
          exact ⟨g0, b1, b2, rch_trans b3 (rch_step hx h3.1 (rch_refl S x))⟩
        · rintro ⟨g0, b1, b2, b3⟩
          rcases rch_last b1 hx b3 with q | ⟨z, c1, c2, c3⟩
          · rw [q, hm] at b2; cases b2
          · refine ⟨z, by omega, ?_, by simp [c2, inB_iff.mpr ⟨g0, b1, b2, c3⟩]⟩
            rcases Nat.lt_or_ge z ng with q | q
            · omega
            · rw [hz z x c1 hx q] at c2; cases c2
      · intro n i hi
        show f_X2_leadsTo_L22 (f_X2_leadsTo d S) (n + 1) S (nI a) (nI x) (nI k) (nI i) = if _ then _ else f_X2_leadsTo_L22 (f_X2_leadsTo d S) n S (nI a) (nI x) (nI k) (nI (i + 1))
        rw [f_X2_leadsTo_L22, hg, if_neg (nI_ge hi (by omega)), k_isNested (by omega) hx, kbind, nI_1]
        cases he : edg S i x with
        | false => rw [if_pos b2i_f]; rfl
        | true =>
          have hdn := dnc_lt (rk := rk) (x := x) (z := i) (by omega) (hrk i x (by omega) hx he)
          rw [if_neg b2i_t, nI_1, ih i (k + 1) (by omega) (by omega) (by omega), kbind]
          cases inB S a i with
          | false => rw [if_pos b2i_f]; rfl
          | true => rw [if_neg b2i_t]; rfl
      · intro n
        show f_X2_leadsTo_L22 (f_X2_leadsTo d S) (n + 1) S (nI a) (nI x) (nI k) (nI ng) = some false
        rw [f_X2_leadsTo_L22, hg, if_pos (nI_le (Nat.le_refl ng) (by omega))]
-- sets of groups as numbers
def kmk (p : Nat → Bool) : Nat → Nat
  | 0 => 0
  | n + 1 => if p n = true then kmk p n ||| 2 ^ n else kmk p n
theorem kmk_lt (p : Nat → Bool) : ∀ n, kmk p n < 2 ^ n := by
  intro n
  induction n with
  | zero => exact Nat.one_pos
  | succ n ih =>
    have h2 : 2 ^ n < 2 ^ (n + 1) := Nat.pow_lt_pow_right (by decide) (Nat.lt_succ_self n)
    simp only [kmk]
    split
    · exact Nat.or_lt_two_pow (Nat.lt_trans ih h2) h2
    · exact Nat.lt_trans ih h2
theorem kmk_bit (p : Nat → Bool) : ∀ n o, (kmk p n).testBit o = (decide (o < n) && p o) := by
  intro n
  induction n with
  | zero => intro o; simp [kmk]
  | succ n ih =>
    intro o
    simp only [kmk]
    by_cases hp : p n = true
    · rw [if_pos hp, fb_bit_set, ih]
      by_cases e : o = n
      · subst e; simp [hp]
      · have : (o < n + 1) ↔ (o < n) := by omega
        simp [e, this]
    · rw [if_neg hp, ih]
      by_cases e : o = n
      · subst e; simp [hp]
      · have : (o < n + 1) ↔ (o < n) := by omega
        simp [this]
theorem loop_mk {ρ : Type} (F : Nat → Nat → Nat → Option ρ) (p : Nat → Bool) (hi : Nat) (out : Nat → Option ρ)
    (hs : ∀ n m i, i < hi → F (n + 1) m i = F n (if p i = true then m ||| 2 ^ i else m) (i + 1))
    (he : ∀ n m, F (n + 1) m hi = out m) : ∀ k i n, i + k = hi → k < n → F n (kmk p i) i = out (kmk p hi) := by
  intro k
  induction k with
  | zero =>
    intro i n h1 h2
    obtain ⟨n, rfl⟩ : ∃ z, n = z + 1 := ⟨n - 1, by omega⟩
    rw [show i = hi by omega, he]
  | succ k ih =>
    intro i n h1 h2
    obtain ⟨n, rfl⟩ : ∃ z, n = z + 1 := ⟨n - 1, by omega⟩
    rw [hs n _ i (by omega)]
    exact ih (i + 1) n (by omega) (by omega)
theorem sh1 : ∀ j, j < 31 → ((1 : Int32) <<< (nI j &&& 31)) = nI (2 ^ j) := by decide +kernel
theorem k_with {m j : Nat} (hj : j < 31) : f_X2_with (nI m) (nI j) = some (nI (m ||| 2 ^ j)) := by
  rw [f_X2_with, sh1 j hj, fa_or]
theorem k_gna {S : kSt} {ng : Nat} (hg : S.1 1 = nI ng) (hng : ng ≤ 6) {x : Nat} (hx : x < 6) : f_X2_groupsNextAround S (nI x) = some (nI (kmk (edg S x) ng)) := by
  have h := loop_mk (fun n m j => f_X2_groupsNextAround_L4 n S (nI x) (nI m) (nI j)) (edg S x) ng (fun m => some (nI m)) ?_ ?_ ng 0 200 (by omega) (by omega)
  · rw [f_X2_groupsNextAround]; exact h
  · intro n m i hi
    show f_X2_groupsNextAround_L4 (n + 1) S (nI x) (nI m) (nI i) = f_X2_groupsNextAround_L4 n S (nI x) (nI (if _ then _ else _)) (nI (i + 1))
    rw [f_X2_groupsNextAround_L4, hg, if_neg (nI_ge hi (by omega)), k_isNested hx (by omega), kbind, nI_1]
    cases he : edg S x i with
    | false => rw [if_pos b2i_f, if_neg (by decide)]
    | true => rw [if_neg b2i_t, if_pos rfl, k_with (by omega), kbind]
  · intro n m
    show f_X2_groupsNextAround_L4 (n + 1) S (nI x) (nI m) (nI ng) = some (nI m)
    rw [f_X2_groupsNextAround_L4, hg, if_pos (nI_le (Nat.le_refl ng) (by omega))]
/-- one pass over the groups found -/
theorem k_pass1 {S : kSt} {ng : Nat} (hg : S.1 1 = nI ng) (hng : ng ≤ 6) (hz : ∀ i o, i < 6 → o < 6 → (ng ≤ i ∨ ng ≤ o) → edg S i o = false) {M : Nat} (hM : M < 64) (x3 x4 : Int32) :
    ∃ M2, f_X2_andAllAround_L16 200 S (nI M) x3 x4 0 = some (nI M2) ∧ M2 < 64 ∧ (∀ o, M.testBit o = true → M2.testBit o = true) ∧ (∀ o, M2.testBit o = true → ∃ g0, M.testBit g0 = true ∧ rch S g0 o) ∧ (∀ i o, i < 6 → o < 6 → M.testBit i = true → edg S i o = true → M2.testBit o = true) := by
  have h := loop_st (fun n (m : Nat) j => f_X2_andAllAround_L16 n S (nI m) x3 x4 (nI j))
    (fun j m => m < 64 ∧ (∀ o, M.testBit o = true → m.testBit o = true) ∧ (∀ o, m.testBit o = true → ∃ g0, M.testBit g0 = true ∧ rch S g0 o) ∧ (∀ i o, i < j → o < 6 → M.testBit i = true → edg S i o = true → m.testBit o = true))
    (fun m j => if m.testBit j = true then m ||| kmk (edg S j) ng else m) ng (fun m => nI m) ?_ ?_ ng 0 M 200 (by omega) (by omega) ⟨hM, fun o h => h, fun o h => ⟨o, h, rch_refl S o⟩, fun i o hi => absurd hi (by omega)⟩
  · obtain ⟨h1, h2, h3, h4, h5⟩ := h
    refine ⟨_, h1, h2, h3, h4, fun i o hi ho hb he => ?_⟩
    rcases Nat.lt_or_ge i ng with q | q
    · exact h5 i o q ho hb he
    · rw [hz i o hi ho (Or.inl q)] at he; cases he
  · rintro n m j hj ⟨h1, h2, h3, h4⟩
    have hk : kmk (edg S j) ng < 64 := Nat.lt_of_lt_of_le (kmk_lt _ ng) (Nat.pow_le_pow_right (by decide) hng)
    by_cases hb : m.testBit j = true
    · refine ⟨?_, ?_⟩
      · show f_X2_andAllAround_L16 (n + 1) S (nI m) x3 x4 (nI j) = f_X2_andAllAround_L16 n S (nI (if _ then _ else _)) x3 x4 (nI (j + 1))
        rw [if_pos hb, f_X2_andAllAround_L16, hg, if_neg (nI_ge hj (by omega)), contains_bit (by omega) (by omega), kbind, hb, if_neg b2i_t, k_gna hg hng (by omega), kbind, fa_or, nI_1]
      · try dsimp only
        rw [if_pos hb]
        refine ⟨Nat.or_lt_two_pow (n := 6) h1 hk, fun o h => by rw [Nat.testBit_or, h2 o h]; rfl, fun o h => ?_, fun i o hi ho hbi he => ?_⟩
        · rw [Nat.testBit_or, Bool.or_eq_true] at h
          rcases h with h | h
          · exact h3 o h
          · rw [kmk_bit, Bool.and_eq_true, decide_eq_true_eq] at h
            obtain ⟨g0, a1, a2⟩ := h3 j hb
            exact ⟨g0, a1, rch_trans a2 (rch_step (by omega) h.2 (rch_refl S o))⟩
        · rw [Nat.testBit_or, Bool.or_eq_true]
          by_cases e : i = j
          · subst e
            refine Or.inr ?_
            rw [kmk_bit, he, Bool.and_true, decide_eq_true_eq]
            rcases Nat.lt_or_ge o ng with q | q
            · exact q
            · rw [hz i o (by omega) ho (Or.inr q)] at he; cases he
          · exact Or.inl (h4 i o (by omega) ho hbi he)
    · have hb2 : m.testBit j = false := by cases h : m.testBit j with | false => rfl | true => exact absurd h hb
      refine ⟨?_, ?_⟩
      · show f_X2_andAllAround_L16 (n + 1) S (nI m) x3 x4 (nI j) = f_X2_andAllAround_L16 n S (nI (if _ then _ else _)) x3 x4 (nI (j + 1))
        rw [if_neg hb, f_X2_andAllAround_L16, hg, if_neg (nI_ge hj (by omega)), contains_bit (by omega) (by omega), kbind, hb2, if_pos b2i_f, nI_1]
      · try dsimp only
        rw [if_neg hb]
        refine ⟨h1, h2, h3, fun i o hi ho hbi he => ?_⟩
        by_cases e : i = j
        · subst e; exact absurd (h2 i hbi) hb
        · exact h4 i o (by omega) ho hbi he
  · rintro n m -
    show f_X2_andAllAround_L16 (n + 1) S (nI m) x3 x4 (nI ng) = some (nI m)
    rw [f_X2_andAllAround_L16, hg, if_pos (nI_le (Nat.le_refl ng) (by omega))]
theorem bit_lt {m o : Nat} (h : m < 64) (hb : m.testBit o = true) : o < 6 := by
  rcases Nat.lt_or_ge o 6 with q | q
  · exact q
  · have : m.testBit o = false := Nat.testBit_lt_two_pow (Nat.lt_of_lt_of_le h (Nat.pow_le_pow_right (n := 2) (by decide) q))
    rw [this] at hb; cases hb
def bct (m : Nat) : Nat := kct (fun i => m.testBit i) 0 6
theorem bct_lt {m m2 : Nat} (h2 : m2 < 64) (hs : ∀ o, m.testBit o = true → m2.testBit o = true) (hne : ¬ m2 = m) : bct m < bct m2 := by
  refine kct_lt 6 0 (fun i _ _ h => hs i h) ?_
  refine Classical.byContradiction fun hno => hne ?_
  refine Nat.eq_of_testBit_eq fun i => ?_
  cases hb : m2.testBit i with
  | false =>
    cases hc : m.testBit i with
    | false => rfl
    | true => rw [hs i hc] at hb; cases hb
  | true =>
    cases hc : m.testBit i with
    | true => rfl
    | false => exact absurd ⟨i, by omega, by have := bit_lt h2 hb; omega, hc, hb⟩ hno
theorem rd_closed {S : kSt} {M : Nat} (hc : ∀ i o, i < 6 → o < 6 → M.testBit i = true → edg S i o = true → M.testBit o = true) : ∀ k x y, x < 6 → M.testBit x = true → rd S k x y → M.testBit y = true := by
  intro k
  induction k with
  | zero => intro x y _ h e; have e : x = y := e; rw [← e]; exact h
  | succ k ih =>
    intro x y hx h hr
    rcases hr with e | ⟨z, a1, a2, a3⟩
    · rw [← e]; exact h
    · exact ih z y a1 (hc x z hx a1 h a2) a3
theorem k_andAll {S : kSt} {ng : Nat} (hg : S.1 1 = nI ng) (hng : ng ≤ 6) (hz : ∀ i o, i < 6 → o < 6 → (ng ≤ i ∨ ng ≤ o) → edg S i o = false) {M0 : Nat} (hM0 : M0 < 64) :
    ∃ M, f_X2_andAllAround S (nI M0) = some (nI M) ∧ M < 64 ∧ ∀ o, M.testBit o = true ↔ ∃ g0, M0.testBit g0 = true ∧ rch S g0 o := by
  have key : ∀ r k M n, k + r = 6 → r < n → M < 64 → (M0 = 0 → k = 0) → (M0 ≠ 0 → k + 1 ≤ bct M) → (∀ o, M0.testBit o = true → M.testBit o = true) → (∀ o, M.testBit o = true → ∃ g0, M0.testBit g0 = true ∧ rch S g0 o) →
      ∃ M2, f_X2_andAllAround_L4 n S (nI M) (nI k) = some (nI M2) ∧ M2 < 64 ∧ ∀ o, M2.testBit o = true ↔ ∃ g0, M0.testBit g0 = true ∧ rch S g0 o := by
    intro r
    induction r with
    | zero =>
      intro k M n h1 h2 h3 h4 h5
      exfalso
      by_cases e : M0 = 0
      · have := h4 e; omega
      · have := h5 e
        have h9 : bct M ≤ 6 := kct_le _ 6 0
        omega
    | succ r ih =>
      intro k M n h1 h2 h3 h4 h5 h6 h7
      obtain ⟨n, rfl⟩ : ∃ z, n = z + 1 := ⟨n - 1, by omega⟩
      have h6n : ¬ (6 : Int32) ≤ nI k := nI_ge (b := 6) (by omega) (by omega)
      obtain ⟨M2, a1, a2, a3, a4, a5⟩ := k_pass1 hg hng hz h3 (nI k) (nI M)
      rw [f_X2_andAllAround_L4, if_neg h6n]
      have a1' : f_X2_andAllAround_L16 200 S (nI M) (nI k) (nI M) (0 : Int32) = some (nI M2) := a1
      rw [a1', kbind]
      have a4' : ∀ o, M2.testBit o = true → ∃ g0, M0.testBit g0 = true ∧ rch S g0 o := by
        intro o ho
        obtain ⟨g1, b1, b2⟩ := a4 o ho
        obtain ⟨g0, c1, c2⟩ := h7 g1 b1
        exact ⟨g0, c1, rch_trans c2 b2⟩
      by_cases e : M2 = M
      · rw [if_pos (by rw [e])]
        refine ⟨M2, rfl, a2, fun o => ⟨a4' o, ?_⟩⟩
        rintro ⟨g0, b1, k9, b2⟩
        rw [e] at a5 ⊢
        exact rd_closed a5 k9 g0 o (bit_lt h3 (h6 g0 b1)) (h6 g0 b1) b2
      · rw [if_neg (fun q => e ((nI_eq (by omega) (by omega)).mp q)), nI_1]
        have hlt := bct_lt a2 a3 e
        refine ih (k + 1) M2 n (by omega) (by omega) a2 (fun q => ?_) (fun q => by have := h5 q; omega) (fun o ho => a3 o (h6 o ho)) a4'
        exfalso
        apply e
        refine Nat.eq_of_testBit_eq fun i => ?_
        have f1 : ∀ m : Nat, (∀ o, m.testBit o = true → ∃ g0, M0.testBit g0 = true ∧ rch S g0 o) → m.testBit i = false := by
          intro m hm
          cases hb : m.testBit i with
          | false => rfl
          | true => obtain ⟨g0, b1, -⟩ := hm i hb; rw [q, Nat.zero_testBit] at b1; cases b1
        rw [f1 M2 a4', f1 M h7]
  rw [f_X2_andAllAround]
  refine key 6 0 M0 200 rfl (by omega) hM0 (fun _ => rfl) (fun hne => ?_) (fun o h => h) (fun o h => ⟨o, h, rch_refl S o⟩)
  have := bct_lt (m := 0) hM0 (fun o h => by rw [Nat.zero_testBit] at h; cases h) hne
  omega
theorem k_groupsOf {S : kSt} {ng : Nat} (hg : S.1 1 = nI ng) (hng : ng ≤ 6) (hz : ∀ i o, i < 6 → o < 6 → (ng ≤ i ∨ ng ≤ o) → edg S i o = false) {a : Nat} (ha : a < 10) (hzm : ∀ g, g < 6 → ng ≤ g → mbr S a g = false) :
    ∃ M, f_X2_groupsOf S (nI a) = some (nI M) ∧ M < 64 ∧ ∀ g, g < 6 → M.testBit g = inB S a g := by
  have hJ : kmk (mbr S a) ng < 64 := Nat.lt_of_lt_of_le (kmk_lt _ ng) (Nat.pow_le_pow_right (by decide) hng)
  obtain ⟨M, h1, h2, h3⟩ := k_andAll hg hng hz hJ
  refine ⟨M, ?_, h2, fun g hgg => beq_of ?_⟩
  · have h := loop_mk (fun n m j => f_X2_groupsOf_L4 n S (nI a) (nI m) (nI j)) (mbr S a) ng (fun m => (f_X2_andAllAround S (nI m)).bind fun v1 => some v1) ?_ ?_ ng 0 200 (by omega) (by omega)
    · rw [f_X2_groupsOf]; refine h.trans ?_; rw [h1, kbind]
    · intro n m i hi
      show f_X2_groupsOf_L4 (n + 1) S (nI a) (nI m) (nI i) = f_X2_groupsOf_L4 n S (nI a) (nI (if _ then _ else _)) (nI (i + 1))
      rw [f_X2_groupsOf_L4, hg, if_neg (nI_ge hi (by omega)), k_isMember ha (by omega), kbind, nI_1]
      cases he : mbr S a i with
      | false => rw [if_pos b2i_f, if_neg (by decide)]
      | true => rw [if_neg b2i_t, if_pos rfl, k_with (by omega), kbind]
    · intro n m
      show f_X2_groupsOf_L4 (n + 1) S (nI a) (nI m) (nI ng) = _
      rw [f_X2_groupsOf_L4, hg, if_pos (nI_le (Nat.le_refl ng) (by omega))]
  · rw [h3 g, inB_iff]
    constructor
    · rintro ⟨g0, b1, b2⟩
      rw [kmk_bit, Bool.and_eq_true, decide_eq_true_eq] at b1
      exact ⟨g0, by omega, b1.2, b2⟩
    · rintro ⟨g0, b1, b2, b3⟩
      refine ⟨g0, ?_, b3⟩
      rw [kmk_bit, b2, Bool.and_true, decide_eq_true_eq]
      rcases Nat.lt_or_ge g0 ng with q | q
      · exact q
      · rw [hzm g0 b1 q] at b2; cases b2
