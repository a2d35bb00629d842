/-! PLAIN FACTS OF THE FUNCTIONS: loops, rows, grids, sets -/
theorem kbind {α β : Type} (a : α) (k : α → Option β) : (some a).bind k = k a := rfl
def kct (p : Nat → Bool) : Nat → Nat → Nat
  | _, 0 => 0
  | c, k + 1 => (if p c = true then 1 else 0) + kct p (c + 1) k
theorem kct_le (p : Nat → Bool) : ∀ k c, kct p c k ≤ k := by
  intro k
  induction k with
  | zero => intro c; exact Nat.le_refl 0
  | succ k ih => intro c; have := ih (c + 1); simp only [kct]; split <;> omega
theorem kct_cong {p q : Nat → Bool} : ∀ k c, (∀ i, c ≤ i → i < c + k → p i = q i) → kct p c k = kct q c k := by
  intro k
  induction k with
  | zero => intro c _; rfl
  | succ k ih => intro c h; simp only [kct]; rw [h c (by omega) (by omega), ih (c + 1) (fun i h1 h2 => h i (by omega) (by omega))]
theorem kct_zero {p : Nat → Bool} : ∀ k c, kct p c k = 0 ↔ ∀ i, c ≤ i → i < c + k → p i = false := by
  intro k
  induction k with
  | zero => intro c; exact ⟨fun _ i h1 h2 => absurd h2 (by omega), fun _ => rfl⟩
  | succ k ih =>
    intro c
    simp only [kct]
    constructor
    · intro h i h1 h2
      have h3 : kct p (c + 1) k = 0 := by omega
      by_cases e : i = c
      · subst e
        cases hp : p i with
        | false => rfl
        | true => rw [if_pos hp] at h; omega
      · exact (ih (c + 1)).mp h3 i (by omega) (by omega)
    · intro h
      rw [(ih (c + 1)).mpr (fun i h1 h2 => h i (by omega) (by omega)), h c (by omega) (by omega)]; rfl
theorem kct_split (p : Nat → Bool) : ∀ k c m, kct p c (k + m) = kct p c k + kct p (c + k) m := by
  intro k
  induction k with
  | zero => intro c m; simp [kct]
  | succ k ih => intro c m; rw [show k + 1 + m = (k + m) + 1 by omega]; simp only [kct]; rw [ih (c + 1) m, show c + 1 + k = c + (k + 1) by omega]; omega
/-- nothing counts behind m -/
theorem kct_cut {p : Nat → Bool} {m n : Nat} (h : m ≤ n) (h0 : ∀ i, m ≤ i → i < n → p i = false) : kct p 0 n = kct p 0 m := by
  obtain ⟨k, rfl⟩ : ∃ k, n = m + k := ⟨n - m, by omega⟩
  rw [kct_split, (kct_zero k (0 + m)).mpr (fun i h1 h2 => h0 i (by omega) (by omega))]; rfl
theorem loop_ct {ρ : Type} (F : Nat → Nat → Nat → Option ρ) (p : Nat → Bool) (hi : Nat) (out : Nat → ρ)
    (hs : ∀ n acc i, i < hi → F (n + 1) acc i = F n (acc + (if p i = true then 1 else 0)) (i + 1))
    (he : ∀ n acc, F (n + 1) acc hi = some (out acc)) : ∀ k i acc n, i + k = hi → k < n → F n acc i = some (out (acc + kct p i k)) := by
  intro k
  induction k with
  | zero =>
    intro i acc n h1 h2
    obtain ⟨n, rfl⟩ : ∃ z, n = z + 1 := ⟨n - 1, by omega⟩
    rw [show i = hi by omega, he]; rfl
  | succ k ih =>
    intro i acc n h1 h2
    obtain ⟨n, rfl⟩ : ∃ z, n = z + 1 := ⟨n - 1, by omega⟩
    rw [hs n acc i (by omega), ih (i + 1) _ n (by omega) (by omega)]
    simp only [kct]; rw [Nat.add_assoc]
def kex (p : Nat → Bool) : Nat → Nat → Bool
  | _, 0 => false
  | c, k + 1 => p c || kex p (c + 1) k
theorem kex_iff {p : Nat → Bool} : ∀ k c, kex p c k = true ↔ ∃ i, c ≤ i ∧ i < c + k ∧ p i = true := by
  intro k
  induction k with
  | zero => intro c; exact ⟨(fun h => nomatch h), fun ⟨i, h1, h2, _⟩ => absurd h2 (by omega)⟩
  | succ k ih =>
    intro c
    simp only [kex, Bool.or_eq_true]
    constructor
    · rintro (h | h)
      · exact ⟨c, by omega, by omega, h⟩
      · obtain ⟨i, h1, h2, h3⟩ := (ih (c + 1)).mp h
        exact ⟨i, by omega, by omega, h3⟩
    · rintro ⟨i, h1, h2, h3⟩
      by_cases e : i = c
      · subst e; exact Or.inl h3
      · exact Or.inr ((ih (c + 1)).mpr ⟨i, by omega, by omega, h3⟩)
theorem loop_ex (F : Nat → Nat → Option Bool) (p : Nat → Bool) (hi : Nat)
    (hs : ∀ n i, i < hi → F (n + 1) i = if p i = true then some true else F n (i + 1))
    (he : ∀ n, F (n + 1) hi = some false) : ∀ k i n, i + k = hi → k < n → F n i = some (kex p i k) := by
  intro k
  induction k with
  | zero =>
    intro i n h1 h2
    obtain ⟨n, rfl⟩ : ∃ z, n = z + 1 := ⟨n - 1, by omega⟩
    rw [show i = hi by omega, he]; rfl
  | succ k ih =>
    intro i n h1 h2
    obtain ⟨n, rfl⟩ : ∃ z, n = z + 1 := ⟨n - 1, by omega⟩
    rw [hs n i (by omega), ih (i + 1) n (by omega) (by omega)]
    simp only [kex]
    cases p i <;> rfl
def kfo {σ : Type} (step : σ → Nat → σ) : Nat → Nat → σ → σ
  | _, 0, s => s
  | i, k + 1, s => kfo step (i + 1) k (step s i)
theorem loop_st {σ ρ : Type} (F : Nat → σ → Nat → Option ρ) (I : Nat → σ → Prop) (step : σ → Nat → σ) (hi : Nat) (out : σ → ρ)
    (hs : ∀ n s i, i < hi → I i s → F (n + 1) s i = F n (step s i) (i + 1) ∧ I (i + 1) (step s i))
    (he : ∀ n s, I hi s → F (n + 1) s hi = some (out s)) : ∀ k i s n, i + k = hi → k < n → I i s → F n s i = some (out (kfo step i k s)) ∧ I hi (kfo step i k s) := by
  intro k
  induction k with
  | zero =>
    intro i s n h1 h2 h3
    obtain ⟨n, rfl⟩ : ∃ z, n = z + 1 := ⟨n - 1, by omega⟩
    have e : i = hi := by omega
    rw [e] at h3 ⊢
    exact ⟨he n s h3, h3⟩
  | succ k ih =>
    intro i s n h1 h2 h3
    obtain ⟨n, rfl⟩ : ∃ z, n = z + 1 := ⟨n - 1, by omega⟩
    obtain ⟨e1, e2⟩ := hs n s i (by omega) h3
    rw [e1]
    exact ih (i + 1) _ n (by omega) (by omega) e2
theorem kin_nI {i N : Nat} (h : i < N) (hN : N < 2 ^ 31) : kin (nI i) N = true := by
  have := nI_toInt (n := i) (by omega)
  simp only [kin, this, Bool.and_eq_true, decide_eq_true_eq]; omega
-- rows and grids
theorem at_row {N : Nat} {bl : Int32} {f : Nat → Int32} {j : Nat} (hj : j < N) (hN : N < 2 ^ 31) : f_X1_at N bl f (nI j) = some (f j) := by
  have h2 : ¬ Int32.ofNat N ≤ nI j := nI_ge hj hN
  rw [f_X1_at, if_neg (nI_pos (by omega)), if_neg h2, if_pos (kin_nI hj hN), nI_clamp (by omega)]
theorem at_rowN {N : Nat} {bl : Int32} {f : Nat → Int32} : f_X1_at N bl f (-1) = some bl := by
  rw [f_X1_at, if_pos (by decide)]
theorem put_row {N : Nat} {bl v : Int32} {f : Nat → Int32} {j : Nat} (hj : j < N) (hN : N < 2 ^ 31) : f_X1_put N bl f (nI j) v = some (upd f j v) := by
  have h2 : ¬ Int32.ofNat N ≤ nI j := nI_ge hj hN
  rw [f_X1_put, if_neg (nI_pos (by omega)), if_neg h2, if_pos (kin_nI hj hN), nI_clamp (by omega)]
theorem at_grid {N W l c : Nat} {f : Nat → Int32} (hc : c < W) (hW : W < 2 ^ 31) (hz : l * W + c < N) (hN : N < 2 ^ 31) : f_X0_at N (nI W) f (nI l) (nI c) = some (f (l * W + c)) := by
  have e : nI l * nI W + nI c = nI (l * W + c) := by rw [pk_mul, nI_add]
  rw [f_X0_at, if_neg (nI_pos (by omega)), if_pos (nI_lt hc hW), e]
  generalize l * W + c = z at hz ⊢
  have h2 : ¬ Int32.ofNat N ≤ nI z := nI_ge hz hN
  rw [if_neg (nI_pos (by omega)), if_neg h2, if_pos (kin_nI hz hN), nI_clamp (by omega)]
theorem put_grid {N W l c : Nat} {v : Int32} {f : Nat → Int32} (hc : c < W) (hW : W < 2 ^ 31) (hz : l * W + c < N) (hN : N < 2 ^ 31) : f_X0_put N (nI W) f (nI l) (nI c) v = some (upd f (l * W + c) v) := by
  have e : nI l * nI W + nI c = nI (l * W + c) := by rw [pk_mul, nI_add]
  rw [f_X0_put, if_neg (nI_pos (by omega)), if_pos (nI_lt hc hW), e]
  generalize l * W + c = z at hz ⊢
  have h2 : ¬ Int32.ofNat N ≤ nI z := nI_ge hz hN
  rw [if_neg (nI_pos (by omega)), if_neg h2, if_pos (kin_nI hz hN), nI_clamp (by omega)]
theorem filled_grid {N W l : Nat} {f : Nat → Int32} (hW : W < 150) (hz : l * W + W ≤ N) (hN : N < 2 ^ 31) : f_X0_filled N (nI W) f (nI l) = some (nI (kct (fun c => decide (f (l * W + c) ≠ 0)) 0 W)) := by
  have h := loop_ct (fun n acc i => f_X0_filled_L4 N (nI W) n f (nI l) (nI acc) (nI i)) (fun c => decide (f (l * W + c) ≠ 0)) W (fun acc => nI acc) ?_ ?_ W 0 0 200 (by omega) (by omega)
  · rw [Nat.zero_add] at h; exact h
  · intro n acc i hi
    show f_X0_filled_L4 N (nI W) (n + 1) f (nI l) (nI acc) (nI i) = f_X0_filled_L4 N (nI W) n f (nI l) (nI (acc + _)) (nI (i + 1))
    rw [f_X0_filled_L4, if_neg (nI_ge hi (by omega)), at_grid hi (by omega) (by omega) hN, kbind, nI_1]
    by_cases h : f (l * W + i) = 0
    · rw [if_pos h, if_neg (by simp [h])]; rfl
    · rw [if_neg h, if_pos (by simp [h]), nI_1]
  · intro n acc
    show f_X0_filled_L4 N (nI W) (n + 1) f (nI l) (nI acc) (nI W) = some (nI acc)
    rw [f_X0_filled_L4, if_pos (nI_le (Nat.le_refl W) (by omega))]
/-- what clearing leaves, and how many it clears -/
def kcl (f : Nat → Int32) (last : Int32) (N : Nat) : Nat → Int32 := fun k => if k < N ∧ 0 < f k ∧ f k ≤ last then 0 else f k
theorem clear_grid {N : Nat} {wd last : Int32} {f : Nat → Int32} (hN : N < 150) : f_X0_clearUpTo N wd f last = some (nI (kct (fun k => decide (0 < f k ∧ f k ≤ last)) 0 N), kcl f last N) := by
  have h := loop_st (fun n (s : Nat × (Nat → Int32)) i => f_X0_clearUpTo_L4 N wd n s.2 last (nI s.1) (nI i)) (fun i s => s.2 = kcl f last i ∧ s.1 = kct (fun k => decide (0 < f k ∧ f k ≤ last)) 0 i) (fun s i => if 0 < f i ∧ f i ≤ last then (s.1 + 1, upd s.2 i 0) else s) N (fun s => (nI s.1, s.2)) ?_ ?_ N 0 (0, f) 200 (by omega) (by omega) ?_
  · obtain ⟨h1, h2, h3⟩ := h
    rw [f_X0_clearUpTo]
    refine h1.trans ?_
    show some (nI _, _) = _
    rw [h2, h3]
  · rintro n ⟨c, g⟩ i hi ⟨h1, h2⟩
    dsimp only at h1 h2
    have hgi : g i = f i := by rw [h1]; simp [kcl]
    have hn : ¬ Int32.ofNat N ≤ nI i := nI_ge hi (by omega)
    have hk := kin_nI hi (show N < 2 ^ 31 by omega)
    have hc : kct (fun k => decide (0 < f k ∧ f k ≤ last)) 0 (i + 1) = kct (fun k => decide (0 < f k ∧ f k ≤ last)) 0 i + (if 0 < f i ∧ f i ≤ last then 1 else 0) := by
      rw [kct_split]; simp only [kct, Nat.zero_add, Nat.add_zero, decide_eq_true_eq]
    by_cases hb : 0 < f i ∧ f i ≤ last
    · refine ⟨?_, ?_⟩
      · show f_X0_clearUpTo_L4 N wd (n + 1) g last (nI c) (nI i) = f_X0_clearUpTo_L4 N wd n (ite _ _ _ : Nat × (Nat → Int32)).2 last (nI (ite _ _ _ : Nat × (Nat → Int32)).1) (nI (i + 1))
        rw [if_pos hb, f_X0_clearUpTo_L4, if_neg hn, if_pos hk, nI_clamp (by omega), hgi, if_neg (fun h => by have := hb.1; rw [fa_lt] at this; rw [fa_le] at h; omega), if_pos hk, if_neg (fun h => by have := hb.2; rw [fa_le] at this; rw [fa_lt] at h; omega), if_pos hk, nI_1, nI_1]
      · dsimp only
        rw [if_pos hb]
        refine ⟨?_, by rw [hc, if_pos hb, h2]⟩
        funext k
        rw [h1]
        simp only [upd, kcl]
        by_cases e : k = i
        · subst e; rw [if_pos rfl, if_pos ⟨by omega, hb⟩]
        · rw [if_neg e]
          by_cases q : k < i
          · simp only [q, show k < i + 1 by omega]
          · simp only [q, show ¬ k < i + 1 by omega]
    · refine ⟨?_, ?_⟩
      · show f_X0_clearUpTo_L4 N wd (n + 1) g last (nI c) (nI i) = f_X0_clearUpTo_L4 N wd n (ite _ _ _ : Nat × (Nat → Int32)).2 last (nI (ite _ _ _ : Nat × (Nat → Int32)).1) (nI (i + 1))
        rw [if_neg hb, f_X0_clearUpTo_L4, if_neg hn, if_pos hk, nI_clamp (by omega), hgi, nI_1]
        by_cases q : f i ≤ 0
        · rw [if_pos q]
        · rw [if_neg q, if_pos hk, if_pos (by
            have : ¬ f i ≤ last := fun z => hb ⟨by rw [fa_le] at q; rw [fa_lt]; omega, z⟩
            rw [fa_le] at this; rw [fa_lt]; omega)]
      · dsimp only
        rw [if_neg hb]
        refine ⟨?_, by rw [hc, if_neg hb, h2]; rfl⟩
        funext k
        rw [h1]
        simp only [kcl]
        by_cases e : k = i
        · subst e; rw [if_neg (fun z => hb z.2), if_neg (fun z => hb z.2)]
        · by_cases q : k < i
          · simp only [q, show k < i + 1 by omega]
          · simp only [q, show ¬ k < i + 1 by omega]
  · rintro n ⟨c, g⟩ ⟨h1, h2⟩
    show f_X0_clearUpTo_L4 N wd (n + 1) g last (nI c) (nI N) = some (nI c, g)
    have : Int32.ofNat N ≤ nI N := nI_le (Nat.le_refl N) (by omega)
    rw [f_X0_clearUpTo_L4, if_pos this]
  · refine ⟨?_, rfl⟩
    funext k
    simp [kcl]
-- sets of bits
theorem contains_bit {m j : Nat} (hm : m < 65536) (hj : j < 16) : f_X2_contains (nI m) (nI j) = some (m.testBit j) := by
  have h2 : ¬ (32 : Int32) ≤ nI j := nI_ge (b := 32) (by omega) (by omega)
  rw [f_X2_contains, if_neg (nI_pos (by omega)), if_neg h2]
  cases h : m.testBit j with
  | false => rw [if_pos ((nx_bit hm hj).mpr h)]
  | true => rw [if_neg (fun z => by rw [(nx_bit hm hj).mp z] at h; cases h)]
theorem contains_neg {m : Int32} : f_X2_contains m (-1) = some false := by
  rw [f_X2_contains, if_pos (by decide)]
