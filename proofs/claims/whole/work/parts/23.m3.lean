/-! RIGHTS -/
def sameC (T T2 : kSt) : Prop := (∀ k, k ≠ 18 → T2.1 k = T.1 k) ∧ (∀ k, k ≠ 6 → k ≠ 16 → T2.2 k = T.2 k)
def sameT (T T2 : kSt) : Prop := (∀ k, T2.1 k = T.1 k) ∧ (∀ k, k ≠ 6 → k ≠ 16 → T2.2 k = T.2 k)
theorem sameT.rf (T : kSt) : sameT T T := ⟨fun _ => rfl, fun _ _ _ => rfl⟩
theorem sameT.tr {T T2 T3 : kSt} (h : sameT T T2) (h2 : sameT T2 T3) : sameT T T3 := ⟨fun k => (h2.1 k).trans (h.1 k), fun k h6 h16 => (h2.2 k h6 h16).trans (h.2 k h6 h16)⟩
def iHeir (S T : kSt) (na : Nat) : Prop := ∀ i, i < 10 → T.2 2 i = S.2 8 i ∧ (S.2 8 i = -1 ∨ ∃ j, j < na ∧ S.2 8 i = nI j)
def iOwn (S T : kSt) (na nf : Nat) : Prop := ∀ f, f < nf → T.2 8 f = S.2 9 f ∧ ∃ j, j < na ∧ S.2 9 f = nI j
def iPar (S T : kSt) (nf : Nat) : Prop := ∀ f, f < nf → T.2 9 f = S.2 10 f ∧ (S.2 10 f = -1 ∨ ∃ p, p < f ∧ S.2 10 f = nI p)
def iRoom (S T : kSt) (ng nr : Nat) : Prop := ∀ r, r < nr → T.2 15 r = S.2 11 r ∧ ∃ g, g < ng ∧ S.2 11 r = nI g
def iSh (S T : kSt) (na nf : Nat) : Prop := ∀ f a, f < 12 → a < 10 → T.2 12 (10 * f + a) = S.2 14 (f * 10 + a) ∧ (∃ w, w ≤ 2 ∧ S.2 14 (f * 10 + a) = nI w) ∧ ((nf ≤ f ∨ na ≤ a) → S.2 14 (f * 10 + a) = 0)
def iGs (S T : kSt) (ng nf : Nat) : Prop := ∀ f g, f < 12 → g < 6 → T.2 13 (6 * f + g) = S.2 15 (f * 6 + g) ∧ (∃ w, w ≤ 2 ∧ S.2 15 (f * 6 + g) = nI w) ∧ ((nf ≤ f ∨ ng ≤ g) → S.2 15 (f * 6 + g) = 0)
def iBits (T : kSt) (na A B H : Nat) : Prop := (∀ i, i < 10 → T.2 1 i = b2i (decide (i < na) && !A.testBit i)) ∧ (∀ f, f < 12 → T.2 10 f = b2i (B.testBit f)) ∧ (∀ f, f < 12 → T.2 11 f = b2i (H.testBit f))
/-- the two systems stand for the same accounts, groups, folders and rooms -/
def kR (S T : kSt) (na ng nf nr day A B H : Nat) : Prop :=
  (1 ≤ na ∧ na ≤ 10 ∧ ng ≤ 6 ∧ nf ≤ 12 ∧ nr ≤ 4 ∧ day ≤ 999) ∧
  (S.1 0 = nI na ∧ S.1 1 = nI ng ∧ S.1 2 = nI nf ∧ S.1 3 = nI nr ∧ S.1 4 = nI day ∧ S.1 5 = nI A ∧ S.1 6 = nI B ∧ S.1 7 = nI H) ∧
  (T.1 0 = nI na ∧ T.1 3 = nI ng ∧ T.1 7 = nI nf ∧ T.1 14 = nI nr ∧ T.1 17 = nI day) ∧
  (A < 2 ^ na ∧ A.testBit 0 = true ∧ B < 2 ^ 12 ∧ H < 2 ^ nf) ∧ iBits T na A B H ∧
  iHeir S T na ∧ iOwn S T na nf ∧ iPar S T nf ∧ iRoom S T ng nr ∧ iMem S T na ng day ∧ iNest S T ng day ∧ iAcy S ∧ iSh S T na nf ∧ iGs S T ng nf
theorem kR.sameC {S T T2 : kSt} {na ng nf nr day A B H : Nat} (h : kR S T na ng nf nr day A B H) (hs : sameC T T2) : kR S T2 na ng nf nr day A B H := by
  obtain ⟨h1, h2, ⟨t1, t2, t3, t4, t5⟩, h4, ⟨b1, b2, b3⟩, h6, h7, h8, h9, h10, h11, h12, h13, h14⟩ := h
  obtain ⟨e1, e2⟩ := hs
  refine ⟨h1, h2, ⟨by rw [e1 0 (by decide)]; exact t1, by rw [e1 3 (by decide)]; exact t2, by rw [e1 7 (by decide)]; exact t3, by rw [e1 14 (by decide)]; exact t4, by rw [e1 17 (by decide)]; exact t5⟩, h4,
    ⟨by rw [e2 1 (by decide) (by decide)]; exact b1, by rw [e2 10 (by decide) (by decide)]; exact b2, by rw [e2 11 (by decide) (by decide)]; exact b3⟩, ?_, ?_, ?_, ?_, ?_, ?_, h12, ?_, ?_⟩
  · unfold iHeir; rw [e2 2 (by decide) (by decide)]; exact h6
  · unfold iOwn; rw [e2 8 (by decide) (by decide)]; exact h7
  · unfold iPar; rw [e2 9 (by decide) (by decide)]; exact h8
  · unfold iRoom; rw [e2 15 (by decide) (by decide)]; exact h9
  · unfold iMem; rw [e2 4 (by decide) (by decide)]; exact h10
  · unfold iNest; rw [e2 5 (by decide) (by decide)]; exact h11
  · unfold iSh; rw [e2 12 (by decide) (by decide)]; exact h13
  · unfold iGs; rw [e2 13 (by decide) (by decide)]; exact h14
theorem kR.same {S T T2 : kSt} {na ng nf nr day A B H : Nat} (h : kR S T na ng nf nr day A B H) (hs : sameT T T2) : kR S T2 na ng nf nr day A B H := h.sameC ⟨fun k _ => hs.1 k, hs.2⟩
section RR
variable {S T : kSt} {na ng nf nr day A B H : Nat}
theorem kR.A16 (h : kR S T na ng nf nr day A B H) : A < 65536 := by
  have h1 := h.2.2.2.1.1
  have h2 : 2 ^ na ≤ 2 ^ 10 := Nat.pow_le_pow_right (by decide) h.1.2.1
  omega
theorem kR.H16 (h : kR S T na ng nf nr day A B H) : H < 65536 := by
  have h1 := h.2.2.2.1.2.2.2
  have h2 : 2 ^ nf ≤ 2 ^ 12 := Nat.pow_le_pow_right (by decide) h.1.2.2.2.1
  omega
theorem kR.B16 (h : kR S T na ng nf nr day A B H) : B < 65536 := by
  have h1 := h.2.2.2.1.2.2.1
  omega
theorem kR.ez (h : kR S T na ng nf nr day A B H) : ∀ i o, i < 6 → o < 6 → (ng ≤ i ∨ ng ≤ o) → edg S i o = false := fun i o hi ho hz => by
  have := (h.2.2.2.2.2.2.2.2.2.2.1 i o hi ho).2.2 hz
  simp [edg, this]
theorem kR.mz (h : kR S T na ng nf nr day A B H) {a : Nat} (ha : a < 10) : ∀ g, g < 6 → ng ≤ g → mbr S a g = false := fun g hg hz => by
  have := (h.2.2.2.2.2.2.2.2.2.1 a g ha hg).2.2 (Or.inr hz)
  simp [mbr, this]
theorem kR.groupsOf (h : kR S T na ng nf nr day A B H) {a : Nat} (ha : a < 10) : ∃ M, f_X2_groupsOf S (nI a) = some (nI M) ∧ M < 64 ∧ ∀ g, g < 6 → M.testBit g = inB S a g :=
  k_groupsOf h.2.1.2.1 h.1.2.2.1 h.ez ha (h.mz ha)
theorem kR.isMember (h : kR S T na ng nf nr day A B H) {a g : Nat} (ha : a < 10) (hg : g < 6) : f_X3_isMember T (nI a) (nI g) = some (inB S a g) :=
  m_isMember h.2.2.2.2.2.2.2.2.2.1 h.2.2.2.2.2.2.2.2.2.2.1 h.2.2.1.2.1 h.1.2.2.1 h.2.2.2.2.2.2.2.2.2.2.2.1 ha hg
theorem kR.leadsTo (h : kR S T na ng nf nr day A B H) {a g : Nat} (ha : a < 10) (hg : g < 6) : f_X2_leadsTo 8 S (nI a) (nI g) 0 = some (inB S a g) := by
  obtain ⟨rk, hrk⟩ := h.2.2.2.2.2.2.2.2.2.2.2.1
  exact k_leadsTo h.2.1.2.1 h.1.2.2.1 (fun i o hi ho hz => h.ez i o hi ho (Or.inl hz)) hrk ha 8 g 0 hg (by have := dnc_6 (rk := rk) (x := g) hg; omega) (by omega)
theorem kR.isActive (h : kR S T na ng nf nr day A B H) {a : Nat} (ha : a < 16) : f_X2_isActive S (nI a) = some (A.testBit a) := by
  rw [f_X2_isActive, h.2.1.2.2.2.2.2.1, contains_bit h.A16 ha, kbind]
theorem kR.isActiveN (h : kR S T na ng nf nr day A B H) : f_X2_isActive S (-1) = some false := by
  rw [f_X2_isActive, contains_neg, kbind]
theorem kR.isHeld (h : kR S T na ng nf nr day A B H) {f : Nat} (hf : f < 16) : f_X2_isHeld S (nI f) = some (H.testBit f) := by
  rw [f_X2_isHeld, h.2.1.2.2.2.2.2.2.2, contains_bit h.H16 hf, kbind]
/-- the best right of a folder's own shares -/
noncomputable def bsh (S : kSt) (ng a f : Nat) : Int32 := kfo (fun best g => if inB S a g = true then kmax best (S.2 15 (f * 6 + g)) else best) 0 ng (S.2 14 (f * 10 + a))
theorem k_bestShareAmong (h : kR S T na ng nf nr day A B H) {a f M : Nat} (ha : a < 10) (hf : f < 12) (hM : M < 64) (hI : ∀ g, g < 6 → M.testBit g = inB S a g) : f_X2_bestShareAmong S (nI a) (nI M) (nI f) = some (bsh S ng a f) := by
  have hg := h.2.1.2.1
  have hng := h.1.2.2.1
  have e : f_X0_at 120 10 (S.2 14) (nI f) (nI a) = some (S.2 14 (f * 10 + a)) := at_grid (W := 10) ha (by omega) (by omega) (by omega)
  rw [f_X2_bestShareAmong, e, kbind]
  refine (loop_st (fun n (best : Int32) j => f_X2_bestShareAmong_L14 n S (nI M) (nI f) best (nI j)) (fun _ _ => True) (fun best g => if inB S a g = true then kmax best (S.2 15 (f * 6 + g)) else best) ng (fun best => best) ?_ ?_ ng 0 (S.2 14 (f * 10 + a)) 200 (by omega) (by omega) trivial).1
  · intro n best j hj _
    refine ⟨?_, trivial⟩
    show f_X2_bestShareAmong_L14 (n + 1) S (nI M) (nI f) best (nI j) = f_X2_bestShareAmong_L14 n S (nI M) (nI f) (if _ then _ else _) (nI (j + 1))
    have e2 : f_X0_at 72 6 (S.2 15) (nI f) (nI j) = some (S.2 15 (f * 6 + j)) := at_grid (W := 6) (by omega) (by omega) (by omega) (by omega)
    rw [f_X2_bestShareAmong_L14, hg, if_neg (nI_ge hj (by omega)), contains_bit (by omega) (by omega), kbind, hI j (by omega), nI_1]
    cases inB S a j with
    | false => rw [if_pos b2i_f]; rfl
    | true => rw [if_neg b2i_t, e2, kbind]; rfl
  · intro n best _
    show f_X2_bestShareAmong_L14 (n + 1) S (nI M) (nI f) best (nI ng) = some best
    rw [f_X2_bestShareAmong_L14, hg, if_pos (nI_le (Nat.le_refl ng) (by omega))]
theorem k_bestShareByWalking (h : kR S T na ng nf nr day A B H) {a f : Nat} (ha : a < 10) (hf : f < 12) : f_X2_bestShareByWalking S (nI a) (nI f) = some (bsh S ng a f) := by
  have hg := h.2.1.2.1
  have hng := h.1.2.2.1
  have e : f_X0_at 120 10 (S.2 14) (nI f) (nI a) = some (S.2 14 (f * 10 + a)) := at_grid (W := 10) ha (by omega) (by omega) (by omega)
  rw [f_X2_bestShareByWalking, e, kbind]
  refine (loop_st (fun n (best : Int32) j => f_X2_bestShareByWalking_L13 n S (nI a) (nI f) best (nI j)) (fun _ _ => True) (fun best g => if inB S a g = true then kmax best (S.2 15 (f * 6 + g)) else best) ng (fun best => best) ?_ ?_ ng 0 (S.2 14 (f * 10 + a)) 200 (by omega) (by omega) trivial).1
  · intro n best j hj _
    refine ⟨?_, trivial⟩
    show f_X2_bestShareByWalking_L13 (n + 1) S (nI a) (nI f) best (nI j) = f_X2_bestShareByWalking_L13 n S (nI a) (nI f) (if _ then _ else _) (nI (j + 1))
    have e2 : f_X0_at 72 6 (S.2 15) (nI f) (nI j) = some (S.2 15 (f * 6 + j)) := at_grid (W := 6) (by omega) (by omega) (by omega) (by omega)
    rw [f_X2_bestShareByWalking_L13, hg, if_neg (nI_ge hj (by omega)), e2, kbind, nI_1]
    by_cases q : S.2 15 (f * 6 + j) ≤ best
    · rw [if_pos q]
      cases inB S a j with
      | false => rfl
      | true =>
        show _ = f_X2_bestShareByWalking_L13 n S (nI a) (nI f) (kmax best (S.2 15 (f * 6 + j))) (nI (j + 1))
        rw [kmax, if_neg (fun z => by rw [fa_le] at q; rw [fa_lt] at z; omega)]
    · rw [if_neg q, h.leadsTo ha (by omega), kbind]
      cases inB S a j with
      | false => rw [if_pos b2i_f]; rfl
      | true =>
        rw [if_neg b2i_t]
        show _ = f_X2_bestShareByWalking_L13 n S (nI a) (nI f) (kmax best (S.2 15 (f * 6 + j))) (nI (j + 1))
        rw [kmax, if_pos (by rw [fa_le] at q; rw [fa_lt]; omega)]
  · intro n best _
    show f_X2_bestShareByWalking_L13 (n + 1) S (nI a) (nI f) best (nI ng) = some best
    rw [f_X2_bestShareByWalking_L13, hg, if_pos (nI_le (Nat.le_refl ng) (by omega))]
/-- the giver of a folder -/
def nxt (S : kSt) (B f : Nat) : Int32 := if B.testBit f = true then -1 else S.2 10 f
noncomputable def chn (S : kSt) (ng a B : Nat) : Nat → Int32 → Int32 → Int32
  | 0, _, best => best
  | k + 1, gv, best => if gv = -1 then best else chn S ng a B k (nxt S B gv.toNatClampNeg) (kmax best (bsh S ng a gv.toNatClampNeg))
theorem kR.giverTo (h : kR S T na ng nf nr day A B H) {f : Nat} (hf : f < 12) : f_X2_giverTo S (nI f) = some (nxt S B f) := by
  rw [f_X2_giverTo, h.2.1.2.2.2.2.2.2.1, contains_bit h.B16 (by omega), kbind, nxt]
  cases B.testBit f with
  | false => rw [if_pos b2i_f, at_row hf (by omega), kbind]; rfl
  | true => rw [if_neg b2i_t]; rfl
theorem nI_m1 {n : Nat} (h : n < 2 ^ 31) : ¬ nI n = -1 := fun z => by
  have := congrArg Int32.toInt z
  rw [nI_toInt h] at this
  have h9 : (-1 : Int32).toInt = -1 := by decide
  omega
theorem kR.nxt_ok (h : kR S T na ng nf nr day A B H) {f : Nat} (hf : f < nf) : nxt S B f = -1 ∨ ∃ p, p < f ∧ nxt S B f = nI p := by
  unfold nxt
  cases B.testBit f with
  | true => exact Or.inl rfl
  | false =>
    rcases (h.2.2.2.2.2.2.2.1 f hf).2 with e | ⟨p, e1, e2⟩
    · exact Or.inl e
    · exact Or.inr ⟨p, e1, e2⟩
theorem k_rightAmong_L (h : kR S T na ng nf nr day A B H) {a M : Nat} (ha : a < 10) (hM : M < 64) (hI : ∀ g, g < 6 → M.testBit g = inB S a g) :
    ∀ r k gv best n, k + r = 12 → r < n → (gv = -1 ∨ ∃ f, f < nf ∧ gv = nI f) → f_X2_rightAmong_L33 n S (nI a) (nI M) best gv (nI k) = some (chn S ng a B r gv best) := by
  have hnf := h.1.2.2.2.1
  intro r
  induction r with
  | zero =>
    intro k gv best n h1 h2 _
    obtain ⟨n, rfl⟩ : ∃ z, n = z + 1 := ⟨n - 1, by omega⟩
    have e : (12 : Int32) ≤ nI k := nI_le (a := 12) (by omega) (by omega)
    rw [f_X2_rightAmong_L33, if_pos e]; rfl
  | succ r ih =>
    intro k gv best n h1 h2 h3
    obtain ⟨n, rfl⟩ : ∃ z, n = z + 1 := ⟨n - 1, by omega⟩
    have e : ¬ (12 : Int32) ≤ nI k := nI_ge (b := 12) (by omega) (by omega)
    rw [f_X2_rightAmong_L33, if_neg e, chn]
    rcases h3 with e1 | ⟨f, hf, e1⟩
    · rw [if_pos e1, if_pos e1]
    · rw [e1, if_neg (nI_m1 (by omega)), if_neg (nI_m1 (by omega)), k_bestShareAmong h ha (by omega) hM hI, kbind, h.giverTo (by omega), kbind, nI_1, nI_clamp (by omega)]
      refine ih (k + 1) _ _ n (by omega) (by omega) ?_
      rcases h.nxt_ok hf with q | ⟨p, q1, q2⟩
      · exact Or.inl q
      · exact Or.inr ⟨p, by omega, q2⟩
/-- the right of an account to a folder -/
noncomputable def rgt (S : kSt) (ng A B a f : Nat) : Int32 := if A.testBit a = true then (if S.2 9 f = nI a then 3 else chn S ng a B 12 (nI f) 0) else 0
theorem k_rightAmong (h : kR S T na ng nf nr day A B H) {a f M : Nat} (ha : a < 10) (hf : f < nf) (hM : M < 64) (hI : ∀ g, g < 6 → M.testBit g = inB S a g) : f_X2_rightAmong S (nI a) (nI M) (nI f) = some (rgt S ng A B a f) := by
  have hnf := h.1.2.2.2.1
  rw [f_X2_rightAmong, h.isActive (by omega), kbind, rgt]
  cases A.testBit a with
  | false => rw [if_pos b2i_f]; rfl
  | true =>
    rw [if_neg b2i_t, if_pos rfl, at_row (by omega) (by omega), kbind]
    by_cases q : S.2 9 f = nI a
    · rw [if_pos q, if_pos q]
    · rw [if_neg q, if_neg q]
      exact k_rightAmong_L h ha hM hI 12 0 (nI f) 0 200 (by omega) (by omega) (Or.inr ⟨f, hf, rfl⟩)
end RR
