/-! QUOTIENTS OF SMALL NUMBERS: no not-a-number, each equal to itself -/
def fpo (p m : Nat) : Bool := kn32 (FP.fdiv (FP.i2f (nI p)) (FP.i2f (nI m))) && (kn64 (FP.f2d (FP.fdiv (FP.i2f (nI p)) (FP.i2f (nI m)))) && decide (Op.cmpValue (FP.dcmp (FP.f2d (FP.fdiv (FP.i2f (nI p)) (FP.i2f (nI m)))) (FP.f2d (FP.fdiv (FP.i2f (nI p)) (FP.i2f (nI m))))) CmpOp.l = 0))
theorem fp_0 : ∀ m : Fin 8, ∀ p : Fin 121, fpo p.val (m.val + 1) = true := by decide +kernel
theorem fp_1 : ∀ m : Fin 8, ∀ p : Fin 121, fpo p.val (m.val + 9) = true := by decide +kernel
theorem fp_2 : ∀ m : Fin 8, ∀ p : Fin 121, fpo p.val (m.val + 17) = true := by decide +kernel
theorem fp_3 : ∀ m : Fin 8, ∀ p : Fin 121, fpo p.val (m.val + 25) = true := by decide +kernel
theorem fp_4 : ∀ m : Fin 8, ∀ p : Fin 121, fpo p.val (m.val + 33) = true := by decide +kernel
theorem fp_5 : ∀ m : Fin 8, ∀ p : Fin 121, fpo p.val (m.val + 41) = true := by decide +kernel
theorem fp_6 : ∀ m : Fin 8, ∀ p : Fin 121, fpo p.val (m.val + 49) = true := by decide +kernel
theorem fp_7 : ∀ m : Fin 8, ∀ p : Fin 121, fpo p.val (m.val + 57) = true := by decide +kernel
theorem fp_8 : ∀ m : Fin 8, ∀ p : Fin 121, fpo p.val (m.val + 65) = true := by decide +kernel
theorem fp_9 : ∀ m : Fin 8, ∀ p : Fin 121, fpo p.val (m.val + 73) = true := by decide +kernel
theorem fp_10 : ∀ m : Fin 8, ∀ p : Fin 121, fpo p.val (m.val + 81) = true := by decide +kernel
theorem fp_11 : ∀ m : Fin 8, ∀ p : Fin 121, fpo p.val (m.val + 89) = true := by decide +kernel
theorem fp_12 : ∀ m : Fin 8, ∀ p : Fin 121, fpo p.val (m.val + 97) = true := by decide +kernel
theorem fp_13 : ∀ m : Fin 8, ∀ p : Fin 121, fpo p.val (m.val + 105) = true := by decide +kernel
theorem fp_14 : ∀ m : Fin 8, ∀ p : Fin 121, fpo p.val (m.val + 113) = true := by decide +kernel
theorem fp_d : ∀ m : Fin 12, ∀ p : Fin 13, (kn64 (FP.ddiv (FP.i2d (nI p.val)) (FP.i2d (nI (m.val + 1)))) && decide (Op.cmpValue (FP.dcmp (FP.ddiv (FP.i2d (nI p.val)) (FP.i2d (nI (m.val + 1)))) (FP.ddiv (FP.i2d (nI p.val)) (FP.i2d (nI (m.val + 1))))) CmpOp.l = 0)) = true := by decide +kernel
theorem fp_all {p m : Nat} (hp : p ≤ 120) (h0 : 0 < m) (hm : m ≤ 120) : fpo p m = true := by
  rcases Nat.lt_or_ge m 9 with q0 | q0
  · have h := fp_0 ⟨m - 1, by omega⟩ ⟨p, by omega⟩
    dsimp only at h
    rw [show m - 1 + 1 = m by omega] at h; exact h
  rcases Nat.lt_or_ge m 17 with q1 | q1
  · have h := fp_1 ⟨m - 9, by omega⟩ ⟨p, by omega⟩
    dsimp only at h
    rw [show m - 9 + 9 = m by omega] at h; exact h
  rcases Nat.lt_or_ge m 25 with q2 | q2
  · have h := fp_2 ⟨m - 17, by omega⟩ ⟨p, by omega⟩
    dsimp only at h
    rw [show m - 17 + 17 = m by omega] at h; exact h
  rcases Nat.lt_or_ge m 33 with q3 | q3
  · have h := fp_3 ⟨m - 25, by omega⟩ ⟨p, by omega⟩
    dsimp only at h
    rw [show m - 25 + 25 = m by omega] at h; exact h
  rcases Nat.lt_or_ge m 41 with q4 | q4
  · have h := fp_4 ⟨m - 33, by omega⟩ ⟨p, by omega⟩
    dsimp only at h
    rw [show m - 33 + 33 = m by omega] at h; exact h
  rcases Nat.lt_or_ge m 49 with q5 | q5
  · have h := fp_5 ⟨m - 41, by omega⟩ ⟨p, by omega⟩
    dsimp only at h
    rw [show m - 41 + 41 = m by omega] at h; exact h
  rcases Nat.lt_or_ge m 57 with q6 | q6
  · have h := fp_6 ⟨m - 49, by omega⟩ ⟨p, by omega⟩
    dsimp only at h
    rw [show m - 49 + 49 = m by omega] at h; exact h
  rcases Nat.lt_or_ge m 65 with q7 | q7
  · have h := fp_7 ⟨m - 57, by omega⟩ ⟨p, by omega⟩
    dsimp only at h
    rw [show m - 57 + 57 = m by omega] at h; exact h
  rcases Nat.lt_or_ge m 73 with q8 | q8
  · have h := fp_8 ⟨m - 65, by omega⟩ ⟨p, by omega⟩
    dsimp only at h
    rw [show m - 65 + 65 = m by omega] at h; exact h
  rcases Nat.lt_or_ge m 81 with q9 | q9
  · have h := fp_9 ⟨m - 73, by omega⟩ ⟨p, by omega⟩
    dsimp only at h
    rw [show m - 73 + 73 = m by omega] at h; exact h
  rcases Nat.lt_or_ge m 89 with q10 | q10
  · have h := fp_10 ⟨m - 81, by omega⟩ ⟨p, by omega⟩
    dsimp only at h
    rw [show m - 81 + 81 = m by omega] at h; exact h
  rcases Nat.lt_or_ge m 97 with q11 | q11
  · have h := fp_11 ⟨m - 89, by omega⟩ ⟨p, by omega⟩
    dsimp only at h
    rw [show m - 89 + 89 = m by omega] at h; exact h
  rcases Nat.lt_or_ge m 105 with q12 | q12
  · have h := fp_12 ⟨m - 97, by omega⟩ ⟨p, by omega⟩
    dsimp only at h
    rw [show m - 97 + 97 = m by omega] at h; exact h
  rcases Nat.lt_or_ge m 113 with q13 | q13
  · have h := fp_13 ⟨m - 105, by omega⟩ ⟨p, by omega⟩
    dsimp only at h
    rw [show m - 105 + 105 = m by omega] at h; exact h
  have h := fp_14 ⟨m - 113, by omega⟩ ⟨p, by omega⟩
  dsimp only at h
  rw [show m - 113 + 113 = m by omega] at h; exact h
theorem fpf {p m : Nat} (hp : p ≤ 120) (h0 : 0 < m) (hm : m ≤ 120) : kn32 (FP.fdiv (FP.i2f (nI p)) (FP.i2f (nI m))) = true ∧ kn64 (FP.f2d (FP.fdiv (FP.i2f (nI p)) (FP.i2f (nI m)))) = true ∧ Op.cmpValue (FP.dcmp (FP.f2d (FP.fdiv (FP.i2f (nI p)) (FP.i2f (nI m)))) (FP.f2d (FP.fdiv (FP.i2f (nI p)) (FP.i2f (nI m))))) CmpOp.l = 0 := by
  have h := fp_all hp h0 hm
  rw [fpo, Bool.and_eq_true, Bool.and_eq_true, decide_eq_true_eq] at h
  exact h
theorem fpd {p m : Nat} (hp : p ≤ 12) (h0 : 0 < m) (hm : m ≤ 12) : kn64 (FP.ddiv (FP.i2d (nI p)) (FP.i2d (nI m))) = true ∧ Op.cmpValue (FP.dcmp (FP.ddiv (FP.i2d (nI p)) (FP.i2d (nI m))) (FP.ddiv (FP.i2d (nI p)) (FP.i2d (nI m)))) CmpOp.l = 0 := by
  have h := fp_d ⟨m - 1, by omega⟩ ⟨p, by omega⟩
  dsimp only at h
  rw [show m - 1 + 1 = m by omega, Bool.and_eq_true, decide_eq_true_eq] at h
  exact h
