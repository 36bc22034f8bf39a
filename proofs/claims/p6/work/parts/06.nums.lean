theorem I_ne' {a b : Int32} (h : a ≠ b) : ¬ a.toInt = b.toInt := fun z => h (Int32.toInt_inj.mp z)
theorem I_nne {a b : Int32} (h : ¬ a ≠ b) : a.toInt = b.toInt := congrArg Int32.toInt (Decidable.not_not.mp h)
theorem I_narz {r : Int32} (h : r.toInt = 0 ∨ r.toInt = 1) : narrow .boolean (.int r) = .int r := by
  rcases h with h | h
  · rw [show r = 0 from Int32.toInt_inj.mp (h.trans (by decide : (0 : Int) = (0 : Int32).toInt))]; rfl
  · rw [show r = 1 from Int32.toInt_inj.mp (h.trans (by decide : (1 : Int) = (1 : Int32).toInt))]; rfl
theorem I_max (a b : Int32) : ((if a < b then b else a).toInt = b.toInt ∧ a.toInt < b.toInt) ∨ ((if a < b then b else a).toInt = a.toInt ∧ b.toInt ≤ a.toInt) := by
  by_cases h : a < b
  · rw [if_pos h]; exact Or.inl ⟨rfl, I_lt h⟩
  · rw [if_neg h]; exact Or.inr ⟨rfl, I_nlt h⟩
theorem I_min (a b : Int32) : ((if b < a then b else a).toInt = b.toInt ∧ b.toInt < a.toInt) ∨ ((if b < a then b else a).toInt = a.toInt ∧ a.toInt ≤ b.toInt) := by
  by_cases h : b < a
  · rw [if_pos h]; exact Or.inl ⟨rfl, I_lt h⟩
  · rw [if_neg h]; exact Or.inr ⟨rfl, I_nlt h⟩
theorem I_mulcl (a b : Int32) (c : Int) (hc : a.toInt = c) : ∃ k : Int, (a * b).toInt = c * b.toInt + 4294967296 * k ∧ -2147483648 ≤ (a * b).toInt ∧ (a * b).toInt ≤ 2147483647 := by
  have h5 := Int32.le_toInt (a * b); have h6 := Int32.toInt_lt (a * b)
  have h := Int32.toInt_mul a b
  rw [hc, Int.bmod_def] at h
  split at h
  · exact ⟨-((c * b.toInt) / 4294967296), by omega, by omega, by omega⟩
  · exact ⟨-((c * b.toInt) / 4294967296) - 1, by omega, by omega, by omega⟩
theorem J_of (a : Int32) : (Int32.toInt64 a).toInt = a.toInt := by simp
theorem J_sub (a b : Int64) : ∃ k : Int, (a - b).toInt = a.toInt - b.toInt + 18446744073709551616 * k ∧ -9223372036854775808 ≤ (a - b).toInt ∧ (a - b).toInt ≤ 9223372036854775807 := by
  have h5 := Int64.le_toInt (a - b); have h6 := Int64.toInt_lt (a - b)
  have h := Int64.toInt_sub a b
  rw [Int.bmod_def] at h
  split at h
  · exact ⟨-((a.toInt - b.toInt) / 18446744073709551616), by omega, by omega, by omega⟩
  · exact ⟨-((a.toInt - b.toInt) / 18446744073709551616) - 1, by omega, by omega, by omega⟩
theorem J_cmp (x y : Int64) : ((lg_cmp x y).toInt = 1 ∧ y.toInt < x.toInt) ∨ ((lg_cmp x y).toInt = 0 ∧ x.toInt = y.toInt) ∨ ((lg_cmp x y).toInt = -1 ∧ x.toInt < y.toInt) := by
  unfold lg_cmp
  by_cases h : x > y
  · rw [if_pos h]; exact Or.inl ⟨by decide, Int64.lt_iff_toInt_lt.mp h⟩
  · rw [if_neg h]
    have h1 := mt Int64.lt_iff_toInt_lt.mpr h
    by_cases h2 : x = y
    · rw [if_pos h2]; exact Or.inr (Or.inl ⟨by decide, by rw [h2]⟩)
    · rw [if_neg h2]
      have h3 : ¬ x.toInt = y.toInt := fun z => h2 (Int64.toInt_inj.mp z)
      exact Or.inr (Or.inr ⟨by decide, by omega⟩)
theorem I_idiv (a b : Int32) (c : Int) (hb : b.toInt = c) (hc : 0 < c) : 0 ≤ a.toInt → (a / b).toInt = a.toInt / c := by
  intro h0
  have h1 := Int32.toInt_lt a
  rw [Int32.toInt_div, hb, Int.tdiv_eq_ediv_of_nonneg h0, Int.bmod_def]
  have h2 : a.toInt / c ≤ a.toInt := Int.ediv_le_self _ h0
  have h3 : 0 ≤ a.toInt / c := Int.ediv_nonneg h0 (by omega)
  rw [if_pos (by omega)]
  omega
theorem tB_nat : ∀ j, j < 12 → (0 ≤ (tBIND j).toInt ∧ (tBIND j).toInt ≤ 6 ∧ (¬ 2 ≤ j ∨ ¬ j ≤ 7 ∨ 2 ≤ (tBIND j).toInt) ∧ ((tBIND j).toInt = 0 ∨ (2 ≤ j ∧ j ≤ 8) ∨ j = 11)) := by decide
theorem tO_nat : ∀ j, j < 12 → (0 ≤ (tOPER j).toInt ∧ (tOPER j).toInt ≤ 3 ∧ (¬ j = 11 ∨ (tOPER j).toInt = 3) ∧ ((j = 0 ∨ j = 1 ∨ j = 9 ∨ j = 10) ∨ 1 ≤ (tOPER j).toInt)) := by decide
theorem tB_out (j : Nat) (h : ¬ j < 12) : tBIND j = 0 := by
  have e : ([0, 0, 5, 5, 6, 4, 4, 2, 3, 0, 0, 1] : List Int32)[j]? = none := List.getElem?_eq_none (by simp; omega)
  simp [tBIND, List.getD, e]
theorem tO_out (j : Nat) (h : ¬ j < 12) : tOPER j = 0 := by
  have e : ([0, 0, 2, 2, 2, 2, 2, 2, 1, 0, 0, 3] : List Int32)[j]? = none := List.getElem?_eq_none (by simp; omega)
  simp [tOPER, List.getD, e]
theorem tBIND_rng (i : Int32) : 0 ≤ (tBIND i.toNatClampNeg).toInt ∧ (tBIND i.toNatClampNeg).toInt ≤ 6 ∧ (¬ 2 ≤ i.toInt ∨ ¬ i.toInt ≤ 7 ∨ 2 ≤ (tBIND i.toNatClampNeg).toInt) ∧ ((tBIND i.toNatClampNeg).toInt = 0 ∨ (2 ≤ i.toInt ∧ i.toInt ≤ 8) ∨ i.toInt = 11) := by
  rw [I_nat]
  by_cases h : i.toInt.toNat < 12
  · have := tB_nat _ h
    generalize (tBIND i.toInt.toNat).toInt = z at *
    omega
  · rw [tB_out _ h]
    have c0 : (0 : Int32).toInt = 0 := by decide
    omega
theorem tOPER_rng (i : Int32) : 0 ≤ (tOPER i.toNatClampNeg).toInt ∧ (tOPER i.toNatClampNeg).toInt ≤ 3 ∧ (¬ i.toInt = 11 ∨ (tOPER i.toNatClampNeg).toInt = 3) ∧ (i.toInt < 2 ∨ i.toInt = 9 ∨ i.toInt = 10 ∨ 12 ≤ i.toInt ∨ 1 ≤ (tOPER i.toNatClampNeg).toInt) := by
  rw [I_nat]
  by_cases h : i.toInt.toNat < 12
  · have := tO_nat _ h
    generalize (tOPER i.toInt.toNat).toInt = z at *
    omega
  · rw [tO_out _ h]
    have c0 : (0 : Int32).toInt = 0 := by decide
    omega
theorem J_and31 (x : Int64) : 0 ≤ ((x &&& 31).toInt32).toInt ∧ ((x &&& 31).toInt32).toInt ≤ 31 := by
  have h1 : (x &&& 31).toBitVec.toNat ≤ 31 := by
    rw [Int64.toBitVec_and, BitVec.toNat_and]
    exact Nat.le_trans Nat.and_le_right (by decide)
  have h2 : (x &&& 31).toInt = ((x &&& 31).toBitVec.toNat : Int) := by
    show (x &&& 31).toBitVec.toInt = _
    rw [BitVec.toInt_eq_toNat_of_lt (by omega)]
  rw [Int64.toInt_toInt32, h2, Int.bmod_def]
  split <;> omega
theorem I_addx {v a b : Int32} (e : v = a + b) (h : -2147483648 ≤ a.toInt + b.toInt ∧ a.toInt + b.toInt ≤ 2147483647) : v.toInt = a.toInt + b.toInt := by
  rw [e, Int32.toInt_add, Int.bmod_def]; split <;> omega
theorem I_subx {v a b : Int32} (e : v = a - b) (h : -2147483648 ≤ a.toInt - b.toInt ∧ a.toInt - b.toInt ≤ 2147483647) : v.toInt = a.toInt - b.toInt := by
  rw [e, Int32.toInt_sub, Int.bmod_def]; split <;> omega
theorem I_mulx {v a b : Int32} (c : Int) (e : v = a * b) (hc : b.toInt = c) (h : -2147483648 ≤ a.toInt * c ∧ a.toInt * c ≤ 2147483647) : v.toInt = a.toInt * c := by
  rw [e, Int32.toInt_mul, hc, Int.bmod_def]
  generalize a.toInt * c = z at *
  split <;> omega
theorem I_mulxl {v a b : Int32} (c : Int) (e : v = a * b) (hc : a.toInt = c) (h : -2147483648 ≤ c * b.toInt ∧ c * b.toInt ≤ 2147483647) : v.toInt = c * b.toInt := by
  rw [e, Int32.toInt_mul, hc, Int.bmod_def]
  generalize c * b.toInt = z at *
  split <;> omega
theorem I_negx {v a : Int32} (e : v = -a) (h : -2147483648 < a.toInt) : v.toInt = -a.toInt := by
  have h1 := Int32.toInt_lt a
  rw [e, Int32.toInt_neg, Int.bmod_def]; split <;> omega
theorem J_subx {v a b : Int64} (e : v = a - b) (h : -9223372036854775808 ≤ a.toInt - b.toInt ∧ a.toInt - b.toInt ≤ 9223372036854775807) : v.toInt = a.toInt - b.toInt := by
  rw [e, Int64.toInt_sub, Int.bmod_def]; split <;> omega
theorem I_irem (a b : Int32) (c : Int) (hb : b.toInt = c) (hc : 0 < c) : 0 ≤ a.toInt → (a - a / b * b).toInt = a.toInt % c := by
  intro h0
  have h1 := Int32.toInt_lt a
  have hq := I_idiv a b c hb hc h0
  have h2 : a.toInt / c * c ≤ a.toInt := Int.ediv_mul_le _ (by omega)
  have h3 : 0 ≤ a.toInt / c := Int.ediv_nonneg h0 (by omega)
  have h4 : 0 ≤ a.toInt / c * c := Int.mul_nonneg h3 (by omega)
  have hm : (a / b * b).toInt = a.toInt / c * c := by
    have := I_mulx c (v := a / b * b) (a := a / b) (b := b) rfl hb (by rw [hq]; omega)
    rw [this, hq]
  have hs := I_subx (v := a - a / b * b) (a := a) (b := a / b * b) rfl (by rw [hm]; omega)
  rw [hs, hm, Int.emod_def, Int.mul_comm c]
