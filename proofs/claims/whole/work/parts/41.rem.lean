/-! PURE PART: remainders -/
theorem remI_toInt {v : Int32} {p : Nat} (h0 : 0 < p) (hp : p < 1000) : (v - v / nI p * nI p).toInt = v.toInt.tmod p := by
  have hpI : (nI p).toInt = (p : Int) := nI_toInt (by omega)
  rw [Int32.toInt_sub, Int32.toInt_mul, Int32.toInt_div, hpI, Int.bmod_mul_bmod, Int.sub_bmod_bmod, Int.mul_comm, ← Int.tmod_def]
  have h1 := Int.tmod_lt_of_pos v.toInt (show (0 : Int) < p by omega)
  have h2 : -(p : Int) < v.toInt.tmod p := by
    have := Int.tmod_lt_of_pos (-v.toInt) (show (0 : Int) < p by omega)
    rw [Int.neg_tmod] at this
    omega
  exact Int.bmod_eq_of_le (by omega) (by omega)
/-- v by p -/
def rmd (v : Int32) (p : Nat) : Nat := (v.toInt % (p : Int)).toNat
theorem rmd_lt (v : Int32) {p : Nat} (h : 0 < p) : rmd v p < p := by
  unfold rmd
  have h1 := Int.emod_nonneg v.toInt (show (p : Int) ≠ 0 by omega)
  have h2 := Int.emod_lt_of_pos v.toInt (show (0 : Int) < p by omega)
  omega
theorem rmd_I (v : Int32) {p : Nat} (h : 0 < p) (hp : p < 1000) : (nI (rmd v p)).toInt = v.toInt % (p : Int) := by
  have h1 := Int.emod_nonneg v.toInt (show (p : Int) ≠ 0 by omega)
  have := rmd_lt v h
  rw [nI_toInt (by omega)]
  unfold rmd
  omega
theorem rem_cases (v : Int32) {p : Nat} (h0 : 0 < p) (hp : p < 1000) : let x := v - v / nI p * nI p; (0 ≤ x → x = nI (rmd v p)) ∧ (¬ 0 ≤ x → x + nI p = nI (rmd v p)) ∧ (0 ≤ v → 0 ≤ x) ∧ (¬ 0 ≤ v → ¬ x = 0 → ¬ 0 ≤ x) := by
  intro x
  have hx : x.toInt = v.toInt.tmod p := remI_toInt h0 hp
  have hpI : (nI p).toInt = (p : Int) := nI_toInt (by omega)
  have h1 := Int.emod_nonneg v.toInt (show (p : Int) ≠ 0 by omega)
  have h2 := Int.emod_lt_of_pos v.toInt (show (0 : Int) < p by omega)
  have hr := rmd_I v h0 hp
  have hz : (0 : Int32).toInt = 0 := rfl
  have ht : v.toInt.tmod p = v.toInt % p ∨ v.toInt.tmod p = v.toInt % p - p ∧ v.toInt < 0 ∧ v.toInt % p ≠ 0 := by
    rw [Int.tmod_eq_emod]
    by_cases q : 0 ≤ v.toInt ∨ (p : Int) ∣ v.toInt
    · rw [if_pos q]; left; omega
    · rw [if_neg q]
      right
      have q1 : ¬ 0 ≤ v.toInt := fun h => q (Or.inl h)
      have q2 : ¬ (p : Int) ∣ v.toInt := fun h => q (Or.inr h)
      refine ⟨by simp, by omega, fun e => q2 (Int.dvd_of_emod_eq_zero e)⟩
  have hpos : 0 ≤ v.toInt → v.toInt.tmod p = v.toInt % p := fun h => Int.tmod_eq_emod_of_nonneg h
  refine ⟨fun h => ?_, fun h => ?_, fun h => ?_, fun h e => ?_⟩
  · rw [Int32.le_iff_toInt_le, hz] at h
    apply Int32.toInt_inj.mp
    rw [hr]
    rcases ht with t | ⟨t, -, -⟩ <;> omega
  · rw [Int32.le_iff_toInt_le, hz] at h
    apply Int32.toInt_inj.mp
    rw [hr, Int32.toInt_add, hpI]
    rcases ht with t | ⟨t, -, -⟩
    · omega
    · rw [hx, t]
      have : v.toInt % (p : Int) - p + p = v.toInt % p := by omega
      rw [this]
      exact Int.bmod_eq_of_le (by omega) (by omega)
  · rw [Int32.le_iff_toInt_le, hz] at h ⊢
    rw [hx, hpos h]
    exact h1
  · rw [Int32.le_iff_toInt_le, hz] at h ⊢
    intro h9
    rcases ht with t | ⟨t, -, -⟩
    · -- x = emod ≥ 0 with v < 0: then x = 0
      have hn : v.toInt.tmod p ≤ 0 := by
        have := Int.tmod_nonneg (p : Int) (show 0 ≤ -v.toInt by omega)
        rw [Int.neg_tmod] at this
        omega
      exact e (Int32.toInt_inj.mp (by rw [hx, hz]; omega))
    · omega
theorem xor_sign (v : Int32) {p : Nat} (hp : p < 1000) : 0 ≤ (v ^^^ nI p) ↔ 0 ≤ v := by
  have key : ∀ x : Int32, 0 ≤ x ↔ x.toBitVec.msb = false := fun x => by
    rw [Int32.le_iff_toInt_le]
    show (0 : Int) ≤ x.toBitVec.toInt ↔ _
    have := @BitVec.toInt_neg_iff 32 x.toBitVec
    rw [BitVec.msb_eq_decide]
    simp only [decide_eq_false_iff_not]
    omega
  rw [key, key, Int32.toBitVec_xor, BitVec.msb_xor]
  have : (nI p).toBitVec.msb = false := (key (nI p)).mp (nI_pos' (by omega))
  rw [this]
  simp
theorem s_rem {v : Int32} {G : GS} {P : Int32 → Prop} {p : Nat} (h0 : 0 < p) (hp : p < 1000) (hg : G 1 0 = nI p) (h : P (nI (rmd v p))) : wX4_remainder v G P := by
  unfold wX4_remainder
  rw [hg]
  obtain ⟨c1, c2, c3, c4⟩ := rem_cases v h0 hp
  refine ⟨nI_ne0 h0 (by omega), fun x ex => ?_⟩
  subst ex
  refine ⟨fun a => ?_, fun a => ⟨fun e => ?_, fun e => ?_⟩⟩
  · rw [xor_sign v hp] at a
    rw [c1 (c3 a)]; exact h
  · rw [c1 (by rw [e]; exact Int32.le_refl _)]; exact h
  · rw [xor_sign v hp] at a
    rw [c2 (c4 a e)]; exact h
theorem s_by {v : Int32} {G : GS} {P : Int32 → Prop} {p : Nat} (h0 : 0 < p) (hp : p < 1000) (hg : G 45 0 = nI p) (h : P (nI (rmd v p))) : wX6_by v G P := by
  unfold wX6_by
  rw [hg]
  obtain ⟨c1, c2, c3, c4⟩ := rem_cases v h0 hp
  refine ⟨nI_ne0 h0 (by omega), fun x ex => ?_⟩
  subst ex
  exact ⟨fun a => by rw [c1 a]; exact h, fun a => by rw [c2 a]; exact h⟩
