/-! shifts and masks -/
theorem sh_amt : ∀ n, n < 32 → ((nI n &&& 31).toBitVec.smod 32).toNat = n := by decide
theorem shrN {v j : Nat} (hv : v < 2 ^ 31) (hj : j < 32) : nI v >>> (nI j &&& 31) = nI (v / 2 ^ j) := pk_shrN hv _ j (sh_amt j hj)
theorem shlN {v j : Nat} (hj : j < 32) (h : v * 2 ^ j < 2 ^ 32) : nI v <<< (nI j &&& 31) = nI (v * 2 ^ j) := pk_shlN _ j (sh_amt j hj) h
theorem and1N {v : Nat} (h : v < 2 ^ 32) : nI v &&& (1 : Int32) = nI (v % 2) := pk_andN h 1 (by decide)
theorem and3N {v : Nat} (h : v < 2 ^ 32) : nI v &&& (3 : Int32) = nI (v % 4) := pk_andN h 2 (by decide)
theorem and15N {v : Nat} (h : v < 2 ^ 32) : nI v &&& (15 : Int32) = nI (v % 16) := pk_andN h 4 (by decide)
theorem tb_div (v j : Nat) : v.testBit j = decide (v / 2 ^ j % 2 = 1) := Nat.testBit_eq_decide_div_mod_eq
theorem tb_zero {v j : Nat} : v / 2 ^ j % 2 = 0 ↔ v.testBit j = false := by
  rw [tb_div, decide_eq_false_iff_not]; omega
theorem nI_zero {v : Nat} (h : v < 2 ^ 32) : nI v = 0 ↔ v = 0 := by
  constructor
  · intro e
    have e2 : (nI v).toBitVec.toNat = (nI 0).toBitVec.toNat := congrArg (fun x : Int32 => x.toBitVec.toNat) e
    rw [pk_tn h, pk_tn (by decide)] at e2
    exact e2
  · intro e; rw [e]; rfl
/-! fields of a number: a + B x -/
theorem land_split {k : Nat} {a b : Nat} (x y : Nat) (ha : a < 2 ^ k) (hb : b < 2 ^ k) : (a + 2 ^ k * x) &&& (b + 2 ^ k * y) = (a &&& b) + 2 ^ k * (x &&& y) := by
  have hab : a &&& b < 2 ^ k := Nat.and_lt_two_pow a hb
  apply Nat.eq_of_testBit_eq
  intro i
  rw [Nat.testBit_and, Nat.add_comm a, Nat.add_comm b, Nat.add_comm (a &&& b), Nat.testBit_two_pow_mul_add x ha, Nat.testBit_two_pow_mul_add y hb, Nat.testBit_two_pow_mul_add _ hab]
  by_cases hi : i < k
  · rw [if_pos hi, if_pos hi, if_pos hi, Nat.testBit_and]
  · rw [if_neg hi, if_neg hi, if_neg hi, Nat.testBit_and]
def bc1 (v : Nat) : Nat := (v / 2) &&& 1431655765
def bc2 (v : Nat) : Nat := (v &&& 858993459) + ((v / 4) &&& 858993459)
def bc3 (v : Nat) : Nat := (v + v / 16) &&& 252645135
def bc (v : Nat) : Nat := bc3 (bc2 (v - bc1 v))
theorem bc_byte : ∀ a : Fin 256, (bc1 a.val ≤ a.val ∧ a.val - bc1 a.val < 256 ∧ bc2 (a.val - bc1 a.val) ≤ 68 ∧ bc2 (a.val - bc1 a.val) % 16 ≤ 4 ∧ bc a.val = fb_ct (fun i => a.val.testBit i) 8) := by decide +kernel
theorem half_split {k j : Nat} {a m : Nat} (x M : Nat) (hj : j ≤ k) (ha : a < 2 ^ k) (hm : m < 2 ^ (k - j)) : ((a + 2 ^ k * x) / 2 ^ j) &&& (m + 2 ^ k * M) = ((a / 2 ^ j) &&& m) + 2 ^ k * ((x / 2 ^ j) &&& M) := by
  have hk : 2 ^ (k - j) ≤ 2 ^ k := Nat.pow_le_pow_right (by decide) (by omega)
  have hmk : m < 2 ^ k := Nat.lt_of_lt_of_le hm hk
  have hab : (a / 2 ^ j) &&& m < 2 ^ k := Nat.and_lt_two_pow _ hmk
  apply Nat.eq_of_testBit_eq
  intro i
  rw [Nat.testBit_and, ← Nat.shiftRight_eq_div_pow, Nat.testBit_shiftRight, Nat.add_comm a, Nat.add_comm m, Nat.add_comm ((a / 2 ^ j) &&& m), Nat.testBit_two_pow_mul_add x ha, Nat.testBit_two_pow_mul_add M hmk, Nat.testBit_two_pow_mul_add _ hab]
  by_cases hi : i < k
  · rw [if_pos hi, if_pos hi, Nat.testBit_and, ← Nat.shiftRight_eq_div_pow, Nat.testBit_shiftRight]
    by_cases hij : j + i < k
    · rw [if_pos hij]
    · have hz : m.testBit i = false := Nat.testBit_lt_two_pow (Nat.lt_of_lt_of_le hm (Nat.pow_le_pow_right (by decide) (by omega)))
      rw [hz, Bool.and_false, Bool.and_false]
  · rw [if_neg hi, if_neg hi, if_neg (by omega), Nat.testBit_and, ← Nat.shiftRight_eq_div_pow, Nat.testBit_shiftRight, show j + i - k = j + (i - k) by omega]
/-- one byte apart -/
theorem bc_step {a x M1 M2 M3 : Nat} (ha : a < 256) (h1 : (x / 2) &&& M1 ≤ x) : ∀ (y z : Nat), y = x - ((x / 2) &&& M1) → z = (y &&& M2) + ((y / 4) &&& M2) → z % 16 ≤ 4 →
    ((fun v => (v + v / 16) &&& (15 + 256 * M3)) ((fun v => (v &&& (51 + 256 * M2)) + ((v / 4) &&& (51 + 256 * M2))) ((a + 256 * x) - (((a + 256 * x) / 2) &&& (85 + 256 * M1))))) = bc a + 256 * ((z + z / 16) &&& M3) := by
  intro y z hy hz hz4
  obtain ⟨p1, p2, p3, p4, p5⟩ := bc_byte ⟨a, ha⟩
  simp only at p1 p2 p3 p4 p5
  have e1 : ((a + 256 * x) / 2) &&& (85 + 256 * M1) = ((a / 2) &&& 85) + 256 * ((x / 2) &&& M1) := half_split (k := 8) (j := 1) x M1 (by decide) ha (by decide)
  have ea : (a / 2) &&& 85 = bc1 a := by
    have := half_split (k := 8) (j := 1) (a := a) (m := 85) 0 5592405 (by decide) ha (by decide)
    simp only [Nat.mul_zero, Nat.add_zero, Nat.zero_div, Nat.zero_and] at this
    exact this.symm
  have e2 : (a + 256 * x) - (((a + 256 * x) / 2) &&& (85 + 256 * M1)) = (a - bc1 a) + 256 * y := by rw [e1, ea, hy]; omega
  have e3 : (((a - bc1 a) + 256 * y) &&& (51 + 256 * M2)) = ((a - bc1 a) &&& 51) + 256 * (y &&& M2) := land_split (k := 8) y M2 p2 (by decide)
  have e4 : ((((a - bc1 a) + 256 * y) / 4) &&& (51 + 256 * M2)) = (((a - bc1 a) / 4) &&& 51) + 256 * ((y / 4) &&& M2) := half_split (k := 8) (j := 2) y M2 (by decide) p2 (by decide)
  have eb : bc2 (a - bc1 a) = ((a - bc1 a) &&& 51) + (((a - bc1 a) / 4) &&& 51) := by
    have q1 := land_split (k := 8) (a := a - bc1 a) (b := 51) 0 3355443 p2 (by decide)
    have q2 := half_split (k := 8) (j := 2) (a := a - bc1 a) (m := 51) 0 3355443 (by decide) p2 (by decide)
    simp only [Nat.mul_zero, Nat.add_zero, Nat.zero_div, Nat.zero_and] at q1 q2
    unfold bc2
    exact congr (congrArg HAdd.hAdd q1) q2
  have e5 : ((fun v => (v &&& (51 + 256 * M2)) + ((v / 4) &&& (51 + 256 * M2))) ((a - bc1 a) + 256 * y)) = bc2 (a - bc1 a) + 256 * z := by
    simp only
    rw [e3, e4, hz, eb]; omega
  rw [e2, e5]
  simp only
  have hb := p3
  have hb4 := p4
  unfold bc at p5 ⊢
  generalize hB : bc2 (a - bc1 a) = B at hb hb4 ⊢
  have e6 : B + 256 * z + (B + 256 * z) / 16 = (B + B / 16 + 16 * (z % 16)) + 256 * (z + z / 16) := by omega
  rw [e6]
  have hlt : B + B / 16 + 16 * (z % 16) < 256 := by omega
  have e7 := land_split (k := 8) (a := B + B / 16 + 16 * (z % 16)) (b := 15) (z + z / 16) M3 hlt (by decide)
  have e8 : (B + B / 16 + 16 * (z % 16)) &&& 15 = (B + B / 16) % 16 := by
    have := Nat.and_two_pow_sub_one_eq_mod (B + B / 16 + 16 * (z % 16)) 4
    rw [show (2 : Nat) ^ 4 - 1 = 15 from rfl] at this
    rw [this]; omega
  have e9 : bc3 B = (B + B / 16) % 16 := by
    unfold bc3
    have hlt2 : B + B / 16 < 256 := by omega
    have q := land_split (k := 8) (a := B + B / 16) (b := 15) 0 986895 hlt2 (by decide)
    simp only [Nat.mul_zero, Nat.add_zero, Nat.zero_and] at q
    have q2 := Nat.and_two_pow_sub_one_eq_mod (B + B / 16) 4
    rw [show (2 : Nat) ^ 4 - 1 = 15 from rfl] at q2
    rw [← q2]; exact q
  rw [show (2 : Nat) ^ 8 = 256 from rfl] at e7
  rw [e7, e8, e9]
