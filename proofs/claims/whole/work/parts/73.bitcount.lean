def bcZ (M1 M2 v : Nat) : Nat := ((v - ((v / 2) &&& M1)) &&& M2) + (((v - ((v / 2) &&& M1)) / 4) &&& M2)
def bcF (M1 M2 M3 v : Nat) : Nat := (bcZ M1 M2 v + bcZ M1 M2 v / 16) &&& M3
theorem half_le (x M : Nat) : (x / 2) &&& M ≤ x := Nat.le_trans Nat.and_le_left (Nat.div_le_self _ _)
theorem bcZ_step {a : Nat} (x M1 M2 : Nat) (ha : a < 256) : bcZ (85 + 256 * M1) (51 + 256 * M2) (a + 256 * x) = bc2 (a - bc1 a) + 256 * bcZ M1 M2 x := by
  obtain ⟨p1, p2, p3, p4, p5⟩ := bc_byte ⟨a, ha⟩
  simp only at p1 p2 p3 p4 p5
  have h1 := half_le x M1
  have e1 : ((a + 256 * x) / 2) &&& (85 + 256 * M1) = ((a / 2) &&& 85) + 256 * ((x / 2) &&& M1) := half_split (k := 8) (j := 1) x M1 (by decide) ha (by decide)
  have ea : (a / 2) &&& 85 = bc1 a := by
    have := half_split (k := 8) (j := 1) (a := a) (m := 85) 0 5592405 (by decide) ha (by decide)
    simp only [Nat.mul_zero, Nat.add_zero, Nat.zero_div, Nat.zero_and] at this
    exact this.symm
  have e2 : (a + 256 * x) - (((a + 256 * x) / 2) &&& (85 + 256 * M1)) = (a - bc1 a) + 256 * (x - ((x / 2) &&& M1)) := by rw [e1, ea]; omega
  unfold bcZ
  rw [e2]
  generalize x - ((x / 2) &&& M1) = y
  have e3 : (((a - bc1 a) + 256 * y) &&& (51 + 256 * M2)) = ((a - bc1 a) &&& 51) + 256 * (y &&& M2) := land_split (k := 8) y M2 p2 (by decide)
  have e4 : ((((a - bc1 a) + 256 * y) / 4) &&& (51 + 256 * M2)) = (((a - bc1 a) / 4) &&& 51) + 256 * ((y / 4) &&& M2) := half_split (k := 8) (j := 2) y M2 (by decide) p2 (by decide)
  have eb : bc2 (a - bc1 a) = ((a - bc1 a) &&& 51) + (((a - bc1 a) / 4) &&& 51) := by
    have q1 := land_split (k := 8) (a := a - bc1 a) (b := 51) 0 3355443 p2 (by decide)
    have q2 := half_split (k := 8) (j := 2) (a := a - bc1 a) (m := 51) 0 3355443 (by decide) p2 (by decide)
    simp only [Nat.mul_zero, Nat.add_zero, Nat.zero_div, Nat.zero_and] at q1 q2
    unfold bc2
    exact congr (congrArg HAdd.hAdd q1) q2
  rw [e3, e4, eb]; omega
theorem bcF_step {a : Nat} (x M1 M2 M3 : Nat) (ha : a < 256) (hz : bcZ M1 M2 x % 16 ≤ 4) : bcF (85 + 256 * M1) (51 + 256 * M2) (15 + 256 * M3) (a + 256 * x) = bc a + 256 * bcF M1 M2 M3 x :=
  bc_step (M3 := M3) ha (half_le x M1) _ _ rfl rfl hz
theorem bcZ_mod {a : Nat} (x M1 M2 : Nat) (ha : a < 256) : bcZ (85 + 256 * M1) (51 + 256 * M2) (a + 256 * x) % 16 ≤ 4 := by
  rw [bcZ_step x M1 M2 ha]
  obtain ⟨p1, p2, p3, p4, p5⟩ := bc_byte ⟨a, ha⟩
  simp only at p4
  omega
theorem bc4 {a b c d : Nat} (ha : a < 256) (hb : b < 256) (hc : c < 256) (hd : d < 256) : bc (a + 256 * (b + 256 * (c + 256 * d))) = bc a + 256 * (bc b + 256 * (bc c + 256 * bc d)) := by
  have h0 : bc (a + 256 * (b + 256 * (c + 256 * d))) = bcF (85 + 256 * (85 + 256 * (85 + 256 * (85 + 256 * 0)))) (51 + 256 * (51 + 256 * (51 + 256 * (51 + 256 * 0)))) (15 + 256 * (15 + 256 * (15 + 256 * (15 + 256 * 0)))) (a + 256 * (b + 256 * (c + 256 * (d + 256 * 0)))) := by
    simp only [Nat.mul_zero, Nat.add_zero]; rfl
  rw [h0, bcF_step _ _ _ _ ha (bcZ_mod _ _ _ hb), bcF_step _ _ _ _ hb (bcZ_mod _ _ _ hc), bcF_step _ _ _ _ hc (bcZ_mod _ _ _ hd), bcF_step _ _ _ _ hd (by decide)]
  rfl
def pc (v : Nat) : Nat := fb_ct (fun i => v.testBit i) 32
theorem pc_byte {a : Nat} (ha : a < 256) : bc a = fb_ct (fun i => a.testBit i) 8 := (bc_byte ⟨a, ha⟩).2.2.2.2
theorem ct8_le (p : Nat → Bool) : fb_ct p 8 ≤ 8 := fb_ct_le p 8
theorem tb_byte (v k i : Nat) (hi : i < 8) : (v / 2 ^ k % 256).testBit i = v.testBit (k + i) := by
  rw [show (256 : Nat) = 2 ^ 8 from rfl, Nat.testBit_mod_two_pow, ← Nat.shiftRight_eq_div_pow, Nat.testBit_shiftRight]
  simp [hi]
theorem pc_split (v : Nat) : pc v = fb_ct (fun i => (v % 256).testBit i) 8 + (fb_ct (fun i => (v / 2 ^ 8 % 256).testBit i) 8 + (fb_ct (fun i => (v / 2 ^ 16 % 256).testBit i) 8 + fb_ct (fun i => (v / 2 ^ 24 % 256).testBit i) 8)) := by
  unfold pc
  rw [show (32 : Nat) = 8 + (8 + (8 + 8)) from rfl, fb_ct_split _ 8, fb_ct_split _ 8, fb_ct_split _ 8]
  have c0 : fb_ct (fun i => v.testBit i) 8 = fb_ct (fun i => (v % 256).testBit i) 8 := fb_ct_cong (fun k hk => by have := tb_byte v 0 k hk; simp only [Nat.pow_zero, Nat.div_one, Nat.zero_add] at this; exact this.symm)
  have c1 : fb_ct (fun i => v.testBit (8 + i)) 8 = fb_ct (fun i => (v / 2 ^ 8 % 256).testBit i) 8 := fb_ct_cong (fun k hk => (tb_byte v 8 k hk).symm)
  have c2 : fb_ct (fun i => v.testBit (8 + (8 + i))) 8 = fb_ct (fun i => (v / 2 ^ 16 % 256).testBit i) 8 := fb_ct_cong (fun k hk => by rw [tb_byte v 16 k hk]; congr 1; omega)
  have c3 : fb_ct (fun i => v.testBit (8 + (8 + (8 + i)))) 8 = fb_ct (fun i => (v / 2 ^ 24 % 256).testBit i) 8 := fb_ct_cong (fun k hk => by rw [tb_byte v 24 k hk]; congr 1; omega)
  simp only [c0, c1, c2, c3]
theorem bc_pc {v : Nat} (h : v < 2 ^ 32) : ∃ p q r s : Nat, p ≤ 8 ∧ q ≤ 8 ∧ r ≤ 8 ∧ s ≤ 8 ∧ bc v = p + 256 * (q + 256 * (r + 256 * s)) ∧ pc v = p + (q + (r + s)) := by
  have h0 : v % 256 < 256 := Nat.mod_lt _ (by decide)
  have h1 : v / 2 ^ 8 % 256 < 256 := Nat.mod_lt _ (by decide)
  have h2 : v / 2 ^ 16 % 256 < 256 := Nat.mod_lt _ (by decide)
  have h3 : v / 2 ^ 24 % 256 < 256 := Nat.mod_lt _ (by decide)
  have hv : v = v % 256 + 256 * (v / 2 ^ 8 % 256 + 256 * (v / 2 ^ 16 % 256 + 256 * (v / 2 ^ 24 % 256))) := by omega
  have E : bc v = bc (v % 256) + 256 * (bc (v / 2 ^ 8 % 256) + 256 * (bc (v / 2 ^ 16 % 256) + 256 * bc (v / 2 ^ 24 % 256))) := (congrArg bc hv).trans (bc4 h0 h1 h2 h3)
  rw [pc_byte h0, pc_byte h1, pc_byte h2, pc_byte h3] at E
  exact ⟨_, _, _, _, ct8_le _, ct8_le _, ct8_le _, ct8_le _, E, pc_split v⟩
theorem ushrN {n k : Nat} (hn : n < 2 ^ 32) {s : Int32} (hs : ((s.toUInt32 &&& Int32.toUInt32 31).toBitVec % 32).toNat = k) : ((nI n).toUInt32 >>> (s.toUInt32 &&& Int32.toUInt32 31)).toInt32 = nI (n / 2 ^ k) := pk_ushrN hn s k hs
theorem lit_1431655765 : (1431655765 : Int32) = nI 1431655765 := rfl
theorem lit_858993459 : (858993459 : Int32) = nI 858993459 := rfl
theorem lit_252645135 : (252645135 : Int32) = nI 252645135 := rfl
/-- Integer.bitCount -/
theorem s_bitCount {v : Nat} (h : v < 2 ^ 32) {post : Int32 → Prop} (k : post (nI (pc v))) : q_J6_bitCount_0f7a4 (nI v) post := by
  obtain ⟨p, q, r, s, hp, hq, hr, hs, e, ep⟩ := bc_pc h
  have l1 : bc1 v ≤ v := half_le v _
  have l2 : bc2 (v - bc1 v) < 2 ^ 32 := by
    unfold bc2
    have a1 : (v - bc1 v) &&& 858993459 ≤ 858993459 := Nat.and_le_right
    have a2 : ((v - bc1 v) / 4) &&& 858993459 ≤ 858993459 := Nat.and_le_right
    omega
  unfold q_J6_bitCount_0f7a4
  intro v1 e1 v2 e2 v3 e3 v4 e4 v5 e5
  rw [ushrN (k := 1) h (by decide), lit_1431655765, fa_and, pk_sub (by exact half_le v _)] at e1
  have e1' : v1 = nI (v - bc1 v) := e1
  rw [e1', ushrN (k := 2) (by omega) (by decide), lit_858993459, fa_and, fa_and, nI_add] at e2
  have e2' : v2 = nI (bc2 (v - bc1 v)) := e2
  rw [e2', ushrN (k := 4) l2 (by decide), nI_add, lit_252645135, fa_and] at e3
  have e3' : v3 = nI (bc v) := e3
  rw [e] at e3'
  rw [e3', ushrN (k := 8) (by omega) (by decide), nI_add] at e4
  rw [e4, ushrN (k := 16) (by omega) (by decide), nI_add] at e5
  have e6 : v5 &&& (63 : Int32) = nI (pc v) := by
    have d1 : (p + 256 * (q + 256 * (r + 256 * s))) / 2 ^ 8 = q + 256 * (r + 256 * s) := by omega
    have d2 : (p + 256 * (q + 256 * (r + 256 * s)) + (q + 256 * (r + 256 * s))) / 2 ^ 16 = r + s + 256 * s := by omega
    rw [e5, pk_andN (by omega) 6 (by decide), ep, d1, d2]
    congr 1
    omega
  rw [e6]; exact k
