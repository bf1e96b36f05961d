/-! the rule: allowed blocks, in sixteen ints -/
def RuleOk (al : Nat → Bool) (f : Nat → Int32) : Prop := ∀ i, i < 16 → ∃ v : Nat, v < 65536 ∧ f i = nI v ∧ ∀ j, j < 16 → v.testBit j = al (16 * i + j)
def setB (al : Nat → Bool) (b : Nat) (is : Bool) : Nat → Bool := fun x => if x = b then is else al x
def bI (b : Bool) : Int32 := if b then 1 else 0
theorem bI_t : bI true = 1 := rfl
theorem bI_f : bI false = 0 := rfl
theorem bI_01 (b : Bool) : bI b = 0 ∨ bI b = 1 := by cases b <;> simp [bI]
theorem li_4 : (4 : Int32) = nI 4 := rfl
/-- the place of a block: its int and its bit -/
theorem blk_hi {b : Nat} (hb : b < 256) : (nI b >>> ((4 : Int32) &&& 31)) &&& (15 : Int32) = nI (b / 16) := by
  rw [li_4, shrN (by omega) (by decide), and15N (by omega)]
  congr 1
  omega
theorem blk_lo {b : Nat} (hb : b < 256) : nI b &&& (15 : Int32) = nI (b % 16) := and15N (by omega)
theorem bit_at {v j : Nat} (hv : v < 65536) (hj : j < 16) : (nI v >>> (nI j &&& 31)) &&& (1 : Int32) = bI (v.testBit j) := by
  have hd : v / 2 ^ j ≤ v := Nat.div_le_self _ _
  rw [shrN (by omega) (by omega), and1N (by omega)]
  cases ht : v.testBit j with
  | false => rw [tb_zero.mpr ht]; rfl
  | true =>
    have h2 : v / 2 ^ j % 2 = 1 := by rw [tb_div] at ht; simpa using ht
    rw [h2]; rfl
theorem s_has {al : Nat → Bool} {f : Nat → Int32} (hr : RuleOk al f) {b : Nat} (hb : b < 256) {post : Int32 → Prop} (k : post (bI (al b))) : q_X3_has f (nI b) post := by
  unfold q_X3_has
  rw [blk_hi hb, blk_lo hb]
  refine ⟨vp_in_nI (by omega) (by decide), ?_⟩
  rw [nI_clamp (by omega)]
  obtain ⟨v, hv, e, ht⟩ := hr (b / 16) (by omega)
  rw [e, bit_at hv (by omega), ht (b % 16) (by omega), show 16 * (b / 16) + b % 16 = b by omega]
  cases hab : al b with
  | false => rw [hab] at k; exact b0 k
  | true => rw [hab] at k; exact b1 k
theorem ones32 : (-1 : Int32) = nI (2 ^ 32 - 1) := by decide
theorem pow2_lt16 {j : Nat} (hj : j < 16) : 2 ^ j < 65536 := Nat.pow_lt_pow_right (by decide) hj
theorem s_put {al : Nat → Bool} {f : Nat → Int32} (hr : RuleOk al f) {b : Nat} (hb : b < 256) {is : Bool} {x : Int32} (hx : x = 0 ↔ is = false) {post : (Nat → Int32) → Prop} (k : ∀ f', RuleOk (setB al b is) f' → post f') : q_X3_put f (nI b) x post := by
  unfold q_X3_put
  rw [blk_hi hb, blk_lo hb, nI_clamp (by omega)]
  obtain ⟨v, hv, e, ht⟩ := hr (b / 16) (by omega)
  have hj : b % 16 < 16 := Nat.mod_lt _ (by decide)
  have hp := pow2_lt16 hj
  have e1 : (1 : Int32) <<< (nI (b % 16) &&& 31) = nI (2 ^ (b % 16)) := by
    have := shlN (v := 1) (j := b % 16) (by omega) (by omega)
    rw [Nat.one_mul] at this; exact this
  have hin : vp_in (nI (b / 16)) 16 := vp_in_nI (by omega) (by decide)
  have keep : ∀ (w : Nat), w < 65536 → (∀ j, j < 16 → w.testBit j = setB al b is (16 * (b / 16) + j)) → RuleOk (setB al b is) (upd f (b / 16) (nI w)) := by
    intro w hw hwt i hi
    by_cases hi2 : i = b / 16
    · subst hi2
      exact ⟨w, hw, upd_s _ _ _, hwt⟩
    · obtain ⟨v', hv', e', ht'⟩ := hr i hi
      refine ⟨v', hv', by rw [upd_n _ hi2]; exact e', fun j hj2 => ?_⟩
      rw [ht' j hj2]
      unfold setB
      rw [if_neg (by omega)]
  rw [e, e1]
  refine ⟨fun h0 => ⟨hin, hin, k _ ?_⟩, fun h0 => ⟨hin, hin, k _ ?_⟩⟩
  · have hf := hx.mp h0
    rw [ones32, fb_xorI, fa_and]
    refine keep _ (Nat.lt_of_le_of_lt Nat.and_le_left hv) (fun j hj2 => ?_)
    rw [Nat.testBit_and, Nat.testBit_xor, Nat.testBit_two_pow, Nat.testBit_two_pow_sub_one, ht j hj2]
    unfold setB
    by_cases hjb : b % 16 = j
    · rw [if_pos (by omega), hf]; simp [hjb]; omega
    · rw [if_neg (by omega)]; simp [hjb]; omega
  · have hf : is = true := by cases is with
      | false => exact absurd (hx.mpr rfl) h0
      | true => rfl
    rw [fa_or]
    refine keep _ (Nat.or_lt_two_pow (n := 16) hv hp) (fun j hj2 => ?_)
    rw [Nat.testBit_or, Nat.testBit_two_pow, ht j hj2]
    unfold setB
    by_cases hjb : b % 16 = j
    · rw [if_pos (by omega), hf]; simp [hjb]
    · rw [if_neg (by omega)]; simp [hjb]
/-- how many blocks are allowed -/
theorem ct16 (al : Nat → Bool) : ∀ n, fb_sm (fun i => fb_ct (fun j => al (16 * i + j)) 16) n = fb_ct al (16 * n)
  | 0 => rfl
  | n + 1 => by rw [fb_sm_succ, ct16 al n, show 16 * (n + 1) = 16 * n + 16 by omega, fb_ct_split]
theorem pc16 {v : Nat} (hv : v < 65536) : pc v = fb_ct (fun j => v.testBit j) 16 := by
  unfold pc
  rw [show (32 : Nat) = 16 + 16 from rfl, fb_ct_split]
  have hz : fb_ct (fun k => v.testBit (16 + k)) 16 = 0 := fb_ct_zero.mpr (fun k hk => Nat.testBit_lt_two_pow (Nat.lt_of_lt_of_le (show v < 2 ^ 16 from hv) (Nat.pow_le_pow_right (by decide) (by omega))))
  rw [hz, Nat.add_zero]
def sizeA (al : Nat → Bool) : Nat := fb_ct al 256
theorem l_sizeX {al : Nat → Bool} {f : Nat → Int32} (hr : RuleOk al f) {post : Int32 → Prop} (k : post (nI (sizeA al))) : ∀ (m i : Nat), i + m = 16 → r_X3_size_13 f post 16 (m + 1) (nI (fb_ct al (16 * i))) (nI i) := by
  intro m
  induction m with
  | zero =>
    intro i hi
    unfold r_X3_size_13
    obtain rfl : i = 16 := by omega
    exact pk_le 16 16 (fun _ => k) (fun h => absurd h (by omega)) rfl rfl (by omega) (by omega)
  | succ m ih =>
    intro i hi
    unfold r_X3_size_13
    refine pk_le 16 i (fun h => absurd h (by omega)) (fun h => ⟨vp_in_nI (by omega) (by decide), ?_⟩) rfl rfl (by omega) (by omega)
    obtain ⟨v, hv, e, ht⟩ := hr i (by omega)
    rw [nI_clamp (by omega), e]
    refine s_bitCount (by omega) ?_
    rw [nI_1, nI_add, pc16 hv]
    have hI := ih (i + 1) (by omega)
    rw [show 16 * (i + 1) = 16 * i + 16 by omega, fb_ct_split] at hI
    rw [fb_ct_cong (p := fun j => v.testBit j) (q := fun j => al (16 * i + j)) (fun j hj => ht j hj)]
    exact hI
theorem s_sizeX {al : Nat → Bool} {f : Nat → Int32} (hr : RuleOk al f) {post : Int32 → Prop} (k : post (nI (sizeA al))) : q_X3_size f post := by
  unfold q_X3_size
  exact ⟨17, l_sizeX hr k 16 0 (by omega)⟩
theorem sizeA_le (al : Nat → Bool) : sizeA al ≤ 256 := fb_ct_le al 256
theorem s_clearX {f : Nat → Int32} {post : (Nat → Int32) → Prop} (k : ∀ f', RuleOk (fun _ => false) f' → post f') : q_X3_clear f post := by
  unfold q_X3_clear
  refine s_fill (by decide) (fun f' h => k f' (fun i hi => ⟨0, by decide, h i hi, fun j _ => Nat.zero_testBit j⟩))
