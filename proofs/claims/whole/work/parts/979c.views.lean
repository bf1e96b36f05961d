/-! views: looks counted -/
def NV (R G : Nat) (F : Nat → Nat → Bool) (B : Nat → Bool) (lk : Nat → Nat) : Nat → (Nat → Bool) → Nat
  | 0, S => fb_sm (fun l => wt (anyB R (fun r => S r && B r && decide (lk r = l)))) G
  | k + 1, S => fb_sm (fun l => NV R G F B lk k (aft R F (fun r => S r && decide (lk r = l)))) G
theorem NV_s (R G : Nat) (F : Nat → Nat → Bool) (B : Nat → Bool) (lk : Nat → Nat) (k : Nat) (S : Nat → Bool) : NV R G F B lk (k + 1) S = fb_sm (fun l => NV R G F B lk k (aft R F (fun r => S r && decide (lk r = l)))) G := rfl
theorem NV_0 (R G : Nat) (F : Nat → Nat → Bool) (B : Nat → Bool) (lk : Nat → Nat) (S : Nat → Bool) : NV R G F B lk 0 S = fb_sm (fun l => wt (anyB R (fun r => S r && B r && decide (lk r = l)))) G := rfl
theorem anyB_congr {R : Nat} {S S' : Nat → Bool} (h : ∀ r, r < R → S r = S' r) : anyB R S = anyB R S' := by
  apply bool_iff
  rw [anyB_iff, anyB_iff]
  constructor
  · rintro ⟨a, h1, h2⟩; exact ⟨a, h1, by rw [← h a h1]; exact h2⟩
  · rintro ⟨a, h1, h2⟩; exact ⟨a, h1, by rw [h a h1]; exact h2⟩
theorem aft_congr {R : Nat} {F : Nat → Nat → Bool} {S S' : Nat → Bool} (h : ∀ r, r < R → S r = S' r) (b : Nat) : aft R F S b = aft R F S' b := by
  apply bool_iff
  rw [aft_iff, aft_iff]
  constructor
  · rintro ⟨a, h1, h2, h3⟩; exact ⟨a, h1, by rw [← h a h1]; exact h2, h3⟩
  · rintro ⟨a, h1, h2, h3⟩; exact ⟨a, h1, by rw [h a h1]; exact h2, h3⟩
theorem NV_congr {R G : Nat} {F : Nat → Nat → Bool} {B : Nat → Bool} {lk lk' : Nat → Nat} (hl : ∀ r, r < R → lk r = lk' r) : ∀ (k : Nat) {S S' : Nat → Bool}, (∀ r, r < R → S r = S' r) → NV R G F B lk k S = NV R G F B lk' k S'
  | 0, S, S', h => by
    rw [NV_0, NV_0]
    exact fb_sm_cong (fun l _ => congrArg wt (anyB_congr (fun r hr => by rw [h r hr, hl r hr])))
  | k + 1, S, S', h => by
    rw [NV_s, NV_s]
    exact fb_sm_cong (fun l _ => NV_congr hl k (fun b _ => aft_congr (fun r hr => by rw [h r hr, hl r hr]) b))
theorem NV_empty {R G : Nat} {F : Nat → Nat → Bool} {B : Nat → Bool} {lk : Nat → Nat} : ∀ (k : Nat) {S : Nat → Bool}, (∀ r, r < R → S r = false) → NV R G F B lk k S = 0
  | 0, S, h => by
    rw [NV_0, fb_sm_cong (g := fun _ => 0) (fun l _ => ?_), fb_sm_const, Nat.mul_zero]
    rw [anyB_f (fun r hr => by rw [h r hr]; rfl)]; rfl
  | k + 1, S, h => by
    rw [NV_s, fb_sm_cong (g := fun _ => 0) (fun l _ => ?_), fb_sm_const, Nat.mul_zero]
    refine NV_empty k (fun b _ => ?_)
    apply Bool.eq_false_iff.mpr
    intro z
    obtain ⟨a, h1, h2, _⟩ := aft_iff.mp z
    rw [h a h1, Bool.false_and] at h2
    exact absurd h2 (by decide)
/-- other names for the looks -/
theorem sm_perm {G : Nat} {p : Nat → Nat} (hp : ∀ i, i < G → p i < G) (hi : ∀ i j, i < G → j < G → p i = p j → i = j) (f : Nat → Nat) : fb_sm (fun l => f (p l)) G = fb_sm f G := by
  have e1 : fb_sm f G = fb_sm (fun m => fb_sm (fun l => if p l = m then f m else 0) G) G := fb_sm_cong (fun m hm => by
    obtain ⟨l, hl, el⟩ := fb_onto hp (fun i j hij hj e => absurd (hi i j (by omega) hj e) (by omega)) hm
    have e := sm_one (f := fun l => if p l = m then f m else 0) hl (fun r hr hne => by
      show (if p r = m then f m else 0) = 0
      rw [if_neg (fun z => hne (hi r l hr hl (z.trans el.symm)))])
    rw [e]
    show f m = if p l = m then f m else 0
    rw [if_pos el])
  rw [e1, sm_swap]
  refine fb_sm_cong (fun l hl => ?_)
  have e := sm_one (f := fun m => if p l = m then f m else 0) (hp l hl) (fun m _ hne => by
    show (if p l = m then f m else 0) = 0
    rw [if_neg (Ne.symm hne)])
  rw [e]
  show f (p l) = if p l = p l then f (p l) else 0
  rw [if_pos rfl]
theorem NV_perm {R G : Nat} {F : Nat → Nat → Bool} {B : Nat → Bool} {lk p : Nat → Nat} (hlk : ∀ r, r < R → lk r < G) (hp : ∀ i, i < G → p i < G) (hi : ∀ i j, i < G → j < G → p i = p j → i = j) : ∀ (k : Nat) (S : Nat → Bool), NV R G F B (fun r => p (lk r)) k S = NV R G F B lk k S
  | 0, S => by
    rw [NV_0, NV_0, ← sm_perm hp hi]
    refine fb_sm_cong (fun l hl => congrArg wt (anyB_congr (fun r hr => ?_)))
    rw [show decide (p (lk r) = p l) = decide (lk r = l) from decide_eq_decide.mpr ⟨fun z => hi _ _ (hlk r hr) hl z, fun z => by rw [z]⟩]
  | k + 1, S => by
    rw [NV_s, NV_s, ← sm_perm hp hi]
    refine fb_sm_cong (fun l hl => ?_)
    rw [NV_perm hlk hp hi k]
    refine NV_congr (fun _ _ => rfl) k (fun b _ => aft_congr (fun r hr => ?_) b)
    rw [show decide (p (lk r) = p l) = decide (lk r = l) from decide_eq_decide.mpr ⟨fun z => hi _ _ (hlk r hr) hl z, fun z => by rw [z]⟩]
/-- rows from which a picture can be ended -/
def avS (R : Nat) (F : Nat → Nat → Bool) (B : Nat → Bool) (h k r : Nat) : Bool := decide (Wy R F B okAll h k r ≠ 0)
theorem av_0 {R : Nat} {F : Nat → Nat → Bool} {B : Nat → Bool} {h r : Nat} : avS R F B h 0 r = B r := by
  unfold avS Wy
  show decide ((if (true && B r) = true then 1 else 0) ≠ 0) = B r
  cases B r <;> rfl
theorem av_up {R : Nat} {F : Nat → Nat → Bool} {B : Nat → Bool} {h k a b : Nat} (hb : b < R) (hf : F a b = true) (h2 : avS R F B h k b = true) : avS R F B h (k + 1) a = true := by
  unfold avS at *
  rw [decide_eq_true_iff] at *
  rw [Wy_s]
  show (if true = true then fb_sm (fun b => if F a b then Wy R F B okAll h k b else 0) R else 0) ≠ 0
  rw [if_pos rfl]
  have := sm_ge (f := fun b => if F a b then Wy R F B okAll h k b else 0) hb (by show 0 < if F a b then Wy R F B okAll h k b else 0; rw [hf, if_pos rfl]; omega)
  omega
theorem NV_av {R G : Nat} {F : Nat → Nat → Bool} {B : Nat → Bool} {lk : Nat → Nat} {h : Nat} : ∀ (k : Nat) (S : Nat → Bool), NV R G F B lk k (fun r => S r && avS R F B h k r) = NV R G F B lk k S
  | 0, S => by
    rw [NV_0, NV_0]
    refine fb_sm_cong (fun l _ => congrArg wt (anyB_congr (fun r _ => ?_)))
    rw [av_0]
    cases S r <;> cases B r <;> rfl
  | k + 1, S => by
    rw [NV_s, NV_s]
    refine fb_sm_cong (fun l _ => ?_)
    rw [← NV_av (h := h) k (aft R F (fun r => S r && avS R F B h (k + 1) r && decide (lk r = l))), ← NV_av (h := h) k (aft R F (fun r => S r && decide (lk r = l)))]
    refine NV_congr (fun _ _ => rfl) k (fun b hb => ?_)
    cases hav : avS R F B h k b with
    | false => rw [Bool.and_false, Bool.and_false]
    | true =>
      rw [Bool.and_true, Bool.and_true]
      apply bool_iff
      rw [aft_iff, aft_iff]
      constructor
      · rintro ⟨a, h1, h2, h3⟩
        rw [Bool.and_eq_true, Bool.and_eq_true] at h2
        exact ⟨a, h1, by rw [h2.1.1, h2.2]; rfl, h3⟩
      · rintro ⟨a, h1, h2, h3⟩
        rw [Bool.and_eq_true] at h2
        exact ⟨a, h1, by rw [h2.1, h2.2, av_up hb h3 hav]; rfl, h3⟩
/-- the class's names of looks: bits the other way round -/
def rvB (m : Nat) : Nat → Nat
  | 0 => 0
  | i + 1 => rvB m i * 2 + wt (m.testBit i)
theorem rvB_lt (m : Nat) : ∀ i, rvB m i < 2 ^ i
  | 0 => (show 0 < 2 ^ 0 by decide)
  | i + 1 => by
    have := rvB_lt m i
    have h1 : wt (m.testBit i) ≤ 1 := by cases m.testBit i <;> decide
    show rvB m i * 2 + wt (m.testBit i) < 2 ^ (i + 1)
    rw [Nat.pow_succ]; omega
theorem rvB_bits {m m' : Nat} : ∀ i, rvB m i = rvB m' i → ∀ j, j < i → m.testBit j = m'.testBit j
  | 0, _, j, hj => absurd hj (by omega)
  | i + 1, h, j, hj => by
    have h' : rvB m i * 2 + wt (m.testBit i) = rvB m' i * 2 + wt (m'.testBit i) := h
    have b1 : wt (m.testBit i) ≤ 1 := by cases m.testBit i <;> decide
    have b2 : wt (m'.testBit i) ≤ 1 := by cases m'.testBit i <;> decide
    by_cases e : j = i
    · rw [e]
      have e3 : wt (m.testBit i) = wt (m'.testBit i) := by omega
      cases h1 : m.testBit i <;> cases h2 : m'.testBit i <;> rw [h1, h2] at e3 <;> first | rfl | exact absurd e3 (by decide)
    · exact rvB_bits i (by omega) j (by omega)
theorem rvB_inj {w i j : Nat} (hi : i < 2 ^ w) (hj : j < 2 ^ w) (e : rvB i w = rvB j w) : i = j := bits_eq hi hj (rvB_bits w e)
theorem lkR_lt (lb : Nat → Bool) (c w a : Nat) : lkR lb c w a < 2 ^ w := bitsOf_lt _ w
def viewsA (al lb : Nat → Bool) (c h w : Nat) : Nat := NV (c ^ w) (2 ^ w) (Fi al c w) (Bt al c w) (lkR lb c w) (h - 1) (Tp al c w)
theorem views_x (al lb : Nat → Bool) (c h w : Nat) : NV (c ^ w) (2 ^ w) (Fi al c w) (Bt al c w) (fun r => rvB (lkR lb c w r) w) (h - 1) (Tp al c w) = viewsA al lb c h w := NV_perm (p := fun m => rvB m w) (fun r _ => lkR_lt lb c w r) (fun i _ => rvB_lt i w) (fun i j hi hj e => rvB_inj hi hj e) (h - 1) (Tp al c w)
/-- the reference's looks -/
def Dv (R W : Nat) (F : Nat → Nat → Bool) (T : Nat → Bool) (lk : Nat → Nat) : Nat → Nat → Nat → Bool
  | 0, _ => T
  | y + 1, m => aft R F (fun a => Dv R W F T lk y (m % W ^ y) a && decide (lk a = m / W ^ y))
def Sn (R W : Nat) (F : Nat → Nat → Bool) (T : Nat → Bool) (lk : Nat → Nat) (y m r : Nat) : Bool := Dv R W F T lk y (m % W ^ y) r && decide (lk r = m / W ^ y)
theorem Dv_s (R W : Nat) (F : Nat → Nat → Bool) (T : Nat → Bool) (lk : Nat → Nat) (y m : Nat) : Dv R W F T lk (y + 1) m = aft R F (fun a => Sn R W F T lk y m a) := rfl
theorem dm {b l t : Nat} (ht : t < b) : (l * b + t) % b = t ∧ (l * b + t) / b = l := by
  have hb : 0 < b := by omega
  rw [Nat.mul_comm]
  exact ⟨by rw [Nat.mul_add_mod, Nat.mod_eq_of_lt ht], by rw [Nat.mul_add_div hb, Nat.div_eq_of_lt ht, Nat.add_zero]⟩
theorem Sn_at {R W : Nat} {F : Nat → Nat → Bool} {T : Nat → Bool} {lk : Nat → Nat} {y l t r : Nat} (ht : t < W ^ y) : Sn R W F T lk y (l * W ^ y + t) r = (Dv R W F T lk y t r && decide (lk r = l)) := by
  unfold Sn
  rw [(dm ht).1, (dm ht).2]
theorem Dv_sum {R W : Nat} {F : Nat → Nat → Bool} {T B : Nat → Bool} {lk : Nat → Nat} (n : Nat) : ∀ (y k : Nat), y + k = n → fb_sm (fun m => NV R W F B lk k (Dv R W F T lk y m)) (W ^ y) = NV R W F B lk n T
  | 0, k, h => by
    rw [show k = n by omega]
    show 0 + NV R W F B lk n T = _
    rw [Nat.zero_add]
  | y + 1, k, h => by
    rw [← Dv_sum n y (k + 1) (by omega), Nat.pow_succ, Nat.mul_comm, sm_mul, sm_swap]
    refine fb_sm_cong (fun t ht => ?_)
    rw [NV_s]
    refine fb_sm_cong (fun l _ => ?_)
    refine NV_congr (fun _ _ => rfl) k (fun b _ => ?_)
    rw [Dv_s]
    exact aft_congr (fun r _ => Sn_at ht) b
theorem views_m {al lb : Nat → Bool} {c h w : Nat} (hh1 : 1 ≤ h) : fb_sm (fun m => wt (anyB (c ^ w) (fun r => Bt al c w r && Sn (c ^ w) (2 ^ w) (Fi al c w) (Tp al c w) (lkR lb c w) (h - 1) m r))) (2 ^ (h * w)) = viewsA al lb c h w := by
  have e1 : 2 ^ (h * w) = 2 ^ w * (2 ^ w) ^ (h - 1) := by
    rw [Nat.mul_comm (2 ^ w), ← Nat.pow_succ, show (h - 1).succ = h by omega, ← Nat.pow_mul, Nat.mul_comm w h]
  rw [e1, sm_mul, sm_swap]
  unfold viewsA
  rw [← Dv_sum (h - 1) (h - 1) 0 (by omega)]
  refine fb_sm_cong (fun t ht => ?_)
  rw [NV_0]
  refine fb_sm_cong (fun l _ => congrArg wt (anyB_congr (fun r _ => ?_)))
  rw [Sn_at ht]
  cases Bt al c w r <;> cases Dv (c ^ w) (2 ^ w) (Fi al c w) (Tp al c w) (lkR lb c w) (h - 1) t r <;> rfl
