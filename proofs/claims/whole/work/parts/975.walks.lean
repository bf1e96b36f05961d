/-! tall: walks counted by powers of a table -/
def wt (b : Bool) : Nat := if b then 1 else 0
def sL (L : Nat → Bool) (R : Nat) (f : Nat → Nat) : Nat := fb_sm (fun r => if L r then f r else 0) R
theorem sL_cong {L : Nat → Bool} {R : Nat} {f g : Nat → Nat} (h : ∀ r, r < R → L r = true → f r = g r) : sL L R f = sL L R g := by
  unfold sL
  refine fb_sm_cong (fun r hr => ?_)
  cases hl : L r with
  | false => rfl
  | true => rw [if_pos rfl, if_pos rfl]; exact h r hr hl
theorem sm_mulc (x : Nat) (f : Nat → Nat) : ∀ n, fb_sm (fun r => x * f r) n = x * fb_sm f n
  | 0 => rfl
  | n + 1 => by rw [fb_sm_succ, fb_sm_succ, sm_mulc x f n, Nat.mul_add]
theorem sL_mul (L : Nat → Bool) (R x : Nat) (f : Nat → Nat) : sL L R (fun r => x * f r) = x * sL L R f := by
  unfold sL
  rw [← sm_mulc]
  refine fb_sm_cong (fun r _ => ?_)
  cases L r <;> simp
theorem sL_mulr (L : Nat → Bool) (R x : Nat) (f : Nat → Nat) : sL L R (fun r => f r * x) = sL L R f * x := by
  rw [Nat.mul_comm, ← sL_mul]
  exact sL_cong (fun r _ _ => Nat.mul_comm _ _)
theorem sm_swap (f : Nat → Nat → Nat) (m : Nat) : ∀ n, fb_sm (fun a => fb_sm (fun b => f a b) m) n = fb_sm (fun b => fb_sm (fun a => f a b) n) m
  | 0 => by
    show 0 = fb_sm (fun _ => 0) m
    rw [fb_sm_const, Nat.mul_zero]
  | n + 1 => by
    rw [fb_sm_succ, sm_swap f m n, ← fb_sm_add]
    rfl
theorem sm_if (b : Bool) (f : Nat → Nat) (n : Nat) : fb_sm (fun r => if b then f r else 0) n = if b then fb_sm f n else 0 := by
  cases b with
  | true => rfl
  | false => show fb_sm (fun _ => 0) n = 0; rw [fb_sm_const, Nat.mul_zero]
theorem sL_swap (L L' : Nat → Bool) (R R' : Nat) (f : Nat → Nat → Nat) : sL L R (fun a => sL L' R' (fun b => f a b)) = sL L' R' (fun b => sL L R (fun a => f a b)) := by
  unfold sL
  have e1 : fb_sm (fun r => if L r then fb_sm (fun s => if L' s then f r s else 0) R' else 0) R = fb_sm (fun r => fb_sm (fun s => if L r then (if L' s then f r s else 0) else 0) R') R := fb_sm_cong (fun r _ => (sm_if (L r) _ R').symm)
  have e2 : fb_sm (fun s => if L' s then fb_sm (fun r => if L r then f r s else 0) R else 0) R' = fb_sm (fun s => fb_sm (fun r => if L' s then (if L r then f r s else 0) else 0) R) R' := fb_sm_cong (fun s _ => (sm_if (L' s) _ R).symm)
  rw [e1, e2, sm_swap]
  refine fb_sm_cong (fun s _ => fb_sm_cong (fun r _ => ?_))
  cases L r <;> cases L' s <;> rfl
theorem sm_one {f : Nat → Nat} {b : Nat} : ∀ {n : Nat}, b < n → (∀ r, r < n → r ≠ b → f r = 0) → fb_sm f n = f b
  | 0, h, _ => absurd h (by omega)
  | n + 1, h, hz => by
    rw [fb_sm_succ]
    by_cases e : b = n
    · have : fb_sm f n = 0 := by
        rw [fb_sm_cong (g := fun _ => 0) (fun r hr => hz r (by omega) (by omega)), fb_sm_const, Nat.mul_zero]
      rw [this, e, Nat.zero_add]
    · rw [sm_one (by omega) (fun r hr hne => hz r (by omega) hne), hz n (by omega) (by omega), Nat.add_zero]
theorem sL_one {L : Nat → Bool} {R b : Nat} {f : Nat → Nat} (hb : b < R) (hL : L b = true) : sL L R (fun r => f r * (if r = b then 1 else 0)) = f b := by
  unfold sL
  rw [sm_one hb (fun r _ hne => ?_)]
  · rw [hL, if_pos rfl]
    show f b * (if b = b then 1 else 0) = f b
    rw [if_pos rfl, Nat.mul_one]
  · show (if L r then f r * (if r = b then 1 else 0) else 0) = 0
    rw [if_neg hne, Nat.mul_zero]; split <;> rfl
def mpw (L : Nat → Bool) (R : Nat) (F : Nat → Nat → Bool) : Nat → Nat → Nat → Nat
  | 0, a, b => if a = b then 1 else 0
  | k + 1, a, b => sL L R (fun r => mpw L R F k a r * wt (F r b))
theorem mpw_s (L : Nat → Bool) (R : Nat) (F : Nat → Nat → Bool) (k a b : Nat) : mpw L R F (k + 1) a b = sL L R (fun r => mpw L R F k a r * wt (F r b)) := rfl
theorem mpw_add {L : Nat → Bool} {R : Nat} {F : Nat → Nat → Bool} (i a : Nat) : ∀ (j b : Nat), b < R → L b = true → mpw L R F (i + j) a b = sL L R (fun r => mpw L R F i a r * mpw L R F j r b)
  | 0, b, hb, hL => by
    rw [Nat.add_zero]
    exact (sL_one (f := fun r => mpw L R F i a r) hb hL).symm
  | j + 1, b, hb, hL => by
    rw [← Nat.add_assoc, mpw_s]
    have e1 : sL L R (fun s => mpw L R F (i + j) a s * wt (F s b)) = sL L R (fun s => sL L R (fun r => mpw L R F i a r * (mpw L R F j r s * wt (F s b)))) := sL_cong (fun s hs hls => by
      rw [mpw_add i a j s hs hls, ← sL_mulr]
      exact sL_cong (fun r _ _ => Nat.mul_assoc _ _ _))
    rw [e1, sL_swap]
    refine sL_cong (fun r _ _ => ?_)
    rw [sL_mul, mpw_s]
theorem mpw_1 {L : Nat → Bool} {R : Nat} {F : Nat → Nat → Bool} {a b : Nat} (ha : a < R) (hL : L a = true) : mpw L R F 1 a b = wt (F a b) := by
  rw [mpw_s]
  unfold sL
  rw [sm_one ha (fun r _ hne => ?_)]
  · rw [hL, if_pos rfl]
    show (if a = a then 1 else 0) * wt (F a b) = _
    rw [if_pos rfl, Nat.one_mul]
  · show (if L r then (if a = r then 1 else 0) * wt (F r b) else 0) = 0
    rw [if_neg (Ne.symm hne), Nat.zero_mul]; split <;> rfl
def vpw (L : Nat → Bool) (R : Nat) (F : Nat → Nat → Bool) (T : Nat → Bool) (k b : Nat) : Nat := sL L R (fun a => wt (T a) * mpw L R F k a b)
theorem vpw_add {L : Nat → Bool} {R : Nat} {F : Nat → Nat → Bool} {T : Nat → Bool} (i j : Nat) {b : Nat} (hb : b < R) (hL : L b = true) : vpw L R F T (i + j) b = sL L R (fun r => vpw L R F T i r * mpw L R F j r b) := by
  unfold vpw
  have e1 : sL L R (fun a => wt (T a) * mpw L R F (i + j) a b) = sL L R (fun a => sL L R (fun r => wt (T a) * mpw L R F i a r * mpw L R F j r b)) := sL_cong (fun a _ _ => by
    rw [mpw_add i a j b hb hL, ← sL_mul]
    exact sL_cong (fun r _ _ => (Nat.mul_assoc _ _ _).symm))
  rw [e1, sL_swap]
  exact sL_cong (fun r _ _ => sL_mulr L R _ _)
theorem vpw_0 {L : Nat → Bool} {R : Nat} {F : Nat → Nat → Bool} {T : Nat → Bool} {b : Nat} (hb : b < R) (hL : L b = true) : vpw L R F T 0 b = wt (T b) := sL_one (f := fun a => wt (T a)) hb hL
theorem vpw_s {L : Nat → Bool} {R : Nat} {F : Nat → Nat → Bool} {T : Nat → Bool} (k b : Nat) : vpw L R F T (k + 1) b = sL L R (fun r => vpw L R F T k r * wt (F r b)) := by
  unfold vpw
  have e1 : sL L R (fun a => wt (T a) * mpw L R F (k + 1) a b) = sL L R (fun a => sL L R (fun r => wt (T a) * mpw L R F k a r * wt (F r b))) := sL_cong (fun a _ _ => by
    rw [mpw_s, ← sL_mul]
    exact sL_cong (fun r _ _ => (Nat.mul_assoc _ _ _).symm))
  rw [e1, sL_swap]
  exact sL_cong (fun r _ _ => sL_mulr L R _ _)
def totV (L : Nat → Bool) (R : Nat) (F : Nat → Nat → Bool) (T B : Nat → Bool) (k : Nat) : Nat := sL L R (fun b => vpw L R F T k b * wt (B b))
def allB : Nat → Bool := fun _ => true
theorem sL_all (R : Nat) (f : Nat → Nat) : sL allB R f = fb_sm f R := rfl
theorem wt_f : wt false = 0 := rfl
theorem wt_t : wt true = 1 := rfl
theorem walks_live {R : Nat} {F : Nat → Nat → Bool} {T B : Nat → Bool} : ∀ (k b : Nat), b < R → upS R F B b = true → (dnS R F T b = true → vpw allB R F T k b = vpw (lvS R F T B) R F T k b) ∧ (dnS R F T b = false → vpw allB R F T k b = 0)
  | 0, b, hb, hu => by
    have hD := itr_Lst R F T
    refine ⟨fun hd => ?_, fun hd => ?_⟩
    · rw [vpw_0 hb rfl, vpw_0 hb (by unfold lvS; rw [hd, hu]; rfl)]
    · rw [vpw_0 hb rfl]
      cases ht : T b with
      | false => rfl
      | true =>
        have : dnS R F T b = true := hD.1 b hb ht
        rw [this] at hd; exact absurd hd (by decide)
  | k + 1, b, hb, hu => by
    have hD := itr_Lst R F T
    have hU := itr_Lst R (flp F) B
    have up : ∀ r, r < R → F r b = true → upS R F B r = true := fun r hr hf => hU.2.1 b r hb hr hu hf
    have term : ∀ r, r < R → vpw allB R F T k r * wt (F r b) = if lvS R F T B r then vpw (lvS R F T B) R F T k r * wt (F r b) else 0 := by
      intro r hr
      cases hf : F r b with
      | false => rw [wt_f, Nat.mul_zero, Nat.mul_zero]; split <;> rfl
      | true =>
        have ih := walks_live (T := T) k r hr (up r hr hf)
        cases hd : dnS R F T r with
        | true =>
          have hl : lvS R F T B r = true := by unfold lvS; rw [hd, up r hr hf]; rfl
          rw [hl, if_pos rfl, ih.1 hd]
        | false =>
          have hl : lvS R F T B r = false := by unfold lvS; rw [hd]; rfl
          rw [hl, ih.2 hd, Nat.zero_mul]; rfl
    refine ⟨fun _ => ?_, fun hd => ?_⟩
    · rw [vpw_s, vpw_s, sL_all]
      exact fb_sm_cong term
    · rw [vpw_s, sL_all, fb_sm_cong (g := fun _ => 0) (fun r hr => ?_), fb_sm_const, Nat.mul_zero]
      cases hf : F r b with
      | false => rw [wt_f, Nat.mul_zero]
      | true =>
        cases hr2 : dnS R F T r with
        | true =>
          have : dnS R F T b = true := hD.2.1 r b hr hb hr2 hf
          rw [this] at hd; exact absurd hd (by decide)
        | false => rw [(walks_live k r hr (up r hr hf)).2 hr2, Nat.zero_mul]
theorem tot_live (R : Nat) (F : Nat → Nat → Bool) (T B : Nat → Bool) (k : Nat) : totV (lvS R F T B) R F T B k = totV allB R F T B k := by
  have hU := itr_Lst R (flp F) B
  unfold totV
  rw [sL_all]
  unfold sL
  refine fb_sm_cong (fun b hb => ?_)
  show (if lvS R F T B b then vpw (lvS R F T B) R F T k b * wt (B b) else 0) = vpw allB R F T k b * wt (B b)
  cases hB : B b with
  | false => rw [wt_f, Nat.mul_zero, Nat.mul_zero]; split <;> rfl
  | true =>
    have hu : upS R F B b = true := hU.1 b hb hB
    have w := walks_live (T := T) k b hb hu
    cases hd : dnS R F T b with
    | true =>
      have hl : lvS R F T B b = true := by unfold lvS; rw [hd, hu]; rfl
      rw [hl, if_pos rfl, w.1 hd]
    | false =>
      have hl : lvS R F T B b = false := by unfold lvS; rw [hd]; rfl
      rw [hl, w.2 hd, Nat.zero_mul]; rfl
def tallA (al : Nat → Bool) (c w h : Nat) : Int32 := nI (totV allB (c ^ w) (Fi al c w) (Tp al c w) (Bt al c w) (h - 1) % 1000000007)
/-- sums of remainders -/
theorem remP {s x y : Nat} : (lN (s % 1000000007) + lN (x % 1000000007) * lN (y % 1000000007)) - ((lN (s % 1000000007) + lN (x % 1000000007) * lN (y % 1000000007)) / (1000000007 : Int64)) * (1000000007 : Int64) = lN ((s + x * y) % 1000000007) := by
  have h1 : s % 1000000007 < 1000000007 := Nat.mod_lt _ (by decide)
  have h2 : x % 1000000007 < 1000000007 := Nat.mod_lt _ (by decide)
  have h3 : y % 1000000007 < 1000000007 := Nat.mod_lt _ (by decide)
  have h4 : (x % 1000000007) * (y % 1000000007) ≤ 1000000007 * 1000000007 := Nat.mul_le_mul (by omega) (by omega)
  rw [lN_mul, lN_add', show (1000000007 : Int64) = lN 1000000007 from rfl, pk_lRem (by omega) (by decide) (by decide), Nat.add_mod s, Nat.mul_mod x, Nat.add_mod (s % 1000000007), Nat.mod_mod]
theorem sm_rem (f : Nat → Nat) : ∀ n, fb_sm (fun i => f i % 1000000007) n % 1000000007 = fb_sm f n % 1000000007
  | 0 => rfl
  | n + 1 => by rw [fb_sm_succ, fb_sm_succ, Nat.add_mod, sm_rem f n, Nat.mod_mod, ← Nat.add_mod]
theorem ix_lt {n i j : Nat} (hi : i < n) (hj : j < n) : i * n + j < n * n := by
  have : (i + 1) * n ≤ n * n := Nat.mul_le_mul_right n hi
  rw [Nat.succ_mul] at this
  omega
theorem ix_inj {n i j i' j' : Nat} (hj : j < n) (hj' : j' < n) (h : i * n + j = i' * n + j') : i = i' ∧ j = j' := by
  have e1 : (i * n + j) / n = i := by rw [Nat.mul_comm, Nat.mul_add_div (by omega), Nat.div_eq_of_lt hj, Nat.add_zero]
  have e2 : (i' * n + j') / n = i' := by rw [Nat.mul_comm, Nat.mul_add_div (by omega), Nat.div_eq_of_lt hj', Nat.add_zero]
  have e3 : i = i' := by rw [← e1, ← e2, h]
  subst e3
  exact ⟨rfl, by omega⟩
theorem nn27 {n : Nat} (h : n ≤ 27) : n * n ≤ 729 := Nat.le_trans (Nat.mul_le_mul h h) (by decide)
