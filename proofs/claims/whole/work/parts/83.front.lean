/-! the broken line: sums over a row below, cell by cell from the right -/
theorem sm_mul (f : Nat → Nat) (b : Nat) : ∀ a, fb_sm f (a * b) = fb_sm (fun i => fb_sm (fun t => f (i * b + t)) b) a
  | 0 => by rw [Nat.zero_mul]; rfl
  | a + 1 => by rw [Nat.succ_mul, fb_sm_split, sm_mul f b a, fb_sm_succ]
def okW (al : Nat → Bool) (c w u b j : Nat) : Bool := al (winB (rowP c w u) (rowP c w b) j)
/-- all windows from place x + 1 on -/
def okFrom (al : Nat → Bool) (c w x u b : Nat) : Bool := decide (∀ j, j < w + 1 → x < j → okW al c w u b j = true)
def Gc (al : Nat → Bool) (c w : Nat) (ws : Nat → Nat) (x idx : Nat) : Nat :=
  fb_sm (fun t => if okFrom al c w x (idx % c ^ (w - x)) (idx / c ^ (w - x) * c ^ (w - 1 - x) + t) then ws (idx / c ^ (w - x) * c ^ (w - 1 - x) + t) else 0) (c ^ (w - 1 - x))
/-- one step to the left: the lower cell x goes, the upper cell x - 1 comes -/
def mvG (al : Nat → Bool) (c w x : Nat) (G : Nat → Nat) (idx : Nat) : Nat :=
  fb_sm (fun j => if al (64 * (idx / c ^ (w - x) % c) + 16 * (idx % c ^ (w - x) / c ^ (w - x - 1)) + 4 * (idx / c ^ (w - x) / c % c) + j) then G (idx / c ^ (w - x) / c * (c ^ (w - x) * c) + j * c ^ (w - x) + idx % c ^ (w - x)) else 0) c
theorem dg_high {c w e i l y : Nat} (he : w - 1 - y < e) (hc : 1 ≤ c) : dg c w (i * c ^ e + l) y = dg c w l y := by
  unfold dg
  obtain ⟨d, hd⟩ : ∃ d, e = w - 1 - y + (d + 1) := ⟨e - (w - 1 - y) - 1, by omega⟩
  have hp : 0 < c ^ (w - 1 - y) := Nat.pow_pos hc
  rw [hd, Nat.pow_add, ← Nat.mul_assoc, Nat.mul_comm i, Nat.mul_assoc, Nat.mul_add_div hp, Nat.pow_succ, ← Nat.mul_assoc, Nat.mul_add_mod_self_right]
theorem rowP_high {c w e i l j : Nat} (hj : w - j < e) (hc : 1 ≤ c) : rowP c w (i * c ^ e + l) j = rowP c w l j := by
  unfold rowP
  by_cases q : 1 ≤ j ∧ j ≤ w
  · rw [if_pos q, if_pos q, dg_high (by omega) hc]
  · rw [if_neg q, if_neg q]
theorem okW_high {al : Nat → Bool} {c w e i l b j : Nat} (hj : w - j < e) (hc : 1 ≤ c) : okW al c w (i * c ^ e + l) b j = okW al c w l b j := by
  unfold okW winB
  rw [rowP_high hj hc, rowP_high (by omega) hc]
theorem okFrom_step {al : Nat → Bool} {c w x i l A j t : Nat} (hc : 1 ≤ c) (hx1 : 1 ≤ x) (hxw : x < w) (hi : i < c) (hl : l < c ^ (w - x)) (hj : j < c) (ht : t < c ^ (w - 1 - x)) :
    okFrom al c w (x - 1) (i * c ^ (w - x) + l) ((A * c + j) * c ^ (w - 1 - x) + t) = (al (64 * i + 16 * (l / c ^ (w - x - 1)) + 4 * (A % c) + j) && okFrom al c w x l ((A * c + j) * c ^ (w - 1 - x) + t)) := by
  have hp1 : 0 < c ^ (w - 1 - x) := Nat.pow_pos hc
  have hp : 0 < c ^ (w - x) := Nat.pow_pos hc
  have e0 : okW al c w (i * c ^ (w - x) + l) ((A * c + j) * c ^ (w - 1 - x) + t) x = al (64 * i + 16 * (l / c ^ (w - x - 1)) + 4 * (A % c) + j) := by
    have p1 : rowP c w (i * c ^ (w - x) + l) x = i := by
      unfold rowP dg
      rw [if_pos (by omega), show w - 1 - (x - 1) = w - x by omega, Nat.mul_comm i, Nat.mul_add_div hp, Nat.div_eq_of_lt hl, Nat.add_zero, Nat.mod_eq_of_lt hi]
    have p2 : rowP c w (i * c ^ (w - x) + l) (x + 1) = l / c ^ (w - x - 1) := by
      rw [rowP_high (by omega) hc]
      unfold rowP dg
      rw [if_pos (by omega), show w - 1 - (x + 1 - 1) = w - x - 1 by omega]
      have : l / c ^ (w - x - 1) < c := by
        rw [Nat.div_lt_iff_lt_mul (Nat.pow_pos hc), Nat.mul_comm, ← Nat.pow_succ, show (w - x - 1).succ = w - x by omega]
        exact hl
      exact Nat.mod_eq_of_lt this
    have p3 : rowP c w ((A * c + j) * c ^ (w - 1 - x) + t) (x + 1) = j := by
      unfold rowP dg
      rw [if_pos (by omega), show w - 1 - (x + 1 - 1) = w - 1 - x by omega, Nat.mul_comm (A * c + j), Nat.mul_add_div hp1, Nat.div_eq_of_lt ht, Nat.add_zero, Nat.mul_comm A, Nat.mul_add_mod, Nat.mod_eq_of_lt hj]
    have p4 : rowP c w ((A * c + j) * c ^ (w - 1 - x) + t) x = A % c := by
      unfold rowP dg
      rw [if_pos (by omega), show w - 1 - (x - 1) = (w - 1 - x) + 1 by omega, Nat.pow_succ, ← Nat.div_div_eq_div_mul, Nat.mul_comm (A * c + j), Nat.mul_add_div hp1, Nat.div_eq_of_lt ht, Nat.add_zero, Nat.mul_comm A, Nat.mul_add_div hc, Nat.div_eq_of_lt hj, Nat.add_zero]
    unfold okW winB
    rw [p1, p2, p3, p4]
  rw [← e0]
  unfold okFrom
  rw [← Bool.decide_eq_true (b := okW al c w (i * c ^ (w - x) + l) ((A * c + j) * c ^ (w - 1 - x) + t) x), ← Bool.decide_and]
  apply decide_eq_decide.mpr
  constructor
  · intro h
    refine ⟨h x (by omega) (by omega), fun j' h1 h2 => ?_⟩
    rw [← okW_high (i := i) (e := w - x) (by omega) hc]
    exact h j' h1 (by omega)
  · rintro ⟨h1, h2⟩ j' h3 h4
    by_cases e : j' = x
    · rw [e]; exact h1
    · rw [okW_high (by omega) hc]; exact h2 j' h3 (by omega)
theorem Gc_step {al : Nat → Bool} {c w : Nat} {ws : Nat → Nat} {x idx : Nat} (hc : 1 ≤ c) (hx1 : 1 ≤ x) (hxw : x < w) : mvG al c w x (Gc al c w ws x) idx = Gc al c w ws (x - 1) idx := by
  have hp : 0 < c ^ (w - x) := Nat.pow_pos hc
  have hl : idx % c ^ (w - x) < c ^ (w - x) := Nat.mod_lt _ hp
  have hi : idx / c ^ (w - x) % c < c := Nat.mod_lt _ hc
  have epow : c ^ (w - (x - 1)) = c ^ (w - x) * c := by rw [show w - (x - 1) = w - x + 1 by omega, Nat.pow_succ]
  have epow2 : c ^ (w - 1 - (x - 1)) = c * c ^ (w - 1 - x) := by rw [show w - 1 - (x - 1) = w - 1 - x + 1 by omega, Nat.pow_succ, Nat.mul_comm]
  have eq1 : idx / c ^ (w - (x - 1)) = idx / c ^ (w - x) / c := by rw [epow, Nat.div_div_eq_div_mul]
  have er1 : idx % c ^ (w - (x - 1)) = idx / c ^ (w - x) % c * c ^ (w - x) + idx % c ^ (w - x) := by
    rw [epow, Nat.mod_mul, Nat.add_comm, Nat.mul_comm]
  unfold mvG Gc
  rw [eq1, er1, epow2, sm_mul]
  generalize idx / c ^ (w - x) / c = A
  generalize idx / c ^ (w - x) % c = i at hi
  generalize idx % c ^ (w - x) = l at hl
  refine fb_sm_cong (fun j hj => ?_)
  have d1 : (A * (c ^ (w - x) * c) + j * c ^ (w - x) + l) / c ^ (w - x) = A * c + j := by
    rw [show A * (c ^ (w - x) * c) + j * c ^ (w - x) + l = c ^ (w - x) * (A * c + j) + l by rw [Nat.mul_add, Nat.mul_comm j, ← Nat.mul_assoc, Nat.mul_comm A, Nat.mul_assoc, Nat.mul_comm A c], Nat.mul_add_div hp, Nat.div_eq_of_lt hl, Nat.add_zero]
  have d2 : (A * (c ^ (w - x) * c) + j * c ^ (w - x) + l) % c ^ (w - x) = l := by
    rw [show A * (c ^ (w - x) * c) + j * c ^ (w - x) + l = c ^ (w - x) * (A * c + j) + l by rw [Nat.mul_add, Nat.mul_comm j, ← Nat.mul_assoc, Nat.mul_comm A, Nat.mul_assoc, Nat.mul_comm A c], Nat.mul_add_mod, Nat.mod_eq_of_lt hl]
  rw [d1, d2]
  have eb : ∀ t, A * (c * c ^ (w - 1 - x)) + (j * c ^ (w - 1 - x) + t) = (A * c + j) * c ^ (w - 1 - x) + t := fun t => by
    rw [Nat.add_mul, Nat.mul_assoc, Nat.add_assoc]
  cases hal : al (64 * i + 16 * (l / c ^ (w - x - 1)) + 4 * (A % c) + j) with
  | true =>
    rw [if_pos rfl]
    refine fb_sm_cong (fun t ht => ?_)
    rw [eb, okFrom_step hc hx1 hxw hi hl hj ht, hal, Bool.true_and]
  | false =>
    rw [if_neg (by decide)]
    have : ∀ t, t < c ^ (w - 1 - x) → (if okFrom al c w (x - 1) (i * c ^ (w - x) + l) (A * (c * c ^ (w - 1 - x)) + (j * c ^ (w - 1 - x) + t)) then ws (A * (c * c ^ (w - 1 - x)) + (j * c ^ (w - 1 - x) + t)) else 0) = 0 := by
      intro t ht
      rw [eb, okFrom_step hc hx1 hxw hi hl hj ht, hal, Bool.false_and, if_neg (by decide)]
    rw [fb_sm_cong (g := fun _ => 0) this, fb_sm_const, Nat.mul_zero]
/-- the first broken line -/
theorem Gc_first {al : Nat → Bool} {c w : Nat} {ws : Nat → Nat} {r a : Nat} (hc : 1 ≤ c) (hw : 1 ≤ w) (ha : a < c) : Gc al c w ws (w - 1) (r * c + a) = if al (64 * a + 16 * 3 + 4 * dg c w r (w - 1) + 3) then ws r else 0 := by
  unfold Gc
  rw [show w - (w - 1) = 1 by omega, show w - 1 - (w - 1) = 0 by omega, Nat.pow_one, Nat.pow_zero, Nat.mul_comm r c, Nat.mul_add_div hc, Nat.mul_add_mod, Nat.div_eq_of_lt ha, Nat.mod_eq_of_lt ha, Nat.add_zero, Nat.mul_one]
  show 0 + (if okFrom al c w (w - 1) a (r + 0) then ws (r + 0) else 0) = _
  rw [Nat.zero_add, Nat.add_zero]
  have e : okFrom al c w (w - 1) a r = al (64 * a + 16 * 3 + 4 * dg c w r (w - 1) + 3) := by
    have e0 : okW al c w a r w = al (64 * a + 16 * 3 + 4 * dg c w r (w - 1) + 3) := by
      unfold okW winB
      have p1 : rowP c w a w = a := by unfold rowP dg; rw [if_pos (by omega), Nat.sub_self, Nat.pow_zero, Nat.div_one, Nat.mod_eq_of_lt ha]
      have p2 : rowP c w a (w + 1) = 3 := by unfold rowP; rw [if_neg (by omega)]
      have p3 : rowP c w r w = dg c w r (w - 1) := by unfold rowP; rw [if_pos (by omega)]
      have p4 : rowP c w r (w + 1) = 3 := by unfold rowP; rw [if_neg (by omega)]
      rw [p1, p2, p3, p4]
    rw [← e0]
    unfold okFrom
    cases hb : okW al c w a r w with
    | true => exact decide_eq_true (fun j h1 h2 => by rw [show j = w by omega]; exact hb)
    | false => exact decide_eq_false (fun h => by rw [h w (by omega) (by omega)] at hb; exact absurd hb (by decide))
  rw [e]
/-- the last one, with the first window, gives the sum over all rows below -/
theorem Gc_last {al : Nat → Bool} {c w : Nat} {ws : Nat → Nat} {r : Nat} (hc : 1 ≤ c) (hw : 1 ≤ w) (hr : r < c ^ w) : fb_sm (fun d => if al (64 * 3 + 16 * dg c w r 0 + 4 * 3 + d) then Gc al c w ws 0 (d * c ^ w + r) else 0) c = fb_sm (fun b => if Fi al c w r b then ws b else 0) (c ^ w) := by
  have hp1 : 0 < c ^ (w - 1) := Nat.pow_pos hc
  have ep : c ^ w = c * c ^ (w - 1) := by
    obtain ⟨v, rfl⟩ : ∃ v, w = v + 1 := ⟨w - 1, by omega⟩
    rw [Nat.pow_succ, Nat.mul_comm]; rfl
  have step : ∀ d, d < c → (if al (64 * 3 + 16 * dg c w r 0 + 4 * 3 + d) then Gc al c w ws 0 (d * c ^ w + r) else 0) = fb_sm (fun t => if Fi al c w r (d * c ^ (w - 1) + t) then ws (d * c ^ (w - 1) + t) else 0) (c ^ (w - 1)) := by
    intro d hd
    have d1 : (d * c ^ w + r) / c ^ w = d := by rw [Nat.mul_comm, Nat.mul_add_div (by omega), Nat.div_eq_of_lt hr, Nat.add_zero]
    have d2 : (d * c ^ w + r) % c ^ w = r := by rw [Nat.mul_comm, Nat.mul_add_mod, Nat.mod_eq_of_lt hr]
    have key : ∀ t, t < c ^ (w - 1) → Fi al c w r (d * c ^ (w - 1) + t) = (al (64 * 3 + 16 * dg c w r 0 + 4 * 3 + d) && okFrom al c w 0 r (d * c ^ (w - 1) + t)) := by
      intro t ht
      have e0 : okW al c w r (d * c ^ (w - 1) + t) 0 = al (64 * 3 + 16 * dg c w r 0 + 4 * 3 + d) := by
        unfold okW winB
        have p1 : rowP c w r 0 = 3 := by unfold rowP; rw [if_neg (by omega)]
        have p2 : rowP c w r (0 + 1) = dg c w r 0 := by unfold rowP; rw [if_pos (by omega)]
        have p3 : rowP c w (d * c ^ (w - 1) + t) 0 = 3 := by unfold rowP; rw [if_neg (by omega)]
        have p4 : rowP c w (d * c ^ (w - 1) + t) (0 + 1) = d := by
          unfold rowP dg
          rw [if_pos (by omega), show w - 1 - (0 + 1 - 1) = w - 1 by omega, Nat.mul_comm d, Nat.mul_add_div hp1, Nat.div_eq_of_lt ht, Nat.add_zero, Nat.mod_eq_of_lt hd]
        rw [p1, p2, p3, p4]
      rw [← e0]
      unfold Fi fitP okFrom
      rw [← Bool.decide_eq_true (b := okW al c w r (d * c ^ (w - 1) + t) 0), ← Bool.decide_and]
      apply decide_eq_decide.mpr
      constructor
      · intro h; exact ⟨h 0 (by omega), fun j h1 _ => h j h1⟩
      · rintro ⟨h1, h2⟩ j h3
        by_cases e : j = 0
        · rw [e]; exact h1
        · exact h2 j h3 (by omega)
    unfold Gc
    rw [Nat.sub_zero, Nat.sub_zero, d1, d2]
    cases hal : al (64 * 3 + 16 * dg c w r 0 + 4 * 3 + d) with
    | true =>
      rw [if_pos rfl]
      refine fb_sm_cong (fun t ht => ?_)
      rw [key t ht, hal, Bool.true_and]
    | false =>
      rw [if_neg (by decide)]
      have : ∀ t, t < c ^ (w - 1) → (if Fi al c w r (d * c ^ (w - 1) + t) then ws (d * c ^ (w - 1) + t) else 0) = 0 := fun t ht => by rw [key t ht, hal, Bool.false_and, if_neg (by decide)]
      rw [fb_sm_cong (g := fun _ => 0) this, fb_sm_const, Nat.mul_zero]
  rw [fb_sm_cong step]
  conv => rhs; rw [ep]
  rw [sm_mul]
theorem Gc_le {al : Nat → Bool} {c w : Nat} {ws : Nat → Nat} {x idx M : Nat} (h : ∀ b, ws b ≤ M) : Gc al c w ws x idx ≤ c ^ (w - 1 - x) * M := by
  unfold Gc
  exact fb_sm_bound (fun t _ => by
    split
    · exact h _
    · exact Nat.zero_le _)
