/-! rows of a picture: numbers, parts, what may stand below what -/
def dg (c w r x : Nat) : Nat := r / c ^ (w - 1 - x) % c
def rowP (c w r : Nat) : Nat → Nat := fun j => if 1 ≤ j ∧ j ≤ w then dg c w r (j - 1) else 3
def ringP : Nat → Nat := fun _ => 3
def winB (pa pb : Nat → Nat) (j : Nat) : Nat := 64 * pa j + 16 * pa (j + 1) + 4 * pb j + pb (j + 1)
def fitP (al : Nat → Bool) (w : Nat) (pa pb : Nat → Nat) : Bool := decide (∀ j, j < w + 1 → al (winB pa pb j) = true)
theorem fitP_t {al : Nat → Bool} {w : Nat} {pa pb : Nat → Nat} (h : ∀ j, j < w + 1 → al (winB pa pb j) = true) : fitP al w pa pb = true := decide_eq_true h
theorem fitP_f {al : Nat → Bool} {w : Nat} {pa pb : Nat → Nat} {j : Nat} (hj : j < w + 1) (h : al (winB pa pb j) = false) : fitP al w pa pb = false := decide_eq_false (fun q => by rw [q j hj] at h; exact absurd h (by decide))
theorem rowP_lt {c w r : Nat} (hc : c ≤ 3) (h1 : 1 ≤ c) (j : Nat) : rowP c w r j < 4 := by
  unfold rowP dg
  split
  · have := Nat.mod_lt (r / c ^ (w - 1 - (j - 1))) (show c > 0 by omega); omega
  · decide
theorem winB_lt {pa pb : Nat → Nat} (ha : ∀ j, pa j < 4) (hb : ∀ j, pb j < 4) (j : Nat) : winB pa pb j < 256 := by
  have h1 := ha j
  have h2 := ha (j + 1)
  have h3 := hb j
  have h4 := hb (j + 1)
  unfold winB
  omega
theorem pow_le243 {c w : Nat} (hc : c ≤ 3) (hw : w ≤ 5) : c ^ w ≤ 243 := Nat.le_trans (Nat.pow_le_pow_left hc w) (Nat.le_trans (Nat.pow_le_pow_right (by decide) hw) (by decide))
/-! the reference: cellOf -/
theorem s_cellOf {c w : Nat} (hc : c ≤ 3) (h1 : 1 ≤ c) (hw : w ≤ 5) {r : Nat} (hr : r < 2 ^ 30) {j : Nat} {a : Int32} (ea : a.toInt = (j : Int) - 1) {post : Int32 → Prop} (k : post (nI (rowP c w r j))) : q_X9_cellOf (nI c) (nI r) a (nI w) post := by
  have e0 := nI_toInt (n := r) (by omega)
  have e1 := nI_toInt (n := w) (by omega)
  have out : ¬ (1 ≤ j ∧ j ≤ w) → post 3 := by
    intro q; unfold rowP at k; rw [if_neg q] at k; exact k
  unfold q_X9_cellOf
  simp only [fa_lt, ti0, e0, e1, ea]
  refine ⟨fun q => absurd q (by omega), fun _ => ⟨fun q => out (by omega), fun q => ⟨fun q1 => ?_, fun q1 => out (by omega)⟩⟩⟩
  have hj : 1 ≤ j ∧ j ≤ w := by omega
  unfold rowP at k
  rw [if_pos hj] at k
  rw [nI_of_toInt (a := a) (by omega), ea, show ((j : Int) - 1).toNat = j - 1 by omega]
  generalize hx : j - 1 = x at k
  have hxw : x < w := by omega
  have hz : ¬ nI c = 0 := nI_ne0 (by omega) (by omega)
  have loop : ∀ (m i : Nat), i = x + m → i < w → r_X9_cellOf_23 (nI c) post (nI x) (m + 1) (nI (r / c ^ (w - 1 - i))) (nI i) := by
    intro m
    induction m with
    | zero =>
      intro i hi hiw
      have hle : r / c ^ (w - 1 - i) ≤ r := Nat.div_le_self _ _
      unfold r_X9_cellOf_23
      refine pk_le i x (fun _ => ⟨hz, ?_⟩) (fun q => absurd q (by omega)) rfl rfl (by omega) (by omega)
      rw [pk_rem (by omega) (by omega) (by omega), show i = x by omega]
      exact k
    | succ m ih =>
      intro i hi hiw
      have hle : r / c ^ (w - 1 - i) ≤ r := Nat.div_le_self _ _
      unfold r_X9_cellOf_23
      refine pk_le i x (fun q => absurd q (by omega)) (fun _ => ⟨hz, ?_⟩) rfl rfl (by omega) (by omega)
      obtain ⟨i', rfl⟩ : ∃ i', i = i' + 1 := ⟨i - 1, by omega⟩
      rw [pk_div (by omega) (by omega) (by omega), pk_m1, Nat.div_div_eq_div_mul, ← Nat.pow_succ, show (w - 1 - (i' + 1)).succ = w - 1 - i' by omega]
      exact ih i' (by omega) (by omega)
  have h0 := loop (w - 1 - x) (w - 1) (by omega) (by omega)
  rw [Nat.sub_self, Nat.pow_zero, Nat.div_one] at h0
  have el : nI w - (1 : Int32) = nI (w - 1) := by rw [show (1 : Int32) = nI 1 from rfl, pk_sub (by omega)]
  rw [el]
  exact ⟨w - 1 - x + 1, h0⟩
/-- an argument that stands for a row, or for the ring -/
def RowArg (c w : Nat) (v : Int32) (p : Nat → Nat) : Prop := ∀ (j : Nat) (a : Int32) (post : Int32 → Prop), a.toInt = (j : Int) - 1 → post (nI (p j)) → q_X9_cellOf (nI c) v a (nI w) post
theorem rowArg_row {c w : Nat} (hc : c ≤ 3) (h1 : 1 ≤ c) (hw : w ≤ 5) {r : Nat} (hr : r < 2 ^ 30) : RowArg c w (nI r) (rowP c w r) := fun _ _ _ ea k => s_cellOf hc h1 hw hr ea k
theorem rowArg_ring {c w : Nat} : RowArg c w (-1) ringP := fun _ _ _ _ k => ⟨fun _ => k, fun h => absurd (by decide) h⟩
theorem s_mayStand {c w : Nat} (hc : c ≤ 3) (hw : w ≤ 5) {al : Nat → Bool} {R : Nat → Int32} (hr : RuleM al R) {u v : Int32} {pa pb : Nat → Nat} (hu : RowArg c w u pa) (hv : RowArg c w v pb) (ha : ∀ j, pa j < 4) (hb : ∀ j, pb j < 4) {post : Int32 → Prop} (k : post (bI (fitP al w pa pb))) : q_X9_mayStand (nI c) R u v (nI w) post := by
  unfold q_X9_mayStand
  have loop : ∀ (m i : Nat), i + m = w + 1 → (∀ j, j < i → al (winB pa pb j) = true) → r_X9_mayStand_6 (nI c) R post u v (nI w) (m + 2) 1 (nI i) := by
    intro m
    induction m with
    | zero =>
      intro i hi hj
      unfold r_X9_mayStand_6
      refine b1 (pk_lt w i (fun _ => ⟨Or.inr rfl, ?_⟩) (fun q => absurd q (by omega)) rfl rfl (by omega) (by omega))
      rw [fitP_t (fun j hjj => hj j (by omega))] at k
      exact k
    | succ m ih =>
      intro i hi hj
      unfold r_X9_mayStand_6
      refine b1 (pk_lt w i (fun q => absurd q (by omega)) (fun _ => ?_) rfl rfl (by omega) (by omega))
      refine hu i _ _ (pred_nI (by omega)) (hu (i + 1) _ _ (same_nI (by omega)) (hv i _ _ (pred_nI (by omega)) (hv (i + 1) _ _ (same_nI (by omega)) ?_)))
      rw [sum4]
      have hlt := winB_lt ha hb i
      have hlt2 : 64 * pa i + 16 * pa (i + 1) + 4 * pb i + pb (i + 1) < 256 := hlt
      refine ⟨vp_in_nI hlt2 (by decide), fun v10 e10 => ?_⟩
      rw [nI_clamp (by omega)] at e10
      have e11 : v10 = bI (al (winB pa pb i)) := by rw [e10]; exact hr _ hlt
      rw [e11, nI_1]
      cases hal : al (winB pa pb i) with
      | true =>
        refine ih (i + 1) (by omega) (fun j hjj => ?_)
        by_cases e : j = i
        · rw [e]; exact hal
        · exact hj j (by omega)
      | false =>
        show r_X9_mayStand_6 (nI c) R post u v (nI w) (m + 1 + 1) 0 (nI (i + 1))
        unfold r_X9_mayStand_6
        refine b0 ⟨Or.inl rfl, ?_⟩
        rw [fitP_f (show i < w + 1 by omega) hal] at k
        exact k
  exact ⟨w + 1 + 2, loop (w + 1) 0 (by omega) (fun j hj => absurd hj (by omega))⟩
theorem s_rowsOf {c w : Nat} (hc : c ≤ 3) (hw : w ≤ 5) {post : Int32 → Prop} (k : post (nI (c ^ w))) : q_X9_rowsOf (nI c) (nI w) post := by
  unfold q_X9_rowsOf
  have loop : ∀ (m i : Nat), i + m = w → r_X9_rowsOf_4 (nI c) post (nI w) (m + 1) (nI (c ^ i)) (nI i) := by
    intro m
    induction m with
    | zero =>
      intro i hi
      unfold r_X9_rowsOf_4
      obtain rfl : i = w := by omega
      exact pk_le i i (fun _ => k) (fun q => absurd q (by omega)) rfl rfl (by omega) (by omega)
    | succ m ih =>
      intro i hi
      unfold r_X9_rowsOf_4
      refine pk_le w i (fun q => absurd q (by omega)) (fun _ => ?_) rfl rfl (by omega) (by omega)
      rw [pk_mul, nI_1, ← Nat.pow_succ]
      exact ih (i + 1) (by omega)
  exact ⟨w + 1, loop w 0 (by omega)⟩
def Tp (al : Nat → Bool) (c w b : Nat) : Bool := fitP al w ringP (rowP c w b)
def Bt (al : Nat → Bool) (c w a : Nat) : Bool := fitP al w (rowP c w a) ringP
def Fi (al : Nat → Bool) (c w a b : Nat) : Bool := fitP al w (rowP c w a) (rowP c w b)
def FitsOk (al : Nat → Bool) (c w : Nat) (fits top bottom : Nat → Int32) : Prop := (∀ a, a < c ^ w → top a = bI (Tp al c w a)) ∧ (∀ a, a < c ^ w → bottom a = bI (Bt al c w a)) ∧ ∀ a b, a < c ^ w → b < c ^ w → fits (243 * a + b) = bI (Fi al c w a b)
theorem s_layFits {c w : Nat} (hc : c ≤ 3) (h1 : 1 ≤ c) (hw : w ≤ 5) {al : Nat → Bool} {R : Nat → Int32} (hr : RuleM al R) {mr : Int32} {fits top bottom : Nat → Int32} {post : Int32 → (Nat → Int32) → (Nat → Int32) → (Nat → Int32) → Prop} (k : ∀ fits' top' bottom', FitsOk al c w fits' top' bottom' → post (nI (c ^ w)) fits' top' bottom') : q_X9_layFits (nI c) R mr fits top bottom (nI w) post := by
  have h243 := pow_le243 hc hw
  have hring : ∀ j, ringP j < 4 := fun _ => (show 3 < 4 by decide)
  have hrow : ∀ r j, rowP c w r j < 4 := fun r j => rowP_lt hc h1 j
  unfold q_X9_layFits
  refine s_rowsOf hc hw ?_
  have inner : ∀ {K : Int32 → (Nat → Int32) → (Nat → Int32) → (Nat → Int32) → Prop} (a : Nat), a < c ^ w → ∀ (top bottom : Nat → Int32), (∀ fits', (∀ a' b, a' < a + 1 → b < c ^ w → fits' (243 * a' + b) = bI (Fi al c w a' b)) → K (nI a) fits' top bottom) →
      ∀ (m i : Nat) (fits : Nat → Int32), i + m = c ^ w → (∀ a' b, a' < a → b < c ^ w → fits (243 * a' + b) = bI (Fi al c w a' b)) → (∀ b, b < i → fits (243 * a + b) = bI (Fi al c w a b)) → r_X9_layFits_47 (nI c) R (nI w) (nI (c ^ w)) post K (nI a) top bottom (m + 1) (nI i) fits := by
    intro K a ha top bottom hK m
    induction m with
    | zero =>
      intro i fits hi hf hfa
      unfold r_X9_layFits_47
      refine pk_le (c ^ w) i (fun _ => hK fits (fun a' b ha' hb => ?_)) (fun q => absurd q (by omega)) rfl rfl (by omega) (by omega)
      by_cases e : a' = a
      · rw [e]; exact hfa b (by omega)
      · exact hf a' b (by omega) hb
    | succ m ih =>
      intro i fits hi hf hfa
      unfold r_X9_layFits_47
      refine pk_le (c ^ w) i (fun q => absurd q (by omega)) (fun _ => ?_) rfl rfl (by omega) (by omega)
      refine s_mayStand hc hw hr (rowArg_row hc h1 hw (by omega)) (rowArg_row hc h1 hw (by omega)) (hrow a) (hrow i) ?_
      have e : (243 : Int32) * nI a + nI i = nI (243 * a + i) := by rw [show (243 : Int32) = nI 243 from rfl, pk_mul, nI_add]
      rw [e, nI_1]
      refine ⟨vp_in_nI (by omega) (by decide), bI_01 _, ?_⟩
      rw [nI_clamp (by omega)]
      refine ih (i + 1) _ (by omega) (fun a' b ha' hb => ?_) (fun b hb => ?_)
      · rw [upd_n _ (by omega)]; exact hf a' b ha' hb
      · by_cases e2 : b = i
        · rw [e2, upd_s]; rfl
        · rw [upd_n _ (by omega)]; exact hfa b (by omega)
  have outer : ∀ (m i : Nat) (fits top bottom : Nat → Int32), i + m = c ^ w → (∀ a b, a < i → b < c ^ w → fits (243 * a + b) = bI (Fi al c w a b)) → (∀ a, a < i → top a = bI (Tp al c w a)) → (∀ a, a < i → bottom a = bI (Bt al c w a)) → r_X9_layFits_11 (nI c) R post (nI w) (nI (c ^ w)) (m + 1) (nI i) fits top bottom := by
    intro m
    induction m with
    | zero =>
      intro i fits top bottom hi hf ht hb
      unfold r_X9_layFits_11
      exact pk_le (c ^ w) i (fun _ => k fits top bottom ⟨fun a ha => ht a (by omega), fun a ha => hb a (by omega), fun a b ha => hf a b (by omega)⟩) (fun q => absurd q (by omega)) rfl rfl (by omega) (by omega)
    | succ m ih =>
      intro i fits top bottom hi hf ht hb
      unfold r_X9_layFits_11
      refine pk_le (c ^ w) i (fun q => absurd q (by omega)) (fun _ => ?_) rfl rfl (by omega) (by omega)
      refine s_mayStand hc hw hr rowArg_ring (rowArg_row hc h1 hw (by omega)) hring (hrow i) ⟨vp_in_nI (by omega) (by decide), bI_01 _, ?_⟩
      refine s_mayStand hc hw hr (rowArg_row hc h1 hw (by omega)) rowArg_ring (hrow i) hring ⟨vp_in_nI (by omega) (by decide), bI_01 _, ?_⟩
      rw [nI_clamp (by omega)]
      refine ⟨c ^ w + 1, inner i (by omega) _ _ (fun fits' hf' => ?_) (c ^ w) 0 fits (by omega) (fun a' b ha' hb' => hf a' b ha' hb') (fun b hb' => absurd hb' (by omega))⟩
      unfold q_X9_layFits_80
      rw [nI_1]
      refine ih (i + 1) fits' _ _ (by omega) (fun a b ha hb' => hf' a b ha hb') (fun a ha => ?_) (fun a ha => ?_)
      · by_cases e2 : a = i
        · rw [e2, upd_s]; rfl
        · rw [upd_n _ e2]; exact ht a (by omega)
      · by_cases e2 : a = i
        · rw [e2, upd_s]; rfl
        · rw [upd_n _ e2]; exact hb a (by omega)
  exact ⟨c ^ w + 1, outer (c ^ w) 0 fits top bottom (by omega) (fun a b ha => absurd ha (by omega)) (fun a ha => absurd ha (by omega)) (fun a ha => absurd ha (by omega))⟩
