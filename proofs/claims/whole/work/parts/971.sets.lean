/-! tall pictures: rows as sets of bits -/
def BS (R : Nat) (x : Int32) (S : Nat → Bool) : Prop := ∃ v : Nat, v < 2 ^ R ∧ x = nI v ∧ ∀ j, j < R → v.testBit j = S j
theorem p27 {R : Nat} (hR : R ≤ 27) : 2 ^ R ≤ 134217728 := Nat.le_trans (Nat.pow_le_pow_right (by decide) hR) (by decide)
theorem BS_zero (R : Nat) : BS R 0 (fun _ => false) := ⟨0, Nat.pow_pos (by decide), rfl, fun j _ => Nat.zero_testBit j⟩
theorem BS_congr {R : Nat} {x : Int32} {S S' : Nat → Bool} (h : BS R x S) (e : ∀ j, j < R → S j = S' j) : BS R x S' := by
  obtain ⟨v, a, b, d⟩ := h
  exact ⟨v, a, b, fun j hj => by rw [d j hj, e j hj]⟩
theorem BS_or {R : Nat} {x y : Int32} {S S' : Nat → Bool} (h : BS R x S) (h' : BS R y S') : BS R (x ||| y) (fun j => S j || S' j) := by
  obtain ⟨v, a, rfl, d⟩ := h
  obtain ⟨u, a', rfl, d'⟩ := h'
  exact ⟨v ||| u, Nat.or_lt_two_pow a a', fa_or v u, fun j hj => by rw [Nat.testBit_or, d j hj, d' j hj]⟩
theorem BS_and {R : Nat} {x y : Int32} {S S' : Nat → Bool} (h : BS R x S) (h' : BS R y S') : BS R (x &&& y) (fun j => S j && S' j) := by
  obtain ⟨v, a, rfl, d⟩ := h
  obtain ⟨u, a', rfl, d'⟩ := h'
  exact ⟨v &&& u, Nat.and_lt_two_pow v a', fa_and v u, fun j hj => by rw [Nat.testBit_and, d j hj, d' j hj]⟩
theorem BS_bit {R : Nat} (hR : R ≤ 27) {x : Int32} {S : Nat → Bool} (h : BS R x S) {j : Nat} (hj : j < R) : (x >>> (nI j &&& 31)) &&& (1 : Int32) = bI (S j) := by
  obtain ⟨v, a, rfl, d⟩ := h
  have := p27 hR
  rw [bitG (by omega) (by omega), d j hj]
theorem BS_eq0 {R : Nat} (hR : R ≤ 27) {x : Int32} {S : Nat → Bool} (h : BS R x S) : x = 0 ↔ ∀ j, j < R → S j = false := by
  obtain ⟨v, a, rfl, d⟩ := h
  have := p27 hR
  rw [nI_zero (by omega)]
  constructor
  · intro e j hj
    rw [← d j hj, e, Nat.zero_testBit]
  · intro e
    exact bits_eq a (Nat.pow_pos (by decide)) (fun i hi => by rw [d i hi, e i hi, Nat.zero_testBit])
theorem BS_set {R : Nat} (hR : R ≤ 27) {x : Int32} {S : Nat → Bool} (h : BS R x S) {r : Nat} (hr : r < R) : BS R (x ||| ((1 : Int32) <<< (nI r &&& 31))) (fun j => S j || decide (j = r)) := by
  obtain ⟨v, a, rfl, d⟩ := h
  exact ⟨v ||| 2 ^ r, or_lt a hr, or_bit (by omega), fun j hj => by rw [fb_bit_set, d j hj]⟩
/-- one more step along F -/
def aft (n : Nat) (F : Nat → Nat → Bool) (S : Nat → Bool) (b : Nat) : Bool := decide (∃ a, a < n ∧ (S a && F a b) = true)
theorem aft_iff {n : Nat} {F : Nat → Nat → Bool} {S : Nat → Bool} {b : Nat} : aft n F S b = true ↔ ∃ a, a < n ∧ S a = true ∧ F a b = true := by
  unfold aft
  rw [decide_eq_true_iff]
  constructor
  · rintro ⟨a, h1, h2⟩
    rw [Bool.and_eq_true] at h2
    exact ⟨a, h1, h2.1, h2.2⟩
  · rintro ⟨a, h1, h2, h3⟩
    exact ⟨a, h1, by rw [h2, h3]; rfl⟩
theorem bool_iff {p q : Bool} (h : p = true ↔ q = true) : p = q := by
  cases p <;> cases q <;> simp at h ⊢
theorem aft_zero (F : Nat → Nat → Bool) (S : Nat → Bool) (b : Nat) : aft 0 F S b = false := by
  apply Bool.eq_false_iff.mpr
  intro h
  obtain ⟨a, h1, _⟩ := aft_iff.mp h
  omega
theorem aft_succ (n : Nat) (F : Nat → Nat → Bool) (S : Nat → Bool) (b : Nat) : aft (n + 1) F S b = (aft n F S b || (S n && F n b)) := by
  apply bool_iff
  rw [Bool.or_eq_true, Bool.and_eq_true, aft_iff, aft_iff]
  constructor
  · rintro ⟨a, h1, h2, h3⟩
    by_cases e : a = n
    · right; rw [← e]; exact ⟨h2, h3⟩
    · left; exact ⟨a, by omega, h2, h3⟩
  · rintro (⟨a, h1, h2, h3⟩ | ⟨h2, h3⟩)
    · exact ⟨a, by omega, h2, h3⟩
    · exact ⟨n, by omega, h2, h3⟩
theorem s_after {R : Nat} (hR : R ≤ 27) {F : Nat → Nat → Bool} {S : Nat → Bool} {bl : Nat → Int32} {x : Int32} (hb : ∀ r, r < R → BS R (bl r) (F r)) (hx : BS R x S) {post : Int32 → Prop} (k : ∀ y, BS R y (aft R F S) → post y) : q_X5_after bl (nI R) x post := by
  unfold q_X5_after
  have loop : ∀ (m i : Nat) (y : Int32), i + m = R → BS R y (aft i F S) → r_X5_after_4 bl (nI R) post x (m + 1) y (nI i) := by
    intro m
    induction m with
    | zero =>
      intro i y hi hy
      unfold r_X5_after_4
      rw [show i = R by omega] at hy
      exact pk_le R i (fun _ => k y hy) (fun q => absurd q (by omega)) rfl rfl (by omega) (by omega)
    | succ m ih =>
      intro i y hi hy
      unfold r_X5_after_4
      refine pk_le R i (fun q => absurd q (by omega)) (fun _ => ?_) rfl rfl (by omega) (by omega)
      rw [BS_bit hR hx (show i < R by omega), nI_1]
      cases hs : S i with
      | false => exact b0 (ih (i + 1) y (by omega) (BS_congr hy (fun j _ => by rw [aft_succ, hs, Bool.false_and, Bool.or_false])))
      | true =>
        refine b1 ⟨vp_in_nI (by omega) (by decide), ?_⟩
        rw [nI_clamp (by omega)]
        exact ih (i + 1) _ (by omega) (BS_congr (BS_or hy (hb i (by omega))) (fun j _ => by rw [aft_succ, hs, Bool.true_and]))
  exact ⟨R + 1, loop R 0 0 (by omega) (BS_congr (BS_zero R) (fun j _ => (aft_zero F S j).symm))⟩
def flp (F : Nat → Nat → Bool) : Nat → Nat → Bool := fun a b => F b a
theorem s_beforeS {R : Nat} (hR : R ≤ 27) {F : Nat → Nat → Bool} {S : Nat → Bool} {bl : Nat → Int32} {x : Int32} (hb : ∀ r, r < R → BS R (bl r) (F r)) (hx : BS R x S) {post : Int32 → Prop} (k : ∀ y, BS R y (aft R (flp F) S) → post y) : q_X5_before bl (nI R) x post := by
  unfold q_X5_before
  have loop : ∀ (m i : Nat) (y : Int32), i + m = R → BS R y (fun j => decide (j < i) && aft R (flp F) S j) → r_X5_before_4 bl (nI R) post x (m + 1) y (nI i) := by
    intro m
    induction m with
    | zero =>
      intro i y hi hy
      unfold r_X5_before_4
      exact pk_le R i (fun _ => k y (BS_congr hy (fun j hj => by rw [decide_eq_true (show j < i by omega), Bool.true_and]))) (fun q => absurd q (by omega)) rfl rfl (by omega) (by omega)
    | succ m ih =>
      intro i y hi hy
      unfold r_X5_before_4
      refine pk_le R i (fun q => absurd q (by omega)) (fun _ => ⟨vp_in_nI (by omega) (by decide), ?_⟩) rfl rfl (by omega) (by omega)
      have hand := BS_and (hb i (by omega)) hx
      rw [nI_clamp (by omega), nI_1]
      have key : (bl i &&& x = 0) ↔ aft R (flp F) S i = false := by
        rw [BS_eq0 hR hand, ← Bool.not_eq_true, aft_iff]
        constructor
        · rintro q ⟨a, h1, h2, h3⟩
          have := q a h1
          rw [h2, show F i a = true from h3] at this
          exact absurd this (by decide)
        · intro q j hj
          apply Bool.eq_false_iff.mpr
          intro z
          rw [Bool.and_eq_true] at z
          exact q ⟨j, hj, z.2, z.1⟩
      refine br (fun q => ?_) (fun q => ?_)
      · have q0 := key.mp q
        refine ih (i + 1) y (by omega) (BS_congr hy (fun j hj => ?_))
        by_cases e : j = i
        · rw [e, q0, Bool.and_false, Bool.and_false]
        · rw [show decide (j < i + 1) = decide (j < i) from decide_eq_decide.mpr (by omega)]
      · have q1 : aft R (flp F) S i = true := by
          cases hh : aft R (flp F) S i with
          | true => rfl
          | false => exact absurd (key.mpr hh) q
        refine ih (i + 1) _ (by omega) (BS_congr (BS_set hR hy (show i < R by omega)) (fun j hj => ?_))
        by_cases e : j = i
        · rw [e, q1, decide_eq_true (show i < i + 1 by omega)]; simp
        · rw [show decide (j < i + 1) = decide (j < i) from decide_eq_decide.mpr (by omega), decide_eq_false e, Bool.or_false]
  exact ⟨R + 1, loop R 0 0 (by omega) (BS_congr (BS_zero R) (fun j _ => by rw [decide_eq_false (show ¬ j < 0 by omega), Bool.false_and]))⟩
/-- steps until nothing is new -/
def itr (R : Nat) (F : Nat → Nat → Bool) (T : Nat → Bool) : Nat → Nat → Bool
  | 0 => T
  | n + 1 => fun b => itr R F T n b || aft R F (itr R F T n) b
def Cl (R : Nat) (F : Nat → Nat → Bool) (X : Nat → Bool) : Prop := ∀ a b, a < R → b < R → X a = true → F a b = true → X b = true
def Lst (R : Nat) (F : Nat → Nat → Bool) (T X : Nat → Bool) : Prop := (∀ a, a < R → T a = true → X a = true) ∧ Cl R F X ∧ ∀ Y : Nat → Bool, (∀ a, a < R → T a = true → Y a = true) → Cl R F Y → ∀ a, a < R → X a = true → Y a = true
theorem Lst_one {R : Nat} {F : Nat → Nat → Bool} {T X X' : Nat → Bool} (h : Lst R F T X) (h' : Lst R F T X') : ∀ a, a < R → X a = X' a := fun a ha => bool_iff ⟨h.2.2 X' h'.1 h'.2.1 a ha, h'.2.2 X h.1 h.2.1 a ha⟩
theorem itr_up {R : Nat} {F : Nat → Nat → Bool} {T : Nat → Bool} {n b : Nat} (h : itr R F T n b = true) : itr R F T (n + 1) b = true := by
  show (itr R F T n b || aft R F (itr R F T n) b) = true
  rw [h]; rfl
theorem itr_T {R : Nat} {F : Nat → Nat → Bool} {T : Nat → Bool} : ∀ {n b : Nat}, T b = true → itr R F T n b = true
  | 0, _, h => h
  | n + 1, _, h => itr_up (itr_T (n := n) h)
theorem itr_least {R : Nat} {F : Nat → Nat → Bool} {T Y : Nat → Bool} (h1 : ∀ a, a < R → T a = true → Y a = true) (h2 : Cl R F Y) : ∀ {n b : Nat}, b < R → itr R F T n b = true → Y b = true
  | 0, b, hb, h => h1 b hb h
  | n + 1, b, hb, h => by
    have h' : (itr R F T n b || aft R F (itr R F T n) b) = true := h
    rw [Bool.or_eq_true, aft_iff] at h'
    rcases h' with h' | ⟨a, ha, h3, h4⟩
    · exact itr_least h1 h2 hb h'
    · exact h2 a b ha hb (itr_least h1 h2 ha h3) h4
theorem ct_lt {p q : Nat → Bool} {n b : Nat} (hb : b < n) (hs : ∀ k, k < n → p k = true → q k = true) (hp : p b = false) (hq : q b = true) : fb_ct p n < fb_ct q n := by
  have e := fb_ct_upd p true hb
  rw [hp] at e
  have e' : fb_ct (fun k => if k = b then true else p k) n = fb_ct p n + 1 := e
  have : fb_ct (fun k => if k = b then true else p k) n ≤ fb_ct q n := fb_ct_sub (fun k hk h => by
    by_cases e2 : k = b
    · rw [e2]; exact hq
    · simp only [e2, if_false] at h; exact hs k hk h)
  omega
theorem itr_Cl {R : Nat} {F : Nat → Nat → Bool} {T : Nat → Bool} : ∀ n, Cl R F (itr R F T n) ∨ n ≤ fb_ct (itr R F T n) R
  | 0 => Or.inr (Nat.zero_le _)
  | n + 1 => by
    by_cases hc : Cl R F (itr R F T n)
    · left
      have same : ∀ b, b < R → itr R F T (n + 1) b = true → itr R F T n b = true := by
        intro b hb h
        have h' : (itr R F T n b || aft R F (itr R F T n) b) = true := h
        rw [Bool.or_eq_true, aft_iff] at h'
        rcases h' with h' | ⟨a, ha, h3, h4⟩
        · exact h'
        · exact hc a b ha hb h3 h4
      exact fun a b ha hb h1 h2 => itr_up (hc a b ha hb (same a ha h1) h2)
    · rcases itr_Cl (R := R) (F := F) (T := T) n with q | q
      · exact absurd q hc
      · right
        have : ∃ b, b < R ∧ itr R F T n b = false ∧ itr R F T (n + 1) b = true := Classical.byContradiction (fun z => hc (fun a b ha hb h1 h2 => by
          cases hh : itr R F T n b with
          | true => rfl
          | false =>
            exfalso
            refine z ⟨b, hb, hh, ?_⟩
            show (itr R F T n b || aft R F (itr R F T n) b) = true
            rw [Bool.or_eq_true, aft_iff]
            exact Or.inr ⟨a, ha, h1, h2⟩))
        obtain ⟨b, hb, h1, h2⟩ := this
        have := ct_lt (p := itr R F T n) (q := itr R F T (n + 1)) hb (fun k _ h => itr_up h) h1 h2
        omega
theorem itr_Lst (R : Nat) (F : Nat → Nat → Bool) (T : Nat → Bool) : Lst R F T (itr R F T R) := by
  refine ⟨fun a _ h => itr_T h, ?_, fun Y h1 h2 a ha h => itr_least h1 h2 ha h⟩
  rcases itr_Cl (R := R) (F := F) (T := T) R with q | q
  · exact q
  · have := fb_ct_le (itr R F T R) R
    have hall := fb_ct_all.mp (show fb_ct (itr R F T R) R = R by omega)
    exact fun a b _ hb _ _ => hall b hb
theorem s_reached {R : Nat} (hR : R ≤ 27) {F : Nat → Nat → Bool} {T : Nat → Bool} {bl : Nat → Int32} {x : Int32} (hb : ∀ r, r < R → BS R (bl r) (F r)) (hx : BS R x T) {post : Int32 → Prop} (k : ∀ y, BS R y (itr R F T R) → post y) : q_X5_reached x bl (nI R) post := by
  unfold q_X5_reached
  have loop : ∀ (m i : Nat) (y : Int32), i + m = R → BS R y (itr R F T i) → r_X5_reached_7 x bl (nI R) post (m + 1) y (nI i) := by
    intro m
    induction m with
    | zero =>
      intro i y hi hy
      unfold r_X5_reached_7
      rw [show i = R by omega] at hy
      exact pk_le R i (fun _ => k y hy) (fun q => absurd q (by omega)) rfl rfl (by omega) (by omega)
    | succ m ih =>
      intro i y hi hy
      unfold r_X5_reached_7
      refine pk_le R i (fun q => absurd q (by omega)) (fun _ => ?_) rfl rfl (by omega) (by omega)
      refine s_after hR hb hy (fun z hz => ?_)
      rw [nI_1]
      exact ih (i + 1) _ (by omega) (BS_or hy hz)
  exact ⟨R + 1, loop R 0 x (by omega) hx⟩
theorem s_closing {R : Nat} (hR : R ≤ 27) {F : Nat → Nat → Bool} {T : Nat → Bool} {bl : Nat → Int32} {x : Int32} (hb : ∀ r, r < R → BS R (bl r) (F r)) (hx : BS R x T) {post : Int32 → Prop} (k : ∀ y, BS R y (itr R (flp F) T R) → post y) : q_X5_closing x bl (nI R) post := by
  unfold q_X5_closing
  have loop : ∀ (m i : Nat) (y : Int32), i + m = R → BS R y (itr R (flp F) T i) → r_X5_closing_7 x bl (nI R) post (m + 1) y (nI i) := by
    intro m
    induction m with
    | zero =>
      intro i y hi hy
      unfold r_X5_closing_7
      rw [show i = R by omega] at hy
      exact pk_le R i (fun _ => k y hy) (fun q => absurd q (by omega)) rfl rfl (by omega) (by omega)
    | succ m ih =>
      intro i y hi hy
      unfold r_X5_closing_7
      refine pk_le R i (fun q => absurd q (by omega)) (fun _ => ?_) rfl rfl (by omega) (by omega)
      refine s_beforeS hR hb hy (fun z hz => ?_)
      rw [nI_1]
      exact ih (i + 1) _ (by omega) (BS_or hy hz)
  exact ⟨R + 1, loop R 0 x (by omega) hx⟩
def dnS (R : Nat) (F : Nat → Nat → Bool) (T : Nat → Bool) : Nat → Bool := itr R F T R
def upS (R : Nat) (F : Nat → Nat → Bool) (B : Nat → Bool) : Nat → Bool := itr R (flp F) B R
def lvS (R : Nat) (F : Nat → Nat → Bool) (T B : Nat → Bool) (a : Nat) : Bool := dnS R F T a && upS R F B a
theorem s_used {R : Nat} (hR : R ≤ 27) {F : Nat → Nat → Bool} {T B : Nat → Bool} {bl : Nat → Int32} {t b : Int32} (hb : ∀ r, r < R → BS R (bl r) (F r)) (ht : BS R t T) (hB : BS R b B) {post : Int32 → Prop} (k : ∀ y, BS R y (lvS R F T B) → post y) : q_X5_used t b bl (nI R) post := by
  unfold q_X5_used
  exact s_reached hR hb ht (fun y hy => s_closing hR hb hB (fun z hz => k _ (BS_and hy hz)))
/-- the class's strip -/
theorem pow_le27 {c w : Nat} (hc : c ≤ 3) (hw : w ≤ 3) : c ^ w ≤ 27 := Nat.le_trans (Nat.pow_le_pow_left hc w) (Nat.le_trans (Nat.pow_le_pow_right (by decide) hw) (by decide))
theorem s_bit {w : Nat} (hw : w ≤ 5) {al : Nat → Bool} {R : Nat → Int32} (hr : RuleOk al R) {U D r : Nat} {pa pb : Nat → Nat} (hU : EncOk w U pa) (hD : EncOk w D pb) {post : Int32 → Prop} (k : post (if fitP al w pa pb then ((1 : Int32) <<< (nI r &&& 31)) else 0)) : q_X5_bit (nI w) R (nI U) (nI D) (nI r) post := by
  unfold q_X5_bit
  refine s_joins hw hr hU hD ?_
  cases h : fitP al w pa pb with
  | false => rw [h] at k; exact b0 k
  | true => rw [h] at k; exact b1 k
theorem BS_put {R : Nat} (hR : R ≤ 27) {x : Int32} {S : Nat → Bool} {r : Nat} (hr : r < R) {b : Bool} (h : BS R x (fun j => decide (j < r) && S j)) (e : S r = b) : BS R (x ||| (if b then ((1 : Int32) <<< (nI r &&& 31)) else 0)) (fun j => decide (j < r + 1) && S j) := by
  cases b with
  | true =>
    refine BS_congr (BS_set hR h hr) (fun j hj => ?_)
    by_cases q : j = r
    · rw [q, e, decide_eq_true (show r < r + 1 by omega)]; simp
    · rw [show decide (j < r + 1) = decide (j < r) from decide_eq_decide.mpr (by omega), decide_eq_false q, Bool.or_false]
  | false =>
    refine BS_congr (BS_or h (BS_zero R)) (fun j hj => ?_)
    by_cases q : j = r
    · rw [q, e, Bool.and_false, Bool.and_false]; rfl
    · rw [show decide (j < r + 1) = decide (j < r) from decide_eq_decide.mpr (by omega), Bool.or_false]
def StripOk (al : Nat → Bool) (c w : Nat) (t b : Int32) (bl : Nat → Int32) : Prop := BS (c ^ w) t (Tp al c w) ∧ BS (c ^ w) b (Bt al c w) ∧ ∀ r, r < c ^ w → BS (c ^ w) (bl r) (Fi al c w r)
theorem BS_none {R : Nat} (S : Nat → Bool) : BS R 0 (fun j => decide (j < 0) && S j) := BS_congr (BS_zero R) (fun j _ => by rw [decide_eq_false (show ¬ j < 0 by omega), Bool.false_and])
theorem BS_full {R : Nat} {x : Int32} {S : Nat → Bool} (h : BS R x (fun j => decide (j < R) && S j)) : BS R x S := BS_congr h (fun j hj => by rw [decide_eq_true hj, Bool.true_and])
theorem s_layS {c w : Nat} (h1 : 1 ≤ c) (hc : c ≤ 3) (hw1 : 1 ≤ w) (hw : w ≤ 3) {al : Nat → Bool} {R : Nat → Int32} (hr : RuleOk al R) {t b a1 a2 a3 a4 : Int32} {bl fr pw : Nat → Int32} {post : Int32 → Int32 → (Nat → Int32) → Int32 → Int32 → Int32 → Int32 → (Nat → Int32) → (Nat → Int32) → Prop}
    (k : ∀ t' b' bl' rg' fr' pw', StripOk al c w t' b' bl' → post t' b' bl' (nI c) (nI w) (nI (c ^ w)) rg' fr' pw') : q_X5_lay R t b bl a1 a2 a3 a4 fr pw (nI c) (nI w) post := by
  have h27 := pow_le27 hc hw
  have hw5 : w ≤ 5 := by omega
  unfold q_X5_lay
  refine s_list h1 hc hw1 hw5 (fun rs rg fr' pw' hR => ?_)
  obtain ⟨-, -, rfl, rfl, hf, -⟩ := hR
  have inner : ∀ {K : Int32 → Int32 → Int32 → (Nat → Int32) → Prop} {r : Nat} {t b : Int32} (g0 : Nat → Int32), r < c ^ w → (∀ g, (∀ i, i ≠ r → g i = g0 i) → BS (c ^ w) (g r) (Fi al c w r) → K (nI r) t b g) → ∀ (m i : Nat) (g : Nat → Int32), i + m = c ^ w → (∀ i, i ≠ r → g i = g0 i) → BS (c ^ w) (g r) (fun j => decide (j < i) && Fi al c w r j) → r_X5_lay_99 R (nI c) (nI w) (nI (c ^ w)) (nI (4 ^ (w + 2) - 1)) fr' pw' post K (nI r) (nI (frm c w r)) t b (m + 1) (nI i) g := by
    intro K r t b g0 hrr hK m
    induction m with
    | zero =>
      intro i g hi hg hgr
      unfold r_X5_lay_99
      rw [show i = c ^ w by omega] at hgr
      exact pk_le (c ^ w) i (fun _ => hK g hg (BS_full hgr)) (fun q => absurd q (by omega)) rfl rfl (by omega) (by omega)
    | succ m ih =>
      intro i g hi hg hgr
      unfold r_X5_lay_99
      refine pk_le (c ^ w) i (fun q => absurd q (by omega)) (fun _ => ⟨vp_in_nI (by omega) (by decide), vp_in_nI (by omega) (by decide), ?_⟩) rfl rfl (by omega) (by omega)
      rw [nI_clamp (by omega), hf i (by omega)]
      refine s_bit hw5 hr (enc_row h1 hc r) (enc_row h1 hc i) ⟨vp_in_nI (by omega) (by decide), ?_⟩
      rw [nI_clamp (by omega), nI_1]
      refine ih (i + 1) _ (by omega) (fun j hj => ?_) ?_
      · rw [upd_n _ hj]; exact hg j hj
      · rw [upd_s]; exact BS_put h27 (show i < c ^ w by omega) hgr rfl
  have outer : ∀ (m r : Nat) (t b : Int32) (g : Nat → Int32), r + m = c ^ w → BS (c ^ w) t (fun j => decide (j < r) && Tp al c w j) → BS (c ^ w) b (fun j => decide (j < r) && Bt al c w j) → (∀ i, i < r → BS (c ^ w) (g i) (Fi al c w i)) → r_X5_lay_21 R post (nI c) (nI w) (nI (c ^ w)) (nI (4 ^ (w + 2) - 1)) fr' pw' (m + 1) (nI r) t b g := by
    intro m
    induction m with
    | zero =>
      intro r t b g hm ht hb hg
      unfold r_X5_lay_21
      rw [show r = c ^ w by omega] at ht hb hg
      exact pk_le (c ^ w) r (fun _ => k t b g _ _ _ ⟨BS_full ht, BS_full hb, hg⟩) (fun q => absurd q (by omega)) rfl rfl (by omega) (by omega)
    | succ m ih =>
      intro r t b g hm ht hb hg
      unfold r_X5_lay_21
      refine pk_le (c ^ w) r (fun q => absurd q (by omega)) (fun _ => ⟨vp_in_nI (by omega) (by decide), ?_⟩) rfl rfl (by omega) (by omega)
      rw [nI_clamp (by omega), hf r (by omega)]
      refine s_bit hw5 hr (enc_ring w) (enc_row h1 hc r) (s_bit hw5 hr (enc_row h1 hc r) (enc_ring w) ⟨vp_in_nI (by omega) (by decide), ?_⟩)
      refine ⟨c ^ w + 1, inner g (show r < c ^ w by omega) (fun g' hg' hgr => ?_) (c ^ w) 0 _ (by omega) (fun j hj => upd_n _ hj) (by rw [upd_s]; exact BS_none _)⟩
      unfold q_X5_lay_144
      rw [nI_1]
      refine ih (r + 1) _ _ g' (by omega) (BS_put h27 (show r < c ^ w by omega) ht rfl) (BS_put h27 (show r < c ^ w by omega) hb rfl) (fun i hi => ?_)
      by_cases e : i = r
      · rw [e]; exact hgr
      · rw [hg' i e]; exact hg i (by omega)
  exact ⟨c ^ w + 1, outer (c ^ w) 0 0 0 bl (by omega) (BS_none _) (BS_none _) (fun i hi => absurd hi (by omega))⟩
/-- live -/
theorem s_isStrip {a : Int32} {post : Int32 → Prop} (h1 : ∀ w : Nat, 1 ≤ w → w ≤ 3 → a = nI w → post 1) (h0 : ¬ (1 ≤ a.toInt ∧ a.toInt ≤ 3) → post 0) : q_X8_isStrip a post := by
  unfold q_X8_isStrip
  simp only [fa_lt, ti1, ti3]
  refine ⟨fun h => h0 (by omega), fun h => ⟨fun h' => h0 (by omega), fun h' => ?_⟩⟩
  obtain ⟨w, a1, a2, e⟩ := small (lo := 1) (hi := 3) (a := a) (by omega)
  exact h1 w a1 a2 e
theorem s_isTall {a : Int32} {post : Int32 → Prop} (h1 : ∀ w : Nat, 1 ≤ w → w ≤ 3 → a = nI w → post 1) (h0 : ¬ (1 ≤ a.toInt ∧ a.toInt ≤ 3) → post 0) : q_X9_isTall a post := by
  unfold q_X9_isTall
  refine s_in (fun q => ⟨Or.inr rfl, ?_⟩) (fun q => ⟨Or.inl rfl, h0 (by rw [tl1, tl3] at q; exact q)⟩)
  rw [tl1, tl3] at q
  obtain ⟨w, a1, a2, e⟩ := small (lo := 1) (hi := 3) (a := a) (by omega)
  exact h1 w a1 a2 e
def isTl (a : Int32) : Prop := 1 ≤ a.toInt ∧ a.toInt ≤ 3
def liveA (al : Nat → Bool) (c w : Nat) : Nat := fb_ct (lvS (c ^ w) (Fi al c w) (Tp al c w) (Bt al c w)) (c ^ w)
theorem s_liveX {c : Nat} (h1 : 1 ≤ c) (hc : c ≤ 3) {al : Nat → Bool} {R : Nat → Int32} (hr : RuleOk al R) {t b a1 a2 a3 a4 l1 : Int32} {bl fr pw : Nat → Int32} {post : Int32 → Int32 → Int32 → (Nat → Int32) → Int32 → Int32 → Int32 → Int32 → (Nat → Int32) → (Nat → Int32) → Prop}
    (k : ∀ w : Nat, 1 ≤ w → w ≤ 3 → l1 = nI w → ∀ t' b' bl' a1' a2' a3' a4' fr' pw', post (nI (liveA al c w)) t' b' bl' a1' a2' a3' a4' fr' pw') (k0 : ¬ isTl l1 → post (-3) t b bl a1 a2 a3 a4 fr pw) : q_X8_live (nI c) R t b bl a1 a2 a3 a4 fr pw l1 post := by
  unfold q_X8_live
  refine s_isStrip (fun w hw1 hw e => c1 ?_) (fun h => c0 (k0 h))
  subst e
  have h27 := pow_le27 hc hw
  refine s_layS h1 hc hw1 hw hr (fun t' b' bl' rg' fr' pw' hS => ?_)
  refine s_used h27 hS.2.2 hS.1 hS.2.1 (fun y hy => ?_)
  obtain ⟨v, hv, rfl, hvb⟩ := hy
  have := p27 h27
  refine s_bitCount (by omega) ?_
  rw [pcN hv (by omega), fb_ct_cong hvb]
  exact k w hw1 hw rfl _ _ _ _ _ _ _ _ _
