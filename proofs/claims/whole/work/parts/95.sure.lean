/-! sure: which pictures there are -/
def Val (al : Nat → Bool) (c w : Nat) (ok : Nat → Nat → Bool) (h : Nat) (b : Nat → Nat) (n : Nat) : Prop := (∀ y, n ≤ y → y < h → b y < c ^ w ∧ ok y (b y) = true) ∧ (∀ y, n ≤ y → y + 1 < h → Fi al c w (b y) (b (y + 1)) = true) ∧ Bt al c w (b (h - 1)) = true
theorem sm_pos {f : Nat → Nat} {n : Nat} (h : 0 < fb_sm f n) : ∃ i, i < n ∧ 0 < f i := by
  by_cases q : ∃ i, i < n ∧ 0 < f i
  · exact q
  · have : fb_sm f n = fb_sm (fun _ => 0) n := fb_sm_cong (fun i hi => by
      by_cases z : 0 < f i
      · exact absurd ⟨i, hi, z⟩ q
      · omega)
    rw [this, fb_sm_const, Nat.mul_zero] at h
    omega
theorem sm_ge {f : Nat → Nat} {n i : Nat} (hi : i < n) (h : 0 < f i) : 0 < fb_sm f n := by
  have := fb_sm_part f hi; omega
theorem Wy_pos {al : Nat → Bool} {c w : Nat} {ok : Nat → Nat → Bool} {h : Nat} : ∀ {k a : Nat}, k < h → a < c ^ w → (0 < Wy (c ^ w) (Fi al c w) (Bt al c w) ok h k a ↔ ∃ b : Nat → Nat, b (h - 1 - k) = a ∧ Val al c w ok h b (h - 1 - k))
  | 0, a, hk, ha => by
    unfold Wy
    constructor
    · intro q
      have hq : (ok (h - 1) a && Bt al c w a) = true := by
        cases hb : (ok (h - 1) a && Bt al c w a) with
        | true => rfl
        | false => rw [hb] at q; exact absurd q (by decide)
      rw [Bool.and_eq_true] at hq
      refine ⟨fun _ => a, rfl, fun y h1 h2 => ⟨ha, by rw [show y = h - 1 by omega]; exact hq.1⟩, fun y h1 h2 => absurd h1 (by omega), hq.2⟩
    · rintro ⟨b, e, h1, h2, h3⟩
      rw [Nat.sub_zero] at e
      have := (h1 (h - 1) (by omega) (by omega)).2
      rw [e] at this h3
      rw [this, h3]; decide
  | k + 1, a, hk, ha => by
    rw [Wy_s]
    constructor
    · intro q
      have ho : ok (h - 1 - (k + 1)) a = true := by
        cases hb : ok (h - 1 - (k + 1)) a with
        | true => rfl
        | false => rw [hb] at q; exact absurd q (Nat.lt_irrefl 0)
      rw [ho, if_pos rfl] at q
      obtain ⟨i, hi, hp⟩ := sm_pos q
      have hF : Fi al c w a i = true := by
        cases hb : Fi al c w a i with
        | true => rfl
        | false => rw [hb] at hp; exact absurd hp (Nat.lt_irrefl 0)
      rw [hF, if_pos rfl] at hp
      obtain ⟨b, e, h1, h2, h3⟩ := (Wy_pos (k := k) (a := i) (by omega) hi).mp hp
      refine ⟨fun y => if y = h - 1 - (k + 1) then a else b y, if_pos rfl, fun y hy1 hy2 => ?_, fun y hy1 hy2 => ?_, ?_⟩
      · dsimp only
        by_cases z : y = h - 1 - (k + 1)
        · rw [if_pos z, z]; exact ⟨ha, ho⟩
        · rw [if_neg z]; exact h1 y (by omega) hy2
      · dsimp only
        rw [if_neg (show ¬ (y + 1 = h - 1 - (k + 1)) by omega)]
        by_cases z : y = h - 1 - (k + 1)
        · rw [if_pos z, show y + 1 = h - 1 - k by omega, e]; exact hF
        · rw [if_neg z]; exact h2 y (by omega) hy2
      · dsimp only
        rw [if_neg (show ¬ (h - 1 = h - 1 - (k + 1)) by omega)]; exact h3
    · rintro ⟨b, e, h1, h2, h3⟩
      have ho := (h1 _ (Nat.le_refl _) (by omega)).2
      rw [e] at ho
      rw [ho, if_pos rfl]
      have hb := h1 (h - 1 - k) (by omega) (by omega)
      have hF := h2 (h - 1 - (k + 1)) (Nat.le_refl _) (by omega)
      rw [e, show h - 1 - (k + 1) + 1 = h - 1 - k by omega] at hF
      refine sm_ge hb.1 ?_
      show 0 < if Fi al c w a (b (h - 1 - k)) then Wy (c ^ w) (Fi al c w) (Bt al c w) ok h k (b (h - 1 - k)) else 0
      rw [hF, if_pos rfl]
      exact (Wy_pos (by omega) hb.1).mpr ⟨b, rfl, fun y a1 a2 => h1 y (by omega) a2, fun y a1 a2 => h2 y (by omega) a2, h3⟩
theorem tot_pos {al : Nat → Bool} {c w : Nat} {ok : Nat → Nat → Bool} {h : Nat} (hh : 1 ≤ h) : 0 < totW (c ^ w) (Fi al c w) (Tp al c w) (Bt al c w) ok h ↔ ∃ b : Nat → Nat, Tp al c w (b 0) = true ∧ Val al c w ok h b 0 := by
  unfold totW
  constructor
  · intro q
    obtain ⟨i, hi, hp⟩ := sm_pos q
    have hT : Tp al c w i = true := by
      cases hb : Tp al c w i with
      | true => rfl
      | false => rw [hb] at hp; exact absurd hp (Nat.lt_irrefl 0)
    rw [hT, if_pos rfl] at hp
    obtain ⟨b, e, hv⟩ := (Wy_pos (k := h - 1) (a := i) (by omega) hi).mp hp
    rw [Nat.sub_self] at e hv
    exact ⟨b, by rw [e]; exact hT, hv⟩
  · rintro ⟨b, hT, hv⟩
    have hb := (hv.1 0 (by omega) (by omega)).1
    refine sm_ge hb ?_
    show 0 < if Tp al c w (b 0) then Wy (c ^ w) (Fi al c w) (Bt al c w) ok h (h - 1) (b 0) else 0
    rw [hT, if_pos rfl]
    refine (Wy_pos (k := h - 1) (by omega) hb).mpr ⟨b, by rw [Nat.sub_self], ?_⟩
    rw [Nat.sub_self]; exact hv
theorem liv_val {al : Nat → Bool} {c w : Nat} {ok : Nat → Nat → Bool} {h : Nat} (hh : 1 ≤ h) {a : Nat → Nat} (hl : Liv al c w ok h a h) : Tp al c w (a 0) = true ∧ Val al c w ok h a 0 := by
  have key : ∀ y, y < h → upG al c w a y (a y) = true ∧ 0 < Wy (c ^ w) (Fi al c w) (Bt al c w) ok h (h - 1 - y) (a y) := by
    intro y hy
    have h0 := (hl y hy).2
    unfold glv gW at h0
    cases hu : upG al c w a y (a y) with
    | false => rw [hu] at h0; exact absurd rfl h0
    | true => rw [hu, if_pos rfl] at h0; exact ⟨rfl, Nat.pos_of_ne_zero h0⟩
  have hok : ∀ y, y < h → ok y (a y) = true := by
    intro y hy
    obtain ⟨b, e, h1, -, -⟩ := (Wy_pos (by omega) (hl y hy).1).mp (key y hy).2
    have := (h1 (h - 1 - (h - 1 - y)) (Nat.le_refl _) (by omega)).2
    rw [e, show h - 1 - (h - 1 - y) = y by omega] at this
    exact this
  refine ⟨?_, fun y _ hy => ⟨(hl y hy).1, hok y hy⟩, fun y _ hy => ?_, ?_⟩
  · have := (key 0 (by omega)).1
    unfold upG at this
    rw [if_pos rfl] at this; exact this
  · have := (key (y + 1) hy).1
    unfold upG at this
    rw [if_neg (by omega), Nat.add_sub_cancel] at this; exact this
  · obtain ⟨b, e, -, -, h3⟩ := (Wy_pos (by omega) (hl (h - 1) (by omega)).1).mp (key (h - 1) (by omega)).2
    rw [show h - 1 - (h - 1 - (h - 1)) = h - 1 by omega] at e
    rw [e] at h3; exact h3
/-- the colours that a cell may have -/
def mayC (al : Nat → Bool) (dk : Nat → Int32) (c h w cell d : Nat) : Bool := decide (0 < totW (c ^ w) (Fi al c w) (Tp al c w) (Bt al c w) (fun y a => okC dk (nI cell) (nI d) c w y a w) h)
def lst (p : Nat → Bool) : Nat → Int32
  | 0 => -1
  | i + 1 => if p i then nI i else lst p i
def sureA (al : Nat → Bool) (dk : Nat → Int32) (c h w cell : Nat) : Int32 := if fb_ct (mayC al dk c h w cell) c = 1 then lst (mayC al dk c h w cell) c else -1
theorem s_sureM {c h w : Nat} (hc : c ≤ 3) (h1 : 1 ≤ c) (hw1 : 1 ≤ w) (hw : w ≤ 5) (hh1 : 1 ≤ h) (hh : h ≤ 5) {al : Nat → Bool} {R f dk : Nat → Int32} (hr : RuleM al R) (hf : ∀ i, i < 25 → f i = dk i) {mr l1 : Int32} {fits top bottom may : Nat → Int32} {ways : Nat → Int64} {post : Int32 → Int32 → (Nat → Int32) → (Nat → Int32) → (Nat → Int32) → (Nat → Int32) → (Nat → Int64) → Prop}
    (k : ∀ cell : Nat, l1 = nI cell → cell < h * w → ∀ mr' fits' top' bottom' may' ways', post (sureA al dk c h w cell) mr' fits' top' bottom' may' ways') (k0 : ¬ (0 ≤ l1.toInt ∧ l1.toInt < (h * w : Nat)) → post (-2) mr fits top bottom may ways) : q_X9_sure (nI c) (nI h) (nI w) R f mr fits top bottom may ways l1 post := by
  have hN := hw25 hh hw
  unfold q_X9_sure
  refine s_isCellM hh hw hh1 hw1 (fun q => c1 ?_) (fun q => c0 (k0 q))
  obtain ⟨cell, hcl1, hcl2, rfl⟩ := small (lo := 0) (hi := h * w) (a := l1) (by omega)
  have hcell : cell < h * w := by rw [nI_toInt (by omega)] at q; omega
  have loop : ∀ (m d : Nat) (mr : Int32) (fits top bottom may : Nat → Int32) (ways : Nat → Int64), d + m = c → r_X9_sure_18 (nI c) (nI h) (nI w) R f post (nI cell) (m + 1) (lst (mayC al dk c h w cell) d) (nI (fb_ct (mayC al dk c h w cell) d)) (nI d) mr fits top bottom may ways := by
    intro m
    induction m with
    | zero =>
      intro d mr fits top bottom may ways hd
      unfold r_X9_sure_18
      rw [show d = c by omega]
      have kk := k cell rfl hcell mr fits top bottom may ways
      unfold sureA at kk
      have hle := fb_ct_le (mayC al dk c h w cell) c
      refine pk_le c c (fun _ => ?_) (fun q => absurd q (by omega)) rfl rfl (by omega) (by omega)
      rw [show (1 : Int32) = nI 1 from rfl, nI_eq (by omega) (by omega)]
      refine brn (fun q => ?_) (fun q => ?_)
      · rw [if_neg q] at kk; exact kk
      · rw [if_pos q] at kk; exact kk
    | succ m ih =>
      intro d mr fits top bottom may ways hd
      unfold r_X9_sure_18
      refine pk_le c d (fun q => absurd q (by omega)) (fun _ => ?_) rfl rfl (by omega) (by omega)
      refine s_countDesk hc h1 hw hh1 hh hr hf (fun fits' top' bottom' may' ways' hF hW => ?_)
      have hI := ih (d + 1) (nI (c ^ w)) fits' top' bottom' may' ways' (by omega)
      rw [fb_ct_succ] at hI
      have es : lst (mayC al dk c h w cell) (d + 1) = if mayC al dk c h w cell d then nI d else lst (mayC al dk c h w cell) d := rfl
      rw [es] at hI
      have hcm := capM_le (totW (c ^ w) (Fi al c w) (Tp al c w) (Bt al c w) (fun y a => okC dk (nI cell) (nI d) c w y a w) h)
      have ez : capM (totW (c ^ w) (Fi al c w) (Tp al c w) (Bt al c w) (fun y a => okC dk (nI cell) (nI d) c w y a w) h) ≤ 0 ↔ mayC al dk c h w cell d = false := by
        unfold mayC
        rw [decide_eq_false_iff_not]
        unfold capM; split <;> omega
      rw [show (0 : Int64) = lN 0 from rfl, pk_lLE (by omega) (by decide), ez, nI_1, nI_1]
      refine br (fun q => ?_) (fun q => ?_)
      · rw [q] at hI; exact hI
      · rw [Bool.not_eq_false _ |>.mp q] at hI; exact hI
  exact ⟨c + 1, loop c 0 _ _ _ _ _ _ (by omega)⟩
theorem sure_one {p : Nat → Bool} {c c0 : Nat} (hc2 : c = 2 ∨ c = 3) (h0 : c0 < c) (hp : p c0 = true) : (if fb_ct p c = 1 then lst p c else -1) = if (∀ d, d < c → p d = true → d = c0) then nI c0 else -1 := by
  have ct2 : fb_ct p 2 = (if p 0 then 1 else 0) + (if p 1 then 1 else 0) := by
    show 0 + (if p 0 then 1 else 0) + (if p 1 then 1 else 0) = (if p 0 then 1 else 0) + (if p 1 then 1 else 0)
    rw [Nat.zero_add]
  have ct3 : fb_ct p 3 = (if p 0 then 1 else 0) + (if p 1 then 1 else 0) + (if p 2 then 1 else 0) := by
    show 0 + (if p 0 then 1 else 0) + (if p 1 then 1 else 0) + (if p 2 then 1 else 0) = (if p 0 then 1 else 0) + (if p 1 then 1 else 0) + (if p 2 then 1 else 0)
    rw [Nat.zero_add]
  have l2 : lst p 2 = if p 1 then nI 1 else if p 0 then nI 0 else -1 := rfl
  have l3 : lst p 3 = if p 2 then nI 2 else if p 1 then nI 1 else if p 0 then nI 0 else -1 := rfl
  have one : ∀ d, d < c → d ≠ c0 → p d = true → ¬ (∀ d, d < c → p d = true → d = c0) := fun d h1 h2 h3 h4 => h2 (h4 d h1 h3)
  rcases hc2 with rfl | rfl
  · rw [ct2, l2]
    rcases (show c0 = 0 ∨ c0 = 1 by omega) with rfl | rfl
    · cases h1 : p 1 with
      | true => rw [if_neg (one 1 (by decide) (by decide) h1), hp]; rfl
      | false =>
        rw [hp, if_pos (show ∀ d, d < 2 → p d = true → d = 0 from fun d hd hpd => by
          rcases (show d = 0 ∨ d = 1 by omega) with rfl | rfl
          · rfl
          · rw [h1] at hpd; exact absurd hpd (by decide))]; rfl
    · cases h1 : p 0 with
      | true => rw [if_neg (one 0 (by decide) (by decide) h1), hp]; rfl
      | false =>
        rw [hp, if_pos (show ∀ d, d < 2 → p d = true → d = 1 from fun d hd hpd => by
          rcases (show d = 0 ∨ d = 1 by omega) with rfl | rfl
          · rw [h1] at hpd; exact absurd hpd (by decide)
          · rfl)]; rfl
  · rw [ct3, l3]
    rcases (show c0 = 0 ∨ c0 = 1 ∨ c0 = 2 by omega) with rfl | rfl | rfl
    · cases h1 : p 1 with
      | true =>
        rw [if_neg (one 1 (by decide) (by decide) h1), hp]
        cases p 2 <;> rfl
      | false =>
        cases h2 : p 2 with
        | true => rw [if_neg (one 2 (by decide) (by decide) h2), hp]; rfl
        | false =>
          rw [hp, if_pos (show ∀ d, d < 3 → p d = true → d = 0 from fun d hd hpd => by
            rcases (show d = 0 ∨ d = 1 ∨ d = 2 by omega) with rfl | rfl | rfl
            · rfl
            · rw [h1] at hpd; exact absurd hpd (by decide)
            · rw [h2] at hpd; exact absurd hpd (by decide))]; rfl
    · cases h1 : p 0 with
      | true =>
        rw [if_neg (one 0 (by decide) (by decide) h1), hp]
        cases p 2 <;> rfl
      | false =>
        cases h2 : p 2 with
        | true => rw [if_neg (one 2 (by decide) (by decide) h2), hp]; rfl
        | false =>
          rw [hp, if_pos (show ∀ d, d < 3 → p d = true → d = 1 from fun d hd hpd => by
            rcases (show d = 0 ∨ d = 1 ∨ d = 2 by omega) with rfl | rfl | rfl
            · rw [h1] at hpd; exact absurd hpd (by decide)
            · rfl
            · rw [h2] at hpd; exact absurd hpd (by decide))]; rfl
    · cases h1 : p 0 with
      | true =>
        rw [if_neg (one 0 (by decide) (by decide) h1), hp]
        cases p 1 <;> rfl
      | false =>
        cases h2 : p 1 with
        | true => rw [if_neg (one 1 (by decide) (by decide) h2), hp]; rfl
        | false =>
          rw [hp, if_pos (show ∀ d, d < 3 → p d = true → d = 2 from fun d hd hpd => by
            rcases (show d = 0 ∨ d = 1 ∨ d = 2 by omega) with rfl | rfl | rfl
            · rw [h1] at hpd; exact absurd hpd (by decide)
            · rw [h2] at hpd; exact absurd hpd (by decide)
            · rfl)]; rfl
/-- what stands at a cell of a picture -/
def colA (c w cell : Nat) (b : Nat → Nat) : Nat := dg c w (b (cell / w)) (cell % w)
theorem cell_yx {w cell y x : Nat} (hw : 1 ≤ w) (hx : x < w) : w * y + x = cell ↔ y = cell / w ∧ x = cell % w := by
  constructor
  · rintro rfl
    rw [Nat.mul_add_div hw, Nat.div_eq_of_lt hx, Nat.mul_add_mod, Nat.mod_eq_of_lt hx]; exact ⟨by omega, rfl⟩
  · rintro ⟨rfl, rfl⟩; exact Nat.div_add_mod cell w
theorem mayC_iff {al : Nat → Bool} {dk : Nat → Int32} {c h w cell d : Nat} (h1 : 1 ≤ c) (hc : c ≤ 3) (hh1 : 1 ≤ h) (hh : h ≤ 5) (hw1 : 1 ≤ w) (hw : w ≤ 5) (hcell : cell < h * w) (hd : d < c) : mayC al dk c h w cell d = true ↔ ∃ b : Nat → Nat, Tp al c w (b 0) = true ∧ Val al c w (okD dk c w) h b 0 ∧ colA c w cell b = d := by
  have hN := hw25 hh hw
  have hy : cell / w < h := by rw [Nat.div_lt_iff_lt_mul hw1]; exact hcell
  have hx := Nat.mod_lt cell hw1
  unfold mayC
  rw [decide_eq_true_iff, tot_pos hh1]
  have key : ∀ b : Nat → Nat, Val al c w (fun y a => okC dk (nI cell) (nI d) c w y a w) h b 0 ↔ Val al c w (okD dk c w) h b 0 ∧ colA c w cell b = d := by
    intro b
    constructor
    · rintro ⟨v1, v2, v3⟩
      refine ⟨⟨fun y a1 a2 => ⟨(v1 y a1 a2).1, ?_⟩, v2, v3⟩, ?_⟩
      · have := of_decide_eq_true (v1 y a1 a2).2
        exact decide_eq_true (fun x hx => (this x hx).1)
      · have := (of_decide_eq_true (v1 (cell / w) (Nat.zero_le _) hy).2 (cell % w) hx).2
        rw [Nat.div_add_mod] at this
        have hl : colA c w cell b < c := dg_lt h1 w (b (cell / w)) (cell % w)
        exact nI_inj (by omega) (by omega) (this rfl)
    · rintro ⟨⟨v1, v2, v3⟩, e⟩
      refine ⟨fun y a1 a2 => ⟨(v1 y a1 a2).1, decide_eq_true (fun x hx' => ⟨of_decide_eq_true (v1 y a1 a2).2 x hx', fun e2 => ?_⟩)⟩, v2, v3⟩
      have hcl := cellN a2 hx'
      have := (cell_yx hw1 hx').mp (nI_inj (by omega) (by omega) e2)
      rw [this.1, this.2]
      rw [← e]; rfl
  constructor
  · rintro ⟨b, hT, hv⟩; exact ⟨b, hT, (key b).mp hv⟩
  · rintro ⟨b, hT, hv⟩; exact ⟨b, hT, (key b).mpr hv⟩
theorem and_not {v d : Nat} (hv : v < 8) (hd : d < 3) : ∃ m : Nat, m < 8 ∧ nI v &&& (((1 : Int32) <<< (nI d &&& 31)) ^^^ (-1 : Int32)) = nI m ∧ ∀ i, m.testBit i = (v.testBit i && decide (i ≠ d)) := by
  refine ⟨v &&& (2 ^ d ^^^ (2 ^ 32 - 1)), Nat.lt_of_le_of_lt Nat.and_le_left hv, ?_, fun i => ?_⟩
  · have hp : (2 : Nat) ^ d < 2 ^ 32 := Nat.pow_lt_pow_right (by decide) (by omega)
    rw [ones32, show (1 : Int32) = nI 1 from rfl, shlN (by omega) (by omega), Nat.one_mul, fb_xorI, fa_and]
  · rw [Nat.testBit_and, Nat.testBit_xor, Nat.testBit_two_pow, Nat.testBit_two_pow_sub_one]
    by_cases hi : i < 3
    · rw [decide_eq_true (show i < 32 by omega)]
      by_cases e : d = i
      · simp [e]
      · simp [e]; intro _ q; exact absurd q.symm e
    · have : v.testBit i = false := Nat.testBit_lt_two_pow (Nat.lt_of_lt_of_le hv (Nat.pow_le_pow_right (n := 2) (by decide) (show 3 ≤ i by omega)))
      rw [this, Bool.false_and, Bool.false_and]
theorem s_sureX {c h w : Nat} (hc2 : c = 2 ∨ c = 3) (hh1 : 1 ≤ h) (hh : h ≤ 5) (hw1 : 1 ≤ w) (hw : w ≤ 5) {al : Nat → Bool} {R f dk : Nat → Int32} (hr : RuleOk al R) (hf : ∀ i, i < 25 → f i = dk i) (hD : DeskOk c dk) {wf at' fr pw pc : Nat → Int32} {ws ft : Nat → Int64} {a b d g e f' l1 : Int32} {post : Int32 → (Nat → Int32) → (Nat → Int64) → (Nat → Int64) → (Nat → Int32) → Int32 → Int32 → Int32 → Int32 → (Nat → Int32) → (Nat → Int32) → Int32 → Int32 → (Nat → Int32) → Prop}
    (k : ∀ cell : Nat, l1 = nI cell → cell < h * w → ∀ wf' ws' ft' at' a' b' d' g' fr' pw' e' f' pc', post (sureA al dk c h w cell) wf' ws' ft' at' a' b' d' g' fr' pw' e' f' pc') (k0 : ¬ (0 ≤ l1.toInt ∧ l1.toInt < (h * w : Nat)) → post (-2) wf ws ft at' a b d g fr pw e f' pc) : q_X8_sure (nI c) R (nI h) (nI w) f wf ws ft at' a b d g fr pw e f' pc l1 post := by
  have hN := hw25 hh hw
  have h1 : 1 ≤ c := by omega
  have hc : c ≤ 3 := by omega
  have h243 := pow_le243 hc hw
  unfold q_X8_sure
  refine s_holds hh hw (fun q => c1 ?_) (fun q => c0 (k0 q))
  obtain ⟨cell, hcl1, hcl2, rfl⟩ := small (lo := 0) (hi := h * w) (a := l1) (by omega)
  have hcell : cell < h * w := by rw [nI_toInt (by omega)] at q; omega
  have kk := k cell rfl hcell
  refine s_openEndings hc2 hh1 hh hw1 hw hf hD (fun wf' fr' pw' pc' hwi hR => ?_)
  refine s_firstColour hc2 hw1 hw hh1 hh hcell hr hR hwi (fun y a hy _ => wsh_D hc2 hh hw hD hy) (fun ws' ft' at2 pc2 => ?_)
  have hy : cell / w < h := by rw [Nat.div_lt_iff_lt_mul hw1]; exact hcell
  have hx := Nat.mod_lt cell hw1
  by_cases ht : 0 < totW (c ^ w) (Fi al c w) (Tp al c w) (Bt al c w) (okD dk c w) h
  · -- there is a first picture
    have hex : ∃ a, Ins al c w (okD dk c w) h 0 a h := by
      have : ∀ m, m ≤ h → ∃ a, Ins al c w (okD dk c w) h 0 a m := by
        intro m
        induction m with
        | zero => intro _; exact ⟨fun _ => 0, fun y hy => absurd hy (by omega)⟩
        | succ m ih =>
          intro hm
          obtain ⟨a, ha⟩ := ih (by omega)
          have hb0 : bef al c w (okD dk c w) h a m = 0 := by
            cases m with
            | zero => rfl
            | succ z => have := (ha z (by omega)).2.1; omega
          have htot : 0 < fb_sm (glv al c w (okD dk c w) h a m) (c ^ w) := by
            cases m with
            | zero => rw [← totW_eq] at ht; exact ht
            | succ z =>
              have := ha z (by omega)
              rw [next_tot (by omega) (by omega)]; omega
          rcases row_or_none (f := glv al c w (okD dk c w) h a m) (Nat.zero_le (c ^ w)) with ⟨r, q1, q2, q3, q4⟩ | q
          · refine ⟨fun z => if z = m then r else a z, fun z hz => ?_⟩
            have elo : ∀ i, i < m → (fun z => if z = m then r else a z) i = a i := fun i hi => if_neg (by omega)
            have ebef : bef al c w (okD dk c w) h (fun z => if z = m then r else a z) (m + 1) = 0 := by
              show bef al c w (okD dk c w) h (fun z => if z = m then r else a z) m + fb_sm (glv al c w (okD dk c w) h (fun z => if z = m then r else a z) m) (if m = m then r else a m) = 0
              rw [bef_congr elo, glv_congr elo, if_pos rfl, hb0, sm_same (Nat.zero_le r) q3]; rfl
            by_cases e : z = m
            · subst e
              rw [ebef, glv_congr elo]
              dsimp only
              rw [if_pos rfl]
              exact ⟨q2, Nat.le_refl _, by omega⟩
            · exact Ins_congr (fun i hi => (elo i (by omega)).symm) ha z (by omega)
          · rw [sm_same (Nat.zero_le _) q] at htot; exact absurd htot (Nat.lt_irrefl 0)
      exact this h (Nat.le_refl _)
    obtain ⟨a0, hI⟩ := hex
    have hval := liv_val hh1 (Ins_liv hI)
    have ecell : cellA al c w (okD dk c w) h 0 cell = nI (colA c w cell a0) := cellA_y ht hI hcell hw1
    have hc0 : colA c w cell a0 < c := dg_lt h1 _ _ _
    rw [ecell]
    have hp0 : mayC al dk c h w cell (colA c w cell a0) = true := (mayC_iff h1 hc hh1 hh hw1 hw hcell hc0).mpr ⟨a0, hval.1, hval.2, rfl⟩
    unfold sureA at kk
    rw [sure_one hc2 hc0 hp0] at kk
    refine brn (fun _ => ⟨vp_in_nI (by omega) (by decide), vp_in_nI (by omega) (by decide), ?_⟩) (fun z => absurd z (m1_ne (by omega)))
    obtain ⟨ew, hw8⟩ := hwi cell (by omega)
    rw [nI_clamp (by omega), ew]
    obtain ⟨mm, hm8, em, hmb⟩ := and_not hw8 (show colA c w cell a0 < 3 by omega)
    rw [em]
    refine s_fillA hc2 hw1 hw hh1 hh hr hR (wi := fun i => if i = cell then mm else wD dk c (h * w) i) (fun i hi => ?_) (fun ws2 ft2 hW2 => ?_)
    · by_cases z : i = cell
      · rw [z, upd_s, if_pos rfl]; exact ⟨rfl, hm8⟩
      · rw [upd_n _ z, if_neg z]; exact hwi i hi
    refine s_total (y := 0) h1 hc hw hh (by omega) hr hR.2.2.2.2.1 hW2 ?_
    have hlt := totW_lt (R := c ^ w) (F := Fi al c w) (T := Tp al c w) (B := Bt al c w) (ok := wsh c w (fun i => if i = cell then mm else wD dk c (h * w) i)) h243 hh
    rw [Nat.sub_zero, totW_eq, show (0 : Int64) = lN 0 from rfl, pk_lEQ (by omega) (by decide)]
    have hz : totW (c ^ w) (Fi al c w) (Tp al c w) (Bt al c w) (wsh c w (fun i => if i = cell then mm else wD dk c (h * w) i)) h = 0 ↔ ∀ d, d < c → mayC al dk c h w cell d = true → d = colA c w cell a0 := by
      have hval2 : ∀ b : Nat → Nat, Val al c w (wsh c w (fun i => if i = cell then mm else wD dk c (h * w) i)) h b 0 ↔ Val al c w (okD dk c w) h b 0 ∧ colA c w cell b ≠ colA c w cell a0 := by
        intro b
        have hbit : ∀ y x, y < h → x < w → (((fun i => if i = cell then mm else wD dk c (h * w) i) (w * y + x)).testBit (dg c w (b y) x) = true ↔ (dk (w * y + x) = -1 ∨ dk (w * y + x) = nI (dg c w (b y) x)) ∧ (w * y + x = cell → dg c w (b y) x ≠ colA c w cell a0)) := by
          intro y x hy' hx'
          have hd1 := wD_bit hc2 hD (cellN hy' hx') hN (dg_lt h1 w (b y) x)
          by_cases z : w * y + x = cell
          · show ((if w * y + x = cell then mm else wD dk c (h * w) (w * y + x)).testBit (dg c w (b y) x) = true) ↔ _
            rw [if_pos z, hmb, Bool.and_eq_true, decide_eq_true_iff, ← z, hd1]
            constructor
            · rintro ⟨p, q⟩; exact ⟨p, fun _ => by rw [z]; rw [z] at q; exact q⟩
            · rintro ⟨p, q⟩; refine ⟨p, ?_⟩; have := q rfl; rw [z] at this ⊢; exact this
          · show ((if w * y + x = cell then mm else wD dk c (h * w) (w * y + x)).testBit (dg c w (b y) x) = true) ↔ _
            rw [if_neg z, hd1]
            exact ⟨fun p => ⟨p, fun e => absurd e z⟩, fun p => p.1⟩
        constructor
        · rintro ⟨v1, v2, v3⟩
          refine ⟨⟨fun y a1 a2 => ⟨(v1 y a1 a2).1, decide_eq_true (fun x hx' => ?_)⟩, v2, v3⟩, ?_⟩
          · exact ((hbit y x a2 hx').mp (of_decide_eq_true (v1 y a1 a2).2 x hx')).1
          · have := ((hbit (cell / w) (cell % w) hy hx).mp (of_decide_eq_true (v1 (cell / w) (Nat.zero_le _) hy).2 (cell % w) hx)).2
            exact this (Nat.div_add_mod cell w)
        · rintro ⟨⟨v1, v2, v3⟩, ne⟩
          refine ⟨fun y a1 a2 => ⟨(v1 y a1 a2).1, decide_eq_true (fun x hx' => (hbit y x a2 hx').mpr ⟨of_decide_eq_true (v1 y a1 a2).2 x hx', fun e2 => ?_⟩)⟩, v2, v3⟩
          have := (cell_yx hw1 hx').mp e2
          rw [this.1, this.2]
          exact ne
      constructor
      · intro hz0 d hd hmay
        obtain ⟨b, hT, hv, hcol⟩ := (mayC_iff h1 hc hh1 hh hw1 hw hcell hd).mp hmay
        by_cases e : d = colA c w cell a0
        · exact e
        · have := (tot_pos (ok := wsh c w (fun i => if i = cell then mm else wD dk c (h * w) i)) hh1).mpr ⟨b, hT, (hval2 b).mpr ⟨hv, by rw [hcol]; exact e⟩⟩
          omega
      · intro hall
        by_cases z : totW (c ^ w) (Fi al c w) (Tp al c w) (Bt al c w) (wsh c w (fun i => if i = cell then mm else wD dk c (h * w) i)) h = 0
        · exact z
        · obtain ⟨b, hT, hv⟩ := (tot_pos hh1).mp (Nat.pos_of_ne_zero z)
          obtain ⟨hv1, hv2⟩ := (hval2 b).mp hv
          exact absurd (hall (colA c w cell b) (dg_lt h1 _ _ _) ((mayC_iff h1 hc hh1 hh hw1 hw hcell (dg_lt h1 _ _ _)).mpr ⟨b, hT, hv1, rfl⟩)) hv2
    rw [hz]
    refine brn (fun z => ?_) (fun z => ?_)
    · rw [if_neg z] at kk; exact kk _ _ _ _ _ _ _ _ _ _ _ _ _
    · rw [if_pos z] at kk; exact kk _ _ _ _ _ _ _ _ _ _ _ _ _
  · rw [cellA_n (by omega)]
    refine brn (fun z => absurd rfl z) (fun _ => ?_)
    have hno : ∀ d, d < c → mayC al dk c h w cell d = false := by
      intro d hd
      cases hm : mayC al dk c h w cell d with
      | false => rfl
      | true =>
        obtain ⟨b, hT, hv, -⟩ := (mayC_iff h1 hc hh1 hh hw1 hw hcell hd).mp hm
        exact absurd ((tot_pos hh1).mpr ⟨b, hT, hv⟩) ht
    unfold sureA at kk
    rw [fb_ct_zero.mpr hno, if_neg (by decide)] at kk
    exact kk _ _ _ _ _ _ _ _ _ _ _ _ _
