/-! endless -/
def anyB (R : Nat) (S : Nat → Bool) : Bool := decide (∃ a, a < R ∧ S a = true)
theorem anyB_iff {R : Nat} {S : Nat → Bool} : anyB R S = true ↔ ∃ a, a < R ∧ S a = true := by unfold anyB; rw [decide_eq_true_iff]
theorem anyB_f {R : Nat} {S : Nat → Bool} (h : ∀ a, a < R → S a = false) : anyB R S = false := by
  apply Bool.eq_false_iff.mpr
  intro z
  obtain ⟨a, h1, h2⟩ := anyB_iff.mp z
  rw [h a h1] at h2
  exact absurd h2 (by decide)
def lkS (R : Nat) (F : Nat → Nat → Bool) (L : Nat → Bool) : Nat → Nat → Bool
  | 0 => L
  | k + 1 => fun a => L a && aft R (flp F) (lkS R F L k) a
theorem lk_s {R : Nat} {F : Nat → Nat → Bool} {L : Nat → Bool} {k a : Nat} : lkS R F L (k + 1) a = true ↔ L a = true ∧ ∃ b, b < R ∧ lkS R F L k b = true ∧ F a b = true := by
  show (L a && aft R (flp F) (lkS R F L k) a) = true ↔ _
  rw [Bool.and_eq_true, aft_iff]
  rfl
theorem lk_sub {R : Nat} {F : Nat → Nat → Bool} {L : Nat → Bool} : ∀ {k a : Nat}, lkS R F L k a = true → L a = true
  | 0, _, h => h
  | _ + 1, _, h => (lk_s.mp h).1
theorem lk_dec {R : Nat} {F : Nat → Nat → Bool} {L : Nat → Bool} : ∀ {k a : Nat}, lkS R F L (k + 1) a = true → lkS R F L k a = true
  | 0, _, h => (lk_s.mp h).1
  | k + 1, a, h => by
    obtain ⟨h1, b, hb, h2, h3⟩ := lk_s.mp h
    exact lk_s.mpr ⟨h1, b, hb, lk_dec h2, h3⟩
def Sup (R : Nat) (F : Nat → Nat → Bool) (X : Nat → Bool) : Prop := ∀ a, a < R → X a = true → ∃ b, b < R ∧ X b = true ∧ F a b = true
theorem lk_sup {R : Nat} {F : Nat → Nat → Bool} {L X : Nat → Bool} (hL : ∀ a, a < R → X a = true → L a = true) (hS : Sup R F X) : ∀ {k a : Nat}, a < R → X a = true → lkS R F L k a = true
  | 0, a, ha, h => hL a ha h
  | k + 1, a, ha, h => by
    obtain ⟨b, hb, h2, h3⟩ := hS a ha h
    exact lk_s.mpr ⟨hL a ha h, b, hb, lk_sup hL hS hb h2, h3⟩
theorem lk_St {R : Nat} {F : Nat → Nat → Bool} {L : Nat → Bool} : ∀ n, Sup R F (lkS R F L n) ∨ fb_ct (lkS R F L n) R + n ≤ R
  | 0 => Or.inr (fb_ct_le _ _)
  | n + 1 => by
    by_cases hc : Sup R F (lkS R F L n)
    · left
      intro a ha h
      obtain ⟨b, hb, h2, h3⟩ := hc a ha (lk_dec h)
      obtain ⟨d, hd, h4, h5⟩ := hc b hb h2
      exact ⟨b, hb, lk_s.mpr ⟨lk_sub h2, d, hd, h4, h5⟩, h3⟩
    · rcases lk_St (R := R) (F := F) (L := L) n with q | q
      · exact absurd q hc
      · right
        have : ∃ a, a < R ∧ lkS R F L n a = true ∧ lkS R F L (n + 1) a = false := Classical.byContradiction (fun z => hc (fun a ha h => by
          cases hh : lkS R F L (n + 1) a with
          | false => exact absurd ⟨a, ha, h, hh⟩ z
          | true => exact (lk_s.mp hh).2))
        obtain ⟨a, ha, h1, h2⟩ := this
        have := ct_lt (p := lkS R F L (n + 1)) (q := lkS R F L n) ha (fun k _ h => lk_dec h) h2 h1
        omega
theorem lk_R (R : Nat) (F : Nat → Nat → Bool) (L : Nat → Bool) : Sup R F (lkS R F L R) := by
  rcases lk_St (R := R) (F := F) (L := L) R with q | q
  · exact q
  · intro a ha h
    have := fb_ct_zero.mp (show fb_ct (lkS R F L R) R = 0 by omega) a ha
    rw [h] at this
    exact absurd this (by decide)
def fwS (R : Nat) (F : Nat → Nat → Bool) (T L : Nat → Bool) : Nat → Nat → Bool
  | 0 => fun a => T a && L a
  | k + 1 => fun b => aft R F (fwS R F T L k) b && L b
theorem fw_sub {R : Nat} {F : Nat → Nat → Bool} {T L : Nat → Bool} : ∀ {k a : Nat}, fwS R F T L k a = true → L a = true
  | 0, a, h => by
    have h' : (T a && L a) = true := h
    rw [Bool.and_eq_true] at h'; exact h'.2
  | k + 1, b, h => by
    have h' : (aft R F (fwS R F T L k) b && L b) = true := h
    rw [Bool.and_eq_true] at h'; exact h'.2
theorem fw_s {R : Nat} {F : Nat → Nat → Bool} {T L : Nat → Bool} {k b : Nat} : fwS R F T L (k + 1) b = true ↔ (∃ a, a < R ∧ fwS R F T L k a = true ∧ F a b = true) ∧ L b = true := by
  show (aft R F (fwS R F T L k) b && L b) = true ↔ _
  rw [Bool.and_eq_true, aft_iff]
theorem fw_lk {R : Nat} {F : Nat → Nat → Bool} {T L : Nat → Bool} : ∀ (k i : Nat), (∃ a, a < R ∧ fwS R F T L i a = true ∧ lkS R F L k a = true) ↔ ∃ a, a < R ∧ fwS R F T L (i + k) a = true
  | 0, i => by
    constructor
    · rintro ⟨a, h1, h2, _⟩; exact ⟨a, h1, h2⟩
    · rintro ⟨a, h1, h2⟩; exact ⟨a, h1, h2, fw_sub h2⟩
  | k + 1, i => by
    rw [show i + (k + 1) = i + 1 + k by omega, ← fw_lk k (i + 1)]
    constructor
    · rintro ⟨a, h1, h2, h3⟩
      obtain ⟨_, b, hb, h4, h5⟩ := lk_s.mp h3
      exact ⟨b, hb, fw_s.mpr ⟨⟨a, h1, h2, h5⟩, lk_sub h4⟩, h4⟩
    · rintro ⟨b, hb, h2, h3⟩
      obtain ⟨⟨a, ha, h4, h5⟩, _⟩ := fw_s.mp h2
      exact ⟨a, ha, h4, lk_s.mpr ⟨fw_sub h4, b, hb, h3, h5⟩⟩
theorem end_eq (R : Nat) (F : Nat → Nat → Bool) (T B : Nat → Bool) : anyB R (fwS R F T (lvS R F T B) R) = anyB R (lkS R F (lvS R F T B) R) := by
  apply bool_iff
  rw [anyB_iff, anyB_iff]
  have e := fw_lk (R := R) (F := F) (T := T) (L := lvS R F T B) R 0
  rw [Nat.zero_add] at e
  rw [← e]
  constructor
  · rintro ⟨a, h1, _, h3⟩; exact ⟨a, h1, h3⟩
  · rintro ⟨x, hx, h3⟩
    apply Classical.byContradiction
    intro z
    have hD := itr_Lst R F T
    have hU := itr_Lst R (flp F) B
    have lvd : ∀ a, lvS R F T B a = true → dnS R F T a = true ∧ upS R F B a = true := fun a h => by unfold lvS at h; rw [Bool.and_eq_true] at h; exact h
    have key := hD.2.2 (fun a => dnS R F T a && !lkS R F (lvS R F T B) R a) (fun a ha h => ?_) (fun a b ha hb h1 h2 => ?_) x hx (lvd x (lk_sub h3)).1
    · rw [h3] at key
      simp at key
    · have d1 : dnS R F T a = true := hD.1 a ha h
      show (dnS R F T a && !lkS R F (lvS R F T B) R a) = true
      cases hl : lkS R F (lvS R F T B) R a with
      | false => rw [d1]; rfl
      | true =>
        exfalso
        refine z ⟨a, ha, ?_, hl⟩
        show (T a && lvS R F T B a) = true
        rw [h, lk_sub hl]; rfl
    · have h1' : (dnS R F T a && !lkS R F (lvS R F T B) R a) = true := h1
      rw [Bool.and_eq_true] at h1'
      have d2 : dnS R F T b = true := hD.2.1 a b ha hb h1'.1 h2
      show (dnS R F T b && !lkS R F (lvS R F T B) R b) = true
      cases hl : lkS R F (lvS R F T B) R b with
      | false => rw [d2]; rfl
      | true =>
        exfalso
        have u1 : upS R F B a = true := hU.2.1 b a hb ha (lvd b (lk_sub hl)).2 h2
        have l1 : lvS R F T B a = true := by unfold lvS; rw [h1'.1, u1]; rfl
        have := lk_sup (L := lvS R F T B) (X := fun y => lkS R F (lvS R F T B) R y || decide (y = a)) (k := R) (a := a) (fun y hy h => by
          rw [Bool.or_eq_true, decide_eq_true_iff] at h
          rcases h with h | h
          · exact lk_sub h
          · rw [h]; exact l1) (fun y hy h => by
          rw [Bool.or_eq_true, decide_eq_true_iff] at h
          rcases h with h | h
          · obtain ⟨d, hd, h5, h6⟩ := lk_R R F (lvS R F T B) y hy h
            exact ⟨d, hd, by show (lkS R F (lvS R F T B) R d || decide (d = a)) = true; rw [h5]; rfl, h6⟩
          · exact ⟨b, hb, by show (lkS R F (lvS R F T B) R b || decide (b = a)) = true; rw [hl]; rfl, by rw [h]; exact h2⟩) ha (by simp)
        rw [this] at h1'
        exact absurd h1'.2 (by decide)
def endA (al : Nat → Bool) (c w : Nat) : Bool := anyB (c ^ w) (lkS (c ^ w) (Fi al c w) (lvS (c ^ w) (Fi al c w) (Tp al c w) (Bt al c w)) (c ^ w))
theorem s_goesOn {R : Nat} (hR : R ≤ 27) {F : Nat → Nat → Bool} {T B : Nat → Bool} {bl : Nat → Int32} {t b : Int32} (hb : ∀ r, r < R → BS R (bl r) (F r)) (ht : BS R t T) (hB : BS R b B) {post : Int32 → Prop} (k : post (bI (anyB R (lkS R F (lvS R F T B) R)))) : q_X5_goesOn t b bl (nI R) post := by
  unfold q_X5_goesOn
  refine s_used hR hb ht hB (fun y hy => ?_)
  rw [← end_eq] at k
  have loop : ∀ (m i : Nat) (x : Int32), i + m = R → BS R x (fwS R F T (lvS R F T B) i) → r_X5_goesOn_14 t b bl (nI R) post y (m + 1) x (nI i) := by
    intro m
    induction m with
    | zero =>
      intro i x hi hx
      unfold r_X5_goesOn_14
      rw [show i = R by omega] at hx
      have e0 := BS_eq0 hR hx
      refine pk_le R i (fun _ => br (fun q => ?_) (fun q => ?_)) (fun q => absurd q (by omega)) rfl rfl (by omega) (by omega)
      · rw [anyB_f (e0.mp q)] at k; exact k
      · have : anyB R (fwS R F T (lvS R F T B) R) = true := by
          cases hh : anyB R (fwS R F T (lvS R F T B) R) with
          | true => rfl
          | false =>
            refine absurd (e0.mpr (fun j hj => ?_)) q
            apply Bool.eq_false_iff.mpr
            intro z
            rw [anyB_iff.mpr ⟨j, hj, z⟩] at hh
            exact absurd hh (by decide)
        rw [this] at k; exact k
    | succ m ih =>
      intro i x hi hx
      unfold r_X5_goesOn_14
      refine pk_le R i (fun q => absurd q (by omega)) (fun _ => ?_) rfl rfl (by omega) (by omega)
      refine s_after hR hb hx (fun z hz => ?_)
      rw [nI_1]
      exact ih (i + 1) _ (by omega) (BS_and hz hy)
  exact ⟨R + 1, loop R 0 _ (by omega) (BS_and ht hy)⟩
theorem s_endlessX {c : Nat} (h1 : 1 ≤ c) (hc : c ≤ 3) {al : Nat → Bool} {R : Nat → Int32} (hr : RuleOk al R) {t b a1 a2 a3 a4 l1 : Int32} {bl fr pw : Nat → Int32} {post : Int32 → Int32 → Int32 → (Nat → Int32) → Int32 → Int32 → Int32 → Int32 → (Nat → Int32) → (Nat → Int32) → Prop}
    (k : ∀ w : Nat, 1 ≤ w → w ≤ 3 → l1 = nI w → ∀ t' b' bl' a1' a2' a3' a4' fr' pw', post (bI (endA al c w)) t' b' bl' a1' a2' a3' a4' fr' pw') (k0 : ¬ isTl l1 → post (-3) t b bl a1 a2 a3 a4 fr pw) : q_X8_endless (nI c) R t b bl a1 a2 a3 a4 fr pw l1 post := by
  unfold q_X8_endless
  refine s_isStrip (fun w hw1 hw e => c1 ?_) (fun h => c0 (k0 h))
  subst e
  have h27 := pow_le27 hc hw
  refine s_layS h1 hc hw1 hw hr (fun t' b' bl' rg' fr' pw' hS => ?_)
  refine s_goesOn h27 hS.2.2 hS.1 hS.2.1 ?_
  have kk := k w hw1 hw rfl t' b' bl' (nI c) (nI w) (nI (c ^ w)) rg' fr' pw'
  unfold endA at kk
  cases hh : anyB (c ^ w) (lkS (c ^ w) (Fi al c w) (lvS (c ^ w) (Fi al c w) (Tp al c w) (Bt al c w)) (c ^ w)) with
  | false => rw [hh] at kk; exact b0 kk
  | true => rw [hh] at kk; exact b1 kk
def EnI (R : Nat) (F : Nat → Nat → Bool) (L : Nat → Bool) (M0 n : Nat) (l2 : Int32) (g : Nat → Int32) : Prop := ∃ X : Nat → Bool, SB R g X ∧ (∀ a, a < R → X a = true → L a = true) ∧ (∀ a, a < R → lkS R F L R a = true → X a = true) ∧ fb_ct X R ≤ M0 ∧ ((l2 = 0 ∧ ∀ a, a < n → X a = true → ∃ b, b < R ∧ X b = true ∧ F a b = true) ∨ (l2 = 1 ∧ fb_ct X R < M0))
theorem s_endlessM {c : Nat} (h1 : 1 ≤ c) (hc : c ≤ 3) {al : Nat → Bool} {R : Nat → Int32} (hr : RuleM al R) {mr l1 : Int32} {fits top bottom lv dn up : Nat → Int32} {post : Int32 → Int32 → (Nat → Int32) → (Nat → Int32) → (Nat → Int32) → (Nat → Int32) → (Nat → Int32) → (Nat → Int32) → Prop}
    (k : ∀ w : Nat, 1 ≤ w → w ≤ 3 → l1 = nI w → ∀ mr' fits' top' bottom' lv' dn' up', post (bI (endA al c w)) mr' fits' top' bottom' lv' dn' up') (k0 : ¬ isTl l1 → post (-3) mr fits top bottom lv dn up) : q_X9_endless (nI c) R mr fits top bottom lv dn up l1 post := by
  unfold q_X9_endless
  refine s_isTall (fun w hw1 hw e => c1 ?_) (fun h => c0 (k0 h))
  subst e
  have h27 := pow_le27 hc hw
  refine s_layLive h1 hc hw1 hw hr (fun fits' top' bottom' lv' dn' up' hF hL => ?_)
  obtain ⟨hT, hB, hFi⟩ := hF
  have kk := k w hw1 hw rfl (nI (c ^ w)) fits' top' bottom'
  unfold endA at kk
  -- the answer
  have fin : ∀ {g : Nat → Int32} {X : Nat → Bool}, SB (c ^ w) g X → (∀ a, a < c ^ w → X a = lkS (c ^ w) (Fi al c w) (lvS (c ^ w) (Fi al c w) (Tp al c w) (Bt al c w)) (c ^ w) a) → ∀ (m i : Nat) (b : Bool), i + m = c ^ w → b = anyB i X → r_X9_endless_129 (nI c) R post (nI (c ^ w)) fits' top' bottom' g dn' up' (m + 1) (bI b) (nI i) := by
    intro g X hg hX m
    induction m with
    | zero =>
      intro i b hi hb
      unfold r_X9_endless_129
      have e : b = anyB (c ^ w) (lkS (c ^ w) (Fi al c w) (lvS (c ^ w) (Fi al c w) (Tp al c w) (Bt al c w)) (c ^ w)) := by
        rw [hb, show i = c ^ w by omega]
        apply bool_iff
        rw [anyB_iff, anyB_iff]
        constructor
        · rintro ⟨a, z1, z2⟩; exact ⟨a, z1, by rw [← hX a z1]; exact z2⟩
        · rintro ⟨a, z1, z2⟩; exact ⟨a, z1, by rw [hX a z1]; exact z2⟩
      refine pk_le (c ^ w) i (fun _ => ?_) (fun q => absurd q (by omega)) rfl rfl (by omega) (by omega)
      rw [← e] at kk
      cases b with
      | false => exact b0 (kk _ _ _)
      | true => exact b1 (kk _ _ _)
    | succ m ih =>
      intro i b hi hb
      unfold r_X9_endless_129
      refine pk_le (c ^ w) i (fun q => absurd q (by omega)) (fun _ => ?_) rfl rfl (by omega) (by omega)
      rw [nI_1, nI_clamp (by omega), hg i (by omega)]
      cases b with
      | true =>
        refine c1 (ih (i + 1) true (by omega) ?_)
        obtain ⟨a, z1, z2⟩ := anyB_iff.mp hb.symm
        exact (anyB_iff.mpr ⟨a, by omega, z2⟩).symm
      | false =>
        have hno : ∀ a, a < i → X a = false := fun a ha => by
          apply Bool.eq_false_iff.mpr
          intro z
          rw [anyB_iff.mpr ⟨a, ha, z⟩] at hb
          exact absurd hb (by decide)
        refine c0 ⟨vp_in_nI (by omega) (by decide), ?_⟩
        cases hx : X i with
        | false => exact b0 (ih (i + 1) false (by omega) (anyB_f (fun a ha => by
            by_cases e : a = i
            · rw [e]; exact hx
            · exact hno a (by omega))).symm)
        | true => exact b1 (ih (i + 1) true (by omega) (anyB_iff.mpr ⟨i, by omega, hx⟩).symm)
  -- whether a row goes on
  have goes : ∀ {K : Int32 → Int32 → Int32 → (Nat → Int32) → Prop} {l2 : Int32} {a : Nat} {g : Nat → Int32} {X : Nat → Bool}, a < c ^ w → SB (c ^ w) g X → (∀ b : Bool, b = anyB (c ^ w) (fun d => Fi al c w a d && X d) → K l2 (nI a) (bI b) g) → ∀ (m i : Nat) (b : Bool), i + m = c ^ w → b = anyB i (fun d => Fi al c w a d && X d) → r_X9_endless_39 (nI c) R (nI (c ^ w)) fits' top' bottom' dn' up' post K l2 (nI a) g (m + 1) (bI b) (nI i) := by
    intro K l2 a g X ha hg hK m
    induction m with
    | zero =>
      intro i b hi hb
      unfold r_X9_endless_39
      rw [show i = c ^ w by omega] at hb
      exact pk_le (c ^ w) i (fun _ => hK b hb) (fun q => absurd q (by omega)) rfl rfl (by omega) (by omega)
    | succ m ih =>
      intro i b hi hb
      unfold r_X9_endless_39
      refine pk_le (c ^ w) i (fun q => absurd q (by omega)) (fun _ => ?_) rfl rfl (by omega) (by omega)
      rw [nI_1, i243, nI_clamp (show 243 * a + i < 2 ^ 31 by omega), nI_clamp (show i < 2 ^ 31 by omega), hFi a i ha (by omega), hg i (by omega)]
      cases b with
      | true =>
        refine c1 (ih (i + 1) true (by omega) ?_)
        obtain ⟨d, z1, z2⟩ := anyB_iff.mp hb.symm
        exact (anyB_iff.mpr ⟨d, by omega, z2⟩).symm
      | false =>
        have hno : ∀ d, d < i → (Fi al c w a d && X d) = false := fun d hd => by
          apply Bool.eq_false_iff.mpr
          intro z
          have : anyB i (fun d => Fi al c w a d && X d) = true := anyB_iff.mpr ⟨d, hd, z⟩
          rw [this] at hb
          exact absurd hb (by decide)
        have no : (Fi al c w a i && X i) = false → r_X9_endless_39 (nI c) R (nI (c ^ w)) fits' top' bottom' dn' up' post K l2 (nI a) g (m + 1) 0 (nI (i + 1)) := fun hx => ih (i + 1) false (by omega) (anyB_f (fun d hd => by
          by_cases e : d = i
          · rw [e]; exact hx
          · exact hno d (by omega))).symm
        refine c0 ⟨vp_in_nI (by omega) (by decide), ?_⟩
        cases hf : Fi al c w a i with
        | false => exact b0 (no (by rw [hf]; rfl))
        | true =>
          refine b1 ⟨vp_in_nI (by omega) (by decide), ?_⟩
          cases hx : X i with
          | false => exact b0 (no (by rw [hx, Bool.and_false]))
          | true => exact b1 (ih (i + 1) true (by omega) (anyB_iff.mpr ⟨i, by omega, by rw [hf, hx]; rfl⟩).symm)
  have pass : ∀ {K : Int32 → (Nat → Int32) → Prop} {M0 : Nat}, (∀ l2 g, EnI (c ^ w) (Fi al c w) (lvS (c ^ w) (Fi al c w) (Tp al c w) (Bt al c w)) M0 (c ^ w) l2 g → K l2 g) → ∀ (m a : Nat) (l2 : Int32) (g : Nat → Int32), a + m = c ^ w → EnI (c ^ w) (Fi al c w) (lvS (c ^ w) (Fi al c w) (Tp al c w) (Bt al c w)) M0 a l2 g → r_X9_endless_25 (nI c) R (nI (c ^ w)) fits' top' bottom' dn' up' post K (m + 1) l2 (nI a) g := by
    intro K M0 hK m
    induction m with
    | zero =>
      intro a l2 g ha hI
      unfold r_X9_endless_25
      rw [show a = c ^ w by omega] at hI
      exact pk_le (c ^ w) a (fun _ => hK l2 g hI) (fun q => absurd q (by omega)) rfl rfl (by omega) (by omega)
    | succ m ih =>
      intro a l2 g ha hI
      obtain ⟨X, e1, e2, e3, e4, e5⟩ := hI
      unfold r_X9_endless_25
      refine pk_le (c ^ w) a (fun q => absurd q (by omega)) (fun _ => ?_) rfl rfl (by omega) (by omega)
      refine ⟨c ^ w + 1, goes (show a < c ^ w by omega) e1 (fun b hb => ?_) (c ^ w) 0 false (by omega) (anyB_f (fun d hd => absurd hd (by omega))).symm⟩
      unfold q_X9_endless_92
      have ina : vp_in (nI a) 27 := vp_in_nI (by omega) (by decide)
      refine ⟨ina, ?_⟩
      rw [nI_clamp (by omega), e1 a (by omega), nI_1]
      have same : (X a = true → b = true) → r_X9_endless_25 (nI c) R (nI (c ^ w)) fits' top' bottom' dn' up' post K (m + 1) l2 (nI (a + 1)) g := by
        intro hab
        refine ih (a + 1) l2 g (by omega) ⟨X, e1, e2, e3, e4, ?_⟩
        rcases e5 with ⟨z0, z1⟩ | z
        · refine Or.inl ⟨z0, fun a' ha' hx => ?_⟩
          by_cases e : a' = a
          · rw [e] at hx ⊢
            rw [hab hx] at hb
            obtain ⟨d, y1, y2⟩ := anyB_iff.mp hb.symm
            rw [Bool.and_eq_true] at y2
            exact ⟨d, y1, y2.2, y2.1⟩
          · exact z1 a' (by omega) hx
        · exact Or.inr z
      cases hx : X a with
      | false => exact b0 (same (fun z => absurd (hx.symm.trans z) (by decide)))
      | true =>
        refine b1 ?_
        cases hbb : b with
        | true => exact c1 (same (fun _ => hbb))
        | false =>
          refine c0 ⟨ina, ih (a + 1) 1 _ (by omega) ?_⟩
          have hct := ct_clr (show a < c ^ w by omega) hx
          refine ⟨setX X a false, SB_upd e1 a false, fun y hy z => ?_, fun y hy z => ?_, by omega, Or.inr ⟨rfl, by omega⟩⟩
          · by_cases e : y = a
            · rw [e, setX_same] at z; exact absurd z (by decide)
            · rw [setX_ne _ e] at z; exact e2 y hy z
          · by_cases e : y = a
            · exfalso
              rw [e] at z
              obtain ⟨d, y1, y2, y3⟩ := lk_R (c ^ w) (Fi al c w) (lvS (c ^ w) (Fi al c w) (Tp al c w) (Bt al c w)) a (by omega) z
              have : anyB (c ^ w) (fun d => Fi al c w a d && X d) = true := anyB_iff.mpr ⟨d, y1, by rw [y3, e3 d y1 y2]; rfl⟩
              rw [← hb, hbb] at this
              exact absurd this (by decide)
            · rw [setX_ne _ e]; exact e3 y hy z
  have stop : ∀ (n : Nat) (g : Nat → Int32) (X : Nat → Bool), SB (c ^ w) g X → (∀ a, a < c ^ w → X a = true → lvS (c ^ w) (Fi al c w) (Tp al c w) (Bt al c w) a = true) → (∀ a, a < c ^ w → lkS (c ^ w) (Fi al c w) (lvS (c ^ w) (Fi al c w) (Tp al c w) (Bt al c w)) (c ^ w) a = true → X a = true) → Sup (c ^ w) (Fi al c w) X → r_X9_endless_17 (nI c) R post (q_X9_endless_124 (nI c) R post) (nI (c ^ w)) fits' top' bottom' dn' up' (n + 1) 0 g := by
    intro n g X e1 e2 e3 e4
    unfold r_X9_endless_17
    refine b0 ?_
    unfold q_X9_endless_124
    exact ⟨c ^ w + 1, fin e1 (fun a ha => bool_iff ⟨fun z => lk_sup e2 e4 ha z, e3 a ha⟩) (c ^ w) 0 false (by omega) (anyB_f (fun d hd => absurd hd (by omega))).symm⟩
  have main : ∀ (m : Nat) (g : Nat → Int32) (X : Nat → Bool), SB (c ^ w) g X → (∀ a, a < c ^ w → X a = true → lvS (c ^ w) (Fi al c w) (Tp al c w) (Bt al c w) a = true) → (∀ a, a < c ^ w → lkS (c ^ w) (Fi al c w) (lvS (c ^ w) (Fi al c w) (Tp al c w) (Bt al c w)) (c ^ w) a = true → X a = true) → fb_ct X (c ^ w) ≤ m → r_X9_endless_17 (nI c) R post (q_X9_endless_124 (nI c) R post) (nI (c ^ w)) fits' top' bottom' dn' up' (m + 2) 1 g := by
    intro m
    induction m with
    | zero =>
      intro g X e1 e2 e3 e4
      unfold r_X9_endless_17
      refine b1 ⟨c ^ w + 1, pass (M0 := fb_ct X (c ^ w)) (fun l2 g hI => ?_) (c ^ w) 0 0 g (by omega) ⟨X, e1, e2, e3, Nat.le_refl _, Or.inl ⟨rfl, fun a ha => absurd ha (by omega)⟩⟩⟩
      unfold q_X9_endless_121
      obtain ⟨X', f1, f2, f3, f4, ⟨rfl, f5⟩ | ⟨rfl, f5⟩⟩ := hI
      · exact stop 0 g X' f1 f2 f3 f5
      · omega
    | succ m ih =>
      intro g X e1 e2 e3 e4
      unfold r_X9_endless_17
      refine b1 ⟨c ^ w + 1, pass (M0 := fb_ct X (c ^ w)) (fun l2 g hI => ?_) (c ^ w) 0 0 g (by omega) ⟨X, e1, e2, e3, Nat.le_refl _, Or.inl ⟨rfl, fun a ha => absurd ha (by omega)⟩⟩⟩
      unfold q_X9_endless_121
      obtain ⟨X', f1, f2, f3, f4, ⟨rfl, f5⟩ | ⟨rfl, f5⟩⟩ := hI
      · exact stop (m + 1) g X' f1 f2 f3 f5
      · exact ih g X' f1 f2 f3 (by omega)
  exact ⟨c ^ w + 2, main (c ^ w) lv' _ hL (fun a _ z => z) (fun a _ z => lk_sub z) (fb_ct_le _ _)⟩
