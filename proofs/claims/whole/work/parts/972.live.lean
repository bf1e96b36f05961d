/-! the reference's live rows -/
def SB (R : Nat) (d : Nat → Int32) (X : Nat → Bool) : Prop := ∀ a, a < R → d a = bI (X a)
def setX (X : Nat → Bool) (b : Nat) (v : Bool) : Nat → Bool := fun k => if k = b then v else X k
theorem SB_upd {R : Nat} {d : Nat → Int32} {X : Nat → Bool} (h : SB R d X) (b : Nat) (v : Bool) : SB R (upd d b (bI v)) (setX X b v) := by
  intro a ha
  unfold setX
  by_cases e : a = b
  · rw [e, upd_s, if_pos rfl]
  · rw [upd_n _ e, if_neg e]; exact h a ha
theorem setX_same (X : Nat → Bool) (b : Nat) (v : Bool) : setX X b v b = v := if_pos rfl
theorem setX_ne {X : Nat → Bool} {b k : Nat} (v : Bool) (h : k ≠ b) : setX X b v k = X k := if_neg h
theorem ct_set {X : Nat → Bool} {b R : Nat} (hb : b < R) (h : X b = false) : fb_ct (setX X b true) R = fb_ct X R + 1 := by
  have e := fb_ct_upd X true hb
  rw [h] at e
  exact e
theorem ct_clr {X : Nat → Bool} {b R : Nat} (hb : b < R) (h : X b = true) : fb_ct (setX X b false) R + 1 = fb_ct X R := by
  have e := fb_ct_upd X false hb
  rw [h] at e
  exact e
def LvI (R : Nat) (F : Nat → Nat → Bool) (T B : Nat → Bool) (M0 : Nat) (P Q : Nat → Nat → Prop) (l2 : Int32) (d u : Nat → Int32) : Prop := ∃ X Y : Nat → Bool, SB R d X ∧ SB R u Y ∧ (∀ a, a < R → T a = true → X a = true) ∧ (∀ a, a < R → X a = true → dnS R F T a = true) ∧ (∀ a, a < R → B a = true → Y a = true) ∧ (∀ a, a < R → Y a = true → upS R F B a = true) ∧ M0 ≤ fb_ct X R + fb_ct Y R ∧ ((l2 = 0 ∧ (∀ a b, a < R → b < R → P a b → F a b = true → X a = true → X b = true) ∧ (∀ a b, a < R → b < R → Q a b → F a b = true → Y b = true → Y a = true)) ∨ (l2 = 1 ∧ M0 < fb_ct X R + fb_ct Y R))
theorem LvI_P {R : Nat} {F : Nat → Nat → Bool} {T B : Nat → Bool} {M0 : Nat} {P Q P' : Nat → Nat → Prop} {l2 : Int32} {d u : Nat → Int32} {a b : Nat} (ha : a < R) (h : LvI R F T B M0 P Q l2 d u) (hP : ∀ a' b', P' a' b' → P a' b' ∨ (a' = a ∧ b' = b)) (hc : F a b = true → ¬ d a = 0 → ¬ d b = 0) : LvI R F T B M0 P' Q l2 d u := by
  obtain ⟨X, Y, h1, h2, h3, h4, h5, h6, h7, h8⟩ := h
  refine ⟨X, Y, h1, h2, h3, h4, h5, h6, h7, ?_⟩
  rcases h8 with ⟨e, p, q⟩ | h8
  · refine Or.inl ⟨e, fun a' b' ha' hb' hp hf hx => ?_, q⟩
    rcases hP a' b' hp with z | ⟨rfl, rfl⟩
    · exact p a' b' ha' hb' z hf hx
    · have hh := hc hf (by rw [h1 _ ha', hx]; decide)
      rw [h1 _ hb'] at hh
      cases hz : X b' with
      | true => rfl
      | false => rw [hz] at hh; exact absurd rfl hh
  · exact Or.inr h8
theorem LvI_Q {R : Nat} {F : Nat → Nat → Bool} {T B : Nat → Bool} {M0 : Nat} {P Q Q' : Nat → Nat → Prop} {l2 : Int32} {d u : Nat → Int32} {a b : Nat} (h : LvI R F T B M0 P Q l2 d u) (hP : ∀ a' b', Q' a' b' → Q a' b' ∨ (a' = a ∧ b' = b)) (hc : F a b = true → ¬ u b = 0 → ¬ u a = 0) : LvI R F T B M0 P Q' l2 d u := by
  obtain ⟨X, Y, h1, h2, h3, h4, h5, h6, h7, h8⟩ := h
  refine ⟨X, Y, h1, h2, h3, h4, h5, h6, h7, ?_⟩
  rcases h8 with ⟨e, p, q⟩ | h8
  · refine Or.inl ⟨e, p, fun a' b' ha' hb' hp hf hx => ?_⟩
    rcases hP a' b' hp with z | ⟨rfl, rfl⟩
    · exact q a' b' ha' hb' z hf hx
    · have hh := hc hf (by rw [h2 _ hb', hx]; decide)
      rw [h2 _ ha'] at hh
      cases hz : Y a' with
      | true => rfl
      | false => rw [hz] at hh; exact absurd rfl hh
  · exact Or.inr h8
theorem LvI_d {R : Nat} {F : Nat → Nat → Bool} {T B : Nat → Bool} {M0 : Nat} {P Q P' : Nat → Nat → Prop} {l2 : Int32} {d u : Nat → Int32} {a b : Nat} (ha : a < R) (hb : b < R) (h : LvI R F T B M0 P Q l2 d u) (hf : F a b = true) (h0 : ¬ d a = 0) (h1' : d b = 0) : LvI R F T B M0 P' Q 1 (upd d b 1) u := by
  obtain ⟨X, Y, h1, h2, h3, h4, h5, h6, h7, h8⟩ := h
  have hxa : X a = true := by
    rw [h1 a ha] at h0
    cases hz : X a with
    | true => rfl
    | false => rw [hz] at h0; exact absurd rfl h0
  have hxb : X b = false := by
    rw [h1 b hb] at h1'
    cases hz : X b with
    | false => rfl
    | true => rw [hz] at h1'; exact absurd h1' (by decide)
  have hct := ct_set hb hxb
  refine ⟨setX X b true, Y, SB_upd h1 b true, h2, fun k hk z => ?_, fun k hk z => ?_, h5, h6, by omega, Or.inr ⟨rfl, by omega⟩⟩
  · by_cases e : k = b
    · rw [e, setX_same]
    · rw [setX_ne _ e]; exact h3 k hk z
  · by_cases e : k = b
    · rw [e]; exact (itr_Lst R F T).2.1 a b ha hb (h4 a ha hxa) hf
    · rw [setX_ne _ e] at z; exact h4 k hk z
theorem LvI_u {R : Nat} {F : Nat → Nat → Bool} {T B : Nat → Bool} {M0 : Nat} {P Q Q' : Nat → Nat → Prop} {l2 : Int32} {d u : Nat → Int32} {a b : Nat} (ha : a < R) (hb : b < R) (h : LvI R F T B M0 P Q l2 d u) (hf : F a b = true) (h0 : ¬ u b = 0) (h1' : u a = 0) : LvI R F T B M0 P Q' 1 d (upd u a 1) := by
  obtain ⟨X, Y, h1, h2, h3, h4, h5, h6, h7, h8⟩ := h
  have hxb : Y b = true := by
    rw [h2 b hb] at h0
    cases hz : Y b with
    | true => rfl
    | false => rw [hz] at h0; exact absurd rfl h0
  have hxa : Y a = false := by
    rw [h2 a ha] at h1'
    cases hz : Y a with
    | false => rfl
    | true => rw [hz] at h1'; exact absurd h1' (by decide)
  have hct := ct_set ha hxa
  refine ⟨X, setX Y a true, h1, SB_upd h2 a true, h3, h4, fun k hk z => ?_, fun k hk z => ?_, by omega, Or.inr ⟨rfl, by omega⟩⟩
  · by_cases e : k = a
    · rw [e, setX_same]
    · rw [setX_ne _ e]; exact h5 k hk z
  · by_cases e : k = a
    · rw [e]; exact (itr_Lst R (flp F) B).2.1 b a hb ha (h6 b hb hxb) hf
    · rw [setX_ne _ e] at z; exact h6 k hk z
def prc (a b : Nat) : Nat → Nat → Prop := fun a' b' => a' < a ∨ (a' = a ∧ b' < b)
theorem prc_s {a b a' b' : Nat} (h : prc a (b + 1) a' b') : prc a b a' b' ∨ (a' = a ∧ b' = b) := by unfold prc at *; omega
theorem s_layLive {c w : Nat} (h1 : 1 ≤ c) (hc : c ≤ 3) (hw1 : 1 ≤ w) (hw : w ≤ 3) {al : Nat → Bool} {R : Nat → Int32} (hr : RuleM al R) {mr : Int32} {fits top bottom lv dn up : Nat → Int32} {post : Int32 → (Nat → Int32) → (Nat → Int32) → (Nat → Int32) → (Nat → Int32) → (Nat → Int32) → (Nat → Int32) → Prop}
    (k : ∀ fits' top' bottom' lv' dn' up', FitsOk al c w fits' top' bottom' → SB (c ^ w) lv' (lvS (c ^ w) (Fi al c w) (Tp al c w) (Bt al c w)) → post (nI (c ^ w)) fits' top' bottom' lv' dn' up') : q_X9_layLive (nI c) R mr fits top bottom lv dn up (nI w) post := by
  have h27 := pow_le27 hc hw
  unfold q_X9_layLive
  refine s_layFits hc h1 (by omega) hr (fun fits' top' bottom' hF => ?_)
  have kk := fun lv' dn' up' => k fits' top' bottom' lv' dn' up' hF
  obtain ⟨hT, hB, hFi⟩ := hF
  -- the last loop
  have fin : ∀ {d u : Nat → Int32}, SB (c ^ w) d (dnS (c ^ w) (Fi al c w) (Tp al c w)) → SB (c ^ w) u (upS (c ^ w) (Fi al c w) (Bt al c w)) → ∀ (m i : Nat) (g : Nat → Int32), i + m = (c ^ w) → (∀ a, a < i → g a = bI (lvS (c ^ w) (Fi al c w) (Tp al c w) (Bt al c w) a)) → r_X9_layLive_174 (nI c) R post (nI (c ^ w)) fits' top' bottom' d u (m + 1) (nI i) g := by
    intro d u hd hu m
    induction m with
    | zero =>
      intro i g hi hg
      unfold r_X9_layLive_174
      exact pk_le (c ^ w) i (fun _ => kk g d u (fun a ha => hg a (by omega))) (fun q => absurd q (by omega)) rfl rfl (by omega) (by omega)
    | succ m ih =>
      intro i g hi hg
      unfold r_X9_layLive_174
      have hin : vp_in (nI i) 27 := vp_in_nI (by omega) (by decide)
      refine pk_le (c ^ w) i (fun q => absurd q (by omega)) (fun _ => ⟨hin, ?_⟩) rfl rfl (by omega) (by omega)
      rw [nI_clamp (by omega), hd i (by omega), hu i (by omega), nI_1]
      have step : ∀ v : Bool, v = lvS (c ^ w) (Fi al c w) (Tp al c w) (Bt al c w) i → r_X9_layLive_174 (nI c) R post (nI (c ^ w)) fits' top' bottom' d u (m + 1) (nI (i + 1)) (upd g i (bI v)) := by
        intro v ev
        refine ih (i + 1) _ (by omega) (fun a ha => ?_)
        by_cases e : a = i
        · rw [e, upd_s, ev]
        · rw [upd_n _ e]; exact hg a (by omega)
      cases h1' : dnS (c ^ w) (Fi al c w) (Tp al c w) i with
      | false => exact b0 ⟨hin, step false (by unfold lvS; rw [h1']; rfl)⟩
      | true =>
        refine b1 ⟨hin, ?_⟩
        cases h2' : upS (c ^ w) (Fi al c w) (Bt al c w) i with
        | false => exact b0 ⟨hin, step false (by unfold lvS; rw [h1', h2']; rfl)⟩
        | true => exact b1 ⟨hin, step true (by unfold lvS; rw [h1', h2']; rfl)⟩
  -- one row of pairs
  have row : ∀ {K : Int32 → Int32 → (Nat → Int32) → (Nat → Int32) → Prop} {M0 a : Nat}, a < (c ^ w) → (∀ l2 d u, LvI (c ^ w) (Fi al c w) (Tp al c w) (Bt al c w) M0 (prc (a + 1) 0) (prc (a + 1) 0) l2 d u → K l2 (nI a) d u) → ∀ (m b : Nat) (l2 : Int32) (d u : Nat → Int32), b + m = (c ^ w) → LvI (c ^ w) (Fi al c w) (Tp al c w) (Bt al c w) M0 (prc a b) (prc a b) l2 d u → r_X9_layLive_66 (nI c) R (nI (c ^ w)) fits' top' bottom' lv post K (nI a) (m + 1) l2 (nI b) d u := by
    intro K M0 a ha hK m
    induction m with
    | zero =>
      intro b l2 d u hb hI
      unfold r_X9_layLive_66
      refine pk_le (c ^ w) b (fun _ => hK l2 d u ?_) (fun q => absurd q (by omega)) rfl rfl (by omega) (by omega)
      obtain ⟨X, Y, g1, g2, g3, g4, g5, g6, g7, g8⟩ := hI
      refine ⟨X, Y, g1, g2, g3, g4, g5, g6, g7, ?_⟩
      rcases g8 with ⟨e, p, q⟩ | g8
      · refine Or.inl ⟨e, fun a' b' ha' hb' hp => p a' b' ha' hb' ?_, fun a' b' ha' hb' hp => q a' b' ha' hb' ?_⟩
        · unfold prc at *; omega
        · unfold prc at *; omega
      · exact Or.inr g8
    | succ m ih =>
      intro b l2 d u hb hI
      unfold r_X9_layLive_66
      have ina : vp_in (nI a) 27 := vp_in_nI (by omega) (by decide)
      have inb : vp_in (nI b) 27 := vp_in_nI (by omega) (by decide)
      refine pk_le (c ^ w) b (fun q => absurd q (by omega)) (fun _ => ?_) rfl rfl (by omega) (by omega)
      rw [i243]
      refine ⟨vp_in_nI (by omega) (by decide), ?_⟩
      rw [nI_clamp (by omega), nI_clamp (by omega), nI_clamp (by omega), hFi a b ha (by omega)]
      -- the second half
      have half : ∀ (l2 : Int32) (d u : Nat → Int32), LvI (c ^ w) (Fi al c w) (Tp al c w) (Bt al c w) M0 (prc a (b + 1)) (prc a b) l2 d u → q_X9_layLive_124 (nI c) R (nI (c ^ w)) fits' top' bottom' lv (nI a) post K (r_X9_layLive_66 (nI c) R (nI (c ^ w)) fits' top' bottom' lv post K (nI a) (m + 1)) l2 (nI b) (bI (Fi al c w a b)) d u := by
        intro l2 d u hI
        unfold q_X9_layLive_124
        rw [nI_clamp (by omega), nI_clamp (by omega), nI_1]
        cases hf : Fi al c w a b with
        | false => exact b0 (ih (b + 1) l2 d u (by omega) (LvI_Q hI (fun _ _ => prc_s) (fun z => absurd (hf.symm.trans z) (by decide))))
        | true =>
          refine b1 ⟨inb, br (fun q => ?_) (fun q => ⟨ina, brn (fun q2 => ?_) (fun q2 => ⟨ina, ?_⟩)⟩)⟩
          · exact ih (b + 1) l2 d u (by omega) (LvI_Q hI (fun _ _ => prc_s) (fun _ z => absurd q z))
          · exact ih (b + 1) l2 d u (by omega) (LvI_Q hI (fun _ _ => prc_s) (fun _ _ => q2))
          · exact ih (b + 1) 1 d _ (by omega) (LvI_u ha (by omega) hI hf q q2)
      cases hf : Fi al c w a b with
      | false =>
        refine b0 ?_
        have := half l2 d u (LvI_P ha hI (fun _ _ => prc_s) (fun z => absurd (hf.symm.trans z) (by decide)))
        rw [hf] at this
        exact this
      | true =>
        rw [hf] at half
        refine b1 ⟨ina, br (fun q => ?_) (fun q => ⟨inb, brn (fun q2 => ?_) (fun q2 => ⟨inb, ?_⟩)⟩)⟩
        · exact half l2 d u (LvI_P ha hI (fun _ _ => prc_s) (fun _ z => absurd q z))
        · exact half l2 d u (LvI_P ha hI (fun _ _ => prc_s) (fun _ _ => q2))
        · exact half 1 _ u (LvI_d ha (by omega) hI hf q q2)
  -- all pairs
  have pass : ∀ {K : Int32 → (Nat → Int32) → (Nat → Int32) → Prop} {M0 : Nat}, (∀ l2 d u, LvI (c ^ w) (Fi al c w) (Tp al c w) (Bt al c w) M0 (prc (c ^ w) 0) (prc (c ^ w) 0) l2 d u → K l2 d u) → ∀ (m a : Nat) (l2 : Int32) (d u : Nat → Int32), a + m = (c ^ w) → LvI (c ^ w) (Fi al c w) (Tp al c w) (Bt al c w) M0 (prc a 0) (prc a 0) l2 d u → r_X9_layLive_55 (nI c) R (nI (c ^ w)) fits' top' bottom' lv post K (m + 1) l2 (nI a) d u := by
    intro K M0 hK m
    induction m with
    | zero =>
      intro a l2 d u ha hI
      unfold r_X9_layLive_55
      rw [show a = (c ^ w) by omega] at hI
      exact pk_le (c ^ w) a (fun _ => hK l2 d u hI) (fun q => absurd q (by omega)) rfl rfl (by omega) (by omega)
    | succ m ih =>
      intro a l2 d u ha hI
      unfold r_X9_layLive_55
      refine pk_le (c ^ w) a (fun q => absurd q (by omega)) (fun _ => ?_) rfl rfl (by omega) (by omega)
      refine ⟨(c ^ w) + 1, row (show a < (c ^ w) by omega) (fun l2 d u hI' => ?_) (c ^ w) 0 l2 d u (by omega) hI⟩
      unfold q_X9_layLive_163
      rw [nI_1]
      exact ih (a + 1) l2 d u (by omega) hI'
  have main : ∀ (m : Nat) (l2 : Int32) (d u : Nat → Int32), (∃ X Y : Nat → Bool, SB (c ^ w) d X ∧ SB (c ^ w) u Y ∧ (∀ a, a < (c ^ w) → Tp al c w a = true → X a = true) ∧ (∀ a, a < (c ^ w) → X a = true → dnS (c ^ w) (Fi al c w) (Tp al c w) a = true) ∧ (∀ a, a < (c ^ w) → Bt al c w a = true → Y a = true) ∧ (∀ a, a < (c ^ w) → Y a = true → upS (c ^ w) (Fi al c w) (Bt al c w) a = true) ∧ 2 * (c ^ w) ≤ fb_ct X (c ^ w) + fb_ct Y (c ^ w) + m ∧ (l2 = 1 ∨ (l2 = 0 ∧ Cl (c ^ w) (Fi al c w) X ∧ Cl (c ^ w) (flp (Fi al c w)) Y))) → r_X9_layLive_47 (nI c) R post (q_X9_layLive_172 (nI c) R post) (nI (c ^ w)) fits' top' bottom' lv (m + 2) l2 d u := by
    have stop : ∀ (n : Nat) (d u : Nat → Int32) (X Y : Nat → Bool), SB (c ^ w) d X → SB (c ^ w) u Y → (∀ a, a < (c ^ w) → Tp al c w a = true → X a = true) → (∀ a, a < (c ^ w) → X a = true → dnS (c ^ w) (Fi al c w) (Tp al c w) a = true) → (∀ a, a < (c ^ w) → Bt al c w a = true → Y a = true) → (∀ a, a < (c ^ w) → Y a = true → upS (c ^ w) (Fi al c w) (Bt al c w) a = true) → Cl (c ^ w) (Fi al c w) X → Cl (c ^ w) (flp (Fi al c w)) Y → r_X9_layLive_47 (nI c) R post (q_X9_layLive_172 (nI c) R post) (nI (c ^ w)) fits' top' bottom' lv (n + 1) 0 d u := by
      intro n d u X Y g1 g2 g3 g4 g5 g6 p q
      unfold r_X9_layLive_47
      refine b0 ?_
      unfold q_X9_layLive_172
      refine ⟨(c ^ w) + 1, fin (fun a ha => ?_) (fun a ha => ?_) (c ^ w) 0 lv (by omega) (fun a ha => absurd ha (by omega))⟩
      · rw [g1 a ha, bool_iff ⟨g4 a ha, (itr_Lst (c ^ w) (Fi al c w) (Tp al c w)).2.2 X g3 p a ha⟩]
      · rw [g2 a ha, bool_iff ⟨g6 a ha, (itr_Lst (c ^ w) (flp (Fi al c w)) (Bt al c w)).2.2 Y g5 q a ha⟩]
    intro m
    induction m with
    | zero =>
      rintro l2 d u ⟨X, Y, g1, g2, g3, g4, g5, g6, g7, rfl | ⟨rfl, p, q⟩⟩
      · unfold r_X9_layLive_47
        refine b1 ⟨(c ^ w) + 1, pass (M0 := fb_ct X (c ^ w) + fb_ct Y (c ^ w)) (fun l2 d u hI => ?_) (c ^ w) 0 0 d u (by omega) ⟨X, Y, g1, g2, g3, g4, g5, g6, Nat.le_refl _, Or.inl ⟨rfl, fun a' b' _ _ hp => absurd hp (by unfold prc; omega), fun a' b' _ _ hp => absurd hp (by unfold prc; omega)⟩⟩⟩
        obtain ⟨X', Y', e1, e2, e3, e4, e5, e6, e7, ⟨rfl, e8, e9⟩ | ⟨_, e8⟩⟩ := hI
        · unfold q_X9_layLive_169
          exact stop 0 d u X' Y' e1 e2 e3 e4 e5 e6 (fun a b ha hb z1 z2 => e8 a b ha hb (Or.inl ha) z2 z1) (fun b a hb ha z1 z2 => e9 a b ha hb (Or.inl ha) z2 z1)
        · have := fb_ct_le X' (c ^ w)
          have := fb_ct_le Y' (c ^ w)
          omega
      · exact stop 1 d u X Y g1 g2 g3 g4 g5 g6 p q
    | succ m ih =>
      rintro l2 d u ⟨X, Y, g1, g2, g3, g4, g5, g6, g7, rfl | ⟨rfl, p, q⟩⟩
      · unfold r_X9_layLive_47
        refine b1 ⟨(c ^ w) + 1, pass (M0 := fb_ct X (c ^ w) + fb_ct Y (c ^ w)) (fun l2 d u hI => ?_) (c ^ w) 0 0 d u (by omega) ⟨X, Y, g1, g2, g3, g4, g5, g6, Nat.le_refl _, Or.inl ⟨rfl, fun a' b' _ _ hp => absurd hp (by unfold prc; omega), fun a' b' _ _ hp => absurd hp (by unfold prc; omega)⟩⟩⟩
        obtain ⟨X', Y', e1, e2, e3, e4, e5, e6, e7, ⟨rfl, e8, e9⟩ | ⟨rfl, e8⟩⟩ := hI
        · unfold q_X9_layLive_169
          exact stop (m + 1) d u X' Y' e1 e2 e3 e4 e5 e6 (fun a b ha hb z1 z2 => e8 a b ha hb (Or.inl ha) z2 z1) (fun b a hb ha z1 z2 => e9 a b ha hb (Or.inl ha) z2 z1)
        · unfold q_X9_layLive_169
          exact ih 1 d u ⟨X', Y', e1, e2, e3, e4, e5, e6, by omega, Or.inl rfl⟩
      · exact stop (m + 2) d u X Y g1 g2 g3 g4 g5 g6 p q
  have begin' : ∀ (m i : Nat) (d u : Nat → Int32), i + m = (c ^ w) → (∀ a, a < i → d a = bI (Tp al c w a)) → (∀ a, a < i → u a = bI (Bt al c w a)) → r_X9_layLive_7 (nI c) R post (q_X9_layLive_45 (nI c) R post) (nI (c ^ w)) fits' top' bottom' lv (m + 1) (nI i) d u := by
    intro m
    induction m with
    | zero =>
      intro i d u hi hd hu
      unfold r_X9_layLive_7
      refine pk_le (c ^ w) i (fun _ => ?_) (fun q => absurd q (by omega)) rfl rfl (by omega) (by omega)
      unfold q_X9_layLive_45
      exact ⟨2 * (c ^ w) + 2, main (2 * (c ^ w)) 1 d u ⟨Tp al c w, Bt al c w, fun a ha => hd a (by omega), fun a ha => hu a (by omega), fun a _ z => z, fun a ha z => (itr_Lst (c ^ w) (Fi al c w) (Tp al c w)).1 a ha z, fun a _ z => z, fun a ha z => (itr_Lst (c ^ w) (flp (Fi al c w)) (Bt al c w)).1 a ha z, by omega, Or.inl rfl⟩⟩
    | succ m ih =>
      intro i d u hi hd hu
      unfold r_X9_layLive_7
      refine pk_le (c ^ w) i (fun q => absurd q (by omega)) (fun _ => ⟨vp_in_nI (by omega) (by decide), vp_in_nI (by omega) (by decide), ?_⟩) rfl rfl (by omega) (by omega)
      rw [nI_clamp (by omega), hT i (by omega), hB i (by omega), nI_1]
      refine ⟨bI_01 _, vp_in_nI (by omega) (by decide), vp_in_nI (by omega) (by decide), bI_01 _, ih (i + 1) _ _ (by omega) (fun a ha => ?_) (fun a ha => ?_)⟩
      · by_cases e : a = i
        · rw [e, upd_s]
        · rw [upd_n _ e]; exact hd a (by omega)
      · by_cases e : a = i
        · rw [e, upd_s]
        · rw [upd_n _ e]; exact hu a (by omega)
  exact ⟨(c ^ w) + 1, begin' (c ^ w) 0 dn up (by omega) (fun a ha => absurd ha (by omega)) (fun a ha => absurd ha (by omega))⟩
theorem s_liveM {c : Nat} (h1 : 1 ≤ c) (hc : c ≤ 3) {al : Nat → Bool} {R : Nat → Int32} (hr : RuleM al R) {mr l1 : Int32} {fits top bottom lv dn up : Nat → Int32} {post : Int32 → Int32 → (Nat → Int32) → (Nat → Int32) → (Nat → Int32) → (Nat → Int32) → (Nat → Int32) → (Nat → Int32) → Prop}
    (k : ∀ w : Nat, 1 ≤ w → w ≤ 3 → l1 = nI w → ∀ mr' fits' top' bottom' lv' dn' up', post (nI (liveA al c w)) mr' fits' top' bottom' lv' dn' up') (k0 : ¬ isTl l1 → post (-3) mr fits top bottom lv dn up) : q_X9_live (nI c) R mr fits top bottom lv dn up l1 post := by
  unfold q_X9_live
  refine s_isTall (fun w hw1 hw e => c1 ?_) (fun h => c0 (k0 h))
  subst e
  have h27 := pow_le27 hc hw
  refine s_layLive h1 hc hw1 hw hr (fun fits' top' bottom' lv' dn' up' hF hL => ?_)
  have loop : ∀ (m i : Nat), i + m = c ^ w → r_X9_live_19 (nI c) R post (nI (c ^ w)) fits' top' bottom' lv' dn' up' (m + 1) (nI (fb_ct (lvS (c ^ w) (Fi al c w) (Tp al c w) (Bt al c w)) i)) (nI i) := by
    intro m
    induction m with
    | zero =>
      intro i hi
      unfold r_X9_live_19
      rw [show i = c ^ w by omega]
      exact pk_le (c ^ w) (c ^ w) (fun _ => k w hw1 hw rfl _ _ _ _ _ _ _) (fun q => absurd q (by omega)) rfl rfl (by omega) (by omega)
    | succ m ih =>
      intro i hi
      unfold r_X9_live_19
      refine pk_le (c ^ w) i (fun q => absurd q (by omega)) (fun _ => ⟨vp_in_nI (by omega) (by decide), ?_⟩) rfl rfl (by omega) (by omega)
      have hI := ih (i + 1) (by omega)
      rw [fb_ct_succ] at hI
      rw [nI_clamp (by omega), hL i (by omega), nI_1, nI_1]
      cases hh : lvS (c ^ w) (Fi al c w) (Tp al c w) (Bt al c w) i with
      | false =>
        rw [hh] at hI
        rw [show ∀ n, nI n + (0 : Int32) = nI n from fun n => nI_add n 0]
        exact b0 hI
      | true => rw [hh] at hI; exact b1 hI
  exact ⟨c ^ w + 1, loop (c ^ w) 0 (by omega)⟩
