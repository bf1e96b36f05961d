/-! lowest -/
def ltS (R : Nat) (F : Nat → Nat → Bool) (T : Nat → Bool) : Nat → Nat → Bool
  | 0 => T
  | n + 1 => aft R F (ltS R F T n)
def hitS (R : Nat) (F : Nat → Nat → Bool) (T B : Nat → Bool) (n : Nat) : Bool := anyB R (fun a => ltS R F T n a && B a)
def lowS (R : Nat) (F : Nat → Nat → Bool) (T B : Nat → Bool) : Nat → Nat → Int32
  | 0, _ => -1
  | m + 1, n => if hitS R F T B n then nI (n + 1) else lowS R F T B m (n + 1)
def lowA (al : Nat → Bool) (c w : Nat) : Int32 := lowS (c ^ w) (Fi al c w) (Tp al c w) (Bt al c w) (c ^ w) 0
theorem s_leastHeight {R : Nat} (hR : R ≤ 27) {F : Nat → Nat → Bool} {T B : Nat → Bool} {bl : Nat → Int32} {t b : Int32} (hb : ∀ r, r < R → BS R (bl r) (F r)) (ht : BS R t T) (hB : BS R b B) {post : Int32 → Prop} (k : post (lowS R F T B R 0)) : q_X5_leastHeight t b bl (nI R) post := by
  unfold q_X5_leastHeight
  have loop : ∀ (m n : Nat) (x : Int32), n + m = R → BS R x (ltS R F T n) → post (lowS R F T B m n) → r_X5_leastHeight_7 t b bl (nI R) post (m + 1) x (nI (n + 1)) := by
    intro m
    induction m with
    | zero =>
      intro n x hn hx k
      unfold r_X5_leastHeight_7
      exact pk_lt R (n + 1) (fun _ => k) (fun q => absurd q (by omega)) rfl rfl (by omega) (by omega)
    | succ m ih =>
      intro n x hn hx k
      unfold r_X5_leastHeight_7
      refine pk_lt R (n + 1) (fun q => absurd q (by omega)) (fun _ => ?_) rfl rfl (by omega) (by omega)
      have k' : post (if hitS R F T B n then nI (n + 1) else lowS R F T B m (n + 1)) := k
      have e0 := BS_eq0 hR (BS_and hx hB)
      refine br (fun q => ?_) (fun q => ?_)
      · have : hitS R F T B n = false := anyB_f (e0.mp q)
        rw [this] at k'
        refine s_after hR hb hx (fun y hy => ?_)
        rw [nI_1]
        exact ih (n + 1) y (by omega) hy k'
      · have : hitS R F T B n = true := by
          cases hh : hitS R F T B n with
          | true => rfl
          | false =>
            refine absurd (e0.mpr (fun j hj => ?_)) q
            apply Bool.eq_false_iff.mpr
            intro z
            have : hitS R F T B n = true := anyB_iff.mpr ⟨j, hj, z⟩
            rw [this] at hh
            exact absurd hh (by decide)
        rw [this] at k'
        exact k'
  exact ⟨R + 1, loop R 0 t (by omega) ht k⟩
theorem s_lowestX {c : Nat} (h1 : 1 ≤ c) (hc : c ≤ 3) {al : Nat → Bool} {R : Nat → Int32} (hr : RuleOk al R) {t b a1 a2 a3 a4 l1 : Int32} {bl fr pw : Nat → Int32} {post : Int32 → Int32 → Int32 → (Nat → Int32) → Int32 → Int32 → Int32 → Int32 → (Nat → Int32) → (Nat → Int32) → Prop}
    (k : ∀ w : Nat, 1 ≤ w → w ≤ 3 → l1 = nI w → ∀ t' b' bl' a1' a2' a3' a4' fr' pw', post (lowA al c w) t' b' bl' a1' a2' a3' a4' fr' pw') (k0 : ¬ isTl l1 → post (-3) t b bl a1 a2 a3 a4 fr pw) : q_X8_lowest (nI c) R t b bl a1 a2 a3 a4 fr pw l1 post := by
  unfold q_X8_lowest
  refine s_isStrip (fun w hw1 hw e => c1 ?_) (fun h => c0 (k0 h))
  subst e
  have h27 := pow_le27 hc hw
  refine s_layS h1 hc hw1 hw hr (fun t' b' bl' rg' fr' pw' hS => ?_)
  exact s_leastHeight h27 hS.2.2 hS.1 hS.2.1 (k w hw1 hw rfl _ _ _ _ _ _ _ _ _)
theorem s_lowestM {c : Nat} (h1 : 1 ≤ c) (hc : c ≤ 3) {al : Nat → Bool} {R : Nat → Int32} (hr : RuleM al R) {mr l1 : Int32} {fits top bottom dn up : Nat → Int32} {post : Int32 → Int32 → (Nat → Int32) → (Nat → Int32) → (Nat → Int32) → (Nat → Int32) → (Nat → Int32) → Prop}
    (k : ∀ w : Nat, 1 ≤ w → w ≤ 3 → l1 = nI w → ∀ mr' fits' top' bottom' dn' up', post (lowA al c w) mr' fits' top' bottom' dn' up') (k0 : ¬ isTl l1 → post (-3) mr fits top bottom dn up) : q_X9_lowest (nI c) R mr fits top bottom dn up l1 post := by
  unfold q_X9_lowest
  refine s_isTall (fun w hw1 hw e => c1 ?_) (fun h => c0 (k0 h))
  subst e
  have h27 := pow_le27 hc hw
  refine s_layFits hc h1 (by omega) hr (fun fits' top' bottom' hF => ?_)
  obtain ⟨hT, hB, hFi⟩ := hF
  have kk := k w hw1 hw rfl (nI (c ^ w)) fits' top' bottom'
  unfold lowA at kk
  -- down becomes up
  have copy : ∀ {K : Int32 → (Nat → Int32) → (Nat → Int32) → Prop} {l2 : Int32} {u : Nat → Int32} {X : Nat → Bool}, SB (c ^ w) u X → (∀ d, SB (c ^ w) d X → K l2 d u) → ∀ (m i : Nat) (d : Nat → Int32), i + m = c ^ w → (∀ a, a < i → d a = bI (X a)) → r_X9_lowest_179 (nI c) R (nI (c ^ w)) fits' top' bottom' post K l2 u (m + 1) (nI i) d := by
    intro K l2 u X hu hK m
    induction m with
    | zero =>
      intro i d hi hd
      unfold r_X9_lowest_179
      exact pk_le (c ^ w) i (fun _ => hK d (fun a ha => hd a (by omega))) (fun q => absurd q (by omega)) rfl rfl (by omega) (by omega)
    | succ m ih =>
      intro i d hi hd
      unfold r_X9_lowest_179
      have hin : vp_in (nI i) 27 := vp_in_nI (by omega) (by decide)
      refine pk_le (c ^ w) i (fun q => absurd q (by omega)) (fun _ => ⟨hin, hin, ?_⟩) rfl rfl (by omega) (by omega)
      rw [nI_clamp (by omega), hu i (by omega), nI_1]
      refine ⟨bI_01 _, ih (i + 1) _ (by omega) (fun a ha => ?_)⟩
      by_cases e : a = i
      · rw [e, upd_s]
      · rw [upd_n _ e]; exact hd a (by omega)
  -- one row's steps
  have row : ∀ {K : Int32 → (Nat → Int32) → Prop} {l2 : Int32} {d : Nat → Int32} {S : Nat → Bool} {a : Nat}, a < c ^ w → SB (c ^ w) d S → (∀ u, SB (c ^ w) u (aft (a + 1) (Fi al c w) S) → K (nI a) u) → ∀ (m i : Nat) (u : Nat → Int32), i + m = c ^ w → (∀ b, b < i → u b = bI (aft (a + 1) (Fi al c w) S b)) → (∀ b, i ≤ b → b < c ^ w → u b = bI (aft a (Fi al c w) S b)) → r_X9_lowest_109 (nI c) R (nI (c ^ w)) fits' top' bottom' l2 d post K (nI a) (m + 1) (nI i) u := by
    intro K l2 d S a ha hd hK m
    induction m with
    | zero =>
      intro i u hi hlo hup
      unfold r_X9_lowest_109
      exact pk_le (c ^ w) i (fun _ => hK u (fun b hb => hlo b (by omega))) (fun q => absurd q (by omega)) rfl rfl (by omega) (by omega)
    | succ m ih =>
      intro i u hi hlo hup
      unfold r_X9_lowest_109
      have hin : vp_in (nI i) 27 := vp_in_nI (by omega) (by decide)
      have hia : vp_in (nI a) 27 := vp_in_nI (by omega) (by decide)
      have step : ∀ v : Bool, v = aft (a + 1) (Fi al c w) S i → r_X9_lowest_109 (nI c) R (nI (c ^ w)) fits' top' bottom' l2 d post K (nI a) (m + 1) (nI (i + 1)) (upd u i (bI v)) := by
        intro v ev
        refine ih (i + 1) _ (by omega) (fun b hb => ?_) (fun b hb1 hb2 => ?_)
        · by_cases e : b = i
          · rw [e, upd_s, ev]
          · rw [upd_n _ e]; exact hlo b (by omega)
        · rw [upd_n _ (by omega)]; exact hup b (by omega) hb2
      refine pk_le (c ^ w) i (fun q => absurd q (by omega)) (fun _ => ⟨hin, ?_⟩) rfl rfl (by omega) (by omega)
      rw [i243, nI_clamp (show i < 2 ^ 31 by omega), nI_clamp (show a < 2 ^ 31 by omega), nI_clamp (show 243 * a + i < 2 ^ 31 by omega), hup i (Nat.le_refl _) (by omega), hd a ha, hFi a i ha (by omega), nI_1]
      have es := aft_succ a (Fi al c w) S i
      cases hu : aft a (Fi al c w) S i with
      | true => exact c1 ⟨hin, step true (by rw [es, hu]; rfl)⟩
      | false =>
        rw [hu, Bool.false_or] at es
        refine c0 ⟨hia, ?_⟩
        cases hs : S a with
        | false => exact b0 ⟨hin, step false (by rw [es, hs]; rfl)⟩
        | true =>
          refine b1 ⟨vp_in_nI (by omega) (by decide), ?_⟩
          cases hf : Fi al c w a i with
          | false => exact b0 ⟨hin, step false (by rw [es, hs, hf]; rfl)⟩
          | true => exact b1 ⟨hin, step true (by rw [es, hs, hf]; rfl)⟩
  have rows : ∀ {K : Int32 → (Nat → Int32) → (Nat → Int32) → Prop} {l2 : Int32} {d : Nat → Int32} {S : Nat → Bool}, SB (c ^ w) d S → (∀ u, SB (c ^ w) u (aft (c ^ w) (Fi al c w) S) → K l2 d u) → ∀ (m a : Nat) (u : Nat → Int32), a + m = c ^ w → SB (c ^ w) u (aft a (Fi al c w) S) → r_X9_lowest_98 (nI c) R (nI (c ^ w)) fits' top' bottom' post K l2 d (m + 1) (nI a) u := by
    intro K l2 d S hd hK m
    induction m with
    | zero =>
      intro a u ha hu
      unfold r_X9_lowest_98
      rw [show a = c ^ w by omega] at hu
      exact pk_le (c ^ w) a (fun _ => hK u hu) (fun q => absurd q (by omega)) rfl rfl (by omega) (by omega)
    | succ m ih =>
      intro a u ha hu
      unfold r_X9_lowest_98
      refine pk_le (c ^ w) a (fun q => absurd q (by omega)) (fun _ => ?_) rfl rfl (by omega) (by omega)
      refine ⟨c ^ w + 1, row (show a < c ^ w by omega) hd (fun u' hu' => ?_) (c ^ w) 0 u (by omega) (fun b hb => absurd hb (by omega)) (fun b _ hb => hu b hb)⟩
      unfold q_X9_lowest_171
      rw [nI_1]
      exact ih (a + 1) u' (by omega) hu'
  -- whether a picture ends here
  have look : ∀ {K : Int32 → (Nat → Int32) → (Nat → Int32) → Prop} {n : Nat} {d : Nat → Int32}, SB (c ^ w) d (ltS (c ^ w) (Fi al c w) (Tp al c w) n) → (hitS (c ^ w) (Fi al c w) (Tp al c w) (Bt al c w) n = false → ∀ u, SB (c ^ w) u (fun _ => false) → K (nI (n + 1)) d u) → (hitS (c ^ w) (Fi al c w) (Tp al c w) (Bt al c w) n = true → ∀ u, post (nI (n + 1)) (nI (c ^ w)) fits' top' bottom' d u) → ∀ (m i : Nat) (u : Nat → Int32), i + m = c ^ w → (∀ a, a < i → (ltS (c ^ w) (Fi al c w) (Tp al c w) n a && Bt al c w a) = false) → (∀ a, a < i → u a = 0) → r_X9_lowest_55 (nI c) R (nI (c ^ w)) fits' top' bottom' post K (nI (n + 1)) d (m + 1) (nI i) u := by
    intro K n d hd hK0 hK1 m
    induction m with
    | zero =>
      intro i u hi hno hu
      unfold r_X9_lowest_55
      exact pk_le (c ^ w) i (fun _ => hK0 (anyB_f (fun a ha => hno a (by omega))) u (fun a ha => hu a (by omega))) (fun q => absurd q (by omega)) rfl rfl (by omega) (by omega)
    | succ m ih =>
      intro i u hi hno hu
      unfold r_X9_lowest_55
      have hin : vp_in (nI i) 27 := vp_in_nI (by omega) (by decide)
      refine pk_le (c ^ w) i (fun q => absurd q (by omega)) (fun _ => ⟨hin, ?_⟩) rfl rfl (by omega) (by omega)
      rw [nI_clamp (by omega), hd i (by omega), hB i (by omega)]
      have on : (ltS (c ^ w) (Fi al c w) (Tp al c w) n i && Bt al c w i) = false → q_X9_lowest_83 (nI c) R (nI (c ^ w)) fits' top' bottom' (nI (n + 1)) d post K (r_X9_lowest_55 (nI c) R (nI (c ^ w)) fits' top' bottom' post K (nI (n + 1)) d (m + 1)) (nI i) u := by
        intro hz
        unfold q_X9_lowest_83
        refine ⟨hin, ?_⟩
        rw [nI_clamp (by omega), nI_1]
        refine ih (i + 1) _ (by omega) (fun a ha => ?_) (fun a ha => ?_)
        · by_cases e : a = i
          · rw [e]; exact hz
          · exact hno a (by omega)
        · by_cases e : a = i
          · rw [e, upd_s]
          · rw [upd_n _ e]; exact hu a (by omega)
      cases hs : ltS (c ^ w) (Fi al c w) (Tp al c w) n i with
      | false => exact b0 (on (by rw [hs]; rfl))
      | true =>
        refine b1 ⟨vp_in_nI (by omega) (by decide), ?_⟩
        cases hb : Bt al c w i with
        | false => exact b0 (on (by rw [hb, Bool.and_false]))
        | true => exact b1 (hK1 (anyB_iff.mpr ⟨i, by omega, by rw [hs, hb]; rfl⟩) u)
  have main : ∀ (m n : Nat) (d u : Nat → Int32), n + m = c ^ w → SB (c ^ w) d (ltS (c ^ w) (Fi al c w) (Tp al c w) n) → (∀ d u, post (lowS (c ^ w) (Fi al c w) (Tp al c w) (Bt al c w) m n) (nI (c ^ w)) fits' top' bottom' d u) → r_X9_lowest_45 (nI c) R post (nI (c ^ w)) fits' top' bottom' (m + 1) (nI (n + 1)) d u := by
    intro m
    induction m with
    | zero =>
      intro n d u hn hd kx
      unfold r_X9_lowest_45
      exact pk_lt (c ^ w) (n + 1) (fun _ => kx d u) (fun q => absurd q (by omega)) rfl rfl (by omega) (by omega)
    | succ m ih =>
      intro n d u hn hd kx
      unfold r_X9_lowest_45
      refine pk_lt (c ^ w) (n + 1) (fun q => absurd q (by omega)) (fun _ => ?_) rfl rfl (by omega) (by omega)
      have kx' : ∀ d u, post (if hitS (c ^ w) (Fi al c w) (Tp al c w) (Bt al c w) n then nI (n + 1) else lowS (c ^ w) (Fi al c w) (Tp al c w) (Bt al c w) m (n + 1)) (nI (c ^ w)) fits' top' bottom' d u := kx
      refine ⟨c ^ w + 1, look hd (fun hz u' hu' => ?_) (fun hz u' => ?_) (c ^ w) 0 u (by omega) (fun a ha => absurd ha (by omega)) (fun a ha => absurd ha (by omega))⟩
      · rw [hz] at kx'
        unfold q_X9_lowest_96
        refine ⟨c ^ w + 1, rows hd (fun u2 hu2 => ?_) (c ^ w) 0 u' (by omega) (fun a ha => by rw [hu' a ha, aft_zero])⟩
        unfold q_X9_lowest_177
        refine ⟨c ^ w + 1, copy hu2 (fun d2 hd2 => ?_) (c ^ w) 0 d (by omega) (fun a ha => absurd ha (by omega))⟩
        unfold q_X9_lowest_205
        rw [nI_1]
        exact ih (n + 1) d2 u2 (by omega) hd2 kx'
      · rw [hz] at kx'
        exact kx' d u'
  have begin' : ∀ (m i : Nat) (d : Nat → Int32), i + m = c ^ w → (∀ a, a < i → d a = bI (Tp al c w a)) → r_X9_lowest_17 (nI c) R post (q_X9_lowest_43 (nI c) R post) (nI (c ^ w)) fits' top' bottom' up (m + 1) (nI i) d := by
    intro m
    induction m with
    | zero =>
      intro i d hi hd
      unfold r_X9_lowest_17
      refine pk_le (c ^ w) i (fun _ => ?_) (fun q => absurd q (by omega)) rfl rfl (by omega) (by omega)
      unfold q_X9_lowest_43
      exact ⟨c ^ w + 1, main (c ^ w) 0 d up (by omega) (fun a ha => hd a (by omega)) (fun d u => kk d u)⟩
    | succ m ih =>
      intro i d hi hd
      unfold r_X9_lowest_17
      refine pk_le (c ^ w) i (fun q => absurd q (by omega)) (fun _ => ⟨vp_in_nI (by omega) (by decide), vp_in_nI (by omega) (by decide), ?_⟩) rfl rfl (by omega) (by omega)
      rw [nI_clamp (by omega), hT i (by omega), nI_1]
      refine ⟨bI_01 _, ih (i + 1) _ (by omega) (fun a ha => ?_)⟩
      by_cases e : a = i
      · rw [e, upd_s]
      · rw [upd_n _ e]; exact hd a (by omega)
  exact ⟨c ^ w + 1, begin' (c ^ w) 0 dn (by omega) (fun a ha => absurd ha (by omega))⟩
