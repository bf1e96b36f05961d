/-! tall: the reference -/
def MtOk (R : Nat) (F : Nat → Nat → Bool) (q : Nat) (f : Nat → Int64) : Prop := ∀ a b, a < R → b < R → f (27 * a + b) = lN (mpw allB R F q a b % 1000000007)
theorem i27 {y a : Nat} : (27 : Int32) * nI y + nI a = nI (27 * y + a) := by rw [show (27 : Int32) = nI 27 from rfl, pk_mul, nI_add]
theorem s_multiply {R : Nat} (hR : R ≤ 27) {F : Nat → Nat → Bool} {p q : Nat} {pw sq pr : Nat → Int64} {l1 : Int32} (hp : l1 = 0 → MtOk R F p pw) (hp1 : ¬ l1 = 0 → p = q) (hq : MtOk R F q sq) {post : (Nat → Int64) → Prop} (k : ∀ pr', MtOk R F (p + q) pr' → post pr') : q_X9_multiply (nI R) pw sq pr l1 post := by
  unfold q_X9_multiply
  have inner : ∀ {K : Int32 → Int64 → (Nat → Int64) → Prop} {a b : Nat} {pr : Nat → Int64}, a < R → b < R → K (nI b) (lN (mpw allB R F (p + q) a b % 1000000007)) pr → ∀ (m i : Nat), i + m = R → r_X9_multiply_26 (nI R) pw sq l1 (nI a) post K (nI b) pr (m + 1) (lN (fb_sm (fun r => mpw allB R F p a r * mpw allB R F q r b) i % 1000000007)) (nI i) := by
    intro K a b pr ha hb hK m
    induction m with
    | zero =>
      intro i hi
      unfold r_X9_multiply_26
      rw [mpw_add p a q b hb rfl, sL_all] at hK
      rw [show i = R by omega]
      exact pk_le R R (fun _ => hK) (fun q => absurd q (by omega)) rfl rfl (by omega) (by omega)
    | succ m ih =>
      intro i hi
      unfold r_X9_multiply_26
      have fin : ∀ x : Int64, x = lN (mpw allB R F p a i % 1000000007) → q_X9_multiply_66 (nI R) pw sq l1 (nI a) (nI b) pr post K (r_X9_multiply_26 (nI R) pw sq l1 (nI a) post K (nI b) pr (m + 1)) (lN (fb_sm (fun r => mpw allB R F p a r * mpw allB R F q r b) i % 1000000007)) (nI i) x := by
        intro x ex
        unfold q_X9_multiply_66
        rw [i27, nI_1]
        refine ⟨vp_in_nI (by omega) (by decide), fun v ev => ?_⟩
        rw [nI_clamp (by omega), hq i b (by omega) hb, ex, remP] at ev
        rw [ev]
        exact ih (i + 1) (by omega)
      refine pk_le R i (fun q => absurd q (by omega)) (fun _ => ?_) rfl rfl (by omega) (by omega)
      rw [i27]
      refine br (fun z => ⟨vp_in_nI (by omega) (by decide), fin _ ?_⟩) (fun z => ⟨vp_in_nI (by omega) (by decide), fin _ ?_⟩)
      · rw [nI_clamp (by omega)]; exact hp z a i ha (by omega)
      · rw [nI_clamp (by omega), hp1 z]; exact hq a i ha (by omega)
  have mid : ∀ {K : Int32 → (Nat → Int64) → Prop} {a : Nat}, a < R → (∀ pr', (∀ a' b, a' < a + 1 → b < R → pr' (27 * a' + b) = lN (mpw allB R F (p + q) a' b % 1000000007)) → K (nI a) pr') → ∀ (m b : Nat) (g : Nat → Int64), b + m = R → (∀ a' b, a' < a → b < R → g (27 * a' + b) = lN (mpw allB R F (p + q) a' b % 1000000007)) → (∀ b', b' < b → g (27 * a + b') = lN (mpw allB R F (p + q) a b' % 1000000007)) → r_X9_multiply_12 (nI R) pw sq l1 post K (nI a) (m + 1) (nI b) g := by
    intro K a ha hK m
    induction m with
    | zero =>
      intro b g hb hlo hg
      unfold r_X9_multiply_12
      refine pk_le R b (fun _ => hK g (fun a' b' ha' hb' => ?_)) (fun q => absurd q (by omega)) rfl rfl (by omega) (by omega)
      by_cases e : a' = a
      · rw [e]; exact hg b' (by omega)
      · exact hlo a' b' (by omega) hb'
    | succ m ih =>
      intro b g hb hlo hg
      unfold r_X9_multiply_12
      refine pk_le R b (fun q => absurd q (by omega)) (fun _ => ?_) rfl rfl (by omega) (by omega)
      refine ⟨R + 1, inner ha (show b < R by omega) ?_ R 0 (by omega)⟩
      unfold q_X9_multiply_98
      rw [i27, nI_1]
      refine ⟨vp_in_nI (by omega) (by decide), ?_⟩
      rw [nI_clamp (by omega)]
      refine ih (b + 1) _ (by omega) (fun a' b' ha' hb' => ?_) (fun b' hb' => ?_)
      · rw [updL_n _ (by omega)]; exact hlo a' b' ha' hb'
      · by_cases e : b' = b
        · rw [e, updL_s]
        · rw [updL_n _ (by omega)]; exact hg b' (by omega)
  have outer : ∀ (m a : Nat) (g : Nat → Int64), a + m = R → (∀ a' b, a' < a → b < R → g (27 * a' + b) = lN (mpw allB R F (p + q) a' b % 1000000007)) → r_X9_multiply_2 (nI R) pw sq post l1 (m + 1) (nI a) g := by
    intro m
    induction m with
    | zero =>
      intro a g ha hg
      unfold r_X9_multiply_2
      exact pk_le R a (fun _ => k g (fun a' b ha' hb => hg a' b (by omega) hb)) (fun q => absurd q (by omega)) rfl rfl (by omega) (by omega)
    | succ m ih =>
      intro a g ha hg
      unfold r_X9_multiply_2
      refine pk_le R a (fun q => absurd q (by omega)) (fun _ => ?_) rfl rfl (by omega) (by omega)
      refine ⟨R + 1, mid (show a < R by omega) (fun g' hg' => ?_) R 0 g (by omega) hg (fun b' hb' => absurd hb' (by omega))⟩
      unfold q_X9_multiply_117
      rw [nI_1]
      exact ih (a + 1) g' (by omega) hg'
  exact ⟨R + 1, outer R 0 pr (by omega) (fun a' b ha' => absurd ha' (by omega))⟩
theorem s_tallM {c : Nat} (h1 : 1 ≤ c) (hc : c ≤ 3) {al : Nat → Bool} {R : Nat → Int32} (hr : RuleM al R) {mr l1 l2 : Int32} {fits top bottom : Nat → Int32} {pw sq pr : Nat → Int64} {post : Int32 → Int32 → (Nat → Int32) → (Nat → Int32) → (Nat → Int32) → (Nat → Int64) → (Nat → Int64) → (Nat → Int64) → Prop}
    (k : ∀ w h : Nat, 1 ≤ w → w ≤ 3 → 1 ≤ h → h ≤ 1000000000 → l1 = nI w → l2 = nI h → ∀ mr' fits' top' bottom' pw' sq' pr', post (tallA al c w h) mr' fits' top' bottom' pw' sq' pr') (k0 : ¬ isTl l1 ∨ talBad l2 → post (-3) mr fits top bottom pw sq pr) : q_X9_tall (nI c) R mr fits top bottom pw sq pr l1 l2 post := by
  unfold q_X9_tall
  refine s_isTall (fun w hw1 hw e => b1 ?_) (fun h => b0 (k0 (Or.inl h)))
  subst e
  have e9 : (1000000000 : Int64).toInt = 1000000000 := rfl
  refine s_in (fun q => c1 ?_) (fun q => c0 (k0 (Or.inr (by rw [tl1, e9] at q; exact q))))
  rw [tl1, e9] at q
  obtain ⟨h, hh1, hh, rfl⟩ := small (lo := 1) (hi := 1000000000) (a := l2) (by omega)
  have h27 := pow_le27 hc hw
  refine s_layFits hc h1 (by omega) hr (fun fits' top' bottom' hF => ?_)
  obtain ⟨hT, hB, hFi⟩ := hF
  have kk := k w h hw1 hw hh1 hh rfl rfl (nI (c ^ w)) fits' top' bottom'
  unfold tallA at kk
  -- the sum at the end
  let term : Nat → Nat → Nat := fun a b => (wt (Tp al c w a) * mpw allB (c ^ w) (Fi al c w) (h - 1) a b * wt (Bt al c w b)) % 1000000007
  have tlt : ∀ a b, term a b < 1000000007 := fun a b => Nat.mod_lt _ (by decide)
  have etot : fb_sm (fun a => fb_sm (term a) (c ^ w)) (c ^ w) % 1000000007 = totV allB (c ^ w) (Fi al c w) (Tp al c w) (Bt al c w) (h - 1) % 1000000007 := by
    have e1 : fb_sm (fun a => fb_sm (term a) (c ^ w)) (c ^ w) % 1000000007 = fb_sm (fun a => fb_sm (fun b => wt (Tp al c w a) * mpw allB (c ^ w) (Fi al c w) (h - 1) a b * wt (Bt al c w b)) (c ^ w)) (c ^ w) % 1000000007 := by
      rw [← sm_rem (fun a => fb_sm (term a) (c ^ w)), ← sm_rem (fun a => fb_sm (fun b => wt (Tp al c w a) * mpw allB (c ^ w) (Fi al c w) (h - 1) a b * wt (Bt al c w b)) (c ^ w))]
      congr 1
      exact fb_sm_cong (fun a _ => sm_rem _ _)
    rw [e1, sm_swap]
    congr 1
    unfold totV
    rw [sL_all]
    refine fb_sm_cong (fun b _ => ?_)
    unfold vpw
    rw [← sL_mulr, sL_all]
  have inner : ∀ {K : Int64 → Int32 → Prop} {pw sq pr : Nat → Int64} {a s : Nat}, a < c ^ w → s ≤ 27 * (27 * 1000000007) → MtOk (c ^ w) (Fi al c w) (h - 1) pw → K (lN (s + fb_sm (term a) (c ^ w))) (nI a) → ∀ (m i : Nat), i + m = c ^ w → r_X9_tall_228 (nI c) R (nI (c ^ w)) fits' top' bottom' pw sq pr post K (nI a) (m + 1) (lN (s + fb_sm (term a) i)) (nI i) := by
    intro K pw sq pr a s ha hs hp hK m
    induction m with
    | zero =>
      intro i hi
      unfold r_X9_tall_228
      rw [show i = c ^ w by omega]
      exact pk_le (c ^ w) (c ^ w) (fun _ => hK) (fun q => absurd q (by omega)) rfl rfl (by omega) (by omega)
    | succ m ih =>
      intro i hi
      unfold r_X9_tall_228
      have hI := ih (i + 1) (by omega)
      rw [fb_sm_succ] at hI
      refine pk_le (c ^ w) i (fun q => absurd q (by omega)) (fun _ => ⟨vp_in_nI (by omega) (by decide), ?_⟩) rfl rfl (by omega) (by omega)
      rw [nI_clamp (show a < 2 ^ 31 by omega), nI_clamp (show i < 2 ^ 31 by omega), hT a ha, hB i (by omega), i27, nI_1, show ∀ x, lN x + (0 : Int64) = lN x from fun x => lN_add x 0]
      cases ht : Tp al c w a with
      | false =>
        have et : term a i = 0 := by show (wt (Tp al c w a) * _ * _) % _ = 0; rw [ht, wt_f, Nat.zero_mul, Nat.zero_mul]
        rw [et, Nat.add_zero] at hI
        exact b0 hI
      | true =>
        refine b1 ⟨vp_in_nI (by omega) (by decide), ?_⟩
        cases hbb : Bt al c w i with
        | false =>
          have et : term a i = 0 := by show (_ * wt (Bt al c w i)) % _ = 0; rw [hbb, wt_f, Nat.mul_zero]
          rw [et, Nat.add_zero] at hI
          exact b0 hI
        | true =>
          have et : term a i = mpw allB (c ^ w) (Fi al c w) (h - 1) a i % 1000000007 := by show (wt (Tp al c w a) * _ * wt (Bt al c w i)) % _ = _; rw [ht, hbb, wt_t, Nat.one_mul, Nat.mul_one]
          refine b1 ⟨vp_in_nI (by omega) (by decide), fun v ev => ?_⟩
          rw [nI_clamp (by omega), hp a i ha (by omega), lN_add', ← et] at ev
          rw [ev, Nat.add_assoc]
          exact hI
  have outer : ∀ {pw sq pr : Nat → Int64}, MtOk (c ^ w) (Fi al c w) (h - 1) pw → ∀ (m a : Nat), a + m = c ^ w → r_X9_tall_216 (nI c) R post (nI (c ^ w)) fits' top' bottom' pw sq pr (m + 1) (lN (fb_sm (fun a => fb_sm (term a) (c ^ w)) a)) (nI a) := by
    intro pw sq pr hp m
    have rowle : ∀ a, fb_sm (term a) (c ^ w) ≤ 27 * 1000000007 := fun a => Nat.le_trans (fb_sm_bound (fun b _ => Nat.le_of_lt (tlt a b))) (Nat.mul_le_mul_right _ h27)
    have alle : ∀ n, n ≤ 27 → fb_sm (fun a => fb_sm (term a) (c ^ w)) n ≤ 27 * (27 * 1000000007) := fun n hn => Nat.le_trans (fb_sm_bound (fun a _ => rowle a)) (Nat.mul_le_mul_right _ hn)
    induction m with
    | zero =>
      intro a ha
      unfold r_X9_tall_216
      have := alle a (by omega)
      rw [show (1000000007 : Int64) = lN 1000000007 from rfl, pk_lRem (by omega) (by decide) (by decide), lN_i, show a = c ^ w by omega, etot]
      exact pk_le (c ^ w) (c ^ w) (fun _ => kk _ _ _) (fun q => absurd q (by omega)) rfl rfl (by omega) (by omega)
    | succ m ih =>
      intro a ha
      unfold r_X9_tall_216
      refine pk_le (c ^ w) a (fun q => absurd q (by omega)) (fun _ => ?_) rfl rfl (by omega) (by omega)
      refine ⟨c ^ w + 1, inner (show a < c ^ w by omega) (alle a (by omega)) hp ?_ (c ^ w) 0 (by omega)⟩
      unfold q_X9_tall_283
      rw [nI_1, ← fb_sm_succ (fun a => fb_sm (term a) (c ^ w))]
      exact ih (a + 1) (by omega)
  -- copies
  have copyP : ∀ {K : Int32 → (Nat → Int64) → (Nat → Int64) → (Nat → Int64) → Prop} {l3 : Int32} {sq pr : Nat → Int64}, (∀ pw, (∀ i, i < 729 → pw i = pr i) → K l3 pw sq pr) → ∀ (m i : Nat) (g : Nat → Int64), i + m = 729 → (∀ j, j < i → g j = pr j) → r_X9_tall_140 (nI c) R (nI (c ^ w)) fits' top' bottom' post K l3 sq pr (m + 1) (nI i) g := by
    intro K l3 sq pr hK m
    induction m with
    | zero =>
      intro i g hi hg
      unfold r_X9_tall_140
      exact pk_le 729 i (fun _ => hK g (fun j hj => hg j (by omega))) (fun q => absurd q (by omega)) rfl rfl (by omega) (by omega)
    | succ m ih =>
      intro i g hi hg
      unfold r_X9_tall_140
      have hin : vp_in (nI i) 729 := vp_in_nI (by omega) (by decide)
      refine pk_le 729 i (fun q => absurd q (by omega)) (fun _ => ⟨hin, hin, ?_⟩) rfl rfl (by omega) (by omega)
      rw [nI_clamp (by omega), nI_1]
      refine ih (i + 1) _ (by omega) (fun j hj => ?_)
      by_cases e : j = i
      · rw [e, updL_s]
      · rw [updL_n _ e]; exact hg j (by omega)
  have copyS : ∀ {K : Int32 → (Nat → Int64) → (Nat → Int64) → (Nat → Int64) → Prop} {l3 : Int32} {pw pr : Nat → Int64}, (∀ sq, (∀ i, i < 729 → sq i = pr i) → K l3 pw sq pr) → ∀ (m i : Nat) (g : Nat → Int64), i + m = 729 → (∀ j, j < i → g j = pr j) → r_X9_tall_176 (nI c) R (nI (c ^ w)) fits' top' bottom' post K l3 pw pr (m + 1) (nI i) g := by
    intro K l3 pw pr hK m
    induction m with
    | zero =>
      intro i g hi hg
      unfold r_X9_tall_176
      exact pk_le 729 i (fun _ => hK g (fun j hj => hg j (by omega))) (fun q => absurd q (by omega)) rfl rfl (by omega) (by omega)
    | succ m ih =>
      intro i g hi hg
      unfold r_X9_tall_176
      have hin : vp_in (nI i) 729 := vp_in_nI (by omega) (by decide)
      refine pk_le 729 i (fun q => absurd q (by omega)) (fun _ => ⟨hin, hin, ?_⟩) rfl rfl (by omega) (by omega)
      rw [nI_clamp (by omega), nI_1]
      refine ih (i + 1) _ (by omega) (fun j hj => ?_)
      by_cases e : j = i
      · rw [e, updL_s]
      · rw [updL_n _ e]; exact hg j (by omega)
  have mcopy : ∀ {q : Nat} {f g : Nat → Int64}, (∀ i, i < 729 → f i = g i) → MtOk (c ^ w) (Fi al c w) q g → MtOk (c ^ w) (Fi al c w) q f := fun he hg a b ha hb => by rw [he _ (by omega), hg a b ha hb]
  have loop : ∀ (f left : Nat), left < 2 ^ f → left < 2 ^ 30 → ∀ (e q : Nat) (pw sq pr : Nat → Int64), e + q * left = h - 1 → MtOk (c ^ w) (Fi al c w) e pw → MtOk (c ^ w) (Fi al c w) q sq → r_X9_tall_121 (nI c) R post (q_X9_tall_211 (nI c) R post) (nI (c ^ w)) fits' top' bottom' (f + 1) (nI left) pw sq pr := by
    have stop : ∀ (f left : Nat), left = 0 → ∀ (e q : Nat) (pw sq pr : Nat → Int64), e + q * left = h - 1 → MtOk (c ^ w) (Fi al c w) e pw → r_X9_tall_121 (nI c) R post (q_X9_tall_211 (nI c) R post) (nI (c ^ w)) fits' top' bottom' (f + 1) (nI left) pw sq pr := by
      intro f left h0 e q pw sq pr he hp
      unfold r_X9_tall_121
      rw [h0, Nat.mul_zero, Nat.add_zero] at he
      rw [he] at hp
      refine pk_le left 0 (fun _ => ?_) (fun z => absurd z (by omega)) rfl rfl (by omega) (by omega)
      unfold q_X9_tall_211
      exact ⟨c ^ w + 1, outer hp (c ^ w) 0 (by omega)⟩
    intro f
    induction f with
    | zero =>
      intro left hlt hl30 e q pw sq pr he hp hq
      exact stop 0 left (by simp at hlt; exact hlt) e q pw sq pr he hp
    | succ f ih =>
      intro left hlt hl30 e q pw sq pr he hp hq
      by_cases h0 : left = 0
      · exact stop (f + 1) left h0 e q pw sq pr he hp
      · rw [Nat.pow_succ] at hlt
        have e2 : (2 : Int32) = nI 2 := rfl
        have go : ∀ (e' : Nat) (pw' pr' : Nat → Int64), e' + (q + q) * (left / 2) = h - 1 → MtOk (c ^ w) (Fi al c w) e' pw' → q_X9_tall_168 (nI c) R (nI (c ^ w)) fits' top' bottom' post (q_X9_tall_211 (nI c) R post) (r_X9_tall_121 (nI c) R post (q_X9_tall_211 (nI c) R post) (nI (c ^ w)) fits' top' bottom' (f + 1)) (nI left) pw' sq pr' := by
          intro e' pw' pr' he' hp'
          unfold q_X9_tall_168
          refine s_multiply h27 (p := q) (q := q) (fun z => absurd z (by decide)) (fun _ => rfl) hq (fun pr2 hpr2 => ?_)
          refine ⟨730, copyS (fun sq2 hsq2 => ?_) 729 0 sq (by omega) (fun j hj => absurd hj (by omega))⟩
          unfold q_X9_tall_204
          rw [e2, pk_div (by omega) (by decide) (by decide)]
          exact ih (left / 2) (by omega) (by omega) e' (q + q) pw' sq2 pr2 he' hp' (mcopy hsq2 hpr2)
        have eq2 : q * left = (q + q) * (left / 2) + q * (left % 2) := by
          have : left = 2 * (left / 2) + left % 2 := by omega
          rw [← Nat.mul_two, Nat.mul_assoc, ← Nat.mul_add, ← this]
        unfold r_X9_tall_121
        refine pk_le left 0 (fun z => absurd z (by omega)) (fun _ => ?_) rfl rfl (by omega) (by omega)
        rw [e2, pk_rem (by omega) (by decide) (by decide), show (1 : Int32) = nI 1 from rfl, nI_eq (by omega) (by decide)]
        refine brn (fun z => ?_) (fun z => ?_)
        · rw [eq2, show left % 2 = 0 by omega, Nat.mul_zero, Nat.add_zero] at he
          exact go e pw pr he hp
        · rw [eq2, z, Nat.mul_one] at he
          refine s_multiply h27 (p := e) (q := q) (fun _ => hp) (fun z => absurd rfl z) hq (fun pr2 hpr2 => ?_)
          refine ⟨730, copyP (fun pw2 hpw2 => ?_) 729 0 pw (by omega) (fun j hj => absurd hj (by omega))⟩
          exact go (e + q) pw2 pr2 (by omega) (mcopy hpw2 hpr2)
  -- the first tables
  have frow : ∀ {K : Int32 → (Nat → Int64) → (Nat → Int64) → Prop} {l2 : Int32} {pr : Nat → Int64} {a : Nat}, a < c ^ w → (∀ pw sq, (∀ a' b, a' < a + 1 → b < c ^ w → pw (27 * a' + b) = lN (mpw allB (c ^ w) (Fi al c w) 0 a' b % 1000000007)) → (∀ a' b, a' < a + 1 → b < c ^ w → sq (27 * a' + b) = lN (mpw allB (c ^ w) (Fi al c w) 1 a' b % 1000000007)) → K (nI a) pw sq) → ∀ (m b : Nat) (pw sq : Nat → Int64), b + m = c ^ w → (∀ a' b, a' < a → b < c ^ w → pw (27 * a' + b) = lN (mpw allB (c ^ w) (Fi al c w) 0 a' b % 1000000007)) → (∀ a' b, a' < a → b < c ^ w → sq (27 * a' + b) = lN (mpw allB (c ^ w) (Fi al c w) 1 a' b % 1000000007)) → (∀ b', b' < b → pw (27 * a + b') = lN (mpw allB (c ^ w) (Fi al c w) 0 a b' % 1000000007) ∧ sq (27 * a + b') = lN (mpw allB (c ^ w) (Fi al c w) 1 a b' % 1000000007)) → r_X9_tall_40 (nI c) R l2 (nI (c ^ w)) fits' top' bottom' pr post K (nI a) (m + 1) (nI b) pw sq := by
    intro K l2 pr a ha hK m
    induction m with
    | zero =>
      intro b pw sq hb h1 h2 h3
      unfold r_X9_tall_40
      refine pk_le (c ^ w) b (fun _ => hK pw sq (fun a' b' ha' hb' => ?_) (fun a' b' ha' hb' => ?_)) (fun q => absurd q (by omega)) rfl rfl (by omega) (by omega)
      · by_cases e : a' = a
        · rw [e]; exact (h3 b' (by omega)).1
        · exact h1 a' b' (by omega) hb'
      · by_cases e : a' = a
        · rw [e]; exact (h3 b' (by omega)).2
        · exact h2 a' b' (by omega) hb'
    | succ m ih =>
      intro b pw sq hb h1 h2 h3
      unfold r_X9_tall_40
      have step : ∀ v u : Nat, v = mpw allB (c ^ w) (Fi al c w) 0 a b → u = wt (Fi al c w a b) → r_X9_tall_40 (nI c) R l2 (nI (c ^ w)) fits' top' bottom' pr post K (nI a) (m + 1) (nI (b + 1)) (vp_updL pw (27 * a + b) (lN v)) (vp_updL sq (27 * a + b) (lN u)) := by
        intro v u ev eu
        have evr : mpw allB (c ^ w) (Fi al c w) 0 a b % 1000000007 = mpw allB (c ^ w) (Fi al c w) 0 a b := by
          show (if a = b then 1 else 0) % 1000000007 = if a = b then 1 else 0
          split <;> rfl
        refine ih (b + 1) _ _ (by omega) (fun a' b' ha' hb' => ?_) (fun a' b' ha' hb' => ?_) (fun b' hb' => ?_)
        · rw [updL_n _ (by omega)]; exact h1 a' b' ha' hb'
        · rw [updL_n _ (by omega)]; exact h2 a' b' ha' hb'
        · by_cases e : b' = b
          · rw [e, updL_s, updL_s, evr, ev, mpw_1 ha rfl, wt_rem, eu]; exact ⟨rfl, rfl⟩
          · rw [updL_n _ (by omega), updL_n _ (by omega)]; exact h3 b' (by omega)
      have half : ∀ v : Nat, v = mpw allB (c ^ w) (Fi al c w) 0 a b → q_X9_tall_71 (nI c) R l2 (nI (c ^ w)) fits' top' bottom' pr (nI a) post K (r_X9_tall_40 (nI c) R l2 (nI (c ^ w)) fits' top' bottom' pr post K (nI a) (m + 1)) (nI b) (lN v) (nI (27 * a + b)) pw sq := by
        intro v ev
        unfold q_X9_tall_71
        rw [i243, i27, nI_1]
        refine ⟨vp_in_nI (by omega) (by decide), vp_in_nI (by omega) (by decide), ?_⟩
        rw [nI_clamp (show 243 * a + b < 2 ^ 31 by omega), nI_clamp (show 27 * a + b < 2 ^ 31 by omega), hFi a b ha (by omega)]
        cases hf : Fi al c w a b with
        | false => exact b0 ⟨vp_in_nI (by omega) (by decide), step v 0 ev (by rw [hf]; rfl)⟩
        | true => exact b1 ⟨vp_in_nI (by omega) (by decide), step v 1 ev (by rw [hf]; rfl)⟩
      refine pk_le (c ^ w) b (fun q => absurd q (by omega)) (fun _ => ?_) rfl rfl (by omega) (by omega)
      rw [i27, nI_eq (by omega) (by omega)]
      refine brn (fun z => half 0 ?_) (fun z => half 1 ?_)
      · show 0 = if a = b then 1 else 0
        rw [if_neg z]
      · show 1 = if a = b then 1 else 0
        rw [if_pos z]
  have first : ∀ (m a : Nat) (pw sq : Nat → Int64), a + m = c ^ w → (∀ a' b, a' < a → b < c ^ w → pw (27 * a' + b) = lN (mpw allB (c ^ w) (Fi al c w) 0 a' b % 1000000007)) → (∀ a' b, a' < a → b < c ^ w → sq (27 * a' + b) = lN (mpw allB (c ^ w) (Fi al c w) 1 a' b % 1000000007)) → r_X9_tall_29 (nI c) R post (q_X9_tall_117 (nI c) R post) (nI h) (nI (c ^ w)) fits' top' bottom' pr (m + 1) (nI a) pw sq := by
    intro m
    induction m with
    | zero =>
      intro a pw sq ha h1 h2
      unfold r_X9_tall_29
      refine pk_le (c ^ w) a (fun _ => ?_) (fun q => absurd q (by omega)) rfl rfl (by omega) (by omega)
      unfold q_X9_tall_117
      have eh : nI h - (1 : Int32) = nI (h - 1) := by rw [show (1 : Int32) = nI 1 from rfl, pk_sub hh1]
      rw [eh]
      exact ⟨31, loop 30 (h - 1) (by omega) (by omega) 0 1 pw sq pr (by omega) (fun a' b ha' hb => h1 a' b (by omega) hb) (fun a' b ha' hb => h2 a' b (by omega) hb)⟩
    | succ m ih =>
      intro a pw sq ha h1 h2
      unfold r_X9_tall_29
      refine pk_le (c ^ w) a (fun q => absurd q (by omega)) (fun _ => ?_) rfl rfl (by omega) (by omega)
      refine ⟨c ^ w + 1, frow (show a < c ^ w by omega) (fun pw2 sq2 g1 g2 => ?_) (c ^ w) 0 pw sq (by omega) h1 h2 (fun b' hb' => absurd hb' (by omega))⟩
      unfold q_X9_tall_111
      rw [nI_1]
      exact ih (a + 1) pw2 sq2 (by omega) g1 g2
  exact ⟨c ^ w + 1, first (c ^ w) 0 pw sq (by omega) (fun a' b ha' => absurd ha' (by omega)) (fun a' b ha' => absurd ha' (by omega))⟩
