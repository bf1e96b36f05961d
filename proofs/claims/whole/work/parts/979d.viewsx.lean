/-! the class's views: rows by look -/
def kN (f : Nat → Int32) (i : Nat) : Nat := (f i).toNatClampNeg
theorem kN_nI {f : Nat → Int32} {i r : Nat} (hr : r < 2 ^ 31) (h : f i = nI r) : kN f i = r := by unfold kN; rw [h]; exact nI_clamp hr
theorem kN_congr {f g : Nat → Int32} {i : Nat} (h : f i = g i) : kN f i = kN g i := by unfold kN; rw [h]
def InR (R : Nat) (f : Nat → Int32) (i : Nat) : Prop := kN f i < R ∧ f i = nI (kN f i)
theorem InR_congr {R : Nat} {f g : Nat → Int32} {i : Nat} (h : f i = g i) (hi : InR R g i) : InR R f i := ⟨by rw [kN_congr h]; exact hi.1, by rw [kN_congr h, h]; exact hi.2⟩
theorem InR_upd {R r n : Nat} {f : Nat → Int32} (hR : R ≤ 243) (hr : r < R) : InR R (upd f n (nI r)) n ∧ kN (upd f n (nI r)) n = r := by
  have en : kN (upd f n (nI r)) n = r := kN_nI (by omega) (upd_s _ _ _)
  exact ⟨⟨by rw [en]; exact hr, by rw [en]; exact upd_s _ _ _⟩, en⟩
def lkX (lb : Nat → Bool) (c w r : Nat) : Nat := rvB (lkR lb c w r) w
def BylOk (R : Nat) (cl : Nat → Nat) (b : Nat → Int32) : Prop := (∀ i, i < R → InR R b i) ∧ (∀ i j, i ≤ j → j < R → cl (kN b i) ≤ cl (kN b j)) ∧ ∀ r, r < R → ∃ i, i < R ∧ kN b i = r
def ByInv (R : Nat) (cl : Nat → Nat) (n look r : Nat) (b : Nat → Int32) : Prop := n = fb_ct (fun r' => decide (cl r' < look)) R + fb_ct (fun r' => decide (cl r' = look)) r ∧ (∀ i, i < n → InR R b i ∧ cl (kN b i) ≤ look) ∧ (∀ i j, i ≤ j → j < n → cl (kN b i) ≤ cl (kN b j)) ∧ ∀ r', r' < R → (cl r' < look ∨ cl r' = look ∧ r' < r) → ∃ i, i < n ∧ kN b i = r'
theorem by_ct (R : Nat) (cl : Nat → Nat) (look : Nat) : fb_ct (fun r' => decide (cl r' < look + 1)) R = fb_ct (fun r' => decide (cl r' < look)) R + fb_ct (fun r' => decide (cl r' = look)) R := by
  rw [← fb_ct_or (p := fun r' => decide (cl r' < look)) (q := fun r' => decide (cl r' = look)) (fun k _ q => by
    have a : cl k < look := of_decide_eq_true q.1
    have b : cl k = look := of_decide_eq_true q.2
    omega)]
  refine fb_ct_cong (fun k _ => ?_)
  show decide (cl k < look + 1) = (decide (cl k < look) || decide (cl k = look))
  apply bool_iff
  rw [Bool.or_eq_true, decide_eq_true_iff, decide_eq_true_iff, decide_eq_true_iff]
  omega
theorem by_0 (R : Nat) (cl : Nat → Nat) (b : Nat → Int32) : ByInv R cl 0 0 0 b := by
  refine ⟨?_, fun i hi => absurd hi (by omega), fun i j _ hj => absurd hj (by omega), fun r' _ q => absurd q (by omega)⟩
  rw [fb_ct_zero.mpr (fun k _ => decide_eq_false (by omega))]; rfl
theorem by_next {R : Nat} {cl : Nat → Nat} {n look : Nat} {b : Nat → Int32} (h : ByInv R cl n look R b) : ByInv R cl n (look + 1) 0 b := by
  obtain ⟨e, h1, h2, h3⟩ := h
  refine ⟨?_, fun i hi => ⟨(h1 i hi).1, by have := (h1 i hi).2; omega⟩, h2, fun r' hr' q => h3 r' hr' (by omega)⟩
  rw [e, by_ct]; rfl
theorem by_no {R : Nat} {cl : Nat → Nat} {n look r : Nat} {b : Nat → Int32} (hc : ¬ cl r = look) (h : ByInv R cl n look r b) : ByInv R cl n look (r + 1) b := by
  obtain ⟨e, h1, h2, h3⟩ := h
  refine ⟨?_, h1, h2, fun r' hr' q => h3 r' hr' ?_⟩
  · rw [fb_ct_succ, if_neg (fun z => hc (of_decide_eq_true z)), Nat.add_zero]; exact e
  · rcases q with q | ⟨q1, q2⟩
    · exact Or.inl q
    · refine Or.inr ⟨q1, ?_⟩
      have : r' ≠ r := fun z => hc (by rw [← z]; exact q1)
      omega
theorem by_yes {R : Nat} (hR : R ≤ 243) {cl : Nat → Nat} {n look r : Nat} {b : Nat → Int32} (hr : r < R) (hc : cl r = look) (h : ByInv R cl n look r b) : n < R ∧ ByInv R cl (n + 1) look (r + 1) (upd b n (nI r)) := by
  obtain ⟨e, h1, h2, h3⟩ := h
  have es : fb_ct (fun r' => decide (cl r' = look)) (r + 1) = fb_ct (fun r' => decide (cl r' = look)) r + 1 := by
    rw [fb_ct_succ, if_pos (decide_eq_true hc)]
  have hm := fb_ct_mono (fun r' => decide (cl r' = look)) (show r + 1 ≤ R by omega)
  have e1 := by_ct R cl look
  have hle := fb_ct_le (fun r' => decide (cl r' < look + 1)) R
  have hn : n < R := by omega
  have eo : ∀ i, i < n → kN (upd b n (nI r)) i = kN b i := fun i hi => kN_congr (upd_n _ (by omega))
  obtain ⟨hin, en⟩ := InR_upd (f := b) (n := n) hR hr
  refine ⟨hn, by omega, fun i hi => ?_, fun i j hij hj => ?_, fun r' hr' q => ?_⟩
  · by_cases ei : i = n
    · rw [ei]; exact ⟨hin, by rw [en]; omega⟩
    · have := h1 i (by omega)
      exact ⟨InR_congr (upd_n _ ei) this.1, by rw [eo i (by omega)]; exact this.2⟩
  · by_cases ej : j = n
    · rw [ej, en]
      by_cases ei : i = n
      · rw [ei, en]; exact Nat.le_refl _
      · rw [eo i (by omega), hc]; exact (h1 i (by omega)).2
    · rw [eo i (by omega), eo j (by omega)]; exact h2 i j hij (by omega)
  · by_cases er : r' = r
    · exact ⟨n, by omega, by rw [en, er]⟩
    · obtain ⟨i, hi, e2⟩ := h3 r' hr' (by omega)
      exact ⟨i, by omega, by rw [eo i hi]; exact e2⟩
theorem shlW {v : Nat} {b : Bool} (hv : v < 2 ^ 29) : (nI v <<< ((1 : Int32) &&& 31)) ||| bI b = nI (v * 2 + wt b) := by
  have hb : wt b < 2 := by cases b <;> decide
  have eb : bI b = nI (wt b) := by cases b <;> rfl
  rw [eb, show (1 : Int32) = nI 1 from rfl, shlN (by decide) (by omega), Nat.mul_comm, fa_or_sum v (show wt b < 2 ^ 1 by omega), show 2 ^ 1 * v = v * 2 by omega]
theorem s_sortRows {c w : Nat} (h1 : 1 ≤ c) (hc : c ≤ 3) (hw : w ≤ 5) {lt : Nat → Int32} {lb : Nat → Bool} (hl : LtOk lt lb) {fr : Nat → Int32} (hf : ∀ r, r < c ^ w → fr r = nI (frm c w r)) {lo bl : Nat → Int32} {post : (Nat → Int32) → (Nat → Int32) → Prop} (k : ∀ lo' bl', (∀ r, r < c ^ w → lo' r = nI (lkX lb c w r)) → BylOk (c ^ w) (lkX lb c w) bl' → post lo' bl') : q_X6_sortRows lt (nI w) (nI (c ^ w)) fr lo bl post := by
  have h243 := pow_le243 hc hw
  have h2w : (2 : Nat) ^ w ≤ 32 := Nat.le_trans (Nat.pow_le_pow_right (by decide) hw) (by decide)
  have hcl : ∀ r, lkX lb c w r < 2 ^ w := fun r => rvB_lt _ w
  have e2w : (1 : Int32) <<< (nI w &&& 31) = nI (2 ^ w) := by
    rw [show (1 : Int32) = nI 1 from rfl, shlN (by omega) (by omega), Nat.one_mul]
  have row : ∀ (lo' : Nat → Int32), (∀ r, r < c ^ w → lo' r = nI (lkX lb c w r)) → ∀ {K : Int32 → Int32 → (Nat → Int32) → Prop} {look : Nat}, look < 2 ^ w → (∀ n b, ByInv (c ^ w) (lkX lb c w) n (look + 1) 0 b → K (nI n) (nI look) b) → ∀ (m r n : Nat) (b : Nat → Int32), r + m = c ^ w → ByInv (c ^ w) (lkX lb c w) n look r b → r_X6_sortRows_86 lt (nI w) (nI (c ^ w)) fr lo' post K (nI look) (m + 1) (nI n) (nI r) b := by
    intro lo' hlo K look hlk hK m
    induction m with
    | zero =>
      intro r n b hr hI
      unfold r_X6_sortRows_86
      have er : r = c ^ w := by omega
      rw [er] at hI
      exact pk_le (c ^ w) r (fun _ => hK n b (by_next hI)) (fun q => absurd q (by omega)) rfl rfl (by omega) (by omega)
    | succ m ih =>
      intro r n b hr hI
      unfold r_X6_sortRows_86
      refine pk_le (c ^ w) r (fun q => absurd q (by omega)) (fun _ => ⟨vp_in_nI (by omega) (by decide), ?_⟩) rfl rfl (by omega) (by omega)
      have hx := hcl r
      rw [nI_clamp (n := r) (by omega), hlo r (by omega), nI_1 r, nI_1 n, nI_eq (by omega) (by omega)]
      refine brn (fun q => ih (r + 1) n b (by omega) (by_no q hI)) (fun q => ?_)
      obtain ⟨hn, hI'⟩ := by_yes h243 (show r < c ^ w by omega) q hI
      refine ⟨vp_in_nI (by omega) (by decide), ?_⟩
      rw [nI_clamp (n := n) (by omega)]
      exact ih (r + 1) (n + 1) _ (by omega) hI'
  have outer : ∀ (lo' : Nat → Int32), (∀ r, r < c ^ w → lo' r = nI (lkX lb c w r)) → ∀ (m look n : Nat) (b : Nat → Int32), look + m = 2 ^ w → ByInv (c ^ w) (lkX lb c w) n look 0 b → r_X6_sortRows_70 lt (nI w) (nI (c ^ w)) fr post lo' (m + 1) (nI n) (nI look) b := by
    intro lo' hlo m
    induction m with
    | zero =>
      intro look n b hlk hI
      unfold r_X6_sortRows_70
      rw [e2w]
      refine pk_le (2 ^ w) look (fun _ => k lo' b hlo ?_) (fun q => absurd q (by omega)) rfl rfl (by omega) (by omega)
      obtain ⟨e, g1, g2, g3⟩ := hI
      have en : n = c ^ w := by
        rw [e, fb_ct_all.mpr (fun r _ => decide_eq_true (by have := hcl r; omega))]; rfl
      rw [en] at g1 g2 g3
      exact ⟨fun i hi => (g1 i hi).1, g2, fun r hr => g3 r hr (Or.inl (by have := hcl r; omega))⟩
    | succ m ih =>
      intro look n b hlk hI
      unfold r_X6_sortRows_70
      rw [e2w]
      refine pk_le (2 ^ w) look (fun q => absurd q (by omega)) (fun _ => ?_) rfl rfl (by omega) (by omega)
      refine ⟨c ^ w + 1, row lo' hlo (show look < 2 ^ w by omega) (fun n' b' hI' => ?_) (c ^ w) 0 n b (by omega) hI⟩
      unfold q_X6_sortRows_126
      rw [nI_1]
      exact ih (look + 1) n' b' (by omega) hI'
  have inner : ∀ {K : Int32 → Int32 → (Nat → Int32) → Prop} {r : Nat} {lo' : Nat → Int32}, r < c ^ w → K (nI r) (nI (lkX lb c w r)) lo' → ∀ (m x : Nat), x + m = w → r_X6_sortRows_18 lt (nI w) (nI (c ^ w)) fr bl post K (nI r) lo' (m + 1) (nI (rvB (lkR lb c w r) x)) (nI x) := by
    intro K r lo' hr hK m
    induction m with
    | zero =>
      intro x hx
      unfold r_X6_sortRows_18
      rw [show x = w by omega]
      exact pk_le w w (fun _ => hK) (fun q => absurd q (by omega)) rfl rfl (by omega) (by omega)
    | succ m ih =>
      intro x hx
      unfold r_X6_sortRows_18
      refine pk_le w x (fun q => absurd q (by omega)) (fun _ => ?_) rfl rfl (by omega) (by omega)
      refine s_colour h1 hc hw hf hr (show x < w by omega) ?_
      have hd := dg_lt h1 w r x
      refine ⟨vp_in_nI (by omega) (by decide), fun v5 e5 => ?_⟩
      have hb : (lkR lb c w r).testBit x = lb (dg c w r x) := by unfold lkR; rw [bitsOf_tb, decide_eq_true (show x < w by omega), Bool.true_and]
      have hlt := rvB_lt (lkR lb c w r) x
      have hp : (2 : Nat) ^ x ≤ 32 := Nat.le_trans (Nat.pow_le_pow_right (by decide) (show x ≤ 5 by omega)) (by decide)
      rw [nI_clamp (by omega), hl _ (by omega), shlW (v := rvB (lkR lb c w r) x) (b := lb (dg c w r x)) (by omega), ← hb] at e5
      rw [e5, nI_1]
      exact ih (x + 1) (by omega)
  have first : ∀ (m r : Nat) (lo' : Nat → Int32), r + m = c ^ w → (∀ r', r' < r → lo' r' = nI (lkX lb c w r')) → r_X6_sortRows_2 lt (nI w) (nI (c ^ w)) fr post (q_X6_sortRows_66 lt (nI w) (nI (c ^ w)) fr post) bl (m + 1) (nI r) lo' := by
    intro m
    induction m with
    | zero =>
      intro r lo' hr hlo
      unfold r_X6_sortRows_2
      refine pk_le (c ^ w) r (fun _ => ?_) (fun q => absurd q (by omega)) rfl rfl (by omega) (by omega)
      unfold q_X6_sortRows_66
      exact ⟨2 ^ w + 1, outer lo' (fun r' hr' => hlo r' (by omega)) (2 ^ w) 0 0 bl (by omega) (by_0 _ _ _)⟩
    | succ m ih =>
      intro r lo' hr hlo
      unfold r_X6_sortRows_2
      refine pk_le (c ^ w) r (fun q => absurd q (by omega)) (fun _ => ?_) rfl rfl (by omega) (by omega)
      refine ⟨w + 1, inner (show r < c ^ w by omega) ?_ w 0 (by omega)⟩
      unfold q_X6_sortRows_53
      refine ⟨vp_in_nI (by omega) (by decide), ?_⟩
      rw [nI_1, nI_clamp (by omega)]
      refine ih (r + 1) _ (by omega) (fun r' hr' => ?_)
      by_cases e : r' = r
      · rw [e, upd_s]
      · rw [upd_n _ e]; exact hlo r' (by omega)
  exact ⟨c ^ w + 1, first (c ^ w) 0 lo (by omega) (fun r' hr' => absurd hr' (by omega))⟩
/-! which rows may stand at a level -/
def rmS (kept : Nat → Int32) (s e r : Nat) : Bool := decide (∃ i, i < e ∧ (s ≤ i ∧ kN kept i = r))
theorem rmS_iff {kept : Nat → Int32} {s e r : Nat} : rmS kept s e r = true ↔ ∃ i, s ≤ i ∧ i < e ∧ kN kept i = r := by
  unfold rmS
  rw [decide_eq_true_iff]
  constructor
  · rintro ⟨i, a, b, c⟩; exact ⟨i, b, a, c⟩
  · rintro ⟨i, a, b, c⟩; exact ⟨i, b, a, c⟩
theorem rmS_congr {f g : Nat → Int32} {s e : Nat} (h : ∀ i, i < e → f i = g i) : rmS f s e = rmS g s e := by
  funext r
  apply bool_iff
  rw [rmS_iff, rmS_iff]
  constructor
  · rintro ⟨i, a, b, c⟩; exact ⟨i, a, b, by rw [← kN_congr (h i b)]; exact c⟩
  · rintro ⟨i, a, b, c⟩; exact ⟨i, a, b, by rw [kN_congr (h i b)]; exact c⟩
theorem gW_av {R : Nat} {F : Nat → Nat → Bool} {B : Nat → Bool} {h k : Nat} {G : Nat → Bool} {r : Nat} : gW R F B okAll h k G r ≠ 0 ↔ (G r && avS R F B h k r) = true := by
  unfold gW avS
  cases G r with
  | false => rw [if_neg (by decide), Bool.false_and]; exact ⟨fun q => absurd rfl q, fun q => absurd q (by decide)⟩
  | true => rw [if_pos rfl, Bool.true_and, decide_eq_true_iff]
theorem may_end {g : Nat} {b : Bool} (hg : g < 2 ^ 63) (e : g ≠ 0 ↔ b = true) {A0 A1 : Prop} (h0 : b = false → A0) (h1 : b = true → A1) : (lN g = (0 : Int64) → A0) ∧ (¬ lN g = (0 : Int64) → A1) := by
  rw [show (0 : Int64) = lN 0 from rfl, pk_lEQ hg (by decide)]
  refine ⟨fun q => h0 ?_, fun q => h1 (e.mp q)⟩
  cases hb : b with
  | false => rfl
  | true => exact absurd q (e.mpr hb)
theorem s_mayTop {c w h : Nat} (h1 : 1 ≤ c) (hc : c ≤ 3) (hw : w ≤ 5) (hh1 : 1 ≤ h) (hh : h ≤ 5) {al : Nat → Bool} {R fr : Nat → Int32} (hr : RuleOk al R) (hf : ∀ r, r < c ^ w → fr r = nI (frm c w r)) {ws : Nat → Int64} (hW : WaysX (c ^ w) (Fi al c w) (Bt al c w) okAll h ws) {kept first next : Nat → Int32} {r : Nat} (hrr : r < c ^ w) {post : Int32 → Prop} (k : post (bI (Tp al c w r && avS (c ^ w) (Fi al c w) (Bt al c w) h (h - 1) r))) : q_X6_mayStand ws kept first next (nI w) (nI (4 ^ (w + 2) - 1)) fr R (nI 0) (nI r) post := by
  have h243 := pow_le243 hc hw
  unfold q_X6_mayStand
  refine brn (fun q => absurd rfl q) (fun _ => ?_)
  refine s_waysUnder h1 hc hw hh (show 0 < h by omega) hr hf hW (up_ring al c w) hrr ?_
  rw [Nat.sub_zero]
  have hg : gW (c ^ w) (Fi al c w) (Bt al c w) okAll h (h - 1) (Tp al c w) r ≤ 3486784401 := gW_lt h243 (by omega)
  refine may_end (by omega) gW_av (fun q => ?_) (fun q => ?_)
  · rw [q] at k; exact k
  · rw [q] at k; exact k
theorem s_mayRow {c w h : Nat} (h1 : 1 ≤ c) (hc : c ≤ 3) (hw : w ≤ 5) (hh : h ≤ 5) {al : Nat → Bool} {R fr : Nat → Int32} (hr : RuleOk al R) (hf : ∀ r, r < c ^ w → fr r = nI (frm c w r)) {ws : Nat → Int64} (hW : WaysX (c ^ w) (Fi al c w) (Bt al c w) okAll h ws) {y : Nat} (hy : y + 1 < h) {s e : Nat} (hse : s ≤ e) (he : e ≤ 243) {kept first next : Nat → Int32} (hfi : first y = nI s) (hnx : next y = nI e) (hk : ∀ i, s ≤ i → i < e → InR (c ^ w) kept i) {r : Nat} (hrr : r < c ^ w) {rg : Int32} {post : Int32 → Prop} (k : post (bI (aft (c ^ w) (Fi al c w) (rmS kept s e) r && avS (c ^ w) (Fi al c w) (Bt al c w) h (h - 1 - (y + 1)) r))) : q_X6_mayStand ws kept first next (nI w) rg fr R (nI (y + 1)) (nI r) post := by
  have h243 := pow_le243 hc hw
  unfold q_X6_mayStand
  refine brn (fun _ => ?_) (fun q => absurd q (nI_ne0 (by omega) (by omega)))
  rw [nI_pred, nI_clamp (n := y) (by omega), hfi]
  refine ⟨vp_in_nI (by omega) (by decide), ?_⟩
  have loop : ∀ (m i : Nat), i + m = e → s ≤ i → (∀ i', s ≤ i' → i' < i → (Fi al c w (kN kept i') r && avS (c ^ w) (Fi al c w) (Bt al c w) h (h - 1 - (y + 1)) r) = false) → r_X6_mayStand_40 ws kept first next (nI w) rg fr R post (nI (y + 1)) (nI r) (m + 1) (nI i) := by
    intro m
    induction m with
    | zero =>
      intro i hi hsi hno
      unfold r_X6_mayStand_40
      rw [nI_pred, nI_clamp (n := y) (by omega), hnx]
      refine ⟨vp_in_nI (by omega) (by decide), pk_le e i (fun _ => ?_) (fun q => absurd q (by omega)) rfl rfl (by omega) (by omega)⟩
      have ef : (aft (c ^ w) (Fi al c w) (rmS kept s e) r && avS (c ^ w) (Fi al c w) (Bt al c w) h (h - 1 - (y + 1)) r) = false := by
        apply Bool.eq_false_iff.mpr
        intro z
        rw [Bool.and_eq_true] at z
        obtain ⟨a, ha, g1, g2⟩ := aft_iff.mp z.1
        obtain ⟨i', b1, b2, b3⟩ := rmS_iff.mp g1
        have := hno i' b1 (by omega)
        rw [b3, g2, z.2] at this
        exact absurd this (by decide)
      rw [ef] at k
      exact k
    | succ m ih =>
      intro i hi hsi hno
      unfold r_X6_mayStand_40
      rw [nI_pred, nI_clamp (n := y) (by omega), hnx]
      refine ⟨vp_in_nI (by omega) (by decide), pk_le e i (fun q => absurd q (by omega)) (fun _ => ⟨vp_in_nI (by omega) (by decide), ?_⟩) rfl rfl (by omega) (by omega)⟩
      obtain ⟨g1, g2⟩ := hk i hsi (by omega)
      rw [nI_clamp (n := i) (by omega), g2]
      refine ⟨vp_in_nI (by omega) (by decide), ?_⟩
      rw [nI_clamp (n := kN kept i) (by omega), hf _ g1]
      refine s_waysUnder h1 hc hw hh hy hr hf hW (up_row h1 hc (kN kept i)) hrr ?_
      have hg : gW (c ^ w) (Fi al c w) (Bt al c w) okAll h (h - 1 - (y + 1)) (Fi al c w (kN kept i)) r ≤ 3486784401 := gW_lt h243 (by omega)
      refine may_end (by omega) gW_av (fun q => ?_) (fun q => ?_)
      · rw [nI_1]
        refine ih (i + 1) (by omega) (by omega) (fun i' a1 a2 => ?_)
        by_cases e2 : i' = i
        · rw [e2]; exact q
        · exact hno i' a1 (by omega)
      · have et : (aft (c ^ w) (Fi al c w) (rmS kept s e) r && avS (c ^ w) (Fi al c w) (Bt al c w) h (h - 1 - (y + 1)) r) = true := by
          rw [Bool.and_eq_true] at q ⊢
          exact ⟨aft_iff.mpr ⟨kN kept i, g1, rmS_iff.mpr ⟨i, hsi, by omega, rfl⟩, q.1⟩, q.2⟩
        rw [et] at k
        exact k
  exact ⟨e - s + 1, loop (e - s) s (by omega) (Nat.le_refl _) (fun i' a1 a2 => absurd a2 (by omega))⟩
