/-! the reference's search -/
def glM (al : Nat → Bool) (c w : Nat) (ok : Nat → Nat → Bool) (h : Nat) (a : Nat → Nat) (y r : Nat) : Nat := if upG al c w a y r then capM (Wy (c ^ w) (Fi al c w) (Bt al c w) ok h (h - 1 - y) r) else 0
theorem glM_eq {al : Nat → Bool} {c w : Nat} {ok : Nat → Nat → Bool} {h : Nat} {a : Nat → Nat} {y r : Nat} : glM al c w ok h a y r = capM (glv al c w ok h a y r) := by
  unfold glM glv gW
  split
  · rfl
  · rfl
theorem s_layFound {c w h : Nat} (h1 : 1 ≤ c) (hc : c ≤ 3) (hw : w ≤ 5) (hh1 : 1 ≤ h) (hh : h ≤ 5) {al : Nat → Bool} {fits top bottom fd : Nat → Int32} (hF : FitsOk al c w fits top bottom) {ok : Nat → Nat → Bool} {ws : Nat → Int64} (hW : WaysM (c ^ w) (Fi al c w) (Bt al c w) ok h ws) {j : Nat} (hj : j ≤ 1000000000) (ht : j < totW (c ^ w) (Fi al c w) (Tp al c w) (Bt al c w) ok h) {post : (Nat → Int32) → Prop}
    (k : ∀ fd2, Ins al c w ok h j (aN fd2) h → AtOk c w fd2 h → post fd2) : q_X9_layFound fits top ws fd (nI h) (lN j) post := by
  have h243 := pow_le243 hc hw
  unfold q_X9_layFound
  have inner : ∀ {K : Int64 → Int32 → Int32 → (Nat → Int32) → Prop} {y : Nat} {fd : Nat → Int32} {l : Nat}, y < h → l ≤ 1000000000 → AtOk c w fd y → l < fb_sm (glv al c w ok h (aN fd) y) (c ^ w) → (∀ r, r < c ^ w → fb_sm (glv al c w ok h (aN fd) y) r ≤ l → l < fb_sm (glv al c w ok h (aN fd) y) r + glv al c w ok h (aN fd) y r → K (lN (l - fb_sm (glv al c w ok h (aN fd) y) r)) (nI y) (nI r) fd) →
      ∀ (m i : Nat), i + m = c ^ w → fb_sm (glv al c w ok h (aN fd) y) i ≤ l → r_X9_layFound_18 fits top ws (nI h) post K (nI y) fd (m + 2) (lN (l - fb_sm (glv al c w ok h (aN fd) y) i)) (nI i) 0 := by
    intro K y fd l hy hl hA hlt hK m
    induction m with
    | zero =>
      intro i hi hs
      rw [show i = c ^ w by omega] at hs
      omega
    | succ m ih =>
      intro i hi hs
      have cap : capM (glv al c w ok h (aN fd) y i) ≤ l - fb_sm (glv al c w ok h (aN fd) y) i ↔ glv al c w ok h (aN fd) y i ≤ l - fb_sm (glv al c w ok h (aN fd) y) i := by
        unfold capM; split <;> omega
      have hcl := capM_le (glv al c w ok h (aN fd) y i)
      have p84 : q_X9_layFound_84 fits top ws (nI h) (nI y) fd post K (r_X9_layFound_18 fits top ws (nI h) post K (nI y) fd (m + 2)) (lN (l - fb_sm (glv al c w ok h (aN fd) y) i)) (nI i) (lN (capM (glv al c w ok h (aN fd) y i))) := by
        unfold q_X9_layFound_84
        rw [pk_lLE (by omega) (by omega), cap]
        refine br (fun q => ?_) (fun q => ?_)
        · unfold q_X9_layFound_99
          refine b0 ?_
          unfold q_X9_layFound_116
          refine b0 ?_
          rw [lN_sub (by rw [cap]; exact q), nI_1, capM_id (by omega), Nat.sub_sub, ← fb_sm_succ]
          exact ih (i + 1) (by omega) (by rw [fb_sm_succ]; omega)
        · unfold q_X9_layFound_99
          refine b1 ?_
          unfold q_X9_layFound_116
          refine b1 ?_
          unfold r_X9_layFound_18
          exact c1 (hK i (by omega) hs (by omega))
      have p59 : ∀ b : Bool, b = upG al c w (aN fd) y i → q_X9_layFound_59 fits top ws (nI h) (nI y) fd post K (r_X9_layFound_18 fits top ws (nI h) post K (nI y) fd (m + 2)) (lN (l - fb_sm (glv al c w ok h (aN fd) y) i)) (nI i) (bI b) := by
        intro b hb
        have eg : capM (glv al c w ok h (aN fd) y i) = glM al c w ok h (aN fd) y i := glM_eq.symm
        rw [eg] at p84
        unfold glM at p84
        rw [← hb] at p84
        unfold q_X9_layFound_59
        cases b with
        | false => exact b0 p84
        | true =>
          refine b1 ?_
          rw [i243]
          refine ⟨vp_in_nI (by omega) (by decide), ?_⟩
          rw [nI_clamp (by omega), hW y i hy (by omega)]
          exact p84
      unfold r_X9_layFound_18
      refine c0 ?_
      unfold upG at p59
      refine brn (fun q => ?_) (fun q => ?_)
      · have hy0 : y ≠ 0 := fun e => q (by rw [e]; rfl)
        obtain ⟨e1, e2⟩ := hA (y - 1) (by omega)
        have ey : nI y - (1 : Int32) = nI (y - 1) := by rw [show (1 : Int32) = nI 1 from rfl, pk_sub (by omega)]
        rw [ey]
        refine ⟨vp_in_nI (by omega) (by decide), ?_⟩
        rw [nI_clamp (by omega), e1, i243]
        refine ⟨vp_in_nI (by omega) (by decide), ?_⟩
        rw [nI_clamp (by omega), hF.2.2 _ _ e2 (by omega)]
        rw [if_neg hy0] at p59
        exact p59 _ rfl
      · have hy0 : y = 0 := (nI_zero (by omega)).mp q
        refine ⟨vp_in_nI (by omega) (by decide), ?_⟩
        rw [nI_clamp (by omega), hF.1 i (by omega)]
        rw [if_pos hy0] at p59
        exact p59 _ rfl
  have outer : ∀ (m y : Nat) (fd : Nat → Int32), y + m = h → bef al c w ok h (aN fd) y ≤ j → Ins al c w ok h j (aN fd) y → AtOk c w fd y → r_X9_layFound_6 fits top ws post (nI h) (m + 1) (lN (j - bef al c w ok h (aN fd) y)) (nI y) fd := by
    intro m
    induction m with
    | zero =>
      intro y fd hy hb hI hA
      unfold r_X9_layFound_6
      have ey : y = h := by omega
      subst ey
      exact pk_le y y (fun _ => k fd hI hA) (fun q => absurd q (by omega)) rfl rfl (by omega) (by omega)
    | succ m ih =>
      intro y fd hy hb hI hA
      unfold r_X9_layFound_6
      refine pk_le h y (fun q => absurd q (by omega)) (fun _ => ?_) rfl rfl (by omega) (by omega)
      have hlt : j - bef al c w ok h (aN fd) y < fb_sm (glv al c w ok h (aN fd) y) (c ^ w) := by
        by_cases hy0 : y = 0
        · subst hy0
          have e0 : bef al c w ok h (aN fd) 0 = 0 := rfl
          rw [e0, Nat.sub_zero]
          rw [← totW_eq] at ht
          exact ht
        · obtain ⟨z, rfl⟩ : ∃ z, y = z + 1 := ⟨y - 1, by omega⟩
          have hz := hI z (by omega)
          rw [next_tot (by omega) (by omega)]
          omega
      have h0 := inner (K := q_X9_layFound_137 fits top ws (nI h) post (r_X9_layFound_6 fits top ws post (nI h) (m + 1))) (l := j - bef al c w ok h (aN fd) y) (show y < h by omega) (by omega) hA hlt (fun r hr' q1 q2 => ?_) (c ^ w) 0 (by omega) (Nat.zero_le _)
      · exact ⟨_, h0⟩
      · unfold q_X9_layFound_137
        refine ⟨vp_in_nI (by omega) (by decide), ?_⟩
        rw [nI_clamp (by omega)]
        have elo : ∀ i, i < y → aN (upd fd y (nI r)) i = aN fd i := aN_lo
        have ebef : bef al c w ok h (aN (upd fd y (nI r))) (y + 1) = bef al c w ok h (aN fd) y + fb_sm (glv al c w ok h (aN fd) y) r := by
          show bef al c w ok h (aN (upd fd y (nI r))) y + fb_sm (glv al c w ok h (aN (upd fd y (nI r))) y) (aN (upd fd y (nI r)) y) = _
          rw [bef_congr elo, glv_congr elo, aN_upd (by omega), if_pos rfl]
        have hrest := ih (y + 1) (upd fd y (nI r)) (by omega) (by rw [ebef]; omega) (fun z hz => by
          by_cases e : z = y
          · subst e
            rw [ebef, glv_congr elo, aN_upd (by omega), if_pos rfl]
            exact ⟨hr', by omega, by omega⟩
          · exact Ins_congr (fun i hi => (elo i (by omega)).symm) hI z (by omega)) (fun z hz => by
          rw [aN_upd (by omega)]
          by_cases e : z = y
          · rw [if_pos e, e, upd_s]; exact ⟨rfl, hr'⟩
          · rw [if_neg e, upd_n _ e]; exact hA z (by omega))
        rw [ebef, ← Nat.sub_sub, ← nI_1] at hrest
        exact hrest
  have h0 := outer h 0 fd (by omega) (Nat.zero_le _) (fun y hy => absurd hy (by omega)) (fun y hy => absurd hy (by omega))
  exact ⟨h + 1, h0⟩
/-! nextRow, advance -/
theorem s_nextRow {c w h y : Nat} (h1 : 1 ≤ c) (hc : c ≤ 3) (hw : w ≤ 5) (hh : h ≤ 5) (hy : y < h) {al : Nat → Bool} {R fr at' : Nat → Int32} (hr : RuleOk al R) (hf : ∀ r, r < c ^ w → fr r = nI (frm c w r)) {ok : Nat → Nat → Bool} {ws : Nat → Int64} (hW : WaysX (c ^ w) (Fi al c w) (Bt al c w) ok h ws) (hA : AtOk c w at' y) {s : Nat} (hs : s ≤ c ^ w) (es : at' y + (1 : Int32) = nI s) {post : Int32 → Prop}
    (k : (∃ r, s ≤ r ∧ r < c ^ w ∧ (∀ i, s ≤ i → i < r → glv al c w ok h (aN at') y i = 0) ∧ glv al c w ok h (aN at') y r ≠ 0 ∧ post (nI r)) ∨ ((∀ i, s ≤ i → i < c ^ w → glv al c w ok h (aN at') y i = 0) ∧ post (-1))) : q_X0_nextRow ws at' (nI w) (nI (c ^ w)) (nI (4 ^ (w + 2) - 1)) fr R (nI y) post := by
  have h243 := pow_le243 hc hw
  unfold q_X0_nextRow
  refine s_above (al := al) h1 hc hw (by omega) hf hA (fun v hU => ⟨vp_in_nI (by omega) (by decide), ?_⟩)
  rw [nI_clamp (by omega), es]
  have loop : ∀ (m i : Nat), i + m = c ^ w → s ≤ i → (∀ i', s ≤ i' → i' < i → glv al c w ok h (aN at') y i' = 0) → r_X0_nextRow_15 ws at' (nI w) (nI (c ^ w)) (nI (4 ^ (w + 2) - 1)) fr R post (nI y) v (m + 1) (nI i) := by
    intro m
    induction m with
    | zero =>
      intro i hi hsi hz
      unfold r_X0_nextRow_15
      refine pk_le (c ^ w) i (fun _ => ?_) (fun q => absurd q (by omega)) rfl rfl (by omega) (by omega)
      rcases k with ⟨r, q1, q2, q3, q4, q5⟩ | ⟨_, q⟩
      · exact absurd (hz r q1 (by omega)) q4
      · exact q
    | succ m ih =>
      intro i hi hsi hz
      unfold r_X0_nextRow_15
      refine pk_le (c ^ w) i (fun q => absurd q (by omega)) (fun _ => ?_) rfl rfl (by omega) (by omega)
      refine s_waysG h1 hc hw hh hy hr hf hW hU (show i < c ^ w by omega) ?_
      have hg : glv al c w ok h (aN at') y i ≤ 3486784401 := gW_lt h243 (by omega)
      rw [show (0 : Int64) = lN 0 from rfl, pk_lEQ (by omega) (by decide), nI_1]
      refine br (fun q => ih (i + 1) (by omega) (by omega) (fun i' hi1 hi2 => ?_)) (fun q => ?_)
      · by_cases e : i' = i
        · rw [e]; exact q
        · exact hz i' hi1 (by omega)
      · rcases k with ⟨r, q1, q2, q3, q4, q5⟩ | ⟨q0, _⟩
        · have : r = i := by
            rcases Nat.lt_trichotomy r i with z | z | z
            · exact absurd (hz r q1 z) q4
            · exact z
            · exact absurd (q3 i hsi z) q
          rw [← this]; exact q5
        · exact absurd (q0 i hsi (by omega)) q
  exact ⟨c ^ w - s + 1, loop (c ^ w - s) s (by omega) (Nat.le_refl _) (fun i' a b => absurd a (by omega))⟩
theorem sm_same {f : Nat → Nat} {s : Nat} : ∀ {r : Nat}, s ≤ r → (∀ i, s ≤ i → i < r → f i = 0) → fb_sm f r = fb_sm f s
  | 0, h, _ => by rw [show s = 0 by omega]
  | r + 1, h, hz => by
    by_cases e : s = r + 1
    · rw [e]
    · rw [fb_sm_succ, hz r (by omega) (by omega), sm_same (by omega) (fun i a b => hz i a (by omega))]; rfl
theorem row_or_none {f : Nat → Nat} {s n : Nat} (hs : s ≤ n) : (∃ r, s ≤ r ∧ r < n ∧ (∀ i, s ≤ i → i < r → f i = 0) ∧ f r ≠ 0) ∨ ∀ i, s ≤ i → i < n → f i = 0 := by
  by_cases h : ∃ i, i < n ∧ (s ≤ i ∧ f i ≠ 0)
  · obtain ⟨i, h1, ⟨h2, h3⟩, h4⟩ := fb_first h
    refine Or.inl ⟨i, h2, h1, fun i' a b => ?_, h3⟩
    have := h4 i' b
    exact Classical.byContradiction (fun z => this ⟨a, z⟩)
  · exact Or.inr (fun i a b => Classical.byContradiction (fun z => h ⟨i, b, a, z⟩))
theorem m1_ne {r : Nat} (h : r < 2 ^ 31) : ¬ nI r = -1 := fun e => by
  have := congrArg Int32.toInt e
  rw [nI_toInt h, tim1] at this; omega
theorem s_advance {c w h from' : Nat} (h1 : 1 ≤ c) (hc : c ≤ 3) (hw : w ≤ 5) (hh : h ≤ 5) (hfr : from' < h) {al : Nat → Bool} {R fr at' pc : Nat → Int32} (hr : RuleOk al R) (hf : ∀ r, r < c ^ w → fr r = nI (frm c w r)) {ok : Nat → Nat → Bool} {ws : Nat → Int64} (hW : WaysX (c ^ w) (Fi al c w) (Bt al c w) ok h ws) (hA : AtOk c w at' from') (hL : Liv al c w ok h (aN at') from') (hP : PgOk c w at' pc from') {s j : Nat} (hs : s ≤ c ^ w) (es : at' from' + (1 : Int32) = nI s) (ej : j = bef al c w ok h (aN at') from' + fb_sm (glv al c w ok h (aN at') from') s) {post : Int32 → (Nat → Int32) → (Nat → Int32) → Prop}
    (k1 : j < totW (c ^ w) (Fi al c w) (Tp al c w) (Bt al c w) ok h → ∀ at2 pc2, Ins al c w ok h j (aN at2) h → AtOk c w at2 h → PgOk c w at2 pc2 h → post 1 at2 pc2) (k0 : totW (c ^ w) (Fi al c w) (Tp al c w) (Bt al c w) ok h = j → ∀ at2 pc2, post 0 at2 pc2) : q_X0_advance ws (nI w) (nI (c ^ w)) (nI (4 ^ (w + 2) - 1)) fr R (nI h) at' pc (nI from') post := by
  have h243 := pow_le243 hc hw
  have step : ∀ {y r : Nat} {at' : Nat → Int32}, r < c ^ w → y < h → Liv al c w ok h (aN at') y → bef al c w ok h (aN at') y + fb_sm (glv al c w ok h (aN at') y) r = j → glv al c w ok h (aN at') y r ≠ 0 → Ins al c w ok h j (aN (upd at' y (nI r))) (y + 1) ∧ bef al c w ok h (aN (upd at' y (nI r))) (y + 1) = j := by
    intro y r at' hrr hy hL hb hg
    have elo : ∀ i, i < y → aN (upd at' y (nI r)) i = aN at' i := aN_lo
    have ebef : bef al c w ok h (aN (upd at' y (nI r))) (y + 1) = bef al c w ok h (aN at') y + fb_sm (glv al c w ok h (aN at') y) r := by
      show bef al c w ok h (aN (upd at' y (nI r))) y + fb_sm (glv al c w ok h (aN (upd at' y (nI r))) y) (aN (upd at' y (nI r)) y) = _
      rw [bef_congr elo, glv_congr elo, aN_upd (by omega), if_pos rfl]
    have hpart := fb_sm_part (glv al c w ok h (aN at') y) hrr
    have hIn := inside_of (j := j) hy hL (by omega) (by omega)
    refine ⟨fun z hz => ?_, by rw [ebef]; exact hb⟩
    by_cases e : z = y
    · subst e
      rw [ebef, glv_congr elo, aN_upd (by omega), if_pos rfl]
      exact ⟨hrr, by omega, by omega⟩
    · exact Ins_congr (fun i hi => (elo i (by omega)).symm) hIn z (by omega)
  have fin : ∀ {at' pc : Nat → Int32} {i : Nat}, i ≤ 10 → Ins al c w ok h j (aN at') h → AtOk c w at' h → PgOk c w at' pc h → r_X0_advance_32 ws (nI w) (nI (c ^ w)) (nI (4 ^ (w + 2) - 1)) fr R (nI h) post (0 + 1) (nI h) (nI i) at' pc := by
    intro at' pc i hi hI hA hP
    have ht : j < totW (c ^ w) (Fi al c w) (Tp al c w) (Bt al c w) ok h := by
      have h0 := hI 0 (by omega)
      have eb : bef al c w ok h (aN at') (0 + 1) = 0 + fb_sm (glv al c w ok h (aN at') 0) (aN at' 0) := rfl
      have hp := fb_sm_part (glv al c w ok h (aN at') 0) h0.1
      rw [← totW_eq]
      show j < fb_sm (glv al c w ok h (aN at') 0) (c ^ w)
      omega
    have kk := k1 ht at' pc hI hA hP
    have last : (¬ nI h = nI h → post 0 at' pc) ∧ (nI h = nI h → post 1 at' pc) := brn (fun q => absurd rfl q) (fun _ => kk)
    unfold r_X0_advance_32
    exact br (fun _ => last) (fun _ => br (fun _ => last) (fun _ => br (fun _ => last) (fun q => absurd (nI_le (Nat.le_refl _) (by omega)) q)))
  have down : ∀ (m y i : Nat) (at' pc : Nat → Int32), y + m = h → 1 ≤ y → i + m ≤ 10 → Ins al c w ok h j (aN at') y → bef al c w ok h (aN at') y = j → AtOk c w at' y → PgOk c w at' pc y → (∀ z, y ≤ z → z < h → at' z = -1) → r_X0_advance_32 ws (nI w) (nI (c ^ w)) (nI (4 ^ (w + 2) - 1)) fr R (nI h) post (m + 1) (nI y) (nI i) at' pc := by
    intro m
    induction m with
    | zero =>
      intro y i at' pc hy hy1 hi hI hb hA hP hz
      have ey : y = h := by omega
      subst ey
      exact fin (by omega) hI hA hP
    | succ m ih =>
      intro y i at' pc hy hy1 hi hI hb hA hP hz
      have hL := Ins_liv hI
      unfold r_X0_advance_32
      refine pk_le 10 i (fun q => absurd q (by omega)) (fun _ => br (fun q => absurd q (nI_pos (by omega))) (fun _ => pk_le h y (fun q => absurd q (by omega)) (fun _ => ?_) rfl rfl (by omega) (by omega))) rfl rfl (by omega) (by omega)
      refine s_nextRow h1 hc hw hh (show y < h by omega) hr hf hW hA (s := 0) (Nat.zero_le _) (by rw [hz y (by omega) (by omega)]; decide) (Or.inl ?_)
      rcases row_or_none (f := glv al c w ok h (aN at') y) (Nat.zero_le (c ^ w)) with ⟨r, q1, q2, q3, q4⟩ | q
      · refine ⟨r, q1, q2, q3, q4, brn (fun _ => ?_) (fun q => absurd q (m1_ne (by omega)))⟩
        have e0 : fb_sm (glv al c w ok h (aN at') y) r = 0 := sm_same (Nat.zero_le r) q3
        obtain ⟨st1, st2⟩ := step q2 (show y < h by omega) hL (by rw [e0]; exact hb) q4
        refine s_show h1 hc hw (by omega) q2 hf hP hA (fun pc2 hP2 hA2 => ?_)
        rw [nI_1, nI_1]
        refine ih (y + 1) (i + 1) _ pc2 (by omega) (by omega) (by omega) st1 st2 hA2 hP2 (fun z hz1 hz2 => ?_)
        rw [upd_n _ (by omega)]; exact hz z (by omega) hz2
      · exfalso
        obtain ⟨z, rfl⟩ : ∃ z, y = z + 1 := ⟨y - 1, by omega⟩
        have hl := hL z (by omega)
        have := next_tot (show z + 1 < h by omega) hl.2
        rw [sm_same (Nat.zero_le _) q] at this
        exact hl.2 this.symm
  have up : ∀ (y i : Nat) (at' pc : Nat → Int32) (s : Nat), y < h → i + y ≤ 4 → s ≤ c ^ w → at' y + (1 : Int32) = nI s → j = bef al c w ok h (aN at') y + fb_sm (glv al c w ok h (aN at') y) s → Liv al c w ok h (aN at') y → AtOk c w at' y → PgOk c w at' pc y → (∀ z, y < z → z < h → at' z = -1) → ∃ n, r_X0_advance_32 ws (nI w) (nI (c ^ w)) (nI (4 ^ (w + 2) - 1)) fr R (nI h) post n (nI y) (nI i) at' pc := by
    intro y
    induction y with
    | zero =>
      intro i at' pc s hy hi hs es ej hL hA hP hz
      rcases row_or_none (f := glv al c w ok h (aN at') 0) hs with ⟨r, q1, q2, q3, q4⟩ | q
      · obtain ⟨st1, st2⟩ := step q2 hy hL (by rw [sm_same q1 q3]; exact ej.symm) q4
        refine ⟨h - 1 + 1 + 1, ?_⟩
        unfold r_X0_advance_32
        refine pk_le 10 i (fun q => absurd q (by omega)) (fun _ => br (fun q => absurd q (nI_pos (by omega))) (fun _ => pk_le h 0 (fun q => absurd q (by omega)) (fun _ => ?_) rfl rfl (by omega) (by omega))) rfl rfl (by omega) (by omega)
        refine s_nextRow h1 hc hw hh hy hr hf hW hA hs es (Or.inl ⟨r, q1, q2, q3, q4, brn (fun _ => ?_) (fun q => absurd q (m1_ne (by omega)))⟩)
        refine s_show h1 hc hw (by omega) q2 hf hP hA (fun pc2 hP2 hA2 => ?_)
        rw [nI_1, nI_1]
        refine down (h - 1) (0 + 1) (i + 1) _ pc2 (by omega) (by omega) (by omega) st1 st2 hA2 hP2 (fun z hz1 hz2 => ?_)
        rw [upd_n _ (by omega)]; exact hz z (by omega) hz2
      · refine ⟨2, ?_⟩
        have et : totW (c ^ w) (Fi al c w) (Tp al c w) (Bt al c w) ok h = j := by
          rw [ej, ← totW_eq]
          show fb_sm (glv al c w ok h (aN at') 0) (c ^ w) = 0 + _
          rw [sm_same hs q, Nat.zero_add]
        unfold r_X0_advance_32
        refine pk_le 10 i (fun q => absurd q (by omega)) (fun _ => br (fun q => absurd q (nI_pos (by omega))) (fun _ => pk_le h 0 (fun q => absurd q (by omega)) (fun _ => ?_) rfl rfl (by omega) (by omega))) rfl rfl (by omega) (by omega)
        refine s_nextRow h1 hc hw hh hy hr hf hW hA hs es (Or.inr ⟨q, brn (fun z => absurd rfl z) (fun _ => ⟨vp_in_nI (by omega) (by decide), ?_⟩)⟩)
        rw [show nI 0 + (-1 : Int32) = -1 from rfl]
        have last : ∀ at2, (¬ (-1 : Int32) = nI h → post 0 at2 pc) ∧ ((-1 : Int32) = nI h → post 1 at2 pc) := fun at2 => brn (fun _ => k0 et at2 pc) (fun z => absurd z.symm (m1_ne (by omega)))
        unfold r_X0_advance_32
        exact br (fun _ => last _) (fun _ => br (fun _ => last _) (fun z => absurd (by decide) z))
    | succ y ih =>
      intro i at' pc s hy hi hs es ej hL hA hP hz
      rcases row_or_none (f := glv al c w ok h (aN at') (y + 1)) hs with ⟨r, q1, q2, q3, q4⟩ | q
      · obtain ⟨st1, st2⟩ := step q2 hy hL (by rw [sm_same q1 q3]; exact ej.symm) q4
        refine ⟨h - (y + 2) + 1 + 1, ?_⟩
        unfold r_X0_advance_32
        refine pk_le 10 i (fun q => absurd q (by omega)) (fun _ => br (fun q => absurd q (nI_pos (by omega))) (fun _ => pk_le h (y + 1) (fun q => absurd q (by omega)) (fun _ => ?_) rfl rfl (by omega) (by omega))) rfl rfl (by omega) (by omega)
        refine s_nextRow h1 hc hw hh hy hr hf hW hA hs es (Or.inl ⟨r, q1, q2, q3, q4, brn (fun _ => ?_) (fun q => absurd q (m1_ne (by omega)))⟩)
        refine s_show h1 hc hw (by omega) q2 hf hP hA (fun pc2 hP2 hA2 => ?_)
        rw [nI_1, nI_1]
        refine down (h - (y + 2)) (y + 1 + 1) (i + 1) _ pc2 (by omega) (by omega) (by omega) st1 st2 hA2 hP2 (fun z hz1 hz2 => ?_)
        rw [upd_n _ (by omega)]; exact hz z (by omega) hz2
      · have hl := hL y (by omega)
        have elo : ∀ i, i < y + 1 → aN (upd at' (y + 1) (-1)) i = aN at' i := aN_lo
        have hAy := hA y (by omega)
        obtain ⟨n, hn⟩ := ih (i + 1) (upd at' (y + 1) (-1)) pc (aN at' y + 1) (by omega) (by omega) (by omega) (by rw [upd_n _ (by omega), hAy.1, nI_1]) (by
          rw [bef_congr (fun i hi => elo i (by omega)), glv_congr (fun i hi => elo i (by omega)), fb_sm_succ, ej]
          have e1 : fb_sm (glv al c w ok h (aN at') (y + 1)) s = glv al c w ok h (aN at') y (aN at' y) := by rw [← sm_same hs q]; exact next_tot hy hl.2
          show bef al c w ok h (aN at') y + fb_sm (glv al c w ok h (aN at') y) (aN at' y) + fb_sm (glv al c w ok h (aN at') (y + 1)) s = _
          rw [e1, Nat.add_assoc]) (Liv_congr (fun i hi => (elo i (by omega)).symm) (fun z hz' => hL z (by omega))) (fun z hz' => by rw [elo z (by omega), upd_n _ (by omega)]; exact hA z (by omega)) (fun z x hz' hx => by rw [elo z (by omega)]; exact hP z x (by omega) hx) (fun z hz1 hz2 => by
          by_cases e : z = y + 1
          · rw [e, upd_s]
          · rw [upd_n _ e]; exact hz z (by omega) hz2)
        refine ⟨n + 1, ?_⟩
        unfold r_X0_advance_32
        refine pk_le 10 i (fun q => absurd q (by omega)) (fun _ => br (fun q => absurd q (nI_pos (by omega))) (fun _ => pk_le h (y + 1) (fun q => absurd q (by omega)) (fun _ => ?_) rfl rfl (by omega) (by omega))) rfl rfl (by omega) (by omega)
        refine s_nextRow h1 hc hw hh hy hr hf hW hA hs es (Or.inr ⟨q, brn (fun z => absurd rfl z) (fun _ => ⟨vp_in_nI (by omega) (by decide), ?_⟩)⟩)
        rw [pk_m1, nI_1, nI_clamp (by omega)]
        exact hn
  unfold q_X0_advance
  rw [nI_1]
  have clear : ∀ (m i : Nat) (g : Nat → Int32), i + m = h → from' + 1 ≤ i → (∀ z, z ≤ from' → g z = at' z) → (∀ z, from' < z → z < i → g z = -1) → r_X0_advance_4 ws (nI w) (nI (c ^ w)) (nI (4 ^ (w + 2) - 1)) fr R (nI h) post (q_X0_advance_28 ws (nI w) (nI (c ^ w)) (nI (4 ^ (w + 2) - 1)) fr R (nI h) post) (nI from') pc (m + 1) (nI i) g := by
    intro m
    induction m with
    | zero =>
      intro i g hi hfi hlo hup
      unfold r_X0_advance_4
      refine pk_le h i (fun _ => ?_) (fun q => absurd q (by omega)) rfl rfl (by omega) (by omega)
      have elo : ∀ z, z < from' → aN g z = aN at' z := fun z hz => by unfold aN; rw [hlo z (by omega)]
      exact up from' 0 g pc s hfr (by omega) hs (by rw [hlo _ (Nat.le_refl _)]; exact es) (by rw [bef_congr elo, glv_congr elo]; exact ej) (Liv_congr (fun z hz => (elo z hz).symm) hL) (fun z hz => by rw [elo z hz, hlo z (by omega)]; exact hA z hz) (fun z x hz hx => by rw [elo z hz]; exact hP z x hz hx) (fun z hz1 hz2 => hup z hz1 (by omega))
    | succ m ih =>
      intro i g hi hfi hlo hup
      unfold r_X0_advance_4
      refine pk_le h i (fun q => absurd q (by omega)) (fun _ => ⟨vp_in_nI (by omega) (by decide), ?_⟩) rfl rfl (by omega) (by omega)
      rw [nI_1, nI_clamp (by omega)]
      refine ih (i + 1) _ (by omega) (by omega) (fun z hz => ?_) (fun z hz1 hz2 => ?_)
      · rw [upd_n _ (by omega)]; exact hlo z hz
      · by_cases e : z = i
        · rw [e, upd_s]
        · rw [upd_n _ e]; exact hup z hz1 (by omega)
  exact ⟨h - (from' + 1) + 1, clear (h - (from' + 1)) (from' + 1) at' (by omega) (by omega) (fun z _ => rfl) (fun z hz1 hz2 => absurd hz1 (by omega))⟩
theorem s_begin {c w h : Nat} (h1 : 1 ≤ c) (hc : c ≤ 3) (hw : w ≤ 5) (hh1 : 1 ≤ h) (hh : h ≤ 5) {al : Nat → Bool} {R fr at' pc : Nat → Int32} (hr : RuleOk al R) (hf : ∀ r, r < c ^ w → fr r = nI (frm c w r)) {ok : Nat → Nat → Bool} {ws : Nat → Int64} (hW : WaysX (c ^ w) (Fi al c w) (Bt al c w) ok h ws) {post : Int32 → (Nat → Int32) → (Nat → Int32) → Prop}
    (k1 : 0 < totW (c ^ w) (Fi al c w) (Tp al c w) (Bt al c w) ok h → ∀ at2 pc2, Ins al c w ok h 0 (aN at2) h → AtOk c w at2 h → PgOk c w at2 pc2 h → post 1 at2 pc2) (k0 : totW (c ^ w) (Fi al c w) (Tp al c w) (Bt al c w) ok h = 0 → ∀ at2 pc2, post 0 at2 pc2) : q_X0_begin ws (nI w) (nI (c ^ w)) (nI (4 ^ (w + 2) - 1)) fr R (nI h) at' pc post := by
  unfold q_X0_begin
  refine s_advance (from' := 0) h1 hc hw hh (by omega) hr hf hW (fun y hy => absurd hy (by omega)) (fun y hy => absurd hy (by omega)) (fun y x hy => absurd hy (by omega)) (s := 0) (j := 0) (Nat.zero_le _) ?_ rfl (fun ht at2 pc2 a b d => ⟨Or.inr rfl, k1 ht at2 pc2 a b d⟩) (fun ht at2 pc2 => ⟨Or.inl rfl, k0 ht at2 pc2⟩)
  rw [show ((0 : Int32)).toNatClampNeg = 0 from rfl, upd_s]
  decide
