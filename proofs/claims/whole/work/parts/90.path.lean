/-! pictures in order -/
def upG (al : Nat → Bool) (c w : Nat) (a : Nat → Nat) (y : Nat) : Nat → Bool := if y = 0 then Tp al c w else Fi al c w (a (y - 1))
def glv (al : Nat → Bool) (c w : Nat) (ok : Nat → Nat → Bool) (h : Nat) (a : Nat → Nat) (y : Nat) : Nat → Nat := gW (c ^ w) (Fi al c w) (Bt al c w) ok h (h - 1 - y) (upG al c w a y)
def bef (al : Nat → Bool) (c w : Nat) (ok : Nat → Nat → Bool) (h : Nat) (a : Nat → Nat) : Nat → Nat
  | 0 => 0
  | y + 1 => bef al c w ok h a y + fb_sm (glv al c w ok h a y) (a y)
def Ins (al : Nat → Bool) (c w : Nat) (ok : Nat → Nat → Bool) (h j : Nat) (a : Nat → Nat) (n : Nat) : Prop := ∀ y, y < n → a y < c ^ w ∧ bef al c w ok h a (y + 1) ≤ j ∧ j < bef al c w ok h a (y + 1) + glv al c w ok h a y (a y)
theorem glv_congr {al : Nat → Bool} {c w : Nat} {ok : Nat → Nat → Bool} {h : Nat} {a b : Nat → Nat} {y : Nat} (e : ∀ i, i < y → a i = b i) : glv al c w ok h a y = glv al c w ok h b y := by
  unfold glv upG
  by_cases hy : y = 0
  · rw [if_pos hy, if_pos hy]
  · rw [if_neg hy, if_neg hy, e (y - 1) (by omega)]
theorem bef_congr {al : Nat → Bool} {c w : Nat} {ok : Nat → Nat → Bool} {h : Nat} {a b : Nat → Nat} : ∀ {y : Nat}, (∀ i, i < y → a i = b i) → bef al c w ok h a y = bef al c w ok h b y
  | 0, _ => rfl
  | y + 1, e => by
    show bef al c w ok h a y + fb_sm (glv al c w ok h a y) (a y) = bef al c w ok h b y + fb_sm (glv al c w ok h b y) (b y)
    rw [bef_congr (fun i hi => e i (by omega)), glv_congr (fun i hi => e i (by omega)), e y (by omega)]
theorem Ins_congr {al : Nat → Bool} {c w : Nat} {ok : Nat → Nat → Bool} {h j : Nat} {a b : Nat → Nat} {n : Nat} (e : ∀ i, i < n → a i = b i) (hi : Ins al c w ok h j a n) : Ins al c w ok h j b n := by
  intro y hy
  have h0 := hi y hy
  rw [bef_congr (b := b) (fun i hi => e i (by omega)), glv_congr (b := b) (fun i hi => e i (by omega)), e y hy] at h0
  exact h0
theorem sm_mono {f : Nat → Nat} {m n : Nat} (h : m ≤ n) : fb_sm f m ≤ fb_sm f n := by
  obtain ⟨d, rfl⟩ : ∃ d, n = m + d := ⟨n - m, by omega⟩
  exact fb_sm_mono f m d
theorem pick_one {f : Nat → Nat} {l r r' : Nat} (h1 : fb_sm f r ≤ l) (h2 : l < fb_sm f r + f r) (h1' : fb_sm f r' ≤ l) (h2' : l < fb_sm f r' + f r') : r = r' := by
  rcases Nat.lt_trichotomy r r' with q | q | q
  · have : fb_sm f (r + 1) ≤ fb_sm f r' := sm_mono q
    rw [fb_sm_succ] at this; omega
  · exact q
  · have : fb_sm f (r' + 1) ≤ fb_sm f r := sm_mono q
    rw [fb_sm_succ] at this; omega
theorem Ins_one {al : Nat → Bool} {c w : Nat} {ok : Nat → Nat → Bool} {h j : Nat} {a b : Nat → Nat} {n : Nat} (ha : Ins al c w ok h j a n) (hb : Ins al c w ok h j b n) : ∀ y, y < n → a y = b y := by
  have : ∀ m, m ≤ n → ∀ y, y < m → a y = b y := by
    intro m
    induction m with
    | zero => intro _ y hy; omega
    | succ m ih =>
      intro hm y hy
      by_cases e : y < m
      · exact ih (by omega) y e
      · have em : y = m := by omega
        subst em
        have e0 := ih (by omega)
        have qa := ha y (by omega)
        have qb := hb y (by omega)
        have eb : bef al c w ok h a (y + 1) = bef al c w ok h a y + fb_sm (glv al c w ok h a y) (a y) := rfl
        have eb' : bef al c w ok h b (y + 1) = bef al c w ok h b y + fb_sm (glv al c w ok h b y) (b y) := rfl
        rw [eb] at qa
        rw [eb', ← bef_congr e0, ← glv_congr e0] at qb
        exact pick_one (f := glv al c w ok h a y) (l := j - bef al c w ok h a y) (by omega) (by omega) (by omega) (by omega)
  exact this n (Nat.le_refl _)
theorem Wy_s (R : Nat) (F : Nat → Nat → Bool) (B : Nat → Bool) (ok : Nat → Nat → Bool) (h k a : Nat) : Wy R F B ok h (k + 1) a = if ok (h - 1 - (k + 1)) a then fb_sm (fun b => if F a b then Wy R F B ok h k b else 0) R else 0 := rfl
theorem next_tot {al : Nat → Bool} {c w : Nat} {ok : Nat → Nat → Bool} {h : Nat} {a : Nat → Nat} {y : Nat} (hy : y + 1 < h) (hne : glv al c w ok h a y (a y) ≠ 0) : fb_sm (glv al c w ok h a (y + 1)) (c ^ w) = glv al c w ok h a y (a y) := by
  obtain ⟨k', hk'⟩ : ∃ k', h - 1 - y = k' + 1 := ⟨h - 1 - y - 1, by omega⟩
  have e2 : h - 1 - (y + 1) = k' := by omega
  unfold glv at hne ⊢
  rw [hk'] at hne ⊢
  rw [e2]
  unfold gW at hne ⊢
  cases hu : upG al c w a y (a y) with
  | false => rw [hu] at hne; exact absurd rfl hne
  | true =>
    rw [hu, if_pos rfl] at hne
    rw [if_pos rfl]
    rw [Wy_s] at hne ⊢
    cases ho : ok (h - 1 - (k' + 1)) (a y) with
    | false => rw [ho] at hne; exact absurd rfl hne
    | true =>
      rw [if_pos rfl]
      unfold upG
      rw [if_neg (by omega), Nat.add_sub_cancel]
def Liv (al : Nat → Bool) (c w : Nat) (ok : Nat → Nat → Bool) (h : Nat) (a : Nat → Nat) (n : Nat) : Prop := ∀ y, y < n → a y < c ^ w ∧ glv al c w ok h a y (a y) ≠ 0
theorem Liv_congr {al : Nat → Bool} {c w : Nat} {ok : Nat → Nat → Bool} {h : Nat} {a b : Nat → Nat} {n : Nat} (e : ∀ i, i < n → a i = b i) (hl : Liv al c w ok h a n) : Liv al c w ok h b n := by
  intro y hy
  have h0 := hl y hy
  rw [glv_congr (b := b) (fun i hi => e i (by omega)), e y hy] at h0
  exact h0
theorem Ins_liv {al : Nat → Bool} {c w : Nat} {ok : Nat → Nat → Bool} {h j : Nat} {a : Nat → Nat} {n : Nat} (hi : Ins al c w ok h j a n) : Liv al c w ok h a n := fun y hy => ⟨(hi y hy).1, by have := hi y hy; omega⟩
theorem bef_mono {al : Nat → Bool} {c w : Nat} {ok : Nat → Nat → Bool} {h : Nat} {a : Nat → Nat} {y : Nat} : bef al c w ok h a y ≤ bef al c w ok h a (y + 1) := Nat.le_add_right _ _
theorem inside_of {al : Nat → Bool} {c w : Nat} {ok : Nat → Nat → Bool} {h j : Nat} {a : Nat → Nat} : ∀ {y : Nat}, y < h → Liv al c w ok h a y → bef al c w ok h a y ≤ j → j < bef al c w ok h a y + fb_sm (glv al c w ok h a y) (c ^ w) → Ins al c w ok h j a y
  | 0, _, _, _, _ => fun y hy => absurd hy (by omega)
  | y + 1, hy, hl, hb, hj => by
    have h0 := hl y (by omega)
    rw [next_tot hy h0.2] at hj
    have eb : bef al c w ok h a (y + 1) = bef al c w ok h a y + fb_sm (glv al c w ok h a y) (a y) := rfl
    have hp := fb_sm_part (glv al c w ok h a y) h0.1
    intro z hz
    by_cases e : z = y
    · subst e; exact ⟨h0.1, hb, hj⟩
    · exact inside_of (y := y) (by omega) (fun i hi => hl i (by omega)) (by omega) (by omega) z (by omega)
/-- the rows at which the album is open -/
def aN (f : Nat → Int32) (y : Nat) : Nat := (f y).toNatClampNeg
theorem aN_upd {f : Nat → Int32} {y r i : Nat} (hr : r < 2 ^ 31) : aN (upd f y (nI r)) i = if i = y then r else aN f i := by
  unfold aN
  by_cases e : i = y
  · rw [e, upd_s, nI_clamp hr, if_pos rfl]
  · rw [upd_n _ e, if_neg e]
theorem aN_lo {f : Nat → Int32} {y : Nat} {v : Int32} : ∀ i, i < y → aN (upd f y v) i = aN f i := fun i hi => by
  unfold aN; rw [upd_n _ (by omega)]
def AtOk (c w : Nat) (f : Nat → Int32) (n : Nat) : Prop := ∀ y, y < n → f y = nI (aN f y) ∧ aN f y < c ^ w
def PgOk (c w : Nat) (f pc : Nat → Int32) (n : Nat) : Prop := ∀ y x, y < n → x < w → pc (w * y + x) = nI (dg c w (aN f y) x)
theorem s_show {c w y r : Nat} (h1 : 1 ≤ c) (hc : c ≤ 3) (hw : w ≤ 5) (hy : y < 5) (hr : r < c ^ w) {fr at' pc : Nat → Int32} (hf : ∀ r, r < c ^ w → fr r = nI (frm c w r)) (hP : PgOk c w at' pc y) (hA : AtOk c w at' y) {post : (Nat → Int32) → (Nat → Int32) → Prop}
    (k : ∀ pc', PgOk c w (upd at' y (nI r)) pc' (y + 1) → AtOk c w (upd at' y (nI r)) (y + 1) → post (upd at' y (nI r)) pc') : q_X0_show (nI w) fr at' pc (nI y) (nI r) post := by
  have h243 := pow_le243 hc hw
  unfold q_X0_show
  have hN : w * y + w ≤ 25 := by
    rw [← Nat.mul_succ]; exact Nat.le_trans (Nat.mul_le_mul hw (show y + 1 ≤ 5 by omega)) (by decide)
  refine ⟨vp_in_nI hy (by decide), ?_⟩
  rw [nI_clamp (by omega)]
  have hA' : AtOk c w (upd at' y (nI r)) (y + 1) := by
    intro z hz
    rw [aN_upd (by omega)]
    by_cases e : z = y
    · rw [if_pos e, e, upd_s]; exact ⟨rfl, hr⟩
    · rw [if_neg e, upd_n _ e]; exact hA z (by omega)
  have loop : ∀ (m x : Nat) (g : Nat → Int32), x + m = w → (∀ y' x', y' < y → x' < w → g (w * y' + x') = nI (dg c w (aN at' y') x')) → (∀ x', x' < x → g (w * y + x') = nI (dg c w r x')) → r_X0_show_9 (nI w) fr post (nI y) (nI r) (upd at' y (nI r)) (m + 1) (nI x) g := by
    intro m
    induction m with
    | zero =>
      intro x g hx h1' h2
      unfold r_X0_show_9
      refine pk_le w x (fun _ => k g (fun z x' hz hx' => ?_) hA') (fun q => absurd q (by omega)) rfl rfl (by omega) (by omega)
      rw [aN_upd (by omega)]
      by_cases e : z = y
      · rw [if_pos e, e]; exact h2 x' (by omega)
      · rw [if_neg e]; exact h1' z x' (by omega) hx'
    | succ m ih =>
      intro x g hx h1' h2
      unfold r_X0_show_9
      refine pk_le w x (fun q => absurd q (by omega)) (fun _ => ?_) rfl rfl (by omega) (by omega)
      refine s_colour h1 hc hw hf hr (show x < w by omega) ?_
      rw [pk_mul, nI_add, nI_1]
      refine ⟨vp_in_nI (by omega) (by decide), ?_⟩
      rw [nI_clamp (by omega)]
      refine ih (x + 1) _ (by omega) (fun y' x' hy' hx' => ?_) (fun x' hx' => ?_)
      · have : w * y' + w ≤ w * y := by rw [← Nat.mul_succ]; exact Nat.mul_le_mul_left _ hy'
        rw [upd_n _ (by omega)]; exact h1' y' x' hy' hx'
      · by_cases e : x' = x
        · rw [e, upd_s]
        · rw [upd_n _ (by omega)]; exact h2 x' (by omega)
  exact ⟨w + 1, loop w 0 pc (by omega) hP (fun x' hx' => absurd hx' (by omega))⟩
theorem s_above {c w y : Nat} (h1 : 1 ≤ c) (hc : c ≤ 3) (hw : w ≤ 5) (hy : y < 5) {al : Nat → Bool} {fr at' : Nat → Int32} (hf : ∀ r, r < c ^ w → fr r = nI (frm c w r)) (hA : AtOk c w at' y) {post : Int32 → Prop}
    (k : ∀ v, UpOk al c w v (upG al c w (aN at') y) → post v) : q_X0_above at' (nI (4 ^ (w + 2) - 1)) fr (nI y) post := by
  have h243 := pow_le243 hc hw
  unfold q_X0_above
  unfold upG at k
  refine br (fun q => ?_) (fun q => ?_)
  · have : y = 0 := (nI_zero (by omega)).mp q
    rw [if_pos this] at k
    exact k _ (up_ring al c w)
  · have hy0 : y ≠ 0 := fun e => q (by rw [e]; rfl)
    rw [if_neg hy0] at k
    obtain ⟨e1, e2⟩ := hA (y - 1) (by omega)
    have ey : nI y - (1 : Int32) = nI (y - 1) := by rw [show (1 : Int32) = nI 1 from rfl, pk_sub (by omega)]
    rw [ey]
    refine ⟨vp_in_nI (by omega) (by decide), ?_⟩
    rw [nI_clamp (by omega), e1]
    refine brn (fun _ => ⟨vp_in_nI (by omega) (by decide), vp_in_nI (by omega) (by decide), ?_⟩) (fun z => ?_)
    · rw [nI_clamp (by omega), hf _ e2]
      exact k _ (up_row h1 hc _)
    · have := congrArg Int32.toInt z
      rw [nI_toInt (by omega), tim1] at this; omega
theorem s_waysG {c w h y : Nat} (h1 : 1 ≤ c) (hc : c ≤ 3) (hw : w ≤ 5) (hh : h ≤ 5) (hy : y < h) {al : Nat → Bool} {R fr : Nat → Int32} (hr : RuleOk al R) (hf : ∀ r, r < c ^ w → fr r = nI (frm c w r)) {ok : Nat → Nat → Bool} {ws : Nat → Int64} (hW : WaysX (c ^ w) (Fi al c w) (Bt al c w) ok h ws) {v : Int32} {a : Nat → Nat} (hU : UpOk al c w v (upG al c w a y)) {r : Nat} (hrr : r < c ^ w) {post : Int64 → Prop}
    (k : post (lN (glv al c w ok h a y r))) : q_X0_waysUnder ws (nI w) fr R v (nI y) (nI r) post := s_waysUnder h1 hc hw hh hy hr hf hW hU hrr k
/-- turnTo -/
theorem s_turnTo {c w h : Nat} (h1 : 1 ≤ c) (hc : c ≤ 3) (hw : w ≤ 5) (hh1 : 1 ≤ h) (hh : h ≤ 5) {al : Nat → Bool} {R fr pw at' pc : Nat → Int32} (hr : RuleOk al R) (hR : RowsOk c w (nI c) (nI w) (nI (c ^ w)) (nI (4 ^ (w + 2) - 1)) fr pw) {ok : Nat → Nat → Bool} {ws : Nat → Int64} (hW : WaysX (c ^ w) (Fi al c w) (Bt al c w) ok h ws) {j : Nat} (hj : j < 2 ^ 31) {post : Int32 → (Nat → Int32) → (Nat → Int32) → Prop}
    (k1 : j < totW (c ^ w) (Fi al c w) (Tp al c w) (Bt al c w) ok h → ∀ at2 pc2, Ins al c w ok h j (aN at2) h → AtOk c w at2 h → PgOk c w at2 pc2 h → post 1 at2 pc2) (k0 : totW (c ^ w) (Fi al c w) (Tp al c w) (Bt al c w) ok h ≤ j → ∀ at2 pc2, post 0 at2 pc2) : q_X0_turnTo ws (nI w) (nI (c ^ w)) (nI (4 ^ (w + 2) - 1)) fr R (nI h) at' pc (lN j) post := by
  have h243 := pow_le243 hc hw
  have hf := hR.2.2.2.2.1
  unfold q_X0_turnTo
  -- one row's search
  have inner : ∀ {K : Int64 → Int32 → Int32 → (Nat → Int32) → (Nat → Int32) → Prop} {y : Nat} {v : Int32} {at' pc : Nat → Int32} {l : Nat}, y < h → l < 2 ^ 31 → UpOk al c w v (upG al c w (aN at') y) → PgOk c w at' pc y → AtOk c w at' y → (fb_sm (glv al c w ok h (aN at') y) (c ^ w) ≤ l → K (lN (l - fb_sm (glv al c w ok h (aN at') y) (c ^ w))) (nI y) 0 at' pc) → (∀ r pc2, r < c ^ w → fb_sm (glv al c w ok h (aN at') y) r ≤ l → l < fb_sm (glv al c w ok h (aN at') y) r + glv al c w ok h (aN at') y r → PgOk c w (upd at' y (nI r)) pc2 (y + 1) → AtOk c w (upd at' y (nI r)) (y + 1) → K (lN (l - fb_sm (glv al c w ok h (aN at') y) r)) (nI y) 1 (upd at' y (nI r)) pc2) →
      ∀ (m i : Nat), i + m = c ^ w → fb_sm (glv al c w ok h (aN at') y) i ≤ l → r_X0_turnTo_31 ws (nI w) (nI (c ^ w)) (nI (4 ^ (w + 2) - 1)) fr R (nI h) post K (nI y) v (m + 2) (lN (l - fb_sm (glv al c w ok h (aN at') y) i)) 0 (nI i) at' pc := by
    intro K y v at' pc l hy hl hU hP hA hK0 hK1 m
    induction m with
    | zero =>
      intro i hi hs
      unfold r_X0_turnTo_31
      rw [show i = c ^ w by omega] at hs ⊢
      exact pk_le (c ^ w) (c ^ w) (fun _ => hK0 hs) (fun q => absurd q (by omega)) rfl rfl (by omega) (by omega)
    | succ m ih =>
      intro i hi hs
      unfold r_X0_turnTo_31
      refine pk_le (c ^ w) i (fun q => absurd q (by omega)) (fun _ => ?_) rfl rfl (by omega) (by omega)
      refine c0 (s_waysG h1 hc hw hh hy hr hf hW hU (show i < c ^ w by omega) ?_)
      have hg : glv al c w ok h (aN at') y i ≤ 3486784401 := gW_lt h243 (by omega)
      rw [pk_lLE (by omega) (by omega)]
      refine br (fun q => ?_) (fun q => ?_)
      · unfold q_X0_turnTo_72
        refine b0 ?_
        rw [lN_sub q, nI_1, Nat.sub_sub, ← fb_sm_succ]
        exact ih (i + 1) (by omega) (by rw [fb_sm_succ]; omega)
      · unfold q_X0_turnTo_72
        refine b1 (s_show h1 hc hw (by omega) (show i < c ^ w by omega) hf hP hA (fun pc2 hP2 hA2 => ?_))
        have kk := hK1 i pc2 (by omega) hs (by omega) hP2 hA2
        unfold r_X0_turnTo_31
        exact br (fun _ => kk) (fun _ => c1 kk)
  have outer : ∀ (m y : Nat) (at' pc : Nat → Int32), y + m = h → bef al c w ok h (aN at') y ≤ j → Ins al c w ok h j (aN at') y → AtOk c w at' y → PgOk c w at' pc y → r_X0_turnTo_5 ws (nI w) (nI (c ^ w)) (nI (4 ^ (w + 2) - 1)) fr R (nI h) post (m + 1) (lN (j - bef al c w ok h (aN at') y)) (nI y) at' pc := by
    intro m
    induction m with
    | zero =>
      intro y at' pc hy hb hI hA hP
      unfold r_X0_turnTo_5
      have ey : y = h := by omega
      subst ey
      refine pk_le y y (fun _ => ?_) (fun q => absurd q (by omega)) rfl rfl (by omega) (by omega)
      refine k1 ?_ at' pc hI hA hP
      have h0 := hI 0 (by omega)
      have eb : bef al c w ok y (aN at') (0 + 1) = 0 + fb_sm (glv al c w ok y (aN at') 0) (aN at' 0) := rfl
      have hp := fb_sm_part (glv al c w ok y (aN at') 0) h0.1
      rw [← totW_eq]
      show j < fb_sm (glv al c w ok y (aN at') 0) (c ^ w)
      omega
    | succ m ih =>
      intro y at' pc hy hb hI hA hP
      unfold r_X0_turnTo_5
      refine pk_le h y (fun q => absurd q (by omega)) (fun _ => ?_) rfl rfl (by omega) (by omega)
      refine s_above (al := al) h1 hc hw (by omega) hf hA (fun v hU => ?_)
      have h0 := inner (K := q_X0_turnTo_101 ws (nI w) (nI (c ^ w)) (nI (4 ^ (w + 2) - 1)) fr R (nI h) post (r_X0_turnTo_5 ws (nI w) (nI (c ^ w)) (nI (4 ^ (w + 2) - 1)) fr R (nI h) post (m + 1))) (l := j - bef al c w ok h (aN at') y) (show y < h by omega) (by omega) hU hP hA (fun q => ?_) (fun r pc2 hr' q1 q2 hP2 hA2 => ?_) (c ^ w) 0 (by omega) (Nat.zero_le _)
      · exact ⟨_, h0⟩
      · unfold q_X0_turnTo_101
        refine c0 (k0 ?_ _ _)
        by_cases hy0 : y = 0
        · subst hy0
          have e0 : bef al c w ok h (aN at') 0 = 0 := rfl
          rw [e0] at q
          rw [← totW_eq]
          exact q
        · obtain ⟨z, rfl⟩ : ∃ z, y = z + 1 := ⟨y - 1, by omega⟩
          have hz := hI z (by omega)
          rw [next_tot (by omega) (by omega)] at q
          omega
      · unfold q_X0_turnTo_101
        refine c1 ?_
        have elo : ∀ i, i < y → aN (upd at' y (nI r)) i = aN at' i := aN_lo
        have ebef : bef al c w ok h (aN (upd at' y (nI r))) (y + 1) = bef al c w ok h (aN at') y + fb_sm (glv al c w ok h (aN at') y) r := by
          show bef al c w ok h (aN (upd at' y (nI r))) y + fb_sm (glv al c w ok h (aN (upd at' y (nI r))) y) (aN (upd at' y (nI r)) y) = _
          rw [bef_congr elo, glv_congr elo, aN_upd (by omega), if_pos rfl]
        have hrest := ih (y + 1) (upd at' y (nI r)) pc2 (by omega) (by rw [ebef]; omega) (fun z hz => by
          by_cases e : z = y
          · subst e
            rw [ebef, glv_congr elo, aN_upd (by omega), if_pos rfl]
            exact ⟨hr', by omega, by omega⟩
          · exact Ins_congr (fun i hi => (elo i (by omega)).symm) hI z (by omega)) hA2 hP2
        rw [ebef, ← Nat.sub_sub, ← nI_1] at hrest
        exact hrest
  have h0 := outer h 0 at' pc (by omega) (Nat.zero_le _) (fun y hy => absurd hy (by omega)) (fun y hy => absurd hy (by omega)) (fun y x hy => absurd hy (by omega))
  exact ⟨h + 1, h0⟩
