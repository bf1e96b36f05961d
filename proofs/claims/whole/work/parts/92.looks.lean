/-! looks -/
def LtOk (lt : Nat → Int32) (lb : Nat → Bool) : Prop := ∀ i, i < 3 → lt i = bI (lb i)
theorem bitG {v j : Nat} (hv : v < 2 ^ 31) (hj : j < 32) : (nI v >>> (nI j &&& 31)) &&& (1 : Int32) = bI (v.testBit j) := by
  have hd : v / 2 ^ j ≤ v := Nat.div_le_self _ _
  rw [shrN hv hj, and1N (by omega)]
  cases h : v.testBit j with
  | false => rw [tb_zero.mpr h]; rfl
  | true =>
    have : v / 2 ^ j % 2 = 1 := by rw [tb_div] at h; exact of_decide_eq_true h
    rw [this]; rfl
theorem bI_inj {a b : Bool} : bI a = bI b ↔ a = b := by cases a <;> cases b <;> decide
/-- a set of numbers, as bits -/
def bitsOf (p : Nat → Bool) : Nat → Nat
  | 0 => 0
  | n + 1 => bitsOf p n ||| (if p n then 2 ^ n else 0)
theorem bitsOf_lt (p : Nat → Bool) : ∀ n, bitsOf p n < 2 ^ n
  | 0 => (show 0 < 2 ^ 0 by decide)
  | n + 1 => by
    have h := bitsOf_lt p n
    have h2 : (2 : Nat) ^ n < 2 ^ (n + 1) := Nat.pow_lt_pow_right (by decide) (by omega)
    show bitsOf p n ||| (if p n then 2 ^ n else 0) < 2 ^ (n + 1)
    refine Nat.or_lt_two_pow (by omega) ?_
    split <;> omega
theorem bitsOf_tb (p : Nat → Bool) : ∀ n i, (bitsOf p n).testBit i = (decide (i < n) && p i)
  | 0, i => by rw [show bitsOf p 0 = 0 from rfl, Nat.zero_testBit]; simp
  | n + 1, i => by
    show (bitsOf p n ||| (if p n then 2 ^ n else 0)).testBit i = _
    cases hp : p n with
    | true =>
      rw [if_pos rfl, fb_bit_set, bitsOf_tb p n i]
      by_cases e : i = n
      · subst e; simp [hp]
      · have : decide (i < n + 1) = decide (i < n) := decide_eq_decide.mpr (by omega)
        simp [e, this]
    | false =>
      rw [if_neg (by decide), Nat.or_zero, bitsOf_tb p n i]
      by_cases e : i = n
      · subst e; simp [hp]
      · have : decide (i < n + 1) = decide (i < n) := decide_eq_decide.mpr (by omega)
        rw [this]
theorem bits_eq {u v n : Nat} (hu : u < 2 ^ n) (hv : v < 2 ^ n) (h : ∀ i, i < n → u.testBit i = v.testBit i) : u = v := by
  apply Nat.eq_of_testBit_eq
  intro i
  by_cases hi : i < n
  · exact h i hi
  · have hp : (2 : Nat) ^ n ≤ 2 ^ i := Nat.pow_le_pow_right (by decide) (by omega)
    rw [Nat.testBit_lt_two_pow (by omega), Nat.testBit_lt_two_pow (by omega)]
theorem s_coloursOf {c : Nat} (hc : c ≤ 3) {lt : Nat → Int32} {lb : Nat → Bool} (hl : LtOk lt lb) {b : Bool} {post : Int32 → Prop} (k : post (nI (bitsOf (fun d => decide (lb d = b)) c))) : q_X8_coloursOf (nI c) lt (bI b) post := by
  unfold q_X8_coloursOf
  have loop : ∀ (m i : Nat), i + m = c → r_X8_coloursOf_4 (nI c) lt post (bI b) (m + 1) (nI (bitsOf (fun d => decide (lb d = b)) i)) (nI i) := by
    intro m
    induction m with
    | zero =>
      intro i hi
      unfold r_X8_coloursOf_4
      rw [show i = c by omega]
      exact pk_le c c (fun _ => k) (fun q => absurd q (by omega)) rfl rfl (by omega) (by omega)
    | succ m ih =>
      intro i hi
      unfold r_X8_coloursOf_4
      refine pk_le c i (fun q => absurd q (by omega)) (fun _ => ⟨vp_in_nI (by omega) (by decide), ?_⟩) rfl rfl (by omega) (by omega)
      have hI := ih (i + 1) (by omega)
      have es : bitsOf (fun d => decide (lb d = b)) (i + 1) = bitsOf (fun d => decide (lb d = b)) i ||| (if decide (lb i = b) then 2 ^ i else 0) := rfl
      rw [nI_clamp (by omega), hl i (by omega), bI_inj, nI_1, or_bit (by omega)]
      refine brn (fun q => ?_) (fun q => ?_)
      · rw [es, decide_eq_false q, if_neg (by decide), Nat.or_zero] at hI; exact hI
      · rw [es, decide_eq_true q, if_pos rfl] at hI; exact hI
  exact ⟨c + 1, loop c 0 (by omega)⟩
def okL (lb : Nat → Bool) (look c w y a : Nat) : Bool := decide (∀ x, x < w → lb (dg c w a x) = look.testBit (w * y + x))
def wL (lb : Nat → Bool) (look c N i : Nat) : Nat := if i < N then bitsOf (fun d => decide (lb d = look.testBit i)) c else 2 ^ c - 1
theorem wL_lt {lb : Nat → Bool} {look c N i : Nat} (hc2 : c = 2 ∨ c = 3) : wL lb look c N i < 8 := by
  unfold wL
  split
  · refine Nat.lt_of_lt_of_le (bitsOf_lt _ c) ?_
    rcases hc2 with rfl | rfl <;> decide
  · rcases hc2 with rfl | rfl <;> decide
theorem wsh_L {lb : Nat → Bool} {look c h w y a : Nat} (h1 : 1 ≤ c) (hy : y < h) : wsh c w (wL lb look c (h * w)) y a = okL lb look c w y a := by
  unfold wsh okL
  apply decide_eq_decide.mpr
  have key : ∀ x, x < w → ((wL lb look c (h * w) (w * y + x)).testBit (dg c w a x) = true ↔ lb (dg c w a x) = look.testBit (w * y + x)) := by
    intro x hx
    unfold wL
    rw [if_pos (cellN hy hx), bitsOf_tb, decide_eq_true (dg_lt h1 w a x), Bool.true_and, decide_eq_true_iff]
  constructor
  · intro q x hx; exact (key x hx).mp (q x hx)
  · intro q x hx; exact (key x hx).mpr (q x hx)
theorem s_openLook {c h w look : Nat} (hc2 : c = 2 ∨ c = 3) (hh1 : 1 ≤ h) (hh : h ≤ 5) (hw1 : 1 ≤ w) (hw : w ≤ 5) {lt : Nat → Int32} {lb : Nat → Bool} (hl : LtOk lt lb) (hk : look < 2 ^ 31) {wf fr pw pc : Nat → Int32} {a b d g e f' : Int32} {post : (Nat → Int32) → Int32 → Int32 → Int32 → Int32 → (Nat → Int32) → (Nat → Int32) → Int32 → Int32 → (Nat → Int32) → Prop}
    (k : ∀ wf' fr' pw' pc', (∀ i, i < 25 → wf' i = nI (wL lb look c (h * w) i) ∧ wL lb look c (h * w) i < 8) → RowsOk c w (nI c) (nI w) (nI (c ^ w)) (nI (4 ^ (w + 2) - 1)) fr' pw' → post wf' (nI c) (nI w) (nI (c ^ w)) (nI (4 ^ (w + 2) - 1)) fr' pw' (nI h) (nI w) pc') : q_X8_openLook (nI c) lt wf a b d g fr pw e f' pc (nI h) (nI w) (nI look) post := by
  unfold q_X8_openLook
  have hN := hw25 hh hw
  refine s_openA hc2 hw1 hw (fun wf' rs rg fr' pw' pc' hwi hR => ?_)
  have hR' := hR
  obtain ⟨-, -, rfl, rfl, -, -⟩ := hR
  have loop : ∀ (m i : Nat) (g : Nat → Int32), i + m = h * w → (∀ j, j < 25 → g j = nI (if j < i then wL lb look c (h * w) j else 2 ^ c - 1)) → r_X8_openLook_16 (nI c) lt post (nI h) (nI w) (nI look) (nI c) (nI w) (nI (c ^ w)) (nI (4 ^ (w + 2) - 1)) fr' pw' (nI h) (nI w) pc' (m + 1) (nI i) g := by
    intro m
    induction m with
    | zero =>
      intro i g hi hg
      unfold r_X8_openLook_16
      rw [pk_mul]
      refine pk_le (h * w) i (fun _ => k g fr' pw' pc' (fun j hj => ⟨?_, wL_lt hc2⟩) hR') (fun q => absurd q (by omega)) rfl rfl (by omega) (by omega)
      rw [hg j hj]
      by_cases e : j < i
      · rw [if_pos e]
      · rw [if_neg e]; unfold wL; rw [if_neg (by omega)]
    | succ m ih =>
      intro i g hi hg
      unfold r_X8_openLook_16
      rw [pk_mul]
      refine pk_le (h * w) i (fun q => absurd q (by omega)) (fun _ => ?_) rfl rfl (by omega) (by omega)
      rw [bitG hk (by omega)]
      refine s_coloursOf (by omega) hl ⟨vp_in_nI (by omega) (by decide), ?_⟩
      rw [nI_clamp (by omega), nI_1]
      refine ih (i + 1) _ (by omega) (fun j hj => ?_)
      by_cases e2 : j = i
      · rw [e2, upd_s, if_pos (by omega)]
        unfold wL
        rw [if_pos (by omega)]
      · rw [upd_n _ e2, hg j hj]
        by_cases e : j < i
        · rw [if_pos e, if_pos (by omega)]
        · rw [if_neg e, if_neg (by omega)]
  refine ⟨h * w + 1, loop (h * w) 0 wf' (by omega) (fun j hj => ?_)⟩
  rw [if_neg (by omega)]
  exact (hwi j hj).1
def lkR (lb : Nat → Bool) (c w a : Nat) : Nat := bitsOf (fun x => lb (dg c w a x)) w
theorem or_bool {v x : Nat} {b : Bool} (hx : x < 31) : nI v ||| (bI b <<< (nI x &&& 31)) = nI (v ||| (if b then 2 ^ x else 0)) := by
  have hp : (2 : Nat) ^ x < 2 ^ 32 := Nat.pow_lt_pow_right (by decide) (by omega)
  cases b with
  | true => exact or_bit hx
  | false =>
    rw [bI_f, if_neg (by decide), show (0 : Int32) = nI 0 from rfl, shlN (by omega) (by omega), Nat.zero_mul, fa_or]
theorem s_lookOf {c w a : Nat} (hc : c ≤ 3) (h1 : 1 ≤ c) (hw : w ≤ 5) (ha : a < 2 ^ 30) {lt : Nat → Int32} {lb : Nat → Bool} (hl : LtOk lt lb) {post : Int32 → Prop} (k : post (nI (lkR lb c w a))) : q_X9_lookOf (nI c) lt (nI a) (nI w) post := by
  unfold q_X9_lookOf
  have loop : ∀ (m i : Nat), i + m = w → r_X9_lookOf_5 (nI c) lt post (nI a) (nI w) (m + 1) (nI (bitsOf (fun x => lb (dg c w a x)) i)) (nI i) := by
    intro m
    induction m with
    | zero =>
      intro i hi
      unfold r_X9_lookOf_5
      rw [show i = w by omega]
      exact pk_le w w (fun _ => k) (fun q => absurd q (by omega)) rfl rfl (by omega) (by omega)
    | succ m ih =>
      intro i hi
      unfold r_X9_lookOf_5
      refine pk_le w i (fun q => absurd q (by omega)) (fun _ => ?_) rfl rfl (by omega) (by omega)
      refine s_cellOf hc h1 hw ha (j := i + 1) (same_nI (by omega)) ?_
      have hd := dg_lt h1 w a i
      rw [rowP_dg (show i < w by omega)]
      refine ⟨vp_in_nI (by omega) (by decide), fun v4 e4 => ?_⟩
      rw [nI_clamp (by omega), hl _ (by omega), or_bool (by omega)] at e4
      rw [e4, nI_1]
      exact ih (i + 1) (by omega)
  exact ⟨w + 1, loop w 0 (by omega)⟩
theorem lk_eq {lb : Nat → Bool} {look c w y a : Nat} : lkR lb c w a = look / 2 ^ (w * y) % 2 ^ w ↔ okL lb look c w y a = true := by
  unfold okL
  rw [decide_eq_true_iff]
  have hb : ∀ x, x < w → ((lkR lb c w a).testBit x = lb (dg c w a x)) ∧ (look / 2 ^ (w * y) % 2 ^ w).testBit x = look.testBit (w * y + x) := by
    intro x hx
    refine ⟨?_, ?_⟩
    · unfold lkR; rw [bitsOf_tb, decide_eq_true hx, Bool.true_and]
    · rw [Nat.testBit_mod_two_pow, decide_eq_true hx, Bool.true_and, ← Nat.shiftRight_eq_div_pow, Nat.testBit_shiftRight]
  constructor
  · intro q x hx
    have := hb x hx
    rw [← this.1, q, this.2]
  · intro q
    refine bits_eq (n := w) (bitsOf_lt _ w) (Nat.mod_lt _ (Nat.pow_pos (by decide))) (fun x hx => ?_)
    rw [(hb x hx).1, (hb x hx).2]; exact q x hx
theorem s_countLook {c h w look : Nat} (hc : c ≤ 3) (h1 : 1 ≤ c) (hw : w ≤ 5) (hh1 : 1 ≤ h) (hh : h ≤ 5) {al : Nat → Bool} {R lt : Nat → Int32} {lb : Nat → Bool} (hr : RuleM al R) (hl : LtOk lt lb) (hk : look < 2 ^ 31) {mr : Int32} {fits top bottom may : Nat → Int32} {ways : Nat → Int64} {post : Int64 → Int32 → (Nat → Int32) → (Nat → Int32) → (Nat → Int32) → (Nat → Int32) → (Nat → Int64) → Prop}
    (k : ∀ fits' top' bottom' may' ways', FitsOk al c w fits' top' bottom' → WaysM (c ^ w) (Fi al c w) (Bt al c w) (okL lb look c w) h ways' → post (lN (capM (totW (c ^ w) (Fi al c w) (Tp al c w) (Bt al c w) (okL lb look c w) h))) (nI (c ^ w)) fits' top' bottom' may' ways') : q_X9_countLook (nI c) R lt mr fits top bottom may ways (nI h) (nI w) (nI look) post := by
  unfold q_X9_countLook
  have h243 := pow_le243 hc hw
  refine s_layFits hc h1 hw hr (fun fits' top' bottom' hF => ?_)
  have inner : ∀ {K : Int32 → (Nat → Int32) → Prop} {a : Nat}, a < c ^ w → (∀ mm, (∀ y' a', y' < h → a' < a + 1 → mm (243 * y' + a') = bI (okL lb look c w y' a')) → K (nI a) mm) → ∀ (m y : Nat) (mm : Nat → Int32), y + m = h → (∀ y' a', y' < h → a' < a → mm (243 * y' + a') = bI (okL lb look c w y' a')) → (∀ y', y' < y → mm (243 * y' + a) = bI (okL lb look c w y' a)) → r_X9_countLook_29 (nI c) R lt (nI h) (nI w) (nI look) (nI (c ^ w)) fits' top' bottom' ways post K (nI a) (nI (lkR lb c w a)) (m + 1) (nI y) mm := by
    intro K a ha hK m
    induction m with
    | zero =>
      intro y mm hy h1' h2
      unfold r_X9_countLook_29
      refine pk_le h y (fun _ => hK mm (fun y' a' hy' ha' => ?_)) (fun q => absurd q (by omega)) rfl rfl (by omega) (by omega)
      by_cases e : a' = a
      · rw [e]; exact h2 y' (by omega)
      · exact h1' y' a' hy' (by omega)
    | succ m ih =>
      intro y mm hy h1' h2
      unfold r_X9_countLook_29
      refine pk_le h y (fun q => absurd q (by omega)) (fun _ => ?_) rfl rfl (by omega) (by omega)
      have hwy : w * y ≤ 25 := Nat.le_trans (Nat.mul_le_mul hw (show y ≤ 5 by omega)) (by decide)
      have h2w : (2 : Nat) ^ w ≤ 32 := Nat.le_trans (Nat.pow_le_pow_right (by decide) hw) (by decide)
      have h2p : 0 < (2 : Nat) ^ w := Nat.pow_pos (by decide)
      have hd : look / 2 ^ (w * y) ≤ look := Nat.div_le_self _ _
      have hm := Nat.mod_lt (look / 2 ^ (w * y)) h2p
      have hlk := bitsOf_lt (fun x => lb (dg c w a x)) w
      have emask : ((1 : Int32) <<< (nI w &&& 31)) - 1 = nI (2 ^ w - 1) := by
        rw [show (1 : Int32) = nI 1 from rfl, shlN (by omega) (by omega), Nat.one_mul, pk_sub (by omega)]
      rw [pk_mul, shrN hk (by omega), emask, fa_mask, i243, nI_1, nI_clamp (by omega)]
      have hi : vp_in (nI (243 * y + a)) 1215 := vp_in_nI (by omega) (by decide)
      have go : ∀ v : Int32, v = bI (okL lb look c w y a) → r_X9_countLook_29 (nI c) R lt (nI h) (nI w) (nI look) (nI (c ^ w)) fits' top' bottom' ways post K (nI a) (nI (lkR lb c w a)) (m + 1) (nI (y + 1)) (upd mm (243 * y + a) v) := by
        intro v ev
        refine ih (y + 1) _ (by omega) (fun y' a' hy' ha' => ?_) (fun y' hy' => ?_)
        · rw [upd_n _ (by omega)]; exact h1' y' a' hy' ha'
        · by_cases e : y' = y
          · rw [e, upd_s, ev]
          · rw [upd_n _ (by omega)]; exact h2 y' (by omega)
      have elk : nI (lkR lb c w a) = nI (look / 2 ^ (w * y) % 2 ^ w) ↔ okL lb look c w y a = true := by
        have hl2 : lkR lb c w a < 2 ^ w := hlk
        rw [nI_eq (by omega) (by omega)]; exact lk_eq
      rw [elk]
      refine brn (fun q => ⟨hi, go 0 ?_⟩) (fun q => ⟨hi, go 1 ?_⟩)
      · rw [Bool.not_eq_true _ |>.mp q]; rfl
      · rw [q]; rfl
  have outer : ∀ (m a : Nat) (mm : Nat → Int32), a + m = c ^ w → (∀ y' a', y' < h → a' < a → mm (243 * y' + a') = bI (okL lb look c w y' a')) → r_X9_countLook_8 (nI c) R lt post (q_X9_countLook_83 (nI c) R lt post) (nI h) (nI w) (nI look) (nI (c ^ w)) fits' top' bottom' ways (m + 1) (nI a) mm := by
    intro m
    induction m with
    | zero =>
      intro a mm ha hu
      unfold r_X9_countLook_8
      refine pk_le (c ^ w) a (fun _ => ?_) (fun q => absurd q (by omega)) rfl rfl (by omega) (by omega)
      unfold q_X9_countLook_83
      exact s_layWays h243 hh1 hh hF.1 hF.2.1 hF.2.2 (ok := okL lb look c w) (fun y' a' hy' ha' => hu y' a' hy' (by omega)) (fun ways' hW => k fits' top' bottom' mm ways' hF hW)
    | succ m ih =>
      intro a mm ha hu
      unfold r_X9_countLook_8
      refine pk_le (c ^ w) a (fun q => absurd q (by omega)) (fun _ => ?_) rfl rfl (by omega) (by omega)
      refine s_lookOf hc h1 hw (by omega) hl ?_
      refine ⟨h + 1, inner (show a < c ^ w by omega) (fun mm' h' => ?_) h 0 mm (by omega) hu (fun y' hy' => absurd hy' (by omega))⟩
      unfold q_X9_countLook_77
      rw [nI_1]
      exact ih (a + 1) mm' (by omega) h'
  exact ⟨c ^ w + 1, outer (c ^ w) 0 may (by omega) (fun y' a' _ ha' => absurd ha' (by omega))⟩
theorem p25 {h w : Nat} (hh : h ≤ 5) (hw : w ≤ 5) : 2 ^ (h * w) ≤ 33554432 := Nat.le_trans (Nat.pow_le_pow_right (by decide) (hw25 hh hw)) (by decide)
theorem s_isLookX {h w : Nat} (hh : h ≤ 5) (hw : w ≤ 5) {l : Int32} {post : Int32 → Prop} (k : ∀ look : Nat, l = nI look → look < 2 ^ (h * w) → post 1) (k0 : ¬ (0 ≤ l.toInt ∧ l.toInt < (2 ^ (h * w) : Nat)) → post 0) : q_X8_isLook l (nI (h * w)) post := by
  unfold q_X8_isLook
  have hN := hw25 hh hw
  have hp := p25 hh hw
  simp only [fa_lt, ti0]
  refine ⟨fun q => k0 (by omega), fun q => ?_⟩
  have hrg := fb_rng l
  have el := nI_of_toInt (a := l) (by omega)
  generalize hv : l.toInt.toNat = v at el
  rw [el, shrN (by omega) (by omega)]
  have hd : v / 2 ^ (h * w) ≤ v := Nat.div_le_self _ _
  rw [nI_zero (by omega)]
  have hpos : 0 < 2 ^ (h * w) := Nat.pow_pos (by decide)
  have hz : v / 2 ^ (h * w) = 0 ↔ v < 2 ^ (h * w) := by rw [Nat.div_eq_zero_iff]; omega
  rw [hz]
  exact brn (fun q2 => k0 (by omega)) (fun q2 => k v el q2)
theorem s_isLookM {a b l : Int32} {post : Int32 → Prop} (k : ∀ h w look : Nat, 1 ≤ h ∧ h ≤ 5 ∧ 1 ≤ w ∧ w ≤ 5 → a = nI h → b = nI w → l = nI look → look < 2 ^ (h * w) → post 1) (k0 : ¬ isSz a b → post 0) (k00 : ∀ h w : Nat, 1 ≤ h ∧ h ≤ 5 ∧ 1 ≤ w ∧ w ≤ 5 → a = nI h → b = nI w → ¬ (0 ≤ l.toInt ∧ l.toInt < (2 ^ (h * w) : Nat)) → post 0) : q_X9_isLook a b l post := by
  unfold q_X9_isLook
  refine s_isSizeM (fun hs => b1 ?_) (fun hs => b0 (k0 hs))
  obtain ⟨h, hh1, hh, rfl⟩ := small (lo := 1) (hi := 5) (a := a) (by omega)
  obtain ⟨w, hw1, hw, rfl⟩ := small (lo := 1) (hi := 5) (a := b) (by omega)
  have hN := hw25 hh hw
  have hp := p25 hh hw
  have hpos : 0 < 2 ^ (h * w) := Nat.pow_pos (by decide)
  have e : ((1 : Int32) <<< (nI h * nI w &&& 31)) - 1 = nI (2 ^ (h * w) - 1) := by
    rw [pk_mul, show (1 : Int32) = nI 1 from rfl, shlN (by omega) (by omega), Nat.one_mul, pk_sub (by omega)]
  rw [e]
  have e2 : ((nI (2 ^ (h * w) - 1)).toInt64).toInt = ((2 ^ (h * w) - 1 : Nat) : Int) := by rw [Int32.toInt_toInt64, nI_toInt (by omega)]
  refine s_in (fun q => b1 ?_) (fun q => b0 ?_)
  · rw [e2, tl0] at q
    exact k h w l.toInt.toNat ⟨hh1, hh, hw1, hw⟩ rfl rfl (nI_of_toInt (by omega)) (by omega)
  · rw [e2, tl0] at q
    exact k00 h w ⟨hh1, hh, hw1, hw⟩ rfl rfl (by omega)
def totL (al : Nat → Bool) (lb : Nat → Bool) (look c h w : Nat) : Nat := totW (c ^ w) (Fi al c w) (Tp al c w) (Bt al c w) (okL lb look c w) h
theorem s_looksX {c : Nat} (hc2 : c = 2 ∨ c = 3) {al : Nat → Bool} {R lt : Nat → Int32} {lb : Nat → Bool} (hr : RuleOk al R) (hl : LtOk lt lb) {wf fr pw pc : Nat → Int32} {ws ft : Nat → Int64} {a b d g e f : Int32} {l1 l2 l3 : Int32} {post : Int32 → (Nat → Int32) → (Nat → Int64) → (Nat → Int64) → Int32 → Int32 → Int32 → Int32 → (Nat → Int32) → (Nat → Int32) → Int32 → Int32 → (Nat → Int32) → Prop}
    (k : ∀ h w look : Nat, 1 ≤ h ∧ h ≤ 5 ∧ 1 ≤ w ∧ w ≤ 5 → l1 = nI h → l2 = nI w → l3 = nI look → look < 2 ^ (h * w) → ∀ wf' ws' ft' a' b' d' g' fr' pw' e' f' pc', post (nI (capM (totL al lb look c h w))) wf' ws' ft' a' b' d' g' fr' pw' e' f' pc') (k0 : ¬ isSz l1 l2 → post (-3) wf ws ft a b d g fr pw e f pc) (k00 : ∀ h w : Nat, 1 ≤ h ∧ h ≤ 5 ∧ 1 ≤ w ∧ w ≤ 5 → l1 = nI h → l2 = nI w → ¬ (0 ≤ l3.toInt ∧ l3.toInt < (2 ^ (h * w) : Nat)) → post (-3) wf ws ft a b d g fr pw e f pc) : q_X8_looks (nI c) lt R wf ws ft a b d g fr pw e f pc l1 l2 l3 post := by
  unfold q_X8_looks
  refine s_isSizeX (fun hs => b1 ?_) (fun hs => b0 (k0 hs))
  obtain ⟨h, hh1, hh, rfl⟩ := small (lo := 1) (hi := 5) (a := l1) (by omega)
  obtain ⟨w, hw1, hw, rfl⟩ := small (lo := 1) (hi := 5) (a := l2) (by omega)
  have hp := p25 hh hw
  rw [pk_mul]
  refine s_isLookX hh hw (fun look el hlk => c1 ?_) (fun q => c0 (k00 h w ⟨hh1, hh, hw1, hw⟩ rfl rfl q))
  subst el
  refine s_openLook hc2 hh1 hh hw1 hw hl (by omega) (fun wf' fr' pw' pc' hwi hR => ?_)
  refine s_fillA hc2 hw1 hw hh1 hh hr hR hwi (fun ws' ft' hW => ?_)
  have hW' := hW.congr (ok' := okL lb look c w) (fun y a hy _ => wsh_L (by omega) hy)
  refine s_total (y := 0) (by omega) (by omega) hw hh (by omega) hr hR.2.2.2.2.1 hW' ?_
  have h243 := pow_le243 (show c ≤ 3 by omega) hw
  have hlt := totW_lt (R := c ^ w) (F := Fi al c w) (T := Tp al c w) (B := Bt al c w) (ok := okL lb look c w) h243 hh
  rw [Nat.sub_zero, totW_eq]
  exact s_cappedX (by omega) (k h w look ⟨hh1, hh, hw1, hw⟩ rfl rfl rfl hlk _ _ _ _ _ _ _ _ _ _ _ _)
theorem s_looksM {c : Nat} (hc : c ≤ 3) (h1 : 1 ≤ c) {al : Nat → Bool} {R lt : Nat → Int32} {lb : Nat → Bool} (hr : RuleM al R) (hl : LtOk lt lb) {mr : Int32} {fits top bottom may : Nat → Int32} {ways : Nat → Int64} {l1 l2 l3 : Int32} {post : Int32 → Int32 → (Nat → Int32) → (Nat → Int32) → (Nat → Int32) → (Nat → Int32) → (Nat → Int64) → Prop}
    (k : ∀ h w look : Nat, 1 ≤ h ∧ h ≤ 5 ∧ 1 ≤ w ∧ w ≤ 5 → l1 = nI h → l2 = nI w → l3 = nI look → look < 2 ^ (h * w) → ∀ mr' fits' top' bottom' may' ways', post (nI (capM (totL al lb look c h w))) mr' fits' top' bottom' may' ways') (k0 : ¬ isSz l1 l2 → post (-3) mr fits top bottom may ways) (k00 : ∀ h w : Nat, 1 ≤ h ∧ h ≤ 5 ∧ 1 ≤ w ∧ w ≤ 5 → l1 = nI h → l2 = nI w → ¬ (0 ≤ l3.toInt ∧ l3.toInt < (2 ^ (h * w) : Nat)) → post (-3) mr fits top bottom may ways) : q_X9_looks (nI c) R lt mr fits top bottom may ways l1 l2 l3 post := by
  unfold q_X9_looks
  refine s_isLookM (fun h w look hs e1 e2 e3 hlk => b1 ?_) (fun q => b0 (k0 q)) (fun h w hs e1 e2 q => b0 (k00 h w hs e1 e2 q))
  subst e1 e2 e3
  have hp := p25 hs.2.1 hs.2.2.2
  refine s_countLook hc h1 hs.2.2.2 hs.1 hs.2.1 hr hl (by omega) (fun fits' top' bottom' may' ways' hF hW => ?_)
  rw [lN_i]
  exact k h w look hs rfl rfl rfl hlk _ _ _ _ _ _
