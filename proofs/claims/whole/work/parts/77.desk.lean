/-! windows of the desk's picture (no gaps): parts told by places that count the ring, from 0 -/
def DkOk (c N : Nat) (dk : Nat → Int32) (dv : Nat → Nat) : Prop := ∀ i, i < N → dk i = nI (dv i) ∧ dv i < c
def prt (dv : Nat → Nat) (h w y x : Nat) : Nat := if 1 ≤ y ∧ y ≤ h ∧ 1 ≤ x ∧ x ≤ w then dv (w * (y - 1) + (x - 1)) else 3
def blk (dv : Nat → Nat) (h w y x : Nat) : Nat := 64 * prt dv h w y x + 16 * prt dv h w y (x + 1) + 4 * prt dv h w (y + 1) x + prt dv h w (y + 1) (x + 1)
def blkK (dv : Nat → Nat) (h w k : Nat) : Nat := blk dv h w (k / (w + 1)) (k % (w + 1))
theorem cell_lt {h w y x : Nat} (hy : 1 ≤ y ∧ y ≤ h) (hx : 1 ≤ x ∧ x ≤ w) : w * (y - 1) + (x - 1) < h * w := by
  have : w * (y - 1) + w ≤ h * w := by
    rw [← Nat.mul_succ, Nat.mul_comm h w]
    exact Nat.mul_le_mul_left w (by omega)
  omega
theorem prt_lt {c h w : Nat} {dk : Nat → Int32} {dv : Nat → Nat} (hc : c ≤ 3) (hd : DkOk c (h * w) dk dv) (y x : Nat) : prt dv h w y x < 4 := by
  unfold prt
  by_cases q : 1 ≤ y ∧ y ≤ h ∧ 1 ≤ x ∧ x ≤ w
  · rw [if_pos q]
    have := (hd _ (cell_lt ⟨q.1, q.2.1⟩ q.2.2)).2
    omega
  · rw [if_neg q]; decide
theorem blk_lt {c h w : Nat} {dk : Nat → Int32} {dv : Nat → Nat} (hc : c ≤ 3) (hd : DkOk c (h * w) dk dv) (y x : Nat) : blk dv h w y x < 256 := by
  have h1 := prt_lt hc hd y x
  have h2 := prt_lt hc hd y (x + 1)
  have h3 := prt_lt hc hd (y + 1) x
  have h4 := prt_lt hc hd (y + 1) (x + 1)
  unfold blk
  omega
theorem s_at {c h w : Nat} (hc : c ≤ 3) (hh : h ≤ 5) (hw : w ≤ 5) {f dk : Nat → Int32} {dv : Nat → Nat} (hf : ∀ i, i < 25 → f i = dk i) (hd : DkOk c (h * w) dk dv) {y x : Nat} {a b : Int32} (ea : a.toInt = (y : Int) - 1) (eb : b.toInt = (x : Int) - 1) {post : Int32 → Prop} (k : post (nI (prt dv h w y x))) : q_X4_at (nI h) (nI w) f a b post := by
  have hN : h * w ≤ 25 := Nat.le_trans (Nat.mul_le_mul hh hw) (by decide)
  have e1 := nI_toInt (n := h) (by omega)
  have e2 := nI_toInt (n := w) (by omega)
  have out : ¬ (1 ≤ y ∧ y ≤ h ∧ 1 ≤ x ∧ x ≤ w) → post 3 := by
    intro q
    unfold prt at k
    rw [if_neg q] at k
    exact k
  unfold q_X4_at
  simp only [fa_lt, fa_le, ti0, e1, e2, ea, eb]
  refine ⟨fun q => out (by omega), fun q => ⟨fun q => out (by omega), fun q1 => ⟨fun q => out (by omega), fun q2 => ⟨fun q => out (by omega), fun q3 => ?_⟩⟩⟩⟩
  have hyx : 1 ≤ y ∧ y ≤ h ∧ 1 ≤ x ∧ x ≤ w := by omega
  have hlt := cell_lt ⟨hyx.1, hyx.2.1⟩ hyx.2.2
  have ei : nI w * a + b = nI (w * (y - 1) + (x - 1)) := by
    rw [nI_of_toInt (a := a) (by omega), nI_of_toInt (a := b) (by omega), ea, eb, pk_mul, nI_add, show ((y : Int) - 1).toNat = y - 1 by omega, show ((x : Int) - 1).toNat = x - 1 by omega]
  rw [ei]
  refine ⟨vp_in_nI (by omega) (by decide), ?_⟩
  rw [nI_clamp (by omega), hf _ (by omega), (hd _ hlt).1]
  unfold prt at k
  rw [if_pos hyx] at k
  exact k
theorem pred_nI {y : Nat} (hy : y < 2 ^ 31) : (nI y - (1 : Int32)).toInt = (y : Int) - 1 := by
  cases y with
  | zero => decide
  | succ n => rw [nI_pred, nI_toInt (by omega)]; omega
theorem same_nI {y : Nat} (hy : y + 1 < 2 ^ 31) : (nI y).toInt = ((y + 1 : Nat) : Int) - 1 := by rw [nI_toInt (by omega)]; omega
theorem or4 : ∀ p1 p2 p3 p4 : Fin 4, ((p1.val * 2 ^ 6 ||| p2.val * 2 ^ 4) ||| p3.val * 2 ^ 2) ||| p4.val = 64 * p1.val + 16 * p2.val + 4 * p3.val + p4.val := by decide
theorem join4 {p1 p2 p3 p4 : Nat} (h1 : p1 < 4) (h2 : p2 < 4) (h3 : p3 < 4) (h4 : p4 < 4) : (((nI p1 <<< ((6 : Int32) &&& 31)) ||| (nI p2 <<< ((4 : Int32) &&& 31))) ||| (nI p3 <<< ((2 : Int32) &&& 31))) ||| nI p4 = nI (64 * p1 + 16 * p2 + 4 * p3 + p4) := by
  rw [show (6 : Int32) = nI 6 from rfl, show (4 : Int32) = nI 4 from rfl, show (2 : Int32) = nI 2 from rfl, shlN (by decide) (by omega), shlN (by decide) (by omega), shlN (by decide) (by omega), fa_or, fa_or, fa_or]
  exact congrArg nI (or4 ⟨p1, h1⟩ ⟨p2, h2⟩ ⟨p3, h3⟩ ⟨p4, h4⟩)
theorem s_block {c h w : Nat} (hc : c ≤ 3) (hh : h ≤ 5) (hw : w ≤ 5) {f dk : Nat → Int32} {dv : Nat → Nat} (hf : ∀ i, i < 25 → f i = dk i) (hd : DkOk c (h * w) dk dv) {y x : Nat} (hy : y ≤ h) (hx : x ≤ w) {post : Int32 → Prop} (k : post (nI (blk dv h w y x))) : q_X4_block (nI h) (nI w) f (nI y) (nI x) post := by
  unfold q_X4_block
  refine s_at hc hh hw hf hd (pred_nI (by omega)) (pred_nI (by omega)) ?_
  refine s_at hc hh hw hf hd (y := y) (x := x + 1) (pred_nI (by omega)) (same_nI (by omega)) ?_
  refine s_at hc hh hw hf hd (y := y + 1) (x := x) (same_nI (by omega)) (pred_nI (by omega)) ?_
  refine s_at hc hh hw hf hd (y := y + 1) (x := x + 1) (same_nI (by omega)) (same_nI (by omega)) ?_
  rw [join4 (prt_lt hc hd _ _) (prt_lt hc hd _ _) (prt_lt hc hd _ _) (prt_lt hc hd _ _)]
  exact k
theorem s_deskAt {c h w : Nat} (hc : c ≤ 3) (hh : h ≤ 5) (hw : w ≤ 5) (h1 : 1 ≤ h) (w1 : 1 ≤ w) {f dk : Nat → Int32} {dv : Nat → Nat} (hf : ∀ i, i < 25 → f i = dk i) (hd : DkOk c (h * w) dk dv) {y x : Nat} {a b : Int32} (ea : a.toInt = (x : Int) - 1) (eb : b.toInt = (y : Int) - 1) {post : Int32 → Prop} (k : post (nI (prt dv h w y x))) : q_X9_deskAt (nI h) (nI w) f a b post := by
  have hN : h * w ≤ 25 := Nat.le_trans (Nat.mul_le_mul hh hw) (by decide)
  have out : ¬ (1 ≤ y ∧ y ≤ h ∧ 1 ≤ x ∧ x ≤ w) → post 3 := by
    intro q
    unfold prt at k
    rw [if_neg q] at k
    exact k
  unfold q_X9_deskAt
  have e1 := pred_toInt (k := w) (by omega) w1
  have e2 := pred_toInt (k := h) (by omega) h1
  refine s_in (fun q1 => b1 ?_) (fun q1 => b0 (out (by rw [e1, tl0] at q1; omega)))
  rw [e1, tl0] at q1
  refine s_in (fun q2 => b1 ?_) (fun q2 => b0 (out (by rw [e2, tl0] at q2; omega)))
  rw [e2, tl0] at q2
  have hyx : 1 ≤ y ∧ y ≤ h ∧ 1 ≤ x ∧ x ≤ w := by omega
  have hlt := cell_lt ⟨hyx.1, hyx.2.1⟩ hyx.2.2
  have ei : nI w * b + a = nI (w * (y - 1) + (x - 1)) := by
    rw [nI_of_toInt (a := a) (by omega), nI_of_toInt (a := b) (by omega), ea, eb, pk_mul, nI_add, show ((y : Int) - 1).toNat = y - 1 by omega, show ((x : Int) - 1).toNat = x - 1 by omega]
  rw [ei]
  refine ⟨vp_in_nI (by omega) (by decide), ?_⟩
  rw [nI_clamp (by omega), hf _ (by omega), (hd _ hlt).1]
  unfold prt at k
  rw [if_pos hyx] at k
  exact k
theorem s_blockAt {c h w : Nat} (hc : c ≤ 3) (hh : h ≤ 5) (hw : w ≤ 5) (h1 : 1 ≤ h) (w1 : 1 ≤ w) {f dk : Nat → Int32} {dv : Nat → Nat} (hf : ∀ i, i < 25 → f i = dk i) (hd : DkOk c (h * w) dk dv) {n : Nat} (hn : n < 2 ^ 30) {post : Int32 → Prop} (k : post (nI (blkK dv h w n))) : q_X9_blockAt (nI h) (nI w) f (nI n) post := by
  unfold q_X9_blockAt
  have hw1 : nI w + (1 : Int32) = nI (w + 1) := nI_1 w
  have hz : ¬ nI (w + 1) = 0 := nI_ne0 (by omega) (by omega)
  rw [hw1]
  refine ⟨hz, fun v2 e2 => ⟨hz, fun v4 e4 => ?_⟩⟩
  rw [pk_rem (by omega) (by omega) (by omega)] at e2
  rw [pk_div (by omega) (by omega) (by omega)] at e4
  rw [e2, e4]
  have hx : n % (w + 1) < w + 1 := Nat.mod_lt _ (by omega)
  have hy : n / (w + 1) ≤ n := Nat.div_le_self _ _
  refine s_deskAt hc hh hw h1 w1 hf hd (pred_nI (by omega)) (pred_nI (by omega)) ?_
  refine s_deskAt hc hh hw h1 w1 hf hd (x := n % (w + 1) + 1) (y := n / (w + 1)) (same_nI (by omega)) (pred_nI (by omega)) ?_
  refine s_deskAt hc hh hw h1 w1 hf hd (x := n % (w + 1)) (y := n / (w + 1) + 1) (pred_nI (by omega)) (same_nI (by omega)) ?_
  refine s_deskAt hc hh hw h1 w1 hf hd (x := n % (w + 1) + 1) (y := n / (w + 1) + 1) (same_nI (by omega)) (same_nI (by omega)) ?_
  have e : (((64 : Int32) * nI (prt dv h w (n / (w + 1)) (n % (w + 1))) + (16 : Int32) * nI (prt dv h w (n / (w + 1)) (n % (w + 1) + 1))) + (4 : Int32) * nI (prt dv h w (n / (w + 1) + 1) (n % (w + 1)))) + nI (prt dv h w (n / (w + 1) + 1) (n % (w + 1) + 1)) = nI (blkK dv h w n) := by
    rw [show (64 : Int32) = nI 64 from rfl, show (16 : Int32) = nI 16 from rfl, show (4 : Int32) = nI 4 from rfl, pk_mul, pk_mul, pk_mul, nI_add, nI_add, nI_add]
    rfl
  rw [e]
  exact k
/-! the first window that isn't allowed -/
theorem first_at {p : Nat → Bool} {N k : Nat} (h : ∀ j, j < k → p j = false) (hk : k < N) (hp : p k = true) : fa_first p N = k := by
  have h1 := fa_first_le p N
  rcases Nat.lt_trichotomy (fa_first p N) k with q | q | q
  · have := fa_first_yes p N (by omega)
    rw [h _ q] at this; exact absurd this (by decide)
  · exact q
  · have := fa_first_no p N k q
    rw [hp] at this; exact absurd this (by decide)
theorem first_none {p : Nat → Bool} {N : Nat} (h : ∀ j, j < N → p j = false) : fa_first p N = N := by
  have h1 := fa_first_le p N
  rcases Nat.lt_or_ge (fa_first p N) N with q | q
  · have := fa_first_yes p N q
    rw [h _ q] at this; exact absurd this (by decide)
  · omega
def nWin (h w : Nat) : Nat := (h + 1) * (w + 1)
def wrongP (al : Nat → Bool) (dv : Nat → Nat) (h w : Nat) : Nat → Bool := fun k => !al (blkK dv h w k)
def wrongA (al : Nat → Bool) (dv : Nat → Nat) (h w : Nat) : Int32 := if fa_first (wrongP al dv h w) (nWin h w) < nWin h w then nI (fa_first (wrongP al dv h w) (nWin h w)) else -1
theorem win_lt {h w y x : Nat} (hy : y ≤ h) (hx : x ≤ w) : (w + 1) * y + x < nWin h w := by
  unfold nWin
  have : (w + 1) * y ≤ (w + 1) * h := Nat.mul_le_mul_left _ hy
  have e : (h + 1) * (w + 1) = (w + 1) * h + (w + 1) := by rw [Nat.mul_comm, Nat.mul_succ]
  omega
theorem win_dm {w y x : Nat} (hx : x ≤ w) : ((w + 1) * y + x) / (w + 1) = y ∧ ((w + 1) * y + x) % (w + 1) = x := by
  constructor
  · rw [Nat.mul_add_div (by omega), Nat.div_eq_of_lt (by omega), Nat.add_zero]
  · rw [Nat.mul_add_mod, Nat.mod_eq_of_lt (by omega)]
theorem blkK_at {dv : Nat → Nat} {h w y x : Nat} (hx : x ≤ w) : blkK dv h w ((w + 1) * y + x) = blk dv h w y x := by
  unfold blkK
  rw [(win_dm hx).1, (win_dm hx).2]
theorem nWin_le {h w : Nat} (hh : h ≤ 5) (hw : w ≤ 5) : nWin h w ≤ 36 := Nat.le_trans (Nat.mul_le_mul (Nat.add_le_add_right hh 1) (Nat.add_le_add_right hw 1)) (by decide)
theorem s_firstWrong {c h w : Nat} (hc : c ≤ 3) (hh : h ≤ 5) (hw : w ≤ 5) {al : Nat → Bool} {R f dk : Nat → Int32} {dv : Nat → Nat} (hr : RuleOk al R) (hf : ∀ i, i < 25 → f i = dk i) (hd : DkOk c (h * w) dk dv) {post : Int32 → Prop} (k : post (wrongA al dv h w)) : q_X3_firstWrong R (nI h) (nI w) f post := by
  unfold q_X3_firstWrong
  have h36 := nWin_le hh hw
  have good : ∀ {K : Int32 → Prop} (y : Nat), y ≤ h → (∀ j, j < (w + 1) * y → wrongP al dv h w j = false) → ((∀ j, j < (w + 1) * (y + 1) → wrongP al dv h w j = false) → K (nI y)) → ∀ (m x : Nat), x + m = w + 1 → (∀ j, j < (w + 1) * y + x → wrongP al dv h w j = false) → r_X3_firstWrong_12 R (nI h) (nI w) f post K (nI y) (m + 1) (nI x) := by
    intro K y hy h0 hK m
    induction m with
    | zero =>
      intro x hx hj
      unfold r_X3_firstWrong_12
      exact pk_lt w x (fun _ => hK (fun j hjj => hj j (by rw [Nat.mul_succ] at hjj; omega))) (fun q => absurd q (by omega)) rfl rfl (by omega) (by omega)
    | succ m ih =>
      intro x hx hj
      unfold r_X3_firstWrong_12
      refine pk_lt w x (fun q => absurd q (by omega)) (fun _ => ?_) rfl rfl (by omega) (by omega)
      refine s_block hc hh hw hf hd hy (by omega) (s_has hr (blk_lt hc hd _ _) ?_)
      cases ha : al (blk dv h w y x) with
      | true =>
        refine c1 ?_
        rw [nI_1]
        refine ih (x + 1) (by omega) (fun j hjj => ?_)
        by_cases e : j = (w + 1) * y + x
        · rw [e]; unfold wrongP; rw [blkK_at (by omega), ha]; rfl
        · exact hj j (by omega)
      | false =>
        refine c0 ?_
        have hlt := win_lt (h := h) hy (show x ≤ w by omega)
        have hp : wrongP al dv h w ((w + 1) * y + x) = true := by unfold wrongP; rw [blkK_at (by omega), ha]; rfl
        have e : (nI w + (1 : Int32)) * nI y + nI x = nI ((w + 1) * y + x) := by rw [nI_1, pk_mul, nI_add]
        rw [e]
        unfold wrongA at k
        rw [first_at hj hlt hp, if_pos hlt] at k
        exact k
  have outer : ∀ (m y : Nat), y + m = h + 1 → (∀ j, j < (w + 1) * y → wrongP al dv h w j = false) → r_X3_firstWrong_2 R (nI h) (nI w) f post (m + 1) (nI y) := by
    intro m
    induction m with
    | zero =>
      intro y hy hj
      unfold r_X3_firstWrong_2
      refine pk_lt h y (fun _ => ?_) (fun q => absurd q (by omega)) rfl rfl (by omega) (by omega)
      have hn : fa_first (wrongP al dv h w) (nWin h w) = nWin h w := first_none (fun j hjj => hj j (by unfold nWin at hjj; rw [show y = h + 1 by omega, Nat.mul_comm]; exact hjj))
      unfold wrongA at k
      rw [hn, if_neg (by omega)] at k
      exact k
    | succ m ih =>
      intro y hy hj
      unfold r_X3_firstWrong_2
      refine pk_lt h y (fun q => absurd q (by omega)) (fun _ => ?_) rfl rfl (by omega) (by omega)
      refine ⟨w + 2, good y (by omega) hj (fun h2 => ?_) (w + 1) 0 (by omega) (fun j hjj => hj j (by omega))⟩
      unfold q_X3_firstWrong_50
      rw [nI_1]
      exact ih (y + 1) (by omega) h2
  exact ⟨h + 2, outer (h + 1) 0 (by omega) (fun j hj => absurd hj (by omega))⟩
theorem s_wrongNow {c h w : Nat} (hc : c ≤ 3) (hh : h ≤ 5) (hw : w ≤ 5) (h1 : 1 ≤ h) (w1 : 1 ≤ w) {al : Nat → Bool} {R f dk : Nat → Int32} {dv : Nat → Nat} (hr : RuleM al R) (hf : ∀ i, i < 25 → f i = dk i) (hd : DkOk c (h * w) dk dv) {post : Int32 → Prop} (k : post (wrongA al dv h w)) : q_X9_wrongNow (nI h) (nI w) R f post := by
  unfold q_X9_wrongNow
  have h36 := nWin_le hh hw
  have e : (nI h + (1 : Int32)) * (nI w + (1 : Int32)) = nI (nWin h w) := by rw [nI_1, nI_1, pk_mul]; rfl
  have loop : ∀ (m i : Nat), i + m = nWin h w → (∀ j, j < i → wrongP al dv h w j = false) → r_X9_wrongNow_2 (nI h) (nI w) R f post (m + 1) (nI i) := by
    intro m
    induction m with
    | zero =>
      intro i hi hj
      unfold r_X9_wrongNow_2
      rw [e]
      refine pk_le (nWin h w) i (fun _ => ?_) (fun q => absurd q (by omega)) rfl rfl (by omega) (by omega)
      unfold wrongA at k
      rw [first_none (fun j hjj => hj j (by omega)), if_neg (by omega)] at k
      exact k
    | succ m ih =>
      intro i hi hj
      unfold r_X9_wrongNow_2
      rw [e]
      refine pk_le (nWin h w) i (fun q => absurd q (by omega)) (fun _ => ?_) rfl rfl (by omega) (by omega)
      refine s_blockAt hc hh hw h1 w1 hf hd (by omega) ?_
      have hlt : blkK dv h w i < 256 := blk_lt hc hd _ _
      refine ⟨vp_in_nI hlt (by decide), ?_⟩
      rw [nI_clamp (by omega), hr _ hlt]
      cases ha : al (blkK dv h w i) with
      | true =>
        refine c1 ?_
        rw [nI_1]
        refine ih (i + 1) (by omega) (fun j hjj => ?_)
        by_cases e : j = i
        · rw [e]; unfold wrongP; rw [ha]; rfl
        · exact hj j (by omega)
      | false =>
        refine c0 ?_
        unfold wrongA at k
        rw [first_at hj (show i < nWin h w by omega) (by unfold wrongP; rw [ha]; rfl), if_pos (by omega)] at k
        exact k
  exact ⟨nWin h w + 1, loop (nWin h w) 0 (by omega) (fun j hj => absurd hj (by omega))⟩
/-! learn -/
def lrn (al : Nat → Bool) (dv : Nat → Nat) (h w : Nat) : Nat → (Nat → Bool)
  | 0 => al
  | k + 1 => setB (lrn al dv h w k) (blkK dv h w k) true
theorem size_set {al : Nat → Bool} {b : Nat} (hb : b < 256) : sizeA (setB al b true) = sizeA al + (if al b then 0 else 1) := by
  unfold sizeA setB
  have h := fb_ct_upd al true hb
  cases ha : al b with
  | true => rw [ha] at h; simp at h ⊢; exact h
  | false => rw [ha] at h; simp at h ⊢; exact h
theorem size_lrn_mono {al : Nat → Bool} {dv : Nat → Nat} {h w : Nat} (hb : ∀ k, blkK dv h w k < 256) : ∀ k, sizeA al ≤ sizeA (lrn al dv h w k)
  | 0 => Nat.le_refl _
  | k + 1 => by
    have := size_lrn_mono (al := al) hb k
    show sizeA al ≤ sizeA (setB (lrn al dv h w k) (blkK dv h w k) true)
    rw [size_set (hb k)]; omega
def learnA (al : Nat → Bool) (dv : Nat → Nat) (h w : Nat) : Nat := sizeA (lrn al dv h w (nWin h w)) - sizeA al
theorem s_learnX {c h w : Nat} (hc : c ≤ 3) (hh : h ≤ 5) (hw : w ≤ 5) {al : Nat → Bool} {R f dk : Nat → Int32} (hr : RuleOk al R) (hf : ∀ i, i < 25 → f i = dk i) {post : Int32 → (Nat → Int32) → Prop}
    (k : ∀ dv, gapsN dk (h * w) = 0 → DkOk c (h * w) dk dv → ∀ R', RuleOk (lrn al dv h w (nWin h w)) R' → post (nI (learnA al dv h w)) R') (dvs : gapsN dk (h * w) = 0 → ∃ dv, DkOk c (h * w) dk dv) (k0 : 0 < gapsN dk (h * w) → post (-4) R) : q_X8_learn (nI h) (nI w) f R post := by
  have h36 := nWin_le hh hw
  have hg25 : gapsN dk (h * w) ≤ 25 := Nat.le_trans (gapsN_le _ _) (Nat.le_trans (Nat.mul_le_mul hh hw) (by decide))
  unfold q_X8_learn
  refine s_gapsX hh hw hf (pk_le (gapsN dk (h * w)) 0 (fun q => ?_) (fun q => k0 q) rfl rfl (by omega) (by omega))
  have hg : gapsN dk (h * w) = 0 := by omega
  obtain ⟨dv, hd⟩ := dvs hg
  have kk := k dv hg hd
  refine s_sizeX hr ?_
  have inner : ∀ {K : Int32 → (Nat → Int32) → Prop} {s0 : Int32} (y : Nat), y ≤ h → (∀ R', RuleOk (lrn al dv h w ((w + 1) * (y + 1))) R' → K (nI y) R') → ∀ (m x : Nat) (R' : Nat → Int32), x + m = w + 1 → RuleOk (lrn al dv h w ((w + 1) * y + x)) R' → r_X8_learn_36 (nI h) (nI w) f s0 post K (nI y) (m + 1) (nI x) R' := by
    intro K s0 y hy hK m
    induction m with
    | zero =>
      intro x R' hx hR
      unfold r_X8_learn_36
      have hR2 : RuleOk (lrn al dv h w ((w + 1) * (y + 1))) R' := by
        have e : x = w + 1 := by omega
        rw [e] at hR
        rw [Nat.mul_succ]
        exact hR
      exact pk_lt w x (fun _ => hK R' hR2) (fun q => absurd q (by omega)) rfl rfl (by omega) (by omega)
    | succ m ih =>
      intro x R' hx hR
      unfold r_X8_learn_36
      refine pk_lt w x (fun q => absurd q (by omega)) (fun _ => ?_) rfl rfl (by omega) (by omega)
      refine s_block hc hh hw hf hd hy (by omega) (s_put hR (blk_lt hc hd _ _) (is := true) ⟨fun q => absurd q (by decide), fun q => absurd q (by decide)⟩ (fun R2 hR2 => ?_))
      rw [nI_1]
      refine ih (x + 1) R2 (by omega) ?_
      show RuleOk (setB (lrn al dv h w ((w + 1) * y + x)) (blkK dv h w ((w + 1) * y + x)) true) R2
      rw [blkK_at (by omega)]
      exact hR2
  have outer : ∀ (m y : Nat) (R' : Nat → Int32), y + m = h + 1 → RuleOk (lrn al dv h w ((w + 1) * y)) R' → r_X8_learn_23 (nI h) (nI w) f post (q_X8_learn_76 (nI h) (nI w) f post) (nI (sizeA al)) (m + 1) (nI y) R' := by
    intro m
    induction m with
    | zero =>
      intro y R' hy hR
      unfold r_X8_learn_23
      refine pk_lt h y (fun _ => ?_) (fun q => absurd q (by omega)) rfl rfl (by omega) (by omega)
      unfold q_X8_learn_76
      have en : (w + 1) * y = nWin h w := by unfold nWin; rw [show y = h + 1 by omega, Nat.mul_comm]
      rw [en] at hR
      refine s_sizeX hR ?_
      rw [pk_sub (size_lrn_mono (fun k => blk_lt hc hd _ _) _)]
      exact kk R' hR
    | succ m ih =>
      intro y R' hy hR
      unfold r_X8_learn_23
      refine pk_lt h y (fun q => absurd q (by omega)) (fun _ => ?_) rfl rfl (by omega) (by omega)
      refine ⟨w + 2, inner y (by omega) (fun R2 hR2 => ?_) (w + 1) 0 R' (by omega) hR⟩
      unfold q_X8_learn_70
      rw [nI_1]
      exact ih (y + 1) R2 (by omega) hR2
  exact ⟨h + 2, outer (h + 1) 0 R (by omega) hr⟩
theorem s_learnM {c h w : Nat} (hc : c ≤ 3) (hh : h ≤ 5) (hw : w ≤ 5) (h1 : 1 ≤ h) (w1 : 1 ≤ w) {al : Nat → Bool} {R f dk : Nat → Int32} (hr : RuleM al R) (hf : ∀ i, i < 25 → f i = dk i) {post : Int32 → (Nat → Int32) → Prop}
    (k : ∀ dv, gapsN dk (h * w) = 0 → DkOk c (h * w) dk dv → ∀ R', RuleM (lrn al dv h w (nWin h w)) R' → post (nI (learnA al dv h w)) R') (dvs : gapsN dk (h * w) = 0 → ∃ dv, DkOk c (h * w) dk dv) (k0 : 0 < gapsN dk (h * w) → post (-4) R) : q_X9_learn (nI h) (nI w) f R post := by
  have h36 := nWin_le hh hw
  have hg25 : gapsN dk (h * w) ≤ 25 := Nat.le_trans (gapsN_le _ _) (Nat.le_trans (Nat.mul_le_mul hh hw) (by decide))
  unfold q_X9_learn
  refine s_gapsM hh hw hf (pk_le (gapsN dk (h * w)) 0 (fun q => ?_) (fun q => k0 q) rfl rfl (by omega) (by omega))
  have hg : gapsN dk (h * w) = 0 := by omega
  obtain ⟨dv, hd⟩ := dvs hg
  have kk := k dv hg hd
  have e : (nI h + (1 : Int32)) * (nI w + (1 : Int32)) = nI (nWin h w) := by rw [nI_1, nI_1, pk_mul]; rfl
  have loop : ∀ (m i : Nat) (R' : Nat → Int32), i + m = nWin h w → RuleM (lrn al dv h w i) R' → r_X9_learn_14 (nI h) (nI w) f post (m + 1) (nI (sizeA (lrn al dv h w i) - sizeA al)) (nI i) R' := by
    intro m
    induction m with
    | zero =>
      intro i R' hi hR
      unfold r_X9_learn_14
      rw [e]
      rw [show i = nWin h w by omega] at hR ⊢
      exact pk_le (nWin h w) (nWin h w) (fun _ => kk R' hR) (fun q => absurd q (by omega)) rfl rfl (by omega) (by omega)
    | succ m ih =>
      intro i R' hi hR
      unfold r_X9_learn_14
      rw [e]
      refine pk_le (nWin h w) i (fun q => absurd q (by omega)) (fun _ => ?_) rfl rfl (by omega) (by omega)
      have hlt : blkK dv h w i < 256 := blk_lt hc hd _ _
      have hin : vp_in (nI (blkK dv h w i)) 256 := vp_in_nI hlt (by decide)
      refine s_blockAt hc hh hw h1 w1 hf hd (by omega) ⟨hin, ?_⟩
      have hI := ih (i + 1) (upd R' (blkK dv h w i) 1) (by omega) (hR.set _ true)
      have hm := size_lrn_mono (al := al) (dv := dv) (h := h) (w := w) (fun k => blk_lt hc hd _ _) i
      have hs : sizeA (lrn al dv h w (i + 1)) = sizeA (lrn al dv h w i) + (if lrn al dv h w i (blkK dv h w i) then 0 else 1) := size_set hlt
      rw [nI_clamp (by omega), hR _ hlt]
      unfold q_X9_learn_50
      cases ha : lrn al dv h w i (blkK dv h w i) with
      | true =>
        refine b1 (s_blockAt hc hh hw h1 w1 hf hd (by omega) ⟨hin, ?_⟩)
        have hs2 : sizeA (lrn al dv h w (i + 1)) = sizeA (lrn al dv h w i) := by rw [hs, ha]; simp
        rw [hs2] at hI
        have e0 : nI (sizeA (lrn al dv h w i) - sizeA al) + (0 : Int32) = nI (sizeA (lrn al dv h w i) - sizeA al) := nI_add _ 0
        rw [nI_clamp (by omega), nI_1, e0]
        exact hI
      | false =>
        refine b0 (s_blockAt hc hh hw h1 w1 hf hd (by omega) ⟨hin, ?_⟩)
        rw [ha, if_neg (by decide)] at hs
        rw [hs] at hI
        rw [nI_clamp (by omega), nI_1, nI_1, show sizeA (lrn al dv h w i) - sizeA al + 1 = sizeA (lrn al dv h w i) + 1 - sizeA al by omega]
        exact hI
  have h0 := loop (nWin h w) 0 R (by omega) hr
  rw [show sizeA (lrn al dv h w 0) - sizeA al = 0 from Nat.sub_self _] at h0
  exact ⟨nWin h w + 1, h0⟩
theorem s_wrongX {c h w : Nat} (hc : c ≤ 3) (hh : h ≤ 5) (hw : w ≤ 5) {al : Nat → Bool} {R f dk : Nat → Int32} (hr : RuleOk al R) (hf : ∀ i, i < 25 → f i = dk i) {post : Int32 → Prop} (k : ∀ dv, gapsN dk (h * w) = 0 → DkOk c (h * w) dk dv → post (wrongA al dv h w)) (dvs : gapsN dk (h * w) = 0 → ∃ dv, DkOk c (h * w) dk dv) (k0 : 0 < gapsN dk (h * w) → post (-4)) : q_X8_wrong R (nI h) (nI w) f post := by
  have hg25 : gapsN dk (h * w) ≤ 25 := Nat.le_trans (gapsN_le _ _) (Nat.le_trans (Nat.mul_le_mul hh hw) (by decide))
  unfold q_X8_wrong
  refine s_gapsX hh hw hf (pk_le (gapsN dk (h * w)) 0 (fun q => ?_) (fun q => k0 q) rfl rfl (by omega) (by omega))
  have hg : gapsN dk (h * w) = 0 := by omega
  obtain ⟨dv, hd⟩ := dvs hg
  exact s_firstWrong hc hh hw hr hf hd (k dv hg hd)
theorem s_wrongM {c h w : Nat} (hc : c ≤ 3) (hh : h ≤ 5) (hw : w ≤ 5) (h1 : 1 ≤ h) (w1 : 1 ≤ w) {al : Nat → Bool} {R f dk : Nat → Int32} (hr : RuleM al R) (hf : ∀ i, i < 25 → f i = dk i) {post : Int32 → Prop} (k : ∀ dv, gapsN dk (h * w) = 0 → DkOk c (h * w) dk dv → post (wrongA al dv h w)) (dvs : gapsN dk (h * w) = 0 → ∃ dv, DkOk c (h * w) dk dv) (k0 : 0 < gapsN dk (h * w) → post (-4)) : q_X9_wrong (nI h) (nI w) R f post := by
  have hg25 : gapsN dk (h * w) ≤ 25 := Nat.le_trans (gapsN_le _ _) (Nat.le_trans (Nat.mul_le_mul hh hw) (by decide))
  unfold q_X9_wrong
  refine s_gapsM hh hw hf (pk_le (gapsN dk (h * w)) 0 (fun q => ?_) (fun q => k0 q) rfl rfl (by omega) (by omega))
  have hg : gapsN dk (h * w) = 0 := by omega
  obtain ⟨dv, hd⟩ := dvs hg
  exact s_wrongNow hc hh hw h1 w1 hr hf hd (k dv hg hd)
