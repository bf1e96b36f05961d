/-! gaps: what may stand where the desk has a colour -/
def DeskOk (c : Nat) (dk : Nat → Int32) : Prop := ∀ i, i < 25 → dk i = -1 ∨ ∃ v, v < c ∧ dk i = nI v
def okC (dk : Nat → Int32) (l1 l2 : Int32) (c w y a n : Nat) : Bool := decide (∀ x, x < n → (dk (w * y + x) = -1 ∨ dk (w * y + x) = nI (dg c w a x)) ∧ (nI (w * y + x) = l1 → nI (dg c w a x) = l2))
theorem okC_0 {dk : Nat → Int32} {l1 l2 : Int32} {c w y a : Nat} : okC dk l1 l2 c w y a 0 = true := decide_eq_true (fun x hx => absurd hx (by omega))
theorem okC_no {dk : Nat → Int32} {l1 l2 : Int32} {c w y a n m : Nat} (h : okC dk l1 l2 c w y a n = false) (hm : n ≤ m) : okC dk l1 l2 c w y a m = false := decide_eq_false (fun q => of_decide_eq_false h (fun x hx => q x (by omega)))
theorem okC_s {dk : Nat → Int32} {l1 l2 : Int32} {c w y a n : Nat} (h : okC dk l1 l2 c w y a n = true) (h1 : dk (w * y + n) = -1 ∨ dk (w * y + n) = nI (dg c w a n)) (h2 : nI (w * y + n) = l1 → nI (dg c w a n) = l2) : okC dk l1 l2 c w y a (n + 1) = true := decide_eq_true (fun x hx => by
  by_cases e : x = n
  · rw [e]; exact ⟨h1, h2⟩
  · exact of_decide_eq_true h x (by omega))
theorem okC_f {dk : Nat → Int32} {l1 l2 : Int32} {c w y a n : Nat} (h : ¬ ((dk (w * y + n) = -1 ∨ dk (w * y + n) = nI (dg c w a n)) ∧ (nI (w * y + n) = l1 → nI (dg c w a n) = l2))) : okC dk l1 l2 c w y a (n + 1) = false := decide_eq_false (fun q => h (q n (by omega)))
theorem rowP_dg {c w r x : Nat} (hx : x < w) : rowP c w r (x + 1) = dg c w r x := by unfold rowP; rw [if_pos (by omega)]; rfl
theorem s_countDesk {c h w : Nat} (hc : c ≤ 3) (h1 : 1 ≤ c) (hw : w ≤ 5) (hh1 : 1 ≤ h) (hh : h ≤ 5) {al : Nat → Bool} {R f dk : Nat → Int32} (hr : RuleM al R) (hf : ∀ i, i < 25 → f i = dk i) {l1 l2 : Int32} {mr : Int32} {fits top bottom may : Nat → Int32} {ways : Nat → Int64} {post : Int64 → Int32 → (Nat → Int32) → (Nat → Int32) → (Nat → Int32) → (Nat → Int32) → (Nat → Int64) → Prop}
    (k : ∀ fits' top' bottom' may' ways', FitsOk al c w fits' top' bottom' → WaysM (c ^ w) (Fi al c w) (Bt al c w) (fun y a => okC dk l1 l2 c w y a w) h ways' → post (lN (capM (totW (c ^ w) (Fi al c w) (Tp al c w) (Bt al c w) (fun y a => okC dk l1 l2 c w y a w) h))) (nI (c ^ w)) fits' top' bottom' may' ways') : q_X9_countDesk (nI c) (nI h) (nI w) R f mr fits top bottom may ways l1 l2 post := by
  unfold q_X9_countDesk
  have h243 := pow_le243 hc hw
  refine s_layFits hc h1 hw hr (fun fits' top' bottom' hF => ?_)
  have cell : ∀ {K : Int32 → Int32 → (Nat → Int32) → Prop} {y a : Nat} {mm : Nat → Int32}, y < h → a < c ^ w → K (nI a) (bI (okC dk l1 l2 c w y a w)) mm → ∀ (m x : Nat), x + m = w → r_X9_countDesk_36 (nI c) (nI h) (nI w) R f l1 l2 (nI (c ^ w)) fits' top' bottom' ways (nI y) post K (nI a) mm (m + 1) (bI (okC dk l1 l2 c w y a x)) (nI x) := by
    intro K y a mm hy ha hK m
    have hN : w * y + w ≤ 25 := by
      rw [← Nat.mul_succ]; exact Nat.le_trans (Nat.mul_le_mul hw (show y + 1 ≤ 5 by omega)) (by decide)
    induction m with
    | zero =>
      intro x hx
      unfold r_X9_countDesk_36
      rw [show x = w by omega]
      exact pk_le w w (fun _ => hK) (fun q => absurd q (by omega)) rfl rfl (by omega) (by omega)
    | succ m ih =>
      intro x hx
      have hI := ih (x + 1) (by omega)
      unfold r_X9_countDesk_36
      refine pk_le w x (fun q => absurd q (by omega)) (fun _ => ?_) rfl rfl (by omega) (by omega)
      refine s_cellOf hc h1 hw (by omega) (j := x + 1) (same_nI (by omega)) ?_
      rw [rowP_dg (show x < w by omega), nI_1, pk_mul, nI_add, nI_clamp (by omega), hf _ (by omega)]
      cases ho : okC dk l1 l2 c w y a x with
      | false =>
        rw [okC_no ho (show x ≤ x + 1 by omega)] at hI
        exact b0 hI
      | true =>
        have p101 : (dk (w * y + x) = -1 ∨ dk (w * y + x) = nI (dg c w a x)) → q_X9_countDesk_101 (nI c) (nI h) (nI w) R f l1 l2 (nI (c ^ w)) fits' top' bottom' ways (nI y) (nI a) mm post K (r_X9_countDesk_36 (nI c) (nI h) (nI w) R f l1 l2 (nI (c ^ w)) fits' top' bottom' ways (nI y) post K (nI a) mm (m + 1)) (nI x) (nI (dg c w a x)) := by
          intro hd
          unfold q_X9_countDesk_101
          rw [pk_mul, nI_add, nI_1]
          refine brn (fun q => ?_) (fun q => brn (fun q2 => ?_) (fun q2 => ?_))
          · rw [okC_s ho hd (fun e => absurd e q)] at hI; exact hI
          · rw [okC_f (fun z => q2 (z.2 q))] at hI; exact hI
          · rw [okC_s ho hd (fun _ => q2)] at hI; exact hI
        refine b1 ⟨vp_in_nI (by omega) (by decide), br (fun q => p101 (Or.inl q)) (fun q => ⟨vp_in_nI (by omega) (by decide), brn (fun q2 => ?_) (fun q2 => p101 (Or.inr q2))⟩)⟩
        rw [okC_f (fun z => z.1.elim q q2)] at hI; exact hI
  have row : ∀ {K : Int32 → (Nat → Int32) → Prop} {y : Nat}, y < h → (∀ mm, (∀ y' a, y' < y + 1 → a < c ^ w → mm (243 * y' + a) = bI (okC dk l1 l2 c w y' a w)) → K (nI y) mm) → ∀ (m a : Nat) (mm : Nat → Int32), a + m = c ^ w → (∀ y' a, y' < y → a < c ^ w → mm (243 * y' + a) = bI (okC dk l1 l2 c w y' a w)) → (∀ a', a' < a → mm (243 * y + a') = bI (okC dk l1 l2 c w y a' w)) → r_X9_countDesk_21 (nI c) (nI h) (nI w) R f l1 l2 (nI (c ^ w)) fits' top' bottom' ways post K (nI y) (m + 1) (nI a) mm := by
    intro K y hy hK m
    induction m with
    | zero =>
      intro a mm ha hu hl
      unfold r_X9_countDesk_21
      refine pk_le (c ^ w) a (fun _ => hK mm (fun y' a' hy' ha' => ?_)) (fun q => absurd q (by omega)) rfl rfl (by omega) (by omega)
      by_cases e : y' = y
      · rw [e]; exact hl a' (by omega)
      · exact hu y' a' (by omega) ha'
    | succ m ih =>
      intro a mm ha hu hl
      unfold r_X9_countDesk_21
      refine pk_le (c ^ w) a (fun q => absurd q (by omega)) (fun _ => ?_) rfl rfl (by omega) (by omega)
      have h0 := cell (K := q_X9_countDesk_133 (nI c) (nI h) (nI w) R f l1 l2 (nI (c ^ w)) fits' top' bottom' ways (nI y) post K (r_X9_countDesk_21 (nI c) (nI h) (nI w) R f l1 l2 (nI (c ^ w)) fits' top' bottom' ways post K (nI y) (m + 1))) (mm := mm) hy (show a < c ^ w by omega) (by
        unfold q_X9_countDesk_133
        rw [i243, nI_1]
        refine ⟨vp_in_nI (by omega) (by decide), bI_01 _, ?_⟩
        rw [nI_clamp (by omega)]
        refine ih (a + 1) _ (by omega) (fun y' a' hy' ha' => ?_) (fun a' ha' => ?_)
        · rw [upd_n _ (by omega)]; exact hu y' a' hy' ha'
        · by_cases e : a' = a
          · rw [e, upd_s]
          · rw [upd_n _ (by omega)]; exact hl a' (by omega)) w 0 (by omega)
      rw [okC_0] at h0
      exact ⟨w + 1, h0⟩
  have outer : ∀ (m y : Nat) (mm : Nat → Int32), y + m = h → (∀ y' a, y' < y → a < c ^ w → mm (243 * y' + a) = bI (okC dk l1 l2 c w y' a w)) → r_X9_countDesk_10 (nI c) (nI h) (nI w) R f post (q_X9_countDesk_160 (nI c) (nI h) (nI w) R f post) l1 l2 (nI (c ^ w)) fits' top' bottom' ways (m + 1) (nI y) mm := by
    intro m
    induction m with
    | zero =>
      intro y mm hy hu
      unfold r_X9_countDesk_10
      refine pk_le h y (fun _ => ?_) (fun q => absurd q (by omega)) rfl rfl (by omega) (by omega)
      unfold q_X9_countDesk_160
      exact s_layWays h243 hh1 hh hF.1 hF.2.1 hF.2.2 (ok := fun y a => okC dk l1 l2 c w y a w) (fun y' a hy' ha => hu y' a (by omega) ha) (fun ways' hW => k fits' top' bottom' mm ways' hF hW)
    | succ m ih =>
      intro y mm hy hu
      unfold r_X9_countDesk_10
      refine pk_le h y (fun q => absurd q (by omega)) (fun _ => ?_) rfl rfl (by omega) (by omega)
      refine ⟨c ^ w + 1, row (show y < h by omega) (fun mm' h' => ?_) (c ^ w) 0 mm (by omega) hu (fun a ha => absurd ha (by omega))⟩
      unfold q_X9_countDesk_154
      rw [nI_1]
      exact ih (y + 1) mm' (by omega) h'
  exact ⟨h + 1, outer h 0 may (by omega) (fun y' a hy' => absurd hy' (by omega))⟩
/-- the class's wishes for the desk -/
def wD (dk : Nat → Int32) (c N i : Nat) : Nat := if i < N ∧ dk i ≠ -1 then 2 ^ (dk i).toNatClampNeg else 2 ^ c - 1
def okD (dk : Nat → Int32) (c w y a : Nat) : Bool := decide (∀ x, x < w → dk (w * y + x) = -1 ∨ dk (w * y + x) = nI (dg c w a x))
theorem wD_lt {dk : Nat → Int32} {c N i : Nat} (hc2 : c = 2 ∨ c = 3) (hD : DeskOk c dk) (hN : N ≤ 25) : wD dk c N i < 8 := by
  unfold wD
  split
  · rename_i h
    rcases hD i (by omega) with e | ⟨v, hv, e⟩
    · exact absurd e h.2
    · rw [e, nI_clamp (by omega)]
      exact Nat.lt_of_lt_of_le (Nat.pow_lt_pow_right (by decide) (show v < 3 by omega)) (by decide)
  · rcases hc2 with rfl | rfl <;> decide
theorem cellN {h w y x : Nat} (hy : y < h) (hx : x < w) : w * y + x < h * w := by
  have : w * y + w ≤ w * h := by rw [← Nat.mul_succ]; exact Nat.mul_le_mul_left _ hy
  rw [Nat.mul_comm h w]; omega
theorem hw25 {h w : Nat} (hh : h ≤ 5) (hw : w ≤ 5) : h * w ≤ 25 := Nat.le_trans (Nat.mul_le_mul hh hw) (by decide)
theorem wD_bit {dk : Nat → Int32} {c N i d : Nat} (hc2 : c = 2 ∨ c = 3) (hD : DeskOk c dk) (hi : i < N) (hN : N ≤ 25) (hd : d < c) : (wD dk c N i).testBit d = true ↔ dk i = -1 ∨ dk i = nI d := by
  unfold wD
  rcases hD i (by omega) with e | ⟨v, hv, e⟩
  · rw [if_neg (fun q => q.2 e), Nat.testBit_two_pow_sub_one]
    exact ⟨fun _ => Or.inl e, fun _ => decide_eq_true hd⟩
  · have hne : dk i ≠ -1 := by
      rw [e]; intro q
      have := congrArg Int32.toInt q
      rw [nI_toInt (by omega), tim1] at this; omega
    rw [if_pos ⟨hi, hne⟩, e, nI_clamp (by omega), Nat.testBit_two_pow]
    constructor
    · intro q; right; rw [of_decide_eq_true q]
    · rintro (q | q)
      · exact absurd (e.trans q) hne
      · exact decide_eq_true (nI_inj (by omega) (by omega) q)
theorem wsh_D {dk : Nat → Int32} {c h w y a : Nat} (hc2 : c = 2 ∨ c = 3) (hh : h ≤ 5) (hw : w ≤ 5) (hD : DeskOk c dk) (hy : y < h) : wsh c w (wD dk c (h * w)) y a = okD dk c w y a := by
  unfold wsh okD
  apply decide_eq_decide.mpr
  constructor
  · intro q x hx; exact (wD_bit hc2 hD (cellN hy hx) (hw25 hh hw) (dg_lt (by omega) w a x)).mp (q x hx)
  · intro q x hx; exact (wD_bit hc2 hD (cellN hy hx) (hw25 hh hw) (dg_lt (by omega) w a x)).mpr (q x hx)
theorem s_openEndings {c h w : Nat} (hc2 : c = 2 ∨ c = 3) (hh1 : 1 ≤ h) (hh : h ≤ 5) (hw1 : 1 ≤ w) (hw : w ≤ 5) {f dk : Nat → Int32} (hf : ∀ i, i < 25 → f i = dk i) (hD : DeskOk c dk) {wf fr pw pc : Nat → Int32} {a b d g e f' : Int32} {post : (Nat → Int32) → Int32 → Int32 → Int32 → Int32 → (Nat → Int32) → (Nat → Int32) → Int32 → Int32 → (Nat → Int32) → Prop}
    (k : ∀ wf' fr' pw' pc', (∀ i, i < 25 → wf' i = nI (wD dk c (h * w) i) ∧ wD dk c (h * w) i < 8) → RowsOk c w (nI c) (nI w) (nI (c ^ w)) (nI (4 ^ (w + 2) - 1)) fr' pw' → post wf' (nI c) (nI w) (nI (c ^ w)) (nI (4 ^ (w + 2) - 1)) fr' pw' (nI h) (nI w) pc') : q_X8_openEndings (nI c) (nI h) (nI w) f wf a b d g fr pw e f' pc post := by
  unfold q_X8_openEndings
  have hN := hw25 hh hw
  refine s_openA hc2 hw1 hw (fun wf' rs rg fr' pw' pc' hwi hR => ?_)
  have hR' := hR
  obtain ⟨-, -, rfl, rfl, -, -⟩ := hR
  unfold q_X4_size
  rw [pk_mul]
  have loop : ∀ (m i : Nat) (g : Nat → Int32), i + m = h * w → (∀ j, j < 25 → g j = nI (if j < i then wD dk c (h * w) j else 2 ^ c - 1)) → r_X8_openEndings_35 (nI c) (nI h) (nI w) f post (nI (h * w)) (nI c) (nI w) (nI (c ^ w)) (nI (4 ^ (w + 2) - 1)) fr' pw' (nI h) (nI w) pc' (m + 1) (nI i) g := by
    intro m
    induction m with
    | zero =>
      intro i g hi hg
      unfold r_X8_openEndings_35
      refine pk_le (h * w) i (fun _ => k g fr' pw' pc' (fun j hj => ⟨?_, wD_lt hc2 hD hN⟩) hR') (fun q => absurd q (by omega)) rfl rfl (by omega) (by omega)
      rw [hg j hj]
      by_cases e : j < i
      · rw [if_pos e]
      · rw [if_neg e]; unfold wD; rw [if_neg (by omega)]
    | succ m ih =>
      intro i g hi hg
      unfold r_X8_openEndings_35
      refine pk_le (h * w) i (fun q => absurd q (by omega)) (fun _ => ⟨vp_in_nI (by omega) (by decide), ?_⟩) rfl rfl (by omega) (by omega)
      rw [nI_clamp (by omega), hf i (by omega), nI_1]
      refine br (fun q => ih (i + 1) g (by omega) (fun j hj => ?_)) (fun q => ⟨vp_in_nI (by omega) (by decide), vp_in_nI (by omega) (by decide), ih (i + 1) _ (by omega) (fun j hj => ?_)⟩)
      · rw [hg j hj]
        by_cases e : j < i
        · rw [if_pos e, if_pos (by omega)]
        · rw [if_neg e]
          by_cases e2 : j < i + 1
          · rw [if_pos e2, show j = i by omega]
            unfold wD
            rw [if_neg (fun z => z.2 q)]
          · rw [if_neg e2]
      · by_cases e2 : j = i
        · rw [e2, upd_s, if_pos (by omega)]
          rcases hD i (by omega) with z | ⟨v, hv, z⟩
          · exact absurd z q
          · have hp : (2 : Nat) ^ v < 2 ^ 32 := Nat.pow_lt_pow_right (by decide) (by omega)
            unfold wD
            rw [if_pos ⟨by omega, q⟩, z, nI_clamp (by omega), show (1 : Int32) = nI 1 from rfl, shlN (by omega) (by omega), Nat.one_mul]
        · rw [upd_n _ e2, hg j hj]
          by_cases e : j < i
          · rw [if_pos e, if_pos (by omega)]
          · rw [if_neg e, if_neg (by omega)]
  refine ⟨h * w + 1, loop (h * w) 0 wf' (by omega) (fun j hj => ?_)⟩
  rw [if_neg (by omega)]
  exact (hwi j hj).1
def totD (al : Nat → Bool) (dk : Nat → Int32) (c h w : Nat) : Nat := totW (c ^ w) (Fi al c w) (Tp al c w) (Bt al c w) (okD dk c w) h
theorem okC_none {dk : Nat → Int32} {l2 : Int32} {c h w y a : Nat} (hh : h ≤ 5) (hw : w ≤ 5) (hy : y < h) : okC dk (-1) l2 c w y a w = okD dk c w y a := by
  unfold okC okD
  apply decide_eq_decide.mpr
  have hN := hw25 hh hw
  constructor
  · intro q x hx; exact (q x hx).1
  · intro q x hx
    refine ⟨q x hx, fun e => ?_⟩
    have := congrArg Int32.toInt e
    have := cellN hy hx
    rw [nI_toInt (by omega), tim1] at *; omega
theorem s_endingsX {c h w : Nat} (hc2 : c = 2 ∨ c = 3) (hh1 : 1 ≤ h) (hh : h ≤ 5) (hw1 : 1 ≤ w) (hw : w ≤ 5) {al : Nat → Bool} {R f dk : Nat → Int32} (hr : RuleOk al R) (hf : ∀ i, i < 25 → f i = dk i) (hD : DeskOk c dk) {wf fr pw pc : Nat → Int32} {ws ft : Nat → Int64} {a b d g e f' : Int32} {post : Int32 → (Nat → Int32) → (Nat → Int64) → (Nat → Int64) → Int32 → Int32 → Int32 → Int32 → (Nat → Int32) → (Nat → Int32) → Int32 → Int32 → (Nat → Int32) → Prop}
    (k : ∀ wf' ws' ft' a' b' d' g' fr' pw' e' f' pc', post (nI (capM (totD al dk c h w))) wf' ws' ft' a' b' d' g' fr' pw' e' f' pc') : q_X8_endings (nI c) R (nI h) (nI w) f wf ws ft a b d g fr pw e f' pc post := by
  unfold q_X8_endings
  refine s_openEndings hc2 hh1 hh hw1 hw hf hD (fun wf' fr' pw' pc' hwi hR => ?_)
  refine s_fillA hc2 hw1 hw hh1 hh hr hR hwi (fun ws' ft' hW => ?_)
  have hW' := hW.congr (ok' := okD dk c w) (fun y a hy _ => wsh_D hc2 hh hw hD hy)
  refine s_total (y := 0) (by omega) (by omega) hw hh (by omega) hr hR.2.2.2.2.1 hW' ?_
  have h243 := pow_le243 (show c ≤ 3 by omega) hw
  have hlt := totW_lt (R := c ^ w) (F := Fi al c w) (T := Tp al c w) (B := Bt al c w) (ok := okD dk c w) h243 hh
  rw [Nat.sub_zero, totW_eq]
  exact s_cappedX (by omega) (k _ _ _ _ _ _ _ _ _ _ _ _)
theorem s_endingsM {c h w : Nat} (hc : c ≤ 3) (h1 : 1 ≤ c) (hw : w ≤ 5) (hh1 : 1 ≤ h) (hh : h ≤ 5) {al : Nat → Bool} {R f dk : Nat → Int32} (hr : RuleM al R) (hf : ∀ i, i < 25 → f i = dk i) {mr : Int32} {fits top bottom may : Nat → Int32} {ways : Nat → Int64} {post : Int32 → Int32 → (Nat → Int32) → (Nat → Int32) → (Nat → Int32) → (Nat → Int32) → (Nat → Int64) → Prop}
    (k : ∀ mr' fits' top' bottom' may' ways', post (nI (capM (totD al dk c h w))) mr' fits' top' bottom' may' ways') : q_X9_endings (nI c) (nI h) (nI w) R f mr fits top bottom may ways post := by
  unfold q_X9_endings
  refine s_countDesk hc h1 hw hh1 hh hr hf (fun fits' top' bottom' may' ways' hF hW => ?_)
  rw [lN_i, totW_congr (ok' := okD dk c w) (fun y a hy _ => okC_none hh hw hy) hh1]
  exact k _ _ _ _ _ _
