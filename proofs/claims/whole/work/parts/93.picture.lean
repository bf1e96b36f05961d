/-! the picture with a number -/
noncomputable def pathA (al : Nat → Bool) (c w : Nat) (ok : Nat → Nat → Bool) (h j : Nat) : Nat → Nat := Classical.epsilon (fun a => Ins al c w ok h j a h)
theorem pathA_eq {al : Nat → Bool} {c w : Nat} {ok : Nat → Nat → Bool} {h j : Nat} {a : Nat → Nat} (ha : Ins al c w ok h j a h) : ∀ y, y < h → a y = pathA al c w ok h j y := Ins_one ha (Classical.epsilon_spec (p := fun a => Ins al c w ok h j a h) ⟨a, ha⟩)
theorem glv_ok {al : Nat → Bool} {c w : Nat} {ok ok' : Nat → Nat → Bool} {h : Nat} {a : Nat → Nat} {y r : Nat} (e : ∀ y a, y < h → a < c ^ w → ok y a = ok' y a) (hy : y < h) (hr : r < c ^ w) : glv al c w ok h a y r = glv al c w ok' h a y r := by
  unfold glv gW
  rw [Wy_congr e (by omega) _ r (by omega) hr]
theorem bef_ok {al : Nat → Bool} {c w : Nat} {ok ok' : Nat → Nat → Bool} {h : Nat} {a : Nat → Nat} (e : ∀ y a, y < h → a < c ^ w → ok y a = ok' y a) : ∀ {y : Nat}, y ≤ h → (∀ z, z < y → a z < c ^ w) → bef al c w ok h a y = bef al c w ok' h a y
  | 0, _, _ => rfl
  | y + 1, hy, ha => by
    show bef al c w ok h a y + fb_sm (glv al c w ok h a y) (a y) = bef al c w ok' h a y + fb_sm (glv al c w ok' h a y) (a y)
    have := ha y (by omega)
    rw [bef_ok e (by omega) (fun z hz => ha z (by omega)), fb_sm_cong (fun r hr => glv_ok e (by omega) (by omega))]
theorem Ins_ok {al : Nat → Bool} {c w : Nat} {ok ok' : Nat → Nat → Bool} {h j : Nat} {a : Nat → Nat} (e : ∀ y a, y < h → a < c ^ w → ok y a = ok' y a) (ha : Ins al c w ok h j a h) : Ins al c w ok' h j a h := by
  intro y hy
  have h0 := ha y hy
  rw [bef_ok e (by omega) (fun z hz => (ha z (by omega)).1), glv_ok e hy h0.1] at h0
  exact h0
noncomputable def cellA (al : Nat → Bool) (c w : Nat) (ok : Nat → Nat → Bool) (h j cell : Nat) : Int32 := if j < totW (c ^ w) (Fi al c w) (Tp al c w) (Bt al c w) ok h then nI (dg c w (pathA al c w ok h j (cell / w)) (cell % w)) else -1
theorem cellA_y {al : Nat → Bool} {c w : Nat} {ok : Nat → Nat → Bool} {h j cell : Nat} (ht : j < totW (c ^ w) (Fi al c w) (Tp al c w) (Bt al c w) ok h) {a : Nat → Nat} (ha : Ins al c w ok h j a h) (hc : cell < h * w) (hw : 1 ≤ w) : cellA al c w ok h j cell = nI (dg c w (a (cell / w)) (cell % w)) := by
  unfold cellA
  have : cell / w < h := by rw [Nat.div_lt_iff_lt_mul hw]; exact hc
  rw [if_pos ht, pathA_eq ha _ this]
theorem cellA_n {al : Nat → Bool} {c w : Nat} {ok : Nat → Nat → Bool} {h j cell : Nat} (ht : totW (c ^ w) (Fi al c w) (Tp al c w) (Bt al c w) ok h ≤ j) : cellA al c w ok h j cell = -1 := if_neg (by omega)
theorem pg_cell {c w h : Nat} {at' pc : Nat → Int32} (hP : PgOk c w at' pc h) {cell : Nat} (hc : cell < h * w) (hw : 1 ≤ w) : pc cell = nI (dg c w (aN at' (cell / w)) (cell % w)) := by
  have h1 : cell / w < h := by rw [Nat.div_lt_iff_lt_mul hw]; exact hc
  have := hP (cell / w) (cell % w) h1 (Nat.mod_lt _ hw)
  rw [Nat.div_add_mod] at this
  exact this
theorem s_fdCell {c w h cell : Nat} (hc : c ≤ 3) (h1 : 1 ≤ c) (hw1 : 1 ≤ w) (hw : w ≤ 5) (hh : h ≤ 5) (hcell : cell < h * w) {fd : Nat → Int32} (hA : AtOk c w fd h) {post : Int32 → Prop} (k : post (nI (dg c w (aN fd (cell / w)) (cell % w)))) : ¬ nI w = 0 ∧ vp_in (nI cell / nI w) 5 ∧ ¬ nI w = 0 ∧ q_X9_cellOf (nI c) (fd (nI cell / nI w).toNatClampNeg) (nI cell - nI cell / nI w * nI w) (nI w) post := by
  have h243 := pow_le243 hc hw
  have hN := hw25 hh hw
  have hne : ¬ nI w = 0 := nI_ne0 (by omega) (by omega)
  have hy : cell / w < h := by rw [Nat.div_lt_iff_lt_mul hw1]; exact hcell
  have hx := Nat.mod_lt cell hw1
  refine ⟨hne, ?_, hne, ?_⟩
  · rw [pk_div (by omega) (by omega) (by omega)]; exact vp_in_nI (by omega) (by decide)
  · rw [pk_rem (by omega) (by omega) (by omega), pk_div (by omega) (by omega) (by omega), nI_clamp (by omega), (hA _ hy).1]
    have := (hA _ hy).2
    refine s_cellOf hc h1 hw (by omega) (j := cell % w + 1) (same_nI (by omega)) ?_
    rw [rowP_dg hx]; exact k
/-- arguments of picture -/
def picBad (l3 l4 : Int32) (h w : Nat) : Prop := ¬ ((0 ≤ l3.toInt ∧ l3.toInt ≤ 999999999) ∧ 0 ≤ l4.toInt ∧ l4.toInt < (h * w : Nat))
theorem s_pictureX {c : Nat} (hc2 : c = 2 ∨ c = 3) {al : Nat → Bool} {R : Nat → Int32} (hr : RuleOk al R) {wf at' fr pw pc : Nat → Int32} {ws ft : Nat → Int64} {a b d g e f : Int32} {l1 l2 l3 l4 : Int32} {post : Int32 → (Nat → Int32) → (Nat → Int64) → (Nat → Int64) → (Nat → Int32) → Int32 → Int32 → Int32 → Int32 → (Nat → Int32) → (Nat → Int32) → Int32 → Int32 → (Nat → Int32) → Prop}
    (k : ∀ h w j cell : Nat, 1 ≤ h ∧ h ≤ 5 ∧ 1 ≤ w ∧ w ≤ 5 → l1 = nI h → l2 = nI w → l3 = nI j → j ≤ 999999999 → l4 = nI cell → cell < h * w → ∀ wf' ws' ft' at' a' b' d' g' fr' pw' e' f' pc', post (cellA al c w okAll h j cell) wf' ws' ft' at' a' b' d' g' fr' pw' e' f' pc') (k0 : ¬ isSz l1 l2 → post (-3) wf ws ft at' a b d g fr pw e f pc) (k00 : ∀ h w : Nat, 1 ≤ h ∧ h ≤ 5 ∧ 1 ≤ w ∧ w ≤ 5 → l1 = nI h → l2 = nI w → picBad l3 l4 h w → post (-3) wf ws ft at' a b d g fr pw e f pc) : q_X8_picture (nI c) R wf ws ft at' a b d g fr pw e f pc l1 l2 l3 l4 post := by
  unfold q_X8_picture
  refine s_isSizeX (fun hs => b1 ?_) (fun hs => b0 (k0 hs))
  obtain ⟨h, hh1, hh, rfl⟩ := small (lo := 1) (hi := 5) (a := l1) (by omega)
  obtain ⟨w, hw1, hw, rfl⟩ := small (lo := 1) (hi := 5) (a := l2) (by omega)
  have hN := hw25 hh hw
  have k00' := k00 h w ⟨hh1, hh, hw1, hw⟩ rfl rfl
  unfold picBad at k00'
  have eN : (nI (h * w)).toInt = ((h * w : Nat) : Int) := nI_toInt (by omega)
  rw [pk_mul]
  simp only [fa_lt, ti0, eN, show (999999999 : Int32).toInt = 999999999 from rfl]
  refine ⟨fun q => k00' (by omega), fun q1 => ⟨fun q => k00' (by omega), fun q2 => ⟨fun q => k00' (by omega), fun q3 => ⟨fun q4 => ?_, fun q => k00' (by omega)⟩⟩⟩⟩
  obtain ⟨j, hj1, hj2, rfl⟩ := small (lo := 0) (hi := 999999999) (a := l3) (by omega)
  obtain ⟨cell, hcl1, hcl2, rfl⟩ := small (lo := 0) (hi := h * w) (a := l4) (by omega)
  have hcell : cell < h * w := by rw [nI_toInt (by omega)] at q4; omega
  refine s_openWhole hc2 hw1 hw hh1 hh hr (fun wf' ws' ft' fr' pw' pc' hR hW => ?_)
  rw [nI_l (by omega)]
  refine s_turnTo (by omega) (by omega) hw hh1 hh hr hR hW (by omega) (fun ht at2 pc2 hI hA hP => b1 ⟨vp_in_nI (by omega) (by decide), ?_⟩) (fun ht at2 pc2 => b0 ?_)
  · rw [nI_clamp (by omega), pg_cell hP hcell hw1, ← cellA_y ht hI hcell hw1]
    exact k h w j cell ⟨hh1, hh, hw1, hw⟩ rfl rfl rfl hj2 rfl hcell _ _ _ _ _ _ _ _ _ _ _ _ _
  · rw [← cellA_n (cell := cell) ht]
    exact k h w j cell ⟨hh1, hh, hw1, hw⟩ rfl rfl rfl hj2 rfl hcell _ _ _ _ _ _ _ _ _ _ _ _ _
theorem capM_lt {j v : Nat} (hj : j ≤ 1000000000) : j < capM v ↔ j < v := by unfold capM; split <;> omega
theorem s_pictureM {c : Nat} (hc : c ≤ 3) (h1 : 1 ≤ c) {al : Nat → Bool} {R : Nat → Int32} (hr : RuleM al R) {mr : Int32} {fits top bottom may fd : Nat → Int32} {ways : Nat → Int64} {l1 l2 l3 l4 : Int32} {post : Int32 → Int32 → (Nat → Int32) → (Nat → Int32) → (Nat → Int32) → (Nat → Int32) → (Nat → Int64) → (Nat → Int32) → Prop}
    (k : ∀ h w j cell : Nat, 1 ≤ h ∧ h ≤ 5 ∧ 1 ≤ w ∧ w ≤ 5 → l1 = nI h → l2 = nI w → l3 = nI j → j ≤ 999999999 → l4 = nI cell → cell < h * w → ∀ mr' fits' top' bottom' may' ways' fd', post (cellA al c w okAll h j cell) mr' fits' top' bottom' may' ways' fd') (k0 : ¬ isSz l1 l2 → post (-3) mr fits top bottom may ways fd) (k00 : ∀ h w : Nat, 1 ≤ h ∧ h ≤ 5 ∧ 1 ≤ w ∧ w ≤ 5 → l1 = nI h → l2 = nI w → picBad l3 l4 h w → post (-3) mr fits top bottom may ways fd) : q_X9_picture (nI c) R mr fits top bottom may ways fd l1 l2 l3 l4 post := by
  unfold q_X9_picture
  refine s_isSizeM (fun hs => b1 ?_) (fun hs => b0 (k0 hs))
  obtain ⟨h, hh1, hh, rfl⟩ := small (lo := 1) (hi := 5) (a := l1) (by omega)
  obtain ⟨w, hw1, hw, rfl⟩ := small (lo := 1) (hi := 5) (a := l2) (by omega)
  have hN := hw25 hh hw
  have hp : 0 < h * w := Nat.mul_pos hh1 hw1
  have k00' := k00 h w ⟨hh1, hh, hw1, hw⟩ rfl rfl
  unfold picBad at k00'
  rw [pk_mul]
  have e2 := pred_toInt (k := h * w) (by omega) hp
  refine s_in (fun q => b1 ?_) (fun q => b0 (k00' (by rw [tl0, show (999999999 : Int64).toInt = 999999999 from rfl] at q; omega)))
  rw [tl0, show (999999999 : Int64).toInt = 999999999 from rfl] at q
  refine s_in (fun q2 => c1 ?_) (fun q2 => c0 (k00' (by rw [tl0, e2] at q2; omega)))
  rw [tl0, e2] at q2
  obtain ⟨j, hj1, hj2, rfl⟩ := small (lo := 0) (hi := 999999999) (a := l3) (by omega)
  obtain ⟨cell, hcl1, hcl2, rfl⟩ := small (lo := 0) (hi := h * w) (a := l4) (by omega)
  have hcell : cell < h * w := by rw [nI_toInt (by omega)] at q2; omega
  refine s_countAll hc h1 hw hh1 hh hr (fun fits' top' bottom' may' ways' hF hW => ?_)
  have hcm := capM_le (totW (c ^ w) (Fi al c w) (Tp al c w) (Bt al c w) okAll h)
  rw [nI_l (by omega), pk_lLT (by omega) (by omega), capM_lt (by omega)]
  refine ⟨fun ht => ?_, fun ht => ?_⟩
  · refine s_layFound h1 hc hw hh1 hh hF hW (by omega) ht (fun fd2 hI hA => s_fdCell hc h1 hw1 hw hh hcell hA ?_)
    rw [← cellA_y ht hI hcell hw1]
    exact k h w j cell ⟨hh1, hh, hw1, hw⟩ rfl rfl rfl hj2 rfl hcell _ _ _ _ _ _ _
  · rw [← cellA_n (cell := cell) (Nat.not_lt.mp ht)]
    exact k h w j cell ⟨hh1, hh, hw1, hw⟩ rfl rfl rfl hj2 rfl hcell _ _ _ _ _ _ _
/-! the first picture, with wishes -/
theorem s_firstColour {c w h cell : Nat} (hc2 : c = 2 ∨ c = 3) (hw1 : 1 ≤ w) (hw : w ≤ 5) (hh1 : 1 ≤ h) (hh : h ≤ 5) (hcell : cell < h * w) {al : Nat → Bool} {R fr pw wf at' pc : Nat → Int32} {wi : Nat → Nat} (hr : RuleOk al R) (hR : RowsOk c w (nI c) (nI w) (nI (c ^ w)) (nI (4 ^ (w + 2) - 1)) fr pw) (hwi : ∀ i, i < 25 → wf i = nI (wi i) ∧ wi i < 8) {ws ft : Nat → Int64} {post : Int32 → (Nat → Int64) → (Nat → Int64) → (Nat → Int32) → (Nat → Int32) → Prop} {ok : Nat → Nat → Bool} (eok : ∀ y a, y < h → a < c ^ w → wsh c w wi y a = ok y a)
    (k : ∀ ws' ft' at2 pc2, post (cellA al c w ok h 0 cell) ws' ft' at2 pc2) : q_X8_firstColour wf (nI c) (nI w) (nI (c ^ w)) (nI (4 ^ (w + 2) - 1)) fr pw R (nI h) ws ft at' pc (nI cell) post := by
  have hN := hw25 hh hw
  unfold q_X8_firstColour
  refine s_fillA hc2 hw1 hw hh1 hh hr hR hwi (fun ws' ft' hW => ?_)
  refine s_begin (by omega) (by omega) hw hh1 hh hr hR.2.2.2.2.1 (hW.congr eok) (fun ht at2 pc2 hI hA hP => b1 ⟨vp_in_nI (by omega) (by decide), ?_⟩) (fun ht at2 pc2 => b0 ?_)
  · rw [nI_clamp (by omega), pg_cell hP hcell hw1, ← cellA_y ht hI hcell hw1]
    exact k _ _ _ _
  · rw [← cellA_n (cell := cell) (show _ ≤ 0 from Nat.le_of_eq ht)]
    exact k _ _ _ _
theorem s_endingX {c h w : Nat} (hc2 : c = 2 ∨ c = 3) (hh1 : 1 ≤ h) (hh : h ≤ 5) (hw1 : 1 ≤ w) (hw : w ≤ 5) {al : Nat → Bool} {R f dk : Nat → Int32} (hr : RuleOk al R) (hf : ∀ i, i < 25 → f i = dk i) (hD : DeskOk c dk) {wf at' fr pw pc : Nat → Int32} {ws ft : Nat → Int64} {a b d g e f' l1 : Int32} {post : Int32 → (Nat → Int32) → (Nat → Int64) → (Nat → Int64) → (Nat → Int32) → Int32 → Int32 → Int32 → Int32 → (Nat → Int32) → (Nat → Int32) → Int32 → Int32 → (Nat → Int32) → Prop}
    (k : ∀ cell : Nat, l1 = nI cell → cell < h * w → ∀ wf' ws' ft' at' a' b' d' g' fr' pw' e' f' pc', post (cellA al c w (okD dk c w) h 0 cell) wf' ws' ft' at' a' b' d' g' fr' pw' e' f' pc') (k0 : ¬ (0 ≤ l1.toInt ∧ l1.toInt < (h * w : Nat)) → post (-2) wf ws ft at' a b d g fr pw e f' pc) : q_X8_ending (nI c) R (nI h) (nI w) f wf ws ft at' a b d g fr pw e f' pc l1 post := by
  have hN := hw25 hh hw
  unfold q_X8_ending
  refine s_holds hh hw (fun q => c1 ?_) (fun q => c0 (k0 q))
  obtain ⟨cell, hcl1, hcl2, rfl⟩ := small (lo := 0) (hi := h * w) (a := l1) (by omega)
  have hcell : cell < h * w := by rw [nI_toInt (by omega)] at q; omega
  refine s_openEndings hc2 hh1 hh hw1 hw hf hD (fun wf' fr' pw' pc' hwi hR => ?_)
  exact s_firstColour hc2 hw1 hw hh1 hh hcell hr hR hwi (fun y a hy _ => wsh_D hc2 hh hw hD hy) (fun ws' ft' at2 pc2 => k cell rfl hcell _ _ _ _ _ _ _ _ _ _ _ _ _)
theorem s_endingM {c h w : Nat} (hc : c ≤ 3) (h1 : 1 ≤ c) (hw1 : 1 ≤ w) (hw : w ≤ 5) (hh1 : 1 ≤ h) (hh : h ≤ 5) {al : Nat → Bool} {R f dk : Nat → Int32} (hr : RuleM al R) (hf : ∀ i, i < 25 → f i = dk i) {mr l1 : Int32} {fits top bottom may fd : Nat → Int32} {ways : Nat → Int64} {post : Int32 → Int32 → (Nat → Int32) → (Nat → Int32) → (Nat → Int32) → (Nat → Int32) → (Nat → Int64) → (Nat → Int32) → Prop}
    (k : ∀ cell : Nat, l1 = nI cell → cell < h * w → ∀ mr' fits' top' bottom' may' ways' fd', post (cellA al c w (okD dk c w) h 0 cell) mr' fits' top' bottom' may' ways' fd') (k0 : ¬ (0 ≤ l1.toInt ∧ l1.toInt < (h * w : Nat)) → post (-2) mr fits top bottom may ways fd) : q_X9_ending (nI c) (nI h) (nI w) R f mr fits top bottom may ways fd l1 post := by
  have hN := hw25 hh hw
  unfold q_X9_ending
  refine s_isCellM hh hw hh1 hw1 (fun q => c1 ?_) (fun q => c0 (k0 q))
  obtain ⟨cell, hcl1, hcl2, rfl⟩ := small (lo := 0) (hi := h * w) (a := l1) (by omega)
  have hcell : cell < h * w := by rw [nI_toInt (by omega)] at q; omega
  refine s_countDesk hc h1 hw hh1 hh hr hf (fun fits' top' bottom' may' ways' hF hW => ?_)
  have eok : ∀ y a, y < h → a < c ^ w → okC dk (-1) 0 c w y a w = okD dk c w y a := fun y a hy _ => okC_none hh hw hy
  have hcm := capM_le (totW (c ^ w) (Fi al c w) (Tp al c w) (Bt al c w) (fun y a => okC dk (-1) 0 c w y a w) h)
  rw [show (0 : Int64) = lN 0 from rfl, pk_lEQ (by omega) (by decide)]
  have et := totW_congr (R := c ^ w) (F := Fi al c w) (T := Tp al c w) (B := Bt al c w) eok hh1
  have ez : capM (totW (c ^ w) (Fi al c w) (Tp al c w) (Bt al c w) (fun y a => okC dk (-1) 0 c w y a w) h) = 0 ↔ totW (c ^ w) (Fi al c w) (Tp al c w) (Bt al c w) (okD dk c w) h = 0 := by
    rw [et]; unfold capM; split <;> omega
  rw [ez]
  refine brn (fun q => ?_) (fun q => ?_)
  · refine s_layFound h1 hc hw hh1 hh hF (hW.congr eok) (by decide) (by omega) (fun fd2 hI hA => s_fdCell hc h1 hw1 hw hh hcell hA ?_)
    rw [← cellA_y (by omega) hI hcell hw1]
    exact k cell rfl hcell _ _ _ _ _ _ _
  · rw [← cellA_n (cell := cell) (show _ ≤ 0 from Nat.le_of_eq q)]
    exact k cell rfl hcell _ _ _ _ _ _ _
theorem s_lookX {c : Nat} (hc2 : c = 2 ∨ c = 3) {al : Nat → Bool} {R lt : Nat → Int32} {lb : Nat → Bool} (hr : RuleOk al R) (hl : LtOk lt lb) {wf at' fr pw pc : Nat → Int32} {ws ft : Nat → Int64} {a b d g e f : Int32} {l1 l2 l3 l4 : Int32} {post : Int32 → (Nat → Int32) → (Nat → Int64) → (Nat → Int64) → (Nat → Int32) → Int32 → Int32 → Int32 → Int32 → (Nat → Int32) → (Nat → Int32) → Int32 → Int32 → (Nat → Int32) → Prop}
    (k : ∀ h w look cell : Nat, 1 ≤ h ∧ h ≤ 5 ∧ 1 ≤ w ∧ w ≤ 5 → l1 = nI h → l2 = nI w → l3 = nI look → look < 2 ^ (h * w) → l4 = nI cell → cell < h * w → ∀ wf' ws' ft' at' a' b' d' g' fr' pw' e' f' pc', post (cellA al c w (okL lb look c w) h 0 cell) wf' ws' ft' at' a' b' d' g' fr' pw' e' f' pc') (k0 : ¬ isSz l1 l2 → post (-3) wf ws ft at' a b d g fr pw e f pc) (k00 : ∀ h w : Nat, 1 ≤ h ∧ h ≤ 5 ∧ 1 ≤ w ∧ w ≤ 5 → l1 = nI h → l2 = nI w → ¬ ((0 ≤ l3.toInt ∧ l3.toInt < (2 ^ (h * w) : Nat)) ∧ 0 ≤ l4.toInt ∧ l4.toInt < (h * w : Nat)) → post (-3) wf ws ft at' a b d g fr pw e f pc) : q_X8_look (nI c) lt R wf ws ft at' a b d g fr pw e f pc l1 l2 l3 l4 post := by
  unfold q_X8_look
  refine s_isSizeX (fun hs => b1 ?_) (fun hs => b0 (k0 hs))
  obtain ⟨h, hh1, hh, rfl⟩ := small (lo := 1) (hi := 5) (a := l1) (by omega)
  obtain ⟨w, hw1, hw, rfl⟩ := small (lo := 1) (hi := 5) (a := l2) (by omega)
  have hN := hw25 hh hw
  have hp := p25 hh hw
  have k00' := k00 h w ⟨hh1, hh, hw1, hw⟩ rfl rfl
  have eN : (nI (h * w)).toInt = ((h * w : Nat) : Int) := nI_toInt (by omega)
  rw [pk_mul]
  refine s_isLookX hh hw (fun look el hlk => b1 ?_) (fun q => b0 (k00' (fun z => q z.1)))
  simp only [fa_lt, ti0, eN]
  refine ⟨fun q => k00' (by omega), fun q3 => ⟨fun q4 => ?_, fun q => k00' (by omega)⟩⟩
  subst el
  obtain ⟨cell, hcl1, hcl2, rfl⟩ := small (lo := 0) (hi := h * w) (a := l4) (by omega)
  have hcell : cell < h * w := by rw [nI_toInt (by omega)] at q4; omega
  refine s_openLook hc2 hh1 hh hw1 hw hl (by omega) (fun wf' fr' pw' pc' hwi hR => ?_)
  exact s_firstColour hc2 hw1 hw hh1 hh hcell hr hR hwi (fun y a hy _ => wsh_L (by omega) hy) (fun ws' ft' at2 pc2 => k h w look cell ⟨hh1, hh, hw1, hw⟩ rfl rfl rfl hlk rfl hcell _ _ _ _ _ _ _ _ _ _ _ _ _)
theorem s_lookM {c : Nat} (hc : c ≤ 3) (h1 : 1 ≤ c) {al : Nat → Bool} {R lt : Nat → Int32} {lb : Nat → Bool} (hr : RuleM al R) (hl : LtOk lt lb) {mr : Int32} {fits top bottom may fd : Nat → Int32} {ways : Nat → Int64} {l1 l2 l3 l4 : Int32} {post : Int32 → Int32 → (Nat → Int32) → (Nat → Int32) → (Nat → Int32) → (Nat → Int32) → (Nat → Int64) → (Nat → Int32) → Prop}
    (k : ∀ h w look cell : Nat, 1 ≤ h ∧ h ≤ 5 ∧ 1 ≤ w ∧ w ≤ 5 → l1 = nI h → l2 = nI w → l3 = nI look → look < 2 ^ (h * w) → l4 = nI cell → cell < h * w → ∀ mr' fits' top' bottom' may' ways' fd', post (cellA al c w (okL lb look c w) h 0 cell) mr' fits' top' bottom' may' ways' fd') (k0 : ¬ isSz l1 l2 → post (-3) mr fits top bottom may ways fd) (k00 : ∀ h w : Nat, 1 ≤ h ∧ h ≤ 5 ∧ 1 ≤ w ∧ w ≤ 5 → l1 = nI h → l2 = nI w → ¬ ((0 ≤ l3.toInt ∧ l3.toInt < (2 ^ (h * w) : Nat)) ∧ 0 ≤ l4.toInt ∧ l4.toInt < (h * w : Nat)) → post (-3) mr fits top bottom may ways fd) : q_X9_look (nI c) R lt mr fits top bottom may ways fd l1 l2 l3 l4 post := by
  unfold q_X9_look
  refine s_isLookM (fun h w look hs e1 e2 e3 hlk => b1 ?_) (fun q => b0 (k0 q)) (fun h w hs e1 e2 q => b0 (k00 h w hs e1 e2 (fun z => q z.1)))
  subst e1 e2 e3
  obtain ⟨hh1, hh, hw1, hw⟩ := hs
  have hN := hw25 hh hw
  have hp := p25 hh hw
  have hpos : 0 < h * w := Nat.mul_pos hh1 hw1
  have k00' := k00 h w ⟨hh1, hh, hw1, hw⟩ rfl rfl
  have e2 := pred_toInt (k := h * w) (by omega) hpos
  rw [pk_mul]
  refine s_in (fun q2 => c1 ?_) (fun q2 => c0 (k00' (by rw [tl0, e2] at q2; omega)))
  rw [tl0, e2] at q2
  obtain ⟨cell, hcl1, hcl2, rfl⟩ := small (lo := 0) (hi := h * w) (a := l4) (by omega)
  have hcell : cell < h * w := by rw [nI_toInt (by omega)] at q2; omega
  refine s_countLook hc h1 hw hh1 hh hr hl (by omega) (fun fits' top' bottom' may' ways' hF hW => ?_)
  have hcm := capM_le (totW (c ^ w) (Fi al c w) (Tp al c w) (Bt al c w) (okL lb look c w) h)
  rw [show (0 : Int64) = lN 0 from rfl, pk_lEQ (by omega) (by decide)]
  have ez : capM (totW (c ^ w) (Fi al c w) (Tp al c w) (Bt al c w) (okL lb look c w) h) = 0 ↔ totW (c ^ w) (Fi al c w) (Tp al c w) (Bt al c w) (okL lb look c w) h = 0 := by
    unfold capM; split <;> omega
  rw [ez]
  refine brn (fun q => ?_) (fun q => ?_)
  · refine s_layFound h1 hc hw hh1 hh hF hW (by decide) (by omega) (fun fd2 hI hA => s_fdCell hc h1 hw1 hw hh hcell hA ?_)
    rw [← cellA_y (by omega) hI hcell hw1]
    exact k h w look cell ⟨hh1, hh, hw1, hw⟩ rfl rfl rfl hlk rfl hcell _ _ _ _ _ _ _
  · rw [← cellA_n (cell := cell) (show _ ≤ 0 from Nat.le_of_eq q)]
    exact k h w look cell ⟨hh1, hh, hw1, hw⟩ rfl rfl rfl hlk rfl hcell _ _ _ _ _ _ _
