/-! walked -/
theorem wk_lo {h w : Nat} {see : Nat → Nat → Nat} {ac th : Nat → Nat} : ∀ (f X Y q st lo : Nat) (V : Nat → Bool), lo ≤ (wk h w see ac th f X Y q st lo V).2.2.2
  | 0, _, _, _, _, lo, _ => Nat.le_refl lo
  | f + 1, X, Y, q, st, lo, V => by
    unfold wk
    split
    · exact Nat.le_refl lo
    · split
      · exact loN_ge
      · split
        · exact Nat.le_trans loN_ge (wk_lo f _ _ _ _ _ _)
        · exact loN_ge
theorem wk_lo_lt {h w : Nat} {see : Nat → Nat → Nat} {ac th : Nat → Nat} (h1 : 1 ≤ h) : ∀ (f X Y q st lo : Nat) (V : Nat → Bool), lo < h → (wk h w see ac th f X Y q st lo V).2.2.2 < h
  | 0, _, _, _, _, lo, _, hl => hl
  | f + 1, X, Y, q, st, lo, V, hl => by
    unfold wk
    split
    · exact hl
    · split
      · exact loN_lt h1 hl
      · split
        · exact wk_lo_lt h1 f _ _ _ _ _ _ (loN_lt h1 hl)
        · exact loN_lt h1 hl
theorem wk_congr {h w : Nat} {see see' : Nat → Nat → Nat} {ac th : Nat → Nat} (hout : ∀ Y X, h < Y → see Y X = see' Y X) : ∀ (f X Y q st lo : Nat) (V : Nat → Bool), (∀ Y' X', Y' ≤ h → Y' ≤ (wk h w see ac th f X Y q st lo V).2.2.2 + 1 → see Y' X' = see' Y' X') → wk h w see' ac th f X Y q st lo V = wk h w see ac th f X Y q st lo V
  | 0, _, _, _, _, _, _, _ => rfl
  | f + 1, X, Y, q, st, lo, V, hs => by
    have key : V (kX w X Y q) = false → see Y X = see' Y X := by
      intro hV
      by_cases hY : Y ≤ h
      · refine hs Y X hY (Nat.le_trans (loN_row (lo := lo) hY) (Nat.add_le_add_right ?_ 1))
        unfold wk
        rw [hV, if_neg (by decide)]
        split
        · exact Nat.le_refl _
        · split
          · exact wk_lo f _ _ _ _ _ _
          · exact Nat.le_refl _
      · exact hout Y X (by omega)
    cases hV : V (kX w X Y q) with
    | true => unfold wk; rw [hV, if_pos rfl, if_pos rfl]
    | false =>
      have e := key hV
      unfold wk
      rw [hV, if_neg (show ¬ (false = true) by decide), if_neg (show ¬ (false = true) by decide), ← e]
      by_cases h4 : 4 ≤ ac (4 * q + see Y X)
      · rw [if_pos h4, if_pos h4]
      · rw [if_neg h4, if_neg h4]
        cases ho : okM h w (ac (4 * q + see Y X)) X Y with
        | false => rfl
        | true =>
          rw [if_pos rfl, if_pos rfl]
          refine wk_congr hout f _ _ _ _ _ _ (fun Y' X' h1 h2 => hs Y' X' h1 ?_)
          unfold wk
          rw [hV, if_neg (by decide), if_neg h4, ho, if_pos rfl]
          exact h2
/-- a picture by its rows -/
def dvP (c w : Nat) (a : Nat → Nat) (i : Nat) : Nat := dg c w (a (i / w)) (i % w)
theorem prt_dvP {c h w : Nat} (a : Nat → Nat) (Y X : Nat) : prt (dvP c w a) h w Y X = if 1 ≤ Y ∧ Y ≤ h ∧ 1 ≤ X ∧ X ≤ w then dg c w (a (Y - 1)) (X - 1) else 3 := by
  unfold prt
  by_cases q : 1 ≤ Y ∧ Y ≤ h ∧ 1 ≤ X ∧ X ≤ w
  · rw [if_pos q, if_pos q]
    unfold dvP
    rw [Nat.mul_add_div (by omega), Nat.div_eq_of_lt (by omega), Nat.add_zero, Nat.mul_add_mod, Nat.mod_eq_of_lt (by omega)]
  · rw [if_neg q, if_neg q]
def wkP (c h w : Nat) (ac th : Nat → Int32) (a : Nat → Nat) : Nat × Nat × Nat × Nat := wk h w (prt (dvP c w a) h w) (tN ac) (tN th) 246 1 1 0 0 0 (fun _ => false)
theorem wkP_congr {c h w : Nat} {ac th : Nat → Int32} {a b : Nat → Nat} (e : ∀ y, y ≤ (wkP c h w ac th a).2.2.2 → a y = b y) : wkP c h w ac th b = wkP c h w ac th a := by
  refine wk_congr (fun Y X hY => ?_) _ _ _ _ _ _ _ (fun Y X h1 h2 => ?_)
  · rw [prt_dvP, prt_dvP, if_neg (by omega), if_neg (by omega)]
  · rw [prt_dvP, prt_dvP]
    by_cases q : 1 ≤ Y ∧ Y ≤ h ∧ 1 ≤ X ∧ X ≤ w
    · rw [if_pos q, if_pos q, e (Y - 1) (by show Y - 1 ≤ (wk _ _ _ _ _ _ _ _ _ _ _ _).2.2.2; omega)]
    · rw [if_neg q, if_neg q]
theorem wkP_lo {c h w : Nat} {ac th : Nat → Int32} {a : Nat → Nat} (h1 : 1 ≤ h) : (wkP c h w ac th a).2.2.2 < h := wk_lo_lt h1 _ _ _ _ _ _ _ (by omega)
noncomputable def tkJ (al : Nat → Bool) (ac th : Nat → Int32) (c h w j : Nat) : Bool := decide ((wkP c h w ac th (pathA al c w okAll h j)).1 = 1)
noncomputable def walkedA (al : Nat → Bool) (ac th : Nat → Int32) (c h w : Nat) : Nat := fb_ct (tkJ al ac th c h w) (totA al c h w)
theorem tot_9 {al : Nat → Bool} {c h w : Nat} (hc : c ≤ 3) (hh1 : 1 ≤ h) (h9 : h * w ≤ 9) : totA al c h w ≤ 19683 := by
  have e1 : totA al c h w ≤ c ^ w * (c ^ w) ^ (h - 1) := by
    unfold totA totW
    refine fb_sm_bound (fun a _ => ?_)
    split
    · exact Wy_le _ _ _ _ _ _ _
    · exact Nat.zero_le _
  have e2 : c ^ w * (c ^ w) ^ (h - 1) = c ^ (h * w) := by
    rw [Nat.mul_comm, ← Nat.pow_succ, show (h - 1).succ = h by omega, ← Nat.pow_mul, Nat.mul_comm w h]
  rw [e2] at e1
  exact Nat.le_trans e1 (Nat.le_trans (Nat.pow_le_pow_left hc _) (Nat.le_trans (Nat.pow_le_pow_right (by decide) h9) (by decide)))
theorem Ins_ex {al : Nat → Bool} {c w : Nat} {ok : Nat → Nat → Bool} {h j : Nat} (hh1 : 1 ≤ h) (ht : j < totW (c ^ w) (Fi al c w) (Tp al c w) (Bt al c w) ok h) : ∃ a, Ins al c w ok h j a h := by
  have row : ∀ n, n ≤ h → ∃ a, Ins al c w ok h j a n ∧ bef al c w ok h a n ≤ j ∧ (n < h → j < bef al c w ok h a n + fb_sm (glv al c w ok h a n) (c ^ w)) := by
    intro n
    induction n with
    | zero =>
      intro _
      refine ⟨fun _ => 0, fun y hy => absurd hy (by omega), Nat.zero_le _, fun _ => ?_⟩
      show j < 0 + fb_sm (glv al c w ok h (fun _ => 0) 0) (c ^ w)
      rw [Nat.zero_add]
      rw [← totW_eq] at ht
      exact ht
    | succ n ih =>
      intro hn
      obtain ⟨a, h1, h2, h3⟩ := ih (by omega)
      have h3' := h3 (by omega)
      have : ∃ r, r < c ^ w ∧ fb_sm (glv al c w ok h a n) r ≤ j - bef al c w ok h a n ∧ j - bef al c w ok h a n < fb_sm (glv al c w ok h a n) r + glv al c w ok h a n r := by
        have gen : ∀ (f : Nat → Nat) (l R : Nat), l < fb_sm f R → ∃ r, r < R ∧ fb_sm f r ≤ l ∧ l < fb_sm f r + f r := by
          intro f l R
          induction R with
          | zero => intro z; exact absurd z (Nat.not_lt_zero _)
          | succ R ihR =>
            intro z
            by_cases q : l < fb_sm f R
            · obtain ⟨r, z1, z2, z3⟩ := ihR q; exact ⟨r, by omega, z2, z3⟩
            · rw [fb_sm_succ] at z; exact ⟨R, by omega, by omega, z⟩
        exact gen _ _ _ (by omega)
      obtain ⟨r, r1, r2, r3⟩ := this
      have elo : ∀ i, i < n → a i = (fun i => if i = n then r else a i) i := fun i hi => by
        show a i = if i = n then r else a i
        rw [if_neg (by omega)]
      have eat : (fun i => if i = n then r else a i) n = r := if_pos rfl
      have ebef : bef al c w ok h (fun i => if i = n then r else a i) (n + 1) = bef al c w ok h a n + fb_sm (glv al c w ok h a n) r := by
        show bef al c w ok h (fun i => if i = n then r else a i) n + fb_sm (glv al c w ok h (fun i => if i = n then r else a i) n) ((fun i => if i = n then r else a i) n) = _
        rw [eat, ← bef_congr elo, ← glv_congr elo]
      have eg : glv al c w ok h (fun i => if i = n then r else a i) n ((fun i => if i = n then r else a i) n) = glv al c w ok h a n r := by rw [eat, ← glv_congr elo]
      refine ⟨fun i => if i = n then r else a i, fun y hy => ?_, by rw [ebef]; omega, fun hn2 => ?_⟩
      · by_cases e : y = n
        · subst e
          rw [ebef, eg, eat]
          exact ⟨r1, by omega, by omega⟩
        · exact Ins_congr elo h1 y (by omega)
      · rw [next_tot hn2 (by rw [eg]; omega), eg, ebef]
        omega
  obtain ⟨a, h1, _, _⟩ := row h (Nat.le_refl _)
  exact ⟨a, h1⟩
theorem path_Ins {al : Nat → Bool} {c w : Nat} {ok : Nat → Nat → Bool} {h j : Nat} (hh1 : 1 ≤ h) (ht : j < totW (c ^ w) (Fi al c w) (Tp al c w) (Bt al c w) ok h) : Ins al c w ok h j (pathA al c w ok h j) h := Classical.epsilon_spec (p := fun a => Ins al c w ok h j a h) (Ins_ex hh1 ht)
theorem Ins_le {al : Nat → Bool} {c w : Nat} {ok : Nat → Nat → Bool} {h j : Nat} {a : Nat → Nat} {n m : Nat} (hi : Ins al c w ok h j a n) (hm : m ≤ n) : Ins al c w ok h j a m := fun y hy => hi y (by omega)
theorem bef_le_of {al : Nat → Bool} {c w : Nat} {ok : Nat → Nat → Bool} {h : Nat} {a : Nat → Nat} {y z : Nat} (hyz : y ≤ z) : bef al c w ok h a y ≤ bef al c w ok h a z := by
  induction z with
  | zero => rw [show y = 0 by omega]; exact Nat.le_refl _
  | succ z ih =>
    by_cases e : y = z + 1
    · rw [e]; exact Nat.le_refl _
    · exact Nat.le_trans (ih (by omega)) bef_mono
/-- those that are like picture a in its rows up to l stand together -/
theorem blk_in {al : Nat → Bool} {c w : Nat} {ok : Nat → Nat → Bool} {h j i l : Nat} {a : Nat → Nat} (hI : Ins al c w ok h j a h) (hl : l < h) (h1 : bef al c w ok h a (l + 1) ≤ i) (h2 : i < bef al c w ok h a (l + 1) + glv al c w ok h a l (a l)) : Ins al c w ok h i a (l + 1) := by
  have h0 := hI l hl
  have eb : bef al c w ok h a (l + 1) = bef al c w ok h a l + fb_sm (glv al c w ok h a l) (a l) := rfl
  have hp := fb_sm_part (glv al c w ok h a l) h0.1
  have lo := inside_of (j := i) hl (Ins_liv (Ins_le hI (show l ≤ h by omega))) (by omega) (by omega)
  intro y hy
  by_cases e : y = l
  · rw [e]; exact ⟨h0.1, h1, h2⟩
  · exact lo y (by omega)
def Fst (al : Nat → Bool) (ac th : Nat → Int32) (c h w j : Nat) : Prop := ∀ i, i < j → i < totA al c h w → ∀ j2, j ≤ j2 → j2 < totA al c h w → ¬ ∀ y, y ≤ (wkP c h w ac th (pathA al c w okAll h i)).2.2.2 → pathA al c w okAll h i y = pathA al c w okAll h j2 y
theorem ct_same {p : Nat → Bool} {j g : Nat} {b : Bool} (h : ∀ i, j ≤ i → i < j + g → p i = b) : fb_ct p (j + g) = fb_ct p j + if b then g else 0 := by
  rw [fb_ct_split]
  congr 1
  cases b with
  | true => rw [if_pos rfl]; exact fb_ct_all.mpr (fun k hk => h (j + k) (by omega) (by omega))
  | false => exact fb_ct_zero.mpr (fun k hk => h (j + k) (by omega) (by omega))
/-- one step of the album: from picture j over all that look alike to the walker -/
theorem walk_step {al : Nat → Bool} {ac th : Nat → Int32} {c h w j : Nat} (hh1 : 1 ≤ h) (hF : Fst al ac th c h w j) (ht : j < totA al c h w) {a : Nat → Nat} (hI : Ins al c w okAll h j a h) {l : Nat} (hl : l = (wkP c h w ac th a).2.2.2) :
    let g := glv al c w okAll h a l (a l)
    bef al c w okAll h a l + fb_sm (glv al c w okAll h a l) (a l + 1) = j + g ∧ 0 < g ∧ j + g ≤ totA al c h w ∧ Fst al ac th c h w (j + g) ∧ fb_ct (tkJ al ac th c h w) (j + g) = fb_ct (tkJ al ac th c h w) j + if (wkP c h w ac th a).1 = 1 then g else 0 := by
  intro g
  have hlh : l < h := by rw [hl]; exact wkP_lo hh1
  have ep : ∀ y, y < h → a y = pathA al c w okAll h j y := pathA_eq hI
  have ewk : wkP c h w ac th (pathA al c w okAll h j) = wkP c h w ac th a := wkP_congr (fun y hy => ep y (by rw [← hl] at hy; omega))
  have h0 := hI l hlh
  have hg : 0 < g := by show 0 < glv al c w okAll h a l (a l); omega
  -- pictures of the block
  have like : ∀ i, bef al c w okAll h a (l + 1) ≤ i → i < bef al c w okAll h a (l + 1) + g → i < totA al c h w → (∀ y, y ≤ l → a y = pathA al c w okAll h i y) ∧ wkP c h w ac th (pathA al c w okAll h i) = wkP c h w ac th a := by
    intro i h1 h2 hti
    have hIi := path_Ins (ok := okAll) hh1 hti
    have e := Ins_one (blk_in hI hlh h1 h2) (Ins_le hIi (show l + 1 ≤ h by omega))
    have e' : ∀ y, y ≤ l → a y = pathA al c w okAll h i y := fun y hy => e y (by omega)
    exact ⟨e', wkP_congr (fun y hy => e' y (by rw [← hl] at hy; exact hy))⟩
  -- it is the first of its block
  have hfirst : bef al c w okAll h a (l + 1) = j := by
    apply Classical.byContradiction
    intro z
    have hlt : bef al c w okAll h a (l + 1) < j := by omega
    have hk := like (bef al c w okAll h a (l + 1)) (Nat.le_refl _) (by omega) (by omega)
    refine hF _ hlt (by omega) j (Nat.le_refl _) ht (fun y hy => ?_)
    rw [hk.2, ← hl] at hy
    rw [← hk.1 y hy, ep y (by omega)]
  have htop : j + g ≤ totA al c h w := by
    have hp := fb_sm_part (glv al c w okAll h a l) h0.1
    have eb : bef al c w okAll h a (l + 1) = bef al c w okAll h a l + fb_sm (glv al c w okAll h a l) (a l) := rfl
    apply Classical.byContradiction
    intro z
    have hb := blk_in (i := totA al c h w) hI hlh (by omega) (by show _ < _ + g; omega)
    have hb0 := hb 0 (by omega)
    have eb0 : bef al c w okAll h a (0 + 1) = 0 + fb_sm (glv al c w okAll h a 0) (a 0) := rfl
    have hp0 := fb_sm_part (glv al c w okAll h a 0) hb0.1
    have et : fb_sm (glv al c w okAll h a 0) (c ^ w) = totA al c h w := by
      unfold totA
      rw [← totW_eq]
      rfl
    omega
  refine ⟨?_, hg, htop, ?_, ?_⟩
  · rw [fb_sm_succ]
    have eb : bef al c w okAll h a (l + 1) = bef al c w okAll h a l + fb_sm (glv al c w okAll h a l) (a l) := rfl
    show _ = j + glv al c w okAll h a l (a l)
    omega
  · intro i hi hti j2 hj2 htj2 hall
    by_cases q : i < j
    · exact hF i q hti j2 (by omega) htj2 hall
    · have hk := like i (by omega) (by omega) hti
      rw [hk.2, ← hl] at hall
      have e2 : ∀ y, y ≤ l → a y = pathA al c w okAll h j2 y := fun y hy => by rw [hk.1 y hy]; exact hall y hy
      have hI2 := path_Ins (ok := okAll) hh1 htj2
      have h2 := hI2 l hlh
      rw [← bef_congr (a := a) (fun y hy => e2 y (by omega)), ← glv_congr (a := a) (fun y hy => e2 y (by omega)), ← e2 l (Nat.le_refl _)] at h2
      have : j2 < bef al c w okAll h a (l + 1) + g := h2.2.2
      omega
  · have hb : (if (wkP c h w ac th a).1 = 1 then g else 0) = if decide ((wkP c h w ac th a).1 = 1) then g else 0 := by
      by_cases q : (wkP c h w ac th a).1 = 1
      · rw [if_pos q, decide_eq_true q, if_pos rfl]
      · rw [if_neg q, decide_eq_false q]; rfl
    rw [hb]
    refine ct_same (fun i h1 h2 => ?_)
    unfold tkJ
    rw [(like i (by omega) (by omega) (by omega)).2]
