theorem ti0 : (0 : Int32).toInt = 0 := rfl
theorem ti1 : (1 : Int32).toInt = 1 := rfl
theorem ti2 : (2 : Int32).toInt = 2 := rfl
theorem ti3 : (3 : Int32).toInt = 3 := rfl
theorem ti4 : (4 : Int32).toInt = 4 := rfl
theorem ti5 : (5 : Int32).toInt = 5 := rfl
theorem ti256 : (256 : Int32).toInt = 256 := rfl
theorem tim1 : (-1 : Int32).toInt = -1 := rfl
theorem tl0 : (0 : Int64).toInt = 0 := rfl
theorem tl1 : (1 : Int64).toInt = 1 := rfl
theorem tl2 : (2 : Int64).toInt = 2 := rfl
theorem tl3 : (3 : Int64).toInt = 3 := rfl
theorem tl5 : (5 : Int64).toInt = 5 := rfl
theorem tl255 : (255 : Int64).toInt = 255 := rfl
theorem tlm1 : (-1 : Int64).toInt = -1 := rfl
theorem pred_toInt {k : Nat} (h : k < 2 ^ 31) (h0 : 0 < k) : ((nI k - (1 : Int32)).toInt64).toInt = (k : Int) - 1 := by
  rw [Int32.toInt_toInt64, show (1 : Int32) = nI 1 from rfl, pk_sub (by omega), nI_toInt (by omega)]; omega
theorem cl_toNat (a : Int32) : a.toNatClampNeg = a.toInt.toNat := rfl
def lt0 : Nat → Int32 := fun i => if i = 1 then 1 else 0
theorem lt0_upd (f : Nat → Int32) : ∀ i, i < 3 → (upd (upd (upd f ((0 : Int32)).toNatClampNeg (0 : Int32)) ((1 : Int32)).toNatClampNeg (1 : Int32)) ((2 : Int32)).toNatClampNeg (0 : Int32)) i = lt0 i := by
  intro i hi
  have e0 : ((0 : Int32)).toNatClampNeg = 0 := rfl
  have e1 : ((1 : Int32)).toNatClampNeg = 1 := rfl
  have e2 : ((2 : Int32)).toNatClampNeg = 2 := rfl
  rw [e0, e1, e2]
  unfold upd lt0
  rcases (show i = 0 ∨ i = 1 ∨ i = 2 by omega) with rfl | rfl | rfl <;> simp
/-! colours -/
theorem s_beginAnew {cc0 : Int32} {L : Nat → Int32} {gs : Int32} {ac th rl : Nat → Int32} {dh dw : Int32} {dc : Nat → Int32} {a : Int32} {post : Int32 → (Nat → Int32) → Int32 → (Nat → Int32) → (Nat → Int32) → (Nat → Int32) → Int32 → Int32 → (Nat → Int32) → Prop}
    (k : ∀ L' ac' th' rl' dc', (∀ i, i < 3 → L' i = lt0 i) → (∀ i, i < 20 → ac' i = 5) → (∀ i, i < 20 → th' i = 0) → RuleOk (fun _ => false) rl' → (∀ i, i < 25 → dc' i = -1) → post a L' 1 ac' th' rl' 1 1 dc') : q_X8_beginAnew cc0 L gs ac th rl dh dw dc a post := by
  unfold q_X8_beginAnew q_X4_lay q_X7_become
  exact s_clearX (fun rl' hr => s_fill (by decide) (fun dc' hd => s_fill (by decide) (fun ac' ha => s_fill (by decide) (fun th' ht => k _ ac' th' rl' dc' (lt0_upd L) ha ht hr hd))))
theorem s_coloursX {cc0 : Int32} {L : Nat → Int32} {gs : Int32} {ac th rl : Nat → Int32} {dh dw : Int32} {dc : Nat → Int32} {a : Int32} {post : Int32 → Int32 → (Nat → Int32) → Int32 → (Nat → Int32) → (Nat → Int32) → (Nat → Int32) → Int32 → Int32 → (Nat → Int32) → Prop}
    (k : 2 ≤ a.toInt ∧ a.toInt ≤ 3 → ∀ L' ac' th' rl' dc', (∀ i, i < 3 → L' i = lt0 i) → (∀ i, i < 20 → ac' i = 5) → (∀ i, i < 20 → th' i = 0) → RuleOk (fun _ => false) rl' → (∀ i, i < 25 → dc' i = -1) → post cc0 a L' 1 ac' th' rl' 1 1 dc')
    (k0 : ¬ (2 ≤ a.toInt ∧ a.toInt ≤ 3) → post (-3) cc0 L gs ac th rl dh dw dc) : q_X8_colours cc0 L gs ac th rl dh dw dc a post := by
  unfold q_X8_colours
  simp only [fa_lt, fa_le, ti2, ti3]
  exact ⟨fun h => k0 (by omega), fun h => ⟨fun h' => s_beginAnew (k (by omega)), fun h' => k0 (by omega)⟩⟩
theorem l_clearW {n : Int32} {post : Int32 → (Nat → Int32) → (Nat → Int32) → Prop} (k : ∀ ac' th', (∀ i, i < 20 → ac' i = 5) → (∀ i, i < 20 → th' i = 0) → post n ac' th') : ∀ (m i : Nat) (ac th : Nat → Int32), i + m = 20 → (∀ j, j < i → ac j = 5) → (∀ j, j < i → th j = 0) → r_X9_clearWalker_7 post n (m + 1) (nI i) ac th := by
  intro m
  induction m with
  | zero =>
    intro i ac th hi ha ht
    unfold r_X9_clearWalker_7
    exact pk_le 20 i (fun _ => k ac th (fun j hj => ha j (by omega)) (fun j hj => ht j (by omega))) (fun h => absurd h (by omega)) rfl rfl (by omega) (by omega)
  | succ m ih =>
    intro i ac th hi ha ht
    unfold r_X9_clearWalker_7
    refine pk_le 20 i (fun h => absurd h (by omega)) (fun h => ⟨vp_in_nI (by omega) (by decide), vp_in_nI (by omega) (by decide), ?_⟩) rfl rfl (by omega) (by omega)
    rw [nI_1, nI_clamp (by omega)]
    refine ih (i + 1) _ _ (by omega) (fun j hj => ?_) (fun j hj => ?_)
    · by_cases e : j = i
      · subst e; exact pk_us
      · rw [pk_un e]; exact ha j (by omega)
    · by_cases e : j = i
      · subst e; exact pk_us
      · rw [pk_un e]; exact ht j (by omega)
theorem s_clearW {ms n : Int32} {ac th : Nat → Int32} {post : Int32 → (Nat → Int32) → (Nat → Int32) → Prop} (k : ∀ ac' th', (∀ i, i < 20 → ac' i = 5) → (∀ i, i < 20 → th' i = 0) → post n ac' th') : q_X9_clearWalker ms ac th n post :=
  ⟨21, l_clearW k 20 0 ac th (by omega) (fun j hj => absurd hj (by omega)) (fun j hj => absurd hj (by omega))⟩
theorem s_coloursM {mc mh mw ms : Int32} {aw dk L ac th : Nat → Int32} {a : Int32} {post : Int32 → Int32 → Int32 → Int32 → Int32 → (Nat → Int32) → (Nat → Int32) → (Nat → Int32) → (Nat → Int32) → (Nat → Int32) → Prop}
    (k : 2 ≤ a.toInt ∧ a.toInt ≤ 3 → ∀ aw' dk' L' ac' th', (∀ i, i < 256 → aw' i = 0) → (∀ i, i < 25 → dk' i = -1) → (∀ i, i < 3 → L' i = lt0 i) → (∀ i, i < 20 → ac' i = 5) → (∀ i, i < 20 → th' i = 0) → post mc a 1 1 1 aw' dk' L' ac' th')
    (k0 : ¬ (2 ≤ a.toInt ∧ a.toInt ≤ 3) → post (-3) mc mh mw ms aw dk L ac th) : q_X9_colours mc mh mw ms aw dk L ac th a post := by
  unfold q_X9_colours
  refine s_in (fun h => c1 ?_) (fun h => c0 (k0 (by rw [tl2, tl3] at h; omega)))
  rw [tl2, tl3] at h
  have loop2 : ∀ aw', (∀ i, i < 256 → aw' i = 0) → ∀ (m i : Nat) (d : Nat → Int32), i + m = 25 → (∀ j, j < i → d j = -1) → r_X9_colours_61 post (q_X9_colours_80 post) mc a 1 1 ms aw' L ac th (m + 1) (nI i) d := by
    intro aw' haw m
    induction m with
    | zero =>
      intro i d hi hd
      unfold r_X9_colours_61
      refine pk_le 25 i (fun _ => ?_) (fun h => absurd h (by omega)) rfl rfl (by omega) (by omega)
      unfold q_X9_colours_80
      exact s_clearW (fun ac' th' ha ht => k h aw' d _ ac' th' haw (fun j hj => hd j (by omega)) (lt0_upd L) ha ht)
    | succ m ih =>
      intro i d hi hd
      unfold r_X9_colours_61
      refine pk_le 25 i (fun h => absurd h (by omega)) (fun h => ⟨vp_in_nI (by omega) (by decide), ?_⟩) rfl rfl (by omega) (by omega)
      rw [nI_1, nI_clamp (by omega)]
      refine ih (i + 1) _ (by omega) (fun j hj => ?_)
      by_cases e : j = i
      · subst e; exact pk_us
      · rw [pk_un e]; exact hd j (by omega)
  have loop1 : ∀ (m i : Nat) (d : Nat → Int32), i + m = 256 → (∀ j, j < i → d j = 0) → r_X9_colours_29 post (q_X9_colours_49 post) mc a mh mw ms dk L ac th (m + 1) (nI i) d := by
    intro m
    induction m with
    | zero =>
      intro i d hi hd
      unfold r_X9_colours_29
      refine pk_le 256 i (fun _ => ?_) (fun h => absurd h (by omega)) rfl rfl (by omega) (by omega)
      unfold q_X9_colours_49
      exact ⟨26, loop2 d (fun j hj => hd j (by omega)) 25 0 dk (by omega) (fun j hj => absurd hj (by omega))⟩
    | succ m ih =>
      intro i d hi hd
      unfold r_X9_colours_29
      refine pk_le 256 i (fun h => absurd h (by omega)) (fun h => ⟨vp_in_nI (by omega) (by decide), ?_⟩) rfl rfl (by omega) (by omega)
      rw [nI_1, nI_clamp (by omega)]
      refine ih (i + 1) _ (by omega) (fun j hj => ?_)
      by_cases e : j = i
      · subst e; exact pk_us
      · rw [pk_un e]; exact hd j (by omega)
  exact ⟨257, loop1 256 0 aw (by omega) (fun j hj => absurd hj (by omega))⟩
/-! desk -/
theorem s_deskX {dh dw : Int32} {dc : Nat → Int32} {a b : Int32} {post : Int32 → Int32 → Int32 → (Nat → Int32) → Prop} (k : 1 ≤ a.toInt ∧ a.toInt ≤ 5 ∧ 1 ≤ b.toInt ∧ b.toInt ≤ 5 → ∀ dc', (∀ i, i < 25 → dc' i = -1) → post 1 a b dc') (k0 : ¬ (1 ≤ a.toInt ∧ a.toInt ≤ 5 ∧ 1 ≤ b.toInt ∧ b.toInt ≤ 5) → post (-3) dh dw dc) : q_X8_desk dh dw dc a b post := by
  unfold q_X8_desk q_X4_lay
  exact s_isSizeX (fun h => c1 (s_fill (by decide) (fun dc' hd => k h dc' hd))) (fun h => c0 (k0 h))
theorem s_deskM {dh dw : Int32} {dc : Nat → Int32} {a b : Int32} {post : Int32 → Int32 → Int32 → (Nat → Int32) → Prop} (k : 1 ≤ a.toInt ∧ a.toInt ≤ 5 ∧ 1 ≤ b.toInt ∧ b.toInt ≤ 5 → ∀ dc', (∀ i, i < 25 → dc' i = -1) → post 1 a b dc') (k0 : ¬ (1 ≤ a.toInt ∧ a.toInt ≤ 5 ∧ 1 ≤ b.toInt ∧ b.toInt ≤ 5) → post (-3) dh dw dc) : q_X9_desk dh dw dc a b post := by
  unfold q_X9_desk
  refine s_isSizeM (fun h => c1 ?_) (fun h => c0 (k0 h))
  have loop : ∀ (m i : Nat) (d : Nat → Int32), i + m = 25 → (∀ j, j < i → d j = -1) → r_X9_desk_23 post a b (m + 1) (nI i) d := by
    intro m
    induction m with
    | zero =>
      intro i d hi hd
      unfold r_X9_desk_23
      exact pk_le 25 i (fun _ => k h d (fun j hj => hd j (by omega))) (fun h => absurd h (by omega)) rfl rfl (by omega) (by omega)
    | succ m ih =>
      intro i d hi hd
      unfold r_X9_desk_23
      refine pk_le 25 i (fun h => absurd h (by omega)) (fun h => ⟨vp_in_nI (by omega) (by decide), ?_⟩) rfl rfl (by omega) (by omega)
      rw [nI_1, nI_clamp (by omega)]
      refine ih (i + 1) _ (by omega) (fun j hj => ?_)
      by_cases e : j = i
      · subst e; exact pk_us
      · rw [pk_un e]; exact hd j (by omega)
  exact ⟨26, loop 25 0 dc (by omega) (fun j hj => absurd hj (by omega))⟩
/-! cell -/
theorem s_isColour {c : Nat} (hc : c ≤ 3) {a : Int32} {post : Int32 → Prop} (k : 0 ≤ a.toInt ∧ a.toInt < c → post 1) (k0 : ¬ (0 ≤ a.toInt ∧ a.toInt < c) → post 0) : q_X8_isColour (nI c) a post := by
  have e := nI_toInt (n := c) (by omega)
  unfold q_X8_isColour
  simp only [fa_lt, fa_le, ti0, e]
  exact ⟨fun h => k0 (by omega), fun h => ⟨fun h' => k0 (by omega), fun h' => k (by omega)⟩⟩
theorem s_holds {h w : Nat} (hh : h ≤ 5) (hw : w ≤ 5) {a : Int32} {post : Int32 → Prop} (k : 0 ≤ a.toInt ∧ a.toInt < (h * w : Nat) → post 1) (k0 : ¬ (0 ≤ a.toInt ∧ a.toInt < (h * w : Nat)) → post 0) : q_X4_holds (nI h) (nI w) a post := by
  have hN : h * w ≤ 25 := Nat.le_trans (Nat.mul_le_mul hh hw) (by decide)
  have e := nI_toInt (n := h * w) (by omega)
  unfold q_X4_holds q_X4_size
  rw [pk_mul]
  simp only [fa_lt, fa_le, ti0, e]
  exact ⟨fun h => k0 (by omega), fun h => ⟨fun h' => k0 (by omega), fun h' => k (by omega)⟩⟩
theorem s_cellX {c h w : Nat} (hc : c ≤ 3) (hh : h ≤ 5) (hw : w ≤ 5) {f dk : Nat → Int32} (hd : ∀ i, i < 25 → f i = dk i) {a b : Int32} {post : Int32 → (Nat → Int32) → Prop}
    (k : (0 ≤ a.toInt ∧ a.toInt < (h * w : Nat)) ∧ (-1 ≤ b.toInt ∧ b.toInt < c) → ∀ f', (∀ i, i < 25 → f' i = upd dk a.toInt.toNat b i) → post (dk a.toInt.toNat) f')
    (k0 : ¬ ((0 ≤ a.toInt ∧ a.toInt < (h * w : Nat)) ∧ (-1 ≤ b.toInt ∧ b.toInt < c)) → post (-2) f) : q_X8_cell (nI c) (nI h) (nI w) f a b post := by
  have hN : h * w ≤ 25 := Nat.le_trans (Nat.mul_le_mul hh hw) (by decide)
  unfold q_X8_cell
  refine s_holds hh hw (fun ha => b1 ?_) (fun ha => b0 (k0 (fun q => ha q.1)))
  have go : (-1 ≤ b.toInt ∧ b.toInt < c) → q_X8_cell_27 (nI c) (nI h) (nI w) post a b f := by
    intro hb
    unfold q_X8_cell_27
    have hi : vp_in a 25 := in_of ha.1 (by omega)
    refine ⟨hi, hi, ?_⟩
    rw [cl_toNat, hd _ (by omega)]
    refine k ⟨ha, hb⟩ _ (fun i hi2 => ?_)
    unfold upd
    by_cases e : i = a.toInt.toNat
    · rw [if_pos e, if_pos e]
    · rw [if_neg e, if_neg e]; exact hd i hi2
  refine ⟨fun e => go (by rw [e, tim1]; omega), fun e => s_isColour hc (fun hb => c1 (go (by omega))) (fun hb => c0 (k0 (fun q => hb ?_)))⟩
  have : b.toInt ≠ -1 := fun q2 => e ((fa_eq _ _).mpr (by rw [q2, tim1]))
  omega
theorem s_isCellM {h w : Nat} (hh : h ≤ 5) (hw : w ≤ 5) (h1 : 1 ≤ h) (w1 : 1 ≤ w) {a : Int32} {post : Int32 → Prop} (k : 0 ≤ a.toInt ∧ a.toInt < (h * w : Nat) → post 1) (k0 : ¬ (0 ≤ a.toInt ∧ a.toInt < (h * w : Nat)) → post 0) : q_X9_isCell (nI h) (nI w) a post := by
  have hN : h * w ≤ 25 := Nat.le_trans (Nat.mul_le_mul hh hw) (by decide)
  have hp : 0 < h * w := Nat.mul_pos h1 w1
  unfold q_X9_isCell
  rw [pk_mul]
  have e := pred_toInt (k := h * w) (by omega) hp
  refine s_in (fun q => ⟨Or.inr rfl, k (by rw [e, tl0] at q; omega)⟩) (fun q => ⟨Or.inl rfl, k0 (by rw [e, tl0] at q; omega)⟩)
theorem s_cellM {c h w : Nat} (hc : c ≤ 3) (hc1 : 1 ≤ c) (hh : h ≤ 5) (hw : w ≤ 5) (h1 : 1 ≤ h) (w1 : 1 ≤ w) {f dk : Nat → Int32} (hd : ∀ i, i < 25 → f i = dk i) {a b : Int32} {post : Int32 → (Nat → Int32) → Prop}
    (k : (0 ≤ a.toInt ∧ a.toInt < (h * w : Nat)) ∧ (-1 ≤ b.toInt ∧ b.toInt < c) → ∀ f', (∀ i, i < 25 → f' i = upd dk a.toInt.toNat b i) → post (dk a.toInt.toNat) f')
    (k0 : ¬ ((0 ≤ a.toInt ∧ a.toInt < (h * w : Nat)) ∧ (-1 ≤ b.toInt ∧ b.toInt < c)) → post (-2) f) : q_X9_cell (nI c) (nI h) (nI w) f a b post := by
  have hN : h * w ≤ 25 := Nat.le_trans (Nat.mul_le_mul hh hw) (by decide)
  unfold q_X9_cell
  refine s_isCellM hh hw h1 w1 (fun ha => b1 ?_) (fun ha => b0 (k0 (fun q => ha q.1)))
  have e := pred_toInt (k := c) (by omega) hc1
  refine s_in (fun hb => c1 ?_) (fun hb => c0 (k0 (fun q => hb (by rw [e, tlm1]; omega))))
  rw [e, tlm1] at hb
  have hi : vp_in a 25 := in_of ha.1 (by omega)
  refine ⟨hi, hi, ?_⟩
  rw [cl_toNat, hd _ (by omega)]
  refine k ⟨ha, by omega⟩ _ (fun i hi2 => ?_)
  unfold upd
  by_cases e : i = a.toInt.toNat
  · rw [if_pos e, if_pos e]
  · rw [if_neg e, if_neg e]; exact hd i hi2
/-! letter -/
theorem s_letterX {c : Nat} (hc : c ≤ 3) {f lt : Nat → Int32} (hd : ∀ i, i < 3 → f i = lt i) {a b : Int32} {post : Int32 → (Nat → Int32) → Prop}
    (k : (0 ≤ a.toInt ∧ a.toInt < c) ∧ (0 ≤ b.toInt ∧ b.toInt ≤ 1) → ∀ f', (∀ i, i < 3 → f' i = upd lt a.toInt.toNat b i) → post (lt a.toInt.toNat) f')
    (k2 : ¬ (0 ≤ a.toInt ∧ a.toInt < c) → post (-2) f) (k3 : (0 ≤ a.toInt ∧ a.toInt < c) ∧ ¬ (0 ≤ b.toInt ∧ b.toInt ≤ 1) → post (-3) f) : q_X8_letter (nI c) f a b post := by
  unfold q_X8_letter
  refine s_isColour hc (fun ha => c1 ?_) (fun ha => c0 (k2 ha))
  simp only [fa_lt, fa_le, ti0, ti1]
  refine ⟨fun h => k3 ⟨ha, by omega⟩, fun h => ⟨fun h' => ?_, fun h' => k3 ⟨ha, by omega⟩⟩⟩
  have hi : vp_in a 3 := in_of ha.1 (by omega)
  refine ⟨hi, hi, ?_⟩
  rw [cl_toNat, hd _ (by omega)]
  refine k ⟨ha, by omega⟩ _ (fun i hi2 => ?_)
  unfold upd
  by_cases e : i = a.toInt.toNat
  · rw [if_pos e, if_pos e]
  · rw [if_neg e, if_neg e]; exact hd i hi2
theorem s_letterM {c : Nat} (hc : c ≤ 3) (hc1 : 1 ≤ c) {f lt : Nat → Int32} (hd : ∀ i, i < 3 → f i = lt i) {a b : Int32} {post : Int32 → (Nat → Int32) → Prop}
    (k : (0 ≤ a.toInt ∧ a.toInt < c) ∧ (0 ≤ b.toInt ∧ b.toInt ≤ 1) → ∀ f', (∀ i, i < 3 → f' i = upd lt a.toInt.toNat b i) → post (lt a.toInt.toNat) f')
    (k2 : ¬ (0 ≤ a.toInt ∧ a.toInt < c) → post (-2) f) (k3 : (0 ≤ a.toInt ∧ a.toInt < c) ∧ ¬ (0 ≤ b.toInt ∧ b.toInt ≤ 1) → post (-3) f) : q_X9_letter (nI c) f a b post := by
  unfold q_X9_letter
  have e := pred_toInt (k := c) (by omega) hc1
  refine s_in (fun ha => c1 ?_) (fun ha => c0 (k2 (by rw [e, tl0] at ha; omega)))
  rw [e, tl0] at ha
  refine s_in (fun hb => c1 ?_) (fun hb => c0 (k3 ⟨by omega, by rw [tl0, tl1] at hb; exact hb⟩))
  rw [tl0, tl1] at hb
  have hi : vp_in a 3 := in_of ha.1 (by omega)
  refine ⟨hi, hi, ?_⟩
  rw [cl_toNat, hd _ (by omega)]
  refine k ⟨by omega, hb⟩ _ (fun i hi2 => ?_)
  unfold upd
  by_cases e : i = a.toInt.toNat
  · rw [if_pos e, if_pos e]
  · rw [if_neg e, if_neg e]; exact hd i hi2
/-! walker, act -/
theorem s_walkerX {gs : Int32} {ac th : Nat → Int32} {a : Int32} {post : Int32 → Int32 → (Nat → Int32) → (Nat → Int32) → Prop} (k : 1 ≤ a.toInt ∧ a.toInt ≤ 5 → ∀ ac' th', (∀ i, i < 20 → ac' i = 5) → (∀ i, i < 20 → th' i = 0) → post 1 a ac' th') (k0 : ¬ (1 ≤ a.toInt ∧ a.toInt ≤ 5) → post (-3) gs ac th) : q_X8_walker gs ac th a post := by
  unfold q_X8_walker q_X7_become
  simp only [fa_lt, fa_le, ti1, ti5]
  exact ⟨fun h => k0 (by omega), fun h => ⟨fun h' => s_fill (by decide) (fun ac' ha => s_fill (by decide) (fun th' ht => k (by omega) ac' th' ha ht)), fun h' => k0 (by omega)⟩⟩
theorem s_walkerM {gs : Int32} {ac th : Nat → Int32} {a : Int32} {post : Int32 → Int32 → (Nat → Int32) → (Nat → Int32) → Prop} (k : 1 ≤ a.toInt ∧ a.toInt ≤ 5 → ∀ ac' th', (∀ i, i < 20 → ac' i = 5) → (∀ i, i < 20 → th' i = 0) → post 1 a ac' th') (k0 : ¬ (1 ≤ a.toInt ∧ a.toInt ≤ 5) → post (-3) gs ac th) : q_X9_walker gs ac th a post := by
  unfold q_X9_walker
  refine s_in (fun h => c1 ?_) (fun h => c0 (k0 (by rw [tl1, tl5] at h; exact h)))
  rw [tl1, tl5] at h
  exact s_clearW (fun ac' th' ha ht => k h ac' th' ha ht)
theorem s_hasState {n : Nat} (hn : n ≤ 5) {a : Int32} {post : Int32 → Prop} (k : 0 ≤ a.toInt ∧ a.toInt < n → post 1) (k0 : ¬ (0 ≤ a.toInt ∧ a.toInt < n) → post 0) : q_X7_hasState (nI n) a post := by
  have e := nI_toInt (n := n) (by omega)
  unfold q_X7_hasState
  simp only [fa_lt, fa_le, ti0, e]
  exact ⟨fun h => k0 (by omega), fun h => ⟨fun h' => k0 (by omega), fun h' => k (by omega)⟩⟩
theorem s_isState {n : Nat} (hn : n ≤ 5) (h1 : 1 ≤ n) {a : Int32} {post : Int32 → Prop} (k : 0 ≤ a.toInt ∧ a.toInt < n → post 1) (k0 : ¬ (0 ≤ a.toInt ∧ a.toInt < n) → post 0) : q_X9_isState (nI n) a post := by
  unfold q_X9_isState
  have e := pred_toInt (k := n) (by omega) h1
  refine s_in (fun q => ⟨Or.inr rfl, k (by rw [e, tl0] at q; omega)⟩) (fun q => ⟨Or.inl rfl, k0 (by rw [e, tl0] at q; omega)⟩)
theorem upd_range {f g : Nat → Int32} {N p : Nat} {x : Int32} (h : ∀ i, i < N → f i = g i) : ∀ i, i < N → upd f p x i = upd g p x i := by
  intro i hi
  unfold upd
  by_cases e : i = p
  · rw [if_pos e, if_pos e]
  · rw [if_neg e, if_neg e]; exact h i hi
theorem s_actX {n : Nat} (hn : n ≤ 5) {f g ac th : Nat → Int32} (ha : ∀ i, i < 20 → f i = ac i) (ht : ∀ i, i < 20 → g i = th i) {a b x y : Int32} {post : Int32 → (Nat → Int32) → (Nat → Int32) → Prop}
    (k : (0 ≤ a.toInt ∧ a.toInt < n) ∧ (0 ≤ y.toInt ∧ y.toInt < n) ∧ (0 ≤ b.toInt ∧ b.toInt < 4) ∧ (0 ≤ x.toInt ∧ x.toInt ≤ 5) → ∀ f' g', (∀ i, i < 20 → f' i = upd ac (a.toInt.toNat * 4 + b.toInt.toNat) x i) → (∀ i, i < 20 → g' i = upd th (a.toInt.toNat * 4 + b.toInt.toNat) y i) → post 1 f' g')
    (k2 : ¬ ((0 ≤ a.toInt ∧ a.toInt < n) ∧ (0 ≤ y.toInt ∧ y.toInt < n)) → post (-2) f g)
    (k3 : ((0 ≤ a.toInt ∧ a.toInt < n) ∧ (0 ≤ y.toInt ∧ y.toInt < n)) ∧ ¬ ((0 ≤ b.toInt ∧ b.toInt < 4) ∧ (0 ≤ x.toInt ∧ x.toInt ≤ 5)) → post (-3) f g) : q_X8_act (nI n) f g a b x y post := by
  unfold q_X8_act
  refine s_hasState hn (fun h1 => b1 (s_hasState hn (fun h2 => c1 ?_) (fun h2 => c0 (k2 (fun q => h2 q.2))))) (fun h1 => b0 (k2 (fun q => h1 q.1)))
  simp only [fa_lt, fa_le, ti0, ti4, ti5]
  refine ⟨fun h => k3 ⟨⟨h1, h2⟩, by omega⟩, fun h => ⟨fun h' => k3 ⟨⟨h1, h2⟩, by omega⟩, fun h' => ⟨fun h3 => k3 ⟨⟨h1, h2⟩, by omega⟩, fun h3 => ⟨fun h4 => ?_, fun h4 => k3 ⟨⟨h1, h2⟩, by omega⟩⟩⟩⟩⟩
  unfold q_X7_teach
  have ea := nI_of_toInt h1.1
  have eb := nI_of_toInt (a := b) (by omega)
  have ei : a * (4 : Int32) + b = nI (a.toInt.toNat * 4 + b.toInt.toNat) := by
    rw [ea, eb, li_4, pk_mul, nI_add]
    rw [nI_toInt (by omega), nI_toInt (by omega)]
    rfl
  rw [ei]
  have hi : vp_in (nI (a.toInt.toNat * 4 + b.toInt.toNat)) 20 := vp_in_nI (by omega) (by decide)
  refine ⟨hi, hi, ?_⟩
  rw [nI_clamp (by omega)]
  exact k ⟨h1, h2, by omega, by omega⟩ _ _ (upd_range ha) (upd_range ht)
theorem s_actM {n : Nat} (hn : n ≤ 5) (h0 : 1 ≤ n) {f g ac th : Nat → Int32} (ha : ∀ i, i < 20 → f i = ac i) (ht : ∀ i, i < 20 → g i = th i) {a b x y : Int32} {post : Int32 → (Nat → Int32) → (Nat → Int32) → Prop}
    (k : (0 ≤ a.toInt ∧ a.toInt < n) ∧ (0 ≤ y.toInt ∧ y.toInt < n) ∧ (0 ≤ b.toInt ∧ b.toInt < 4) ∧ (0 ≤ x.toInt ∧ x.toInt ≤ 5) → ∀ f' g', (∀ i, i < 20 → f' i = upd ac (a.toInt.toNat * 4 + b.toInt.toNat) x i) → (∀ i, i < 20 → g' i = upd th (a.toInt.toNat * 4 + b.toInt.toNat) y i) → post 1 f' g')
    (k2 : ¬ ((0 ≤ a.toInt ∧ a.toInt < n) ∧ (0 ≤ y.toInt ∧ y.toInt < n)) → post (-2) f g)
    (k3 : ((0 ≤ a.toInt ∧ a.toInt < n) ∧ (0 ≤ y.toInt ∧ y.toInt < n)) ∧ ¬ ((0 ≤ b.toInt ∧ b.toInt < 4) ∧ (0 ≤ x.toInt ∧ x.toInt ≤ 5)) → post (-3) f g) : q_X9_act (nI n) f g a b x y post := by
  unfold q_X9_act
  refine s_isState hn h0 (fun h1 => b1 (s_isState hn h0 (fun h2 => c1 ?_) (fun h2 => c0 (k2 (fun q => h2 q.2))))) (fun h1 => b0 (k2 (fun q => h1 q.1)))
  refine s_in (fun h3 => b1 ?_) (fun h3 => b0 (k3 ⟨⟨h1, h2⟩, by rw [tl0, tl3] at h3; omega⟩))
  rw [tl0, tl3] at h3
  refine s_in (fun h4 => c1 ?_) (fun h4 => c0 (k3 ⟨⟨h1, h2⟩, by rw [tl0, tl5] at h4; omega⟩))
  rw [tl0, tl5] at h4
  have ea := nI_of_toInt h1.1
  have eb := nI_of_toInt (a := b) (by omega)
  have ei : (4 : Int32) * a + b = nI (a.toInt.toNat * 4 + b.toInt.toNat) := by
    rw [ea, eb, li_4, pk_mul, nI_add]
    rw [nI_toInt (by omega), nI_toInt (by omega)]
    congr 1
    omega
  rw [ei]
  have hi : vp_in (nI (a.toInt.toNat * 4 + b.toInt.toNat)) 20 := vp_in_nI (by omega) (by decide)
  refine ⟨hi, hi, ?_⟩
  rw [nI_clamp (by omega)]
  exact k ⟨h1, h2, by omega, by omega⟩ _ _ (upd_range ha) (upd_range ht)
