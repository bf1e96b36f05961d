/-! walkers -/
def kX (w X Y q : Nat) : Nat := (Y * (w + 2) + X) * 5 + q
def nX (a X : Nat) : Nat := if a = 0 then X + 2 else if a = 2 then X else X + 1
def nY (a Y : Nat) : Nat := if a = 1 then Y + 2 else if a = 3 then Y else Y + 1
def okM (h w a X Y : Nat) : Bool := decide (1 ≤ nX a X ∧ nX a X ≤ w + 2 ∧ 1 ≤ nY a Y ∧ nY a Y ≤ h + 2)
def loN (h Y lo : Nat) : Nat := if lo + 1 < Y ∧ Y ≤ h then Y - 1 else lo
def wk (h w : Nat) (see : Nat → Nat → Nat) (ac th : Nat → Nat) : Nat → Nat → Nat → Nat → Nat → Nat → (Nat → Bool) → Nat × Nat × Nat × Nat
  | 0, _, _, q, st, lo, _ => (2, st, q, lo)
  | f + 1, X, Y, q, st, lo, V =>
    if V (kX w X Y q) then (2, st, q, lo)
    else if 4 ≤ ac (4 * q + see Y X) then (if ac (4 * q + see Y X) = 4 then 1 else 0, st, q, loN h Y lo)
    else if okM h w (ac (4 * q + see Y X)) X Y then wk h w see ac th f (nX (ac (4 * q + see Y X)) X - 1) (nY (ac (4 * q + see Y X)) Y - 1) (th (4 * q + see Y X)) (st + 1) (loN h Y lo) (setX V (kX w X Y q) true)
    else (0, st + 1, q, loN h Y lo)
def tN (f : Nat → Int32) (i : Nat) : Nat := (f i).toNatClampNeg
def AcOk (n : Nat) (ac th : Nat → Int32) : Prop := ∀ i, i < 20 → (ac i = nI (tN ac i) ∧ tN ac i ≤ 5) ∧ th i = nI (tN th i) ∧ tN th i < n
theorem pl1 {y : Int32} {Y : Nat} (h : y.toInt = (Y : Int) - 1) (hY : Y < 2 ^ 30) : y + (1 : Int32) = nI Y := by
  apply (fa_eq _ _).mpr
  rw [fb_addI (by rw [ti1]; omega) (by rw [ti1]; omega), ti1, nI_toInt (by omega)]
  omega
theorem kX_lt {h w X Y q : Nat} (hh : h ≤ 5) (hw : w ≤ 5) (hX : X ≤ w + 1) (hY : Y ≤ h + 1) (hq : q < 5) : kX w X Y q < 245 := by
  have : Y * (w + 2) ≤ 6 * 7 := Nat.mul_le_mul (by omega) (by omega)
  unfold kX
  omega
theorem kX_inj {w X Y q X' Y' q' : Nat} (hX : X ≤ w + 1) (hX' : X' ≤ w + 1) (hq : q < 5) (hq' : q' < 5) (e : kX w X Y q = kX w X' Y' q') : X = X' ∧ Y = Y' ∧ q = q' := by
  obtain ⟨e1, e2⟩ := ix_inj (n := 5) hq hq' e
  obtain ⟨e3, e4⟩ := ix_inj (n := w + 2) (by omega) (by omega) e1
  exact ⟨e4, e3, e2⟩
theorem loN_lt {h Y lo : Nat} (h1 : 1 ≤ h) (hl : lo < h) : loN h Y lo < h := by unfold loN; split <;> omega
theorem loN_ge {h Y lo : Nat} : lo ≤ loN h Y lo := by unfold loN; split <;> omega
theorem loN_row {h Y lo : Nat} (hY : Y ≤ h) : Y ≤ loN h Y lo + 1 := by unfold loN; split <;> omega
theorem add_m1 {x : Int32} {X : Nat} (h : x.toInt = (X : Int) - 1) (hX : X ≤ 100) : (x + (-1 : Int32)).toInt = (X : Int) - 2 := by
  rw [fb_addI (by rw [tim1]; omega) (by rw [tim1]; omega), tim1]; omega
theorem add_p1 {x : Int32} {X : Nat} (h : x.toInt = (X : Int) - 1) (hX : X ≤ 100) : (x + (1 : Int32)).toInt = ((X + 2 : Nat) : Int) - 2 := by
  rw [fb_addI (by rw [ti1]; omega) (by rw [ti1]; omega), ti1]; omega
theorem add_p0 {x : Int32} {X : Nat} (h : x.toInt = (X : Int) - 1) (hX : X ≤ 100) : (x + (0 : Int32)).toInt = ((X + 1 : Nat) : Int) - 2 := by
  rw [fb_addI (by rw [ti0]; omega) (by rw [ti0]; omega), ti0]; omega
theorem s_moves {c h w n : Nat} (hc : c ≤ 3) (hh : h ≤ 5) (hw : w ≤ 5) (hn : n ≤ 5) {f dk : Nat → Int32} {dv : Nat → Nat} (hf : ∀ i, i < 25 → f i = dk i) (hd : DkOk c (h * w) dk dv) {fa ft ac th : Nat → Int32} (ha : ∀ i, i < 20 → fa i = ac i) (ht : ∀ i, i < 20 → ft i = th i) (hA : AcOk n ac th) {x y e : Int32} {X Y q st lo : Nat} (hx : x.toInt = (X : Int) - 1) (hy : y.toInt = (Y : Int) - 1) (hX : X ≤ w + 1) (hY : Y ≤ h + 1) (hq : q < n) (hlo : lo < 5) {post : Int32 → Int32 → Int32 → Int32 → Int32 → Int32 → Int32 → Prop}
    (kend : 4 ≤ tN ac (4 * q + prt dv h w Y X) → post 0 x y (nI (if tN ac (4 * q + prt dv h w Y X) = 4 then 1 else 0)) (nI st) (nI q) (nI (loN h Y lo)))
    (kout : ¬ 4 ≤ tN ac (4 * q + prt dv h w Y X) → okM h w (tN ac (4 * q + prt dv h w Y X)) X Y = false → ∀ x' y', post 0 x' y' 0 (nI (st + 1)) (nI q) (nI (loN h Y lo)))
    (kgo : ¬ 4 ≤ tN ac (4 * q + prt dv h w Y X) → okM h w (tN ac (4 * q + prt dv h w Y X)) X Y = true → ∀ x' y', x'.toInt = (nX (tN ac (4 * q + prt dv h w Y X)) X : Int) - 2 → y'.toInt = (nY (tN ac (4 * q + prt dv h w Y X)) Y : Int) - 2 → post 1 x' y' e (nI (st + 1)) (nI (tN th (4 * q + prt dv h w Y X))) (nI (loN h Y lo))) : q_X7_moves fa ft (nI h) (nI w) f x y e (nI st) (nI q) (nI lo) post := by
  have hp := prt_lt hc hd Y X
  have go : q_X7_moves_30 fa ft (nI h) (nI w) f post x y e (nI st) (nI q) (nI (loN h Y lo)) := by
    unfold q_X7_moves_30
    refine s_at hc hh hw hf hd hy hx ?_
    rw [and3N (by omega), Nat.mod_eq_of_lt hp]
    have ei : nI q * (4 : Int32) + nI (prt dv h w Y X) = nI (4 * q + prt dv h w Y X) := by rw [li_4, pk_mul, nI_add, Nat.mul_comm]
    rw [ei]
    generalize ej : 4 * q + prt dv h w Y X = j at kend kout kgo ⊢
    have hj : j < 20 := by omega
    refine ⟨vp_in_nI hj (by decide), fun v ev => ?_⟩
    obtain ⟨⟨e1, e2⟩, e3, e4⟩ := hA j hj
    rw [nI_clamp (by omega), ha j hj, e1] at ev
    generalize ea : tN ac j = a at *
    -- the end of a step
    have fin : ∀ (x' y0 d : Int32), x'.toInt = (nX a X : Int) - 2 → (y0 + d).toInt = (nY a Y : Int) - 2 → ¬ 4 ≤ a → q_X7_moves_141 fa ft (nI h) (nI w) f post (nI j) d y0 x' y e (nI (st + 1)) (nI q) (nI (loN h Y lo)) := by
      intro x' y0 d hx' hy' h4
      have ew := nI_toInt (n := w) (by omega)
      have eh := nI_toInt (n := h) (by omega)
      have out : okM h w a X Y = false → post 0 x' (y0 + d) 0 (nI (st + 1)) (nI q) (nI (loN h Y lo)) := fun z => kout h4 z _ _
      unfold q_X7_moves_141
      simp only [fa_lt, fa_le, tim1, ew, eh, hx', hy']
      refine ⟨fun z => out (decide_eq_false (by omega)), fun z => ⟨fun z1 => out (decide_eq_false (by omega)), fun z1 => ⟨fun z2 => out (decide_eq_false (by omega)), fun z2 => ⟨fun z3 => ⟨vp_in_nI hj (by decide), ?_⟩, fun z3 => out (decide_eq_false (by omega))⟩⟩⟩⟩
      rw [nI_clamp (by omega), ht j hj, e3]
      exact kgo h4 (decide_eq_true (by omega)) _ _ hx' hy'
    have mid : ∀ d : Int32, (x + d).toInt = (nX a X : Int) - 2 → ¬ 4 ≤ a → q_X7_moves_113 fa ft (nI h) (nI w) f post (nI j) v d x x y e (nI (st + 1)) (nI q) (nI (loN h Y lo)) := by
      intro d hd' h4
      unfold q_X7_moves_113
      rw [ev]
      refine brn (fun z => brn (fun z2 => fin _ _ _ hd' ?_ h4) (fun z2 => fin _ _ _ hd' ?_ h4)) (fun z => fin _ _ _ hd' ?_ h4)
      · have a1 : a ≠ 1 := fun q => z (by rw [q]; rfl)
        have a3 : a ≠ 3 := fun q => z2 (by rw [q]; rfl)
        unfold nY
        rw [if_neg a1, if_neg a3]; exact add_p0 hy (by omega)
      · have a3 : a = 3 := nI_inj (by omega) (by decide) z2
        have a1 : a ≠ 1 := by omega
        unfold nY
        rw [if_neg a1, if_pos a3]; exact add_m1 hy (by omega)
      · have a1 : a = 1 := nI_inj (by omega) (by decide) z
        unfold nY
        rw [if_pos a1]; exact add_p1 hy (by omega)
    rw [ev] at mid ⊢
    refine pk_lt a 4 (fun h4 => ?_) (fun h4 => ?_) rfl rfl (by omega) (by omega)
    · rw [nI_1]
      refine brn (fun z => brn (fun z2 => mid _ ?_ (by omega)) (fun z2 => mid _ ?_ (by omega))) (fun z => mid _ ?_ (by omega))
      · have a0 : a ≠ 0 := fun q => z (by rw [q]; rfl)
        have a2 : a ≠ 2 := fun q => z2 (by rw [q]; rfl)
        unfold nX
        rw [if_neg a0, if_neg a2]; exact add_p0 hx (by omega)
      · have a2 : a = 2 := nI_inj (by omega) (by decide) z2
        have a0 : a ≠ 0 := by omega
        unfold nX
        rw [if_neg a0, if_pos a2]; exact add_m1 hx (by omega)
      · have a0 : a = 0 := (nI_zero (by omega)).mp z
        unfold nX
        rw [if_pos a0]; exact add_p1 hx (by omega)
    · have kk := kend h4
      refine brn (fun z => ?_) (fun z => ?_)
      · have a4 : a ≠ 4 := fun q => z (by rw [q]; rfl)
        rw [if_neg a4] at kk; exact kk
      · have a4 : a = 4 := nI_inj (by omega) (by decide) z
        rw [if_pos a4] at kk; exact kk
  unfold q_X7_moves
  have el := nI_toInt (n := lo) (by omega)
  have eh := nI_toInt (n := h) (by omega)
  simp only [fa_le, hy, el, eh]
  refine ⟨fun z => ?_, fun z => ⟨fun z2 => ?_, fun z2 => ?_⟩⟩
  · have : loN h Y lo = lo := if_neg (by omega)
    rw [this] at go; exact go
  · have : loN h Y lo = lo := if_neg (by omega)
    rw [this] at go; exact go
  · have e1 : loN h Y lo = Y - 1 := if_pos (by omega)
    have e2 : y = nI (Y - 1) := by
      rw [nI_of_toInt (a := y) (by omega), hy]
      congr 1
      omega
    rw [e1] at go
    rw [← e2] at go
    exact go
theorem s_goL {c h w n : Nat} (hc : c ≤ 3) (hh1 : 1 ≤ h) (hh : h ≤ 5) (hw : w ≤ 5) (hn : n ≤ 5) {f dk : Nat → Int32} {dv : Nat → Nat} (hf : ∀ i, i < 25 → f i = dk i) (hd : DkOk c (h * w) dk dv) {fa ft ac th : Nat → Int32} (ha : ∀ i, i < 20 → fa i = ac i) (ht : ∀ i, i < 20 → ft i = th i) (hA : AcOk n ac th) {W : Nat} (hW : W < 2 ^ 31) {post : Int32 → Int32 → Int32 → Int32 → Int32 → Int32 → Int32 → (Nat → Int32) → Prop} {r : Nat × Nat × Nat × Nat}
    (k : ∀ x' y' bn', (∀ j, j < 245 → ∃ v, v ≤ W ∧ bn' j = nI v) → post (nI W) x' y' (nI r.1) (nI r.2.1) (nI r.2.2.1) (nI r.2.2.2) bn') : ∀ (m i : Nat) (x y e : Int32) (X Y q st lo : Nat) (bn : Nat → Int32) (V : Nat → Bool), i + m = 245 → x.toInt = (X : Int) - 1 → y.toInt = (Y : Int) - 1 → X ≤ w + 1 → Y ≤ h + 1 → q < n → lo < h → (∀ j, j < 245 → ∃ v, v ≤ W ∧ bn j = nI v) → (∀ j, j < 245 → (bn j = nI W ↔ V j = true)) → fb_ct V 245 = i → wk h w (prt dv h w) (tN ac) (tN th) (m + 1) X Y q st lo V = r → r_X7_go_39 fa ft (nI h) (nI w) f post (nI W) (m + 2) 1 (nI i) x y e (nI st) (nI q) (nI lo) bn := by
  -- a loop that ends
  have fin : ∀ (m i : Nat) (x y : Int32) (bn : Nat → Int32), (∀ j, j < 245 → ∃ v, v ≤ W ∧ bn j = nI v) → r_X7_go_39 fa ft (nI h) (nI w) f post (nI W) (m + 1) 0 (nI i) x y (nI r.1) (nI r.2.1) (nI r.2.2.1) (nI r.2.2.2) bn := by
    intro m i x y bn hb
    unfold r_X7_go_39
    exact ⟨fun _ => k _ _ _ hb, fun _ => b0 (k _ _ _ hb)⟩
  have step : ∀ (m i : Nat) (x y e : Int32) (X Y q st lo : Nat) (bn : Nat → Int32) (V : Nat → Bool), i + m = 245 → x.toInt = (X : Int) - 1 → y.toInt = (Y : Int) - 1 → X ≤ w + 1 → Y ≤ h + 1 → q < n → lo < h → (∀ j, j < 245 → ∃ v, v ≤ W ∧ bn j = nI v) → (∀ j, j < 245 → (bn j = nI W ↔ V j = true)) → fb_ct V 245 = i → wk h w (prt dv h w) (tN ac) (tN th) (m + 1) X Y q st lo V = r →
      (∀ (x' y' : Int32) (X' Y' q' lo' : Nat) (bn' : Nat → Int32) (V' : Nat → Bool), 0 < m → x'.toInt = (X' : Int) - 1 → y'.toInt = (Y' : Int) - 1 → X' ≤ w + 1 → Y' ≤ h + 1 → q' < n → lo' < h → (∀ j, j < 245 → ∃ v, v ≤ W ∧ bn' j = nI v) → (∀ j, j < 245 → (bn' j = nI W ↔ V' j = true)) → fb_ct V' 245 = i + 1 → wk h w (prt dv h w) (tN ac) (tN th) m X' Y' q' (st + 1) lo' V' = r → r_X7_go_39 fa ft (nI h) (nI w) f post (nI W) (m + 1) 1 (nI (i + 1)) x' y' e (nI (st + 1)) (nI q') (nI lo') bn') →
      r_X7_go_39 fa ft (nI h) (nI w) f post (nI W) (m + 2) 1 (nI i) x y e (nI st) (nI q) (nI lo) bn := by
    intro m i x y e X Y q st lo bn V hi hx hy hX hY hq hlo hb hV hct hr next
    have hkl := kX_lt (q := q) hh hw hX hY (by omega)
    unfold r_X7_go_39
    refine pk_lt 245 i (fun z => absurd z (by omega)) (fun _ => b1 ?_) rfl rfl (by omega) (by omega)
    unfold q_X7_isNewHere
    intro v1 e1
    have ev : v1 * (5 : Int32) + nI q = nI (kX w X Y q) := by
      rw [e1, pl1 hy (by omega), show (2 : Int32) = nI 2 from rfl, nI_add, pk_mul, Int32.add_assoc, pl1 hx (by omega), nI_add, show (5 : Int32) = nI 5 from rfl, pk_mul, nI_add]
      rfl
    rw [ev, nI_clamp (by omega)]
    have hr' : (if V (kX w X Y q) then (2, st, q, lo) else if 4 ≤ tN ac (4 * q + prt dv h w Y X) then (if tN ac (4 * q + prt dv h w Y X) = 4 then 1 else 0, st, q, loN h Y lo) else if okM h w (tN ac (4 * q + prt dv h w Y X)) X Y then wk h w (prt dv h w) (tN ac) (tN th) m (nX (tN ac (4 * q + prt dv h w Y X)) X - 1) (nY (tN ac (4 * q + prt dv h w Y X)) Y - 1) (tN th (4 * q + prt dv h w Y X)) (st + 1) (loN h Y lo) (setX V (kX w X Y q) true) else (0, st + 1, q, loN h Y lo)) = r := hr
    refine ⟨vp_in_nI hkl (by decide), brn (fun z => ⟨vp_in_nI hkl (by decide), b1 ?_⟩) (fun z => b0 ?_)⟩
    · have hVf : V (kX w X Y q) = false := by
        cases hh' : V (kX w X Y q) with
        | false => rfl
        | true => exact absurd ((hV _ hkl).mpr hh') z
      rw [hVf, if_neg (by decide)] at hr'
      have hb2 : ∀ j, j < 245 → ∃ v, v ≤ W ∧ upd bn (kX w X Y q) (nI W) j = nI v := fun j hj => by
        by_cases ej : j = kX w X Y q
        · exact ⟨W, Nat.le_refl _, by rw [ej, upd_s]⟩
        · rw [upd_n _ ej]; exact hb j hj
      rw [nI_1]
      refine s_moves hc hh hw hn hf hd ha ht hA hx hy hX hY hq (by omega) (fun h4 => b0 ?_) (fun h4 ho x' y' => b0 ?_) (fun h4 ho x' y' hx' hy' => b1 ?_)
      · rw [if_pos h4] at hr'
        have := fin m (i + 1) x y _ hb2
        rw [← hr'] at this
        exact this
      · rw [if_neg h4, ho, if_neg (by decide)] at hr'
        have := fin m (i + 1) x' y' _ hb2
        rw [← hr'] at this
        exact this
      · rw [if_neg h4, ho, if_pos rfl] at hr'
        have hm : 0 < m := by
          apply Classical.byContradiction
          intro zm
          have := fb_ct_all.mp (show fb_ct V 245 = 245 by omega) (kX w X Y q) hkl
          rw [hVf] at this; exact absurd this (by decide)
        have hoo := of_decide_eq_true ho
        have hp := prt_lt hc hd Y X
        refine next x' y' _ _ _ _ _ _ hm ?_ ?_ ?_ ?_ (hA _ (by omega)).2.2 (loN_lt hh1 hlo) hb2 (fun j hj => ?_) (by rw [ct_set hkl hVf, hct]) hr'
        · rw [hx']; omega
        · rw [hy']; omega
        · omega
        · omega
        · by_cases ej : j = kX w X Y q
          · rw [ej, upd_s, setX_same]; exact ⟨fun _ => rfl, fun _ => rfl⟩
          · rw [upd_n _ ej, setX_ne _ ej]; exact hV j hj
    · rw [(hV _ hkl).mp z, if_pos rfl] at hr'
      have := fin m (i + 1) x y bn hb
      rw [← hr'] at this
      rw [nI_1]
      exact this
  intro m
  induction m with
  | zero =>
    intro i x y e X Y q st lo bn V hi hx hy hX hY hq hlo hb hV hct hr
    exact step 0 i x y e X Y q st lo bn V hi hx hy hX hY hq hlo hb hV hct hr (fun _ _ _ _ _ _ _ _ z => absurd z (by omega))
  | succ m ih =>
    intro i x y e X Y q st lo bn V hi hx hy hX hY hq hlo hb hV hct hr
    refine step (m + 1) i x y e X Y q st lo bn V hi hx hy hX hY hq hlo hb hV hct hr (fun x' y' X' Y' q' lo' bn' V' _ hx' hy' hX' hY' hq' hlo' hb' hV' hct' hr' => ?_)
    exact ih (i + 1) x' y' e X' Y' q' (st + 1) lo' bn' V' (by omega) hx' hy' hX' hY' hq' hlo' hb' hV' hct' hr'
theorem s_go {c h w n : Nat} (hc : c ≤ 3) (hh1 : 1 ≤ h) (hh : h ≤ 5) (hw : w ≤ 5) (hn1 : 1 ≤ n) (hn : n ≤ 5) {f dk : Nat → Int32} {dv : Nat → Nat} (hf : ∀ i, i < 25 → f i = dk i) (hd : DkOk c (h * w) dk dv) {fa ft ac th : Nat → Int32} (ha : ∀ i, i < 20 → fa i = ac i) (ht : ∀ i, i < 20 → ft i = th i) (hA : AcOk n ac th) {W : Nat} (hW : W + 1 < 2 ^ 31) {bn : Nat → Int32} (hb : ∀ j, j < 245 → ∃ v, v ≤ W ∧ bn j = nI v) {x y e st q lo : Int32} {post : Int32 → Int32 → Int32 → Int32 → Int32 → Int32 → Int32 → (Nat → Int32) → Prop}
    (k : ∀ r : Nat × Nat × Nat × Nat, r = wk h w (prt dv h w) (tN ac) (tN th) 246 1 1 0 0 0 (fun _ => false) → ∀ x' y' bn', (∀ j, j < 245 → ∃ v, v ≤ W + 1 ∧ bn' j = nI v) → post (nI (W + 1)) x' y' (nI r.1) (nI r.2.1) (nI r.2.2.1) (nI r.2.2.2) bn') : q_X7_go fa ft (nI h) (nI w) f (nI W) x y e st q lo bn post := by
  unfold q_X7_go
  rw [nI_1]
  refine ⟨247, s_goL hc hh1 hh hw hn hf hd ha ht hA hW (k _ rfl) 245 0 0 0 e 1 1 0 0 0 bn (fun _ => false) (by omega) (by decide) (by decide) (by omega) (by omega) (by omega) (by omega) (fun j hj => ?_) (fun j hj => ?_) (fb_ct_zero.mpr (fun _ _ => rfl)) rfl⟩
  · obtain ⟨v, h1, h2⟩ := hb j hj
    exact ⟨v, by omega, h2⟩
  · obtain ⟨v, h1, h2⟩ := hb j hj
    rw [h2]
    refine ⟨fun z => ?_, fun z => absurd z (by decide)⟩
    have := nI_inj (by omega) (by omega) z
    omega
