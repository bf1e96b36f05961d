/-! the reference's walk -/
theorem s_in64 {x : Int32} {lo hi : Int64} {a b : Int} (ha : lo.toInt = a) (hb : hi.toInt = b) {post : Int32 → Prop} (h1 : a ≤ x.toInt ∧ x.toInt ≤ b → post 1) (h0 : ¬ (a ≤ x.toInt ∧ x.toInt ≤ b) → post 0) : q_X9_in (x.toInt64) lo hi post := s_in (fun q => h1 (by rw [ha, hb] at q; exact q)) (fun q => h0 (by rw [ha, hb] at q; exact q))
theorem wide_nI {k : Nat} (h : k < 2 ^ 31) : ((nI k).toInt64).toInt = (k : Int) := by rw [Int32.toInt_toInt64, nI_toInt h]
theorem s_goML {c h w n : Nat} (hc : c ≤ 3) (hh1 : 1 ≤ h) (hh : h ≤ 5) (hw1 : 1 ≤ w) (hw : w ≤ 5) (hn : n ≤ 5) {g : Nat → Int32} {dv : Nat → Nat} (hd : DkOk c (h * w) g dv) {fa ft ac th : Nat → Int32} (ha : ∀ i, i < 20 → fa i = ac i) (ht : ∀ i, i < 20 → ft i = th i) (hA : AcOk n ac th) {post : Int32 → Int32 → Int32 → (Nat → Int32) → Prop} {r : Nat × Nat × Nat × Nat}
    (hr1 : r.1 < 3) (k : ∀ met', post (nI r.1) (nI r.2.1) (nI r.2.2.1) met') : ∀ (m : Nat) (x y : Int32) (X Y q st lo : Nat) (met : Nat → Int32) (V : Nat → Bool), fb_ct V 245 + m = 245 → x.toInt = (X : Int) - 1 → y.toInt = (Y : Int) - 1 → X ≤ w + 1 → Y ≤ h + 1 → q < n → (∀ X' Y' q', X' ≤ w + 1 → Y' ≤ h + 1 → q' < 5 → met (49 * q' + 7 * Y' + X') = bI (V (kX w X' Y' q'))) → wk h w (prt dv h w) (tN ac) (tN th) (m + 1) X Y q st lo V = r → r_X9_go_42 fa ft g post (nI h) (nI w) (m + 2) x y (-1) (nI st) (nI q) met := by
  have hN := hw25 hh hw
  have fin : ∀ (m : Nat) (x y : Int32) (met : Nat → Int32), r_X9_go_42 fa ft g post (nI h) (nI w) (m + 1) x y (nI r.1) (nI r.2.1) (nI r.2.2.1) met := by
    intro m x y met
    unfold r_X9_go_42
    exact ⟨fun _ => k met, fun z => absurd z (m1_ne (by omega))⟩
  have step : ∀ (m : Nat) (x y : Int32) (X Y q st lo : Nat) (met : Nat → Int32) (V : Nat → Bool), fb_ct V 245 + m = 245 → x.toInt = (X : Int) - 1 → y.toInt = (Y : Int) - 1 → X ≤ w + 1 → Y ≤ h + 1 → q < n → (∀ X' Y' q', X' ≤ w + 1 → Y' ≤ h + 1 → q' < 5 → met (49 * q' + 7 * Y' + X') = bI (V (kX w X' Y' q'))) → wk h w (prt dv h w) (tN ac) (tN th) (m + 1) X Y q st lo V = r →
      (∀ (x' y' : Int32) (X' Y' q' lo' : Nat) (met' : Nat → Int32) (V' : Nat → Bool), 0 < m → fb_ct V' 245 + m = 246 → x'.toInt = (X' : Int) - 1 → y'.toInt = (Y' : Int) - 1 → X' ≤ w + 1 → Y' ≤ h + 1 → q' < n → (∀ X' Y' q', X' ≤ w + 1 → Y' ≤ h + 1 → q' < 5 → met' (49 * q' + 7 * Y' + X') = bI (V' (kX w X' Y' q'))) → wk h w (prt dv h w) (tN ac) (tN th) m X' Y' q' (st + 1) lo' V' = r → r_X9_go_42 fa ft g post (nI h) (nI w) (m + 1) x' y' (-1) (nI (st + 1)) (nI q') met') →
      r_X9_go_42 fa ft g post (nI h) (nI w) (m + 2) x y (-1) (nI st) (nI q) met := by
    intro m x y X Y q st lo met V hct hx hy hX hY hq hM hr next
    have hkl := kX_lt (q := q) hh hw hX hY (by omega)
    have hp := prt_lt hc hd Y X
    have hr' : (if V (kX w X Y q) then (2, st, q, lo) else if 4 ≤ tN ac (4 * q + prt dv h w Y X) then (if tN ac (4 * q + prt dv h w Y X) = 4 then 1 else 0, st, q, loN h Y lo) else if okM h w (tN ac (4 * q + prt dv h w Y X)) X Y then wk h w (prt dv h w) (tN ac) (tN th) m (nX (tN ac (4 * q + prt dv h w Y X)) X - 1) (nY (tN ac (4 * q + prt dv h w Y X)) Y - 1) (tN th (4 * q + prt dv h w Y X)) (st + 1) (loN h Y lo) (setX V (kX w X Y q) true) else (0, st + 1, q, loN h Y lo)) = r := hr
    -- what is seen
    have main : ∀ s : Nat, s = prt dv h w Y X → q_X9_go_131 fa ft g (nI h) (nI w) post (r_X9_go_42 fa ft g post (nI h) (nI w) (m + 1)) x y (nI (49 * q + 7 * Y + X)) (nI s) ((4 : Int32) * nI q) (-1) (nI st) (nI q) met := by
      intro s es
      unfold q_X9_go_131
      have ei : (4 : Int32) * nI q + nI s = nI (4 * q + prt dv h w Y X) := by rw [li_4, pk_mul, nI_add, es]
      rw [ei]
      refine ⟨vp_in_nI (by omega) (by decide), ?_⟩
      rw [nI_clamp (show 49 * q + 7 * Y + X < 2 ^ 31 by omega), hM X Y q hX hY (by omega)]
      generalize ej : 4 * q + prt dv h w Y X = j at hr' ⊢
      have hj : j < 20 := by omega
      have inj : vp_in (nI j) 20 := vp_in_nI hj (by decide)
      have in5 : vp_in (nI (49 * q + 7 * Y + X)) 245 := vp_in_nI (by omega) (by decide)
      obtain ⟨⟨e1, e2⟩, e3, e4⟩ := hA j hj
      cases hV : V (kX w X Y q) with
      | true =>
        refine b1 ?_
        rw [hV, if_pos rfl] at hr'
        have := fin m x y met
        rw [← hr'] at this
        exact this
      | false =>
        rw [hV, if_neg (by decide)] at hr'
        refine b0 ⟨inj, ?_⟩
        rw [nI_clamp (by omega), ha j hj, e1]
        generalize ea : tN ac j = a at *
        refine pk_le a 3 (fun h4 => ?_) (fun h4 => ?_) rfl rfl (by omega) (by omega)
        · rw [if_neg (by omega)] at hr'
          refine ⟨in5, inj, ?_⟩
          -- the end of a step
          have last : ∀ (x' y0 d : Int32), x'.toInt = (nX a X : Int) - 2 → (y0 + d).toInt = (nY a Y : Int) - 2 → q_X9_go_260 fa ft g (nI h) (nI w) post (r_X9_go_42 fa ft g post (nI h) (nI w) (m + 1)) x' (nI j) d y0 (-1) (nI st) (nI q) (upd met (49 * q + 7 * Y + X) 1) := by
            intro x' y0 d hx' hy'
            have out : okM h w a X Y = false → r_X9_go_42 fa ft g post (nI h) (nI w) (m + 1) x' (y0 + d) 0 (nI st + (1 : Int32)) (nI q) (upd met (49 * q + 7 * Y + X) 1) := by
              intro z
              rw [z, if_neg (by decide)] at hr'
              have := fin m x' (y0 + d) (upd met (49 * q + 7 * Y + X) 1)
              rw [← hr'] at this
              rw [nI_1]
              exact this
            unfold q_X9_go_260
            refine s_in64 tlm1 (wide_nI (by omega)) (fun z => b1 (s_in64 tlm1 (wide_nI (by omega)) (fun z2 => b1 ⟨inj, ?_⟩) (fun z2 => b0 (out (decide_eq_false (by rw [hy'] at z2; omega)))))) (fun z => b0 (out (decide_eq_false (by rw [hx'] at z; omega))))
            have ho : okM h w a X Y = true := decide_eq_true (by rw [hx'] at z; rw [hy'] at z2; omega)
            have hoo := of_decide_eq_true ho
            rw [ho, if_pos rfl] at hr'
            have hm : 0 < m := by
              apply Classical.byContradiction
              intro zm
              have := fb_ct_all.mp (show fb_ct V 245 = 245 by omega) (kX w X Y q) hkl
              rw [hV] at this; exact absurd this (by decide)
            rw [nI_clamp (by omega), ht j hj, e3, nI_1]
            refine next x' (y0 + d) _ _ _ _ _ _ hm (by rw [ct_set hkl hV]; omega) ?_ ?_ ?_ ?_ e4 (fun X' Y' q' hX' hY' hq' => ?_) hr'
            · rw [hx']; omega
            · rw [hy']; omega
            · omega
            · omega
            · by_cases ek : X' = X ∧ Y' = Y ∧ q' = q
              · obtain ⟨rfl, rfl, rfl⟩ := ek
                rw [upd_s, setX_same]; rfl
              · rw [upd_n _ (by omega), setX_ne _ (fun z => ek (kX_inj hX' hX hq' (by omega) z))]
                exact hM X' Y' q' hX' hY' hq'
          have mid : ∀ d : Int32, (x + d).toInt = (nX a X : Int) - 2 → q_X9_go_225 fa ft g (nI h) (nI w) post (r_X9_go_42 fa ft g post (nI h) (nI w) (m + 1)) y (nI j) d x (-1) (nI st) (nI q) (upd met (49 * q + 7 * Y + X) 1) := by
            intro d hd'
            unfold q_X9_go_225
            rw [nI_clamp (by omega), ha j hj, e1]
            refine ⟨inj, brn (fun z => ⟨inj, brn (fun z2 => last _ _ _ hd' ?_) (fun z2 => last _ _ _ hd' ?_)⟩) (fun z => last _ _ _ hd' ?_)⟩
            · have a1 : a ≠ 1 := fun q => z (by rw [q]; rfl)
              have a3 : a ≠ 3 := fun q => z2 (by rw [q]; rfl)
              unfold nY
              rw [if_neg a1, if_neg a3]; exact add_p0 hy (by omega)
            · have a3 : a = 3 := nI_inj (by omega) (by decide) z2
              have a1 : a ≠ 1 := by omega
              unfold nY
              rw [if_neg a1, if_pos a3]; exact add_m1 hy (by omega)
            · have a1 : a = 1 := nI_inj (by omega) (by decide) z
              unfold nY
              rw [if_pos a1]; exact add_p1 hy (by omega)
          refine brn (fun z => ⟨inj, brn (fun z2 => mid _ ?_) (fun z2 => mid _ ?_)⟩) (fun z => mid _ ?_)
          · have a0 : a ≠ 0 := fun q => z (by rw [q]; rfl)
            have a2 : a ≠ 2 := fun q => z2 (by rw [q]; rfl)
            unfold nX
            rw [if_neg a0, if_neg a2]; exact add_p0 hx (by omega)
          · have a2 : a = 2 := nI_inj (by omega) (by decide) z2
            have a0 : a ≠ 0 := by omega
            unfold nX
            rw [if_neg a0, if_pos a2]; exact add_m1 hx (by omega)
          · have a0 : a = 0 := (nI_zero (by omega)).mp z
            unfold nX
            rw [if_pos a0]; exact add_p1 hx (by omega)
        · rw [if_pos (show 4 ≤ a by omega)] at hr'
          refine ⟨inj, brn (fun z => ?_) (fun z => ?_)⟩
          · have a4 : a ≠ 4 := fun q => z (by rw [q]; rfl)
            rw [if_neg a4] at hr'
            have := fin m x y met
            rw [← hr'] at this
            exact this
          · have a4 : a = 4 := nI_inj (by omega) (by decide) z
            rw [if_pos a4] at hr'
            have := fin m x y met
            rw [← hr'] at this
            exact this
    unfold r_X9_go_42
    refine ⟨fun z => absurd rfl z, fun _ v4 ev => ?_⟩
    have ek : v4 = nI (49 * q + 7 * Y + X) := by
      rw [ev, pl1 hy (by omega), show (49 : Int32) = nI 49 from rfl, show (7 : Int32) = nI 7 from rfl, pk_mul, pk_mul, nI_add, Int32.add_assoc, pl1 hx (by omega), nI_add]
    rw [ek]
    have outside : ¬ (1 ≤ Y ∧ Y ≤ h ∧ 1 ≤ X ∧ X ≤ w) → q_X9_go_103 fa ft g (nI h) (nI w) post (r_X9_go_42 fa ft g post (nI h) (nI w) (m + 1)) x y (nI (49 * q + 7 * Y + X)) 0 (-1) (nI st) (nI q) met := by
      intro z
      unfold q_X9_go_103
      exact b0 (main 3 (by unfold prt; rw [if_neg z]))
    refine s_in64 tl0 (pred_toInt (k := w) (by omega) hw1) (fun z => b1 (s_in64 tl0 (pred_toInt (k := h) (by omega) hh1) (fun z2 => b1 ?_) (fun z2 => b0 (outside (by omega))))) (fun z => b0 (outside (by omega)))
    have hin : 1 ≤ Y ∧ Y ≤ h ∧ 1 ≤ X ∧ X ≤ w := by omega
    have hcl := cell_lt (h := h) (w := w) ⟨hin.1, hin.2.1⟩ ⟨hin.2.2.1, hin.2.2.2⟩
    have ex : x = nI (X - 1) := by
      rw [nI_of_toInt (a := x) (by omega), hx]; congr 1; omega
    have ey : y = nI (Y - 1) := by
      rw [nI_of_toInt (a := y) (by omega), hy]; congr 1; omega
    unfold q_X9_go_103
    refine b1 ?_
    have eidx : nI w * y + x = nI (w * (Y - 1) + (X - 1)) := by rw [ex, ey, pk_mul, nI_add]
    rw [eidx]
    refine ⟨vp_in_nI (by omega) (by decide), ?_⟩
    rw [nI_clamp (by omega), (hd _ hcl).1]
    exact main _ (by unfold prt; rw [if_pos hin])
  intro m
  induction m with
  | zero =>
    intro x y X Y q st lo met V hct hx hy hX hY hq hM hr
    exact step 0 x y X Y q st lo met V hct hx hy hX hY hq hM hr (fun _ _ _ _ _ _ _ _ z => absurd z (by omega))
  | succ m ih =>
    intro x y X Y q st lo met V hct hx hy hX hY hq hM hr
    refine step (m + 1) x y X Y q st lo met V hct hx hy hX hY hq hM hr (fun x' y' X' Y' q' lo' met' V' _ hct' hx' hy' hX' hY' hq' hM' hr' => ?_)
    exact ih x' y' X' Y' q' (st + 1) lo' met' V' (by omega) hx' hy' hX' hY' hq' hM' hr'
theorem wk_lt {h w : Nat} {see : Nat → Nat → Nat} {ac th : Nat → Nat} : ∀ (f X Y q st lo : Nat) (V : Nat → Bool), (wk h w see ac th f X Y q st lo V).1 < 3
  | 0, _, _, _, _, _, _ => (show 2 < 3 by decide)
  | f + 1, X, Y, q, st, lo, V => by
    unfold wk
    split
    · show 2 < 3; decide
    · split
      · show (if ac (4 * q + see Y X) = 4 then 1 else 0) < 3
        split <;> decide
      · split
        · exact wk_lt f _ _ _ _ _ _
        · show 0 < 3; decide
theorem s_goM {c h w n : Nat} (hc : c ≤ 3) (hh1 : 1 ≤ h) (hh : h ≤ 5) (hw1 : 1 ≤ w) (hw : w ≤ 5) (hn1 : 1 ≤ n) (hn : n ≤ 5) {g : Nat → Int32} {dv : Nat → Nat} (hd : DkOk c (h * w) g dv) {fa ft ac th : Nat → Int32} (ha : ∀ i, i < 20 → fa i = ac i) (ht : ∀ i, i < 20 → ft i = th i) (hA : AcOk n ac th) {met : Nat → Int32} {e st q : Int32} {post : Int32 → Int32 → Int32 → (Nat → Int32) → Prop}
    (k : ∀ r : Nat × Nat × Nat × Nat, r = wk h w (prt dv h w) (tN ac) (tN th) 246 1 1 0 0 0 (fun _ => false) → ∀ met', post (nI r.1) (nI r.2.1) (nI r.2.2.1) met') : q_X9_go fa ft g e st q met (nI h) (nI w) post := by
  unfold q_X9_go
  have loop : ∀ (m i : Nat) (g' : Nat → Int32), i + m = 245 → (∀ j, j < i → g' j = 0) → r_X9_go_2 fa ft g post (q_X9_go_22 fa ft g post) (nI h) (nI w) e st q (m + 1) (nI i) g' := by
    intro m
    induction m with
    | zero =>
      intro i g' hi hg
      unfold r_X9_go_2
      refine pk_le 245 i (fun _ => ?_) (fun z => absurd z (by omega)) rfl rfl (by omega) (by omega)
      unfold q_X9_go_22
      refine ⟨247, s_goML hc hh1 hh hw1 hw hn hd ha ht hA (wk_lt _ _ _ _ _ _ _) (k _ rfl) 245 0 0 1 1 0 0 0 g' (fun _ => false) (by rw [fb_ct_zero.mpr (fun _ _ => rfl)]) (by decide) (by decide) (by omega) (by omega) (by omega) (fun X' Y' q' hX' hY' hq' => hg _ (by omega)) rfl⟩
    | succ m ih =>
      intro i g' hi hg
      unfold r_X9_go_2
      refine pk_le 245 i (fun z => absurd z (by omega)) (fun _ => ⟨vp_in_nI (by omega) (by decide), ?_⟩) rfl rfl (by omega) (by omega)
      rw [nI_clamp (by omega), nI_1]
      refine ih (i + 1) _ (by omega) (fun j hj => ?_)
      by_cases ej : j = i
      · rw [ej, upd_s]
      · rw [upd_n _ ej]; exact hg j (by omega)
  exact ⟨246, loop 245 0 met (by omega) (fun j hj => absurd hj (by omega))⟩
/-- walk -/
def walkR (dk ac th : Nat → Int32) (h w : Nat) : Nat × Nat × Nat × Nat := wk h w (prt (dvf dk) h w) (tN ac) (tN th) 246 1 1 0 0 0 (fun _ => false)
def walkA (dk ac th : Nat → Int32) (h w : Nat) (a : Int32) : Int32 := if a = 0 then nI (walkR dk ac th h w).1 else if a = 1 then nI (walkR dk ac th h w).2.1 else nI (walkR dk ac th h w).2.2.1
def isWh (a : Int32) : Prop := 0 ≤ a.toInt ∧ a.toInt ≤ 2
theorem s_walkX {c h w n : Nat} (hc : c ≤ 3) (hh1 : 1 ≤ h) (hh : h ≤ 5) (hw : w ≤ 5) (hn1 : 1 ≤ n) (hn : n ≤ 5) {f dk : Nat → Int32} (hf : ∀ i, i < 25 → f i = dk i) (hD : DeskOk c dk) {fa ft ac th : Nat → Int32} (ha : ∀ i, i < 20 → fa i = ac i) (ht : ∀ i, i < 20 → ft i = th i) (hA : AcOk n ac th) {W : Nat} (hW : W + 1 < 2 ^ 31) {bn : Nat → Int32} (hb : ∀ j, j < 245 → ∃ v, v ≤ W ∧ bn j = nI v) {x y e st q lo l1 : Int32} {post : Int32 → Int32 → Int32 → Int32 → Int32 → Int32 → Int32 → Int32 → (Nat → Int32) → Prop}
    (k : isWh l1 → gapsN dk (h * w) = 0 → ∀ x' y' e' st' q' lo' bn', (∀ j, j < 245 → ∃ v, v ≤ W + 1 ∧ bn' j = nI v) → post (walkA dk ac th h w l1) (nI (W + 1)) x' y' e' st' q' lo' bn') (k4 : isWh l1 → 0 < gapsN dk (h * w) → post (-4) (nI W) x y e st q lo bn) (k3 : ¬ isWh l1 → post (-3) (nI W) x y e st q lo bn) : q_X8_walk fa ft (nI h) (nI w) f (nI W) x y e st q lo bn l1 post := by
  have hN := hw25 hh hw
  have hg25 : gapsN dk (h * w) ≤ 25 := Nat.le_trans (gapsN_le _ _) hN
  unfold q_X8_walk
  refine ⟨fun z => k3 (by unfold isWh; rw [fa_lt, ti0] at z; omega), fun z => ⟨fun z2 => ?_, fun z2 => k3 (by unfold isWh; rw [fa_le, ti2] at z2; omega)⟩⟩
  have hwh : isWh l1 := by unfold isWh; rw [fa_lt, ti0] at z; rw [fa_le, ti2] at z2; omega
  refine s_gapsX hh hw hf (pk_le (gapsN dk (h * w)) 0 (fun q0 => ?_) (fun q0 => k4 hwh q0) rfl rfl (by omega) (by omega))
  have hg : gapsN dk (h * w) = 0 := by omega
  have hd := dv_of hc hD hN hg
  refine s_go hc hh1 hh hw hn1 hn hf hd ha ht hA hW hb (fun r er x' y' bn' hb' => ?_)
  have kk := k hwh hg x' y' (nI r.1) (nI r.2.1) (nI r.2.2.1) (nI r.2.2.2) bn' hb'
  unfold walkA walkR at kk
  rw [← er] at kk
  refine brn (fun y0 => brn (fun y1 => ?_) (fun y1 => ?_)) (fun y0 => ?_)
  · rw [if_neg y0, if_neg y1] at kk; exact kk
  · rw [if_neg y0, if_pos y1] at kk; exact kk
  · rw [if_pos y0] at kk; exact kk
theorem s_walkM {c h w n : Nat} (hc : c ≤ 3) (hh1 : 1 ≤ h) (hh : h ≤ 5) (hw1 : 1 ≤ w) (hw : w ≤ 5) (hn1 : 1 ≤ n) (hn : n ≤ 5) {f dk : Nat → Int32} (hf : ∀ i, i < 25 → f i = dk i) (hD : DeskOk c dk) {fa ft ac th : Nat → Int32} (ha : ∀ i, i < 20 → fa i = ac i) (ht : ∀ i, i < 20 → ft i = th i) (hA : AcOk n ac th) {gr met : Nat → Int32} {e st q l1 : Int32} {post : Int32 → Int32 → Int32 → Int32 → (Nat → Int32) → (Nat → Int32) → Prop}
    (k : isWh l1 → gapsN dk (h * w) = 0 → ∀ e' st' q' gr' met', post (walkA dk ac th h w l1) e' st' q' gr' met') (k4 : isWh l1 → 0 < gapsN dk (h * w) → post (-4) e st q gr met) (k3 : ¬ isWh l1 → post (-3) e st q gr met) : q_X9_walk (nI h) (nI w) f fa ft e st q gr met l1 post := by
  have hN := hw25 hh hw
  have hg25 : gapsN dk (h * w) ≤ 25 := Nat.le_trans (gapsN_le _ _) hN
  unfold q_X9_walk
  refine s_in64 tl0 tl2 (fun hwh => c1 ?_) (fun z => c0 (k3 z))
  refine s_gapsM hh hw hf (pk_le (gapsN dk (h * w)) 0 (fun q0 => ?_) (fun q0 => k4 hwh q0) rfl rfl (by omega) (by omega))
  have hg : gapsN dk (h * w) = 0 := by omega
  have hd := dv_of hc hD hN hg
  have loop : ∀ (m i : Nat) (g : Nat → Int32), i + m = h * w → (∀ j, j < i → g j = dk j) → r_X9_walk_27 (nI h) (nI w) f fa ft post (q_X9_walk_58 (nI h) (nI w) f fa ft post) l1 e st q met (m + 1) (nI i) g := by
    intro m
    induction m with
    | zero =>
      intro i g hi hg'
      unfold r_X9_walk_27
      rw [pk_mul]
      refine pk_le (h * w) i (fun _ => ?_) (fun z => absurd z (by omega)) rfl rfl (by omega) (by omega)
      unfold q_X9_walk_58
      have hdg : DkOk c (h * w) g (dvf dk) := fun j hj => by rw [hg' j (by omega)]; exact hd j hj
      refine s_goM hc hh1 hh hw1 hw hn1 hn hdg ha ht hA (fun r er met' => ?_)
      have kk := k hwh hg (nI r.1) (nI r.2.1) (nI r.2.2.1) g met'
      unfold walkA walkR at kk
      rw [← er] at kk
      refine brn (fun y0 => brn (fun y1 => ?_) (fun y1 => ?_)) (fun y0 => ?_)
      · rw [if_neg y0, if_neg y1] at kk; exact kk
      · rw [if_neg y0, if_pos y1] at kk; exact kk
      · rw [if_pos y0] at kk; exact kk
    | succ m ih =>
      intro i g hi hg'
      unfold r_X9_walk_27
      rw [pk_mul]
      refine pk_le (h * w) i (fun z => absurd z (by omega)) (fun _ => ⟨vp_in_nI (by omega) (by decide), vp_in_nI (by omega) (by decide), ?_⟩) rfl rfl (by omega) (by omega)
      rw [nI_clamp (by omega), nI_1, hf i (by omega)]
      refine ih (i + 1) _ (by omega) (fun j hj => ?_)
      by_cases ej : j = i
      · rw [ej, upd_s]
      · rw [upd_n _ ej]; exact hg' j (by omega)
  exact ⟨h * w + 1, loop (h * w) 0 gr (by omega) (fun j hj => absurd hj (by omega))⟩
