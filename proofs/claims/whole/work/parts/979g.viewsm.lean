/-! the reference's views -/
def SeenOk (R A W : Nat) (F : Nat → Nat → Bool) (T : Nat → Bool) (lk : Nat → Nat) (y : Nat) (seen : Nat → Int32) : Prop := ∀ a m, a < R → m < A → seen (A * a + m) = bI (Sn R W F T lk y m a)
theorem place_lt {R A a m : Nat} (ha : a < R) (hm : m < A) : A * a + m < R * A := by
  have h1 : (a + 1) * A ≤ R * A := Nat.mul_le_mul_right A ha
  rw [Nat.succ_mul, Nat.mul_comm] at h1
  omega
theorem place_ne {A a m b n : Nat} (hm : m < A) (hn : n < A) (h : ¬ (a = b ∧ m = n)) : A * a + m ≠ A * b + n := by
  intro z
  have hA : 0 < A := by omega
  have e1 : (A * a + m) / A = a := by rw [Nat.mul_add_div hA, Nat.div_eq_of_lt hm, Nat.add_zero]
  have e2 : (A * b + n) / A = b := by rw [Nat.mul_add_div hA, Nat.div_eq_of_lt hn, Nat.add_zero]
  have e : a = b := by rw [← e1, ← e2, z]
  subst e
  exact h ⟨rfl, by omega⟩
theorem place_of {R A k : Nat} (hA : 0 < A) (hk : k < R * A) : ∃ a m, a < R ∧ m < A ∧ k = A * a + m := ⟨k / A, k % A, by rw [Nat.div_lt_iff_lt_mul hA]; exact hk, Nat.mod_lt _ hA, (Nat.div_add_mod k A).symm⟩
theorem bI_b {b : Bool} : bI b = 0 ↔ b = false := by cases b <;> decide
/-- what the rows above leave at a look, when a rows are looked at, and of the next one the looks below t -/
def Pv (R W : Nat) (F : Nat → Nat → Bool) (T : Nat → Bool) (lk : Nat → Nat) (y V b a t m : Nat) : Bool := decide (lk b = m / V) && (aft a F (fun a' => Sn R W F T lk y (m % V) a') b || (decide (m % V < t) && (Sn R W F T lk y (m % V) a && F a b)))
theorem Pv_0 {R W : Nat} {F : Nat → Nat → Bool} {T : Nat → Bool} {lk : Nat → Nat} {y V b m : Nat} : Pv R W F T lk y V b 0 0 m = false := by
  unfold Pv
  rw [aft_zero, decide_eq_false (Nat.not_lt_zero _), Bool.false_and, Bool.or_false, Bool.and_false]
theorem Pv_skip {R W : Nat} {F : Nat → Nat → Bool} {T : Nat → Bool} {lk : Nat → Nat} {y V b a m : Nat} (h : F a b = false) : Pv R W F T lk y V b (a + 1) 0 m = Pv R W F T lk y V b a 0 m := by
  unfold Pv
  rw [aft_succ, h, Bool.and_false, Bool.or_false, decide_eq_false (Nat.not_lt_zero _), Bool.false_and, Bool.false_and]
theorem Pv_full {R W : Nat} {F : Nat → Nat → Bool} {T : Nat → Bool} {lk : Nat → Nat} {y V b a m : Nat} (hV : 0 < V) : Pv R W F T lk y V b (a + 1) 0 m = Pv R W F T lk y V b a V m := by
  unfold Pv
  rw [aft_succ, decide_eq_false (Nat.not_lt_zero _), Bool.false_and, Bool.or_false, decide_eq_true (Nat.mod_lt m hV), Bool.true_and]
theorem Pv_end {R W : Nat} {F : Nat → Nat → Bool} {T : Nat → Bool} {lk : Nat → Nat} {y b m : Nat} : Pv R W F T lk y (W ^ (y + 1)) b R 0 m = Sn R W F T lk (y + 1) m b := by
  unfold Pv
  rw [decide_eq_false (Nat.not_lt_zero _), Bool.false_and, Bool.or_false]
  unfold Sn
  rw [Dv_s, Bool.and_comm]
  rfl
theorem s_goViews {c w h y : Nat} (hc : c ≤ 3) (h1 : 1 ≤ c) (hw : w ≤ 5) (hy : y + 1 < h) (hA : c ^ w * 2 ^ (h * w) ≤ 331776) (h12 : h * w ≤ 12) {al : Nat → Bool} {lt : Nat → Int32} {lb : Nat → Bool} (hl : LtOk lt lb) {fits : Nat → Int32} (hF : ∀ a b, a < c ^ w → b < c ^ w → fits (243 * a + b) = bI (Fi al c w a b)) {seen st : Nat → Int32} (hS : SeenOk (c ^ w) (2 ^ (h * w)) (2 ^ w) (Fi al c w) (Tp al c w) (lkR lb c w) y seen) {post : (Nat → Int32) → (Nat → Int32) → Prop} (k : ∀ seen' st', SeenOk (c ^ w) (2 ^ (h * w)) (2 ^ w) (Fi al c w) (Tp al c w) (lkR lb c w) (y + 1) seen' → post seen' st') : q_X9_goViews (nI c) (nI (c ^ w)) lt fits seen st (nI (w * (y + 1))) (nI w) (nI (2 ^ (h * w))) post := by
  have h243 := pow_le243 hc hw
  have hwy : w * (y + 1) + w ≤ h * w := by
    have e : (y + 1) * w + w = (y + 1 + 1) * w := (Nat.succ_mul _ _).symm
    rw [Nat.mul_comm w (y + 1), e]
    exact Nat.mul_le_mul_right w hy
  have hV : (2 : Nat) ^ (w * (y + 1)) * 2 ^ w ≤ 2 ^ (h * w) := by rw [← Nat.pow_add]; exact Nat.pow_le_pow_right (by decide) hwy
  have hAle : (2 : Nat) ^ (h * w) ≤ 4096 := Nat.le_trans (Nat.pow_le_pow_right (by decide) h12) (by decide)
  have hApos : 0 < (2 : Nat) ^ (h * w) := Nat.pow_pos (by decide)
  have hVp : 0 < (2 : Nat) ^ (w * (y + 1)) := Nat.pow_pos (by decide)
  have hVW : (2 : Nat) ^ (w * (y + 1)) = (2 ^ w) ^ (y + 1) := Nat.pow_mul ..
  have hWp : 0 < (2 : Nat) ^ w := Nat.pow_pos (by decide)
  have hVA : (2 : Nat) ^ (w * (y + 1)) ≤ 2 ^ (h * w) := Nat.le_trans (Nat.le_mul_of_pos_right _ hWp) hV
  generalize hAe : (2 : Nat) ^ (h * w) = A at hA hS k hV hAle hApos hVA ⊢
  generalize hVe : (2 : Nat) ^ (w * (y + 1)) = V at hV hVp hVW hVA
  generalize hRe : c ^ w = R at *
  have eV : (1 : Int32) <<< (nI (w * (y + 1)) &&& 31) = nI V := by
    rw [show (1 : Int32) = nI 1 from rfl, shlN (by omega) (by omega), Nat.one_mul, hVe]
  have hlk : ∀ b, lkR lb c w b < 2 ^ w := fun b => lkR_lt lb c w b
  -- the place of a look
  have hpl : ∀ b t, t < V → t + lkR lb c w b * V < A := fun b t ht => by
    have h2 : (lkR lb c w b + 1) * V ≤ 2 ^ w * V := Nat.mul_le_mul_right V (hlk b)
    rw [Nat.succ_mul, Nat.mul_comm (2 ^ w) V] at h2
    omega
  unfold q_X9_goViews
  -- copied back
  have back : ∀ (st : Nat → Int32), SeenOk R A (2 ^ w) (Fi al c w) (Tp al c w) (lkR lb c w) (y + 1) st → ∀ (m i : Nat) (sn : Nat → Int32), i + m = R * A → (∀ j, j < i → sn j = st j) → r_X9_goViews_165 (nI c) (nI R) lt fits post (nI A) st (m + 1) (nI i) sn := by
    intro st hst m
    induction m with
    | zero =>
      intro i sn hi hsn
      unfold r_X9_goViews_165
      rw [pk_mul]
      refine pk_le (R * A) i (fun _ => k sn st (fun a m ha hm => ?_)) (fun q => absurd q (by omega)) rfl rfl (by omega) (by omega)
      rw [hsn _ (by have := place_lt ha hm; omega)]
      exact hst a m ha hm
    | succ m ih =>
      intro i sn hi hsn
      unfold r_X9_goViews_165
      rw [pk_mul]
      have hin : vp_in (nI i) 331776 := vp_in_nI (by omega) (by decide)
      refine pk_le (R * A) i (fun q => absurd q (by omega)) (fun _ => ⟨hin, hin, ?_⟩) rfl rfl (by omega) (by omega)
      rw [nI_clamp (n := i) (by omega), nI_1]
      obtain ⟨a, m', ha, hm', e⟩ := place_of hApos (show i < R * A by omega)
      refine ⟨by rw [e, hst a m' ha hm']; exact bI_01 _, ?_⟩
      refine ih (i + 1) _ (by omega) (fun j hj => ?_)
      by_cases e2 : j = i
      · rw [e2, upd_s]
      · rw [upd_n _ e2]; exact hsn j (by omega)
  -- the looks of one row above
  have looks : ∀ {K : Int32 → (Nat → Int32) → Prop} {a b : Nat}, a < R → b < R → (∀ st, (∀ b' m, b' < R → m < A → st (A * b' + m) = bI (if b' < b then Sn R (2 ^ w) (Fi al c w) (Tp al c w) (lkR lb c w) (y + 1) m b' else if b' = b then Pv R (2 ^ w) (Fi al c w) (Tp al c w) (lkR lb c w) y V b (a + 1) 0 m else false)) → K (nI a) st) →
      ∀ (n t : Nat) (st : Nat → Int32), t + n = V → (∀ b' m, b' < R → m < A → st (A * b' + m) = bI (if b' < b then Sn R (2 ^ w) (Fi al c w) (Tp al c w) (lkR lb c w) (y + 1) m b' else if b' = b then Pv R (2 ^ w) (Fi al c w) (Tp al c w) (lkR lb c w) y V b a t m else false)) → (Fi al c w a b = false → t = 0) → r_X9_goViews_66 (nI c) (nI R) lt fits (nI (w * (y + 1))) (nI w) (nI A) seen (nI b) (nI (lkR lb c w b * V)) post K (nI a) (n + 1) (nI t) st := by
    intro K a b ha hb hK n
    induction n with
    | zero =>
      intro t st ht hst hf0
      unfold r_X9_goViews_66
      rw [i243, nI_clamp (n := 243 * a + b) (by omega), hF a b ha hb, bI_b, eV]
      refine ⟨vp_in_nI (by omega) (by decide), br (fun q => ?_) (fun q => ?_)⟩
      · have := hf0 q; omega
      · refine pk_le V t (fun _ => hK st (fun b' m hb' hm => ?_)) (fun q => absurd q (by omega)) rfl rfl (by omega) (by omega)
        rw [hst b' m hb' hm, Pv_full hVp, show t = V by omega]
    | succ n ih =>
      intro t st ht hst hf0
      unfold r_X9_goViews_66
      rw [i243, nI_clamp (n := 243 * a + b) (by omega), hF a b ha hb, bI_b, eV]
      refine ⟨vp_in_nI (by omega) (by decide), br (fun q => ?_) (fun q => ?_)⟩
      · refine hK st (fun b' m hb' hm => ?_)
        rw [hst b' m hb' hm, hf0 q, Pv_skip q]
      · have qF : Fi al c w a b = true := by
          cases z : Fi al c w a b with
          | true => rfl
          | false => exact absurd z q
        refine pk_le V t (fun q => absurd q (by omega)) (fun _ => ?_) rfl rfl (by omega) (by omega)
        have hm0 := hpl b t (by omega)
        have hp0 := place_lt hb hm0
        have hp1 := place_lt ha (show t < A by omega)
        have ei : nI A * nI b + nI t + nI (lkR lb c w b * V) = nI (A * b + (t + lkR lb c w b * V)) := by rw [pk_mul, nI_add, nI_add, Nat.add_assoc]
        have ej : nI A * nI a + nI t = nI (A * a + t) := by rw [pk_mul, nI_add]
        have hin : vp_in (nI (A * b + (t + lkR lb c w b * V))) 331776 := vp_in_nI (by omega) (by decide)
        rw [ei, ej, nI_clamp (n := A * b + (t + lkR lb c w b * V)) (by omega), nI_clamp (n := A * a + t) (by omega), hst b _ hb hm0, hS a t ha (by omega), bI_b, bI_b, nI_1]
        rw [if_neg (Nat.lt_irrefl b), if_pos rfl]
        have e1 : (t + lkR lb c w b * V) / V = lkR lb c w b := by rw [Nat.add_mul_div_right _ _ hVp, Nat.div_eq_of_lt (by omega), Nat.zero_add]
        have e2 : (t + lkR lb c w b * V) % V = t := by rw [Nat.add_mul_mod_self_right, Nat.mod_eq_of_lt (by omega)]
        have eo : Pv R (2 ^ w) (Fi al c w) (Tp al c w) (lkR lb c w) y V b a t (t + lkR lb c w b * V) = aft a (Fi al c w) (fun a' => Sn R (2 ^ w) (Fi al c w) (Tp al c w) (lkR lb c w) y t a') b := by
          unfold Pv
          rw [e1, e2, decide_eq_true rfl, decide_eq_false (Nat.lt_irrefl t), Bool.false_and, Bool.or_false, Bool.true_and]
        have en : Pv R (2 ^ w) (Fi al c w) (Tp al c w) (lkR lb c w) y V b a (t + 1) (t + lkR lb c w b * V) = (aft a (Fi al c w) (fun a' => Sn R (2 ^ w) (Fi al c w) (Tp al c w) (lkR lb c w) y t a') b || Sn R (2 ^ w) (Fi al c w) (Tp al c w) (lkR lb c w) y t a) := by
          unfold Pv
          rw [e1, e2, decide_eq_true rfl, decide_eq_true (Nat.lt_succ_self t), Bool.true_and, Bool.true_and, qF, Bool.and_true]
        rw [eo]
        have go : ∀ v : Int32, v = bI (Pv R (2 ^ w) (Fi al c w) (Tp al c w) (lkR lb c w) y V b a (t + 1) (t + lkR lb c w b * V)) → r_X9_goViews_66 (nI c) (nI R) lt fits (nI (w * (y + 1))) (nI w) (nI A) seen (nI b) (nI (lkR lb c w b * V)) post K (nI a) (n + 1) (nI (t + 1)) (upd st (A * b + (t + lkR lb c w b * V)) v) := by
          intro v ev
          refine ih (t + 1) _ (by omega) (fun b' m hb' hm => ?_) (fun z => absurd z (by rw [qF]; decide))
          by_cases e : b' = b ∧ m = t + lkR lb c w b * V
          · rw [e.1, e.2, upd_s, if_neg (Nat.lt_irrefl b), if_pos rfl]; exact ev
          · rw [upd_n _ (place_ne hm hm0 e), hst b' m hb' hm]
            by_cases z1 : b' < b
            · rw [if_pos z1, if_pos z1]
            · rw [if_neg z1, if_neg z1]
              by_cases z2 : b' = b
              · rw [if_pos z2, if_pos z2]
                have hne : m ≠ t + lkR lb c w b * V := fun z => e ⟨z2, z⟩
                congr 1
                unfold Pv
                by_cases z3 : lkR lb c w b = m / V
                · have hdm := Nat.div_add_mod m V
                  have : m % V ≠ t := fun z => hne (by rw [← z, z3, Nat.mul_comm]; omega)
                  rw [show decide (m % V < t + 1) = decide (m % V < t) from decide_eq_decide.mpr (by omega)]
                · rw [decide_eq_false z3, Bool.false_and, Bool.false_and]
              · rw [if_neg z2, if_neg z2]
        refine ⟨hin, brn (fun q2 => ⟨hin, go 1 ?_⟩) (fun q2 => ⟨vp_in_nI (by omega) (by decide), br (fun q3 => ⟨hin, go 0 ?_⟩) (fun q3 => ⟨hin, go 1 ?_⟩)⟩)⟩
        · rw [en]
          cases z : aft a (Fi al c w) (fun a' => Sn R (2 ^ w) (Fi al c w) (Tp al c w) (lkR lb c w) y t a') b with
          | true => rw [Bool.true_or]; rfl
          | false => exact absurd z q2
        · rw [en, q2, q3]; rfl
        · rw [en, q2, Bool.false_or]
          cases z : Sn R (2 ^ w) (Fi al c w) (Tp al c w) (lkR lb c w) y t a with
          | true => rfl
          | false => exact absurd z q3
  -- the rows above
  have above : ∀ {K : Int32 → (Nat → Int32) → Prop} {b : Nat}, b < R → (∀ st, (∀ b' m, b' < R → m < A → st (A * b' + m) = bI (if b' < b + 1 then Sn R (2 ^ w) (Fi al c w) (Tp al c w) (lkR lb c w) (y + 1) m b' else false)) → K (nI b) st) →
      ∀ (n a : Nat) (st : Nat → Int32), a + n = R → (∀ b' m, b' < R → m < A → st (A * b' + m) = bI (if b' < b then Sn R (2 ^ w) (Fi al c w) (Tp al c w) (lkR lb c w) (y + 1) m b' else if b' = b then Pv R (2 ^ w) (Fi al c w) (Tp al c w) (lkR lb c w) y V b a 0 m else false)) → r_X9_goViews_54 (nI c) (nI R) lt fits (nI (w * (y + 1))) (nI w) (nI A) seen post K (nI b) (nI (lkR lb c w b * V)) (n + 1) (nI a) st := by
    intro K b hb hK n
    induction n with
    | zero =>
      intro a st ha hst
      unfold r_X9_goViews_54
      refine pk_le R a (fun _ => hK st (fun b' m hb' hm => ?_)) (fun q => absurd q (by omega)) rfl rfl (by omega) (by omega)
      rw [hst b' m hb' hm]
      by_cases z1 : b' < b
      · rw [if_pos z1, if_pos (by omega)]
      · rw [if_neg z1]
        by_cases z2 : b' = b
        · rw [if_pos z2, if_pos (by omega), show a = R by omega, hVW, Pv_end, z2]
        · rw [if_neg z2, if_neg (by omega)]
    | succ n ih =>
      intro a st ha hst
      unfold r_X9_goViews_54
      refine pk_le R a (fun q => absurd q (by omega)) (fun _ => ?_) rfl rfl (by omega) (by omega)
      refine ⟨V + 1, looks (show a < R by omega) hb (fun st' hst' => ?_) V 0 st (by omega) hst (fun _ => rfl)⟩
      unfold q_X9_goViews_150
      rw [nI_1]
      exact ih (a + 1) st' (by omega) hst'
  -- the rows below
  have below : ∀ (n b : Nat) (st : Nat → Int32), b + n = R → (∀ b' m, b' < R → m < A → st (A * b' + m) = bI (if b' < b then Sn R (2 ^ w) (Fi al c w) (Tp al c w) (lkR lb c w) (y + 1) m b' else false)) → r_X9_goViews_31 (nI c) (nI R) lt fits post (q_X9_goViews_162 (nI c) (nI R) lt fits post) (nI (w * (y + 1))) (nI w) (nI A) seen (n + 1) (nI b) st := by
    intro n
    induction n with
    | zero =>
      intro b st hb hst
      unfold r_X9_goViews_31
      refine pk_le R b (fun _ => ?_) (fun q => absurd q (by omega)) rfl rfl (by omega) (by omega)
      unfold q_X9_goViews_162
      refine ⟨R * A + 1, back st (fun a m ha hm => ?_) (R * A) 0 seen (by omega) (fun j hj => absurd hj (by omega))⟩
      rw [hst a m ha hm, if_pos (by omega)]
    | succ n ih =>
      intro b st hb hst
      unfold r_X9_goViews_31
      refine pk_le R b (fun q => absurd q (by omega)) (fun _ => ?_) rfl rfl (by omega) (by omega)
      refine s_lookOf hc h1 hw (by omega) hl ?_
      have hlb := hpl b 0 hVp
      have es : nI (lkR lb c w b) <<< (nI (w * (y + 1)) &&& 31) = nI (lkR lb c w b * V) := by
        rw [shlN (by omega) (by rw [hVe]; omega), hVe]
      rw [es]
      refine ⟨R + 1, above (show b < R by omega) (fun st' hst' => ?_) R 0 st (by omega) (fun b' m hb' hm => ?_)⟩
      · unfold q_X9_goViews_156
        rw [nI_1]
        exact ih (b + 1) st' (by omega) hst'
      · rw [hst b' m hb' hm, Pv_0]
        by_cases z1 : b' < b
        · rw [if_pos z1, if_pos z1]
        · rw [if_neg z1, if_neg z1]
          by_cases z2 : b' = b
          · rw [if_pos z2]
          · rw [if_neg z2]
  have wipe : ∀ (m i : Nat) (st : Nat → Int32), i + m = R * A → (∀ j, j < i → st j = 0) → r_X9_goViews_3 (nI c) (nI R) lt fits post (q_X9_goViews_28 (nI c) (nI R) lt fits post) (nI (w * (y + 1))) (nI w) (nI A) seen (m + 1) (nI i) st := by
    intro m
    induction m with
    | zero =>
      intro i st hi hst
      unfold r_X9_goViews_3
      rw [pk_mul]
      refine pk_le (R * A) i (fun _ => ?_) (fun q => absurd q (by omega)) rfl rfl (by omega) (by omega)
      unfold q_X9_goViews_28
      refine ⟨R + 1, below R 0 st (by omega) (fun b' m hb' hm => ?_)⟩
      rw [if_neg (by omega), hst _ (by have := place_lt hb' hm; omega)]; rfl
    | succ m ih =>
      intro i st hi hst
      unfold r_X9_goViews_3
      rw [pk_mul]
      refine pk_le (R * A) i (fun q => absurd q (by omega)) (fun _ => ⟨vp_in_nI (by omega) (by decide), ?_⟩) rfl rfl (by omega) (by omega)
      rw [nI_clamp (n := i) (by omega), nI_1]
      refine ih (i + 1) _ (by omega) (fun j hj => ?_)
      by_cases e2 : j = i
      · rw [e2, upd_s]
      · rw [upd_n _ e2]; exact hst j (by omega)
  exact ⟨R * A + 1, wipe (R * A) 0 st (by omega) (fun j hj => absurd hj (by omega))⟩
theorem room_ok : ∀ h, h < 6 → ∀ w, w < 6 → h * w ≤ 12 → 3 ^ w * 2 ^ (h * w) ≤ 331776 := by decide +kernel
theorem Sn_0 {R W : Nat} {F : Nat → Nat → Bool} {T : Nat → Bool} {lk : Nat → Nat} {m r : Nat} : Sn R W F T lk 0 m r = (T r && decide (lk r = m)) := by
  unfold Sn
  rw [Nat.pow_zero, Nat.div_one]; rfl
theorem s_viewsM {c : Nat} (hc : c ≤ 3) (h1 : 1 ≤ c) {al : Nat → Bool} {R lt : Nat → Int32} {lb : Nat → Bool} (hr : RuleM al R) (hl : LtOk lt lb) {mr : Int32} {fits top bottom seen st : Nat → Int32} {l1 l2 : Int32} {post : Int32 → Int32 → (Nat → Int32) → (Nat → Int32) → (Nat → Int32) → (Nat → Int32) → (Nat → Int32) → Prop}
    (k : ∀ h w : Nat, 1 ≤ h ∧ h ≤ 5 ∧ 1 ≤ w ∧ w ≤ 5 → h * w ≤ 12 → l1 = nI h → l2 = nI w → ∀ mr' fits' top' bottom' seen' st', post (nI (viewsA al lb c h w)) mr' fits' top' bottom' seen' st') (k0 : ¬ isSz l1 l2 → post (-3) mr fits top bottom seen st) (k4 : ∀ h w : Nat, 1 ≤ h ∧ h ≤ 5 ∧ 1 ≤ w ∧ w ≤ 5 → 12 < h * w → l1 = nI h → l2 = nI w → post (-4) mr fits top bottom seen st) : q_X9_views (nI c) R lt mr fits top bottom seen st l1 l2 post := by
  unfold q_X9_views
  refine s_isSizeM (fun hs => c1 ?_) (fun hs => c0 (k0 hs))
  obtain ⟨h, hh1, hh, rfl⟩ := small (lo := 1) (hi := 5) (a := l1) (by omega)
  obtain ⟨w, hw1, hw, rfl⟩ := small (lo := 1) (hi := 5) (a := l2) (by omega)
  have hN := hw25 hh hw
  have h243 := pow_le243 hc hw
  rw [pk_mul, le12 (by omega)]
  refine br (fun h12 => ?_) (fun q => k4 h w ⟨hh1, hh, hw1, hw⟩ (by omega) rfl rfl)
  have hroom : c ^ w * 2 ^ (h * w) ≤ 331776 := Nat.le_trans (Nat.mul_le_mul_right _ (Nat.pow_le_pow_left hc w)) (room_ok h (by omega) w (by omega) h12)
  have hAle : (2 : Nat) ^ (h * w) ≤ 4096 := Nat.le_trans (Nat.pow_le_pow_right (by decide) h12) (by decide)
  have hApos : 0 < (2 : Nat) ^ (h * w) := Nat.pow_pos (by decide)
  have hWA : (2 : Nat) ^ w ≤ 2 ^ (h * w) := Nat.pow_le_pow_right (by decide) (Nat.le_mul_of_pos_left w hh1)
  have kk := k h w ⟨hh1, hh, hw1, hw⟩ h12 rfl rfl
  refine s_layFits hc h1 hw hr (fun fits' top' bottom' hF => ?_)
  obtain ⟨hF1, hF2, hF3⟩ := hF
  have eA : (1 : Int32) <<< (nI (h * w) &&& 31) = nI (2 ^ (h * w)) := by
    rw [show (1 : Int32) = nI 1 from rfl, shlN (by omega) (by omega), Nat.one_mul]
  rw [eA]
  have hgo := fun (y : Nat) (hy : y + 1 < h) (seen st : Nat → Int32) (hS : SeenOk (c ^ w) (2 ^ (h * w)) (2 ^ w) (Fi al c w) (Tp al c w) (lkR lb c w) y seen) (post : (Nat → Int32) → (Nat → Int32) → Prop) (k : ∀ seen' st', SeenOk (c ^ w) (2 ^ (h * w)) (2 ^ w) (Fi al c w) (Tp al c w) (lkR lb c w) (y + 1) seen' → post seen' st') => s_goViews (st := st) hc h1 hw hy hroom h12 hl hF3 hS k
  have hvm := views_m (al := al) (lb := lb) (c := c) (w := w) hh1
  have hlk : ∀ b, lkR lb c w b < 2 ^ (h * w) := fun b => Nat.lt_of_lt_of_le (lkR_lt lb c w b) hWA
  generalize hAe : (2 : Nat) ^ (h * w) = A at hroom hAle hApos hgo hvm hlk ⊢
  -- one look
  have one : ∀ {K : Int32 → Int32 → Int32 → Prop} {sn st : Nat → Int32} {n look : Nat}, look < A → SeenOk (c ^ w) A (2 ^ w) (Fi al c w) (Tp al c w) (lkR lb c w) (h - 1) sn → K (nI n) (nI look) (bI (anyB (c ^ w) (fun r => Bt al c w r && Sn (c ^ w) (2 ^ w) (Fi al c w) (Tp al c w) (lkR lb c w) (h - 1) look r))) → ∀ (m a : Nat), a + m = c ^ w → r_X9_views_146 (nI c) R lt (nI A) (nI (c ^ w)) fits' top' bottom' sn st post K (nI n) (nI look) (m + 1) (bI (anyB a (fun r => Bt al c w r && Sn (c ^ w) (2 ^ w) (Fi al c w) (Tp al c w) (lkR lb c w) (h - 1) look r))) (nI a) := by
    intro K sn st n look hlook hsn hK m
    induction m with
    | zero =>
      intro a ha
      unfold r_X9_views_146
      rw [show a = c ^ w by omega]
      exact pk_le (c ^ w) (c ^ w) (fun _ => hK) (fun q => absurd q (by omega)) rfl rfl (by omega) (by omega)
    | succ m ih =>
      intro a ha
      unfold r_X9_views_146
      refine pk_le (c ^ w) a (fun q => absurd q (by omega)) (fun _ => ?_) rfl rfl (by omega) (by omega)
      have hI := ih (a + 1) (by omega)
      have es : anyB (a + 1) (fun r => Bt al c w r && Sn (c ^ w) (2 ^ w) (Fi al c w) (Tp al c w) (lkR lb c w) (h - 1) look r) = (anyB a (fun r => Bt al c w r && Sn (c ^ w) (2 ^ w) (Fi al c w) (Tp al c w) (lkR lb c w) (h - 1) look r) || (Bt al c w a && Sn (c ^ w) (2 ^ w) (Fi al c w) (Tp al c w) (lkR lb c w) (h - 1) look a)) := by
        apply bool_iff
        rw [Bool.or_eq_true, anyB_iff, anyB_iff]
        constructor
        · rintro ⟨x, h1, h2⟩
          by_cases e : x = a
          · rw [e] at h2; exact Or.inr h2
          · exact Or.inl ⟨x, by omega, h2⟩
        · rintro (⟨x, h1, h2⟩ | h2)
          · exact ⟨x, by omega, h2⟩
          · exact ⟨a, by omega, h2⟩
      rw [es] at hI
      have hp := place_lt (show a < c ^ w by omega) hlook
      rw [nI_1, nI_clamp (n := a) (by omega), hF2 a (by omega), pk_mul, nI_add, nI_clamp (n := A * a + look) (by omega), hsn a look (by omega) hlook, bI_b, bI_b, bI_b]
      refine brn (fun q => ?_) (fun q => ⟨vp_in_nI (by omega) (by decide), br (fun q2 => ?_) (fun q2 => ⟨vp_in_nI (by omega) (by decide), br (fun q3 => ?_) (fun q3 => ?_)⟩)⟩)
      · rw [Bool.not_eq_false _ |>.mp q, Bool.true_or] at hI; exact hI
      · rw [q, q2] at hI; exact hI
      · rw [q, q3, Bool.and_false] at hI; exact hI
      · rw [q, Bool.not_eq_false _ |>.mp q2, Bool.not_eq_false _ |>.mp q3] at hI; exact hI
  have count : ∀ (sn st : Nat → Int32), SeenOk (c ^ w) A (2 ^ w) (Fi al c w) (Tp al c w) (lkR lb c w) (h - 1) sn → ∀ (m look : Nat), look + m = A → r_X9_views_134 (nI c) R lt post (nI A) (nI (c ^ w)) fits' top' bottom' sn st (m + 1) (nI (fb_sm (fun m => wt (anyB (c ^ w) (fun r => Bt al c w r && Sn (c ^ w) (2 ^ w) (Fi al c w) (Tp al c w) (lkR lb c w) (h - 1) m r))) look)) (nI look) := by
    intro sn st hsn m
    induction m with
    | zero =>
      intro look hlook
      unfold r_X9_views_134
      rw [show look = A by omega, hvm]
      exact pk_le A A (fun _ => kk _ _ _ _ _ _) (fun q => absurd q (by omega)) rfl rfl (by omega) (by omega)
    | succ m ih =>
      intro look hlook
      unfold r_X9_views_134
      refine pk_le A look (fun q => absurd q (by omega)) (fun _ => ?_) rfl rfl (by omega) (by omega)
      refine ⟨c ^ w + 1, one (show look < A by omega) hsn ?_ (c ^ w) 0 (by omega)⟩
      unfold q_X9_views_198
      have hI := ih (look + 1) (by omega)
      rw [fb_sm_succ] at hI
      rw [nI_1, nI_1, bI_b, show nI (fb_sm (fun m => wt (anyB (c ^ w) (fun r => Bt al c w r && Sn (c ^ w) (2 ^ w) (Fi al c w) (Tp al c w) (lkR lb c w) (h - 1) m r))) look) + (0 : Int32) = nI (fb_sm (fun m => wt (anyB (c ^ w) (fun r => Bt al c w r && Sn (c ^ w) (2 ^ w) (Fi al c w) (Tp al c w) (lkR lb c w) (h - 1) m r))) look + 0) from nI_add _ 0]
      refine br (fun q => ?_) (fun q => ?_)
      · rw [q, wt_f] at hI; exact hI
      · rw [Bool.not_eq_false _ |>.mp q, wt_t] at hI; exact hI
  have levels : ∀ (m y : Nat) (sn st : Nat → Int32), y + 1 + m = h → SeenOk (c ^ w) A (2 ^ w) (Fi al c w) (Tp al c w) (lkR lb c w) y sn → r_X9_views_106 (nI c) R lt post (q_X9_views_128 (nI c) R lt post) (nI h) (nI w) (nI A) (nI (c ^ w)) fits' top' bottom' (m + 1) (nI (y + 1)) sn st := by
    intro m
    induction m with
    | zero =>
      intro y sn st hy hsn
      unfold r_X9_views_106
      refine pk_le h (y + 1) (fun _ => ?_) (fun q => absurd q (by omega)) rfl rfl (by omega) (by omega)
      unfold q_X9_views_128
      rw [show y = h - 1 by omega] at hsn
      exact ⟨A + 1, count sn st hsn A 0 (by omega)⟩
    | succ m ih =>
      intro y sn st hy hsn
      unfold r_X9_views_106
      refine pk_le h (y + 1) (fun q => absurd q (by omega)) (fun _ => ?_) rfl rfl (by omega) (by omega)
      rw [pk_mul, nI_1]
      exact hgo y (by omega) sn st hsn _ (fun sn' st' hsn' => ih (y + 1) sn' st' (by omega) hsn')
  have tops : ∀ (m a : Nat) (sn : Nat → Int32), a + m = c ^ w → (∀ a' m, a' < c ^ w → m < A → sn (A * a' + m) = bI (decide (a' < a) && Sn (c ^ w) (2 ^ w) (Fi al c w) (Tp al c w) (lkR lb c w) 0 m a')) → r_X9_views_64 (nI c) R lt post (q_X9_views_103 (nI c) R lt post) (nI h) (nI w) (nI A) (nI (c ^ w)) fits' top' bottom' st (m + 1) (nI a) sn := by
    intro m
    induction m with
    | zero =>
      intro a sn ha hsn
      unfold r_X9_views_64
      refine pk_le (c ^ w) a (fun _ => ?_) (fun q => absurd q (by omega)) rfl rfl (by omega) (by omega)
      unfold q_X9_views_103
      refine ⟨h - 1 + 1, levels (h - 1) 0 sn st (by omega) (fun a' m ha' hm => ?_)⟩
      rw [hsn a' m ha' hm, decide_eq_true (show a' < a by omega), Bool.true_and]
    | succ m ih =>
      intro a sn ha hsn
      unfold r_X9_views_64
      refine pk_le (c ^ w) a (fun q => absurd q (by omega)) (fun _ => ?_) rfl rfl (by omega) (by omega)
      refine s_lookOf hc h1 hw (by omega) hl ?_
      have hp := place_lt (show a < c ^ w by omega) (hlk a)
      rw [pk_mul, nI_add, nI_1, nI_clamp (n := a) (by omega), nI_clamp (n := A * a + lkR lb c w a) (by omega), hF1 a (by omega)]
      refine ⟨vp_in_nI (by omega) (by decide), vp_in_nI (by omega) (by decide), bI_01 _, ?_⟩
      refine ih (a + 1) _ (by omega) (fun a' m ha' hm => ?_)
      by_cases e : a' = a ∧ m = lkR lb c w a
      · rw [e.1, e.2, upd_s, Sn_0, decide_eq_true (Nat.lt_succ_self a), decide_eq_true rfl, Bool.true_and, Bool.and_true]
      · rw [upd_n _ (place_ne hm (hlk a) e), hsn a' m ha' hm]
        by_cases z : a' = a
        · have : ¬ lkR lb c w a = m := fun q => e ⟨z, q.symm⟩
          rw [z, Sn_0, decide_eq_false this, Bool.and_false, Bool.and_false, Bool.and_false]
        · rw [show decide (a' < a + 1) = decide (a' < a) from decide_eq_decide.mpr (by omega)]
  have wipe : ∀ (m i : Nat) (sn : Nat → Int32), i + m = c ^ w * A → (∀ j, j < i → sn j = 0) → r_X9_views_36 (nI c) R lt post (q_X9_views_61 (nI c) R lt post) (nI h) (nI w) (nI A) (nI (c ^ w)) fits' top' bottom' st (m + 1) (nI i) sn := by
    intro m
    induction m with
    | zero =>
      intro i sn hi hsn
      unfold r_X9_views_36
      rw [pk_mul]
      refine pk_le (c ^ w * A) i (fun _ => ?_) (fun q => absurd q (by omega)) rfl rfl (by omega) (by omega)
      unfold q_X9_views_61
      refine ⟨c ^ w + 1, tops (c ^ w) 0 sn (by omega) (fun a' m ha' hm => ?_)⟩
      rw [hsn _ (by have := place_lt ha' hm; omega), decide_eq_false (Nat.not_lt_zero _), Bool.false_and]; rfl
    | succ m ih =>
      intro i sn hi hsn
      unfold r_X9_views_36
      rw [pk_mul]
      refine pk_le (c ^ w * A) i (fun q => absurd q (by omega)) (fun _ => ⟨vp_in_nI (by omega) (by decide), ?_⟩) rfl rfl (by omega) (by omega)
      rw [nI_clamp (n := i) (by omega), nI_1]
      refine ih (i + 1) _ (by omega) (fun j hj => ?_)
      by_cases e2 : j = i
      · rw [e2, upd_s]
      · rw [upd_n _ e2]; exact hsn j (by omega)
  exact ⟨c ^ w * A + 1, wipe (c ^ w * A) 0 seen (by omega) (fun j hj => absurd hj (by omega))⟩
