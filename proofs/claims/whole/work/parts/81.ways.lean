/-! how many ways there are to fill the rows below -/
def Wy (R : Nat) (F : Nat → Nat → Bool) (B : Nat → Bool) (ok : Nat → Nat → Bool) (h : Nat) : Nat → Nat → Nat
  | 0, a => if ok (h - 1) a && B a then 1 else 0
  | k + 1, a => if ok (h - 1 - (k + 1)) a then fb_sm (fun b => if F a b then Wy R F B ok h k b else 0) R else 0
def totW (R : Nat) (F : Nat → Nat → Bool) (T B : Nat → Bool) (ok : Nat → Nat → Bool) (h : Nat) : Nat := fb_sm (fun a => if T a then Wy R F B ok h (h - 1) a else 0) R
theorem Wy_le (R : Nat) (F : Nat → Nat → Bool) (B : Nat → Bool) (ok : Nat → Nat → Bool) (h : Nat) : ∀ k a, Wy R F B ok h k a ≤ R ^ k
  | 0, a => by unfold Wy; split <;> simp
  | k + 1, a => by
    unfold Wy
    split
    · have : fb_sm (fun b => if F a b then Wy R F B ok h k b else 0) R ≤ R * R ^ k := fb_sm_bound (fun b _ => by
        split
        · exact Wy_le R F B ok h k b
        · exact Nat.zero_le _)
      rw [Nat.pow_succ, Nat.mul_comm]; exact this
    · exact Nat.zero_le _
def capM (v : Nat) : Nat := if v ≤ 1000000001 then v else 1000000001
theorem capM_le (v : Nat) : capM v ≤ 1000000001 := by unfold capM; split <;> omega
theorem capM_id {v : Nat} (h : v ≤ 1000000001) : capM v = v := if_pos h
theorem capM_add (s x : Nat) : capM (capM s + capM x) = capM (s + x) := by
  unfold capM
  split <;> split <;> split <;> (try split) <;> omega
theorem s_capped {v : Nat} (hv : v < 2 ^ 62) {post : Int64 → Prop} (k : post (lN (capM v))) : q_X9_capped (lN v) post := by
  unfold q_X9_capped
  have e : (1000000001 : Int64) = lN 1000000001 := rfl
  rw [e, pk_lLE (by omega) (by decide)]
  unfold capM at k
  refine ⟨fun q => ?_, fun q => ?_⟩
  · rw [if_pos q] at k; exact k
  · rw [if_neg q] at k; exact k
theorem lN_add' (a b : Nat) : lN a + lN b = lN (a + b) := lN_add a b
def MayOk (R h : Nat) (ok : Nat → Nat → Bool) (may : Nat → Int32) : Prop := ∀ y a, y < h → a < R → may (243 * y + a) = bI (ok y a)
def WaysM (R : Nat) (F : Nat → Nat → Bool) (B : Nat → Bool) (ok : Nat → Nat → Bool) (h : Nat) (ways : Nat → Int64) : Prop := ∀ y a, y < h → a < R → ways (243 * y + a) = lN (capM (Wy R F B ok h (h - 1 - y) a))
theorem i243 {y a : Nat} : (243 : Int32) * nI y + nI a = nI (243 * y + a) := by rw [show (243 : Int32) = nI 243 from rfl, pk_mul, nI_add]
theorem s_layWays {R h : Nat} (hR : R ≤ 243) (h1 : 1 ≤ h) (h5 : h ≤ 5) {F : Nat → Nat → Bool} {T B : Nat → Bool} {ok : Nat → Nat → Bool} {fits top bottom may : Nat → Int32} (hT : ∀ a, a < R → top a = bI (T a)) (hB : ∀ a, a < R → bottom a = bI (B a)) (hF : ∀ a b, a < R → b < R → fits (243 * a + b) = bI (F a b)) (hM : MayOk R h ok may) {ways : Nat → Int64} {post : Int64 → (Nat → Int64) → Prop}
    (k : ∀ ways', WaysM R F B ok h ways' → post (lN (capM (totW R F T B ok h))) ways') : q_X9_layWays (nI R) fits top bottom may ways (nI h) post := by
  unfold q_X9_layWays
  have eh : nI h - (1 : Int32) = nI (h - 1) := by rw [show (1 : Int32) = nI 1 from rfl, pk_sub h1]
  -- the sum at the end
  have last : ∀ ways', WaysM R F B ok h ways' → ∀ (m i : Nat), i + m = R → r_X9_layWays_159 (nI R) fits top bottom may post ways' (m + 1) (lN (capM (fb_sm (fun a => if T a then Wy R F B ok h (h - 1) a else 0) i))) (nI i) := by
    intro ways' hw m
    induction m with
    | zero =>
      intro i hi
      unfold r_X9_layWays_159
      have kk := k ways' hw
      unfold totW at kk
      rw [show i = R by omega]
      exact pk_le R R (fun _ => kk) (fun q => absurd q (by omega)) rfl rfl (by omega) (by omega)
    | succ m ih =>
      intro i hi
      unfold r_X9_layWays_159
      refine pk_le R i (fun q => absurd q (by omega)) (fun _ => ⟨vp_in_nI (by omega) (by decide), ?_⟩) rfl rfl (by omega) (by omega)
      have hI := ih (i + 1) (by omega)
      rw [fb_sm_succ] at hI
      rw [nI_clamp (by omega), hT i (by omega), nI_1]
      cases ht : T i with
      | false => rw [ht] at hI; exact b0 hI
      | true =>
        rw [ht] at hI
        refine b1 ⟨vp_in_nI (by omega) (by decide), ?_⟩
        have e := hw 0 i (by omega) (by omega)
        rw [Nat.mul_zero, Nat.zero_add, Nat.sub_zero] at e
        rw [e, lN_add']
        have c1 := capM_le (fb_sm (fun a => if T a then Wy R F B ok h (h - 1) a else 0) i)
        have c2 := capM_le (Wy R F B ok h (h - 1) i)
        refine s_capped (by omega) ?_
        rw [capM_add]
        exact hI
  -- a row's sum
  have row : ∀ {K : Int32 → Int64 → (Nat → Int64) → Prop} (y a : Nat), y + 1 < h → a < R → ∀ ways', (∀ b, b < R → ways' (243 * (y + 1) + b) = lN (capM (Wy R F B ok h (h - 1 - (y + 1)) b))) → K (nI a) (lN (capM (fb_sm (fun b => if F a b then Wy R F B ok h (h - 1 - (y + 1)) b else 0) R))) ways' →
      ∀ (m i : Nat), i + m = R → r_X9_layWays_62 (nI R) fits top bottom may (nI h) (nI y) post K (nI a) ways' (m + 1) (lN (capM (fb_sm (fun b => if F a b then Wy R F B ok h (h - 1 - (y + 1)) b else 0) i))) (nI i) := by
    intro K y a hy ha ways' hw hK m
    induction m with
    | zero =>
      intro i hi
      unfold r_X9_layWays_62
      rw [eh]
      rw [show i = R by omega]
      exact pk_le (h - 1) y (fun q => absurd q (by omega)) (fun _ => pk_le R R (fun _ => hK) (fun q => absurd q (by omega)) rfl rfl (by omega) (by omega)) rfl rfl (by omega) (by omega)
    | succ m ih =>
      intro i hi
      unfold r_X9_layWays_62
      rw [eh]
      refine pk_le (h - 1) y (fun q => absurd q (by omega)) (fun _ => pk_le R i (fun q => absurd q (by omega)) (fun _ => ?_) rfl rfl (by omega) (by omega)) rfl rfl (by omega) (by omega)
      have hI := ih (i + 1) (by omega)
      rw [fb_sm_succ] at hI
      rw [i243, nI_1, nI_1, i243]
      refine ⟨vp_in_nI (by omega) (by decide), ?_⟩
      rw [nI_clamp (by omega), hF a i ha (by omega)]
      cases hf : F a i with
      | false => rw [hf] at hI; exact b0 hI
      | true =>
        rw [hf] at hI
        refine b1 ⟨vp_in_nI (by omega) (by decide), ?_⟩
        rw [nI_clamp (by omega), hw i (by omega), lN_add']
        have c1 := capM_le (fb_sm (fun b => if F a b then Wy R F B ok h (h - 1 - (y + 1)) b else 0) i)
        have c2 := capM_le (Wy R F B ok h (h - 1 - (y + 1)) i)
        refine s_capped (by omega) ?_
        rw [capM_add]
        exact hI
  -- the rows of a level
  have level : ∀ {K154 : (Nat → Int64) → Prop} {K4 : Int32 → (Nat → Int64) → Prop} (y : Nat), y < h → (∀ ways', (∀ y' a, y ≤ y' → y' < h → a < R → ways' (243 * y' + a) = lN (capM (Wy R F B ok h (h - 1 - y') a))) → K4 (nI y + (-1)) ways') →
      ∀ (m i : Nat) (ways' : Nat → Int64), i + m = R → (∀ y' a, y + 1 ≤ y' → y' < h → a < R → ways' (243 * y' + a) = lN (capM (Wy R F B ok h (h - 1 - y') a))) → (∀ a, a < i → ways' (243 * y + a) = lN (capM (Wy R F B ok h (h - 1 - y) a))) →
      r_X9_layWays_10 (nI R) fits top bottom may (nI h) post (q_X9_layWays_148 (nI R) fits top bottom may (nI h) post K154 K4) (nI y) (m + 1) (nI i) ways' := by
    intro K154 K4 y hy hK m
    induction m with
    | zero =>
      intro i ways' hi hup hlo
      unfold r_X9_layWays_10
      refine pk_le R i (fun _ => hK ways' (fun y' a h1' h2 ha => ?_)) (fun q => absurd q (by omega)) rfl rfl (by omega) (by omega)
      by_cases e : y' = y
      · rw [e]; exact hlo a (by omega)
      · exact hup y' a (by omega) h2 ha
    | succ m ih =>
      intro i ways' hi hup hlo
      unfold r_X9_layWays_10
      refine pk_le R i (fun q => absurd q (by omega)) (fun _ => ?_) rfl rfl (by omega) (by omega)
      rw [i243]
      refine ⟨vp_in_nI (by omega) (by decide), ?_⟩
      rw [nI_clamp (by omega), hM y i hy (by omega), eh]
      have fin : ∀ v, v = capM (Wy R F B ok h (h - 1 - y) i) → q_X9_layWays_128 (nI R) fits top bottom may (nI h) (nI y) post (q_X9_layWays_148 (nI R) fits top bottom may (nI h) post K154 K4) (r_X9_layWays_10 (nI R) fits top bottom may (nI h) post (q_X9_layWays_148 (nI R) fits top bottom may (nI h) post K154 K4) (nI y) (m + 1)) (nI i) (lN v) ways' := by
        intro v ev
        unfold q_X9_layWays_128
        rw [i243, nI_1]
        refine ⟨vp_in_nI (by omega) (by decide), ?_⟩
        rw [nI_clamp (by omega)]
        refine ih (i + 1) _ (by omega) (fun y' a h1' h2 ha => ?_) (fun a ha => ?_)
        · rw [updL_n _ (by omega)]; exact hup y' a h1' h2 ha
        · by_cases e : a = i
          · rw [e, updL_s, ev]
          · rw [updL_n _ (by omega)]; exact hlo a (by omega)
      have lastrow : ∀ v, y = h - 1 → v = capM (Wy R F B ok h (h - 1 - y) i) → q_X9_layWays_62 (nI R) fits top bottom may (nI h) (nI y) post (q_X9_layWays_148 (nI R) fits top bottom may (nI h) post K154 K4) (r_X9_layWays_10 (nI R) fits top bottom may (nI h) post (q_X9_layWays_148 (nI R) fits top bottom may (nI h) post K154 K4) (nI y) (m + 1)) (nI i) (lN v) 0 ways' := by
        intro v hyl ev
        refine ⟨1, ?_⟩
        unfold r_X9_layWays_62
        rw [eh]
        exact pk_le (h - 1) y (fun _ => fin v ev) (fun q => absurd q (by omega)) rfl rfl (by omega) (by omega)
      cases hok : ok y i with
      | false =>
        refine b0 (fin 0 ?_)
        cases hk : h - 1 - y with
        | zero => unfold Wy; rw [show h - 1 = y by omega, hok]; rfl
        | succ k' => unfold Wy; rw [show h - 1 - (k' + 1) = y by omega, hok]; rfl
      | true =>
        refine b1 ?_
        refine brn (fun q => ?_) (fun q => ?_)
        · have hy1 : y + 1 < h := by
            have : y ≠ h - 1 := fun e => q (by rw [e])
            omega
          have hrow := row (K := q_X9_layWays_128 (nI R) fits top bottom may (nI h) (nI y) post (q_X9_layWays_148 (nI R) fits top bottom may (nI h) post K154 K4) (r_X9_layWays_10 (nI R) fits top bottom may (nI h) post (q_X9_layWays_148 (nI R) fits top bottom may (nI h) post K154 K4) (nI y) (m + 1))) y i hy1 (by omega) ways' (fun b hb => hup (y + 1) b (by omega) (by omega) hb) (fin _ (by
            obtain ⟨k', hk'⟩ : ∃ k', h - 1 - y = k' + 1 := ⟨h - 1 - y - 1, by omega⟩
            rw [hk', show h - 1 - (y + 1) = k' by omega]
            show _ = capM (if ok (h - 1 - (k' + 1)) i then fb_sm (fun b => if F i b then Wy R F B ok h k' b else 0) R else 0)
            rw [show h - 1 - (k' + 1) = y by omega, hok]; rfl)) R 0 (by omega)
          exact ⟨R + 1, hrow⟩
        · have hyl : y = h - 1 := nI_inj (by omega) (by omega) q
          refine ⟨vp_in_nI (by omega) (by decide), ?_⟩
          rw [nI_clamp (by omega), hB i (by omega)]
          cases hb : B i with
          | false => exact b0 (lastrow 0 hyl (by rw [show h - 1 - y = 0 by omega]; unfold Wy; rw [hb, Bool.and_false]; rfl))
          | true => exact b1 (lastrow 1 hyl (by rw [show h - 1 - y = 0 by omega]; unfold Wy; rw [hb, ← hyl, hok]; rfl))
  have outer : ∀ (m : Nat) (ways' : Nat → Int64), m ≤ h → (∀ y' a, m ≤ y' → y' < h → a < R → ways' (243 * y' + a) = lN (capM (Wy R F B ok h (h - 1 - y') a))) → r_X9_layWays_4 (nI R) fits top bottom may post (q_X9_layWays_154 (nI R) fits top bottom may post) (nI h) (m + 1) (nI m + (-1)) ways' := by
    intro m
    induction m with
    | zero =>
      intro ways' hm hw
      unfold r_X9_layWays_4
      refine br (fun _ => ?_) (fun q => absurd (by decide) q)
      unfold q_X9_layWays_154
      exact ⟨R + 1, last ways' (fun y a hy ha => hw y a (by omega) hy ha) R 0 (by omega)⟩
    | succ m ih =>
      intro ways' hm hw
      unfold r_X9_layWays_4
      rw [pk_m1]
      refine br (fun q => absurd q (nI_pos (by omega))) (fun _ => ?_)
      exact ⟨R + 1, level m (by omega) (fun ways2 hw2 => ih ways2 (by omega) hw2) R 0 ways' (by omega) hw (fun a ha => absurd ha (by omega))⟩
  have h0 := outer h ways (by omega) (fun y' a h1' h2 => absurd h1' (by omega))
  have e1 : nI h + (-1) = nI h - (1 : Int32) := by
    obtain ⟨h', rfl⟩ : ∃ h', h = h' + 1 := ⟨h - 1, by omega⟩
    rw [pk_m1, nI_pred]
  rw [e1] at h0
  exact ⟨h + 1, h0⟩
theorem s_allMay {R h : Nat} (hR : R ≤ 243) (h5 : h ≤ 5) {may : Nat → Int32} {post : (Nat → Int32) → Prop} (k : ∀ may', MayOk R h (fun _ _ => true) may' → post may') : q_X9_allMay (nI R) may (nI h) post := by
  unfold q_X9_allMay
  have inner : ∀ {K : Int32 → (Nat → Int32) → Prop} (y : Nat), y < h → (∀ may', (∀ y' a, y' < y + 1 → a < R → may' (243 * y' + a) = 1) → K (nI y) may') → ∀ (m i : Nat) (may' : Nat → Int32), i + m = R → (∀ y' a, y' < y → a < R → may' (243 * y' + a) = 1) → (∀ a, a < i → may' (243 * y + a) = 1) → r_X9_allMay_9 (nI R) (nI h) post K (nI y) (m + 1) (nI i) may' := by
    intro K y hy hK m
    induction m with
    | zero =>
      intro i may' hi hu hl
      unfold r_X9_allMay_9
      refine pk_le R i (fun _ => hK may' (fun y' a hy' ha => ?_)) (fun q => absurd q (by omega)) rfl rfl (by omega) (by omega)
      by_cases e : y' = y
      · rw [e]; exact hl a (by omega)
      · exact hu y' a (by omega) ha
    | succ m ih =>
      intro i may' hi hu hl
      unfold r_X9_allMay_9
      refine pk_le R i (fun q => absurd q (by omega)) (fun _ => ?_) rfl rfl (by omega) (by omega)
      rw [i243, nI_1]
      refine ⟨vp_in_nI (by omega) (by decide), ?_⟩
      rw [nI_clamp (by omega)]
      refine ih (i + 1) _ (by omega) (fun y' a hy' ha => ?_) (fun a ha => ?_)
      · rw [upd_n _ (by omega)]; exact hu y' a hy' ha
      · by_cases e : a = i
        · rw [e, upd_s]
        · rw [upd_n _ (by omega)]; exact hl a (by omega)
  have outer : ∀ (m y : Nat) (may' : Nat → Int32), y + m = h → (∀ y' a, y' < y → a < R → may' (243 * y' + a) = 1) → r_X9_allMay_2 (nI R) post (nI h) (m + 1) (nI y) may' := by
    intro m
    induction m with
    | zero =>
      intro y may' hy hu
      unfold r_X9_allMay_2
      exact pk_le h y (fun _ => k may' (fun y' a hy' ha => hu y' a (by omega) ha)) (fun q => absurd q (by omega)) rfl rfl (by omega) (by omega)
    | succ m ih =>
      intro y may' hy hu
      unfold r_X9_allMay_2
      refine pk_le h y (fun q => absurd q (by omega)) (fun _ => ?_) rfl rfl (by omega) (by omega)
      refine ⟨R + 1, inner y (by omega) (fun may2 h2 => ?_) R 0 may' (by omega) hu (fun a ha => absurd ha (by omega))⟩
      unfold q_X9_allMay_36
      rw [nI_1]
      exact ih (y + 1) may2 (by omega) h2
  exact ⟨h + 1, outer h 0 may (by omega) (fun y' a hy' => absurd hy' (by omega))⟩
