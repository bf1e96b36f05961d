/-! sizes -/
theorem Wy_all {R : Nat} {F : Nat → Nat → Bool} {B : Nat → Bool} (h h' : Nat) : ∀ k a, Wy R F B okAll h k a = Wy R F B okAll h' k a
  | 0, a => rfl
  | k + 1, a => by
    have e : (fun b => if F a b then Wy R F B okAll h k b else 0) = fun b => if F a b then Wy R F B okAll h' k b else 0 := funext fun b => by rw [Wy_all h h' k b]
    show (if okAll (h - 1 - (k + 1)) a then fb_sm (fun b => if F a b then Wy R F B okAll h k b else 0) R else 0) = if okAll (h' - 1 - (k + 1)) a then fb_sm (fun b => if F a b then Wy R F B okAll h' k b else 0) R else 0
    rw [e]
    rfl
theorem totA_at {al : Nat → Bool} {c w h : Nat} : fb_sm (gW (c ^ w) (Fi al c w) (Bt al c w) okAll 5 (h - 1) (Tp al c w)) (c ^ w) = totA al c h w := by
  unfold totA
  rw [← totW_eq]
  refine fb_sm_cong (fun r _ => ?_)
  unfold gW
  rw [Wy_all 5 h]
theorem or_bit {v j : Nat} (hj : j < 31) : nI v ||| ((1 : Int32) <<< (nI j &&& 31)) = nI (v ||| 2 ^ j) := by
  have hp : (2 : Nat) ^ j < 2 ^ 32 := Nat.pow_lt_pow_right (by decide) (by omega)
  rw [show (1 : Int32) = nI 1 from rfl, shlN (by omega) (by omega), Nat.one_mul, fa_or]
theorem or_lt {v j n : Nat} (hv : v < 2 ^ n) (hj : j < n) : v ||| 2 ^ j < 2 ^ n := Nat.or_lt_two_pow hv (Nat.pow_lt_pow_right (by decide) hj)
def szB (al : Nat → Bool) (c : Nat) (h w j : Nat) : Bool := decide (j < 25 ∧ (j % 5 + 1 < w ∨ (j % 5 + 1 = w ∧ j / 5 + 1 < h)) ∧ 0 < totA al c (j / 5 + 1) (j % 5 + 1))
def szM (al : Nat → Bool) (c : Nat) (h w j : Nat) : Bool := decide (j < 25 ∧ (j / 5 + 1 < h ∨ (j / 5 + 1 = h ∧ j % 5 + 1 < w)) ∧ 0 < totA al c (j / 5 + 1) (j % 5 + 1))
def szA (al : Nat → Bool) (c : Nat) (j : Nat) : Bool := decide (j < 25 ∧ 0 < totA al c (j / 5 + 1) (j % 5 + 1))
theorem sz_dm {h w : Nat} (hh : 1 ≤ h) (hw1 : 1 ≤ w) (hw : w ≤ 5) : (5 * (h - 1) + w - 1) / 5 + 1 = h ∧ (5 * (h - 1) + w - 1) % 5 + 1 = w := by omega
theorem tb_or_no {v j : Nat} {p q : Nat → Bool} (hp : ∀ i, v.testBit i = p i) (he : ∀ i, p i = q i) : ∀ i, v.testBit i = q i := fun i => by rw [hp i, he i]
theorem tb_or_yes {v j : Nat} {p q : Nat → Bool} (hp : ∀ i, v.testBit i = p i) (he : ∀ i, (p i || decide (i = j)) = q i) : ∀ i, (v ||| 2 ^ j).testBit i = q i := fun i => by rw [fb_bit_set, hp i, he i]
theorem dec_or {P Q S : Prop} [Decidable P] [Decidable Q] [Decidable S] (h : P ∨ Q ↔ S) : (decide P || decide Q) = decide S := by
  rw [← Bool.decide_or]; exact decide_eq_decide.mpr h
theorem s_sizesX {c : Nat} (hc2 : c = 2 ∨ c = 3) {al : Nat → Bool} {R : Nat → Int32} (hr : RuleOk al R) {wf fr pw pc : Nat → Int32} {ws ft : Nat → Int64} {a b d g e f : Int32} {post : Int32 → (Nat → Int32) → (Nat → Int64) → (Nat → Int64) → Int32 → Int32 → Int32 → Int32 → (Nat → Int32) → (Nat → Int32) → Int32 → Int32 → (Nat → Int32) → Prop}
    (k : ∀ v : Nat, v < 2 ^ 25 → (∀ j, v.testBit j = szA al c j) → ∀ wf' ws' ft' a' b' d' g' fr' pw' e' f' pc', post (nI v) wf' ws' ft' a' b' d' g' fr' pw' e' f' pc') : q_X8_sizes (nI c) R wf ws ft a b d g fr pw e f pc post := by
  unfold q_X8_sizes
  have inner : ∀ {K : Int32 → Int32 → (Nat → Int32) → (Nat → Int64) → (Nat → Int64) → Int32 → Int32 → Int32 → Int32 → (Nat → Int32) → (Nat → Int32) → Int32 → Int32 → (Nat → Int32) → Prop} {w : Nat} {wf ws ft fr pw pc}, 1 ≤ w → w ≤ 5 → RowsOk c w (nI c) (nI w) (nI (c ^ w)) (nI (4 ^ (w + 2) - 1)) fr pw → WaysX (c ^ w) (Fi al c w) (Bt al c w) okAll 5 ws → (∀ v, v < 2 ^ 25 → (∀ j, v.testBit j = szB al c 0 (w + 1) j) → K (nI v) (nI w) wf ws ft (nI c) (nI w) (nI (c ^ w)) (nI (4 ^ (w + 2) - 1)) fr pw (nI 5) (nI w) pc) → ∀ (m h v : Nat), h + m = 6 → 1 ≤ h → v < 2 ^ 25 → (∀ j, v.testBit j = szB al c h w j) → r_X8_sizes_17 (nI c) R post K (nI w) wf ws ft (nI c) (nI w) (nI (c ^ w)) (nI (4 ^ (w + 2) - 1)) fr pw (nI 5) (nI w) pc (m + 1) (nI v) (nI h) := by
    intro K w wf ws ft fr pw pc hw1 hw hR hW hK m
    induction m with
    | zero =>
      intro h v hm hh1 hv hb
      unfold r_X8_sizes_17
      refine pk_lt 5 h (fun _ => hK v hv (tb_or_no (j := 0) hb (fun i => ?_))) (fun q => absurd q (by omega)) rfl rfl (by omega) (by omega)
      unfold szB
      apply decide_eq_decide.mpr
      omega
    | succ m ih =>
      intro h v hm hh1 hv hb
      unfold r_X8_sizes_17
      refine pk_lt 5 h (fun q => absurd q (by omega)) (fun _ => ?_) rfl rfl (by omega) (by omega)
      rw [show (5 : Int32) = nI 5 from rfl, pk_sub (by omega)]
      refine s_total (y := 5 - h) (by omega) (by omega) hw (by decide) (by omega) hr hR.2.2.2.2.1 hW ?_
      have h243 := pow_le243 (show c ≤ 3 by omega) hw
      have hlt : totA al c h w ≤ 243 * 3486784401 := totW_lt h243 (by omega)
      rw [show 5 - 1 - (5 - h) = h - 1 by omega, totA_at, show (0 : Int64) = lN 0 from rfl, pk_lLE (by omega) (by decide), nI_1]
      have dm := sz_dm hh1 hw1 hw
      refine br (fun q => ih (h + 1) v (by omega) (by omega) hv (tb_or_no (j := 0) hb (fun i => ?_))) (fun q => ?_)
      · unfold szB
        apply decide_eq_decide.mpr
        constructor
        · rintro ⟨h1, h2, h3⟩; exact ⟨h1, by omega, h3⟩
        · rintro ⟨h1, h2, h3⟩
          refine ⟨h1, ?_, h3⟩
          by_cases e : i % 5 + 1 = w ∧ i / 5 + 1 = h
          · rw [e.1, e.2] at h3; omega
          · omega
      · intro v6 e6
        have ei : (nI 5 * (nI h - (1 : Int32)) + nI w) - (1 : Int32) = nI (5 * (h - 1) + w - 1) := by
          rw [show (1 : Int32) = nI 1 from rfl, pk_sub hh1, pk_mul, nI_add, pk_sub (by omega)]
        rw [ei, or_bit (by omega)] at e6
        rw [e6]
        refine ih (h + 1) _ (by omega) (by omega) (or_lt hv (by omega)) (tb_or_yes hb (fun i => ?_))
        unfold szB
        refine dec_or ?_
        constructor
        · rintro (⟨h1, h2, h3⟩ | rfl)
          · exact ⟨h1, by omega, h3⟩
          · refine ⟨by omega, by omega, ?_⟩
            rw [dm.1, dm.2]; omega
        · rintro ⟨h1, h2, h3⟩
          by_cases e : i % 5 + 1 = w ∧ i / 5 + 1 = h
          · right; omega
          · left; exact ⟨h1, by omega, h3⟩
  have outer : ∀ (m w v : Nat) (wf : Nat → Int32) (ws ft : Nat → Int64) (a b d g : Int32) (fr pw : Nat → Int32) (e f : Int32) (pc : Nat → Int32), w + m = 6 → 1 ≤ w → v < 2 ^ 25 → (∀ j, v.testBit j = szB al c 0 w j) → r_X8_sizes_4 (nI c) R post (m + 1) (nI v) (nI w) wf ws ft a b d g fr pw e f pc := by
    intro m
    induction m with
    | zero =>
      intro w v wf ws ft a b d g fr pw e f pc hm hw1 hv hb
      unfold r_X8_sizes_4
      refine pk_lt 5 w (fun _ => k v hv (tb_or_no (j := 0) hb (fun i => ?_)) _ _ _ _ _ _ _ _ _ _ _ _) (fun q => absurd q (by omega)) rfl rfl (by omega) (by omega)
      unfold szB szA
      apply decide_eq_decide.mpr
      constructor
      · rintro ⟨h1, h2, h3⟩; exact ⟨h1, h3⟩
      · rintro ⟨h1, h3⟩; exact ⟨h1, by omega, h3⟩
    | succ m ih =>
      intro w v wf ws ft a b d g fr pw e f pc hm hw1 hv hb
      unfold r_X8_sizes_4
      refine pk_lt 5 w (fun q => absurd q (by omega)) (fun _ => ?_) rfl rfl (by omega) (by omega)
      rw [show (5 : Int32) = nI 5 from rfl]
      refine s_openWhole hc2 hw1 (by omega) (by decide) (by decide) hr (fun wf' ws' ft' fr' pw' pc' hR hW => ?_)
      refine ⟨6, inner hw1 (by omega) hR hW (fun v' hv' hb' => ?_) 5 1 v (by omega) (by omega) hv (tb_or_no (j := 0) hb (fun i => ?_))⟩
      · unfold q_X8_sizes_57
        rw [nI_1]
        exact ih (w + 1) v' _ _ _ _ _ _ _ _ _ _ _ _ (by omega) (by omega) hv' hb'
      · unfold szB
        apply decide_eq_decide.mpr
        omega
  refine ⟨6, outer 5 1 0 _ _ _ _ _ _ _ _ _ _ _ _ (by omega) (by omega) (by decide) (fun j => ?_)⟩
  rw [Nat.zero_testBit]
  unfold szB
  exact (decide_eq_false (by omega)).symm
theorem s_sizesM {c : Nat} (hc : c ≤ 3) (h1c : 1 ≤ c) {al : Nat → Bool} {R : Nat → Int32} (hr : RuleM al R) {mr : Int32} {fits top bottom may : Nat → Int32} {ways : Nat → Int64} {post : Int32 → Int32 → (Nat → Int32) → (Nat → Int32) → (Nat → Int32) → (Nat → Int32) → (Nat → Int64) → Prop}
    (k : ∀ v : Nat, v < 2 ^ 25 → (∀ j, v.testBit j = szA al c j) → ∀ mr' fits' top' bottom' may' ways', post (nI v) mr' fits' top' bottom' may' ways') : q_X9_sizes (nI c) R mr fits top bottom may ways post := by
  unfold q_X9_sizes
  have inner : ∀ {K : Int32 → Int32 → Int32 → (Nat → Int32) → (Nat → Int32) → (Nat → Int32) → (Nat → Int32) → (Nat → Int64) → Prop} {h : Nat}, 1 ≤ h → h ≤ 5 → (∀ v mr fits top bottom may ways, v < 2 ^ 25 → (∀ j, v.testBit j = szM al c (h + 1) 0 j) → K (nI v) (nI h) mr fits top bottom may ways) → ∀ (m w v : Nat) (mr : Int32) (fits top bottom may : Nat → Int32) (ways : Nat → Int64), w + m = 6 → 1 ≤ w → v < 2 ^ 25 → (∀ j, v.testBit j = szM al c h w j) → r_X9_sizes_12 (nI c) R post K (nI h) (m + 1) (nI v) (nI w) mr fits top bottom may ways := by
    intro K h hh1 hh hK m
    induction m with
    | zero =>
      intro w v mr fits top bottom may ways hm hw1 hv hb
      unfold r_X9_sizes_12
      refine pk_le 6 w (fun _ => hK v _ _ _ _ _ _ hv (tb_or_no (j := 0) hb (fun i => ?_))) (fun q => absurd q (by omega)) rfl rfl (by omega) (by omega)
      unfold szM
      apply decide_eq_decide.mpr
      omega
    | succ m ih =>
      intro w v mr fits top bottom may ways hm hw1 hv hb
      unfold r_X9_sizes_12
      refine pk_le 6 w (fun q => absurd q (by omega)) (fun _ => ?_) rfl rfl (by omega) (by omega)
      refine s_countAll hc h1c (by omega) hh1 hh hr (fun fits' top' bottom' may' ways' hF hW => ?_)
      have hcl := capM_le (totW (c ^ w) (Fi al c w) (Tp al c w) (Bt al c w) okAll h)
      have hcz : capM (totW (c ^ w) (Fi al c w) (Tp al c w) (Bt al c w) okAll h) ≤ 0 ↔ totA al c h w ≤ 0 := by
        show capM (totA al c h w) ≤ 0 ↔ _
        unfold capM; split <;> omega
      rw [show (0 : Int64) = lN 0 from rfl, pk_lLE (by omega) (by decide), hcz, nI_1]
      have dm := sz_dm hh1 hw1 (show w ≤ 5 by omega)
      refine br (fun q => ?_) (fun q => ?_)
      · have e0 : nI v ||| (0 : Int32) = nI v := by rw [show (0 : Int32) = nI 0 from rfl, fa_or, Nat.or_zero]
        rw [e0]
        refine ih (w + 1) v _ _ _ _ _ _ (by omega) (by omega) hv (tb_or_no (j := 0) hb (fun i => ?_))
        unfold szM
        apply decide_eq_decide.mpr
        constructor
        · rintro ⟨h1, h2, h3⟩; exact ⟨h1, by omega, h3⟩
        · rintro ⟨h1, h2, h3⟩
          refine ⟨h1, ?_, h3⟩
          by_cases e : i % 5 + 1 = w ∧ i / 5 + 1 = h
          · rw [e.1, e.2] at h3; omega
          · omega
      · intro v6 e6
        have ei : ((5 : Int32) * (nI h - (1 : Int32)) + nI w) - (1 : Int32) = nI (5 * (h - 1) + w - 1) := by
          rw [show (5 : Int32) = nI 5 from rfl, show (1 : Int32) = nI 1 from rfl, pk_sub hh1, pk_mul, nI_add, pk_sub (by omega)]
        rw [ei, or_bit (by omega)] at e6
        rw [e6]
        refine ih (w + 1) _ _ _ _ _ _ _ (by omega) (by omega) (or_lt hv (by omega)) (tb_or_yes hb (fun i => ?_))
        unfold szM
        refine dec_or ?_
        constructor
        · rintro (⟨h1, h2, h3⟩ | rfl)
          · exact ⟨h1, by omega, h3⟩
          · refine ⟨by omega, by omega, ?_⟩
            rw [dm.1, dm.2]; omega
        · rintro ⟨h1, h2, h3⟩
          by_cases e : i % 5 + 1 = w ∧ i / 5 + 1 = h
          · right; omega
          · left; exact ⟨h1, by omega, h3⟩
  have outer : ∀ (m h v : Nat) (mr : Int32) (fits top bottom may : Nat → Int32) (ways : Nat → Int64), h + m = 6 → 1 ≤ h → v < 2 ^ 25 → (∀ j, v.testBit j = szM al c h 0 j) → r_X9_sizes_4 (nI c) R post (m + 1) (nI v) (nI h) mr fits top bottom may ways := by
    intro m
    induction m with
    | zero =>
      intro h v mr fits top bottom may ways hm hh1 hv hb
      unfold r_X9_sizes_4
      refine pk_le 6 h (fun _ => k v hv (tb_or_no (j := 0) hb (fun i => ?_)) _ _ _ _ _ _) (fun q => absurd q (by omega)) rfl rfl (by omega) (by omega)
      unfold szM szA
      apply decide_eq_decide.mpr
      constructor
      · rintro ⟨h1, h2, h3⟩; exact ⟨h1, h3⟩
      · rintro ⟨h1, h3⟩; exact ⟨h1, by omega, h3⟩
    | succ m ih =>
      intro h v mr fits top bottom may ways hm hh1 hv hb
      unfold r_X9_sizes_4
      refine pk_le 6 h (fun q => absurd q (by omega)) (fun _ => ?_) rfl rfl (by omega) (by omega)
      refine ⟨6, inner hh1 (by omega) (fun v' mr' f' t' b' m' w' hv' hb' => ?_) 5 1 v _ _ _ _ _ _ (by omega) (by omega) hv (tb_or_no (j := 0) hb (fun i => ?_))⟩
      · unfold q_X9_sizes_53
        rw [nI_1]
        exact ih (h + 1) v' _ _ _ _ _ _ (by omega) (by omega) hv' hb'
      · unfold szM
        apply decide_eq_decide.mpr
        omega
  refine ⟨6, outer 5 1 0 _ _ _ _ _ _ (by omega) (by omega) (by decide) (fun j => ?_)⟩
  rw [Nat.zero_testBit]
  unfold szM
  exact (decide_eq_false (by omega)).symm
