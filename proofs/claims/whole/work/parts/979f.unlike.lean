/-! the class's views: the walk over looks -/
theorem aft_none {R : Nat} {F : Nat → Nat → Bool} {S : Nat → Bool} (h : ∀ r, r < R → S r = false) (b : Nat) : aft R F S b = false := by
  apply Bool.eq_false_iff.mpr
  intro z
  obtain ⟨a, h1, h2, _⟩ := aft_iff.mp z
  rw [h a h1] at h2
  exact absurd h2 (by decide)
theorem NV_take {R G : Nat} {F : Nat → Nat → Bool} {B : Nat → Bool} {cl : Nat → Nat} {kept : Nat → Int32} {s m e L0 k : Nat} (hL : L0 < G) (hsm : s ≤ m) (hme : m ≤ e) (ha : ∀ i, s ≤ i → i < m → cl (kN kept i) = L0) (hb : ∀ i, m ≤ i → i < e → L0 < cl (kN kept i)) :
    NV R G F B cl (k + 1) (rmS kept s e) = NV R G F B cl k (aft R F (rmS kept s m)) + NV R G F B cl (k + 1) (rmS kept m e) := by
  rw [NV_s, NV_s]
  have eA : NV R G F B cl k (aft R F (fun r => rmS kept s e r && decide (cl r = L0))) = NV R G F B cl k (aft R F (rmS kept s m)) := by
    refine NV_congr (fun _ _ => rfl) k (fun b _ => aft_congr (fun r _ => ?_) b)
    apply bool_iff
    rw [Bool.and_eq_true, decide_eq_true_iff, rmS_iff, rmS_iff]
    constructor
    · rintro ⟨⟨i, a1, a2, a3⟩, a4⟩
      by_cases z : i < m
      · exact ⟨i, a1, z, a3⟩
      · have := hb i (by omega) a2
        rw [a3] at this; omega
    · rintro ⟨i, a1, a2, a3⟩
      exact ⟨⟨i, a1, by omega, a3⟩, by rw [← a3]; exact ha i a1 a2⟩
  have e0 : NV R G F B cl k (aft R F (fun r => rmS kept m e r && decide (cl r = L0))) = 0 := by
    refine NV_empty k (fun b _ => aft_none (fun r _ => ?_) b)
    apply Bool.eq_false_iff.mpr
    intro z
    rw [Bool.and_eq_true, decide_eq_true_iff, rmS_iff] at z
    obtain ⟨⟨i, a1, a2, a3⟩, a4⟩ := z
    have := hb i a1 a2
    rw [a3] at this; omega
  have ef : fb_sm (fun l => NV R G F B cl k (aft R F (fun r => rmS kept s e r && decide (cl r = l)))) G = fb_sm (fun l => (if l = L0 then NV R G F B cl k (aft R F (rmS kept s m)) else 0) + NV R G F B cl k (aft R F (fun r => rmS kept m e r && decide (cl r = l)))) G := by
    refine fb_sm_cong (fun l _ => ?_)
    by_cases z : l = L0
    · rw [z, if_pos rfl, eA, e0, Nat.add_zero]
    · rw [if_neg z, Nat.zero_add]
      refine NV_congr (fun _ _ => rfl) k (fun b _ => aft_congr (fun r _ => ?_) b)
      apply bool_iff
      rw [Bool.and_eq_true, Bool.and_eq_true, decide_eq_true_iff, rmS_iff, rmS_iff]
      constructor
      · rintro ⟨⟨i, a1, a2, a3⟩, a4⟩
        refine ⟨⟨i, ?_, a2, a3⟩, a4⟩
        by_cases z2 : i < m
        · have := ha i a1 z2
          rw [a3] at this; omega
        · omega
      · rintro ⟨⟨i, a1, a2, a3⟩, a4⟩
        exact ⟨⟨i, by omega, a2, a3⟩, a4⟩
  rw [ef, fb_sm_add]
  congr 1
  have e1 := sm_one (f := fun l => if l = L0 then NV R G F B cl k (aft R F (rmS kept s m)) else 0) hL (fun r _ hne => if_neg hne)
  rw [e1]
  exact if_pos rfl
theorem ct_wt (p : Nat → Bool) : ∀ n, fb_ct p n = fb_sm (fun l => wt (p l)) n
  | 0 => rfl
  | n + 1 => by rw [fb_ct_succ, fb_sm_succ, ct_wt p n]; rfl
theorem NV_last {R G : Nat} {F : Nat → Nat → Bool} {B : Nat → Bool} {cl : Nat → Nat} {S D : Nat → Bool} (hcl : ∀ r, cl r < G) (hG : G ≤ 32) (hD : ∀ r, r < R → D r = (S r && B r)) : fb_ct (fun l => anyB R (fun r => D r && decide (cl r = l))) 32 = NV R G F B cl 0 S := by
  obtain ⟨d, hd⟩ : ∃ d, 32 = G + d := ⟨32 - G, by omega⟩
  rw [hd, fb_ct_split, NV_0]
  have ez : fb_ct (fun l => anyB R (fun r => D r && decide (cl r = G + l))) d = 0 := fb_ct_zero.mpr (fun l _ => anyB_f (fun r hr => by
    have := hcl r
    rw [decide_eq_false (show ¬ cl r = G + l by omega), Bool.and_false]))
  rw [ez, Nat.add_zero, ct_wt]
  exact fb_sm_cong (fun l _ => congrArg wt (anyB_congr (fun r hr => by rw [hD r hr])))
/-- steps that a level may take -/
def Tc (G : Nat) : Nat → Nat
  | 0 => 1
  | k + 1 => 2 + G * Tc G k
def rlS (G : Nat) (cl : Nat → Nat) (kept : Nat → Int32) (s e : Nat) : Nat := if s < e then G - cl (kN kept s) else 0
theorem rlS_le (G : Nat) (cl : Nat → Nat) (kept : Nat → Int32) (s e : Nat) : rlS G cl kept s e ≤ G := by unfold rlS; split <;> omega
theorem rlS_take {G : Nat} {cl : Nat → Nat} {kept : Nat → Int32} {s m e : Nat} (hcl : ∀ r, cl r < G) (hs : s < m) (hm : m ≤ e) (hb : ∀ i, m ≤ i → i < e → cl (kN kept s) < cl (kN kept i)) : rlS G cl kept m e + 1 ≤ rlS G cl kept s e := by
  unfold rlS
  have h1 := hcl (kN kept s)
  rw [if_pos (show s < e by omega)]
  by_cases z : m < e
  · rw [if_pos z]
    have := hb m (Nat.le_refl _) z
    have h2 := hcl (kN kept m)
    omega
  · rw [if_neg z]; omega
def Stk (R G n : Nat) (F : Nat → Nat → Bool) (B : Nat → Bool) (cl : Nat → Nat) (kept en nx : Nat → Int32) : Nat → Nat → Nat → Prop
  | 0, t, p => t = 0 ∧ p = 0
  | j + 1, t, p => ∃ t' p' s e, Stk R G n F B cl kept en nx j t' p' ∧ nx j = nI s ∧ en j = nI e ∧ j * R ≤ s ∧ s ≤ e ∧ e ≤ (j + 1) * R ∧ SegOk R cl kept s e ∧ t = t' + NV R G F B cl (n - j) (rmS kept s e) ∧ p = p' + rlS G cl kept s e * Tc G (n - 1 - j) + 1
theorem rlS_congr {G : Nat} {cl : Nat → Nat} {f g : Nat → Int32} {s e : Nat} (h : ∀ i, i < e → f i = g i) : rlS G cl f s e = rlS G cl g s e := by
  unfold rlS
  by_cases z : s < e
  · rw [if_pos z, if_pos z, kN_congr (h s z)]
  · rw [if_neg z, if_neg z]
theorem Stk_congr {R G n : Nat} {F : Nat → Nat → Bool} {B : Nat → Bool} {cl : Nat → Nat} {kept en nx kept' en' nx' : Nat → Int32} : ∀ {L t p : Nat}, (∀ i, i < L * R → kept' i = kept i) → (∀ j, j < L → en' j = en j) → (∀ j, j < L → nx' j = nx j) → Stk R G n F B cl kept en nx L t p → Stk R G n F B cl kept' en' nx' L t p
  | 0, t, p, _, _, _, h => h
  | j + 1, t, p, hk, he, hn, h => by
    obtain ⟨t', p', s, e, g0, g1, g2, g3, g4, g5, g6, g7, g8⟩ := h
    have hk' : ∀ i, i < e → kept' i = kept i := fun i hi => hk i (by omega)
    have hj : j * R ≤ (j + 1) * R := Nat.mul_le_mul_right R (by omega)
    exact ⟨t', p', s, e, Stk_congr (fun i hi => hk i (by omega)) (fun i hi => he i (by omega)) (fun i hi => hn i (by omega)) g0, by rw [hn j (by omega)]; exact g1, by rw [he j (by omega)]; exact g2, g3, g4, g5, SegOk_congr hk' g6, by rw [rmS_congr hk']; exact g7, by rw [rlS_congr hk']; exact g8⟩
theorem Stk_s {R G n : Nat} {F : Nat → Nat → Bool} {B : Nat → Bool} {cl : Nat → Nat} {kept en nx : Nat → Int32} {j t p : Nat} : Stk R G n F B cl kept en nx (j + 1) t p ↔ ∃ t' p' s e, Stk R G n F B cl kept en nx j t' p' ∧ nx j = nI s ∧ en j = nI e ∧ j * R ≤ s ∧ s ≤ e ∧ e ≤ (j + 1) * R ∧ SegOk R cl kept s e ∧ t = t' + NV R G F B cl (n - j) (rmS kept s e) ∧ p = p' + rlS G cl kept s e * Tc G (n - 1 - j) + 1 := Iff.rfl
theorem s_unlikeLoop {c w h : Nat} (h1 : 1 ≤ c) (hc : c ≤ 3) (hw : w ≤ 5) (hh2 : 2 ≤ h) (hh : h ≤ 5) (hyR : (h - 1) * c ^ w ≤ 243) {al : Nat → Bool} {R fr : Nat → Int32} (hr : RuleOk al R) (hf : ∀ r, r < c ^ w → fr r = nI (frm c w r)) {ws : Nat → Int64} (hW : WaysX (c ^ w) (Fi al c w) (Bt al c w) okAll h ws) {cl : Nat → Nat} (hcl : ∀ r, cl r < 2 ^ w) {lt lo bl : Nat → Int32} (hlo : ∀ r, r < c ^ w → lo r = nI (cl r)) (hbl : BylOk (c ^ w) cl bl) {rg : Int32} {total : Nat} {post : Int32 → (Nat → Int32) → (Nat → Int32) → (Nat → Int32) → (Nat → Int32) → (Nat → Int32) → (Nat → Int32) → Prop} (k : ∀ kept en first nx, post (nI total) lo bl kept en first nx) :
    ∀ (fuel L t p a i : Nat) (kept en first nx : Nat → Int32), Stk (c ^ w) (2 ^ w) (h - 1) (Fi al c w) (Bt al c w) cl kept en nx L t p → L ≤ h - 1 → p ≤ fuel → i + fuel < 1000000 → a + t = total → r_X6_unlike_42 lt ws (nI w) (nI (c ^ w)) rg fr R (nI h) post (nI (h - 1)) lo bl (fuel + 1) (nI a) (nI L + (-1)) (nI i) kept en first nx := by
  have h243 := pow_le243 hc hw
  have h2w : (2 : Nat) ^ w ≤ 32 := Nat.le_trans (Nat.pow_le_pow_right (by decide) hw) (by decide)
  have hcl32 : ∀ r, cl r < 32 := fun r => Nat.lt_of_lt_of_le (hcl r) h2w
  intro fuel
  induction fuel with
  | zero =>
    intro L t p a i kept en first nx hS hL hp hi ht
    cases L with
    | zero =>
      unfold r_X6_unlike_42
      refine pk_le 1000000 i (fun q => absurd q (by omega)) (fun _ => br (fun _ => ?_) (fun q => absurd (by decide) q)) rfl rfl (by omega) (by omega)
      have : t = 0 := hS.1
      rw [show a = total by omega]
      exact k _ _ _ _
    | succ j =>
      obtain ⟨t', p', s, e, g0, g1, g2, g3, g4, g5, g6, g7, g8⟩ := Stk_s.mp hS
      omega
  | succ fuel ih =>
    intro L t p a i kept en first nx hS hL hp hi ht
    cases L with
    | zero =>
      unfold r_X6_unlike_42
      refine pk_le 1000000 i (fun q => absurd q (by omega)) (fun _ => br (fun _ => ?_) (fun q => absurd (by decide) q)) rfl rfl (by omega) (by omega)
      have : t = 0 := hS.1
      rw [show a = total by omega]
      exact k _ _ _ _
    | succ j =>
      obtain ⟨t', p', s, e, g0, g1, g2, g3, g4, g5, g6, g7, g8⟩ := Stk_s.mp hS
      have hjR : (j + 1) * c ^ w ≤ (h - 1) * c ^ w := Nat.mul_le_mul_right _ hL
      unfold r_X6_unlike_42
      rw [pk_m1, nI_1 i]
      refine pk_le 1000000 i (fun q => absurd q (by omega)) (fun _ => br (fun q => absurd q (nI_pos (by omega))) (fun _ => ?_)) rfl rfl (by omega) (by omega)
      refine s_takeLook h243 hcl32 hlo (show j < 5 by omega) g1 g2 g4 (by omega) g6 (fun m hsm hme hA hB => ?_) (fun hse => ?_)
      · refine c1 ?_
        obtain ⟨k', hk'⟩ : ∃ k', h - 1 - j = k' + 1 := ⟨h - 1 - j - 1, by omega⟩
        have hNV := NV_take (R := c ^ w) (G := 2 ^ w) (F := Fi al c w) (B := Bt al c w) (cl := cl) (kept := kept) (k := k') (hcl (kN kept s)) (show s ≤ m by omega) hme hA hB
        have hrl := rlS_take hcl hsm hme hB
        rw [hk'] at g7
        rw [hNV] at g7
        have hn1 : upd nx j (nI m) j = nI m := upd_s _ _ _
        have hf1 : upd first j (nI s) j = nI s := upd_s _ _ _
        have hkS : ∀ i, s ≤ i → i < m → InR (c ^ w) kept i := fun i a1 a2 => g6.1 i a1 (by omega)
        -- the level as it stands behind the look that is taken
        have hS1 : ∀ (kp en' nx' : Nat → Int32), (∀ i, i < (j + 1) * c ^ w → kp i = kept i) → (∀ x, x < j + 1 → en' x = en x) → (∀ x, x < j + 1 → nx' x = upd nx j (nI m) x) → Stk (c ^ w) (2 ^ w) (h - 1) (Fi al c w) (Bt al c w) cl kp en' nx' (j + 1) (t' + NV (c ^ w) (2 ^ w) (Fi al c w) (Bt al c w) cl (k' + 1) (rmS kept m e)) (p' + rlS (2 ^ w) cl kept m e * Tc (2 ^ w) (h - 1 - 1 - j) + 1) := by
          intro kp en' nx' q1 q2 q3
          have hke : ∀ i, i < e → kp i = kept i := fun i hi => q1 i (by omega)
          have hjr : j * c ^ w ≤ (j + 1) * c ^ w := Nat.mul_le_mul_right _ (by omega)
          refine Stk_s.mpr ⟨t', p', m, e, Stk_congr (fun i hi => q1 i (by omega)) (fun x hx => q2 x (by omega)) (fun x hx => by rw [q3 x (by omega), upd_n _ (by omega)]) g0, by rw [q3 j (by omega)]; exact hn1, by rw [q2 j (by omega)]; exact g2, by omega, hme, g5, SegOk_congr hke (SegOk_sub (show s ≤ m by omega) (Nat.le_refl _) g6), ?_, ?_⟩
          · rw [hk', rmS_congr hke]
          · rw [rlS_congr hke]
        by_cases hlast : j + 1 = h - 1
        · -- the last level
          rw [nI_1 j]
          refine brn (fun q => absurd (by rw [hlast]) q) (fun _ => ?_)
          have hk0 : k' = 0 := by omega
          rw [hk0] at g7
          rw [show nI (h - 1) = nI (j + 1) by rw [hlast]]
          refine s_reachL h243 hcl32 (show j + 1 + 1 = h by omega) hh hlo hbl (D := fun r => aft (c ^ w) (Fi al c w) (rmS kept s m) r && avS (c ^ w) (Fi al c w) (Bt al c w) h (h - 1 - (j + 1)) r) (fun r hrr post' kk => s_mayRow h1 hc hw hh hr hf hW (show j + 1 < h by omega) (show s ≤ m by omega) (by omega) hf1 hn1 hkS hrr kk) (fun en' nx' q1 q2 => ?_)
          rw [NV_last (R := c ^ w) (G := 2 ^ w) (F := Fi al c w) (B := Bt al c w) (cl := cl) (S := aft (c ^ w) (Fi al c w) (rmS kept s m)) hcl h2w (fun r _ => by rw [show h - 1 - (j + 1) = 0 by omega, av_0])]
          rw [nI_add]
          have hS2 := hS1 kept en' nx' (fun _ _ => rfl) q1 q2
          rw [hk0, show h - 1 - 1 - j = 0 by omega] at hS2
          rw [show h - 1 - 1 - j = 0 by omega] at g8
          have e4 : Tc (2 ^ w) 0 = 1 := rfl
          rw [e4, Nat.mul_one] at hS2 g8
          have := ih (j + 1) _ _ (a + NV (c ^ w) (2 ^ w) (Fi al c w) (Bt al c w) cl 0 (aft (c ^ w) (Fi al c w) (rmS kept s m))) (i + 1) kept en' (upd first j (nI s)) nx' hS2 hL (by omega) (by omega) (by omega)
          rw [pk_m1] at this
          rw [hlast]
          exact this
        · rw [nI_1 j]
          have hne : ¬ nI (j + 1) = nI (h - 1) := by rw [nI_eq (by omega) (by omega)]; exact hlast
          refine brn (fun _ => ?_) (fun q => absurd q hne)
          have hjR2 : (j + 1 + 1) * c ^ w ≤ (h - 1) * c ^ w := Nat.mul_le_mul_right _ (by omega)
          refine s_reachK h243 hcl32 (show j + 1 + 1 < h by omega) hh (by omega) hlo hbl (D := fun r => aft (c ^ w) (Fi al c w) (rmS kept s m) r && avS (c ^ w) (Fi al c w) (Bt al c w) h (h - 1 - (j + 1)) r) (fun kp hkp r hrr post' kk => ?_) (fun x kp n' hn' hkp hSeg hrm => ?_)
          · have hm : ∀ i, i < m → kp i = kept i := fun i hi => hkp i (by omega)
            refine s_mayRow h1 hc hw hh hr hf hW (show j + 1 < h by omega) (show s ≤ m by omega) (by omega) hf1 hn1 (fun i a1 a2 => InR_congr (hm i a2) (hkS i a1 a2)) hrr ?_
            rw [rmS_congr hm]; exact kk
          · have hS2 := hS1 kp (upd en (j + 1) (nI ((j + 1) * c ^ w + n'))) (upd (upd nx j (nI m)) (j + 1) (nI ((j + 1) * c ^ w))) hkp (fun x hx => upd_n _ (by omega)) (fun x hx => upd_n _ (by omega))
            have e3 : (j + 1 + 1) * c ^ w = (j + 1) * c ^ w + c ^ w := Nat.succ_mul _ _
            have hk2 : h - 1 - (j + 1) = k' := by omega
            have eN : NV (c ^ w) (2 ^ w) (Fi al c w) (Bt al c w) cl k' (rmS kp ((j + 1) * c ^ w) ((j + 1) * c ^ w + n')) = NV (c ^ w) (2 ^ w) (Fi al c w) (Bt al c w) cl k' (aft (c ^ w) (Fi al c w) (rmS kept s m)) := by
              rw [← NV_av (h := h) k' (aft (c ^ w) (Fi al c w) (rmS kept s m))]
              exact NV_congr (fun _ _ => rfl) k' (fun r hrr => by rw [hrm r hrr, hk2])
            have hS3 : Stk (c ^ w) (2 ^ w) (h - 1) (Fi al c w) (Bt al c w) cl kp (upd en (j + 1) (nI ((j + 1) * c ^ w + n'))) (upd (upd nx j (nI m)) (j + 1) (nI ((j + 1) * c ^ w))) (j + 1 + 1) (t' + NV (c ^ w) (2 ^ w) (Fi al c w) (Bt al c w) cl (k' + 1) (rmS kept m e) + NV (c ^ w) (2 ^ w) (Fi al c w) (Bt al c w) cl k' (aft (c ^ w) (Fi al c w) (rmS kept s m))) (p' + rlS (2 ^ w) cl kept m e * Tc (2 ^ w) (h - 1 - 1 - j) + 1 + rlS (2 ^ w) cl kp ((j + 1) * c ^ w) ((j + 1) * c ^ w + n') * Tc (2 ^ w) (h - 1 - 1 - (j + 1)) + 1) := by
              refine Stk_s.mpr ⟨_, _, (j + 1) * c ^ w, (j + 1) * c ^ w + n', hS2, upd_s _ _ _, upd_s _ _ _, Nat.le_refl _, by omega, by omega, hSeg, ?_, rfl⟩
              rw [hk2, eN]
            have hT : Tc (2 ^ w) (h - 1 - 1 - j) = 2 + 2 ^ w * Tc (2 ^ w) (h - 1 - 1 - (j + 1)) := by
              rw [show h - 1 - 1 - j = (h - 1 - 1 - (j + 1)) + 1 by omega]; rfl
            have hm1 : rlS (2 ^ w) cl kp ((j + 1) * c ^ w) ((j + 1) * c ^ w + n') * Tc (2 ^ w) (h - 1 - 1 - (j + 1)) ≤ 2 ^ w * Tc (2 ^ w) (h - 1 - 1 - (j + 1)) := Nat.mul_le_mul_right _ (rlS_le _ _ _ _ _)
            have hm2 : (rlS (2 ^ w) cl kept m e + 1) * Tc (2 ^ w) (h - 1 - 1 - j) ≤ rlS (2 ^ w) cl kept s e * Tc (2 ^ w) (h - 1 - 1 - j) := Nat.mul_le_mul_right _ hrl
            rw [Nat.succ_mul] at hm2
            have := ih (j + 1 + 1) _ _ a (i + 1) kp _ (upd first j (nI s)) _ hS3 (by omega) (by omega) (by omega) (by omega)
            rw [pk_m1] at this
            exact this
      · refine c0 ?_
        have e0 : NV (c ^ w) (2 ^ w) (Fi al c w) (Bt al c w) cl (h - 1 - j) (rmS kept s e) = 0 := NV_empty _ (fun r _ => by
          apply Bool.eq_false_iff.mpr
          intro z
          obtain ⟨x, a1, a2, a3⟩ := rmS_iff.mp z
          omega)
        exact ih j t' p' a (i + 1) kept en first nx g0 (by omega) (by omega) (by omega) (by omega)
theorem steps_ok : ∀ h, h < 6 → ∀ w, w < 6 → h * w ≤ 12 → 2 ^ w * Tc (2 ^ w) (h - 1 - 1) + 1 < 1000000 := by decide +kernel
theorem kept_ok : ∀ h, h < 6 → ∀ w, w < 6 → h * w ≤ 12 → (h - 1) * 3 ^ w ≤ 243 := by decide +kernel
theorem s_unlike {c w h : Nat} (h1 : 1 ≤ c) (hc : c ≤ 3) (hw1 : 1 ≤ w) (hw : w ≤ 5) (hh1 : 1 ≤ h) (hh : h ≤ 5) (h12 : h * w ≤ 12) {al : Nat → Bool} {R fr : Nat → Int32} (hr : RuleOk al R) (hf : ∀ r, r < c ^ w → fr r = nI (frm c w r)) {ws : Nat → Int64} (hW : WaysX (c ^ w) (Fi al c w) (Bt al c w) okAll h ws) {lt : Nat → Int32} {lb : Nat → Bool} (hl : LtOk lt lb) {lo bl kept en first nx : Nat → Int32} {post : Int32 → (Nat → Int32) → (Nat → Int32) → (Nat → Int32) → (Nat → Int32) → (Nat → Int32) → (Nat → Int32) → Prop} (k : ∀ lo' bl' kept' en' first' nx', post (nI (viewsA al lb c h w)) lo' bl' kept' en' first' nx') : q_X6_unlike lt ws (nI w) (nI (c ^ w)) (nI (4 ^ (w + 2) - 1)) fr R (nI h) lo bl kept en first nx post := by
  have h243 := pow_le243 hc hw
  have h2w : (2 : Nat) ^ w ≤ 32 := Nat.le_trans (Nat.pow_le_pow_right (by decide) hw) (by decide)
  have hcl : ∀ r, lkX lb c w r < 2 ^ w := fun r => rvB_lt _ w
  have hcl32 : ∀ r, lkX lb c w r < 32 := fun r => Nat.lt_of_lt_of_le (hcl r) h2w
  have hv : NV (c ^ w) (2 ^ w) (Fi al c w) (Bt al c w) (lkX lb c w) (h - 1) (Tp al c w) = viewsA al lb c h w := views_x al lb c h w
  have hyR : (h - 1) * c ^ w ≤ 243 := Nat.le_trans (Nat.mul_le_mul_left _ (Nat.pow_le_pow_left hc w)) (kept_ok h (by omega) w (by omega) h12)
  unfold q_X6_unlike
  refine s_sortRows h1 hc hw hl hf (fun lo' bl' hlo hbl => ?_)
  rw [show nI h - (1 : Int32) = nI (h - 1) from pk_sub (b := 1) (by omega)]
  by_cases hlast : h = 1
  · refine brn (fun q => absurd (by rw [hlast]; rfl) q) (fun _ => ?_)
    refine s_reachL (y := 0) h243 hcl32 (by omega) hh hlo hbl (D := fun r => Tp al c w r && avS (c ^ w) (Fi al c w) (Bt al c w) h (h - 1) r) (fun r hrr post' kk => s_mayTop h1 hc hw hh1 hh hr hf hW hrr kk) (fun en' nx' _ _ => ?_)
    rw [NV_last (R := c ^ w) (G := 2 ^ w) (F := Fi al c w) (B := Bt al c w) (cl := lkX lb c w) (S := Tp al c w) hcl h2w (fun r _ => by rw [show h - 1 = 0 by omega, av_0])]
    rw [show h - 1 = 0 by omega] at hv
    rw [hv]
    exact k _ _ _ _ _ _
  · refine brn (fun _ => ?_) (fun q => absurd q (nI_ne0 (by omega) (by omega)))
    refine s_reachK (y := 0) h243 hcl32 (show 0 + 1 < h by omega) hh (by omega) hlo hbl (D := fun r => Tp al c w r && avS (c ^ w) (Fi al c w) (Bt al c w) h (h - 1) r) (fun kp _ r hrr post' kk => s_mayTop h1 hc hw hh1 hh hr hf hW hrr kk) (fun x kp n' hn' hkp hSeg hrm => ?_)
    have eN : NV (c ^ w) (2 ^ w) (Fi al c w) (Bt al c w) (lkX lb c w) (h - 1) (rmS kp (0 * c ^ w) (0 * c ^ w + n')) = viewsA al lb c h w := by
      rw [← hv, ← NV_av (h := h) (h - 1) (Tp al c w)]
      exact NV_congr (fun _ _ => rfl) (h - 1) (fun r hrr => hrm r hrr)
    have hS : Stk (c ^ w) (2 ^ w) (h - 1) (Fi al c w) (Bt al c w) (lkX lb c w) kp (upd en 0 (nI (0 * c ^ w + n'))) (upd nx 0 (nI (0 * c ^ w))) (0 + 1) (0 + viewsA al lb c h w) (0 + rlS (2 ^ w) (lkX lb c w) kp (0 * c ^ w) (0 * c ^ w + n') * Tc (2 ^ w) (h - 1 - 1 - 0) + 1) := by
      refine Stk_s.mpr ⟨0, 0, 0 * c ^ w, 0 * c ^ w + n', ⟨rfl, rfl⟩, upd_s _ _ _, upd_s _ _ _, Nat.le_refl _, by omega, by omega, hSeg, ?_, rfl⟩
      rw [Nat.sub_zero, eN]
    have hst := steps_ok h (by omega) w (by omega) h12
    have hle : rlS (2 ^ w) (lkX lb c w) kp (0 * c ^ w) (0 * c ^ w + n') * Tc (2 ^ w) (h - 1 - 1 - 0) ≤ 2 ^ w * Tc (2 ^ w) (h - 1 - 1) := by
      rw [Nat.sub_zero]; exact Nat.mul_le_mul_right _ (rlS_le _ _ _ _ _)
    have := s_unlikeLoop h1 hc hw (show 2 ≤ h by omega) hh hyR hr hf hW hcl (lt := lt) hlo hbl (rg := nI (4 ^ (w + 2) - 1)) (total := viewsA al lb c h w) (fun kept en first nx => k lo' bl' kept en first nx) (2 ^ w * Tc (2 ^ w) (h - 1 - 1) + 1) (0 + 1) _ _ 0 0 kp _ first _ hS (by omega) (by omega) (by omega) (by omega)
    rw [pk_m1] at this
    exact ⟨_, this⟩
theorem le12 {v : Nat} (hv : v < 2 ^ 31) : nI v ≤ (12 : Int32) ↔ v ≤ 12 := by
  rw [fa_le, nI_toInt hv, show (12 : Int32).toInt = 12 from rfl]; omega
theorem s_viewsX {c : Nat} (hc2 : c = 2 ∨ c = 3) {al : Nat → Bool} {R lt : Nat → Int32} {lb : Nat → Bool} (hr : RuleOk al R) (hl : LtOk lt lb) {wf lo bl kept en first nx fr pw pc : Nat → Int32} {ws ft : Nat → Int64} {a b d g e f : Int32} {l1 l2 : Int32} {post : Int32 → (Nat → Int32) → (Nat → Int64) → (Nat → Int64) → (Nat → Int32) → (Nat → Int32) → (Nat → Int32) → (Nat → Int32) → (Nat → Int32) → (Nat → Int32) → Int32 → Int32 → Int32 → Int32 → (Nat → Int32) → (Nat → Int32) → Int32 → Int32 → (Nat → Int32) → Prop}
    (k : ∀ h w : Nat, 1 ≤ h ∧ h ≤ 5 ∧ 1 ≤ w ∧ w ≤ 5 → h * w ≤ 12 → l1 = nI h → l2 = nI w → ∀ wf' ws' ft' lo' bl' kept' en' first' nx' a' b' d' g' fr' pw' e' f' pc', post (nI (viewsA al lb c h w)) wf' ws' ft' lo' bl' kept' en' first' nx' a' b' d' g' fr' pw' e' f' pc') (k0 : ¬ isSz l1 l2 → post (-3) wf ws ft lo bl kept en first nx a b d g fr pw e f pc) (k4 : ∀ h w : Nat, 1 ≤ h ∧ h ≤ 5 ∧ 1 ≤ w ∧ w ≤ 5 → 12 < h * w → l1 = nI h → l2 = nI w → post (-4) wf ws ft lo bl kept en first nx a b d g fr pw e f pc) : q_X8_views (nI c) lt R wf ws ft lo bl kept en first nx a b d g fr pw e f pc l1 l2 post := by
  unfold q_X8_views
  refine s_isSizeX (fun hs => c1 ?_) (fun hs => c0 (k0 hs))
  obtain ⟨h, hh1, hh, rfl⟩ := small (lo := 1) (hi := 5) (a := l1) (by omega)
  obtain ⟨w, hw1, hw, rfl⟩ := small (lo := 1) (hi := 5) (a := l2) (by omega)
  have hN := hw25 hh hw
  rw [pk_mul, le12 (by omega)]
  refine br (fun q => ?_) (fun q => k4 h w ⟨hh1, hh, hw1, hw⟩ (by omega) rfl rfl)
  refine s_openWhole hc2 hw1 hw hh1 hh hr (fun wf' ws' ft' fr' pw' pc' hR hW => ?_)
  exact s_unlike (by omega) (by omega) hw1 hw hh1 hh q hr hR.2.2.2.2.1 hW hl (fun lo' bl' kept' en' first' nx' => k h w ⟨hh1, hh, hw1, hw⟩ q rfl rfl _ _ _ _ _ _ _ _ _ _ _ _ _ _ _ _ _ _)
