/-! counts -/
theorem Wy_congr {R : Nat} {F : Nat → Nat → Bool} {B : Nat → Bool} {ok ok' : Nat → Nat → Bool} {h : Nat} (e : ∀ y a, y < h → a < R → ok y a = ok' y a) (hh : 1 ≤ h) : ∀ k a, k < h → a < R → Wy R F B ok h k a = Wy R F B ok' h k a
  | 0, a, hk, ha => by unfold Wy; rw [e _ _ (by omega) ha]
  | k + 1, a, hk, ha => by
    unfold Wy
    rw [e _ _ (by omega) ha]
    have : fb_sm (fun b => if F a b then Wy R F B ok h k b else 0) R = fb_sm (fun b => if F a b then Wy R F B ok' h k b else 0) R := fb_sm_cong (fun b hb => by rw [Wy_congr e hh k b (by omega) hb])
    rw [this]
theorem totW_congr {R : Nat} {F : Nat → Nat → Bool} {T B : Nat → Bool} {ok ok' : Nat → Nat → Bool} {h : Nat} (e : ∀ y a, y < h → a < R → ok y a = ok' y a) (hh : 1 ≤ h) : totW R F T B ok h = totW R F T B ok' h := by
  unfold totW
  exact fb_sm_cong (fun a ha => by rw [Wy_congr e hh (h - 1) a (by omega) ha])
theorem WaysX.congr {R : Nat} {F : Nat → Nat → Bool} {B : Nat → Bool} {ok ok' : Nat → Nat → Bool} {h : Nat} {ws : Nat → Int64} (hw : WaysX R F B ok h ws) (e : ∀ y a, y < h → a < R → ok y a = ok' y a) : WaysX R F B ok' h ws := fun y a hy ha => by
  rw [hw y a hy ha, Wy_congr e (by omega) _ a (by omega) ha]
theorem WaysM.congr {R : Nat} {F : Nat → Nat → Bool} {B : Nat → Bool} {ok ok' : Nat → Nat → Bool} {h : Nat} {ws : Nat → Int64} (hw : WaysM R F B ok h ws) (e : ∀ y a, y < h → a < R → ok y a = ok' y a) : WaysM R F B ok' h ws := fun y a hy ha => by
  rw [hw y a hy ha, Wy_congr e (by omega) _ a (by omega) ha]
/-- what stands above a row, and the rows that may stand below it -/
def UpOk (al : Nat → Bool) (c w : Nat) (v : Int32) (G : Nat → Bool) : Prop := ∃ U p, v = nI U ∧ EncOk w U p ∧ ∀ r, G r = fitP al w p (rowP c w r)
theorem up_ring (al : Nat → Bool) (c w : Nat) : UpOk al c w (nI (4 ^ (w + 2) - 1)) (Tp al c w) := ⟨_, _, rfl, enc_ring w, fun _ => rfl⟩
theorem up_row {al : Nat → Bool} {c w : Nat} (h1 : 1 ≤ c) (hc : c ≤ 3) (a : Nat) : UpOk al c w (nI (frm c w a)) (Fi al c w a) := ⟨_, _, rfl, enc_row h1 hc a, fun _ => rfl⟩
def gW (R : Nat) (F : Nat → Nat → Bool) (B : Nat → Bool) (ok : Nat → Nat → Bool) (h k : Nat) (G : Nat → Bool) (r : Nat) : Nat := if G r then Wy R F B ok h k r else 0
theorem gW_lt {R : Nat} {F : Nat → Nat → Bool} {B : Nat → Bool} {ok : Nat → Nat → Bool} {h k : Nat} {G : Nat → Bool} {r : Nat} (hR : R ≤ 243) (hk : k ≤ 4) : gW R F B ok h k G r ≤ 3486784401 := by
  unfold gW; split
  · exact Wy_lt hR hk
  · exact Nat.zero_le _
theorem s_waysUnder {c w h y : Nat} (h1 : 1 ≤ c) (hc : c ≤ 3) (hw : w ≤ 5) (hh : h ≤ 5) (hy : y < h) {al : Nat → Bool} {R fr : Nat → Int32} (hr : RuleOk al R) (hf : ∀ r, r < c ^ w → fr r = nI (frm c w r)) {ok : Nat → Nat → Bool} {ws : Nat → Int64} (hW : WaysX (c ^ w) (Fi al c w) (Bt al c w) ok h ws) {v : Int32} {G : Nat → Bool} (hU : UpOk al c w v G) {r : Nat} (hrr : r < c ^ w) {post : Int64 → Prop}
    (k : post (lN (gW (c ^ w) (Fi al c w) (Bt al c w) ok h (h - 1 - y) G r))) : q_X0_waysUnder ws (nI w) fr R v (nI y) (nI r) post := by
  have h243 := pow_le243 hc hw
  unfold q_X0_waysUnder
  rw [y243]
  have hlt : Wy (c ^ w) (Fi al c w) (Bt al c w) ok h (h - 1 - y) r ≤ 3486784401 := Wy_lt h243 (by omega)
  refine ⟨vp_in_nI (by omega) (by decide), ?_⟩
  rw [nI_clamp (by omega), hW y r hy hrr]
  unfold gW at k
  refine br (fun q => ?_) (fun q => ⟨vp_in_nI (by omega) (by decide), ?_⟩)
  · have : Wy (c ^ w) (Fi al c w) (Bt al c w) ok h (h - 1 - y) r = 0 := by
      rw [show (0 : Int64) = lN 0 from rfl, pk_lEQ (by omega) (by decide)] at q; exact q
    rw [this] at k
    have e : (if G r then 0 else 0 : Nat) = 0 := by split <;> rfl
    rw [e] at k
    exact k
  · obtain ⟨U, p, rfl, hE, hG⟩ := hU
    rw [nI_clamp (by omega), hf r hrr]
    refine s_joins hw hr hE (enc_row h1 hc r) ?_
    rw [← hG r]
    cases hg : G r with
    | false => rw [hg] at k; exact b0 k
    | true => rw [hg] at k; exact b1 k
theorem s_total {c w h y : Nat} (h1 : 1 ≤ c) (hc : c ≤ 3) (hw : w ≤ 5) (hh : h ≤ 5) (hy : y < h) {al : Nat → Bool} {R fr : Nat → Int32} (hr : RuleOk al R) (hf : ∀ r, r < c ^ w → fr r = nI (frm c w r)) {ok : Nat → Nat → Bool} {ws : Nat → Int64} (hW : WaysX (c ^ w) (Fi al c w) (Bt al c w) ok h ws) {post : Int64 → Prop}
    (k : post (lN (fb_sm (gW (c ^ w) (Fi al c w) (Bt al c w) ok h (h - 1 - y) (Tp al c w)) (c ^ w)))) : q_X0_total ws (nI w) (nI (c ^ w)) (nI (4 ^ (w + 2) - 1)) fr R (nI y) post := by
  have h243 := pow_le243 hc hw
  unfold q_X0_total
  have loop : ∀ (m i : Nat), i + m = c ^ w → r_X0_total_5 ws (nI w) (nI (c ^ w)) (nI (4 ^ (w + 2) - 1)) fr R post (nI y) (m + 1) (lN (fb_sm (gW (c ^ w) (Fi al c w) (Bt al c w) ok h (h - 1 - y) (Tp al c w)) i)) (nI i) := by
    intro m
    induction m with
    | zero =>
      intro i hi
      unfold r_X0_total_5
      rw [show i = c ^ w by omega]
      exact pk_le (c ^ w) (c ^ w) (fun _ => k) (fun q => absurd q (by omega)) rfl rfl (by omega) (by omega)
    | succ m ih =>
      intro i hi
      unfold r_X0_total_5
      refine pk_le (c ^ w) i (fun q => absurd q (by omega)) (fun _ => ?_) rfl rfl (by omega) (by omega)
      refine s_waysUnder h1 hc hw hh hy hr hf hW (up_ring al c w) (show i < c ^ w by omega) ?_
      rw [lN_add', nI_1]
      exact ih (i + 1) (by omega)
  exact ⟨c ^ w + 1, loop (c ^ w) 0 (by omega)⟩
theorem totW_eq {R : Nat} {F : Nat → Nat → Bool} {T B : Nat → Bool} {ok : Nat → Nat → Bool} {h : Nat} : fb_sm (gW R F B ok h (h - 1) T) R = totW R F T B ok h := rfl
theorem totW_lt {R : Nat} {F : Nat → Nat → Bool} {T B : Nat → Bool} {ok : Nat → Nat → Bool} {h : Nat} (hR : R ≤ 243) (hh : h ≤ 5) : totW R F T B ok h ≤ 243 * 3486784401 := by
  rw [← totW_eq]
  exact Nat.le_trans (fb_sm_bound (fun r _ => gW_lt hR (by omega))) (Nat.mul_le_mul_right _ hR)
theorem s_cappedX {v : Nat} (hv : v < 2 ^ 62) {post : Int32 → Prop} (k : post (nI (capM v))) : q_X8_capped (lN v) post := by
  unfold q_X8_capped
  unfold capM at k
  have e : (1000000001 : Int64) = lN 1000000001 := rfl
  by_cases h : v ≤ 1000000001
  · rw [if_pos h] at k
    rw [if_neg (by rw [e, pk_lLT (by decide) (by omega)]; omega), lN_i]; exact k
  · rw [if_neg h] at k
    rw [if_pos (by rw [e, pk_lLT (by decide) (by omega)]; omega), e, lN_i]; exact k
def wAll (c : Nat) : Nat → Nat := fun _ => 2 ^ c - 1
theorem dg_lt {c : Nat} (h1 : 1 ≤ c) (w r x : Nat) : dg c w r x < c := Nat.mod_lt _ h1
theorem wsh_all {c w y r : Nat} (h1 : 1 ≤ c) : wsh c w (wAll c) y r = true := by
  unfold wsh wAll
  refine decide_eq_true (fun x _ => ?_)
  rw [Nat.testBit_two_pow_sub_one]
  exact decide_eq_true (dg_lt h1 w r x)
theorem s_openA {c h w : Nat} (hc2 : c = 2 ∨ c = 3) (hw1 : 1 ≤ w) (hw : w ≤ 5) {wf fr pw pc : Nat → Int32} {a b d g e f : Int32} {post : (Nat → Int32) → Int32 → Int32 → Int32 → Int32 → (Nat → Int32) → (Nat → Int32) → Int32 → Int32 → (Nat → Int32) → Prop}
    (k : ∀ wf' rs rg fr' pw' pc', (∀ i, i < 25 → wf' i = nI (wAll c i) ∧ wAll c i < 8) → RowsOk c w (nI c) (nI w) rs rg fr' pw' → post wf' (nI c) (nI w) rs rg fr' pw' (nI h) (nI w) pc') : q_X0_open wf a b d g fr pw e f pc (nI c) (nI h) (nI w) post := by
  unfold q_X0_open
  refine s_list (by omega) (by omega) hw1 hw (fun rs rg fr' pw' hR => ?_)
  unfold q_X4_lay
  refine s_fill (by decide) (fun pc' _ => s_fill (by decide) (fun wf' hwf => k wf' rs rg fr' pw' pc' (fun i hi => ⟨?_, ?_⟩) hR))
  · rw [hwf i hi]
    unfold wAll
    rcases hc2 with rfl | rfl <;> decide
  · unfold wAll
    rcases hc2 with rfl | rfl <;> decide
def okAll : Nat → Nat → Bool := fun _ _ => true
theorem s_openWhole {c h w : Nat} (hc2 : c = 2 ∨ c = 3) (hw1 : 1 ≤ w) (hw : w ≤ 5) (hh1 : 1 ≤ h) (hh : h ≤ 5) {al : Nat → Bool} {R : Nat → Int32} (hr : RuleOk al R) {wf fr pw pc : Nat → Int32} {ws ft : Nat → Int64} {a b d g e f : Int32} {post : (Nat → Int32) → (Nat → Int64) → (Nat → Int64) → Int32 → Int32 → Int32 → Int32 → (Nat → Int32) → (Nat → Int32) → Int32 → Int32 → (Nat → Int32) → Prop}
    (k : ∀ wf' ws' ft' fr' pw' pc', RowsOk c w (nI c) (nI w) (nI (c ^ w)) (nI (4 ^ (w + 2) - 1)) fr' pw' → WaysX (c ^ w) (Fi al c w) (Bt al c w) okAll h ws' → post wf' ws' ft' (nI c) (nI w) (nI (c ^ w)) (nI (4 ^ (w + 2) - 1)) fr' pw' (nI h) (nI w) pc') : q_X8_openWhole (nI c) R wf ws ft a b d g fr pw e f pc (nI h) (nI w) post := by
  unfold q_X8_openWhole
  refine s_openA hc2 hw1 hw (fun wf' rs rg fr' pw' pc' hwi hR => ?_)
  refine s_fillA hc2 hw1 hw hh1 hh hr hR hwi (fun ws' ft' hW => ?_)
  have hR' := hR
  obtain ⟨-, -, rfl, rfl, -, -⟩ := hR
  exact k wf' ws' ft' fr' pw' pc' hR' (hW.congr (fun y a _ _ => wsh_all (by omega)))
theorem s_countAll {c h w : Nat} (hc : c ≤ 3) (h1 : 1 ≤ c) (hw : w ≤ 5) (hh1 : 1 ≤ h) (hh : h ≤ 5) {al : Nat → Bool} {R : Nat → Int32} (hr : RuleM al R) {mr : Int32} {fits top bottom may : Nat → Int32} {ways : Nat → Int64} {post : Int64 → Int32 → (Nat → Int32) → (Nat → Int32) → (Nat → Int32) → (Nat → Int32) → (Nat → Int64) → Prop}
    (k : ∀ fits' top' bottom' may' ways', FitsOk al c w fits' top' bottom' → WaysM (c ^ w) (Fi al c w) (Bt al c w) okAll h ways' → post (lN (capM (totW (c ^ w) (Fi al c w) (Tp al c w) (Bt al c w) okAll h))) (nI (c ^ w)) fits' top' bottom' may' ways') : q_X9_countAll (nI c) R mr fits top bottom may ways (nI h) (nI w) post := by
  unfold q_X9_countAll
  refine s_layFits hc h1 hw hr (fun fits' top' bottom' hF => ?_)
  have h243 := pow_le243 hc hw
  refine s_allMay h243 hh (fun may' hm => ?_)
  exact s_layWays h243 hh1 hh hF.1 hF.2.1 hF.2.2 hm (fun ways' hW => k fits' top' bottom' may' ways' hF hW)
def isSz (a b : Int32) : Prop := 1 ≤ a.toInt ∧ a.toInt ≤ 5 ∧ 1 ≤ b.toInt ∧ b.toInt ≤ 5
def totA (al : Nat → Bool) (c h w : Nat) : Nat := totW (c ^ w) (Fi al c w) (Tp al c w) (Bt al c w) okAll h
theorem s_manyX {c : Nat} (hc2 : c = 2 ∨ c = 3) {al : Nat → Bool} {R : Nat → Int32} (hr : RuleOk al R) {wf fr pw pc : Nat → Int32} {ws ft : Nat → Int64} {a b d g e f : Int32} {l1 l2 : Int32} {post : Int32 → (Nat → Int32) → (Nat → Int64) → (Nat → Int64) → Int32 → Int32 → Int32 → Int32 → (Nat → Int32) → (Nat → Int32) → Int32 → Int32 → (Nat → Int32) → Prop}
    (k : ∀ h w : Nat, 1 ≤ h ∧ h ≤ 5 ∧ 1 ≤ w ∧ w ≤ 5 → l1 = nI h → l2 = nI w → ∀ wf' ws' ft' a' b' d' g' fr' pw' e' f' pc', post (nI (capM (totA al c h w))) wf' ws' ft' a' b' d' g' fr' pw' e' f' pc') (k0 : ¬ isSz l1 l2 → post (-3) wf ws ft a b d g fr pw e f pc) : q_X8_many (nI c) R wf ws ft a b d g fr pw e f pc l1 l2 post := by
  unfold q_X8_many
  refine s_isSizeX (fun hs => c1 ?_) (fun hs => c0 (k0 hs))
  obtain ⟨h, hh1, hh, rfl⟩ := small (lo := 1) (hi := 5) (a := l1) (by omega)
  obtain ⟨w, hw1, hw, rfl⟩ := small (lo := 1) (hi := 5) (a := l2) (by omega)
  refine s_openWhole hc2 hw1 hw hh1 hh hr (fun wf' ws' ft' fr' pw' pc' hR hW => ?_)
  refine s_total (y := 0) (by omega) (by omega) hw hh (by omega) hr hR.2.2.2.2.1 hW ?_
  have h243 := pow_le243 (show c ≤ 3 by omega) hw
  have hlt := totW_lt (R := c ^ w) (F := Fi al c w) (T := Tp al c w) (B := Bt al c w) (ok := okAll) h243 hh
  rw [Nat.sub_zero, totW_eq]
  refine s_cappedX (by omega) ?_
  exact k h w ⟨hh1, hh, hw1, hw⟩ rfl rfl _ _ _ _ _ _ _ _ _ _ _ _
theorem s_manyM {c : Nat} (hc : c ≤ 3) (h1 : 1 ≤ c) {al : Nat → Bool} {R : Nat → Int32} (hr : RuleM al R) {mr : Int32} {fits top bottom may : Nat → Int32} {ways : Nat → Int64} {l1 l2 : Int32} {post : Int32 → Int32 → (Nat → Int32) → (Nat → Int32) → (Nat → Int32) → (Nat → Int32) → (Nat → Int64) → Prop}
    (k : ∀ h w : Nat, 1 ≤ h ∧ h ≤ 5 ∧ 1 ≤ w ∧ w ≤ 5 → l1 = nI h → l2 = nI w → ∀ mr' fits' top' bottom' may' ways', post (nI (capM (totA al c h w))) mr' fits' top' bottom' may' ways') (k0 : ¬ isSz l1 l2 → post (-3) mr fits top bottom may ways) : q_X9_many (nI c) R mr fits top bottom may ways l1 l2 post := by
  unfold q_X9_many
  refine s_isSizeM (fun hs => b1 ?_) (fun hs => b0 (k0 hs))
  obtain ⟨h, hh1, hh, rfl⟩ := small (lo := 1) (hi := 5) (a := l1) (by omega)
  obtain ⟨w, hw1, hw, rfl⟩ := small (lo := 1) (hi := 5) (a := l2) (by omega)
  refine s_countAll hc h1 hw hh1 hh hr (fun fits' top' bottom' may' ways' hF hW => ?_)
  rw [lN_i]
  exact k h w ⟨hh1, hh, hw1, hw⟩ rfl rfl _ _ _ _ _ _
