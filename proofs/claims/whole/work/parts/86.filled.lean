/-! the album is filled -/
theorem s_openLeft {c w h y : Nat} (h1 : 1 ≤ c) (hc : c ≤ 3) (hw1 : 1 ≤ w) (hw : w ≤ 5) (hh : h ≤ 5) (hy : y < h) {al : Nat → Bool} {R fr wf : Nat → Int32} {wi : Nat → Nat} (hr : RuleOk al R) (hf : ∀ r, r < c ^ w → fr r = nI (frm c w r)) (hwi : ∀ i, i < 25 → wf i = nI (wi i) ∧ wi i < 8) {ft : Nat → Int64} {G : Nat → Nat} (hG : ∀ i, i < c ^ w * c → ft i = lN (G i)) {ws : Nat → Int64} {post : (Nat → Int64) → Prop}
    (k : ∀ ws', (∀ i, (∀ r, r < c ^ w → i ≠ 243 * y + r) → ws' i = ws i) → (∀ r, r < c ^ w → ws' (243 * y + r) = lN (if wsh c w wi y r then fb_sm (fun d => if al (64 * 3 + 16 * dg c w r 0 + 4 * 3 + d) then G (d * c ^ w + r) else 0) c else 0)) → post ws') : q_X0_openLeft wf ft (nI c) (nI w) (nI (c ^ w)) fr R ws (nI y) post := by
  have h243 := pow_le243 hc hw
  have h729 := pow_le729 hc hw
  unfold q_X0_openLeft
  have inner : ∀ {K : Int32 → Int64 → (Nat → Int64) → Prop} {r mm : Nat} {g : Nat → Int64}, r < c ^ w → mm < 16 → (∀ j, j < 4 → mm.testBit j = al (64 * 3 + 16 * dg c w r 0 + 4 * 3 + j)) → K (nI r) (lN (fb_sm (fun d => if al (64 * 3 + 16 * dg c w r 0 + 4 * 3 + d) then G (d * c ^ w + r) else 0) c)) g → ∀ (m i : Nat), i + m = c → r_X0_openLeft_47 wf ft (nI c) (nI w) (nI (c ^ w)) fr R (nI y) post K (nI r) (nI mm) g (m + 1) (lN (fb_sm (fun d => if al (64 * 3 + 16 * dg c w r 0 + 4 * 3 + d) then G (d * c ^ w + r) else 0) i)) (nI i) := by
    intro K r mm g hrr hm hb hK m
    induction m with
    | zero =>
      intro i hi
      unfold r_X0_openLeft_47
      rw [show i = c by omega]
      exact pk_le c c (fun _ => hK) (fun q => absurd q (by omega)) rfl rfl (by omega) (by omega)
    | succ m ih =>
      intro i hi
      unfold r_X0_openLeft_47
      refine pk_le c i (fun q => absurd q (by omega)) (fun _ => ?_) rfl rfl (by omega) (by omega)
      have hI := ih (i + 1) (by omega)
      rw [fb_sm_succ] at hI
      rw [bit_at (by omega) (by omega), hb i (by omega), nI_1]
      have hidx : i * c ^ w + r < c ^ w * c := by
        have : i * c ^ w + c ^ w ≤ c * c ^ w := by rw [← Nat.succ_mul]; exact Nat.mul_le_mul_right _ (by omega)
        rw [Nat.mul_comm c] at this; omega
      cases hal : al (64 * 3 + 16 * dg c w r 0 + 4 * 3 + i) with
      | false => rw [hal] at hI; exact b0 hI
      | true =>
        rw [hal] at hI
        refine b1 ?_
        rw [pk_mul, nI_add]
        refine ⟨vp_in_nI (by omega) (by decide), fun v e => ?_⟩
        rw [nI_clamp (by omega), hG _ hidx, lN_add'] at e
        rw [e]
        exact hI
  have outer : ∀ (m r : Nat) (g : Nat → Int64), r + m = c ^ w → (∀ i, (∀ r, r < c ^ w → i ≠ 243 * y + r) → g i = ws i) → (∀ r', r' < r → g (243 * y + r') = lN (if wsh c w wi y r' then fb_sm (fun d => if al (64 * 3 + 16 * dg c w r' 0 + 4 * 3 + d) then G (d * c ^ w + r') else 0) c else 0)) → r_X0_openLeft_2 wf ft (nI c) (nI w) (nI (c ^ w)) fr R post (nI y) (m + 1) (nI r) g := by
    intro m
    induction m with
    | zero =>
      intro r g hm hs hg
      unfold r_X0_openLeft_2
      exact pk_le (c ^ w) r (fun _ => k g hs (fun r' hr' => hg r' (by omega))) (fun q => absurd q (by omega)) rfl rfl (by omega) (by omega)
    | succ m ih =>
      intro r g hm hs hg
      unfold r_X0_openLeft_2
      refine pk_le (c ^ w) r (fun q => absurd q (by omega)) (fun _ => ?_) rfl rfl (by omega) (by omega)
      have fin : ∀ v, v = (if wsh c w wi y r then fb_sm (fun d => if al (64 * 3 + 16 * dg c w r 0 + 4 * 3 + d) then G (d * c ^ w + r) else 0) c else 0) → q_X0_openLeft_95 wf ft (nI c) (nI w) (nI (c ^ w)) fr R (nI y) post (r_X0_openLeft_2 wf ft (nI c) (nI w) (nI (c ^ w)) fr R post (nI y) (m + 1)) (nI r) (lN v) g := by
        intro v ev
        unfold q_X0_openLeft_95
        rw [y243, nI_1]
        refine ⟨vp_in_nI (by omega) (by decide), ?_⟩
        rw [nI_clamp (by omega)]
        refine ih (r + 1) _ (by omega) (fun i hi => ?_) (fun r' hr' => ?_)
        · rw [updL_n _ (hi r (by omega))]; exact hs i hi
        · by_cases e : r' = r
          · rw [e, updL_s, ev]
          · rw [updL_n _ (by omega)]; exact hg r' (by omega)
      refine s_isWished h1 hc hw hh hy hf hwi (show r < c ^ w by omega) ?_
      cases hws : wsh c w wi y r with
      | false => exact b0 (fin 0 (by rw [hws]; rfl))
      | true =>
        refine b1 (s_colour h1 hc hw hf (show r < c ^ w by omega) (show 0 < w by omega) ?_)
        have hdg : dg c w r 0 < 4 := by unfold dg; have := Nat.mod_lt (r / c ^ (w - 1 - 0)) (show c > 0 by omega); omega
        refine s_corners hr (a := 3) (d := 3) (by decide) hdg (by decide) (fun mm hmm hb => ?_)
        exact ⟨c + 1, inner (show r < c ^ w by omega) hmm hb (fin _ (by rw [hws]; rfl)) c 0 (by omega)⟩
  exact ⟨c ^ w + 1, outer (c ^ w) 0 ws (by omega) (fun i _ => rfl) (fun r hr' => absurd hr' (by omega))⟩
def WaysX (R : Nat) (F : Nat → Nat → Bool) (B : Nat → Bool) (ok : Nat → Nat → Bool) (h : Nat) (ways : Nat → Int64) : Prop := ∀ y a, y < h → a < R → ways (243 * y + a) = lN (Wy R F B ok h (h - 1 - y) a)
theorem pow243_le {R k : Nat} (hR : R ≤ 243) (hk : k ≤ 4) : R ^ k ≤ 243 ^ 4 := Nat.le_trans (Nat.pow_le_pow_left hR k) (Nat.pow_le_pow_right (by decide) hk)
theorem Wy_lt {R : Nat} {F : Nat → Nat → Bool} {B : Nat → Bool} {ok : Nat → Nat → Bool} {h k a : Nat} (hR : R ≤ 243) (hk : k ≤ 4) : Wy R F B ok h k a ≤ 3486784401 := Nat.le_trans (Wy_le R F B ok h k a) (Nat.le_trans (pow243_le hR hk) (by decide))
theorem s_fillA {c w h : Nat} (hc2 : c = 2 ∨ c = 3) (hw1 : 1 ≤ w) (hw : w ≤ 5) (hh1 : 1 ≤ h) (hh : h ≤ 5) {al : Nat → Bool} {R fr pw wf : Nat → Int32} {rs rg : Int32} {wi : Nat → Nat} (hr : RuleOk al R) (hR : RowsOk c w (nI c) (nI w) rs rg fr pw) (hwi : ∀ i, i < 25 → wf i = nI (wi i) ∧ wi i < 8) {ws ft : Nat → Int64} {post : (Nat → Int64) → (Nat → Int64) → Prop}
    (k : ∀ ws' ft', WaysX (c ^ w) (Fi al c w) (Bt al c w) (wsh c w wi) h ws' → post ws' ft') : q_X0_fill wf (nI c) (nI w) rs rg fr pw R (nI h) ws ft post := by
  have hc : c ≤ 3 := by omega
  have h1 : 1 ≤ c := by omega
  have h243 := pow_le243 hc hw
  obtain ⟨-, -, rfl, rfl, hf, hp⟩ := hR
  unfold q_X0_fill
  have eh : nI h - (1 : Int32) = nI (h - 1) := by rw [show (1 : Int32) = nI 1 from rfl, pk_sub hh1]
  have ew : nI w - (1 : Int32) = nI (w - 1) := by rw [show (1 : Int32) = nI 1 from rfl, pk_sub hw1]
  rw [eh]
  let RR := c ^ w
  -- one row up
  have across : ∀ {K : Int32 → (Nat → Int64) → (Nat → Int64) → Prop} (y : Nat) (g : Nat → Int64), y + 1 < h → (∀ y' a, y + 1 ≤ y' → y' < h → a < c ^ w → g (243 * y' + a) = lN (Wy (c ^ w) (Fi al c w) (Bt al c w) (wsh c w wi) h (h - 1 - y') a)) → (∀ g' ft', (∀ y' a, y ≤ y' → y' < h → a < c ^ w → g' (243 * y' + a) = lN (Wy (c ^ w) (Fi al c w) (Bt al c w) (wsh c w wi) h (h - 1 - y') a)) → K (nI y + (-1)) g' ft') → ∀ (x : Nat) (ft : Nat → Int64), x < w → (∀ i, i < c ^ w * c → ft i = lN (Gc al c w (fun b => Wy (c ^ w) (Fi al c w) (Bt al c w) (wsh c w wi) h (h - 1 - (y + 1)) b) x i)) → r_X0_fill_123 wf (nI c) (nI w) (nI (c ^ w)) (nI (4 ^ (w + 2) - 1)) fr pw R (nI h) post (q_X0_fill_138 wf (nI c) (nI w) (nI (c ^ w)) (nI (4 ^ (w + 2) - 1)) fr pw R (nI h) post K) (nI y) g (x + 1) (nI x) ft := by
    intro K y g hy hg hK x
    induction x with
    | zero =>
      intro ft hx hft
      unfold r_X0_fill_123
      refine br (fun _ => ?_) (fun q => absurd (by decide) q)
      unfold q_X0_fill_138
      refine s_openLeft h1 hc hw1 hw hh (show y < h by omega) hr hf hwi hft (fun g' hs hn => hK g' ft (fun y' a hy1 hy2 ha => ?_))
      by_cases e : y' = y
      · rw [e, hn a ha, Gc_last h1 hw1 ha]
        obtain ⟨k', hk'⟩ : ∃ k', h - 1 - y = k' + 1 := ⟨h - 1 - y - 1, by omega⟩
        rw [hk', show h - 1 - (y + 1) = k' by omega]
        show _ = lN (if wsh c w wi (h - 1 - (k' + 1)) a then fb_sm (fun b => if Fi al c w a b then Wy (c ^ w) (Fi al c w) (Bt al c w) (wsh c w wi) h k' b else 0) (c ^ w) else 0)
        rw [show h - 1 - (k' + 1) = y by omega]
      · rw [hs _ (fun r hr' => by omega)]; exact hg y' a (by omega) hy2 ha
    | succ x ih =>
      intro ft hx hft
      unfold r_X0_fill_123
      refine pk_le (x + 1) 0 (fun q => absurd q (by omega)) (fun _ => ?_) rfl rfl (by omega) (by omega)
      refine s_moveLeft hc2 hw (show 1 ≤ x + 1 by omega) hx hr hp hft (fun i => ?_) (fun ft' hft' => ?_)
      · have := Gc_le (al := al) (c := c) (w := w) (ws := fun b => Wy (c ^ w) (Fi al c w) (Bt al c w) (wsh c w wi) h (h - 1 - (y + 1)) b) (x := x + 1) (idx := i) (M := 3486784401) (fun b => Wy_lt h243 (by omega))
        have h2 : c ^ (w - 1 - (x + 1)) ≤ 243 := pow_le243 hc (by omega)
        have h3 : c ^ (w - 1 - (x + 1)) * 3486784401 ≤ 243 * 3486784401 := Nat.mul_le_mul_right _ h2
        omega
      · rw [pk_m1]
        refine ih ft' (by omega) (fun i hi => ?_)
        rw [hft' i hi, Gc_step h1 (by omega) hx]
        rfl
  have up : ∀ (m : Nat) (g ft : Nat → Int64), m < h → (∀ y' a, m ≤ y' → y' < h → a < c ^ w → g (243 * y' + a) = lN (Wy (c ^ w) (Fi al c w) (Bt al c w) (wsh c w wi) h (h - 1 - y') a)) → r_X0_fill_102 wf (nI c) (nI w) (nI (c ^ w)) (nI (4 ^ (w + 2) - 1)) fr pw R (nI h) post (m + 1) (nI m + (-1)) g ft := by
    intro m
    induction m with
    | zero =>
      intro g ft hm hg
      unfold r_X0_fill_102
      exact br (fun _ => k g ft (fun y a hy ha => hg y a (by omega) hy ha)) (fun q => absurd (by decide) q)
    | succ m ih =>
      intro g ft hm hg
      unfold r_X0_fill_102
      rw [pk_m1]
      refine br (fun q => absurd q (nI_pos (by omega))) (fun _ => ?_)
      rw [nI_1]
      refine s_closeRight h1 hc hw1 hw (show m + 1 < 5 by omega) hr hf (ws := fun b => Wy (c ^ w) (Fi al c w) (Bt al c w) (wsh c w wi) h (h - 1 - (m + 1)) b) (fun r hr' => hg (m + 1) r (by omega) (by omega) hr') (fun ft' hft' => ?_)
      unfold q_X0_fill_123
      rw [ew]
      refine ⟨w - 1 + 1, across m g (by omega) hg (fun g' ft2 hg' => ih g' ft2 (by omega) hg') (w - 1) ft' (by omega) hft'⟩
  have base : ∀ (m r : Nat) (g : Nat → Int64), r + m = c ^ w → (∀ r', r' < r → g (243 * (h - 1) + r') = lN (Wy (c ^ w) (Fi al c w) (Bt al c w) (wsh c w wi) h 0 r')) → r_X0_fill_12 wf (nI c) (nI w) (nI (c ^ w)) (nI (4 ^ (w + 2) - 1)) fr pw R (nI h) post (q_X0_fill_98 wf (nI c) (nI w) (nI (c ^ w)) (nI (4 ^ (w + 2) - 1)) fr pw R (nI h) post) (nI (h - 1)) ft (m + 1) (nI r) g := by
    intro m
    induction m with
    | zero =>
      intro r g hm hg
      unfold r_X0_fill_12
      refine pk_le (c ^ w) r (fun _ => ?_) (fun q => absurd q (by omega)) rfl rfl (by omega) (by omega)
      unfold q_X0_fill_98
      have h0 := up (h - 1) g ft (by omega) (fun y' a hy1 hy2 ha => by rw [show y' = h - 1 by omega, Nat.sub_self]; exact hg a (by omega))
      have e1 : nI (h - 1) + (-1) = nI (h - 1) - (1 : Int32) := by rw [Int32.sub_eq_add_neg]
      rw [e1] at h0
      exact ⟨h - 1 + 1, h0⟩
    | succ m ih =>
      intro r g hm hg
      unfold r_X0_fill_12
      refine pk_le (c ^ w) r (fun q => absurd q (by omega)) (fun _ => ?_) rfl rfl (by omega) (by omega)
      have fin : ∀ b : Bool, (if b then 1 else 0) = Wy (c ^ w) (Fi al c w) (Bt al c w) (wsh c w wi) h 0 r → q_X0_fill_70 wf (nI c) (nI w) (nI (c ^ w)) (nI (4 ^ (w + 2) - 1)) fr pw R (nI h) (nI (h - 1)) ft post (q_X0_fill_98 wf (nI c) (nI w) (nI (c ^ w)) (nI (4 ^ (w + 2) - 1)) fr pw R (nI h) post) (r_X0_fill_12 wf (nI c) (nI w) (nI (c ^ w)) (nI (4 ^ (w + 2) - 1)) fr pw R (nI h) post (q_X0_fill_98 wf (nI c) (nI w) (nI (c ^ w)) (nI (4 ^ (w + 2) - 1)) fr pw R (nI h) post) (nI (h - 1)) ft (m + 1)) (nI r) (bI b) g := by
        intro b eb
        have go : ∀ v : Nat, v = Wy (c ^ w) (Fi al c w) (Bt al c w) (wsh c w wi) h 0 r → r_X0_fill_12 wf (nI c) (nI w) (nI (c ^ w)) (nI (4 ^ (w + 2) - 1)) fr pw R (nI h) post (q_X0_fill_98 wf (nI c) (nI w) (nI (c ^ w)) (nI (4 ^ (w + 2) - 1)) fr pw R (nI h) post) (nI (h - 1)) ft (m + 1) (nI (r + 1)) (vp_updL g (243 * (h - 1) + r) (lN v)) := by
          intro v ev
          refine ih (r + 1) _ (by omega) (fun r' hr' => ?_)
          by_cases e : r' = r
          · rw [e, updL_s, ev]
          · rw [updL_n _ (by omega)]; exact hg r' (by omega)
        unfold q_X0_fill_70
        rw [y243, nI_1, nI_clamp (by omega)]
        cases b with
        | false => exact b0 ⟨vp_in_nI (by omega) (by decide), go 0 eb⟩
        | true => exact b1 ⟨vp_in_nI (by omega) (by decide), go 1 eb⟩
      refine s_isWished h1 hc hw hh (show h - 1 < h by omega) hf hwi (show r < c ^ w by omega) ?_
      cases hws : wsh c w wi (h - 1) r with
      | false => exact b0 (fin false (by unfold Wy; rw [hws]; rfl))
      | true =>
        refine b1 ⟨vp_in_nI (by omega) (by decide), ?_⟩
        rw [nI_clamp (by omega), hf r (by omega)]
        refine s_joins hw hr (enc_row h1 hc r) (enc_ring w) ?_
        have eb : Bt al c w r = fitP al w (rowP c w r) ringP := rfl
        cases hB : fitP al w (rowP c w r) ringP with
        | false => exact b0 (fin false (by unfold Wy; rw [hws, eb, hB]; rfl))
        | true => exact b1 (fin true (by unfold Wy; rw [hws, eb, hB]; rfl))
  exact ⟨c ^ w + 1, base (c ^ w) 0 ws (by omega) (fun r hr' => absurd hr' (by omega))⟩
