/-! the class's rows: two bits a part, the ring at both ends -/
def enc (c : Nat) : Nat → Nat → Nat
  | 0, _ => 3
  | k + 1, r => enc c k (r / c) * 4 + r % c
theorem enc_lt {c : Nat} (h1 : 1 ≤ c) (hc : c ≤ 3) : ∀ k r, enc c k r < 4 ^ (k + 1)
  | 0, _ => (show 3 < 4 ^ (0 + 1) by decide)
  | k + 1, r => by
    have h := enc_lt h1 hc k (r / c)
    have hm := Nat.mod_lt r (show c > 0 by omega)
    show enc c k (r / c) * 4 + r % c < 4 ^ (k + 1 + 1)
    rw [Nat.pow_succ 4 (k + 1)]
    omega
theorem enc_part {c : Nat} (h1 : 1 ≤ c) (hc : c ≤ 3) : ∀ (k i r : Nat), i < k → enc c k r / 4 ^ i % 4 = r / c ^ i % c
  | 0, i, r, h => absurd h (by omega)
  | k + 1, 0, r, _ => by
    have hm := Nat.mod_lt r (show c > 0 by omega)
    show (enc c k (r / c) * 4 + r % c) / 4 ^ 0 % 4 = r / c ^ 0 % c
    rw [Nat.pow_zero, Nat.pow_zero, Nat.div_one, Nat.div_one]
    omega
  | k + 1, i + 1, r, h => by
    have hm := Nat.mod_lt r (show c > 0 by omega)
    show (enc c k (r / c) * 4 + r % c) / 4 ^ (i + 1) % 4 = r / c ^ (i + 1) % c
    rw [Nat.pow_succ, Nat.mul_comm (4 ^ i) 4, ← Nat.div_div_eq_div_mul, show (enc c k (r / c) * 4 + r % c) / 4 = enc c k (r / c) by omega, enc_part h1 hc k i (r / c) (by omega), Nat.div_div_eq_div_mul, Nat.mul_comm c, ← Nat.pow_succ]
theorem enc_top {c : Nat} (h1 : 1 ≤ c) (hc : c ≤ 3) : ∀ (k r : Nat), enc c k r / 4 ^ k = 3
  | 0, _ => (show 3 / 4 ^ 0 = 3 by decide)
  | k + 1, r => by
    have hm := Nat.mod_lt r (show c > 0 by omega)
    show (enc c k (r / c) * 4 + r % c) / 4 ^ (k + 1) = 3
    rw [Nat.pow_succ, Nat.mul_comm (4 ^ k) 4, ← Nat.div_div_eq_div_mul, show (enc c k (r / c) * 4 + r % c) / 4 = enc c k (r / c) by omega, enc_top h1 hc k (r / c)]
def frm (c w r : Nat) : Nat := enc c w r * 4 + 3
def EncOk (w U : Nat) (p : Nat → Nat) : Prop := U < 4 ^ (w + 2) ∧ ∀ k, k ≤ w + 1 → U / 4 ^ k % 4 = p (w + 1 - k)
theorem enc_row {c w : Nat} (h1 : 1 ≤ c) (hc : c ≤ 3) (r : Nat) : EncOk w (frm c w r) (rowP c w r) := by
  have hl := enc_lt h1 hc w r
  refine ⟨by unfold frm; rw [Nat.pow_succ]; omega, fun k hk => ?_⟩
  unfold frm rowP
  cases k with
  | zero => rw [Nat.pow_zero, Nat.div_one, if_neg (by omega)]; omega
  | succ i =>
    rw [Nat.pow_succ, Nat.mul_comm (4 ^ i) 4, ← Nat.div_div_eq_div_mul, show (enc c w r * 4 + 3) / 4 = enc c w r by omega]
    by_cases hi : i < w
    · rw [enc_part h1 hc w i r hi, if_pos (by omega)]
      unfold dg
      rw [show w - 1 - (w + 1 - (i + 1) - 1) = i by omega]
    · rw [show i = w by omega, enc_top h1 hc w r, if_neg (by omega)]
theorem ring_part : ∀ (n k : Nat), k < n → (4 ^ n - 1) / 4 ^ k % 4 = 3
  | 0, k, h => absurd h (by omega)
  | n + 1, 0, _ => by
    have := Nat.pos_of_ne_zero (show 4 ^ n ≠ 0 from Nat.ne_of_gt (Nat.pow_pos (by decide)))
    rw [Nat.pow_zero, Nat.div_one, Nat.pow_succ]; omega
  | n + 1, k + 1, h => by
    have hp := Nat.pos_of_ne_zero (show 4 ^ n ≠ 0 from Nat.ne_of_gt (Nat.pow_pos (by decide)))
    rw [Nat.pow_succ 4 k, Nat.mul_comm (4 ^ k) 4, ← Nat.div_div_eq_div_mul, show (4 ^ (n + 1) - 1) / 4 = 4 ^ n - 1 by rw [Nat.pow_succ]; omega]
    exact ring_part n k (by omega)
theorem enc_ring (w : Nat) : EncOk w (4 ^ (w + 2) - 1) ringP := by
  have hp := Nat.pos_of_ne_zero (show 4 ^ (w + 2) ≠ 0 from Nat.ne_of_gt (Nat.pow_pos (by decide)))
  exact ⟨by omega, fun k hk => ring_part (w + 2) k (by omega)⟩
theorem pow4_le {w : Nat} (hw : w ≤ 5) : 4 ^ (w + 2) ≤ 16384 := Nat.le_trans (Nat.pow_le_pow_right (by decide) (show w + 2 ≤ 7 by omega)) (by decide)
theorem div16 (U k : Nat) : U / 4 ^ k % 16 = 4 * (U / 4 ^ (k + 1) % 4) + U / 4 ^ k % 4 := by
  rw [Nat.pow_succ, ← Nat.div_div_eq_div_mul]; omega
/-- joins: all windows between two rows -/
theorem s_joins {w : Nat} (hw : w ≤ 5) {al : Nat → Bool} {R : Nat → Int32} (hr : RuleOk al R) {U D : Nat} {pa pb : Nat → Nat} (hU : EncOk w U pa) (hD : EncOk w D pb) {post : Int32 → Prop} (k : post (bI (fitP al w pa pb))) : q_X3_joins R (nI U) (nI D) (nI w) post := by
  have h4 := pow4_le hw
  have hU1 := hU.1
  have hD1 := hD.1
  unfold q_X3_joins
  have amt : ∀ i, i ≤ 6 → 2 ^ (2 * i) = 4 ^ i := fun i _ => by rw [Nat.pow_mul]
  have loop : ∀ (m i : Nat), i + m = w + 1 → (∀ j, w - j < i → j ≤ w → al (winB pa pb j) = true) → r_X3_joins_3 R post (nI U) (nI D) (nI w) (m + 1) (nI (2 * i)) := by
    intro m
    induction m with
    | zero =>
      intro i hi hj
      unfold r_X3_joins_3
      rw [show (2 : Int32) = nI 2 from rfl, pk_mul]
      refine pk_lt (2 * w) (2 * i) (fun _ => ?_) (fun q => absurd q (by omega)) rfl rfl (by omega) (by omega)
      rw [fitP_t (fun j hjj => hj j (by omega) (by omega))] at k
      exact k
    | succ m ih =>
      intro i hi hj
      unfold r_X3_joins_3
      have hdU : U / 2 ^ (2 * i) ≤ U := Nat.div_le_self _ _
      have hdD : D / 2 ^ (2 * i) ≤ D := Nat.div_le_self _ _
      rw [show (2 : Int32) = nI 2 from rfl, pk_mul]
      refine pk_lt (2 * w) (2 * i) (fun q => absurd q (by omega)) (fun _ => ?_) rfl rfl (by omega) (by omega)
      rw [shrN (by omega) (by omega), shrN (by omega) (by omega), and15N (by omega), and15N (by omega), amt i (by omega)]
      refine ⟨vp_in_nI (Nat.mod_lt _ (by decide)) (by decide), ?_⟩
      have hm16 : U / 4 ^ i % 16 < 16 := Nat.mod_lt _ (by decide)
      have hn16 : D / 4 ^ i % 16 < 16 := Nat.mod_lt _ (by decide)
      rw [nI_clamp (by omega)]
      obtain ⟨v, hv, e, ht⟩ := hr _ hm16
      rw [e, bit_at hv hn16, ht _ hn16]
      have ew : 16 * (U / 4 ^ i % 16) + D / 4 ^ i % 16 = winB pa pb (w - i) := by
        rw [div16, div16, hU.2 i (by omega), hU.2 (i + 1) (by omega), hD.2 i (by omega), hD.2 (i + 1) (by omega), show w + 1 - (i + 1) = w - i by omega, show w + 1 - i = w - i + 1 by omega]
        unfold winB
        omega
      rw [ew]
      cases hal : al (winB pa pb (w - i)) with
      | true =>
        refine c1 ?_
        rw [nI_add, show 2 * i + 2 = 2 * (i + 1) by omega]
        refine ih (i + 1) (by omega) (fun j hjj hjw => ?_)
        by_cases e2 : w - j = i
        · rw [show j = w - i by omega]; exact hal
        · exact hj j (by omega) hjw
      | false =>
        refine c0 ?_
        rw [fitP_f (show w - i < w + 1 by omega) hal] at k
        exact k
  exact ⟨w + 2, loop (w + 1) 0 (by omega) (fun j hj => absurd hj (by omega))⟩
/-- the class's tables of rows -/
def RowsOk (c w : Nat) (rc rw' rs rg : Int32) (fr pw : Nat → Int32) : Prop := rc = nI c ∧ rw' = nI w ∧ rs = nI (c ^ w) ∧ rg = nI (4 ^ (w + 2) - 1) ∧ (∀ r, r < c ^ w → fr r = nI (frm c w r)) ∧ ∀ i, i < 7 → pw i = nI (c ^ i)
theorem s_colour {c w : Nat} (h1 : 1 ≤ c) (hc : c ≤ 3) (hw : w ≤ 5) {fr : Nat → Int32} (hf : ∀ r, r < c ^ w → fr r = nI (frm c w r)) {r x : Nat} (hr : r < c ^ w) (hx : x < w) {post : Int32 → Prop} (k : post (nI (dg c w r x))) : q_X2_colour (nI w) fr (nI r) (nI x) post := by
  have h243 := pow_le243 hc hw
  have he := enc_row (w := w) h1 hc r
  have h4 := pow4_le hw
  have h5 := he.1
  unfold q_X2_colour
  refine ⟨vp_in_nI (by omega) (by decide), ?_⟩
  have hdU : frm c w r / 2 ^ (2 * (w - x)) ≤ frm c w r := Nat.div_le_self _ _
  rw [nI_clamp (by omega), hf r hr, pk_sub (by omega), show (2 : Int32) = nI 2 from rfl, pk_mul, shrN (by omega) (by omega), and3N (by omega), Nat.pow_mul, he.2 (w - x) (by omega)]
  unfold rowP
  rw [if_pos (by omega), show w + 1 - (w - x) - 1 = x by omega]
  exact k
theorem shl_or {e a : Nat} (he : e < 2 ^ 29) (ha : a < 4) : (nI e <<< ((2 : Int32) &&& 31)) ||| nI a = nI (e * 4 + a) := by
  rw [show (2 : Int32) = nI 2 from rfl, shlN (by decide) (by omega), Nat.mul_comm, fa_or_sum e (show a < 2 ^ 2 by omega), show 2 ^ 2 * e = e * 4 by omega]
theorem s_addCell {c k : Nat} (h1 : 1 ≤ c) (hc : c ≤ 3) (hk : k < 5) {fr : Nat → Int32} (hf : ∀ r, r < c ^ k → fr r = nI (enc c k r)) {post : Int32 → (Nat → Int32) → Prop} (kk : ∀ fr', (∀ r, r < c ^ (k + 1) → fr' r = nI (enc c (k + 1) r)) → post (nI (c ^ (k + 1))) fr') : q_X2_addCell (nI c) (nI (c ^ k)) fr post := by
  have hlim : c ^ (k + 1) ≤ 243 := pow_le243 hc (by omega)
  have hpos : 0 < c ^ k := Nat.pow_pos h1
  have hs : c ^ (k + 1) = c ^ k * c := Nat.pow_succ ..
  have hbig : ∀ r, enc c k r < 2 ^ 29 := fun r => Nat.lt_of_lt_of_le (enc_lt h1 hc k r) (Nat.le_trans (Nat.pow_le_pow_right (by decide) (show k + 1 ≤ 6 by omega)) (by decide))
  unfold q_X2_addCell
  have inner : ∀ {K : Int32 → (Nat → Int32) → Prop} {sz : Int32} (r : Nat), r < c ^ k → (∀ f', (∀ r', r' < r → f' r' = nI (enc c k r')) → (∀ j, r * c ≤ j → j < c ^ (k + 1) → f' j = nI (enc c (k + 1) j)) → K (nI r) f') → ∀ (m i : Nat) (f : Nat → Int32), i + m = c → (∀ r', r' < r → f r' = nI (enc c k r')) → (∀ j, (r + 1) * c ≤ j → j < c ^ (k + 1) → f j = nI (enc c (k + 1) j)) → (∀ a, a < i → f (r * c + a) = nI (enc c (k + 1) (r * c + a))) → r_X2_addCell_20 (nI c) sz post K (nI r) (nI (enc c k r)) (m + 1) (nI i) f := by
    intro K sz r hr hK m
    have hrc : r * c + c ≤ c ^ (k + 1) := by rw [hs, ← Nat.succ_mul]; exact Nat.mul_le_mul_right c hr
    have hge : r ≤ r * c := Nat.le_mul_of_pos_right r h1
    induction m with
    | zero =>
      intro i f hi hlo hup hin
      unfold r_X2_addCell_20
      refine pk_le c i (fun _ => hK f hlo (fun j hj1 hj2 => ?_)) (fun q => absurd q (by omega)) rfl rfl (by omega) (by omega)
      by_cases e : (r + 1) * c ≤ j
      · exact hup j e hj2
      · rw [Nat.succ_mul] at e
        have := hin (j - r * c) (by omega)
        rw [show r * c + (j - r * c) = j by omega] at this
        exact this
    | succ m ih =>
      intro i f hi hlo hup hin
      unfold r_X2_addCell_20
      refine pk_le c i (fun q => absurd q (by omega)) (fun _ => ?_) rfl rfl (by omega) (by omega)
      rw [pk_mul, nI_add, nI_1]
      refine ⟨vp_in_nI (by omega) (by decide), ?_⟩
      rw [nI_clamp (by omega), shl_or (hbig r) (by omega)]
      have ev : enc c (k + 1) (r * c + i) = enc c k r * 4 + i := by
        show enc c k ((r * c + i) / c) * 4 + (r * c + i) % c = _
        rw [Nat.mul_comm r c, Nat.mul_add_div h1, Nat.mul_add_mod, Nat.div_eq_of_lt (by omega), Nat.mod_eq_of_lt (by omega), Nat.add_zero]
      refine ih (i + 1) _ (by omega) (fun r' hr' => ?_) (fun j hj1 hj2 => ?_) (fun a ha => ?_)
      · rw [upd_n _ (by omega)]; exact hlo r' hr'
      · rw [Nat.succ_mul] at hj1
        rw [upd_n _ (by omega)]; exact hup j (by rw [Nat.succ_mul]; exact hj1) hj2
      · by_cases e : a = i
        · rw [e, upd_s, ev]
        · rw [upd_n _ (by omega)]; exact hin a (by omega)
  have outer : ∀ (m : Nat) (f : Nat → Int32), m ≤ c ^ k → (∀ r', r' < m → f r' = nI (enc c k r')) → (∀ j, m * c ≤ j → j < c ^ (k + 1) → f j = nI (enc c (k + 1) j)) → r_X2_addCell_7 (nI c) post (q_X2_addCell_58 (nI c) post) (nI (c ^ k)) (m + 1) (nI m + (-1)) f := by
    intro m
    induction m with
    | zero =>
      intro f hm hlo hup
      unfold r_X2_addCell_7
      refine br (fun _ => ?_) (fun q => absurd (by decide) q)
      unfold q_X2_addCell_58
      rw [pk_mul, ← hs]
      exact kk f (fun r hr => hup r (by omega) hr)
    | succ m ih =>
      intro f hm hlo hup
      unfold r_X2_addCell_7
      rw [pk_m1]
      have hmk : m < c ^ (k + 1) := by rw [hs]; exact Nat.lt_of_lt_of_le (show m < c ^ k by omega) (Nat.le_mul_of_pos_right _ h1)
      refine br (fun q => absurd q (nI_pos (by omega))) (fun _ => ⟨vp_in_nI (by omega) (by decide), ?_⟩)
      rw [nI_clamp (by omega), hlo m (by omega)]
      refine ⟨c + 1, inner m (by omega) (fun f' h1' h2' => ?_) c 0 f (by omega) (fun r' hr' => hlo r' (by omega)) hup (fun a ha => absurd ha (by omega))⟩
      unfold q_X2_addCell_52
      exact ih f' (by omega) h1' h2'
  have h0 := outer (c ^ k) fr (by omega) hf (fun j hj1 hj2 => absurd hj2 (by omega))
  have e1 : nI (c ^ k) + (-1) = nI (c ^ k) - (1 : Int32) := by
    obtain ⟨n, hn⟩ : ∃ n, c ^ k = n + 1 := ⟨c ^ k - 1, by omega⟩
    rw [hn, pk_m1, nI_pred]
  rw [e1] at h0
  exact ⟨c ^ k + 1, h0⟩
theorem s_list {c w : Nat} (h1 : 1 ≤ c) (hc : c ≤ 3) (hw1 : 1 ≤ w) (hw : w ≤ 5) {a b d g : Int32} {fr pw : Nat → Int32} {post : Int32 → Int32 → Int32 → Int32 → (Nat → Int32) → (Nat → Int32) → Prop} (k : ∀ rs rg fr' pw', RowsOk c w (nI c) (nI w) rs rg fr' pw' → post (nI c) (nI w) rs rg fr' pw') : q_X2_list a b d g fr pw (nI c) (nI w) post := by
  have h243 := pow_le243 hc hw
  have hbig : ∀ r, enc c w r < 2 ^ 29 := fun r => Nat.lt_of_lt_of_le (enc_lt h1 hc w r) (Nat.le_trans (Nat.pow_le_pow_right (by decide) (show w + 1 ≤ 6 by omega)) (by decide))
  have hp729 : ∀ i, i < 7 → c ^ i ≤ 729 := fun i hi => Nat.le_trans (Nat.pow_le_pow_left hc i) (Nat.le_trans (Nat.pow_le_pow_right (by decide) (show i ≤ 6 by omega)) (by decide))
  unfold q_X2_list
  -- the frames' right ends
  have last : ∀ (pw' : Nat → Int32), (∀ i, i < 7 → pw' i = nI (c ^ i)) → ∀ (m i : Nat) (f : Nat → Int32), i + m = c ^ w → (∀ r, r < i → f r = nI (frm c w r)) → (∀ r, i ≤ r → r < c ^ w → f r = nI (enc c w r)) → r_X2_list_87 post (q_X2_list_117 post) (nI c) (nI w) (nI (c ^ w)) g pw' (m + 1) (nI i) f := by
    intro pw' hpw m
    induction m with
    | zero =>
      intro i f hi hlo hup
      unfold r_X2_list_87
      refine pk_le (c ^ w) i (fun _ => ?_) (fun q => absurd q (by omega)) rfl rfl (by omega) (by omega)
      unfold q_X2_list_117
      intro v9 e9
      have h4 := pow4_le hw
      have ering : v9 = nI (4 ^ (w + 2) - 1) := by
        rw [e9, show (2 : Int32) = nI 2 from rfl, nI_add, pk_mul, show (1 : Int32) = nI 1 from rfl, shlN (by omega) (by rw [Nat.pow_mul, show (2 : Nat) ^ 2 = 4 from rfl]; omega), Nat.pow_mul, Nat.one_mul, show (2 : Nat) ^ 2 = 4 from rfl, pk_sub (Nat.pow_pos (by decide))]
      exact k _ _ f pw' ⟨rfl, rfl, rfl, ering, fun r hr => hlo r (by omega), hpw⟩
    | succ m ih =>
      intro i f hi hlo hup
      unfold r_X2_list_87
      refine pk_le (c ^ w) i (fun q => absurd q (by omega)) (fun _ => ⟨vp_in_nI (by omega) (by decide), vp_in_nI (by omega) (by decide), ?_⟩) rfl rfl (by omega) (by omega)
      rw [nI_1, nI_clamp (by omega), hup i (by omega) (by omega), show (3 : Int32) = nI 3 from rfl, shl_or (hbig i) (by decide)]
      refine ih (i + 1) _ (by omega) (fun r hr => ?_) (fun r hr1 hr2 => ?_)
      · by_cases e : r = i
        · rw [e, upd_s]; rfl
        · rw [upd_n _ e]; exact hlo r (by omega)
      · rw [upd_n _ (by omega)]; exact hup r (by omega) hr2
  have mid : ∀ (pw' : Nat → Int32), (∀ i, i < 7 → pw' i = nI (c ^ i)) → ∀ (m i : Nat) (f : Nat → Int32), i + m = w → (∀ r, r < c ^ i → f r = nI (enc c i r)) → r_X2_list_67 post (q_X2_list_85 post) (nI c) (nI w) g pw' (m + 1) (nI i) (nI (c ^ i)) f := by
    intro pw' hpw m
    induction m with
    | zero =>
      intro i f hi hf
      unfold r_X2_list_67
      have ew : i = w := by omega
      rw [ew] at hf ⊢
      refine pk_le w w (fun _ => ?_) (fun q => absurd q (by omega)) rfl rfl (by omega) (by omega)
      unfold q_X2_list_85
      exact ⟨c ^ w + 1, last pw' hpw (c ^ w) 0 f (by omega) (fun r hr => absurd hr (by omega)) (fun r _ hr => hf r hr)⟩
    | succ m ih =>
      intro i f hi hf
      unfold r_X2_list_67
      refine pk_le w i (fun q => absurd q (by omega)) (fun _ => ?_) rfl rfl (by omega) (by omega)
      rw [nI_1]
      exact s_addCell h1 hc (by omega) hf (fun f' hf' => ih (i + 1) f' (by omega) hf')
  have first : ∀ (m i : Nat) (p : Nat → Int32), i + m = 7 → 1 ≤ i → (∀ j, j < i → p j = nI (c ^ j)) → r_X2_list_19 post (q_X2_list_53 post) (nI c) (nI w) d g fr (m + 1) (nI i) p := by
    intro m
    induction m with
    | zero =>
      intro i p hi hi1 hp
      unfold r_X2_list_19
      refine pk_le 7 i (fun _ => ?_) (fun q => absurd q (by omega)) rfl rfl (by omega) (by omega)
      unfold q_X2_list_53
      refine ⟨w + 1, mid p (fun j hj => hp j (by omega)) w 0 _ (by omega) (fun r hr => ?_)⟩
      rw [Nat.pow_zero] at hr
      rw [show r = 0 by omega]
      rfl
    | succ m ih =>
      intro i p hi hi1 hp
      unfold r_X2_list_19
      have es : nI i - (1 : Int32) = nI (i - 1) := by rw [show (1 : Int32) = nI 1 from rfl, pk_sub hi1]
      refine pk_le 7 i (fun q => absurd q (by omega)) (fun _ => ?_) rfl rfl (by omega) (by omega)
      rw [es]
      refine ⟨vp_in_nI (by omega) (by decide), vp_in_nI (by omega) (by decide), ?_⟩
      rw [nI_1, nI_clamp (by omega), nI_clamp (by omega), hp (i - 1) (by omega), pk_mul, ← Nat.pow_succ, show (i - 1).succ = i by omega]
      refine ih (i + 1) _ (by omega) (by omega) (fun j hj => ?_)
      by_cases e : j = i
      · rw [e, upd_s]
      · rw [upd_n _ e]; exact hp j (by omega)
  refine ⟨7, first 6 1 _ (by omega) (by omega) (fun j hj => ?_)⟩
  rw [show j = 0 by omega]
  rfl
