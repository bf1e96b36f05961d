/-! the album's steps -/
theorem s_corners {al : Nat → Bool} {R : Nat → Int32} (hr : RuleOk al R) {a b d : Nat} (ha : a < 4) (hb : b < 4) (hd : d < 4) {post : Int32 → Prop} (k : ∀ m : Nat, m < 16 → (∀ j, j < 4 → m.testBit j = al (64 * a + 16 * b + 4 * d + j)) → post (nI m)) : q_X3_corners R (nI a) (nI b) (nI d) post := by
  unfold q_X3_corners
  have e1 : ((nI a &&& (3 : Int32)) <<< ((2 : Int32) &&& 31)) ||| (nI b &&& (3 : Int32)) = nI (a * 4 + b) := by
    rw [and3N (by omega), and3N (by omega), Nat.mod_eq_of_lt ha, Nat.mod_eq_of_lt hb, shl_or (by omega) hb]
  have e2 : (nI d &&& (3 : Int32)) <<< ((2 : Int32) &&& 31) = nI (d * 4) := by
    rw [and3N (by omega), Nat.mod_eq_of_lt hd, show (2 : Int32) = nI 2 from rfl, shlN (by decide) (by omega)]
  rw [e1, e2]
  refine ⟨vp_in_nI (by omega) (by decide), ?_⟩
  obtain ⟨v, hv, e, ht⟩ := hr (a * 4 + b) (by omega)
  have hdv : v / 2 ^ (d * 4) ≤ v := Nat.div_le_self _ _
  rw [nI_clamp (by omega), e, shrN (by omega) (by omega), and15N (by omega)]
  refine k _ (Nat.mod_lt _ (by decide)) (fun j hj => ?_)
  rw [show (16 : Nat) = 2 ^ 4 from rfl, Nat.testBit_mod_two_pow, ← Nat.shiftRight_eq_div_pow, Nat.testBit_shiftRight, ht _ (by omega), show 16 * (a * 4 + b) + (d * 4 + j) = 64 * a + 16 * b + 4 * d + j by omega]
  simp [hj]
/-- which rows have a wished colour in each cell -/
def wsh (c w : Nat) (wi : Nat → Nat) (y r : Nat) : Bool := decide (∀ x, x < w → (wi (w * y + x)).testBit (dg c w r x) = true)
theorem s_isWished {c w h y : Nat} (h1 : 1 ≤ c) (hc : c ≤ 3) (hw : w ≤ 5) (hh : h ≤ 5) (hy : y < h) {fr wf : Nat → Int32} {wi : Nat → Nat} (hf : ∀ r, r < c ^ w → fr r = nI (frm c w r)) (hwi : ∀ i, i < 25 → wf i = nI (wi i) ∧ wi i < 8) {r : Nat} (hr : r < c ^ w) {post : Int32 → Prop} (k : post (bI (wsh c w wi y r))) : q_X0_isWished wf (nI w) fr (nI y) (nI r) post := by
  unfold q_X0_isWished
  have hN : w * y + w ≤ 25 := by
    rw [← Nat.mul_succ]; exact Nat.le_trans (Nat.mul_le_mul hw (show y + 1 ≤ 5 by omega)) (by decide)
  have loop : ∀ (m i : Nat), i + m = w → (∀ x, x < i → (wi (w * y + x)).testBit (dg c w r x) = true) → r_X0_isWished_2 wf (nI w) fr post (nI y) (nI r) (m + 1) (nI i) := by
    intro m
    induction m with
    | zero =>
      intro i hi hx
      unfold r_X0_isWished_2
      refine pk_le w i (fun _ => ?_) (fun q => absurd q (by omega)) rfl rfl (by omega) (by omega)
      rw [show wsh c w wi y r = true from decide_eq_true (fun x hxx => hx x (by omega))] at k
      exact k
    | succ m ih =>
      intro i hi hx
      unfold r_X0_isWished_2
      refine pk_le w i (fun q => absurd q (by omega)) (fun _ => ?_) rfl rfl (by omega) (by omega)
      rw [pk_mul, nI_add]
      refine ⟨vp_in_nI (by omega) (by decide), s_colour h1 hc hw hf hr (show i < w by omega) ?_⟩
      have hdg : dg c w r i < 3 := by unfold dg; have := Nat.mod_lt (r / c ^ (w - 1 - i)) (show c > 0 by omega); omega
      obtain ⟨e, hlt⟩ := hwi (w * y + i) (by omega)
      rw [nI_clamp (by omega), e, bit_at (by omega) (by omega), nI_1]
      cases ht : (wi (w * y + i)).testBit (dg c w r i) with
      | true =>
        refine c1 (ih (i + 1) (by omega) (fun x hxx => ?_))
        by_cases e2 : x = i
        · rw [e2]; exact ht
        · exact hx x (by omega)
      | false =>
        refine c0 ?_
        rw [show wsh c w wi y r = false from decide_eq_false (fun q => by rw [q i (by omega)] at ht; exact absurd ht (by decide))] at k
        exact k
  exact ⟨w + 1, loop w 0 (by omega) (fun x hx => absurd hx (by omega))⟩
theorem y243 {y a : Nat} : nI y * (243 : Int32) + nI a = nI (243 * y + a) := by rw [show (243 : Int32) = nI 243 from rfl, pk_mul, nI_add, Nat.mul_comm]
theorem pow_le729 {c w : Nat} (hc : c ≤ 3) (hw : w ≤ 5) : c ^ w * c ≤ 729 := Nat.le_trans (Nat.mul_le_mul (pow_le243 hc hw) hc) (by decide)
theorem s_closeRight {c w y : Nat} (h1 : 1 ≤ c) (hc : c ≤ 3) (hw1 : 1 ≤ w) (hw : w ≤ 5) (hy : y < 5) {al : Nat → Bool} {R fr : Nat → Int32} (hr : RuleOk al R) (hf : ∀ r, r < c ^ w → fr r = nI (frm c w r)) {wf ft : Nat → Int64} {ws : Nat → Nat} (hws : ∀ r, r < c ^ w → wf (243 * y + r) = lN (ws r)) {post : (Nat → Int64) → Prop}
    (k : ∀ ft', (∀ i, i < c ^ w * c → ft' i = lN (Gc al c w ws (w - 1) i)) → post ft') : q_X0_closeRight wf (nI c) (nI w) (nI (c ^ w)) fr R ft (nI y) post := by
  have h243 := pow_le243 hc hw
  have h729 := pow_le729 hc hw
  unfold q_X0_closeRight
  have ew : nI w - (1 : Int32) = nI (w - 1) := by rw [show (1 : Int32) = nI 1 from rfl, pk_sub hw1]
  have inner : ∀ {K10 : Int32 → (Nat → Int64) → Prop} (r : Nat), r < c ^ w → (∀ g, (∀ i, i < (r + 1) * c → g i = lN (Gc al c w ws (w - 1) i)) → K10 (nI (r + 1)) g) → ∀ (m i : Nat) (g : Nat → Int64), i + m = c → (∀ j, j < r * c + i → g j = lN (Gc al c w ws (w - 1) j)) → r_X0_closeRight_57 wf (nI c) (nI w) (nI (c ^ w)) fr R (nI y) (nI c) post (q_X0_closeRight_117 wf (nI c) (nI w) (nI (c ^ w)) fr R (nI y) (nI c) post K10) (nI r) (lN (ws r)) (nI (dg c w r (w - 1))) (m + 1) (nI i) g := by
    intro K10 r hrr hK m
    have hrc : r * c + c ≤ c ^ w * c := by rw [← Nat.succ_mul]; exact Nat.mul_le_mul_right c hrr
    have hdg : dg c w r (w - 1) < 4 := by unfold dg; have := Nat.mod_lt (r / c ^ (w - 1 - (w - 1))) (show c > 0 by omega); omega
    induction m with
    | zero =>
      intro i g hi hg
      unfold r_X0_closeRight_57
      refine pk_le c i (fun _ => ?_) (fun q => absurd q (by omega)) rfl rfl (by omega) (by omega)
      unfold q_X0_closeRight_117
      rw [nI_1]
      exact hK g (fun j hj => hg j (by rw [Nat.succ_mul] at hj; omega))
    | succ m ih =>
      intro i g hi hg
      unfold r_X0_closeRight_57
      refine pk_le c i (fun q => absurd q (by omega)) (fun _ => ?_) rfl rfl (by omega) (by omega)
      rw [show (3 : Int32) = nI 3 from rfl]
      refine s_corners hr (by omega) (by decide) hdg (fun mm hm hb => ?_)
      have hb3 := hb 3 (by decide)
      rw [bit_at (by omega) (by decide), hb3]
      have eg := Gc_first (al := al) (ws := ws) (r := r) h1 hw1 (show i < c by omega)
      have go : ∀ v, v = Gc al c w ws (w - 1) (r * c + i) → (vp_in (nI r * nI c + nI i) 729 ∧ (r_X0_closeRight_57 wf (nI c) (nI w) (nI (c ^ w)) fr R (nI y) (nI c) post (q_X0_closeRight_117 wf (nI c) (nI w) (nI (c ^ w)) fr R (nI y) (nI c) post K10) (nI r) (lN (ws r)) (nI (dg c w r (w - 1))) (m + 1)) (nI i + (1 : Int32)) (vp_updL g (nI r * nI c + nI i).toNatClampNeg (lN v))) := by
        intro v ev
        rw [pk_mul, nI_add, nI_1]
        refine ⟨vp_in_nI (by omega) (by decide), ?_⟩
        rw [nI_clamp (by omega)]
        refine ih (i + 1) _ (by omega) (fun j hj => ?_)
        by_cases e : j = r * c + i
        · rw [e, updL_s, ev]
        · rw [updL_n _ e]; exact hg j (by omega)
      cases hal : al (64 * i + 16 * 3 + 4 * dg c w r (w - 1) + 3) with
      | false =>
        rw [hal, if_neg (by decide)] at eg
        refine b0 ?_
        unfold q_X0_closeRight_87
        exact b0 (go 0 eg.symm)
      | true =>
        rw [hal, if_pos rfl] at eg
        refine b1 ?_
        unfold q_X0_closeRight_87
        exact b1 (go (ws r) eg.symm)
  have outer : ∀ (m r : Nat) (g : Nat → Int64), r + m = c ^ w → (∀ j, j < r * c → g j = lN (Gc al c w ws (w - 1) j)) → r_X0_closeRight_10 wf (nI c) (nI w) (nI (c ^ w)) fr R post (nI y) (nI c) (m + 1) (nI r) g := by
    intro m
    induction m with
    | zero =>
      intro r g hm hg
      unfold r_X0_closeRight_10
      exact pk_le (c ^ w) r (fun _ => k g (fun j hj => hg j (by rw [show r = c ^ w by omega]; exact hj))) (fun q => absurd q (by omega)) rfl rfl (by omega) (by omega)
    | succ m ih =>
      intro r g hm hg
      unfold r_X0_closeRight_10
      refine pk_le (c ^ w) r (fun q => absurd q (by omega)) (fun _ => ?_) rfl rfl (by omega) (by omega)
      rw [y243, ew]
      refine ⟨vp_in_nI (by omega) (by decide), s_colour h1 hc hw hf (show r < c ^ w by omega) (show w - 1 < w by omega) ?_⟩
      rw [nI_clamp (by omega), hws r (by omega)]
      exact ⟨c + 1, inner r (by omega) (fun g' hg' => ih (r + 1) g' (by omega) hg') c 0 g (by omega) (fun j hj => hg j (by omega))⟩
  exact ⟨c ^ w + 1, outer (c ^ w) 0 ft (by omega) (fun j hj => absurd hj (by omega))⟩
/-- a sum over the colours, by bits -/
theorem and_bit {m j : Nat} (hm : m < 16) (hj : j < 4) : (nI m &&& nI (2 ^ j)) = 0 ↔ m.testBit j = false := fa_bit (by omega)
theorem s_sum {m : Nat} (hm : m < 16) {n0 n1 n2 : Nat} {post : Int64 → Prop} (k : post (lN ((if m.testBit 0 then n0 else 0) + (if m.testBit 1 then n1 else 0) + (if m.testBit 2 then n2 else 0)))) : q_X0_sum (nI m) (lN n0) (lN n1) (lN n2) post := by
  have z : (0 : Int64) = lN 0 := rfl
  have e0 := and_bit hm (show 0 < 4 by decide)
  have e1 := and_bit hm (show 1 < 4 by decide)
  have e2 := and_bit hm (show 2 < 4 by decide)
  have p0 : nI (2 ^ 0) = (1 : Int32) := rfl
  have p1 : nI (2 ^ 1) = (2 : Int32) := rfl
  have p2 : nI (2 ^ 2) = (4 : Int32) := rfl
  rw [p0] at e0; rw [p1] at e1; rw [p2] at e2
  have last : ∀ t1 t0 : Nat, post (lN (t1 + t0 + (if m.testBit 2 then n2 else 0))) → q_X0_sum_26 post (nI m) (lN n2) (lN t0) (lN t1) := by
    intro t1 t0 kk
    unfold q_X0_sum_26
    refine br (fun q => ?_) (fun q => ?_)
    · rw [e2.mp q] at kk; rw [z, lN_add', lN_add']; exact kk
    · rw [Bool.not_eq_false _ |>.mp (fun h => q (e2.mpr h))] at kk; rw [lN_add', lN_add']; exact kk
  have mid : ∀ t1 : Nat, post (lN (t1 + (if m.testBit 1 then n1 else 0) + (if m.testBit 2 then n2 else 0))) → q_X0_sum_11 post (nI m) (lN n1) (lN n2) (lN t1) := by
    intro t1 kk
    unfold q_X0_sum_11
    refine br (fun q => ?_) (fun q => ?_)
    · rw [e1.mp q] at kk; rw [z]; exact last t1 0 kk
    · rw [Bool.not_eq_false _ |>.mp (fun h => q (e1.mpr h))] at kk; exact last t1 n1 kk
  unfold q_X0_sum
  refine br (fun q => ?_) (fun q => ?_)
  · rw [e0.mp q] at k; rw [z]; exact mid 0 k
  · rw [Bool.not_eq_false _ |>.mp (fun h => q (e0.mpr h))] at k; exact mid n0 k
