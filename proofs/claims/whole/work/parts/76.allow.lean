/-! parts of a block -/
theorem pf_lI2 {a : Nat} (h : a < 2 ^ 63) : (lN a).toInt = (a : Int) := pk_lT h
def isP (c v : Nat) : Bool := decide (v < c) || decide (v = 3)
def okB (c b : Nat) : Bool := isP c (b % 4) && isP c (b / 4 % 4) && isP c (b / 16 % 4) && isP c (b / 64 % 4)
theorem sh2 : ∀ i, i < 25 → ((((2 : Int32) * nI i).toInt64 &&& 63).toBitVec.smod 64).toNat = 2 * i := by decide
theorem lshrN {a d : Nat} {D : Int64} (hD : (D.toBitVec.smod 64).toNat = d) (h : a < 2 ^ 62) : lN a >>> D = lN (a / 2 ^ d) := by
  apply (fa_eq64 _ _).mpr
  have hd : a / 2 ^ d ≤ a := Nat.div_le_self _ _
  rw [pk_lT (by omega)]
  have e : (lN a >>> D).toInt = (lN a).toInt >>> d := by
    rw [← hD]
    show (lN a >>> D).toBitVec.toInt = _
    rw [Int64.toBitVec_shiftRight, BitVec.toInt_sshiftRight']
    rfl
  rw [e, pk_lT (by omega), Int.shiftRight_eq_div_pow]
  simp
theorem l2i3 (y : Int64) : y.toInt32 &&& (3 : Int32) = nI (y.toBitVec.toNat % 4) := by
  rw [pk_and _ 2 (by decide)]
  congr 1
  show (y.toInt32).toBitVec.toNat % 2 ^ 2 = _
  rw [Int64.toBitVec_toInt32]
  simp only [BitVec.toNat_signExtend, BitVec.toNat_setWidth]
  simp
theorem lN_of (y : Int64) : lN y.toBitVec.toNat = y := by
  apply Int64.toBitVec_inj.mp
  show BitVec.ofNat 64 y.toBitVec.toNat = y.toBitVec
  exact BitVec.ofNat_toNat ..
theorem lN_tn {n : Nat} (h : n < 2 ^ 64) : (lN n).toBitVec.toNat = n := by
  show (BitVec.ofNat 64 n).toNat = n
  rw [BitVec.toNat_ofNat]; exact Nat.mod_eq_of_lt h
theorem land3 (y : Int64) : y &&& (3 : Int64) = lN (y.toBitVec.toNat % 4) := by
  have h := fb_maskL y.toBitVec.toNat 2
  rw [lN_of] at h
  exact h
def vP (c b i : Nat) : Bool := isP c (b / 2 ^ (2 * i) % 4)
theorem okB_iff (c b : Nat) : okB c b = true ↔ ∀ i, i < 4 → vP c b i = true := by
  unfold okB
  simp only [Bool.and_eq_true]
  constructor
  · rintro ⟨⟨⟨h0, h1⟩, h2⟩, h3⟩ i hi
    rcases (show i = 0 ∨ i = 1 ∨ i = 2 ∨ i = 3 by omega) with rfl | rfl | rfl | rfl
    · unfold vP; simpa using h0
    · exact h1
    · exact h2
    · exact h3
  · intro h
    have q0 := h 0 (by decide)
    unfold vP at q0
    exact ⟨⟨⟨by simpa using q0, h 1 (by decide)⟩, h 2 (by decide)⟩, h 3 (by decide)⟩
theorem partOf_N {b i : Nat} (hb : b < 256) (hi : i < 4) : (((nI b).toInt64 >>> (((2 : Int32) * nI i).toInt64 &&& 63)).toInt32) &&& (3 : Int32) = nI (b / 2 ^ (2 * i) % 4) := by
  rw [nI_l (by omega), lshrN (sh2 i (by omega)) (by omega), l2i3, lN_tn (Nat.lt_of_le_of_lt (Nat.div_le_self _ _) (by omega))]
theorem l_isBlockX {c b : Nat} (hc : c ≤ 3) (hb : b < 256) {post : Int32 → Prop} (k : post (bI (okB c b))) : ∀ (m i : Nat), i + m = 4 → (∀ j, j < i → vP c b j = true) → r_X8_isBlock_15 (nI c) post (nI b) (m + 1) (nI i) := by
  intro m
  induction m with
  | zero =>
    intro i hi h
    unfold r_X8_isBlock_15
    refine pk_le 4 i (fun _ => ?_) (fun h => absurd h (by omega)) rfl rfl (by omega) (by omega)
    rw [(okB_iff c b).mpr (fun j hj => h j (by omega))] at k
    exact k
  | succ m ih =>
    intro i hi h
    unfold r_X8_isBlock_15
    refine pk_le 4 i (fun h => absurd h (by omega)) (fun _ => ?_) rfl rfl (by omega) (by omega)
    unfold q_X8_partOf
    rw [partOf_N hb (by omega), nI_1]
    have hlt : b / 2 ^ (2 * i) % 4 < 4 := Nat.mod_lt _ (by decide)
    have next : vP c b i = true → r_X8_isBlock_15 (nI c) post (nI b) (m + 1) (nI (i + 1)) := fun hv => ih (i + 1) (by omega) (fun j hj => by
      by_cases e : j = i
      · rw [e]; exact hv
      · exact h j (by omega))
    refine pk_eq (b / 2 ^ (2 * i) % 4) 3 (fun e => next (by unfold vP isP; rw [e]; simp)) (fun e => ?_) rfl rfl (by omega) (by omega)
    have et := nI_toInt (n := b / 2 ^ (2 * i) % 4) (by omega)
    refine s_isColour hc (fun q => c1 (next (by unfold vP isP; simp; omega))) (fun q => c0 ?_)
    have hf : okB c b = false := by
      cases ho : okB c b with
      | false => rfl
      | true =>
        have := (okB_iff c b).mp ho i (by omega)
        unfold vP isP at this
        simp at this
        omega
    rw [hf] at k
    exact k
theorem s_isBlockX {c : Nat} (hc : c ≤ 3) {a : Int32} {post : Int32 → Prop} (k : ∀ b : Nat, b < 256 → a = nI b → post (bI (okB c b))) (k0 : ¬ (0 ≤ a.toInt ∧ a.toInt < 256) → post 0) : q_X8_isBlock (nI c) a post := by
  unfold q_X8_isBlock
  simp only [fa_lt, ti0, ti256]
  refine ⟨fun h => k0 (by omega), fun h => ⟨fun h' => ?_, fun h' => k0 (by omega)⟩⟩
  have e := nI_of_toInt (a := a) (by omega)
  have kk := k a.toInt.toNat (by omega) e
  rw [e]
  exact ⟨5, l_isBlockX hc (by omega) kk 4 0 (by omega) (fun j hj => absurd hj (by omega))⟩
theorem s_allowX {c : Nat} (hc : c ≤ 3) {al : Nat → Bool} {f : Nat → Int32} (hr : RuleOk al f) {a x : Int32} {is : Bool} (hx : x = 0 ↔ is = false) {post : Int32 → (Nat → Int32) → Prop}
    (k : ∀ b : Nat, b < 256 → a = nI b → okB c b = true → ∀ f', RuleOk (setB al b is) f' → post (bI (al b)) f')
    (k0 : ¬ ((0 ≤ a.toInt ∧ a.toInt < 256) ∧ okB c a.toInt.toNat = true) → post (-3) f) : q_X8_allow (nI c) f a x post := by
  unfold q_X8_allow
  refine s_isBlockX hc (fun b hb e => ?_) (fun h => c0 (k0 (fun q => h q.1)))
  cases ho : okB c b with
  | false =>
    refine c0 (k0 (fun q => ?_))
    rw [e, nI_toInt (by omega)] at q
    simp [ho] at q
  | true =>
    refine c1 ?_
    have kk := k b hb e ho
    rw [e]
    refine s_has hr hb ?_
    unfold q_X8_allow_27
    cases ha : al b with
    | false => exact b0 (s_put hr hb hx (fun f' h => by have := kk f' h; rw [ha] at this; exact this))
    | true => exact b1 (s_put hr hb hx (fun f' h => by have := kk f' h; rw [ha] at this; exact this))
/-- the reference's side of the rule -/
def RuleM (al : Nat → Bool) (f : Nat → Int32) : Prop := ∀ b, b < 256 → f b = bI (al b)
theorem RuleM.set {al : Nat → Bool} {f : Nat → Int32} (h : RuleM al f) (b : Nat) (is : Bool) : RuleM (setB al b is) (upd f b (bI is)) := by
  intro x hx
  unfold upd setB
  by_cases e : x = b
  · rw [if_pos e, if_pos e]
  · rw [if_neg e, if_neg e]; exact h x hx
theorem s_isPart {c : Nat} (hc : c ≤ 3) {v : Nat} (hv : v < 4) {post : Int32 → Prop} (k : post (bI (isP c v))) : q_X9_isPart (nI c) (nI v) post := by
  unfold q_X9_isPart
  refine pk_lt v c (fun h => ?_) (fun h => ?_) rfl rfl (by omega) (by omega)
  · have e : isP c v = true := by unfold isP; simp [h]
    rw [e] at k; exact k
  · refine brn (fun q => ?_) (fun q => ?_)
    · have e : isP c v = false := by
        unfold isP
        have : v ≠ 3 := fun e => q (by rw [e]; rfl)
        simp; omega
      rw [e] at k; exact k
    · have e : isP c v = true := by
        have : v = 3 := nI_inj (by omega) (by omega) q
        unfold isP; simp [this]
      rw [e] at k; exact k
theorem sh_6 {b : Nat} (hb : b < 256) : (nI b >>> ((6 : Int32) &&& 31)) &&& (3 : Int32) = nI (b / 64 % 4) := by
  rw [show (6 : Int32) = nI 6 from rfl, shrN (by omega) (by decide), and3N (by omega)]
theorem sh_4 {b : Nat} (hb : b < 256) : (nI b >>> ((4 : Int32) &&& 31)) &&& (3 : Int32) = nI (b / 16 % 4) := by
  rw [show (4 : Int32) = nI 4 from rfl, shrN (by omega) (by decide), and3N (by omega)]
theorem sh_2 {b : Nat} (hb : b < 256) : (nI b >>> ((2 : Int32) &&& 31)) &&& (3 : Int32) = nI (b / 4 % 4) := by
  rw [show (2 : Int32) = nI 2 from rfl, shrN (by omega) (by decide), and3N (by omega)]
theorem sh_0 {b : Nat} (hb : b < 256) : nI b &&& (3 : Int32) = nI (b % 4) := and3N (by omega)
theorem s_isBlockM {c : Nat} (hc : c ≤ 3) {a : Int32} {post : Int32 → Prop} (k : ∀ b : Nat, b < 256 → a = nI b → post (bI (okB c b))) (k0 : ¬ (0 ≤ a.toInt ∧ a.toInt < 256) → post 0) : q_X9_isBlock (nI c) a post := by
  unfold q_X9_isBlock
  refine s_in (fun h => b1 ?_) (fun h => b0 (k0 (by rw [tl0, tl255] at h; omega)))
  rw [tl0, tl255] at h
  have e := nI_of_toInt (a := a) (by omega)
  have kk := k a.toInt.toNat (by omega) e
  have hb : a.toInt.toNat < 256 := by omega
  generalize a.toInt.toNat = b at e kk hb
  rw [e, sh_6 hb, sh_4 hb, sh_2 hb, sh_0 hb]
  unfold okB at kk
  have m4 : ∀ x : Nat, x % 4 < 4 := fun x => Nat.mod_lt _ (by decide)
  refine s_isPart hc (m4 _) ?_
  cases q3 : isP c (b / 64 % 4) with
  | false => rw [q3, Bool.and_false] at kk; exact b0 kk
  | true =>
    refine b1 (s_isPart hc (m4 _) ?_)
    cases q2 : isP c (b / 16 % 4) with
    | false => rw [q2, Bool.and_false, Bool.false_and] at kk; exact b0 kk
    | true =>
      refine b1 (s_isPart hc (m4 _) ?_)
      cases q1 : isP c (b / 4 % 4) with
      | false => rw [q1, Bool.and_false, Bool.false_and, Bool.false_and] at kk; exact b0 kk
      | true =>
        refine b1 (s_isPart hc (m4 _) ?_)
        cases q0 : isP c (b % 4) with
        | false => rw [q0, Bool.false_and, Bool.false_and, Bool.false_and] at kk; exact b0 kk
        | true => rw [q0, q1, q2, q3] at kk; exact b1 kk
theorem s_allowM {c : Nat} (hc : c ≤ 3) {al : Nat → Bool} {f : Nat → Int32} (hr : RuleM al f) {a : Int32} {is : Bool} {post : Int32 → (Nat → Int32) → Prop}
    (k : ∀ b : Nat, b < 256 → a = nI b → okB c b = true → ∀ f', RuleM (setB al b is) f' → post (bI (al b)) f')
    (k0 : ¬ ((0 ≤ a.toInt ∧ a.toInt < 256) ∧ okB c a.toInt.toNat = true) → post (-3) f) : q_X9_allow (nI c) f a (bI is) post := by
  unfold q_X9_allow
  refine s_isBlockM hc (fun b hb e => ?_) (fun h => c0 (k0 (fun q => h q.1)))
  cases ho : okB c b with
  | false =>
    refine c0 (k0 (fun q => ?_))
    rw [e, nI_toInt (by omega)] at q
    simp [ho] at q
  | true =>
    refine c1 ?_
    have kk := k b hb e ho
    have hi : vp_in (nI b) 256 := vp_in_nI hb (by decide)
    rw [e]
    refine ⟨hi, ?_⟩
    unfold q_X9_allow_25
    rw [nI_clamp (by omega), hr b hb]
    cases ha : al b with
    | false => rw [ha] at kk; exact b0 ⟨hi, bI_01 is, kk _ (hr.set b is)⟩
    | true => rw [ha] at kk; exact b1 ⟨hi, bI_01 is, kk _ (hr.set b is)⟩
/-! paint -/
def ptOf (row : Int64) (i : Nat) : Nat := (row >>> (((2 : Int32) * nI i).toInt64 &&& 63)).toBitVec.toNat % 4
theorem ptOf_lt (row : Int64) (i : Nat) : ptOf row i < 4 := Nat.mod_lt _ (by decide)
def pntOk (c : Nat) (row : Int64) (N : Nat) : Prop := ∀ i, i < N → ptOf row i < c
theorem s_paintX {c h w : Nat} (hc : c ≤ 3) (hh : h ≤ 5) (hw : w ≤ 5) {f dk : Nat → Int32} (hd : ∀ i, i < 25 → f i = dk i) {row : Int64} {post : Int32 → (Nat → Int32) → Prop}
    (k : pntOk c row (h * w) → ∀ f', (∀ i, i < 25 → f' i = if i < h * w then nI (ptOf row i) else dk i) → post 1 f') (k0 : ¬ pntOk c row (h * w) → post (-3) f) : q_X8_paint (nI c) (nI h) (nI w) f row post := by
  have hN : h * w ≤ 25 := Nat.le_trans (Nat.mul_le_mul hh hw) (by decide)
  unfold q_X8_paint q_X4_size
  rw [pk_mul]
  have loop2 : pntOk c row (h * w) → ∀ (m i : Nat) (g : Nat → Int32), i + m = h * w → (∀ j, j < 25 → g j = if j < i then nI (ptOf row j) else dk j) → r_X8_paint_42 (nI c) (nI h) (nI w) post row (nI (h * w)) (m + 1) (nI i) g := by
    intro hp m
    induction m with
    | zero =>
      intro i g hi hg
      unfold r_X8_paint_42
      exact pk_le (h * w) i (fun _ => k hp g (fun j hj => by rw [hg j hj, show i = h * w by omega])) (fun h => absurd h (by omega)) rfl rfl (by omega) (by omega)
    | succ m ih =>
      intro i g hi hg
      unfold r_X8_paint_42
      refine pk_le (h * w) i (fun h => absurd h (by omega)) (fun _ => ?_) rfl rfl (by omega) (by omega)
      unfold q_X8_partOf
      refine ⟨vp_in_nI (by omega) (by decide), ?_⟩
      rw [l2i3, nI_1, nI_clamp (by omega)]
      refine ih (i + 1) _ (by omega) (fun j hj => ?_)
      by_cases e : j = i
      · subst e; rw [upd_s, if_pos (by omega)]; rfl
      · rw [upd_n _ e, hg j hj]
        by_cases e2 : j < i
        · rw [if_pos e2, if_pos (by omega)]
        · rw [if_neg e2, if_neg (by omega)]
  have loop1 : ∀ (m i : Nat), i + m = h * w → (∀ j, j < i → ptOf row j < c) → r_X8_paint_11 (nI c) (nI h) (nI w) post (q_X8_paint_39 (nI c) (nI h) (nI w) post) row (nI (h * w)) f (m + 1) (nI i) := by
    intro m
    induction m with
    | zero =>
      intro i hi hp
      unfold r_X8_paint_11
      refine pk_le (h * w) i (fun _ => ?_) (fun h => absurd h (by omega)) rfl rfl (by omega) (by omega)
      unfold q_X8_paint_39
      exact ⟨h * w + 1, loop2 (fun j hj => hp j (by omega)) (h * w) 0 f (by omega) (fun j hj => by rw [if_neg (by omega)]; exact hd j hj)⟩
    | succ m ih =>
      intro i hi hp
      unfold r_X8_paint_11
      refine pk_le (h * w) i (fun h => absurd h (by omega)) (fun _ => ?_) rfl rfl (by omega) (by omega)
      unfold q_X8_partOf
      rw [l2i3, nI_1]
      have hlt := ptOf_lt row i
      have et := nI_toInt (n := ptOf row i) (by omega)
      refine s_isColour hc (fun q => c1 ?_) (fun q => c0 (k0 (fun p => q ?_)))
      · refine ih (i + 1) (by omega) (fun j hj => ?_)
        by_cases e : j = i
        · rw [e]; have q2 : (nI (ptOf row i)).toInt < c := q.2; omega
        · exact hp j (by omega)
      · have := p i (by omega)
        show 0 ≤ (nI (ptOf row i)).toInt ∧ (nI (ptOf row i)).toInt < c
        omega
  exact ⟨h * w + 1, loop1 (h * w) 0 (by omega) (fun j hj => absurd hj (by omega))⟩
theorem s_paintM {c h w : Nat} (hc : c ≤ 3) (hh : h ≤ 5) (hw : w ≤ 5) {f dk : Nat → Int32} (hd : ∀ i, i < 25 → f i = dk i) {row : Int64} {post : Int32 → (Nat → Int32) → Prop}
    (k : pntOk c row (h * w) → ∀ f', (∀ i, i < 25 → f' i = if i < h * w then nI (ptOf row i) else dk i) → post 1 f') (k0 : ¬ pntOk c row (h * w) → post (-3) f) : q_X9_paint (nI c) (nI h) (nI w) f row post := by
  have hN : h * w ≤ 25 := Nat.le_trans (Nat.mul_le_mul hh hw) (by decide)
  unfold q_X9_paint
  have loop2 : pntOk c row (h * w) → ∀ (m i : Nat) (g : Nat → Int32), i + m = h * w → (∀ j, j < 25 → g j = if j < i then nI (ptOf row j) else dk j) → r_X9_paint_44 (nI c) (nI h) (nI w) post row (m + 1) (nI i) g := by
    intro hp m
    induction m with
    | zero =>
      intro i g hi hg
      unfold r_X9_paint_44
      rw [pk_mul]
      exact pk_le (h * w) i (fun _ => k hp g (fun j hj => by rw [hg j hj, show i = h * w by omega])) (fun h => absurd h (by omega)) rfl rfl (by omega) (by omega)
    | succ m ih =>
      intro i g hi hg
      unfold r_X9_paint_44
      rw [pk_mul]
      refine pk_le (h * w) i (fun h => absurd h (by omega)) (fun _ => ⟨vp_in_nI (by omega) (by decide), ?_⟩) rfl rfl (by omega) (by omega)
      rw [land3, lN_i, nI_1, nI_clamp (by omega)]
      refine ih (i + 1) _ (by omega) (fun j hj => ?_)
      by_cases e : j = i
      · subst e; rw [upd_s, if_pos (by omega)]; rfl
      · rw [upd_n _ e, hg j hj]
        by_cases e2 : j < i
        · rw [if_pos e2, if_pos (by omega)]
        · rw [if_neg e2, if_neg (by omega)]
  have loop1 : ∀ (m i : Nat), i + m = h * w → (∀ j, j < i → ptOf row j < c) → r_X9_paint_2 (nI c) (nI h) (nI w) post (q_X9_paint_42 (nI c) (nI h) (nI w) post) row f (m + 1) (nI i) := by
    intro m
    induction m with
    | zero =>
      intro i hi hp
      unfold r_X9_paint_2
      rw [pk_mul]
      refine pk_le (h * w) i (fun _ => ?_) (fun h => absurd h (by omega)) rfl rfl (by omega) (by omega)
      unfold q_X9_paint_42
      exact ⟨h * w + 1, loop2 (fun j hj => hp j (by omega)) (h * w) 0 f (by omega) (fun j hj => by rw [if_neg (by omega)]; exact hd j hj)⟩
    | succ m ih =>
      intro i hi hp
      unfold r_X9_paint_2
      rw [pk_mul]
      refine pk_le (h * w) i (fun h => absurd h (by omega)) (fun _ => ?_) rfl rfl (by omega) (by omega)
      rw [land3, nI_l (by omega), nI_1]
      have hlt := ptOf_lt row i
      have ht : lN ((row >>> (((2 : Int32) * nI i).toInt64 &&& 63)).toBitVec.toNat % 4) < lN c ↔ ptOf row i < c := pk_lLT (Nat.lt_trans hlt (by decide)) (by omega)
      refine br (fun q => ?_) (fun q => k0 (fun p => q (ht.mpr (p i (by omega)))))
      refine ih (i + 1) (by omega) (fun j hj => ?_)
      by_cases e : j = i
      · rw [e]; exact ht.mp q
      · exact hp j (by omega)
  exact ⟨h * w + 1, loop1 (h * w) 0 (by omega) (fun j hj => absurd hj (by omega))⟩
