/-! turns of blocks -/
def chg (v : Nat) : Nat := if v < 2 then 1 - v else v
def tn (t b : Nat) : Nat :=
  if t = 0 then 64 * (b / 4 % 4) + 16 * (b / 64 % 4) + 4 * (b % 4) + b / 16 % 4
  else if t = 1 then 64 * (b / 16 % 4) + 16 * (b / 64 % 4) + 4 * (b % 4) + b / 4 % 4
  else if t = 2 then 64 * (b / 4 % 4) + 16 * (b % 4) + 4 * (b / 64 % 4) + b / 16 % 4
  else 64 * chg (b / 64 % 4) + 16 * chg (b / 16 % 4) + 4 * chg (b / 4 % 4) + chg (b % 4)
theorem tn_facts : ∀ (t : Fin 4) (b : Fin 256), tn t.val b.val < 256 ∧ tn t.val (tn t.val (tn t.val (tn t.val b.val))) = b.val := by decide +kernel
theorem tn_lt {t b : Nat} (ht : t < 4) (hb : b < 256) : tn t b < 256 := (tn_facts ⟨t, ht⟩ ⟨b, hb⟩).1
theorem tn_4 {t b : Nat} (ht : t < 4) (hb : b < 256) : tn t (tn t (tn t (tn t b))) = b := (tn_facts ⟨t, ht⟩ ⟨b, hb⟩).2
theorem chg_lt {v : Nat} (h : v < 4) : chg v < 4 := by unfold chg; split <;> omega
theorem s_changedX {v : Nat} (h : v < 4) {post : Int32 → Prop} (k : post (nI (chg v))) : q_X3_changed (nI v) post := by
  unfold q_X3_changed
  unfold chg at k
  refine pk_le 2 v (fun q => ?_) (fun q => ?_) rfl rfl (by omega) (by omega)
  · rw [if_neg (by omega)] at k; exact k
  · rw [if_pos (by omega)] at k; rw [show (1 : Int32) = nI 1 from rfl, pk_sub (by omega)]; exact k
theorem s_changedM {v : Nat} (h : v < 4) {post : Int32 → Prop} (k : post (nI (chg v))) : q_X9_changed (nI v) post := s_changedX h k
theorem m4 (x : Nat) : x % 4 < 4 := Nat.mod_lt _ (by decide)
theorem s_joined {p1 p2 p3 p4 : Nat} (h1 : p1 < 4) (h2 : p2 < 4) (h3 : p3 < 4) (h4 : p4 < 4) {post : Int32 → Prop} (k : post (nI (64 * p1 + 16 * p2 + 4 * p3 + p4))) : q_X3_joined (nI p1) (nI p2) (nI p3) (nI p4) post := by
  unfold q_X3_joined
  rw [join4 h1 h2 h3 h4]; exact k
theorem nI_lit_ne {t k : Nat} (ht : t < 4) (hk : k < 4) (h : ¬ nI t = nI k) : t ≠ k := fun e => h (by rw [e])
theorem s_turned {t b : Nat} (ht : t < 4) (hb : b < 256) {post : Int32 → Prop} (k : post (nI (tn t b))) : q_X3_turned (nI b) (nI t) post := by
  unfold q_X3_turned
  rw [sh_6 hb, sh_4 hb, sh_2 hb, sh_0 hb]
  unfold tn at k
  refine ⟨fun e => ?_, fun e => ?_, fun e => ?_, fun e => ?_⟩
  · have e0 : t = 0 := nI_inj (by omega) (by decide) e
    rw [if_pos e0] at k
    exact s_joined (m4 _) (m4 _) (m4 _) (m4 _) k
  · have e0 : t = 1 := nI_inj (by omega) (by decide) e
    rw [if_neg (by omega), if_pos e0] at k
    exact s_joined (m4 _) (m4 _) (m4 _) (m4 _) k
  · have e0 : t = 2 := nI_inj (by omega) (by decide) e
    rw [if_neg (by omega), if_neg (by omega), if_pos e0] at k
    exact s_joined (m4 _) (m4 _) (m4 _) (m4 _) k
  · have n0 : t ≠ 0 := nI_lit_ne ht (by decide) e.1
    have n1 : t ≠ 1 := nI_lit_ne ht (by decide) e.2.1
    have n2 : t ≠ 2 := nI_lit_ne ht (by decide) e.2.2
    rw [if_neg n0, if_neg n1, if_neg n2] at k
    refine s_changedX (m4 _) (s_changedX (m4 _) (s_changedX (m4 _) (s_changedX (m4 _) ?_)))
    exact s_joined (chg_lt (m4 _)) (chg_lt (m4 _)) (chg_lt (m4 _)) (chg_lt (m4 _)) k
theorem sum4 (p1 p2 p3 p4 : Nat) : (((64 : Int32) * nI p1 + (16 : Int32) * nI p2) + (4 : Int32) * nI p3) + nI p4 = nI (64 * p1 + 16 * p2 + 4 * p3 + p4) := by
  rw [show (64 : Int32) = nI 64 from rfl, show (16 : Int32) = nI 16 from rfl, show (4 : Int32) = nI 4 from rfl, pk_mul, pk_mul, pk_mul, nI_add, nI_add, nI_add]
theorem s_turnOf {t b : Nat} (ht : t < 4) (hb : b < 256) {post : Int32 → Prop} (k : post (nI (tn t b))) : q_X9_turnOf (nI b) (nI t) post := by
  unfold q_X9_turnOf
  rw [sh_6 hb, sh_4 hb, sh_2 hb, sh_0 hb]
  unfold tn at k
  refine ⟨fun n0' => ?_, fun e => ?_⟩
  · have n0 : t ≠ 0 := nI_lit_ne ht (by decide) n0'
    refine ⟨fun n1' => ?_, fun e => ?_⟩
    · have n1 : t ≠ 1 := nI_lit_ne ht (by decide) n1'
      refine ⟨fun n2' => ?_, fun e => ?_⟩
      · have n2 : t ≠ 2 := nI_lit_ne ht (by decide) n2'
        rw [if_neg n0, if_neg n1, if_neg n2] at k
        refine s_changedM (m4 _) (s_changedM (m4 _) (s_changedM (m4 _) (s_changedM (m4 _) ?_)))
        rw [sum4]; exact k
      · have e0 : t = 2 := nI_inj (by omega) (by decide) e
        rw [if_neg n0, if_neg n1, if_pos e0] at k
        rw [sum4]; exact k
    · have e0 : t = 1 := nI_inj (by omega) (by decide) e
      rw [if_neg n0, if_pos e0] at k
      rw [sum4]; exact k
  · have e0 : t = 0 := nI_inj (by omega) (by decide) e
    rw [if_pos e0] at k
    rw [sum4]; exact k
/-! blocks -/
def openP (al : Nat → Bool) (t : Nat) : Nat → Bool := fun b => al b && !al (tn t b)
theorem l_openX {al : Nat → Bool} {f : Nat → Int32} (hr : RuleOk al f) {t : Nat} (ht : t < 4) {post : Int32 → Prop} (k : post (nI (fb_ct (openP al t) 256))) : ∀ (m i : Nat), i + m = 256 → r_X3_open_4 f post (nI t) (m + 1) (nI (fb_ct (openP al t) i)) (nI i) := by
  intro m
  induction m with
  | zero =>
    intro i hi
    unfold r_X3_open_4
    obtain rfl : i = 256 := by omega
    exact pk_le 256 256 (fun _ => k) (fun q => absurd q (by omega)) rfl rfl (by omega) (by omega)
  | succ m ih =>
    intro i hi
    unfold r_X3_open_4
    refine pk_le 256 i (fun q => absurd q (by omega)) (fun _ => ?_) rfl rfl (by omega) (by omega)
    have hI := ih (i + 1) (by omega)
    rw [fb_ct_succ] at hI
    refine s_has hr (by omega) ?_
    rw [nI_1]
    cases ha : al i with
    | false =>
      have e : openP al t i = false := by unfold openP; rw [ha]; rfl
      rw [e] at hI
      exact b0 hI
    | true =>
      refine b1 (s_turned ht (by omega) (s_has hr (tn_lt ht (by omega)) ?_))
      rw [nI_1]
      cases hb : al (tn t i) with
      | true =>
        have e : openP al t i = false := by unfold openP; rw [ha, hb]; rfl
        rw [e] at hI
        exact c1 hI
      | false =>
        have e : openP al t i = true := by unfold openP; rw [ha, hb]; rfl
        rw [e] at hI
        exact c0 hI
def blocksA (al : Nat → Bool) (t : Int) : Nat := if t = -1 then sizeA al else fb_ct (openP al t.toNat) 256
theorem s_blocksX {al : Nat → Bool} {f : Nat → Int32} (hr : RuleOk al f) {a : Int32} {post : Int32 → Prop} (k : -1 ≤ a.toInt ∧ a.toInt ≤ 3 → post (nI (blocksA al a.toInt))) (k0 : ¬ (-1 ≤ a.toInt ∧ a.toInt ≤ 3) → post (-3)) : q_X8_blocks f a post := by
  unfold q_X8_blocks
  have em : a = (-1 : Int32) ↔ a.toInt = -1 := by rw [fa_eq, tim1]
  simp only [fa_lt, tim1, ti4]
  refine ⟨fun q => k0 (by omega), fun q => ⟨fun q1 => ⟨fun q2 => ?_, fun q2 => ?_⟩, fun q1 => k0 (by omega)⟩⟩
  · have q3 : a.toInt ≠ -1 := fun e => q2 (em.mpr e)
    have kk := k (by omega)
    unfold blocksA at kk
    rw [if_neg q3] at kk
    rw [nI_of_toInt (a := a) (by omega)]
    unfold q_X3_open
    exact ⟨257, l_openX hr (by omega) kk 256 0 (by omega)⟩
  · have q3 := em.mp q2
    have kk := k (by omega)
    unfold blocksA at kk
    rw [if_pos q3] at kk
    exact s_sizeX hr kk
theorem s_blocksM {al : Nat → Bool} {f : Nat → Int32} (hr : RuleM al f) {a : Int32} {post : Int32 → Prop} (k : -1 ≤ a.toInt ∧ a.toInt ≤ 3 → post (nI (blocksA al a.toInt))) (k0 : ¬ (-1 ≤ a.toInt ∧ a.toInt ≤ 3) → post (-3)) : q_X9_blocks f a post := by
  unfold q_X9_blocks
  have em : a = (-1 : Int32) ↔ a.toInt = -1 := by rw [fa_eq, tim1]
  refine s_in (fun h => c1 ?_) (fun h => c0 (k0 (by rw [tlm1, tl3] at h; exact h)))
  rw [tlm1, tl3] at h
  have kk := k h
  let p : Nat → Bool := fun b => if a.toInt = -1 then al b else openP al a.toInt.toNat b
  have ep : blocksA al a.toInt = fb_ct p 256 := by
    unfold blocksA sizeA
    by_cases q : a.toInt = -1
    · rw [if_pos q]; exact fb_ct_cong (fun b _ => by simp only [p]; rw [if_pos q])
    · rw [if_neg q]; exact fb_ct_cong (fun b _ => by simp only [p]; rw [if_neg q])
  rw [ep] at kk
  have loop : ∀ (m i : Nat), i + m = 256 → r_X9_blocks_21 f post a (m + 1) (nI (fb_ct p i)) (nI i) := by
    intro m
    induction m with
    | zero =>
      intro i hi
      unfold r_X9_blocks_21
      obtain rfl : i = 256 := by omega
      exact pk_le 256 256 (fun _ => kk) (fun q => absurd q (by omega)) rfl rfl (by omega) (by omega)
    | succ m ih =>
      intro i hi
      unfold r_X9_blocks_21
      refine pk_le 256 i (fun q => absurd q (by omega)) (fun _ => ⟨vp_in_nI (by omega) (by decide), ?_⟩) rfl rfl (by omega) (by omega)
      have hI := ih (i + 1) (by omega)
      rw [fb_ct_succ] at hI
      have e0 : nI (fb_ct p i) + (0 : Int32) = nI (fb_ct p i) := nI_add _ 0
      rw [nI_clamp (by omega), hr i (by omega), nI_1, nI_1, e0]
      cases ha : al i with
      | false =>
        have e : p i = false := by simp only [p, openP, ha]; split <;> rfl
        rw [e] at hI
        exact b0 hI
      | true =>
        refine b1 (br (fun q => ?_) (fun q => ?_))
        · have e : p i = true := by simp only [p, ha]; rw [if_pos (em.mp q)]
          rw [e] at hI
          exact hI
        · have q3 : a.toInt ≠ -1 := fun e => q (em.mpr e)
          have ht : a.toInt.toNat < 4 := by omega
          rw [nI_of_toInt (a := a) (by omega)]
          refine s_turnOf ht (by omega) ⟨vp_in_nI (tn_lt ht (by omega)) (by decide), ?_⟩
          have hlt := tn_lt ht (show i < 256 by omega)
          rw [nI_clamp (by omega), hr _ hlt, ← nI_of_toInt (a := a) (by omega)]
          cases hb : al (tn a.toInt.toNat i) with
          | true =>
            have e : p i = false := by simp only [p, openP, ha, hb]; rw [if_neg q3]; rfl
            rw [e] at hI
            exact c1 hI
          | false =>
            have e : p i = true := by simp only [p, openP, ha, hb]; rw [if_neg q3]; rfl
            rw [e] at hI
            exact c0 hI
  exact ⟨257, loop 256 0 (by omega)⟩
