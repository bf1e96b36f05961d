/-! close -/
def cls (t : Nat) (al : Nat → Bool) : Nat → Bool := fun b => al b || al (tn t b) || al (tn t (tn t b)) || al (tn t (tn t (tn t b)))
theorem cls_iff {t : Nat} {al : Nat → Bool} {b : Nat} : cls t al b = true ↔ al b = true ∨ al (tn t b) = true ∨ al (tn t (tn t b)) = true ∨ al (tn t (tn t (tn t b))) = true := by
  unfold cls
  simp only [Bool.or_eq_true, or_assoc]
theorem cls_tn {t : Nat} (ht : t < 4) {al : Nat → Bool} {b : Nat} (hb : b < 256) (h : cls t al b = true) : cls t al (tn t b) = true := by
  rw [cls_iff] at h ⊢
  rw [tn_4 ht hb]
  rcases h with h | h | h | h
  · exact Or.inr (Or.inr (Or.inr h))
  · exact Or.inl h
  · exact Or.inr (Or.inl h)
  · exact Or.inr (Or.inr (Or.inl h))
theorem RuleOk.congr {al al' : Nat → Bool} {f : Nat → Int32} (h : RuleOk al f) (e : ∀ b, b < 256 → al b = al' b) : RuleOk al' f := by
  intro i hi
  obtain ⟨v, hv, e1, ht⟩ := h i hi
  exact ⟨v, hv, e1, fun j hj => by rw [ht j hj, e _ (by omega)]⟩
theorem RuleM.congr {al al' : Nat → Bool} {f : Nat → Int32} (h : RuleM al f) (e : ∀ b, b < 256 → al b = al' b) : RuleM al' f := fun b hb => by rw [h b hb, e b hb]
theorem size_congr {al al' : Nat → Bool} (e : ∀ b, b < 256 → al b = al' b) : sizeA al = sizeA al' := fb_ct_cong e
theorem size_sub {al al' : Nat → Bool} (e : ∀ b, b < 256 → al b = true → al' b = true) : sizeA al ≤ sizeA al' := fb_ct_sub e
theorem set_up {al : Nat → Bool} {b x : Nat} (h : al x = true) : setB al b true x = true := by
  unfold setB
  split
  · rfl
  · exact h
theorem set_at (al : Nat → Bool) (b : Nat) (is : Bool) : setB al b is b = is := by unfold setB; rw [if_pos rfl]
theorem set_down {al q : Nat → Bool} {b x : Nat} (hq : q b = true) (h : setB al b true x = true) (hx : al x = true → q x = true) : q x = true := by
  unfold setB at h
  by_cases e : x = b
  · rw [e]; exact hq
  · rw [if_neg e] at h; exact hx h
/-- a set between the rule and its closure that is closed, is the closure -/
theorem cls_eq {t : Nat} (ht : t < 4) {al cur : Nat → Bool} (lo : ∀ b, b < 256 → al b = true → cur b = true) (hi : ∀ b, b < 256 → cur b = true → cls t al b = true) (cl : ∀ b, b < 256 → al b = true → cur (tn t b) = true ∧ cur (tn t (tn t b)) = true ∧ cur (tn t (tn t (tn t b))) = true) : ∀ b, b < 256 → cur b = cls t al b := by
  intro b hb
  cases hc : cls t al b with
  | false =>
    cases h : cur b with
    | false => rfl
    | true => rw [hi b hb h] at hc; exact absurd hc (by decide)
  | true =>
    have h1 := tn_lt ht hb
    have h2 := tn_lt ht h1
    have h3 := tn_lt ht h2
    have h4 := tn_4 ht hb
    rcases cls_iff.mp hc with h | h | h | h
    · exact lo b hb h
    · have := (cl _ h1 h).2.2; rw [h4] at this; exact this
    · have := (cl _ h2 h).2.1; rw [h4] at this; exact this
    · have := (cl _ h3 h).1; rw [h4] at this; exact this
def closeA (t : Nat) (al : Nat → Bool) : Nat := sizeA (cls t al) - sizeA al
theorem s_closeUnder {al : Nat → Bool} {f : Nat → Int32} (hr : RuleOk al f) {t : Nat} (ht : t < 4) {post : (Nat → Int32) → Prop} (k : ∀ f', RuleOk (cls t al) f' → post f') : q_X3_closeUnder f (nI t) post := by
  unfold q_X3_closeUnder
  have pt : ∀ {cur : Nat → Bool} {g : Nat → Int32} {b : Nat} {P : (Nat → Int32) → Prop}, RuleOk cur g → b < 256 → (∀ g', RuleOk (setB cur b true) g' → P g') → q_X3_put g (nI b) 1 P := fun h hb kk => s_put h hb (is := true) ⟨fun q => absurd q (by decide), fun q => absurd q (by decide)⟩ kk
  have loop : ∀ (m i : Nat) (cur : Nat → Bool) (g : Nat → Int32), i + m = 256 → RuleOk cur g → (∀ b, b < 256 → al b = true → cur b = true) → (∀ b, b < 256 → cur b = true → cls t al b = true) → (∀ b, b < i → al b = true → cur (tn t b) = true ∧ cur (tn t (tn t b)) = true ∧ cur (tn t (tn t (tn t b))) = true) → r_X3_closeUnder_2 post (nI t) (m + 1) (nI i) g := by
    intro m
    induction m with
    | zero =>
      intro i cur g hi hg lo hi2 cl
      unfold r_X3_closeUnder_2
      refine pk_le 256 i (fun _ => k g (hg.congr (cls_eq ht lo hi2 (fun b hb => cl b (by omega))))) (fun q => absurd q (by omega)) rfl rfl (by omega) (by omega)
    | succ m ih =>
      intro i cur g hi hg lo hi2 cl
      unfold r_X3_closeUnder_2
      refine pk_le 256 i (fun q => absurd q (by omega)) (fun _ => ?_) rfl rfl (by omega) (by omega)
      have hi256 : i < 256 := by omega
      refine s_has hg hi256 ?_
      cases ha : cur i with
      | false =>
        refine b0 ?_
        unfold q_X3_closeUnder_46
        rw [nI_1]
        refine ih (i + 1) cur g (by omega) hg lo hi2 (fun b hb hab => ?_)
        by_cases e : b = i
        · rw [e] at hab; rw [lo i hi256 hab] at ha; exact absurd ha (by decide)
        · exact cl b (by omega) hab
      | true =>
        refine b1 ⟨5, ?_⟩
        have h1 := tn_lt ht hi256
        have h2 := tn_lt ht h1
        have h3 := tn_lt ht h2
        have h4 := tn_4 ht hi256
        have c0 := hi2 i hi256 ha
        have c1' := cls_tn ht hi256 c0
        have c2 := cls_tn ht h1 c1'
        have c3 := cls_tn ht h2 c2
        unfold r_X3_closeUnder_22
        refine pk_le 4 0 (fun q => absurd q (by omega)) (fun _ => ?_) rfl rfl (by omega) (by omega)
        refine s_turned ht hi256 (pt hg h1 (fun g1 hg1 => ?_))
        unfold r_X3_closeUnder_22
        refine pk_le 4 1 (fun q => absurd q (by omega)) (fun _ => ?_) rfl rfl (by omega) (by omega)
        refine s_turned ht h1 (pt hg1 h2 (fun g2 hg2 => ?_))
        unfold r_X3_closeUnder_22
        refine pk_le 4 2 (fun q => absurd q (by omega)) (fun _ => ?_) rfl rfl (by omega) (by omega)
        refine s_turned ht h2 (pt hg2 h3 (fun g3 hg3 => ?_))
        unfold r_X3_closeUnder_22
        refine pk_le 4 3 (fun q => absurd q (by omega)) (fun _ => ?_) rfl rfl (by omega) (by omega)
        refine s_turned ht h3 ?_
        rw [h4]
        refine pt hg3 hi256 (fun g4 hg4 => ?_)
        unfold r_X3_closeUnder_22
        refine pk_le 4 4 (fun _ => ?_) (fun q => absurd q (by omega)) rfl rfl (by omega) (by omega)
        unfold q_X3_closeUnder_46
        rw [nI_1]
        refine ih (i + 1) _ g4 (by omega) hg4 (fun b hb hab => set_up (set_up (set_up (set_up (lo b hb hab))))) (fun b hb hcb => ?_) (fun b hb hab => ?_)
        · exact set_down (q := cls t al) c0 hcb (fun q => set_down (q := cls t al) c3 q (fun q => set_down (q := cls t al) c2 q (fun q => set_down (q := cls t al) c1' q (fun q => hi2 b hb q))))
        · by_cases e : b = i
          · subst e
            exact ⟨set_up (set_up (set_up (set_at _ _ _))), set_up (set_up (set_at _ _ _)), set_up (set_at _ _ _)⟩
          · have := cl b (by omega) hab
            exact ⟨set_up (set_up (set_up (set_up this.1))), set_up (set_up (set_up (set_up this.2.1))), set_up (set_up (set_up (set_up this.2.2)))⟩
  exact ⟨257, loop 256 0 al f (by omega) hr (fun b _ h => h) (fun b _ h => cls_iff.mpr (Or.inl h)) (fun b hb => absurd hb (by omega))⟩
theorem cls_ge (t : Nat) (al : Nat → Bool) : sizeA al ≤ sizeA (cls t al) := size_sub (fun b _ h => cls_iff.mpr (Or.inl h))
theorem s_closeX {al : Nat → Bool} {f : Nat → Int32} (hr : RuleOk al f) {a : Int32} {post : Int32 → (Nat → Int32) → Prop} (k : 0 ≤ a.toInt ∧ a.toInt ≤ 3 → ∀ f', RuleOk (cls a.toInt.toNat al) f' → post (nI (closeA a.toInt.toNat al)) f') (k0 : ¬ (0 ≤ a.toInt ∧ a.toInt ≤ 3) → post (-3) f) : q_X8_close f a post := by
  unfold q_X8_close
  simp only [fa_lt, ti0, ti4]
  refine ⟨fun q => k0 (by omega), fun q => ⟨fun q1 => ?_, fun q1 => k0 (by omega)⟩⟩
  have kk := k (by omega)
  rw [nI_of_toInt (a := a) (by omega)]
  refine s_sizeX hr (s_closeUnder hr (by omega) (fun f' hf => s_sizeX hf ?_))
  rw [pk_sub (cls_ge _ _)]
  exact kk f' hf
theorem s_closeM {al : Nat → Bool} {f : Nat → Int32} (hr : RuleM al f) {a : Int32} {post : Int32 → (Nat → Int32) → Prop} (k : 0 ≤ a.toInt ∧ a.toInt ≤ 3 → ∀ f', RuleM (cls a.toInt.toNat al) f' → post (nI (closeA a.toInt.toNat al)) f') (k0 : ¬ (0 ≤ a.toInt ∧ a.toInt ≤ 3) → post (-3) f) : q_X9_close f a post := by
  unfold q_X9_close
  refine s_in (fun h => c1 ?_) (fun h => c0 (k0 (by rw [tl0, tl3] at h; exact h)))
  rw [tl0, tl3] at h
  have kk := k h
  rw [nI_of_toInt (a := a) (by omega)]
  have ht : a.toInt.toNat < 4 := by omega
  generalize a.toInt.toNat = t at kk ht
  have pass : ∀ {K : Int32 → Int32 → (Nat → Int32) → Prop} (cur0 : Nat → Bool), (∀ b, b < 256 → al b = true → cur0 b = true) →
      (∀ (cur : Nat → Bool) (more : Bool) (g : Nat → Int32), RuleM cur g → (∀ b, b < 256 → al b = true → cur b = true) → (∀ b, b < 256 → cur b = true → cls t al b = true) → (more = false → ∀ b, b < 256 → cur b = true → cur (tn t b) = true) → (more = true → sizeA cur0 < sizeA cur) → K (nI (sizeA cur - sizeA al)) (bI more) g) →
      ∀ (m i : Nat) (cur : Nat → Bool) (more : Bool) (g : Nat → Int32), i + m = 256 → RuleM cur g → (∀ b, b < 256 → cur0 b = true → cur b = true) → (∀ b, b < 256 → cur b = true → cls t al b = true) → (more = false → ∀ b, b < i → cur b = true → cur (tn t b) = true) → (more = true → sizeA cur0 < sizeA cur) →
      r_X9_close_28 (nI t) post K (m + 1) (nI (sizeA cur - sizeA al)) (bI more) (nI i) g := by
    intro K cur0 lo0 hK m
    induction m with
    | zero =>
      intro i cur more g hi hg lo hi2 cf ct
      unfold r_X9_close_28
      exact pk_le 256 i (fun _ => hK cur more g hg (fun b hb q => lo b hb (lo0 b hb q)) hi2 (fun e b hb => cf e b (by omega)) ct) (fun q => absurd q (by omega)) rfl rfl (by omega) (by omega)
    | succ m ih =>
      intro i cur more g hi hg lo hi2 cf ct
      unfold r_X9_close_28
      have hi256 : i < 256 := by omega
      refine pk_le 256 i (fun q => absurd q (by omega)) (fun _ => ⟨vp_in_nI hi256 (by decide), ?_⟩) rfl rfl (by omega) (by omega)
      rw [nI_clamp (by omega), hg i hi256, nI_1]
      cases ha : cur i with
      | false =>
        refine b0 (ih (i + 1) cur more g (by omega) hg lo hi2 (fun e b hb q => ?_) ct)
        by_cases e2 : b = i
        · rw [e2, ha] at q; exact absurd q (by decide)
        · exact cf e b (by omega) q
      | true =>
        have hlt := tn_lt ht hi256
        have hin : vp_in (nI (tn t i)) 256 := vp_in_nI hlt (by decide)
        refine b1 (s_turnOf ht hi256 ⟨hin, ?_⟩)
        rw [nI_clamp (by omega), hg _ hlt]
        cases hb : cur (tn t i) with
        | true =>
          refine c1 (ih (i + 1) cur more g (by omega) hg lo hi2 (fun e b hb2 q => ?_) ct)
          by_cases e2 : b = i
          · rw [e2]; exact hb
          · exact cf e b (by omega) q
        | false =>
          refine c0 (s_turnOf ht hi256 ⟨hin, ?_⟩)
          rw [nI_clamp (by omega)]
          have hs : sizeA (setB cur (tn t i) true) = sizeA cur + 1 := by rw [size_set hlt, hb]; simp
          have hge : sizeA al ≤ sizeA cur := size_sub (fun b hb q => lo b hb (lo0 b hb q))
          have hge0 : sizeA cur0 ≤ sizeA cur := size_sub lo
          have hI := ih (i + 1) (setB cur (tn t i) true) true (upd g (tn t i) 1) (by omega) (hg.set _ true) (fun b hb q => set_up (lo b hb q)) (fun b hb q => set_down (q := cls t al) (cls_tn ht hi256 (hi2 i hi256 ha)) q (hi2 b hb)) (fun e => absurd e (by decide)) (fun _ => by omega)
          rw [hs, show sizeA cur + 1 - sizeA al = sizeA cur - sizeA al + 1 by omega] at hI
          rw [nI_1]
          exact hI
  have outer : ∀ (m : Nat) (cur : Nat → Bool) (g : Nat → Int32), 256 - sizeA cur ≤ m → RuleM cur g → (∀ b, b < 256 → al b = true → cur b = true) → (∀ b, b < 256 → cur b = true → cls t al b = true) → r_X9_close_19 post (nI t) (m + 2) (nI (sizeA cur - sizeA al)) 1 g := by
    intro m
    induction m with
    | zero =>
      intro cur g hm hg lo hi2
      unfold r_X9_close_19
      refine b1 ⟨257, pass cur lo (fun cur' more g' hg' lo' hi' cf ct => ?_) 256 0 cur false g (by omega) hg (fun b _ q => q) hi2 (fun _ b hb => absurd hb (by omega)) (fun e => absurd e (by decide))⟩
      unfold q_X9_close_83
      have hle := sizeA_le cur'
      cases more with
      | true => have := ct rfl; omega
      | false =>
        unfold r_X9_close_19
        have hcl := cf rfl
        have heq := cls_eq ht lo' hi' (fun b hb q => by
          have h1 := tn_lt ht hb
          have h2 := tn_lt ht h1
          have q1 := hcl b hb (lo' b hb q)
          have q2 := hcl _ h1 q1
          exact ⟨q1, q2, hcl _ h2 q2⟩)
        have k2 := kk g' (hg'.congr heq)
        unfold closeA at k2
        rw [← size_congr heq] at k2
        exact b0 k2
    | succ m ih =>
      intro cur g hm hg lo hi2
      unfold r_X9_close_19
      refine b1 ⟨257, pass cur lo (fun cur' more g' hg' lo' hi' cf ct => ?_) 256 0 cur false g (by omega) hg (fun b _ q => q) hi2 (fun _ b hb => absurd hb (by omega)) (fun e => absurd e (by decide))⟩
      unfold q_X9_close_83
      have hle := sizeA_le cur'
      cases more with
      | true => have := ct rfl; exact ih cur' g' (by omega) hg' lo' hi'
      | false =>
        unfold r_X9_close_19
        have hcl := cf rfl
        have heq := cls_eq ht lo' hi' (fun b hb q => by
          have h1 := tn_lt ht hb
          have h2 := tn_lt ht h1
          have q1 := hcl b hb (lo' b hb q)
          have q2 := hcl _ h1 q1
          exact ⟨q1, q2, hcl _ h2 q2⟩)
        have k2 := kk g' (hg'.congr heq)
        unfold closeA at k2
        rw [← size_congr heq] at k2
        exact b0 k2
  have h0 := outer 256 al f (by omega) hr (fun b _ h => h) (fun b _ h => cls_iff.mpr (Or.inl h))
  rw [Nat.sub_self] at h0
  exact ⟨258, h0⟩
/-! count -/
def countA (c h w n g : Nat) (a : Int32) : Int32 := if a = 0 then nI c else if a = 1 then nI h else if a = 2 then nI w else if a = 3 then nI g else if a = 4 then nI n else -3
theorem cnt_pick {a x : Int32} {P : Int32 → Prop} (h : a = x) (k : P a) : P x := h ▸ k
theorem s_countX {c h w n : Nat} (hh : h ≤ 5) (hw : w ≤ 5) {f dk : Nat → Int32} (hf : ∀ i, i < 25 → f i = dk i) {a : Int32} {post : Int32 → Prop} (k : post (countA c h w n (gapsN dk (h * w)) a)) : q_X8_count (nI c) (nI n) (nI h) (nI w) f a post := by
  unfold q_X8_count
  unfold countA at k
  refine ⟨fun e => ?_, fun e => ?_, fun e => ?_, fun e => ?_, fun e => ?_, fun e => ?_⟩
  · rw [if_pos e] at k; exact k
  · rw [e, if_neg (by decide), if_pos rfl] at k; exact k
  · rw [e, if_neg (by decide), if_neg (by decide), if_pos rfl] at k; exact k
  · rw [e, if_neg (by decide), if_neg (by decide), if_neg (by decide), if_pos rfl] at k; exact s_gapsX hh hw hf k
  · rw [e, if_neg (by decide), if_neg (by decide), if_neg (by decide), if_neg (by decide), if_pos rfl] at k; exact k
  · rw [if_neg e.1, if_neg e.2.1, if_neg e.2.2.1, if_neg e.2.2.2.1, if_neg e.2.2.2.2] at k; exact k
theorem s_countM {c h w n : Nat} (hh : h ≤ 5) (hw : w ≤ 5) {f dk : Nat → Int32} (hf : ∀ i, i < 25 → f i = dk i) {a : Int32} {post : Int32 → Prop} (k : post (countA c h w n (gapsN dk (h * w)) a)) : q_X9_count (nI c) (nI h) (nI w) (nI n) f a post := by
  unfold q_X9_count
  unfold countA at k
  refine ⟨fun e => ?_, fun e => ?_, fun e => ?_, fun e => ?_, fun e => ?_, fun e => ?_⟩
  · rw [if_pos e] at k; exact k
  · rw [e, if_neg (by decide), if_pos rfl] at k; exact k
  · rw [e, if_neg (by decide), if_neg (by decide), if_pos rfl] at k; exact k
  · rw [e, if_neg (by decide), if_neg (by decide), if_neg (by decide), if_pos rfl] at k; exact s_gapsM hh hw hf k
  · rw [e, if_neg (by decide), if_neg (by decide), if_neg (by decide), if_neg (by decide), if_pos rfl] at k; exact k
  · rw [if_neg e.1, if_neg e.2.1, if_neg e.2.2.1, if_neg e.2.2.2.1, if_neg e.2.2.2.2] at k; exact k
