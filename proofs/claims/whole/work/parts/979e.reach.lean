/-! the class's views: levels -/
def SegOk (R : Nat) (cl : Nat → Nat) (kept : Nat → Int32) (s e : Nat) : Prop := (∀ i, s ≤ i → i < e → InR R kept i) ∧ ∀ i j, s ≤ i → i ≤ j → j < e → cl (kN kept i) ≤ cl (kN kept j)
theorem SegOk_congr {R : Nat} {cl : Nat → Nat} {f g : Nat → Int32} {s e : Nat} (h : ∀ i, i < e → f i = g i) (hg : SegOk R cl g s e) : SegOk R cl f s e :=
  ⟨fun i a b => InR_congr (h i b) (hg.1 i a b), fun i j a b c => by rw [kN_congr (h i (by omega)), kN_congr (h j c)]; exact hg.2 i j a b c⟩
theorem SegOk_push {R : Nat} (hR : R ≤ 243) {cl : Nat → Nat} {f : Nat → Int32} {s e r : Nat} (hr : r < R) (hf : SegOk R cl f s e) (hs : ∀ j, s ≤ j → j < e → cl (kN f j) ≤ cl r) : SegOk R cl (upd f e (nI r)) s (e + 1) := by
  obtain ⟨hin, en⟩ := InR_upd (f := f) (n := e) hR hr
  refine ⟨fun i a b => ?_, fun i j a b c => ?_⟩
  · by_cases ei : i = e
    · rw [ei]; exact hin
    · exact InR_congr (upd_n _ ei) (hf.1 i a (by omega))
  · by_cases ej : j = e
    · rw [ej, en]
      by_cases ei : i = e
      · rw [ei, en]; exact Nat.le_refl _
      · rw [kN_congr (upd_n _ ei)]; exact hs i a (by omega)
    · rw [kN_congr (upd_n _ ej), kN_congr (upd_n _ (show i ≠ e by omega))]; exact hf.2 i j a b (by omega)
theorem SegOk_sub {R : Nat} {cl : Nat → Nat} {f : Nat → Int32} {s e s' e' : Nat} (h1 : s ≤ s') (h2 : e' ≤ e) (h : SegOk R cl f s e) : SegOk R cl f s' e' := ⟨fun i a b => h.1 i (by omega) (by omega), fun i j a b c => h.2 i j (by omega) b (by omega)⟩
theorem p31 {j : Nat} (hj : j < 32) : (2 : Nat) ^ j < 2 ^ 32 := Nat.pow_lt_pow_right (by decide) hj
theorem bit32 {j : Nat} (hj : j < 32) : (1 : Int32) <<< (nI j &&& 31) = nI (2 ^ j) := by
  have := p31 hj
  rw [show (1 : Int32) = nI 1 from rfl, shlN hj (by omega), Nat.one_mul]
theorem and_bit32 {v j : Nat} (hj : j < 32) : nI v &&& nI (2 ^ j) = 0 ↔ v.testBit j = false := by
  have := p31 hj
  have h2 : v &&& 2 ^ j ≤ 2 ^ j := Nat.and_le_right
  rw [fa_and, nI_zero (by omega), fb_bit_nat]
/-- a level's rows are laid -/
theorem s_reachK {R w : Nat} (hR : R ≤ 243) {cl : Nat → Nat} (hcl : ∀ r, cl r < 32) {y h : Nat} (hy : y + 1 < h) (hh : h ≤ 5) (hyR : (y + 1) * R ≤ 243) {ws : Nat → Int64} {fr Rl lo bl first next en kept : Nat → Int32} {rg : Int32} (hlo : ∀ r, r < R → lo r = nI (cl r)) (hbl : BylOk R cl bl) {D : Nat → Bool} (hM : ∀ kp : Nat → Int32, (∀ i, i < y * R → kp i = kept i) → ∀ r, r < R → ∀ post : Int32 → Prop, post (bI (D r)) → q_X6_mayStand ws kp first next (nI w) rg fr Rl (nI y) (nI r) post) {post : Int32 → (Nat → Int32) → (Nat → Int32) → (Nat → Int32) → Prop}
    (k : ∀ (x : Int32) (kp : Nat → Int32) (n : Nat), n ≤ R → (∀ i, i < y * R → kp i = kept i) → SegOk R cl kp (y * R) (y * R + n) → (∀ r, r < R → rmS kp (y * R) (y * R + n) r = D r) → post x kp (upd en y (nI (y * R + n))) (upd next y (nI (y * R)))) : q_X6_reach ws lo bl first (nI w) (nI R) rg fr Rl (nI h) kept en next (nI y) post := by
  obtain ⟨hb1, hb2, hb3⟩ := hbl
  have hsm : (y + 1) * R = y * R + R := Nat.succ_mul y R
  unfold q_X6_reach
  rw [show nI h - (1 : Int32) = nI (h - 1) from pk_sub (b := 1) (by omega)]
  refine pk_le (h - 1) y (fun q => absurd q (by omega)) (fun _ => ?_) rfl rfl (by omega) (by omega)
  unfold q_X6_reach_21
  rw [pk_mul]
  have loop : ∀ (m i n v : Nat) (kp : Nat → Int32), i + m = R → n ≤ i → v < 2 ^ 32 → (∀ j, j < y * R → kp j = kept j) → SegOk R cl kp (y * R) (y * R + n) → (∀ j, y * R ≤ j → j < y * R + n → ∃ i', i' < i ∧ kN kp j = kN bl i' ∧ D (kN bl i') = true) → (∀ i', i' < i → D (kN bl i') = true → ∃ j, y * R ≤ j ∧ j < y * R + n ∧ kN kp j = kN bl i') →
      r_X6_reach_41 ws lo bl first (nI w) (nI R) rg fr Rl (nI h) post (q_X6_reach_136 ws lo bl first (nI w) (nI R) rg fr Rl (nI h) post) (nI y) (1 : Int32) (nI (y * R)) en next (m + 1) (nI n) (nI v) (nI i) kp := by
    intro m
    induction m with
    | zero =>
      intro i n v kp hi hn hv hkp hS h4 h5
      unfold r_X6_reach_41
      refine pk_le R i (fun _ => ?_) (fun q => absurd q (by omega)) rfl rfl (by omega) (by omega)
      unfold q_X6_reach_136
      have h5y : vp_in (nI y) 5 := vp_in_nI (by omega) (by decide)
      refine ⟨h5y, h5y, s_bitCount hv ?_⟩
      rw [nI_clamp (n := y) (by omega), nI_add]
      refine k _ kp n (by omega) hkp hS (fun r hr => ?_)
      apply bool_iff
      rw [rmS_iff]
      constructor
      · rintro ⟨j, a, b, e⟩
        obtain ⟨i', _, e1, e2⟩ := h4 j a b
        rw [← e, e1]; exact e2
      · intro hD
        obtain ⟨i', a, e⟩ := hb3 r hr
        obtain ⟨j, b1, b2, b3⟩ := h5 i' (by omega) (by rw [e]; exact hD)
        exact ⟨j, b1, b2, by rw [b3, e]⟩
    | succ m ih =>
      intro i n v kp hi hn hv hkp hS h4 h5
      unfold r_X6_reach_41
      obtain ⟨g1, g2⟩ := hb1 i (by omega)
      have hc := hcl (kN bl i)
      have hp := p31 hc
      refine pk_le R i (fun q => absurd q (by omega)) (fun _ => ⟨vp_in_nI (by omega) (by decide), ?_⟩) rfl rfl (by omega) (by omega)
      rw [nI_clamp (n := i) (by omega), g2]
      refine ⟨vp_in_nI (by omega) (by decide), fun v5 e5 => ?_⟩
      rw [nI_clamp (n := kN bl i) (by omega), hlo _ g1, bit32 hc] at e5
      rw [e5]
      refine c1 ?_
      unfold q_X6_reach_85
      refine hM kp hkp (kN bl i) g1 _ ?_
      rw [nI_1 i, nI_1 n, nI_add, fa_or]
      have hv' : v ||| 2 ^ cl (kN bl i) < 2 ^ 32 := Nat.or_lt_two_pow hv hp
      cases hD : D (kN bl i) with
      | false =>
        refine b0 (ih (i + 1) n v kp (by omega) (by omega) hv hkp hS (fun j a b => ?_) (fun i' a b => ?_))
        · obtain ⟨i', c1, c2⟩ := h4 j a b
          exact ⟨i', by omega, c2⟩
        · by_cases e : i' = i
          · rw [e, hD] at b; exact absurd b (by decide)
          · exact h5 i' (by omega) b
      | true =>
        refine b1 (b1 (pk_le 243 (y * R + n) (fun q => absurd q (by omega)) (fun _ => ⟨vp_in_nI (by omega) (by decide), ?_⟩) rfl rfl (by omega) (by omega)))
        rw [nI_clamp (n := y * R + n) (by omega)]
        obtain ⟨hin, enn⟩ := InR_upd (f := kp) (n := y * R + n) hR g1
        have eo : ∀ j, j < y * R + n → kN (upd kp (y * R + n) (nI (kN bl i))) j = kN kp j := fun j hj => kN_congr (upd_n _ (by omega))
        refine ih (i + 1) (n + 1) _ _ (by omega) (by omega) hv' (fun j hj => ?_) ?_ (fun j a b => ?_) (fun i' a b => ?_)
        · rw [upd_n _ (by omega)]; exact hkp j hj
        · refine SegOk_push hR g1 hS (fun j a b => ?_)
          obtain ⟨i', a1, a2, _⟩ := h4 j a b
          rw [a2]; exact hb2 i' i (by omega) (by omega)
        · by_cases e : j = y * R + n
          · exact ⟨i, by omega, by rw [e, enn], hD⟩
          · obtain ⟨i', a1, a2, a3⟩ := h4 j a (by omega)
            exact ⟨i', by omega, by rw [eo j (by omega)]; exact a2, a3⟩
        · by_cases e : i' = i
          · exact ⟨y * R + n, by omega, by omega, by rw [e, enn]⟩
          · obtain ⟨j, a1, a2, a3⟩ := h5 i' (by omega) b
            exact ⟨j, a1, by omega, by rw [eo j a2]; exact a3⟩
  exact ⟨R + 1, loop R 0 0 0 kept (by omega) (by omega) (by decide) (fun _ _ => rfl) ⟨fun i a b => absurd b (by omega), fun i j a b c => absurd c (by omega)⟩ (fun j a b => absurd b (by omega)) (fun i' a => absurd a (by omega))⟩
/-- the last level's looks are counted -/
theorem s_reachL {R w : Nat} (hR : R ≤ 243) {cl : Nat → Nat} (hcl : ∀ r, cl r < 32) {y h : Nat} (hy : y + 1 = h) (hh : h ≤ 5) {ws : Nat → Int64} {fr Rl lo bl first next en kept : Nat → Int32} {rg : Int32} (hlo : ∀ r, r < R → lo r = nI (cl r)) (hbl : BylOk R cl bl) {D : Nat → Bool} (hM : ∀ r, r < R → ∀ post : Int32 → Prop, post (bI (D r)) → q_X6_mayStand ws kept first next (nI w) rg fr Rl (nI y) (nI r) post) {post : Int32 → (Nat → Int32) → (Nat → Int32) → (Nat → Int32) → Prop}
    (k : ∀ en' nx' : Nat → Int32, (∀ j, j < y → en' j = en j) → (∀ j, j < y → nx' j = next j) → post (nI (fb_ct (fun l => anyB R (fun r => D r && decide (cl r = l))) 32)) kept en' nx') : q_X6_reach ws lo bl first (nI w) (nI R) rg fr Rl (nI h) kept en next (nI y) post := by
  obtain ⟨hb1, hb2, hb3⟩ := hbl
  unfold q_X6_reach
  rw [show nI h - (1 : Int32) = nI (h - 1) from pk_sub (b := 1) (by omega)]
  refine pk_le (h - 1) y (fun _ => ?_) (fun q => absurd q (by omega)) rfl rfl (by omega) (by omega)
  unfold q_X6_reach_21
  rw [pk_mul]
  have loop : ∀ (m i v : Nat), i + m = R → v < 2 ^ 32 → (∀ l, l < 32 → (v.testBit l = true ↔ ∃ i', i' < i ∧ D (kN bl i') = true ∧ cl (kN bl i') = l)) →
      r_X6_reach_41 ws lo bl first (nI w) (nI R) rg fr Rl (nI h) post (q_X6_reach_136 ws lo bl first (nI w) (nI R) rg fr Rl (nI h) post) (nI y) (0 : Int32) (nI (y * R)) en next (m + 1) (0 : Int32) (nI v) (nI i) kept := by
    intro m
    induction m with
    | zero =>
      intro i v hi hv hb
      unfold r_X6_reach_41
      refine pk_le R i (fun _ => ?_) (fun q => absurd q (by omega)) rfl rfl (by omega) (by omega)
      unfold q_X6_reach_136
      have h5y : vp_in (nI y) 5 := vp_in_nI (by omega) (by decide)
      refine ⟨h5y, h5y, s_bitCount hv ?_⟩
      rw [nI_clamp (n := y) (by omega)]
      have e : pc v = fb_ct (fun l => anyB R (fun r => D r && decide (cl r = l))) 32 := by
        unfold pc
        refine fb_ct_cong (fun l hl => ?_)
        apply bool_iff
        rw [hb l hl, anyB_iff]
        constructor
        · rintro ⟨i', a, b, e⟩
          exact ⟨kN bl i', (hb1 i' (by omega)).1, by rw [b, decide_eq_true e]; rfl⟩
        · rintro ⟨r, a, b⟩
          rw [Bool.and_eq_true, decide_eq_true_iff] at b
          obtain ⟨i', a1, a2⟩ := hb3 r a
          exact ⟨i', by omega, by rw [a2]; exact b.1, by rw [a2]; exact b.2⟩
      rw [e]
      exact k _ _ (fun j hj => upd_n _ (by omega)) (fun j hj => upd_n _ (by omega))
    | succ m ih =>
      intro i v hi hv hb
      unfold r_X6_reach_41
      obtain ⟨g1, g2⟩ := hb1 i (by omega)
      have hc := hcl (kN bl i)
      have hp := p31 hc
      refine pk_le R i (fun q => absurd q (by omega)) (fun _ => ⟨vp_in_nI (by omega) (by decide), ?_⟩) rfl rfl (by omega) (by omega)
      rw [nI_clamp (n := i) (by omega), g2]
      refine ⟨vp_in_nI (by omega) (by decide), fun v5 e5 => ?_⟩
      rw [nI_clamp (n := kN bl i) (by omega), hlo _ g1, bit32 hc] at e5
      rw [e5, and_bit32 hc]
      refine c0 (brn (fun q => ?_) (fun q => ?_))
      · rw [nI_1]
        have qt : v.testBit (cl (kN bl i)) = true := by
          cases hq : v.testBit (cl (kN bl i)) with
          | true => rfl
          | false => exact absurd hq q
        refine ih (i + 1) v (by omega) hv (fun l hl => ?_)
        rw [hb l hl]
        constructor
        · rintro ⟨i', a, b⟩; exact ⟨i', by omega, b⟩
        · rintro ⟨i', a, b1, b2⟩
          by_cases e : i' = i
          · rw [e] at b2
            rw [b2] at qt
            exact (hb l hl).mp qt
          · exact ⟨i', by omega, b1, b2⟩
      · unfold q_X6_reach_85
        refine hM (kN bl i) g1 _ ?_
        rw [nI_1 i, fa_or]
        have hv' : v ||| 2 ^ cl (kN bl i) < 2 ^ 32 := Nat.or_lt_two_pow hv hp
        cases hD : D (kN bl i) with
        | false =>
          refine b0 (ih (i + 1) v (by omega) hv (fun l hl => ?_))
          rw [hb l hl]
          constructor
          · rintro ⟨i', a, b⟩; exact ⟨i', by omega, b⟩
          · rintro ⟨i', a, b1, b2⟩
            by_cases e : i' = i
            · rw [e, hD] at b1; exact absurd b1 (by decide)
            · exact ⟨i', by omega, b1, b2⟩
        | true =>
          refine b1 (b0 (ih (i + 1) _ (by omega) hv' (fun l hl => ?_)))
          rw [fb_bit_set, Bool.or_eq_true, hb l hl, decide_eq_true_iff]
          constructor
          · rintro (⟨i', a, b⟩ | a)
            · exact ⟨i', by omega, b⟩
            · exact ⟨i, by omega, hD, a.symm⟩
          · rintro ⟨i', a, b1, b2⟩
            by_cases e : i' = i
            · rw [e] at b2; exact Or.inr b2.symm
            · exact Or.inl ⟨i', by omega, b1, b2⟩
  refine ⟨R + 1, loop R 0 0 (by omega) (by decide) (fun l _ => ?_)⟩
  rw [Nat.zero_testBit]
  exact ⟨fun q => absurd q (by decide), fun ⟨i', a, _⟩ => absurd a (by omega)⟩
/-- a level's next look -/
theorem s_takeLook {R : Nat} (hR : R ≤ 243) {cl : Nat → Nat} (hcl : ∀ r, cl r < 32) {lo kept en first next : Nat → Int32} (hlo : ∀ r, r < R → lo r = nI (cl r)) {y s e : Nat} (hy : y < 5) (hs : next y = nI s) (he : en y = nI e) (hse : s ≤ e) (he2 : e ≤ 243) (hS : SegOk R cl kept s e) {post : Int32 → (Nat → Int32) → (Nat → Int32) → Prop}
    (k1 : ∀ m, s < m → m ≤ e → (∀ i, s ≤ i → i < m → cl (kN kept i) = cl (kN kept s)) → (∀ i, m ≤ i → i < e → cl (kN kept s) < cl (kN kept i)) → post 1 (upd first y (nI s)) (upd next y (nI m))) (k0 : s = e → post 0 first next) : q_X6_takeLook lo kept en first next (nI y) post := by
  unfold q_X6_takeLook
  have h5y : vp_in (nI y) 5 := vp_in_nI hy (by decide)
  refine ⟨h5y, h5y, ?_⟩
  rw [nI_clamp (n := y) (by omega), hs, he]
  refine pk_lt s e (fun q => ⟨h5y, h5y, vp_in_nI (by omega) (by decide), ?_⟩) (fun q => k0 (by omega)) rfl rfl (by omega) (by omega)
  obtain ⟨g1, g2⟩ := hS.1 s (Nat.le_refl _) q
  rw [nI_clamp (n := s) (by omega), g2]
  refine ⟨vp_in_nI (by omega) (by decide), ?_⟩
  rw [nI_clamp (n := kN kept s) (by omega), hlo _ g1]
  have hcs := hcl (kN kept s)
  have loop : ∀ (m i : Nat), i + m = e → s ≤ i → (∀ i', s ≤ i' → i' < i → cl (kN kept i') = cl (kN kept s)) → r_X6_takeLook_43 lo kept en post (q_X6_takeLook_74 lo kept en post) (nI y) (nI (cl (kN kept s))) (upd first y (nI s)) next (m + 1) (nI i) := by
    intro m
    induction m with
    | zero =>
      intro i hi hsi hal
      unfold r_X6_takeLook_43
      rw [nI_clamp (n := y) (by omega), he]
      refine ⟨h5y, pk_le e i (fun _ => ?_) (fun q => absurd q (by omega)) rfl rfl (by omega) (by omega)⟩
      unfold q_X6_takeLook_74
      rw [nI_clamp (n := y) (by omega)]
      exact ⟨h5y, k1 i (by omega) (by omega) hal (fun i' a b => absurd b (by omega))⟩
    | succ m ih =>
      intro i hi hsi hal
      unfold r_X6_takeLook_43
      rw [nI_clamp (n := y) (by omega), he]
      refine ⟨h5y, pk_le e i (fun q => absurd q (by omega)) (fun _ => ⟨vp_in_nI (by omega) (by decide), ?_⟩) rfl rfl (by omega) (by omega)⟩
      obtain ⟨u1, u2⟩ := hS.1 i hsi (by omega)
      have hci := hcl (kN kept i)
      rw [nI_clamp (n := i) (by omega), u2]
      refine ⟨vp_in_nI (by omega) (by decide), ?_⟩
      rw [nI_clamp (n := kN kept i) (by omega), hlo _ u1, nI_eq (by omega) (by omega), nI_1]
      refine brn (fun z => ?_) (fun z => ih (i + 1) (by omega) (by omega) (fun i' a b => ?_))
      · unfold q_X6_takeLook_74
        rw [nI_clamp (n := y) (by omega)]
        have hne : s ≠ i := fun z2 => z (by rw [z2])
        refine ⟨h5y, k1 i (by omega) (by omega) hal (fun i' a b => ?_)⟩
        have o1 := hS.2 s i (Nat.le_refl _) hsi (by omega)
        have o2 := hS.2 i i' hsi a b
        omega
      · by_cases e2 : i' = i
        · rw [e2]; exact z
        · exact hal i' a (by omega)
  exact ⟨e - s + 1, loop (e - s) s (by omega) (Nat.le_refl _) (fun i' a b => absurd b (by omega))⟩
