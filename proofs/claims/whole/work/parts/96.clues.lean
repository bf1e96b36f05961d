/-! clues -/
noncomputable def unA (al : Nat → Bool) (dv : Nat → Nat) (c h w j : Nat) : Nat := bitsOf (fun i => decide (dg c w (pathA al c w okAll h j (i / w)) (i % w) ≠ dv i)) (h * w)
def Un (un : Nat → Nat) (n size : Nat) (u : Nat → Int32) : Prop := size ≤ n ∧ (∀ i, i < size → ∃ j, j < n ∧ un j ≠ 0 ∧ u i = nI (un j)) ∧ ∀ j, j < n → un j ≠ 0 → ∃ i, i < size ∧ u i = nI (un j)
theorem Un_0 {un : Nat → Nat} {u : Nat → Int32} : Un un 0 0 u := ⟨Nat.le_refl _, fun i hi => absurd hi (by omega), fun j hj => absurd hj (by omega)⟩
theorem Un_no {un : Nat → Nat} {n size : Nat} {u : Nat → Int32} (h : Un un n size u) (hz : un n = 0) : Un un (n + 1) size u := by
  refine ⟨by have := h.1; omega, fun i hi => ?_, fun j hj hne => ?_⟩
  · obtain ⟨j, a, b, d⟩ := h.2.1 i hi; exact ⟨j, by omega, b, d⟩
  · by_cases e : j = n
    · rw [e] at hne; exact absurd hz hne
    · exact h.2.2 j (by omega) hne
theorem Un_yes {un : Nat → Nat} {n size : Nat} {u : Nat → Int32} (h : Un un n size u) (hz : un n ≠ 0) : Un un (n + 1) (size + 1) (upd u size (nI (un n))) := by
  refine ⟨by have := h.1; omega, fun i hi => ?_, fun j hj hne => ?_⟩
  · by_cases e : i = size
    · exact ⟨n, by omega, hz, by rw [e, upd_s]⟩
    · obtain ⟨j, a, b, d⟩ := h.2.1 i (by omega); exact ⟨j, by omega, b, by rw [upd_n _ e]; exact d⟩
  · by_cases e : j = n
    · exact ⟨size, by omega, by rw [e, upd_s]⟩
    · obtain ⟨i, a, b⟩ := h.2.2 j (by omega) hne; exact ⟨i, by omega, by rw [upd_n _ (by omega)]; exact b⟩
def tellsA (un : Nat → Nat) (n set : Nat) : Bool := decide (∀ j, j < n → un j ≠ 0 → set &&& un j ≠ 0)
theorem tells_iff {un : Nat → Nat} {n size : Nat} {u : Nat → Int32} (h : Un un n size u) (hun : ∀ j, un j < 2 ^ 25) {set : Nat} (hs : set < 2 ^ 25) : (∀ i, i < size → ¬ (nI set &&& u i) = 0) ↔ tellsA un n set = true := by
  unfold tellsA
  rw [decide_eq_true_iff]
  have hz : ∀ j, (nI set &&& nI (un j) = 0 ↔ set &&& un j = 0) := fun j => by
    have : set &&& un j ≤ set := Nat.and_le_left
    rw [fa_and, nI_zero (by omega)]
  constructor
  · intro q j hj hne
    obtain ⟨i, hi, e⟩ := h.2.2 j hj hne
    have := q i hi
    rw [e, hz] at this
    exact this
  · intro q i hi
    obtain ⟨j, hj, hne, e⟩ := h.2.1 i hi
    rw [e, hz]
    exact q j hj hne
theorem s_tells {un : Nat → Nat} {n size : Nat} {u : Nat → Int32} (h : Un un n size u) (hn : n ≤ 300) (hun : ∀ j, un j < 2 ^ 25) {set : Nat} (hs : set < 2 ^ 25) {post : Int32 → Prop} (k : post (bI (tellsA un n set))) : q_X1_tells (nI size) u (nI set) post := by
  have hsz := h.1
  unfold q_X1_tells
  have loop : ∀ (m i : Nat), i + m = size → (∀ i', i' < i → ¬ (nI set &&& u i') = 0) → r_X1_tells_2 (nI size) u post (nI set) (m + 1) (nI i) := by
    intro m
    induction m with
    | zero =>
      intro i hi hp
      unfold r_X1_tells_2
      refine pk_le size i (fun _ => ?_) (fun q => absurd q (by omega)) rfl rfl (by omega) (by omega)
      rw [(tells_iff h hun hs).mp (fun i' hi' => hp i' (by omega))] at k
      exact k
    | succ m ih =>
      intro i hi hp
      unfold r_X1_tells_2
      refine pk_le size i (fun q => absurd q (by omega)) (fun _ => ⟨vp_in_nI (by omega) (by decide), ?_⟩) rfl rfl (by omega) (by omega)
      rw [nI_clamp (by omega), nI_1]
      refine brn (fun q => ih (i + 1) (by omega) (fun i' hi' => ?_)) (fun q => ?_)
      · by_cases e : i' = i
        · rw [e]; exact q
        · exact hp i' (by omega)
      · have : tellsA un n set = false := Bool.eq_false_iff.mpr (fun z => (tells_iff h hun hs).mpr z i (by omega) q)
        rw [this] at k
        exact k
  exact ⟨size + 1, loop size 0 (by omega) (fun i' hi' => absurd hi' (by omega))⟩
def bst (un : Nat → Nat) (n N : Nat) : Nat → Nat
  | 0 => 2 ^ N - 1
  | s + 1 => if pc s < pc (bst un n N s) ∧ tellsA un n s = true then s else bst un n N s
theorem bst_lt {un : Nat → Nat} {n N : Nat} : ∀ s, s ≤ 2 ^ N → bst un n N s < 2 ^ N ∧ (bst un n N s < s ∨ bst un n N s = 2 ^ N - 1)
  | 0, _ => ⟨by have := Nat.pow_pos (n := N) (show 0 < 2 by decide); show 2 ^ N - 1 < 2 ^ N; omega, Or.inr rfl⟩
  | s + 1, h => by
    have ih := bst_lt (un := un) (n := n) (N := N) s (by omega)
    show (if pc s < pc (bst un n N s) ∧ tellsA un n s = true then s else bst un n N s) < 2 ^ N ∧ ((if pc s < pc (bst un n N s) ∧ tellsA un n s = true then s else bst un n N s) < s + 1 ∨ (if pc s < pc (bst un n N s) ∧ tellsA un n s = true then s else bst un n N s) = 2 ^ N - 1)
    split
    · exact ⟨by omega, Or.inl (by omega)⟩
    · exact ⟨ih.1, by omega⟩
theorem p12 {N : Nat} (hN : N ≤ 12) : 2 ^ N ≤ 4096 := Nat.le_trans (Nat.pow_le_pow_right (by decide) hN) (by decide)
theorem pc_le (v : Nat) : pc v ≤ 32 := fb_ct_le _ 32
theorem shl1 {N : Nat} (hN : N ≤ 12) : (1 : Int32) <<< (nI N &&& 31) = nI (2 ^ N) := by
  have := p12 hN
  rw [show (1 : Int32) = nI 1 from rfl, shlN (by omega) (by omega), Nat.one_mul]
theorem s_fewest {un : Nat → Nat} {n size N : Nat} {u : Nat → Int32} (h : Un un n size u) (hn : n ≤ 300) (hun : ∀ j, un j < 2 ^ 25) (hN : N ≤ 12) {post : Int32 → Prop} (k : post (nI (bst un n N (2 ^ N)))) : q_X1_fewest (nI size) u (nI N) post := by
  have h12 := p12 hN
  have hp : 0 < 2 ^ N := Nat.pow_pos (by decide)
  unfold q_X1_fewest
  rw [shl1 hN]
  have em : nI (2 ^ N) - (1 : Int32) = nI (2 ^ N - 1) := by rw [show (1 : Int32) = nI 1 from rfl, pk_sub (by omega)]
  rw [em]
  have loop : ∀ (m s : Nat), s + m = 2 ^ N → r_X1_fewest_8 (nI size) u post (nI N) (m + 1) (nI (bst un n N s)) (nI s) := by
    intro m
    induction m with
    | zero =>
      intro s hs
      unfold r_X1_fewest_8
      rw [shl1 hN]
      have es : s = 2 ^ N := by omega
      exact pk_le (2 ^ N) s (fun _ => by rw [es]; exact k) (fun q => absurd q (by omega)) rfl rfl (by omega) (by omega)
    | succ m ih =>
      intro s hs
      unfold r_X1_fewest_8
      rw [shl1 hN]
      refine pk_le (2 ^ N) s (fun q => absurd q (by omega)) (fun _ => ?_) rfl rfl (by omega) (by omega)
      have hb := (bst_lt (un := un) (n := n) (N := N) s (by omega)).1
      refine s_bitCount (by omega) (s_bitCount (by omega) ?_)
      have hI := ih (s + 1) (by omega)
      have es : bst un n N (s + 1) = if pc s < pc (bst un n N s) ∧ tellsA un n s = true then s else bst un n N s := rfl
      rw [es] at hI
      have q1 := pc_le s
      have q2 := pc_le (bst un n N s)
      rw [nI_1]
      refine pk_le (pc (bst un n N s)) (pc s) (fun q => ?_) (fun q => ?_) rfl rfl (by omega) (by omega)
      · rw [if_neg (by omega)] at hI; exact hI
      · refine s_tells h hn hun (by omega) ?_
        cases ht : tellsA un n s with
        | true => rw [if_pos ⟨by omega, ht⟩] at hI; exact b1 hI
        | false => rw [if_neg (by rw [ht]; intro z; exact absurd z.2 (by decide))] at hI; exact b0 hI
  exact ⟨2 ^ N + 1, loop (2 ^ N) 0 (by omega)⟩
theorem unA_lt (al : Nat → Bool) (dv : Nat → Nat) (c : Nat) {h w : Nat} (hh : h ≤ 5) (hw : w ≤ 5) (j : Nat) : unA al dv c h w j < 2 ^ 25 := Nat.lt_of_lt_of_le (bitsOf_lt _ (h * w)) (Nat.pow_le_pow_right (by decide) (hw25 hh hw))
theorem bits_succ (p : Nat → Bool) (n : Nat) : bitsOf p (n + 1) = bitsOf p n ||| (if p n then 2 ^ n else 0) := rfl
theorem s_tellApart {c h w j n size : Nat} (h1 : 1 ≤ c) (hc : c ≤ 3) (hh : h ≤ 5) (hw1 : 1 ≤ w) (hw : w ≤ 5) {al : Nat → Bool} {f dk at' pc' u : Nat → Int32} {dv : Nat → Nat} (hf : ∀ i, i < 25 → f i = dk i) (hd : DkOk c (h * w) dk dv) (hI : Ins al c w okAll h n (aN at') h) (hP : PgOk c w at' pc' h) (hU : Un (unA al dv c h w) n size u) (hn : n < 300) {post : Int32 → (Nat → Int32) → Prop}
    (k : ∀ size' u', Un (unA al dv c h w) (n + 1) size' u' → post (nI size') u') : q_X1_tellApart (nI h) (nI w) f pc' (nI size) u post := by
  have hN := hw25 hh hw
  have hsz := hU.1
  unfold q_X1_tellApart q_X4_size
  rw [pk_mul]
  have loop : ∀ (m i : Nat), i + m = h * w → r_X1_tellApart_11 (nI h) (nI w) f pc' post (q_X1_tellApart_48 (nI h) (nI w) f pc' post) (nI (h * w)) (nI size) u (m + 1) (nI (bitsOf (fun i => decide (dg c w (pathA al c w okAll h n (i / w)) (i % w) ≠ dv i)) i)) (nI i) := by
    intro m
    induction m with
    | zero =>
      intro i hi
      unfold r_X1_tellApart_11
      rw [show i = h * w by omega]
      refine pk_le (h * w) (h * w) (fun _ => ?_) (fun q => absurd q (by omega)) rfl rfl (by omega) (by omega)
      have hlt := unA_lt al dv c hh hw n
      show q_X1_tellApart_48 (nI h) (nI w) f pc' post (nI (unA al dv c h w n)) (nI size) u
      unfold q_X1_tellApart_48
      rw [nI_zero (by omega)]
      refine br (fun q => k size u (Un_no hU q)) (fun q => pk_le 300 size (fun z => absurd z (by omega)) (fun _ => ⟨vp_in_nI (by omega) (by decide), ?_⟩) rfl rfl (by omega) (by omega))
      rw [nI_clamp (by omega), nI_1]
      exact k (size + 1) _ (Un_yes hU q)
    | succ m ih =>
      intro i hi
      unfold r_X1_tellApart_11
      refine pk_le (h * w) i (fun q => absurd q (by omega)) (fun _ => ⟨vp_in_nI (by omega) (by decide), vp_in_nI (by omega) (by decide), ?_⟩) rfl rfl (by omega) (by omega)
      have hI2 := ih (i + 1) (by omega)
      rw [bits_succ] at hI2
      have hcell : i < h * w := by omega
      have hy : i / w < h := by rw [Nat.div_lt_iff_lt_mul hw1]; exact hcell
      rw [nI_clamp (by omega), hf i (by omega), (hd i hcell).1, pg_cell hP hcell hw1, pathA_eq hI _ hy, nI_1, or_bit (by omega)]
      have hd1 := (hd i hcell).2
      have hd2 := dg_lt h1 w (pathA al c w okAll h n (i / w)) (i % w)
      rw [nI_eq (by omega) (by omega)]
      refine br (fun q => ?_) (fun q => ?_)
      · have hb : decide (dg c w (pathA al c w okAll h n (i / w)) (i % w) ≠ dv i) = false := by
          rw [decide_eq_false_iff_not]; exact fun z => z q.symm
        rw [hb, if_neg (by decide), Nat.or_zero] at hI2; exact hI2
      · have hb : decide (dg c w (pathA al c w okAll h n (i / w)) (i % w) ≠ dv i) = true := by
          rw [decide_eq_true_iff]; exact fun z => q z.symm
        rw [hb, if_pos rfl] at hI2; exact hI2
  exact ⟨h * w + 1, loop (h * w) 0 (by omega)⟩
/-- the last row is one way: the next picture is the next number -/
theorem last_next {al : Nat → Bool} {c w : Nat} {ok : Nat → Nat → Bool} {h j : Nat} {a : Nat → Nat} (hh : 1 ≤ h) (hI : Ins al c w ok h j a h) : j + 1 = bef al c w ok h a (h - 1) + fb_sm (glv al c w ok h a (h - 1)) (a (h - 1) + 1) := by
  have h0 := hI (h - 1) (by omega)
  have eb : bef al c w ok h a (h - 1 + 1) = bef al c w ok h a (h - 1) + fb_sm (glv al c w ok h a (h - 1)) (a (h - 1)) := rfl
  have hle : glv al c w ok h a (h - 1) (a (h - 1)) ≤ 1 := by
    unfold glv gW
    rw [Nat.sub_self]
    split
    · unfold Wy; split <;> decide
    · decide
  rw [fb_sm_succ]
  omega
noncomputable def cluesA (al : Nat → Bool) (dv : Nat → Nat) (c h w : Nat) : Int32 := if 12 < h * w ∨ wrongA al dv h w ≠ -1 then -4 else if 300 < totA al c h w then -6 else nI (bst (unA al dv c h w) (totA al c h w) (h * w) (2 ^ (h * w)))
theorem s_cluesX {c h w : Nat} (hc2 : c = 2 ∨ c = 3) (hh1 : 1 ≤ h) (hh : h ≤ 5) (hw1 : 1 ≤ w) (hw : w ≤ 5) {al : Nat → Bool} {R f dk : Nat → Int32} (hr : RuleOk al R) (hf : ∀ i, i < 25 → f i = dk i) (hD : DeskOk c dk) {wf at' u fr pw pc : Nat → Int32} {ws ft : Nat → Int64} {a b d g e f' hs : Int32} {post : Int32 → (Nat → Int32) → (Nat → Int64) → (Nat → Int64) → (Nat → Int32) → Int32 → (Nat → Int32) → Int32 → Int32 → Int32 → Int32 → (Nat → Int32) → (Nat → Int32) → Int32 → Int32 → (Nat → Int32) → Prop}
    (k : gapsN dk (h * w) = 0 → ∀ wf' ws' ft' at' hs' u' a' b' d' g' fr' pw' e' f' pc', post (cluesA al (dvf dk) c h w) wf' ws' ft' at' hs' u' a' b' d' g' fr' pw' e' f' pc') (k0 : 0 < gapsN dk (h * w) → post (-4) wf ws ft at' hs u a b d g fr pw e f' pc) : q_X8_clues (nI c) R (nI h) (nI w) f wf ws ft at' hs u a b d g fr pw e f' pc post := by
  have hN := hw25 hh hw
  have h1 : 1 ≤ c := by omega
  have hc : c ≤ 3 := by omega
  have h243 := pow_le243 hc hw
  have hg25 : gapsN dk (h * w) ≤ 25 := Nat.le_trans (gapsN_le _ _) hN
  unfold q_X8_clues
  refine s_gapsX hh hw hf (pk_lt 0 (gapsN dk (h * w)) (fun q => k0 q) (fun q => ?_) rfl rfl (by omega) (by omega))
  have hg : gapsN dk (h * w) = 0 := by omega
  have hd := dv_of hc hD hN hg
  have kk := k hg
  unfold cluesA at kk
  unfold q_X4_size
  rw [pk_mul]
  refine pk_lt 12 (h * w) (fun q12 => ?_) (fun q12 => ?_) rfl rfl (by omega) (by omega)
  · rw [if_pos (Or.inl q12)] at kk; exact kk _ _ _ _ _ _ _ _ _ _ _ _ _ _ _
  refine s_firstWrong hc hh hw hr hf hd (br (fun qw => ?_) (fun qw => ?_))
  · rw [if_neg (by rintro (z | z); exact absurd z (by omega); exact z qw)] at kk
    refine s_openWhole hc2 hw1 hw hh1 hh hr (fun wf' ws' ft' fr' pw' pc' hR hW => ?_)
    have hfr := hR.2.2.2.2.1
    refine s_total (y := 0) h1 hc hw hh (by omega) hr hfr hW ?_
    have hlt := totW_lt (R := c ^ w) (F := Fi al c w) (T := Tp al c w) (B := Bt al c w) (ok := okAll) h243 hh
    rw [Nat.sub_zero, totW_eq]
    show (lN (totA al c h w) ≤ _ → _) ∧ (¬ lN (totA al c h w) ≤ _ → _)
    have hlt' : totA al c h w ≤ 243 * 3486784401 := hlt
    rw [show (300 : Int64) = lN 300 from rfl, pk_lLE (by omega) (by decide)]
    refine br (fun q3 => ?_) (fun q3 => ?_)
    · rw [if_neg (by omega)] at kk
      unfold q_X1_clear
      have loop : ∀ (m i : Nat) (l3 : Int32) (at' : Nat → Int32) (size : Nat) (u pg : Nat → Int32), i + m = totA al c h w → Un (unA al (dvf dk) c h w) i size u → (0 < m → l3 = 1 ∧ Ins al c w okAll h i (aN at') h ∧ AtOk c w at' h ∧ PgOk c w at' pg h) → r_X8_clues_96 (nI c) R (nI h) (nI w) f post (q_X8_clues_149 (nI c) R (nI h) (nI w) f post) (lN (totA al c h w)) wf' ws' ft' (nI c) (nI w) (nI (c ^ w)) (nI (4 ^ (w + 2) - 1)) fr' pw' (nI h) (nI w) (m + 1) l3 (nI i) at' (nI size) u pg := by
        intro m
        induction m with
        | zero =>
          intro i l3 at' size u pg hi hU hst
          unfold r_X8_clues_96
          rw [nI_l (by omega), pk_lLE (by omega) (by omega)]
          refine br (fun _ => ?_) (fun q => absurd (show totA al c h w ≤ i by omega) q)
          unfold q_X8_clues_149 q_X4_size
          rw [pk_mul]
          rw [show i = totA al c h w by omega] at hU
          exact s_fewest hU q3 (unA_lt al (dvf dk) c hh hw) (by omega) (kk _ _ _ _ _ _ _ _ _ _ _ _ _ _ _)
        | succ m ih =>
          intro i l3 at' size u pg hi hU hst
          obtain ⟨rfl, hI, hA, hP⟩ := hst (by omega)
          unfold r_X8_clues_96
          rw [nI_l (by omega), pk_lLE (by omega) (by omega)]
          refine br (fun q => absurd q (by omega)) (fun _ => b1 ?_)
          refine s_tellApart (j := i) h1 hc hh hw1 hw hf hd hI hP hU (by omega) (fun size' u' hU' => ?_)
          have eh : nI h - (1 : Int32) = nI (h - 1) := by rw [show (1 : Int32) = nI 1 from rfl, pk_sub hh1]
          rw [eh, nI_1]
          have hAl := hA (h - 1) (by omega)
          have hL := Ins_liv hI
          refine s_advance (from' := h - 1) h1 hc hw hh (by omega) hr hfr hW (fun y hy => hA y (by omega)) (fun y hy => hL y (by omega)) (fun y x hy hx => hP y x (by omega) hx) (s := aN at' (h - 1) + 1) (j := i + 1) (by omega) (by rw [hAl.1, nI_1]) (last_next hh1 hI) (fun ht at2 pc2 hI2 hA2 hP2 => ?_) (fun ht at2 pc2 => ?_)
          · exact ih (i + 1) 1 at2 size' u' pc2 (by omega) hU' (fun _ => ⟨rfl, hI2, hA2, hP2⟩)
          · have : totA al c h w = i + 1 := ht
            exact ih (i + 1) 0 at2 size' u' pc2 (by omega) hU' (fun z => absurd z (by omega))
      refine s_begin h1 hc hw hh1 hh hr hfr hW (fun ht at2 pc2 hI hA hP => ?_) (fun ht at2 pc2 => ?_)
      · exact ⟨_, loop (totA al c h w) 0 1 at2 0 u pc2 (by omega) Un_0 (fun _ => ⟨rfl, hI, hA, hP⟩)⟩
      · have : totA al c h w = 0 := ht
        exact ⟨_, loop (totA al c h w) 0 0 at2 0 u pc2 (by omega) Un_0 (fun z => absurd z (by omega))⟩
    · rw [if_pos (by omega)] at kk
      exact kk _ _ _ _ _ _ _ _ _ _ _ _ _ _ _
  · rw [if_pos (Or.inr qw)] at kk; exact kk _ _ _ _ _ _ _ _ _ _ _ _ _ _ _
theorem pcN {v N : Nat} (hv : v < 2 ^ N) (hN : N ≤ 32) : pc v = fb_ct (fun i => v.testBit i) N := by
  unfold pc
  have e : (32 : Nat) = N + (32 - N) := by omega
  rw [e, fb_ct_split]
  have : fb_ct (fun k => v.testBit (N + k)) (32 - N) = 0 := fb_ct_zero.mpr (fun k _ => Nat.testBit_lt_two_pow (Nat.lt_of_lt_of_le hv (Nat.pow_le_pow_right (by decide) (by omega))))
  rw [this]; rfl
theorem pc_full {N : Nat} (hN : N ≤ 32) : pc (2 ^ N - 1) = N := by
  rw [pcN (by have := Nat.pow_pos (n := N) (show 0 < 2 by decide); omega) hN, fb_ct_all]
  intro k hk
  rw [Nat.testBit_two_pow_sub_one]; exact decide_eq_true hk
theorem pc_all {v N : Nat} (hv : v < 2 ^ N) (hN : N ≤ 32) (h : pc v = N) : v = 2 ^ N - 1 := by
  rw [pcN hv hN, fb_ct_all] at h
  refine bits_eq hv (by have := Nat.pow_pos (n := N) (show 0 < 2 by decide); omega) (fun i hi => ?_)
  rw [h i hi, Nat.testBit_two_pow_sub_one]; exact (decide_eq_true hi).symm
theorem s_cluesM {c h w : Nat} (hc : c ≤ 3) (h1 : 1 ≤ c) (hh1 : 1 ≤ h) (hh : h ≤ 5) (hw1 : 1 ≤ w) (hw : w ≤ 5) {al : Nat → Bool} {R f dk : Nat → Int32} (hr : RuleM al R) (hf : ∀ i, i < 25 → f i = dk i) (hD : DeskOk c dk) {mr : Int32} {fits top bottom may fd u : Nat → Int32} {ways : Nat → Int64} {post : Int32 → Int32 → (Nat → Int32) → (Nat → Int32) → (Nat → Int32) → (Nat → Int32) → (Nat → Int64) → (Nat → Int32) → (Nat → Int32) → Prop}
    (k : gapsN dk (h * w) = 0 → ∀ mr' fits' top' bottom' may' ways' fd' u', post (cluesA al (dvf dk) c h w) mr' fits' top' bottom' may' ways' fd' u') (k0 : 0 < gapsN dk (h * w) → post (-4) mr fits top bottom may ways fd u) : q_X9_clues (nI c) (nI h) (nI w) R f mr fits top bottom may ways fd u post := by
  have hN := hw25 hh hw
  have h243 := pow_le243 hc hw
  have hg25 : gapsN dk (h * w) ≤ 25 := Nat.le_trans (gapsN_le _ _) hN
  unfold q_X9_clues
  refine s_gapsM hh hw hf (pk_lt 0 (gapsN dk (h * w)) (fun q => k0 q) (fun q => ?_) rfl rfl (by omega) (by omega))
  have hg : gapsN dk (h * w) = 0 := by omega
  have hd := dv_of hc hD hN hg
  have kk := k hg
  unfold cluesA at kk
  refine s_wrongNow hc hh hw hh1 hw1 hr hf hd (brn (fun qw => ?_) (fun qw => ?_))
  · rw [if_pos (Or.inr qw)] at kk; exact kk _ _ _ _ _ _ _ _
  rw [pk_mul]
  refine pk_le (h * w) 12 (fun q12 => ?_) (fun q12 => ?_) rfl rfl (by omega) (by omega)
  · rw [if_neg (by rintro (z | z); exact absurd z (by omega); exact z qw)] at kk
    refine s_countAll hc h1 hw hh1 hh hr (fun fits' top' bottom' may' ways' hF hW => ?_)
    have hcm := capM_le (totW (c ^ w) (Fi al c w) (Tp al c w) (Bt al c w) okAll h)
    have hcap : capM (totA al c h w) ≤ 300 ↔ totA al c h w ≤ 300 := by unfold capM; split <;> omega
    show (lN (capM (totA al c h w)) ≤ _ → _) ∧ (¬ lN (capM (totA al c h w)) ≤ _ → _)
    have hcm' : capM (totA al c h w) ≤ 1000000001 := hcm
    rw [show (300 : Int64) = lN 300 from rfl, pk_lLE (by omega) (by decide), hcap]
    refine br (fun q3 => ?_) (fun q3 => ?_)
    · rw [if_neg (by omega)] at kk
      have h12 := p12 q12
      have hp2 : 0 < 2 ^ (h * w) := Nat.pow_pos (by decide)
      have e61 : capM (totW (c ^ w) (Fi al c w) (Tp al c w) (Bt al c w) okAll h) = totA al c h w := capM_id (show totA al c h w ≤ 1000000001 by omega)
      rw [e61]
      -- the cells of one picture
      have cells : ∀ {K : Int32 → Int32 → Int32 → (Nat → Int32) → (Nat → Int32) → Prop} {l3 : Int32} {n : Nat} {fd u : Nat → Int32}, Ins al c w okAll h n (aN fd) h → AtOk c w fd h → K l3 (nI n) (nI (unA al (dvf dk) c h w n)) fd u → ∀ (m i : Nat), i + m = h * w → r_X9_clues_86 (nI c) (nI h) (nI w) R f (lN (totA al c h w)) (nI (c ^ w)) fits' top' bottom' may' ways' post K l3 (nI n) fd u (m + 1) (nI (bitsOf (fun i => decide (dg c w (pathA al c w okAll h n (i / w)) (i % w) ≠ dvf dk i)) i)) (nI i) := by
        intro K l3 n fd u hI hA hK m
        induction m with
        | zero =>
          intro i hi
          unfold r_X9_clues_86
          rw [pk_mul, show i = h * w by omega]
          exact pk_le (h * w) (h * w) (fun _ => hK) (fun q => absurd q (by omega)) rfl rfl (by omega) (by omega)
        | succ m ih =>
          intro i hi
          unfold r_X9_clues_86
          rw [pk_mul]
          refine pk_le (h * w) i (fun q => absurd q (by omega)) (fun _ => ?_) rfl rfl (by omega) (by omega)
          have hcell : i < h * w := by omega
          have hy : i / w < h := by rw [Nat.div_lt_iff_lt_mul hw1]; exact hcell
          refine s_fdCell hc h1 hw1 hw hh hcell hA ?_
          have hI2 := ih (i + 1) (by omega)
          rw [bits_succ] at hI2
          have hd1 := (hd i hcell).2
          have hd2 := dg_lt h1 w (pathA al c w okAll h n (i / w)) (i % w)
          refine ⟨vp_in_nI (by omega) (by decide), ?_⟩
          rw [pathA_eq hI _ hy, nI_clamp (by omega), hf i (by omega), (hd i hcell).1, nI_1, or_bit (by omega), nI_eq (by omega) (by omega)]
          refine brn (fun q => ?_) (fun q => ?_)
          · rw [decide_eq_true q, if_pos rfl] at hI2; exact hI2
          · have e0 : ∀ v, nI v ||| (0 : Int32) = nI v := fun v => by rw [show (0 : Int32) = nI 0 from rfl, fa_or, Nat.or_zero]
            rw [decide_eq_false (fun z => z q), if_neg (by decide), Nat.or_zero] at hI2
            rw [e0]; exact hI2
      -- the best set
      have best : ∀ {size : Nat} {fd u : Nat → Int32}, Un (unA al (dvf dk) c h w) (totA al c h w) size u → ∀ (m s : Nat), s + m = 2 ^ (h * w) → r_X9_clues_207 (nI c) (nI h) (nI w) R f post (nI size) (nI (c ^ w)) fits' top' bottom' may' ways' fd u (m + 1) (nI (bst (unA al (dvf dk) c h w) (totA al c h w) (h * w) s)) (nI (pc (bst (unA al (dvf dk) c h w) (totA al c h w) (h * w) s))) (nI s) := by
        intro size fd u hU m
        have hsz := hU.1
        induction m with
        | zero =>
          intro s hs
          unfold r_X9_clues_207
          rw [pk_mul, shl1 q12]
          have es : s = 2 ^ (h * w) := by omega
          exact pk_le (2 ^ (h * w)) s (fun _ => by rw [es]; exact kk _ _ _ _ _ _ _ _) (fun q => absurd q (by omega)) rfl rfl (by omega) (by omega)
        | succ m ih =>
          intro s hs
          unfold r_X9_clues_207
          rw [pk_mul, shl1 q12]
          refine pk_le (2 ^ (h * w)) s (fun q => absurd q (by omega)) (fun _ => ?_) rfl rfl (by omega) (by omega)
          have hI := ih (s + 1) (by omega)
          have es : bst (unA al (dvf dk) c h w) (totA al c h w) (h * w) (s + 1) = if pc s < pc (bst (unA al (dvf dk) c h w) (totA al c h w) (h * w) s) ∧ tellsA (unA al (dvf dk) c h w) (totA al c h w) s = true then s else bst (unA al (dvf dk) c h w) (totA al c h w) (h * w) s := rfl
          rw [es] at hI
          have hbl := bst_lt (un := unA al (dvf dk) c h w) (n := totA al c h w) (N := h * w) s (by omega)
          generalize hB : bst (unA al (dvf dk) c h w) (totA al c h w) (h * w) s = B at hI hbl ⊢
          have q1 := pc_le s
          have q2 := pc_le B
          have fin0 : ¬ (pc s < pc B ∧ tellsA (unA al (dvf dk) c h w) (totA al c h w) s = true) → q_X9_clues_329 (nI c) (nI h) (nI w) R f (nI size) (nI (c ^ w)) fits' top' bottom' may' ways' fd u post (r_X9_clues_207 (nI c) (nI h) (nI w) R f post (nI size) (nI (c ^ w)) fits' top' bottom' may' ways' fd u (m + 1)) (nI B) (nI (pc B)) (nI s) (nI (pc s)) 0 := by
            intro z
            rw [if_neg z] at hI
            unfold q_X9_clues_329
            refine b0 ?_
            unfold q_X9_clues_341
            rw [nI_1]
            exact b0 hI
          have fin1 : (pc s < pc B ∧ tellsA (unA al (dvf dk) c h w) (totA al c h w) s = true) → q_X9_clues_329 (nI c) (nI h) (nI w) R f (nI size) (nI (c ^ w)) fits' top' bottom' may' ways' fd u post (r_X9_clues_207 (nI c) (nI h) (nI w) R f post (nI size) (nI (c ^ w)) fits' top' bottom' may' ways' fd u (m + 1)) (nI B) (nI (pc B)) (nI s) (nI (pc s)) 1 := by
            intro z
            rw [if_pos z] at hI
            unfold q_X9_clues_329
            refine b1 ?_
            unfold q_X9_clues_341
            rw [nI_1]
            exact b1 hI
          have zero : ¬ (pc s < pc B) → q_X9_clues_292 (nI c) (nI h) (nI w) R f (nI size) (nI (c ^ w)) fits' top' bottom' may' ways' fd u post (r_X9_clues_207 (nI c) (nI h) (nI w) R f post (nI size) (nI (c ^ w)) fits' top' bottom' may' ways' fd u (m + 1)) (nI B) (nI (pc B)) (nI s) (nI (pc s)) 0 0 := by
            intro z
            refine ⟨1, ?_⟩
            unfold r_X9_clues_292
            exact b0 (fin0 (fun y => z y.1))
          have one : pc s < pc B → q_X9_clues_292 (nI c) (nI h) (nI w) R f (nI size) (nI (c ^ w)) fits' top' bottom' may' ways' fd u post (r_X9_clues_207 (nI c) (nI h) (nI w) R f post (nI size) (nI (c ^ w)) fits' top' bottom' may' ways' fd u (m + 1)) (nI B) (nI (pc B)) (nI s) (nI (pc s)) 1 0 := by
            intro z
            have lp : ∀ (m' i : Nat), i + m' = size → (∀ i', i' < i → ¬ (nI s &&& u i') = 0) → r_X9_clues_292 (nI c) (nI h) (nI w) R f (nI size) (nI (c ^ w)) fits' top' bottom' may' ways' fd u post (q_X9_clues_329 (nI c) (nI h) (nI w) R f (nI size) (nI (c ^ w)) fits' top' bottom' may' ways' fd u post (r_X9_clues_207 (nI c) (nI h) (nI w) R f post (nI size) (nI (c ^ w)) fits' top' bottom' may' ways' fd u (m + 1))) (nI B) (nI (pc B)) (nI s) (nI (pc s)) (m' + 2) 1 (nI i) := by
              intro m'
              induction m' with
              | zero =>
                intro i hi hp
                unfold r_X9_clues_292
                refine b1 (pk_le size i (fun _ => ?_) (fun q => absurd q (by omega)) rfl rfl (by omega) (by omega))
                exact fin1 ⟨z, (tells_iff hU (unA_lt al (dvf dk) c hh hw) (by omega)).mp (fun i' hi' => hp i' (by omega))⟩
              | succ m' ih' =>
                intro i hi hp
                unfold r_X9_clues_292
                refine b1 (pk_le size i (fun q => absurd q (by omega)) (fun _ => ⟨vp_in_nI (by omega) (by decide), ?_⟩) rfl rfl (by omega) (by omega))
                rw [nI_clamp (by omega), nI_1, Int32.and_comm]
                refine br (fun q => ?_) (fun q => ih' (i + 1) (by omega) (fun i' hi' => ?_))
                · unfold r_X9_clues_292
                  refine b0 (fin0 (fun y => ?_))
                  exact (tells_iff hU (unA_lt al (dvf dk) c hh hw) (by omega)).mpr y.2 i (by omega) q
                · by_cases e : i' = i
                  · rw [e]; exact q
                  · exact hp i' (by omega)
            exact ⟨size + 2, lp size 0 (by omega) (fun i' hi' => absurd hi' (by omega))⟩
          have cond : q_X9_clues_261 (nI c) (nI h) (nI w) R f (nI size) (nI (c ^ w)) fits' top' bottom' may' ways' fd u post (r_X9_clues_207 (nI c) (nI h) (nI w) R f post (nI size) (nI (c ^ w)) fits' top' bottom' may' ways' fd u (m + 1)) (nI B) (nI (pc B)) (nI s) (nI (pc s)) := by
            unfold q_X9_clues_261
            refine pk_lt (pc s) (pc B) (fun q => one q) (fun q => ?_) rfl rfl (by omega) (by omega)
            refine brn (fun _ => zero (by omega)) (fun qe => ?_)
            have qe' : pc s = pc B := nI_inj (by omega) (by omega) qe
            refine pk_le B s (fun _ => zero (by omega)) (fun qlt => ?_) rfl rfl (by omega) (by omega)
            exfalso
            rcases hbl.2 with y | y
            · omega
            · have : pc B = h * w := by rw [y]; exact pc_full (by omega)
              have := pc_all (show s < 2 ^ (h * w) by omega) (by omega) (by omega)
              omega
          have bits : ∀ (m' i : Nat), i + m' = h * w → r_X9_clues_229 (nI c) (nI h) (nI w) R f (nI size) (nI (c ^ w)) fits' top' bottom' may' ways' fd u post (q_X9_clues_261 (nI c) (nI h) (nI w) R f (nI size) (nI (c ^ w)) fits' top' bottom' may' ways' fd u post (r_X9_clues_207 (nI c) (nI h) (nI w) R f post (nI size) (nI (c ^ w)) fits' top' bottom' may' ways' fd u (m + 1))) (nI B) (nI (pc B)) (nI s) (m' + 1) (nI (fb_ct (fun i => s.testBit i) i)) (nI i) := by
            intro m'
            induction m' with
            | zero =>
              intro i hi
              unfold r_X9_clues_229
              rw [pk_mul, show i = h * w by omega, ← pcN (show s < 2 ^ (h * w) by omega) (by omega)]
              exact pk_le (h * w) (h * w) (fun _ => cond) (fun q => absurd q (by omega)) rfl rfl (by omega) (by omega)
            | succ m' ih' =>
              intro i hi
              unfold r_X9_clues_229
              rw [pk_mul]
              refine pk_le (h * w) i (fun q => absurd q (by omega)) (fun _ v22 e22 => ?_) rfl rfl (by omega) (by omega)
              have hI3 := ih' (i + 1) (by omega)
              rw [fb_ct_succ] at hI3
              rw [bitG (by omega) (by omega)] at e22
              have eb : bI (s.testBit i) = nI (if s.testBit i then 1 else 0) := by cases s.testBit i <;> rfl
              rw [eb, nI_add] at e22
              rw [e22, nI_1]
              exact hI3
          exact ⟨h * w + 1, bits (h * w) 0 (by omega)⟩
      have loop : ∀ (m i size : Nat) (fd u : Nat → Int32), i + m = totA al c h w → Un (unA al (dvf dk) c h w) i size u → r_X9_clues_61 (nI c) (nI h) (nI w) R f post (q_X9_clues_178 (nI c) (nI h) (nI w) R f post) (lN (totA al c h w)) (nI (c ^ w)) fits' top' bottom' may' ways' (m + 1) (nI size) (nI i) fd u := by
        intro m
        induction m with
        | zero =>
          intro i size fd u hi hU
          unfold r_X9_clues_61
          rw [nI_l (by omega), pk_lLE (by omega) (by omega)]
          refine br (fun _ => ?_) (fun q => absurd (show totA al c h w ≤ i by omega) q)
          rw [show i = totA al c h w by omega] at hU
          unfold q_X9_clues_178
          intro v19 e19
          have em : nI (2 ^ (h * w)) - (1 : Int32) = nI (2 ^ (h * w) - 1) := by rw [show (1 : Int32) = nI 1 from rfl, pk_sub (by omega)]
          rw [pk_mul, shl1 q12, em] at e19
          rw [e19, pk_mul]
          have h0 := best (fd := fd) hU (2 ^ (h * w)) 0 (by omega)
          have eb0 : bst (unA al (dvf dk) c h w) (totA al c h w) (h * w) 0 = 2 ^ (h * w) - 1 := rfl
          rw [eb0, pc_full (by omega)] at h0
          exact ⟨_, h0⟩
        | succ m ih =>
          intro i size fd u hi hU
          have hsz := hU.1
          unfold r_X9_clues_61
          rw [nI_l (by omega), pk_lLE (by omega) (by omega)]
          refine br (fun q => absurd q (by omega)) (fun _ => ?_)
          refine s_layFound h1 hc hw hh1 hh hF hW (by omega) (show i < totA al c h w by omega) (fun fd2 hI hA => ?_)
          have hlt := unA_lt al (dvf dk) c hh hw i
          refine ⟨h * w + 1, cells hI hA ?_ (h * w) 0 (by omega)⟩
          unfold q_X9_clues_156
          rw [nI_zero (by omega), nI_1, nI_1]
          refine br (fun q => ih (i + 1) size fd2 u (by omega) (Un_no hU q)) (fun q => ⟨vp_in_nI (by omega) (by decide), ?_⟩)
          rw [nI_clamp (by omega)]
          exact ih (i + 1) (size + 1) fd2 _ (by omega) (Un_yes hU q)
      exact ⟨_, loop (totA al c h w) 0 0 fd u (by omega) Un_0⟩
    · rw [if_pos (by omega)] at kk
      exact kk _ _ _ _ _ _ _ _
  · rw [if_pos (Or.inl q12)] at kk; exact kk _ _ _ _ _ _ _ _
