theorem or0 {a b d : Nat} (ha : a < 2 ^ 62) (hb : b < 2 ^ 62) (hd : d < 2 ^ 62) : ((lN a ||| lN b) ||| lN d) = (0 : Int64) ↔ a = 0 ∧ b = 0 ∧ d = 0 := by
  rw [fb_orL, fb_orL, show (0 : Int64) = lN 0 from rfl, fb_lN_inj (Nat.or_lt_two_pow (n := 63) (Nat.or_lt_two_pow (n := 63) (by omega) (by omega)) (by omega)) (by decide)]
  rw [Nat.or_eq_zero_iff, Nat.or_eq_zero_iff]
  exact and_assoc
theorem sm2 (f : Nat → Nat) : fb_sm f 2 = f 0 + f 1 := by show 0 + f 0 + f 1 = _; omega
theorem sm3 (f : Nat → Nat) : fb_sm f 3 = f 0 + f 1 + f 2 := by show 0 + f 0 + f 1 + f 2 = _; omega
theorem s_mix {c : Nat} (hc : c = 2 ∨ c = 3) {p0 W : Nat} (hW : 0 < W) (hb : p0 + (c - 1) * W < 729) {g : Nat → Int64} {n : Nat → Nat} (hn : ∀ j, j < c → g (p0 + j * W) = lN (n j)) (hlt : ∀ j, n j < 2 ^ 62) {m : Nat → Nat} (hm : ∀ j, m j < 16) {post : (Nat → Int64) → Prop}
    (k : ∀ g', (∀ i, (∀ j, j < c → i ≠ p0 + j * W) → g' i = g i) → (∀ i, i < c → g' (p0 + i * W) = lN (fb_sm (fun j => if (m i).testBit j then n j else 0) c)) → post g') : q_X0_mix (nI c) g (nI p0) (nI W) (nI (m 0)) (nI (m 1)) (nI (m 2)) post := by
  have h0 := hlt 0
  have h1 := hlt 1
  have h2 := hlt 2
  unfold q_X0_mix
  rcases hc with rfl | rfl
  · refine brn (fun _ => ?_) (fun q => absurd q (by decide))
    unfold q_X0_mix_16
    have hb' : p0 + W < 729 := by omega
    rw [nI_add]
    refine ⟨vp_in_nI (by omega) (by decide), vp_in_nI hb' (by decide), b0 ?_⟩
    have e0 := hn 0 (by decide)
    have e1 := hn 1 (by decide)
    rw [Nat.zero_mul, Nat.add_zero] at e0
    rw [Nat.one_mul] at e1
    unfold q_X0_mix_55
    rw [nI_add, nI_clamp (by omega), nI_clamp (by omega), e0, e1, show (0 : Int64) = lN 0 from rfl]
    refine brn (fun _ => ?_) (fun q => ?_)
    · refine s_sum (hm 0) ⟨vp_in_nI (by omega) (by decide), s_sum (hm 1) ⟨vp_in_nI hb' (by decide), b0 ?_⟩⟩
      refine k _ (fun i hi => ?_) (fun i hi => ?_)
      · have q0 := hi 0 (by decide)
        have q1 := hi 1 (by decide)
        rw [Nat.zero_mul, Nat.add_zero] at q0
        rw [Nat.one_mul] at q1
        rw [updL_n _ q1, updL_n _ q0]
      · rw [sm2]
        rcases (show i = 0 ∨ i = 1 by omega) with rfl | rfl
        · rw [Nat.zero_mul, Nat.add_zero, updL_n _ (by omega), updL_s]
          simp
        · rw [Nat.one_mul, updL_s]
          simp
    · rw [← show (0 : Int64) = lN 0 from rfl] at q
      have q' := (or0 h0 h1 (show 0 < 2 ^ 62 by decide)).mp q
      refine k g (fun i _ => rfl) (fun i hi => ?_)
      rw [sm2]
      rcases (show i = 0 ∨ i = 1 by omega) with rfl | rfl
      · rw [Nat.zero_mul, Nat.add_zero, e0, q'.1, q'.2.1]; simp
      · rw [Nat.one_mul, e1, q'.1, q'.2.1]; simp
  · refine brn (fun q => absurd rfl q) (fun _ => ?_)
    unfold q_X0_mix_16
    have hb' : p0 + 2 * W < 729 := by omega
    rw [nI_add, show (2 : Int32) = nI 2 from rfl, pk_mul, nI_add]
    refine ⟨vp_in_nI (by omega) (by decide), vp_in_nI (by omega) (by decide), b1 ⟨vp_in_nI hb' (by decide), ?_⟩⟩
    have e0 := hn 0 (by decide)
    have e1 := hn 1 (by decide)
    have e2 := hn 2 (by decide)
    rw [Nat.zero_mul, Nat.add_zero] at e0
    rw [Nat.one_mul] at e1
    unfold q_X0_mix_55
    rw [nI_add, show (2 : Int32) = nI 2 from rfl, pk_mul, nI_add, nI_clamp (by omega), nI_clamp (by omega), nI_clamp (by omega), e0, e1, e2]
    refine brn (fun _ => ?_) (fun q => ?_)
    · refine s_sum (hm 0) ⟨vp_in_nI (by omega) (by decide), s_sum (hm 1) ⟨vp_in_nI (by omega) (by decide), b1 (s_sum (hm 2) ⟨vp_in_nI hb' (by decide), ?_⟩)⟩⟩
      refine k _ (fun i hi => ?_) (fun i hi => ?_)
      · have q0 := hi 0 (by decide)
        have q1 := hi 1 (by decide)
        have q2 := hi 2 (by decide)
        rw [Nat.zero_mul, Nat.add_zero] at q0
        rw [Nat.one_mul] at q1
        rw [updL_n _ q2, updL_n _ q1, updL_n _ q0]
      · rw [sm3]
        rcases (show i = 0 ∨ i = 1 ∨ i = 2 by omega) with rfl | rfl | rfl
        · rw [Nat.zero_mul, Nat.add_zero, updL_n _ (by omega), updL_n _ (by omega), updL_s]
        · rw [Nat.one_mul, updL_n _ (by omega), updL_s]
        · rw [updL_s]
    · have q' := (or0 h0 h1 h2).mp q
      refine k g (fun i _ => rfl) (fun i hi => ?_)
      rw [sm3]
      rcases (show i = 0 ∨ i = 1 ∨ i = 2 by omega) with rfl | rfl | rfl
      · rw [Nat.zero_mul, Nat.add_zero, e0, q'.1, q'.2.1, q'.2.2]; simp
      · rw [Nat.one_mul, e1, q'.1, q'.2.1, q'.2.2]; simp
      · rw [e2, q'.1, q'.2.1, q'.2.2]; simp
/-- which cells of the front have been moved -/
def mvD (c rest lf ab hi lo A l : Nat) : Bool := decide (A % c < lf ∨ (A % c = lf ∧ (l / rest < ab ∨ (l / rest = ab ∧ (A / c < hi ∨ (A / c = hi ∧ l % rest < lo))))))
def mvI (B c A j l : Nat) : Nat := A * (B * c) + j * B + l
theorem mvI_dm {B c A j l : Nat} (hB : 0 < B) (hc : 0 < c) (hj : j < c) (hl : l < B) : mvI B c A j l / B % c = j ∧ mvI B c A j l % B = l ∧ mvI B c A j l / B / c = A := by
  have e : mvI B c A j l = B * (A * c + j) + l := by unfold mvI; rw [Nat.mul_add, Nat.mul_comm j, ← Nat.mul_assoc, Nat.mul_comm A, Nat.mul_assoc, Nat.mul_comm A c]
  have d : mvI B c A j l / B = A * c + j := by rw [e, Nat.mul_add_div hB, Nat.div_eq_of_lt hl, Nat.add_zero]
  refine ⟨?_, ?_, ?_⟩
  · rw [d, Nat.mul_comm A, Nat.mul_add_mod, Nat.mod_eq_of_lt hj]
  · rw [e, Nat.mul_add_mod, Nat.mod_eq_of_lt hl]
  · rw [d, Nat.mul_comm A, Nat.mul_add_div hc, Nat.div_eq_of_lt hj, Nat.add_zero]
theorem mvI_inj {B c A j l A' j' l' : Nat} (hB : 0 < B) (hc : 0 < c) (hj : j < c) (hl : l < B) (hj' : j' < c) (hl' : l' < B) (h : mvI B c A j l = mvI B c A' j' l') : A = A' ∧ j = j' ∧ l = l' := by
  have d := mvI_dm (A := A) hB hc hj hl
  have d' := mvI_dm (A := A') hB hc hj' hl'
  rw [h] at d
  exact ⟨d.2.2.symm.trans d'.2.2, d.1.symm.trans d'.1, d.2.1.symm.trans d'.2.1⟩
theorem mvI_lt {B c X A j l : Nat} (hA : A < X) (hj : j < c) (hl : l < B) : mvI B c A j l < X * (B * c) := by
  have h1 : A * (B * c) + B * c ≤ X * (B * c) := by rw [← Nat.succ_mul]; exact Nat.mul_le_mul_right _ hA
  have h2 : j * B + B ≤ B * c := by rw [← Nat.succ_mul, Nat.mul_comm]; exact Nat.mul_le_mul_left _ hj
  unfold mvI
  omega
theorem s_moveLeft {c w x : Nat} (hc2 : c = 2 ∨ c = 3) (hw : w ≤ 5) (hx1 : 1 ≤ x) (hxw : x < w) {al : Nat → Bool} {R pw : Nat → Int32} (hr : RuleOk al R) (hp : ∀ i, i < 7 → pw i = nI (c ^ i)) {ft : Nat → Int64} {G : Nat → Nat} (hG : ∀ i, i < c ^ w * c → ft i = lN (G i)) (hlt : ∀ i, G i < 2 ^ 62) {post : (Nat → Int64) → Prop}
    (k : ∀ ft', (∀ i, i < c ^ w * c → ft' i = lN (mvG al c w x G i)) → post ft') : q_X0_moveLeft (nI c) (nI w) pw R ft (nI x) post := by
  have hc : c ≤ 3 := by omega
  have h1 : 1 ≤ c := by omega
  have h729 := pow_le729 hc hw
  have hBp : 0 < c ^ (w - x) := Nat.pow_pos h1
  have hrp : 0 < c ^ (w - x - 1) := Nat.pow_pos h1
  have hXp : 0 < c ^ (x - 1) := Nat.pow_pos h1
  have eB : c ^ (w - x) = c ^ (w - x - 1) * c := by rw [← Nat.pow_succ, show (w - x - 1).succ = w - x by omega]
  have eX : c ^ x = c ^ (x - 1) * c := by rw [← Nat.pow_succ, show (x - 1).succ = x by omega]
  have eT : c ^ x * (c ^ (w - x) * c) = c ^ w * c := by rw [← Nat.mul_assoc, ← Nat.pow_add, show x + (w - x) = w by omega]
  have hB729 : c ^ (w - x) ≤ 729 := Nat.le_trans (Nat.le_trans (Nat.pow_le_pow_left hc _) (Nat.pow_le_pow_right (by decide) (show w - x ≤ 6 by omega))) (by decide)
  have hr729 : c ^ (w - x - 1) ≤ 729 := Nat.le_trans (Nat.le_trans (Nat.pow_le_pow_left hc _) (Nat.pow_le_pow_right (by decide) (show w - x - 1 ≤ 6 by omega))) (by decide)
  have hX729 : c ^ (x - 1) ≤ 729 := Nat.le_trans (Nat.le_trans (Nat.pow_le_pow_left hc _) (Nat.pow_le_pow_right (by decide) (show x - 1 ≤ 6 by omega))) (by decide)
  let St : Nat → Nat → Nat → Nat → (Nat → Int64) → Prop := fun lf ab hi lo g => ∀ A l j, A < c ^ x → l < c ^ (w - x) → j < c → g (mvI (c ^ (w - x)) c A j l) = lN (if mvD c (c ^ (w - x - 1)) lf ab hi lo A l then mvG al c w x G (mvI (c ^ (w - x)) c A j l) else G (mvI (c ^ (w - x)) c A j l))
  have same : ∀ {lf ab hi lo lf' ab' hi' lo' : Nat} {g : Nat → Int64}, (∀ A l, A < c ^ x → l < c ^ (w - x) → mvD c (c ^ (w - x - 1)) lf ab hi lo A l = mvD c (c ^ (w - x - 1)) lf' ab' hi' lo' A l) → St lf ab hi lo g → St lf' ab' hi' lo' g := by
    intro lf ab hi lo lf' ab' hi' lo' g he hs A l j hA hl hj
    rw [hs A l j hA hl hj, he A l hA hl]
  unfold q_X0_moveLeft
  have ew1 : nI w - nI x = nI (w - x) := pk_sub (by omega)
  have ew2 : nI (w - x) - (1 : Int32) = nI (w - x - 1) := by rw [show (1 : Int32) = nI 1 from rfl, pk_sub (by omega)]
  have ex1 : nI x - (1 : Int32) = nI (x - 1) := by rw [show (1 : Int32) = nI 1 from rfl, pk_sub hx1]
  rw [ew1, ew2]
  refine ⟨vp_in_nI (by omega) (by decide), vp_in_nI (by omega) (by decide), fun v3 e3 => ?_⟩
  rw [nI_clamp (by omega), nI_clamp (by omega), hp _ (by omega), hp _ (by omega)]
  rw [nI_clamp (by omega), hp _ (by omega), pk_mul, pk_mul] at e3
  rw [e3]
  -- one place
  have place : ∀ {lf ab hi lo : Nat} {g : Nat → Int64} {m0 m1 m2 : Nat} {P : (Nat → Int64) → Prop}, lf < c → ab < c → hi < c ^ (x - 1) → lo < c ^ (w - x - 1) → St lf ab hi lo g → m0 < 16 → m1 < 16 → m2 < 16 → (∀ j, j < 4 → m0.testBit j = al (64 * 0 + 16 * ab + 4 * lf + j)) → (∀ j, j < 4 → m1.testBit j = al (64 * 1 + 16 * ab + 4 * lf + j)) → (∀ j, j < 4 → m2.testBit j = al (64 * 2 + 16 * ab + 4 * lf + j)) → (∀ g', St lf ab hi (lo + 1) g' → P g') →
      q_X0_mix (nI c) g (nI (hi * (c ^ (w - x) * c * c) + (lf * c ^ (w - x) * c + ab * c ^ (w - x - 1)) + lo)) (nI (c ^ (w - x))) (nI m0) (nI m1) (nI m2) P := by
    intro lf ab hi lo g m0 m1 m2 P hlf hab hhi hlo hs q0 q1 q2 t0 t1 t2 kP
    have hl : ab * c ^ (w - x - 1) + lo < c ^ (w - x) := by
      have : ab * c ^ (w - x - 1) + c ^ (w - x - 1) ≤ c * c ^ (w - x - 1) := by rw [← Nat.succ_mul]; exact Nat.mul_le_mul_right _ hab
      rw [Nat.mul_comm c] at this
      rw [eB]; omega
    have hA : hi * c + lf < c ^ x := by
      have : hi * c + c ≤ c ^ (x - 1) * c := by rw [← Nat.succ_mul]; exact Nat.mul_le_mul_right _ hhi
      rw [eX]; omega
    have ep : ∀ j, hi * (c ^ (w - x) * c * c) + (lf * c ^ (w - x) * c + ab * c ^ (w - x - 1)) + lo + j * c ^ (w - x) = mvI (c ^ (w - x)) c (hi * c + lf) j (ab * c ^ (w - x - 1) + lo) := by
      intro j
      unfold mvI
      have a1 : (hi * c + lf) * (c ^ (w - x) * c) = hi * (c ^ (w - x) * c * c) + lf * c ^ (w - x) * c := by
        rw [Nat.add_mul, Nat.mul_assoc lf, Nat.mul_assoc hi, Nat.mul_comm c (c ^ (w - x) * c)]
      rw [a1]; omega
    have hbnd := mvI_lt (B := c ^ (w - x)) (c := c) (X := c ^ x) (j := c - 1) hA (by omega) hl
    rw [eT, ← ep (c - 1)] at hbnd
    have dA1 : (hi * c + lf) % c = lf := by rw [Nat.mul_comm, Nat.mul_add_mod, Nat.mod_eq_of_lt hlf]
    have dA2 : (hi * c + lf) / c = hi := by rw [Nat.mul_comm, Nat.mul_add_div h1, Nat.div_eq_of_lt hlf, Nat.add_zero]
    have dl1 : (ab * c ^ (w - x - 1) + lo) / c ^ (w - x - 1) = ab := by rw [Nat.mul_comm, Nat.mul_add_div hrp, Nat.div_eq_of_lt hlo, Nat.add_zero]
    have dl2 : (ab * c ^ (w - x - 1) + lo) % c ^ (w - x - 1) = lo := by rw [Nat.mul_comm, Nat.mul_add_mod, Nat.mod_eq_of_lt hlo]
    have nd : mvD c (c ^ (w - x - 1)) lf ab hi lo (hi * c + lf) (ab * c ^ (w - x - 1) + lo) = false := by
      unfold mvD; rw [dA1, dA2, dl1, dl2]; simp
    refine s_mix hc2 hBp (n := fun j => G (mvI (c ^ (w - x)) c (hi * c + lf) j (ab * c ^ (w - x - 1) + lo))) (m := fun j => if j = 0 then m0 else if j = 1 then m1 else m2) (by omega) (fun j hj => ?_) (fun j => hlt _) (fun j => ?_) (fun g' hsame hnew => kP g' (fun A l j hA' hl' hj => ?_))
    · rw [ep j, hs _ _ j hA hl hj, nd, if_neg (by decide)]
    · show (if j = 0 then m0 else if j = 1 then m1 else m2) < 16
      split
      · exact q0
      · split
        · exact q1
        · exact q2
    · by_cases e : A = hi * c + lf ∧ l = ab * c ^ (w - x - 1) + lo
      · obtain ⟨rfl, rfl⟩ := e
        have yd : mvD c (c ^ (w - x - 1)) lf ab hi (lo + 1) (hi * c + lf) (ab * c ^ (w - x - 1) + lo) = true := by
          unfold mvD; rw [dA1, dA2, dl1, dl2]; simp
        rw [← ep j, hnew j hj, yd, if_pos rfl, ep j]
        congr 1
        unfold mvG
        have dm := mvI_dm (A := hi * c + lf) hBp h1 hj hl
        rw [dm.1, dm.2.1, dm.2.2, dA1, dl1]
        refine fb_sm_cong (fun j' hj' => ?_)
        have hj3 : j < 3 := by omega
        have eb : (if j = 0 then m0 else if j = 1 then m1 else m2).testBit j' = al (64 * j + 16 * ab + 4 * lf + j') := by
          rcases (show j = 0 ∨ j = 1 ∨ j = 2 by omega) with rfl | rfl | rfl
          · exact t0 j' (by omega)
          · exact t1 j' (by omega)
          · exact t2 j' (by omega)
        rw [eb]
        rfl
      · have hne : ∀ j', j' < c → mvI (c ^ (w - x)) c A j l ≠ hi * (c ^ (w - x) * c * c) + (lf * c ^ (w - x) * c + ab * c ^ (w - x - 1)) + lo + j' * c ^ (w - x) := by
          intro j' hj' q
          rw [ep j'] at q
          have := mvI_inj hBp h1 hj hl' hj' hl q
          exact e ⟨this.1, this.2.2⟩
        have ed : mvD c (c ^ (w - x - 1)) lf ab hi (lo + 1) A l = mvD c (c ^ (w - x - 1)) lf ab hi lo A l := by
          unfold mvD
          apply decide_eq_decide.mpr
          have key : ¬ (A % c = lf ∧ A / c = hi ∧ l / c ^ (w - x - 1) = ab ∧ l % c ^ (w - x - 1) = lo) := by
            rintro ⟨z1, z2, z3, z4⟩
            refine e ⟨?_, ?_⟩
            · rw [← Nat.div_add_mod A c, z1, z2, Nat.mul_comm]
            · rw [← Nat.div_add_mod l (c ^ (w - x - 1)), z3, z4, Nat.mul_comm]
          generalize A % c = p at key ⊢
          generalize A / c = q at key ⊢
          generalize l / c ^ (w - x - 1) = u at key ⊢
          generalize l % c ^ (w - x - 1) = v at key ⊢
          omega
        rw [hsame _ hne, hs A l j hA' hl' hj, ed]
  -- the four loops
  have lowL : ∀ {lf ab hi : Nat} {m0 m1 m2 : Nat} {K : Int32 → (Nat → Int64) → Prop}, lf < c → ab < c → hi < c ^ (x - 1) → m0 < 16 → m1 < 16 → m2 < 16 → (∀ j, j < 4 → m0.testBit j = al (64 * 0 + 16 * ab + 4 * lf + j)) → (∀ j, j < 4 → m1.testBit j = al (64 * 1 + 16 * ab + 4 * lf + j)) → (∀ j, j < 4 → m2.testBit j = al (64 * 2 + 16 * ab + 4 * lf + j)) → (∀ g', St lf ab (hi + 1) 0 g' → K (nI hi) g') → ∀ (m i : Nat) (g : Nat → Int64), i + m = c ^ (w - x - 1) → St lf ab hi i g →
      r_X0_moveLeft_150 (nI c) (nI w) pw R (nI x) (nI c) (nI (c ^ (w - x))) (nI (c ^ (w - x - 1))) (nI (c ^ (w - x) * c * c)) (nI lf) (nI ab) (nI m0) (nI m1) (nI m2) (nI (lf * c ^ (w - x) * c + ab * c ^ (w - x - 1))) post K (nI hi) (m + 1) (nI i) g := by
    intro lf ab hi m0 m1 m2 K hlf hab hhi q0 q1 q2 t0 t1 t2 hK m
    induction m with
    | zero =>
      intro i g hi' hs
      unfold r_X0_moveLeft_150
      refine pk_le (c ^ (w - x - 1)) i (fun _ => hK g (same (fun A l hA hl => ?_) hs)) (fun q => absurd q (by omega)) rfl rfl (by omega) (by omega)
      unfold mvD
      apply decide_eq_decide.mpr
      have hm := Nat.mod_lt l hrp
      generalize A % c = p
      generalize A / c = q
      generalize l / c ^ (w - x - 1) = u
      generalize l % c ^ (w - x - 1) = v at hm ⊢
      omega
    | succ m ih =>
      intro i g hi' hs
      unfold r_X0_moveLeft_150
      refine pk_le (c ^ (w - x - 1)) i (fun q => absurd q (by omega)) (fun _ => ?_) rfl rfl (by omega) (by omega)
      rw [pk_mul, nI_add, nI_add, nI_1]
      exact place hlf hab hhi (by omega) hs q0 q1 q2 t0 t1 t2 (fun g' hs' => ih (i + 1) g' (by omega) hs')
  have highL : ∀ {lf ab : Nat} {m0 m1 m2 : Nat} {K : Int32 → (Nat → Int64) → Prop}, lf < c → ab < c → m0 < 16 → m1 < 16 → m2 < 16 → (∀ j, j < 4 → m0.testBit j = al (64 * 0 + 16 * ab + 4 * lf + j)) → (∀ j, j < 4 → m1.testBit j = al (64 * 1 + 16 * ab + 4 * lf + j)) → (∀ j, j < 4 → m2.testBit j = al (64 * 2 + 16 * ab + 4 * lf + j)) → (∀ g', St lf (ab + 1) 0 0 g' → K (nI ab) g') → ∀ (m i : Nat) (g : Nat → Int64), i + m = c ^ (x - 1) → St lf ab i 0 g →
      r_X0_moveLeft_131 (nI c) (nI w) pw R (nI x) (nI c) (nI (c ^ (w - x))) (nI (c ^ (w - x - 1))) (nI (c ^ (w - x) * c * c)) (nI lf) post K (nI ab) (nI m0) (nI m1) (nI m2) (nI (lf * c ^ (w - x) * c + ab * c ^ (w - x - 1))) (m + 1) (nI i) g := by
    intro lf ab m0 m1 m2 K hlf hab q0 q1 q2 t0 t1 t2 hK m
    induction m with
    | zero =>
      intro i g hi' hs
      unfold r_X0_moveLeft_131
      rw [ex1]
      refine ⟨vp_in_nI (by omega) (by decide), ?_⟩
      rw [nI_clamp (by omega), hp _ (by omega)]
      refine pk_le (c ^ (x - 1)) i (fun _ => hK g (same (fun A l hA hl => ?_) hs)) (fun q => absurd q (by omega)) rfl rfl (by omega) (by omega)
      unfold mvD
      apply decide_eq_decide.mpr
      have hm : A / c < c ^ (x - 1) := by rw [Nat.div_lt_iff_lt_mul h1, ← eX]; exact hA
      generalize A % c = p
      generalize A / c = q at hm ⊢
      generalize l / c ^ (w - x - 1) = u
      generalize l % c ^ (w - x - 1) = v
      omega
    | succ m ih =>
      intro i g hi' hs
      unfold r_X0_moveLeft_131
      rw [ex1]
      refine ⟨vp_in_nI (by omega) (by decide), ?_⟩
      rw [nI_clamp (by omega), hp _ (by omega)]
      refine pk_le (c ^ (x - 1)) i (fun q => absurd q (by omega)) (fun _ => ?_) rfl rfl (by omega) (by omega)
      refine ⟨c ^ (w - x - 1) + 1, lowL hlf hab (by omega) q0 q1 q2 t0 t1 t2 (fun g' hs' => ?_) (c ^ (w - x - 1)) 0 g (by omega) hs⟩
      unfold q_X0_moveLeft_185
      rw [nI_1]
      exact ih (i + 1) g' (by omega) hs'
  have aboveL : ∀ {lf : Nat} {K : Int32 → (Nat → Int64) → Prop}, lf < c → (∀ g', St (lf + 1) 0 0 0 g' → K (nI lf) g') → ∀ (m i : Nat) (g : Nat → Int64), i + m = c → St lf i 0 0 g →
      r_X0_moveLeft_66 (nI c) (nI w) pw R (nI x) (nI c) (nI (c ^ (w - x))) (nI (c ^ (w - x - 1))) (nI (c ^ (w - x) * c * c)) post K (nI lf) (m + 1) (nI i) g := by
    intro lf K hlf hK m
    induction m with
    | zero =>
      intro i g hi' hs
      unfold r_X0_moveLeft_66
      refine pk_le c i (fun _ => hK g (same (fun A l hA hl => ?_) hs)) (fun q => absurd q (by omega)) rfl rfl (by omega) (by omega)
      unfold mvD
      apply decide_eq_decide.mpr
      have hm : l / c ^ (w - x - 1) < c := by rw [Nat.div_lt_iff_lt_mul hrp, Nat.mul_comm, ← eB]; exact hl
      generalize A % c = p
      generalize A / c = q
      generalize l / c ^ (w - x - 1) = u at hm ⊢
      generalize l % c ^ (w - x - 1) = v
      omega
    | succ m ih =>
      intro i g hi' hs
      unfold r_X0_moveLeft_66
      refine pk_le c i (fun q => absurd q (by omega)) (fun _ => ?_) rfl rfl (by omega) (by omega)
      refine s_corners hr (a := 0) (by decide) (by omega) (by omega) (fun m0 q0 t0 => ?_)
      refine s_corners hr (a := 1) (by decide) (by omega) (by omega) (fun m1 q1 t1 => ?_)
      refine s_corners hr (a := 2) (by decide) (by omega) (by omega) (fun m2 q2 t2 => fun v9 e9 => ?_)
      rw [pk_mul, pk_mul, pk_mul, nI_add] at e9
      rw [e9]
      refine ⟨c ^ (x - 1) + 1, highL hlf (by omega) q0 q1 q2 t0 t1 t2 (fun g' hs' => ?_) (c ^ (x - 1)) 0 g (by omega) hs⟩
      unfold q_X0_moveLeft_191
      rw [nI_1]
      exact ih (i + 1) g' (by omega) hs'
  have leftL : ∀ (m i : Nat) (g : Nat → Int64), i + m = c → St i 0 0 0 g → r_X0_moveLeft_57 (nI c) (nI w) pw R post (nI x) (nI c) (nI (c ^ (w - x))) (nI (c ^ (w - x - 1))) (nI (c ^ (w - x) * c * c)) (m + 1) (nI i) g := by
    intro m
    induction m with
    | zero =>
      intro i g hi' hs
      unfold r_X0_moveLeft_57
      refine pk_le c i (fun _ => k g (fun n hn => ?_)) (fun q => absurd q (by omega)) rfl rfl (by omega) (by omega)
      have hl : n % c ^ (w - x) < c ^ (w - x) := Nat.mod_lt _ hBp
      have hj : n / c ^ (w - x) % c < c := Nat.mod_lt _ h1
      have hA : n / c ^ (w - x) / c < c ^ x := by
        rw [Nat.div_div_eq_div_mul, Nat.div_lt_iff_lt_mul (Nat.mul_pos hBp h1), eT]; exact hn
      have en : mvI (c ^ (w - x)) c (n / c ^ (w - x) / c) (n / c ^ (w - x) % c) (n % c ^ (w - x)) = n := by
        unfold mvI
        have z1 := Nat.div_add_mod n (c ^ (w - x))
        have z2 := Nat.div_add_mod (n / c ^ (w - x)) c
        have z3 : n / c ^ (w - x) / c * (c ^ (w - x) * c) + n / c ^ (w - x) % c * c ^ (w - x) = c ^ (w - x) * (n / c ^ (w - x)) := by
          conv => rhs; rw [← z2]
          rw [Nat.mul_add, Nat.mul_comm (n / c ^ (w - x) % c), ← Nat.mul_assoc, ← Nat.mul_assoc, Nat.mul_comm (n / c ^ (w - x) / c) (c ^ (w - x)), Nat.mul_assoc, Nat.mul_assoc, Nat.mul_comm c]
        rw [z3]; exact z1
      have h := hs _ _ _ hA hl hj
      have yd : mvD c (c ^ (w - x - 1)) i 0 0 0 (n / c ^ (w - x) / c) (n % c ^ (w - x)) = true := by
        unfold mvD
        have := Nat.mod_lt (n / c ^ (w - x) / c) (show c > 0 by omega)
        exact decide_eq_true (Or.inl (by omega))
      rw [yd, if_pos rfl, en] at h
      exact h
    | succ m ih =>
      intro i g hi' hs
      unfold r_X0_moveLeft_57
      refine pk_le c i (fun q => absurd q (by omega)) (fun _ => ?_) rfl rfl (by omega) (by omega)
      refine ⟨c + 1, aboveL (by omega) (fun g' hs' => ?_) c 0 g (by omega) hs⟩
      unfold q_X0_moveLeft_197
      rw [nI_1]
      exact ih (i + 1) g' (by omega) hs'
  refine ⟨c + 1, leftL c 0 ft (by omega) (fun A l j hA hl hj => ?_)⟩
  have nd : mvD c (c ^ (w - x - 1)) 0 0 0 0 A l = false := by
    unfold mvD
    apply decide_eq_false
    generalize A % c = p
    generalize A / c = q
    generalize l / c ^ (w - x - 1) = u
    generalize l % c ^ (w - x - 1) = v
    omega
  rw [nd, if_neg (by decide)]
  exact hG _ (by rw [← eT]; exact mvI_lt hA hj hl)
