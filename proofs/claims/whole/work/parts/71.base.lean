/-! small facts -/
theorem b0 {A B : Prop} (a : A) : ((0 : Int32) = 0 → A) ∧ (¬ (0 : Int32) = 0 → B) := ⟨fun _ => a, fun h => absurd rfl h⟩
theorem b1 {A B : Prop} (b : B) : ((1 : Int32) = 0 → A) ∧ (¬ (1 : Int32) = 0 → B) := ⟨fun h => absurd h (by decide), fun _ => b⟩
theorem c0 {A B : Prop} (b : B) : (¬ (0 : Int32) = 0 → A) ∧ ((0 : Int32) = 0 → B) := ⟨fun h => absurd rfl h, fun _ => b⟩
theorem c1 {A B : Prop} (a : A) : (¬ (1 : Int32) = 0 → A) ∧ ((1 : Int32) = 0 → B) := ⟨fun _ => a, fun h => absurd h (by decide)⟩
theorem br {c A B : Prop} (a : c → A) (b : ¬ c → B) : (c → A) ∧ (¬ c → B) := ⟨a, b⟩
theorem brn {c A B : Prop} (a : ¬ c → A) (b : c → B) : (¬ c → A) ∧ (c → B) := ⟨a, b⟩
theorem nI_of_toInt {a : Int32} (h : 0 ≤ a.toInt) : a = nI a.toInt.toNat := by
  have hr := fb_rng a
  have e : (nI a.toInt.toNat).toInt = a.toInt := by rw [nI_toInt (by omega)]; omega
  exact ((fa_eq _ _).mpr e).symm
theorem nI_inj {a b : Nat} (ha : a < 2 ^ 31) (hb : b < 2 ^ 31) (h : nI a = nI b) : a = b := (nI_eq ha hb).mp h
theorem upd_s (f : Nat → Int32) (k : Nat) (x : Int32) : upd f k x k = x := pk_us
theorem upd_n {f : Nat → Int32} {k j : Nat} (x : Int32) (h : j ≠ k) : upd f k x j = f j := pk_un h
theorem updL_s (f : Nat → Int64) (k : Nat) (x : Int64) : vp_updL f k x k = x := pk_uLs
theorem updL_n {f : Nat → Int64} {k j : Nat} (x : Int64) (h : j ≠ k) : vp_updL f k x j = f j := pk_uLn h
/-- an index that isn't below 0 nor beyond -/
theorem in_of {x : Int32} {n : Nat} (h0 : 0 ≤ x.toInt) (h : x.toInt < n) : vp_in x n := vp_in_iff.mpr ⟨h0, h⟩
theorem in_nI {k n : Nat} (h : k < n) (hn : n < 2 ^ 31) : vp_in (nI k) n := vp_in_nI h hn
/-! Arrays.fill -/
theorem l_fill {n : Nat} (hn : n < 2 ^ 31) {v : Int32} {post : (Nat → Int32) → Prop} (k : ∀ f', (∀ i, i < n → f' i = v) → post f') : ∀ (m i : Nat) (f : Nat → Int32), i + m = n → (∀ j, j < i → f j = v) → r_J7_fill_53178_5 n post v (Int32.ofNat n) (m + 1) (nI i) f := by
  intro m
  induction m with
  | zero =>
    intro i f hi hf
    unfold r_J7_fill_53178_5
    exact pk_le n i (fun _ => k f (fun j hj => hf j (by omega))) (fun h => absurd h (by omega)) rfl rfl (by omega) (by omega)
  | succ m ih =>
    intro i f hi hf
    unfold r_J7_fill_53178_5
    refine pk_le n i (fun h => absurd h (by omega)) (fun h => ⟨vp_in_nI (by omega) hn, ?_⟩) rfl rfl (by omega) (by omega)
    rw [nI_1, nI_clamp (by omega)]
    refine ih (i + 1) _ (by omega) (fun j hj => ?_)
    by_cases e : j = i
    · subst e; exact pk_us
    · rw [pk_un e]; exact hf j (by omega)
theorem s_fill {n : Nat} (hn : n < 2 ^ 31) {f : Nat → Int32} {v : Int32} {post : (Nat → Int32) → Prop} (k : ∀ f', (∀ i, i < n → f' i = v) → post f') : q_J7_fill_53178 n f v post :=
  ⟨n + 1, l_fill hn k n 0 f (by omega) (fun j hj => absurd hj (by omega))⟩
/-! questions on arguments -/
theorem s_isSizeX {a b : Int32} {post : Int32 → Prop} (h1 : 1 ≤ a.toInt ∧ a.toInt ≤ 5 ∧ 1 ≤ b.toInt ∧ b.toInt ≤ 5 → post 1) (h0 : ¬ (1 ≤ a.toInt ∧ a.toInt ≤ 5 ∧ 1 ≤ b.toInt ∧ b.toInt ≤ 5) → post 0) : q_X8_isSize a b post := by
  have e1 : (1 : Int32).toInt = 1 := rfl
  have e5 : (5 : Int32).toInt = 5 := rfl
  unfold q_X8_isSize
  simp only [fa_lt]
  exact ⟨fun h => h0 (by omega), fun h => ⟨fun h' => h0 (by omega), fun h' => ⟨fun h2 => h0 (by omega), fun h2 => ⟨fun h3 => h0 (by omega), fun h3 => h1 (by omega)⟩⟩⟩⟩
theorem s_in {x : Int32} {lo hi : Int64} {post : Int32 → Prop} (h1 : lo.toInt ≤ x.toInt ∧ x.toInt ≤ hi.toInt → post 1) (h0 : ¬ (lo.toInt ≤ x.toInt ∧ x.toInt ≤ hi.toInt) → post 0) : q_X9_in (x.toInt64) lo hi post := by
  unfold q_X9_in
  simp only [fa_lt64, Int32.toInt_toInt64]
  exact ⟨fun h => h0 (by omega), fun h => ⟨fun h' => h0 (by omega), fun h' => h1 (by omega)⟩⟩
theorem s_isSizeM {a b : Int32} {post : Int32 → Prop} (h1 : 1 ≤ a.toInt ∧ a.toInt ≤ 5 ∧ 1 ≤ b.toInt ∧ b.toInt ≤ 5 → post 1) (h0 : ¬ (1 ≤ a.toInt ∧ a.toInt ≤ 5 ∧ 1 ≤ b.toInt ∧ b.toInt ≤ 5) → post 0) : q_X9_isSize a b post := by
  have e1 : (1 : Int64).toInt = 1 := rfl
  have e5 : (5 : Int64).toInt = 5 := rfl
  unfold q_X9_isSize
  refine s_in (fun h => b1 (s_in (fun h' => b1 (h1 (by omega))) (fun h' => b0 (h0 (by omega))))) (fun h => b0 (h0 (by omega)))
/-- how a small number stands as an int -/
theorem small {a : Int32} {lo hi : Nat} (h : (lo : Int) ≤ a.toInt ∧ a.toInt ≤ hi) : ∃ k : Nat, lo ≤ k ∧ k ≤ hi ∧ a = nI k := ⟨a.toInt.toNat, by omega, by omega, nI_of_toInt (by omega)⟩
/-! the desk: gaps, size -/
def gapsN (dk : Nat → Int32) (n : Nat) : Nat := fb_ct (fun i => decide (dk i = -1)) n
theorem gapsN_le (dk : Nat → Int32) (n : Nat) : gapsN dk n ≤ n := fb_ct_le _ n
theorem l_gapsX {H W : Int32} {f dk : Nat → Int32} {N : Nat} (hN : N ≤ 25) (hd : ∀ i, i < 25 → f i = dk i) {post : Int32 → Prop} (k : post (nI (gapsN dk N))) : ∀ (m i : Nat), i + m = N → r_X4_gaps_9 H W f post (nI N) (m + 1) (nI (gapsN dk i)) (nI i) := by
  intro m
  induction m with
  | zero =>
    intro i hi
    unfold r_X4_gaps_9
    obtain rfl : i = N := by omega
    exact pk_le i i (fun _ => k) (fun h => absurd h (by omega)) rfl rfl (by omega) (by omega)
  | succ m ih =>
    intro i hi
    unfold r_X4_gaps_9
    refine pk_le N i (fun h => absurd h (by omega)) (fun h => ⟨vp_in_nI (by omega) (by decide), ?_⟩) rfl rfl (by omega) (by omega)
    rw [nI_clamp (by omega), hd i (by omega), nI_1, nI_1]
    have hI := ih (i + 1) (by omega)
    unfold gapsN at hI ⊢
    rw [fb_ct_succ] at hI
    refine brn (fun h => ?_) (fun h => ?_)
    · rw [if_neg (by simpa using h)] at hI; exact hI
    · rw [if_pos (by simpa using h)] at hI; exact hI
theorem s_gapsX {h w : Nat} (hh : h ≤ 5) (hw : w ≤ 5) {f dk : Nat → Int32} (hd : ∀ i, i < 25 → f i = dk i) {post : Int32 → Prop} (k : post (nI (gapsN dk (h * w)))) : q_X4_gaps (nI h) (nI w) f post := by
  have hN : h * w ≤ 25 := Nat.le_trans (Nat.mul_le_mul hh hw) (by decide)
  unfold q_X4_gaps q_X4_size
  rw [pk_mul]
  exact ⟨h * w + 1, l_gapsX hN hd k (h * w) 0 (by omega)⟩
theorem l_gapsM {h w : Nat} {f dk : Nat → Int32} (hN : h * w ≤ 25) (hd : ∀ i, i < 25 → f i = dk i) {post : Int32 → Prop} (k : post (nI (gapsN dk (h * w)))) : ∀ (m i : Nat), i + m = h * w → r_X9_gaps_4 (nI h) (nI w) f post (m + 1) (nI (gapsN dk i)) (nI i) := by
  intro m
  induction m with
  | zero =>
    intro i hi
    unfold r_X9_gaps_4
    rw [pk_mul]
    have e : i = h * w := by omega
    exact pk_le (h * w) i (fun _ => by rw [e]; exact k) (fun h => absurd h (by omega)) rfl rfl (by omega) (by omega)
  | succ m ih =>
    intro i hi
    unfold r_X9_gaps_4
    rw [pk_mul]
    refine pk_le (h * w) i (fun h => absurd h (by omega)) (fun h => ⟨vp_in_nI (by omega) (by decide), ?_⟩) rfl rfl (by omega) (by omega)
    rw [nI_clamp (by omega), hd i (by omega), nI_1, nI_1]
    have hI := ih (i + 1) (by omega)
    have e0 : nI (gapsN dk i) + (0 : Int32) = nI (gapsN dk i) := nI_add _ 0
    rw [e0]
    unfold gapsN at hI ⊢
    rw [fb_ct_succ] at hI
    refine brn (fun h => ?_) (fun h => ?_)
    · rw [if_neg (by simpa using h)] at hI; exact hI
    · rw [if_pos (by simpa using h)] at hI; exact hI
theorem s_gapsM {h w : Nat} (hh : h ≤ 5) (hw : w ≤ 5) {f dk : Nat → Int32} (hd : ∀ i, i < 25 → f i = dk i) {post : Int32 → Prop} (k : post (nI (gapsN dk (h * w)))) : q_X9_gaps (nI h) (nI w) f post := by
  have hN : h * w ≤ 25 := Nat.le_trans (Nat.mul_le_mul hh hw) (by decide)
  unfold q_X9_gaps
  exact ⟨h * w + 1, l_gapsM hN hd k (h * w) 0 (by omega)⟩
