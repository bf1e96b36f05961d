/-! tall: the class -/
def ChOk (R : Nat) (L : Nat → Bool) (n : Nat) (ch : Nat → Nat) : Prop := n ≤ R ∧ (∀ i, i < n → ch i < R ∧ L (ch i) = true) ∧ ∀ f, fb_sm (fun i => f (ch i)) n = sL L R f
def TbOk (L : Nat → Bool) (R : Nat) (F : Nat → Nat → Bool) (n : Nat) (ch : Nat → Nat) (q : Nat) (tb : Nat → Int64) : Prop := ∀ i j, i < n → j < n → tb (i * n + j) = lN (mpw L R F q (ch i) (ch j) % 1000000007)
def LnOk (L : Nat → Bool) (R : Nat) (F : Nat → Nat → Bool) (T : Nat → Bool) (n : Nat) (ch : Nat → Nat) (e : Nat) (ln : Nat → Int64) : Prop := ∀ i, i < n → ln i = lN (vpw L R F T e (ch i) % 1000000007)
theorem s_push {R n : Nat} (hR : R ≤ 27) {L : Nat → Bool} {F : Nat → Nat → Bool} {T : Nat → Bool} {ch : Nat → Nat} (hc : ChOk R L n ch) {e q : Nat} {tb ln pu : Nat → Int64} (ht : TbOk L R F n ch q tb) (hl : LnOk L R F T n ch e ln) {post : (Nat → Int64) → (Nat → Int64) → Prop} (k : ∀ ln' pu', LnOk L R F T n ch (e + q) ln' → post ln' pu') : q_X5_push tb ln pu (nI n) post := by
  have hn : n ≤ 27 := by have := hc.1; omega
  have h9 := nn27 hn
  unfold q_X5_push
  have inner : ∀ {K : Int32 → Int64 → (Nat → Int64) → Prop} {j : Nat} {pu : Nat → Int64}, j < n → K (nI j) (lN (vpw L R F T (e + q) (ch j) % 1000000007)) pu → ∀ (m i : Nat), i + m = n → r_X5_push_12 tb (nI n) ln post K (nI j) pu (m + 1) (lN (fb_sm (fun i => vpw L R F T e (ch i) * mpw L R F q (ch i) (ch j)) i % 1000000007)) (nI i) := by
    intro K j pu hj hK m
    induction m with
    | zero =>
      intro i hi
      unfold r_X5_push_12
      rw [show i = n by omega, hc.2.2 (fun r => vpw L R F T e r * mpw L R F q r (ch j)), ← vpw_add e q (hc.2.1 j hj).1 (hc.2.1 j hj).2]
      exact pk_le n n (fun _ => hK) (fun q => absurd q (by omega)) rfl rfl (by omega) (by omega)
    | succ m ih =>
      intro i hi
      unfold r_X5_push_12
      have hx := ix_lt (show i < n by omega) hj
      refine pk_le n i (fun q => absurd q (by omega)) (fun _ => ⟨vp_in_nI (by omega) (by decide), ?_⟩) rfl rfl (by omega) (by omega)
      rw [pk_mul, nI_add]
      refine ⟨vp_in_nI (by omega) (by decide), fun v ev => ?_⟩
      rw [nI_clamp (by omega), nI_clamp (by omega), hl i (by omega), ht i j (by omega) hj, remP] at ev
      rw [ev, nI_1]
      exact ih (i + 1) (by omega)
  have outer : ∀ (m j : Nat) (pu : Nat → Int64), j + m = n → (∀ j', j' < j → pu j' = lN (vpw L R F T (e + q) (ch j') % 1000000007)) → r_X5_push_2 tb post (q_X5_push_63 tb post) (nI n) ln (m + 1) (nI j) pu := by
    intro m
    induction m with
    | zero =>
      intro j pu hj hp
      unfold r_X5_push_2
      refine pk_le n j (fun _ => ?_) (fun q => absurd q (by omega)) rfl rfl (by omega) (by omega)
      unfold q_X5_push_63
      exact k pu ln (fun i hi => hp i (by omega))
    | succ m ih =>
      intro j pu hj hp
      unfold r_X5_push_2
      refine pk_le n j (fun q => absurd q (by omega)) (fun _ => ?_) rfl rfl (by omega) (by omega)
      refine ⟨n + 1, inner (show j < n by omega) ?_ n 0 (by omega)⟩
      unfold q_X5_push_50
      refine ⟨vp_in_nI (by omega) (by decide), ?_⟩
      rw [nI_clamp (by omega), nI_1]
      refine ih (j + 1) _ (by omega) (fun j' hj' => ?_)
      by_cases e : j' = j
      · rw [e, updL_s]
      · rw [updL_n _ e]; exact hp j' (by omega)
  exact ⟨n + 1, outer n 0 pu (by omega) (fun j' hj' => absurd hj' (by omega))⟩
theorem s_squareTable {R n : Nat} (hR : R ≤ 27) {L : Nat → Bool} {F : Nat → Nat → Bool} {ch : Nat → Nat} (hc : ChOk R L n ch) {q : Nat} {tb sq : Nat → Int64} (ht : TbOk L R F n ch q tb) {post : (Nat → Int64) → (Nat → Int64) → Prop} (k : ∀ tb' sq', TbOk L R F n ch (q + q) tb' → post tb' sq') : q_X5_squareTable tb sq (nI n) post := by
  have hn : n ≤ 27 := by have := hc.1; omega
  have h9 := nn27 hn
  unfold q_X5_squareTable
  let part : Nat → Nat → Nat → Nat := fun i j m => fb_sm (fun a => mpw L R F q (ch i) (ch a) * mpw L R F q (ch a) (ch j)) m
  have full : ∀ i j, j < n → part i j n = mpw L R F (q + q) (ch i) (ch j) := fun i j hj => by
    show fb_sm (fun a => mpw L R F q (ch i) (ch a) * mpw L R F q (ch a) (ch j)) n = _
    rw [hc.2.2 (fun r => mpw L R F q (ch i) r * mpw L R F q r (ch j)), mpw_add q (ch i) q (ch j) (hc.2.1 j hj).1 (hc.2.1 j hj).2]
  -- one row more
  have addRow : ∀ {K : (Nat → Int64) → Prop} {i a : Nat} (g0 : Nat → Int64), i < n → a < n → (∀ g, (∀ i' j, i' < n → j < n → i' ≠ i → g (i' * n + j) = g0 (i' * n + j)) → (∀ j, j < n → g (i * n + j) = lN (part i j (a + 1) % 1000000007)) → K g) → (∀ j, j < n → g0 (i * n + j) = lN (part i j a % 1000000007)) → q_X5_addRow tb g0 (nI (i * n)) (lN (mpw L R F q (ch i) (ch a) % 1000000007)) (nI (a * n)) (nI n) K := by
    intro K i a g0 hi ha hK h0
    unfold q_X5_addRow
    have loop : ∀ (m j : Nat) (g : Nat → Int64), j + m = n → (∀ i' j, i' < n → j < n → i' ≠ i → g (i' * n + j) = g0 (i' * n + j)) → (∀ j', j' < j → g (i * n + j') = lN (part i j' (a + 1) % 1000000007)) → (∀ j', j ≤ j' → j' < n → g (i * n + j') = lN (part i j' a % 1000000007)) → r_X5_addRow_3 tb K (nI (i * n)) (lN (mpw L R F q (ch i) (ch a) % 1000000007)) (nI (a * n)) (nI n) (m + 1) (nI j) g := by
      intro m
      induction m with
      | zero =>
        intro j g hj hs hlo hup
        unfold r_X5_addRow_3
        exact pk_le n j (fun _ => hK g hs (fun j' hj' => hlo j' (by omega))) (fun q => absurd q (by omega)) rfl rfl (by omega) (by omega)
      | succ m ih =>
        intro j g hj hs hlo hup
        unfold r_X5_addRow_3
        have hx := ix_lt hi (show j < n by omega)
        have hy := ix_lt ha (show j < n by omega)
        refine pk_le n j (fun q => absurd q (by omega)) (fun _ => ?_) rfl rfl (by omega) (by omega)
        rw [nI_add, nI_add]
        refine ⟨vp_in_nI (by omega) (by decide), vp_in_nI (by omega) (by decide), vp_in_nI (by omega) (by decide), ?_⟩
        rw [nI_clamp (show i * n + j < 2 ^ 31 by omega), nI_clamp (show a * n + j < 2 ^ 31 by omega), hup j (Nat.le_refl _) (by omega), ht a j ha (by omega), remP, nI_1]
        refine ih (j + 1) _ (by omega) (fun i' j2 hi' hj2 hne => ?_) (fun j' hj' => ?_) (fun j' h1 h2 => ?_)
        · rw [updL_n _ (fun z => hne (ix_inj hj2 (by omega) z).1)]; exact hs i' j2 hi' hj2 hne
        · by_cases e : j' = j
          · rw [e, updL_s]; rfl
          · rw [updL_n _ (by omega)]; exact hlo j' (by omega)
        · rw [updL_n _ (by omega)]; exact hup j' (by omega) h2
    exact ⟨n + 1, loop n 0 g0 (by omega) (fun _ _ _ _ _ => rfl) (fun j' hj' => absurd hj' (by omega)) (fun j' _ hj' => h0 j' hj')⟩
  have mid : ∀ {K : Int32 → (Nat → Int64) → Prop} {i : Nat} (g0 : Nat → Int64), i < n → (∀ g, (∀ i' j, i' < n → j < n → i' ≠ i → g (i' * n + j) = g0 (i' * n + j)) → (∀ j, j < n → g (i * n + j) = lN (part i j n % 1000000007)) → K (nI i) g) → ∀ (m a : Nat) (g : Nat → Int64), a + m = n → (∀ i' j, i' < n → j < n → i' ≠ i → g (i' * n + j) = g0 (i' * n + j)) → (∀ j, j < n → g (i * n + j) = lN (part i j a % 1000000007)) → r_X5_squareTable_31 (nI n) tb post K (nI i) (m + 1) (nI a) g := by
    intro K i g0 hi hK m
    induction m with
    | zero =>
      intro a g ha hs hg
      unfold r_X5_squareTable_31
      rw [show a = n by omega] at hg
      exact pk_le n a (fun _ => hK g hs hg) (fun q => absurd q (by omega)) rfl rfl (by omega) (by omega)
    | succ m ih =>
      intro a g ha hs hg
      unfold r_X5_squareTable_31
      have hx := ix_lt hi (show a < n by omega)
      refine pk_le n a (fun q => absurd q (by omega)) (fun _ => ?_) rfl rfl (by omega) (by omega)
      rw [pk_mul, nI_add, pk_mul]
      refine ⟨vp_in_nI (by omega) (by decide), ?_⟩
      rw [nI_clamp (by omega), ht i a hi (by omega), nI_1]
      have hlt : mpw L R F q (ch i) (ch a) % 1000000007 < 1000000007 := Nat.mod_lt _ (by decide)
      rw [show (0 : Int64) = lN 0 from rfl, pk_lEQ (by omega) (by decide)]
      refine br (fun z => ?_) (fun _ => ?_)
      · refine ih (a + 1) g (by omega) hs (fun j hj => ?_)
        rw [hg j hj]
        congr 1
        show fb_sm _ a % 1000000007 = fb_sm _ (a + 1) % 1000000007
        rw [fb_sm_succ, Nat.add_mod _ (mpw L R F q (ch i) (ch a) * mpw L R F q (ch a) (ch j)), Nat.mul_mod (mpw L R F q (ch i) (ch a)), z, Nat.zero_mul, Nat.zero_mod, Nat.add_zero, Nat.mod_mod]
      · refine addRow g hi (show a < n by omega) (fun g' hs' hg' => ?_) hg
        exact ih (a + 1) g' (by omega) (fun i' j hi' hj hne => by rw [hs' i' j hi' hj hne, hs i' j hi' hj hne]) hg'
  have outer : ∀ (m i : Nat) (g : Nat → Int64), i + m = n → (∀ i' j, i' < i → j < n → g (i' * n + j) = lN (part i' j n % 1000000007)) → (∀ i' j, i ≤ i' → i' < n → j < n → g (i' * n + j) = 0) → r_X5_squareTable_24 post (q_X5_squareTable_80 post) (nI n) tb (m + 1) (nI i) g := by
    intro m
    induction m with
    | zero =>
      intro i g hi hlo hup
      unfold r_X5_squareTable_24
      refine pk_le n i (fun _ => ?_) (fun q => absurd q (by omega)) rfl rfl (by omega) (by omega)
      unfold q_X5_squareTable_80
      exact k g tb (fun i' j hi' hj => by rw [hlo i' j (by omega) hj, full i' j hj])
    | succ m ih =>
      intro i g hi hlo hup
      unfold r_X5_squareTable_24
      refine pk_le n i (fun q => absurd q (by omega)) (fun _ => ?_) rfl rfl (by omega) (by omega)
      refine ⟨n + 1, mid g (show i < n by omega) (fun g' hs hg' => ?_) n 0 g (by omega) (fun _ _ _ _ _ => rfl) (fun j hj => by rw [hup i j (Nat.le_refl _) (by omega) hj]; rfl)⟩
      unfold q_X5_squareTable_74
      rw [nI_1]
      refine ih (i + 1) g' (by omega) (fun i' j hi' hj => ?_) (fun i' j h1 h2 hj => ?_)
      · by_cases e : i' = i
        · rw [e]; exact hg' j hj
        · rw [hs i' j (by omega) hj e]; exact hlo i' j (by omega) hj
      · rw [hs i' j h2 hj (by omega)]; exact hup i' j (by omega) h2 hj
  have clear : ∀ (m i : Nat) (g : Nat → Int64), i + m = n * n → (∀ j, j < i → g j = 0) → r_X5_squareTable_2 post (q_X5_squareTable_22 post) (nI n) tb (m + 1) (nI i) g := by
    intro m
    induction m with
    | zero =>
      intro i g hi hg
      unfold r_X5_squareTable_2
      rw [pk_mul]
      refine pk_le (n * n) i (fun _ => ?_) (fun q => absurd q (by omega)) rfl rfl (by omega) (by omega)
      unfold q_X5_squareTable_22
      exact ⟨n + 1, outer n 0 g (by omega) (fun i' j hi' => absurd hi' (by omega)) (fun i' j _ hi' hj => hg _ (by have := ix_lt hi' hj; omega))⟩
    | succ m ih =>
      intro i g hi hg
      unfold r_X5_squareTable_2
      rw [pk_mul]
      refine pk_le (n * n) i (fun q => absurd q (by omega)) (fun _ => ⟨vp_in_nI (by omega) (by decide), ?_⟩) rfl rfl (by omega) (by omega)
      rw [nI_clamp (by omega), nI_1]
      refine ih (i + 1) _ (by omega) (fun j hj => ?_)
      by_cases e : j = i
      · rw [e, updL_s]
      · rw [updL_n _ e]; exact hg j (by omega)
  exact ⟨n * n + 1, clear (n * n) 0 sq (by omega) (fun j hj => absurd hj (by omega))⟩
def chN (f : Nat → Int32) (i : Nat) : Nat := (f i).toNatClampNeg
theorem bI_l (b : Bool) : (bI b).toInt64 = lN (wt b) := by cases b <;> rfl
theorem wt_rem (b : Bool) : wt b % 1000000007 = wt b := by cases b <;> rfl
theorem s_choose {R : Nat} (hR : R ≤ 27) {F : Nat → Nat → Bool} {T B : Nat → Bool} {bl : Nat → Int32} {t b : Int32} (hb : ∀ r, r < R → BS R (bl r) (F r)) (ht : BS R t T) (hB : BS R b B) {chs : Nat → Int32} {tb ln : Nat → Int64} {post : Int32 → (Nat → Int32) → (Nat → Int64) → (Nat → Int64) → Prop}
    (k : ∀ n chs' tb' ln', ChOk R (lvS R F T B) n (chN chs') → (∀ i, i < n → chs' i = nI (chN chs' i)) → TbOk (lvS R F T B) R F n (chN chs') 1 tb' → LnOk (lvS R F T B) R F T n (chN chs') 0 ln' → post (nI n) chs' tb' ln') : q_X5_choose t b bl (nI R) chs tb ln post := by
  unfold q_X5_choose
  refine s_used hR hb ht hB (fun y hy => ?_)
  generalize eL : lvS R F T B = L at *
  -- the table
  have trow : ∀ {K : Int32 → (Nat → Int64) → (Nat → Int64) → Prop} {n i : Nat} {chs : Nat → Int32} {ln : Nat → Int64} (g0 : Nat → Int64), ChOk R L n (chN chs) → (∀ i, i < n → chs i = nI (chN chs i)) → i < n → (∀ g, (∀ i' j, i' < n → j < n → i' ≠ i → g (i' * n + j) = g0 (i' * n + j)) → (∀ j, j < n → g (i * n + j) = lN (mpw L R F 1 (chN chs i) (chN chs j) % 1000000007)) → K (nI i) g ln) → ∀ (m j : Nat) (g : Nat → Int64), j + m = n → (∀ i' j, i' < n → j < n → i' ≠ i → g (i' * n + j) = g0 (i' * n + j)) → (∀ j', j' < j → g (i * n + j') = lN (mpw L R F 1 (chN chs i) (chN chs j') % 1000000007)) → r_X5_choose_74 t b bl (nI R) (nI n) chs post K (nI i) ln (m + 1) (nI j) g := by
    intro K n i chs ln g0 hc hch hi hK m
    have hn : n ≤ 27 := by have := hc.1; omega
    have h9 := nn27 hn
    induction m with
    | zero =>
      intro j g hj hs hg
      unfold r_X5_choose_74
      exact pk_le n j (fun _ => hK g hs (fun j' hj' => hg j' (by omega))) (fun q => absurd q (by omega)) rfl rfl (by omega) (by omega)
    | succ m ih =>
      intro j g hj hs hg
      unfold r_X5_choose_74
      have hx := ix_lt hi (show j < n by omega)
      have hci := hc.2.1 i hi
      have hcj := hc.2.1 j (by omega)
      refine pk_le n j (fun q => absurd q (by omega)) (fun _ => ⟨vp_in_nI (by omega) (by decide), ?_⟩) rfl rfl (by omega) (by omega)
      rw [pk_mul, nI_add, nI_clamp (show i < 2 ^ 31 by omega), nI_clamp (show j < 2 ^ 31 by omega), hch i hi, hch j (by omega)]
      refine ⟨vp_in_nI (by omega) (by decide), vp_in_nI (by omega) (by decide), vp_in_nI (by omega) (by decide), ?_⟩
      rw [nI_clamp (show chN chs i < 2 ^ 31 by omega), nI_clamp (show i * n + j < 2 ^ 31 by omega), BS_bit hR (hb _ hci.1) hcj.1, bI_l, nI_1]
      refine ih (j + 1) _ (by omega) (fun i' j2 hi' hj2 hne => ?_) (fun j' hj' => ?_)
      · rw [updL_n _ (fun z => hne (ix_inj hj2 (by omega) z).1)]; exact hs i' j2 hi' hj2 hne
      · by_cases e : j' = j
        · rw [e, updL_s, mpw_1 hci.1 hci.2, wt_rem]
        · rw [updL_n _ (by omega)]; exact hg j' (by omega)
  have tall' : ∀ {n : Nat} {chs : Nat → Int32}, ChOk R L n (chN chs) → (∀ i, i < n → chs i = nI (chN chs i)) → ∀ (m i : Nat) (g ln : Nat → Int64), i + m = n → (∀ i' j, i' < i → j < n → g (i' * n + j) = lN (mpw L R F 1 (chN chs i') (chN chs j) % 1000000007)) → (∀ i', i' < i → ln i' = lN (vpw L R F T 0 (chN chs i') % 1000000007)) → r_X5_choose_46 t b bl (nI R) post (nI n) chs (m + 1) (nI i) g ln := by
    intro n chs hc hch m
    have hn : n ≤ 27 := by have := hc.1; omega
    induction m with
    | zero =>
      intro i g ln hi hg hl
      unfold r_X5_choose_46
      exact pk_le n i (fun _ => k n chs g ln hc hch (fun i' j hi' hj => hg i' j (by omega) hj) (fun i' hi' => hl i' (by omega))) (fun q => absurd q (by omega)) rfl rfl (by omega) (by omega)
    | succ m ih =>
      intro i g ln hi hg hl
      unfold r_X5_choose_46
      have hci := hc.2.1 i (by omega)
      have hin : vp_in (nI i) 27 := vp_in_nI (by omega) (by decide)
      refine pk_le n i (fun q => absurd q (by omega)) (fun _ => ⟨hin, hin, ?_⟩) rfl rfl (by omega) (by omega)
      rw [nI_clamp (by omega), hch i (by omega), BS_bit hR ht hci.1, bI_l]
      refine ⟨n + 1, trow g hc hch (show i < n by omega) (fun g' hs hg' => ?_) n 0 g (by omega) (fun _ _ _ _ _ => rfl) (fun j' hj' => absurd hj' (by omega))⟩
      unfold q_X5_choose_119
      rw [nI_1]
      refine ih (i + 1) g' _ (by omega) (fun i' j hi' hj => ?_) (fun i' hi' => ?_)
      · by_cases e : i' = i
        · rw [e]; exact hg' j hj
        · rw [hs i' j (by omega) hj e]; exact hg i' j (by omega) hj
      · by_cases e : i' = i
        · rw [e, updL_s, vpw_0 hci.1 hci.2, wt_rem]
        · rw [updL_n _ e]; exact hl i' (by omega)
  -- the rows that are live
  have pick : ∀ (m r n : Nat) (g : Nat → Int32), r + m = R → n ≤ r → (∀ i, i < n → g i = nI (chN g i) ∧ chN g i < r ∧ L (chN g i) = true) → (∀ f : Nat → Nat, fb_sm (fun i => f (chN g i)) n = sL L r f) → r_X5_choose_9 t b bl (nI R) post (q_X5_choose_44 t b bl (nI R) post) y tb ln (m + 1) (nI n) (nI r) g := by
    intro m
    induction m with
    | zero =>
      intro r n g hr hn hg hf
      unfold r_X5_choose_9
      refine pk_le R r (fun _ => ?_) (fun q => absurd q (by omega)) rfl rfl (by omega) (by omega)
      unfold q_X5_choose_44
      have er : r = R := by omega
      subst er
      exact ⟨n + 1, tall' ⟨hn, fun i hi => (hg i hi).2, hf⟩ (fun i hi => (hg i hi).1) n 0 tb ln (by omega) (fun i' j hi' => absurd hi' (by omega)) (fun i' hi' => absurd hi' (by omega))⟩
    | succ m ih =>
      intro r n g hr hn hg hf
      unfold r_X5_choose_9
      refine pk_le R r (fun q => absurd q (by omega)) (fun _ => ?_) rfl rfl (by omega) (by omega)
      rw [BS_bit hR hy (show r < R by omega), nI_1, nI_1]
      cases hl : L r with
      | false =>
        refine b0 (ih (r + 1) n g (by omega) (by omega) (fun i hi => ⟨(hg i hi).1, by have := (hg i hi).2.1; omega, (hg i hi).2.2⟩) (fun f => ?_))
        rw [hf f]
        unfold sL
        rw [fb_sm_succ, hl]
        rfl
      | true =>
        refine b1 ⟨vp_in_nI (by omega) (by decide), ?_⟩
        rw [nI_clamp (by omega)]
        have lo : ∀ i, i < n → chN (upd g n (nI r)) i = chN g i := fun i hi => by unfold chN; rw [upd_n _ (by omega)]
        have at' : chN (upd g n (nI r)) n = r := by unfold chN; rw [upd_s, nI_clamp (by omega)]
        refine ih (r + 1) (n + 1) _ (by omega) (by omega) (fun i hi => ?_) (fun f => ?_)
        · by_cases e : i = n
          · rw [e, at', upd_s]; exact ⟨rfl, by omega, hl⟩
          · rw [lo i (by omega), upd_n _ e]
            exact ⟨(hg i (by omega)).1, by have := (hg i (by omega)).2.1; omega, (hg i (by omega)).2.2⟩
        · rw [fb_sm_succ, at', fb_sm_cong (g := fun i => f (chN g i)) (fun i hi => by rw [lo i hi]), hf f]
          unfold sL
          rw [fb_sm_succ, hl]
          rfl
  exact ⟨R + 1, pick R 0 0 chs (by omega) (by omega) (fun i hi => absurd hi (by omega)) (fun f => rfl)⟩
theorem s_ofHeight {R h : Nat} (hR : R ≤ 27) (hh1 : 1 ≤ h) (hh : h ≤ 1000000000) {F : Nat → Nat → Bool} {T B : Nat → Bool} {bl : Nat → Int32} {t b : Int32} (hb : ∀ r, r < R → BS R (bl r) (F r)) (ht : BS R t T) (hB : BS R b B) {chs : Nat → Int32} {tb sq ln pu : Nat → Int64} {post : Int32 → (Nat → Int32) → (Nat → Int64) → (Nat → Int64) → (Nat → Int64) → (Nat → Int64) → Prop}
    (k : ∀ chs' tb' sq' ln' pu', post (nI (totV allB R F T B (h - 1) % 1000000007)) chs' tb' sq' ln' pu') : q_X5_ofHeight t b bl (nI R) chs tb sq ln pu (nI h) post := by
  unfold q_X5_ofHeight
  refine s_choose hR hb ht hB (fun n chs' tb' ln' hc hch hT hL => ?_)
  have hn : n ≤ 27 := by have := hc.1; omega
  rw [← tot_live] at k
  generalize eL : lvS R F T B = L at *
  have fin : ∀ {tb sq ln pu : Nat → Int64}, LnOk L R F T n (chN chs') (h - 1) ln → ∀ (m i : Nat), i + m = n → r_X5_ofHeight_46 t b bl (nI R) post (nI n) chs' tb sq ln pu (m + 1) (lN (fb_sm (fun i => (vpw L R F T (h - 1) (chN chs' i) * wt (B (chN chs' i))) % 1000000007) i)) (nI i) := by
    intro tb sq ln pu hl m
    induction m with
    | zero =>
      intro i hi
      unfold r_X5_ofHeight_46
      have hle : fb_sm (fun i => (vpw L R F T (h - 1) (chN chs' i) * wt (B (chN chs' i))) % 1000000007) n ≤ n * 1000000007 := fb_sm_bound (fun k _ => Nat.le_of_lt (Nat.mod_lt _ (by decide)))
      have h27 : n * 1000000007 ≤ 27 * 1000000007 := Nat.mul_le_mul_right _ hn
      rw [show i = n by omega, show (1000000007 : Int64) = lN 1000000007 from rfl, pk_lRem (by omega) (by decide) (by decide), sm_rem, hc.2.2 (fun r => vpw L R F T (h - 1) r * wt (B r)), lN_i]
      exact pk_le n n (fun _ => k _ _ _ _ _) (fun q => absurd q (by omega)) rfl rfl (by omega) (by omega)
    | succ m ih =>
      intro i hi
      unfold r_X5_ofHeight_46
      have hci := hc.2.1 i (by omega)
      have hI := ih (i + 1) (by omega)
      rw [fb_sm_succ] at hI
      refine pk_le n i (fun q => absurd q (by omega)) (fun _ => ⟨vp_in_nI (by omega) (by decide), ?_⟩) rfl rfl (by omega) (by omega)
      rw [nI_clamp (by omega), hch i (by omega), BS_bit hR hB hci.1, nI_1]
      cases hbb : B (chN chs' i) with
      | false =>
        rw [hbb, wt_f, Nat.mul_zero, Nat.zero_mod, Nat.add_zero] at hI
        exact b0 hI
      | true =>
        rw [hbb, wt_t, Nat.mul_one, ← lN_add'] at hI
        refine b1 ⟨vp_in_nI (by omega) (by decide), ?_⟩
        rw [hl i (by omega)]
        exact hI
  have loop : ∀ (f left : Nat), left < 2 ^ f → left < 2 ^ 30 → ∀ (e q : Nat) (tb sq ln pu : Nat → Int64), e + q * left = h - 1 → LnOk L R F T n (chN chs') e ln → (0 < left → TbOk L R F n (chN chs') q tb) → r_X5_ofHeight_9 t b bl (nI R) post (q_X5_ofHeight_41 t b bl (nI R) post) (nI n) chs' (f + 1) (nI left) tb sq ln pu := by
    have stop : ∀ (f left : Nat), left = 0 → ∀ (e q : Nat) (tb sq ln pu : Nat → Int64), e + q * left = h - 1 → LnOk L R F T n (chN chs') e ln → r_X5_ofHeight_9 t b bl (nI R) post (q_X5_ofHeight_41 t b bl (nI R) post) (nI n) chs' (f + 1) (nI left) tb sq ln pu := by
      intro f left h0 e q tb sq ln pu he hl
      unfold r_X5_ofHeight_9
      rw [h0, Nat.mul_zero, Nat.add_zero] at he
      rw [he] at hl
      refine pk_le left 0 (fun _ => ?_) (fun z => absurd z (by omega)) rfl rfl (by omega) (by omega)
      unfold q_X5_ofHeight_41
      exact ⟨n + 1, fin hl n 0 (by omega)⟩
    intro f
    induction f with
    | zero =>
      intro left hlt hl30 e q tb sq ln pu he hl htb
      exact stop 0 left (by simp at hlt; exact hlt) e q tb sq ln pu he hl
    | succ f ih =>
      intro left hlt hl30 e q tb sq ln pu he hl htb
      by_cases h0 : left = 0
      · exact stop (f + 1) left h0 e q tb sq ln pu he hl
      · have htb' := htb (by omega)
        rw [Nat.pow_succ] at hlt
        have esh : nI left >>> ((1 : Int32) &&& 31) = nI (left / 2) := by
          rw [show (1 : Int32) = nI 1 from rfl, shrN (by omega) (by decide)]
        have go : ∀ (e' : Nat) (ln' pu' : Nat → Int64), e' + (q + q) * (left / 2) = h - 1 → LnOk L R F T n (chN chs') e' ln' → q_X5_ofHeight_24 t b bl (nI R) (nI n) chs' post (q_X5_ofHeight_41 t b bl (nI R) post) (r_X5_ofHeight_9 t b bl (nI R) post (q_X5_ofHeight_41 t b bl (nI R) post) (nI n) chs' (f + 1)) (nI left) tb sq ln' pu' := by
          intro e' ln' pu' he' hl'
          unfold q_X5_ofHeight_24
          rw [esh]
          refine pk_le left 1 (fun z => ?_) (fun z => ?_) rfl rfl (by omega) (by omega)
          · exact ih (left / 2) (by omega) (by omega) e' (q + q) tb sq ln' pu' he' hl' (fun y => absurd y (by omega))
          · refine s_squareTable hR hc htb' (fun tb2 sq2 hT2 => ?_)
            exact ih (left / 2) (by omega) (by omega) e' (q + q) tb2 sq2 ln' pu' he' hl' (fun _ => hT2)
        have eq2 : q * left = (q + q) * (left / 2) + q * (left % 2) := by
          have : left = 2 * (left / 2) + left % 2 := by omega
          rw [← Nat.mul_two, Nat.mul_assoc, ← Nat.mul_add, ← this]
        unfold r_X5_ofHeight_9
        refine pk_le left 0 (fun z => absurd z (by omega)) (fun _ => ?_) rfl rfl (by omega) (by omega)
        rw [and1N (by omega), nI_zero (by omega)]
        refine br (fun z => ?_) (fun z => ?_)
        · rw [eq2, z, Nat.mul_zero, Nat.add_zero] at he
          exact go e ln pu he hl
        · rw [eq2, show left % 2 = 1 by omega, Nat.mul_one] at he
          exact s_push hR hc htb' hl (fun ln2 pu2 hL2 => go (e + q) ln2 pu2 (by omega) hL2)
  have eh : nI h - (1 : Int32) = nI (h - 1) := by rw [show (1 : Int32) = nI 1 from rfl, pk_sub hh1]
  rw [eh]
  exact ⟨31, loop 30 (h - 1) (by omega) (by omega) 0 1 tb' sq ln' pu (by omega) hL (fun _ => hT)⟩
def talBad (l2 : Int32) : Prop := ¬ (1 ≤ l2.toInt ∧ l2.toInt ≤ 1000000000)
theorem s_tallX {c : Nat} (h1 : 1 ≤ c) (hc : c ≤ 3) {al : Nat → Bool} {R : Nat → Int32} (hr : RuleOk al R) {t b a1 a2 a3 a4 l1 l2 : Int32} {bl fr pw chs : Nat → Int32} {tb sq ln pu : Nat → Int64} {post : Int32 → Int32 → Int32 → (Nat → Int32) → (Nat → Int32) → (Nat → Int64) → (Nat → Int64) → (Nat → Int64) → (Nat → Int64) → Int32 → Int32 → Int32 → Int32 → (Nat → Int32) → (Nat → Int32) → Prop}
    (k : ∀ w h : Nat, 1 ≤ w → w ≤ 3 → 1 ≤ h → h ≤ 1000000000 → l1 = nI w → l2 = nI h → ∀ t' b' bl' chs' tb' sq' ln' pu' a1' a2' a3' a4' fr' pw', post (tallA al c w h) t' b' bl' chs' tb' sq' ln' pu' a1' a2' a3' a4' fr' pw') (k0 : ¬ isTl l1 ∨ talBad l2 → post (-3) t b bl chs tb sq ln pu a1 a2 a3 a4 fr pw) : q_X8_tall (nI c) R t b bl chs tb sq ln pu a1 a2 a3 a4 fr pw l1 l2 post := by
  unfold q_X8_tall
  refine s_isStrip (fun w hw1 hw e => b1 ?_) (fun h => b0 (k0 (Or.inl h)))
  subst e
  have e9 : (1000000000 : Int32).toInt = 1000000000 := rfl
  have h27 := pow_le27 hc hw
  simp only [fa_lt, fa_le, ti1, e9]
  refine ⟨fun q => k0 (Or.inr (by unfold talBad; omega)), fun q => ⟨fun q2 => ?_, fun q2 => k0 (Or.inr (by unfold talBad; omega))⟩⟩
  obtain ⟨h, hh1, hh, rfl⟩ := small (lo := 1) (hi := 1000000000) (a := l2) (by omega)
  refine s_layS h1 hc hw1 hw hr (fun t' b' bl' rg' fr' pw' hS => ?_)
  exact s_ofHeight h27 hh1 hh hS.2.2 hS.1 hS.2.1 (fun chs' tb' sq' ln' pu' => k w h hw1 hw hh1 hh rfl rfl _ _ _ _ _ _ _ _ _ _ _ _ _ _)
