/-! walked: class and reference -/
theorem pg_dk {c w h : Nat} (h1 : 1 ≤ c) (hw1 : 1 ≤ w) {at' pc : Nat → Int32} (hP : PgOk c w at' pc h) : DkOk c (h * w) pc (dvP c w (aN at')) := fun i hi => ⟨pg_cell hP hi hw1, dg_lt h1 w _ _⟩
theorem s_alike {c w h y : Nat} (hc : c ≤ 3) (hw : w ≤ 5) (hh : h ≤ 5) (hy : y < h) {al : Nat → Bool} {at' : Nat → Int32} {ws : Nat → Int64} (hW : WaysX (c ^ w) (Fi al c w) (Bt al c w) okAll h ws) (hA : AtOk c w at' h) (hg : glv al c w okAll h (aN at') y (aN at' y) ≠ 0) {post : Int64 → Prop} (k : post (lN (glv al c w okAll h (aN at') y (aN at' y)))) : q_X0_alikeDownTo ws at' (nI y) post := by
  have h243 := pow_le243 hc hw
  have hy5 : vp_in (nI y) 5 := vp_in_nI (by omega) (by decide)
  obtain ⟨e1, e2⟩ := hA y hy
  unfold q_X0_alikeDownTo
  rw [nI_clamp (by omega), e1]
  refine ⟨hy5, brn (fun _ => ⟨hy5, ?_⟩) (fun z => absurd z (m1_ne (by omega)))⟩
  rw [y243]
  refine ⟨vp_in_nI (by omega) (by decide), ?_⟩
  rw [nI_clamp (by omega), hW y _ hy e2]
  have eg : glv al c w okAll h (aN at') y (aN at' y) = Wy (c ^ w) (Fi al c w) (Bt al c w) okAll h (h - 1 - y) (aN at' y) := by
    unfold glv gW at hg ⊢
    by_cases q : upG al c w (aN at') y (aN at' y) = true
    · rw [if_pos q]
    · rw [if_neg q] at hg; exact absurd rfl hg
  rw [← eg]
  exact k
theorem s_walkedX {c n : Nat} (hc2 : c = 2 ∨ c = 3) (hn1 : 1 ≤ n) (hn : n ≤ 5) {al : Nat → Bool} {R : Nat → Int32} (hr : RuleOk al R) {fa ft' ac th : Nat → Int32} (ha : ∀ i, i < 20 → fa i = ac i) (ht : ∀ i, i < 20 → ft' i = th i) (hA : AcOk n ac th) {W : Nat} (hW : W + 20000 < 2 ^ 31) {bn : Nat → Int32} (hb : ∀ j, j < 245 → ∃ v, v ≤ W ∧ bn j = nI v) {wf at' fr pw pc : Nat → Int32} {ws ft : Nat → Int64} {x y e st q lo a b d g e2 f : Int32} {l1 l2 : Int32} {post : Int32 → (Nat → Int32) → (Nat → Int64) → (Nat → Int64) → (Nat → Int32) → Int32 → Int32 → Int32 → Int32 → Int32 → Int32 → Int32 → (Nat → Int32) → Int32 → Int32 → Int32 → Int32 → (Nat → Int32) → (Nat → Int32) → Int32 → Int32 → (Nat → Int32) → Prop}
    (k : ∀ h w : Nat, 1 ≤ h ∧ h ≤ 5 ∧ 1 ≤ w ∧ w ≤ 5 → h * w ≤ 9 → l1 = nI h → l2 = nI w → ∀ wf' ws' ft' at' W' x' y' e' st' q' lo' bn' a' b' d' g' fr' pw' e2' f' pc', W' ≤ W + 20000 → (∀ j, j < 245 → ∃ v, v ≤ W' ∧ bn' j = nI v) → post (nI (walkedA al ac th c h w)) wf' ws' ft' at' (nI W') x' y' e' st' q' lo' bn' a' b' d' g' fr' pw' e2' f' pc') (k4 : ∀ h w : Nat, 1 ≤ h ∧ h ≤ 5 ∧ 1 ≤ w ∧ w ≤ 5 → 9 < h * w → l1 = nI h → l2 = nI w → post (-4) wf ws ft at' (nI W) x y e st q lo bn a b d g fr pw e2 f pc) (k0 : ¬ isSz l1 l2 → post (-3) wf ws ft at' (nI W) x y e st q lo bn a b d g fr pw e2 f pc) : q_X8_walked (nI c) fa ft' R wf ws ft at' (nI W) x y e st q lo bn a b d g fr pw e2 f pc l1 l2 post := by
  unfold q_X8_walked
  refine s_isSizeX (fun hs => c1 ?_) (fun hs => c0 (k0 hs))
  obtain ⟨h, hh1, hh, rfl⟩ := small (lo := 1) (hi := 5) (a := l1) (by omega)
  obtain ⟨w, hw1, hw, rfl⟩ := small (lo := 1) (hi := 5) (a := l2) (by omega)
  have hc : c ≤ 3 := by omega
  have h1 : 1 ≤ c := by omega
  have hN := hw25 hh hw
  have h243 := pow_le243 hc hw
  rw [pk_mul]
  refine pk_le (h * w) 9 (fun h9 => ?_) (fun h9 => k4 h w ⟨hh1, hh, hw1, hw⟩ h9 rfl rfl) rfl rfl (by omega) (by omega)
  have ht9 := tot_9 (al := al) hc hh1 h9
  refine s_openWhole hc2 hw1 hw hh1 hh hr (fun wf' ws' ft2 fr' pw' pc' hR hWX => ?_)
  have hfr := hR.2.2.2.2.1
  have kk := k h w ⟨hh1, hh, hw1, hw⟩ h9 rfl rfl
  unfold walkedA at kk
  have fin : ∀ (fu i : Nat) (W' : Nat) (at2 bn2 pg : Nat → Int32) (x y e st q lo : Int32), W' ≤ W + 20000 → (∀ j, j < 245 → ∃ v, v ≤ W' ∧ bn2 j = nI v) → r_X8_walked_42 (nI c) fa ft' R post (q_X8_walked_119 (nI c) fa ft' R post) wf' ws' ft2 (nI c) (nI w) (nI (c ^ w)) (nI (4 ^ (w + 2) - 1)) fr' pw' (nI h) (nI w) (fu + 1) (lN (fb_ct (tkJ al ac th c h w) (totA al c h w))) 0 (nI i) at2 (nI W') x y e st q lo bn2 pg := by
    intro fu i W' at2 bn2 pg x y e st q lo hW' hb2
    have hle := fb_ct_le (tkJ al ac th c h w) (totA al c h w)
    have done : q_X8_walked_119 (nI c) fa ft' R post (lN (fb_ct (tkJ al ac th c h w) (totA al c h w))) wf' ws' ft2 at2 (nI W') x y e st q lo bn2 (nI c) (nI w) (nI (c ^ w)) (nI (4 ^ (w + 2) - 1)) fr' pw' (nI h) (nI w) pg := by
      unfold q_X8_walked_119
      refine s_cappedX (by omega) ?_
      rw [capM_id (by omega)]
      exact kk _ _ _ _ _ _ _ _ _ _ _ _ _ _ _ _ _ _ _ _ _ hW' hb2
    unfold r_X8_walked_42
    exact ⟨fun _ => done, fun _ => b0 done⟩
  have loop : ∀ (fu j i W' : Nat) (at2 bn2 pg : Nat → Int32) (x y e st q lo : Int32), totA al c h w - j < fu → j < totA al c h w → i ≤ j → W' = W + i → Fst al ac th c h w j → Ins al c w okAll h j (aN at2) h → AtOk c w at2 h → PgOk c w at2 pg h → (∀ j, j < 245 → ∃ v, v ≤ W' ∧ bn2 j = nI v) → r_X8_walked_42 (nI c) fa ft' R post (q_X8_walked_119 (nI c) fa ft' R post) wf' ws' ft2 (nI c) (nI w) (nI (c ^ w)) (nI (4 ^ (w + 2) - 1)) fr' pw' (nI h) (nI w) (fu + 1) (lN (fb_ct (tkJ al ac th c h w) j)) 1 (nI i) at2 (nI W') x y e st q lo bn2 pg := by
    intro fu
    induction fu with
    | zero => intro j i W' at2 bn2 pg x y e st q lo hfu; exact absurd hfu (by omega)
    | succ fu ih =>
      intro j i W' at2 bn2 pg x y e st q lo hfu hj hi hWi hF hI hAt hP hb2
      unfold r_X8_walked_42
      refine pk_le 19683 i (fun z => absurd z (by omega)) (fun _ => b1 ?_) rfl rfl (by omega) (by omega)
      refine s_go hc hh1 hh hw hn1 hn (fun i _ => rfl) (pg_dk h1 hw1 hP) ha ht hA (by omega) hb2 (fun r er x' y' bn' hb' => ?_)
      have er' : r = wkP c h w ac th (aN at2) := er
      obtain ⟨s1, s2, s3, s4, s5⟩ := walk_step hh1 hF hj hI (l := r.2.2.2) (by rw [er'])
      have hlh : r.2.2.2 < h := by rw [er']; exact wkP_lo hh1
      have hr1 : r.1 < 3 := by rw [er]; exact wk_lt _ _ _ _ _ _ _
      generalize hl : r.2.2.2 = l at *
      have hAl := hAt l hlh
      have hL := Ins_liv hI
      have hgle : glv al c w okAll h (aN at2) l (aN at2 l) ≤ 3486784401 := gW_lt h243 (by omega)
      generalize hgg : glv al c w okAll h (aN at2) l (aN at2 l) = gg at *
      have next : ∀ v : Nat, v = fb_ct (tkJ al ac th c h w) (j + gg) → q_X8_walked_97 (nI c) fa ft' R wf' ws' ft2 (nI c) (nI w) (nI (c ^ w)) (nI (4 ^ (w + 2) - 1)) fr' pw' (nI h) (nI w) post (q_X8_walked_119 (nI c) fa ft' R post) (r_X8_walked_42 (nI c) fa ft' R post (q_X8_walked_119 (nI c) fa ft' R post) wf' ws' ft2 (nI c) (nI w) (nI (c ^ w)) (nI (4 ^ (w + 2) - 1)) fr' pw' (nI h) (nI w) (fu + 1)) (lN v) (nI i) at2 (nI (W' + 1)) x' y' (nI r.1) (nI r.2.1) (nI r.2.2.1) (nI l) bn' pg := by
        intro v ev
        unfold q_X8_walked_97
        refine s_advance (from' := l) h1 hc hw hh hlh hr hfr hWX (fun y hy => hAt y (by omega)) (fun y hy => hL y (by omega)) (fun y x hy hx => hP y x (by omega) hx) (s := aN at2 l + 1) (j := j + gg) (by omega) (by rw [hAl.1, nI_1]) s1.symm (fun htt at3 pg3 hI3 hA3 hP3 => ?_) (fun htt at3 pg3 => ?_)
        · rw [nI_1, ev]
          exact ih (j + gg) (i + 1) (W' + 1) at3 bn' pg3 _ _ _ _ _ _ (by omega) htt (by omega) (by omega) s4 hI3 hA3 hP3 hb'
        · rw [nI_1, ev]
          have : j + gg = totA al c h w := htt.symm
          rw [this]
          exact fin fu (i + 1) (W' + 1) at3 bn' pg3 _ _ _ _ _ _ (by omega) hb'
      refine brn (fun z => next _ ?_) (fun z => ?_)
      · have : ¬ (wkP c h w ac th (aN at2)).1 = 1 := fun q => z (by rw [er', q]; rfl)
        rw [if_neg this, Nat.add_zero] at s5
        exact s5.symm
      · have : (wkP c h w ac th (aN at2)).1 = 1 := by rw [← er']; exact nI_inj (by omega) (by decide) z
        rw [if_pos this] at s5
        refine s_alike hc hw hh hlh hWX hAt (by rw [hgg]; omega) ?_
        rw [hgg, lN_add']
        exact next _ s5.symm
  refine s_begin h1 hc hw hh1 hh hr hfr hWX (fun htt at2 pc2 hI hA2 hP2 => ?_) (fun htt at2 pc2 => ?_)
  · exact ⟨totA al c h w + 1 + 1, loop (totA al c h w + 1) 0 0 W at2 bn pc2 _ _ _ _ _ _ (by omega) htt (by omega) (by omega) (fun i hi => absurd hi (by omega)) hI hA2 hP2 hb⟩
  · have h0 := fin 0 0 W at2 bn pc2 x y e st q lo (by omega) hb
    have : totA al c h w = 0 := htt
    rw [this] at h0
    exact ⟨1, h0⟩
theorem s_walkedM {c n : Nat} (hc : c ≤ 3) (h1 : 1 ≤ c) (hn1 : 1 ≤ n) (hn : n ≤ 5) {al : Nat → Bool} {R : Nat → Int32} (hr : RuleM al R) {fa ft' ac th : Nat → Int32} (ha : ∀ i, i < 20 → fa i = ac i) (ht : ∀ i, i < 20 → ft' i = th i) (hA : AcOk n ac th) {mr e st q : Int32} {fits top bottom may fd gr met : Nat → Int32} {ways : Nat → Int64} {l1 l2 : Int32} {post : Int32 → Int32 → Int32 → Int32 → Int32 → (Nat → Int32) → (Nat → Int32) → (Nat → Int32) → (Nat → Int32) → (Nat → Int64) → (Nat → Int32) → (Nat → Int32) → (Nat → Int32) → Prop}
    (k : ∀ h w : Nat, 1 ≤ h ∧ h ≤ 5 ∧ 1 ≤ w ∧ w ≤ 5 → h * w ≤ 9 → l1 = nI h → l2 = nI w → ∀ mr' e' st' q' fits' top' bottom' may' ways' fd' gr' met', post (nI (walkedA al ac th c h w)) mr' e' st' q' fits' top' bottom' may' ways' fd' gr' met') (k4 : ∀ h w : Nat, 1 ≤ h ∧ h ≤ 5 ∧ 1 ≤ w ∧ w ≤ 5 → 9 < h * w → l1 = nI h → l2 = nI w → post (-4) mr e st q fits top bottom may ways fd gr met) (k0 : ¬ isSz l1 l2 → post (-3) mr e st q fits top bottom may ways fd gr met) : q_X9_walked (nI c) R fa ft' mr e st q fits top bottom may ways fd gr met l1 l2 post := by
  unfold q_X9_walked
  refine s_isSizeM (fun hs => c1 ?_) (fun hs => c0 (k0 hs))
  obtain ⟨h, hh1, hh, rfl⟩ := small (lo := 1) (hi := 5) (a := l1) (by omega)
  obtain ⟨w, hw1, hw, rfl⟩ := small (lo := 1) (hi := 5) (a := l2) (by omega)
  have hN := hw25 hh hw
  rw [pk_mul]
  refine pk_le (h * w) 9 (fun h9 => ?_) (fun h9 => k4 h w ⟨hh1, hh, hw1, hw⟩ h9 rfl rfl) rfl rfl (by omega) (by omega)
  have ht9 := tot_9 (al := al) hc hh1 h9
  refine s_countAll hc h1 hw hh1 hh hr (fun fits' top' bottom' may' ways' hF hW => ?_)
  have e61 : capM (totW (c ^ w) (Fi al c w) (Tp al c w) (Bt al c w) okAll h) = totA al c h w := capM_id (show totA al c h w ≤ 1000000001 by omega)
  rw [e61, lN_i]
  have kk := k h w ⟨hh1, hh, hw1, hw⟩ h9 rfl rfl
  unfold walkedA at kk
  have cells : ∀ {K : Int32 → Int32 → Int32 → Int32 → Int32 → (Nat → Int32) → (Nat → Int32) → (Nat → Int32) → Prop} {l4 l5 e st q : Int32} {fd met : Nat → Int32}, AtOk c w fd h → (∀ g, DkOk c (h * w) g (dvP c w (aN fd)) → K l4 l5 e st q fd g met) → ∀ (m i : Nat) (g : Nat → Int32), i + m = h * w → (∀ j, j < i → g j = nI (dvP c w (aN fd) j)) → r_X9_walked_53 (nI c) R fa ft' (nI h) (nI w) (nI (totA al c h w)) (nI (c ^ w)) fits' top' bottom' may' ways' post K l4 l5 e st q fd met (m + 1) (nI i) g := by
    intro K l4 l5 e st q fd met hAt hK m
    induction m with
    | zero =>
      intro i g hi hg
      unfold r_X9_walked_53
      rw [pk_mul]
      exact pk_le (h * w) i (fun _ => hK g (fun j hj => ⟨hg j (by omega), dg_lt h1 w _ _⟩)) (fun z => absurd z (by omega)) rfl rfl (by omega) (by omega)
    | succ m ih =>
      intro i g hi hg
      unfold r_X9_walked_53
      rw [pk_mul]
      refine pk_le (h * w) i (fun z => absurd z (by omega)) (fun _ => ?_) rfl rfl (by omega) (by omega)
      refine s_fdCell hc h1 hw1 hw hh (show i < h * w by omega) hAt ⟨vp_in_nI (by omega) (by decide), ?_⟩
      rw [nI_clamp (by omega), nI_1]
      refine ih (i + 1) _ (by omega) (fun j hj => ?_)
      by_cases ej : j = i
      · rw [ej, upd_s]; rfl
      · rw [upd_n _ ej]; exact hg j (by omega)
  have loop : ∀ (m j : Nat) (e st q : Int32) (fd gr met : Nat → Int32), j + m = totA al c h w → r_X9_walked_36 (nI c) R fa ft' post (nI h) (nI w) (nI (totA al c h w)) (nI (c ^ w)) fits' top' bottom' may' ways' (m + 1) (nI (fb_ct (tkJ al ac th c h w) j)) (nI j) e st q fd gr met := by
    intro m
    induction m with
    | zero =>
      intro j e st q fd gr met hj
      unfold r_X9_walked_36
      rw [show j = totA al c h w by omega]
      exact pk_le (totA al c h w) (totA al c h w) (fun _ => kk _ _ _ _ _ _ _ _ _ _ _ _) (fun z => absurd z (by omega)) rfl rfl (by omega) (by omega)
    | succ m ih =>
      intro j e st q fd gr met hj
      unfold r_X9_walked_36
      refine pk_le (totA al c h w) j (fun z => absurd z (by omega)) (fun _ => ?_) rfl rfl (by omega) (by omega)
      rw [nI_l (by omega)]
      refine s_layFound h1 hc hw hh1 hh hF hW (by omega) (show j < totA al c h w by omega) (fun fd2 hI hA2 => ?_)
      refine ⟨h * w + 1, cells hA2 (fun g hg => ?_) (h * w) 0 gr (by omega) (fun j hj => absurd hj (by omega))⟩
      unfold q_X9_walked_92
      refine s_goM hc hh1 hh hw1 hw hn1 hn hg ha ht hA (fun r er met' => ?_)
      have hr1 : r.1 < 3 := by rw [er]; exact wk_lt _ _ _ _ _ _ _
      have ep : wkP c h w ac th (pathA al c w okAll h j) = r := by
        rw [er]
        exact wkP_congr (fun y hy => pathA_eq hI y (Nat.lt_of_le_of_lt hy (wkP_lo hh1)))
      have hI2 := fun b => ih (j + 1) b
      rw [fb_ct_succ] at hI2
      have e0 : ∀ v, nI v + (0 : Int32) = nI v := fun v => nI_add v 0
      rw [nI_1, nI_1, e0]
      refine brn (fun z => ?_) (fun z => ?_)
      · have : tkJ al ac th c h w j = false := decide_eq_false (fun q => z (by rw [← ep, q]; rfl))
        rw [this] at hI2
        exact hI2 _ _ _ _ _ _ (by omega)
      · have : tkJ al ac th c h w j = true := decide_eq_true (by rw [ep]; exact nI_inj (by omega) (by decide) z)
        rw [this] at hI2
        exact hI2 _ _ _ _ _ _ (by omega)
  exact ⟨totA al c h w + 1, loop (totA al c h w) 0 _ _ _ _ _ _ (by omega)⟩
