/-! rank -/
def dvf (dk : Nat → Int32) (i : Nat) : Nat := (dk i).toNatClampNeg
theorem dv_of {c N : Nat} {dk : Nat → Int32} (hc : c ≤ 3) (hD : DeskOk c dk) (hN : N ≤ 25) (hg : gapsN dk N = 0) : DkOk c N dk (dvf dk) := by
  intro i hi
  have h0 := fb_ct_zero.mp hg i hi
  have hne : dk i ≠ -1 := of_decide_eq_false h0
  rcases hD i (by omega) with e | ⟨v, hv, e⟩
  · exact absurd e hne
  · unfold dvf
    rw [e, nI_clamp (by omega)]; exact ⟨rfl, hv⟩
def rwN (dv : Nat → Nat) (c w y : Nat) : Nat → Nat
  | 0 => 0
  | x + 1 => rwN dv c w y x * c + dv (w * y + x)
theorem rwN_lt {dv : Nat → Nat} {c w y : Nat} : ∀ {x : Nat}, (∀ x', x' < x → dv (w * y + x') < c) → rwN dv c w y x < c ^ x
  | 0, _ => (show 0 < c ^ 0 from by rw [Nat.pow_zero]; decide)
  | x + 1, h => by
    have h1 := rwN_lt (x := x) (fun x' hx' => h x' (by omega))
    have h2 := h x (by omega)
    show rwN dv c w y x * c + dv (w * y + x) < c ^ (x + 1)
    have : rwN dv c w y x * c + c ≤ c ^ x * c := by rw [← Nat.succ_mul]; exact Nat.mul_le_mul_right _ h1
    rw [Nat.pow_succ]; omega
theorem s_numberOf {c h w y : Nat} (hc : c ≤ 3) (hh : h ≤ 5) (hw : w ≤ 5) (hy : y < h) {f dk : Nat → Int32} {dv : Nat → Nat} (hf : ∀ i, i < 25 → f i = dk i) (hd : DkOk c (h * w) dk dv) {post : Int32 → Prop} (k : post (nI (rwN dv c w y w))) : q_X2_numberOf (nI c) (nI w) (nI h) (nI w) f (nI y) post := by
  unfold q_X2_numberOf
  have loop : ∀ (m x : Nat), x + m = w → r_X2_numberOf_5 (nI c) (nI w) (nI h) (nI w) f post (nI y) (m + 1) (nI (rwN dv c w y x)) (nI x) := by
    intro m
    induction m with
    | zero =>
      intro x hx
      unfold r_X2_numberOf_5
      rw [show x = w by omega]
      exact pk_le w w (fun _ => k) (fun q => absurd q (by omega)) rfl rfl (by omega) (by omega)
    | succ m ih =>
      intro x hx
      unfold r_X2_numberOf_5
      refine pk_le w x (fun q => absurd q (by omega)) (fun _ => ?_) rfl rfl (by omega) (by omega)
      refine s_at hc hh hw hf hd (y := y + 1) (x := x + 1) (same_nI (by omega)) (same_nI (by omega)) ?_
      unfold prt
      rw [if_pos (by omega), Nat.add_sub_cancel, Nat.add_sub_cancel, pk_mul, nI_add, nI_1]
      exact ih (x + 1) (by omega)
  exact ⟨w + 1, loop w 0 (by omega)⟩
theorem s_deskRow {c h w y : Nat} (hh : h ≤ 5) (hw : w ≤ 5) (hy : y < h) {f dk : Nat → Int32} {dv : Nat → Nat} (hf : ∀ i, i < 25 → f i = dk i) (hd : DkOk c (h * w) dk dv) {post : Int32 → Prop} (k : post (nI (rwN dv c w y w))) : q_X9_deskRow (nI c) (nI w) f (nI y) post := by
  unfold q_X9_deskRow
  have hN := hw25 hh hw
  have loop : ∀ (m x : Nat), x + m = w → r_X9_deskRow_4 (nI c) (nI w) f post (nI y) (m + 1) (nI (rwN dv c w y x)) (nI x) := by
    intro m
    induction m with
    | zero =>
      intro x hx
      unfold r_X9_deskRow_4
      rw [show x = w by omega]
      exact pk_le w w (fun _ => k) (fun q => absurd q (by omega)) rfl rfl (by omega) (by omega)
    | succ m ih =>
      intro x hx
      unfold r_X9_deskRow_4
      have hcell := cellN hy (show x < w by omega)
      refine pk_le w x (fun q => absurd q (by omega)) (fun _ => ?_) rfl rfl (by omega) (by omega)
      rw [pk_mul, nI_add]
      refine ⟨vp_in_nI (by omega) (by decide), fun v e => ?_⟩
      rw [nI_clamp (by omega), hf _ (by omega), (hd _ hcell).1, pk_mul, nI_add] at e
      rw [e, nI_1]
      have := ih (x + 1) (by omega)
      have es : rwN dv c w y (x + 1) = c * rwN dv c w y x + dv (w * y + x) := by
        show rwN dv c w y x * c + dv (w * y + x) = _
        rw [Nat.mul_comm]
      rw [es] at this
      exact this
  exact ⟨w + 1, loop w 0 (by omega)⟩
theorem dk_row {c h w y : Nat} {dk : Nat → Int32} {dv : Nat → Nat} (hd : DkOk c (h * w) dk dv) (hy : y < h) : rwN dv c w y w < c ^ w := rwN_lt (fun x' hx' => (hd _ (cellN hy hx')).2)
theorem s_before {c h w : Nat} (h1 : 1 ≤ c) (hc : c ≤ 3) (hh1 : 1 ≤ h) (hh : h ≤ 5) (hw : w ≤ 5) {al : Nat → Bool} {R fr pw f dk : Nat → Int32} {dv : Nat → Nat} (hr : RuleOk al R) (hR : RowsOk c w (nI c) (nI w) (nI (c ^ w)) (nI (4 ^ (w + 2) - 1)) fr pw) {ok : Nat → Nat → Bool} {ws : Nat → Int64} (hW : WaysX (c ^ w) (Fi al c w) (Bt al c w) ok h ws) (hf : ∀ i, i < 25 → f i = dk i) (hd : DkOk c (h * w) dk dv) {post : Int64 → Prop}
    (k : post (lN (bef al c w ok h (fun y => rwN dv c w y w) h))) : q_X0_before ws (nI c) (nI w) (nI (4 ^ (w + 2) - 1)) fr R (nI h) (nI h) (nI w) f post := by
  have h243 := pow_le243 hc hw
  have hfr := hR.2.2.2.2.1
  unfold q_X0_before
  have inner : ∀ {K : Int64 → Int32 → Int32 → Prop} {y : Nat} {v : Int32}, y < h → UpOk al c w v (upG al c w (fun y => rwN dv c w y w) y) → K (lN (bef al c w ok h (fun y => rwN dv c w y w) (y + 1))) (nI y) (nI (rwN dv c w y w)) → ∀ (m i : Nat), i + m = rwN dv c w y w → r_X0_before_41 ws (nI c) (nI w) (nI (4 ^ (w + 2) - 1)) fr R (nI h) (nI h) (nI w) f post K v (nI y) (nI (rwN dv c w y w)) (m + 1) (lN (bef al c w ok h (fun y => rwN dv c w y w) y + fb_sm (glv al c w ok h (fun y => rwN dv c w y w) y) i)) (nI i) := by
    intro K y v hy hU hK m
    have hlt := dk_row hd hy
    induction m with
    | zero =>
      intro i hi
      unfold r_X0_before_41
      have ei : i = rwN dv c w y w := by omega
      exact pk_le (rwN dv c w y w) i (fun _ => by rw [ei]; exact hK) (fun q => absurd q (by omega)) rfl rfl (by omega) (by omega)
    | succ m ih =>
      intro i hi
      unfold r_X0_before_41
      refine pk_le (rwN dv c w y w) i (fun q => absurd q (by omega)) (fun _ => ?_) rfl rfl (by omega) (by omega)
      refine s_waysG h1 hc hw hh hy hr hfr hW hU (show i < c ^ w by omega) ?_
      rw [lN_add', nI_1, Nat.add_assoc, ← fb_sm_succ]
      exact ih (i + 1) (by omega)
  have outer : ∀ (m y : Nat) (v : Int32), y + m = h → UpOk al c w v (upG al c w (fun y => rwN dv c w y w) y) → r_X0_before_14 ws (nI c) (nI w) (nI (4 ^ (w + 2) - 1)) fr R (nI h) (nI h) (nI w) f post (m + 1) (lN (bef al c w ok h (fun y => rwN dv c w y w) y)) v (nI y) := by
    intro m
    induction m with
    | zero =>
      intro y v hy hU
      unfold r_X0_before_14
      rw [show y = h by omega]
      exact pk_le h h (fun _ => k) (fun q => absurd q (by omega)) rfl rfl (by omega) (by omega)
    | succ m ih =>
      intro y v hy hU
      unfold r_X0_before_14
      refine pk_le h y (fun q => absurd q (by omega)) (fun _ => ?_) rfl rfl (by omega) (by omega)
      refine s_numberOf hc hh hw (by omega) hf hd ?_
      have hlt := dk_row hd (show y < h by omega)
      refine ⟨rwN dv c w y w + 1, inner (show y < h by omega) hU ?_ (rwN dv c w y w) 0 (by omega)⟩
      unfold q_X0_before_67
      refine ⟨vp_in_nI (by omega) (by decide), ?_⟩
      rw [nI_clamp (by omega), hfr _ hlt, nI_1]
      refine ih (y + 1) _ (by omega) ?_
      unfold upG
      rw [if_neg (by omega), Nat.add_sub_cancel]
      exact up_row h1 hc _
  refine ⟨h + 1, outer h 0 _ (by omega) ?_⟩
  unfold upG
  rw [if_pos rfl]
  exact up_ring al c w
theorem bef_le {al : Nat → Bool} {c w : Nat} {ok : Nat → Nat → Bool} {h : Nat} {a : Nat → Nat} (hR : c ^ w ≤ 243) (hh : h ≤ 5) : ∀ {y : Nat}, (∀ z, z < y → a z < c ^ w) → bef al c w ok h a y ≤ y * (243 * 3486784401)
  | 0, _ => Nat.zero_le _
  | y + 1, ha => by
    have h1 := bef_le (ok := ok) (al := al) hR hh (y := y) (fun z hz => ha z (by omega))
    have h2 : fb_sm (glv al c w ok h a y) (a y) ≤ a y * 3486784401 := fb_sm_bound (fun r _ => gW_lt hR (by omega))
    have h3 : a y * 3486784401 ≤ 243 * 3486784401 := Nat.mul_le_mul_right _ (by have := ha y (by omega); omega)
    show bef al c w ok h a y + fb_sm (glv al c w ok h a y) (a y) ≤ _
    rw [Nat.succ_mul]; omega
def rankA (al : Nat → Bool) (dv : Nat → Nat) (c h w : Nat) : Int32 := if wrongA al dv h w = -1 then nI (capM (bef al c w okAll h (fun y => rwN dv c w y w) h)) else -1
theorem s_rankX {c h w : Nat} (hc2 : c = 2 ∨ c = 3) (hh1 : 1 ≤ h) (hh : h ≤ 5) (hw1 : 1 ≤ w) (hw : w ≤ 5) {al : Nat → Bool} {R f dk : Nat → Int32} (hr : RuleOk al R) (hf : ∀ i, i < 25 → f i = dk i) (hD : DeskOk c dk) {wf fr pw pc : Nat → Int32} {ws ft : Nat → Int64} {a b d g e f' : Int32} {post : Int32 → (Nat → Int32) → (Nat → Int64) → (Nat → Int64) → Int32 → Int32 → Int32 → Int32 → (Nat → Int32) → (Nat → Int32) → Int32 → Int32 → (Nat → Int32) → Prop}
    (k : gapsN dk (h * w) = 0 → ∀ wf' ws' ft' a' b' d' g' fr' pw' e' f' pc', post (rankA al (dvf dk) c h w) wf' ws' ft' a' b' d' g' fr' pw' e' f' pc') (k0 : 0 < gapsN dk (h * w) → post (-4) wf ws ft a b d g fr pw e f' pc) : q_X8_rank (nI c) R (nI h) (nI w) f wf ws ft a b d g fr pw e f' pc post := by
  have hN := hw25 hh hw
  have hg25 : gapsN dk (h * w) ≤ 25 := Nat.le_trans (gapsN_le _ _) hN
  unfold q_X8_rank
  refine s_gapsX hh hw hf (pk_le (gapsN dk (h * w)) 0 (fun q => ?_) (fun q => k0 q) rfl rfl (by omega) (by omega))
  have hg : gapsN dk (h * w) = 0 := by omega
  have hd := dv_of (by omega) hD hN hg
  have kk := k hg
  unfold rankA at kk
  refine s_firstWrong (by omega) hh hw hr hf hd (br (fun q => ?_) (fun q => ?_))
  · rw [if_pos q] at kk
    refine s_openWhole hc2 hw1 hw hh1 hh hr (fun wf' ws' ft' fr' pw' pc' hR hW => ?_)
    refine s_before (by omega) (by omega) hh1 hh hw hr hR hW hf hd ?_
    have hb := bef_le (al := al) (ok := okAll) (h := h) (a := fun y => rwN (dvf dk) c w y w) (pow_le243 (show c ≤ 3 by omega) hw) hh (y := h) (fun z hz => dk_row hd hz)
    have hb2 : h * (243 * 3486784401) ≤ 5 * (243 * 3486784401) := Nat.mul_le_mul_right _ hh
    exact s_cappedX (by omega) (kk _ _ _ _ _ _ _ _ _ _ _ _)
  · rw [if_neg q] at kk
    exact kk _ _ _ _ _ _ _ _ _ _ _ _
theorem cap_step {S P x : Nat} (h : capM S = capM P) : capM (S + capM x) = capM (P + x) := by
  unfold capM at *
  split at h <;> split at h <;> split <;> (try split) <;> (try split) <;> omega
theorem s_rankM {c h w : Nat} (hc : c ≤ 3) (h1 : 1 ≤ c) (hh1 : 1 ≤ h) (hh : h ≤ 5) (hw1 : 1 ≤ w) (hw : w ≤ 5) {al : Nat → Bool} {R f dk : Nat → Int32} (hr : RuleM al R) (hf : ∀ i, i < 25 → f i = dk i) (hD : DeskOk c dk) {mr : Int32} {fits top bottom may : Nat → Int32} {ways : Nat → Int64} {post : Int32 → Int32 → (Nat → Int32) → (Nat → Int32) → (Nat → Int32) → (Nat → Int32) → (Nat → Int64) → Prop}
    (k : gapsN dk (h * w) = 0 → ∀ mr' fits' top' bottom' may' ways', post (rankA al (dvf dk) c h w) mr' fits' top' bottom' may' ways') (k0 : 0 < gapsN dk (h * w) → post (-4) mr fits top bottom may ways) : q_X9_rank (nI c) (nI h) (nI w) R f mr fits top bottom may ways post := by
  have hN := hw25 hh hw
  have h243 := pow_le243 hc hw
  have hg25 : gapsN dk (h * w) ≤ 25 := Nat.le_trans (gapsN_le _ _) hN
  unfold q_X9_rank
  refine s_gapsM hh hw hf (pk_le (gapsN dk (h * w)) 0 (fun q => ?_) (fun q => k0 q) rfl rfl (by omega) (by omega))
  have hg : gapsN dk (h * w) = 0 := by omega
  have hd := dv_of hc hD hN hg
  have kk := k hg
  unfold rankA at kk
  refine s_wrongNow hc hh hw hh1 hw1 hr hf hd (br (fun q => ?_) (fun q => ?_))
  · rw [if_pos q] at kk
    refine s_countAll hc h1 hw hh1 hh hr (fun fits' top' bottom' may' ways' hF hW => ?_)
    have inner : ∀ {K : Int64 → Int32 → Prop} {y : Nat}, y < h → (∀ S, S ≤ 243 * (y + 1) * 1000000001 → capM S = capM (bef al c w okAll h (fun y => rwN (dvf dk) c w y w) (y + 1)) → K (lN S) (nI y)) → ∀ (m i S : Nat), i + m = rwN (dvf dk) c w y w → S ≤ (243 * y + i) * 1000000001 → capM S = capM (bef al c w okAll h (fun y => rwN (dvf dk) c w y w) y + fb_sm (glv al c w okAll h (fun y => rwN (dvf dk) c w y w) y) i) → r_X9_rank_48 (nI c) (nI h) (nI w) R f (nI (c ^ w)) fits' top' bottom' may' ways' post K (nI y) (m + 1) (lN S) (nI i) := by
      intro K y hy hK m
      have hlt := dk_row hd hy
      induction m with
      | zero =>
        intro i S hi hS eS
        unfold r_X9_rank_48
        refine s_deskRow hh hw hy hf hd ?_
        have ei : i = rwN (dvf dk) c w y w := by omega
        refine pk_le (rwN (dvf dk) c w y w) i (fun _ => ?_) (fun q => absurd q (by omega)) rfl rfl (by omega) (by omega)
        refine hK S ?_ ?_
        · refine Nat.le_trans hS (Nat.mul_le_mul_right _ ?_)
          omega
        · rw [ei] at eS; exact eS
      | succ m ih =>
        intro i S hi hS eS
        unfold r_X9_rank_48
        refine s_deskRow hh hw hy hf hd ?_
        refine pk_le (rwN (dvf dk) c w y w) i (fun q => absurd q (by omega)) (fun _ => ?_) rfl rfl (by omega) (by omega)
        have go : ∀ b : Bool, b = upG al c w (fun y => rwN (dvf dk) c w y w) y i → q_X9_rank_91 (nI c) (nI h) (nI w) R f (nI (c ^ w)) fits' top' bottom' may' ways' (nI y) post K (r_X9_rank_48 (nI c) (nI h) (nI w) R f (nI (c ^ w)) fits' top' bottom' may' ways' post K (nI y) (m + 1)) (lN S) (nI i) (bI b) := by
          intro b hb
          unfold q_X9_rank_91
          have hI := fun x (hx : x = glM al c w okAll h (fun y => rwN (dvf dk) c w y w) y i) => ih (i + 1) (S + x) (by omega) (by
            have : x ≤ 1000000001 := by rw [hx, glM_eq]; exact capM_le _
            rw [← Nat.add_assoc, Nat.succ_mul]; omega) (by
            rw [hx, glM_eq, fb_sm_succ, ← Nat.add_assoc]; exact cap_step eS)
          rw [nI_1]
          cases b with
          | false =>
            refine b0 ?_
            have := hI 0 (by unfold glM; rw [← hb]; rfl)
            rw [show (0 : Int64) = lN 0 from rfl, lN_add']
            exact this
          | true =>
            refine b1 ?_
            rw [i243]
            refine ⟨vp_in_nI (by omega) (by decide), fun v e => ?_⟩
            rw [nI_clamp (by omega), hW y i hy (by omega), lN_add'] at e
            rw [e]
            exact hI _ (by unfold glM; rw [← hb]; rfl)
        unfold upG at go
        refine brn (fun q => ?_) (fun q => ?_)
        · have hy0 : y ≠ 0 := fun e => q (by rw [e]; rfl)
          have ey : nI y - (1 : Int32) = nI (y - 1) := by rw [show (1 : Int32) = nI 1 from rfl, pk_sub (by omega)]
          have hlt2 := dk_row hd (show y - 1 < h by omega)
          rw [ey]
          refine s_deskRow hh hw (show y - 1 < h by omega) hf hd ?_
          rw [i243]
          refine ⟨vp_in_nI (by omega) (by decide), ?_⟩
          rw [nI_clamp (by omega), hF.2.2 _ _ hlt2 (by omega)]
          rw [if_neg hy0] at go
          exact go _ rfl
        · have hy0 : y = 0 := (nI_zero (by omega)).mp q
          refine ⟨vp_in_nI (by omega) (by decide), ?_⟩
          rw [nI_clamp (by omega), hF.1 i (by omega)]
          rw [if_pos hy0] at go
          exact go _ rfl
    have outer : ∀ (m y S : Nat), y + m = h → S ≤ 243 * y * 1000000001 → capM S = capM (bef al c w okAll h (fun y => rwN (dvf dk) c w y w) y) → r_X9_rank_37 (nI c) (nI h) (nI w) R f post (q_X9_rank_130 (nI c) (nI h) (nI w) R f post) (nI (c ^ w)) fits' top' bottom' may' ways' (m + 1) (lN S) (nI y) := by
      intro m
      induction m with
      | zero =>
        intro y S hy hS eS
        unfold r_X9_rank_37
        have ey : y = h := by omega
        rw [ey] at eS ⊢
        refine pk_le h h (fun _ => ?_) (fun q => absurd q (by omega)) rfl rfl (by omega) (by omega)
        unfold q_X9_rank_130
        refine s_capped (by omega) ?_
        rw [lN_i, eS]
        exact kk _ _ _ _ _ _
      | succ m ih =>
        intro y S hy hS eS
        unfold r_X9_rank_37
        refine pk_le h y (fun q => absurd q (by omega)) (fun _ => ?_) rfl rfl (by omega) (by omega)
        refine ⟨rwN (dvf dk) c w y w + 1, inner (show y < h by omega) (fun S' hS' eS' => ?_) (rwN (dvf dk) c w y w) 0 S (by omega) hS eS⟩
        unfold q_X9_rank_124
        rw [nI_1]
        exact ih (y + 1) S' (by omega) hS' eS'
    exact ⟨h + 1, outer h 0 0 (by omega) (by omega) rfl⟩
  · rw [if_neg q] at kk
    exact kk _ _ _ _ _ _
