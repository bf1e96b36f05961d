/-! what class and reference have in common between two calls -/
def InvA (i c h w n W : Nat) (al lb : Nat → Bool) (dk ac th xl xa xt bn xr xd mA md ml ma mt : Nat → Int32) : Prop :=
  (c = 2 ∨ c = 3) ∧ (1 ≤ h ∧ h ≤ 5 ∧ 1 ≤ w ∧ w ≤ 5) ∧ (1 ≤ n ∧ n ≤ 5) ∧ W ≤ 20000 * i ∧ (LtOk xl lb ∧ LtOk ml lb) ∧ ((∀ j, j < 20 → xa j = ac j) ∧ (∀ j, j < 20 → xt j = th j) ∧ (∀ j, j < 20 → ma j = ac j) ∧ (∀ j, j < 20 → mt j = th j) ∧ AcOk n ac th) ∧ (∀ j, j < 245 → ∃ v, v ≤ W ∧ bn j = nI v) ∧ (RuleOk al xr ∧ RuleM al mA) ∧ (∀ j, j < 25 → xd j = dk j) ∧ (∀ j, j < 25 → md j = dk j) ∧ DeskOk c dk
def Inv (i : Nat) (xc : Int32) (xl : Nat → Int32) (gs gw : Int32) (xa xt bn xr : Nat → Int32) (dh dw : Int32) (xd : Nat → Int32) (mc mh mw ms : Int32) (mA md ml ma mt : Nat → Int32) : Prop :=
  ∃ (c h w n W : Nat) (al lb : Nat → Bool) (dk ac th : Nat → Int32), (xc = nI c ∧ gs = nI n ∧ gw = nI W ∧ dh = nI h ∧ dw = nI w ∧ mc = nI c ∧ mh = nI h ∧ mw = nI w ∧ ms = nI n) ∧ InvA i c h w n W al lb dk ac th xl xa xt bn xr xd mA md ml ma mt
theorem inv_up {i c h w n W : Nat} {al lb : Nat → Bool} {dk ac th xl xa xt bn xr xd mA md ml ma mt : Nat → Int32} (hI : InvA i c h w n W al lb dk ac th xl xa xt bn xr xd mA md ml ma mt) : InvA (i + 1) c h w n W al lb dk ac th xl xa xt bn xr xd mA md ml ma mt := by
  obtain ⟨g1, g2, g3, g4, g5⟩ := hI
  exact ⟨g1, g2, g3, by omega, g5⟩
theorem inv_of {i c h w n W : Nat} {al lb : Nat → Bool} {dk ac th xl xa xt bn xr xd mA md ml ma mt : Nat → Int32} (hI : InvA i c h w n W al lb dk ac th xl xa xt bn xr xd mA md ml ma mt) : Inv i (nI c) xl (nI n) (nI W) xa xt bn xr (nI h) (nI w) xd (nI c) (nI h) (nI w) (nI n) mA md ml ma mt := ⟨c, h, w, n, W, al, lb, dk, ac, th, ⟨rfl, rfl, rfl, rfl, rfl, rfl, rfl, rfl, rfl⟩, hI⟩
theorem inv_same {i c h w n W : Nat} {al lb : Nat → Bool} {dk ac th xl xa xt bn xr xd mA md ml ma mt : Nat → Int32} (hI : InvA i c h w n W al lb dk ac th xl xa xt bn xr xd mA md ml ma mt) : Inv (i + 1) (nI c) xl (nI n) (nI W) xa xt bn xr (nI h) (nI w) xd (nI c) (nI h) (nI w) (nI n) mA md ml ma mt := inv_of (inv_up hI)
theorem ac_new {n : Nat} (hn : 1 ≤ n) : AcOk n (fun _ => 5) (fun _ => 0) := fun _ _ => ⟨⟨rfl, (by decide : (5 : Int32).toNatClampNeg ≤ 5)⟩, rfl, (show (0 : Int32).toNatClampNeg < n from hn)⟩
theorem lt_new {f : Nat → Int32} (h : ∀ j, j < 3 → f j = lt0 j) : LtOk f (fun j => decide (j = 1)) := by
  intro j hj
  rw [h j hj]
  unfold lt0
  show (if j = 1 then (1 : Int32) else 0) = bI (decide (j = 1))
  by_cases e : j = 1
  · rw [if_pos e, decide_eq_true e]; rfl
  · rw [if_neg e, decide_eq_false e]; rfl
theorem inv_begin {i c W : Nat} (hc2 : c = 2 ∨ c = 3) (hW : W ≤ 20000 * i) {xl xa xt bn xr xd mA md ml ma mt : Nat → Int32} (hb : ∀ j, j < 245 → ∃ v, v ≤ W ∧ bn j = nI v) (q1 : ∀ j, j < 3 → xl j = lt0 j) (q2 : ∀ j, j < 20 → xa j = 5) (q3 : ∀ j, j < 20 → xt j = 0) (q4 : RuleOk (fun _ => false) xr) (q5 : ∀ j, j < 25 → xd j = -1) (p1 : ∀ j, j < 256 → mA j = 0) (p2 : ∀ j, j < 25 → md j = -1) (p3 : ∀ j, j < 3 → ml j = lt0 j) (p4 : ∀ j, j < 20 → ma j = 5) (p5 : ∀ j, j < 20 → mt j = 0) : Inv i (nI c) xl 1 (nI W) xa xt bn xr 1 1 xd (nI c) 1 1 1 mA md ml ma mt :=
  inv_of (i := i) (h := 1) (w := 1) (n := 1) (al := fun _ => false) (lb := fun j => decide (j = 1)) (dk := fun _ => -1) (ac := fun _ => 5) (th := fun _ => 0) ⟨hc2, ⟨by omega, by omega, by omega, by omega⟩, ⟨by omega, by omega⟩, hW, ⟨lt_new q1, lt_new p3⟩, ⟨q2, q3, p4, p5, ac_new (Nat.le_refl 1)⟩, hb, ⟨q4, fun b hb => p1 b hb⟩, q5, p2, fun _ _ => Or.inl rfl⟩
theorem fin {r s : Int32} {A : Prop} (e : r = s) (a : A) : (r = s → A) ∧ (¬ r = s → False) := ⟨fun _ => a, fun q => q e⟩
theorem nI_one {a b : Nat} (ha : a ≤ 1000000000) (hb : b ≤ 1000000000) (e : nI a = nI b) : a = b := nI_inj (by omega) (by omega) e
theorem sz_nI {h w : Nat} (hs : 1 ≤ h ∧ h ≤ 5 ∧ 1 ≤ w ∧ w ≤ 5) : isSz (nI h) (nI w) := by
  unfold isSz
  rw [nI_toInt (by omega), nI_toInt (by omega)]; omega
theorem tl_nI {w : Nat} (h1 : 1 ≤ w) (h3 : w ≤ 3) : isTl (nI w) := by
  unfold isTl
  rw [nI_toInt (by omega)]; omega
theorem in_cell {cell N : Nat} (h : cell < N) (hN : N ≤ 25) : 0 ≤ (nI cell).toInt ∧ (nI cell).toInt < (N : Nat) := by
  rw [nI_toInt (by omega)]; omega
theorem blkIn {c b : Nat} (hb : b < 256) (hk : okB c b = true) : (0 ≤ (nI b).toInt ∧ (nI b).toInt < 256) ∧ okB c (nI b).toInt.toNat = true := by
  rw [nI_toInt (by omega)]
  exact ⟨by omega, hk⟩
theorem prt_one {c h w : Nat} {dk : Nat → Int32} {dv dv' : Nat → Nat} (hc : c ≤ 3) (h1 : DkOk c (h * w) dk dv) (h2 : DkOk c (h * w) dk dv') (y x : Nat) : prt dv h w y x = prt dv' h w y x := by
  unfold prt
  by_cases q : 1 ≤ y ∧ y ≤ h ∧ 1 ≤ x ∧ x ≤ w
  · rw [if_pos q, if_pos q]
    have hl := cell_lt ⟨q.1, q.2.1⟩ q.2.2
    have a := h1 _ hl
    have b := h2 _ hl
    exact nI_inj (by omega) (by omega) (a.1.symm.trans b.1)
  · rw [if_neg q, if_neg q]
theorem blkK_one {c h w : Nat} {dk : Nat → Int32} {dv dv' : Nat → Nat} (hc : c ≤ 3) (h1 : DkOk c (h * w) dk dv) (h2 : DkOk c (h * w) dk dv') (k : Nat) : blkK dv h w k = blkK dv' h w k := by
  unfold blkK blk
  rw [prt_one hc h1 h2, prt_one hc h1 h2, prt_one hc h1 h2, prt_one hc h1 h2]
theorem lrn_one {c h w : Nat} {dk : Nat → Int32} {dv dv' : Nat → Nat} (hc : c ≤ 3) (h1 : DkOk c (h * w) dk dv) (h2 : DkOk c (h * w) dk dv') (al : Nat → Bool) : ∀ k, lrn al dv h w k = lrn al dv' h w k
  | 0 => rfl
  | k + 1 => by
    show setB (lrn al dv h w k) (blkK dv h w k) true = setB (lrn al dv' h w k) (blkK dv' h w k) true
    rw [lrn_one hc h1 h2 al k, blkK_one hc h1 h2]
theorem learn_one {c h w : Nat} {dk : Nat → Int32} {dv dv' : Nat → Nat} (hc : c ≤ 3) (h1 : DkOk c (h * w) dk dv) (h2 : DkOk c (h * w) dk dv') (al : Nat → Bool) : learnA al dv h w = learnA al dv' h w := by
  unfold learnA
  rw [lrn_one hc h1 h2]
theorem wrong_one {c h w : Nat} {dk : Nat → Int32} {dv dv' : Nat → Nat} (hc : c ≤ 3) (h1 : DkOk c (h * w) dk dv) (h2 : DkOk c (h * w) dk dv') (al : Nat → Bool) : wrongA al dv h w = wrongA al dv' h w := by
  have e : wrongP al dv h w = wrongP al dv' h w := by
    funext k
    unfold wrongP
    rw [blkK_one hc h1 h2]
  unfold wrongA
  rw [e]
theorem desk_cell {c N : Nat} {dk : Nat → Int32} {a b : Int32} (hD : DeskOk c dk) (hb : -1 ≤ b.toInt ∧ b.toInt < c) : DeskOk c (upd dk N b) := by
  intro j hj
  by_cases e : j = N
  · rw [e, upd_s]
    by_cases z : b.toInt = -1
    · exact Or.inl ((fa_eq _ _).mpr (by rw [z, tim1]))
    · exact Or.inr ⟨b.toInt.toNat, by omega, nI_of_toInt (by omega)⟩
  · rw [upd_n _ e]; exact hD j hj
theorem desk_paint {c N : Nat} {dk : Nat → Int32} {row : Int64} (hD : DeskOk c dk) (h : pntOk c row N) : DeskOk c (fun j => if j < N then nI (ptOf row j) else dk j) := by
  intro j hj
  by_cases e : j < N
  · exact Or.inr ⟨ptOf row j, h j e, if_pos e⟩
  · rw [show (fun j => if j < N then nI (ptOf row j) else dk j) j = dk j from if_neg e]; exact hD j hj
theorem lt_put {f lt : Nat → Int32} {lb : Nat → Bool} {a b : Int32} (hl : ∀ j, j < 3 → lt j = bI (lb j)) (hb : 0 ≤ b.toInt ∧ b.toInt ≤ 1) (hf : ∀ j, j < 3 → f j = upd lt a.toInt.toNat b j) : LtOk f (fun j => if j = a.toInt.toNat then decide (b.toInt = 1) else lb j) := by
  intro j hj
  rw [hf j hj]
  by_cases e : j = a.toInt.toNat
  · rw [e, upd_s]
    show b = bI (if a.toInt.toNat = a.toInt.toNat then decide (b.toInt = 1) else lb a.toInt.toNat)
    rw [if_pos rfl]
    by_cases z : b.toInt = 1
    · rw [decide_eq_true z]; exact (fa_eq _ _).mpr (by rw [z]; rfl)
    · rw [decide_eq_false z]; exact (fa_eq _ _).mpr (by rw [show b.toInt = 0 by omega]; rfl)
  · rw [upd_n _ e]
    show lt j = bI (if j = a.toInt.toNat then decide (b.toInt = 1) else lb j)
    rw [if_neg e]; exact hl j hj
theorem ac_put {n N : Nat} {ac th : Nat → Int32} {x y : Int32} (hn : n ≤ 5) (hA : AcOk n ac th) (hx : 0 ≤ x.toInt ∧ x.toInt ≤ 5) (hy : 0 ≤ y.toInt ∧ y.toInt < n) : AcOk n (upd ac N x) (upd th N y) := by
  intro j hj
  by_cases e : j = N
  · have ex : tN (upd ac N x) j = x.toInt.toNat := by unfold tN; rw [e, upd_s]; rfl
    have ey : tN (upd th N y) j = y.toInt.toNat := by unfold tN; rw [e, upd_s]; rfl
    rw [ex, ey, e, upd_s, upd_s]
    exact ⟨⟨nI_of_toInt hx.1, by omega⟩, nI_of_toInt hy.1, by omega⟩
  · have ex : tN (upd ac N x) j = tN ac j := by unfold tN; rw [upd_n _ e]
    have ey : tN (upd th N y) j = tN th j := by unfold tN; rw [upd_n _ e]
    rw [ex, ey, upd_n _ e, upd_n _ e]
    exact hA j hj
def V5 (L : Nat) (l3 : Int32) : Prop := vp_in l3 L ∧ vp_in (l3 + (1 : Int32)) L ∧ vp_in (l3 + (2 : Int32)) L ∧ vp_in (l3 + (3 : Int32)) L ∧ vp_in (l3 + (4 : Int32)) L
theorem pic_ok {j cl N : Nat} (hj : j ≤ 999999999) (hcl : cl < N) (hN : N ≤ 25) : (0 ≤ (nI j).toInt ∧ (nI j).toInt ≤ 999999999) ∧ 0 ≤ (nI cl).toInt ∧ (nI cl).toInt < (N : Nat) := by
  rw [nI_toInt (by omega), nI_toInt (by omega)]; omega
theorem lk_ok {j N : Nat} (hj : j < N) (hN : N ≤ 33554432) : 0 ≤ (nI j).toInt ∧ (nI j).toInt < (N : Nat) := by
  rw [nI_toInt (by omega)]; omega
theorem tl_bad {w h : Nat} (g1 : 1 ≤ w) (g2 : w ≤ 3) (g3 : 1 ≤ h) (g4 : h ≤ 1000000000) (z : ¬ isTl (nI w) ∨ talBad (nI h)) : False := by
  rcases z with z | z
  · exact z (tl_nI g1 g2)
  · exact z (by rw [nI_toInt (by omega)]; omega)
