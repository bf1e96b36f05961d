abbrev W_J7_fill_53178 (cI cJ cZ : ClassId) (h_A : Nat) (nA : Nat) (f_A : Nat → Int32) : va_W := [(h_A, .inl (cI, nA, .inl f_A))]
abbrev rm_J7_fill_53178 : Room := { frames := 0, cells := 0, slots := 0, locals := 0 }
def r_J7_fill_53178_5 (nA : Nat) (post : (Nat → Int32) → Prop) (l1 : Int32) (l3 : Int32) : Nat → (Int32) → (Nat → Int32) → Prop
  | 0, _, _ => False
  | n + 1, l2, f_A => ((l3 ≤ l2 → (post f_A)) ∧ (¬ l3 ≤ l2 → (vp_in l2 nA ∧ ((r_J7_fill_53178_5 nA post l1 l3 n) (l2 + (1 : Int32)) (upd f_A (l2).toNatClampNeg l1)))))
def q_J7_fill_53178_5 (nA : Nat) (post : (Nat → Int32) → Prop) (l1 : Int32) (l2 : Int32) (l3 : Int32) (f_A : Nat → Int32) : Prop := ∃ n, r_J7_fill_53178_5 nA post l1 l3 n l2 f_A
def q_J7_fill_53178 (nA : Nat) (f_A : Nat → Int32) (l1 : Int32) (post : (Nat → Int32) → Prop) : Prop := ((q_J7_fill_53178_5 nA post) l1 (0 : Int32) (Int32.ofNat nA) f_A)
theorem hdS_J7_fill_53178 : yJ7_fill_53178.cls ≠ "java/lang/invoke/MethodHandle" ∧ yJ7_fill_53178.cls ≠ "java/lang/invoke/VarHandle" ∧ (parseMethodDescriptor yJ7_fill_53178.desc).map (fun d => d.parameters.length) = some 2 := by decide +kernel
set_option maxHeartbeats 4000000 in
set_option maxRecDepth 100000 in
theorem c_J7_fill_53178 (l : Launch) (dC : Nat → ClassId) (dI : Nat → Nat → Nat) (cI cJ cZ : ClassId) (h_A : Nat) (sz : Nat) (nA : Nat) (f_A : Nat → Int32) (l1 : Int32) {post : (Nat → Int32) → Prop} (hq : q_J7_fill_53178 nA f_A l1 post) : Met l yJ7_fill_53178 wsJ7_fill_53178 rm_J7_fill_53178 (va_Pc [.ref h_A, .int l1] (gx_Pre (dC, dI) vwCl (gx_tys cI cJ cZ) sz (W_J7_fill_53178 cI cJ cZ h_A nA f_A))) (va_Qv (fun (u : (Nat → Int32)) => post u) (gx_B (dC, dI) vwCl (gx_tys cI cJ cZ) (va_A (W_J7_fill_53178 cI cJ cZ h_A nA f_A) sz) (fun (u : (Nat → Int32)) => (W_J7_fill_53178 cI cJ cZ h_A nA u))) (va_A (W_J7_fill_53178 cI cJ cZ h_A nA f_A) sz)) 0 0 (va_A (W_J7_fill_53178 cI cJ cZ h_A nA f_A) sz) := by
  refine gx_v (cc := cJ7_fill_53178) (maxL := 4) (by decide) rfl (Nat.le_of_ble_eq_true rfl) ?_
  intro p e s m args below meth c A QQ hx hb hml hown hts hA hP hK hD hret ls hl
  have hown : s.vm.findClass RJ7 = some m.cls := hown
  have hS : va_S A s.heap s.heap [] := va_S.rf
  have hl : lv_has ls 4 [(0, .ref h_A), (1, .int l1)] := hl
  have L5 : ∀ (l1 : Int32) (l3 : Int32) (n : Nat) (l2 : Int32) (f_A : Nat → Int32), r_J7_fill_53178_5 nA post l1 l3 n l2 f_A → ∀ (H : Heap) (locs : List Loc), va_P (dC, dI) vwCl (W_J7_fill_53178 cI cJ cZ h_A nA f_A) H → va_D A (W_J7_fill_53178 cI cJ cZ h_A nA f_A) → va_S A s.heap H locs → ∀ ls : Array Slot, lv_has ls 4 [(0, .ref h_A), (1, .int l1), (2, .int l2), (3, .int l3)] → W p l e rm_J7_fill_53178 s m args below meth c H locs 0 0 QQ (F0 m 5 ls []) := by
    intro l1 l3 n
    induction n with
    | zero => intro l2 f_A hq; exact False.elim hq
    | succ n ih =>
      intro l2 f_A hq H locs hP hD hS ls hl
      unfold r_J7_fill_53178_5 at hq
      refine lv_iload_n hx hb dJ7_fill_53178_5 rfl (lv_at hl 2 rfl) ?_
      refine lv_iload_n hx hb dJ7_fill_53178_6 rfl (lv_at hl 3 rfl) ?_
      refine lv_icmp_ge (tgt := 20) hx hb dJ7_fill_53178_7 (by decide) (fun c1 => ?_) (fun c1 => ?_)
      · replace hq := hq.1 c1
        exact hret f_A hq _ _ hP hD hS _ _ dJ7_fill_53178_20
      · replace hq := hq.2 c1
        refine lv_aload_n hx hb dJ7_fill_53178_10 rfl (lv_at hl 0 rfl) ?_
        refine lv_iload_n hx hb dJ7_fill_53178_11 rfl (lv_at hl 2 rfl) ?_
        refine lv_iload_n hx hb dJ7_fill_53178_12 rfl (lv_at hl 1 rfl) ?_
        obtain ⟨hv2, hq⟩ := hq
        refine va_iast hx hb hK hP hD hS 0 0 rfl rfl hv2 dJ7_fill_53178_13 (fun H locs hP hD hS => ?_)
        have hP : va_P (dC, dI) vwCl (W_J7_fill_53178 cI cJ cZ h_A nA (upd f_A (l2).toNatClampNeg l1)) H := hP
        have hD : va_D A (W_J7_fill_53178 cI cJ cZ h_A nA (upd f_A (l2).toNatClampNeg l1)) := hD
        refine lv_iinc (v := (l2 + (1 : Int32))) (lv' := [(2, .int (l2 + (1 : Int32))), (0, .ref h_A), (1, .int l1), (3, .int l3)]) hx hb dJ7_fill_53178_14 hl (k := 2) rfl rfl (by decide) rfl (fun ls hl => ?_)
        refine lv_goto (tgt := 5) hx hb dJ7_fill_53178_17 (by decide) ?_
        exact ih _ _ hq _ _ hP hD hS _ (lv_sub hl [1, 2, 0, 3] rfl)
  have C5 : ∀ (l1 : Int32) (l2 : Int32) (l3 : Int32) (f_A : Nat → Int32), q_J7_fill_53178_5 nA post l1 l2 l3 f_A → ∀ (H : Heap) (locs : List Loc), va_P (dC, dI) vwCl (W_J7_fill_53178 cI cJ cZ h_A nA f_A) H → va_D A (W_J7_fill_53178 cI cJ cZ h_A nA f_A) → va_S A s.heap H locs → ∀ ls : Array Slot, lv_has ls 4 [(0, .ref h_A), (1, .int l1), (2, .int l2), (3, .int l3)] → W p l e rm_J7_fill_53178 s m args below meth c H locs 0 0 QQ (F0 m 5 ls []) := by
    intro l1 l2 l3 f_A hq H locs hP hD hS ls hl
    obtain ⟨n, hq⟩ := hq
    exact L5 _ _ n _ _ hq H locs hP hD hS ls hl
  unfold q_J7_fill_53178 at hq
  refine lv_iconst (v := (0 : Int32)) hx hb dJ7_fill_53178_0 (by decide) ?_
  refine lv_istore_n (lv' := [(2, .int (0 : Int32)), (0, .ref h_A), (1, .int l1)]) hx hb dJ7_fill_53178_1 rfl hl (by decide) rfl (fun ls hl => ?_)
  refine lv_aload_n hx hb dJ7_fill_53178_2 rfl (lv_at hl 1 rfl) ?_
  refine va_alen (v := (Int32.ofNat nA)) hx hb hK hP 0 0 rfl rfl rfl dJ7_fill_53178_3 ?_
  refine lv_istore_n (lv' := [(3, .int (Int32.ofNat nA)), (2, .int (0 : Int32)), (0, .ref h_A), (1, .int l1)]) hx hb dJ7_fill_53178_4 rfl hl (by decide) rfl (fun ls hl => ?_)
  exact C5 _ _ _ _ hq _ _ hP hD hS _ (lv_sub hl [2, 3, 1, 0] rfl)

abbrev W_X4_lay (cI cJ cZ : ClassId) (h_S h_S_cells : Nat) (S_h : Int32) (S_w : Int32) (f_S_cells : Nat → Int32) : va_W := [(h_S, .inr (4, [.int S_h, .int S_w, .ref h_S_cells])), (h_S_cells, .inl (cI, 25, .inl f_S_cells))]
abbrev rm_X4_lay : Room := { frames := 1, cells := 0, slots := 0, locals := 23 }
def q_X4_lay (S_h : Int32) (S_w : Int32) (f_S_cells : Nat → Int32) (l1 : Int32) (l2 : Int32) (post : (Int32) → (Int32) → (Nat → Int32) → Prop) : Prop := (q_J7_fill_53178 25 f_S_cells (-1 : Int32) (fun (f_S_cells_1 : Nat → Int32) => (post l1 l2 f_S_cells_1)))
theorem hdV_X4_lay : yX4_lay.cls = RX4 ∧ yX4_lay.cls ≠ "java/lang/invoke/MethodHandle" ∧ yX4_lay.cls ≠ "java/lang/invoke/VarHandle" ∧ (parseMethodDescriptor yX4_lay.desc).map (fun d => d.parameters.length) = some 2 := by decide +kernel
set_option maxHeartbeats 4000000 in
set_option maxRecDepth 100000 in
theorem c_X4_lay (l : Launch) (dC : Nat → ClassId) (dI : Nat → Nat → Nat) (cI cJ cZ : ClassId) (h_S h_S_cells : Nat) (sz : Nat) (S_h : Int32) (S_w : Int32) (f_S_cells : Nat → Int32) (l1 : Int32) (l2 : Int32) {post : (Int32) → (Int32) → (Nat → Int32) → Prop} (hq : q_X4_lay S_h S_w f_S_cells l1 l2 post) : Met l yX4_lay wsX4_lay rm_X4_lay (va_Pc [.ref h_S, .int l1, .int l2] (gx_Pre (dC, dI) vwCl (gx_tys cI cJ cZ) sz (W_X4_lay cI cJ cZ h_S h_S_cells S_h S_w f_S_cells))) (va_Qv (fun (u : (Int32) × (Int32) × (Nat → Int32)) => post u.1 u.2.1 u.2.2) (gx_B (dC, dI) vwCl (gx_tys cI cJ cZ) (va_A (W_X4_lay cI cJ cZ h_S h_S_cells S_h S_w f_S_cells) sz) (fun (u : (Int32) × (Int32) × (Nat → Int32)) => (W_X4_lay cI cJ cZ h_S h_S_cells u.1 u.2.1 u.2.2))) (va_A (W_X4_lay cI cJ cZ h_S h_S_cells S_h S_w f_S_cells) sz)) 0 0 (va_A (W_X4_lay cI cJ cZ h_S h_S_cells S_h S_w f_S_cells) sz) := by
  refine gx_v (cc := cX4_lay) (maxL := 3) (by decide) rfl (Nat.le_of_ble_eq_true rfl) ?_
  intro p e s m args below meth c A QQ hx hb hml hown hts hA hP hK hD hret ls hl
  have hown : s.vm.findClass RX4 = some m.cls := hown
  have hf9 := hts (.fieldLink RX4 9 "SmallWindows$Sheet" "h" "I") (by decide +kernel)
  have hf15 := hts (.fieldLink RX4 15 "SmallWindows$Sheet" "w" "I") (by decide +kernel)
  have hf18 := hts (.fieldLink RX4 18 "SmallWindows$Sheet" "cells" "[I") (by decide +kernel)
  have hinX4 : ∀ w ∈ u_ws RX4 TX4 3, w ∈ wsX4_lay := fun w h => List.mem_cons_of_mem _ ((List.mem_append_right _ h))
  have hS : va_S A s.heap s.heap [] := va_S.rf
  have hl : lv_has ls 3 [(0, .ref h_S), (1, .int l1), (2, .int l2)] := hl
  unfold q_X4_lay at hq
  refine lv_aload_n hx hb dX4_lay_0 rfl (lv_at hl 0 rfl) ?_
  refine lv_iload_n hx hb dX4_lay_1 rfl (lv_at hl 1 rfl) ?_
  refine va_put (D := (dC, dI)) (ci := 4) (v := .int l1) (ty := tyX4 0) (C := RX4) (T := TX4) (N := 3) hx hb hts hinX4 tyX4 tyX4_ok nmX4 hown hK hP hD hS 0 rfl rfl 0 (by decide) hf9 (fun _ h9 => h9) rfl (tyX4_ok 0 (by decide)) rfl rfl (Nat.le_of_ble_eq_true rfl) dX4_lay_2 (fun H locs hP hD hS => ?_)
  have hP : va_P (dC, dI) vwCl (W_X4_lay cI cJ cZ h_S h_S_cells l1 S_w f_S_cells) H := hP
  have hD : va_D A (W_X4_lay cI cJ cZ h_S h_S_cells l1 S_w f_S_cells) := hD
  refine lv_aload_n hx hb dX4_lay_5 rfl (lv_at hl 0 rfl) ?_
  refine lv_iload_n hx hb dX4_lay_6 rfl (lv_at hl 2 rfl) ?_
  refine va_put (D := (dC, dI)) (ci := 4) (v := .int l2) (ty := tyX4 1) (C := RX4) (T := TX4) (N := 3) hx hb hts hinX4 tyX4 tyX4_ok nmX4 hown hK hP hD hS 0 rfl rfl 1 (by decide) hf15 (fun _ h9 => h9) rfl (tyX4_ok 1 (by decide)) rfl rfl (Nat.le_of_ble_eq_true rfl) dX4_lay_7 (fun H locs hP hD hS => ?_)
  have hP : va_P (dC, dI) vwCl (W_X4_lay cI cJ cZ h_S h_S_cells l1 l2 f_S_cells) H := hP
  have hD : va_D A (W_X4_lay cI cJ cZ h_S h_S_cells l1 l2 f_S_cells) := hD
  refine lv_aload_n hx hb dX4_lay_10 rfl (lv_at hl 0 rfl) ?_
  refine va_get (D := (dC, dI)) (ci := 4) (v := .ref h_S_cells) (C := RX4) (T := TX4) (N := 3) hx hb hts hinX4 hown hK hP 0 rfl rfl 2 (by decide) hf18 (fun _ h9 => h9) rfl dX4_lay_11 ?_
  refine lv_iconst (v := (-1 : Int32)) hx hb dX4_lay_14 (by decide) ?_
  refine gx_cSv (As := [.ref h_S_cells, .int (-1 : Int32)]) (rest := []) ⟨hx, hb, hml, hown, hts⟩ (c_J7_fill_53178 l dC dI cI cJ cZ h_S_cells H.size 25 f_S_cells (-1 : Int32) hq) (va_cwS 2 hts gX4_lay_J7_fill_53178 rfl rfl rfl hdS_J7_fill_53178 ⟨Nat.le_of_ble_eq_true rfl, Nat.le_of_ble_eq_true rfl⟩) hK hP hD hS hA [1] [0] rfl rfl rfl rfl rfl rfl hl.1 (Nat.le_of_ble_eq_true rfl) dX4_lay_15 rfl (fun u H locs hq hP hD hS => ?_)
  obtain ⟨f_S_cells_1, rfl⟩ : ∃ z, z = u := ⟨_, rfl⟩
  try dsimp only at hq
  have hP : va_P (dC, dI) vwCl (W_X4_lay cI cJ cZ h_S h_S_cells l1 l2 f_S_cells_1) H := hP
  have hD : va_D A (W_X4_lay cI cJ cZ h_S h_S_cells l1 l2 f_S_cells_1) := hD
  exact hret (l1, l2, f_S_cells_1) hq _ _ hP hD hS _ _ dX4_lay_18

abbrev W_X4_size (cI cJ cZ : ClassId) (h_S h_S_cells : Nat) (S_h : Int32) (S_w : Int32) : va_W := [(h_S, .inr (4, [.int S_h, .int S_w, .ref h_S_cells]))]
abbrev rm_X4_size : Room := { frames := 0, cells := 0, slots := 0, locals := 0 }
def q_X4_size (S_h : Int32) (S_w : Int32) (post : Int32 → Prop) : Prop := (post (S_h * S_w))
theorem hdV_X4_size : yX4_size.cls = RX4 ∧ yX4_size.cls ≠ "java/lang/invoke/MethodHandle" ∧ yX4_size.cls ≠ "java/lang/invoke/VarHandle" ∧ (parseMethodDescriptor yX4_size.desc).map (fun d => d.parameters.length) = some 0 := by decide +kernel
set_option maxHeartbeats 4000000 in
set_option maxRecDepth 100000 in
theorem c_X4_size (l : Launch) (dC : Nat → ClassId) (dI : Nat → Nat → Nat) (cI cJ cZ : ClassId) (h_S h_S_cells : Nat) (sz : Nat) (S_h : Int32) (S_w : Int32)  {post : Int32 → Prop} (hq : q_X4_size S_h S_w post) : Met l yX4_size wsX4_size rm_X4_size (va_Pc [.ref h_S] (gx_Pre (dC, dI) vwCl (gx_tys cI cJ cZ) sz (W_X4_size cI cJ cZ h_S h_S_cells S_h S_w))) (va_Qi (fun (r : Int32) (u : Unit) => post r) (gx_B (dC, dI) vwCl (gx_tys cI cJ cZ) (va_A (W_X4_size cI cJ cZ h_S h_S_cells S_h S_w) sz) (fun (u : Unit) => (W_X4_size cI cJ cZ h_S h_S_cells S_h S_w))) (va_A (W_X4_size cI cJ cZ h_S h_S_cells S_h S_w) sz)) 0 0 (va_A (W_X4_size cI cJ cZ h_S h_S_cells S_h S_w) sz) := by
  refine gx_i (cc := cX4_size) (maxL := 1) (by decide) rfl (Nat.le_of_ble_eq_true rfl) ?_
  intro p e s m args below meth c A QQ hx hb hml hown hts hA hP hK hD hret ls hl
  have hown : s.vm.findClass RX4 = some m.cls := hown
  have hf9 := hts (.fieldLink RX4 9 "SmallWindows$Sheet" "h" "I") (by decide +kernel)
  have hf15 := hts (.fieldLink RX4 15 "SmallWindows$Sheet" "w" "I") (by decide +kernel)
  have hinX4 : ∀ w ∈ u_ws RX4 TX4 3, w ∈ wsX4_size := fun w h => List.mem_cons_of_mem _ ((List.mem_append_right _ h))
  have hS : va_S A s.heap s.heap [] := va_S.rf
  have hl : lv_has ls 1 [(0, .ref h_S)] := hl
  unfold q_X4_size at hq
  refine lv_aload_n hx hb dX4_size_0 rfl (lv_at hl 0 rfl) ?_
  refine va_get (D := (dC, dI)) (ci := 4) (v := .int S_h) (C := RX4) (T := TX4) (N := 3) hx hb hts hinX4 hown hK hP 0 rfl rfl 0 (by decide) hf9 (fun _ h9 => h9) rfl dX4_size_1 ?_
  refine lv_aload_n hx hb dX4_size_4 rfl (lv_at hl 0 rfl) ?_
  refine va_get (D := (dC, dI)) (ci := 4) (v := .int S_w) (C := RX4) (T := TX4) (N := 3) hx hb hts hinX4 hown hK hP 0 rfl rfl 1 (by decide) hf15 (fun _ h9 => h9) rfl dX4_size_5 ?_
  refine lv_imul hx hb dX4_size_8 ?_
  exact hret (S_h * S_w) () hq _ _ hP hD hS _ _ dX4_size_9

abbrev W_X4_holds (cI cJ cZ : ClassId) (h_S h_S_cells : Nat) (S_h : Int32) (S_w : Int32) : va_W := [(h_S, .inr (4, [.int S_h, .int S_w, .ref h_S_cells]))]
abbrev rm_X4_holds : Room := { frames := 1, cells := 0, slots := 0, locals := 20 }
def q_X4_holds (S_h : Int32) (S_w : Int32) (l1 : Int32) (post : Int32 → Prop) : Prop := ((l1 < 0 → (post (0 : Int32))) ∧ (¬ l1 < 0 → (q_X4_size S_h S_w (fun (r2 : Int32) => ((r2 ≤ l1 → (post (0 : Int32))) ∧ (¬ r2 ≤ l1 → (post (1 : Int32))))))))
theorem hdV_X4_holds : yX4_holds.cls = RX4 ∧ yX4_holds.cls ≠ "java/lang/invoke/MethodHandle" ∧ yX4_holds.cls ≠ "java/lang/invoke/VarHandle" ∧ (parseMethodDescriptor yX4_holds.desc).map (fun d => d.parameters.length) = some 1 := by decide +kernel
set_option maxHeartbeats 4000000 in
set_option maxRecDepth 100000 in
theorem c_X4_holds (l : Launch) (dC : Nat → ClassId) (dI : Nat → Nat → Nat) (cI cJ cZ : ClassId) (h_S h_S_cells : Nat) (sz : Nat) (S_h : Int32) (S_w : Int32) (l1 : Int32) {post : Int32 → Prop} (hq : q_X4_holds S_h S_w l1 post) : Met l yX4_holds wsX4_holds rm_X4_holds (va_Pc [.ref h_S, .int l1] (gx_Pre (dC, dI) vwCl (gx_tys cI cJ cZ) sz (W_X4_holds cI cJ cZ h_S h_S_cells S_h S_w))) (va_Qi (fun (r : Int32) (u : Unit) => post r) (gx_B (dC, dI) vwCl (gx_tys cI cJ cZ) (va_A (W_X4_holds cI cJ cZ h_S h_S_cells S_h S_w) sz) (fun (u : Unit) => (W_X4_holds cI cJ cZ h_S h_S_cells S_h S_w))) (va_A (W_X4_holds cI cJ cZ h_S h_S_cells S_h S_w) sz)) 0 0 (va_A (W_X4_holds cI cJ cZ h_S h_S_cells S_h S_w) sz) := by
  refine gx_z (cc := cX4_holds) (maxL := 2) (by decide) rfl (Nat.le_of_ble_eq_true rfl) ?_
  intro p e s m args below meth c A QQ hx hb hml hown hts hA hP hK hD hret ls hl
  have hown : s.vm.findClass RX4 = some m.cls := hown
  have hS : va_S A s.heap s.heap [] := va_S.rf
  have hl : lv_has ls 2 [(0, .ref h_S), (1, .int l1)] := hl
  unfold q_X4_holds at hq
  refine lv_iload_n hx hb dX4_holds_0 rfl (lv_at hl 1 rfl) ?_
  refine lv_if_lt (tgt := 16) hx hb dX4_holds_1 (by decide) (fun c1 => ?_) (fun c1 => ?_)
  · replace hq := hq.1 c1
    refine lv_iconst (v := (0 : Int32)) hx hb dX4_holds_16 (by decide) ?_
    exact hret (0 : Int32) () (Or.inl rfl) hq _ _ hP hD hS _ _ dX4_holds_17
  · replace hq := hq.2 c1
    refine lv_iload_n hx hb dX4_holds_4 rfl (lv_at hl 1 rfl) ?_
    refine lv_aload_n hx hb dX4_holds_5 rfl (lv_at hl 0 rfl) ?_
    refine gx_cVi (C := RX4) (As := []) (rest := [.int l1]) ⟨hx, hb, hml, hown, hts⟩ (c_X4_size l dC dI cI cJ cZ h_S h_S_cells s.heap.size S_h S_w hq) (cwV 0 hts gX4_holds_X4_size rfl rfl rfl hdV_X4_size ⟨Nat.le_of_ble_eq_true rfl, Nat.le_of_ble_eq_true rfl⟩) hK hP hD hS hA [0] [] rfl rfl rfl rfl rfl (ci := 4) (q0 := 0) rfl rfl rfl rfl hl.1 (Nat.le_of_ble_eq_true rfl) dX4_holds_6 rfl (fun r2 u H locs hq hP hD hS => ?_)
    try dsimp only at hq
    have hP : va_P (dC, dI) vwCl (W_X4_holds cI cJ cZ h_S h_S_cells S_h S_w) H := hP
    have hD : va_D A (W_X4_holds cI cJ cZ h_S h_S_cells S_h S_w) := hD
    refine lv_icmp_ge (tgt := 16) hx hb dX4_holds_9 (by decide) (fun c3 => ?_) (fun c3 => ?_)
    · replace hq := hq.1 c3
      refine lv_iconst (v := (0 : Int32)) hx hb dX4_holds_16 (by decide) ?_
      exact hret (0 : Int32) () (Or.inl rfl) hq _ _ hP hD hS _ _ dX4_holds_17
    · replace hq := hq.2 c3
      refine lv_iconst (v := (1 : Int32)) hx hb dX4_holds_12 (by decide) ?_
      refine lv_goto (tgt := 17) hx hb dX4_holds_13 (by decide) ?_
      exact hret (1 : Int32) () (Or.inr rfl) hq _ _ hP hD hS _ _ dX4_holds_17

abbrev W_X4_gaps (cI cJ cZ : ClassId) (h_S h_S_cells : Nat) (S_h : Int32) (S_w : Int32) (f_S_cells : Nat → Int32) : va_W := [(h_S, .inr (4, [.int S_h, .int S_w, .ref h_S_cells])), (h_S_cells, .inl (cI, 25, .inl f_S_cells))]
abbrev rm_X4_gaps : Room := { frames := 1, cells := 0, slots := 0, locals := 20 }
def r_X4_gaps_9 (S_h : Int32) (S_w : Int32) (f_S_cells : Nat → Int32) (post : Int32 → Prop) (l2 : Int32) : Nat → (Int32) → (Int32) → Prop
  | 0, _, _ => False
  | n + 1, l1, l3 => ((l2 ≤ l3 → (post l1)) ∧ (¬ l2 ≤ l3 → (vp_in l3 25 ∧ ((¬ (f_S_cells (l3).toNatClampNeg) = (-1 : Int32) → ((r_X4_gaps_9 S_h S_w f_S_cells post l2 n) l1 (l3 + (1 : Int32)))) ∧ ((f_S_cells (l3).toNatClampNeg) = (-1 : Int32) → ((r_X4_gaps_9 S_h S_w f_S_cells post l2 n) (l1 + (1 : Int32)) (l3 + (1 : Int32))))))))
def q_X4_gaps_9 (S_h : Int32) (S_w : Int32) (f_S_cells : Nat → Int32) (post : Int32 → Prop) (l1 : Int32) (l2 : Int32) (l3 : Int32) : Prop := ∃ n, r_X4_gaps_9 S_h S_w f_S_cells post l2 n l1 l3
def q_X4_gaps (S_h : Int32) (S_w : Int32) (f_S_cells : Nat → Int32) (post : Int32 → Prop) : Prop := (q_X4_size S_h S_w (fun (r1 : Int32) => ((q_X4_gaps_9 S_h S_w f_S_cells post) (0 : Int32) r1 (0 : Int32))))
theorem hdV_X4_gaps : yX4_gaps.cls = RX4 ∧ yX4_gaps.cls ≠ "java/lang/invoke/MethodHandle" ∧ yX4_gaps.cls ≠ "java/lang/invoke/VarHandle" ∧ (parseMethodDescriptor yX4_gaps.desc).map (fun d => d.parameters.length) = some 0 := by decide +kernel
set_option maxHeartbeats 4000000 in
set_option maxRecDepth 100000 in
theorem c_X4_gaps (l : Launch) (dC : Nat → ClassId) (dI : Nat → Nat → Nat) (cI cJ cZ : ClassId) (h_S h_S_cells : Nat) (sz : Nat) (S_h : Int32) (S_w : Int32) (f_S_cells : Nat → Int32)  {post : Int32 → Prop} (hq : q_X4_gaps S_h S_w f_S_cells post) : Met l yX4_gaps wsX4_gaps rm_X4_gaps (va_Pc [.ref h_S] (gx_Pre (dC, dI) vwCl (gx_tys cI cJ cZ) sz (W_X4_gaps cI cJ cZ h_S h_S_cells S_h S_w f_S_cells))) (va_Qi (fun (r : Int32) (u : Unit) => post r) (gx_B (dC, dI) vwCl (gx_tys cI cJ cZ) (va_A (W_X4_gaps cI cJ cZ h_S h_S_cells S_h S_w f_S_cells) sz) (fun (u : Unit) => (W_X4_gaps cI cJ cZ h_S h_S_cells S_h S_w f_S_cells))) (va_A (W_X4_gaps cI cJ cZ h_S h_S_cells S_h S_w f_S_cells) sz)) 0 0 (va_A (W_X4_gaps cI cJ cZ h_S h_S_cells S_h S_w f_S_cells) sz) := by
  refine gx_i (cc := cX4_gaps) (maxL := 4) (by decide) rfl (Nat.le_of_ble_eq_true rfl) ?_
  intro p e s m args below meth c A QQ hx hb hml hown hts hA hP hK hD hret ls hl
  have hown : s.vm.findClass RX4 = some m.cls := hown
  have hf18 := hts (.fieldLink RX4 18 "SmallWindows$Sheet" "cells" "[I") (by decide +kernel)
  have hinX4 : ∀ w ∈ u_ws RX4 TX4 3, w ∈ wsX4_gaps := fun w h => List.mem_cons_of_mem _ ((List.mem_append_right _ h))
  have hS : va_S A s.heap s.heap [] := va_S.rf
  have hl : lv_has ls 4 [(0, .ref h_S)] := hl
  have L9 : ∀ (l2 : Int32) (n : Nat) (l1 : Int32) (l3 : Int32), r_X4_gaps_9 S_h S_w f_S_cells post l2 n l1 l3 → ∀ (H : Heap) (locs : List Loc), va_P (dC, dI) vwCl (W_X4_gaps cI cJ cZ h_S h_S_cells S_h S_w f_S_cells) H → va_D A (W_X4_gaps cI cJ cZ h_S h_S_cells S_h S_w f_S_cells) → va_S A s.heap H locs → ∀ ls : Array Slot, lv_has ls 4 [(0, .ref h_S), (1, .int l1), (2, .int l2), (3, .int l3)] → W p l e rm_X4_gaps s m args below meth c H locs 0 0 QQ (F0 m 9 ls []) := by
    intro l2 n
    induction n with
    | zero => intro l1 l3 hq; exact False.elim hq
    | succ n ih =>
      intro l1 l3 hq H locs hP hD hS ls hl
      unfold r_X4_gaps_9 at hq
      refine lv_iload_n hx hb dX4_gaps_9 rfl (lv_at hl 3 rfl) ?_
      refine lv_iload_n hx hb dX4_gaps_10 rfl (lv_at hl 2 rfl) ?_
      refine lv_icmp_ge (tgt := 33) hx hb dX4_gaps_11 (by decide) (fun c2 => ?_) (fun c2 => ?_)
      · replace hq := hq.1 c2
        refine lv_iload_n hx hb dX4_gaps_33 rfl (lv_at hl 1 rfl) ?_
        exact hret l1 () hq _ _ hP hD hS _ _ dX4_gaps_34
      · replace hq := hq.2 c2
        refine lv_aload_n hx hb dX4_gaps_14 rfl (lv_at hl 0 rfl) ?_
        refine va_get (D := (dC, dI)) (ci := 4) (v := .ref h_S_cells) (C := RX4) (T := TX4) (N := 3) hx hb hts hinX4 hown hK hP 0 rfl rfl 2 (by decide) hf18 (fun _ h9 => h9) rfl dX4_gaps_15 ?_
        refine lv_iload_n hx hb dX4_gaps_18 rfl (lv_at hl 3 rfl) ?_
        obtain ⟨hv3, hq⟩ := hq
        refine va_iald hx hb hK hP 1 0 rfl rfl hv3 dX4_gaps_19 ?_
        refine lv_iconst (v := (-1 : Int32)) hx hb dX4_gaps_20 (by decide) ?_
        refine lv_icmp_ne (tgt := 27) hx hb dX4_gaps_21 (by decide) (fun c4 => ?_) (fun c4 => ?_)
        · replace hq := hq.1 c4
          refine lv_iinc (v := (l3 + (1 : Int32))) (lv' := [(3, .int (l3 + (1 : Int32))), (0, .ref h_S), (1, .int l1), (2, .int l2)]) hx hb dX4_gaps_27 hl (k := 3) rfl rfl (by decide) rfl (fun ls hl => ?_)
          refine lv_goto (tgt := 9) hx hb dX4_gaps_30 (by decide) ?_
          exact ih _ _ hq _ _ hP hD hS _ (lv_sub hl [1, 2, 3, 0] rfl)
        · replace hq := hq.2 c4
          refine lv_iinc (v := (l1 + (1 : Int32))) (lv' := [(1, .int (l1 + (1 : Int32))), (0, .ref h_S), (2, .int l2), (3, .int l3)]) hx hb dX4_gaps_24 hl (k := 1) rfl rfl (by decide) rfl (fun ls hl => ?_)
          refine lv_iinc (v := (l3 + (1 : Int32))) (lv' := [(3, .int (l3 + (1 : Int32))), (1, .int (l1 + (1 : Int32))), (0, .ref h_S), (2, .int l2)]) hx hb dX4_gaps_27 hl (k := 3) rfl rfl (by decide) rfl (fun ls hl => ?_)
          refine lv_goto (tgt := 9) hx hb dX4_gaps_30 (by decide) ?_
          exact ih _ _ hq _ _ hP hD hS _ (lv_sub hl [2, 1, 3, 0] rfl)
  have C9 : ∀ (l1 : Int32) (l2 : Int32) (l3 : Int32), q_X4_gaps_9 S_h S_w f_S_cells post l1 l2 l3 → ∀ (H : Heap) (locs : List Loc), va_P (dC, dI) vwCl (W_X4_gaps cI cJ cZ h_S h_S_cells S_h S_w f_S_cells) H → va_D A (W_X4_gaps cI cJ cZ h_S h_S_cells S_h S_w f_S_cells) → va_S A s.heap H locs → ∀ ls : Array Slot, lv_has ls 4 [(0, .ref h_S), (1, .int l1), (2, .int l2), (3, .int l3)] → W p l e rm_X4_gaps s m args below meth c H locs 0 0 QQ (F0 m 9 ls []) := by
    intro l1 l2 l3 hq H locs hP hD hS ls hl
    obtain ⟨n, hq⟩ := hq
    exact L9 _ n _ _ hq H locs hP hD hS ls hl
  unfold q_X4_gaps at hq
  refine lv_iconst (v := (0 : Int32)) hx hb dX4_gaps_0 (by decide) ?_
  refine lv_istore_n (lv' := [(1, .int (0 : Int32)), (0, .ref h_S)]) hx hb dX4_gaps_1 rfl hl (by decide) rfl (fun ls hl => ?_)
  refine lv_aload_n hx hb dX4_gaps_2 rfl (lv_at hl 1 rfl) ?_
  refine gx_cVi (C := RX4) (As := []) (rest := []) ⟨hx, hb, hml, hown, hts⟩ (c_X4_size l dC dI cI cJ cZ h_S h_S_cells s.heap.size S_h S_w hq) (cwV 0 hts gX4_gaps_X4_size rfl rfl rfl hdV_X4_size ⟨Nat.le_of_ble_eq_true rfl, Nat.le_of_ble_eq_true rfl⟩) hK hP hD hS hA [0] [1] rfl rfl rfl rfl rfl (ci := 4) (q0 := 0) rfl rfl rfl rfl hl.1 (Nat.le_of_ble_eq_true rfl) dX4_gaps_3 rfl (fun r1 u H locs hq hP hD hS => ?_)
  try dsimp only at hq
  have hP : va_P (dC, dI) vwCl (W_X4_gaps cI cJ cZ h_S h_S_cells S_h S_w f_S_cells) H := hP.sub [1, 0] rfl
  have hD : va_D A (W_X4_gaps cI cJ cZ h_S h_S_cells S_h S_w f_S_cells) := hD.sub [1, 0] (by decide) rfl
  refine lv_istore_n (lv' := [(2, .int r1), (1, .int (0 : Int32)), (0, .ref h_S)]) hx hb dX4_gaps_6 rfl hl (by decide) rfl (fun ls hl => ?_)
  refine lv_iconst (v := (0 : Int32)) hx hb dX4_gaps_7 (by decide) ?_
  refine lv_istore_n (lv' := [(3, .int (0 : Int32)), (2, .int r1), (1, .int (0 : Int32)), (0, .ref h_S)]) hx hb dX4_gaps_8 rfl hl (by decide) rfl (fun ls hl => ?_)
  exact C9 _ _ _ hq _ _ hP hD hS _ (lv_sub hl [3, 2, 1, 0] rfl)

abbrev W_X4_at (cI cJ cZ : ClassId) (h_S h_S_cells : Nat) (S_h : Int32) (S_w : Int32) (f_S_cells : Nat → Int32) : va_W := [(h_S, .inr (4, [.int S_h, .int S_w, .ref h_S_cells])), (h_S_cells, .inl (cI, 25, .inl f_S_cells))]
abbrev rm_X4_at : Room := { frames := 0, cells := 0, slots := 0, locals := 0 }
def q_X4_at (S_h : Int32) (S_w : Int32) (f_S_cells : Nat → Int32) (l1 : Int32) (l2 : Int32) (post : Int32 → Prop) : Prop := ((l1 < 0 → (post (3 : Int32))) ∧ (¬ l1 < 0 → ((S_h ≤ l1 → (post (3 : Int32))) ∧ (¬ S_h ≤ l1 → ((l2 < 0 → (post (3 : Int32))) ∧ (¬ l2 < 0 → ((S_w ≤ l2 → (post (3 : Int32))) ∧ (¬ S_w ≤ l2 → (vp_in ((S_w * l1) + l2) 25 ∧ (post (f_S_cells (((S_w * l1) + l2)).toNatClampNeg)))))))))))
theorem hdV_X4_at : yX4_at.cls = RX4 ∧ yX4_at.cls ≠ "java/lang/invoke/MethodHandle" ∧ yX4_at.cls ≠ "java/lang/invoke/VarHandle" ∧ (parseMethodDescriptor yX4_at.desc).map (fun d => d.parameters.length) = some 2 := by decide +kernel
set_option maxHeartbeats 4000000 in
set_option maxRecDepth 100000 in
theorem c_X4_at (l : Launch) (dC : Nat → ClassId) (dI : Nat → Nat → Nat) (cI cJ cZ : ClassId) (h_S h_S_cells : Nat) (sz : Nat) (S_h : Int32) (S_w : Int32) (f_S_cells : Nat → Int32) (l1 : Int32) (l2 : Int32) {post : Int32 → Prop} (hq : q_X4_at S_h S_w f_S_cells l1 l2 post) : Met l yX4_at wsX4_at rm_X4_at (va_Pc [.ref h_S, .int l1, .int l2] (gx_Pre (dC, dI) vwCl (gx_tys cI cJ cZ) sz (W_X4_at cI cJ cZ h_S h_S_cells S_h S_w f_S_cells))) (va_Qi (fun (r : Int32) (u : Unit) => post r) (gx_B (dC, dI) vwCl (gx_tys cI cJ cZ) (va_A (W_X4_at cI cJ cZ h_S h_S_cells S_h S_w f_S_cells) sz) (fun (u : Unit) => (W_X4_at cI cJ cZ h_S h_S_cells S_h S_w f_S_cells))) (va_A (W_X4_at cI cJ cZ h_S h_S_cells S_h S_w f_S_cells) sz)) 0 0 (va_A (W_X4_at cI cJ cZ h_S h_S_cells S_h S_w f_S_cells) sz) := by
  refine gx_i (cc := cX4_at) (maxL := 3) (by decide) rfl (Nat.le_of_ble_eq_true rfl) ?_
  intro p e s m args below meth c A QQ hx hb hml hown hts hA hP hK hD hret ls hl
  have hown : s.vm.findClass RX4 = some m.cls := hown
  have hf9 := hts (.fieldLink RX4 9 "SmallWindows$Sheet" "h" "I") (by decide +kernel)
  have hf15 := hts (.fieldLink RX4 15 "SmallWindows$Sheet" "w" "I") (by decide +kernel)
  have hf18 := hts (.fieldLink RX4 18 "SmallWindows$Sheet" "cells" "[I") (by decide +kernel)
  have hinX4 : ∀ w ∈ u_ws RX4 TX4 3, w ∈ wsX4_at := fun w h => List.mem_cons_of_mem _ ((List.mem_append_right _ h))
  have hS : va_S A s.heap s.heap [] := va_S.rf
  have hl : lv_has ls 3 [(0, .ref h_S), (1, .int l1), (2, .int l2)] := hl
  unfold q_X4_at at hq
  refine lv_iload_n hx hb dX4_at_0 rfl (lv_at hl 1 rfl) ?_
  refine lv_if_lt (tgt := 40) hx hb dX4_at_1 (by decide) (fun c1 => ?_) (fun c1 => ?_)
  · replace hq := hq.1 c1
    refine lv_iconst (v := (3 : Int32)) hx hb dX4_at_40 (by decide) ?_
    exact hret (3 : Int32) () hq _ _ hP hD hS _ _ dX4_at_41
  · replace hq := hq.2 c1
    refine lv_iload_n hx hb dX4_at_4 rfl (lv_at hl 1 rfl) ?_
    refine lv_aload_n hx hb dX4_at_5 rfl (lv_at hl 0 rfl) ?_
    refine va_get (D := (dC, dI)) (ci := 4) (v := .int S_h) (C := RX4) (T := TX4) (N := 3) hx hb hts hinX4 hown hK hP 0 rfl rfl 0 (by decide) hf9 (fun _ h9 => h9) rfl dX4_at_6 ?_
    refine lv_icmp_ge (tgt := 40) hx hb dX4_at_9 (by decide) (fun c2 => ?_) (fun c2 => ?_)
    · replace hq := hq.1 c2
      refine lv_iconst (v := (3 : Int32)) hx hb dX4_at_40 (by decide) ?_
      exact hret (3 : Int32) () hq _ _ hP hD hS _ _ dX4_at_41
    · replace hq := hq.2 c2
      refine lv_iload_n hx hb dX4_at_12 rfl (lv_at hl 2 rfl) ?_
      refine lv_if_lt (tgt := 40) hx hb dX4_at_13 (by decide) (fun c3 => ?_) (fun c3 => ?_)
      · replace hq := hq.1 c3
        refine lv_iconst (v := (3 : Int32)) hx hb dX4_at_40 (by decide) ?_
        exact hret (3 : Int32) () hq _ _ hP hD hS _ _ dX4_at_41
      · replace hq := hq.2 c3
        refine lv_iload_n hx hb dX4_at_16 rfl (lv_at hl 2 rfl) ?_
        refine lv_aload_n hx hb dX4_at_17 rfl (lv_at hl 0 rfl) ?_
        refine va_get (D := (dC, dI)) (ci := 4) (v := .int S_w) (C := RX4) (T := TX4) (N := 3) hx hb hts hinX4 hown hK hP 0 rfl rfl 1 (by decide) hf15 (fun _ h9 => h9) rfl dX4_at_18 ?_
        refine lv_icmp_ge (tgt := 40) hx hb dX4_at_21 (by decide) (fun c4 => ?_) (fun c4 => ?_)
        · replace hq := hq.1 c4
          refine lv_iconst (v := (3 : Int32)) hx hb dX4_at_40 (by decide) ?_
          exact hret (3 : Int32) () hq _ _ hP hD hS _ _ dX4_at_41
        · replace hq := hq.2 c4
          refine lv_aload_n hx hb dX4_at_24 rfl (lv_at hl 0 rfl) ?_
          refine va_get (D := (dC, dI)) (ci := 4) (v := .ref h_S_cells) (C := RX4) (T := TX4) (N := 3) hx hb hts hinX4 hown hK hP 0 rfl rfl 2 (by decide) hf18 (fun _ h9 => h9) rfl dX4_at_25 ?_
          refine lv_aload_n hx hb dX4_at_28 rfl (lv_at hl 0 rfl) ?_
          refine va_get (D := (dC, dI)) (ci := 4) (v := .int S_w) (C := RX4) (T := TX4) (N := 3) hx hb hts hinX4 hown hK hP 0 rfl rfl 1 (by decide) hf15 (fun _ h9 => h9) rfl dX4_at_29 ?_
          refine lv_iload_n hx hb dX4_at_32 rfl (lv_at hl 1 rfl) ?_
          refine lv_imul hx hb dX4_at_33 ?_
          refine lv_iload_n hx hb dX4_at_34 rfl (lv_at hl 2 rfl) ?_
          refine lv_iadd hx hb dX4_at_35 ?_
          obtain ⟨hv5, hq⟩ := hq
          refine va_iald hx hb hK hP 1 0 rfl rfl hv5 dX4_at_36 ?_
          refine lv_goto (tgt := 41) hx hb dX4_at_37 (by decide) ?_
          exact hret (f_S_cells (((S_w * l1) + l2)).toNatClampNeg) () hq _ _ hP hD hS _ _ dX4_at_41

abbrev W_X4_block (cI cJ cZ : ClassId) (h_S h_S_cells : Nat) (S_h : Int32) (S_w : Int32) (f_S_cells : Nat → Int32) : va_W := [(h_S, .inr (4, [.int S_h, .int S_w, .ref h_S_cells])), (h_S_cells, .inl (cI, 25, .inl f_S_cells))]
abbrev rm_X4_block : Room := { frames := 1, cells := 0, slots := 0, locals := 22 }
def q_X4_block (S_h : Int32) (S_w : Int32) (f_S_cells : Nat → Int32) (l1 : Int32) (l2 : Int32) (post : Int32 → Prop) : Prop := (q_X4_at S_h S_w f_S_cells (l1 - (1 : Int32)) (l2 - (1 : Int32)) (fun (r1 : Int32) => (q_X4_at S_h S_w f_S_cells (l1 - (1 : Int32)) l2 (fun (r2 : Int32) => (q_X4_at S_h S_w f_S_cells l1 (l2 - (1 : Int32)) (fun (r3 : Int32) => (q_X4_at S_h S_w f_S_cells l1 l2 (fun (r4 : Int32) => (post ((((r1 <<< ((6 : Int32) &&& 31)) ||| (r2 <<< ((4 : Int32) &&& 31))) ||| (r3 <<< ((2 : Int32) &&& 31))) ||| r4))))))))))
theorem hdV_X4_block : yX4_block.cls = RX4 ∧ yX4_block.cls ≠ "java/lang/invoke/MethodHandle" ∧ yX4_block.cls ≠ "java/lang/invoke/VarHandle" ∧ (parseMethodDescriptor yX4_block.desc).map (fun d => d.parameters.length) = some 2 := by decide +kernel
set_option maxHeartbeats 4000000 in
set_option maxRecDepth 100000 in
theorem c_X4_block (l : Launch) (dC : Nat → ClassId) (dI : Nat → Nat → Nat) (cI cJ cZ : ClassId) (h_S h_S_cells : Nat) (sz : Nat) (S_h : Int32) (S_w : Int32) (f_S_cells : Nat → Int32) (l1 : Int32) (l2 : Int32) {post : Int32 → Prop} (hq : q_X4_block S_h S_w f_S_cells l1 l2 post) : Met l yX4_block wsX4_block rm_X4_block (va_Pc [.ref h_S, .int l1, .int l2] (gx_Pre (dC, dI) vwCl (gx_tys cI cJ cZ) sz (W_X4_block cI cJ cZ h_S h_S_cells S_h S_w f_S_cells))) (va_Qi (fun (r : Int32) (u : Unit) => post r) (gx_B (dC, dI) vwCl (gx_tys cI cJ cZ) (va_A (W_X4_block cI cJ cZ h_S h_S_cells S_h S_w f_S_cells) sz) (fun (u : Unit) => (W_X4_block cI cJ cZ h_S h_S_cells S_h S_w f_S_cells))) (va_A (W_X4_block cI cJ cZ h_S h_S_cells S_h S_w f_S_cells) sz)) 0 0 (va_A (W_X4_block cI cJ cZ h_S h_S_cells S_h S_w f_S_cells) sz) := by
  refine gx_i (cc := cX4_block) (maxL := 3) (by decide) rfl (Nat.le_of_ble_eq_true rfl) ?_
  intro p e s m args below meth c A QQ hx hb hml hown hts hA hP hK hD hret ls hl
  have hown : s.vm.findClass RX4 = some m.cls := hown
  have hS : va_S A s.heap s.heap [] := va_S.rf
  have hl : lv_has ls 3 [(0, .ref h_S), (1, .int l1), (2, .int l2)] := hl
  unfold q_X4_block at hq
  refine lv_aload_n hx hb dX4_block_0 rfl (lv_at hl 0 rfl) ?_
  refine lv_iload_n hx hb dX4_block_1 rfl (lv_at hl 1 rfl) ?_
  refine lv_iconst (v := (1 : Int32)) hx hb dX4_block_2 (by decide) ?_
  refine lv_isub hx hb dX4_block_3 ?_
  refine lv_iload_n hx hb dX4_block_4 rfl (lv_at hl 2 rfl) ?_
  refine lv_iconst (v := (1 : Int32)) hx hb dX4_block_5 (by decide) ?_
  refine lv_isub hx hb dX4_block_6 ?_
  refine gx_cVi (C := RX4) (As := [.int (l1 - (1 : Int32)), .int (l2 - (1 : Int32))]) (rest := []) ⟨hx, hb, hml, hown, hts⟩ (c_X4_at l dC dI cI cJ cZ h_S h_S_cells s.heap.size S_h S_w f_S_cells (l1 - (1 : Int32)) (l2 - (1 : Int32)) hq) (cwV 2 hts gX4_block_X4_at rfl rfl rfl hdV_X4_at ⟨Nat.le_of_ble_eq_true rfl, Nat.le_of_ble_eq_true rfl⟩) hK hP hD hS hA [0, 1] [] rfl rfl rfl rfl rfl (ci := 4) (q0 := 0) rfl rfl rfl rfl hl.1 (Nat.le_of_ble_eq_true rfl) dX4_block_7 rfl (fun r1 u H locs hq hP hD hS => ?_)
  try dsimp only at hq
  have hP : va_P (dC, dI) vwCl (W_X4_block cI cJ cZ h_S h_S_cells S_h S_w f_S_cells) H := hP
  have hD : va_D A (W_X4_block cI cJ cZ h_S h_S_cells S_h S_w f_S_cells) := hD
  refine lv_bipush (v := (6 : Int32)) hx hb dX4_block_10 (by decide) ?_
  refine lv_ishl hx hb dX4_block_12 ?_
  refine lv_aload_n hx hb dX4_block_13 rfl (lv_at hl 0 rfl) ?_
  refine lv_iload_n hx hb dX4_block_14 rfl (lv_at hl 1 rfl) ?_
  refine lv_iconst (v := (1 : Int32)) hx hb dX4_block_15 (by decide) ?_
  refine lv_isub hx hb dX4_block_16 ?_
  refine lv_iload_n hx hb dX4_block_17 rfl (lv_at hl 2 rfl) ?_
  refine gx_cVi (C := RX4) (As := [.int (l1 - (1 : Int32)), .int l2]) (rest := [.int (r1 <<< ((6 : Int32) &&& 31))]) ⟨hx, hb, hml, hown, hts⟩ (c_X4_at l dC dI cI cJ cZ h_S h_S_cells H.size S_h S_w f_S_cells (l1 - (1 : Int32)) l2 hq) (cwV 2 hts gX4_block_X4_at rfl rfl rfl hdV_X4_at ⟨Nat.le_of_ble_eq_true rfl, Nat.le_of_ble_eq_true rfl⟩) hK hP hD hS hA [0, 1] [] rfl rfl rfl rfl rfl (ci := 4) (q0 := 0) rfl rfl rfl rfl hl.1 (Nat.le_of_ble_eq_true rfl) dX4_block_18 rfl (fun r2 u H locs hq hP hD hS => ?_)
  try dsimp only at hq
  have hP : va_P (dC, dI) vwCl (W_X4_block cI cJ cZ h_S h_S_cells S_h S_w f_S_cells) H := hP
  have hD : va_D A (W_X4_block cI cJ cZ h_S h_S_cells S_h S_w f_S_cells) := hD
  refine lv_iconst (v := (4 : Int32)) hx hb dX4_block_21 (by decide) ?_
  refine lv_ishl hx hb dX4_block_22 ?_
  refine lv_ior hx hb dX4_block_23 ?_
  refine lv_aload_n hx hb dX4_block_24 rfl (lv_at hl 0 rfl) ?_
  refine lv_iload_n hx hb dX4_block_25 rfl (lv_at hl 1 rfl) ?_
  refine lv_iload_n hx hb dX4_block_26 rfl (lv_at hl 2 rfl) ?_
  refine lv_iconst (v := (1 : Int32)) hx hb dX4_block_27 (by decide) ?_
  refine lv_isub hx hb dX4_block_28 ?_
  refine gx_cVi (C := RX4) (As := [.int l1, .int (l2 - (1 : Int32))]) (rest := [.int ((r1 <<< ((6 : Int32) &&& 31)) ||| (r2 <<< ((4 : Int32) &&& 31)))]) ⟨hx, hb, hml, hown, hts⟩ (c_X4_at l dC dI cI cJ cZ h_S h_S_cells H.size S_h S_w f_S_cells l1 (l2 - (1 : Int32)) hq) (cwV 2 hts gX4_block_X4_at rfl rfl rfl hdV_X4_at ⟨Nat.le_of_ble_eq_true rfl, Nat.le_of_ble_eq_true rfl⟩) hK hP hD hS hA [0, 1] [] rfl rfl rfl rfl rfl (ci := 4) (q0 := 0) rfl rfl rfl rfl hl.1 (Nat.le_of_ble_eq_true rfl) dX4_block_29 rfl (fun r3 u H locs hq hP hD hS => ?_)
  try dsimp only at hq
  have hP : va_P (dC, dI) vwCl (W_X4_block cI cJ cZ h_S h_S_cells S_h S_w f_S_cells) H := hP
  have hD : va_D A (W_X4_block cI cJ cZ h_S h_S_cells S_h S_w f_S_cells) := hD
  refine lv_iconst (v := (2 : Int32)) hx hb dX4_block_32 (by decide) ?_
  refine lv_ishl hx hb dX4_block_33 ?_
  refine lv_ior hx hb dX4_block_34 ?_
  refine lv_aload_n hx hb dX4_block_35 rfl (lv_at hl 0 rfl) ?_
  refine lv_iload_n hx hb dX4_block_36 rfl (lv_at hl 1 rfl) ?_
  refine lv_iload_n hx hb dX4_block_37 rfl (lv_at hl 2 rfl) ?_
  refine gx_cVi (C := RX4) (As := [.int l1, .int l2]) (rest := [.int (((r1 <<< ((6 : Int32) &&& 31)) ||| (r2 <<< ((4 : Int32) &&& 31))) ||| (r3 <<< ((2 : Int32) &&& 31)))]) ⟨hx, hb, hml, hown, hts⟩ (c_X4_at l dC dI cI cJ cZ h_S h_S_cells H.size S_h S_w f_S_cells l1 l2 hq) (cwV 2 hts gX4_block_X4_at rfl rfl rfl hdV_X4_at ⟨Nat.le_of_ble_eq_true rfl, Nat.le_of_ble_eq_true rfl⟩) hK hP hD hS hA [0, 1] [] rfl rfl rfl rfl rfl (ci := 4) (q0 := 0) rfl rfl rfl rfl hl.1 (Nat.le_of_ble_eq_true rfl) dX4_block_38 rfl (fun r4 u H locs hq hP hD hS => ?_)
  try dsimp only at hq
  have hP : va_P (dC, dI) vwCl (W_X4_block cI cJ cZ h_S h_S_cells S_h S_w f_S_cells) H := hP
  have hD : va_D A (W_X4_block cI cJ cZ h_S h_S_cells S_h S_w f_S_cells) := hD
  refine lv_ior hx hb dX4_block_41 ?_
  exact hret ((((r1 <<< ((6 : Int32) &&& 31)) ||| (r2 <<< ((4 : Int32) &&& 31))) ||| (r3 <<< ((2 : Int32) &&& 31))) ||| r4) () hq _ _ hP hD hS _ _ dX4_block_42

abbrev W_J6_bitCount_0f7a4 (cI cJ cZ : ClassId)  : va_W := []
abbrev rm_J6_bitCount_0f7a4 : Room := { frames := 0, cells := 0, slots := 0, locals := 0 }
def q_J6_bitCount_0f7a4 (l0 : Int32) (post : Int32 → Prop) : Prop := (∀ v1 : Int32, v1 = (l0 - ((((l0).toUInt32 >>> (((1 : Int32)).toUInt32 &&& Int32.toUInt32 31)).toInt32) &&& (1431655765 : Int32))) → (∀ v2 : Int32, v2 = ((v1 &&& (858993459 : Int32)) + ((((v1).toUInt32 >>> (((2 : Int32)).toUInt32 &&& Int32.toUInt32 31)).toInt32) &&& (858993459 : Int32))) → (∀ v3 : Int32, v3 = ((v2 + (((v2).toUInt32 >>> (((4 : Int32)).toUInt32 &&& Int32.toUInt32 31)).toInt32)) &&& (252645135 : Int32)) → (∀ v4 : Int32, v4 = (v3 + (((v3).toUInt32 >>> (((8 : Int32)).toUInt32 &&& Int32.toUInt32 31)).toInt32)) → (∀ v5 : Int32, v5 = (v4 + (((v4).toUInt32 >>> (((16 : Int32)).toUInt32 &&& Int32.toUInt32 31)).toInt32)) → (post (v5 &&& (63 : Int32))))))))
theorem hdS_J6_bitCount_0f7a4 : yJ6_bitCount_0f7a4.cls ≠ "java/lang/invoke/MethodHandle" ∧ yJ6_bitCount_0f7a4.cls ≠ "java/lang/invoke/VarHandle" ∧ (parseMethodDescriptor yJ6_bitCount_0f7a4.desc).map (fun d => d.parameters.length) = some 1 := by decide +kernel
set_option maxHeartbeats 4000000 in
set_option maxRecDepth 100000 in
theorem c_J6_bitCount_0f7a4 (l : Launch) (dC : Nat → ClassId) (dI : Nat → Nat → Nat) (cI cJ cZ : ClassId) (sz : Nat)  (l0 : Int32) {post : Int32 → Prop} (hq : q_J6_bitCount_0f7a4 l0 post) : Met l yJ6_bitCount_0f7a4 wsJ6_bitCount_0f7a4 rm_J6_bitCount_0f7a4 (va_Pc [.int l0] (gx_Pre (dC, dI) vwCl (gx_tys cI cJ cZ) sz (W_J6_bitCount_0f7a4 cI cJ cZ))) (va_Qi (fun (r : Int32) (u : Unit) => post r) (gx_B (dC, dI) vwCl (gx_tys cI cJ cZ) (va_A (W_J6_bitCount_0f7a4 cI cJ cZ) sz) (fun (u : Unit) => (W_J6_bitCount_0f7a4 cI cJ cZ))) (va_A (W_J6_bitCount_0f7a4 cI cJ cZ) sz)) 0 0 (va_A (W_J6_bitCount_0f7a4 cI cJ cZ) sz) := by
  refine gx_i (cc := cJ6_bitCount_0f7a4) (maxL := 1) (by decide) rfl (Nat.le_of_ble_eq_true rfl) ?_
  intro p e s m args below meth c A QQ hx hb hml hown hts hA hP hK hD hret ls hl
  have hown : s.vm.findClass RJ6 = some m.cls := hown
  have hcw265 := hts (.constant RJ6 265 (1431655765)) (by decide +kernel)
  have hcw266 := hts (.constant RJ6 266 (858993459)) (by decide +kernel)
  have hcw267 := hts (.constant RJ6 267 (252645135)) (by decide +kernel)
  have hS : va_S A s.heap s.heap [] := va_S.rf
  have hl : lv_has ls 1 [(0, .int l0)] := hl
  unfold q_J6_bitCount_0f7a4 at hq
  refine lv_iload_n hx hb dJ6_bitCount_0f7a4_0 rfl (lv_at hl 0 rfl) ?_
  refine lv_iload_n hx hb dJ6_bitCount_0f7a4_1 rfl (lv_at hl 0 rfl) ?_
  refine lv_iconst (v := (1 : Int32)) hx hb dJ6_bitCount_0f7a4_2 (by decide) ?_
  refine lv_iushr hx hb dJ6_bitCount_0f7a4_3 rfl ?_
  refine lv_ldcw hx hb hown hcw265 dJ6_bitCount_0f7a4_4 ?_
  refine lv_iand hx hb dJ6_bitCount_0f7a4_7 ?_
  refine lv_isub hx hb dJ6_bitCount_0f7a4_8 ?_
  refine lv_topi (fun v1 ev1 => ?_)
  replace hq := hq v1 ev1
  refine lv_istore_n (lv' := [(0, .int v1)]) hx hb dJ6_bitCount_0f7a4_9 rfl hl (by decide) rfl (fun ls hl => ?_)
  refine lv_iload_n hx hb dJ6_bitCount_0f7a4_10 rfl (lv_at hl 0 rfl) ?_
  refine lv_ldcw hx hb hown hcw266 dJ6_bitCount_0f7a4_11 ?_
  refine lv_iand hx hb dJ6_bitCount_0f7a4_14 ?_
  refine lv_iload_n hx hb dJ6_bitCount_0f7a4_15 rfl (lv_at hl 0 rfl) ?_
  refine lv_iconst (v := (2 : Int32)) hx hb dJ6_bitCount_0f7a4_16 (by decide) ?_
  refine lv_iushr hx hb dJ6_bitCount_0f7a4_17 rfl ?_
  refine lv_ldcw hx hb hown hcw266 dJ6_bitCount_0f7a4_18 ?_
  refine lv_iand hx hb dJ6_bitCount_0f7a4_21 ?_
  refine lv_iadd hx hb dJ6_bitCount_0f7a4_22 ?_
  refine lv_topi (fun v2 ev2 => ?_)
  replace hq := hq v2 ev2
  refine lv_istore_n (lv' := [(0, .int v2)]) hx hb dJ6_bitCount_0f7a4_23 rfl hl (by decide) rfl (fun ls hl => ?_)
  refine lv_iload_n hx hb dJ6_bitCount_0f7a4_24 rfl (lv_at hl 0 rfl) ?_
  refine lv_iload_n hx hb dJ6_bitCount_0f7a4_25 rfl (lv_at hl 0 rfl) ?_
  refine lv_iconst (v := (4 : Int32)) hx hb dJ6_bitCount_0f7a4_26 (by decide) ?_
  refine lv_iushr hx hb dJ6_bitCount_0f7a4_27 rfl ?_
  refine lv_iadd hx hb dJ6_bitCount_0f7a4_28 ?_
  refine lv_ldcw hx hb hown hcw267 dJ6_bitCount_0f7a4_29 ?_
  refine lv_iand hx hb dJ6_bitCount_0f7a4_32 ?_
  refine lv_topi (fun v3 ev3 => ?_)
  replace hq := hq v3 ev3
  refine lv_istore_n (lv' := [(0, .int v3)]) hx hb dJ6_bitCount_0f7a4_33 rfl hl (by decide) rfl (fun ls hl => ?_)
  refine lv_iload_n hx hb dJ6_bitCount_0f7a4_34 rfl (lv_at hl 0 rfl) ?_
  refine lv_iload_n hx hb dJ6_bitCount_0f7a4_35 rfl (lv_at hl 0 rfl) ?_
  refine lv_bipush (v := (8 : Int32)) hx hb dJ6_bitCount_0f7a4_36 (by decide) ?_
  refine lv_iushr hx hb dJ6_bitCount_0f7a4_38 rfl ?_
  refine lv_iadd hx hb dJ6_bitCount_0f7a4_39 ?_
  refine lv_topi (fun v4 ev4 => ?_)
  replace hq := hq v4 ev4
  refine lv_istore_n (lv' := [(0, .int v4)]) hx hb dJ6_bitCount_0f7a4_40 rfl hl (by decide) rfl (fun ls hl => ?_)
  refine lv_iload_n hx hb dJ6_bitCount_0f7a4_41 rfl (lv_at hl 0 rfl) ?_
  refine lv_iload_n hx hb dJ6_bitCount_0f7a4_42 rfl (lv_at hl 0 rfl) ?_
  refine lv_bipush (v := (16 : Int32)) hx hb dJ6_bitCount_0f7a4_43 (by decide) ?_
  refine lv_iushr hx hb dJ6_bitCount_0f7a4_45 rfl ?_
  refine lv_iadd hx hb dJ6_bitCount_0f7a4_46 ?_
  refine lv_topi (fun v5 ev5 => ?_)
  replace hq := hq v5 ev5
  refine lv_istore_n (lv' := [(0, .int v5)]) hx hb dJ6_bitCount_0f7a4_47 rfl hl (by decide) rfl (fun ls hl => ?_)
  refine lv_iload_n hx hb dJ6_bitCount_0f7a4_48 rfl (lv_at hl 0 rfl) ?_
  refine lv_bipush (v := (63 : Int32)) hx hb dJ6_bitCount_0f7a4_49 (by decide) ?_
  refine lv_iand hx hb dJ6_bitCount_0f7a4_51 ?_
  exact hret (v5 &&& (63 : Int32)) () hq _ _ hP hD hS _ _ dJ6_bitCount_0f7a4_52
