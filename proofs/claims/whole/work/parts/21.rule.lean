abbrev W_X3_clear (cI cJ cZ : ClassId) (h_rule h_rule_lower : Nat) (f_rule_lower : Nat → Int32) : va_W := [(h_rule, .inr (3, [.ref h_rule_lower])), (h_rule_lower, .inl (cI, 16, .inl f_rule_lower))]
abbrev rm_X3_clear : Room := { frames := 1, cells := 0, slots := 0, locals := 23 }
def q_X3_clear (f_rule_lower : Nat → Int32) (post : (Nat → Int32) → Prop) : Prop := (q_J7_fill_53178 16 f_rule_lower (0 : Int32) (fun (f_rule_lower_1 : Nat → Int32) => (post f_rule_lower_1)))
theorem hdV_X3_clear : yX3_clear.cls = RX3 ∧ yX3_clear.cls ≠ "java/lang/invoke/MethodHandle" ∧ yX3_clear.cls ≠ "java/lang/invoke/VarHandle" ∧ (parseMethodDescriptor yX3_clear.desc).map (fun d => d.parameters.length) = some 0 := by decide +kernel
set_option maxHeartbeats 4000000 in
set_option maxRecDepth 100000 in
theorem c_X3_clear (l : Launch) (dC : Nat → ClassId) (dI : Nat → Nat → Nat) (cI cJ cZ : ClassId) (h_rule h_rule_lower : Nat) (sz : Nat) (f_rule_lower : Nat → Int32)  {post : (Nat → Int32) → Prop} (hq : q_X3_clear f_rule_lower post) : Met l yX3_clear wsX3_clear rm_X3_clear (va_Pc [.ref h_rule] (gx_Pre (dC, dI) vwCl (gx_tys cI cJ cZ) sz (W_X3_clear cI cJ cZ h_rule h_rule_lower f_rule_lower))) (va_Qv (fun (u : (Nat → Int32)) => post u) (gx_B (dC, dI) vwCl (gx_tys cI cJ cZ) (va_A (W_X3_clear cI cJ cZ h_rule h_rule_lower f_rule_lower) sz) (fun (u : (Nat → Int32)) => (W_X3_clear cI cJ cZ h_rule h_rule_lower u))) (va_A (W_X3_clear cI cJ cZ h_rule h_rule_lower f_rule_lower) sz)) 0 0 (va_A (W_X3_clear cI cJ cZ h_rule h_rule_lower f_rule_lower) sz) := by
  refine gx_v (cc := cX3_clear) (maxL := 1) (by decide) rfl (Nat.le_of_ble_eq_true rfl) ?_
  intro p e s m args below meth c A QQ hx hb hml hown hts hA hP hK hD hret ls hl
  have hown : s.vm.findClass RX3 = some m.cls := hown
  have hf9 := hts (.fieldLink RX3 9 "SmallWindows$Rule" "lower" "[I") (by decide +kernel)
  have hinX3 : ∀ w ∈ u_ws RX3 TX3 1, w ∈ wsX3_clear := fun w h => List.mem_cons_of_mem _ ((List.mem_append_right _ h))
  have hS : va_S A s.heap s.heap [] := va_S.rf
  have hl : lv_has ls 1 [(0, .ref h_rule)] := hl
  unfold q_X3_clear at hq
  refine lv_aload_n hx hb dX3_clear_0 rfl (lv_at hl 0 rfl) ?_
  refine va_get (D := (dC, dI)) (ci := 3) (v := .ref h_rule_lower) (C := RX3) (T := TX3) (N := 1) hx hb hts hinX3 hown hK hP 0 rfl rfl 0 (by decide) hf9 (fun _ h9 => h9) rfl dX3_clear_1 ?_
  refine lv_iconst (v := (0 : Int32)) hx hb dX3_clear_4 (by decide) ?_
  refine gx_cSv (As := [.ref h_rule_lower, .int (0 : Int32)]) (rest := []) ⟨hx, hb, hml, hown, hts⟩ (c_J7_fill_53178 l dC dI cI cJ cZ h_rule_lower s.heap.size 16 f_rule_lower (0 : Int32) hq) (va_cwS 2 hts gX3_clear_J7_fill_53178 rfl rfl rfl hdS_J7_fill_53178 ⟨Nat.le_of_ble_eq_true rfl, Nat.le_of_ble_eq_true rfl⟩) hK hP hD hS hA [1] [0] rfl rfl rfl rfl rfl rfl hl.1 (Nat.le_of_ble_eq_true rfl) dX3_clear_5 rfl (fun u H locs hq hP hD hS => ?_)
  obtain ⟨f_rule_lower_1, rfl⟩ : ∃ z, z = u := ⟨_, rfl⟩
  try dsimp only at hq
  have hP : va_P (dC, dI) vwCl (W_X3_clear cI cJ cZ h_rule h_rule_lower f_rule_lower_1) H := hP
  have hD : va_D A (W_X3_clear cI cJ cZ h_rule h_rule_lower f_rule_lower_1) := hD
  exact hret f_rule_lower_1 hq _ _ hP hD hS _ _ dX3_clear_8

abbrev W_X3_has (cI cJ cZ : ClassId) (h_rule h_rule_lower : Nat) (f_rule_lower : Nat → Int32) : va_W := [(h_rule, .inr (3, [.ref h_rule_lower])), (h_rule_lower, .inl (cI, 16, .inl f_rule_lower))]
abbrev rm_X3_has : Room := { frames := 0, cells := 0, slots := 0, locals := 0 }
def q_X3_has (f_rule_lower : Nat → Int32) (l1 : Int32) (post : Int32 → Prop) : Prop := (vp_in ((l1 >>> ((4 : Int32) &&& 31)) &&& (15 : Int32)) 16 ∧ (((((f_rule_lower (((l1 >>> ((4 : Int32) &&& 31)) &&& (15 : Int32))).toNatClampNeg) >>> ((l1 &&& (15 : Int32)) &&& 31)) &&& (1 : Int32)) = 0 → (post (0 : Int32))) ∧ (¬ (((f_rule_lower (((l1 >>> ((4 : Int32) &&& 31)) &&& (15 : Int32))).toNatClampNeg) >>> ((l1 &&& (15 : Int32)) &&& 31)) &&& (1 : Int32)) = 0 → (post (1 : Int32)))))
theorem hdV_X3_has : yX3_has.cls = RX3 ∧ yX3_has.cls ≠ "java/lang/invoke/MethodHandle" ∧ yX3_has.cls ≠ "java/lang/invoke/VarHandle" ∧ (parseMethodDescriptor yX3_has.desc).map (fun d => d.parameters.length) = some 1 := by decide +kernel
set_option maxHeartbeats 4000000 in
set_option maxRecDepth 100000 in
theorem c_X3_has (l : Launch) (dC : Nat → ClassId) (dI : Nat → Nat → Nat) (cI cJ cZ : ClassId) (h_rule h_rule_lower : Nat) (sz : Nat) (f_rule_lower : Nat → Int32) (l1 : Int32) {post : Int32 → Prop} (hq : q_X3_has f_rule_lower l1 post) : Met l yX3_has wsX3_has rm_X3_has (va_Pc [.ref h_rule, .int l1] (gx_Pre (dC, dI) vwCl (gx_tys cI cJ cZ) sz (W_X3_has cI cJ cZ h_rule h_rule_lower f_rule_lower))) (va_Qi (fun (r : Int32) (u : Unit) => post r) (gx_B (dC, dI) vwCl (gx_tys cI cJ cZ) (va_A (W_X3_has cI cJ cZ h_rule h_rule_lower f_rule_lower) sz) (fun (u : Unit) => (W_X3_has cI cJ cZ h_rule h_rule_lower f_rule_lower))) (va_A (W_X3_has cI cJ cZ h_rule h_rule_lower f_rule_lower) sz)) 0 0 (va_A (W_X3_has cI cJ cZ h_rule h_rule_lower f_rule_lower) sz) := by
  refine gx_z (cc := cX3_has) (maxL := 2) (by decide) rfl (Nat.le_of_ble_eq_true rfl) ?_
  intro p e s m args below meth c A QQ hx hb hml hown hts hA hP hK hD hret ls hl
  have hown : s.vm.findClass RX3 = some m.cls := hown
  have hf9 := hts (.fieldLink RX3 9 "SmallWindows$Rule" "lower" "[I") (by decide +kernel)
  have hinX3 : ∀ w ∈ u_ws RX3 TX3 1, w ∈ wsX3_has := fun w h => List.mem_cons_of_mem _ ((List.mem_append_right _ h))
  have hS : va_S A s.heap s.heap [] := va_S.rf
  have hl : lv_has ls 2 [(0, .ref h_rule), (1, .int l1)] := hl
  unfold q_X3_has at hq
  refine lv_aload_n hx hb dX3_has_0 rfl (lv_at hl 0 rfl) ?_
  refine va_get (D := (dC, dI)) (ci := 3) (v := .ref h_rule_lower) (C := RX3) (T := TX3) (N := 1) hx hb hts hinX3 hown hK hP 0 rfl rfl 0 (by decide) hf9 (fun _ h9 => h9) rfl dX3_has_1 ?_
  refine lv_iload_n hx hb dX3_has_4 rfl (lv_at hl 1 rfl) ?_
  refine lv_iconst (v := (4 : Int32)) hx hb dX3_has_5 (by decide) ?_
  refine lv_ishr hx hb dX3_has_6 ?_
  refine lv_bipush (v := (15 : Int32)) hx hb dX3_has_7 (by decide) ?_
  refine lv_iand hx hb dX3_has_9 ?_
  obtain ⟨hv1, hq⟩ := hq
  refine va_iald hx hb hK hP 1 0 rfl rfl hv1 dX3_has_10 ?_
  refine lv_iload_n hx hb dX3_has_11 rfl (lv_at hl 1 rfl) ?_
  refine lv_bipush (v := (15 : Int32)) hx hb dX3_has_12 (by decide) ?_
  refine lv_iand hx hb dX3_has_14 ?_
  refine lv_ishr hx hb dX3_has_15 ?_
  refine lv_iconst (v := (1 : Int32)) hx hb dX3_has_16 (by decide) ?_
  refine lv_iand hx hb dX3_has_17 ?_
  refine lv_if_eq (tgt := 25) hx hb dX3_has_18 (by decide) (fun c2 => ?_) (fun c2 => ?_)
  · replace hq := hq.1 c2
    refine lv_iconst (v := (0 : Int32)) hx hb dX3_has_25 (by decide) ?_
    exact hret (0 : Int32) () (Or.inl rfl) hq _ _ hP hD hS _ _ dX3_has_26
  · replace hq := hq.2 c2
    refine lv_iconst (v := (1 : Int32)) hx hb dX3_has_21 (by decide) ?_
    refine lv_goto (tgt := 26) hx hb dX3_has_22 (by decide) ?_
    exact hret (1 : Int32) () (Or.inr rfl) hq _ _ hP hD hS _ _ dX3_has_26

abbrev W_X3_put (cI cJ cZ : ClassId) (h_rule h_rule_lower : Nat) (f_rule_lower : Nat → Int32) : va_W := [(h_rule, .inr (3, [.ref h_rule_lower])), (h_rule_lower, .inl (cI, 16, .inl f_rule_lower))]
abbrev rm_X3_put : Room := { frames := 0, cells := 0, slots := 0, locals := 0 }
def q_X3_put (f_rule_lower : Nat → Int32) (l1 : Int32) (l2 : Int32) (post : (Nat → Int32) → Prop) : Prop := ((l2 = 0 → (vp_in ((l1 >>> ((4 : Int32) &&& 31)) &&& (15 : Int32)) 16 ∧ (vp_in ((l1 >>> ((4 : Int32) &&& 31)) &&& (15 : Int32)) 16 ∧ (post (upd f_rule_lower (((l1 >>> ((4 : Int32) &&& 31)) &&& (15 : Int32))).toNatClampNeg ((f_rule_lower (((l1 >>> ((4 : Int32) &&& 31)) &&& (15 : Int32))).toNatClampNeg) &&& (((1 : Int32) <<< ((l1 &&& (15 : Int32)) &&& 31)) ^^^ (-1 : Int32)))))))) ∧ (¬ l2 = 0 → (vp_in ((l1 >>> ((4 : Int32) &&& 31)) &&& (15 : Int32)) 16 ∧ (vp_in ((l1 >>> ((4 : Int32) &&& 31)) &&& (15 : Int32)) 16 ∧ (post (upd f_rule_lower (((l1 >>> ((4 : Int32) &&& 31)) &&& (15 : Int32))).toNatClampNeg ((f_rule_lower (((l1 >>> ((4 : Int32) &&& 31)) &&& (15 : Int32))).toNatClampNeg) ||| ((1 : Int32) <<< ((l1 &&& (15 : Int32)) &&& 31)))))))))
theorem hdV_X3_put : yX3_put.cls = RX3 ∧ yX3_put.cls ≠ "java/lang/invoke/MethodHandle" ∧ yX3_put.cls ≠ "java/lang/invoke/VarHandle" ∧ (parseMethodDescriptor yX3_put.desc).map (fun d => d.parameters.length) = some 2 := by decide +kernel
set_option maxHeartbeats 4000000 in
set_option maxRecDepth 100000 in
theorem c_X3_put (l : Launch) (dC : Nat → ClassId) (dI : Nat → Nat → Nat) (cI cJ cZ : ClassId) (h_rule h_rule_lower : Nat) (sz : Nat) (f_rule_lower : Nat → Int32) (l1 : Int32) (l2 : Int32) {post : (Nat → Int32) → Prop} (hq : q_X3_put f_rule_lower l1 l2 post) : Met l yX3_put wsX3_put rm_X3_put (va_Pc [.ref h_rule, .int l1, .int l2] (gx_Pre (dC, dI) vwCl (gx_tys cI cJ cZ) sz (W_X3_put cI cJ cZ h_rule h_rule_lower f_rule_lower))) (va_Qv (fun (u : (Nat → Int32)) => post u) (gx_B (dC, dI) vwCl (gx_tys cI cJ cZ) (va_A (W_X3_put cI cJ cZ h_rule h_rule_lower f_rule_lower) sz) (fun (u : (Nat → Int32)) => (W_X3_put cI cJ cZ h_rule h_rule_lower u))) (va_A (W_X3_put cI cJ cZ h_rule h_rule_lower f_rule_lower) sz)) 0 0 (va_A (W_X3_put cI cJ cZ h_rule h_rule_lower f_rule_lower) sz) := by
  refine gx_v (cc := cX3_put) (maxL := 4) (by decide) rfl (Nat.le_of_ble_eq_true rfl) ?_
  intro p e s m args below meth c A QQ hx hb hml hown hts hA hP hK hD hret ls hl
  have hown : s.vm.findClass RX3 = some m.cls := hown
  have hf9 := hts (.fieldLink RX3 9 "SmallWindows$Rule" "lower" "[I") (by decide +kernel)
  have hinX3 : ∀ w ∈ u_ws RX3 TX3 1, w ∈ wsX3_put := fun w h => List.mem_cons_of_mem _ ((List.mem_append_right _ h))
  have hS : va_S A s.heap s.heap [] := va_S.rf
  have hl : lv_has ls 4 [(0, .ref h_rule), (1, .int l1), (2, .int l2)] := hl
  unfold q_X3_put at hq
  refine lv_iconst (v := (1 : Int32)) hx hb dX3_put_0 (by decide) ?_
  refine lv_iload_n hx hb dX3_put_1 rfl (lv_at hl 1 rfl) ?_
  refine lv_bipush (v := (15 : Int32)) hx hb dX3_put_2 (by decide) ?_
  refine lv_iand hx hb dX3_put_4 ?_
  refine lv_ishl hx hb dX3_put_5 ?_
  refine lv_istore_n (lv' := [(3, .int ((1 : Int32) <<< ((l1 &&& (15 : Int32)) &&& 31))), (0, .ref h_rule), (1, .int l1), (2, .int l2)]) hx hb dX3_put_6 rfl hl (by decide) rfl (fun ls hl => ?_)
  refine lv_iload_n hx hb dX3_put_7 rfl (lv_at hl 3 rfl) ?_
  refine lv_if_eq (tgt := 29) hx hb dX3_put_8 (by decide) (fun c1 => ?_) (fun c1 => ?_)
  · replace hq := hq.1 c1
    refine lv_aload_n hx hb dX3_put_29 rfl (lv_at hl 1 rfl) ?_
    refine va_get (D := (dC, dI)) (ci := 3) (v := .ref h_rule_lower) (C := RX3) (T := TX3) (N := 1) hx hb hts hinX3 hown hK hP 0 rfl rfl 0 (by decide) hf9 (fun _ h9 => h9) rfl dX3_put_30 ?_
    refine lv_iload_n hx hb dX3_put_33 rfl (lv_at hl 2 rfl) ?_
    refine lv_iconst (v := (4 : Int32)) hx hb dX3_put_34 (by decide) ?_
    refine lv_ishr hx hb dX3_put_35 ?_
    refine lv_bipush (v := (15 : Int32)) hx hb dX3_put_36 (by decide) ?_
    refine lv_iand hx hb dX3_put_38 ?_
    refine lv_dup2_11 hx hb dX3_put_39 rfl rfl ?_
    obtain ⟨hv2, hq⟩ := hq
    refine va_iald hx hb hK hP 1 0 rfl rfl hv2 dX3_put_40 ?_
    refine lv_iload_n hx hb dX3_put_41 rfl (lv_at hl 0 rfl) ?_
    refine lv_iconst (v := (-1 : Int32)) hx hb dX3_put_42 (by decide) ?_
    refine lv_ixor hx hb dX3_put_43 ?_
    refine lv_iand hx hb dX3_put_44 ?_
    obtain ⟨hv3, hq⟩ := hq
    refine va_iast hx hb hK hP hD hS 1 0 rfl rfl hv3 dX3_put_45 (fun H locs hP hD hS => ?_)
    have hP : va_P (dC, dI) vwCl (W_X3_put cI cJ cZ h_rule h_rule_lower (upd f_rule_lower (((l1 >>> ((4 : Int32) &&& 31)) &&& (15 : Int32))).toNatClampNeg ((f_rule_lower (((l1 >>> ((4 : Int32) &&& 31)) &&& (15 : Int32))).toNatClampNeg) &&& (((1 : Int32) <<< ((l1 &&& (15 : Int32)) &&& 31)) ^^^ (-1 : Int32))))) H := hP
    have hD : va_D A (W_X3_put cI cJ cZ h_rule h_rule_lower (upd f_rule_lower (((l1 >>> ((4 : Int32) &&& 31)) &&& (15 : Int32))).toNatClampNeg ((f_rule_lower (((l1 >>> ((4 : Int32) &&& 31)) &&& (15 : Int32))).toNatClampNeg) &&& (((1 : Int32) <<< ((l1 &&& (15 : Int32)) &&& 31)) ^^^ (-1 : Int32))))) := hD
    exact hret (upd f_rule_lower (((l1 >>> ((4 : Int32) &&& 31)) &&& (15 : Int32))).toNatClampNeg ((f_rule_lower (((l1 >>> ((4 : Int32) &&& 31)) &&& (15 : Int32))).toNatClampNeg) &&& (((1 : Int32) <<< ((l1 &&& (15 : Int32)) &&& 31)) ^^^ (-1 : Int32)))) hq _ _ hP hD hS _ _ dX3_put_46
  · replace hq := hq.2 c1
    refine lv_aload_n hx hb dX3_put_11 rfl (lv_at hl 1 rfl) ?_
    refine va_get (D := (dC, dI)) (ci := 3) (v := .ref h_rule_lower) (C := RX3) (T := TX3) (N := 1) hx hb hts hinX3 hown hK hP 0 rfl rfl 0 (by decide) hf9 (fun _ h9 => h9) rfl dX3_put_12 ?_
    refine lv_iload_n hx hb dX3_put_15 rfl (lv_at hl 2 rfl) ?_
    refine lv_iconst (v := (4 : Int32)) hx hb dX3_put_16 (by decide) ?_
    refine lv_ishr hx hb dX3_put_17 ?_
    refine lv_bipush (v := (15 : Int32)) hx hb dX3_put_18 (by decide) ?_
    refine lv_iand hx hb dX3_put_20 ?_
    refine lv_dup2_11 hx hb dX3_put_21 rfl rfl ?_
    obtain ⟨hv4, hq⟩ := hq
    refine va_iald hx hb hK hP 1 0 rfl rfl hv4 dX3_put_22 ?_
    refine lv_iload_n hx hb dX3_put_23 rfl (lv_at hl 0 rfl) ?_
    refine lv_ior hx hb dX3_put_24 ?_
    obtain ⟨hv5, hq⟩ := hq
    refine va_iast hx hb hK hP hD hS 1 0 rfl rfl hv5 dX3_put_25 (fun H locs hP hD hS => ?_)
    have hP : va_P (dC, dI) vwCl (W_X3_put cI cJ cZ h_rule h_rule_lower (upd f_rule_lower (((l1 >>> ((4 : Int32) &&& 31)) &&& (15 : Int32))).toNatClampNeg ((f_rule_lower (((l1 >>> ((4 : Int32) &&& 31)) &&& (15 : Int32))).toNatClampNeg) ||| ((1 : Int32) <<< ((l1 &&& (15 : Int32)) &&& 31))))) H := hP
    have hD : va_D A (W_X3_put cI cJ cZ h_rule h_rule_lower (upd f_rule_lower (((l1 >>> ((4 : Int32) &&& 31)) &&& (15 : Int32))).toNatClampNeg ((f_rule_lower (((l1 >>> ((4 : Int32) &&& 31)) &&& (15 : Int32))).toNatClampNeg) ||| ((1 : Int32) <<< ((l1 &&& (15 : Int32)) &&& 31))))) := hD
    refine lv_goto (tgt := 46) hx hb dX3_put_26 (by decide) ?_
    exact hret (upd f_rule_lower (((l1 >>> ((4 : Int32) &&& 31)) &&& (15 : Int32))).toNatClampNeg ((f_rule_lower (((l1 >>> ((4 : Int32) &&& 31)) &&& (15 : Int32))).toNatClampNeg) ||| ((1 : Int32) <<< ((l1 &&& (15 : Int32)) &&& 31)))) hq _ _ hP hD hS _ _ dX3_put_46

abbrev W_X3_size (cI cJ cZ : ClassId) (h_rule h_rule_lower : Nat) (f_rule_lower : Nat → Int32) : va_W := [(h_rule, .inr (3, [.ref h_rule_lower])), (h_rule_lower, .inl (cI, 16, .inl f_rule_lower))]
abbrev rm_X3_size : Room := { frames := 1, cells := 0, slots := 0, locals := 20 }
def r_X3_size_13 (f_rule_lower : Nat → Int32) (post : Int32 → Prop) (l3 : Int32) : Nat → (Int32) → (Int32) → Prop
  | 0, _, _ => False
  | n + 1, l1, l4 => ((l3 ≤ l4 → (post l1)) ∧ (¬ l3 ≤ l4 → (vp_in l4 16 ∧ (q_J6_bitCount_0f7a4 (f_rule_lower (l4).toNatClampNeg) (fun (r3 : Int32) => ((r_X3_size_13 f_rule_lower post l3 n) (l1 + r3) (l4 + (1 : Int32))))))))
def q_X3_size_13 (f_rule_lower : Nat → Int32) (post : Int32 → Prop) (l1 : Int32) (l3 : Int32) (l4 : Int32) : Prop := ∃ n, r_X3_size_13 f_rule_lower post l3 n l1 l4
def q_X3_size (f_rule_lower : Nat → Int32) (post : Int32 → Prop) : Prop := ((q_X3_size_13 f_rule_lower post) (0 : Int32) (16 : Int32) (0 : Int32))
theorem hdV_X3_size : yX3_size.cls = RX3 ∧ yX3_size.cls ≠ "java/lang/invoke/MethodHandle" ∧ yX3_size.cls ≠ "java/lang/invoke/VarHandle" ∧ (parseMethodDescriptor yX3_size.desc).map (fun d => d.parameters.length) = some 0 := by decide +kernel
set_option maxHeartbeats 4000000 in
set_option maxRecDepth 100000 in
theorem c_X3_size (l : Launch) (dC : Nat → ClassId) (dI : Nat → Nat → Nat) (cI cJ cZ : ClassId) (h_rule h_rule_lower : Nat) (sz : Nat) (f_rule_lower : Nat → Int32)  {post : Int32 → Prop} (hq : q_X3_size f_rule_lower post) : Met l yX3_size wsX3_size rm_X3_size (va_Pc [.ref h_rule] (gx_Pre (dC, dI) vwCl (gx_tys cI cJ cZ) sz (W_X3_size cI cJ cZ h_rule h_rule_lower f_rule_lower))) (va_Qi (fun (r : Int32) (u : Unit) => post r) (gx_B (dC, dI) vwCl (gx_tys cI cJ cZ) (va_A (W_X3_size cI cJ cZ h_rule h_rule_lower f_rule_lower) sz) (fun (u : Unit) => (W_X3_size cI cJ cZ h_rule h_rule_lower f_rule_lower))) (va_A (W_X3_size cI cJ cZ h_rule h_rule_lower f_rule_lower) sz)) 0 0 (va_A (W_X3_size cI cJ cZ h_rule h_rule_lower f_rule_lower) sz) := by
  refine gx_i (cc := cX3_size) (maxL := 6) (by decide) rfl (Nat.le_of_ble_eq_true rfl) ?_
  intro p e s m args below meth c A QQ hx hb hml hown hts hA hP hK hD hret ls hl
  have hown : s.vm.findClass RX3 = some m.cls := hown
  have hf9 := hts (.fieldLink RX3 9 "SmallWindows$Rule" "lower" "[I") (by decide +kernel)
  have hinX3 : ∀ w ∈ u_ws RX3 TX3 1, w ∈ wsX3_size := fun w h => List.mem_cons_of_mem _ ((List.mem_append_right _ h))
  have hS : va_S A s.heap s.heap [] := va_S.rf
  have hl : lv_has ls 6 [(0, .ref h_rule)] := hl
  have L13 : ∀ (l3 : Int32) (n : Nat) (l1 : Int32) (l4 : Int32), r_X3_size_13 f_rule_lower post l3 n l1 l4 → ∀ (H : Heap) (locs : List Loc), va_P (dC, dI) vwCl (W_X3_size cI cJ cZ h_rule h_rule_lower f_rule_lower) H → va_D A (W_X3_size cI cJ cZ h_rule h_rule_lower f_rule_lower) → va_S A s.heap H locs → ∀ ls : Array Slot, lv_has ls 6 [(1, .int l1), (2, .ref h_rule_lower), (3, .int l3), (4, .int l4)] → W p l e rm_X3_size s m args below meth c H locs 0 0 QQ (F0 m 13 ls []) := by
    intro l3 n
    induction n with
    | zero => intro l1 l4 hq; exact False.elim hq
    | succ n ih =>
      intro l1 l4 hq H locs hP hD hS ls hl
      unfold r_X3_size_13 at hq
      refine lv_iload hx hb dX3_size_13 (lv_at hl 3 rfl) ?_
      refine lv_iload_n hx hb dX3_size_15 rfl (lv_at hl 2 rfl) ?_
      refine lv_icmp_ge (tgt := 39) hx hb dX3_size_16 (by decide) (fun c1 => ?_) (fun c1 => ?_)
      · replace hq := hq.1 c1
        refine lv_iload_n hx hb dX3_size_39 rfl (lv_at hl 0 rfl) ?_
        exact hret l1 () hq _ _ hP hD hS _ _ dX3_size_40
      · replace hq := hq.2 c1
        refine lv_aload_n hx hb dX3_size_19 rfl (lv_at hl 1 rfl) ?_
        refine lv_iload hx hb dX3_size_20 (lv_at hl 3 rfl) ?_
        obtain ⟨hv2, hq⟩ := hq
        refine va_iald hx hb hK hP 1 0 rfl rfl hv2 dX3_size_22 ?_
        refine lv_istore (lv' := [(5, .int (f_rule_lower (l4).toNatClampNeg)), (1, .int l1), (2, .ref h_rule_lower), (3, .int l3), (4, .int l4)]) hx hb dX3_size_23 hl (by decide) rfl (fun ls hl => ?_)
        refine lv_iload_n hx hb dX3_size_25 rfl (lv_at hl 1 rfl) ?_
        refine lv_iload hx hb dX3_size_26 (lv_at hl 0 rfl) ?_
        refine gx_cSi (As := [.int (f_rule_lower (l4).toNatClampNeg)]) (rest := [.int l1]) ⟨hx, hb, hml, hown, hts⟩ (c_J6_bitCount_0f7a4 l dC dI cI cJ cZ H.size (f_rule_lower (l4).toNatClampNeg) hq) (va_cwS 1 hts gX3_size_J6_bitCount_0f7a4 rfl rfl rfl hdS_J6_bitCount_0f7a4 ⟨Nat.le_of_ble_eq_true rfl, Nat.le_of_ble_eq_true rfl⟩) hK hP hD hS hA [] [0, 1] rfl rfl rfl rfl rfl rfl hl.1 (Nat.le_of_ble_eq_true rfl) dX3_size_28 rfl (fun r3 u H locs hq hP hD hS => ?_)
        try dsimp only at hq
        have hP : va_P (dC, dI) vwCl (W_X3_size cI cJ cZ h_rule h_rule_lower f_rule_lower) H := hP
        have hD : va_D A (W_X3_size cI cJ cZ h_rule h_rule_lower f_rule_lower) := hD
        refine lv_iadd hx hb dX3_size_31 ?_
        refine lv_istore_n (lv' := [(1, .int (l1 + r3)), (5, .int (f_rule_lower (l4).toNatClampNeg)), (2, .ref h_rule_lower), (3, .int l3), (4, .int l4)]) hx hb dX3_size_32 rfl hl (by decide) rfl (fun ls hl => ?_)
        refine lv_iinc (v := (l4 + (1 : Int32))) (lv' := [(4, .int (l4 + (1 : Int32))), (1, .int (l1 + r3)), (5, .int (f_rule_lower (l4).toNatClampNeg)), (2, .ref h_rule_lower), (3, .int l3)]) hx hb dX3_size_33 hl (k := 4) rfl rfl (by decide) rfl (fun ls hl => ?_)
        refine lv_goto (tgt := 13) hx hb dX3_size_36 (by decide) ?_
        exact ih _ _ hq _ _ hP hD hS _ (lv_sub hl [1, 3, 4, 0] rfl)
  have C13 : ∀ (l1 : Int32) (l3 : Int32) (l4 : Int32), q_X3_size_13 f_rule_lower post l1 l3 l4 → ∀ (H : Heap) (locs : List Loc), va_P (dC, dI) vwCl (W_X3_size cI cJ cZ h_rule h_rule_lower f_rule_lower) H → va_D A (W_X3_size cI cJ cZ h_rule h_rule_lower f_rule_lower) → va_S A s.heap H locs → ∀ ls : Array Slot, lv_has ls 6 [(1, .int l1), (2, .ref h_rule_lower), (3, .int l3), (4, .int l4)] → W p l e rm_X3_size s m args below meth c H locs 0 0 QQ (F0 m 13 ls []) := by
    intro l1 l3 l4 hq H locs hP hD hS ls hl
    obtain ⟨n, hq⟩ := hq
    exact L13 _ n _ _ hq H locs hP hD hS ls hl
  unfold q_X3_size at hq
  refine lv_iconst (v := (0 : Int32)) hx hb dX3_size_0 (by decide) ?_
  refine lv_istore_n (lv' := [(1, .int (0 : Int32)), (0, .ref h_rule)]) hx hb dX3_size_1 rfl hl (by decide) rfl (fun ls hl => ?_)
  refine lv_aload_n hx hb dX3_size_2 rfl (lv_at hl 1 rfl) ?_
  refine va_get (D := (dC, dI)) (ci := 3) (v := .ref h_rule_lower) (C := RX3) (T := TX3) (N := 1) hx hb hts hinX3 hown hK hP 0 rfl rfl 0 (by decide) hf9 (fun _ h9 => h9) rfl dX3_size_3 ?_
  refine lv_astore_n (lv' := [(2, .ref h_rule_lower), (1, .int (0 : Int32)), (0, .ref h_rule)]) hx hb dX3_size_6 rfl hl (by decide) rfl (fun ls hl => ?_)
  refine lv_aload_n hx hb dX3_size_7 rfl (lv_at hl 0 rfl) ?_
  refine va_alen (v := (16 : Int32)) hx hb hK hP 1 0 rfl rfl rfl dX3_size_8 ?_
  refine lv_istore_n (lv' := [(3, .int (16 : Int32)), (2, .ref h_rule_lower), (1, .int (0 : Int32)), (0, .ref h_rule)]) hx hb dX3_size_9 rfl hl (by decide) rfl (fun ls hl => ?_)
  refine lv_iconst (v := (0 : Int32)) hx hb dX3_size_10 (by decide) ?_
  refine lv_istore (lv' := [(4, .int (0 : Int32)), (3, .int (16 : Int32)), (2, .ref h_rule_lower), (1, .int (0 : Int32)), (0, .ref h_rule)]) hx hb dX3_size_11 hl (by decide) rfl (fun ls hl => ?_)
  exact C13 _ _ _ hq _ _ hP hD hS _ (lv_sub hl [3, 2, 1, 0] rfl)

abbrev W_X3_corners (cI cJ cZ : ClassId) (h_rule h_rule_lower : Nat) (f_rule_lower : Nat → Int32) : va_W := [(h_rule, .inr (3, [.ref h_rule_lower])), (h_rule_lower, .inl (cI, 16, .inl f_rule_lower))]
abbrev rm_X3_corners : Room := { frames := 0, cells := 0, slots := 0, locals := 0 }
def q_X3_corners (f_rule_lower : Nat → Int32) (l1 : Int32) (l2 : Int32) (l3 : Int32) (post : Int32 → Prop) : Prop := (vp_in (((l1 &&& (3 : Int32)) <<< ((2 : Int32) &&& 31)) ||| (l2 &&& (3 : Int32))) 16 ∧ (post (((f_rule_lower ((((l1 &&& (3 : Int32)) <<< ((2 : Int32) &&& 31)) ||| (l2 &&& (3 : Int32)))).toNatClampNeg) >>> (((l3 &&& (3 : Int32)) <<< ((2 : Int32) &&& 31)) &&& 31)) &&& (15 : Int32))))
theorem hdV_X3_corners : yX3_corners.cls = RX3 ∧ yX3_corners.cls ≠ "java/lang/invoke/MethodHandle" ∧ yX3_corners.cls ≠ "java/lang/invoke/VarHandle" ∧ (parseMethodDescriptor yX3_corners.desc).map (fun d => d.parameters.length) = some 3 := by decide +kernel
set_option maxHeartbeats 4000000 in
set_option maxRecDepth 100000 in
theorem c_X3_corners (l : Launch) (dC : Nat → ClassId) (dI : Nat → Nat → Nat) (cI cJ cZ : ClassId) (h_rule h_rule_lower : Nat) (sz : Nat) (f_rule_lower : Nat → Int32) (l1 : Int32) (l2 : Int32) (l3 : Int32) {post : Int32 → Prop} (hq : q_X3_corners f_rule_lower l1 l2 l3 post) : Met l yX3_corners wsX3_corners rm_X3_corners (va_Pc [.ref h_rule, .int l1, .int l2, .int l3] (gx_Pre (dC, dI) vwCl (gx_tys cI cJ cZ) sz (W_X3_corners cI cJ cZ h_rule h_rule_lower f_rule_lower))) (va_Qi (fun (r : Int32) (u : Unit) => post r) (gx_B (dC, dI) vwCl (gx_tys cI cJ cZ) (va_A (W_X3_corners cI cJ cZ h_rule h_rule_lower f_rule_lower) sz) (fun (u : Unit) => (W_X3_corners cI cJ cZ h_rule h_rule_lower f_rule_lower))) (va_A (W_X3_corners cI cJ cZ h_rule h_rule_lower f_rule_lower) sz)) 0 0 (va_A (W_X3_corners cI cJ cZ h_rule h_rule_lower f_rule_lower) sz) := by
  refine gx_i (cc := cX3_corners) (maxL := 4) (by decide) rfl (Nat.le_of_ble_eq_true rfl) ?_
  intro p e s m args below meth c A QQ hx hb hml hown hts hA hP hK hD hret ls hl
  have hown : s.vm.findClass RX3 = some m.cls := hown
  have hf9 := hts (.fieldLink RX3 9 "SmallWindows$Rule" "lower" "[I") (by decide +kernel)
  have hinX3 : ∀ w ∈ u_ws RX3 TX3 1, w ∈ wsX3_corners := fun w h => List.mem_cons_of_mem _ ((List.mem_append_right _ h))
  have hS : va_S A s.heap s.heap [] := va_S.rf
  have hl : lv_has ls 4 [(0, .ref h_rule), (1, .int l1), (2, .int l2), (3, .int l3)] := hl
  unfold q_X3_corners at hq
  refine lv_aload_n hx hb dX3_corners_0 rfl (lv_at hl 0 rfl) ?_
  refine va_get (D := (dC, dI)) (ci := 3) (v := .ref h_rule_lower) (C := RX3) (T := TX3) (N := 1) hx hb hts hinX3 hown hK hP 0 rfl rfl 0 (by decide) hf9 (fun _ h9 => h9) rfl dX3_corners_1 ?_
  refine lv_iload_n hx hb dX3_corners_4 rfl (lv_at hl 1 rfl) ?_
  refine lv_iconst (v := (3 : Int32)) hx hb dX3_corners_5 (by decide) ?_
  refine lv_iand hx hb dX3_corners_6 ?_
  refine lv_iconst (v := (2 : Int32)) hx hb dX3_corners_7 (by decide) ?_
  refine lv_ishl hx hb dX3_corners_8 ?_
  refine lv_iload_n hx hb dX3_corners_9 rfl (lv_at hl 2 rfl) ?_
  refine lv_iconst (v := (3 : Int32)) hx hb dX3_corners_10 (by decide) ?_
  refine lv_iand hx hb dX3_corners_11 ?_
  refine lv_ior hx hb dX3_corners_12 ?_
  obtain ⟨hv1, hq⟩ := hq
  refine va_iald hx hb hK hP 1 0 rfl rfl hv1 dX3_corners_13 ?_
  refine lv_iload_n hx hb dX3_corners_14 rfl (lv_at hl 3 rfl) ?_
  refine lv_iconst (v := (3 : Int32)) hx hb dX3_corners_15 (by decide) ?_
  refine lv_iand hx hb dX3_corners_16 ?_
  refine lv_iconst (v := (2 : Int32)) hx hb dX3_corners_17 (by decide) ?_
  refine lv_ishl hx hb dX3_corners_18 ?_
  refine lv_ishr hx hb dX3_corners_19 ?_
  refine lv_bipush (v := (15 : Int32)) hx hb dX3_corners_20 (by decide) ?_
  refine lv_iand hx hb dX3_corners_22 ?_
  exact hret (((f_rule_lower ((((l1 &&& (3 : Int32)) <<< ((2 : Int32) &&& 31)) ||| (l2 &&& (3 : Int32)))).toNatClampNeg) >>> (((l3 &&& (3 : Int32)) <<< ((2 : Int32) &&& 31)) &&& 31)) &&& (15 : Int32)) () hq _ _ hP hD hS _ _ dX3_corners_23

abbrev W_X3_joins (cI cJ cZ : ClassId) (h_rule h_rule_lower : Nat) (f_rule_lower : Nat → Int32) : va_W := [(h_rule, .inr (3, [.ref h_rule_lower])), (h_rule_lower, .inl (cI, 16, .inl f_rule_lower))]
abbrev rm_X3_joins : Room := { frames := 0, cells := 0, slots := 0, locals := 0 }
def r_X3_joins_3 (f_rule_lower : Nat → Int32) (post : Int32 → Prop) (l1 : Int32) (l2 : Int32) (l3 : Int32) : Nat → (Int32) → Prop
  | 0, _ => False
  | n + 1, l4 => ((((2 : Int32) * l3) < l4 → (post (1 : Int32))) ∧ (¬ ((2 : Int32) * l3) < l4 → (vp_in ((l1 >>> (l4 &&& 31)) &&& (15 : Int32)) 16 ∧ ((¬ (((f_rule_lower (((l1 >>> (l4 &&& 31)) &&& (15 : Int32))).toNatClampNeg) >>> (((l2 >>> (l4 &&& 31)) &&& (15 : Int32)) &&& 31)) &&& (1 : Int32)) = 0 → ((r_X3_joins_3 f_rule_lower post l1 l2 l3 n) (l4 + (2 : Int32)))) ∧ ((((f_rule_lower (((l1 >>> (l4 &&& 31)) &&& (15 : Int32))).toNatClampNeg) >>> (((l2 >>> (l4 &&& 31)) &&& (15 : Int32)) &&& 31)) &&& (1 : Int32)) = 0 → (post (0 : Int32)))))))
def q_X3_joins_3 (f_rule_lower : Nat → Int32) (post : Int32 → Prop) (l1 : Int32) (l2 : Int32) (l3 : Int32) (l4 : Int32) : Prop := ∃ n, r_X3_joins_3 f_rule_lower post l1 l2 l3 n l4
def q_X3_joins (f_rule_lower : Nat → Int32) (l1 : Int32) (l2 : Int32) (l3 : Int32) (post : Int32 → Prop) : Prop := ((q_X3_joins_3 f_rule_lower post) l1 l2 l3 (0 : Int32))
theorem hdV_X3_joins : yX3_joins.cls = RX3 ∧ yX3_joins.cls ≠ "java/lang/invoke/MethodHandle" ∧ yX3_joins.cls ≠ "java/lang/invoke/VarHandle" ∧ (parseMethodDescriptor yX3_joins.desc).map (fun d => d.parameters.length) = some 3 := by decide +kernel
set_option maxHeartbeats 4000000 in
set_option maxRecDepth 100000 in
theorem c_X3_joins (l : Launch) (dC : Nat → ClassId) (dI : Nat → Nat → Nat) (cI cJ cZ : ClassId) (h_rule h_rule_lower : Nat) (sz : Nat) (f_rule_lower : Nat → Int32) (l1 : Int32) (l2 : Int32) (l3 : Int32) {post : Int32 → Prop} (hq : q_X3_joins f_rule_lower l1 l2 l3 post) : Met l yX3_joins wsX3_joins rm_X3_joins (va_Pc [.ref h_rule, .int l1, .int l2, .int l3] (gx_Pre (dC, dI) vwCl (gx_tys cI cJ cZ) sz (W_X3_joins cI cJ cZ h_rule h_rule_lower f_rule_lower))) (va_Qi (fun (r : Int32) (u : Unit) => post r) (gx_B (dC, dI) vwCl (gx_tys cI cJ cZ) (va_A (W_X3_joins cI cJ cZ h_rule h_rule_lower f_rule_lower) sz) (fun (u : Unit) => (W_X3_joins cI cJ cZ h_rule h_rule_lower f_rule_lower))) (va_A (W_X3_joins cI cJ cZ h_rule h_rule_lower f_rule_lower) sz)) 0 0 (va_A (W_X3_joins cI cJ cZ h_rule h_rule_lower f_rule_lower) sz) := by
  refine gx_z (cc := cX3_joins) (maxL := 5) (by decide) rfl (Nat.le_of_ble_eq_true rfl) ?_
  intro p e s m args below meth c A QQ hx hb hml hown hts hA hP hK hD hret ls hl
  have hown : s.vm.findClass RX3 = some m.cls := hown
  have hf9 := hts (.fieldLink RX3 9 "SmallWindows$Rule" "lower" "[I") (by decide +kernel)
  have hinX3 : ∀ w ∈ u_ws RX3 TX3 1, w ∈ wsX3_joins := fun w h => List.mem_cons_of_mem _ ((List.mem_append_right _ h))
  have hS : va_S A s.heap s.heap [] := va_S.rf
  have hl : lv_has ls 5 [(0, .ref h_rule), (1, .int l1), (2, .int l2), (3, .int l3)] := hl
  have L3 : ∀ (l1 : Int32) (l2 : Int32) (l3 : Int32) (n : Nat) (l4 : Int32), r_X3_joins_3 f_rule_lower post l1 l2 l3 n l4 → ∀ (H : Heap) (locs : List Loc), va_P (dC, dI) vwCl (W_X3_joins cI cJ cZ h_rule h_rule_lower f_rule_lower) H → va_D A (W_X3_joins cI cJ cZ h_rule h_rule_lower f_rule_lower) → va_S A s.heap H locs → ∀ ls : Array Slot, lv_has ls 5 [(0, .ref h_rule), (1, .int l1), (2, .int l2), (3, .int l3), (4, .int l4)] → W p l e rm_X3_joins s m args below meth c H locs 0 0 QQ (F0 m 3 ls []) := by
    intro l1 l2 l3 n
    induction n with
    | zero => intro l4 hq; exact False.elim hq
    | succ n ih =>
      intro l4 hq H locs hP hD hS ls hl
      unfold r_X3_joins_3 at hq
      refine lv_iload hx hb dX3_joins_3 (lv_at hl 4 rfl) ?_
      refine lv_iconst (v := (2 : Int32)) hx hb dX3_joins_5 (by decide) ?_
      refine lv_iload_n hx hb dX3_joins_6 rfl (lv_at hl 3 rfl) ?_
      refine lv_imul hx hb dX3_joins_7 ?_
      refine lv_icmp_gt (tgt := 44) hx hb dX3_joins_8 (by decide) (fun c1 => ?_) (fun c1 => ?_)
      · replace hq := hq.1 c1
        refine lv_iconst (v := (1 : Int32)) hx hb dX3_joins_44 (by decide) ?_
        exact hret (1 : Int32) () (Or.inr rfl) hq _ _ hP hD hS _ _ dX3_joins_45
      · replace hq := hq.2 c1
        refine lv_aload_n hx hb dX3_joins_11 rfl (lv_at hl 0 rfl) ?_
        refine va_get (D := (dC, dI)) (ci := 3) (v := .ref h_rule_lower) (C := RX3) (T := TX3) (N := 1) hx hb hts hinX3 hown hK hP 0 rfl rfl 0 (by decide) hf9 (fun _ h9 => h9) rfl dX3_joins_12 ?_
        refine lv_iload_n hx hb dX3_joins_15 rfl (lv_at hl 1 rfl) ?_
        refine lv_iload hx hb dX3_joins_16 (lv_at hl 4 rfl) ?_
        refine lv_ishr hx hb dX3_joins_18 ?_
        refine lv_bipush (v := (15 : Int32)) hx hb dX3_joins_19 (by decide) ?_
        refine lv_iand hx hb dX3_joins_21 ?_
        obtain ⟨hv2, hq⟩ := hq
        refine va_iald hx hb hK hP 1 0 rfl rfl hv2 dX3_joins_22 ?_
        refine lv_iload_n hx hb dX3_joins_23 rfl (lv_at hl 2 rfl) ?_
        refine lv_iload hx hb dX3_joins_24 (lv_at hl 4 rfl) ?_
        refine lv_ishr hx hb dX3_joins_26 ?_
        refine lv_bipush (v := (15 : Int32)) hx hb dX3_joins_27 (by decide) ?_
        refine lv_iand hx hb dX3_joins_29 ?_
        refine lv_ishr hx hb dX3_joins_30 ?_
        refine lv_iconst (v := (1 : Int32)) hx hb dX3_joins_31 (by decide) ?_
        refine lv_iand hx hb dX3_joins_32 ?_
        refine lv_if_ne (tgt := 38) hx hb dX3_joins_33 (by decide) (fun c3 => ?_) (fun c3 => ?_)
        · replace hq := hq.1 c3
          refine lv_iinc (v := (l4 + (2 : Int32))) (lv' := [(4, .int (l4 + (2 : Int32))), (0, .ref h_rule), (1, .int l1), (2, .int l2), (3, .int l3)]) hx hb dX3_joins_38 hl (k := 4) rfl rfl (by decide) rfl (fun ls hl => ?_)
          refine lv_goto (tgt := 3) hx hb dX3_joins_41 (by decide) ?_
          exact ih _ hq _ _ hP hD hS _ (lv_sub hl [1, 2, 3, 4, 0] rfl)
        · replace hq := hq.2 c3
          refine lv_iconst (v := (0 : Int32)) hx hb dX3_joins_36 (by decide) ?_
          exact hret (0 : Int32) () (Or.inl rfl) hq _ _ hP hD hS _ _ dX3_joins_37
  have C3 : ∀ (l1 : Int32) (l2 : Int32) (l3 : Int32) (l4 : Int32), q_X3_joins_3 f_rule_lower post l1 l2 l3 l4 → ∀ (H : Heap) (locs : List Loc), va_P (dC, dI) vwCl (W_X3_joins cI cJ cZ h_rule h_rule_lower f_rule_lower) H → va_D A (W_X3_joins cI cJ cZ h_rule h_rule_lower f_rule_lower) → va_S A s.heap H locs → ∀ ls : Array Slot, lv_has ls 5 [(0, .ref h_rule), (1, .int l1), (2, .int l2), (3, .int l3), (4, .int l4)] → W p l e rm_X3_joins s m args below meth c H locs 0 0 QQ (F0 m 3 ls []) := by
    intro l1 l2 l3 l4 hq H locs hP hD hS ls hl
    obtain ⟨n, hq⟩ := hq
    exact L3 _ _ _ n _ hq H locs hP hD hS ls hl
  unfold q_X3_joins at hq
  refine lv_iconst (v := (0 : Int32)) hx hb dX3_joins_0 (by decide) ?_
  refine lv_istore (lv' := [(4, .int (0 : Int32)), (0, .ref h_rule), (1, .int l1), (2, .int l2), (3, .int l3)]) hx hb dX3_joins_1 hl (by decide) rfl (fun ls hl => ?_)
  exact C3 _ _ _ _ hq _ _ hP hD hS _ (lv_sub hl [1, 2, 3, 4, 0] rfl)

abbrev W_X3_firstWrong (cI cJ cZ : ClassId) (h_rule h_rule_lower h_S h_S_cells : Nat) (f_rule_lower : Nat → Int32) (S_h : Int32) (S_w : Int32) (f_S_cells : Nat → Int32) : va_W := [(h_rule, .inr (3, [.ref h_rule_lower])), (h_rule_lower, .inl (cI, 16, .inl f_rule_lower)), (h_S, .inr (4, [.int S_h, .int S_w, .ref h_S_cells])), (h_S_cells, .inl (cI, 25, .inl f_S_cells))]
abbrev rm_X3_firstWrong : Room := { frames := 2, cells := 0, slots := 0, locals := 44 }
def r_X3_firstWrong_12 (f_rule_lower : Nat → Int32) (S_h : Int32) (S_w : Int32) (f_S_cells : Nat → Int32) (post : Int32 → Prop) (K50 : (Int32) → Prop) (l2 : Int32) : Nat → (Int32) → Prop
  | 0, _ => False
  | n + 1, l3 => ((S_w < l3 → (K50 l2)) ∧ (¬ S_w < l3 → (q_X4_block S_h S_w f_S_cells l2 l3 (fun (r3 : Int32) => (q_X3_has f_rule_lower r3 (fun (r4 : Int32) => ((¬ r4 = 0 → ((r_X3_firstWrong_12 f_rule_lower S_h S_w f_S_cells post K50 l2 n) (l3 + (1 : Int32)))) ∧ (r4 = 0 → (post (((S_w + (1 : Int32)) * l2) + l3))))))))))
def q_X3_firstWrong_50 (f_rule_lower : Nat → Int32) (S_h : Int32) (S_w : Int32) (f_S_cells : Nat → Int32) (post : Int32 → Prop) (K2 : (Int32) → Prop) (l2 : Int32) : Prop := (K2 (l2 + (1 : Int32)))
def q_X3_firstWrong_12 (f_rule_lower : Nat → Int32) (S_h : Int32) (S_w : Int32) (f_S_cells : Nat → Int32) (post : Int32 → Prop) (K2 : (Int32) → Prop) (l2 : Int32) (l3 : Int32) : Prop := ∃ n, r_X3_firstWrong_12 f_rule_lower S_h S_w f_S_cells post (q_X3_firstWrong_50 f_rule_lower S_h S_w f_S_cells post K2) l2 n l3
def r_X3_firstWrong_2 (f_rule_lower : Nat → Int32) (S_h : Int32) (S_w : Int32) (f_S_cells : Nat → Int32) (post : Int32 → Prop) : Nat → (Int32) → Prop
  | 0, _ => False
  | n + 1, l2 => ((S_h < l2 → (post (-1 : Int32))) ∧ (¬ S_h < l2 → ((q_X3_firstWrong_12 f_rule_lower S_h S_w f_S_cells post (r_X3_firstWrong_2 f_rule_lower S_h S_w f_S_cells post n)) l2 (0 : Int32))))
def q_X3_firstWrong_2 (f_rule_lower : Nat → Int32) (S_h : Int32) (S_w : Int32) (f_S_cells : Nat → Int32) (post : Int32 → Prop) (l2 : Int32) : Prop := ∃ n, r_X3_firstWrong_2 f_rule_lower S_h S_w f_S_cells post n l2
def q_X3_firstWrong (f_rule_lower : Nat → Int32) (S_h : Int32) (S_w : Int32) (f_S_cells : Nat → Int32) (post : Int32 → Prop) : Prop := ((q_X3_firstWrong_2 f_rule_lower S_h S_w f_S_cells post) (0 : Int32))
theorem hdV_X3_firstWrong : yX3_firstWrong.cls = RX3 ∧ yX3_firstWrong.cls ≠ "java/lang/invoke/MethodHandle" ∧ yX3_firstWrong.cls ≠ "java/lang/invoke/VarHandle" ∧ (parseMethodDescriptor yX3_firstWrong.desc).map (fun d => d.parameters.length) = some 1 := by decide +kernel
set_option maxHeartbeats 4000000 in
set_option maxRecDepth 100000 in
theorem c_X3_firstWrong (l : Launch) (dC : Nat → ClassId) (dI : Nat → Nat → Nat) (cI cJ cZ : ClassId) (h_rule h_rule_lower h_S h_S_cells : Nat) (sz : Nat) (f_rule_lower : Nat → Int32) (S_h : Int32) (S_w : Int32) (f_S_cells : Nat → Int32)  {post : Int32 → Prop} (hq : q_X3_firstWrong f_rule_lower S_h S_w f_S_cells post) : Met l yX3_firstWrong wsX3_firstWrong rm_X3_firstWrong (va_Pc [.ref h_rule, .ref h_S] (gx_Pre (dC, dI) vwCl (gx_tys cI cJ cZ) sz (W_X3_firstWrong cI cJ cZ h_rule h_rule_lower h_S h_S_cells f_rule_lower S_h S_w f_S_cells))) (va_Qi (fun (r : Int32) (u : Unit) => post r) (gx_B (dC, dI) vwCl (gx_tys cI cJ cZ) (va_A (W_X3_firstWrong cI cJ cZ h_rule h_rule_lower h_S h_S_cells f_rule_lower S_h S_w f_S_cells) sz) (fun (u : Unit) => (W_X3_firstWrong cI cJ cZ h_rule h_rule_lower h_S h_S_cells f_rule_lower S_h S_w f_S_cells))) (va_A (W_X3_firstWrong cI cJ cZ h_rule h_rule_lower h_S h_S_cells f_rule_lower S_h S_w f_S_cells) sz)) 0 0 (va_A (W_X3_firstWrong cI cJ cZ h_rule h_rule_lower h_S h_S_cells f_rule_lower S_h S_w f_S_cells) sz) := by
  refine gx_i (cc := cX3_firstWrong) (maxL := 4) (by decide) rfl (Nat.le_of_ble_eq_true rfl) ?_
  intro p e s m args below meth c A QQ hx hb hml hown hts hA hP hK hD hret ls hl
  have hown : s.vm.findClass RX3 = some m.cls := hown
  have hf27 := hts (.fieldLink RX3 27 "SmallWindows$Sheet" "h" "I") (by decide +kernel)
  have hf33 := hts (.fieldLink RX3 33 "SmallWindows$Sheet" "w" "I") (by decide +kernel)
  have hinX4 : ∀ w ∈ u_ws RX4 TX4 3, w ∈ wsX3_firstWrong := fun w h => List.mem_cons_of_mem _ ((List.mem_append_left _ (List.mem_append_right _ h)))
  have hS : va_S A s.heap s.heap [] := va_S.rf
  have hl : lv_has ls 4 [(0, .ref h_rule), (1, .ref h_S)] := hl
  have L12 : ∀ (K50 : (Int32) → Prop) (hK50 : (∀ (l2 : Int32), K50 l2 → ∀ (H : Heap) (locs : List Loc), va_P (dC, dI) vwCl (W_X3_firstWrong cI cJ cZ h_rule h_rule_lower h_S h_S_cells f_rule_lower S_h S_w f_S_cells) H → va_D A (W_X3_firstWrong cI cJ cZ h_rule h_rule_lower h_S h_S_cells f_rule_lower S_h S_w f_S_cells) → va_S A s.heap H locs → ∀ ls : Array Slot, lv_has ls 4 [(0, .ref h_rule), (1, .ref h_S), (2, .int l2)] → W p l e rm_X3_firstWrong s m args below meth c H locs 0 0 QQ (F0 m 50 ls []))) (l2 : Int32) (n : Nat) (l3 : Int32), r_X3_firstWrong_12 f_rule_lower S_h S_w f_S_cells post K50 l2 n l3 → ∀ (H : Heap) (locs : List Loc), va_P (dC, dI) vwCl (W_X3_firstWrong cI cJ cZ h_rule h_rule_lower h_S h_S_cells f_rule_lower S_h S_w f_S_cells) H → va_D A (W_X3_firstWrong cI cJ cZ h_rule h_rule_lower h_S h_S_cells f_rule_lower S_h S_w f_S_cells) → va_S A s.heap H locs → ∀ ls : Array Slot, lv_has ls 4 [(0, .ref h_rule), (1, .ref h_S), (2, .int l2), (3, .int l3)] → W p l e rm_X3_firstWrong s m args below meth c H locs 0 0 QQ (F0 m 12 ls []) := by
    intro K50 hK50 l2 n
    induction n with
    | zero => intro l3 hq; exact False.elim hq
    | succ n ih =>
      intro l3 hq H locs hP hD hS ls hl
      unfold r_X3_firstWrong_12 at hq
      refine lv_iload_n hx hb dX3_firstWrong_12 rfl (lv_at hl 3 rfl) ?_
      refine lv_aload_n hx hb dX3_firstWrong_13 rfl (lv_at hl 1 rfl) ?_
      refine va_get (D := (dC, dI)) (ci := 4) (v := .int S_w) (C := RX4) (T := TX4) (N := 3) hx hb hts hinX4 hown hK hP 2 rfl rfl 1 (by decide) hf33 (fun _ h9 => h9) rfl dX3_firstWrong_14 ?_
      refine lv_icmp_gt (tgt := 50) hx hb dX3_firstWrong_17 (by decide) (fun c2 => ?_) (fun c2 => ?_)
      · replace hq := hq.1 c2
        exact hK50 _ hq _ _ hP hD hS _ (lv_sub hl [0, 1, 2] rfl)
      · replace hq := hq.2 c2
        refine lv_aload_n hx hb dX3_firstWrong_20 rfl (lv_at hl 0 rfl) ?_
        refine lv_aload_n hx hb dX3_firstWrong_21 rfl (lv_at hl 1 rfl) ?_
        refine lv_iload_n hx hb dX3_firstWrong_22 rfl (lv_at hl 2 rfl) ?_
        refine lv_iload_n hx hb dX3_firstWrong_23 rfl (lv_at hl 3 rfl) ?_
        refine gx_cVi (C := RX4) (As := [.int l2, .int l3]) (rest := [.ref h_rule]) ⟨hx, hb, hml, hown, hts⟩ (c_X4_block l dC dI cI cJ cZ h_S h_S_cells H.size S_h S_w f_S_cells l2 l3 hq) (cwV 2 hts gX3_firstWrong_X4_block rfl rfl rfl hdV_X4_block ⟨Nat.le_of_ble_eq_true rfl, Nat.le_of_ble_eq_true rfl⟩) hK hP hD hS hA [2, 3] [0, 1] rfl rfl rfl rfl rfl (ci := 4) (q0 := 0) rfl rfl rfl rfl hl.1 (Nat.le_of_ble_eq_true rfl) dX3_firstWrong_24 rfl (fun r3 u H locs hq hP hD hS => ?_)
        try dsimp only at hq
        have hP : va_P (dC, dI) vwCl (W_X3_firstWrong cI cJ cZ h_rule h_rule_lower h_S h_S_cells f_rule_lower S_h S_w f_S_cells) H := hP
        have hD : va_D A (W_X3_firstWrong cI cJ cZ h_rule h_rule_lower h_S h_S_cells f_rule_lower S_h S_w f_S_cells) := hD
        refine gx_cVi (C := RX3) (As := [.int r3]) (rest := []) ⟨hx, hb, hml, hown, hts⟩ (c_X3_has l dC dI cI cJ cZ h_rule h_rule_lower H.size f_rule_lower r3 hq) (cwV 1 hts gX3_firstWrong_X3_has rfl rfl rfl hdV_X3_has ⟨Nat.le_of_ble_eq_true rfl, Nat.le_of_ble_eq_true rfl⟩) hK hP hD hS hA [0, 1] [2, 3] rfl rfl rfl rfl rfl (ci := 3) (q0 := 0) rfl rfl rfl rfl hl.1 (Nat.le_of_ble_eq_true rfl) dX3_firstWrong_27 rfl (fun r4 u H locs hq hP hD hS => ?_)
        try dsimp only at hq
        have hP : va_P (dC, dI) vwCl (W_X3_firstWrong cI cJ cZ h_rule h_rule_lower h_S h_S_cells f_rule_lower S_h S_w f_S_cells) H := hP.sub [2, 3, 0, 1] rfl
        have hD : va_D A (W_X3_firstWrong cI cJ cZ h_rule h_rule_lower h_S h_S_cells f_rule_lower S_h S_w f_S_cells) := hD.sub [2, 3, 0, 1] (by decide) rfl
        refine lv_if_ne (tgt := 44) hx hb dX3_firstWrong_30 (by decide) (fun c5 => ?_) (fun c5 => ?_)
        · replace hq := hq.1 c5
          refine lv_iinc (v := (l3 + (1 : Int32))) (lv' := [(3, .int (l3 + (1 : Int32))), (0, .ref h_rule), (1, .ref h_S), (2, .int l2)]) hx hb dX3_firstWrong_44 hl (k := 3) rfl rfl (by decide) rfl (fun ls hl => ?_)
          refine lv_goto (tgt := 12) hx hb dX3_firstWrong_47 (by decide) ?_
          exact ih _ hq _ _ hP hD hS _ (lv_sub hl [1, 2, 3, 0] rfl)
        · replace hq := hq.2 c5
          refine lv_aload_n hx hb dX3_firstWrong_33 rfl (lv_at hl 1 rfl) ?_
          refine va_get (D := (dC, dI)) (ci := 4) (v := .int S_w) (C := RX4) (T := TX4) (N := 3) hx hb hts hinX4 hown hK hP 2 rfl rfl 1 (by decide) hf33 (fun _ h9 => h9) rfl dX3_firstWrong_34 ?_
          refine lv_iconst (v := (1 : Int32)) hx hb dX3_firstWrong_37 (by decide) ?_
          refine lv_iadd hx hb dX3_firstWrong_38 ?_
          refine lv_iload_n hx hb dX3_firstWrong_39 rfl (lv_at hl 2 rfl) ?_
          refine lv_imul hx hb dX3_firstWrong_40 ?_
          refine lv_iload_n hx hb dX3_firstWrong_41 rfl (lv_at hl 3 rfl) ?_
          refine lv_iadd hx hb dX3_firstWrong_42 ?_
          exact hret (((S_w + (1 : Int32)) * l2) + l3) () hq _ _ hP hD hS _ _ dX3_firstWrong_43
  have C50 : ∀ (K2 : (Int32) → Prop) (hK2 : (∀ (l2 : Int32), K2 l2 → ∀ (H : Heap) (locs : List Loc), va_P (dC, dI) vwCl (W_X3_firstWrong cI cJ cZ h_rule h_rule_lower h_S h_S_cells f_rule_lower S_h S_w f_S_cells) H → va_D A (W_X3_firstWrong cI cJ cZ h_rule h_rule_lower h_S h_S_cells f_rule_lower S_h S_w f_S_cells) → va_S A s.heap H locs → ∀ ls : Array Slot, lv_has ls 4 [(0, .ref h_rule), (1, .ref h_S), (2, .int l2)] → W p l e rm_X3_firstWrong s m args below meth c H locs 0 0 QQ (F0 m 2 ls []))) (l2 : Int32), q_X3_firstWrong_50 f_rule_lower S_h S_w f_S_cells post K2 l2 → ∀ (H : Heap) (locs : List Loc), va_P (dC, dI) vwCl (W_X3_firstWrong cI cJ cZ h_rule h_rule_lower h_S h_S_cells f_rule_lower S_h S_w f_S_cells) H → va_D A (W_X3_firstWrong cI cJ cZ h_rule h_rule_lower h_S h_S_cells f_rule_lower S_h S_w f_S_cells) → va_S A s.heap H locs → ∀ ls : Array Slot, lv_has ls 4 [(0, .ref h_rule), (1, .ref h_S), (2, .int l2)] → W p l e rm_X3_firstWrong s m args below meth c H locs 0 0 QQ (F0 m 50 ls []) := by
    intro K2 hK2 l2 hq H locs hP hD hS ls hl
    unfold q_X3_firstWrong_50 at hq
    refine lv_iinc (v := (l2 + (1 : Int32))) (lv' := [(2, .int (l2 + (1 : Int32))), (0, .ref h_rule), (1, .ref h_S)]) hx hb dX3_firstWrong_50 hl (k := 2) rfl rfl (by decide) rfl (fun ls hl => ?_)
    refine lv_goto (tgt := 2) hx hb dX3_firstWrong_53 (by decide) ?_
    exact hK2 _ hq _ _ hP hD hS _ (lv_sub hl [1, 2, 0] rfl)
  have C12 : ∀ (K2 : (Int32) → Prop) (hK2 : (∀ (l2 : Int32), K2 l2 → ∀ (H : Heap) (locs : List Loc), va_P (dC, dI) vwCl (W_X3_firstWrong cI cJ cZ h_rule h_rule_lower h_S h_S_cells f_rule_lower S_h S_w f_S_cells) H → va_D A (W_X3_firstWrong cI cJ cZ h_rule h_rule_lower h_S h_S_cells f_rule_lower S_h S_w f_S_cells) → va_S A s.heap H locs → ∀ ls : Array Slot, lv_has ls 4 [(0, .ref h_rule), (1, .ref h_S), (2, .int l2)] → W p l e rm_X3_firstWrong s m args below meth c H locs 0 0 QQ (F0 m 2 ls []))) (l2 : Int32) (l3 : Int32), q_X3_firstWrong_12 f_rule_lower S_h S_w f_S_cells post K2 l2 l3 → ∀ (H : Heap) (locs : List Loc), va_P (dC, dI) vwCl (W_X3_firstWrong cI cJ cZ h_rule h_rule_lower h_S h_S_cells f_rule_lower S_h S_w f_S_cells) H → va_D A (W_X3_firstWrong cI cJ cZ h_rule h_rule_lower h_S h_S_cells f_rule_lower S_h S_w f_S_cells) → va_S A s.heap H locs → ∀ ls : Array Slot, lv_has ls 4 [(0, .ref h_rule), (1, .ref h_S), (2, .int l2), (3, .int l3)] → W p l e rm_X3_firstWrong s m args below meth c H locs 0 0 QQ (F0 m 12 ls []) := by
    intro K2 hK2 l2 l3 hq H locs hP hD hS ls hl
    obtain ⟨n, hq⟩ := hq
    exact L12 _ (C50 _ hK2) _ n _ hq H locs hP hD hS ls hl
  have L2 : ∀  (n : Nat) (l2 : Int32), r_X3_firstWrong_2 f_rule_lower S_h S_w f_S_cells post n l2 → ∀ (H : Heap) (locs : List Loc), va_P (dC, dI) vwCl (W_X3_firstWrong cI cJ cZ h_rule h_rule_lower h_S h_S_cells f_rule_lower S_h S_w f_S_cells) H → va_D A (W_X3_firstWrong cI cJ cZ h_rule h_rule_lower h_S h_S_cells f_rule_lower S_h S_w f_S_cells) → va_S A s.heap H locs → ∀ ls : Array Slot, lv_has ls 4 [(0, .ref h_rule), (1, .ref h_S), (2, .int l2)] → W p l e rm_X3_firstWrong s m args below meth c H locs 0 0 QQ (F0 m 2 ls []) := by
    intro n
    induction n with
    | zero => intro l2 hq; exact False.elim hq
    | succ n ih =>
      intro l2 hq H locs hP hD hS ls hl
      unfold r_X3_firstWrong_2 at hq
      refine lv_iload_n hx hb dX3_firstWrong_2 rfl (lv_at hl 2 rfl) ?_
      refine lv_aload_n hx hb dX3_firstWrong_3 rfl (lv_at hl 1 rfl) ?_
      refine va_get (D := (dC, dI)) (ci := 4) (v := .int S_h) (C := RX4) (T := TX4) (N := 3) hx hb hts hinX4 hown hK hP 2 rfl rfl 0 (by decide) hf27 (fun _ h9 => h9) rfl dX3_firstWrong_4 ?_
      refine lv_icmp_gt (tgt := 56) hx hb dX3_firstWrong_7 (by decide) (fun c1 => ?_) (fun c1 => ?_)
      · replace hq := hq.1 c1
        refine lv_iconst (v := (-1 : Int32)) hx hb dX3_firstWrong_56 (by decide) ?_
        exact hret (-1 : Int32) () hq _ _ hP hD hS _ _ dX3_firstWrong_57
      · replace hq := hq.2 c1
        refine lv_iconst (v := (0 : Int32)) hx hb dX3_firstWrong_10 (by decide) ?_
        refine lv_istore_n (lv' := [(3, .int (0 : Int32)), (0, .ref h_rule), (1, .ref h_S), (2, .int l2)]) hx hb dX3_firstWrong_11 rfl hl (by decide) rfl (fun ls hl => ?_)
        exact (C12 _ ih) _ _ hq _ _ hP hD hS _ (lv_sub hl [1, 2, 3, 0] rfl)
  have C2 : ∀ (l2 : Int32), q_X3_firstWrong_2 f_rule_lower S_h S_w f_S_cells post l2 → ∀ (H : Heap) (locs : List Loc), va_P (dC, dI) vwCl (W_X3_firstWrong cI cJ cZ h_rule h_rule_lower h_S h_S_cells f_rule_lower S_h S_w f_S_cells) H → va_D A (W_X3_firstWrong cI cJ cZ h_rule h_rule_lower h_S h_S_cells f_rule_lower S_h S_w f_S_cells) → va_S A s.heap H locs → ∀ ls : Array Slot, lv_has ls 4 [(0, .ref h_rule), (1, .ref h_S), (2, .int l2)] → W p l e rm_X3_firstWrong s m args below meth c H locs 0 0 QQ (F0 m 2 ls []) := by
    intro l2 hq H locs hP hD hS ls hl
    obtain ⟨n, hq⟩ := hq
    exact L2 n _ hq H locs hP hD hS ls hl
  unfold q_X3_firstWrong at hq
  refine lv_iconst (v := (0 : Int32)) hx hb dX3_firstWrong_0 (by decide) ?_
  refine lv_istore_n (lv' := [(2, .int (0 : Int32)), (0, .ref h_rule), (1, .ref h_S)]) hx hb dX3_firstWrong_1 rfl hl (by decide) rfl (fun ls hl => ?_)
  exact C2 _ hq _ _ hP hD hS _ (lv_sub hl [1, 2, 0] rfl)

abbrev W_X3_joined (cI cJ cZ : ClassId)  : va_W := []
abbrev rm_X3_joined : Room := { frames := 0, cells := 0, slots := 0, locals := 0 }
def q_X3_joined (l0 : Int32) (l1 : Int32) (l2 : Int32) (l3 : Int32) (post : Int32 → Prop) : Prop := (post ((((l0 <<< ((6 : Int32) &&& 31)) ||| (l1 <<< ((4 : Int32) &&& 31))) ||| (l2 <<< ((2 : Int32) &&& 31))) ||| l3))
theorem hdS_X3_joined : yX3_joined.cls ≠ "java/lang/invoke/MethodHandle" ∧ yX3_joined.cls ≠ "java/lang/invoke/VarHandle" ∧ (parseMethodDescriptor yX3_joined.desc).map (fun d => d.parameters.length) = some 4 := by decide +kernel
set_option maxHeartbeats 4000000 in
set_option maxRecDepth 100000 in
theorem c_X3_joined (l : Launch) (dC : Nat → ClassId) (dI : Nat → Nat → Nat) (cI cJ cZ : ClassId) (sz : Nat)  (l0 : Int32) (l1 : Int32) (l2 : Int32) (l3 : Int32) {post : Int32 → Prop} (hq : q_X3_joined l0 l1 l2 l3 post) : Met l yX3_joined wsX3_joined rm_X3_joined (va_Pc [.int l0, .int l1, .int l2, .int l3] (gx_Pre (dC, dI) vwCl (gx_tys cI cJ cZ) sz (W_X3_joined cI cJ cZ))) (va_Qi (fun (r : Int32) (u : Unit) => post r) (gx_B (dC, dI) vwCl (gx_tys cI cJ cZ) (va_A (W_X3_joined cI cJ cZ) sz) (fun (u : Unit) => (W_X3_joined cI cJ cZ))) (va_A (W_X3_joined cI cJ cZ) sz)) 0 0 (va_A (W_X3_joined cI cJ cZ) sz) := by
  refine gx_i (cc := cX3_joined) (maxL := 4) (by decide) rfl (Nat.le_of_ble_eq_true rfl) ?_
  intro p e s m args below meth c A QQ hx hb hml hown hts hA hP hK hD hret ls hl
  have hown : s.vm.findClass RX3 = some m.cls := hown
  have hS : va_S A s.heap s.heap [] := va_S.rf
  have hl : lv_has ls 4 [(0, .int l0), (1, .int l1), (2, .int l2), (3, .int l3)] := hl
  unfold q_X3_joined at hq
  refine lv_iload_n hx hb dX3_joined_0 rfl (lv_at hl 0 rfl) ?_
  refine lv_bipush (v := (6 : Int32)) hx hb dX3_joined_1 (by decide) ?_
  refine lv_ishl hx hb dX3_joined_3 ?_
  refine lv_iload_n hx hb dX3_joined_4 rfl (lv_at hl 1 rfl) ?_
  refine lv_iconst (v := (4 : Int32)) hx hb dX3_joined_5 (by decide) ?_
  refine lv_ishl hx hb dX3_joined_6 ?_
  refine lv_ior hx hb dX3_joined_7 ?_
  refine lv_iload_n hx hb dX3_joined_8 rfl (lv_at hl 2 rfl) ?_
  refine lv_iconst (v := (2 : Int32)) hx hb dX3_joined_9 (by decide) ?_
  refine lv_ishl hx hb dX3_joined_10 ?_
  refine lv_ior hx hb dX3_joined_11 ?_
  refine lv_iload_n hx hb dX3_joined_12 rfl (lv_at hl 3 rfl) ?_
  refine lv_ior hx hb dX3_joined_13 ?_
  exact hret ((((l0 <<< ((6 : Int32) &&& 31)) ||| (l1 <<< ((4 : Int32) &&& 31))) ||| (l2 <<< ((2 : Int32) &&& 31))) ||| l3) () hq _ _ hP hD hS _ _ dX3_joined_14

abbrev W_X3_changed (cI cJ cZ : ClassId)  : va_W := []
abbrev rm_X3_changed : Room := { frames := 0, cells := 0, slots := 0, locals := 0 }
def q_X3_changed (l0 : Int32) (post : Int32 → Prop) : Prop := (((2 : Int32) ≤ l0 → (post l0)) ∧ (¬ (2 : Int32) ≤ l0 → (post ((1 : Int32) - l0))))
theorem hdS_X3_changed : yX3_changed.cls ≠ "java/lang/invoke/MethodHandle" ∧ yX3_changed.cls ≠ "java/lang/invoke/VarHandle" ∧ (parseMethodDescriptor yX3_changed.desc).map (fun d => d.parameters.length) = some 1 := by decide +kernel
set_option maxHeartbeats 4000000 in
set_option maxRecDepth 100000 in
theorem c_X3_changed (l : Launch) (dC : Nat → ClassId) (dI : Nat → Nat → Nat) (cI cJ cZ : ClassId) (sz : Nat)  (l0 : Int32) {post : Int32 → Prop} (hq : q_X3_changed l0 post) : Met l yX3_changed wsX3_changed rm_X3_changed (va_Pc [.int l0] (gx_Pre (dC, dI) vwCl (gx_tys cI cJ cZ) sz (W_X3_changed cI cJ cZ))) (va_Qi (fun (r : Int32) (u : Unit) => post r) (gx_B (dC, dI) vwCl (gx_tys cI cJ cZ) (va_A (W_X3_changed cI cJ cZ) sz) (fun (u : Unit) => (W_X3_changed cI cJ cZ))) (va_A (W_X3_changed cI cJ cZ) sz)) 0 0 (va_A (W_X3_changed cI cJ cZ) sz) := by
  refine gx_i (cc := cX3_changed) (maxL := 1) (by decide) rfl (Nat.le_of_ble_eq_true rfl) ?_
  intro p e s m args below meth c A QQ hx hb hml hown hts hA hP hK hD hret ls hl
  have hown : s.vm.findClass RX3 = some m.cls := hown
  have hS : va_S A s.heap s.heap [] := va_S.rf
  have hl : lv_has ls 1 [(0, .int l0)] := hl
  unfold q_X3_changed at hq
  refine lv_iload_n hx hb dX3_changed_0 rfl (lv_at hl 0 rfl) ?_
  refine lv_iconst (v := (2 : Int32)) hx hb dX3_changed_1 (by decide) ?_
  refine lv_icmp_ge (tgt := 11) hx hb dX3_changed_2 (by decide) (fun c1 => ?_) (fun c1 => ?_)
  · replace hq := hq.1 c1
    refine lv_iload_n hx hb dX3_changed_11 rfl (lv_at hl 0 rfl) ?_
    exact hret l0 () hq _ _ hP hD hS _ _ dX3_changed_12
  · replace hq := hq.2 c1
    refine lv_iconst (v := (1 : Int32)) hx hb dX3_changed_5 (by decide) ?_
    refine lv_iload_n hx hb dX3_changed_6 rfl (lv_at hl 0 rfl) ?_
    refine lv_isub hx hb dX3_changed_7 ?_
    refine lv_goto (tgt := 12) hx hb dX3_changed_8 (by decide) ?_
    exact hret ((1 : Int32) - l0) () hq _ _ hP hD hS _ _ dX3_changed_12

abbrev W_X3_turned (cI cJ cZ : ClassId)  : va_W := []
abbrev rm_X3_turned : Room := { frames := 1, cells := 0, slots := 0, locals := 23 }
def q_X3_turned (l0 : Int32) (l1 : Int32) (post : Int32 → Prop) : Prop := ((l1 = (0 : Int32) → (q_X3_joined ((l0 >>> ((2 : Int32) &&& 31)) &&& (3 : Int32)) ((l0 >>> ((6 : Int32) &&& 31)) &&& (3 : Int32)) (l0 &&& (3 : Int32)) ((l0 >>> ((4 : Int32) &&& 31)) &&& (3 : Int32)) (fun (r2 : Int32) => (post r2)))) ∧ (l1 = (1 : Int32) → (q_X3_joined ((l0 >>> ((4 : Int32) &&& 31)) &&& (3 : Int32)) ((l0 >>> ((6 : Int32) &&& 31)) &&& (3 : Int32)) (l0 &&& (3 : Int32)) ((l0 >>> ((2 : Int32) &&& 31)) &&& (3 : Int32)) (fun (r4 : Int32) => (post r4)))) ∧ (l1 = (2 : Int32) → (q_X3_joined ((l0 >>> ((2 : Int32) &&& 31)) &&& (3 : Int32)) (l0 &&& (3 : Int32)) ((l0 >>> ((6 : Int32) &&& 31)) &&& (3 : Int32)) ((l0 >>> ((4 : Int32) &&& 31)) &&& (3 : Int32)) (fun (r6 : Int32) => (post r6)))) ∧ ((¬ l1 = (0 : Int32) ∧ ¬ l1 = (1 : Int32) ∧ ¬ l1 = (2 : Int32)) → (q_X3_changed ((l0 >>> ((6 : Int32) &&& 31)) &&& (3 : Int32)) (fun (r7 : Int32) => (q_X3_changed ((l0 >>> ((4 : Int32) &&& 31)) &&& (3 : Int32)) (fun (r8 : Int32) => (q_X3_changed ((l0 >>> ((2 : Int32) &&& 31)) &&& (3 : Int32)) (fun (r9 : Int32) => (q_X3_changed (l0 &&& (3 : Int32)) (fun (r10 : Int32) => (q_X3_joined r7 r8 r9 r10 (fun (r11 : Int32) => (post r11)))))))))))))
theorem hdS_X3_turned : yX3_turned.cls ≠ "java/lang/invoke/MethodHandle" ∧ yX3_turned.cls ≠ "java/lang/invoke/VarHandle" ∧ (parseMethodDescriptor yX3_turned.desc).map (fun d => d.parameters.length) = some 2 := by decide +kernel
set_option maxHeartbeats 4000000 in
set_option maxRecDepth 100000 in
theorem c_X3_turned (l : Launch) (dC : Nat → ClassId) (dI : Nat → Nat → Nat) (cI cJ cZ : ClassId) (sz : Nat)  (l0 : Int32) (l1 : Int32) {post : Int32 → Prop} (hq : q_X3_turned l0 l1 post) : Met l yX3_turned wsX3_turned rm_X3_turned (va_Pc [.int l0, .int l1] (gx_Pre (dC, dI) vwCl (gx_tys cI cJ cZ) sz (W_X3_turned cI cJ cZ))) (va_Qi (fun (r : Int32) (u : Unit) => post r) (gx_B (dC, dI) vwCl (gx_tys cI cJ cZ) (va_A (W_X3_turned cI cJ cZ) sz) (fun (u : Unit) => (W_X3_turned cI cJ cZ))) (va_A (W_X3_turned cI cJ cZ) sz)) 0 0 (va_A (W_X3_turned cI cJ cZ) sz) := by
  refine gx_i (cc := cX3_turned) (maxL := 6) (by decide) rfl (Nat.le_of_ble_eq_true rfl) ?_
  intro p e s m args below meth c A QQ hx hb hml hown hts hA hP hK hD hret ls hl
  have hown : s.vm.findClass RX3 = some m.cls := hown
  have hS : va_S A s.heap s.heap [] := va_S.rf
  have hl : lv_has ls 6 [(0, .int l0), (1, .int l1)] := hl
  unfold q_X3_turned at hq
  refine lv_iload_n hx hb dX3_turned_0 rfl (lv_at hl 0 rfl) ?_
  refine lv_bipush (v := (6 : Int32)) hx hb dX3_turned_1 (by decide) ?_
  refine lv_ishr hx hb dX3_turned_3 ?_
  refine lv_iconst (v := (3 : Int32)) hx hb dX3_turned_4 (by decide) ?_
  refine lv_iand hx hb dX3_turned_5 ?_
  refine lv_istore_n (lv' := [(2, .int ((l0 >>> ((6 : Int32) &&& 31)) &&& (3 : Int32))), (0, .int l0), (1, .int l1)]) hx hb dX3_turned_6 rfl hl (by decide) rfl (fun ls hl => ?_)
  refine lv_iload_n hx hb dX3_turned_7 rfl (lv_at hl 1 rfl) ?_
  refine lv_iconst (v := (4 : Int32)) hx hb dX3_turned_8 (by decide) ?_
  refine lv_ishr hx hb dX3_turned_9 ?_
  refine lv_iconst (v := (3 : Int32)) hx hb dX3_turned_10 (by decide) ?_
  refine lv_iand hx hb dX3_turned_11 ?_
  refine lv_istore_n (lv' := [(3, .int ((l0 >>> ((4 : Int32) &&& 31)) &&& (3 : Int32))), (2, .int ((l0 >>> ((6 : Int32) &&& 31)) &&& (3 : Int32))), (0, .int l0), (1, .int l1)]) hx hb dX3_turned_12 rfl hl (by decide) rfl (fun ls hl => ?_)
  refine lv_iload_n hx hb dX3_turned_13 rfl (lv_at hl 2 rfl) ?_
  refine lv_iconst (v := (2 : Int32)) hx hb dX3_turned_14 (by decide) ?_
  refine lv_ishr hx hb dX3_turned_15 ?_
  refine lv_iconst (v := (3 : Int32)) hx hb dX3_turned_16 (by decide) ?_
  refine lv_iand hx hb dX3_turned_17 ?_
  refine lv_istore (lv' := [(4, .int ((l0 >>> ((2 : Int32) &&& 31)) &&& (3 : Int32))), (3, .int ((l0 >>> ((4 : Int32) &&& 31)) &&& (3 : Int32))), (2, .int ((l0 >>> ((6 : Int32) &&& 31)) &&& (3 : Int32))), (0, .int l0), (1, .int l1)]) hx hb dX3_turned_18 hl (by decide) rfl (fun ls hl => ?_)
  refine lv_iload_n hx hb dX3_turned_20 rfl (lv_at hl 3 rfl) ?_
  refine lv_iconst (v := (3 : Int32)) hx hb dX3_turned_21 (by decide) ?_
  refine lv_iand hx hb dX3_turned_22 ?_
  refine lv_istore (lv' := [(5, .int (l0 &&& (3 : Int32))), (4, .int ((l0 >>> ((2 : Int32) &&& 31)) &&& (3 : Int32))), (3, .int ((l0 >>> ((4 : Int32) &&& 31)) &&& (3 : Int32))), (2, .int ((l0 >>> ((6 : Int32) &&& 31)) &&& (3 : Int32))), (0, .int l0), (1, .int l1)]) hx hb dX3_turned_23 hl (by decide) rfl (fun ls hl => ?_)
  refine lv_iload_n hx hb dX3_turned_25 rfl (lv_at hl 5 rfl) ?_
  by_cases k1 : l1 = (0 : Int32)
  · replace hq := hq.1 k1
    refine lv_tableIn (off := 26) (tgt := 52) hx hb dX3_turned_26 (by rw [k1]; decide) (by rw [k1]; decide) (by rw [k1]; rfl) (by decide) ?_
    refine lv_iload hx hb dX3_turned_52 (lv_at hl 1 rfl) ?_
    refine lv_iload_n hx hb dX3_turned_54 rfl (lv_at hl 3 rfl) ?_
    refine lv_iload hx hb dX3_turned_55 (lv_at hl 0 rfl) ?_
    refine lv_iload_n hx hb dX3_turned_57 rfl (lv_at hl 2 rfl) ?_
    refine gx_cSi (As := [.int ((l0 >>> ((2 : Int32) &&& 31)) &&& (3 : Int32)), .int ((l0 >>> ((6 : Int32) &&& 31)) &&& (3 : Int32)), .int (l0 &&& (3 : Int32)), .int ((l0 >>> ((4 : Int32) &&& 31)) &&& (3 : Int32))]) (rest := []) ⟨hx, hb, hml, hown, hts⟩ (c_X3_joined l dC dI cI cJ cZ s.heap.size ((l0 >>> ((2 : Int32) &&& 31)) &&& (3 : Int32)) ((l0 >>> ((6 : Int32) &&& 31)) &&& (3 : Int32)) (l0 &&& (3 : Int32)) ((l0 >>> ((4 : Int32) &&& 31)) &&& (3 : Int32)) hq) (va_cwS 4 hts gX3_turned_X3_joined rfl rfl rfl hdS_X3_joined ⟨Nat.le_of_ble_eq_true rfl, Nat.le_of_ble_eq_true rfl⟩) hK hP hD hS hA [] [] rfl rfl rfl rfl rfl rfl hl.1 (Nat.le_of_ble_eq_true rfl) dX3_turned_58 rfl (fun r2 u H locs hq hP hD hS => ?_)
    try dsimp only at hq
    have hP : va_P (dC, dI) vwCl (W_X3_turned cI cJ cZ) H := hP
    have hD : va_D A (W_X3_turned cI cJ cZ) := hD
    exact hret r2 () hq _ _ hP hD hS _ _ dX3_turned_61
  · replace hq := hq.2
    by_cases k3 : l1 = (1 : Int32)
    · replace hq := hq.1 k3
      refine lv_tableIn (off := 36) (tgt := 62) hx hb dX3_turned_26 (by rw [k3]; decide) (by rw [k3]; decide) (by rw [k3]; rfl) (by decide) ?_
      refine lv_iload_n hx hb dX3_turned_62 rfl (lv_at hl 2 rfl) ?_
      refine lv_iload_n hx hb dX3_turned_63 rfl (lv_at hl 3 rfl) ?_
      refine lv_iload hx hb dX3_turned_64 (lv_at hl 0 rfl) ?_
      refine lv_iload hx hb dX3_turned_66 (lv_at hl 1 rfl) ?_
      refine gx_cSi (As := [.int ((l0 >>> ((4 : Int32) &&& 31)) &&& (3 : Int32)), .int ((l0 >>> ((6 : Int32) &&& 31)) &&& (3 : Int32)), .int (l0 &&& (3 : Int32)), .int ((l0 >>> ((2 : Int32) &&& 31)) &&& (3 : Int32))]) (rest := []) ⟨hx, hb, hml, hown, hts⟩ (c_X3_joined l dC dI cI cJ cZ s.heap.size ((l0 >>> ((4 : Int32) &&& 31)) &&& (3 : Int32)) ((l0 >>> ((6 : Int32) &&& 31)) &&& (3 : Int32)) (l0 &&& (3 : Int32)) ((l0 >>> ((2 : Int32) &&& 31)) &&& (3 : Int32)) hq) (va_cwS 4 hts gX3_turned_X3_joined rfl rfl rfl hdS_X3_joined ⟨Nat.le_of_ble_eq_true rfl, Nat.le_of_ble_eq_true rfl⟩) hK hP hD hS hA [] [] rfl rfl rfl rfl rfl rfl hl.1 (Nat.le_of_ble_eq_true rfl) dX3_turned_68 rfl (fun r4 u H locs hq hP hD hS => ?_)
      try dsimp only at hq
      have hP : va_P (dC, dI) vwCl (W_X3_turned cI cJ cZ) H := hP
      have hD : va_D A (W_X3_turned cI cJ cZ) := hD
      exact hret r4 () hq _ _ hP hD hS _ _ dX3_turned_71
    · replace hq := hq.2
      by_cases k5 : l1 = (2 : Int32)
      · replace hq := hq.1 k5
        refine lv_tableIn (off := 46) (tgt := 72) hx hb dX3_turned_26 (by rw [k5]; decide) (by rw [k5]; decide) (by rw [k5]; rfl) (by decide) ?_
        refine lv_iload hx hb dX3_turned_72 (lv_at hl 1 rfl) ?_
        refine lv_iload hx hb dX3_turned_74 (lv_at hl 0 rfl) ?_
        refine lv_iload_n hx hb dX3_turned_76 rfl (lv_at hl 3 rfl) ?_
        refine lv_iload_n hx hb dX3_turned_77 rfl (lv_at hl 2 rfl) ?_
        refine gx_cSi (As := [.int ((l0 >>> ((2 : Int32) &&& 31)) &&& (3 : Int32)), .int (l0 &&& (3 : Int32)), .int ((l0 >>> ((6 : Int32) &&& 31)) &&& (3 : Int32)), .int ((l0 >>> ((4 : Int32) &&& 31)) &&& (3 : Int32))]) (rest := []) ⟨hx, hb, hml, hown, hts⟩ (c_X3_joined l dC dI cI cJ cZ s.heap.size ((l0 >>> ((2 : Int32) &&& 31)) &&& (3 : Int32)) (l0 &&& (3 : Int32)) ((l0 >>> ((6 : Int32) &&& 31)) &&& (3 : Int32)) ((l0 >>> ((4 : Int32) &&& 31)) &&& (3 : Int32)) hq) (va_cwS 4 hts gX3_turned_X3_joined rfl rfl rfl hdS_X3_joined ⟨Nat.le_of_ble_eq_true rfl, Nat.le_of_ble_eq_true rfl⟩) hK hP hD hS hA [] [] rfl rfl rfl rfl rfl rfl hl.1 (Nat.le_of_ble_eq_true rfl) dX3_turned_78 rfl (fun r6 u H locs hq hP hD hS => ?_)
        try dsimp only at hq
        have hP : va_P (dC, dI) vwCl (W_X3_turned cI cJ cZ) H := hP
        have hD : va_D A (W_X3_turned cI cJ cZ) := hD
        exact hret r6 () hq _ _ hP hD hS _ _ dX3_turned_81
      · replace hq := hq.2
        replace hq := hq ⟨k1, k3, k5⟩
        refine lv_tableOut (tgt := 82) hx hb dX3_turned_26 (by have ek1 := lv_neT (a := 0) k1 (by decide); have ek3 := lv_neT (a := 1) k3 (by decide); have ek5 := lv_neT (a := 2) k5 (by decide); omega) (by decide) ?_
        refine lv_iload_n hx hb dX3_turned_82 rfl (lv_at hl 3 rfl) ?_
        refine gx_cSi (As := [.int ((l0 >>> ((6 : Int32) &&& 31)) &&& (3 : Int32))]) (rest := []) ⟨hx, hb, hml, hown, hts⟩ (c_X3_changed l dC dI cI cJ cZ s.heap.size ((l0 >>> ((6 : Int32) &&& 31)) &&& (3 : Int32)) hq) (va_cwS 1 hts gX3_turned_X3_changed rfl rfl rfl hdS_X3_changed ⟨Nat.le_of_ble_eq_true rfl, Nat.le_of_ble_eq_true rfl⟩) hK hP hD hS hA [] [] rfl rfl rfl rfl rfl rfl hl.1 (Nat.le_of_ble_eq_true rfl) dX3_turned_83 rfl (fun r7 u H locs hq hP hD hS => ?_)
        try dsimp only at hq
        have hP : va_P (dC, dI) vwCl (W_X3_turned cI cJ cZ) H := hP
        have hD : va_D A (W_X3_turned cI cJ cZ) := hD
        refine lv_iload_n hx hb dX3_turned_86 rfl (lv_at hl 2 rfl) ?_
        refine gx_cSi (As := [.int ((l0 >>> ((4 : Int32) &&& 31)) &&& (3 : Int32))]) (rest := [.int r7]) ⟨hx, hb, hml, hown, hts⟩ (c_X3_changed l dC dI cI cJ cZ H.size ((l0 >>> ((4 : Int32) &&& 31)) &&& (3 : Int32)) hq) (va_cwS 1 hts gX3_turned_X3_changed rfl rfl rfl hdS_X3_changed ⟨Nat.le_of_ble_eq_true rfl, Nat.le_of_ble_eq_true rfl⟩) hK hP hD hS hA [] [] rfl rfl rfl rfl rfl rfl hl.1 (Nat.le_of_ble_eq_true rfl) dX3_turned_87 rfl (fun r8 u H locs hq hP hD hS => ?_)
        try dsimp only at hq
        have hP : va_P (dC, dI) vwCl (W_X3_turned cI cJ cZ) H := hP
        have hD : va_D A (W_X3_turned cI cJ cZ) := hD
        refine lv_iload hx hb dX3_turned_90 (lv_at hl 1 rfl) ?_
        refine gx_cSi (As := [.int ((l0 >>> ((2 : Int32) &&& 31)) &&& (3 : Int32))]) (rest := [.int r8, .int r7]) ⟨hx, hb, hml, hown, hts⟩ (c_X3_changed l dC dI cI cJ cZ H.size ((l0 >>> ((2 : Int32) &&& 31)) &&& (3 : Int32)) hq) (va_cwS 1 hts gX3_turned_X3_changed rfl rfl rfl hdS_X3_changed ⟨Nat.le_of_ble_eq_true rfl, Nat.le_of_ble_eq_true rfl⟩) hK hP hD hS hA [] [] rfl rfl rfl rfl rfl rfl hl.1 (Nat.le_of_ble_eq_true rfl) dX3_turned_92 rfl (fun r9 u H locs hq hP hD hS => ?_)
        try dsimp only at hq
        have hP : va_P (dC, dI) vwCl (W_X3_turned cI cJ cZ) H := hP
        have hD : va_D A (W_X3_turned cI cJ cZ) := hD
        refine lv_iload hx hb dX3_turned_95 (lv_at hl 0 rfl) ?_
        refine gx_cSi (As := [.int (l0 &&& (3 : Int32))]) (rest := [.int r9, .int r8, .int r7]) ⟨hx, hb, hml, hown, hts⟩ (c_X3_changed l dC dI cI cJ cZ H.size (l0 &&& (3 : Int32)) hq) (va_cwS 1 hts gX3_turned_X3_changed rfl rfl rfl hdS_X3_changed ⟨Nat.le_of_ble_eq_true rfl, Nat.le_of_ble_eq_true rfl⟩) hK hP hD hS hA [] [] rfl rfl rfl rfl rfl rfl hl.1 (Nat.le_of_ble_eq_true rfl) dX3_turned_97 rfl (fun r10 u H locs hq hP hD hS => ?_)
        try dsimp only at hq
        have hP : va_P (dC, dI) vwCl (W_X3_turned cI cJ cZ) H := hP
        have hD : va_D A (W_X3_turned cI cJ cZ) := hD
        refine gx_cSi (As := [.int r7, .int r8, .int r9, .int r10]) (rest := []) ⟨hx, hb, hml, hown, hts⟩ (c_X3_joined l dC dI cI cJ cZ H.size r7 r8 r9 r10 hq) (va_cwS 4 hts gX3_turned_X3_joined rfl rfl rfl hdS_X3_joined ⟨Nat.le_of_ble_eq_true rfl, Nat.le_of_ble_eq_true rfl⟩) hK hP hD hS hA [] [] rfl rfl rfl rfl rfl rfl hl.1 (Nat.le_of_ble_eq_true rfl) dX3_turned_100 rfl (fun r11 u H locs hq hP hD hS => ?_)
        try dsimp only at hq
        have hP : va_P (dC, dI) vwCl (W_X3_turned cI cJ cZ) H := hP
        have hD : va_D A (W_X3_turned cI cJ cZ) := hD
        exact hret r11 () hq _ _ hP hD hS _ _ dX3_turned_103

abbrev W_X3_open (cI cJ cZ : ClassId) (h_rule h_rule_lower : Nat) (f_rule_lower : Nat → Int32) : va_W := [(h_rule, .inr (3, [.ref h_rule_lower])), (h_rule_lower, .inl (cI, 16, .inl f_rule_lower))]
abbrev rm_X3_open : Room := { frames := 2, cells := 0, slots := 0, locals := 48 }
def r_X3_open_4 (f_rule_lower : Nat → Int32) (post : Int32 → Prop) (l1 : Int32) : Nat → (Int32) → (Int32) → Prop
  | 0, _, _ => False
  | n + 1, l2, l3 => (((256 : Int32) ≤ l3 → (post l2)) ∧ (¬ (256 : Int32) ≤ l3 → (q_X3_has f_rule_lower l3 (fun (r2 : Int32) => ((r2 = 0 → ((r_X3_open_4 f_rule_lower post l1 n) l2 (l3 + (1 : Int32)))) ∧ (¬ r2 = 0 → (q_X3_turned l3 l1 (fun (r4 : Int32) => (q_X3_has f_rule_lower r4 (fun (r5 : Int32) => ((¬ r5 = 0 → ((r_X3_open_4 f_rule_lower post l1 n) l2 (l3 + (1 : Int32)))) ∧ (r5 = 0 → ((r_X3_open_4 f_rule_lower post l1 n) (l2 + (1 : Int32)) (l3 + (1 : Int32)))))))))))))))
def q_X3_open_4 (f_rule_lower : Nat → Int32) (post : Int32 → Prop) (l1 : Int32) (l2 : Int32) (l3 : Int32) : Prop := ∃ n, r_X3_open_4 f_rule_lower post l1 n l2 l3
def q_X3_open (f_rule_lower : Nat → Int32) (l1 : Int32) (post : Int32 → Prop) : Prop := ((q_X3_open_4 f_rule_lower post) l1 (0 : Int32) (0 : Int32))
theorem hdV_X3_open : yX3_open.cls = RX3 ∧ yX3_open.cls ≠ "java/lang/invoke/MethodHandle" ∧ yX3_open.cls ≠ "java/lang/invoke/VarHandle" ∧ (parseMethodDescriptor yX3_open.desc).map (fun d => d.parameters.length) = some 1 := by decide +kernel
set_option maxHeartbeats 4000000 in
set_option maxRecDepth 100000 in
theorem c_X3_open (l : Launch) (dC : Nat → ClassId) (dI : Nat → Nat → Nat) (cI cJ cZ : ClassId) (h_rule h_rule_lower : Nat) (sz : Nat) (f_rule_lower : Nat → Int32) (l1 : Int32) {post : Int32 → Prop} (hq : q_X3_open f_rule_lower l1 post) : Met l yX3_open wsX3_open rm_X3_open (va_Pc [.ref h_rule, .int l1] (gx_Pre (dC, dI) vwCl (gx_tys cI cJ cZ) sz (W_X3_open cI cJ cZ h_rule h_rule_lower f_rule_lower))) (va_Qi (fun (r : Int32) (u : Unit) => post r) (gx_B (dC, dI) vwCl (gx_tys cI cJ cZ) (va_A (W_X3_open cI cJ cZ h_rule h_rule_lower f_rule_lower) sz) (fun (u : Unit) => (W_X3_open cI cJ cZ h_rule h_rule_lower f_rule_lower))) (va_A (W_X3_open cI cJ cZ h_rule h_rule_lower f_rule_lower) sz)) 0 0 (va_A (W_X3_open cI cJ cZ h_rule h_rule_lower f_rule_lower) sz) := by
  refine gx_i (cc := cX3_open) (maxL := 4) (by decide) rfl (Nat.le_of_ble_eq_true rfl) ?_
  intro p e s m args below meth c A QQ hx hb hml hown hts hA hP hK hD hret ls hl
  have hown : s.vm.findClass RX3 = some m.cls := hown
  have hS : va_S A s.heap s.heap [] := va_S.rf
  have hl : lv_has ls 4 [(0, .ref h_rule), (1, .int l1)] := hl
  have L4 : ∀ (l1 : Int32) (n : Nat) (l2 : Int32) (l3 : Int32), r_X3_open_4 f_rule_lower post l1 n l2 l3 → ∀ (H : Heap) (locs : List Loc), va_P (dC, dI) vwCl (W_X3_open cI cJ cZ h_rule h_rule_lower f_rule_lower) H → va_D A (W_X3_open cI cJ cZ h_rule h_rule_lower f_rule_lower) → va_S A s.heap H locs → ∀ ls : Array Slot, lv_has ls 4 [(0, .ref h_rule), (1, .int l1), (2, .int l2), (3, .int l3)] → W p l e rm_X3_open s m args below meth c H locs 0 0 QQ (F0 m 4 ls []) := by
    intro l1 n
    induction n with
    | zero => intro l2 l3 hq; exact False.elim hq
    | succ n ih =>
      intro l2 l3 hq H locs hP hD hS ls hl
      unfold r_X3_open_4 at hq
      refine lv_iload_n hx hb dX3_open_4 rfl (lv_at hl 3 rfl) ?_
      refine lv_sipush (v := (256 : Int32)) hx hb dX3_open_5 (by decide) ?_
      refine lv_icmp_ge (tgt := 40) hx hb dX3_open_8 (by decide) (fun c1 => ?_) (fun c1 => ?_)
      · replace hq := hq.1 c1
        refine lv_iload_n hx hb dX3_open_40 rfl (lv_at hl 2 rfl) ?_
        exact hret l2 () hq _ _ hP hD hS _ _ dX3_open_41
      · replace hq := hq.2 c1
        refine lv_aload_n hx hb dX3_open_11 rfl (lv_at hl 0 rfl) ?_
        refine lv_iload_n hx hb dX3_open_12 rfl (lv_at hl 3 rfl) ?_
        refine gx_cVi (C := RX3) (As := [.int l3]) (rest := []) ⟨hx, hb, hml, hown, hts⟩ (c_X3_has l dC dI cI cJ cZ h_rule h_rule_lower H.size f_rule_lower l3 hq) (cwV 1 hts gX3_open_X3_has rfl rfl rfl hdV_X3_has ⟨Nat.le_of_ble_eq_true rfl, Nat.le_of_ble_eq_true rfl⟩) hK hP hD hS hA [0, 1] [] rfl rfl rfl rfl rfl (ci := 3) (q0 := 0) rfl rfl rfl rfl hl.1 (Nat.le_of_ble_eq_true rfl) dX3_open_13 rfl (fun r2 u H locs hq hP hD hS => ?_)
        try dsimp only at hq
        have hP : va_P (dC, dI) vwCl (W_X3_open cI cJ cZ h_rule h_rule_lower f_rule_lower) H := hP
        have hD : va_D A (W_X3_open cI cJ cZ h_rule h_rule_lower f_rule_lower) := hD
        refine lv_if_eq (tgt := 34) hx hb dX3_open_16 (by decide) (fun c3 => ?_) (fun c3 => ?_)
        · replace hq := hq.1 c3
          refine lv_iinc (v := (l3 + (1 : Int32))) (lv' := [(3, .int (l3 + (1 : Int32))), (0, .ref h_rule), (1, .int l1), (2, .int l2)]) hx hb dX3_open_34 hl (k := 3) rfl rfl (by decide) rfl (fun ls hl => ?_)
          refine lv_goto (tgt := 4) hx hb dX3_open_37 (by decide) ?_
          exact ih _ _ hq _ _ hP hD hS _ (lv_sub hl [1, 2, 3, 0] rfl)
        · replace hq := hq.2 c3
          refine lv_aload_n hx hb dX3_open_19 rfl (lv_at hl 0 rfl) ?_
          refine lv_iload_n hx hb dX3_open_20 rfl (lv_at hl 3 rfl) ?_
          refine lv_iload_n hx hb dX3_open_21 rfl (lv_at hl 1 rfl) ?_
          refine gx_cSi (As := [.int l3, .int l1]) (rest := [.ref h_rule]) ⟨hx, hb, hml, hown, hts⟩ (c_X3_turned l dC dI cI cJ cZ H.size l3 l1 hq) (va_cwS 2 hts gX3_open_X3_turned rfl rfl rfl hdS_X3_turned ⟨Nat.le_of_ble_eq_true rfl, Nat.le_of_ble_eq_true rfl⟩) hK hP hD hS hA [] [0, 1] rfl rfl rfl rfl rfl rfl hl.1 (Nat.le_of_ble_eq_true rfl) dX3_open_22 rfl (fun r4 u H locs hq hP hD hS => ?_)
          try dsimp only at hq
          have hP : va_P (dC, dI) vwCl (W_X3_open cI cJ cZ h_rule h_rule_lower f_rule_lower) H := hP
          have hD : va_D A (W_X3_open cI cJ cZ h_rule h_rule_lower f_rule_lower) := hD
          refine gx_cVi (C := RX3) (As := [.int r4]) (rest := []) ⟨hx, hb, hml, hown, hts⟩ (c_X3_has l dC dI cI cJ cZ h_rule h_rule_lower H.size f_rule_lower r4 hq) (cwV 1 hts gX3_open_X3_has rfl rfl rfl hdV_X3_has ⟨Nat.le_of_ble_eq_true rfl, Nat.le_of_ble_eq_true rfl⟩) hK hP hD hS hA [0, 1] [] rfl rfl rfl rfl rfl (ci := 3) (q0 := 0) rfl rfl rfl rfl hl.1 (Nat.le_of_ble_eq_true rfl) dX3_open_25 rfl (fun r5 u H locs hq hP hD hS => ?_)
          try dsimp only at hq
          have hP : va_P (dC, dI) vwCl (W_X3_open cI cJ cZ h_rule h_rule_lower f_rule_lower) H := hP
          have hD : va_D A (W_X3_open cI cJ cZ h_rule h_rule_lower f_rule_lower) := hD
          refine lv_if_ne (tgt := 34) hx hb dX3_open_28 (by decide) (fun c6 => ?_) (fun c6 => ?_)
          · replace hq := hq.1 c6
            refine lv_iinc (v := (l3 + (1 : Int32))) (lv' := [(3, .int (l3 + (1 : Int32))), (0, .ref h_rule), (1, .int l1), (2, .int l2)]) hx hb dX3_open_34 hl (k := 3) rfl rfl (by decide) rfl (fun ls hl => ?_)
            refine lv_goto (tgt := 4) hx hb dX3_open_37 (by decide) ?_
            exact ih _ _ hq _ _ hP hD hS _ (lv_sub hl [1, 2, 3, 0] rfl)
          · replace hq := hq.2 c6
            refine lv_iinc (v := (l2 + (1 : Int32))) (lv' := [(2, .int (l2 + (1 : Int32))), (0, .ref h_rule), (1, .int l1), (3, .int l3)]) hx hb dX3_open_31 hl (k := 2) rfl rfl (by decide) rfl (fun ls hl => ?_)
            refine lv_iinc (v := (l3 + (1 : Int32))) (lv' := [(3, .int (l3 + (1 : Int32))), (2, .int (l2 + (1 : Int32))), (0, .ref h_rule), (1, .int l1)]) hx hb dX3_open_34 hl (k := 3) rfl rfl (by decide) rfl (fun ls hl => ?_)
            refine lv_goto (tgt := 4) hx hb dX3_open_37 (by decide) ?_
            exact ih _ _ hq _ _ hP hD hS _ (lv_sub hl [2, 3, 1, 0] rfl)
  have C4 : ∀ (l1 : Int32) (l2 : Int32) (l3 : Int32), q_X3_open_4 f_rule_lower post l1 l2 l3 → ∀ (H : Heap) (locs : List Loc), va_P (dC, dI) vwCl (W_X3_open cI cJ cZ h_rule h_rule_lower f_rule_lower) H → va_D A (W_X3_open cI cJ cZ h_rule h_rule_lower f_rule_lower) → va_S A s.heap H locs → ∀ ls : Array Slot, lv_has ls 4 [(0, .ref h_rule), (1, .int l1), (2, .int l2), (3, .int l3)] → W p l e rm_X3_open s m args below meth c H locs 0 0 QQ (F0 m 4 ls []) := by
    intro l1 l2 l3 hq H locs hP hD hS ls hl
    obtain ⟨n, hq⟩ := hq
    exact L4 _ n _ _ hq H locs hP hD hS ls hl
  unfold q_X3_open at hq
  refine lv_iconst (v := (0 : Int32)) hx hb dX3_open_0 (by decide) ?_
  refine lv_istore_n (lv' := [(2, .int (0 : Int32)), (0, .ref h_rule), (1, .int l1)]) hx hb dX3_open_1 rfl hl (by decide) rfl (fun ls hl => ?_)
  refine lv_iconst (v := (0 : Int32)) hx hb dX3_open_2 (by decide) ?_
  refine lv_istore_n (lv' := [(3, .int (0 : Int32)), (2, .int (0 : Int32)), (0, .ref h_rule), (1, .int l1)]) hx hb dX3_open_3 rfl hl (by decide) rfl (fun ls hl => ?_)
  exact C4 _ _ _ hq _ _ hP hD hS _ (lv_sub hl [2, 3, 1, 0] rfl)

abbrev W_X3_closeUnder (cI cJ cZ : ClassId) (h_rule h_rule_lower : Nat) (f_rule_lower : Nat → Int32) : va_W := [(h_rule, .inr (3, [.ref h_rule_lower])), (h_rule_lower, .inl (cI, 16, .inl f_rule_lower))]
abbrev rm_X3_closeUnder : Room := { frames := 2, cells := 0, slots := 0, locals := 48 }
def q_X3_closeUnder_46 (l1 : Int32) (post : (Nat → Int32) → Prop) (K2 : (Int32) → (Nat → Int32) → Prop) (l2 : Int32) (f_rule_lower : Nat → Int32) : Prop := (K2 (l2 + (1 : Int32)) f_rule_lower)
def r_X3_closeUnder_22 (l1 : Int32) (post : (Nat → Int32) → Prop) (K46 : (Int32) → (Nat → Int32) → Prop) (l2 : Int32) : Nat → (Int32) → (Int32) → (Nat → Int32) → Prop
  | 0, _, _, _ => False
  | n + 1, l3, l4, f_rule_lower => (((4 : Int32) ≤ l4 → (K46 l2 f_rule_lower)) ∧ (¬ (4 : Int32) ≤ l4 → (q_X3_turned l3 l1 (fun (r5 : Int32) => (q_X3_put f_rule_lower r5 (1 : Int32) (fun (f_rule_lower_6 : Nat → Int32) => ((r_X3_closeUnder_22 l1 post K46 l2 n) r5 (l4 + (1 : Int32)) f_rule_lower_6)))))))
def q_X3_closeUnder_22 (l1 : Int32) (post : (Nat → Int32) → Prop) (K2 : (Int32) → (Nat → Int32) → Prop) (l2 : Int32) (l3 : Int32) (l4 : Int32) (f_rule_lower : Nat → Int32) : Prop := ∃ n, r_X3_closeUnder_22 l1 post (q_X3_closeUnder_46 l1 post K2) l2 n l3 l4 f_rule_lower
def r_X3_closeUnder_2 (post : (Nat → Int32) → Prop) (l1 : Int32) : Nat → (Int32) → (Nat → Int32) → Prop
  | 0, _, _ => False
  | n + 1, l2, f_rule_lower => (((256 : Int32) ≤ l2 → (post f_rule_lower)) ∧ (¬ (256 : Int32) ≤ l2 → (q_X3_has f_rule_lower l2 (fun (r2 : Int32) => ((r2 = 0 → ((q_X3_closeUnder_46 l1 post (r_X3_closeUnder_2 post l1 n)) l2 f_rule_lower)) ∧ (¬ r2 = 0 → ((q_X3_closeUnder_22 l1 post (r_X3_closeUnder_2 post l1 n)) l2 l2 (0 : Int32) f_rule_lower)))))))
def q_X3_closeUnder_2 (post : (Nat → Int32) → Prop) (l1 : Int32) (l2 : Int32) (f_rule_lower : Nat → Int32) : Prop := ∃ n, r_X3_closeUnder_2 post l1 n l2 f_rule_lower
def q_X3_closeUnder (f_rule_lower : Nat → Int32) (l1 : Int32) (post : (Nat → Int32) → Prop) : Prop := ((q_X3_closeUnder_2 post) l1 (0 : Int32) f_rule_lower)
theorem hdV_X3_closeUnder : yX3_closeUnder.cls = RX3 ∧ yX3_closeUnder.cls ≠ "java/lang/invoke/MethodHandle" ∧ yX3_closeUnder.cls ≠ "java/lang/invoke/VarHandle" ∧ (parseMethodDescriptor yX3_closeUnder.desc).map (fun d => d.parameters.length) = some 1 := by decide +kernel
set_option maxHeartbeats 4000000 in
set_option maxRecDepth 100000 in
theorem c_X3_closeUnder (l : Launch) (dC : Nat → ClassId) (dI : Nat → Nat → Nat) (cI cJ cZ : ClassId) (h_rule h_rule_lower : Nat) (sz : Nat) (f_rule_lower : Nat → Int32) (l1 : Int32) {post : (Nat → Int32) → Prop} (hq : q_X3_closeUnder f_rule_lower l1 post) : Met l yX3_closeUnder wsX3_closeUnder rm_X3_closeUnder (va_Pc [.ref h_rule, .int l1] (gx_Pre (dC, dI) vwCl (gx_tys cI cJ cZ) sz (W_X3_closeUnder cI cJ cZ h_rule h_rule_lower f_rule_lower))) (va_Qv (fun (u : (Nat → Int32)) => post u) (gx_B (dC, dI) vwCl (gx_tys cI cJ cZ) (va_A (W_X3_closeUnder cI cJ cZ h_rule h_rule_lower f_rule_lower) sz) (fun (u : (Nat → Int32)) => (W_X3_closeUnder cI cJ cZ h_rule h_rule_lower u))) (va_A (W_X3_closeUnder cI cJ cZ h_rule h_rule_lower f_rule_lower) sz)) 0 0 (va_A (W_X3_closeUnder cI cJ cZ h_rule h_rule_lower f_rule_lower) sz) := by
  refine gx_v (cc := cX3_closeUnder) (maxL := 5) (by decide) rfl (Nat.le_of_ble_eq_true rfl) ?_
  intro p e s m args below meth c A QQ hx hb hml hown hts hA hP hK hD hret ls hl
  have hown : s.vm.findClass RX3 = some m.cls := hown
  have hS : va_S A s.heap s.heap [] := va_S.rf
  have hl : lv_has ls 5 [(0, .ref h_rule), (1, .int l1)] := hl
  have C46 : ∀ (l1 : Int32) (K2 : (Int32) → (Nat → Int32) → Prop) (hK2 : (∀ (l2 : Int32) (f_rule_lower : Nat → Int32), K2 l2 f_rule_lower → ∀ (H : Heap) (locs : List Loc), va_P (dC, dI) vwCl (W_X3_closeUnder cI cJ cZ h_rule h_rule_lower f_rule_lower) H → va_D A (W_X3_closeUnder cI cJ cZ h_rule h_rule_lower f_rule_lower) → va_S A s.heap H locs → ∀ ls : Array Slot, lv_has ls 5 [(0, .ref h_rule), (1, .int l1), (2, .int l2)] → W p l e rm_X3_closeUnder s m args below meth c H locs 0 0 QQ (F0 m 2 ls []))) (l2 : Int32) (f_rule_lower : Nat → Int32), q_X3_closeUnder_46 l1 post K2 l2 f_rule_lower → ∀ (H : Heap) (locs : List Loc), va_P (dC, dI) vwCl (W_X3_closeUnder cI cJ cZ h_rule h_rule_lower f_rule_lower) H → va_D A (W_X3_closeUnder cI cJ cZ h_rule h_rule_lower f_rule_lower) → va_S A s.heap H locs → ∀ ls : Array Slot, lv_has ls 5 [(0, .ref h_rule), (1, .int l1), (2, .int l2)] → W p l e rm_X3_closeUnder s m args below meth c H locs 0 0 QQ (F0 m 46 ls []) := by
    intro l1 K2 hK2 l2 f_rule_lower hq H locs hP hD hS ls hl
    unfold q_X3_closeUnder_46 at hq
    refine lv_iinc (v := (l2 + (1 : Int32))) (lv' := [(2, .int (l2 + (1 : Int32))), (0, .ref h_rule), (1, .int l1)]) hx hb dX3_closeUnder_46 hl (k := 2) rfl rfl (by decide) rfl (fun ls hl => ?_)
    refine lv_goto (tgt := 2) hx hb dX3_closeUnder_49 (by decide) ?_
    exact hK2 _ _ hq _ _ hP hD hS _ (lv_sub hl [1, 2, 0] rfl)
  have L22 : ∀ (l1 : Int32) (K46 : (Int32) → (Nat → Int32) → Prop) (hK46 : (∀ (l2 : Int32) (f_rule_lower : Nat → Int32), K46 l2 f_rule_lower → ∀ (H : Heap) (locs : List Loc), va_P (dC, dI) vwCl (W_X3_closeUnder cI cJ cZ h_rule h_rule_lower f_rule_lower) H → va_D A (W_X3_closeUnder cI cJ cZ h_rule h_rule_lower f_rule_lower) → va_S A s.heap H locs → ∀ ls : Array Slot, lv_has ls 5 [(0, .ref h_rule), (1, .int l1), (2, .int l2)] → W p l e rm_X3_closeUnder s m args below meth c H locs 0 0 QQ (F0 m 46 ls []))) (l2 : Int32) (n : Nat) (l3 : Int32) (l4 : Int32) (f_rule_lower : Nat → Int32), r_X3_closeUnder_22 l1 post K46 l2 n l3 l4 f_rule_lower → ∀ (H : Heap) (locs : List Loc), va_P (dC, dI) vwCl (W_X3_closeUnder cI cJ cZ h_rule h_rule_lower f_rule_lower) H → va_D A (W_X3_closeUnder cI cJ cZ h_rule h_rule_lower f_rule_lower) → va_S A s.heap H locs → ∀ ls : Array Slot, lv_has ls 5 [(0, .ref h_rule), (1, .int l1), (2, .int l2), (3, .int l3), (4, .int l4)] → W p l e rm_X3_closeUnder s m args below meth c H locs 0 0 QQ (F0 m 22 ls []) := by
    intro l1 K46 hK46 l2 n
    induction n with
    | zero => intro l3 l4 f_rule_lower hq; exact False.elim hq
    | succ n ih =>
      intro l3 l4 f_rule_lower hq H locs hP hD hS ls hl
      unfold r_X3_closeUnder_22 at hq
      refine lv_iload hx hb dX3_closeUnder_22 (lv_at hl 4 rfl) ?_
      refine lv_iconst (v := (4 : Int32)) hx hb dX3_closeUnder_24 (by decide) ?_
      refine lv_icmp_ge (tgt := 46) hx hb dX3_closeUnder_25 (by decide) (fun c4 => ?_) (fun c4 => ?_)
      · replace hq := hq.1 c4
        exact hK46 _ _ hq _ _ hP hD hS _ (lv_sub hl [0, 1, 2] rfl)
      · replace hq := hq.2 c4
        refine lv_iload_n hx hb dX3_closeUnder_28 rfl (lv_at hl 3 rfl) ?_
        refine lv_iload_n hx hb dX3_closeUnder_29 rfl (lv_at hl 1 rfl) ?_
        refine gx_cSi (As := [.int l3, .int l1]) (rest := []) ⟨hx, hb, hml, hown, hts⟩ (c_X3_turned l dC dI cI cJ cZ H.size l3 l1 hq) (va_cwS 2 hts gX3_closeUnder_X3_turned rfl rfl rfl hdS_X3_turned ⟨Nat.le_of_ble_eq_true rfl, Nat.le_of_ble_eq_true rfl⟩) hK hP hD hS hA [] [0, 1] rfl rfl rfl rfl rfl rfl hl.1 (Nat.le_of_ble_eq_true rfl) dX3_closeUnder_30 rfl (fun r5 u H locs hq hP hD hS => ?_)
        try dsimp only at hq
        have hP : va_P (dC, dI) vwCl (W_X3_closeUnder cI cJ cZ h_rule h_rule_lower f_rule_lower) H := hP
        have hD : va_D A (W_X3_closeUnder cI cJ cZ h_rule h_rule_lower f_rule_lower) := hD
        refine lv_istore_n (lv' := [(3, .int r5), (0, .ref h_rule), (1, .int l1), (2, .int l2), (4, .int l4)]) hx hb dX3_closeUnder_33 rfl hl (by decide) rfl (fun ls hl => ?_)
        refine lv_aload_n hx hb dX3_closeUnder_34 rfl (lv_at hl 1 rfl) ?_
        refine lv_iload_n hx hb dX3_closeUnder_35 rfl (lv_at hl 0 rfl) ?_
        refine lv_iconst (v := (1 : Int32)) hx hb dX3_closeUnder_36 (by decide) ?_
        refine gx_cVv (C := RX3) (As := [.int r5, .int (1 : Int32)]) (rest := []) ⟨hx, hb, hml, hown, hts⟩ (c_X3_put l dC dI cI cJ cZ h_rule h_rule_lower H.size f_rule_lower r5 (1 : Int32) hq) (cwV 2 hts gX3_closeUnder_X3_put rfl rfl rfl hdV_X3_put ⟨Nat.le_of_ble_eq_true rfl, Nat.le_of_ble_eq_true rfl⟩) hK hP hD hS hA [0, 1] [] rfl rfl rfl rfl rfl (ci := 3) (q0 := 0) rfl rfl rfl rfl hl.1 (Nat.le_of_ble_eq_true rfl) dX3_closeUnder_37 rfl (fun u H locs hq hP hD hS => ?_)
        obtain ⟨f_rule_lower_6, rfl⟩ : ∃ z, z = u := ⟨_, rfl⟩
        try dsimp only at hq
        have hP : va_P (dC, dI) vwCl (W_X3_closeUnder cI cJ cZ h_rule h_rule_lower f_rule_lower_6) H := hP
        have hD : va_D A (W_X3_closeUnder cI cJ cZ h_rule h_rule_lower f_rule_lower_6) := hD
        refine lv_iinc (v := (l4 + (1 : Int32))) (lv' := [(4, .int (l4 + (1 : Int32))), (3, .int r5), (0, .ref h_rule), (1, .int l1), (2, .int l2)]) hx hb dX3_closeUnder_40 hl (k := 4) rfl rfl (by decide) rfl (fun ls hl => ?_)
        refine lv_goto (tgt := 22) hx hb dX3_closeUnder_43 (by decide) ?_
        exact ih _ _ _ hq _ _ hP hD hS _ (lv_sub hl [2, 3, 4, 1, 0] rfl)
  have C22 : ∀ (l1 : Int32) (K2 : (Int32) → (Nat → Int32) → Prop) (hK2 : (∀ (l2 : Int32) (f_rule_lower : Nat → Int32), K2 l2 f_rule_lower → ∀ (H : Heap) (locs : List Loc), va_P (dC, dI) vwCl (W_X3_closeUnder cI cJ cZ h_rule h_rule_lower f_rule_lower) H → va_D A (W_X3_closeUnder cI cJ cZ h_rule h_rule_lower f_rule_lower) → va_S A s.heap H locs → ∀ ls : Array Slot, lv_has ls 5 [(0, .ref h_rule), (1, .int l1), (2, .int l2)] → W p l e rm_X3_closeUnder s m args below meth c H locs 0 0 QQ (F0 m 2 ls []))) (l2 : Int32) (l3 : Int32) (l4 : Int32) (f_rule_lower : Nat → Int32), q_X3_closeUnder_22 l1 post K2 l2 l3 l4 f_rule_lower → ∀ (H : Heap) (locs : List Loc), va_P (dC, dI) vwCl (W_X3_closeUnder cI cJ cZ h_rule h_rule_lower f_rule_lower) H → va_D A (W_X3_closeUnder cI cJ cZ h_rule h_rule_lower f_rule_lower) → va_S A s.heap H locs → ∀ ls : Array Slot, lv_has ls 5 [(0, .ref h_rule), (1, .int l1), (2, .int l2), (3, .int l3), (4, .int l4)] → W p l e rm_X3_closeUnder s m args below meth c H locs 0 0 QQ (F0 m 22 ls []) := by
    intro l1 K2 hK2 l2 l3 l4 f_rule_lower hq H locs hP hD hS ls hl
    obtain ⟨n, hq⟩ := hq
    exact L22 _ _ (C46 _ _ hK2) _ n _ _ _ hq H locs hP hD hS ls hl
  have L2 : ∀ (l1 : Int32) (n : Nat) (l2 : Int32) (f_rule_lower : Nat → Int32), r_X3_closeUnder_2 post l1 n l2 f_rule_lower → ∀ (H : Heap) (locs : List Loc), va_P (dC, dI) vwCl (W_X3_closeUnder cI cJ cZ h_rule h_rule_lower f_rule_lower) H → va_D A (W_X3_closeUnder cI cJ cZ h_rule h_rule_lower f_rule_lower) → va_S A s.heap H locs → ∀ ls : Array Slot, lv_has ls 5 [(0, .ref h_rule), (1, .int l1), (2, .int l2)] → W p l e rm_X3_closeUnder s m args below meth c H locs 0 0 QQ (F0 m 2 ls []) := by
    intro l1 n
    induction n with
    | zero => intro l2 f_rule_lower hq; exact False.elim hq
    | succ n ih =>
      intro l2 f_rule_lower hq H locs hP hD hS ls hl
      unfold r_X3_closeUnder_2 at hq
      refine lv_iload_n hx hb dX3_closeUnder_2 rfl (lv_at hl 2 rfl) ?_
      refine lv_sipush (v := (256 : Int32)) hx hb dX3_closeUnder_3 (by decide) ?_
      refine lv_icmp_ge (tgt := 52) hx hb dX3_closeUnder_6 (by decide) (fun c1 => ?_) (fun c1 => ?_)
      · replace hq := hq.1 c1
        exact hret f_rule_lower hq _ _ hP hD hS _ _ dX3_closeUnder_52
      · replace hq := hq.2 c1
        refine lv_aload_n hx hb dX3_closeUnder_9 rfl (lv_at hl 0 rfl) ?_
        refine lv_iload_n hx hb dX3_closeUnder_10 rfl (lv_at hl 2 rfl) ?_
        refine gx_cVi (C := RX3) (As := [.int l2]) (rest := []) ⟨hx, hb, hml, hown, hts⟩ (c_X3_has l dC dI cI cJ cZ h_rule h_rule_lower H.size f_rule_lower l2 hq) (cwV 1 hts gX3_closeUnder_X3_has rfl rfl rfl hdV_X3_has ⟨Nat.le_of_ble_eq_true rfl, Nat.le_of_ble_eq_true rfl⟩) hK hP hD hS hA [0, 1] [] rfl rfl rfl rfl rfl (ci := 3) (q0 := 0) rfl rfl rfl rfl hl.1 (Nat.le_of_ble_eq_true rfl) dX3_closeUnder_11 rfl (fun r2 u H locs hq hP hD hS => ?_)
        try dsimp only at hq
        have hP : va_P (dC, dI) vwCl (W_X3_closeUnder cI cJ cZ h_rule h_rule_lower f_rule_lower) H := hP
        have hD : va_D A (W_X3_closeUnder cI cJ cZ h_rule h_rule_lower f_rule_lower) := hD
        refine lv_if_eq (tgt := 46) hx hb dX3_closeUnder_14 (by decide) (fun c3 => ?_) (fun c3 => ?_)
        · replace hq := hq.1 c3
          exact (C46 _ _ ih) _ _ hq _ _ hP hD hS _ (lv_sub hl [0, 1, 2] rfl)
        · replace hq := hq.2 c3
          refine lv_iload_n hx hb dX3_closeUnder_17 rfl (lv_at hl 2 rfl) ?_
          refine lv_istore_n (lv' := [(3, .int l2), (0, .ref h_rule), (1, .int l1), (2, .int l2)]) hx hb dX3_closeUnder_18 rfl hl (by decide) rfl (fun ls hl => ?_)
          refine lv_iconst (v := (0 : Int32)) hx hb dX3_closeUnder_19 (by decide) ?_
          refine lv_istore (lv' := [(4, .int (0 : Int32)), (3, .int l2), (0, .ref h_rule), (1, .int l1), (2, .int l2)]) hx hb dX3_closeUnder_20 hl (by decide) rfl (fun ls hl => ?_)
          exact (C22 _ _ ih) _ _ _ _ hq _ _ hP hD hS _ (lv_sub hl [2, 3, 4, 1, 0] rfl)
  have C2 : ∀ (l1 : Int32) (l2 : Int32) (f_rule_lower : Nat → Int32), q_X3_closeUnder_2 post l1 l2 f_rule_lower → ∀ (H : Heap) (locs : List Loc), va_P (dC, dI) vwCl (W_X3_closeUnder cI cJ cZ h_rule h_rule_lower f_rule_lower) H → va_D A (W_X3_closeUnder cI cJ cZ h_rule h_rule_lower f_rule_lower) → va_S A s.heap H locs → ∀ ls : Array Slot, lv_has ls 5 [(0, .ref h_rule), (1, .int l1), (2, .int l2)] → W p l e rm_X3_closeUnder s m args below meth c H locs 0 0 QQ (F0 m 2 ls []) := by
    intro l1 l2 f_rule_lower hq H locs hP hD hS ls hl
    obtain ⟨n, hq⟩ := hq
    exact L2 _ n _ _ hq H locs hP hD hS ls hl
  unfold q_X3_closeUnder at hq
  refine lv_iconst (v := (0 : Int32)) hx hb dX3_closeUnder_0 (by decide) ?_
  refine lv_istore_n (lv' := [(2, .int (0 : Int32)), (0, .ref h_rule), (1, .int l1)]) hx hb dX3_closeUnder_1 rfl hl (by decide) rfl (fun ls hl => ?_)
  exact C2 _ _ _ hq _ _ hP hD hS _ (lv_sub hl [1, 2, 0] rfl)
