abbrev W_X9_in (cI cJ cZ : ClassId)  : va_W := []
abbrev rm_X9_in : Room := { frames := 0, cells := 0, slots := 0, locals := 0 }
def q_X9_in (l0 : Int64) (l2 : Int64) (l4 : Int64) (post : Int32 → Prop) : Prop := ((l0 < l2 → (post (0 : Int32))) ∧ (¬ l0 < l2 → ((l4 < l0 → (post (0 : Int32))) ∧ (¬ l4 < l0 → (post (1 : Int32))))))
theorem hdS_X9_in : yX9_in.cls ≠ "java/lang/invoke/MethodHandle" ∧ yX9_in.cls ≠ "java/lang/invoke/VarHandle" ∧ (parseMethodDescriptor yX9_in.desc).map (fun d => d.parameters.length) = some 3 := by decide +kernel
set_option maxHeartbeats 4000000 in
set_option maxRecDepth 100000 in
theorem c_X9_in (l : Launch) (dC : Nat → ClassId) (dI : Nat → Nat → Nat) (cI cJ cZ : ClassId) (sz : Nat)  (l0 : Int64) (l2 : Int64) (l4 : Int64) {post : Int32 → Prop} (hq : q_X9_in l0 l2 l4 post) : Met l yX9_in wsX9_in rm_X9_in (va_Pc [.long l0, .long l2, .long l4] (gx_Pre (dC, dI) vwCl (gx_tys cI cJ cZ) sz (W_X9_in cI cJ cZ))) (va_Qi (fun (r : Int32) (u : Unit) => post r) (gx_B (dC, dI) vwCl (gx_tys cI cJ cZ) (va_A (W_X9_in cI cJ cZ) sz) (fun (u : Unit) => (W_X9_in cI cJ cZ))) (va_A (W_X9_in cI cJ cZ) sz)) 0 0 (va_A (W_X9_in cI cJ cZ) sz) := by
  refine gx_z (cc := cX9_in) (maxL := 6) (by decide) rfl (Nat.le_of_ble_eq_true rfl) ?_
  intro p e s m args below meth c A QQ hx hb hml hown hts hA hP hK hD hret ls hl
  have hown : s.vm.findClass RX9 = some m.cls := hown
  have hS : va_S A s.heap s.heap [] := va_S.rf
  have hl : lv_has ls 6 [(0, .long l0), (2, .long l2), (4, .long l4)] := hl
  unfold q_X9_in at hq
  refine lv_lload_n hx hb dX9_in_0 rfl (lv_at hl 0 rfl) ?_
  refine lv_lload_n hx hb dX9_in_1 rfl (lv_at hl 1 rfl) ?_
  refine W.lcmp hx hb dX9_in_2 ?_
  refine lv_if_lt (tgt := 17) hx hb dX9_in_3 (by decide) (fun c1 => ?_) (fun c1 => ?_)
  · replace hq := hq.1 ((lg_cmp_lt _ _).mp c1)
    refine lv_iconst (v := (0 : Int32)) hx hb dX9_in_17 (by decide) ?_
    exact hret (0 : Int32) () (Or.inl rfl) hq _ _ hP hD hS _ _ dX9_in_18
  · replace hq := hq.2 (fun h => c1 ((lg_cmp_lt _ _).mpr h))
    refine lv_lload_n hx hb dX9_in_6 rfl (lv_at hl 0 rfl) ?_
    refine lv_lload hx hb dX9_in_7 (lv_at hl 2 rfl) ?_
    refine W.lcmp hx hb dX9_in_9 ?_
    refine lv_if_gt (tgt := 17) hx hb dX9_in_10 (by decide) (fun c2 => ?_) (fun c2 => ?_)
    · replace hq := hq.1 ((lg_cmp_gt _ _).mp c2)
      refine lv_iconst (v := (0 : Int32)) hx hb dX9_in_17 (by decide) ?_
      exact hret (0 : Int32) () (Or.inl rfl) hq _ _ hP hD hS _ _ dX9_in_18
    · replace hq := hq.2 (fun h => c2 ((lg_cmp_gt _ _).mpr h))
      refine lv_iconst (v := (1 : Int32)) hx hb dX9_in_13 (by decide) ?_
      refine lv_goto (tgt := 18) hx hb dX9_in_14 (by decide) ?_
      exact hret (1 : Int32) () (Or.inr rfl) hq _ _ hP hD hS _ _ dX9_in_18

abbrev W_X9_isSize (cI cJ cZ : ClassId)  : va_W := []
abbrev rm_X9_isSize : Room := { frames := 1, cells := 0, slots := 0, locals := 25 }
def q_X9_isSize (l0 : Int32) (l1 : Int32) (post : Int32 → Prop) : Prop := (q_X9_in ((l0).toInt64) (1 : Int64) (5 : Int64) (fun (r1 : Int32) => ((r1 = 0 → (post (0 : Int32))) ∧ (¬ r1 = 0 → (q_X9_in ((l1).toInt64) (1 : Int64) (5 : Int64) (fun (r3 : Int32) => ((r3 = 0 → (post (0 : Int32))) ∧ (¬ r3 = 0 → (post (1 : Int32))))))))))
theorem hdS_X9_isSize : yX9_isSize.cls ≠ "java/lang/invoke/MethodHandle" ∧ yX9_isSize.cls ≠ "java/lang/invoke/VarHandle" ∧ (parseMethodDescriptor yX9_isSize.desc).map (fun d => d.parameters.length) = some 2 := by decide +kernel
set_option maxHeartbeats 4000000 in
set_option maxRecDepth 100000 in
theorem c_X9_isSize (l : Launch) (dC : Nat → ClassId) (dI : Nat → Nat → Nat) (cI cJ cZ : ClassId) (sz : Nat)  (l0 : Int32) (l1 : Int32) {post : Int32 → Prop} (hq : q_X9_isSize l0 l1 post) : Met l yX9_isSize wsX9_isSize rm_X9_isSize (va_Pc [.int l0, .int l1] (gx_Pre (dC, dI) vwCl (gx_tys cI cJ cZ) sz (W_X9_isSize cI cJ cZ))) (va_Qi (fun (r : Int32) (u : Unit) => post r) (gx_B (dC, dI) vwCl (gx_tys cI cJ cZ) (va_A (W_X9_isSize cI cJ cZ) sz) (fun (u : Unit) => (W_X9_isSize cI cJ cZ))) (va_A (W_X9_isSize cI cJ cZ) sz)) 0 0 (va_A (W_X9_isSize cI cJ cZ) sz) := by
  refine gx_z (cc := cX9_isSize) (maxL := 2) (by decide) rfl (Nat.le_of_ble_eq_true rfl) ?_
  intro p e s m args below meth c A QQ hx hb hml hown hts hA hP hK hD hret ls hl
  have hown : s.vm.findClass RX9 = some m.cls := hown
  have hcl93 := hts (.constantLong RX9 93 (5)) (by decide +kernel)
  have hS : va_S A s.heap s.heap [] := va_S.rf
  have hl : lv_has ls 2 [(0, .int l0), (1, .int l1)] := hl
  unfold q_X9_isSize at hq
  refine lv_iload_n hx hb dX9_isSize_0 rfl (lv_at hl 0 rfl) ?_
  refine lv_i2l hx hb dX9_isSize_1 rfl ?_
  refine lv_lconst (v := (1 : Int64)) hx hb dX9_isSize_2 (by decide) ?_
  refine lv_ldc2 hx hb hown hcl93 dX9_isSize_3 ?_
  refine gx_cSi (As := [.long ((l0).toInt64), .long (1 : Int64), .long (5 : Int64)]) (rest := []) ⟨hx, hb, hml, hown, hts⟩ (c_X9_in l dC dI cI cJ cZ s.heap.size ((l0).toInt64) (1 : Int64) (5 : Int64) hq) (va_cwS 3 hts gX9_isSize_X9_in rfl rfl rfl hdS_X9_in ⟨Nat.le_of_ble_eq_true rfl, Nat.le_of_ble_eq_true rfl⟩) hK hP hD hS hA [] [] rfl rfl rfl rfl rfl rfl hl.1 (Nat.le_of_ble_eq_true rfl) dX9_isSize_6 rfl (fun r1 u H locs hq hP hD hS => ?_)
  try dsimp only at hq
  have hP : va_P (dC, dI) vwCl (W_X9_isSize cI cJ cZ) H := hP
  have hD : va_D A (W_X9_isSize cI cJ cZ) := hD
  refine lv_if_eq (tgt := 28) hx hb dX9_isSize_9 (by decide) (fun c2 => ?_) (fun c2 => ?_)
  · replace hq := hq.1 c2
    refine lv_iconst (v := (0 : Int32)) hx hb dX9_isSize_28 (by decide) ?_
    exact hret (0 : Int32) () (Or.inl rfl) hq _ _ hP hD hS _ _ dX9_isSize_29
  · replace hq := hq.2 c2
    refine lv_iload_n hx hb dX9_isSize_12 rfl (lv_at hl 1 rfl) ?_
    refine lv_i2l hx hb dX9_isSize_13 rfl ?_
    refine lv_lconst (v := (1 : Int64)) hx hb dX9_isSize_14 (by decide) ?_
    refine lv_ldc2 hx hb hown hcl93 dX9_isSize_15 ?_
    refine gx_cSi (As := [.long ((l1).toInt64), .long (1 : Int64), .long (5 : Int64)]) (rest := []) ⟨hx, hb, hml, hown, hts⟩ (c_X9_in l dC dI cI cJ cZ H.size ((l1).toInt64) (1 : Int64) (5 : Int64) hq) (va_cwS 3 hts gX9_isSize_X9_in rfl rfl rfl hdS_X9_in ⟨Nat.le_of_ble_eq_true rfl, Nat.le_of_ble_eq_true rfl⟩) hK hP hD hS hA [] [] rfl rfl rfl rfl rfl rfl hl.1 (Nat.le_of_ble_eq_true rfl) dX9_isSize_18 rfl (fun r3 u H locs hq hP hD hS => ?_)
    try dsimp only at hq
    have hP : va_P (dC, dI) vwCl (W_X9_isSize cI cJ cZ) H := hP
    have hD : va_D A (W_X9_isSize cI cJ cZ) := hD
    refine lv_if_eq (tgt := 28) hx hb dX9_isSize_21 (by decide) (fun c4 => ?_) (fun c4 => ?_)
    · replace hq := hq.1 c4
      refine lv_iconst (v := (0 : Int32)) hx hb dX9_isSize_28 (by decide) ?_
      exact hret (0 : Int32) () (Or.inl rfl) hq _ _ hP hD hS _ _ dX9_isSize_29
    · replace hq := hq.2 c4
      refine lv_iconst (v := (1 : Int32)) hx hb dX9_isSize_24 (by decide) ?_
      refine lv_goto (tgt := 29) hx hb dX9_isSize_25 (by decide) ?_
      exact hret (1 : Int32) () (Or.inr rfl) hq _ _ hP hD hS _ _ dX9_isSize_29

abbrev W_X9_clearWalker (cI cJ cZ : ClassId) (h_m h_m_acts h_m_thens h_m_allowed h_m_desk h_m_letters h_m_fits h_m_top h_m_bottom h_m_may h_m_ways h_m_found h_m_unlike h_m_seen h_m_seenThen h_m_power h_m_square h_m_product h_m_isLive h_m_down h_m_up h_m_ground h_m_met : Nat) (m_colours : Int32) (m_h : Int32) (m_w : Int32) (m_states : Int32) (m_rows : Int32) (m_ends : Int32) (m_steps : Int32) (m_last : Int32) (f_m_acts : Nat → Int32) (f_m_thens : Nat → Int32) : va_W := [(h_m, .inr (9, [.int m_colours, .ref h_m_allowed, .int m_h, .int m_w, .ref h_m_desk, .ref h_m_letters, .int m_states, .ref h_m_acts, .ref h_m_thens, .ref h_m_fits, .ref h_m_top, .ref h_m_bottom, .int m_rows, .ref h_m_may, .ref h_m_ways, .ref h_m_found, .ref h_m_unlike, .ref h_m_seen, .ref h_m_seenThen, .ref h_m_power, .ref h_m_square, .ref h_m_product, .ref h_m_isLive, .ref h_m_down, .ref h_m_up, .ref h_m_ground, .ref h_m_met, .int m_ends, .int m_steps, .int m_last])), (h_m_acts, .inl (cI, 20, .inl f_m_acts)), (h_m_thens, .inl (cI, 20, .inl f_m_thens))]
abbrev rm_X9_clearWalker : Room := { frames := 0, cells := 0, slots := 0, locals := 0 }
def r_X9_clearWalker_7 (post : (Int32) → (Nat → Int32) → (Nat → Int32) → Prop) (m_states : Int32) : Nat → (Int32) → (Nat → Int32) → (Nat → Int32) → Prop
  | 0, _, _, _ => False
  | n + 1, l2, f_m_acts, f_m_thens => (((20 : Int32) ≤ l2 → (post m_states f_m_acts f_m_thens)) ∧ (¬ (20 : Int32) ≤ l2 → (vp_in l2 20 ∧ (vp_in l2 20 ∧ ((r_X9_clearWalker_7 post m_states n) (l2 + (1 : Int32)) (upd f_m_acts (l2).toNatClampNeg (5 : Int32)) (upd f_m_thens (l2).toNatClampNeg (0 : Int32)))))))
def q_X9_clearWalker_7 (post : (Int32) → (Nat → Int32) → (Nat → Int32) → Prop) (l2 : Int32) (m_states : Int32) (f_m_acts : Nat → Int32) (f_m_thens : Nat → Int32) : Prop := ∃ n, r_X9_clearWalker_7 post m_states n l2 f_m_acts f_m_thens
def q_X9_clearWalker (m_states : Int32) (f_m_acts : Nat → Int32) (f_m_thens : Nat → Int32) (l1 : Int32) (post : (Int32) → (Nat → Int32) → (Nat → Int32) → Prop) : Prop := ((q_X9_clearWalker_7 post) (0 : Int32) l1 f_m_acts f_m_thens)
theorem hdV_X9_clearWalker : yX9_clearWalker.cls = RX9 ∧ yX9_clearWalker.cls ≠ "java/lang/invoke/MethodHandle" ∧ yX9_clearWalker.cls ≠ "java/lang/invoke/VarHandle" ∧ (parseMethodDescriptor yX9_clearWalker.desc).map (fun d => d.parameters.length) = some 1 := by decide +kernel
set_option maxHeartbeats 4000000 in
set_option maxRecDepth 100000 in
theorem c_X9_clearWalker (l : Launch) (dC : Nat → ClassId) (dI : Nat → Nat → Nat) (cI cJ cZ : ClassId) (h_m h_m_acts h_m_thens h_m_allowed h_m_desk h_m_letters h_m_fits h_m_top h_m_bottom h_m_may h_m_ways h_m_found h_m_unlike h_m_seen h_m_seenThen h_m_power h_m_square h_m_product h_m_isLive h_m_down h_m_up h_m_ground h_m_met : Nat) (sz : Nat) (m_colours : Int32) (m_h : Int32) (m_w : Int32) (m_states : Int32) (m_rows : Int32) (m_ends : Int32) (m_steps : Int32) (m_last : Int32) (f_m_acts : Nat → Int32) (f_m_thens : Nat → Int32) (l1 : Int32) {post : (Int32) → (Nat → Int32) → (Nat → Int32) → Prop} (hq : q_X9_clearWalker m_states f_m_acts f_m_thens l1 post) : Met l yX9_clearWalker wsX9_clearWalker rm_X9_clearWalker (va_Pc [.ref h_m, .int l1] (gx_Pre (dC, dI) vwCl (gx_tys cI cJ cZ) sz (W_X9_clearWalker cI cJ cZ h_m h_m_acts h_m_thens h_m_allowed h_m_desk h_m_letters h_m_fits h_m_top h_m_bottom h_m_may h_m_ways h_m_found h_m_unlike h_m_seen h_m_seenThen h_m_power h_m_square h_m_product h_m_isLive h_m_down h_m_up h_m_ground h_m_met m_colours m_h m_w m_states m_rows m_ends m_steps m_last f_m_acts f_m_thens))) (va_Qv (fun (u : (Int32) × (Nat → Int32) × (Nat → Int32)) => post u.1 u.2.1 u.2.2) (gx_B (dC, dI) vwCl (gx_tys cI cJ cZ) (va_A (W_X9_clearWalker cI cJ cZ h_m h_m_acts h_m_thens h_m_allowed h_m_desk h_m_letters h_m_fits h_m_top h_m_bottom h_m_may h_m_ways h_m_found h_m_unlike h_m_seen h_m_seenThen h_m_power h_m_square h_m_product h_m_isLive h_m_down h_m_up h_m_ground h_m_met m_colours m_h m_w m_states m_rows m_ends m_steps m_last f_m_acts f_m_thens) sz) (fun (u : (Int32) × (Nat → Int32) × (Nat → Int32)) => (W_X9_clearWalker cI cJ cZ h_m h_m_acts h_m_thens h_m_allowed h_m_desk h_m_letters h_m_fits h_m_top h_m_bottom h_m_may h_m_ways h_m_found h_m_unlike h_m_seen h_m_seenThen h_m_power h_m_square h_m_product h_m_isLive h_m_down h_m_up h_m_ground h_m_met m_colours m_h m_w u.1 m_rows m_ends m_steps m_last u.2.1 u.2.2))) (va_A (W_X9_clearWalker cI cJ cZ h_m h_m_acts h_m_thens h_m_allowed h_m_desk h_m_letters h_m_fits h_m_top h_m_bottom h_m_may h_m_ways h_m_found h_m_unlike h_m_seen h_m_seenThen h_m_power h_m_square h_m_product h_m_isLive h_m_down h_m_up h_m_ground h_m_met m_colours m_h m_w m_states m_rows m_ends m_steps m_last f_m_acts f_m_thens) sz)) 0 0 (va_A (W_X9_clearWalker cI cJ cZ h_m h_m_acts h_m_thens h_m_allowed h_m_desk h_m_letters h_m_fits h_m_top h_m_bottom h_m_may h_m_ways h_m_found h_m_unlike h_m_seen h_m_seenThen h_m_power h_m_square h_m_product h_m_isLive h_m_down h_m_up h_m_ground h_m_met m_colours m_h m_w m_states m_rows m_ends m_steps m_last f_m_acts f_m_thens) sz) := by
  refine gx_v (cc := cX9_clearWalker) (maxL := 3) (by decide) rfl (Nat.le_of_ble_eq_true rfl) ?_
  intro p e s m args below meth c A QQ hx hb hml hown hts hA hP hK hD hret ls hl
  have hown : s.vm.findClass RX9 = some m.cls := hown
  have hf30 := hts (.fieldLink RX9 30 "SmallWindowsModel" "states" "I") (by decide +kernel)
  have hf33 := hts (.fieldLink RX9 33 "SmallWindowsModel" "acts" "[I") (by decide +kernel)
  have hf36 := hts (.fieldLink RX9 36 "SmallWindowsModel" "thens" "[I") (by decide +kernel)
  have hinX9 : ∀ w ∈ u_ws RX9 TX9 30, w ∈ wsX9_clearWalker := fun w h => List.mem_cons_of_mem _ ((List.mem_append_right _ h))
  have hS : va_S A s.heap s.heap [] := va_S.rf
  have hl : lv_has ls 3 [(0, .ref h_m), (1, .int l1)] := hl
  have L7 : ∀ (m_states : Int32) (n : Nat) (l2 : Int32) (f_m_acts : Nat → Int32) (f_m_thens : Nat → Int32), r_X9_clearWalker_7 post m_states n l2 f_m_acts f_m_thens → ∀ (H : Heap) (locs : List Loc), va_P (dC, dI) vwCl (W_X9_clearWalker cI cJ cZ h_m h_m_acts h_m_thens h_m_allowed h_m_desk h_m_letters h_m_fits h_m_top h_m_bottom h_m_may h_m_ways h_m_found h_m_unlike h_m_seen h_m_seenThen h_m_power h_m_square h_m_product h_m_isLive h_m_down h_m_up h_m_ground h_m_met m_colours m_h m_w m_states m_rows m_ends m_steps m_last f_m_acts f_m_thens) H → va_D A (W_X9_clearWalker cI cJ cZ h_m h_m_acts h_m_thens h_m_allowed h_m_desk h_m_letters h_m_fits h_m_top h_m_bottom h_m_may h_m_ways h_m_found h_m_unlike h_m_seen h_m_seenThen h_m_power h_m_square h_m_product h_m_isLive h_m_down h_m_up h_m_ground h_m_met m_colours m_h m_w m_states m_rows m_ends m_steps m_last f_m_acts f_m_thens) → va_S A s.heap H locs → ∀ ls : Array Slot, lv_has ls 3 [(0, .ref h_m), (2, .int l2)] → W p l e rm_X9_clearWalker s m args below meth c H locs 0 0 QQ (F0 m 7 ls []) := by
    intro m_states n
    induction n with
    | zero => intro l2 f_m_acts f_m_thens hq; exact False.elim hq
    | succ n ih =>
      intro l2 f_m_acts f_m_thens hq H locs hP hD hS ls hl
      unfold r_X9_clearWalker_7 at hq
      refine lv_iload_n hx hb dX9_clearWalker_7 rfl (lv_at hl 1 rfl) ?_
      refine lv_bipush (v := (20 : Int32)) hx hb dX9_clearWalker_8 (by decide) ?_
      refine lv_icmp_ge (tgt := 33) hx hb dX9_clearWalker_10 (by decide) (fun c1 => ?_) (fun c1 => ?_)
      · replace hq := hq.1 c1
        exact hret (m_states, f_m_acts, f_m_thens) hq _ _ hP hD hS _ _ dX9_clearWalker_33
      · replace hq := hq.2 c1
        refine lv_aload_n hx hb dX9_clearWalker_13 rfl (lv_at hl 0 rfl) ?_
        refine va_get (D := (dC, dI)) (ci := 9) (v := .ref h_m_acts) (C := RX9) (T := TX9) (N := 30) hx hb hts hinX9 hown hK hP 0 rfl rfl 7 (by decide) hf33 (fun _ h9 => h9) rfl dX9_clearWalker_14 ?_
        refine lv_iload_n hx hb dX9_clearWalker_17 rfl (lv_at hl 1 rfl) ?_
        refine lv_iconst (v := (5 : Int32)) hx hb dX9_clearWalker_18 (by decide) ?_
        obtain ⟨hv2, hq⟩ := hq
        refine va_iast hx hb hK hP hD hS 1 0 rfl rfl hv2 dX9_clearWalker_19 (fun H locs hP hD hS => ?_)
        have hP : va_P (dC, dI) vwCl (W_X9_clearWalker cI cJ cZ h_m h_m_acts h_m_thens h_m_allowed h_m_desk h_m_letters h_m_fits h_m_top h_m_bottom h_m_may h_m_ways h_m_found h_m_unlike h_m_seen h_m_seenThen h_m_power h_m_square h_m_product h_m_isLive h_m_down h_m_up h_m_ground h_m_met m_colours m_h m_w m_states m_rows m_ends m_steps m_last (upd f_m_acts (l2).toNatClampNeg (5 : Int32)) f_m_thens) H := hP
        have hD : va_D A (W_X9_clearWalker cI cJ cZ h_m h_m_acts h_m_thens h_m_allowed h_m_desk h_m_letters h_m_fits h_m_top h_m_bottom h_m_may h_m_ways h_m_found h_m_unlike h_m_seen h_m_seenThen h_m_power h_m_square h_m_product h_m_isLive h_m_down h_m_up h_m_ground h_m_met m_colours m_h m_w m_states m_rows m_ends m_steps m_last (upd f_m_acts (l2).toNatClampNeg (5 : Int32)) f_m_thens) := hD
        refine lv_aload_n hx hb dX9_clearWalker_20 rfl (lv_at hl 0 rfl) ?_
        refine va_get (D := (dC, dI)) (ci := 9) (v := .ref h_m_thens) (C := RX9) (T := TX9) (N := 30) hx hb hts hinX9 hown hK hP 0 rfl rfl 8 (by decide) hf36 (fun _ h9 => h9) rfl dX9_clearWalker_21 ?_
        refine lv_iload_n hx hb dX9_clearWalker_24 rfl (lv_at hl 1 rfl) ?_
        refine lv_iconst (v := (0 : Int32)) hx hb dX9_clearWalker_25 (by decide) ?_
        obtain ⟨hv3, hq⟩ := hq
        refine va_iast hx hb hK hP hD hS 2 0 rfl rfl hv3 dX9_clearWalker_26 (fun H locs hP hD hS => ?_)
        have hP : va_P (dC, dI) vwCl (W_X9_clearWalker cI cJ cZ h_m h_m_acts h_m_thens h_m_allowed h_m_desk h_m_letters h_m_fits h_m_top h_m_bottom h_m_may h_m_ways h_m_found h_m_unlike h_m_seen h_m_seenThen h_m_power h_m_square h_m_product h_m_isLive h_m_down h_m_up h_m_ground h_m_met m_colours m_h m_w m_states m_rows m_ends m_steps m_last (upd f_m_acts (l2).toNatClampNeg (5 : Int32)) (upd f_m_thens (l2).toNatClampNeg (0 : Int32))) H := hP
        have hD : va_D A (W_X9_clearWalker cI cJ cZ h_m h_m_acts h_m_thens h_m_allowed h_m_desk h_m_letters h_m_fits h_m_top h_m_bottom h_m_may h_m_ways h_m_found h_m_unlike h_m_seen h_m_seenThen h_m_power h_m_square h_m_product h_m_isLive h_m_down h_m_up h_m_ground h_m_met m_colours m_h m_w m_states m_rows m_ends m_steps m_last (upd f_m_acts (l2).toNatClampNeg (5 : Int32)) (upd f_m_thens (l2).toNatClampNeg (0 : Int32))) := hD
        refine lv_iinc (v := (l2 + (1 : Int32))) (lv' := [(2, .int (l2 + (1 : Int32))), (0, .ref h_m)]) hx hb dX9_clearWalker_27 hl (k := 1) rfl rfl (by decide) rfl (fun ls hl => ?_)
        refine lv_goto (tgt := 7) hx hb dX9_clearWalker_30 (by decide) ?_
        exact ih _ _ _ hq _ _ hP hD hS _ (lv_sub hl [1, 0] rfl)
  have C7 : ∀ (l2 : Int32) (m_states : Int32) (f_m_acts : Nat → Int32) (f_m_thens : Nat → Int32), q_X9_clearWalker_7 post l2 m_states f_m_acts f_m_thens → ∀ (H : Heap) (locs : List Loc), va_P (dC, dI) vwCl (W_X9_clearWalker cI cJ cZ h_m h_m_acts h_m_thens h_m_allowed h_m_desk h_m_letters h_m_fits h_m_top h_m_bottom h_m_may h_m_ways h_m_found h_m_unlike h_m_seen h_m_seenThen h_m_power h_m_square h_m_product h_m_isLive h_m_down h_m_up h_m_ground h_m_met m_colours m_h m_w m_states m_rows m_ends m_steps m_last f_m_acts f_m_thens) H → va_D A (W_X9_clearWalker cI cJ cZ h_m h_m_acts h_m_thens h_m_allowed h_m_desk h_m_letters h_m_fits h_m_top h_m_bottom h_m_may h_m_ways h_m_found h_m_unlike h_m_seen h_m_seenThen h_m_power h_m_square h_m_product h_m_isLive h_m_down h_m_up h_m_ground h_m_met m_colours m_h m_w m_states m_rows m_ends m_steps m_last f_m_acts f_m_thens) → va_S A s.heap H locs → ∀ ls : Array Slot, lv_has ls 3 [(0, .ref h_m), (2, .int l2)] → W p l e rm_X9_clearWalker s m args below meth c H locs 0 0 QQ (F0 m 7 ls []) := by
    intro l2 m_states f_m_acts f_m_thens hq H locs hP hD hS ls hl
    obtain ⟨n, hq⟩ := hq
    exact L7 _ n _ _ _ hq H locs hP hD hS ls hl
  unfold q_X9_clearWalker at hq
  refine lv_aload_n hx hb dX9_clearWalker_0 rfl (lv_at hl 0 rfl) ?_
  refine lv_iload_n hx hb dX9_clearWalker_1 rfl (lv_at hl 1 rfl) ?_
  refine va_put (D := (dC, dI)) (ci := 9) (v := .int l1) (ty := tyX9 6) (C := RX9) (T := TX9) (N := 30) hx hb hts hinX9 tyX9 tyX9_ok nmX9 hown hK hP hD hS 0 rfl rfl 6 (by decide) hf30 (fun _ h9 => h9) rfl (tyX9_ok 6 (by decide)) rfl rfl (Nat.le_of_ble_eq_true rfl) dX9_clearWalker_2 (fun H locs hP hD hS => ?_)
  have hP : va_P (dC, dI) vwCl (W_X9_clearWalker cI cJ cZ h_m h_m_acts h_m_thens h_m_allowed h_m_desk h_m_letters h_m_fits h_m_top h_m_bottom h_m_may h_m_ways h_m_found h_m_unlike h_m_seen h_m_seenThen h_m_power h_m_square h_m_product h_m_isLive h_m_down h_m_up h_m_ground h_m_met m_colours m_h m_w l1 m_rows m_ends m_steps m_last f_m_acts f_m_thens) H := hP
  have hD : va_D A (W_X9_clearWalker cI cJ cZ h_m h_m_acts h_m_thens h_m_allowed h_m_desk h_m_letters h_m_fits h_m_top h_m_bottom h_m_may h_m_ways h_m_found h_m_unlike h_m_seen h_m_seenThen h_m_power h_m_square h_m_product h_m_isLive h_m_down h_m_up h_m_ground h_m_met m_colours m_h m_w l1 m_rows m_ends m_steps m_last f_m_acts f_m_thens) := hD
  refine lv_iconst (v := (0 : Int32)) hx hb dX9_clearWalker_5 (by decide) ?_
  refine lv_istore_n (lv' := [(2, .int (0 : Int32)), (0, .ref h_m), (1, .int l1)]) hx hb dX9_clearWalker_6 rfl hl (by decide) rfl (fun ls hl => ?_)
  exact C7 _ _ _ _ hq _ _ hP hD hS _ (lv_sub hl [1, 0] rfl)

abbrev W_X9_colours (cI cJ cZ : ClassId) (h_m h_m_allowed h_m_desk h_m_letters h_m_acts h_m_thens h_m_fits h_m_top h_m_bottom h_m_may h_m_ways h_m_found h_m_unlike h_m_seen h_m_seenThen h_m_power h_m_square h_m_product h_m_isLive h_m_down h_m_up h_m_ground h_m_met : Nat) (m_colours : Int32) (m_h : Int32) (m_w : Int32) (m_states : Int32) (m_rows : Int32) (m_ends : Int32) (m_steps : Int32) (m_last : Int32) (f_m_allowed : Nat → Int32) (f_m_desk : Nat → Int32) (f_m_letters : Nat → Int32) (f_m_acts : Nat → Int32) (f_m_thens : Nat → Int32) : va_W := [(h_m, .inr (9, [.int m_colours, .ref h_m_allowed, .int m_h, .int m_w, .ref h_m_desk, .ref h_m_letters, .int m_states, .ref h_m_acts, .ref h_m_thens, .ref h_m_fits, .ref h_m_top, .ref h_m_bottom, .int m_rows, .ref h_m_may, .ref h_m_ways, .ref h_m_found, .ref h_m_unlike, .ref h_m_seen, .ref h_m_seenThen, .ref h_m_power, .ref h_m_square, .ref h_m_product, .ref h_m_isLive, .ref h_m_down, .ref h_m_up, .ref h_m_ground, .ref h_m_met, .int m_ends, .int m_steps, .int m_last])), (h_m_allowed, .inl (cZ, 256, .inl f_m_allowed)), (h_m_desk, .inl (cI, 25, .inl f_m_desk)), (h_m_letters, .inl (cI, 3, .inl f_m_letters)), (h_m_acts, .inl (cI, 20, .inl f_m_acts)), (h_m_thens, .inl (cI, 20, .inl f_m_thens))]
abbrev rm_X9_colours : Room := { frames := 1, cells := 0, slots := 0, locals := 25 }
def r_X9_colours_29 (post : Int32 → (Int32) → (Int32) → (Int32) → (Int32) → (Nat → Int32) → (Nat → Int32) → (Nat → Int32) → (Nat → Int32) → (Nat → Int32) → Prop) (K49 : (Int32) → (Int32) → (Int32) → (Int32) → (Int32) → (Nat → Int32) → (Nat → Int32) → (Nat → Int32) → (Nat → Int32) → (Nat → Int32) → Prop) (l2 : Int32) (m_colours : Int32) (m_h : Int32) (m_w : Int32) (m_states : Int32) (f_m_desk : Nat → Int32) (f_m_letters : Nat → Int32) (f_m_acts : Nat → Int32) (f_m_thens : Nat → Int32) : Nat → (Int32) → (Nat → Int32) → Prop
  | 0, _, _ => False
  | n + 1, l3, f_m_allowed => (((256 : Int32) ≤ l3 → (K49 l2 m_colours m_h m_w m_states f_m_allowed f_m_desk f_m_letters f_m_acts f_m_thens)) ∧ (¬ (256 : Int32) ≤ l3 → (vp_in l3 256 ∧ ((r_X9_colours_29 post K49 l2 m_colours m_h m_w m_states f_m_desk f_m_letters f_m_acts f_m_thens n) (l3 + (1 : Int32)) (upd f_m_allowed (l3).toNatClampNeg (0 : Int32))))))
def r_X9_colours_61 (post : Int32 → (Int32) → (Int32) → (Int32) → (Int32) → (Nat → Int32) → (Nat → Int32) → (Nat → Int32) → (Nat → Int32) → (Nat → Int32) → Prop) (K80 : (Int32) → (Int32) → (Int32) → (Int32) → (Int32) → (Nat → Int32) → (Nat → Int32) → (Nat → Int32) → (Nat → Int32) → (Nat → Int32) → Prop) (l2 : Int32) (m_colours : Int32) (m_h : Int32) (m_w : Int32) (m_states : Int32) (f_m_allowed : Nat → Int32) (f_m_letters : Nat → Int32) (f_m_acts : Nat → Int32) (f_m_thens : Nat → Int32) : Nat → (Int32) → (Nat → Int32) → Prop
  | 0, _, _ => False
  | n + 1, l3, f_m_desk => (((25 : Int32) ≤ l3 → (K80 l2 m_colours m_h m_w m_states f_m_allowed f_m_desk f_m_letters f_m_acts f_m_thens)) ∧ (¬ (25 : Int32) ≤ l3 → (vp_in l3 25 ∧ ((r_X9_colours_61 post K80 l2 m_colours m_h m_w m_states f_m_allowed f_m_letters f_m_acts f_m_thens n) (l3 + (1 : Int32)) (upd f_m_desk (l3).toNatClampNeg (-1 : Int32))))))
def q_X9_colours_80 (post : Int32 → (Int32) → (Int32) → (Int32) → (Int32) → (Nat → Int32) → (Nat → Int32) → (Nat → Int32) → (Nat → Int32) → (Nat → Int32) → Prop) (l2 : Int32) (m_colours : Int32) (m_h : Int32) (m_w : Int32) (m_states : Int32) (f_m_allowed : Nat → Int32) (f_m_desk : Nat → Int32) (f_m_letters : Nat → Int32) (f_m_acts : Nat → Int32) (f_m_thens : Nat → Int32) : Prop := (q_X9_clearWalker m_states f_m_acts f_m_thens (1 : Int32) (fun (m_states_7 : Int32) (f_m_acts_7 : Nat → Int32) (f_m_thens_7 : Nat → Int32) => (post l2 m_colours m_h m_w m_states_7 f_m_allowed f_m_desk (upd (upd (upd f_m_letters ((0 : Int32)).toNatClampNeg (0 : Int32)) ((1 : Int32)).toNatClampNeg (1 : Int32)) ((2 : Int32)).toNatClampNeg (0 : Int32)) f_m_acts_7 f_m_thens_7)))
def q_X9_colours_61 (post : Int32 → (Int32) → (Int32) → (Int32) → (Int32) → (Nat → Int32) → (Nat → Int32) → (Nat → Int32) → (Nat → Int32) → (Nat → Int32) → Prop) (l2 : Int32) (l3 : Int32) (m_colours : Int32) (m_h : Int32) (m_w : Int32) (m_states : Int32) (f_m_allowed : Nat → Int32) (f_m_desk : Nat → Int32) (f_m_letters : Nat → Int32) (f_m_acts : Nat → Int32) (f_m_thens : Nat → Int32) : Prop := ∃ n, r_X9_colours_61 post (q_X9_colours_80 post) l2 m_colours m_h m_w m_states f_m_allowed f_m_letters f_m_acts f_m_thens n l3 f_m_desk
def q_X9_colours_49 (post : Int32 → (Int32) → (Int32) → (Int32) → (Int32) → (Nat → Int32) → (Nat → Int32) → (Nat → Int32) → (Nat → Int32) → (Nat → Int32) → Prop) (l2 : Int32) (m_colours : Int32) (m_h : Int32) (m_w : Int32) (m_states : Int32) (f_m_allowed : Nat → Int32) (f_m_desk : Nat → Int32) (f_m_letters : Nat → Int32) (f_m_acts : Nat → Int32) (f_m_thens : Nat → Int32) : Prop := ((q_X9_colours_61 post) l2 (0 : Int32) m_colours (1 : Int32) (1 : Int32) m_states f_m_allowed f_m_desk f_m_letters f_m_acts f_m_thens)
def q_X9_colours_29 (post : Int32 → (Int32) → (Int32) → (Int32) → (Int32) → (Nat → Int32) → (Nat → Int32) → (Nat → Int32) → (Nat → Int32) → (Nat → Int32) → Prop) (l2 : Int32) (l3 : Int32) (m_colours : Int32) (m_h : Int32) (m_w : Int32) (m_states : Int32) (f_m_allowed : Nat → Int32) (f_m_desk : Nat → Int32) (f_m_letters : Nat → Int32) (f_m_acts : Nat → Int32) (f_m_thens : Nat → Int32) : Prop := ∃ n, r_X9_colours_29 post (q_X9_colours_49 post) l2 m_colours m_h m_w m_states f_m_desk f_m_letters f_m_acts f_m_thens n l3 f_m_allowed
def q_X9_colours (m_colours : Int32) (m_h : Int32) (m_w : Int32) (m_states : Int32) (f_m_allowed : Nat → Int32) (f_m_desk : Nat → Int32) (f_m_letters : Nat → Int32) (f_m_acts : Nat → Int32) (f_m_thens : Nat → Int32) (l1 : Int32) (post : Int32 → (Int32) → (Int32) → (Int32) → (Int32) → (Nat → Int32) → (Nat → Int32) → (Nat → Int32) → (Nat → Int32) → (Nat → Int32) → Prop) : Prop := (q_X9_in ((l1).toInt64) (2 : Int64) (3 : Int64) (fun (r1 : Int32) => ((¬ r1 = 0 → ((q_X9_colours_29 post) m_colours (0 : Int32) l1 m_h m_w m_states f_m_allowed f_m_desk f_m_letters f_m_acts f_m_thens)) ∧ (r1 = 0 → (post (-3 : Int32) m_colours m_h m_w m_states f_m_allowed f_m_desk f_m_letters f_m_acts f_m_thens)))))
theorem hdV_X9_colours : yX9_colours.cls = RX9 ∧ yX9_colours.cls ≠ "java/lang/invoke/MethodHandle" ∧ yX9_colours.cls ≠ "java/lang/invoke/VarHandle" ∧ (parseMethodDescriptor yX9_colours.desc).map (fun d => d.parameters.length) = some 1 := by decide +kernel
set_option maxHeartbeats 4000000 in
set_option maxRecDepth 100000 in
theorem c_X9_colours (l : Launch) (dC : Nat → ClassId) (dI : Nat → Nat → Nat) (cI cJ cZ : ClassId) (h_m h_m_allowed h_m_desk h_m_letters h_m_acts h_m_thens h_m_fits h_m_top h_m_bottom h_m_may h_m_ways h_m_found h_m_unlike h_m_seen h_m_seenThen h_m_power h_m_square h_m_product h_m_isLive h_m_down h_m_up h_m_ground h_m_met : Nat) (sz : Nat) (m_colours : Int32) (m_h : Int32) (m_w : Int32) (m_states : Int32) (m_rows : Int32) (m_ends : Int32) (m_steps : Int32) (m_last : Int32) (f_m_allowed : Nat → Int32) (f_m_desk : Nat → Int32) (f_m_letters : Nat → Int32) (f_m_acts : Nat → Int32) (f_m_thens : Nat → Int32) (l1 : Int32) {post : Int32 → (Int32) → (Int32) → (Int32) → (Int32) → (Nat → Int32) → (Nat → Int32) → (Nat → Int32) → (Nat → Int32) → (Nat → Int32) → Prop} (hq : q_X9_colours m_colours m_h m_w m_states f_m_allowed f_m_desk f_m_letters f_m_acts f_m_thens l1 post) : Met l yX9_colours wsX9_colours rm_X9_colours (va_Pc [.ref h_m, .int l1] (gx_Pre (dC, dI) vwCl (gx_tys cI cJ cZ) sz (W_X9_colours cI cJ cZ h_m h_m_allowed h_m_desk h_m_letters h_m_acts h_m_thens h_m_fits h_m_top h_m_bottom h_m_may h_m_ways h_m_found h_m_unlike h_m_seen h_m_seenThen h_m_power h_m_square h_m_product h_m_isLive h_m_down h_m_up h_m_ground h_m_met m_colours m_h m_w m_states m_rows m_ends m_steps m_last f_m_allowed f_m_desk f_m_letters f_m_acts f_m_thens))) (va_Qi (fun (r : Int32) (u : (Int32) × (Int32) × (Int32) × (Int32) × (Nat → Int32) × (Nat → Int32) × (Nat → Int32) × (Nat → Int32) × (Nat → Int32)) => post r u.1 u.2.1 u.2.2.1 u.2.2.2.1 u.2.2.2.2.1 u.2.2.2.2.2.1 u.2.2.2.2.2.2.1 u.2.2.2.2.2.2.2.1 u.2.2.2.2.2.2.2.2) (gx_B (dC, dI) vwCl (gx_tys cI cJ cZ) (va_A (W_X9_colours cI cJ cZ h_m h_m_allowed h_m_desk h_m_letters h_m_acts h_m_thens h_m_fits h_m_top h_m_bottom h_m_may h_m_ways h_m_found h_m_unlike h_m_seen h_m_seenThen h_m_power h_m_square h_m_product h_m_isLive h_m_down h_m_up h_m_ground h_m_met m_colours m_h m_w m_states m_rows m_ends m_steps m_last f_m_allowed f_m_desk f_m_letters f_m_acts f_m_thens) sz) (fun (u : (Int32) × (Int32) × (Int32) × (Int32) × (Nat → Int32) × (Nat → Int32) × (Nat → Int32) × (Nat → Int32) × (Nat → Int32)) => (W_X9_colours cI cJ cZ h_m h_m_allowed h_m_desk h_m_letters h_m_acts h_m_thens h_m_fits h_m_top h_m_bottom h_m_may h_m_ways h_m_found h_m_unlike h_m_seen h_m_seenThen h_m_power h_m_square h_m_product h_m_isLive h_m_down h_m_up h_m_ground h_m_met u.1 u.2.1 u.2.2.1 u.2.2.2.1 m_rows m_ends m_steps m_last u.2.2.2.2.1 u.2.2.2.2.2.1 u.2.2.2.2.2.2.1 u.2.2.2.2.2.2.2.1 u.2.2.2.2.2.2.2.2))) (va_A (W_X9_colours cI cJ cZ h_m h_m_allowed h_m_desk h_m_letters h_m_acts h_m_thens h_m_fits h_m_top h_m_bottom h_m_may h_m_ways h_m_found h_m_unlike h_m_seen h_m_seenThen h_m_power h_m_square h_m_product h_m_isLive h_m_down h_m_up h_m_ground h_m_met m_colours m_h m_w m_states m_rows m_ends m_steps m_last f_m_allowed f_m_desk f_m_letters f_m_acts f_m_thens) sz)) 0 0 (va_A (W_X9_colours cI cJ cZ h_m h_m_allowed h_m_desk h_m_letters h_m_acts h_m_thens h_m_fits h_m_top h_m_bottom h_m_may h_m_ways h_m_found h_m_unlike h_m_seen h_m_seenThen h_m_power h_m_square h_m_product h_m_isLive h_m_down h_m_up h_m_ground h_m_met m_colours m_h m_w m_states m_rows m_ends m_steps m_last f_m_allowed f_m_desk f_m_letters f_m_acts f_m_thens) sz) := by
  refine gx_i (cc := cX9_colours) (maxL := 4) (by decide) rfl (Nat.le_of_ble_eq_true rfl) ?_
  intro p e s m args below meth c A QQ hx hb hml hown hts hA hP hK hD hret ls hl
  have hown : s.vm.findClass RX9 = some m.cls := hown
  have hcl99 := hts (.constantLong RX9 99 (2)) (by decide +kernel)
  have hcl101 := hts (.constantLong RX9 101 (3)) (by decide +kernel)
  have hf7 := hts (.fieldLink RX9 7 "SmallWindowsModel" "colours" "I") (by decide +kernel)
  have hf13 := hts (.fieldLink RX9 13 "SmallWindowsModel" "allowed" "[Z") (by decide +kernel)
  have hf17 := hts (.fieldLink RX9 17 "SmallWindowsModel" "h" "I") (by decide +kernel)
  have hf20 := hts (.fieldLink RX9 20 "SmallWindowsModel" "w" "I") (by decide +kernel)
  have hf23 := hts (.fieldLink RX9 23 "SmallWindowsModel" "desk" "[I") (by decide +kernel)
  have hf27 := hts (.fieldLink RX9 27 "SmallWindowsModel" "letters" "[I") (by decide +kernel)
  have hinX9 : ∀ w ∈ u_ws RX9 TX9 30, w ∈ wsX9_colours := fun w h => List.mem_cons_of_mem _ ((List.mem_append_right _ h))
  have hS : va_S A s.heap s.heap [] := va_S.rf
  have hl : lv_has ls 4 [(0, .ref h_m), (1, .int l1)] := hl
  have L29 : ∀ (K49 : (Int32) → (Int32) → (Int32) → (Int32) → (Int32) → (Nat → Int32) → (Nat → Int32) → (Nat → Int32) → (Nat → Int32) → (Nat → Int32) → Prop) (hK49 : (∀ (l2 : Int32) (m_colours : Int32) (m_h : Int32) (m_w : Int32) (m_states : Int32) (f_m_allowed : Nat → Int32) (f_m_desk : Nat → Int32) (f_m_letters : Nat → Int32) (f_m_acts : Nat → Int32) (f_m_thens : Nat → Int32), K49 l2 m_colours m_h m_w m_states f_m_allowed f_m_desk f_m_letters f_m_acts f_m_thens → ∀ (H : Heap) (locs : List Loc), va_P (dC, dI) vwCl (W_X9_colours cI cJ cZ h_m h_m_allowed h_m_desk h_m_letters h_m_acts h_m_thens h_m_fits h_m_top h_m_bottom h_m_may h_m_ways h_m_found h_m_unlike h_m_seen h_m_seenThen h_m_power h_m_square h_m_product h_m_isLive h_m_down h_m_up h_m_ground h_m_met m_colours m_h m_w m_states m_rows m_ends m_steps m_last f_m_allowed f_m_desk f_m_letters f_m_acts f_m_thens) H → va_D A (W_X9_colours cI cJ cZ h_m h_m_allowed h_m_desk h_m_letters h_m_acts h_m_thens h_m_fits h_m_top h_m_bottom h_m_may h_m_ways h_m_found h_m_unlike h_m_seen h_m_seenThen h_m_power h_m_square h_m_product h_m_isLive h_m_down h_m_up h_m_ground h_m_met m_colours m_h m_w m_states m_rows m_ends m_steps m_last f_m_allowed f_m_desk f_m_letters f_m_acts f_m_thens) → va_S A s.heap H locs → ∀ ls : Array Slot, lv_has ls 4 [(0, .ref h_m), (2, .int l2)] → W p l e rm_X9_colours s m args below meth c H locs 0 0 QQ (F0 m 49 ls []))) (l2 : Int32) (m_colours : Int32) (m_h : Int32) (m_w : Int32) (m_states : Int32) (f_m_desk : Nat → Int32) (f_m_letters : Nat → Int32) (f_m_acts : Nat → Int32) (f_m_thens : Nat → Int32) (n : Nat) (l3 : Int32) (f_m_allowed : Nat → Int32), r_X9_colours_29 post K49 l2 m_colours m_h m_w m_states f_m_desk f_m_letters f_m_acts f_m_thens n l3 f_m_allowed → ∀ (H : Heap) (locs : List Loc), va_P (dC, dI) vwCl (W_X9_colours cI cJ cZ h_m h_m_allowed h_m_desk h_m_letters h_m_acts h_m_thens h_m_fits h_m_top h_m_bottom h_m_may h_m_ways h_m_found h_m_unlike h_m_seen h_m_seenThen h_m_power h_m_square h_m_product h_m_isLive h_m_down h_m_up h_m_ground h_m_met m_colours m_h m_w m_states m_rows m_ends m_steps m_last f_m_allowed f_m_desk f_m_letters f_m_acts f_m_thens) H → va_D A (W_X9_colours cI cJ cZ h_m h_m_allowed h_m_desk h_m_letters h_m_acts h_m_thens h_m_fits h_m_top h_m_bottom h_m_may h_m_ways h_m_found h_m_unlike h_m_seen h_m_seenThen h_m_power h_m_square h_m_product h_m_isLive h_m_down h_m_up h_m_ground h_m_met m_colours m_h m_w m_states m_rows m_ends m_steps m_last f_m_allowed f_m_desk f_m_letters f_m_acts f_m_thens) → va_S A s.heap H locs → ∀ ls : Array Slot, lv_has ls 4 [(0, .ref h_m), (2, .int l2), (3, .int l3)] → W p l e rm_X9_colours s m args below meth c H locs 0 0 QQ (F0 m 29 ls []) := by
    intro K49 hK49 l2 m_colours m_h m_w m_states f_m_desk f_m_letters f_m_acts f_m_thens n
    induction n with
    | zero => intro l3 f_m_allowed hq; exact False.elim hq
    | succ n ih =>
      intro l3 f_m_allowed hq H locs hP hD hS ls hl
      unfold r_X9_colours_29 at hq
      refine lv_iload_n hx hb dX9_colours_29 rfl (lv_at hl 2 rfl) ?_
      refine lv_sipush (v := (256 : Int32)) hx hb dX9_colours_30 (by decide) ?_
      refine lv_icmp_ge (tgt := 49) hx hb dX9_colours_33 (by decide) (fun c3 => ?_) (fun c3 => ?_)
      · replace hq := hq.1 c3
        exact hK49 _ _ _ _ _ _ _ _ _ _ hq _ _ hP hD hS _ (lv_sub hl [0, 1] rfl)
      · replace hq := hq.2 c3
        refine lv_aload_n hx hb dX9_colours_36 rfl (lv_at hl 0 rfl) ?_
        refine va_get (D := (dC, dI)) (ci := 9) (v := .ref h_m_allowed) (C := RX9) (T := TX9) (N := 30) hx hb hts hinX9 hown hK hP 0 rfl rfl 1 (by decide) hf13 (fun _ h9 => h9) rfl dX9_colours_37 ?_
        refine lv_iload_n hx hb dX9_colours_40 rfl (lv_at hl 2 rfl) ?_
        refine lv_iconst (v := (0 : Int32)) hx hb dX9_colours_41 (by decide) ?_
        obtain ⟨hv4, hq⟩ := hq
        refine va_zast hx hb hK hP hD hS 1 2 rfl rfl hv4 dX9_colours_42 (fun H locs hP hD hS => ?_)
        have hP : va_P (dC, dI) vwCl (W_X9_colours cI cJ cZ h_m h_m_allowed h_m_desk h_m_letters h_m_acts h_m_thens h_m_fits h_m_top h_m_bottom h_m_may h_m_ways h_m_found h_m_unlike h_m_seen h_m_seenThen h_m_power h_m_square h_m_product h_m_isLive h_m_down h_m_up h_m_ground h_m_met m_colours m_h m_w m_states m_rows m_ends m_steps m_last (upd f_m_allowed (l3).toNatClampNeg (0 : Int32)) f_m_desk f_m_letters f_m_acts f_m_thens) H := hP
        have hD : va_D A (W_X9_colours cI cJ cZ h_m h_m_allowed h_m_desk h_m_letters h_m_acts h_m_thens h_m_fits h_m_top h_m_bottom h_m_may h_m_ways h_m_found h_m_unlike h_m_seen h_m_seenThen h_m_power h_m_square h_m_product h_m_isLive h_m_down h_m_up h_m_ground h_m_met m_colours m_h m_w m_states m_rows m_ends m_steps m_last (upd f_m_allowed (l3).toNatClampNeg (0 : Int32)) f_m_desk f_m_letters f_m_acts f_m_thens) := hD
        refine lv_iinc (v := (l3 + (1 : Int32))) (lv' := [(3, .int (l3 + (1 : Int32))), (0, .ref h_m), (2, .int l2)]) hx hb dX9_colours_43 hl (k := 2) rfl rfl (by decide) rfl (fun ls hl => ?_)
        refine lv_goto (tgt := 29) hx hb dX9_colours_46 (by decide) ?_
        exact ih _ _ hq _ _ hP hD hS _ (lv_sub hl [1, 2, 0] rfl)
  have L61 : ∀ (K80 : (Int32) → (Int32) → (Int32) → (Int32) → (Int32) → (Nat → Int32) → (Nat → Int32) → (Nat → Int32) → (Nat → Int32) → (Nat → Int32) → Prop) (hK80 : (∀ (l2 : Int32) (m_colours : Int32) (m_h : Int32) (m_w : Int32) (m_states : Int32) (f_m_allowed : Nat → Int32) (f_m_desk : Nat → Int32) (f_m_letters : Nat → Int32) (f_m_acts : Nat → Int32) (f_m_thens : Nat → Int32), K80 l2 m_colours m_h m_w m_states f_m_allowed f_m_desk f_m_letters f_m_acts f_m_thens → ∀ (H : Heap) (locs : List Loc), va_P (dC, dI) vwCl (W_X9_colours cI cJ cZ h_m h_m_allowed h_m_desk h_m_letters h_m_acts h_m_thens h_m_fits h_m_top h_m_bottom h_m_may h_m_ways h_m_found h_m_unlike h_m_seen h_m_seenThen h_m_power h_m_square h_m_product h_m_isLive h_m_down h_m_up h_m_ground h_m_met m_colours m_h m_w m_states m_rows m_ends m_steps m_last f_m_allowed f_m_desk f_m_letters f_m_acts f_m_thens) H → va_D A (W_X9_colours cI cJ cZ h_m h_m_allowed h_m_desk h_m_letters h_m_acts h_m_thens h_m_fits h_m_top h_m_bottom h_m_may h_m_ways h_m_found h_m_unlike h_m_seen h_m_seenThen h_m_power h_m_square h_m_product h_m_isLive h_m_down h_m_up h_m_ground h_m_met m_colours m_h m_w m_states m_rows m_ends m_steps m_last f_m_allowed f_m_desk f_m_letters f_m_acts f_m_thens) → va_S A s.heap H locs → ∀ ls : Array Slot, lv_has ls 4 [(0, .ref h_m), (2, .int l2)] → W p l e rm_X9_colours s m args below meth c H locs 0 0 QQ (F0 m 80 ls []))) (l2 : Int32) (m_colours : Int32) (m_h : Int32) (m_w : Int32) (m_states : Int32) (f_m_allowed : Nat → Int32) (f_m_letters : Nat → Int32) (f_m_acts : Nat → Int32) (f_m_thens : Nat → Int32) (n : Nat) (l3 : Int32) (f_m_desk : Nat → Int32), r_X9_colours_61 post K80 l2 m_colours m_h m_w m_states f_m_allowed f_m_letters f_m_acts f_m_thens n l3 f_m_desk → ∀ (H : Heap) (locs : List Loc), va_P (dC, dI) vwCl (W_X9_colours cI cJ cZ h_m h_m_allowed h_m_desk h_m_letters h_m_acts h_m_thens h_m_fits h_m_top h_m_bottom h_m_may h_m_ways h_m_found h_m_unlike h_m_seen h_m_seenThen h_m_power h_m_square h_m_product h_m_isLive h_m_down h_m_up h_m_ground h_m_met m_colours m_h m_w m_states m_rows m_ends m_steps m_last f_m_allowed f_m_desk f_m_letters f_m_acts f_m_thens) H → va_D A (W_X9_colours cI cJ cZ h_m h_m_allowed h_m_desk h_m_letters h_m_acts h_m_thens h_m_fits h_m_top h_m_bottom h_m_may h_m_ways h_m_found h_m_unlike h_m_seen h_m_seenThen h_m_power h_m_square h_m_product h_m_isLive h_m_down h_m_up h_m_ground h_m_met m_colours m_h m_w m_states m_rows m_ends m_steps m_last f_m_allowed f_m_desk f_m_letters f_m_acts f_m_thens) → va_S A s.heap H locs → ∀ ls : Array Slot, lv_has ls 4 [(0, .ref h_m), (2, .int l2), (3, .int l3)] → W p l e rm_X9_colours s m args below meth c H locs 0 0 QQ (F0 m 61 ls []) := by
    intro K80 hK80 l2 m_colours m_h m_w m_states f_m_allowed f_m_letters f_m_acts f_m_thens n
    induction n with
    | zero => intro l3 f_m_desk hq; exact False.elim hq
    | succ n ih =>
      intro l3 f_m_desk hq H locs hP hD hS ls hl
      unfold r_X9_colours_61 at hq
      refine lv_iload_n hx hb dX9_colours_61 rfl (lv_at hl 2 rfl) ?_
      refine lv_bipush (v := (25 : Int32)) hx hb dX9_colours_62 (by decide) ?_
      refine lv_icmp_ge (tgt := 80) hx hb dX9_colours_64 (by decide) (fun c5 => ?_) (fun c5 => ?_)
      · replace hq := hq.1 c5
        exact hK80 _ _ _ _ _ _ _ _ _ _ hq _ _ hP hD hS _ (lv_sub hl [0, 1] rfl)
      · replace hq := hq.2 c5
        refine lv_aload_n hx hb dX9_colours_67 rfl (lv_at hl 0 rfl) ?_
        refine va_get (D := (dC, dI)) (ci := 9) (v := .ref h_m_desk) (C := RX9) (T := TX9) (N := 30) hx hb hts hinX9 hown hK hP 0 rfl rfl 4 (by decide) hf23 (fun _ h9 => h9) rfl dX9_colours_68 ?_
        refine lv_iload_n hx hb dX9_colours_71 rfl (lv_at hl 2 rfl) ?_
        refine lv_iconst (v := (-1 : Int32)) hx hb dX9_colours_72 (by decide) ?_
        obtain ⟨hv6, hq⟩ := hq
        refine va_iast hx hb hK hP hD hS 2 0 rfl rfl hv6 dX9_colours_73 (fun H locs hP hD hS => ?_)
        have hP : va_P (dC, dI) vwCl (W_X9_colours cI cJ cZ h_m h_m_allowed h_m_desk h_m_letters h_m_acts h_m_thens h_m_fits h_m_top h_m_bottom h_m_may h_m_ways h_m_found h_m_unlike h_m_seen h_m_seenThen h_m_power h_m_square h_m_product h_m_isLive h_m_down h_m_up h_m_ground h_m_met m_colours m_h m_w m_states m_rows m_ends m_steps m_last f_m_allowed (upd f_m_desk (l3).toNatClampNeg (-1 : Int32)) f_m_letters f_m_acts f_m_thens) H := hP
        have hD : va_D A (W_X9_colours cI cJ cZ h_m h_m_allowed h_m_desk h_m_letters h_m_acts h_m_thens h_m_fits h_m_top h_m_bottom h_m_may h_m_ways h_m_found h_m_unlike h_m_seen h_m_seenThen h_m_power h_m_square h_m_product h_m_isLive h_m_down h_m_up h_m_ground h_m_met m_colours m_h m_w m_states m_rows m_ends m_steps m_last f_m_allowed (upd f_m_desk (l3).toNatClampNeg (-1 : Int32)) f_m_letters f_m_acts f_m_thens) := hD
        refine lv_iinc (v := (l3 + (1 : Int32))) (lv' := [(3, .int (l3 + (1 : Int32))), (0, .ref h_m), (2, .int l2)]) hx hb dX9_colours_74 hl (k := 2) rfl rfl (by decide) rfl (fun ls hl => ?_)
        refine lv_goto (tgt := 61) hx hb dX9_colours_77 (by decide) ?_
        exact ih _ _ hq _ _ hP hD hS _ (lv_sub hl [1, 2, 0] rfl)
  have C80 : ∀ (l2 : Int32) (m_colours : Int32) (m_h : Int32) (m_w : Int32) (m_states : Int32) (f_m_allowed : Nat → Int32) (f_m_desk : Nat → Int32) (f_m_letters : Nat → Int32) (f_m_acts : Nat → Int32) (f_m_thens : Nat → Int32), q_X9_colours_80 post l2 m_colours m_h m_w m_states f_m_allowed f_m_desk f_m_letters f_m_acts f_m_thens → ∀ (H : Heap) (locs : List Loc), va_P (dC, dI) vwCl (W_X9_colours cI cJ cZ h_m h_m_allowed h_m_desk h_m_letters h_m_acts h_m_thens h_m_fits h_m_top h_m_bottom h_m_may h_m_ways h_m_found h_m_unlike h_m_seen h_m_seenThen h_m_power h_m_square h_m_product h_m_isLive h_m_down h_m_up h_m_ground h_m_met m_colours m_h m_w m_states m_rows m_ends m_steps m_last f_m_allowed f_m_desk f_m_letters f_m_acts f_m_thens) H → va_D A (W_X9_colours cI cJ cZ h_m h_m_allowed h_m_desk h_m_letters h_m_acts h_m_thens h_m_fits h_m_top h_m_bottom h_m_may h_m_ways h_m_found h_m_unlike h_m_seen h_m_seenThen h_m_power h_m_square h_m_product h_m_isLive h_m_down h_m_up h_m_ground h_m_met m_colours m_h m_w m_states m_rows m_ends m_steps m_last f_m_allowed f_m_desk f_m_letters f_m_acts f_m_thens) → va_S A s.heap H locs → ∀ ls : Array Slot, lv_has ls 4 [(0, .ref h_m), (2, .int l2)] → W p l e rm_X9_colours s m args below meth c H locs 0 0 QQ (F0 m 80 ls []) := by
    intro l2 m_colours m_h m_w m_states f_m_allowed f_m_desk f_m_letters f_m_acts f_m_thens hq H locs hP hD hS ls hl
    unfold q_X9_colours_80 at hq
    refine lv_aload_n hx hb dX9_colours_80 rfl (lv_at hl 0 rfl) ?_
    refine va_get (D := (dC, dI)) (ci := 9) (v := .ref h_m_letters) (C := RX9) (T := TX9) (N := 30) hx hb hts hinX9 hown hK hP 0 rfl rfl 5 (by decide) hf27 (fun _ h9 => h9) rfl dX9_colours_81 ?_
    refine lv_iconst (v := (0 : Int32)) hx hb dX9_colours_84 (by decide) ?_
    refine lv_iconst (v := (0 : Int32)) hx hb dX9_colours_85 (by decide) ?_
    refine va_iast hx hb hK hP hD hS 3 0 rfl rfl (by unfold vp_in; decide) dX9_colours_86 (fun H locs hP hD hS => ?_)
    have hP : va_P (dC, dI) vwCl (W_X9_colours cI cJ cZ h_m h_m_allowed h_m_desk h_m_letters h_m_acts h_m_thens h_m_fits h_m_top h_m_bottom h_m_may h_m_ways h_m_found h_m_unlike h_m_seen h_m_seenThen h_m_power h_m_square h_m_product h_m_isLive h_m_down h_m_up h_m_ground h_m_met m_colours m_h m_w m_states m_rows m_ends m_steps m_last f_m_allowed f_m_desk (upd f_m_letters ((0 : Int32)).toNatClampNeg (0 : Int32)) f_m_acts f_m_thens) H := hP
    have hD : va_D A (W_X9_colours cI cJ cZ h_m h_m_allowed h_m_desk h_m_letters h_m_acts h_m_thens h_m_fits h_m_top h_m_bottom h_m_may h_m_ways h_m_found h_m_unlike h_m_seen h_m_seenThen h_m_power h_m_square h_m_product h_m_isLive h_m_down h_m_up h_m_ground h_m_met m_colours m_h m_w m_states m_rows m_ends m_steps m_last f_m_allowed f_m_desk (upd f_m_letters ((0 : Int32)).toNatClampNeg (0 : Int32)) f_m_acts f_m_thens) := hD
    refine lv_aload_n hx hb dX9_colours_87 rfl (lv_at hl 0 rfl) ?_
    refine va_get (D := (dC, dI)) (ci := 9) (v := .ref h_m_letters) (C := RX9) (T := TX9) (N := 30) hx hb hts hinX9 hown hK hP 0 rfl rfl 5 (by decide) hf27 (fun _ h9 => h9) rfl dX9_colours_88 ?_
    refine lv_iconst (v := (1 : Int32)) hx hb dX9_colours_91 (by decide) ?_
    refine lv_iconst (v := (1 : Int32)) hx hb dX9_colours_92 (by decide) ?_
    refine va_iast hx hb hK hP hD hS 3 0 rfl rfl (by unfold vp_in; decide) dX9_colours_93 (fun H locs hP hD hS => ?_)
    have hP : va_P (dC, dI) vwCl (W_X9_colours cI cJ cZ h_m h_m_allowed h_m_desk h_m_letters h_m_acts h_m_thens h_m_fits h_m_top h_m_bottom h_m_may h_m_ways h_m_found h_m_unlike h_m_seen h_m_seenThen h_m_power h_m_square h_m_product h_m_isLive h_m_down h_m_up h_m_ground h_m_met m_colours m_h m_w m_states m_rows m_ends m_steps m_last f_m_allowed f_m_desk (upd (upd f_m_letters ((0 : Int32)).toNatClampNeg (0 : Int32)) ((1 : Int32)).toNatClampNeg (1 : Int32)) f_m_acts f_m_thens) H := hP
    have hD : va_D A (W_X9_colours cI cJ cZ h_m h_m_allowed h_m_desk h_m_letters h_m_acts h_m_thens h_m_fits h_m_top h_m_bottom h_m_may h_m_ways h_m_found h_m_unlike h_m_seen h_m_seenThen h_m_power h_m_square h_m_product h_m_isLive h_m_down h_m_up h_m_ground h_m_met m_colours m_h m_w m_states m_rows m_ends m_steps m_last f_m_allowed f_m_desk (upd (upd f_m_letters ((0 : Int32)).toNatClampNeg (0 : Int32)) ((1 : Int32)).toNatClampNeg (1 : Int32)) f_m_acts f_m_thens) := hD
    refine lv_aload_n hx hb dX9_colours_94 rfl (lv_at hl 0 rfl) ?_
    refine va_get (D := (dC, dI)) (ci := 9) (v := .ref h_m_letters) (C := RX9) (T := TX9) (N := 30) hx hb hts hinX9 hown hK hP 0 rfl rfl 5 (by decide) hf27 (fun _ h9 => h9) rfl dX9_colours_95 ?_
    refine lv_iconst (v := (2 : Int32)) hx hb dX9_colours_98 (by decide) ?_
    refine lv_iconst (v := (0 : Int32)) hx hb dX9_colours_99 (by decide) ?_
    refine va_iast hx hb hK hP hD hS 3 0 rfl rfl (by unfold vp_in; decide) dX9_colours_100 (fun H locs hP hD hS => ?_)
    have hP : va_P (dC, dI) vwCl (W_X9_colours cI cJ cZ h_m h_m_allowed h_m_desk h_m_letters h_m_acts h_m_thens h_m_fits h_m_top h_m_bottom h_m_may h_m_ways h_m_found h_m_unlike h_m_seen h_m_seenThen h_m_power h_m_square h_m_product h_m_isLive h_m_down h_m_up h_m_ground h_m_met m_colours m_h m_w m_states m_rows m_ends m_steps m_last f_m_allowed f_m_desk (upd (upd (upd f_m_letters ((0 : Int32)).toNatClampNeg (0 : Int32)) ((1 : Int32)).toNatClampNeg (1 : Int32)) ((2 : Int32)).toNatClampNeg (0 : Int32)) f_m_acts f_m_thens) H := hP
    have hD : va_D A (W_X9_colours cI cJ cZ h_m h_m_allowed h_m_desk h_m_letters h_m_acts h_m_thens h_m_fits h_m_top h_m_bottom h_m_may h_m_ways h_m_found h_m_unlike h_m_seen h_m_seenThen h_m_power h_m_square h_m_product h_m_isLive h_m_down h_m_up h_m_ground h_m_met m_colours m_h m_w m_states m_rows m_ends m_steps m_last f_m_allowed f_m_desk (upd (upd (upd f_m_letters ((0 : Int32)).toNatClampNeg (0 : Int32)) ((1 : Int32)).toNatClampNeg (1 : Int32)) ((2 : Int32)).toNatClampNeg (0 : Int32)) f_m_acts f_m_thens) := hD
    refine lv_aload_n hx hb dX9_colours_101 rfl (lv_at hl 0 rfl) ?_
    refine lv_iconst (v := (1 : Int32)) hx hb dX9_colours_102 (by decide) ?_
    refine gx_cVv (C := RX9) (As := [.int (1 : Int32)]) (rest := []) ⟨hx, hb, hml, hown, hts⟩ (c_X9_clearWalker l dC dI cI cJ cZ h_m h_m_acts h_m_thens h_m_allowed h_m_desk h_m_letters h_m_fits h_m_top h_m_bottom h_m_may h_m_ways h_m_found h_m_unlike h_m_seen h_m_seenThen h_m_power h_m_square h_m_product h_m_isLive h_m_down h_m_up h_m_ground h_m_met H.size m_colours m_h m_w m_states m_rows m_ends m_steps m_last f_m_acts f_m_thens (1 : Int32) hq) (cwV 1 hts gX9_colours_X9_clearWalker rfl rfl rfl hdV_X9_clearWalker ⟨Nat.le_of_ble_eq_true rfl, Nat.le_of_ble_eq_true rfl⟩) hK hP hD hS hA [0, 4, 5] [1, 2, 3] rfl rfl rfl rfl rfl (ci := 9) (q0 := 0) rfl rfl rfl rfl hl.1 (Nat.le_of_ble_eq_true rfl) dX9_colours_103 rfl (fun u H locs hq hP hD hS => ?_)
    obtain ⟨m_states_7, f_m_acts_7, f_m_thens_7⟩ := u
    try dsimp only at hq
    have hP : va_P (dC, dI) vwCl (W_X9_colours cI cJ cZ h_m h_m_allowed h_m_desk h_m_letters h_m_acts h_m_thens h_m_fits h_m_top h_m_bottom h_m_may h_m_ways h_m_found h_m_unlike h_m_seen h_m_seenThen h_m_power h_m_square h_m_product h_m_isLive h_m_down h_m_up h_m_ground h_m_met m_colours m_h m_w m_states_7 m_rows m_ends m_steps m_last f_m_allowed f_m_desk (upd (upd (upd f_m_letters ((0 : Int32)).toNatClampNeg (0 : Int32)) ((1 : Int32)).toNatClampNeg (1 : Int32)) ((2 : Int32)).toNatClampNeg (0 : Int32)) f_m_acts_7 f_m_thens_7) H := hP.sub [3, 0, 1, 2, 4, 5] rfl
    have hD : va_D A (W_X9_colours cI cJ cZ h_m h_m_allowed h_m_desk h_m_letters h_m_acts h_m_thens h_m_fits h_m_top h_m_bottom h_m_may h_m_ways h_m_found h_m_unlike h_m_seen h_m_seenThen h_m_power h_m_square h_m_product h_m_isLive h_m_down h_m_up h_m_ground h_m_met m_colours m_h m_w m_states_7 m_rows m_ends m_steps m_last f_m_allowed f_m_desk (upd (upd (upd f_m_letters ((0 : Int32)).toNatClampNeg (0 : Int32)) ((1 : Int32)).toNatClampNeg (1 : Int32)) ((2 : Int32)).toNatClampNeg (0 : Int32)) f_m_acts_7 f_m_thens_7) := hD.sub [3, 0, 1, 2, 4, 5] (by decide) rfl
    refine lv_iload_n hx hb dX9_colours_106 rfl (lv_at hl 1 rfl) ?_
    exact hret l2 (m_colours, m_h, m_w, m_states_7, f_m_allowed, f_m_desk, (upd (upd (upd f_m_letters ((0 : Int32)).toNatClampNeg (0 : Int32)) ((1 : Int32)).toNatClampNeg (1 : Int32)) ((2 : Int32)).toNatClampNeg (0 : Int32)), f_m_acts_7, f_m_thens_7) hq _ _ hP hD hS _ _ dX9_colours_107
  have C61 : ∀ (l2 : Int32) (l3 : Int32) (m_colours : Int32) (m_h : Int32) (m_w : Int32) (m_states : Int32) (f_m_allowed : Nat → Int32) (f_m_desk : Nat → Int32) (f_m_letters : Nat → Int32) (f_m_acts : Nat → Int32) (f_m_thens : Nat → Int32), q_X9_colours_61 post l2 l3 m_colours m_h m_w m_states f_m_allowed f_m_desk f_m_letters f_m_acts f_m_thens → ∀ (H : Heap) (locs : List Loc), va_P (dC, dI) vwCl (W_X9_colours cI cJ cZ h_m h_m_allowed h_m_desk h_m_letters h_m_acts h_m_thens h_m_fits h_m_top h_m_bottom h_m_may h_m_ways h_m_found h_m_unlike h_m_seen h_m_seenThen h_m_power h_m_square h_m_product h_m_isLive h_m_down h_m_up h_m_ground h_m_met m_colours m_h m_w m_states m_rows m_ends m_steps m_last f_m_allowed f_m_desk f_m_letters f_m_acts f_m_thens) H → va_D A (W_X9_colours cI cJ cZ h_m h_m_allowed h_m_desk h_m_letters h_m_acts h_m_thens h_m_fits h_m_top h_m_bottom h_m_may h_m_ways h_m_found h_m_unlike h_m_seen h_m_seenThen h_m_power h_m_square h_m_product h_m_isLive h_m_down h_m_up h_m_ground h_m_met m_colours m_h m_w m_states m_rows m_ends m_steps m_last f_m_allowed f_m_desk f_m_letters f_m_acts f_m_thens) → va_S A s.heap H locs → ∀ ls : Array Slot, lv_has ls 4 [(0, .ref h_m), (2, .int l2), (3, .int l3)] → W p l e rm_X9_colours s m args below meth c H locs 0 0 QQ (F0 m 61 ls []) := by
    intro l2 l3 m_colours m_h m_w m_states f_m_allowed f_m_desk f_m_letters f_m_acts f_m_thens hq H locs hP hD hS ls hl
    obtain ⟨n, hq⟩ := hq
    exact L61 _ C80 _ _ _ _ _ _ _ _ _ n _ _ hq H locs hP hD hS ls hl
  have C49 : ∀ (l2 : Int32) (m_colours : Int32) (m_h : Int32) (m_w : Int32) (m_states : Int32) (f_m_allowed : Nat → Int32) (f_m_desk : Nat → Int32) (f_m_letters : Nat → Int32) (f_m_acts : Nat → Int32) (f_m_thens : Nat → Int32), q_X9_colours_49 post l2 m_colours m_h m_w m_states f_m_allowed f_m_desk f_m_letters f_m_acts f_m_thens → ∀ (H : Heap) (locs : List Loc), va_P (dC, dI) vwCl (W_X9_colours cI cJ cZ h_m h_m_allowed h_m_desk h_m_letters h_m_acts h_m_thens h_m_fits h_m_top h_m_bottom h_m_may h_m_ways h_m_found h_m_unlike h_m_seen h_m_seenThen h_m_power h_m_square h_m_product h_m_isLive h_m_down h_m_up h_m_ground h_m_met m_colours m_h m_w m_states m_rows m_ends m_steps m_last f_m_allowed f_m_desk f_m_letters f_m_acts f_m_thens) H → va_D A (W_X9_colours cI cJ cZ h_m h_m_allowed h_m_desk h_m_letters h_m_acts h_m_thens h_m_fits h_m_top h_m_bottom h_m_may h_m_ways h_m_found h_m_unlike h_m_seen h_m_seenThen h_m_power h_m_square h_m_product h_m_isLive h_m_down h_m_up h_m_ground h_m_met m_colours m_h m_w m_states m_rows m_ends m_steps m_last f_m_allowed f_m_desk f_m_letters f_m_acts f_m_thens) → va_S A s.heap H locs → ∀ ls : Array Slot, lv_has ls 4 [(0, .ref h_m), (2, .int l2)] → W p l e rm_X9_colours s m args below meth c H locs 0 0 QQ (F0 m 49 ls []) := by
    intro l2 m_colours m_h m_w m_states f_m_allowed f_m_desk f_m_letters f_m_acts f_m_thens hq H locs hP hD hS ls hl
    unfold q_X9_colours_49 at hq
    refine lv_aload_n hx hb dX9_colours_49 rfl (lv_at hl 0 rfl) ?_
    refine lv_iconst (v := (1 : Int32)) hx hb dX9_colours_50 (by decide) ?_
    refine va_put (D := (dC, dI)) (ci := 9) (v := .int (1 : Int32)) (ty := tyX9 2) (C := RX9) (T := TX9) (N := 30) hx hb hts hinX9 tyX9 tyX9_ok nmX9 hown hK hP hD hS 0 rfl rfl 2 (by decide) hf17 (fun _ h9 => h9) rfl (tyX9_ok 2 (by decide)) rfl rfl (Nat.le_of_ble_eq_true rfl) dX9_colours_51 (fun H locs hP hD hS => ?_)
    have hP : va_P (dC, dI) vwCl (W_X9_colours cI cJ cZ h_m h_m_allowed h_m_desk h_m_letters h_m_acts h_m_thens h_m_fits h_m_top h_m_bottom h_m_may h_m_ways h_m_found h_m_unlike h_m_seen h_m_seenThen h_m_power h_m_square h_m_product h_m_isLive h_m_down h_m_up h_m_ground h_m_met m_colours (1 : Int32) m_w m_states m_rows m_ends m_steps m_last f_m_allowed f_m_desk f_m_letters f_m_acts f_m_thens) H := hP
    have hD : va_D A (W_X9_colours cI cJ cZ h_m h_m_allowed h_m_desk h_m_letters h_m_acts h_m_thens h_m_fits h_m_top h_m_bottom h_m_may h_m_ways h_m_found h_m_unlike h_m_seen h_m_seenThen h_m_power h_m_square h_m_product h_m_isLive h_m_down h_m_up h_m_ground h_m_met m_colours (1 : Int32) m_w m_states m_rows m_ends m_steps m_last f_m_allowed f_m_desk f_m_letters f_m_acts f_m_thens) := hD
    refine lv_aload_n hx hb dX9_colours_54 rfl (lv_at hl 0 rfl) ?_
    refine lv_iconst (v := (1 : Int32)) hx hb dX9_colours_55 (by decide) ?_
    refine va_put (D := (dC, dI)) (ci := 9) (v := .int (1 : Int32)) (ty := tyX9 3) (C := RX9) (T := TX9) (N := 30) hx hb hts hinX9 tyX9 tyX9_ok nmX9 hown hK hP hD hS 0 rfl rfl 3 (by decide) hf20 (fun _ h9 => h9) rfl (tyX9_ok 3 (by decide)) rfl rfl (Nat.le_of_ble_eq_true rfl) dX9_colours_56 (fun H locs hP hD hS => ?_)
    have hP : va_P (dC, dI) vwCl (W_X9_colours cI cJ cZ h_m h_m_allowed h_m_desk h_m_letters h_m_acts h_m_thens h_m_fits h_m_top h_m_bottom h_m_may h_m_ways h_m_found h_m_unlike h_m_seen h_m_seenThen h_m_power h_m_square h_m_product h_m_isLive h_m_down h_m_up h_m_ground h_m_met m_colours (1 : Int32) (1 : Int32) m_states m_rows m_ends m_steps m_last f_m_allowed f_m_desk f_m_letters f_m_acts f_m_thens) H := hP
    have hD : va_D A (W_X9_colours cI cJ cZ h_m h_m_allowed h_m_desk h_m_letters h_m_acts h_m_thens h_m_fits h_m_top h_m_bottom h_m_may h_m_ways h_m_found h_m_unlike h_m_seen h_m_seenThen h_m_power h_m_square h_m_product h_m_isLive h_m_down h_m_up h_m_ground h_m_met m_colours (1 : Int32) (1 : Int32) m_states m_rows m_ends m_steps m_last f_m_allowed f_m_desk f_m_letters f_m_acts f_m_thens) := hD
    refine lv_iconst (v := (0 : Int32)) hx hb dX9_colours_59 (by decide) ?_
    refine lv_istore_n (lv' := [(3, .int (0 : Int32)), (0, .ref h_m), (2, .int l2)]) hx hb dX9_colours_60 rfl hl (by decide) rfl (fun ls hl => ?_)
    exact C61 _ _ _ _ _ _ _ _ _ _ _ hq _ _ hP hD hS _ (lv_sub hl [1, 2, 0] rfl)
  have C29 : ∀ (l2 : Int32) (l3 : Int32) (m_colours : Int32) (m_h : Int32) (m_w : Int32) (m_states : Int32) (f_m_allowed : Nat → Int32) (f_m_desk : Nat → Int32) (f_m_letters : Nat → Int32) (f_m_acts : Nat → Int32) (f_m_thens : Nat → Int32), q_X9_colours_29 post l2 l3 m_colours m_h m_w m_states f_m_allowed f_m_desk f_m_letters f_m_acts f_m_thens → ∀ (H : Heap) (locs : List Loc), va_P (dC, dI) vwCl (W_X9_colours cI cJ cZ h_m h_m_allowed h_m_desk h_m_letters h_m_acts h_m_thens h_m_fits h_m_top h_m_bottom h_m_may h_m_ways h_m_found h_m_unlike h_m_seen h_m_seenThen h_m_power h_m_square h_m_product h_m_isLive h_m_down h_m_up h_m_ground h_m_met m_colours m_h m_w m_states m_rows m_ends m_steps m_last f_m_allowed f_m_desk f_m_letters f_m_acts f_m_thens) H → va_D A (W_X9_colours cI cJ cZ h_m h_m_allowed h_m_desk h_m_letters h_m_acts h_m_thens h_m_fits h_m_top h_m_bottom h_m_may h_m_ways h_m_found h_m_unlike h_m_seen h_m_seenThen h_m_power h_m_square h_m_product h_m_isLive h_m_down h_m_up h_m_ground h_m_met m_colours m_h m_w m_states m_rows m_ends m_steps m_last f_m_allowed f_m_desk f_m_letters f_m_acts f_m_thens) → va_S A s.heap H locs → ∀ ls : Array Slot, lv_has ls 4 [(0, .ref h_m), (2, .int l2), (3, .int l3)] → W p l e rm_X9_colours s m args below meth c H locs 0 0 QQ (F0 m 29 ls []) := by
    intro l2 l3 m_colours m_h m_w m_states f_m_allowed f_m_desk f_m_letters f_m_acts f_m_thens hq H locs hP hD hS ls hl
    obtain ⟨n, hq⟩ := hq
    exact L29 _ C49 _ _ _ _ _ _ _ _ _ n _ _ hq H locs hP hD hS ls hl
  unfold q_X9_colours at hq
  refine lv_iload_n hx hb dX9_colours_0 rfl (lv_at hl 1 rfl) ?_
  refine lv_i2l hx hb dX9_colours_1 rfl ?_
  refine lv_ldc2 hx hb hown hcl99 dX9_colours_2 ?_
  refine lv_ldc2 hx hb hown hcl101 dX9_colours_5 ?_
  refine gx_cSi (As := [.long ((l1).toInt64), .long (2 : Int64), .long (3 : Int64)]) (rest := []) ⟨hx, hb, hml, hown, hts⟩ (c_X9_in l dC dI cI cJ cZ s.heap.size ((l1).toInt64) (2 : Int64) (3 : Int64) hq) (va_cwS 3 hts gX9_colours_X9_in rfl rfl rfl hdS_X9_in ⟨Nat.le_of_ble_eq_true rfl, Nat.le_of_ble_eq_true rfl⟩) hK hP hD hS hA [] [0, 1, 2, 3, 4, 5] rfl rfl rfl rfl rfl rfl hl.1 (Nat.le_of_ble_eq_true rfl) dX9_colours_8 rfl (fun r1 u H locs hq hP hD hS => ?_)
  try dsimp only at hq
  have hP : va_P (dC, dI) vwCl (W_X9_colours cI cJ cZ h_m h_m_allowed h_m_desk h_m_letters h_m_acts h_m_thens h_m_fits h_m_top h_m_bottom h_m_may h_m_ways h_m_found h_m_unlike h_m_seen h_m_seenThen h_m_power h_m_square h_m_product h_m_isLive h_m_down h_m_up h_m_ground h_m_met m_colours m_h m_w m_states m_rows m_ends m_steps m_last f_m_allowed f_m_desk f_m_letters f_m_acts f_m_thens) H := hP
  have hD : va_D A (W_X9_colours cI cJ cZ h_m h_m_allowed h_m_desk h_m_letters h_m_acts h_m_thens h_m_fits h_m_top h_m_bottom h_m_may h_m_ways h_m_found h_m_unlike h_m_seen h_m_seenThen h_m_power h_m_square h_m_product h_m_isLive h_m_down h_m_up h_m_ground h_m_met m_colours m_h m_w m_states m_rows m_ends m_steps m_last f_m_allowed f_m_desk f_m_letters f_m_acts f_m_thens) := hD
  refine lv_if_ne (tgt := 17) hx hb dX9_colours_11 (by decide) (fun c2 => ?_) (fun c2 => ?_)
  · replace hq := hq.1 c2
    refine lv_aload_n hx hb dX9_colours_17 rfl (lv_at hl 0 rfl) ?_
    refine va_get (D := (dC, dI)) (ci := 9) (v := .int m_colours) (C := RX9) (T := TX9) (N := 30) hx hb hts hinX9 hown hK hP 0 rfl rfl 0 (by decide) hf7 (fun _ h9 => h9) rfl dX9_colours_18 ?_
    refine lv_istore_n (lv' := [(2, .int m_colours), (0, .ref h_m), (1, .int l1)]) hx hb dX9_colours_21 rfl hl (by decide) rfl (fun ls hl => ?_)
    refine lv_aload_n hx hb dX9_colours_22 rfl (lv_at hl 1 rfl) ?_
    refine lv_iload_n hx hb dX9_colours_23 rfl (lv_at hl 2 rfl) ?_
    refine va_put (D := (dC, dI)) (ci := 9) (v := .int l1) (ty := tyX9 0) (C := RX9) (T := TX9) (N := 30) hx hb hts hinX9 tyX9 tyX9_ok nmX9 hown hK hP hD hS 0 rfl rfl 0 (by decide) hf7 (fun _ h9 => h9) rfl (tyX9_ok 0 (by decide)) rfl rfl (Nat.le_of_ble_eq_true rfl) dX9_colours_24 (fun H locs hP hD hS => ?_)
    have hP : va_P (dC, dI) vwCl (W_X9_colours cI cJ cZ h_m h_m_allowed h_m_desk h_m_letters h_m_acts h_m_thens h_m_fits h_m_top h_m_bottom h_m_may h_m_ways h_m_found h_m_unlike h_m_seen h_m_seenThen h_m_power h_m_square h_m_product h_m_isLive h_m_down h_m_up h_m_ground h_m_met l1 m_h m_w m_states m_rows m_ends m_steps m_last f_m_allowed f_m_desk f_m_letters f_m_acts f_m_thens) H := hP
    have hD : va_D A (W_X9_colours cI cJ cZ h_m h_m_allowed h_m_desk h_m_letters h_m_acts h_m_thens h_m_fits h_m_top h_m_bottom h_m_may h_m_ways h_m_found h_m_unlike h_m_seen h_m_seenThen h_m_power h_m_square h_m_product h_m_isLive h_m_down h_m_up h_m_ground h_m_met l1 m_h m_w m_states m_rows m_ends m_steps m_last f_m_allowed f_m_desk f_m_letters f_m_acts f_m_thens) := hD
    refine lv_iconst (v := (0 : Int32)) hx hb dX9_colours_27 (by decide) ?_
    refine lv_istore_n (lv' := [(3, .int (0 : Int32)), (2, .int m_colours), (0, .ref h_m), (1, .int l1)]) hx hb dX9_colours_28 rfl hl (by decide) rfl (fun ls hl => ?_)
    exact C29 _ _ _ _ _ _ _ _ _ _ _ hq _ _ hP hD hS _ (lv_sub hl [2, 1, 0] rfl)
  · replace hq := hq.2 c2
    refine lv_bipush (v := (-3 : Int32)) hx hb dX9_colours_14 (by decide) ?_
    exact hret (-3 : Int32) (m_colours, m_h, m_w, m_states, f_m_allowed, f_m_desk, f_m_letters, f_m_acts, f_m_thens) hq _ _ hP hD hS _ _ dX9_colours_16

abbrev W_X9_isPart (cI cJ cZ : ClassId) (h_m h_m_allowed h_m_desk h_m_letters h_m_acts h_m_thens h_m_fits h_m_top h_m_bottom h_m_may h_m_ways h_m_found h_m_unlike h_m_seen h_m_seenThen h_m_power h_m_square h_m_product h_m_isLive h_m_down h_m_up h_m_ground h_m_met : Nat) (m_colours : Int32) (m_h : Int32) (m_w : Int32) (m_states : Int32) (m_rows : Int32) (m_ends : Int32) (m_steps : Int32) (m_last : Int32) : va_W := [(h_m, .inr (9, [.int m_colours, .ref h_m_allowed, .int m_h, .int m_w, .ref h_m_desk, .ref h_m_letters, .int m_states, .ref h_m_acts, .ref h_m_thens, .ref h_m_fits, .ref h_m_top, .ref h_m_bottom, .int m_rows, .ref h_m_may, .ref h_m_ways, .ref h_m_found, .ref h_m_unlike, .ref h_m_seen, .ref h_m_seenThen, .ref h_m_power, .ref h_m_square, .ref h_m_product, .ref h_m_isLive, .ref h_m_down, .ref h_m_up, .ref h_m_ground, .ref h_m_met, .int m_ends, .int m_steps, .int m_last]))]
abbrev rm_X9_isPart : Room := { frames := 0, cells := 0, slots := 0, locals := 0 }
def q_X9_isPart (m_colours : Int32) (l1 : Int32) (post : Int32 → Prop) : Prop := ((l1 < m_colours → (post (1 : Int32))) ∧ (¬ l1 < m_colours → ((¬ l1 = (3 : Int32) → (post (0 : Int32))) ∧ (l1 = (3 : Int32) → (post (1 : Int32))))))
theorem hdV_X9_isPart : yX9_isPart.cls = RX9 ∧ yX9_isPart.cls ≠ "java/lang/invoke/MethodHandle" ∧ yX9_isPart.cls ≠ "java/lang/invoke/VarHandle" ∧ (parseMethodDescriptor yX9_isPart.desc).map (fun d => d.parameters.length) = some 1 := by decide +kernel
set_option maxHeartbeats 4000000 in
set_option maxRecDepth 100000 in
theorem c_X9_isPart (l : Launch) (dC : Nat → ClassId) (dI : Nat → Nat → Nat) (cI cJ cZ : ClassId) (h_m h_m_allowed h_m_desk h_m_letters h_m_acts h_m_thens h_m_fits h_m_top h_m_bottom h_m_may h_m_ways h_m_found h_m_unlike h_m_seen h_m_seenThen h_m_power h_m_square h_m_product h_m_isLive h_m_down h_m_up h_m_ground h_m_met : Nat) (sz : Nat) (m_colours : Int32) (m_h : Int32) (m_w : Int32) (m_states : Int32) (m_rows : Int32) (m_ends : Int32) (m_steps : Int32) (m_last : Int32) (l1 : Int32) {post : Int32 → Prop} (hq : q_X9_isPart m_colours l1 post) : Met l yX9_isPart wsX9_isPart rm_X9_isPart (va_Pc [.ref h_m, .int l1] (gx_Pre (dC, dI) vwCl (gx_tys cI cJ cZ) sz (W_X9_isPart cI cJ cZ h_m h_m_allowed h_m_desk h_m_letters h_m_acts h_m_thens h_m_fits h_m_top h_m_bottom h_m_may h_m_ways h_m_found h_m_unlike h_m_seen h_m_seenThen h_m_power h_m_square h_m_product h_m_isLive h_m_down h_m_up h_m_ground h_m_met m_colours m_h m_w m_states m_rows m_ends m_steps m_last))) (va_Qi (fun (r : Int32) (u : Unit) => post r) (gx_B (dC, dI) vwCl (gx_tys cI cJ cZ) (va_A (W_X9_isPart cI cJ cZ h_m h_m_allowed h_m_desk h_m_letters h_m_acts h_m_thens h_m_fits h_m_top h_m_bottom h_m_may h_m_ways h_m_found h_m_unlike h_m_seen h_m_seenThen h_m_power h_m_square h_m_product h_m_isLive h_m_down h_m_up h_m_ground h_m_met m_colours m_h m_w m_states m_rows m_ends m_steps m_last) sz) (fun (u : Unit) => (W_X9_isPart cI cJ cZ h_m h_m_allowed h_m_desk h_m_letters h_m_acts h_m_thens h_m_fits h_m_top h_m_bottom h_m_may h_m_ways h_m_found h_m_unlike h_m_seen h_m_seenThen h_m_power h_m_square h_m_product h_m_isLive h_m_down h_m_up h_m_ground h_m_met m_colours m_h m_w m_states m_rows m_ends m_steps m_last))) (va_A (W_X9_isPart cI cJ cZ h_m h_m_allowed h_m_desk h_m_letters h_m_acts h_m_thens h_m_fits h_m_top h_m_bottom h_m_may h_m_ways h_m_found h_m_unlike h_m_seen h_m_seenThen h_m_power h_m_square h_m_product h_m_isLive h_m_down h_m_up h_m_ground h_m_met m_colours m_h m_w m_states m_rows m_ends m_steps m_last) sz)) 0 0 (va_A (W_X9_isPart cI cJ cZ h_m h_m_allowed h_m_desk h_m_letters h_m_acts h_m_thens h_m_fits h_m_top h_m_bottom h_m_may h_m_ways h_m_found h_m_unlike h_m_seen h_m_seenThen h_m_power h_m_square h_m_product h_m_isLive h_m_down h_m_up h_m_ground h_m_met m_colours m_h m_w m_states m_rows m_ends m_steps m_last) sz) := by
  refine gx_z (cc := cX9_isPart) (maxL := 2) (by decide) rfl (Nat.le_of_ble_eq_true rfl) ?_
  intro p e s m args below meth c A QQ hx hb hml hown hts hA hP hK hD hret ls hl
  have hown : s.vm.findClass RX9 = some m.cls := hown
  have hf7 := hts (.fieldLink RX9 7 "SmallWindowsModel" "colours" "I") (by decide +kernel)
  have hinX9 : ∀ w ∈ u_ws RX9 TX9 30, w ∈ wsX9_isPart := fun w h => List.mem_cons_of_mem _ ((List.mem_append_right _ h))
  have hS : va_S A s.heap s.heap [] := va_S.rf
  have hl : lv_has ls 2 [(0, .ref h_m), (1, .int l1)] := hl
  unfold q_X9_isPart at hq
  refine lv_iload_n hx hb dX9_isPart_0 rfl (lv_at hl 1 rfl) ?_
  refine lv_aload_n hx hb dX9_isPart_1 rfl (lv_at hl 0 rfl) ?_
  refine va_get (D := (dC, dI)) (ci := 9) (v := .int m_colours) (C := RX9) (T := TX9) (N := 30) hx hb hts hinX9 hown hK hP 0 rfl rfl 0 (by decide) hf7 (fun _ h9 => h9) rfl dX9_isPart_2 ?_
  refine lv_icmp_lt (tgt := 13) hx hb dX9_isPart_5 (by decide) (fun c1 => ?_) (fun c1 => ?_)
  · replace hq := hq.1 c1
    refine lv_iconst (v := (1 : Int32)) hx hb dX9_isPart_13 (by decide) ?_
    refine lv_goto (tgt := 18) hx hb dX9_isPart_14 (by decide) ?_
    exact hret (1 : Int32) () (Or.inr rfl) hq _ _ hP hD hS _ _ dX9_isPart_18
  · replace hq := hq.2 c1
    refine lv_iload_n hx hb dX9_isPart_8 rfl (lv_at hl 1 rfl) ?_
    refine lv_iconst (v := (3 : Int32)) hx hb dX9_isPart_9 (by decide) ?_
    refine lv_icmp_ne (tgt := 17) hx hb dX9_isPart_10 (by decide) (fun c2 => ?_) (fun c2 => ?_)
    · replace hq := hq.1 c2
      refine lv_iconst (v := (0 : Int32)) hx hb dX9_isPart_17 (by decide) ?_
      exact hret (0 : Int32) () (Or.inl rfl) hq _ _ hP hD hS _ _ dX9_isPart_18
    · replace hq := hq.2 c2
      refine lv_iconst (v := (1 : Int32)) hx hb dX9_isPart_13 (by decide) ?_
      refine lv_goto (tgt := 18) hx hb dX9_isPart_14 (by decide) ?_
      exact hret (1 : Int32) () (Or.inr rfl) hq _ _ hP hD hS _ _ dX9_isPart_18

abbrev W_X9_isBlock (cI cJ cZ : ClassId) (h_m h_m_allowed h_m_desk h_m_letters h_m_acts h_m_thens h_m_fits h_m_top h_m_bottom h_m_may h_m_ways h_m_found h_m_unlike h_m_seen h_m_seenThen h_m_power h_m_square h_m_product h_m_isLive h_m_down h_m_up h_m_ground h_m_met : Nat) (m_colours : Int32) (m_h : Int32) (m_w : Int32) (m_states : Int32) (m_rows : Int32) (m_ends : Int32) (m_steps : Int32) (m_last : Int32) : va_W := [(h_m, .inr (9, [.int m_colours, .ref h_m_allowed, .int m_h, .int m_w, .ref h_m_desk, .ref h_m_letters, .int m_states, .ref h_m_acts, .ref h_m_thens, .ref h_m_fits, .ref h_m_top, .ref h_m_bottom, .int m_rows, .ref h_m_may, .ref h_m_ways, .ref h_m_found, .ref h_m_unlike, .ref h_m_seen, .ref h_m_seenThen, .ref h_m_power, .ref h_m_square, .ref h_m_product, .ref h_m_isLive, .ref h_m_down, .ref h_m_up, .ref h_m_ground, .ref h_m_met, .int m_ends, .int m_steps, .int m_last]))]
abbrev rm_X9_isBlock : Room := { frames := 1, cells := 0, slots := 0, locals := 25 }
def q_X9_isBlock (m_colours : Int32) (l1 : Int32) (post : Int32 → Prop) : Prop := (q_X9_in ((l1).toInt64) (0 : Int64) (255 : Int64) (fun (r1 : Int32) => ((r1 = 0 → (post (0 : Int32))) ∧ (¬ r1 = 0 → (q_X9_isPart m_colours ((l1 >>> ((6 : Int32) &&& 31)) &&& (3 : Int32)) (fun (r3 : Int32) => ((r3 = 0 → (post (0 : Int32))) ∧ (¬ r3 = 0 → (q_X9_isPart m_colours ((l1 >>> ((4 : Int32) &&& 31)) &&& (3 : Int32)) (fun (r5 : Int32) => ((r5 = 0 → (post (0 : Int32))) ∧ (¬ r5 = 0 → (q_X9_isPart m_colours ((l1 >>> ((2 : Int32) &&& 31)) &&& (3 : Int32)) (fun (r7 : Int32) => ((r7 = 0 → (post (0 : Int32))) ∧ (¬ r7 = 0 → (q_X9_isPart m_colours (l1 &&& (3 : Int32)) (fun (r9 : Int32) => ((r9 = 0 → (post (0 : Int32))) ∧ (¬ r9 = 0 → (post (1 : Int32))))))))))))))))))))))
theorem hdV_X9_isBlock : yX9_isBlock.cls = RX9 ∧ yX9_isBlock.cls ≠ "java/lang/invoke/MethodHandle" ∧ yX9_isBlock.cls ≠ "java/lang/invoke/VarHandle" ∧ (parseMethodDescriptor yX9_isBlock.desc).map (fun d => d.parameters.length) = some 1 := by decide +kernel
set_option maxHeartbeats 4000000 in
set_option maxRecDepth 100000 in
theorem c_X9_isBlock (l : Launch) (dC : Nat → ClassId) (dI : Nat → Nat → Nat) (cI cJ cZ : ClassId) (h_m h_m_allowed h_m_desk h_m_letters h_m_acts h_m_thens h_m_fits h_m_top h_m_bottom h_m_may h_m_ways h_m_found h_m_unlike h_m_seen h_m_seenThen h_m_power h_m_square h_m_product h_m_isLive h_m_down h_m_up h_m_ground h_m_met : Nat) (sz : Nat) (m_colours : Int32) (m_h : Int32) (m_w : Int32) (m_states : Int32) (m_rows : Int32) (m_ends : Int32) (m_steps : Int32) (m_last : Int32) (l1 : Int32) {post : Int32 → Prop} (hq : q_X9_isBlock m_colours l1 post) : Met l yX9_isBlock wsX9_isBlock rm_X9_isBlock (va_Pc [.ref h_m, .int l1] (gx_Pre (dC, dI) vwCl (gx_tys cI cJ cZ) sz (W_X9_isBlock cI cJ cZ h_m h_m_allowed h_m_desk h_m_letters h_m_acts h_m_thens h_m_fits h_m_top h_m_bottom h_m_may h_m_ways h_m_found h_m_unlike h_m_seen h_m_seenThen h_m_power h_m_square h_m_product h_m_isLive h_m_down h_m_up h_m_ground h_m_met m_colours m_h m_w m_states m_rows m_ends m_steps m_last))) (va_Qi (fun (r : Int32) (u : Unit) => post r) (gx_B (dC, dI) vwCl (gx_tys cI cJ cZ) (va_A (W_X9_isBlock cI cJ cZ h_m h_m_allowed h_m_desk h_m_letters h_m_acts h_m_thens h_m_fits h_m_top h_m_bottom h_m_may h_m_ways h_m_found h_m_unlike h_m_seen h_m_seenThen h_m_power h_m_square h_m_product h_m_isLive h_m_down h_m_up h_m_ground h_m_met m_colours m_h m_w m_states m_rows m_ends m_steps m_last) sz) (fun (u : Unit) => (W_X9_isBlock cI cJ cZ h_m h_m_allowed h_m_desk h_m_letters h_m_acts h_m_thens h_m_fits h_m_top h_m_bottom h_m_may h_m_ways h_m_found h_m_unlike h_m_seen h_m_seenThen h_m_power h_m_square h_m_product h_m_isLive h_m_down h_m_up h_m_ground h_m_met m_colours m_h m_w m_states m_rows m_ends m_steps m_last))) (va_A (W_X9_isBlock cI cJ cZ h_m h_m_allowed h_m_desk h_m_letters h_m_acts h_m_thens h_m_fits h_m_top h_m_bottom h_m_may h_m_ways h_m_found h_m_unlike h_m_seen h_m_seenThen h_m_power h_m_square h_m_product h_m_isLive h_m_down h_m_up h_m_ground h_m_met m_colours m_h m_w m_states m_rows m_ends m_steps m_last) sz)) 0 0 (va_A (W_X9_isBlock cI cJ cZ h_m h_m_allowed h_m_desk h_m_letters h_m_acts h_m_thens h_m_fits h_m_top h_m_bottom h_m_may h_m_ways h_m_found h_m_unlike h_m_seen h_m_seenThen h_m_power h_m_square h_m_product h_m_isLive h_m_down h_m_up h_m_ground h_m_met m_colours m_h m_w m_states m_rows m_ends m_steps m_last) sz) := by
  refine gx_z (cc := cX9_isBlock) (maxL := 2) (by decide) rfl (Nat.le_of_ble_eq_true rfl) ?_
  intro p e s m args below meth c A QQ hx hb hml hown hts hA hP hK hD hret ls hl
  have hown : s.vm.findClass RX9 = some m.cls := hown
  have hcl107 := hts (.constantLong RX9 107 (255)) (by decide +kernel)
  have hS : va_S A s.heap s.heap [] := va_S.rf
  have hl : lv_has ls 2 [(0, .ref h_m), (1, .int l1)] := hl
  unfold q_X9_isBlock at hq
  refine lv_iload_n hx hb dX9_isBlock_0 rfl (lv_at hl 1 rfl) ?_
  refine lv_i2l hx hb dX9_isBlock_1 rfl ?_
  refine lv_lconst (v := (0 : Int64)) hx hb dX9_isBlock_2 (by decide) ?_
  refine lv_ldc2 hx hb hown hcl107 dX9_isBlock_3 ?_
  refine gx_cSi (As := [.long ((l1).toInt64), .long (0 : Int64), .long (255 : Int64)]) (rest := []) ⟨hx, hb, hml, hown, hts⟩ (c_X9_in l dC dI cI cJ cZ s.heap.size ((l1).toInt64) (0 : Int64) (255 : Int64) hq) (va_cwS 3 hts gX9_isBlock_X9_in rfl rfl rfl hdS_X9_in ⟨Nat.le_of_ble_eq_true rfl, Nat.le_of_ble_eq_true rfl⟩) hK hP hD hS hA [] [0] rfl rfl rfl rfl rfl rfl hl.1 (Nat.le_of_ble_eq_true rfl) dX9_isBlock_6 rfl (fun r1 u H locs hq hP hD hS => ?_)
  try dsimp only at hq
  have hP : va_P (dC, dI) vwCl (W_X9_isBlock cI cJ cZ h_m h_m_allowed h_m_desk h_m_letters h_m_acts h_m_thens h_m_fits h_m_top h_m_bottom h_m_may h_m_ways h_m_found h_m_unlike h_m_seen h_m_seenThen h_m_power h_m_square h_m_product h_m_isLive h_m_down h_m_up h_m_ground h_m_met m_colours m_h m_w m_states m_rows m_ends m_steps m_last) H := hP
  have hD : va_D A (W_X9_isBlock cI cJ cZ h_m h_m_allowed h_m_desk h_m_letters h_m_acts h_m_thens h_m_fits h_m_top h_m_bottom h_m_may h_m_ways h_m_found h_m_unlike h_m_seen h_m_seenThen h_m_power h_m_square h_m_product h_m_isLive h_m_down h_m_up h_m_ground h_m_met m_colours m_h m_w m_states m_rows m_ends m_steps m_last) := hD
  refine lv_if_eq (tgt := 63) hx hb dX9_isBlock_9 (by decide) (fun c2 => ?_) (fun c2 => ?_)
  · replace hq := hq.1 c2
    refine lv_iconst (v := (0 : Int32)) hx hb dX9_isBlock_63 (by decide) ?_
    exact hret (0 : Int32) () (Or.inl rfl) hq _ _ hP hD hS _ _ dX9_isBlock_64
  · replace hq := hq.2 c2
    refine lv_aload_n hx hb dX9_isBlock_12 rfl (lv_at hl 0 rfl) ?_
    refine lv_iload_n hx hb dX9_isBlock_13 rfl (lv_at hl 1 rfl) ?_
    refine lv_bipush (v := (6 : Int32)) hx hb dX9_isBlock_14 (by decide) ?_
    refine lv_ishr hx hb dX9_isBlock_16 ?_
    refine lv_iconst (v := (3 : Int32)) hx hb dX9_isBlock_17 (by decide) ?_
    refine lv_iand hx hb dX9_isBlock_18 ?_
    refine gx_cVi (C := RX9) (As := [.int ((l1 >>> ((6 : Int32) &&& 31)) &&& (3 : Int32))]) (rest := []) ⟨hx, hb, hml, hown, hts⟩ (c_X9_isPart l dC dI cI cJ cZ h_m h_m_allowed h_m_desk h_m_letters h_m_acts h_m_thens h_m_fits h_m_top h_m_bottom h_m_may h_m_ways h_m_found h_m_unlike h_m_seen h_m_seenThen h_m_power h_m_square h_m_product h_m_isLive h_m_down h_m_up h_m_ground h_m_met H.size m_colours m_h m_w m_states m_rows m_ends m_steps m_last ((l1 >>> ((6 : Int32) &&& 31)) &&& (3 : Int32)) hq) (cwV 1 hts gX9_isBlock_X9_isPart rfl rfl rfl hdV_X9_isPart ⟨Nat.le_of_ble_eq_true rfl, Nat.le_of_ble_eq_true rfl⟩) hK hP hD hS hA [0] [] rfl rfl rfl rfl rfl (ci := 9) (q0 := 0) rfl rfl rfl rfl hl.1 (Nat.le_of_ble_eq_true rfl) dX9_isBlock_19 rfl (fun r3 u H locs hq hP hD hS => ?_)
    try dsimp only at hq
    have hP : va_P (dC, dI) vwCl (W_X9_isBlock cI cJ cZ h_m h_m_allowed h_m_desk h_m_letters h_m_acts h_m_thens h_m_fits h_m_top h_m_bottom h_m_may h_m_ways h_m_found h_m_unlike h_m_seen h_m_seenThen h_m_power h_m_square h_m_product h_m_isLive h_m_down h_m_up h_m_ground h_m_met m_colours m_h m_w m_states m_rows m_ends m_steps m_last) H := hP
    have hD : va_D A (W_X9_isBlock cI cJ cZ h_m h_m_allowed h_m_desk h_m_letters h_m_acts h_m_thens h_m_fits h_m_top h_m_bottom h_m_may h_m_ways h_m_found h_m_unlike h_m_seen h_m_seenThen h_m_power h_m_square h_m_product h_m_isLive h_m_down h_m_up h_m_ground h_m_met m_colours m_h m_w m_states m_rows m_ends m_steps m_last) := hD
    refine lv_if_eq (tgt := 63) hx hb dX9_isBlock_22 (by decide) (fun c4 => ?_) (fun c4 => ?_)
    · replace hq := hq.1 c4
      refine lv_iconst (v := (0 : Int32)) hx hb dX9_isBlock_63 (by decide) ?_
      exact hret (0 : Int32) () (Or.inl rfl) hq _ _ hP hD hS _ _ dX9_isBlock_64
    · replace hq := hq.2 c4
      refine lv_aload_n hx hb dX9_isBlock_25 rfl (lv_at hl 0 rfl) ?_
      refine lv_iload_n hx hb dX9_isBlock_26 rfl (lv_at hl 1 rfl) ?_
      refine lv_iconst (v := (4 : Int32)) hx hb dX9_isBlock_27 (by decide) ?_
      refine lv_ishr hx hb dX9_isBlock_28 ?_
      refine lv_iconst (v := (3 : Int32)) hx hb dX9_isBlock_29 (by decide) ?_
      refine lv_iand hx hb dX9_isBlock_30 ?_
      refine gx_cVi (C := RX9) (As := [.int ((l1 >>> ((4 : Int32) &&& 31)) &&& (3 : Int32))]) (rest := []) ⟨hx, hb, hml, hown, hts⟩ (c_X9_isPart l dC dI cI cJ cZ h_m h_m_allowed h_m_desk h_m_letters h_m_acts h_m_thens h_m_fits h_m_top h_m_bottom h_m_may h_m_ways h_m_found h_m_unlike h_m_seen h_m_seenThen h_m_power h_m_square h_m_product h_m_isLive h_m_down h_m_up h_m_ground h_m_met H.size m_colours m_h m_w m_states m_rows m_ends m_steps m_last ((l1 >>> ((4 : Int32) &&& 31)) &&& (3 : Int32)) hq) (cwV 1 hts gX9_isBlock_X9_isPart rfl rfl rfl hdV_X9_isPart ⟨Nat.le_of_ble_eq_true rfl, Nat.le_of_ble_eq_true rfl⟩) hK hP hD hS hA [0] [] rfl rfl rfl rfl rfl (ci := 9) (q0 := 0) rfl rfl rfl rfl hl.1 (Nat.le_of_ble_eq_true rfl) dX9_isBlock_31 rfl (fun r5 u H locs hq hP hD hS => ?_)
      try dsimp only at hq
      have hP : va_P (dC, dI) vwCl (W_X9_isBlock cI cJ cZ h_m h_m_allowed h_m_desk h_m_letters h_m_acts h_m_thens h_m_fits h_m_top h_m_bottom h_m_may h_m_ways h_m_found h_m_unlike h_m_seen h_m_seenThen h_m_power h_m_square h_m_product h_m_isLive h_m_down h_m_up h_m_ground h_m_met m_colours m_h m_w m_states m_rows m_ends m_steps m_last) H := hP
      have hD : va_D A (W_X9_isBlock cI cJ cZ h_m h_m_allowed h_m_desk h_m_letters h_m_acts h_m_thens h_m_fits h_m_top h_m_bottom h_m_may h_m_ways h_m_found h_m_unlike h_m_seen h_m_seenThen h_m_power h_m_square h_m_product h_m_isLive h_m_down h_m_up h_m_ground h_m_met m_colours m_h m_w m_states m_rows m_ends m_steps m_last) := hD
      refine lv_if_eq (tgt := 63) hx hb dX9_isBlock_34 (by decide) (fun c6 => ?_) (fun c6 => ?_)
      · replace hq := hq.1 c6
        refine lv_iconst (v := (0 : Int32)) hx hb dX9_isBlock_63 (by decide) ?_
        exact hret (0 : Int32) () (Or.inl rfl) hq _ _ hP hD hS _ _ dX9_isBlock_64
      · replace hq := hq.2 c6
        refine lv_aload_n hx hb dX9_isBlock_37 rfl (lv_at hl 0 rfl) ?_
        refine lv_iload_n hx hb dX9_isBlock_38 rfl (lv_at hl 1 rfl) ?_
        refine lv_iconst (v := (2 : Int32)) hx hb dX9_isBlock_39 (by decide) ?_
        refine lv_ishr hx hb dX9_isBlock_40 ?_
        refine lv_iconst (v := (3 : Int32)) hx hb dX9_isBlock_41 (by decide) ?_
        refine lv_iand hx hb dX9_isBlock_42 ?_
        refine gx_cVi (C := RX9) (As := [.int ((l1 >>> ((2 : Int32) &&& 31)) &&& (3 : Int32))]) (rest := []) ⟨hx, hb, hml, hown, hts⟩ (c_X9_isPart l dC dI cI cJ cZ h_m h_m_allowed h_m_desk h_m_letters h_m_acts h_m_thens h_m_fits h_m_top h_m_bottom h_m_may h_m_ways h_m_found h_m_unlike h_m_seen h_m_seenThen h_m_power h_m_square h_m_product h_m_isLive h_m_down h_m_up h_m_ground h_m_met H.size m_colours m_h m_w m_states m_rows m_ends m_steps m_last ((l1 >>> ((2 : Int32) &&& 31)) &&& (3 : Int32)) hq) (cwV 1 hts gX9_isBlock_X9_isPart rfl rfl rfl hdV_X9_isPart ⟨Nat.le_of_ble_eq_true rfl, Nat.le_of_ble_eq_true rfl⟩) hK hP hD hS hA [0] [] rfl rfl rfl rfl rfl (ci := 9) (q0 := 0) rfl rfl rfl rfl hl.1 (Nat.le_of_ble_eq_true rfl) dX9_isBlock_43 rfl (fun r7 u H locs hq hP hD hS => ?_)
        try dsimp only at hq
        have hP : va_P (dC, dI) vwCl (W_X9_isBlock cI cJ cZ h_m h_m_allowed h_m_desk h_m_letters h_m_acts h_m_thens h_m_fits h_m_top h_m_bottom h_m_may h_m_ways h_m_found h_m_unlike h_m_seen h_m_seenThen h_m_power h_m_square h_m_product h_m_isLive h_m_down h_m_up h_m_ground h_m_met m_colours m_h m_w m_states m_rows m_ends m_steps m_last) H := hP
        have hD : va_D A (W_X9_isBlock cI cJ cZ h_m h_m_allowed h_m_desk h_m_letters h_m_acts h_m_thens h_m_fits h_m_top h_m_bottom h_m_may h_m_ways h_m_found h_m_unlike h_m_seen h_m_seenThen h_m_power h_m_square h_m_product h_m_isLive h_m_down h_m_up h_m_ground h_m_met m_colours m_h m_w m_states m_rows m_ends m_steps m_last) := hD
        refine lv_if_eq (tgt := 63) hx hb dX9_isBlock_46 (by decide) (fun c8 => ?_) (fun c8 => ?_)
        · replace hq := hq.1 c8
          refine lv_iconst (v := (0 : Int32)) hx hb dX9_isBlock_63 (by decide) ?_
          exact hret (0 : Int32) () (Or.inl rfl) hq _ _ hP hD hS _ _ dX9_isBlock_64
        · replace hq := hq.2 c8
          refine lv_aload_n hx hb dX9_isBlock_49 rfl (lv_at hl 0 rfl) ?_
          refine lv_iload_n hx hb dX9_isBlock_50 rfl (lv_at hl 1 rfl) ?_
          refine lv_iconst (v := (3 : Int32)) hx hb dX9_isBlock_51 (by decide) ?_
          refine lv_iand hx hb dX9_isBlock_52 ?_
          refine gx_cVi (C := RX9) (As := [.int (l1 &&& (3 : Int32))]) (rest := []) ⟨hx, hb, hml, hown, hts⟩ (c_X9_isPart l dC dI cI cJ cZ h_m h_m_allowed h_m_desk h_m_letters h_m_acts h_m_thens h_m_fits h_m_top h_m_bottom h_m_may h_m_ways h_m_found h_m_unlike h_m_seen h_m_seenThen h_m_power h_m_square h_m_product h_m_isLive h_m_down h_m_up h_m_ground h_m_met H.size m_colours m_h m_w m_states m_rows m_ends m_steps m_last (l1 &&& (3 : Int32)) hq) (cwV 1 hts gX9_isBlock_X9_isPart rfl rfl rfl hdV_X9_isPart ⟨Nat.le_of_ble_eq_true rfl, Nat.le_of_ble_eq_true rfl⟩) hK hP hD hS hA [0] [] rfl rfl rfl rfl rfl (ci := 9) (q0 := 0) rfl rfl rfl rfl hl.1 (Nat.le_of_ble_eq_true rfl) dX9_isBlock_53 rfl (fun r9 u H locs hq hP hD hS => ?_)
          try dsimp only at hq
          have hP : va_P (dC, dI) vwCl (W_X9_isBlock cI cJ cZ h_m h_m_allowed h_m_desk h_m_letters h_m_acts h_m_thens h_m_fits h_m_top h_m_bottom h_m_may h_m_ways h_m_found h_m_unlike h_m_seen h_m_seenThen h_m_power h_m_square h_m_product h_m_isLive h_m_down h_m_up h_m_ground h_m_met m_colours m_h m_w m_states m_rows m_ends m_steps m_last) H := hP
          have hD : va_D A (W_X9_isBlock cI cJ cZ h_m h_m_allowed h_m_desk h_m_letters h_m_acts h_m_thens h_m_fits h_m_top h_m_bottom h_m_may h_m_ways h_m_found h_m_unlike h_m_seen h_m_seenThen h_m_power h_m_square h_m_product h_m_isLive h_m_down h_m_up h_m_ground h_m_met m_colours m_h m_w m_states m_rows m_ends m_steps m_last) := hD
          refine lv_if_eq (tgt := 63) hx hb dX9_isBlock_56 (by decide) (fun c10 => ?_) (fun c10 => ?_)
          · replace hq := hq.1 c10
            refine lv_iconst (v := (0 : Int32)) hx hb dX9_isBlock_63 (by decide) ?_
            exact hret (0 : Int32) () (Or.inl rfl) hq _ _ hP hD hS _ _ dX9_isBlock_64
          · replace hq := hq.2 c10
            refine lv_iconst (v := (1 : Int32)) hx hb dX9_isBlock_59 (by decide) ?_
            refine lv_goto (tgt := 64) hx hb dX9_isBlock_60 (by decide) ?_
            exact hret (1 : Int32) () (Or.inr rfl) hq _ _ hP hD hS _ _ dX9_isBlock_64

abbrev W_X9_allow (cI cJ cZ : ClassId) (h_m h_m_allowed h_m_desk h_m_letters h_m_acts h_m_thens h_m_fits h_m_top h_m_bottom h_m_may h_m_ways h_m_found h_m_unlike h_m_seen h_m_seenThen h_m_power h_m_square h_m_product h_m_isLive h_m_down h_m_up h_m_ground h_m_met : Nat) (m_colours : Int32) (m_h : Int32) (m_w : Int32) (m_states : Int32) (m_rows : Int32) (m_ends : Int32) (m_steps : Int32) (m_last : Int32) (f_m_allowed : Nat → Int32) : va_W := [(h_m, .inr (9, [.int m_colours, .ref h_m_allowed, .int m_h, .int m_w, .ref h_m_desk, .ref h_m_letters, .int m_states, .ref h_m_acts, .ref h_m_thens, .ref h_m_fits, .ref h_m_top, .ref h_m_bottom, .int m_rows, .ref h_m_may, .ref h_m_ways, .ref h_m_found, .ref h_m_unlike, .ref h_m_seen, .ref h_m_seenThen, .ref h_m_power, .ref h_m_square, .ref h_m_product, .ref h_m_isLive, .ref h_m_down, .ref h_m_up, .ref h_m_ground, .ref h_m_met, .int m_ends, .int m_steps, .int m_last])), (h_m_allowed, .inl (cZ, 256, .inl f_m_allowed))]
abbrev rm_X9_allow : Room := { frames := 2, cells := 0, slots := 0, locals := 46 }
def q_X9_allow_25 (m_colours : Int32) (post : Int32 → (Nat → Int32) → Prop) (l1 : Int32) (l2 : Int32) (t0 : Int32) (f_m_allowed : Nat → Int32) : Prop := (vp_in l1 256 ∧ ((l2 = 0 ∨ l2 = 1) ∧ (post t0 (upd f_m_allowed (l1).toNatClampNeg l2))))
def q_X9_allow (m_colours : Int32) (f_m_allowed : Nat → Int32) (l1 : Int32) (l2 : Int32) (post : Int32 → (Nat → Int32) → Prop) : Prop := (q_X9_isBlock m_colours l1 (fun (r1 : Int32) => ((¬ r1 = 0 → (vp_in l1 256 ∧ (((f_m_allowed (l1).toNatClampNeg) = 0 → ((q_X9_allow_25 m_colours post) l1 l2 (0 : Int32) f_m_allowed)) ∧ (¬ (f_m_allowed (l1).toNatClampNeg) = 0 → ((q_X9_allow_25 m_colours post) l1 l2 (1 : Int32) f_m_allowed))))) ∧ (r1 = 0 → (post (-3 : Int32) f_m_allowed)))))
theorem hdV_X9_allow : yX9_allow.cls = RX9 ∧ yX9_allow.cls ≠ "java/lang/invoke/MethodHandle" ∧ yX9_allow.cls ≠ "java/lang/invoke/VarHandle" ∧ (parseMethodDescriptor yX9_allow.desc).map (fun d => d.parameters.length) = some 2 := by decide +kernel
set_option maxHeartbeats 4000000 in
set_option maxRecDepth 100000 in
theorem c_X9_allow (l : Launch) (dC : Nat → ClassId) (dI : Nat → Nat → Nat) (cI cJ cZ : ClassId) (h_m h_m_allowed h_m_desk h_m_letters h_m_acts h_m_thens h_m_fits h_m_top h_m_bottom h_m_may h_m_ways h_m_found h_m_unlike h_m_seen h_m_seenThen h_m_power h_m_square h_m_product h_m_isLive h_m_down h_m_up h_m_ground h_m_met : Nat) (sz : Nat) (m_colours : Int32) (m_h : Int32) (m_w : Int32) (m_states : Int32) (m_rows : Int32) (m_ends : Int32) (m_steps : Int32) (m_last : Int32) (f_m_allowed : Nat → Int32) (l1 : Int32) (l2 : Int32) {post : Int32 → (Nat → Int32) → Prop} (hq : q_X9_allow m_colours f_m_allowed l1 l2 post) : Met l yX9_allow wsX9_allow rm_X9_allow (va_Pc [.ref h_m, .int l1, .int l2] (gx_Pre (dC, dI) vwCl (gx_tys cI cJ cZ) sz (W_X9_allow cI cJ cZ h_m h_m_allowed h_m_desk h_m_letters h_m_acts h_m_thens h_m_fits h_m_top h_m_bottom h_m_may h_m_ways h_m_found h_m_unlike h_m_seen h_m_seenThen h_m_power h_m_square h_m_product h_m_isLive h_m_down h_m_up h_m_ground h_m_met m_colours m_h m_w m_states m_rows m_ends m_steps m_last f_m_allowed))) (va_Qi (fun (r : Int32) (u : (Nat → Int32)) => post r u) (gx_B (dC, dI) vwCl (gx_tys cI cJ cZ) (va_A (W_X9_allow cI cJ cZ h_m h_m_allowed h_m_desk h_m_letters h_m_acts h_m_thens h_m_fits h_m_top h_m_bottom h_m_may h_m_ways h_m_found h_m_unlike h_m_seen h_m_seenThen h_m_power h_m_square h_m_product h_m_isLive h_m_down h_m_up h_m_ground h_m_met m_colours m_h m_w m_states m_rows m_ends m_steps m_last f_m_allowed) sz) (fun (u : (Nat → Int32)) => (W_X9_allow cI cJ cZ h_m h_m_allowed h_m_desk h_m_letters h_m_acts h_m_thens h_m_fits h_m_top h_m_bottom h_m_may h_m_ways h_m_found h_m_unlike h_m_seen h_m_seenThen h_m_power h_m_square h_m_product h_m_isLive h_m_down h_m_up h_m_ground h_m_met m_colours m_h m_w m_states m_rows m_ends m_steps m_last u))) (va_A (W_X9_allow cI cJ cZ h_m h_m_allowed h_m_desk h_m_letters h_m_acts h_m_thens h_m_fits h_m_top h_m_bottom h_m_may h_m_ways h_m_found h_m_unlike h_m_seen h_m_seenThen h_m_power h_m_square h_m_product h_m_isLive h_m_down h_m_up h_m_ground h_m_met m_colours m_h m_w m_states m_rows m_ends m_steps m_last f_m_allowed) sz)) 0 0 (va_A (W_X9_allow cI cJ cZ h_m h_m_allowed h_m_desk h_m_letters h_m_acts h_m_thens h_m_fits h_m_top h_m_bottom h_m_may h_m_ways h_m_found h_m_unlike h_m_seen h_m_seenThen h_m_power h_m_square h_m_product h_m_isLive h_m_down h_m_up h_m_ground h_m_met m_colours m_h m_w m_states m_rows m_ends m_steps m_last f_m_allowed) sz) := by
  refine gx_i (cc := cX9_allow) (maxL := 4) (by decide) rfl (Nat.le_of_ble_eq_true rfl) ?_
  intro p e s m args below meth c A QQ hx hb hml hown hts hA hP hK hD hret ls hl
  have hown : s.vm.findClass RX9 = some m.cls := hown
  have hf13 := hts (.fieldLink RX9 13 "SmallWindowsModel" "allowed" "[Z") (by decide +kernel)
  have hinX9 : ∀ w ∈ u_ws RX9 TX9 30, w ∈ wsX9_allow := fun w h => List.mem_cons_of_mem _ ((List.mem_append_right _ h))
  have hS : va_S A s.heap s.heap [] := va_S.rf
  have hl : lv_has ls 4 [(0, .ref h_m), (1, .int l1), (2, .int l2)] := hl
  have C25 : ∀ (l1 : Int32) (l2 : Int32) (t0 : Int32) (f_m_allowed : Nat → Int32), q_X9_allow_25 m_colours post l1 l2 t0 f_m_allowed → ∀ (H : Heap) (locs : List Loc), va_P (dC, dI) vwCl (W_X9_allow cI cJ cZ h_m h_m_allowed h_m_desk h_m_letters h_m_acts h_m_thens h_m_fits h_m_top h_m_bottom h_m_may h_m_ways h_m_found h_m_unlike h_m_seen h_m_seenThen h_m_power h_m_square h_m_product h_m_isLive h_m_down h_m_up h_m_ground h_m_met m_colours m_h m_w m_states m_rows m_ends m_steps m_last f_m_allowed) H → va_D A (W_X9_allow cI cJ cZ h_m h_m_allowed h_m_desk h_m_letters h_m_acts h_m_thens h_m_fits h_m_top h_m_bottom h_m_may h_m_ways h_m_found h_m_unlike h_m_seen h_m_seenThen h_m_power h_m_square h_m_product h_m_isLive h_m_down h_m_up h_m_ground h_m_met m_colours m_h m_w m_states m_rows m_ends m_steps m_last f_m_allowed) → va_S A s.heap H locs → ∀ ls : Array Slot, lv_has ls 4 [(0, .ref h_m), (1, .int l1), (2, .int l2)] → W p l e rm_X9_allow s m args below meth c H locs 0 0 QQ (F0 m 25 ls [.int t0]) := by
    intro l1 l2 t0 f_m_allowed hq H locs hP hD hS ls hl
    unfold q_X9_allow_25 at hq
    refine lv_istore_n (lv' := [(3, .int t0), (0, .ref h_m), (1, .int l1), (2, .int l2)]) hx hb dX9_allow_25 rfl hl (by decide) rfl (fun ls hl => ?_)
    refine lv_aload_n hx hb dX9_allow_26 rfl (lv_at hl 1 rfl) ?_
    refine va_get (D := (dC, dI)) (ci := 9) (v := .ref h_m_allowed) (C := RX9) (T := TX9) (N := 30) hx hb hts hinX9 hown hK hP 0 rfl rfl 1 (by decide) hf13 (fun _ h9 => h9) rfl dX9_allow_27 ?_
    refine lv_iload_n hx hb dX9_allow_30 rfl (lv_at hl 2 rfl) ?_
    refine lv_iload_n hx hb dX9_allow_31 rfl (lv_at hl 3 rfl) ?_
    obtain ⟨hv5, hq⟩ := hq
    obtain ⟨hb6, hq⟩ := hq
    refine va_zast hx hb hK hP hD hS 1 2 rfl rfl hv5 dX9_allow_32 (fun H locs hP hD hS => ?_)
    rw [gx_nar hb6] at hP hD
    have hP : va_P (dC, dI) vwCl (W_X9_allow cI cJ cZ h_m h_m_allowed h_m_desk h_m_letters h_m_acts h_m_thens h_m_fits h_m_top h_m_bottom h_m_may h_m_ways h_m_found h_m_unlike h_m_seen h_m_seenThen h_m_power h_m_square h_m_product h_m_isLive h_m_down h_m_up h_m_ground h_m_met m_colours m_h m_w m_states m_rows m_ends m_steps m_last (upd f_m_allowed (l1).toNatClampNeg l2)) H := hP
    have hD : va_D A (W_X9_allow cI cJ cZ h_m h_m_allowed h_m_desk h_m_letters h_m_acts h_m_thens h_m_fits h_m_top h_m_bottom h_m_may h_m_ways h_m_found h_m_unlike h_m_seen h_m_seenThen h_m_power h_m_square h_m_product h_m_isLive h_m_down h_m_up h_m_ground h_m_met m_colours m_h m_w m_states m_rows m_ends m_steps m_last (upd f_m_allowed (l1).toNatClampNeg l2)) := hD
    refine lv_iload_n hx hb dX9_allow_33 rfl (lv_at hl 0 rfl) ?_
    exact hret t0 (upd f_m_allowed (l1).toNatClampNeg l2) hq _ _ hP hD hS _ _ dX9_allow_34
  unfold q_X9_allow at hq
  refine lv_aload_n hx hb dX9_allow_0 rfl (lv_at hl 0 rfl) ?_
  refine lv_iload_n hx hb dX9_allow_1 rfl (lv_at hl 1 rfl) ?_
  refine gx_cVi (C := RX9) (As := [.int l1]) (rest := []) ⟨hx, hb, hml, hown, hts⟩ (c_X9_isBlock l dC dI cI cJ cZ h_m h_m_allowed h_m_desk h_m_letters h_m_acts h_m_thens h_m_fits h_m_top h_m_bottom h_m_may h_m_ways h_m_found h_m_unlike h_m_seen h_m_seenThen h_m_power h_m_square h_m_product h_m_isLive h_m_down h_m_up h_m_ground h_m_met s.heap.size m_colours m_h m_w m_states m_rows m_ends m_steps m_last l1 hq) (cwV 1 hts gX9_allow_X9_isBlock rfl rfl rfl hdV_X9_isBlock ⟨Nat.le_of_ble_eq_true rfl, Nat.le_of_ble_eq_true rfl⟩) hK hP hD hS hA [0] [1] rfl rfl rfl rfl rfl (ci := 9) (q0 := 0) rfl rfl rfl rfl hl.1 (Nat.le_of_ble_eq_true rfl) dX9_allow_2 rfl (fun r1 u H locs hq hP hD hS => ?_)
  try dsimp only at hq
  have hP : va_P (dC, dI) vwCl (W_X9_allow cI cJ cZ h_m h_m_allowed h_m_desk h_m_letters h_m_acts h_m_thens h_m_fits h_m_top h_m_bottom h_m_may h_m_ways h_m_found h_m_unlike h_m_seen h_m_seenThen h_m_power h_m_square h_m_product h_m_isLive h_m_down h_m_up h_m_ground h_m_met m_colours m_h m_w m_states m_rows m_ends m_steps m_last f_m_allowed) H := hP.sub [1, 0] rfl
  have hD : va_D A (W_X9_allow cI cJ cZ h_m h_m_allowed h_m_desk h_m_letters h_m_acts h_m_thens h_m_fits h_m_top h_m_bottom h_m_may h_m_ways h_m_found h_m_unlike h_m_seen h_m_seenThen h_m_power h_m_square h_m_product h_m_isLive h_m_down h_m_up h_m_ground h_m_met m_colours m_h m_w m_states m_rows m_ends m_steps m_last f_m_allowed) := hD.sub [1, 0] (by decide) rfl
  refine lv_if_ne (tgt := 11) hx hb dX9_allow_5 (by decide) (fun c2 => ?_) (fun c2 => ?_)
  · replace hq := hq.1 c2
    refine lv_aload_n hx hb dX9_allow_11 rfl (lv_at hl 0 rfl) ?_
    refine va_get (D := (dC, dI)) (ci := 9) (v := .ref h_m_allowed) (C := RX9) (T := TX9) (N := 30) hx hb hts hinX9 hown hK hP 0 rfl rfl 1 (by decide) hf13 (fun _ h9 => h9) rfl dX9_allow_12 ?_
    refine lv_iload_n hx hb dX9_allow_15 rfl (lv_at hl 1 rfl) ?_
    obtain ⟨hv3, hq⟩ := hq
    refine va_zald hx hb hK hP 1 2 rfl rfl hv3 dX9_allow_16 ?_
    refine lv_if_eq (tgt := 24) hx hb dX9_allow_17 (by decide) (fun c4 => ?_) (fun c4 => ?_)
    · replace hq := hq.1 c4
      refine lv_iconst (v := (0 : Int32)) hx hb dX9_allow_24 (by decide) ?_
      exact C25 _ _ _ _ hq _ _ hP hD hS _ (lv_sub hl [0, 1, 2] rfl)
    · replace hq := hq.2 c4
      refine lv_iconst (v := (1 : Int32)) hx hb dX9_allow_20 (by decide) ?_
      refine lv_goto (tgt := 25) hx hb dX9_allow_21 (by decide) ?_
      exact C25 _ _ _ _ hq _ _ hP hD hS _ (lv_sub hl [0, 1, 2] rfl)
  · replace hq := hq.2 c2
    refine lv_bipush (v := (-3 : Int32)) hx hb dX9_allow_8 (by decide) ?_
    exact hret (-3 : Int32) f_m_allowed hq _ _ hP hD hS _ _ dX9_allow_10

abbrev W_X9_desk (cI cJ cZ : ClassId) (h_m h_m_desk h_m_allowed h_m_letters h_m_acts h_m_thens h_m_fits h_m_top h_m_bottom h_m_may h_m_ways h_m_found h_m_unlike h_m_seen h_m_seenThen h_m_power h_m_square h_m_product h_m_isLive h_m_down h_m_up h_m_ground h_m_met : Nat) (m_colours : Int32) (m_h : Int32) (m_w : Int32) (m_states : Int32) (m_rows : Int32) (m_ends : Int32) (m_steps : Int32) (m_last : Int32) (f_m_desk : Nat → Int32) : va_W := [(h_m, .inr (9, [.int m_colours, .ref h_m_allowed, .int m_h, .int m_w, .ref h_m_desk, .ref h_m_letters, .int m_states, .ref h_m_acts, .ref h_m_thens, .ref h_m_fits, .ref h_m_top, .ref h_m_bottom, .int m_rows, .ref h_m_may, .ref h_m_ways, .ref h_m_found, .ref h_m_unlike, .ref h_m_seen, .ref h_m_seenThen, .ref h_m_power, .ref h_m_square, .ref h_m_product, .ref h_m_isLive, .ref h_m_down, .ref h_m_up, .ref h_m_ground, .ref h_m_met, .int m_ends, .int m_steps, .int m_last])), (h_m_desk, .inl (cI, 25, .inl f_m_desk))]
abbrev rm_X9_desk : Room := { frames := 2, cells := 0, slots := 0, locals := 46 }
def r_X9_desk_23 (post : Int32 → (Int32) → (Int32) → (Nat → Int32) → Prop) (m_h : Int32) (m_w : Int32) : Nat → (Int32) → (Nat → Int32) → Prop
  | 0, _, _ => False
  | n + 1, l3, f_m_desk => (((25 : Int32) ≤ l3 → (post (1 : Int32) m_h m_w f_m_desk)) ∧ (¬ (25 : Int32) ≤ l3 → (vp_in l3 25 ∧ ((r_X9_desk_23 post m_h m_w n) (l3 + (1 : Int32)) (upd f_m_desk (l3).toNatClampNeg (-1 : Int32))))))
def q_X9_desk_23 (post : Int32 → (Int32) → (Int32) → (Nat → Int32) → Prop) (l3 : Int32) (m_h : Int32) (m_w : Int32) (f_m_desk : Nat → Int32) : Prop := ∃ n, r_X9_desk_23 post m_h m_w n l3 f_m_desk
def q_X9_desk (m_h : Int32) (m_w : Int32) (f_m_desk : Nat → Int32) (l1 : Int32) (l2 : Int32) (post : Int32 → (Int32) → (Int32) → (Nat → Int32) → Prop) : Prop := (q_X9_isSize l1 l2 (fun (r1 : Int32) => ((¬ r1 = 0 → ((q_X9_desk_23 post) (0 : Int32) l1 l2 f_m_desk)) ∧ (r1 = 0 → (post (-3 : Int32) m_h m_w f_m_desk)))))
theorem hdV_X9_desk : yX9_desk.cls = RX9 ∧ yX9_desk.cls ≠ "java/lang/invoke/MethodHandle" ∧ yX9_desk.cls ≠ "java/lang/invoke/VarHandle" ∧ (parseMethodDescriptor yX9_desk.desc).map (fun d => d.parameters.length) = some 2 := by decide +kernel
set_option maxHeartbeats 4000000 in
set_option maxRecDepth 100000 in
theorem c_X9_desk (l : Launch) (dC : Nat → ClassId) (dI : Nat → Nat → Nat) (cI cJ cZ : ClassId) (h_m h_m_desk h_m_allowed h_m_letters h_m_acts h_m_thens h_m_fits h_m_top h_m_bottom h_m_may h_m_ways h_m_found h_m_unlike h_m_seen h_m_seenThen h_m_power h_m_square h_m_product h_m_isLive h_m_down h_m_up h_m_ground h_m_met : Nat) (sz : Nat) (m_colours : Int32) (m_h : Int32) (m_w : Int32) (m_states : Int32) (m_rows : Int32) (m_ends : Int32) (m_steps : Int32) (m_last : Int32) (f_m_desk : Nat → Int32) (l1 : Int32) (l2 : Int32) {post : Int32 → (Int32) → (Int32) → (Nat → Int32) → Prop} (hq : q_X9_desk m_h m_w f_m_desk l1 l2 post) : Met l yX9_desk wsX9_desk rm_X9_desk (va_Pc [.ref h_m, .int l1, .int l2] (gx_Pre (dC, dI) vwCl (gx_tys cI cJ cZ) sz (W_X9_desk cI cJ cZ h_m h_m_desk h_m_allowed h_m_letters h_m_acts h_m_thens h_m_fits h_m_top h_m_bottom h_m_may h_m_ways h_m_found h_m_unlike h_m_seen h_m_seenThen h_m_power h_m_square h_m_product h_m_isLive h_m_down h_m_up h_m_ground h_m_met m_colours m_h m_w m_states m_rows m_ends m_steps m_last f_m_desk))) (va_Qi (fun (r : Int32) (u : (Int32) × (Int32) × (Nat → Int32)) => post r u.1 u.2.1 u.2.2) (gx_B (dC, dI) vwCl (gx_tys cI cJ cZ) (va_A (W_X9_desk cI cJ cZ h_m h_m_desk h_m_allowed h_m_letters h_m_acts h_m_thens h_m_fits h_m_top h_m_bottom h_m_may h_m_ways h_m_found h_m_unlike h_m_seen h_m_seenThen h_m_power h_m_square h_m_product h_m_isLive h_m_down h_m_up h_m_ground h_m_met m_colours m_h m_w m_states m_rows m_ends m_steps m_last f_m_desk) sz) (fun (u : (Int32) × (Int32) × (Nat → Int32)) => (W_X9_desk cI cJ cZ h_m h_m_desk h_m_allowed h_m_letters h_m_acts h_m_thens h_m_fits h_m_top h_m_bottom h_m_may h_m_ways h_m_found h_m_unlike h_m_seen h_m_seenThen h_m_power h_m_square h_m_product h_m_isLive h_m_down h_m_up h_m_ground h_m_met m_colours u.1 u.2.1 m_states m_rows m_ends m_steps m_last u.2.2))) (va_A (W_X9_desk cI cJ cZ h_m h_m_desk h_m_allowed h_m_letters h_m_acts h_m_thens h_m_fits h_m_top h_m_bottom h_m_may h_m_ways h_m_found h_m_unlike h_m_seen h_m_seenThen h_m_power h_m_square h_m_product h_m_isLive h_m_down h_m_up h_m_ground h_m_met m_colours m_h m_w m_states m_rows m_ends m_steps m_last f_m_desk) sz)) 0 0 (va_A (W_X9_desk cI cJ cZ h_m h_m_desk h_m_allowed h_m_letters h_m_acts h_m_thens h_m_fits h_m_top h_m_bottom h_m_may h_m_ways h_m_found h_m_unlike h_m_seen h_m_seenThen h_m_power h_m_square h_m_product h_m_isLive h_m_down h_m_up h_m_ground h_m_met m_colours m_h m_w m_states m_rows m_ends m_steps m_last f_m_desk) sz) := by
  refine gx_i (cc := cX9_desk) (maxL := 4) (by decide) rfl (Nat.le_of_ble_eq_true rfl) ?_
  intro p e s m args below meth c A QQ hx hb hml hown hts hA hP hK hD hret ls hl
  have hown : s.vm.findClass RX9 = some m.cls := hown
  have hf17 := hts (.fieldLink RX9 17 "SmallWindowsModel" "h" "I") (by decide +kernel)
  have hf20 := hts (.fieldLink RX9 20 "SmallWindowsModel" "w" "I") (by decide +kernel)
  have hf23 := hts (.fieldLink RX9 23 "SmallWindowsModel" "desk" "[I") (by decide +kernel)
  have hinX9 : ∀ w ∈ u_ws RX9 TX9 30, w ∈ wsX9_desk := fun w h => List.mem_cons_of_mem _ ((List.mem_append_right _ h))
  have hS : va_S A s.heap s.heap [] := va_S.rf
  have hl : lv_has ls 4 [(0, .ref h_m), (1, .int l1), (2, .int l2)] := hl
  have L23 : ∀ (m_h : Int32) (m_w : Int32) (n : Nat) (l3 : Int32) (f_m_desk : Nat → Int32), r_X9_desk_23 post m_h m_w n l3 f_m_desk → ∀ (H : Heap) (locs : List Loc), va_P (dC, dI) vwCl (W_X9_desk cI cJ cZ h_m h_m_desk h_m_allowed h_m_letters h_m_acts h_m_thens h_m_fits h_m_top h_m_bottom h_m_may h_m_ways h_m_found h_m_unlike h_m_seen h_m_seenThen h_m_power h_m_square h_m_product h_m_isLive h_m_down h_m_up h_m_ground h_m_met m_colours m_h m_w m_states m_rows m_ends m_steps m_last f_m_desk) H → va_D A (W_X9_desk cI cJ cZ h_m h_m_desk h_m_allowed h_m_letters h_m_acts h_m_thens h_m_fits h_m_top h_m_bottom h_m_may h_m_ways h_m_found h_m_unlike h_m_seen h_m_seenThen h_m_power h_m_square h_m_product h_m_isLive h_m_down h_m_up h_m_ground h_m_met m_colours m_h m_w m_states m_rows m_ends m_steps m_last f_m_desk) → va_S A s.heap H locs → ∀ ls : Array Slot, lv_has ls 4 [(0, .ref h_m), (3, .int l3)] → W p l e rm_X9_desk s m args below meth c H locs 0 0 QQ (F0 m 23 ls []) := by
    intro m_h m_w n
    induction n with
    | zero => intro l3 f_m_desk hq; exact False.elim hq
    | succ n ih =>
      intro l3 f_m_desk hq H locs hP hD hS ls hl
      unfold r_X9_desk_23 at hq
      refine lv_iload_n hx hb dX9_desk_23 rfl (lv_at hl 1 rfl) ?_
      refine lv_bipush (v := (25 : Int32)) hx hb dX9_desk_24 (by decide) ?_
      refine lv_icmp_ge (tgt := 42) hx hb dX9_desk_26 (by decide) (fun c3 => ?_) (fun c3 => ?_)
      · replace hq := hq.1 c3
        refine lv_iconst (v := (1 : Int32)) hx hb dX9_desk_42 (by decide) ?_
        exact hret (1 : Int32) (m_h, m_w, f_m_desk) hq _ _ hP hD hS _ _ dX9_desk_43
      · replace hq := hq.2 c3
        refine lv_aload_n hx hb dX9_desk_29 rfl (lv_at hl 0 rfl) ?_
        refine va_get (D := (dC, dI)) (ci := 9) (v := .ref h_m_desk) (C := RX9) (T := TX9) (N := 30) hx hb hts hinX9 hown hK hP 0 rfl rfl 4 (by decide) hf23 (fun _ h9 => h9) rfl dX9_desk_30 ?_
        refine lv_iload_n hx hb dX9_desk_33 rfl (lv_at hl 1 rfl) ?_
        refine lv_iconst (v := (-1 : Int32)) hx hb dX9_desk_34 (by decide) ?_
        obtain ⟨hv4, hq⟩ := hq
        refine va_iast hx hb hK hP hD hS 1 0 rfl rfl hv4 dX9_desk_35 (fun H locs hP hD hS => ?_)
        have hP : va_P (dC, dI) vwCl (W_X9_desk cI cJ cZ h_m h_m_desk h_m_allowed h_m_letters h_m_acts h_m_thens h_m_fits h_m_top h_m_bottom h_m_may h_m_ways h_m_found h_m_unlike h_m_seen h_m_seenThen h_m_power h_m_square h_m_product h_m_isLive h_m_down h_m_up h_m_ground h_m_met m_colours m_h m_w m_states m_rows m_ends m_steps m_last (upd f_m_desk (l3).toNatClampNeg (-1 : Int32))) H := hP
        have hD : va_D A (W_X9_desk cI cJ cZ h_m h_m_desk h_m_allowed h_m_letters h_m_acts h_m_thens h_m_fits h_m_top h_m_bottom h_m_may h_m_ways h_m_found h_m_unlike h_m_seen h_m_seenThen h_m_power h_m_square h_m_product h_m_isLive h_m_down h_m_up h_m_ground h_m_met m_colours m_h m_w m_states m_rows m_ends m_steps m_last (upd f_m_desk (l3).toNatClampNeg (-1 : Int32))) := hD
        refine lv_iinc (v := (l3 + (1 : Int32))) (lv' := [(3, .int (l3 + (1 : Int32))), (0, .ref h_m)]) hx hb dX9_desk_36 hl (k := 1) rfl rfl (by decide) rfl (fun ls hl => ?_)
        refine lv_goto (tgt := 23) hx hb dX9_desk_39 (by decide) ?_
        exact ih _ _ hq _ _ hP hD hS _ (lv_sub hl [1, 0] rfl)
  have C23 : ∀ (l3 : Int32) (m_h : Int32) (m_w : Int32) (f_m_desk : Nat → Int32), q_X9_desk_23 post l3 m_h m_w f_m_desk → ∀ (H : Heap) (locs : List Loc), va_P (dC, dI) vwCl (W_X9_desk cI cJ cZ h_m h_m_desk h_m_allowed h_m_letters h_m_acts h_m_thens h_m_fits h_m_top h_m_bottom h_m_may h_m_ways h_m_found h_m_unlike h_m_seen h_m_seenThen h_m_power h_m_square h_m_product h_m_isLive h_m_down h_m_up h_m_ground h_m_met m_colours m_h m_w m_states m_rows m_ends m_steps m_last f_m_desk) H → va_D A (W_X9_desk cI cJ cZ h_m h_m_desk h_m_allowed h_m_letters h_m_acts h_m_thens h_m_fits h_m_top h_m_bottom h_m_may h_m_ways h_m_found h_m_unlike h_m_seen h_m_seenThen h_m_power h_m_square h_m_product h_m_isLive h_m_down h_m_up h_m_ground h_m_met m_colours m_h m_w m_states m_rows m_ends m_steps m_last f_m_desk) → va_S A s.heap H locs → ∀ ls : Array Slot, lv_has ls 4 [(0, .ref h_m), (3, .int l3)] → W p l e rm_X9_desk s m args below meth c H locs 0 0 QQ (F0 m 23 ls []) := by
    intro l3 m_h m_w f_m_desk hq H locs hP hD hS ls hl
    obtain ⟨n, hq⟩ := hq
    exact L23 _ _ n _ _ hq H locs hP hD hS ls hl
  unfold q_X9_desk at hq
  refine lv_iload_n hx hb dX9_desk_0 rfl (lv_at hl 1 rfl) ?_
  refine lv_iload_n hx hb dX9_desk_1 rfl (lv_at hl 2 rfl) ?_
  refine gx_cSi (As := [.int l1, .int l2]) (rest := []) ⟨hx, hb, hml, hown, hts⟩ (c_X9_isSize l dC dI cI cJ cZ s.heap.size l1 l2 hq) (va_cwS 2 hts gX9_desk_X9_isSize rfl rfl rfl hdS_X9_isSize ⟨Nat.le_of_ble_eq_true rfl, Nat.le_of_ble_eq_true rfl⟩) hK hP hD hS hA [] [0, 1] rfl rfl rfl rfl rfl rfl hl.1 (Nat.le_of_ble_eq_true rfl) dX9_desk_2 rfl (fun r1 u H locs hq hP hD hS => ?_)
  try dsimp only at hq
  have hP : va_P (dC, dI) vwCl (W_X9_desk cI cJ cZ h_m h_m_desk h_m_allowed h_m_letters h_m_acts h_m_thens h_m_fits h_m_top h_m_bottom h_m_may h_m_ways h_m_found h_m_unlike h_m_seen h_m_seenThen h_m_power h_m_square h_m_product h_m_isLive h_m_down h_m_up h_m_ground h_m_met m_colours m_h m_w m_states m_rows m_ends m_steps m_last f_m_desk) H := hP
  have hD : va_D A (W_X9_desk cI cJ cZ h_m h_m_desk h_m_allowed h_m_letters h_m_acts h_m_thens h_m_fits h_m_top h_m_bottom h_m_may h_m_ways h_m_found h_m_unlike h_m_seen h_m_seenThen h_m_power h_m_square h_m_product h_m_isLive h_m_down h_m_up h_m_ground h_m_met m_colours m_h m_w m_states m_rows m_ends m_steps m_last f_m_desk) := hD
  refine lv_if_ne (tgt := 11) hx hb dX9_desk_5 (by decide) (fun c2 => ?_) (fun c2 => ?_)
  · replace hq := hq.1 c2
    refine lv_aload_n hx hb dX9_desk_11 rfl (lv_at hl 0 rfl) ?_
    refine lv_iload_n hx hb dX9_desk_12 rfl (lv_at hl 1 rfl) ?_
    refine va_put (D := (dC, dI)) (ci := 9) (v := .int l1) (ty := tyX9 2) (C := RX9) (T := TX9) (N := 30) hx hb hts hinX9 tyX9 tyX9_ok nmX9 hown hK hP hD hS 0 rfl rfl 2 (by decide) hf17 (fun _ h9 => h9) rfl (tyX9_ok 2 (by decide)) rfl rfl (Nat.le_of_ble_eq_true rfl) dX9_desk_13 (fun H locs hP hD hS => ?_)
    have hP : va_P (dC, dI) vwCl (W_X9_desk cI cJ cZ h_m h_m_desk h_m_allowed h_m_letters h_m_acts h_m_thens h_m_fits h_m_top h_m_bottom h_m_may h_m_ways h_m_found h_m_unlike h_m_seen h_m_seenThen h_m_power h_m_square h_m_product h_m_isLive h_m_down h_m_up h_m_ground h_m_met m_colours l1 m_w m_states m_rows m_ends m_steps m_last f_m_desk) H := hP
    have hD : va_D A (W_X9_desk cI cJ cZ h_m h_m_desk h_m_allowed h_m_letters h_m_acts h_m_thens h_m_fits h_m_top h_m_bottom h_m_may h_m_ways h_m_found h_m_unlike h_m_seen h_m_seenThen h_m_power h_m_square h_m_product h_m_isLive h_m_down h_m_up h_m_ground h_m_met m_colours l1 m_w m_states m_rows m_ends m_steps m_last f_m_desk) := hD
    refine lv_aload_n hx hb dX9_desk_16 rfl (lv_at hl 0 rfl) ?_
    refine lv_iload_n hx hb dX9_desk_17 rfl (lv_at hl 2 rfl) ?_
    refine va_put (D := (dC, dI)) (ci := 9) (v := .int l2) (ty := tyX9 3) (C := RX9) (T := TX9) (N := 30) hx hb hts hinX9 tyX9 tyX9_ok nmX9 hown hK hP hD hS 0 rfl rfl 3 (by decide) hf20 (fun _ h9 => h9) rfl (tyX9_ok 3 (by decide)) rfl rfl (Nat.le_of_ble_eq_true rfl) dX9_desk_18 (fun H locs hP hD hS => ?_)
    have hP : va_P (dC, dI) vwCl (W_X9_desk cI cJ cZ h_m h_m_desk h_m_allowed h_m_letters h_m_acts h_m_thens h_m_fits h_m_top h_m_bottom h_m_may h_m_ways h_m_found h_m_unlike h_m_seen h_m_seenThen h_m_power h_m_square h_m_product h_m_isLive h_m_down h_m_up h_m_ground h_m_met m_colours l1 l2 m_states m_rows m_ends m_steps m_last f_m_desk) H := hP
    have hD : va_D A (W_X9_desk cI cJ cZ h_m h_m_desk h_m_allowed h_m_letters h_m_acts h_m_thens h_m_fits h_m_top h_m_bottom h_m_may h_m_ways h_m_found h_m_unlike h_m_seen h_m_seenThen h_m_power h_m_square h_m_product h_m_isLive h_m_down h_m_up h_m_ground h_m_met m_colours l1 l2 m_states m_rows m_ends m_steps m_last f_m_desk) := hD
    refine lv_iconst (v := (0 : Int32)) hx hb dX9_desk_21 (by decide) ?_
    refine lv_istore_n (lv' := [(3, .int (0 : Int32)), (0, .ref h_m), (1, .int l1), (2, .int l2)]) hx hb dX9_desk_22 rfl hl (by decide) rfl (fun ls hl => ?_)
    exact C23 _ _ _ _ hq _ _ hP hD hS _ (lv_sub hl [1, 0] rfl)
  · replace hq := hq.2 c2
    refine lv_bipush (v := (-3 : Int32)) hx hb dX9_desk_8 (by decide) ?_
    exact hret (-3 : Int32) (m_h, m_w, f_m_desk) hq _ _ hP hD hS _ _ dX9_desk_10

abbrev W_X9_isCell (cI cJ cZ : ClassId) (h_m h_m_allowed h_m_desk h_m_letters h_m_acts h_m_thens h_m_fits h_m_top h_m_bottom h_m_may h_m_ways h_m_found h_m_unlike h_m_seen h_m_seenThen h_m_power h_m_square h_m_product h_m_isLive h_m_down h_m_up h_m_ground h_m_met : Nat) (m_colours : Int32) (m_h : Int32) (m_w : Int32) (m_states : Int32) (m_rows : Int32) (m_ends : Int32) (m_steps : Int32) (m_last : Int32) : va_W := [(h_m, .inr (9, [.int m_colours, .ref h_m_allowed, .int m_h, .int m_w, .ref h_m_desk, .ref h_m_letters, .int m_states, .ref h_m_acts, .ref h_m_thens, .ref h_m_fits, .ref h_m_top, .ref h_m_bottom, .int m_rows, .ref h_m_may, .ref h_m_ways, .ref h_m_found, .ref h_m_unlike, .ref h_m_seen, .ref h_m_seenThen, .ref h_m_power, .ref h_m_square, .ref h_m_product, .ref h_m_isLive, .ref h_m_down, .ref h_m_up, .ref h_m_ground, .ref h_m_met, .int m_ends, .int m_steps, .int m_last]))]
abbrev rm_X9_isCell : Room := { frames := 1, cells := 0, slots := 0, locals := 25 }
def q_X9_isCell (m_h : Int32) (m_w : Int32) (l1 : Int32) (post : Int32 → Prop) : Prop := (q_X9_in ((l1).toInt64) (0 : Int64) (((m_h * m_w) - (1 : Int32)).toInt64) (fun (r1 : Int32) => ((r1 = 0 ∨ r1 = 1) ∧ (post r1))))
theorem hdV_X9_isCell : yX9_isCell.cls = RX9 ∧ yX9_isCell.cls ≠ "java/lang/invoke/MethodHandle" ∧ yX9_isCell.cls ≠ "java/lang/invoke/VarHandle" ∧ (parseMethodDescriptor yX9_isCell.desc).map (fun d => d.parameters.length) = some 1 := by decide +kernel
set_option maxHeartbeats 4000000 in
set_option maxRecDepth 100000 in
theorem c_X9_isCell (l : Launch) (dC : Nat → ClassId) (dI : Nat → Nat → Nat) (cI cJ cZ : ClassId) (h_m h_m_allowed h_m_desk h_m_letters h_m_acts h_m_thens h_m_fits h_m_top h_m_bottom h_m_may h_m_ways h_m_found h_m_unlike h_m_seen h_m_seenThen h_m_power h_m_square h_m_product h_m_isLive h_m_down h_m_up h_m_ground h_m_met : Nat) (sz : Nat) (m_colours : Int32) (m_h : Int32) (m_w : Int32) (m_states : Int32) (m_rows : Int32) (m_ends : Int32) (m_steps : Int32) (m_last : Int32) (l1 : Int32) {post : Int32 → Prop} (hq : q_X9_isCell m_h m_w l1 post) : Met l yX9_isCell wsX9_isCell rm_X9_isCell (va_Pc [.ref h_m, .int l1] (gx_Pre (dC, dI) vwCl (gx_tys cI cJ cZ) sz (W_X9_isCell cI cJ cZ h_m h_m_allowed h_m_desk h_m_letters h_m_acts h_m_thens h_m_fits h_m_top h_m_bottom h_m_may h_m_ways h_m_found h_m_unlike h_m_seen h_m_seenThen h_m_power h_m_square h_m_product h_m_isLive h_m_down h_m_up h_m_ground h_m_met m_colours m_h m_w m_states m_rows m_ends m_steps m_last))) (va_Qi (fun (r : Int32) (u : Unit) => post r) (gx_B (dC, dI) vwCl (gx_tys cI cJ cZ) (va_A (W_X9_isCell cI cJ cZ h_m h_m_allowed h_m_desk h_m_letters h_m_acts h_m_thens h_m_fits h_m_top h_m_bottom h_m_may h_m_ways h_m_found h_m_unlike h_m_seen h_m_seenThen h_m_power h_m_square h_m_product h_m_isLive h_m_down h_m_up h_m_ground h_m_met m_colours m_h m_w m_states m_rows m_ends m_steps m_last) sz) (fun (u : Unit) => (W_X9_isCell cI cJ cZ h_m h_m_allowed h_m_desk h_m_letters h_m_acts h_m_thens h_m_fits h_m_top h_m_bottom h_m_may h_m_ways h_m_found h_m_unlike h_m_seen h_m_seenThen h_m_power h_m_square h_m_product h_m_isLive h_m_down h_m_up h_m_ground h_m_met m_colours m_h m_w m_states m_rows m_ends m_steps m_last))) (va_A (W_X9_isCell cI cJ cZ h_m h_m_allowed h_m_desk h_m_letters h_m_acts h_m_thens h_m_fits h_m_top h_m_bottom h_m_may h_m_ways h_m_found h_m_unlike h_m_seen h_m_seenThen h_m_power h_m_square h_m_product h_m_isLive h_m_down h_m_up h_m_ground h_m_met m_colours m_h m_w m_states m_rows m_ends m_steps m_last) sz)) 0 0 (va_A (W_X9_isCell cI cJ cZ h_m h_m_allowed h_m_desk h_m_letters h_m_acts h_m_thens h_m_fits h_m_top h_m_bottom h_m_may h_m_ways h_m_found h_m_unlike h_m_seen h_m_seenThen h_m_power h_m_square h_m_product h_m_isLive h_m_down h_m_up h_m_ground h_m_met m_colours m_h m_w m_states m_rows m_ends m_steps m_last) sz) := by
  refine gx_z (cc := cX9_isCell) (maxL := 2) (by decide) rfl (Nat.le_of_ble_eq_true rfl) ?_
  intro p e s m args below meth c A QQ hx hb hml hown hts hA hP hK hD hret ls hl
  have hown : s.vm.findClass RX9 = some m.cls := hown
  have hf17 := hts (.fieldLink RX9 17 "SmallWindowsModel" "h" "I") (by decide +kernel)
  have hf20 := hts (.fieldLink RX9 20 "SmallWindowsModel" "w" "I") (by decide +kernel)
  have hinX9 : ∀ w ∈ u_ws RX9 TX9 30, w ∈ wsX9_isCell := fun w h => List.mem_cons_of_mem _ ((List.mem_append_right _ h))
  have hS : va_S A s.heap s.heap [] := va_S.rf
  have hl : lv_has ls 2 [(0, .ref h_m), (1, .int l1)] := hl
  unfold q_X9_isCell at hq
  refine lv_iload_n hx hb dX9_isCell_0 rfl (lv_at hl 1 rfl) ?_
  refine lv_i2l hx hb dX9_isCell_1 rfl ?_
  refine lv_lconst (v := (0 : Int64)) hx hb dX9_isCell_2 (by decide) ?_
  refine lv_aload_n hx hb dX9_isCell_3 rfl (lv_at hl 0 rfl) ?_
  refine va_get (D := (dC, dI)) (ci := 9) (v := .int m_h) (C := RX9) (T := TX9) (N := 30) hx hb hts hinX9 hown hK hP 0 rfl rfl 2 (by decide) hf17 (fun _ h9 => h9) rfl dX9_isCell_4 ?_
  refine lv_aload_n hx hb dX9_isCell_7 rfl (lv_at hl 0 rfl) ?_
  refine va_get (D := (dC, dI)) (ci := 9) (v := .int m_w) (C := RX9) (T := TX9) (N := 30) hx hb hts hinX9 hown hK hP 0 rfl rfl 3 (by decide) hf20 (fun _ h9 => h9) rfl dX9_isCell_8 ?_
  refine lv_imul hx hb dX9_isCell_11 ?_
  refine lv_iconst (v := (1 : Int32)) hx hb dX9_isCell_12 (by decide) ?_
  refine lv_isub hx hb dX9_isCell_13 ?_
  refine lv_i2l hx hb dX9_isCell_14 rfl ?_
  refine gx_cSi (As := [.long ((l1).toInt64), .long (0 : Int64), .long (((m_h * m_w) - (1 : Int32)).toInt64)]) (rest := []) ⟨hx, hb, hml, hown, hts⟩ (c_X9_in l dC dI cI cJ cZ s.heap.size ((l1).toInt64) (0 : Int64) (((m_h * m_w) - (1 : Int32)).toInt64) hq) (va_cwS 3 hts gX9_isCell_X9_in rfl rfl rfl hdS_X9_in ⟨Nat.le_of_ble_eq_true rfl, Nat.le_of_ble_eq_true rfl⟩) hK hP hD hS hA [] [0] rfl rfl rfl rfl rfl rfl hl.1 (Nat.le_of_ble_eq_true rfl) dX9_isCell_15 rfl (fun r1 u H locs hq hP hD hS => ?_)
  try dsimp only at hq
  have hP : va_P (dC, dI) vwCl (W_X9_isCell cI cJ cZ h_m h_m_allowed h_m_desk h_m_letters h_m_acts h_m_thens h_m_fits h_m_top h_m_bottom h_m_may h_m_ways h_m_found h_m_unlike h_m_seen h_m_seenThen h_m_power h_m_square h_m_product h_m_isLive h_m_down h_m_up h_m_ground h_m_met m_colours m_h m_w m_states m_rows m_ends m_steps m_last) H := hP
  have hD : va_D A (W_X9_isCell cI cJ cZ h_m h_m_allowed h_m_desk h_m_letters h_m_acts h_m_thens h_m_fits h_m_top h_m_bottom h_m_may h_m_ways h_m_found h_m_unlike h_m_seen h_m_seenThen h_m_power h_m_square h_m_product h_m_isLive h_m_down h_m_up h_m_ground h_m_met m_colours m_h m_w m_states m_rows m_ends m_steps m_last) := hD
  obtain ⟨hb2, hq⟩ := hq
  exact hret r1 () hb2 hq _ _ hP hD hS _ _ dX9_isCell_18

abbrev W_X9_cell (cI cJ cZ : ClassId) (h_m h_m_desk h_m_allowed h_m_letters h_m_acts h_m_thens h_m_fits h_m_top h_m_bottom h_m_may h_m_ways h_m_found h_m_unlike h_m_seen h_m_seenThen h_m_power h_m_square h_m_product h_m_isLive h_m_down h_m_up h_m_ground h_m_met : Nat) (m_colours : Int32) (m_h : Int32) (m_w : Int32) (m_states : Int32) (m_rows : Int32) (m_ends : Int32) (m_steps : Int32) (m_last : Int32) (f_m_desk : Nat → Int32) : va_W := [(h_m, .inr (9, [.int m_colours, .ref h_m_allowed, .int m_h, .int m_w, .ref h_m_desk, .ref h_m_letters, .int m_states, .ref h_m_acts, .ref h_m_thens, .ref h_m_fits, .ref h_m_top, .ref h_m_bottom, .int m_rows, .ref h_m_may, .ref h_m_ways, .ref h_m_found, .ref h_m_unlike, .ref h_m_seen, .ref h_m_seenThen, .ref h_m_power, .ref h_m_square, .ref h_m_product, .ref h_m_isLive, .ref h_m_down, .ref h_m_up, .ref h_m_ground, .ref h_m_met, .int m_ends, .int m_steps, .int m_last])), (h_m_desk, .inl (cI, 25, .inl f_m_desk))]
abbrev rm_X9_cell : Room := { frames := 2, cells := 0, slots := 0, locals := 46 }
def q_X9_cell (m_colours : Int32) (m_h : Int32) (m_w : Int32) (f_m_desk : Nat → Int32) (l1 : Int32) (l2 : Int32) (post : Int32 → (Nat → Int32) → Prop) : Prop := (q_X9_isCell m_h m_w l1 (fun (r1 : Int32) => ((r1 = 0 → (post (-2 : Int32) f_m_desk)) ∧ (¬ r1 = 0 → (q_X9_in ((l2).toInt64) (-1 : Int64) ((m_colours - (1 : Int32)).toInt64) (fun (r3 : Int32) => ((¬ r3 = 0 → (vp_in l1 25 ∧ (vp_in l1 25 ∧ (post (f_m_desk (l1).toNatClampNeg) (upd f_m_desk (l1).toNatClampNeg l2))))) ∧ (r3 = 0 → (post (-2 : Int32) f_m_desk)))))))))
theorem hdV_X9_cell : yX9_cell.cls = RX9 ∧ yX9_cell.cls ≠ "java/lang/invoke/MethodHandle" ∧ yX9_cell.cls ≠ "java/lang/invoke/VarHandle" ∧ (parseMethodDescriptor yX9_cell.desc).map (fun d => d.parameters.length) = some 2 := by decide +kernel
set_option maxHeartbeats 4000000 in
set_option maxRecDepth 100000 in
theorem c_X9_cell (l : Launch) (dC : Nat → ClassId) (dI : Nat → Nat → Nat) (cI cJ cZ : ClassId) (h_m h_m_desk h_m_allowed h_m_letters h_m_acts h_m_thens h_m_fits h_m_top h_m_bottom h_m_may h_m_ways h_m_found h_m_unlike h_m_seen h_m_seenThen h_m_power h_m_square h_m_product h_m_isLive h_m_down h_m_up h_m_ground h_m_met : Nat) (sz : Nat) (m_colours : Int32) (m_h : Int32) (m_w : Int32) (m_states : Int32) (m_rows : Int32) (m_ends : Int32) (m_steps : Int32) (m_last : Int32) (f_m_desk : Nat → Int32) (l1 : Int32) (l2 : Int32) {post : Int32 → (Nat → Int32) → Prop} (hq : q_X9_cell m_colours m_h m_w f_m_desk l1 l2 post) : Met l yX9_cell wsX9_cell rm_X9_cell (va_Pc [.ref h_m, .int l1, .int l2] (gx_Pre (dC, dI) vwCl (gx_tys cI cJ cZ) sz (W_X9_cell cI cJ cZ h_m h_m_desk h_m_allowed h_m_letters h_m_acts h_m_thens h_m_fits h_m_top h_m_bottom h_m_may h_m_ways h_m_found h_m_unlike h_m_seen h_m_seenThen h_m_power h_m_square h_m_product h_m_isLive h_m_down h_m_up h_m_ground h_m_met m_colours m_h m_w m_states m_rows m_ends m_steps m_last f_m_desk))) (va_Qi (fun (r : Int32) (u : (Nat → Int32)) => post r u) (gx_B (dC, dI) vwCl (gx_tys cI cJ cZ) (va_A (W_X9_cell cI cJ cZ h_m h_m_desk h_m_allowed h_m_letters h_m_acts h_m_thens h_m_fits h_m_top h_m_bottom h_m_may h_m_ways h_m_found h_m_unlike h_m_seen h_m_seenThen h_m_power h_m_square h_m_product h_m_isLive h_m_down h_m_up h_m_ground h_m_met m_colours m_h m_w m_states m_rows m_ends m_steps m_last f_m_desk) sz) (fun (u : (Nat → Int32)) => (W_X9_cell cI cJ cZ h_m h_m_desk h_m_allowed h_m_letters h_m_acts h_m_thens h_m_fits h_m_top h_m_bottom h_m_may h_m_ways h_m_found h_m_unlike h_m_seen h_m_seenThen h_m_power h_m_square h_m_product h_m_isLive h_m_down h_m_up h_m_ground h_m_met m_colours m_h m_w m_states m_rows m_ends m_steps m_last u))) (va_A (W_X9_cell cI cJ cZ h_m h_m_desk h_m_allowed h_m_letters h_m_acts h_m_thens h_m_fits h_m_top h_m_bottom h_m_may h_m_ways h_m_found h_m_unlike h_m_seen h_m_seenThen h_m_power h_m_square h_m_product h_m_isLive h_m_down h_m_up h_m_ground h_m_met m_colours m_h m_w m_states m_rows m_ends m_steps m_last f_m_desk) sz)) 0 0 (va_A (W_X9_cell cI cJ cZ h_m h_m_desk h_m_allowed h_m_letters h_m_acts h_m_thens h_m_fits h_m_top h_m_bottom h_m_may h_m_ways h_m_found h_m_unlike h_m_seen h_m_seenThen h_m_power h_m_square h_m_product h_m_isLive h_m_down h_m_up h_m_ground h_m_met m_colours m_h m_w m_states m_rows m_ends m_steps m_last f_m_desk) sz) := by
  refine gx_i (cc := cX9_cell) (maxL := 4) (by decide) rfl (Nat.le_of_ble_eq_true rfl) ?_
  intro p e s m args below meth c A QQ hx hb hml hown hts hA hP hK hD hret ls hl
  have hown : s.vm.findClass RX9 = some m.cls := hown
  have hcl123 := hts (.constantLong RX9 123 (-1)) (by decide +kernel)
  have hf7 := hts (.fieldLink RX9 7 "SmallWindowsModel" "colours" "I") (by decide +kernel)
  have hf23 := hts (.fieldLink RX9 23 "SmallWindowsModel" "desk" "[I") (by decide +kernel)
  have hinX9 : ∀ w ∈ u_ws RX9 TX9 30, w ∈ wsX9_cell := fun w h => List.mem_cons_of_mem _ ((List.mem_append_right _ h))
  have hS : va_S A s.heap s.heap [] := va_S.rf
  have hl : lv_has ls 4 [(0, .ref h_m), (1, .int l1), (2, .int l2)] := hl
  unfold q_X9_cell at hq
  refine lv_aload_n hx hb dX9_cell_0 rfl (lv_at hl 0 rfl) ?_
  refine lv_iload_n hx hb dX9_cell_1 rfl (lv_at hl 1 rfl) ?_
  refine gx_cVi (C := RX9) (As := [.int l1]) (rest := []) ⟨hx, hb, hml, hown, hts⟩ (c_X9_isCell l dC dI cI cJ cZ h_m h_m_allowed h_m_desk h_m_letters h_m_acts h_m_thens h_m_fits h_m_top h_m_bottom h_m_may h_m_ways h_m_found h_m_unlike h_m_seen h_m_seenThen h_m_power h_m_square h_m_product h_m_isLive h_m_down h_m_up h_m_ground h_m_met s.heap.size m_colours m_h m_w m_states m_rows m_ends m_steps m_last l1 hq) (cwV 1 hts gX9_cell_X9_isCell rfl rfl rfl hdV_X9_isCell ⟨Nat.le_of_ble_eq_true rfl, Nat.le_of_ble_eq_true rfl⟩) hK hP hD hS hA [0] [1] rfl rfl rfl rfl rfl (ci := 9) (q0 := 0) rfl rfl rfl rfl hl.1 (Nat.le_of_ble_eq_true rfl) dX9_cell_2 rfl (fun r1 u H locs hq hP hD hS => ?_)
  try dsimp only at hq
  have hP : va_P (dC, dI) vwCl (W_X9_cell cI cJ cZ h_m h_m_desk h_m_allowed h_m_letters h_m_acts h_m_thens h_m_fits h_m_top h_m_bottom h_m_may h_m_ways h_m_found h_m_unlike h_m_seen h_m_seenThen h_m_power h_m_square h_m_product h_m_isLive h_m_down h_m_up h_m_ground h_m_met m_colours m_h m_w m_states m_rows m_ends m_steps m_last f_m_desk) H := hP.sub [1, 0] rfl
  have hD : va_D A (W_X9_cell cI cJ cZ h_m h_m_desk h_m_allowed h_m_letters h_m_acts h_m_thens h_m_fits h_m_top h_m_bottom h_m_may h_m_ways h_m_found h_m_unlike h_m_seen h_m_seenThen h_m_power h_m_square h_m_product h_m_isLive h_m_down h_m_up h_m_ground h_m_met m_colours m_h m_w m_states m_rows m_ends m_steps m_last f_m_desk) := hD.sub [1, 0] (by decide) rfl
  refine lv_if_eq (tgt := 26) hx hb dX9_cell_5 (by decide) (fun c2 => ?_) (fun c2 => ?_)
  · replace hq := hq.1 c2
    refine lv_bipush (v := (-2 : Int32)) hx hb dX9_cell_26 (by decide) ?_
    exact hret (-2 : Int32) f_m_desk hq _ _ hP hD hS _ _ dX9_cell_28
  · replace hq := hq.2 c2
    refine lv_iload_n hx hb dX9_cell_8 rfl (lv_at hl 2 rfl) ?_
    refine lv_i2l hx hb dX9_cell_9 rfl ?_
    refine lv_ldc2 hx hb hown hcl123 dX9_cell_10 ?_
    refine lv_aload_n hx hb dX9_cell_13 rfl (lv_at hl 0 rfl) ?_
    refine va_get (D := (dC, dI)) (ci := 9) (v := .int m_colours) (C := RX9) (T := TX9) (N := 30) hx hb hts hinX9 hown hK hP 0 rfl rfl 0 (by decide) hf7 (fun _ h9 => h9) rfl dX9_cell_14 ?_
    refine lv_iconst (v := (1 : Int32)) hx hb dX9_cell_17 (by decide) ?_
    refine lv_isub hx hb dX9_cell_18 ?_
    refine lv_i2l hx hb dX9_cell_19 rfl ?_
    refine gx_cSi (As := [.long ((l2).toInt64), .long (-1 : Int64), .long ((m_colours - (1 : Int32)).toInt64)]) (rest := []) ⟨hx, hb, hml, hown, hts⟩ (c_X9_in l dC dI cI cJ cZ H.size ((l2).toInt64) (-1 : Int64) ((m_colours - (1 : Int32)).toInt64) hq) (va_cwS 3 hts gX9_cell_X9_in rfl rfl rfl hdS_X9_in ⟨Nat.le_of_ble_eq_true rfl, Nat.le_of_ble_eq_true rfl⟩) hK hP hD hS hA [] [0, 1] rfl rfl rfl rfl rfl rfl hl.1 (Nat.le_of_ble_eq_true rfl) dX9_cell_20 rfl (fun r3 u H locs hq hP hD hS => ?_)
    try dsimp only at hq
    have hP : va_P (dC, dI) vwCl (W_X9_cell cI cJ cZ h_m h_m_desk h_m_allowed h_m_letters h_m_acts h_m_thens h_m_fits h_m_top h_m_bottom h_m_may h_m_ways h_m_found h_m_unlike h_m_seen h_m_seenThen h_m_power h_m_square h_m_product h_m_isLive h_m_down h_m_up h_m_ground h_m_met m_colours m_h m_w m_states m_rows m_ends m_steps m_last f_m_desk) H := hP
    have hD : va_D A (W_X9_cell cI cJ cZ h_m h_m_desk h_m_allowed h_m_letters h_m_acts h_m_thens h_m_fits h_m_top h_m_bottom h_m_may h_m_ways h_m_found h_m_unlike h_m_seen h_m_seenThen h_m_power h_m_square h_m_product h_m_isLive h_m_down h_m_up h_m_ground h_m_met m_colours m_h m_w m_states m_rows m_ends m_steps m_last f_m_desk) := hD
    refine lv_if_ne (tgt := 29) hx hb dX9_cell_23 (by decide) (fun c4 => ?_) (fun c4 => ?_)
    · replace hq := hq.1 c4
      refine lv_aload_n hx hb dX9_cell_29 rfl (lv_at hl 0 rfl) ?_
      refine va_get (D := (dC, dI)) (ci := 9) (v := .ref h_m_desk) (C := RX9) (T := TX9) (N := 30) hx hb hts hinX9 hown hK hP 0 rfl rfl 4 (by decide) hf23 (fun _ h9 => h9) rfl dX9_cell_30 ?_
      refine lv_iload_n hx hb dX9_cell_33 rfl (lv_at hl 1 rfl) ?_
      obtain ⟨hv5, hq⟩ := hq
      refine va_iald hx hb hK hP 1 0 rfl rfl hv5 dX9_cell_34 ?_
      refine lv_istore_n (lv' := [(3, .int (f_m_desk (l1).toNatClampNeg)), (0, .ref h_m), (1, .int l1), (2, .int l2)]) hx hb dX9_cell_35 rfl hl (by decide) rfl (fun ls hl => ?_)
      refine lv_aload_n hx hb dX9_cell_36 rfl (lv_at hl 1 rfl) ?_
      refine va_get (D := (dC, dI)) (ci := 9) (v := .ref h_m_desk) (C := RX9) (T := TX9) (N := 30) hx hb hts hinX9 hown hK hP 0 rfl rfl 4 (by decide) hf23 (fun _ h9 => h9) rfl dX9_cell_37 ?_
      refine lv_iload_n hx hb dX9_cell_40 rfl (lv_at hl 2 rfl) ?_
      refine lv_iload_n hx hb dX9_cell_41 rfl (lv_at hl 3 rfl) ?_
      obtain ⟨hv6, hq⟩ := hq
      refine va_iast hx hb hK hP hD hS 1 0 rfl rfl hv6 dX9_cell_42 (fun H locs hP hD hS => ?_)
      have hP : va_P (dC, dI) vwCl (W_X9_cell cI cJ cZ h_m h_m_desk h_m_allowed h_m_letters h_m_acts h_m_thens h_m_fits h_m_top h_m_bottom h_m_may h_m_ways h_m_found h_m_unlike h_m_seen h_m_seenThen h_m_power h_m_square h_m_product h_m_isLive h_m_down h_m_up h_m_ground h_m_met m_colours m_h m_w m_states m_rows m_ends m_steps m_last (upd f_m_desk (l1).toNatClampNeg l2)) H := hP
      have hD : va_D A (W_X9_cell cI cJ cZ h_m h_m_desk h_m_allowed h_m_letters h_m_acts h_m_thens h_m_fits h_m_top h_m_bottom h_m_may h_m_ways h_m_found h_m_unlike h_m_seen h_m_seenThen h_m_power h_m_square h_m_product h_m_isLive h_m_down h_m_up h_m_ground h_m_met m_colours m_h m_w m_states m_rows m_ends m_steps m_last (upd f_m_desk (l1).toNatClampNeg l2)) := hD
      refine lv_iload_n hx hb dX9_cell_43 rfl (lv_at hl 0 rfl) ?_
      exact hret (f_m_desk (l1).toNatClampNeg) (upd f_m_desk (l1).toNatClampNeg l2) hq _ _ hP hD hS _ _ dX9_cell_44
    · replace hq := hq.2 c4
      refine lv_bipush (v := (-2 : Int32)) hx hb dX9_cell_26 (by decide) ?_
      exact hret (-2 : Int32) f_m_desk hq _ _ hP hD hS _ _ dX9_cell_28

abbrev W_X9_paint (cI cJ cZ : ClassId) (h_m h_m_desk h_m_allowed h_m_letters h_m_acts h_m_thens h_m_fits h_m_top h_m_bottom h_m_may h_m_ways h_m_found h_m_unlike h_m_seen h_m_seenThen h_m_power h_m_square h_m_product h_m_isLive h_m_down h_m_up h_m_ground h_m_met : Nat) (m_colours : Int32) (m_h : Int32) (m_w : Int32) (m_states : Int32) (m_rows : Int32) (m_ends : Int32) (m_steps : Int32) (m_last : Int32) (f_m_desk : Nat → Int32) : va_W := [(h_m, .inr (9, [.int m_colours, .ref h_m_allowed, .int m_h, .int m_w, .ref h_m_desk, .ref h_m_letters, .int m_states, .ref h_m_acts, .ref h_m_thens, .ref h_m_fits, .ref h_m_top, .ref h_m_bottom, .int m_rows, .ref h_m_may, .ref h_m_ways, .ref h_m_found, .ref h_m_unlike, .ref h_m_seen, .ref h_m_seenThen, .ref h_m_power, .ref h_m_square, .ref h_m_product, .ref h_m_isLive, .ref h_m_down, .ref h_m_up, .ref h_m_ground, .ref h_m_met, .int m_ends, .int m_steps, .int m_last])), (h_m_desk, .inl (cI, 25, .inl f_m_desk))]
abbrev rm_X9_paint : Room := { frames := 0, cells := 0, slots := 0, locals := 0 }
def r_X9_paint_2 (m_colours : Int32) (m_h : Int32) (m_w : Int32) (post : Int32 → (Nat → Int32) → Prop) (K42 : (Int64) → (Nat → Int32) → Prop) (l1 : Int64) (f_m_desk : Nat → Int32) : Nat → (Int32) → Prop
  | 0, _ => False
  | n + 1, l3 => (((m_h * m_w) ≤ l3 → (K42 l1 f_m_desk)) ∧ (¬ (m_h * m_w) ≤ l3 → ((((l1 >>> ((((2 : Int32) * l3)).toInt64 &&& 63)) &&& (3 : Int64)) < ((m_colours).toInt64) → ((r_X9_paint_2 m_colours m_h m_w post K42 l1 f_m_desk n) (l3 + (1 : Int32)))) ∧ (¬ ((l1 >>> ((((2 : Int32) * l3)).toInt64 &&& 63)) &&& (3 : Int64)) < ((m_colours).toInt64) → (post (-3 : Int32) f_m_desk)))))
def r_X9_paint_44 (m_colours : Int32) (m_h : Int32) (m_w : Int32) (post : Int32 → (Nat → Int32) → Prop) (l1 : Int64) : Nat → (Int32) → (Nat → Int32) → Prop
  | 0, _, _ => False
  | n + 1, l3, f_m_desk => (((m_h * m_w) ≤ l3 → (post (1 : Int32) f_m_desk)) ∧ (¬ (m_h * m_w) ≤ l3 → (vp_in l3 25 ∧ ((r_X9_paint_44 m_colours m_h m_w post l1 n) (l3 + (1 : Int32)) (upd f_m_desk (l3).toNatClampNeg ((((l1 >>> ((((2 : Int32) * l3)).toInt64 &&& 63)) &&& (3 : Int64))).toInt32))))))
def q_X9_paint_44 (m_colours : Int32) (m_h : Int32) (m_w : Int32) (post : Int32 → (Nat → Int32) → Prop) (l1 : Int64) (l3 : Int32) (f_m_desk : Nat → Int32) : Prop := ∃ n, r_X9_paint_44 m_colours m_h m_w post l1 n l3 f_m_desk
def q_X9_paint_42 (m_colours : Int32) (m_h : Int32) (m_w : Int32) (post : Int32 → (Nat → Int32) → Prop) (l1 : Int64) (f_m_desk : Nat → Int32) : Prop := ((q_X9_paint_44 m_colours m_h m_w post) l1 (0 : Int32) f_m_desk)
def q_X9_paint_2 (m_colours : Int32) (m_h : Int32) (m_w : Int32) (post : Int32 → (Nat → Int32) → Prop) (l1 : Int64) (l3 : Int32) (f_m_desk : Nat → Int32) : Prop := ∃ n, r_X9_paint_2 m_colours m_h m_w post (q_X9_paint_42 m_colours m_h m_w post) l1 f_m_desk n l3
def q_X9_paint (m_colours : Int32) (m_h : Int32) (m_w : Int32) (f_m_desk : Nat → Int32) (l1 : Int64) (post : Int32 → (Nat → Int32) → Prop) : Prop := ((q_X9_paint_2 m_colours m_h m_w post) l1 (0 : Int32) f_m_desk)
theorem hdV_X9_paint : yX9_paint.cls = RX9 ∧ yX9_paint.cls ≠ "java/lang/invoke/MethodHandle" ∧ yX9_paint.cls ≠ "java/lang/invoke/VarHandle" ∧ (parseMethodDescriptor yX9_paint.desc).map (fun d => d.parameters.length) = some 1 := by decide +kernel
set_option maxHeartbeats 4000000 in
set_option maxRecDepth 100000 in
theorem c_X9_paint (l : Launch) (dC : Nat → ClassId) (dI : Nat → Nat → Nat) (cI cJ cZ : ClassId) (h_m h_m_desk h_m_allowed h_m_letters h_m_acts h_m_thens h_m_fits h_m_top h_m_bottom h_m_may h_m_ways h_m_found h_m_unlike h_m_seen h_m_seenThen h_m_power h_m_square h_m_product h_m_isLive h_m_down h_m_up h_m_ground h_m_met : Nat) (sz : Nat) (m_colours : Int32) (m_h : Int32) (m_w : Int32) (m_states : Int32) (m_rows : Int32) (m_ends : Int32) (m_steps : Int32) (m_last : Int32) (f_m_desk : Nat → Int32) (l1 : Int64) {post : Int32 → (Nat → Int32) → Prop} (hq : q_X9_paint m_colours m_h m_w f_m_desk l1 post) : Met l yX9_paint wsX9_paint rm_X9_paint (va_Pc [.ref h_m, .long l1] (gx_Pre (dC, dI) vwCl (gx_tys cI cJ cZ) sz (W_X9_paint cI cJ cZ h_m h_m_desk h_m_allowed h_m_letters h_m_acts h_m_thens h_m_fits h_m_top h_m_bottom h_m_may h_m_ways h_m_found h_m_unlike h_m_seen h_m_seenThen h_m_power h_m_square h_m_product h_m_isLive h_m_down h_m_up h_m_ground h_m_met m_colours m_h m_w m_states m_rows m_ends m_steps m_last f_m_desk))) (va_Qi (fun (r : Int32) (u : (Nat → Int32)) => post r u) (gx_B (dC, dI) vwCl (gx_tys cI cJ cZ) (va_A (W_X9_paint cI cJ cZ h_m h_m_desk h_m_allowed h_m_letters h_m_acts h_m_thens h_m_fits h_m_top h_m_bottom h_m_may h_m_ways h_m_found h_m_unlike h_m_seen h_m_seenThen h_m_power h_m_square h_m_product h_m_isLive h_m_down h_m_up h_m_ground h_m_met m_colours m_h m_w m_states m_rows m_ends m_steps m_last f_m_desk) sz) (fun (u : (Nat → Int32)) => (W_X9_paint cI cJ cZ h_m h_m_desk h_m_allowed h_m_letters h_m_acts h_m_thens h_m_fits h_m_top h_m_bottom h_m_may h_m_ways h_m_found h_m_unlike h_m_seen h_m_seenThen h_m_power h_m_square h_m_product h_m_isLive h_m_down h_m_up h_m_ground h_m_met m_colours m_h m_w m_states m_rows m_ends m_steps m_last u))) (va_A (W_X9_paint cI cJ cZ h_m h_m_desk h_m_allowed h_m_letters h_m_acts h_m_thens h_m_fits h_m_top h_m_bottom h_m_may h_m_ways h_m_found h_m_unlike h_m_seen h_m_seenThen h_m_power h_m_square h_m_product h_m_isLive h_m_down h_m_up h_m_ground h_m_met m_colours m_h m_w m_states m_rows m_ends m_steps m_last f_m_desk) sz)) 0 0 (va_A (W_X9_paint cI cJ cZ h_m h_m_desk h_m_allowed h_m_letters h_m_acts h_m_thens h_m_fits h_m_top h_m_bottom h_m_may h_m_ways h_m_found h_m_unlike h_m_seen h_m_seenThen h_m_power h_m_square h_m_product h_m_isLive h_m_down h_m_up h_m_ground h_m_met m_colours m_h m_w m_states m_rows m_ends m_steps m_last f_m_desk) sz) := by
  refine gx_i (cc := cX9_paint) (maxL := 4) (by decide) rfl (Nat.le_of_ble_eq_true rfl) ?_
  intro p e s m args below meth c A QQ hx hb hml hown hts hA hP hK hD hret ls hl
  have hown : s.vm.findClass RX9 = some m.cls := hown
  have hf17 := hts (.fieldLink RX9 17 "SmallWindowsModel" "h" "I") (by decide +kernel)
  have hf20 := hts (.fieldLink RX9 20 "SmallWindowsModel" "w" "I") (by decide +kernel)
  have hcl101 := hts (.constantLong RX9 101 (3)) (by decide +kernel)
  have hf7 := hts (.fieldLink RX9 7 "SmallWindowsModel" "colours" "I") (by decide +kernel)
  have hf23 := hts (.fieldLink RX9 23 "SmallWindowsModel" "desk" "[I") (by decide +kernel)
  have hinX9 : ∀ w ∈ u_ws RX9 TX9 30, w ∈ wsX9_paint := fun w h => List.mem_cons_of_mem _ ((List.mem_append_right _ h))
  have hS : va_S A s.heap s.heap [] := va_S.rf
  have hl : lv_has ls 4 [(0, .ref h_m), (1, .long l1)] := hl
  have L2 : ∀ (K42 : (Int64) → (Nat → Int32) → Prop) (hK42 : (∀ (l1 : Int64) (f_m_desk : Nat → Int32), K42 l1 f_m_desk → ∀ (H : Heap) (locs : List Loc), va_P (dC, dI) vwCl (W_X9_paint cI cJ cZ h_m h_m_desk h_m_allowed h_m_letters h_m_acts h_m_thens h_m_fits h_m_top h_m_bottom h_m_may h_m_ways h_m_found h_m_unlike h_m_seen h_m_seenThen h_m_power h_m_square h_m_product h_m_isLive h_m_down h_m_up h_m_ground h_m_met m_colours m_h m_w m_states m_rows m_ends m_steps m_last f_m_desk) H → va_D A (W_X9_paint cI cJ cZ h_m h_m_desk h_m_allowed h_m_letters h_m_acts h_m_thens h_m_fits h_m_top h_m_bottom h_m_may h_m_ways h_m_found h_m_unlike h_m_seen h_m_seenThen h_m_power h_m_square h_m_product h_m_isLive h_m_down h_m_up h_m_ground h_m_met m_colours m_h m_w m_states m_rows m_ends m_steps m_last f_m_desk) → va_S A s.heap H locs → ∀ ls : Array Slot, lv_has ls 4 [(0, .ref h_m), (1, .long l1)] → W p l e rm_X9_paint s m args below meth c H locs 0 0 QQ (F0 m 42 ls []))) (l1 : Int64) (f_m_desk : Nat → Int32) (n : Nat) (l3 : Int32), r_X9_paint_2 m_colours m_h m_w post K42 l1 f_m_desk n l3 → ∀ (H : Heap) (locs : List Loc), va_P (dC, dI) vwCl (W_X9_paint cI cJ cZ h_m h_m_desk h_m_allowed h_m_letters h_m_acts h_m_thens h_m_fits h_m_top h_m_bottom h_m_may h_m_ways h_m_found h_m_unlike h_m_seen h_m_seenThen h_m_power h_m_square h_m_product h_m_isLive h_m_down h_m_up h_m_ground h_m_met m_colours m_h m_w m_states m_rows m_ends m_steps m_last f_m_desk) H → va_D A (W_X9_paint cI cJ cZ h_m h_m_desk h_m_allowed h_m_letters h_m_acts h_m_thens h_m_fits h_m_top h_m_bottom h_m_may h_m_ways h_m_found h_m_unlike h_m_seen h_m_seenThen h_m_power h_m_square h_m_product h_m_isLive h_m_down h_m_up h_m_ground h_m_met m_colours m_h m_w m_states m_rows m_ends m_steps m_last f_m_desk) → va_S A s.heap H locs → ∀ ls : Array Slot, lv_has ls 4 [(0, .ref h_m), (1, .long l1), (3, .int l3)] → W p l e rm_X9_paint s m args below meth c H locs 0 0 QQ (F0 m 2 ls []) := by
    intro K42 hK42 l1 f_m_desk n
    induction n with
    | zero => intro l3 hq; exact False.elim hq
    | succ n ih =>
      intro l3 hq H locs hP hD hS ls hl
      unfold r_X9_paint_2 at hq
      refine lv_iload_n hx hb dX9_paint_2 rfl (lv_at hl 2 rfl) ?_
      refine lv_aload_n hx hb dX9_paint_3 rfl (lv_at hl 0 rfl) ?_
      refine va_get (D := (dC, dI)) (ci := 9) (v := .int m_h) (C := RX9) (T := TX9) (N := 30) hx hb hts hinX9 hown hK hP 0 rfl rfl 2 (by decide) hf17 (fun _ h9 => h9) rfl dX9_paint_4 ?_
      refine lv_aload_n hx hb dX9_paint_7 rfl (lv_at hl 0 rfl) ?_
      refine va_get (D := (dC, dI)) (ci := 9) (v := .int m_w) (C := RX9) (T := TX9) (N := 30) hx hb hts hinX9 hown hK hP 0 rfl rfl 3 (by decide) hf20 (fun _ h9 => h9) rfl dX9_paint_8 ?_
      refine lv_imul hx hb dX9_paint_11 ?_
      refine lv_icmp_ge (tgt := 42) hx hb dX9_paint_12 (by decide) (fun c1 => ?_) (fun c1 => ?_)
      · replace hq := hq.1 c1
        exact hK42 _ _ hq _ _ hP hD hS _ (lv_sub hl [0, 1] rfl)
      · replace hq := hq.2 c1
        refine lv_lload_n hx hb dX9_paint_15 rfl (lv_at hl 1 rfl) ?_
        refine lv_iconst (v := (2 : Int32)) hx hb dX9_paint_16 (by decide) ?_
        refine lv_iload_n hx hb dX9_paint_17 rfl (lv_at hl 2 rfl) ?_
        refine lv_imul hx hb dX9_paint_18 ?_
        refine lv_lshr hx hb dX9_paint_19 rfl ?_
        refine lv_ldc2 hx hb hown hcl101 dX9_paint_20 ?_
        refine lv_land hx hb dX9_paint_23 ?_
        refine lv_aload_n hx hb dX9_paint_24 rfl (lv_at hl 0 rfl) ?_
        refine va_get (D := (dC, dI)) (ci := 9) (v := .int m_colours) (C := RX9) (T := TX9) (N := 30) hx hb hts hinX9 hown hK hP 0 rfl rfl 0 (by decide) hf7 (fun _ h9 => h9) rfl dX9_paint_25 ?_
        refine lv_i2l hx hb dX9_paint_28 rfl ?_
        refine W.lcmp hx hb dX9_paint_29 ?_
        refine lv_if_lt (tgt := 36) hx hb dX9_paint_30 (by decide) (fun c2 => ?_) (fun c2 => ?_)
        · replace hq := hq.1 ((lg_cmp_lt _ _).mp c2)
          refine lv_iinc (v := (l3 + (1 : Int32))) (lv' := [(3, .int (l3 + (1 : Int32))), (0, .ref h_m), (1, .long l1)]) hx hb dX9_paint_36 hl (k := 2) rfl rfl (by decide) rfl (fun ls hl => ?_)
          refine lv_goto (tgt := 2) hx hb dX9_paint_39 (by decide) ?_
          exact ih _ hq _ _ hP hD hS _ (lv_sub hl [1, 2, 0] rfl)
        · replace hq := hq.2 (fun h => c2 ((lg_cmp_lt _ _).mpr h))
          refine lv_bipush (v := (-3 : Int32)) hx hb dX9_paint_33 (by decide) ?_
          exact hret (-3 : Int32) f_m_desk hq _ _ hP hD hS _ _ dX9_paint_35
  have L44 : ∀ (l1 : Int64) (n : Nat) (l3 : Int32) (f_m_desk : Nat → Int32), r_X9_paint_44 m_colours m_h m_w post l1 n l3 f_m_desk → ∀ (H : Heap) (locs : List Loc), va_P (dC, dI) vwCl (W_X9_paint cI cJ cZ h_m h_m_desk h_m_allowed h_m_letters h_m_acts h_m_thens h_m_fits h_m_top h_m_bottom h_m_may h_m_ways h_m_found h_m_unlike h_m_seen h_m_seenThen h_m_power h_m_square h_m_product h_m_isLive h_m_down h_m_up h_m_ground h_m_met m_colours m_h m_w m_states m_rows m_ends m_steps m_last f_m_desk) H → va_D A (W_X9_paint cI cJ cZ h_m h_m_desk h_m_allowed h_m_letters h_m_acts h_m_thens h_m_fits h_m_top h_m_bottom h_m_may h_m_ways h_m_found h_m_unlike h_m_seen h_m_seenThen h_m_power h_m_square h_m_product h_m_isLive h_m_down h_m_up h_m_ground h_m_met m_colours m_h m_w m_states m_rows m_ends m_steps m_last f_m_desk) → va_S A s.heap H locs → ∀ ls : Array Slot, lv_has ls 4 [(0, .ref h_m), (1, .long l1), (3, .int l3)] → W p l e rm_X9_paint s m args below meth c H locs 0 0 QQ (F0 m 44 ls []) := by
    intro l1 n
    induction n with
    | zero => intro l3 f_m_desk hq; exact False.elim hq
    | succ n ih =>
      intro l3 f_m_desk hq H locs hP hD hS ls hl
      unfold r_X9_paint_44 at hq
      refine lv_iload_n hx hb dX9_paint_44 rfl (lv_at hl 2 rfl) ?_
      refine lv_aload_n hx hb dX9_paint_45 rfl (lv_at hl 0 rfl) ?_
      refine va_get (D := (dC, dI)) (ci := 9) (v := .int m_h) (C := RX9) (T := TX9) (N := 30) hx hb hts hinX9 hown hK hP 0 rfl rfl 2 (by decide) hf17 (fun _ h9 => h9) rfl dX9_paint_46 ?_
      refine lv_aload_n hx hb dX9_paint_49 rfl (lv_at hl 0 rfl) ?_
      refine va_get (D := (dC, dI)) (ci := 9) (v := .int m_w) (C := RX9) (T := TX9) (N := 30) hx hb hts hinX9 hown hK hP 0 rfl rfl 3 (by decide) hf20 (fun _ h9 => h9) rfl dX9_paint_50 ?_
      refine lv_imul hx hb dX9_paint_53 ?_
      refine lv_icmp_ge (tgt := 79) hx hb dX9_paint_54 (by decide) (fun c3 => ?_) (fun c3 => ?_)
      · replace hq := hq.1 c3
        refine lv_iconst (v := (1 : Int32)) hx hb dX9_paint_79 (by decide) ?_
        exact hret (1 : Int32) f_m_desk hq _ _ hP hD hS _ _ dX9_paint_80
      · replace hq := hq.2 c3
        refine lv_aload_n hx hb dX9_paint_57 rfl (lv_at hl 0 rfl) ?_
        refine va_get (D := (dC, dI)) (ci := 9) (v := .ref h_m_desk) (C := RX9) (T := TX9) (N := 30) hx hb hts hinX9 hown hK hP 0 rfl rfl 4 (by decide) hf23 (fun _ h9 => h9) rfl dX9_paint_58 ?_
        refine lv_iload_n hx hb dX9_paint_61 rfl (lv_at hl 2 rfl) ?_
        refine lv_lload_n hx hb dX9_paint_62 rfl (lv_at hl 1 rfl) ?_
        refine lv_iconst (v := (2 : Int32)) hx hb dX9_paint_63 (by decide) ?_
        refine lv_iload_n hx hb dX9_paint_64 rfl (lv_at hl 2 rfl) ?_
        refine lv_imul hx hb dX9_paint_65 ?_
        refine lv_lshr hx hb dX9_paint_66 rfl ?_
        refine lv_ldc2 hx hb hown hcl101 dX9_paint_67 ?_
        refine lv_land hx hb dX9_paint_70 ?_
        refine lv_l2i hx hb dX9_paint_71 rfl ?_
        obtain ⟨hv4, hq⟩ := hq
        refine va_iast hx hb hK hP hD hS 1 0 rfl rfl hv4 dX9_paint_72 (fun H locs hP hD hS => ?_)
        have hP : va_P (dC, dI) vwCl (W_X9_paint cI cJ cZ h_m h_m_desk h_m_allowed h_m_letters h_m_acts h_m_thens h_m_fits h_m_top h_m_bottom h_m_may h_m_ways h_m_found h_m_unlike h_m_seen h_m_seenThen h_m_power h_m_square h_m_product h_m_isLive h_m_down h_m_up h_m_ground h_m_met m_colours m_h m_w m_states m_rows m_ends m_steps m_last (upd f_m_desk (l3).toNatClampNeg ((((l1 >>> ((((2 : Int32) * l3)).toInt64 &&& 63)) &&& (3 : Int64))).toInt32))) H := hP
        have hD : va_D A (W_X9_paint cI cJ cZ h_m h_m_desk h_m_allowed h_m_letters h_m_acts h_m_thens h_m_fits h_m_top h_m_bottom h_m_may h_m_ways h_m_found h_m_unlike h_m_seen h_m_seenThen h_m_power h_m_square h_m_product h_m_isLive h_m_down h_m_up h_m_ground h_m_met m_colours m_h m_w m_states m_rows m_ends m_steps m_last (upd f_m_desk (l3).toNatClampNeg ((((l1 >>> ((((2 : Int32) * l3)).toInt64 &&& 63)) &&& (3 : Int64))).toInt32))) := hD
        refine lv_iinc (v := (l3 + (1 : Int32))) (lv' := [(3, .int (l3 + (1 : Int32))), (0, .ref h_m), (1, .long l1)]) hx hb dX9_paint_73 hl (k := 2) rfl rfl (by decide) rfl (fun ls hl => ?_)
        refine lv_goto (tgt := 44) hx hb dX9_paint_76 (by decide) ?_
        exact ih _ _ hq _ _ hP hD hS _ (lv_sub hl [1, 2, 0] rfl)
  have C44 : ∀ (l1 : Int64) (l3 : Int32) (f_m_desk : Nat → Int32), q_X9_paint_44 m_colours m_h m_w post l1 l3 f_m_desk → ∀ (H : Heap) (locs : List Loc), va_P (dC, dI) vwCl (W_X9_paint cI cJ cZ h_m h_m_desk h_m_allowed h_m_letters h_m_acts h_m_thens h_m_fits h_m_top h_m_bottom h_m_may h_m_ways h_m_found h_m_unlike h_m_seen h_m_seenThen h_m_power h_m_square h_m_product h_m_isLive h_m_down h_m_up h_m_ground h_m_met m_colours m_h m_w m_states m_rows m_ends m_steps m_last f_m_desk) H → va_D A (W_X9_paint cI cJ cZ h_m h_m_desk h_m_allowed h_m_letters h_m_acts h_m_thens h_m_fits h_m_top h_m_bottom h_m_may h_m_ways h_m_found h_m_unlike h_m_seen h_m_seenThen h_m_power h_m_square h_m_product h_m_isLive h_m_down h_m_up h_m_ground h_m_met m_colours m_h m_w m_states m_rows m_ends m_steps m_last f_m_desk) → va_S A s.heap H locs → ∀ ls : Array Slot, lv_has ls 4 [(0, .ref h_m), (1, .long l1), (3, .int l3)] → W p l e rm_X9_paint s m args below meth c H locs 0 0 QQ (F0 m 44 ls []) := by
    intro l1 l3 f_m_desk hq H locs hP hD hS ls hl
    obtain ⟨n, hq⟩ := hq
    exact L44 _ n _ _ hq H locs hP hD hS ls hl
  have C42 : ∀ (l1 : Int64) (f_m_desk : Nat → Int32), q_X9_paint_42 m_colours m_h m_w post l1 f_m_desk → ∀ (H : Heap) (locs : List Loc), va_P (dC, dI) vwCl (W_X9_paint cI cJ cZ h_m h_m_desk h_m_allowed h_m_letters h_m_acts h_m_thens h_m_fits h_m_top h_m_bottom h_m_may h_m_ways h_m_found h_m_unlike h_m_seen h_m_seenThen h_m_power h_m_square h_m_product h_m_isLive h_m_down h_m_up h_m_ground h_m_met m_colours m_h m_w m_states m_rows m_ends m_steps m_last f_m_desk) H → va_D A (W_X9_paint cI cJ cZ h_m h_m_desk h_m_allowed h_m_letters h_m_acts h_m_thens h_m_fits h_m_top h_m_bottom h_m_may h_m_ways h_m_found h_m_unlike h_m_seen h_m_seenThen h_m_power h_m_square h_m_product h_m_isLive h_m_down h_m_up h_m_ground h_m_met m_colours m_h m_w m_states m_rows m_ends m_steps m_last f_m_desk) → va_S A s.heap H locs → ∀ ls : Array Slot, lv_has ls 4 [(0, .ref h_m), (1, .long l1)] → W p l e rm_X9_paint s m args below meth c H locs 0 0 QQ (F0 m 42 ls []) := by
    intro l1 f_m_desk hq H locs hP hD hS ls hl
    unfold q_X9_paint_42 at hq
    refine lv_iconst (v := (0 : Int32)) hx hb dX9_paint_42 (by decide) ?_
    refine lv_istore_n (lv' := [(3, .int (0 : Int32)), (0, .ref h_m), (1, .long l1)]) hx hb dX9_paint_43 rfl hl (by decide) rfl (fun ls hl => ?_)
    exact C44 _ _ _ hq _ _ hP hD hS _ (lv_sub hl [1, 2, 0] rfl)
  have C2 : ∀ (l1 : Int64) (l3 : Int32) (f_m_desk : Nat → Int32), q_X9_paint_2 m_colours m_h m_w post l1 l3 f_m_desk → ∀ (H : Heap) (locs : List Loc), va_P (dC, dI) vwCl (W_X9_paint cI cJ cZ h_m h_m_desk h_m_allowed h_m_letters h_m_acts h_m_thens h_m_fits h_m_top h_m_bottom h_m_may h_m_ways h_m_found h_m_unlike h_m_seen h_m_seenThen h_m_power h_m_square h_m_product h_m_isLive h_m_down h_m_up h_m_ground h_m_met m_colours m_h m_w m_states m_rows m_ends m_steps m_last f_m_desk) H → va_D A (W_X9_paint cI cJ cZ h_m h_m_desk h_m_allowed h_m_letters h_m_acts h_m_thens h_m_fits h_m_top h_m_bottom h_m_may h_m_ways h_m_found h_m_unlike h_m_seen h_m_seenThen h_m_power h_m_square h_m_product h_m_isLive h_m_down h_m_up h_m_ground h_m_met m_colours m_h m_w m_states m_rows m_ends m_steps m_last f_m_desk) → va_S A s.heap H locs → ∀ ls : Array Slot, lv_has ls 4 [(0, .ref h_m), (1, .long l1), (3, .int l3)] → W p l e rm_X9_paint s m args below meth c H locs 0 0 QQ (F0 m 2 ls []) := by
    intro l1 l3 f_m_desk hq H locs hP hD hS ls hl
    obtain ⟨n, hq⟩ := hq
    exact L2 _ C42 _ _ n _ hq H locs hP hD hS ls hl
  unfold q_X9_paint at hq
  refine lv_iconst (v := (0 : Int32)) hx hb dX9_paint_0 (by decide) ?_
  refine lv_istore_n (lv' := [(3, .int (0 : Int32)), (0, .ref h_m), (1, .long l1)]) hx hb dX9_paint_1 rfl hl (by decide) rfl (fun ls hl => ?_)
  exact C2 _ _ _ hq _ _ hP hD hS _ (lv_sub hl [1, 2, 0] rfl)

abbrev W_X9_gaps (cI cJ cZ : ClassId) (h_m h_m_desk h_m_allowed h_m_letters h_m_acts h_m_thens h_m_fits h_m_top h_m_bottom h_m_may h_m_ways h_m_found h_m_unlike h_m_seen h_m_seenThen h_m_power h_m_square h_m_product h_m_isLive h_m_down h_m_up h_m_ground h_m_met : Nat) (m_colours : Int32) (m_h : Int32) (m_w : Int32) (m_states : Int32) (m_rows : Int32) (m_ends : Int32) (m_steps : Int32) (m_last : Int32) (f_m_desk : Nat → Int32) : va_W := [(h_m, .inr (9, [.int m_colours, .ref h_m_allowed, .int m_h, .int m_w, .ref h_m_desk, .ref h_m_letters, .int m_states, .ref h_m_acts, .ref h_m_thens, .ref h_m_fits, .ref h_m_top, .ref h_m_bottom, .int m_rows, .ref h_m_may, .ref h_m_ways, .ref h_m_found, .ref h_m_unlike, .ref h_m_seen, .ref h_m_seenThen, .ref h_m_power, .ref h_m_square, .ref h_m_product, .ref h_m_isLive, .ref h_m_down, .ref h_m_up, .ref h_m_ground, .ref h_m_met, .int m_ends, .int m_steps, .int m_last])), (h_m_desk, .inl (cI, 25, .inl f_m_desk))]
abbrev rm_X9_gaps : Room := { frames := 0, cells := 0, slots := 0, locals := 0 }
def r_X9_gaps_4 (m_h : Int32) (m_w : Int32) (f_m_desk : Nat → Int32) (post : Int32 → Prop) : Nat → (Int32) → (Int32) → Prop
  | 0, _, _ => False
  | n + 1, l1, l2 => (((m_h * m_w) ≤ l2 → (post l1)) ∧ (¬ (m_h * m_w) ≤ l2 → (vp_in l2 25 ∧ ((¬ (f_m_desk (l2).toNatClampNeg) = (-1 : Int32) → ((r_X9_gaps_4 m_h m_w f_m_desk post n) (l1 + (0 : Int32)) (l2 + (1 : Int32)))) ∧ ((f_m_desk (l2).toNatClampNeg) = (-1 : Int32) → ((r_X9_gaps_4 m_h m_w f_m_desk post n) (l1 + (1 : Int32)) (l2 + (1 : Int32))))))))
def q_X9_gaps_4 (m_h : Int32) (m_w : Int32) (f_m_desk : Nat → Int32) (post : Int32 → Prop) (l1 : Int32) (l2 : Int32) : Prop := ∃ n, r_X9_gaps_4 m_h m_w f_m_desk post n l1 l2
def q_X9_gaps (m_h : Int32) (m_w : Int32) (f_m_desk : Nat → Int32) (post : Int32 → Prop) : Prop := ((q_X9_gaps_4 m_h m_w f_m_desk post) (0 : Int32) (0 : Int32))
theorem hdV_X9_gaps : yX9_gaps.cls = RX9 ∧ yX9_gaps.cls ≠ "java/lang/invoke/MethodHandle" ∧ yX9_gaps.cls ≠ "java/lang/invoke/VarHandle" ∧ (parseMethodDescriptor yX9_gaps.desc).map (fun d => d.parameters.length) = some 0 := by decide +kernel
set_option maxHeartbeats 4000000 in
set_option maxRecDepth 100000 in
theorem c_X9_gaps (l : Launch) (dC : Nat → ClassId) (dI : Nat → Nat → Nat) (cI cJ cZ : ClassId) (h_m h_m_desk h_m_allowed h_m_letters h_m_acts h_m_thens h_m_fits h_m_top h_m_bottom h_m_may h_m_ways h_m_found h_m_unlike h_m_seen h_m_seenThen h_m_power h_m_square h_m_product h_m_isLive h_m_down h_m_up h_m_ground h_m_met : Nat) (sz : Nat) (m_colours : Int32) (m_h : Int32) (m_w : Int32) (m_states : Int32) (m_rows : Int32) (m_ends : Int32) (m_steps : Int32) (m_last : Int32) (f_m_desk : Nat → Int32)  {post : Int32 → Prop} (hq : q_X9_gaps m_h m_w f_m_desk post) : Met l yX9_gaps wsX9_gaps rm_X9_gaps (va_Pc [.ref h_m] (gx_Pre (dC, dI) vwCl (gx_tys cI cJ cZ) sz (W_X9_gaps cI cJ cZ h_m h_m_desk h_m_allowed h_m_letters h_m_acts h_m_thens h_m_fits h_m_top h_m_bottom h_m_may h_m_ways h_m_found h_m_unlike h_m_seen h_m_seenThen h_m_power h_m_square h_m_product h_m_isLive h_m_down h_m_up h_m_ground h_m_met m_colours m_h m_w m_states m_rows m_ends m_steps m_last f_m_desk))) (va_Qi (fun (r : Int32) (u : Unit) => post r) (gx_B (dC, dI) vwCl (gx_tys cI cJ cZ) (va_A (W_X9_gaps cI cJ cZ h_m h_m_desk h_m_allowed h_m_letters h_m_acts h_m_thens h_m_fits h_m_top h_m_bottom h_m_may h_m_ways h_m_found h_m_unlike h_m_seen h_m_seenThen h_m_power h_m_square h_m_product h_m_isLive h_m_down h_m_up h_m_ground h_m_met m_colours m_h m_w m_states m_rows m_ends m_steps m_last f_m_desk) sz) (fun (u : Unit) => (W_X9_gaps cI cJ cZ h_m h_m_desk h_m_allowed h_m_letters h_m_acts h_m_thens h_m_fits h_m_top h_m_bottom h_m_may h_m_ways h_m_found h_m_unlike h_m_seen h_m_seenThen h_m_power h_m_square h_m_product h_m_isLive h_m_down h_m_up h_m_ground h_m_met m_colours m_h m_w m_states m_rows m_ends m_steps m_last f_m_desk))) (va_A (W_X9_gaps cI cJ cZ h_m h_m_desk h_m_allowed h_m_letters h_m_acts h_m_thens h_m_fits h_m_top h_m_bottom h_m_may h_m_ways h_m_found h_m_unlike h_m_seen h_m_seenThen h_m_power h_m_square h_m_product h_m_isLive h_m_down h_m_up h_m_ground h_m_met m_colours m_h m_w m_states m_rows m_ends m_steps m_last f_m_desk) sz)) 0 0 (va_A (W_X9_gaps cI cJ cZ h_m h_m_desk h_m_allowed h_m_letters h_m_acts h_m_thens h_m_fits h_m_top h_m_bottom h_m_may h_m_ways h_m_found h_m_unlike h_m_seen h_m_seenThen h_m_power h_m_square h_m_product h_m_isLive h_m_down h_m_up h_m_ground h_m_met m_colours m_h m_w m_states m_rows m_ends m_steps m_last f_m_desk) sz) := by
  refine gx_i (cc := cX9_gaps) (maxL := 3) (by decide) rfl (Nat.le_of_ble_eq_true rfl) ?_
  intro p e s m args below meth c A QQ hx hb hml hown hts hA hP hK hD hret ls hl
  have hown : s.vm.findClass RX9 = some m.cls := hown
  have hf17 := hts (.fieldLink RX9 17 "SmallWindowsModel" "h" "I") (by decide +kernel)
  have hf20 := hts (.fieldLink RX9 20 "SmallWindowsModel" "w" "I") (by decide +kernel)
  have hf23 := hts (.fieldLink RX9 23 "SmallWindowsModel" "desk" "[I") (by decide +kernel)
  have hinX9 : ∀ w ∈ u_ws RX9 TX9 30, w ∈ wsX9_gaps := fun w h => List.mem_cons_of_mem _ ((List.mem_append_right _ h))
  have hS : va_S A s.heap s.heap [] := va_S.rf
  have hl : lv_has ls 3 [(0, .ref h_m)] := hl
  have L4 : ∀  (n : Nat) (l1 : Int32) (l2 : Int32), r_X9_gaps_4 m_h m_w f_m_desk post n l1 l2 → ∀ (H : Heap) (locs : List Loc), va_P (dC, dI) vwCl (W_X9_gaps cI cJ cZ h_m h_m_desk h_m_allowed h_m_letters h_m_acts h_m_thens h_m_fits h_m_top h_m_bottom h_m_may h_m_ways h_m_found h_m_unlike h_m_seen h_m_seenThen h_m_power h_m_square h_m_product h_m_isLive h_m_down h_m_up h_m_ground h_m_met m_colours m_h m_w m_states m_rows m_ends m_steps m_last f_m_desk) H → va_D A (W_X9_gaps cI cJ cZ h_m h_m_desk h_m_allowed h_m_letters h_m_acts h_m_thens h_m_fits h_m_top h_m_bottom h_m_may h_m_ways h_m_found h_m_unlike h_m_seen h_m_seenThen h_m_power h_m_square h_m_product h_m_isLive h_m_down h_m_up h_m_ground h_m_met m_colours m_h m_w m_states m_rows m_ends m_steps m_last f_m_desk) → va_S A s.heap H locs → ∀ ls : Array Slot, lv_has ls 3 [(0, .ref h_m), (1, .int l1), (2, .int l2)] → W p l e rm_X9_gaps s m args below meth c H locs 0 0 QQ (F0 m 4 ls []) := by
    intro n
    induction n with
    | zero => intro l1 l2 hq; exact False.elim hq
    | succ n ih =>
      intro l1 l2 hq H locs hP hD hS ls hl
      unfold r_X9_gaps_4 at hq
      refine lv_iload_n hx hb dX9_gaps_4 rfl (lv_at hl 2 rfl) ?_
      refine lv_aload_n hx hb dX9_gaps_5 rfl (lv_at hl 0 rfl) ?_
      refine va_get (D := (dC, dI)) (ci := 9) (v := .int m_h) (C := RX9) (T := TX9) (N := 30) hx hb hts hinX9 hown hK hP 0 rfl rfl 2 (by decide) hf17 (fun _ h9 => h9) rfl dX9_gaps_6 ?_
      refine lv_aload_n hx hb dX9_gaps_9 rfl (lv_at hl 0 rfl) ?_
      refine va_get (D := (dC, dI)) (ci := 9) (v := .int m_w) (C := RX9) (T := TX9) (N := 30) hx hb hts hinX9 hown hK hP 0 rfl rfl 3 (by decide) hf20 (fun _ h9 => h9) rfl dX9_gaps_10 ?_
      refine lv_imul hx hb dX9_gaps_13 ?_
      refine lv_icmp_ge (tgt := 41) hx hb dX9_gaps_14 (by decide) (fun c1 => ?_) (fun c1 => ?_)
      · replace hq := hq.1 c1
        refine lv_iload_n hx hb dX9_gaps_41 rfl (lv_at hl 1 rfl) ?_
        exact hret l1 () hq _ _ hP hD hS _ _ dX9_gaps_42
      · replace hq := hq.2 c1
        refine lv_iload_n hx hb dX9_gaps_17 rfl (lv_at hl 1 rfl) ?_
        refine lv_aload_n hx hb dX9_gaps_18 rfl (lv_at hl 0 rfl) ?_
        refine va_get (D := (dC, dI)) (ci := 9) (v := .ref h_m_desk) (C := RX9) (T := TX9) (N := 30) hx hb hts hinX9 hown hK hP 0 rfl rfl 4 (by decide) hf23 (fun _ h9 => h9) rfl dX9_gaps_19 ?_
        refine lv_iload_n hx hb dX9_gaps_22 rfl (lv_at hl 2 rfl) ?_
        obtain ⟨hv2, hq⟩ := hq
        refine va_iald hx hb hK hP 1 0 rfl rfl hv2 dX9_gaps_23 ?_
        refine lv_iconst (v := (-1 : Int32)) hx hb dX9_gaps_24 (by decide) ?_
        refine lv_icmp_ne (tgt := 32) hx hb dX9_gaps_25 (by decide) (fun c3 => ?_) (fun c3 => ?_)
        · replace hq := hq.1 c3
          refine lv_iconst (v := (0 : Int32)) hx hb dX9_gaps_32 (by decide) ?_
          refine lv_iadd hx hb dX9_gaps_33 ?_
          refine lv_istore_n (lv' := [(1, .int (l1 + (0 : Int32))), (0, .ref h_m), (2, .int l2)]) hx hb dX9_gaps_34 rfl hl (by decide) rfl (fun ls hl => ?_)
          refine lv_iinc (v := (l2 + (1 : Int32))) (lv' := [(2, .int (l2 + (1 : Int32))), (1, .int (l1 + (0 : Int32))), (0, .ref h_m)]) hx hb dX9_gaps_35 hl (k := 2) rfl rfl (by decide) rfl (fun ls hl => ?_)
          refine lv_goto (tgt := 4) hx hb dX9_gaps_38 (by decide) ?_
          exact ih _ _ hq _ _ hP hD hS _ (lv_sub hl [2, 1, 0] rfl)
        · replace hq := hq.2 c3
          refine lv_iconst (v := (1 : Int32)) hx hb dX9_gaps_28 (by decide) ?_
          refine lv_goto (tgt := 33) hx hb dX9_gaps_29 (by decide) ?_
          refine lv_iadd hx hb dX9_gaps_33 ?_
          refine lv_istore_n (lv' := [(1, .int (l1 + (1 : Int32))), (0, .ref h_m), (2, .int l2)]) hx hb dX9_gaps_34 rfl hl (by decide) rfl (fun ls hl => ?_)
          refine lv_iinc (v := (l2 + (1 : Int32))) (lv' := [(2, .int (l2 + (1 : Int32))), (1, .int (l1 + (1 : Int32))), (0, .ref h_m)]) hx hb dX9_gaps_35 hl (k := 2) rfl rfl (by decide) rfl (fun ls hl => ?_)
          refine lv_goto (tgt := 4) hx hb dX9_gaps_38 (by decide) ?_
          exact ih _ _ hq _ _ hP hD hS _ (lv_sub hl [2, 1, 0] rfl)
  have C4 : ∀ (l1 : Int32) (l2 : Int32), q_X9_gaps_4 m_h m_w f_m_desk post l1 l2 → ∀ (H : Heap) (locs : List Loc), va_P (dC, dI) vwCl (W_X9_gaps cI cJ cZ h_m h_m_desk h_m_allowed h_m_letters h_m_acts h_m_thens h_m_fits h_m_top h_m_bottom h_m_may h_m_ways h_m_found h_m_unlike h_m_seen h_m_seenThen h_m_power h_m_square h_m_product h_m_isLive h_m_down h_m_up h_m_ground h_m_met m_colours m_h m_w m_states m_rows m_ends m_steps m_last f_m_desk) H → va_D A (W_X9_gaps cI cJ cZ h_m h_m_desk h_m_allowed h_m_letters h_m_acts h_m_thens h_m_fits h_m_top h_m_bottom h_m_may h_m_ways h_m_found h_m_unlike h_m_seen h_m_seenThen h_m_power h_m_square h_m_product h_m_isLive h_m_down h_m_up h_m_ground h_m_met m_colours m_h m_w m_states m_rows m_ends m_steps m_last f_m_desk) → va_S A s.heap H locs → ∀ ls : Array Slot, lv_has ls 3 [(0, .ref h_m), (1, .int l1), (2, .int l2)] → W p l e rm_X9_gaps s m args below meth c H locs 0 0 QQ (F0 m 4 ls []) := by
    intro l1 l2 hq H locs hP hD hS ls hl
    obtain ⟨n, hq⟩ := hq
    exact L4 n _ _ hq H locs hP hD hS ls hl
  unfold q_X9_gaps at hq
  refine lv_iconst (v := (0 : Int32)) hx hb dX9_gaps_0 (by decide) ?_
  refine lv_istore_n (lv' := [(1, .int (0 : Int32)), (0, .ref h_m)]) hx hb dX9_gaps_1 rfl hl (by decide) rfl (fun ls hl => ?_)
  refine lv_iconst (v := (0 : Int32)) hx hb dX9_gaps_2 (by decide) ?_
  refine lv_istore_n (lv' := [(2, .int (0 : Int32)), (1, .int (0 : Int32)), (0, .ref h_m)]) hx hb dX9_gaps_3 rfl hl (by decide) rfl (fun ls hl => ?_)
  exact C4 _ _ hq _ _ hP hD hS _ (lv_sub hl [2, 1, 0] rfl)

abbrev W_X9_deskAt (cI cJ cZ : ClassId) (h_m h_m_desk h_m_allowed h_m_letters h_m_acts h_m_thens h_m_fits h_m_top h_m_bottom h_m_may h_m_ways h_m_found h_m_unlike h_m_seen h_m_seenThen h_m_power h_m_square h_m_product h_m_isLive h_m_down h_m_up h_m_ground h_m_met : Nat) (m_colours : Int32) (m_h : Int32) (m_w : Int32) (m_states : Int32) (m_rows : Int32) (m_ends : Int32) (m_steps : Int32) (m_last : Int32) (f_m_desk : Nat → Int32) : va_W := [(h_m, .inr (9, [.int m_colours, .ref h_m_allowed, .int m_h, .int m_w, .ref h_m_desk, .ref h_m_letters, .int m_states, .ref h_m_acts, .ref h_m_thens, .ref h_m_fits, .ref h_m_top, .ref h_m_bottom, .int m_rows, .ref h_m_may, .ref h_m_ways, .ref h_m_found, .ref h_m_unlike, .ref h_m_seen, .ref h_m_seenThen, .ref h_m_power, .ref h_m_square, .ref h_m_product, .ref h_m_isLive, .ref h_m_down, .ref h_m_up, .ref h_m_ground, .ref h_m_met, .int m_ends, .int m_steps, .int m_last])), (h_m_desk, .inl (cI, 25, .inl f_m_desk))]
abbrev rm_X9_deskAt : Room := { frames := 1, cells := 0, slots := 0, locals := 25 }
def q_X9_deskAt (m_h : Int32) (m_w : Int32) (f_m_desk : Nat → Int32) (l1 : Int32) (l2 : Int32) (post : Int32 → Prop) : Prop := (q_X9_in ((l1).toInt64) (0 : Int64) ((m_w - (1 : Int32)).toInt64) (fun (r1 : Int32) => ((r1 = 0 → (post (3 : Int32))) ∧ (¬ r1 = 0 → (q_X9_in ((l2).toInt64) (0 : Int64) ((m_h - (1 : Int32)).toInt64) (fun (r3 : Int32) => ((r3 = 0 → (post (3 : Int32))) ∧ (¬ r3 = 0 → (vp_in ((m_w * l2) + l1) 25 ∧ (post (f_m_desk (((m_w * l2) + l1)).toNatClampNeg)))))))))))
theorem hdV_X9_deskAt : yX9_deskAt.cls = RX9 ∧ yX9_deskAt.cls ≠ "java/lang/invoke/MethodHandle" ∧ yX9_deskAt.cls ≠ "java/lang/invoke/VarHandle" ∧ (parseMethodDescriptor yX9_deskAt.desc).map (fun d => d.parameters.length) = some 2 := by decide +kernel
set_option maxHeartbeats 4000000 in
set_option maxRecDepth 100000 in
theorem c_X9_deskAt (l : Launch) (dC : Nat → ClassId) (dI : Nat → Nat → Nat) (cI cJ cZ : ClassId) (h_m h_m_desk h_m_allowed h_m_letters h_m_acts h_m_thens h_m_fits h_m_top h_m_bottom h_m_may h_m_ways h_m_found h_m_unlike h_m_seen h_m_seenThen h_m_power h_m_square h_m_product h_m_isLive h_m_down h_m_up h_m_ground h_m_met : Nat) (sz : Nat) (m_colours : Int32) (m_h : Int32) (m_w : Int32) (m_states : Int32) (m_rows : Int32) (m_ends : Int32) (m_steps : Int32) (m_last : Int32) (f_m_desk : Nat → Int32) (l1 : Int32) (l2 : Int32) {post : Int32 → Prop} (hq : q_X9_deskAt m_h m_w f_m_desk l1 l2 post) : Met l yX9_deskAt wsX9_deskAt rm_X9_deskAt (va_Pc [.ref h_m, .int l1, .int l2] (gx_Pre (dC, dI) vwCl (gx_tys cI cJ cZ) sz (W_X9_deskAt cI cJ cZ h_m h_m_desk h_m_allowed h_m_letters h_m_acts h_m_thens h_m_fits h_m_top h_m_bottom h_m_may h_m_ways h_m_found h_m_unlike h_m_seen h_m_seenThen h_m_power h_m_square h_m_product h_m_isLive h_m_down h_m_up h_m_ground h_m_met m_colours m_h m_w m_states m_rows m_ends m_steps m_last f_m_desk))) (va_Qi (fun (r : Int32) (u : Unit) => post r) (gx_B (dC, dI) vwCl (gx_tys cI cJ cZ) (va_A (W_X9_deskAt cI cJ cZ h_m h_m_desk h_m_allowed h_m_letters h_m_acts h_m_thens h_m_fits h_m_top h_m_bottom h_m_may h_m_ways h_m_found h_m_unlike h_m_seen h_m_seenThen h_m_power h_m_square h_m_product h_m_isLive h_m_down h_m_up h_m_ground h_m_met m_colours m_h m_w m_states m_rows m_ends m_steps m_last f_m_desk) sz) (fun (u : Unit) => (W_X9_deskAt cI cJ cZ h_m h_m_desk h_m_allowed h_m_letters h_m_acts h_m_thens h_m_fits h_m_top h_m_bottom h_m_may h_m_ways h_m_found h_m_unlike h_m_seen h_m_seenThen h_m_power h_m_square h_m_product h_m_isLive h_m_down h_m_up h_m_ground h_m_met m_colours m_h m_w m_states m_rows m_ends m_steps m_last f_m_desk))) (va_A (W_X9_deskAt cI cJ cZ h_m h_m_desk h_m_allowed h_m_letters h_m_acts h_m_thens h_m_fits h_m_top h_m_bottom h_m_may h_m_ways h_m_found h_m_unlike h_m_seen h_m_seenThen h_m_power h_m_square h_m_product h_m_isLive h_m_down h_m_up h_m_ground h_m_met m_colours m_h m_w m_states m_rows m_ends m_steps m_last f_m_desk) sz)) 0 0 (va_A (W_X9_deskAt cI cJ cZ h_m h_m_desk h_m_allowed h_m_letters h_m_acts h_m_thens h_m_fits h_m_top h_m_bottom h_m_may h_m_ways h_m_found h_m_unlike h_m_seen h_m_seenThen h_m_power h_m_square h_m_product h_m_isLive h_m_down h_m_up h_m_ground h_m_met m_colours m_h m_w m_states m_rows m_ends m_steps m_last f_m_desk) sz) := by
  refine gx_i (cc := cX9_deskAt) (maxL := 3) (by decide) rfl (Nat.le_of_ble_eq_true rfl) ?_
  intro p e s m args below meth c A QQ hx hb hml hown hts hA hP hK hD hret ls hl
  have hown : s.vm.findClass RX9 = some m.cls := hown
  have hf20 := hts (.fieldLink RX9 20 "SmallWindowsModel" "w" "I") (by decide +kernel)
  have hf17 := hts (.fieldLink RX9 17 "SmallWindowsModel" "h" "I") (by decide +kernel)
  have hf23 := hts (.fieldLink RX9 23 "SmallWindowsModel" "desk" "[I") (by decide +kernel)
  have hinX9 : ∀ w ∈ u_ws RX9 TX9 30, w ∈ wsX9_deskAt := fun w h => List.mem_cons_of_mem _ ((List.mem_append_right _ h))
  have hS : va_S A s.heap s.heap [] := va_S.rf
  have hl : lv_has ls 3 [(0, .ref h_m), (1, .int l1), (2, .int l2)] := hl
  unfold q_X9_deskAt at hq
  refine lv_iload_n hx hb dX9_deskAt_0 rfl (lv_at hl 1 rfl) ?_
  refine lv_i2l hx hb dX9_deskAt_1 rfl ?_
  refine lv_lconst (v := (0 : Int64)) hx hb dX9_deskAt_2 (by decide) ?_
  refine lv_aload_n hx hb dX9_deskAt_3 rfl (lv_at hl 0 rfl) ?_
  refine va_get (D := (dC, dI)) (ci := 9) (v := .int m_w) (C := RX9) (T := TX9) (N := 30) hx hb hts hinX9 hown hK hP 0 rfl rfl 3 (by decide) hf20 (fun _ h9 => h9) rfl dX9_deskAt_4 ?_
  refine lv_iconst (v := (1 : Int32)) hx hb dX9_deskAt_7 (by decide) ?_
  refine lv_isub hx hb dX9_deskAt_8 ?_
  refine lv_i2l hx hb dX9_deskAt_9 rfl ?_
  refine gx_cSi (As := [.long ((l1).toInt64), .long (0 : Int64), .long ((m_w - (1 : Int32)).toInt64)]) (rest := []) ⟨hx, hb, hml, hown, hts⟩ (c_X9_in l dC dI cI cJ cZ s.heap.size ((l1).toInt64) (0 : Int64) ((m_w - (1 : Int32)).toInt64) hq) (va_cwS 3 hts gX9_deskAt_X9_in rfl rfl rfl hdS_X9_in ⟨Nat.le_of_ble_eq_true rfl, Nat.le_of_ble_eq_true rfl⟩) hK hP hD hS hA [] [0, 1] rfl rfl rfl rfl rfl rfl hl.1 (Nat.le_of_ble_eq_true rfl) dX9_deskAt_10 rfl (fun r1 u H locs hq hP hD hS => ?_)
  try dsimp only at hq
  have hP : va_P (dC, dI) vwCl (W_X9_deskAt cI cJ cZ h_m h_m_desk h_m_allowed h_m_letters h_m_acts h_m_thens h_m_fits h_m_top h_m_bottom h_m_may h_m_ways h_m_found h_m_unlike h_m_seen h_m_seenThen h_m_power h_m_square h_m_product h_m_isLive h_m_down h_m_up h_m_ground h_m_met m_colours m_h m_w m_states m_rows m_ends m_steps m_last f_m_desk) H := hP
  have hD : va_D A (W_X9_deskAt cI cJ cZ h_m h_m_desk h_m_allowed h_m_letters h_m_acts h_m_thens h_m_fits h_m_top h_m_bottom h_m_may h_m_ways h_m_found h_m_unlike h_m_seen h_m_seenThen h_m_power h_m_square h_m_product h_m_isLive h_m_down h_m_up h_m_ground h_m_met m_colours m_h m_w m_states m_rows m_ends m_steps m_last f_m_desk) := hD
  refine lv_if_eq (tgt := 48) hx hb dX9_deskAt_13 (by decide) (fun c2 => ?_) (fun c2 => ?_)
  · replace hq := hq.1 c2
    refine lv_iconst (v := (3 : Int32)) hx hb dX9_deskAt_48 (by decide) ?_
    exact hret (3 : Int32) () hq _ _ hP hD hS _ _ dX9_deskAt_49
  · replace hq := hq.2 c2
    refine lv_iload_n hx hb dX9_deskAt_16 rfl (lv_at hl 2 rfl) ?_
    refine lv_i2l hx hb dX9_deskAt_17 rfl ?_
    refine lv_lconst (v := (0 : Int64)) hx hb dX9_deskAt_18 (by decide) ?_
    refine lv_aload_n hx hb dX9_deskAt_19 rfl (lv_at hl 0 rfl) ?_
    refine va_get (D := (dC, dI)) (ci := 9) (v := .int m_h) (C := RX9) (T := TX9) (N := 30) hx hb hts hinX9 hown hK hP 0 rfl rfl 2 (by decide) hf17 (fun _ h9 => h9) rfl dX9_deskAt_20 ?_
    refine lv_iconst (v := (1 : Int32)) hx hb dX9_deskAt_23 (by decide) ?_
    refine lv_isub hx hb dX9_deskAt_24 ?_
    refine lv_i2l hx hb dX9_deskAt_25 rfl ?_
    refine gx_cSi (As := [.long ((l2).toInt64), .long (0 : Int64), .long ((m_h - (1 : Int32)).toInt64)]) (rest := []) ⟨hx, hb, hml, hown, hts⟩ (c_X9_in l dC dI cI cJ cZ H.size ((l2).toInt64) (0 : Int64) ((m_h - (1 : Int32)).toInt64) hq) (va_cwS 3 hts gX9_deskAt_X9_in rfl rfl rfl hdS_X9_in ⟨Nat.le_of_ble_eq_true rfl, Nat.le_of_ble_eq_true rfl⟩) hK hP hD hS hA [] [0, 1] rfl rfl rfl rfl rfl rfl hl.1 (Nat.le_of_ble_eq_true rfl) dX9_deskAt_26 rfl (fun r3 u H locs hq hP hD hS => ?_)
    try dsimp only at hq
    have hP : va_P (dC, dI) vwCl (W_X9_deskAt cI cJ cZ h_m h_m_desk h_m_allowed h_m_letters h_m_acts h_m_thens h_m_fits h_m_top h_m_bottom h_m_may h_m_ways h_m_found h_m_unlike h_m_seen h_m_seenThen h_m_power h_m_square h_m_product h_m_isLive h_m_down h_m_up h_m_ground h_m_met m_colours m_h m_w m_states m_rows m_ends m_steps m_last f_m_desk) H := hP
    have hD : va_D A (W_X9_deskAt cI cJ cZ h_m h_m_desk h_m_allowed h_m_letters h_m_acts h_m_thens h_m_fits h_m_top h_m_bottom h_m_may h_m_ways h_m_found h_m_unlike h_m_seen h_m_seenThen h_m_power h_m_square h_m_product h_m_isLive h_m_down h_m_up h_m_ground h_m_met m_colours m_h m_w m_states m_rows m_ends m_steps m_last f_m_desk) := hD
    refine lv_if_eq (tgt := 48) hx hb dX9_deskAt_29 (by decide) (fun c4 => ?_) (fun c4 => ?_)
    · replace hq := hq.1 c4
      refine lv_iconst (v := (3 : Int32)) hx hb dX9_deskAt_48 (by decide) ?_
      exact hret (3 : Int32) () hq _ _ hP hD hS _ _ dX9_deskAt_49
    · replace hq := hq.2 c4
      refine lv_aload_n hx hb dX9_deskAt_32 rfl (lv_at hl 0 rfl) ?_
      refine va_get (D := (dC, dI)) (ci := 9) (v := .ref h_m_desk) (C := RX9) (T := TX9) (N := 30) hx hb hts hinX9 hown hK hP 0 rfl rfl 4 (by decide) hf23 (fun _ h9 => h9) rfl dX9_deskAt_33 ?_
      refine lv_aload_n hx hb dX9_deskAt_36 rfl (lv_at hl 0 rfl) ?_
      refine va_get (D := (dC, dI)) (ci := 9) (v := .int m_w) (C := RX9) (T := TX9) (N := 30) hx hb hts hinX9 hown hK hP 0 rfl rfl 3 (by decide) hf20 (fun _ h9 => h9) rfl dX9_deskAt_37 ?_
      refine lv_iload_n hx hb dX9_deskAt_40 rfl (lv_at hl 2 rfl) ?_
      refine lv_imul hx hb dX9_deskAt_41 ?_
      refine lv_iload_n hx hb dX9_deskAt_42 rfl (lv_at hl 1 rfl) ?_
      refine lv_iadd hx hb dX9_deskAt_43 ?_
      obtain ⟨hv5, hq⟩ := hq
      refine va_iald hx hb hK hP 1 0 rfl rfl hv5 dX9_deskAt_44 ?_
      refine lv_goto (tgt := 49) hx hb dX9_deskAt_45 (by decide) ?_
      exact hret (f_m_desk (((m_w * l2) + l1)).toNatClampNeg) () hq _ _ hP hD hS _ _ dX9_deskAt_49

abbrev W_X9_blockAt (cI cJ cZ : ClassId) (h_m h_m_desk h_m_allowed h_m_letters h_m_acts h_m_thens h_m_fits h_m_top h_m_bottom h_m_may h_m_ways h_m_found h_m_unlike h_m_seen h_m_seenThen h_m_power h_m_square h_m_product h_m_isLive h_m_down h_m_up h_m_ground h_m_met : Nat) (m_colours : Int32) (m_h : Int32) (m_w : Int32) (m_states : Int32) (m_rows : Int32) (m_ends : Int32) (m_steps : Int32) (m_last : Int32) (f_m_desk : Nat → Int32) : va_W := [(h_m, .inr (9, [.int m_colours, .ref h_m_allowed, .int m_h, .int m_w, .ref h_m_desk, .ref h_m_letters, .int m_states, .ref h_m_acts, .ref h_m_thens, .ref h_m_fits, .ref h_m_top, .ref h_m_bottom, .int m_rows, .ref h_m_may, .ref h_m_ways, .ref h_m_found, .ref h_m_unlike, .ref h_m_seen, .ref h_m_seenThen, .ref h_m_power, .ref h_m_square, .ref h_m_product, .ref h_m_isLive, .ref h_m_down, .ref h_m_up, .ref h_m_ground, .ref h_m_met, .int m_ends, .int m_steps, .int m_last])), (h_m_desk, .inl (cI, 25, .inl f_m_desk))]
abbrev rm_X9_blockAt : Room := { frames := 2, cells := 0, slots := 0, locals := 47 }
def q_X9_blockAt (m_h : Int32) (m_w : Int32) (f_m_desk : Nat → Int32) (l1 : Int32) (post : Int32 → Prop) : Prop := (¬ (m_w + (1 : Int32)) = 0 ∧ (∀ v2 : Int32, v2 = (l1 - (l1 / (m_w + (1 : Int32))) * (m_w + (1 : Int32))) → (¬ (m_w + (1 : Int32)) = 0 ∧ (∀ v4 : Int32, v4 = (l1 / (m_w + (1 : Int32))) → (q_X9_deskAt m_h m_w f_m_desk (v2 - (1 : Int32)) (v4 - (1 : Int32)) (fun (r5 : Int32) => (q_X9_deskAt m_h m_w f_m_desk v2 (v4 - (1 : Int32)) (fun (r6 : Int32) => (q_X9_deskAt m_h m_w f_m_desk (v2 - (1 : Int32)) v4 (fun (r7 : Int32) => (q_X9_deskAt m_h m_w f_m_desk v2 v4 (fun (r8 : Int32) => (post (((((64 : Int32) * r5) + ((16 : Int32) * r6)) + ((4 : Int32) * r7)) + r8))))))))))))))
theorem hdV_X9_blockAt : yX9_blockAt.cls = RX9 ∧ yX9_blockAt.cls ≠ "java/lang/invoke/MethodHandle" ∧ yX9_blockAt.cls ≠ "java/lang/invoke/VarHandle" ∧ (parseMethodDescriptor yX9_blockAt.desc).map (fun d => d.parameters.length) = some 1 := by decide +kernel
set_option maxHeartbeats 4000000 in
set_option maxRecDepth 100000 in
theorem c_X9_blockAt (l : Launch) (dC : Nat → ClassId) (dI : Nat → Nat → Nat) (cI cJ cZ : ClassId) (h_m h_m_desk h_m_allowed h_m_letters h_m_acts h_m_thens h_m_fits h_m_top h_m_bottom h_m_may h_m_ways h_m_found h_m_unlike h_m_seen h_m_seenThen h_m_power h_m_square h_m_product h_m_isLive h_m_down h_m_up h_m_ground h_m_met : Nat) (sz : Nat) (m_colours : Int32) (m_h : Int32) (m_w : Int32) (m_states : Int32) (m_rows : Int32) (m_ends : Int32) (m_steps : Int32) (m_last : Int32) (f_m_desk : Nat → Int32) (l1 : Int32) {post : Int32 → Prop} (hq : q_X9_blockAt m_h m_w f_m_desk l1 post) : Met l yX9_blockAt wsX9_blockAt rm_X9_blockAt (va_Pc [.ref h_m, .int l1] (gx_Pre (dC, dI) vwCl (gx_tys cI cJ cZ) sz (W_X9_blockAt cI cJ cZ h_m h_m_desk h_m_allowed h_m_letters h_m_acts h_m_thens h_m_fits h_m_top h_m_bottom h_m_may h_m_ways h_m_found h_m_unlike h_m_seen h_m_seenThen h_m_power h_m_square h_m_product h_m_isLive h_m_down h_m_up h_m_ground h_m_met m_colours m_h m_w m_states m_rows m_ends m_steps m_last f_m_desk))) (va_Qi (fun (r : Int32) (u : Unit) => post r) (gx_B (dC, dI) vwCl (gx_tys cI cJ cZ) (va_A (W_X9_blockAt cI cJ cZ h_m h_m_desk h_m_allowed h_m_letters h_m_acts h_m_thens h_m_fits h_m_top h_m_bottom h_m_may h_m_ways h_m_found h_m_unlike h_m_seen h_m_seenThen h_m_power h_m_square h_m_product h_m_isLive h_m_down h_m_up h_m_ground h_m_met m_colours m_h m_w m_states m_rows m_ends m_steps m_last f_m_desk) sz) (fun (u : Unit) => (W_X9_blockAt cI cJ cZ h_m h_m_desk h_m_allowed h_m_letters h_m_acts h_m_thens h_m_fits h_m_top h_m_bottom h_m_may h_m_ways h_m_found h_m_unlike h_m_seen h_m_seenThen h_m_power h_m_square h_m_product h_m_isLive h_m_down h_m_up h_m_ground h_m_met m_colours m_h m_w m_states m_rows m_ends m_steps m_last f_m_desk))) (va_A (W_X9_blockAt cI cJ cZ h_m h_m_desk h_m_allowed h_m_letters h_m_acts h_m_thens h_m_fits h_m_top h_m_bottom h_m_may h_m_ways h_m_found h_m_unlike h_m_seen h_m_seenThen h_m_power h_m_square h_m_product h_m_isLive h_m_down h_m_up h_m_ground h_m_met m_colours m_h m_w m_states m_rows m_ends m_steps m_last f_m_desk) sz)) 0 0 (va_A (W_X9_blockAt cI cJ cZ h_m h_m_desk h_m_allowed h_m_letters h_m_acts h_m_thens h_m_fits h_m_top h_m_bottom h_m_may h_m_ways h_m_found h_m_unlike h_m_seen h_m_seenThen h_m_power h_m_square h_m_product h_m_isLive h_m_down h_m_up h_m_ground h_m_met m_colours m_h m_w m_states m_rows m_ends m_steps m_last f_m_desk) sz) := by
  refine gx_i (cc := cX9_blockAt) (maxL := 4) (by decide) rfl (Nat.le_of_ble_eq_true rfl) ?_
  intro p e s m args below meth c A QQ hx hb hml hown hts hA hP hK hD hret ls hl
  have hown : s.vm.findClass RX9 = some m.cls := hown
  have hf20 := hts (.fieldLink RX9 20 "SmallWindowsModel" "w" "I") (by decide +kernel)
  have hinX9 : ∀ w ∈ u_ws RX9 TX9 30, w ∈ wsX9_blockAt := fun w h => List.mem_cons_of_mem _ ((List.mem_append_right _ h))
  have hS : va_S A s.heap s.heap [] := va_S.rf
  have hl : lv_has ls 4 [(0, .ref h_m), (1, .int l1)] := hl
  unfold q_X9_blockAt at hq
  refine lv_iload_n hx hb dX9_blockAt_0 rfl (lv_at hl 1 rfl) ?_
  refine lv_aload_n hx hb dX9_blockAt_1 rfl (lv_at hl 0 rfl) ?_
  refine va_get (D := (dC, dI)) (ci := 9) (v := .int m_w) (C := RX9) (T := TX9) (N := 30) hx hb hts hinX9 hown hK hP 0 rfl rfl 3 (by decide) hf20 (fun _ h9 => h9) rfl dX9_blockAt_2 ?_
  refine lv_iconst (v := (1 : Int32)) hx hb dX9_blockAt_5 (by decide) ?_
  refine lv_iadd hx hb dX9_blockAt_6 ?_
  obtain ⟨hz1, hq⟩ := hq
  refine lv_irem hx hb dX9_blockAt_7 hz1 ?_
  refine lv_topi (fun v2 ev2 => ?_)
  replace hq := hq v2 ev2
  refine lv_istore_n (lv' := [(2, .int v2), (0, .ref h_m), (1, .int l1)]) hx hb dX9_blockAt_8 rfl hl (by decide) rfl (fun ls hl => ?_)
  refine lv_iload_n hx hb dX9_blockAt_9 rfl (lv_at hl 2 rfl) ?_
  refine lv_aload_n hx hb dX9_blockAt_10 rfl (lv_at hl 1 rfl) ?_
  refine va_get (D := (dC, dI)) (ci := 9) (v := .int m_w) (C := RX9) (T := TX9) (N := 30) hx hb hts hinX9 hown hK hP 0 rfl rfl 3 (by decide) hf20 (fun _ h9 => h9) rfl dX9_blockAt_11 ?_
  refine lv_iconst (v := (1 : Int32)) hx hb dX9_blockAt_14 (by decide) ?_
  refine lv_iadd hx hb dX9_blockAt_15 ?_
  obtain ⟨hz3, hq⟩ := hq
  refine lv_idiv hx hb dX9_blockAt_16 hz3 ?_
  refine lv_topi (fun v4 ev4 => ?_)
  replace hq := hq v4 ev4
  refine lv_istore_n (lv' := [(3, .int v4), (2, .int v2), (0, .ref h_m), (1, .int l1)]) hx hb dX9_blockAt_17 rfl hl (by decide) rfl (fun ls hl => ?_)
  refine lv_bipush (v := (64 : Int32)) hx hb dX9_blockAt_18 (by decide) ?_
  refine lv_aload_n hx hb dX9_blockAt_20 rfl (lv_at hl 2 rfl) ?_
  refine lv_iload_n hx hb dX9_blockAt_21 rfl (lv_at hl 1 rfl) ?_
  refine lv_iconst (v := (1 : Int32)) hx hb dX9_blockAt_22 (by decide) ?_
  refine lv_isub hx hb dX9_blockAt_23 ?_
  refine lv_iload_n hx hb dX9_blockAt_24 rfl (lv_at hl 0 rfl) ?_
  refine lv_iconst (v := (1 : Int32)) hx hb dX9_blockAt_25 (by decide) ?_
  refine lv_isub hx hb dX9_blockAt_26 ?_
  refine gx_cVi (C := RX9) (As := [.int (v2 - (1 : Int32)), .int (v4 - (1 : Int32))]) (rest := [.int (64 : Int32)]) ⟨hx, hb, hml, hown, hts⟩ (c_X9_deskAt l dC dI cI cJ cZ h_m h_m_desk h_m_allowed h_m_letters h_m_acts h_m_thens h_m_fits h_m_top h_m_bottom h_m_may h_m_ways h_m_found h_m_unlike h_m_seen h_m_seenThen h_m_power h_m_square h_m_product h_m_isLive h_m_down h_m_up h_m_ground h_m_met s.heap.size m_colours m_h m_w m_states m_rows m_ends m_steps m_last f_m_desk (v2 - (1 : Int32)) (v4 - (1 : Int32)) hq) (cwV 2 hts gX9_blockAt_X9_deskAt rfl rfl rfl hdV_X9_deskAt ⟨Nat.le_of_ble_eq_true rfl, Nat.le_of_ble_eq_true rfl⟩) hK hP hD hS hA [0, 1] [] rfl rfl rfl rfl rfl (ci := 9) (q0 := 0) rfl rfl rfl rfl hl.1 (Nat.le_of_ble_eq_true rfl) dX9_blockAt_27 rfl (fun r5 u H locs hq hP hD hS => ?_)
  try dsimp only at hq
  have hP : va_P (dC, dI) vwCl (W_X9_blockAt cI cJ cZ h_m h_m_desk h_m_allowed h_m_letters h_m_acts h_m_thens h_m_fits h_m_top h_m_bottom h_m_may h_m_ways h_m_found h_m_unlike h_m_seen h_m_seenThen h_m_power h_m_square h_m_product h_m_isLive h_m_down h_m_up h_m_ground h_m_met m_colours m_h m_w m_states m_rows m_ends m_steps m_last f_m_desk) H := hP
  have hD : va_D A (W_X9_blockAt cI cJ cZ h_m h_m_desk h_m_allowed h_m_letters h_m_acts h_m_thens h_m_fits h_m_top h_m_bottom h_m_may h_m_ways h_m_found h_m_unlike h_m_seen h_m_seenThen h_m_power h_m_square h_m_product h_m_isLive h_m_down h_m_up h_m_ground h_m_met m_colours m_h m_w m_states m_rows m_ends m_steps m_last f_m_desk) := hD
  refine lv_imul hx hb dX9_blockAt_30 ?_
  refine lv_bipush (v := (16 : Int32)) hx hb dX9_blockAt_31 (by decide) ?_
  refine lv_aload_n hx hb dX9_blockAt_33 rfl (lv_at hl 2 rfl) ?_
  refine lv_iload_n hx hb dX9_blockAt_34 rfl (lv_at hl 1 rfl) ?_
  refine lv_iload_n hx hb dX9_blockAt_35 rfl (lv_at hl 0 rfl) ?_
  refine lv_iconst (v := (1 : Int32)) hx hb dX9_blockAt_36 (by decide) ?_
  refine lv_isub hx hb dX9_blockAt_37 ?_
  refine gx_cVi (C := RX9) (As := [.int v2, .int (v4 - (1 : Int32))]) (rest := [.int (16 : Int32), .int ((64 : Int32) * r5)]) ⟨hx, hb, hml, hown, hts⟩ (c_X9_deskAt l dC dI cI cJ cZ h_m h_m_desk h_m_allowed h_m_letters h_m_acts h_m_thens h_m_fits h_m_top h_m_bottom h_m_may h_m_ways h_m_found h_m_unlike h_m_seen h_m_seenThen h_m_power h_m_square h_m_product h_m_isLive h_m_down h_m_up h_m_ground h_m_met H.size m_colours m_h m_w m_states m_rows m_ends m_steps m_last f_m_desk v2 (v4 - (1 : Int32)) hq) (cwV 2 hts gX9_blockAt_X9_deskAt rfl rfl rfl hdV_X9_deskAt ⟨Nat.le_of_ble_eq_true rfl, Nat.le_of_ble_eq_true rfl⟩) hK hP hD hS hA [0, 1] [] rfl rfl rfl rfl rfl (ci := 9) (q0 := 0) rfl rfl rfl rfl hl.1 (Nat.le_of_ble_eq_true rfl) dX9_blockAt_38 rfl (fun r6 u H locs hq hP hD hS => ?_)
  try dsimp only at hq
  have hP : va_P (dC, dI) vwCl (W_X9_blockAt cI cJ cZ h_m h_m_desk h_m_allowed h_m_letters h_m_acts h_m_thens h_m_fits h_m_top h_m_bottom h_m_may h_m_ways h_m_found h_m_unlike h_m_seen h_m_seenThen h_m_power h_m_square h_m_product h_m_isLive h_m_down h_m_up h_m_ground h_m_met m_colours m_h m_w m_states m_rows m_ends m_steps m_last f_m_desk) H := hP
  have hD : va_D A (W_X9_blockAt cI cJ cZ h_m h_m_desk h_m_allowed h_m_letters h_m_acts h_m_thens h_m_fits h_m_top h_m_bottom h_m_may h_m_ways h_m_found h_m_unlike h_m_seen h_m_seenThen h_m_power h_m_square h_m_product h_m_isLive h_m_down h_m_up h_m_ground h_m_met m_colours m_h m_w m_states m_rows m_ends m_steps m_last f_m_desk) := hD
  refine lv_imul hx hb dX9_blockAt_41 ?_
  refine lv_iadd hx hb dX9_blockAt_42 ?_
  refine lv_iconst (v := (4 : Int32)) hx hb dX9_blockAt_43 (by decide) ?_
  refine lv_aload_n hx hb dX9_blockAt_44 rfl (lv_at hl 2 rfl) ?_
  refine lv_iload_n hx hb dX9_blockAt_45 rfl (lv_at hl 1 rfl) ?_
  refine lv_iconst (v := (1 : Int32)) hx hb dX9_blockAt_46 (by decide) ?_
  refine lv_isub hx hb dX9_blockAt_47 ?_
  refine lv_iload_n hx hb dX9_blockAt_48 rfl (lv_at hl 0 rfl) ?_
  refine gx_cVi (C := RX9) (As := [.int (v2 - (1 : Int32)), .int v4]) (rest := [.int (4 : Int32), .int (((64 : Int32) * r5) + ((16 : Int32) * r6))]) ⟨hx, hb, hml, hown, hts⟩ (c_X9_deskAt l dC dI cI cJ cZ h_m h_m_desk h_m_allowed h_m_letters h_m_acts h_m_thens h_m_fits h_m_top h_m_bottom h_m_may h_m_ways h_m_found h_m_unlike h_m_seen h_m_seenThen h_m_power h_m_square h_m_product h_m_isLive h_m_down h_m_up h_m_ground h_m_met H.size m_colours m_h m_w m_states m_rows m_ends m_steps m_last f_m_desk (v2 - (1 : Int32)) v4 hq) (cwV 2 hts gX9_blockAt_X9_deskAt rfl rfl rfl hdV_X9_deskAt ⟨Nat.le_of_ble_eq_true rfl, Nat.le_of_ble_eq_true rfl⟩) hK hP hD hS hA [0, 1] [] rfl rfl rfl rfl rfl (ci := 9) (q0 := 0) rfl rfl rfl rfl hl.1 (Nat.le_of_ble_eq_true rfl) dX9_blockAt_49 rfl (fun r7 u H locs hq hP hD hS => ?_)
  try dsimp only at hq
  have hP : va_P (dC, dI) vwCl (W_X9_blockAt cI cJ cZ h_m h_m_desk h_m_allowed h_m_letters h_m_acts h_m_thens h_m_fits h_m_top h_m_bottom h_m_may h_m_ways h_m_found h_m_unlike h_m_seen h_m_seenThen h_m_power h_m_square h_m_product h_m_isLive h_m_down h_m_up h_m_ground h_m_met m_colours m_h m_w m_states m_rows m_ends m_steps m_last f_m_desk) H := hP
  have hD : va_D A (W_X9_blockAt cI cJ cZ h_m h_m_desk h_m_allowed h_m_letters h_m_acts h_m_thens h_m_fits h_m_top h_m_bottom h_m_may h_m_ways h_m_found h_m_unlike h_m_seen h_m_seenThen h_m_power h_m_square h_m_product h_m_isLive h_m_down h_m_up h_m_ground h_m_met m_colours m_h m_w m_states m_rows m_ends m_steps m_last f_m_desk) := hD
  refine lv_imul hx hb dX9_blockAt_52 ?_
  refine lv_iadd hx hb dX9_blockAt_53 ?_
  refine lv_aload_n hx hb dX9_blockAt_54 rfl (lv_at hl 2 rfl) ?_
  refine lv_iload_n hx hb dX9_blockAt_55 rfl (lv_at hl 1 rfl) ?_
  refine lv_iload_n hx hb dX9_blockAt_56 rfl (lv_at hl 0 rfl) ?_
  refine gx_cVi (C := RX9) (As := [.int v2, .int v4]) (rest := [.int ((((64 : Int32) * r5) + ((16 : Int32) * r6)) + ((4 : Int32) * r7))]) ⟨hx, hb, hml, hown, hts⟩ (c_X9_deskAt l dC dI cI cJ cZ h_m h_m_desk h_m_allowed h_m_letters h_m_acts h_m_thens h_m_fits h_m_top h_m_bottom h_m_may h_m_ways h_m_found h_m_unlike h_m_seen h_m_seenThen h_m_power h_m_square h_m_product h_m_isLive h_m_down h_m_up h_m_ground h_m_met H.size m_colours m_h m_w m_states m_rows m_ends m_steps m_last f_m_desk v2 v4 hq) (cwV 2 hts gX9_blockAt_X9_deskAt rfl rfl rfl hdV_X9_deskAt ⟨Nat.le_of_ble_eq_true rfl, Nat.le_of_ble_eq_true rfl⟩) hK hP hD hS hA [0, 1] [] rfl rfl rfl rfl rfl (ci := 9) (q0 := 0) rfl rfl rfl rfl hl.1 (Nat.le_of_ble_eq_true rfl) dX9_blockAt_57 rfl (fun r8 u H locs hq hP hD hS => ?_)
  try dsimp only at hq
  have hP : va_P (dC, dI) vwCl (W_X9_blockAt cI cJ cZ h_m h_m_desk h_m_allowed h_m_letters h_m_acts h_m_thens h_m_fits h_m_top h_m_bottom h_m_may h_m_ways h_m_found h_m_unlike h_m_seen h_m_seenThen h_m_power h_m_square h_m_product h_m_isLive h_m_down h_m_up h_m_ground h_m_met m_colours m_h m_w m_states m_rows m_ends m_steps m_last f_m_desk) H := hP
  have hD : va_D A (W_X9_blockAt cI cJ cZ h_m h_m_desk h_m_allowed h_m_letters h_m_acts h_m_thens h_m_fits h_m_top h_m_bottom h_m_may h_m_ways h_m_found h_m_unlike h_m_seen h_m_seenThen h_m_power h_m_square h_m_product h_m_isLive h_m_down h_m_up h_m_ground h_m_met m_colours m_h m_w m_states m_rows m_ends m_steps m_last f_m_desk) := hD
  refine lv_iadd hx hb dX9_blockAt_60 ?_
  exact hret (((((64 : Int32) * r5) + ((16 : Int32) * r6)) + ((4 : Int32) * r7)) + r8) () hq _ _ hP hD hS _ _ dX9_blockAt_61

abbrev W_X9_learn (cI cJ cZ : ClassId) (h_m h_m_allowed h_m_desk h_m_letters h_m_acts h_m_thens h_m_fits h_m_top h_m_bottom h_m_may h_m_ways h_m_found h_m_unlike h_m_seen h_m_seenThen h_m_power h_m_square h_m_product h_m_isLive h_m_down h_m_up h_m_ground h_m_met : Nat) (m_colours : Int32) (m_h : Int32) (m_w : Int32) (m_states : Int32) (m_rows : Int32) (m_ends : Int32) (m_steps : Int32) (m_last : Int32) (f_m_allowed : Nat → Int32) (f_m_desk : Nat → Int32) : va_W := [(h_m, .inr (9, [.int m_colours, .ref h_m_allowed, .int m_h, .int m_w, .ref h_m_desk, .ref h_m_letters, .int m_states, .ref h_m_acts, .ref h_m_thens, .ref h_m_fits, .ref h_m_top, .ref h_m_bottom, .int m_rows, .ref h_m_may, .ref h_m_ways, .ref h_m_found, .ref h_m_unlike, .ref h_m_seen, .ref h_m_seenThen, .ref h_m_power, .ref h_m_square, .ref h_m_product, .ref h_m_isLive, .ref h_m_down, .ref h_m_up, .ref h_m_ground, .ref h_m_met, .int m_ends, .int m_steps, .int m_last])), (h_m_allowed, .inl (cZ, 256, .inl f_m_allowed)), (h_m_desk, .inl (cI, 25, .inl f_m_desk))]
abbrev rm_X9_learn : Room := { frames := 3, cells := 0, slots := 0, locals := 70 }
def q_X9_learn_50 (m_h : Int32) (m_w : Int32) (f_m_desk : Nat → Int32) (post : Int32 → (Nat → Int32) → Prop) (K14 : (Int32) → (Int32) → (Nat → Int32) → Prop) (l2 : Int32) (t0 : Int32) (t1 : Int32) (f_m_allowed : Nat → Int32) : Prop := (q_X9_blockAt m_h m_w f_m_desk l2 (fun (r7 : Int32) => (vp_in r7 256 ∧ (K14 (t1 + t0) (l2 + (1 : Int32)) (upd f_m_allowed (r7).toNatClampNeg (1 : Int32))))))
def r_X9_learn_14 (m_h : Int32) (m_w : Int32) (f_m_desk : Nat → Int32) (post : Int32 → (Nat → Int32) → Prop) : Nat → (Int32) → (Int32) → (Nat → Int32) → Prop
  | 0, _, _, _ => False
  | n + 1, l1, l2, f_m_allowed => ((((m_h + (1 : Int32)) * (m_w + (1 : Int32))) ≤ l2 → (post l1 f_m_allowed)) ∧ (¬ ((m_h + (1 : Int32)) * (m_w + (1 : Int32))) ≤ l2 → (q_X9_blockAt m_h m_w f_m_desk l2 (fun (r4 : Int32) => (vp_in r4 256 ∧ (((f_m_allowed (r4).toNatClampNeg) = 0 → ((q_X9_learn_50 m_h m_w f_m_desk post (r_X9_learn_14 m_h m_w f_m_desk post n)) l2 (1 : Int32) l1 f_m_allowed)) ∧ (¬ (f_m_allowed (r4).toNatClampNeg) = 0 → ((q_X9_learn_50 m_h m_w f_m_desk post (r_X9_learn_14 m_h m_w f_m_desk post n)) l2 (0 : Int32) l1 f_m_allowed))))))))
def q_X9_learn_14 (m_h : Int32) (m_w : Int32) (f_m_desk : Nat → Int32) (post : Int32 → (Nat → Int32) → Prop) (l1 : Int32) (l2 : Int32) (f_m_allowed : Nat → Int32) : Prop := ∃ n, r_X9_learn_14 m_h m_w f_m_desk post n l1 l2 f_m_allowed
def q_X9_learn (m_h : Int32) (m_w : Int32) (f_m_desk : Nat → Int32) (f_m_allowed : Nat → Int32) (post : Int32 → (Nat → Int32) → Prop) : Prop := (q_X9_gaps m_h m_w f_m_desk (fun (r1 : Int32) => ((r1 ≤ 0 → ((q_X9_learn_14 m_h m_w f_m_desk post) (0 : Int32) (0 : Int32) f_m_allowed)) ∧ (¬ r1 ≤ 0 → (post (-4 : Int32) f_m_allowed)))))
theorem hdV_X9_learn : yX9_learn.cls = RX9 ∧ yX9_learn.cls ≠ "java/lang/invoke/MethodHandle" ∧ yX9_learn.cls ≠ "java/lang/invoke/VarHandle" ∧ (parseMethodDescriptor yX9_learn.desc).map (fun d => d.parameters.length) = some 0 := by decide +kernel
set_option maxHeartbeats 4000000 in
set_option maxRecDepth 100000 in
theorem c_X9_learn (l : Launch) (dC : Nat → ClassId) (dI : Nat → Nat → Nat) (cI cJ cZ : ClassId) (h_m h_m_allowed h_m_desk h_m_letters h_m_acts h_m_thens h_m_fits h_m_top h_m_bottom h_m_may h_m_ways h_m_found h_m_unlike h_m_seen h_m_seenThen h_m_power h_m_square h_m_product h_m_isLive h_m_down h_m_up h_m_ground h_m_met : Nat) (sz : Nat) (m_colours : Int32) (m_h : Int32) (m_w : Int32) (m_states : Int32) (m_rows : Int32) (m_ends : Int32) (m_steps : Int32) (m_last : Int32) (f_m_allowed : Nat → Int32) (f_m_desk : Nat → Int32)  {post : Int32 → (Nat → Int32) → Prop} (hq : q_X9_learn m_h m_w f_m_desk f_m_allowed post) : Met l yX9_learn wsX9_learn rm_X9_learn (va_Pc [.ref h_m] (gx_Pre (dC, dI) vwCl (gx_tys cI cJ cZ) sz (W_X9_learn cI cJ cZ h_m h_m_allowed h_m_desk h_m_letters h_m_acts h_m_thens h_m_fits h_m_top h_m_bottom h_m_may h_m_ways h_m_found h_m_unlike h_m_seen h_m_seenThen h_m_power h_m_square h_m_product h_m_isLive h_m_down h_m_up h_m_ground h_m_met m_colours m_h m_w m_states m_rows m_ends m_steps m_last f_m_allowed f_m_desk))) (va_Qi (fun (r : Int32) (u : (Nat → Int32)) => post r u) (gx_B (dC, dI) vwCl (gx_tys cI cJ cZ) (va_A (W_X9_learn cI cJ cZ h_m h_m_allowed h_m_desk h_m_letters h_m_acts h_m_thens h_m_fits h_m_top h_m_bottom h_m_may h_m_ways h_m_found h_m_unlike h_m_seen h_m_seenThen h_m_power h_m_square h_m_product h_m_isLive h_m_down h_m_up h_m_ground h_m_met m_colours m_h m_w m_states m_rows m_ends m_steps m_last f_m_allowed f_m_desk) sz) (fun (u : (Nat → Int32)) => (W_X9_learn cI cJ cZ h_m h_m_allowed h_m_desk h_m_letters h_m_acts h_m_thens h_m_fits h_m_top h_m_bottom h_m_may h_m_ways h_m_found h_m_unlike h_m_seen h_m_seenThen h_m_power h_m_square h_m_product h_m_isLive h_m_down h_m_up h_m_ground h_m_met m_colours m_h m_w m_states m_rows m_ends m_steps m_last u f_m_desk))) (va_A (W_X9_learn cI cJ cZ h_m h_m_allowed h_m_desk h_m_letters h_m_acts h_m_thens h_m_fits h_m_top h_m_bottom h_m_may h_m_ways h_m_found h_m_unlike h_m_seen h_m_seenThen h_m_power h_m_square h_m_product h_m_isLive h_m_down h_m_up h_m_ground h_m_met m_colours m_h m_w m_states m_rows m_ends m_steps m_last f_m_allowed f_m_desk) sz)) 0 0 (va_A (W_X9_learn cI cJ cZ h_m h_m_allowed h_m_desk h_m_letters h_m_acts h_m_thens h_m_fits h_m_top h_m_bottom h_m_may h_m_ways h_m_found h_m_unlike h_m_seen h_m_seenThen h_m_power h_m_square h_m_product h_m_isLive h_m_down h_m_up h_m_ground h_m_met m_colours m_h m_w m_states m_rows m_ends m_steps m_last f_m_allowed f_m_desk) sz) := by
  refine gx_i (cc := cX9_learn) (maxL := 3) (by decide) rfl (Nat.le_of_ble_eq_true rfl) ?_
  intro p e s m args below meth c A QQ hx hb hml hown hts hA hP hK hD hret ls hl
  have hown : s.vm.findClass RX9 = some m.cls := hown
  have hf17 := hts (.fieldLink RX9 17 "SmallWindowsModel" "h" "I") (by decide +kernel)
  have hf20 := hts (.fieldLink RX9 20 "SmallWindowsModel" "w" "I") (by decide +kernel)
  have hf13 := hts (.fieldLink RX9 13 "SmallWindowsModel" "allowed" "[Z") (by decide +kernel)
  have hinX9 : ∀ w ∈ u_ws RX9 TX9 30, w ∈ wsX9_learn := fun w h => List.mem_cons_of_mem _ ((List.mem_append_right _ h))
  have hS : va_S A s.heap s.heap [] := va_S.rf
  have hl : lv_has ls 3 [(0, .ref h_m)] := hl
  have C50 : ∀ (K14 : (Int32) → (Int32) → (Nat → Int32) → Prop) (hK14 : (∀ (l1 : Int32) (l2 : Int32) (f_m_allowed : Nat → Int32), K14 l1 l2 f_m_allowed → ∀ (H : Heap) (locs : List Loc), va_P (dC, dI) vwCl (W_X9_learn cI cJ cZ h_m h_m_allowed h_m_desk h_m_letters h_m_acts h_m_thens h_m_fits h_m_top h_m_bottom h_m_may h_m_ways h_m_found h_m_unlike h_m_seen h_m_seenThen h_m_power h_m_square h_m_product h_m_isLive h_m_down h_m_up h_m_ground h_m_met m_colours m_h m_w m_states m_rows m_ends m_steps m_last f_m_allowed f_m_desk) H → va_D A (W_X9_learn cI cJ cZ h_m h_m_allowed h_m_desk h_m_letters h_m_acts h_m_thens h_m_fits h_m_top h_m_bottom h_m_may h_m_ways h_m_found h_m_unlike h_m_seen h_m_seenThen h_m_power h_m_square h_m_product h_m_isLive h_m_down h_m_up h_m_ground h_m_met m_colours m_h m_w m_states m_rows m_ends m_steps m_last f_m_allowed f_m_desk) → va_S A s.heap H locs → ∀ ls : Array Slot, lv_has ls 3 [(0, .ref h_m), (1, .int l1), (2, .int l2)] → W p l e rm_X9_learn s m args below meth c H locs 0 0 QQ (F0 m 14 ls []))) (l2 : Int32) (t0 : Int32) (t1 : Int32) (f_m_allowed : Nat → Int32), q_X9_learn_50 m_h m_w f_m_desk post K14 l2 t0 t1 f_m_allowed → ∀ (H : Heap) (locs : List Loc), va_P (dC, dI) vwCl (W_X9_learn cI cJ cZ h_m h_m_allowed h_m_desk h_m_letters h_m_acts h_m_thens h_m_fits h_m_top h_m_bottom h_m_may h_m_ways h_m_found h_m_unlike h_m_seen h_m_seenThen h_m_power h_m_square h_m_product h_m_isLive h_m_down h_m_up h_m_ground h_m_met m_colours m_h m_w m_states m_rows m_ends m_steps m_last f_m_allowed f_m_desk) H → va_D A (W_X9_learn cI cJ cZ h_m h_m_allowed h_m_desk h_m_letters h_m_acts h_m_thens h_m_fits h_m_top h_m_bottom h_m_may h_m_ways h_m_found h_m_unlike h_m_seen h_m_seenThen h_m_power h_m_square h_m_product h_m_isLive h_m_down h_m_up h_m_ground h_m_met m_colours m_h m_w m_states m_rows m_ends m_steps m_last f_m_allowed f_m_desk) → va_S A s.heap H locs → ∀ ls : Array Slot, lv_has ls 3 [(0, .ref h_m), (2, .int l2)] → W p l e rm_X9_learn s m args below meth c H locs 0 0 QQ (F0 m 50 ls [.int t0, .int t1]) := by
    intro K14 hK14 l2 t0 t1 f_m_allowed hq H locs hP hD hS ls hl
    unfold q_X9_learn_50 at hq
    refine lv_iadd hx hb dX9_learn_50 ?_
    refine lv_istore_n (lv' := [(1, .int (t1 + t0)), (0, .ref h_m), (2, .int l2)]) hx hb dX9_learn_51 rfl hl (by decide) rfl (fun ls hl => ?_)
    refine lv_aload_n hx hb dX9_learn_52 rfl (lv_at hl 1 rfl) ?_
    refine va_get (D := (dC, dI)) (ci := 9) (v := .ref h_m_allowed) (C := RX9) (T := TX9) (N := 30) hx hb hts hinX9 hown hK hP 0 rfl rfl 1 (by decide) hf13 (fun _ h9 => h9) rfl dX9_learn_53 ?_
    refine lv_aload_n hx hb dX9_learn_56 rfl (lv_at hl 1 rfl) ?_
    refine lv_iload_n hx hb dX9_learn_57 rfl (lv_at hl 2 rfl) ?_
    refine gx_cVi (C := RX9) (As := [.int l2]) (rest := [.ref h_m_allowed]) ⟨hx, hb, hml, hown, hts⟩ (c_X9_blockAt l dC dI cI cJ cZ h_m h_m_desk h_m_allowed h_m_letters h_m_acts h_m_thens h_m_fits h_m_top h_m_bottom h_m_may h_m_ways h_m_found h_m_unlike h_m_seen h_m_seenThen h_m_power h_m_square h_m_product h_m_isLive h_m_down h_m_up h_m_ground h_m_met H.size m_colours m_h m_w m_states m_rows m_ends m_steps m_last f_m_desk l2 hq) (cwV 1 hts gX9_learn_X9_blockAt rfl rfl rfl hdV_X9_blockAt ⟨Nat.le_of_ble_eq_true rfl, Nat.le_of_ble_eq_true rfl⟩) hK hP hD hS hA [0, 2] [1] rfl rfl rfl rfl rfl (ci := 9) (q0 := 0) rfl rfl rfl rfl hl.1 (Nat.le_of_ble_eq_true rfl) dX9_learn_58 rfl (fun r7 u H locs hq hP hD hS => ?_)
    try dsimp only at hq
    have hP : va_P (dC, dI) vwCl (W_X9_learn cI cJ cZ h_m h_m_allowed h_m_desk h_m_letters h_m_acts h_m_thens h_m_fits h_m_top h_m_bottom h_m_may h_m_ways h_m_found h_m_unlike h_m_seen h_m_seenThen h_m_power h_m_square h_m_product h_m_isLive h_m_down h_m_up h_m_ground h_m_met m_colours m_h m_w m_states m_rows m_ends m_steps m_last f_m_allowed f_m_desk) H := hP.sub [1, 0, 2] rfl
    have hD : va_D A (W_X9_learn cI cJ cZ h_m h_m_allowed h_m_desk h_m_letters h_m_acts h_m_thens h_m_fits h_m_top h_m_bottom h_m_may h_m_ways h_m_found h_m_unlike h_m_seen h_m_seenThen h_m_power h_m_square h_m_product h_m_isLive h_m_down h_m_up h_m_ground h_m_met m_colours m_h m_w m_states m_rows m_ends m_steps m_last f_m_allowed f_m_desk) := hD.sub [1, 0, 2] (by decide) rfl
    refine lv_iconst (v := (1 : Int32)) hx hb dX9_learn_61 (by decide) ?_
    obtain ⟨hv8, hq⟩ := hq
    refine va_zast hx hb hK hP hD hS 1 2 rfl rfl hv8 dX9_learn_62 (fun H locs hP hD hS => ?_)
    have hP : va_P (dC, dI) vwCl (W_X9_learn cI cJ cZ h_m h_m_allowed h_m_desk h_m_letters h_m_acts h_m_thens h_m_fits h_m_top h_m_bottom h_m_may h_m_ways h_m_found h_m_unlike h_m_seen h_m_seenThen h_m_power h_m_square h_m_product h_m_isLive h_m_down h_m_up h_m_ground h_m_met m_colours m_h m_w m_states m_rows m_ends m_steps m_last (upd f_m_allowed (r7).toNatClampNeg (1 : Int32)) f_m_desk) H := hP
    have hD : va_D A (W_X9_learn cI cJ cZ h_m h_m_allowed h_m_desk h_m_letters h_m_acts h_m_thens h_m_fits h_m_top h_m_bottom h_m_may h_m_ways h_m_found h_m_unlike h_m_seen h_m_seenThen h_m_power h_m_square h_m_product h_m_isLive h_m_down h_m_up h_m_ground h_m_met m_colours m_h m_w m_states m_rows m_ends m_steps m_last (upd f_m_allowed (r7).toNatClampNeg (1 : Int32)) f_m_desk) := hD
    refine lv_iinc (v := (l2 + (1 : Int32))) (lv' := [(2, .int (l2 + (1 : Int32))), (1, .int (t1 + t0)), (0, .ref h_m)]) hx hb dX9_learn_63 hl (k := 2) rfl rfl (by decide) rfl (fun ls hl => ?_)
    refine lv_goto (tgt := 14) hx hb dX9_learn_66 (by decide) ?_
    exact hK14 _ _ _ hq _ _ hP hD hS _ (lv_sub hl [2, 1, 0] rfl)
  have L14 : ∀  (n : Nat) (l1 : Int32) (l2 : Int32) (f_m_allowed : Nat → Int32), r_X9_learn_14 m_h m_w f_m_desk post n l1 l2 f_m_allowed → ∀ (H : Heap) (locs : List Loc), va_P (dC, dI) vwCl (W_X9_learn cI cJ cZ h_m h_m_allowed h_m_desk h_m_letters h_m_acts h_m_thens h_m_fits h_m_top h_m_bottom h_m_may h_m_ways h_m_found h_m_unlike h_m_seen h_m_seenThen h_m_power h_m_square h_m_product h_m_isLive h_m_down h_m_up h_m_ground h_m_met m_colours m_h m_w m_states m_rows m_ends m_steps m_last f_m_allowed f_m_desk) H → va_D A (W_X9_learn cI cJ cZ h_m h_m_allowed h_m_desk h_m_letters h_m_acts h_m_thens h_m_fits h_m_top h_m_bottom h_m_may h_m_ways h_m_found h_m_unlike h_m_seen h_m_seenThen h_m_power h_m_square h_m_product h_m_isLive h_m_down h_m_up h_m_ground h_m_met m_colours m_h m_w m_states m_rows m_ends m_steps m_last f_m_allowed f_m_desk) → va_S A s.heap H locs → ∀ ls : Array Slot, lv_has ls 3 [(0, .ref h_m), (1, .int l1), (2, .int l2)] → W p l e rm_X9_learn s m args below meth c H locs 0 0 QQ (F0 m 14 ls []) := by
    intro n
    induction n with
    | zero => intro l1 l2 f_m_allowed hq; exact False.elim hq
    | succ n ih =>
      intro l1 l2 f_m_allowed hq H locs hP hD hS ls hl
      unfold r_X9_learn_14 at hq
      refine lv_iload_n hx hb dX9_learn_14 rfl (lv_at hl 2 rfl) ?_
      refine lv_aload_n hx hb dX9_learn_15 rfl (lv_at hl 0 rfl) ?_
      refine va_get (D := (dC, dI)) (ci := 9) (v := .int m_h) (C := RX9) (T := TX9) (N := 30) hx hb hts hinX9 hown hK hP 0 rfl rfl 2 (by decide) hf17 (fun _ h9 => h9) rfl dX9_learn_16 ?_
      refine lv_iconst (v := (1 : Int32)) hx hb dX9_learn_19 (by decide) ?_
      refine lv_iadd hx hb dX9_learn_20 ?_
      refine lv_aload_n hx hb dX9_learn_21 rfl (lv_at hl 0 rfl) ?_
      refine va_get (D := (dC, dI)) (ci := 9) (v := .int m_w) (C := RX9) (T := TX9) (N := 30) hx hb hts hinX9 hown hK hP 0 rfl rfl 3 (by decide) hf20 (fun _ h9 => h9) rfl dX9_learn_22 ?_
      refine lv_iconst (v := (1 : Int32)) hx hb dX9_learn_25 (by decide) ?_
      refine lv_iadd hx hb dX9_learn_26 ?_
      refine lv_imul hx hb dX9_learn_27 ?_
      refine lv_icmp_ge (tgt := 69) hx hb dX9_learn_28 (by decide) (fun c3 => ?_) (fun c3 => ?_)
      · replace hq := hq.1 c3
        refine lv_iload_n hx hb dX9_learn_69 rfl (lv_at hl 1 rfl) ?_
        exact hret l1 f_m_allowed hq _ _ hP hD hS _ _ dX9_learn_70
      · replace hq := hq.2 c3
        refine lv_iload_n hx hb dX9_learn_31 rfl (lv_at hl 1 rfl) ?_
        refine lv_aload_n hx hb dX9_learn_32 rfl (lv_at hl 0 rfl) ?_
        refine va_get (D := (dC, dI)) (ci := 9) (v := .ref h_m_allowed) (C := RX9) (T := TX9) (N := 30) hx hb hts hinX9 hown hK hP 0 rfl rfl 1 (by decide) hf13 (fun _ h9 => h9) rfl dX9_learn_33 ?_
        refine lv_aload_n hx hb dX9_learn_36 rfl (lv_at hl 0 rfl) ?_
        refine lv_iload_n hx hb dX9_learn_37 rfl (lv_at hl 2 rfl) ?_
        refine gx_cVi (C := RX9) (As := [.int l2]) (rest := [.ref h_m_allowed, .int l1]) ⟨hx, hb, hml, hown, hts⟩ (c_X9_blockAt l dC dI cI cJ cZ h_m h_m_desk h_m_allowed h_m_letters h_m_acts h_m_thens h_m_fits h_m_top h_m_bottom h_m_may h_m_ways h_m_found h_m_unlike h_m_seen h_m_seenThen h_m_power h_m_square h_m_product h_m_isLive h_m_down h_m_up h_m_ground h_m_met H.size m_colours m_h m_w m_states m_rows m_ends m_steps m_last f_m_desk l2 hq) (cwV 1 hts gX9_learn_X9_blockAt rfl rfl rfl hdV_X9_blockAt ⟨Nat.le_of_ble_eq_true rfl, Nat.le_of_ble_eq_true rfl⟩) hK hP hD hS hA [0, 2] [1] rfl rfl rfl rfl rfl (ci := 9) (q0 := 0) rfl rfl rfl rfl hl.1 (Nat.le_of_ble_eq_true rfl) dX9_learn_38 rfl (fun r4 u H locs hq hP hD hS => ?_)
        try dsimp only at hq
        have hP : va_P (dC, dI) vwCl (W_X9_learn cI cJ cZ h_m h_m_allowed h_m_desk h_m_letters h_m_acts h_m_thens h_m_fits h_m_top h_m_bottom h_m_may h_m_ways h_m_found h_m_unlike h_m_seen h_m_seenThen h_m_power h_m_square h_m_product h_m_isLive h_m_down h_m_up h_m_ground h_m_met m_colours m_h m_w m_states m_rows m_ends m_steps m_last f_m_allowed f_m_desk) H := hP.sub [1, 0, 2] rfl
        have hD : va_D A (W_X9_learn cI cJ cZ h_m h_m_allowed h_m_desk h_m_letters h_m_acts h_m_thens h_m_fits h_m_top h_m_bottom h_m_may h_m_ways h_m_found h_m_unlike h_m_seen h_m_seenThen h_m_power h_m_square h_m_product h_m_isLive h_m_down h_m_up h_m_ground h_m_met m_colours m_h m_w m_states m_rows m_ends m_steps m_last f_m_allowed f_m_desk) := hD.sub [1, 0, 2] (by decide) rfl
        obtain ⟨hv5, hq⟩ := hq
        refine va_zald hx hb hK hP 1 2 rfl rfl hv5 dX9_learn_41 ?_
        refine lv_if_eq (tgt := 49) hx hb dX9_learn_42 (by decide) (fun c6 => ?_) (fun c6 => ?_)
        · replace hq := hq.1 c6
          refine lv_iconst (v := (1 : Int32)) hx hb dX9_learn_49 (by decide) ?_
          exact (C50 _ ih) _ _ _ _ hq _ _ hP hD hS _ (lv_sub hl [0, 2] rfl)
        · replace hq := hq.2 c6
          refine lv_iconst (v := (0 : Int32)) hx hb dX9_learn_45 (by decide) ?_
          refine lv_goto (tgt := 50) hx hb dX9_learn_46 (by decide) ?_
          exact (C50 _ ih) _ _ _ _ hq _ _ hP hD hS _ (lv_sub hl [0, 2] rfl)
  have C14 : ∀ (l1 : Int32) (l2 : Int32) (f_m_allowed : Nat → Int32), q_X9_learn_14 m_h m_w f_m_desk post l1 l2 f_m_allowed → ∀ (H : Heap) (locs : List Loc), va_P (dC, dI) vwCl (W_X9_learn cI cJ cZ h_m h_m_allowed h_m_desk h_m_letters h_m_acts h_m_thens h_m_fits h_m_top h_m_bottom h_m_may h_m_ways h_m_found h_m_unlike h_m_seen h_m_seenThen h_m_power h_m_square h_m_product h_m_isLive h_m_down h_m_up h_m_ground h_m_met m_colours m_h m_w m_states m_rows m_ends m_steps m_last f_m_allowed f_m_desk) H → va_D A (W_X9_learn cI cJ cZ h_m h_m_allowed h_m_desk h_m_letters h_m_acts h_m_thens h_m_fits h_m_top h_m_bottom h_m_may h_m_ways h_m_found h_m_unlike h_m_seen h_m_seenThen h_m_power h_m_square h_m_product h_m_isLive h_m_down h_m_up h_m_ground h_m_met m_colours m_h m_w m_states m_rows m_ends m_steps m_last f_m_allowed f_m_desk) → va_S A s.heap H locs → ∀ ls : Array Slot, lv_has ls 3 [(0, .ref h_m), (1, .int l1), (2, .int l2)] → W p l e rm_X9_learn s m args below meth c H locs 0 0 QQ (F0 m 14 ls []) := by
    intro l1 l2 f_m_allowed hq H locs hP hD hS ls hl
    obtain ⟨n, hq⟩ := hq
    exact L14 n _ _ _ hq H locs hP hD hS ls hl
  unfold q_X9_learn at hq
  refine lv_aload_n hx hb dX9_learn_0 rfl (lv_at hl 0 rfl) ?_
  refine gx_cVi (C := RX9) (As := []) (rest := []) ⟨hx, hb, hml, hown, hts⟩ (c_X9_gaps l dC dI cI cJ cZ h_m h_m_desk h_m_allowed h_m_letters h_m_acts h_m_thens h_m_fits h_m_top h_m_bottom h_m_may h_m_ways h_m_found h_m_unlike h_m_seen h_m_seenThen h_m_power h_m_square h_m_product h_m_isLive h_m_down h_m_up h_m_ground h_m_met s.heap.size m_colours m_h m_w m_states m_rows m_ends m_steps m_last f_m_desk hq) (cwV 0 hts gX9_learn_X9_gaps rfl rfl rfl hdV_X9_gaps ⟨Nat.le_of_ble_eq_true rfl, Nat.le_of_ble_eq_true rfl⟩) hK hP hD hS hA [0, 2] [1] rfl rfl rfl rfl rfl (ci := 9) (q0 := 0) rfl rfl rfl rfl hl.1 (Nat.le_of_ble_eq_true rfl) dX9_learn_1 rfl (fun r1 u H locs hq hP hD hS => ?_)
  try dsimp only at hq
  have hP : va_P (dC, dI) vwCl (W_X9_learn cI cJ cZ h_m h_m_allowed h_m_desk h_m_letters h_m_acts h_m_thens h_m_fits h_m_top h_m_bottom h_m_may h_m_ways h_m_found h_m_unlike h_m_seen h_m_seenThen h_m_power h_m_square h_m_product h_m_isLive h_m_down h_m_up h_m_ground h_m_met m_colours m_h m_w m_states m_rows m_ends m_steps m_last f_m_allowed f_m_desk) H := hP.sub [1, 0, 2] rfl
  have hD : va_D A (W_X9_learn cI cJ cZ h_m h_m_allowed h_m_desk h_m_letters h_m_acts h_m_thens h_m_fits h_m_top h_m_bottom h_m_may h_m_ways h_m_found h_m_unlike h_m_seen h_m_seenThen h_m_power h_m_square h_m_product h_m_isLive h_m_down h_m_up h_m_ground h_m_met m_colours m_h m_w m_states m_rows m_ends m_steps m_last f_m_allowed f_m_desk) := hD.sub [1, 0, 2] (by decide) rfl
  refine lv_if_le (tgt := 10) hx hb dX9_learn_4 (by decide) (fun c2 => ?_) (fun c2 => ?_)
  · replace hq := hq.1 c2
    refine lv_iconst (v := (0 : Int32)) hx hb dX9_learn_10 (by decide) ?_
    refine lv_istore_n (lv' := [(1, .int (0 : Int32)), (0, .ref h_m)]) hx hb dX9_learn_11 rfl hl (by decide) rfl (fun ls hl => ?_)
    refine lv_iconst (v := (0 : Int32)) hx hb dX9_learn_12 (by decide) ?_
    refine lv_istore_n (lv' := [(2, .int (0 : Int32)), (1, .int (0 : Int32)), (0, .ref h_m)]) hx hb dX9_learn_13 rfl hl (by decide) rfl (fun ls hl => ?_)
    exact C14 _ _ _ hq _ _ hP hD hS _ (lv_sub hl [2, 1, 0] rfl)
  · replace hq := hq.2 c2
    refine lv_bipush (v := (-4 : Int32)) hx hb dX9_learn_7 (by decide) ?_
    exact hret (-4 : Int32) f_m_allowed hq _ _ hP hD hS _ _ dX9_learn_9

abbrev W_X9_wrongNow (cI cJ cZ : ClassId) (h_m h_m_allowed h_m_desk h_m_letters h_m_acts h_m_thens h_m_fits h_m_top h_m_bottom h_m_may h_m_ways h_m_found h_m_unlike h_m_seen h_m_seenThen h_m_power h_m_square h_m_product h_m_isLive h_m_down h_m_up h_m_ground h_m_met : Nat) (m_colours : Int32) (m_h : Int32) (m_w : Int32) (m_states : Int32) (m_rows : Int32) (m_ends : Int32) (m_steps : Int32) (m_last : Int32) (f_m_allowed : Nat → Int32) (f_m_desk : Nat → Int32) : va_W := [(h_m, .inr (9, [.int m_colours, .ref h_m_allowed, .int m_h, .int m_w, .ref h_m_desk, .ref h_m_letters, .int m_states, .ref h_m_acts, .ref h_m_thens, .ref h_m_fits, .ref h_m_top, .ref h_m_bottom, .int m_rows, .ref h_m_may, .ref h_m_ways, .ref h_m_found, .ref h_m_unlike, .ref h_m_seen, .ref h_m_seenThen, .ref h_m_power, .ref h_m_square, .ref h_m_product, .ref h_m_isLive, .ref h_m_down, .ref h_m_up, .ref h_m_ground, .ref h_m_met, .int m_ends, .int m_steps, .int m_last])), (h_m_allowed, .inl (cZ, 256, .inl f_m_allowed)), (h_m_desk, .inl (cI, 25, .inl f_m_desk))]
abbrev rm_X9_wrongNow : Room := { frames := 3, cells := 0, slots := 0, locals := 70 }
def r_X9_wrongNow_2 (m_h : Int32) (m_w : Int32) (f_m_allowed : Nat → Int32) (f_m_desk : Nat → Int32) (post : Int32 → Prop) : Nat → (Int32) → Prop
  | 0, _ => False
  | n + 1, l1 => ((((m_h + (1 : Int32)) * (m_w + (1 : Int32))) ≤ l1 → (post (-1 : Int32))) ∧ (¬ ((m_h + (1 : Int32)) * (m_w + (1 : Int32))) ≤ l1 → (q_X9_blockAt m_h m_w f_m_desk l1 (fun (r2 : Int32) => (vp_in r2 256 ∧ ((¬ (f_m_allowed (r2).toNatClampNeg) = 0 → ((r_X9_wrongNow_2 m_h m_w f_m_allowed f_m_desk post n) (l1 + (1 : Int32)))) ∧ ((f_m_allowed (r2).toNatClampNeg) = 0 → (post l1))))))))
def q_X9_wrongNow_2 (m_h : Int32) (m_w : Int32) (f_m_allowed : Nat → Int32) (f_m_desk : Nat → Int32) (post : Int32 → Prop) (l1 : Int32) : Prop := ∃ n, r_X9_wrongNow_2 m_h m_w f_m_allowed f_m_desk post n l1
def q_X9_wrongNow (m_h : Int32) (m_w : Int32) (f_m_allowed : Nat → Int32) (f_m_desk : Nat → Int32) (post : Int32 → Prop) : Prop := ((q_X9_wrongNow_2 m_h m_w f_m_allowed f_m_desk post) (0 : Int32))
theorem hdV_X9_wrongNow : yX9_wrongNow.cls = RX9 ∧ yX9_wrongNow.cls ≠ "java/lang/invoke/MethodHandle" ∧ yX9_wrongNow.cls ≠ "java/lang/invoke/VarHandle" ∧ (parseMethodDescriptor yX9_wrongNow.desc).map (fun d => d.parameters.length) = some 0 := by decide +kernel
set_option maxHeartbeats 4000000 in
set_option maxRecDepth 100000 in
theorem c_X9_wrongNow (l : Launch) (dC : Nat → ClassId) (dI : Nat → Nat → Nat) (cI cJ cZ : ClassId) (h_m h_m_allowed h_m_desk h_m_letters h_m_acts h_m_thens h_m_fits h_m_top h_m_bottom h_m_may h_m_ways h_m_found h_m_unlike h_m_seen h_m_seenThen h_m_power h_m_square h_m_product h_m_isLive h_m_down h_m_up h_m_ground h_m_met : Nat) (sz : Nat) (m_colours : Int32) (m_h : Int32) (m_w : Int32) (m_states : Int32) (m_rows : Int32) (m_ends : Int32) (m_steps : Int32) (m_last : Int32) (f_m_allowed : Nat → Int32) (f_m_desk : Nat → Int32)  {post : Int32 → Prop} (hq : q_X9_wrongNow m_h m_w f_m_allowed f_m_desk post) : Met l yX9_wrongNow wsX9_wrongNow rm_X9_wrongNow (va_Pc [.ref h_m] (gx_Pre (dC, dI) vwCl (gx_tys cI cJ cZ) sz (W_X9_wrongNow cI cJ cZ h_m h_m_allowed h_m_desk h_m_letters h_m_acts h_m_thens h_m_fits h_m_top h_m_bottom h_m_may h_m_ways h_m_found h_m_unlike h_m_seen h_m_seenThen h_m_power h_m_square h_m_product h_m_isLive h_m_down h_m_up h_m_ground h_m_met m_colours m_h m_w m_states m_rows m_ends m_steps m_last f_m_allowed f_m_desk))) (va_Qi (fun (r : Int32) (u : Unit) => post r) (gx_B (dC, dI) vwCl (gx_tys cI cJ cZ) (va_A (W_X9_wrongNow cI cJ cZ h_m h_m_allowed h_m_desk h_m_letters h_m_acts h_m_thens h_m_fits h_m_top h_m_bottom h_m_may h_m_ways h_m_found h_m_unlike h_m_seen h_m_seenThen h_m_power h_m_square h_m_product h_m_isLive h_m_down h_m_up h_m_ground h_m_met m_colours m_h m_w m_states m_rows m_ends m_steps m_last f_m_allowed f_m_desk) sz) (fun (u : Unit) => (W_X9_wrongNow cI cJ cZ h_m h_m_allowed h_m_desk h_m_letters h_m_acts h_m_thens h_m_fits h_m_top h_m_bottom h_m_may h_m_ways h_m_found h_m_unlike h_m_seen h_m_seenThen h_m_power h_m_square h_m_product h_m_isLive h_m_down h_m_up h_m_ground h_m_met m_colours m_h m_w m_states m_rows m_ends m_steps m_last f_m_allowed f_m_desk))) (va_A (W_X9_wrongNow cI cJ cZ h_m h_m_allowed h_m_desk h_m_letters h_m_acts h_m_thens h_m_fits h_m_top h_m_bottom h_m_may h_m_ways h_m_found h_m_unlike h_m_seen h_m_seenThen h_m_power h_m_square h_m_product h_m_isLive h_m_down h_m_up h_m_ground h_m_met m_colours m_h m_w m_states m_rows m_ends m_steps m_last f_m_allowed f_m_desk) sz)) 0 0 (va_A (W_X9_wrongNow cI cJ cZ h_m h_m_allowed h_m_desk h_m_letters h_m_acts h_m_thens h_m_fits h_m_top h_m_bottom h_m_may h_m_ways h_m_found h_m_unlike h_m_seen h_m_seenThen h_m_power h_m_square h_m_product h_m_isLive h_m_down h_m_up h_m_ground h_m_met m_colours m_h m_w m_states m_rows m_ends m_steps m_last f_m_allowed f_m_desk) sz) := by
  refine gx_i (cc := cX9_wrongNow) (maxL := 2) (by decide) rfl (Nat.le_of_ble_eq_true rfl) ?_
  intro p e s m args below meth c A QQ hx hb hml hown hts hA hP hK hD hret ls hl
  have hown : s.vm.findClass RX9 = some m.cls := hown
  have hf17 := hts (.fieldLink RX9 17 "SmallWindowsModel" "h" "I") (by decide +kernel)
  have hf20 := hts (.fieldLink RX9 20 "SmallWindowsModel" "w" "I") (by decide +kernel)
  have hf13 := hts (.fieldLink RX9 13 "SmallWindowsModel" "allowed" "[Z") (by decide +kernel)
  have hinX9 : ∀ w ∈ u_ws RX9 TX9 30, w ∈ wsX9_wrongNow := fun w h => List.mem_cons_of_mem _ ((List.mem_append_right _ h))
  have hS : va_S A s.heap s.heap [] := va_S.rf
  have hl : lv_has ls 2 [(0, .ref h_m)] := hl
  have L2 : ∀  (n : Nat) (l1 : Int32), r_X9_wrongNow_2 m_h m_w f_m_allowed f_m_desk post n l1 → ∀ (H : Heap) (locs : List Loc), va_P (dC, dI) vwCl (W_X9_wrongNow cI cJ cZ h_m h_m_allowed h_m_desk h_m_letters h_m_acts h_m_thens h_m_fits h_m_top h_m_bottom h_m_may h_m_ways h_m_found h_m_unlike h_m_seen h_m_seenThen h_m_power h_m_square h_m_product h_m_isLive h_m_down h_m_up h_m_ground h_m_met m_colours m_h m_w m_states m_rows m_ends m_steps m_last f_m_allowed f_m_desk) H → va_D A (W_X9_wrongNow cI cJ cZ h_m h_m_allowed h_m_desk h_m_letters h_m_acts h_m_thens h_m_fits h_m_top h_m_bottom h_m_may h_m_ways h_m_found h_m_unlike h_m_seen h_m_seenThen h_m_power h_m_square h_m_product h_m_isLive h_m_down h_m_up h_m_ground h_m_met m_colours m_h m_w m_states m_rows m_ends m_steps m_last f_m_allowed f_m_desk) → va_S A s.heap H locs → ∀ ls : Array Slot, lv_has ls 2 [(0, .ref h_m), (1, .int l1)] → W p l e rm_X9_wrongNow s m args below meth c H locs 0 0 QQ (F0 m 2 ls []) := by
    intro n
    induction n with
    | zero => intro l1 hq; exact False.elim hq
    | succ n ih =>
      intro l1 hq H locs hP hD hS ls hl
      unfold r_X9_wrongNow_2 at hq
      refine lv_iload_n hx hb dX9_wrongNow_2 rfl (lv_at hl 1 rfl) ?_
      refine lv_aload_n hx hb dX9_wrongNow_3 rfl (lv_at hl 0 rfl) ?_
      refine va_get (D := (dC, dI)) (ci := 9) (v := .int m_h) (C := RX9) (T := TX9) (N := 30) hx hb hts hinX9 hown hK hP 0 rfl rfl 2 (by decide) hf17 (fun _ h9 => h9) rfl dX9_wrongNow_4 ?_
      refine lv_iconst (v := (1 : Int32)) hx hb dX9_wrongNow_7 (by decide) ?_
      refine lv_iadd hx hb dX9_wrongNow_8 ?_
      refine lv_aload_n hx hb dX9_wrongNow_9 rfl (lv_at hl 0 rfl) ?_
      refine va_get (D := (dC, dI)) (ci := 9) (v := .int m_w) (C := RX9) (T := TX9) (N := 30) hx hb hts hinX9 hown hK hP 0 rfl rfl 3 (by decide) hf20 (fun _ h9 => h9) rfl dX9_wrongNow_10 ?_
      refine lv_iconst (v := (1 : Int32)) hx hb dX9_wrongNow_13 (by decide) ?_
      refine lv_iadd hx hb dX9_wrongNow_14 ?_
      refine lv_imul hx hb dX9_wrongNow_15 ?_
      refine lv_icmp_ge (tgt := 40) hx hb dX9_wrongNow_16 (by decide) (fun c1 => ?_) (fun c1 => ?_)
      · replace hq := hq.1 c1
        refine lv_iconst (v := (-1 : Int32)) hx hb dX9_wrongNow_40 (by decide) ?_
        exact hret (-1 : Int32) () hq _ _ hP hD hS _ _ dX9_wrongNow_41
      · replace hq := hq.2 c1
        refine lv_aload_n hx hb dX9_wrongNow_19 rfl (lv_at hl 0 rfl) ?_
        refine va_get (D := (dC, dI)) (ci := 9) (v := .ref h_m_allowed) (C := RX9) (T := TX9) (N := 30) hx hb hts hinX9 hown hK hP 0 rfl rfl 1 (by decide) hf13 (fun _ h9 => h9) rfl dX9_wrongNow_20 ?_
        refine lv_aload_n hx hb dX9_wrongNow_23 rfl (lv_at hl 0 rfl) ?_
        refine lv_iload_n hx hb dX9_wrongNow_24 rfl (lv_at hl 1 rfl) ?_
        refine gx_cVi (C := RX9) (As := [.int l1]) (rest := [.ref h_m_allowed]) ⟨hx, hb, hml, hown, hts⟩ (c_X9_blockAt l dC dI cI cJ cZ h_m h_m_desk h_m_allowed h_m_letters h_m_acts h_m_thens h_m_fits h_m_top h_m_bottom h_m_may h_m_ways h_m_found h_m_unlike h_m_seen h_m_seenThen h_m_power h_m_square h_m_product h_m_isLive h_m_down h_m_up h_m_ground h_m_met H.size m_colours m_h m_w m_states m_rows m_ends m_steps m_last f_m_desk l1 hq) (cwV 1 hts gX9_wrongNow_X9_blockAt rfl rfl rfl hdV_X9_blockAt ⟨Nat.le_of_ble_eq_true rfl, Nat.le_of_ble_eq_true rfl⟩) hK hP hD hS hA [0, 2] [1] rfl rfl rfl rfl rfl (ci := 9) (q0 := 0) rfl rfl rfl rfl hl.1 (Nat.le_of_ble_eq_true rfl) dX9_wrongNow_25 rfl (fun r2 u H locs hq hP hD hS => ?_)
        try dsimp only at hq
        have hP : va_P (dC, dI) vwCl (W_X9_wrongNow cI cJ cZ h_m h_m_allowed h_m_desk h_m_letters h_m_acts h_m_thens h_m_fits h_m_top h_m_bottom h_m_may h_m_ways h_m_found h_m_unlike h_m_seen h_m_seenThen h_m_power h_m_square h_m_product h_m_isLive h_m_down h_m_up h_m_ground h_m_met m_colours m_h m_w m_states m_rows m_ends m_steps m_last f_m_allowed f_m_desk) H := hP.sub [1, 0, 2] rfl
        have hD : va_D A (W_X9_wrongNow cI cJ cZ h_m h_m_allowed h_m_desk h_m_letters h_m_acts h_m_thens h_m_fits h_m_top h_m_bottom h_m_may h_m_ways h_m_found h_m_unlike h_m_seen h_m_seenThen h_m_power h_m_square h_m_product h_m_isLive h_m_down h_m_up h_m_ground h_m_met m_colours m_h m_w m_states m_rows m_ends m_steps m_last f_m_allowed f_m_desk) := hD.sub [1, 0, 2] (by decide) rfl
        obtain ⟨hv3, hq⟩ := hq
        refine va_zald hx hb hK hP 1 2 rfl rfl hv3 dX9_wrongNow_28 ?_
        refine lv_if_ne (tgt := 34) hx hb dX9_wrongNow_29 (by decide) (fun c4 => ?_) (fun c4 => ?_)
        · replace hq := hq.1 c4
          refine lv_iinc (v := (l1 + (1 : Int32))) (lv' := [(1, .int (l1 + (1 : Int32))), (0, .ref h_m)]) hx hb dX9_wrongNow_34 hl (k := 1) rfl rfl (by decide) rfl (fun ls hl => ?_)
          refine lv_goto (tgt := 2) hx hb dX9_wrongNow_37 (by decide) ?_
          exact ih _ hq _ _ hP hD hS _ (lv_sub hl [1, 0] rfl)
        · replace hq := hq.2 c4
          refine lv_iload_n hx hb dX9_wrongNow_32 rfl (lv_at hl 1 rfl) ?_
          exact hret l1 () hq _ _ hP hD hS _ _ dX9_wrongNow_33
  have C2 : ∀ (l1 : Int32), q_X9_wrongNow_2 m_h m_w f_m_allowed f_m_desk post l1 → ∀ (H : Heap) (locs : List Loc), va_P (dC, dI) vwCl (W_X9_wrongNow cI cJ cZ h_m h_m_allowed h_m_desk h_m_letters h_m_acts h_m_thens h_m_fits h_m_top h_m_bottom h_m_may h_m_ways h_m_found h_m_unlike h_m_seen h_m_seenThen h_m_power h_m_square h_m_product h_m_isLive h_m_down h_m_up h_m_ground h_m_met m_colours m_h m_w m_states m_rows m_ends m_steps m_last f_m_allowed f_m_desk) H → va_D A (W_X9_wrongNow cI cJ cZ h_m h_m_allowed h_m_desk h_m_letters h_m_acts h_m_thens h_m_fits h_m_top h_m_bottom h_m_may h_m_ways h_m_found h_m_unlike h_m_seen h_m_seenThen h_m_power h_m_square h_m_product h_m_isLive h_m_down h_m_up h_m_ground h_m_met m_colours m_h m_w m_states m_rows m_ends m_steps m_last f_m_allowed f_m_desk) → va_S A s.heap H locs → ∀ ls : Array Slot, lv_has ls 2 [(0, .ref h_m), (1, .int l1)] → W p l e rm_X9_wrongNow s m args below meth c H locs 0 0 QQ (F0 m 2 ls []) := by
    intro l1 hq H locs hP hD hS ls hl
    obtain ⟨n, hq⟩ := hq
    exact L2 n _ hq H locs hP hD hS ls hl
  unfold q_X9_wrongNow at hq
  refine lv_iconst (v := (0 : Int32)) hx hb dX9_wrongNow_0 (by decide) ?_
  refine lv_istore_n (lv' := [(1, .int (0 : Int32)), (0, .ref h_m)]) hx hb dX9_wrongNow_1 rfl hl (by decide) rfl (fun ls hl => ?_)
  exact C2 _ hq _ _ hP hD hS _ (lv_sub hl [1, 0] rfl)

abbrev W_X9_wrong (cI cJ cZ : ClassId) (h_m h_m_allowed h_m_desk h_m_letters h_m_acts h_m_thens h_m_fits h_m_top h_m_bottom h_m_may h_m_ways h_m_found h_m_unlike h_m_seen h_m_seenThen h_m_power h_m_square h_m_product h_m_isLive h_m_down h_m_up h_m_ground h_m_met : Nat) (m_colours : Int32) (m_h : Int32) (m_w : Int32) (m_states : Int32) (m_rows : Int32) (m_ends : Int32) (m_steps : Int32) (m_last : Int32) (f_m_allowed : Nat → Int32) (f_m_desk : Nat → Int32) : va_W := [(h_m, .inr (9, [.int m_colours, .ref h_m_allowed, .int m_h, .int m_w, .ref h_m_desk, .ref h_m_letters, .int m_states, .ref h_m_acts, .ref h_m_thens, .ref h_m_fits, .ref h_m_top, .ref h_m_bottom, .int m_rows, .ref h_m_may, .ref h_m_ways, .ref h_m_found, .ref h_m_unlike, .ref h_m_seen, .ref h_m_seenThen, .ref h_m_power, .ref h_m_square, .ref h_m_product, .ref h_m_isLive, .ref h_m_down, .ref h_m_up, .ref h_m_ground, .ref h_m_met, .int m_ends, .int m_steps, .int m_last])), (h_m_allowed, .inl (cZ, 256, .inl f_m_allowed)), (h_m_desk, .inl (cI, 25, .inl f_m_desk))]
abbrev rm_X9_wrong : Room := { frames := 4, cells := 0, slots := 0, locals := 91 }
def q_X9_wrong (m_h : Int32) (m_w : Int32) (f_m_allowed : Nat → Int32) (f_m_desk : Nat → Int32) (post : Int32 → Prop) : Prop := (q_X9_gaps m_h m_w f_m_desk (fun (r1 : Int32) => ((r1 ≤ 0 → (q_X9_wrongNow m_h m_w f_m_allowed f_m_desk (fun (r3 : Int32) => (post r3)))) ∧ (¬ r1 ≤ 0 → (post (-4 : Int32))))))
theorem hdV_X9_wrong : yX9_wrong.cls = RX9 ∧ yX9_wrong.cls ≠ "java/lang/invoke/MethodHandle" ∧ yX9_wrong.cls ≠ "java/lang/invoke/VarHandle" ∧ (parseMethodDescriptor yX9_wrong.desc).map (fun d => d.parameters.length) = some 0 := by decide +kernel
set_option maxHeartbeats 4000000 in
set_option maxRecDepth 100000 in
theorem c_X9_wrong (l : Launch) (dC : Nat → ClassId) (dI : Nat → Nat → Nat) (cI cJ cZ : ClassId) (h_m h_m_allowed h_m_desk h_m_letters h_m_acts h_m_thens h_m_fits h_m_top h_m_bottom h_m_may h_m_ways h_m_found h_m_unlike h_m_seen h_m_seenThen h_m_power h_m_square h_m_product h_m_isLive h_m_down h_m_up h_m_ground h_m_met : Nat) (sz : Nat) (m_colours : Int32) (m_h : Int32) (m_w : Int32) (m_states : Int32) (m_rows : Int32) (m_ends : Int32) (m_steps : Int32) (m_last : Int32) (f_m_allowed : Nat → Int32) (f_m_desk : Nat → Int32)  {post : Int32 → Prop} (hq : q_X9_wrong m_h m_w f_m_allowed f_m_desk post) : Met l yX9_wrong wsX9_wrong rm_X9_wrong (va_Pc [.ref h_m] (gx_Pre (dC, dI) vwCl (gx_tys cI cJ cZ) sz (W_X9_wrong cI cJ cZ h_m h_m_allowed h_m_desk h_m_letters h_m_acts h_m_thens h_m_fits h_m_top h_m_bottom h_m_may h_m_ways h_m_found h_m_unlike h_m_seen h_m_seenThen h_m_power h_m_square h_m_product h_m_isLive h_m_down h_m_up h_m_ground h_m_met m_colours m_h m_w m_states m_rows m_ends m_steps m_last f_m_allowed f_m_desk))) (va_Qi (fun (r : Int32) (u : Unit) => post r) (gx_B (dC, dI) vwCl (gx_tys cI cJ cZ) (va_A (W_X9_wrong cI cJ cZ h_m h_m_allowed h_m_desk h_m_letters h_m_acts h_m_thens h_m_fits h_m_top h_m_bottom h_m_may h_m_ways h_m_found h_m_unlike h_m_seen h_m_seenThen h_m_power h_m_square h_m_product h_m_isLive h_m_down h_m_up h_m_ground h_m_met m_colours m_h m_w m_states m_rows m_ends m_steps m_last f_m_allowed f_m_desk) sz) (fun (u : Unit) => (W_X9_wrong cI cJ cZ h_m h_m_allowed h_m_desk h_m_letters h_m_acts h_m_thens h_m_fits h_m_top h_m_bottom h_m_may h_m_ways h_m_found h_m_unlike h_m_seen h_m_seenThen h_m_power h_m_square h_m_product h_m_isLive h_m_down h_m_up h_m_ground h_m_met m_colours m_h m_w m_states m_rows m_ends m_steps m_last f_m_allowed f_m_desk))) (va_A (W_X9_wrong cI cJ cZ h_m h_m_allowed h_m_desk h_m_letters h_m_acts h_m_thens h_m_fits h_m_top h_m_bottom h_m_may h_m_ways h_m_found h_m_unlike h_m_seen h_m_seenThen h_m_power h_m_square h_m_product h_m_isLive h_m_down h_m_up h_m_ground h_m_met m_colours m_h m_w m_states m_rows m_ends m_steps m_last f_m_allowed f_m_desk) sz)) 0 0 (va_A (W_X9_wrong cI cJ cZ h_m h_m_allowed h_m_desk h_m_letters h_m_acts h_m_thens h_m_fits h_m_top h_m_bottom h_m_may h_m_ways h_m_found h_m_unlike h_m_seen h_m_seenThen h_m_power h_m_square h_m_product h_m_isLive h_m_down h_m_up h_m_ground h_m_met m_colours m_h m_w m_states m_rows m_ends m_steps m_last f_m_allowed f_m_desk) sz) := by
  refine gx_i (cc := cX9_wrong) (maxL := 1) (by decide) rfl (Nat.le_of_ble_eq_true rfl) ?_
  intro p e s m args below meth c A QQ hx hb hml hown hts hA hP hK hD hret ls hl
  have hown : s.vm.findClass RX9 = some m.cls := hown
  have hS : va_S A s.heap s.heap [] := va_S.rf
  have hl : lv_has ls 1 [(0, .ref h_m)] := hl
  unfold q_X9_wrong at hq
  refine lv_aload_n hx hb dX9_wrong_0 rfl (lv_at hl 0 rfl) ?_
  refine gx_cVi (C := RX9) (As := []) (rest := []) ⟨hx, hb, hml, hown, hts⟩ (c_X9_gaps l dC dI cI cJ cZ h_m h_m_desk h_m_allowed h_m_letters h_m_acts h_m_thens h_m_fits h_m_top h_m_bottom h_m_may h_m_ways h_m_found h_m_unlike h_m_seen h_m_seenThen h_m_power h_m_square h_m_product h_m_isLive h_m_down h_m_up h_m_ground h_m_met s.heap.size m_colours m_h m_w m_states m_rows m_ends m_steps m_last f_m_desk hq) (cwV 0 hts gX9_wrong_X9_gaps rfl rfl rfl hdV_X9_gaps ⟨Nat.le_of_ble_eq_true rfl, Nat.le_of_ble_eq_true rfl⟩) hK hP hD hS hA [0, 2] [1] rfl rfl rfl rfl rfl (ci := 9) (q0 := 0) rfl rfl rfl rfl hl.1 (Nat.le_of_ble_eq_true rfl) dX9_wrong_1 rfl (fun r1 u H locs hq hP hD hS => ?_)
  try dsimp only at hq
  have hP : va_P (dC, dI) vwCl (W_X9_wrong cI cJ cZ h_m h_m_allowed h_m_desk h_m_letters h_m_acts h_m_thens h_m_fits h_m_top h_m_bottom h_m_may h_m_ways h_m_found h_m_unlike h_m_seen h_m_seenThen h_m_power h_m_square h_m_product h_m_isLive h_m_down h_m_up h_m_ground h_m_met m_colours m_h m_w m_states m_rows m_ends m_steps m_last f_m_allowed f_m_desk) H := hP.sub [1, 0, 2] rfl
  have hD : va_D A (W_X9_wrong cI cJ cZ h_m h_m_allowed h_m_desk h_m_letters h_m_acts h_m_thens h_m_fits h_m_top h_m_bottom h_m_may h_m_ways h_m_found h_m_unlike h_m_seen h_m_seenThen h_m_power h_m_square h_m_product h_m_isLive h_m_down h_m_up h_m_ground h_m_met m_colours m_h m_w m_states m_rows m_ends m_steps m_last f_m_allowed f_m_desk) := hD.sub [1, 0, 2] (by decide) rfl
  refine lv_if_le (tgt := 12) hx hb dX9_wrong_4 (by decide) (fun c2 => ?_) (fun c2 => ?_)
  · replace hq := hq.1 c2
    refine lv_aload_n hx hb dX9_wrong_12 rfl (lv_at hl 0 rfl) ?_
    refine gx_cVi (C := RX9) (As := []) (rest := []) ⟨hx, hb, hml, hown, hts⟩ (c_X9_wrongNow l dC dI cI cJ cZ h_m h_m_allowed h_m_desk h_m_letters h_m_acts h_m_thens h_m_fits h_m_top h_m_bottom h_m_may h_m_ways h_m_found h_m_unlike h_m_seen h_m_seenThen h_m_power h_m_square h_m_product h_m_isLive h_m_down h_m_up h_m_ground h_m_met H.size m_colours m_h m_w m_states m_rows m_ends m_steps m_last f_m_allowed f_m_desk hq) (cwV 0 hts gX9_wrong_X9_wrongNow rfl rfl rfl hdV_X9_wrongNow ⟨Nat.le_of_ble_eq_true rfl, Nat.le_of_ble_eq_true rfl⟩) hK hP hD hS hA [0, 1, 2] [] rfl rfl rfl rfl rfl (ci := 9) (q0 := 0) rfl rfl rfl rfl hl.1 (Nat.le_of_ble_eq_true rfl) dX9_wrong_13 rfl (fun r3 u H locs hq hP hD hS => ?_)
    try dsimp only at hq
    have hP : va_P (dC, dI) vwCl (W_X9_wrong cI cJ cZ h_m h_m_allowed h_m_desk h_m_letters h_m_acts h_m_thens h_m_fits h_m_top h_m_bottom h_m_may h_m_ways h_m_found h_m_unlike h_m_seen h_m_seenThen h_m_power h_m_square h_m_product h_m_isLive h_m_down h_m_up h_m_ground h_m_met m_colours m_h m_w m_states m_rows m_ends m_steps m_last f_m_allowed f_m_desk) H := hP
    have hD : va_D A (W_X9_wrong cI cJ cZ h_m h_m_allowed h_m_desk h_m_letters h_m_acts h_m_thens h_m_fits h_m_top h_m_bottom h_m_may h_m_ways h_m_found h_m_unlike h_m_seen h_m_seenThen h_m_power h_m_square h_m_product h_m_isLive h_m_down h_m_up h_m_ground h_m_met m_colours m_h m_w m_states m_rows m_ends m_steps m_last f_m_allowed f_m_desk) := hD
    exact hret r3 () hq _ _ hP hD hS _ _ dX9_wrong_16
  · replace hq := hq.2 c2
    refine lv_bipush (v := (-4 : Int32)) hx hb dX9_wrong_7 (by decide) ?_
    refine lv_goto (tgt := 16) hx hb dX9_wrong_9 (by decide) ?_
    exact hret (-4 : Int32) () hq _ _ hP hD hS _ _ dX9_wrong_16

abbrev W_X9_changed (cI cJ cZ : ClassId)  : va_W := []
abbrev rm_X9_changed : Room := { frames := 0, cells := 0, slots := 0, locals := 0 }
def q_X9_changed (l0 : Int32) (post : Int32 → Prop) : Prop := (((2 : Int32) ≤ l0 → (post l0)) ∧ (¬ (2 : Int32) ≤ l0 → (post ((1 : Int32) - l0))))
theorem hdS_X9_changed : yX9_changed.cls ≠ "java/lang/invoke/MethodHandle" ∧ yX9_changed.cls ≠ "java/lang/invoke/VarHandle" ∧ (parseMethodDescriptor yX9_changed.desc).map (fun d => d.parameters.length) = some 1 := by decide +kernel
set_option maxHeartbeats 4000000 in
set_option maxRecDepth 100000 in
theorem c_X9_changed (l : Launch) (dC : Nat → ClassId) (dI : Nat → Nat → Nat) (cI cJ cZ : ClassId) (sz : Nat)  (l0 : Int32) {post : Int32 → Prop} (hq : q_X9_changed l0 post) : Met l yX9_changed wsX9_changed rm_X9_changed (va_Pc [.int l0] (gx_Pre (dC, dI) vwCl (gx_tys cI cJ cZ) sz (W_X9_changed cI cJ cZ))) (va_Qi (fun (r : Int32) (u : Unit) => post r) (gx_B (dC, dI) vwCl (gx_tys cI cJ cZ) (va_A (W_X9_changed cI cJ cZ) sz) (fun (u : Unit) => (W_X9_changed cI cJ cZ))) (va_A (W_X9_changed cI cJ cZ) sz)) 0 0 (va_A (W_X9_changed cI cJ cZ) sz) := by
  refine gx_i (cc := cX9_changed) (maxL := 1) (by decide) rfl (Nat.le_of_ble_eq_true rfl) ?_
  intro p e s m args below meth c A QQ hx hb hml hown hts hA hP hK hD hret ls hl
  have hown : s.vm.findClass RX9 = some m.cls := hown
  have hS : va_S A s.heap s.heap [] := va_S.rf
  have hl : lv_has ls 1 [(0, .int l0)] := hl
  unfold q_X9_changed at hq
  refine lv_iload_n hx hb dX9_changed_0 rfl (lv_at hl 0 rfl) ?_
  refine lv_iconst (v := (2 : Int32)) hx hb dX9_changed_1 (by decide) ?_
  refine lv_icmp_ge (tgt := 11) hx hb dX9_changed_2 (by decide) (fun c1 => ?_) (fun c1 => ?_)
  · replace hq := hq.1 c1
    refine lv_iload_n hx hb dX9_changed_11 rfl (lv_at hl 0 rfl) ?_
    exact hret l0 () hq _ _ hP hD hS _ _ dX9_changed_12
  · replace hq := hq.2 c1
    refine lv_iconst (v := (1 : Int32)) hx hb dX9_changed_5 (by decide) ?_
    refine lv_iload_n hx hb dX9_changed_6 rfl (lv_at hl 0 rfl) ?_
    refine lv_isub hx hb dX9_changed_7 ?_
    refine lv_goto (tgt := 12) hx hb dX9_changed_8 (by decide) ?_
    exact hret ((1 : Int32) - l0) () hq _ _ hP hD hS _ _ dX9_changed_12

abbrev W_X9_turnOf (cI cJ cZ : ClassId)  : va_W := []
abbrev rm_X9_turnOf : Room := { frames := 1, cells := 0, slots := 0, locals := 20 }
def q_X9_turnOf (l0 : Int32) (l1 : Int32) (post : Int32 → Prop) : Prop := ((¬ l1 = 0 → ((¬ l1 = (1 : Int32) → ((¬ l1 = (2 : Int32) → (q_X9_changed ((l0 >>> ((6 : Int32) &&& 31)) &&& (3 : Int32)) (fun (r4 : Int32) => (q_X9_changed ((l0 >>> ((4 : Int32) &&& 31)) &&& (3 : Int32)) (fun (r5 : Int32) => (q_X9_changed ((l0 >>> ((2 : Int32) &&& 31)) &&& (3 : Int32)) (fun (r6 : Int32) => (q_X9_changed (l0 &&& (3 : Int32)) (fun (r7 : Int32) => (post (((((64 : Int32) * r4) + ((16 : Int32) * r5)) + ((4 : Int32) * r6)) + r7))))))))))) ∧ (l1 = (2 : Int32) → (post (((((64 : Int32) * ((l0 >>> ((2 : Int32) &&& 31)) &&& (3 : Int32))) + ((16 : Int32) * (l0 &&& (3 : Int32)))) + ((4 : Int32) * ((l0 >>> ((6 : Int32) &&& 31)) &&& (3 : Int32)))) + ((l0 >>> ((4 : Int32) &&& 31)) &&& (3 : Int32))))))) ∧ (l1 = (1 : Int32) → (post (((((64 : Int32) * ((l0 >>> ((4 : Int32) &&& 31)) &&& (3 : Int32))) + ((16 : Int32) * ((l0 >>> ((6 : Int32) &&& 31)) &&& (3 : Int32)))) + ((4 : Int32) * (l0 &&& (3 : Int32)))) + ((l0 >>> ((2 : Int32) &&& 31)) &&& (3 : Int32))))))) ∧ (l1 = 0 → (post (((((64 : Int32) * ((l0 >>> ((2 : Int32) &&& 31)) &&& (3 : Int32))) + ((16 : Int32) * ((l0 >>> ((6 : Int32) &&& 31)) &&& (3 : Int32)))) + ((4 : Int32) * (l0 &&& (3 : Int32)))) + ((l0 >>> ((4 : Int32) &&& 31)) &&& (3 : Int32))))))
theorem hdS_X9_turnOf : yX9_turnOf.cls ≠ "java/lang/invoke/MethodHandle" ∧ yX9_turnOf.cls ≠ "java/lang/invoke/VarHandle" ∧ (parseMethodDescriptor yX9_turnOf.desc).map (fun d => d.parameters.length) = some 2 := by decide +kernel
set_option maxHeartbeats 4000000 in
set_option maxRecDepth 100000 in
theorem c_X9_turnOf (l : Launch) (dC : Nat → ClassId) (dI : Nat → Nat → Nat) (cI cJ cZ : ClassId) (sz : Nat)  (l0 : Int32) (l1 : Int32) {post : Int32 → Prop} (hq : q_X9_turnOf l0 l1 post) : Met l yX9_turnOf wsX9_turnOf rm_X9_turnOf (va_Pc [.int l0, .int l1] (gx_Pre (dC, dI) vwCl (gx_tys cI cJ cZ) sz (W_X9_turnOf cI cJ cZ))) (va_Qi (fun (r : Int32) (u : Unit) => post r) (gx_B (dC, dI) vwCl (gx_tys cI cJ cZ) (va_A (W_X9_turnOf cI cJ cZ) sz) (fun (u : Unit) => (W_X9_turnOf cI cJ cZ))) (va_A (W_X9_turnOf cI cJ cZ) sz)) 0 0 (va_A (W_X9_turnOf cI cJ cZ) sz) := by
  refine gx_i (cc := cX9_turnOf) (maxL := 6) (by decide) rfl (Nat.le_of_ble_eq_true rfl) ?_
  intro p e s m args below meth c A QQ hx hb hml hown hts hA hP hK hD hret ls hl
  have hown : s.vm.findClass RX9 = some m.cls := hown
  have hS : va_S A s.heap s.heap [] := va_S.rf
  have hl : lv_has ls 6 [(0, .int l0), (1, .int l1)] := hl
  unfold q_X9_turnOf at hq
  refine lv_iload_n hx hb dX9_turnOf_0 rfl (lv_at hl 0 rfl) ?_
  refine lv_bipush (v := (6 : Int32)) hx hb dX9_turnOf_1 (by decide) ?_
  refine lv_ishr hx hb dX9_turnOf_3 ?_
  refine lv_iconst (v := (3 : Int32)) hx hb dX9_turnOf_4 (by decide) ?_
  refine lv_iand hx hb dX9_turnOf_5 ?_
  refine lv_istore_n (lv' := [(2, .int ((l0 >>> ((6 : Int32) &&& 31)) &&& (3 : Int32))), (0, .int l0), (1, .int l1)]) hx hb dX9_turnOf_6 rfl hl (by decide) rfl (fun ls hl => ?_)
  refine lv_iload_n hx hb dX9_turnOf_7 rfl (lv_at hl 1 rfl) ?_
  refine lv_iconst (v := (4 : Int32)) hx hb dX9_turnOf_8 (by decide) ?_
  refine lv_ishr hx hb dX9_turnOf_9 ?_
  refine lv_iconst (v := (3 : Int32)) hx hb dX9_turnOf_10 (by decide) ?_
  refine lv_iand hx hb dX9_turnOf_11 ?_
  refine lv_istore_n (lv' := [(3, .int ((l0 >>> ((4 : Int32) &&& 31)) &&& (3 : Int32))), (2, .int ((l0 >>> ((6 : Int32) &&& 31)) &&& (3 : Int32))), (0, .int l0), (1, .int l1)]) hx hb dX9_turnOf_12 rfl hl (by decide) rfl (fun ls hl => ?_)
  refine lv_iload_n hx hb dX9_turnOf_13 rfl (lv_at hl 2 rfl) ?_
  refine lv_iconst (v := (2 : Int32)) hx hb dX9_turnOf_14 (by decide) ?_
  refine lv_ishr hx hb dX9_turnOf_15 ?_
  refine lv_iconst (v := (3 : Int32)) hx hb dX9_turnOf_16 (by decide) ?_
  refine lv_iand hx hb dX9_turnOf_17 ?_
  refine lv_istore (lv' := [(4, .int ((l0 >>> ((2 : Int32) &&& 31)) &&& (3 : Int32))), (3, .int ((l0 >>> ((4 : Int32) &&& 31)) &&& (3 : Int32))), (2, .int ((l0 >>> ((6 : Int32) &&& 31)) &&& (3 : Int32))), (0, .int l0), (1, .int l1)]) hx hb dX9_turnOf_18 hl (by decide) rfl (fun ls hl => ?_)
  refine lv_iload_n hx hb dX9_turnOf_20 rfl (lv_at hl 3 rfl) ?_
  refine lv_iconst (v := (3 : Int32)) hx hb dX9_turnOf_21 (by decide) ?_
  refine lv_iand hx hb dX9_turnOf_22 ?_
  refine lv_istore (lv' := [(5, .int (l0 &&& (3 : Int32))), (4, .int ((l0 >>> ((2 : Int32) &&& 31)) &&& (3 : Int32))), (3, .int ((l0 >>> ((4 : Int32) &&& 31)) &&& (3 : Int32))), (2, .int ((l0 >>> ((6 : Int32) &&& 31)) &&& (3 : Int32))), (0, .int l0), (1, .int l1)]) hx hb dX9_turnOf_23 hl (by decide) rfl (fun ls hl => ?_)
  refine lv_iload_n hx hb dX9_turnOf_25 rfl (lv_at hl 5 rfl) ?_
  refine lv_if_ne (tgt := 47) hx hb dX9_turnOf_26 (by decide) (fun c1 => ?_) (fun c1 => ?_)
  · replace hq := hq.1 c1
    refine lv_iload_n hx hb dX9_turnOf_47 rfl (lv_at hl 5 rfl) ?_
    refine lv_iconst (v := (1 : Int32)) hx hb dX9_turnOf_48 (by decide) ?_
    refine lv_icmp_ne (tgt := 70) hx hb dX9_turnOf_49 (by decide) (fun c2 => ?_) (fun c2 => ?_)
    · replace hq := hq.1 c2
      refine lv_iload_n hx hb dX9_turnOf_70 rfl (lv_at hl 5 rfl) ?_
      refine lv_iconst (v := (2 : Int32)) hx hb dX9_turnOf_71 (by decide) ?_
      refine lv_icmp_ne (tgt := 95) hx hb dX9_turnOf_72 (by decide) (fun c3 => ?_) (fun c3 => ?_)
      · replace hq := hq.1 c3
        refine lv_bipush (v := (64 : Int32)) hx hb dX9_turnOf_95 (by decide) ?_
        refine lv_iload_n hx hb dX9_turnOf_97 rfl (lv_at hl 3 rfl) ?_
        refine gx_cSi (As := [.int ((l0 >>> ((6 : Int32) &&& 31)) &&& (3 : Int32))]) (rest := [.int (64 : Int32)]) ⟨hx, hb, hml, hown, hts⟩ (c_X9_changed l dC dI cI cJ cZ s.heap.size ((l0 >>> ((6 : Int32) &&& 31)) &&& (3 : Int32)) hq) (va_cwS 1 hts gX9_turnOf_X9_changed rfl rfl rfl hdS_X9_changed ⟨Nat.le_of_ble_eq_true rfl, Nat.le_of_ble_eq_true rfl⟩) hK hP hD hS hA [] [] rfl rfl rfl rfl rfl rfl hl.1 (Nat.le_of_ble_eq_true rfl) dX9_turnOf_98 rfl (fun r4 u H locs hq hP hD hS => ?_)
        try dsimp only at hq
        have hP : va_P (dC, dI) vwCl (W_X9_turnOf cI cJ cZ) H := hP
        have hD : va_D A (W_X9_turnOf cI cJ cZ) := hD
        refine lv_imul hx hb dX9_turnOf_101 ?_
        refine lv_bipush (v := (16 : Int32)) hx hb dX9_turnOf_102 (by decide) ?_
        refine lv_iload_n hx hb dX9_turnOf_104 rfl (lv_at hl 2 rfl) ?_
        refine gx_cSi (As := [.int ((l0 >>> ((4 : Int32) &&& 31)) &&& (3 : Int32))]) (rest := [.int (16 : Int32), .int ((64 : Int32) * r4)]) ⟨hx, hb, hml, hown, hts⟩ (c_X9_changed l dC dI cI cJ cZ H.size ((l0 >>> ((4 : Int32) &&& 31)) &&& (3 : Int32)) hq) (va_cwS 1 hts gX9_turnOf_X9_changed rfl rfl rfl hdS_X9_changed ⟨Nat.le_of_ble_eq_true rfl, Nat.le_of_ble_eq_true rfl⟩) hK hP hD hS hA [] [] rfl rfl rfl rfl rfl rfl hl.1 (Nat.le_of_ble_eq_true rfl) dX9_turnOf_105 rfl (fun r5 u H locs hq hP hD hS => ?_)
        try dsimp only at hq
        have hP : va_P (dC, dI) vwCl (W_X9_turnOf cI cJ cZ) H := hP
        have hD : va_D A (W_X9_turnOf cI cJ cZ) := hD
        refine lv_imul hx hb dX9_turnOf_108 ?_
        refine lv_iadd hx hb dX9_turnOf_109 ?_
        refine lv_iconst (v := (4 : Int32)) hx hb dX9_turnOf_110 (by decide) ?_
        refine lv_iload hx hb dX9_turnOf_111 (lv_at hl 1 rfl) ?_
        refine gx_cSi (As := [.int ((l0 >>> ((2 : Int32) &&& 31)) &&& (3 : Int32))]) (rest := [.int (4 : Int32), .int (((64 : Int32) * r4) + ((16 : Int32) * r5))]) ⟨hx, hb, hml, hown, hts⟩ (c_X9_changed l dC dI cI cJ cZ H.size ((l0 >>> ((2 : Int32) &&& 31)) &&& (3 : Int32)) hq) (va_cwS 1 hts gX9_turnOf_X9_changed rfl rfl rfl hdS_X9_changed ⟨Nat.le_of_ble_eq_true rfl, Nat.le_of_ble_eq_true rfl⟩) hK hP hD hS hA [] [] rfl rfl rfl rfl rfl rfl hl.1 (Nat.le_of_ble_eq_true rfl) dX9_turnOf_113 rfl (fun r6 u H locs hq hP hD hS => ?_)
        try dsimp only at hq
        have hP : va_P (dC, dI) vwCl (W_X9_turnOf cI cJ cZ) H := hP
        have hD : va_D A (W_X9_turnOf cI cJ cZ) := hD
        refine lv_imul hx hb dX9_turnOf_116 ?_
        refine lv_iadd hx hb dX9_turnOf_117 ?_
        refine lv_iload hx hb dX9_turnOf_118 (lv_at hl 0 rfl) ?_
        refine gx_cSi (As := [.int (l0 &&& (3 : Int32))]) (rest := [.int ((((64 : Int32) * r4) + ((16 : Int32) * r5)) + ((4 : Int32) * r6))]) ⟨hx, hb, hml, hown, hts⟩ (c_X9_changed l dC dI cI cJ cZ H.size (l0 &&& (3 : Int32)) hq) (va_cwS 1 hts gX9_turnOf_X9_changed rfl rfl rfl hdS_X9_changed ⟨Nat.le_of_ble_eq_true rfl, Nat.le_of_ble_eq_true rfl⟩) hK hP hD hS hA [] [] rfl rfl rfl rfl rfl rfl hl.1 (Nat.le_of_ble_eq_true rfl) dX9_turnOf_120 rfl (fun r7 u H locs hq hP hD hS => ?_)
        try dsimp only at hq
        have hP : va_P (dC, dI) vwCl (W_X9_turnOf cI cJ cZ) H := hP
        have hD : va_D A (W_X9_turnOf cI cJ cZ) := hD
        refine lv_iadd hx hb dX9_turnOf_123 ?_
        exact hret (((((64 : Int32) * r4) + ((16 : Int32) * r5)) + ((4 : Int32) * r6)) + r7) () hq _ _ hP hD hS _ _ dX9_turnOf_124
      · replace hq := hq.2 c3
        refine lv_bipush (v := (64 : Int32)) hx hb dX9_turnOf_75 (by decide) ?_
        refine lv_iload hx hb dX9_turnOf_77 (lv_at hl 1 rfl) ?_
        refine lv_imul hx hb dX9_turnOf_79 ?_
        refine lv_bipush (v := (16 : Int32)) hx hb dX9_turnOf_80 (by decide) ?_
        refine lv_iload hx hb dX9_turnOf_82 (lv_at hl 0 rfl) ?_
        refine lv_imul hx hb dX9_turnOf_84 ?_
        refine lv_iadd hx hb dX9_turnOf_85 ?_
        refine lv_iconst (v := (4 : Int32)) hx hb dX9_turnOf_86 (by decide) ?_
        refine lv_iload_n hx hb dX9_turnOf_87 rfl (lv_at hl 3 rfl) ?_
        refine lv_imul hx hb dX9_turnOf_88 ?_
        refine lv_iadd hx hb dX9_turnOf_89 ?_
        refine lv_iload_n hx hb dX9_turnOf_90 rfl (lv_at hl 2 rfl) ?_
        refine lv_iadd hx hb dX9_turnOf_91 ?_
        refine lv_goto (tgt := 124) hx hb dX9_turnOf_92 (by decide) ?_
        exact hret (((((64 : Int32) * ((l0 >>> ((2 : Int32) &&& 31)) &&& (3 : Int32))) + ((16 : Int32) * (l0 &&& (3 : Int32)))) + ((4 : Int32) * ((l0 >>> ((6 : Int32) &&& 31)) &&& (3 : Int32)))) + ((l0 >>> ((4 : Int32) &&& 31)) &&& (3 : Int32))) () hq _ _ hP hD hS _ _ dX9_turnOf_124
    · replace hq := hq.2 c2
      refine lv_bipush (v := (64 : Int32)) hx hb dX9_turnOf_52 (by decide) ?_
      refine lv_iload_n hx hb dX9_turnOf_54 rfl (lv_at hl 2 rfl) ?_
      refine lv_imul hx hb dX9_turnOf_55 ?_
      refine lv_bipush (v := (16 : Int32)) hx hb dX9_turnOf_56 (by decide) ?_
      refine lv_iload_n hx hb dX9_turnOf_58 rfl (lv_at hl 3 rfl) ?_
      refine lv_imul hx hb dX9_turnOf_59 ?_
      refine lv_iadd hx hb dX9_turnOf_60 ?_
      refine lv_iconst (v := (4 : Int32)) hx hb dX9_turnOf_61 (by decide) ?_
      refine lv_iload hx hb dX9_turnOf_62 (lv_at hl 0 rfl) ?_
      refine lv_imul hx hb dX9_turnOf_64 ?_
      refine lv_iadd hx hb dX9_turnOf_65 ?_
      refine lv_iload hx hb dX9_turnOf_66 (lv_at hl 1 rfl) ?_
      refine lv_iadd hx hb dX9_turnOf_68 ?_
      exact hret (((((64 : Int32) * ((l0 >>> ((4 : Int32) &&& 31)) &&& (3 : Int32))) + ((16 : Int32) * ((l0 >>> ((6 : Int32) &&& 31)) &&& (3 : Int32)))) + ((4 : Int32) * (l0 &&& (3 : Int32)))) + ((l0 >>> ((2 : Int32) &&& 31)) &&& (3 : Int32))) () hq _ _ hP hD hS _ _ dX9_turnOf_69
  · replace hq := hq.2 c1
    refine lv_bipush (v := (64 : Int32)) hx hb dX9_turnOf_29 (by decide) ?_
    refine lv_iload hx hb dX9_turnOf_31 (lv_at hl 1 rfl) ?_
    refine lv_imul hx hb dX9_turnOf_33 ?_
    refine lv_bipush (v := (16 : Int32)) hx hb dX9_turnOf_34 (by decide) ?_
    refine lv_iload_n hx hb dX9_turnOf_36 rfl (lv_at hl 3 rfl) ?_
    refine lv_imul hx hb dX9_turnOf_37 ?_
    refine lv_iadd hx hb dX9_turnOf_38 ?_
    refine lv_iconst (v := (4 : Int32)) hx hb dX9_turnOf_39 (by decide) ?_
    refine lv_iload hx hb dX9_turnOf_40 (lv_at hl 0 rfl) ?_
    refine lv_imul hx hb dX9_turnOf_42 ?_
    refine lv_iadd hx hb dX9_turnOf_43 ?_
    refine lv_iload_n hx hb dX9_turnOf_44 rfl (lv_at hl 2 rfl) ?_
    refine lv_iadd hx hb dX9_turnOf_45 ?_
    exact hret (((((64 : Int32) * ((l0 >>> ((2 : Int32) &&& 31)) &&& (3 : Int32))) + ((16 : Int32) * ((l0 >>> ((6 : Int32) &&& 31)) &&& (3 : Int32)))) + ((4 : Int32) * (l0 &&& (3 : Int32)))) + ((l0 >>> ((4 : Int32) &&& 31)) &&& (3 : Int32))) () hq _ _ hP hD hS _ _ dX9_turnOf_46

abbrev W_X9_blocks (cI cJ cZ : ClassId) (h_m h_m_allowed h_m_desk h_m_letters h_m_acts h_m_thens h_m_fits h_m_top h_m_bottom h_m_may h_m_ways h_m_found h_m_unlike h_m_seen h_m_seenThen h_m_power h_m_square h_m_product h_m_isLive h_m_down h_m_up h_m_ground h_m_met : Nat) (m_colours : Int32) (m_h : Int32) (m_w : Int32) (m_states : Int32) (m_rows : Int32) (m_ends : Int32) (m_steps : Int32) (m_last : Int32) (f_m_allowed : Nat → Int32) : va_W := [(h_m, .inr (9, [.int m_colours, .ref h_m_allowed, .int m_h, .int m_w, .ref h_m_desk, .ref h_m_letters, .int m_states, .ref h_m_acts, .ref h_m_thens, .ref h_m_fits, .ref h_m_top, .ref h_m_bottom, .int m_rows, .ref h_m_may, .ref h_m_ways, .ref h_m_found, .ref h_m_unlike, .ref h_m_seen, .ref h_m_seenThen, .ref h_m_power, .ref h_m_square, .ref h_m_product, .ref h_m_isLive, .ref h_m_down, .ref h_m_up, .ref h_m_ground, .ref h_m_met, .int m_ends, .int m_steps, .int m_last])), (h_m_allowed, .inl (cZ, 256, .inl f_m_allowed))]
abbrev rm_X9_blocks : Room := { frames := 2, cells := 0, slots := 0, locals := 45 }
def r_X9_blocks_21 (f_m_allowed : Nat → Int32) (post : Int32 → Prop) (l1 : Int32) : Nat → (Int32) → (Int32) → Prop
  | 0, _, _ => False
  | n + 1, l2, l3 => (((256 : Int32) ≤ l3 → (post l2)) ∧ (¬ (256 : Int32) ≤ l3 → (vp_in l3 256 ∧ (((f_m_allowed (l3).toNatClampNeg) = 0 → ((r_X9_blocks_21 f_m_allowed post l1 n) (l2 + (0 : Int32)) (l3 + (1 : Int32)))) ∧ (¬ (f_m_allowed (l3).toNatClampNeg) = 0 → ((l1 = (-1 : Int32) → ((r_X9_blocks_21 f_m_allowed post l1 n) (l2 + (1 : Int32)) (l3 + (1 : Int32)))) ∧ (¬ l1 = (-1 : Int32) → (q_X9_turnOf l3 l1 (fun (r7 : Int32) => (vp_in r7 256 ∧ ((¬ (f_m_allowed (r7).toNatClampNeg) = 0 → ((r_X9_blocks_21 f_m_allowed post l1 n) (l2 + (0 : Int32)) (l3 + (1 : Int32)))) ∧ ((f_m_allowed (r7).toNatClampNeg) = 0 → ((r_X9_blocks_21 f_m_allowed post l1 n) (l2 + (1 : Int32)) (l3 + (1 : Int32)))))))))))))))
def q_X9_blocks_21 (f_m_allowed : Nat → Int32) (post : Int32 → Prop) (l1 : Int32) (l2 : Int32) (l3 : Int32) : Prop := ∃ n, r_X9_blocks_21 f_m_allowed post l1 n l2 l3
def q_X9_blocks (f_m_allowed : Nat → Int32) (l1 : Int32) (post : Int32 → Prop) : Prop := (q_X9_in ((l1).toInt64) (-1 : Int64) (3 : Int64) (fun (r1 : Int32) => ((¬ r1 = 0 → ((q_X9_blocks_21 f_m_allowed post) l1 (0 : Int32) (0 : Int32))) ∧ (r1 = 0 → (post (-3 : Int32))))))
theorem hdV_X9_blocks : yX9_blocks.cls = RX9 ∧ yX9_blocks.cls ≠ "java/lang/invoke/MethodHandle" ∧ yX9_blocks.cls ≠ "java/lang/invoke/VarHandle" ∧ (parseMethodDescriptor yX9_blocks.desc).map (fun d => d.parameters.length) = some 1 := by decide +kernel
set_option maxHeartbeats 4000000 in
set_option maxRecDepth 100000 in
theorem c_X9_blocks (l : Launch) (dC : Nat → ClassId) (dI : Nat → Nat → Nat) (cI cJ cZ : ClassId) (h_m h_m_allowed h_m_desk h_m_letters h_m_acts h_m_thens h_m_fits h_m_top h_m_bottom h_m_may h_m_ways h_m_found h_m_unlike h_m_seen h_m_seenThen h_m_power h_m_square h_m_product h_m_isLive h_m_down h_m_up h_m_ground h_m_met : Nat) (sz : Nat) (m_colours : Int32) (m_h : Int32) (m_w : Int32) (m_states : Int32) (m_rows : Int32) (m_ends : Int32) (m_steps : Int32) (m_last : Int32) (f_m_allowed : Nat → Int32) (l1 : Int32) {post : Int32 → Prop} (hq : q_X9_blocks f_m_allowed l1 post) : Met l yX9_blocks wsX9_blocks rm_X9_blocks (va_Pc [.ref h_m, .int l1] (gx_Pre (dC, dI) vwCl (gx_tys cI cJ cZ) sz (W_X9_blocks cI cJ cZ h_m h_m_allowed h_m_desk h_m_letters h_m_acts h_m_thens h_m_fits h_m_top h_m_bottom h_m_may h_m_ways h_m_found h_m_unlike h_m_seen h_m_seenThen h_m_power h_m_square h_m_product h_m_isLive h_m_down h_m_up h_m_ground h_m_met m_colours m_h m_w m_states m_rows m_ends m_steps m_last f_m_allowed))) (va_Qi (fun (r : Int32) (u : Unit) => post r) (gx_B (dC, dI) vwCl (gx_tys cI cJ cZ) (va_A (W_X9_blocks cI cJ cZ h_m h_m_allowed h_m_desk h_m_letters h_m_acts h_m_thens h_m_fits h_m_top h_m_bottom h_m_may h_m_ways h_m_found h_m_unlike h_m_seen h_m_seenThen h_m_power h_m_square h_m_product h_m_isLive h_m_down h_m_up h_m_ground h_m_met m_colours m_h m_w m_states m_rows m_ends m_steps m_last f_m_allowed) sz) (fun (u : Unit) => (W_X9_blocks cI cJ cZ h_m h_m_allowed h_m_desk h_m_letters h_m_acts h_m_thens h_m_fits h_m_top h_m_bottom h_m_may h_m_ways h_m_found h_m_unlike h_m_seen h_m_seenThen h_m_power h_m_square h_m_product h_m_isLive h_m_down h_m_up h_m_ground h_m_met m_colours m_h m_w m_states m_rows m_ends m_steps m_last f_m_allowed))) (va_A (W_X9_blocks cI cJ cZ h_m h_m_allowed h_m_desk h_m_letters h_m_acts h_m_thens h_m_fits h_m_top h_m_bottom h_m_may h_m_ways h_m_found h_m_unlike h_m_seen h_m_seenThen h_m_power h_m_square h_m_product h_m_isLive h_m_down h_m_up h_m_ground h_m_met m_colours m_h m_w m_states m_rows m_ends m_steps m_last f_m_allowed) sz)) 0 0 (va_A (W_X9_blocks cI cJ cZ h_m h_m_allowed h_m_desk h_m_letters h_m_acts h_m_thens h_m_fits h_m_top h_m_bottom h_m_may h_m_ways h_m_found h_m_unlike h_m_seen h_m_seenThen h_m_power h_m_square h_m_product h_m_isLive h_m_down h_m_up h_m_ground h_m_met m_colours m_h m_w m_states m_rows m_ends m_steps m_last f_m_allowed) sz) := by
  refine gx_i (cc := cX9_blocks) (maxL := 4) (by decide) rfl (Nat.le_of_ble_eq_true rfl) ?_
  intro p e s m args below meth c A QQ hx hb hml hown hts hA hP hK hD hret ls hl
  have hown : s.vm.findClass RX9 = some m.cls := hown
  have hcl123 := hts (.constantLong RX9 123 (-1)) (by decide +kernel)
  have hcl101 := hts (.constantLong RX9 101 (3)) (by decide +kernel)
  have hf13 := hts (.fieldLink RX9 13 "SmallWindowsModel" "allowed" "[Z") (by decide +kernel)
  have hinX9 : ∀ w ∈ u_ws RX9 TX9 30, w ∈ wsX9_blocks := fun w h => List.mem_cons_of_mem _ ((List.mem_append_right _ h))
  have hS : va_S A s.heap s.heap [] := va_S.rf
  have hl : lv_has ls 4 [(0, .ref h_m), (1, .int l1)] := hl
  have L21 : ∀ (l1 : Int32) (n : Nat) (l2 : Int32) (l3 : Int32), r_X9_blocks_21 f_m_allowed post l1 n l2 l3 → ∀ (H : Heap) (locs : List Loc), va_P (dC, dI) vwCl (W_X9_blocks cI cJ cZ h_m h_m_allowed h_m_desk h_m_letters h_m_acts h_m_thens h_m_fits h_m_top h_m_bottom h_m_may h_m_ways h_m_found h_m_unlike h_m_seen h_m_seenThen h_m_power h_m_square h_m_product h_m_isLive h_m_down h_m_up h_m_ground h_m_met m_colours m_h m_w m_states m_rows m_ends m_steps m_last f_m_allowed) H → va_D A (W_X9_blocks cI cJ cZ h_m h_m_allowed h_m_desk h_m_letters h_m_acts h_m_thens h_m_fits h_m_top h_m_bottom h_m_may h_m_ways h_m_found h_m_unlike h_m_seen h_m_seenThen h_m_power h_m_square h_m_product h_m_isLive h_m_down h_m_up h_m_ground h_m_met m_colours m_h m_w m_states m_rows m_ends m_steps m_last f_m_allowed) → va_S A s.heap H locs → ∀ ls : Array Slot, lv_has ls 4 [(0, .ref h_m), (1, .int l1), (2, .int l2), (3, .int l3)] → W p l e rm_X9_blocks s m args below meth c H locs 0 0 QQ (F0 m 21 ls []) := by
    intro l1 n
    induction n with
    | zero => intro l2 l3 hq; exact False.elim hq
    | succ n ih =>
      intro l2 l3 hq H locs hP hD hS ls hl
      unfold r_X9_blocks_21 at hq
      refine lv_iload_n hx hb dX9_blocks_21 rfl (lv_at hl 3 rfl) ?_
      refine lv_sipush (v := (256 : Int32)) hx hb dX9_blocks_22 (by decide) ?_
      refine lv_icmp_ge (tgt := 69) hx hb dX9_blocks_25 (by decide) (fun c3 => ?_) (fun c3 => ?_)
      · replace hq := hq.1 c3
        refine lv_iload_n hx hb dX9_blocks_69 rfl (lv_at hl 2 rfl) ?_
        exact hret l2 () hq _ _ hP hD hS _ _ dX9_blocks_70
      · replace hq := hq.2 c3
        refine lv_iload_n hx hb dX9_blocks_28 rfl (lv_at hl 2 rfl) ?_
        refine lv_aload_n hx hb dX9_blocks_29 rfl (lv_at hl 0 rfl) ?_
        refine va_get (D := (dC, dI)) (ci := 9) (v := .ref h_m_allowed) (C := RX9) (T := TX9) (N := 30) hx hb hts hinX9 hown hK hP 0 rfl rfl 1 (by decide) hf13 (fun _ h9 => h9) rfl dX9_blocks_30 ?_
        refine lv_iload_n hx hb dX9_blocks_33 rfl (lv_at hl 3 rfl) ?_
        obtain ⟨hv4, hq⟩ := hq
        refine va_zald hx hb hK hP 1 2 rfl rfl hv4 dX9_blocks_34 ?_
        refine lv_if_eq (tgt := 60) hx hb dX9_blocks_35 (by decide) (fun c5 => ?_) (fun c5 => ?_)
        · replace hq := hq.1 c5
          refine lv_iconst (v := (0 : Int32)) hx hb dX9_blocks_60 (by decide) ?_
          refine lv_iadd hx hb dX9_blocks_61 ?_
          refine lv_istore_n (lv' := [(2, .int (l2 + (0 : Int32))), (0, .ref h_m), (1, .int l1), (3, .int l3)]) hx hb dX9_blocks_62 rfl hl (by decide) rfl (fun ls hl => ?_)
          refine lv_iinc (v := (l3 + (1 : Int32))) (lv' := [(3, .int (l3 + (1 : Int32))), (2, .int (l2 + (0 : Int32))), (0, .ref h_m), (1, .int l1)]) hx hb dX9_blocks_63 hl (k := 3) rfl rfl (by decide) rfl (fun ls hl => ?_)
          refine lv_goto (tgt := 21) hx hb dX9_blocks_66 (by decide) ?_
          exact ih _ _ hq _ _ hP hD hS _ (lv_sub hl [2, 3, 1, 0] rfl)
        · replace hq := hq.2 c5
          refine lv_iload_n hx hb dX9_blocks_38 rfl (lv_at hl 1 rfl) ?_
          refine lv_iconst (v := (-1 : Int32)) hx hb dX9_blocks_39 (by decide) ?_
          refine lv_icmp_eq (tgt := 56) hx hb dX9_blocks_40 (by decide) (fun c6 => ?_) (fun c6 => ?_)
          · replace hq := hq.1 c6
            refine lv_iconst (v := (1 : Int32)) hx hb dX9_blocks_56 (by decide) ?_
            refine lv_goto (tgt := 61) hx hb dX9_blocks_57 (by decide) ?_
            refine lv_iadd hx hb dX9_blocks_61 ?_
            refine lv_istore_n (lv' := [(2, .int (l2 + (1 : Int32))), (0, .ref h_m), (1, .int l1), (3, .int l3)]) hx hb dX9_blocks_62 rfl hl (by decide) rfl (fun ls hl => ?_)
            refine lv_iinc (v := (l3 + (1 : Int32))) (lv' := [(3, .int (l3 + (1 : Int32))), (2, .int (l2 + (1 : Int32))), (0, .ref h_m), (1, .int l1)]) hx hb dX9_blocks_63 hl (k := 3) rfl rfl (by decide) rfl (fun ls hl => ?_)
            refine lv_goto (tgt := 21) hx hb dX9_blocks_66 (by decide) ?_
            exact ih _ _ hq _ _ hP hD hS _ (lv_sub hl [2, 3, 1, 0] rfl)
          · replace hq := hq.2 c6
            refine lv_aload_n hx hb dX9_blocks_43 rfl (lv_at hl 0 rfl) ?_
            refine va_get (D := (dC, dI)) (ci := 9) (v := .ref h_m_allowed) (C := RX9) (T := TX9) (N := 30) hx hb hts hinX9 hown hK hP 0 rfl rfl 1 (by decide) hf13 (fun _ h9 => h9) rfl dX9_blocks_44 ?_
            refine lv_iload_n hx hb dX9_blocks_47 rfl (lv_at hl 3 rfl) ?_
            refine lv_iload_n hx hb dX9_blocks_48 rfl (lv_at hl 1 rfl) ?_
            refine gx_cSi (As := [.int l3, .int l1]) (rest := [.ref h_m_allowed, .int l2]) ⟨hx, hb, hml, hown, hts⟩ (c_X9_turnOf l dC dI cI cJ cZ H.size l3 l1 hq) (va_cwS 2 hts gX9_blocks_X9_turnOf rfl rfl rfl hdS_X9_turnOf ⟨Nat.le_of_ble_eq_true rfl, Nat.le_of_ble_eq_true rfl⟩) hK hP hD hS hA [] [0, 1] rfl rfl rfl rfl rfl rfl hl.1 (Nat.le_of_ble_eq_true rfl) dX9_blocks_49 rfl (fun r7 u H locs hq hP hD hS => ?_)
            try dsimp only at hq
            have hP : va_P (dC, dI) vwCl (W_X9_blocks cI cJ cZ h_m h_m_allowed h_m_desk h_m_letters h_m_acts h_m_thens h_m_fits h_m_top h_m_bottom h_m_may h_m_ways h_m_found h_m_unlike h_m_seen h_m_seenThen h_m_power h_m_square h_m_product h_m_isLive h_m_down h_m_up h_m_ground h_m_met m_colours m_h m_w m_states m_rows m_ends m_steps m_last f_m_allowed) H := hP
            have hD : va_D A (W_X9_blocks cI cJ cZ h_m h_m_allowed h_m_desk h_m_letters h_m_acts h_m_thens h_m_fits h_m_top h_m_bottom h_m_may h_m_ways h_m_found h_m_unlike h_m_seen h_m_seenThen h_m_power h_m_square h_m_product h_m_isLive h_m_down h_m_up h_m_ground h_m_met m_colours m_h m_w m_states m_rows m_ends m_steps m_last f_m_allowed) := hD
            obtain ⟨hv8, hq⟩ := hq
            refine va_zald hx hb hK hP 1 2 rfl rfl hv8 dX9_blocks_52 ?_
            refine lv_if_ne (tgt := 60) hx hb dX9_blocks_53 (by decide) (fun c9 => ?_) (fun c9 => ?_)
            · replace hq := hq.1 c9
              refine lv_iconst (v := (0 : Int32)) hx hb dX9_blocks_60 (by decide) ?_
              refine lv_iadd hx hb dX9_blocks_61 ?_
              refine lv_istore_n (lv' := [(2, .int (l2 + (0 : Int32))), (0, .ref h_m), (1, .int l1), (3, .int l3)]) hx hb dX9_blocks_62 rfl hl (by decide) rfl (fun ls hl => ?_)
              refine lv_iinc (v := (l3 + (1 : Int32))) (lv' := [(3, .int (l3 + (1 : Int32))), (2, .int (l2 + (0 : Int32))), (0, .ref h_m), (1, .int l1)]) hx hb dX9_blocks_63 hl (k := 3) rfl rfl (by decide) rfl (fun ls hl => ?_)
              refine lv_goto (tgt := 21) hx hb dX9_blocks_66 (by decide) ?_
              exact ih _ _ hq _ _ hP hD hS _ (lv_sub hl [2, 3, 1, 0] rfl)
            · replace hq := hq.2 c9
              refine lv_iconst (v := (1 : Int32)) hx hb dX9_blocks_56 (by decide) ?_
              refine lv_goto (tgt := 61) hx hb dX9_blocks_57 (by decide) ?_
              refine lv_iadd hx hb dX9_blocks_61 ?_
              refine lv_istore_n (lv' := [(2, .int (l2 + (1 : Int32))), (0, .ref h_m), (1, .int l1), (3, .int l3)]) hx hb dX9_blocks_62 rfl hl (by decide) rfl (fun ls hl => ?_)
              refine lv_iinc (v := (l3 + (1 : Int32))) (lv' := [(3, .int (l3 + (1 : Int32))), (2, .int (l2 + (1 : Int32))), (0, .ref h_m), (1, .int l1)]) hx hb dX9_blocks_63 hl (k := 3) rfl rfl (by decide) rfl (fun ls hl => ?_)
              refine lv_goto (tgt := 21) hx hb dX9_blocks_66 (by decide) ?_
              exact ih _ _ hq _ _ hP hD hS _ (lv_sub hl [2, 3, 1, 0] rfl)
  have C21 : ∀ (l1 : Int32) (l2 : Int32) (l3 : Int32), q_X9_blocks_21 f_m_allowed post l1 l2 l3 → ∀ (H : Heap) (locs : List Loc), va_P (dC, dI) vwCl (W_X9_blocks cI cJ cZ h_m h_m_allowed h_m_desk h_m_letters h_m_acts h_m_thens h_m_fits h_m_top h_m_bottom h_m_may h_m_ways h_m_found h_m_unlike h_m_seen h_m_seenThen h_m_power h_m_square h_m_product h_m_isLive h_m_down h_m_up h_m_ground h_m_met m_colours m_h m_w m_states m_rows m_ends m_steps m_last f_m_allowed) H → va_D A (W_X9_blocks cI cJ cZ h_m h_m_allowed h_m_desk h_m_letters h_m_acts h_m_thens h_m_fits h_m_top h_m_bottom h_m_may h_m_ways h_m_found h_m_unlike h_m_seen h_m_seenThen h_m_power h_m_square h_m_product h_m_isLive h_m_down h_m_up h_m_ground h_m_met m_colours m_h m_w m_states m_rows m_ends m_steps m_last f_m_allowed) → va_S A s.heap H locs → ∀ ls : Array Slot, lv_has ls 4 [(0, .ref h_m), (1, .int l1), (2, .int l2), (3, .int l3)] → W p l e rm_X9_blocks s m args below meth c H locs 0 0 QQ (F0 m 21 ls []) := by
    intro l1 l2 l3 hq H locs hP hD hS ls hl
    obtain ⟨n, hq⟩ := hq
    exact L21 _ n _ _ hq H locs hP hD hS ls hl
  unfold q_X9_blocks at hq
  refine lv_iload_n hx hb dX9_blocks_0 rfl (lv_at hl 1 rfl) ?_
  refine lv_i2l hx hb dX9_blocks_1 rfl ?_
  refine lv_ldc2 hx hb hown hcl123 dX9_blocks_2 ?_
  refine lv_ldc2 hx hb hown hcl101 dX9_blocks_5 ?_
  refine gx_cSi (As := [.long ((l1).toInt64), .long (-1 : Int64), .long (3 : Int64)]) (rest := []) ⟨hx, hb, hml, hown, hts⟩ (c_X9_in l dC dI cI cJ cZ s.heap.size ((l1).toInt64) (-1 : Int64) (3 : Int64) hq) (va_cwS 3 hts gX9_blocks_X9_in rfl rfl rfl hdS_X9_in ⟨Nat.le_of_ble_eq_true rfl, Nat.le_of_ble_eq_true rfl⟩) hK hP hD hS hA [] [0, 1] rfl rfl rfl rfl rfl rfl hl.1 (Nat.le_of_ble_eq_true rfl) dX9_blocks_8 rfl (fun r1 u H locs hq hP hD hS => ?_)
  try dsimp only at hq
  have hP : va_P (dC, dI) vwCl (W_X9_blocks cI cJ cZ h_m h_m_allowed h_m_desk h_m_letters h_m_acts h_m_thens h_m_fits h_m_top h_m_bottom h_m_may h_m_ways h_m_found h_m_unlike h_m_seen h_m_seenThen h_m_power h_m_square h_m_product h_m_isLive h_m_down h_m_up h_m_ground h_m_met m_colours m_h m_w m_states m_rows m_ends m_steps m_last f_m_allowed) H := hP
  have hD : va_D A (W_X9_blocks cI cJ cZ h_m h_m_allowed h_m_desk h_m_letters h_m_acts h_m_thens h_m_fits h_m_top h_m_bottom h_m_may h_m_ways h_m_found h_m_unlike h_m_seen h_m_seenThen h_m_power h_m_square h_m_product h_m_isLive h_m_down h_m_up h_m_ground h_m_met m_colours m_h m_w m_states m_rows m_ends m_steps m_last f_m_allowed) := hD
  refine lv_if_ne (tgt := 17) hx hb dX9_blocks_11 (by decide) (fun c2 => ?_) (fun c2 => ?_)
  · replace hq := hq.1 c2
    refine lv_iconst (v := (0 : Int32)) hx hb dX9_blocks_17 (by decide) ?_
    refine lv_istore_n (lv' := [(2, .int (0 : Int32)), (0, .ref h_m), (1, .int l1)]) hx hb dX9_blocks_18 rfl hl (by decide) rfl (fun ls hl => ?_)
    refine lv_iconst (v := (0 : Int32)) hx hb dX9_blocks_19 (by decide) ?_
    refine lv_istore_n (lv' := [(3, .int (0 : Int32)), (2, .int (0 : Int32)), (0, .ref h_m), (1, .int l1)]) hx hb dX9_blocks_20 rfl hl (by decide) rfl (fun ls hl => ?_)
    exact C21 _ _ _ hq _ _ hP hD hS _ (lv_sub hl [2, 3, 1, 0] rfl)
  · replace hq := hq.2 c2
    refine lv_bipush (v := (-3 : Int32)) hx hb dX9_blocks_14 (by decide) ?_
    exact hret (-3 : Int32) () hq _ _ hP hD hS _ _ dX9_blocks_16

abbrev W_X9_close (cI cJ cZ : ClassId) (h_m h_m_allowed h_m_desk h_m_letters h_m_acts h_m_thens h_m_fits h_m_top h_m_bottom h_m_may h_m_ways h_m_found h_m_unlike h_m_seen h_m_seenThen h_m_power h_m_square h_m_product h_m_isLive h_m_down h_m_up h_m_ground h_m_met : Nat) (m_colours : Int32) (m_h : Int32) (m_w : Int32) (m_states : Int32) (m_rows : Int32) (m_ends : Int32) (m_steps : Int32) (m_last : Int32) (f_m_allowed : Nat → Int32) : va_W := [(h_m, .inr (9, [.int m_colours, .ref h_m_allowed, .int m_h, .int m_w, .ref h_m_desk, .ref h_m_letters, .int m_states, .ref h_m_acts, .ref h_m_thens, .ref h_m_fits, .ref h_m_top, .ref h_m_bottom, .int m_rows, .ref h_m_may, .ref h_m_ways, .ref h_m_found, .ref h_m_unlike, .ref h_m_seen, .ref h_m_seenThen, .ref h_m_power, .ref h_m_square, .ref h_m_product, .ref h_m_isLive, .ref h_m_down, .ref h_m_up, .ref h_m_ground, .ref h_m_met, .int m_ends, .int m_steps, .int m_last])), (h_m_allowed, .inl (cZ, 256, .inl f_m_allowed))]
abbrev rm_X9_close : Room := { frames := 2, cells := 0, slots := 0, locals := 45 }
def r_X9_close_28 (l1 : Int32) (post : Int32 → (Nat → Int32) → Prop) (K83 : (Int32) → (Int32) → (Nat → Int32) → Prop) : Nat → (Int32) → (Int32) → (Int32) → (Nat → Int32) → Prop
  | 0, _, _, _, _ => False
  | n + 1, l2, l3, l4, f_m_allowed => (((256 : Int32) ≤ l4 → (K83 l2 l3 f_m_allowed)) ∧ (¬ (256 : Int32) ≤ l4 → (vp_in l4 256 ∧ (((f_m_allowed (l4).toNatClampNeg) = 0 → ((r_X9_close_28 l1 post K83 n) l2 l3 (l4 + (1 : Int32)) f_m_allowed)) ∧ (¬ (f_m_allowed (l4).toNatClampNeg) = 0 → (q_X9_turnOf l4 l1 (fun (r7 : Int32) => (vp_in r7 256 ∧ ((¬ (f_m_allowed (r7).toNatClampNeg) = 0 → ((r_X9_close_28 l1 post K83 n) l2 l3 (l4 + (1 : Int32)) f_m_allowed)) ∧ ((f_m_allowed (r7).toNatClampNeg) = 0 → (q_X9_turnOf l4 l1 (fun (r10 : Int32) => (vp_in r10 256 ∧ ((r_X9_close_28 l1 post K83 n) (l2 + (1 : Int32)) (1 : Int32) (l4 + (1 : Int32)) (upd f_m_allowed (r10).toNatClampNeg (1 : Int32))))))))))))))))
def q_X9_close_83 (l1 : Int32) (post : Int32 → (Nat → Int32) → Prop) (K19 : (Int32) → (Int32) → (Nat → Int32) → Prop) (l2 : Int32) (l3 : Int32) (f_m_allowed : Nat → Int32) : Prop := (K19 l2 l3 f_m_allowed)
def q_X9_close_28 (l1 : Int32) (post : Int32 → (Nat → Int32) → Prop) (K19 : (Int32) → (Int32) → (Nat → Int32) → Prop) (l2 : Int32) (l3 : Int32) (l4 : Int32) (f_m_allowed : Nat → Int32) : Prop := ∃ n, r_X9_close_28 l1 post (q_X9_close_83 l1 post K19) n l2 l3 l4 f_m_allowed
def r_X9_close_19 (post : Int32 → (Nat → Int32) → Prop) (l1 : Int32) : Nat → (Int32) → (Int32) → (Nat → Int32) → Prop
  | 0, _, _, _ => False
  | n + 1, l2, l3, f_m_allowed => ((l3 = 0 → (post l2 f_m_allowed)) ∧ (¬ l3 = 0 → ((q_X9_close_28 l1 post (r_X9_close_19 post l1 n)) l2 (0 : Int32) (0 : Int32) f_m_allowed)))
def q_X9_close_19 (post : Int32 → (Nat → Int32) → Prop) (l1 : Int32) (l2 : Int32) (l3 : Int32) (f_m_allowed : Nat → Int32) : Prop := ∃ n, r_X9_close_19 post l1 n l2 l3 f_m_allowed
def q_X9_close (f_m_allowed : Nat → Int32) (l1 : Int32) (post : Int32 → (Nat → Int32) → Prop) : Prop := (q_X9_in ((l1).toInt64) (0 : Int64) (3 : Int64) (fun (r1 : Int32) => ((¬ r1 = 0 → ((q_X9_close_19 post) l1 (0 : Int32) (1 : Int32) f_m_allowed)) ∧ (r1 = 0 → (post (-3 : Int32) f_m_allowed)))))
theorem hdV_X9_close : yX9_close.cls = RX9 ∧ yX9_close.cls ≠ "java/lang/invoke/MethodHandle" ∧ yX9_close.cls ≠ "java/lang/invoke/VarHandle" ∧ (parseMethodDescriptor yX9_close.desc).map (fun d => d.parameters.length) = some 1 := by decide +kernel
set_option maxHeartbeats 4000000 in
set_option maxRecDepth 100000 in
theorem c_X9_close (l : Launch) (dC : Nat → ClassId) (dI : Nat → Nat → Nat) (cI cJ cZ : ClassId) (h_m h_m_allowed h_m_desk h_m_letters h_m_acts h_m_thens h_m_fits h_m_top h_m_bottom h_m_may h_m_ways h_m_found h_m_unlike h_m_seen h_m_seenThen h_m_power h_m_square h_m_product h_m_isLive h_m_down h_m_up h_m_ground h_m_met : Nat) (sz : Nat) (m_colours : Int32) (m_h : Int32) (m_w : Int32) (m_states : Int32) (m_rows : Int32) (m_ends : Int32) (m_steps : Int32) (m_last : Int32) (f_m_allowed : Nat → Int32) (l1 : Int32) {post : Int32 → (Nat → Int32) → Prop} (hq : q_X9_close f_m_allowed l1 post) : Met l yX9_close wsX9_close rm_X9_close (va_Pc [.ref h_m, .int l1] (gx_Pre (dC, dI) vwCl (gx_tys cI cJ cZ) sz (W_X9_close cI cJ cZ h_m h_m_allowed h_m_desk h_m_letters h_m_acts h_m_thens h_m_fits h_m_top h_m_bottom h_m_may h_m_ways h_m_found h_m_unlike h_m_seen h_m_seenThen h_m_power h_m_square h_m_product h_m_isLive h_m_down h_m_up h_m_ground h_m_met m_colours m_h m_w m_states m_rows m_ends m_steps m_last f_m_allowed))) (va_Qi (fun (r : Int32) (u : (Nat → Int32)) => post r u) (gx_B (dC, dI) vwCl (gx_tys cI cJ cZ) (va_A (W_X9_close cI cJ cZ h_m h_m_allowed h_m_desk h_m_letters h_m_acts h_m_thens h_m_fits h_m_top h_m_bottom h_m_may h_m_ways h_m_found h_m_unlike h_m_seen h_m_seenThen h_m_power h_m_square h_m_product h_m_isLive h_m_down h_m_up h_m_ground h_m_met m_colours m_h m_w m_states m_rows m_ends m_steps m_last f_m_allowed) sz) (fun (u : (Nat → Int32)) => (W_X9_close cI cJ cZ h_m h_m_allowed h_m_desk h_m_letters h_m_acts h_m_thens h_m_fits h_m_top h_m_bottom h_m_may h_m_ways h_m_found h_m_unlike h_m_seen h_m_seenThen h_m_power h_m_square h_m_product h_m_isLive h_m_down h_m_up h_m_ground h_m_met m_colours m_h m_w m_states m_rows m_ends m_steps m_last u))) (va_A (W_X9_close cI cJ cZ h_m h_m_allowed h_m_desk h_m_letters h_m_acts h_m_thens h_m_fits h_m_top h_m_bottom h_m_may h_m_ways h_m_found h_m_unlike h_m_seen h_m_seenThen h_m_power h_m_square h_m_product h_m_isLive h_m_down h_m_up h_m_ground h_m_met m_colours m_h m_w m_states m_rows m_ends m_steps m_last f_m_allowed) sz)) 0 0 (va_A (W_X9_close cI cJ cZ h_m h_m_allowed h_m_desk h_m_letters h_m_acts h_m_thens h_m_fits h_m_top h_m_bottom h_m_may h_m_ways h_m_found h_m_unlike h_m_seen h_m_seenThen h_m_power h_m_square h_m_product h_m_isLive h_m_down h_m_up h_m_ground h_m_met m_colours m_h m_w m_states m_rows m_ends m_steps m_last f_m_allowed) sz) := by
  refine gx_i (cc := cX9_close) (maxL := 5) (by decide) rfl (Nat.le_of_ble_eq_true rfl) ?_
  intro p e s m args below meth c A QQ hx hb hml hown hts hA hP hK hD hret ls hl
  have hown : s.vm.findClass RX9 = some m.cls := hown
  have hcl101 := hts (.constantLong RX9 101 (3)) (by decide +kernel)
  have hf13 := hts (.fieldLink RX9 13 "SmallWindowsModel" "allowed" "[Z") (by decide +kernel)
  have hinX9 : ∀ w ∈ u_ws RX9 TX9 30, w ∈ wsX9_close := fun w h => List.mem_cons_of_mem _ ((List.mem_append_right _ h))
  have hS : va_S A s.heap s.heap [] := va_S.rf
  have hl : lv_has ls 5 [(0, .ref h_m), (1, .int l1)] := hl
  have L28 : ∀ (l1 : Int32) (K83 : (Int32) → (Int32) → (Nat → Int32) → Prop) (hK83 : (∀ (l2 : Int32) (l3 : Int32) (f_m_allowed : Nat → Int32), K83 l2 l3 f_m_allowed → ∀ (H : Heap) (locs : List Loc), va_P (dC, dI) vwCl (W_X9_close cI cJ cZ h_m h_m_allowed h_m_desk h_m_letters h_m_acts h_m_thens h_m_fits h_m_top h_m_bottom h_m_may h_m_ways h_m_found h_m_unlike h_m_seen h_m_seenThen h_m_power h_m_square h_m_product h_m_isLive h_m_down h_m_up h_m_ground h_m_met m_colours m_h m_w m_states m_rows m_ends m_steps m_last f_m_allowed) H → va_D A (W_X9_close cI cJ cZ h_m h_m_allowed h_m_desk h_m_letters h_m_acts h_m_thens h_m_fits h_m_top h_m_bottom h_m_may h_m_ways h_m_found h_m_unlike h_m_seen h_m_seenThen h_m_power h_m_square h_m_product h_m_isLive h_m_down h_m_up h_m_ground h_m_met m_colours m_h m_w m_states m_rows m_ends m_steps m_last f_m_allowed) → va_S A s.heap H locs → ∀ ls : Array Slot, lv_has ls 5 [(0, .ref h_m), (1, .int l1), (2, .int l2), (3, .int l3)] → W p l e rm_X9_close s m args below meth c H locs 0 0 QQ (F0 m 83 ls []))) (n : Nat) (l2 : Int32) (l3 : Int32) (l4 : Int32) (f_m_allowed : Nat → Int32), r_X9_close_28 l1 post K83 n l2 l3 l4 f_m_allowed → ∀ (H : Heap) (locs : List Loc), va_P (dC, dI) vwCl (W_X9_close cI cJ cZ h_m h_m_allowed h_m_desk h_m_letters h_m_acts h_m_thens h_m_fits h_m_top h_m_bottom h_m_may h_m_ways h_m_found h_m_unlike h_m_seen h_m_seenThen h_m_power h_m_square h_m_product h_m_isLive h_m_down h_m_up h_m_ground h_m_met m_colours m_h m_w m_states m_rows m_ends m_steps m_last f_m_allowed) H → va_D A (W_X9_close cI cJ cZ h_m h_m_allowed h_m_desk h_m_letters h_m_acts h_m_thens h_m_fits h_m_top h_m_bottom h_m_may h_m_ways h_m_found h_m_unlike h_m_seen h_m_seenThen h_m_power h_m_square h_m_product h_m_isLive h_m_down h_m_up h_m_ground h_m_met m_colours m_h m_w m_states m_rows m_ends m_steps m_last f_m_allowed) → va_S A s.heap H locs → ∀ ls : Array Slot, lv_has ls 5 [(0, .ref h_m), (1, .int l1), (2, .int l2), (3, .int l3), (4, .int l4)] → W p l e rm_X9_close s m args below meth c H locs 0 0 QQ (F0 m 28 ls []) := by
    intro l1 K83 hK83 n
    induction n with
    | zero => intro l2 l3 l4 f_m_allowed hq; exact False.elim hq
    | succ n ih =>
      intro l2 l3 l4 f_m_allowed hq H locs hP hD hS ls hl
      unfold r_X9_close_28 at hq
      refine lv_iload hx hb dX9_close_28 (lv_at hl 4 rfl) ?_
      refine lv_sipush (v := (256 : Int32)) hx hb dX9_close_30 (by decide) ?_
      refine lv_icmp_ge (tgt := 83) hx hb dX9_close_33 (by decide) (fun c4 => ?_) (fun c4 => ?_)
      · replace hq := hq.1 c4
        exact hK83 _ _ _ hq _ _ hP hD hS _ (lv_sub hl [0, 1, 2, 3] rfl)
      · replace hq := hq.2 c4
        refine lv_aload_n hx hb dX9_close_36 rfl (lv_at hl 0 rfl) ?_
        refine va_get (D := (dC, dI)) (ci := 9) (v := .ref h_m_allowed) (C := RX9) (T := TX9) (N := 30) hx hb hts hinX9 hown hK hP 0 rfl rfl 1 (by decide) hf13 (fun _ h9 => h9) rfl dX9_close_37 ?_
        refine lv_iload hx hb dX9_close_40 (lv_at hl 4 rfl) ?_
        obtain ⟨hv5, hq⟩ := hq
        refine va_zald hx hb hK hP 1 2 rfl rfl hv5 dX9_close_42 ?_
        refine lv_if_eq (tgt := 77) hx hb dX9_close_43 (by decide) (fun c6 => ?_) (fun c6 => ?_)
        · replace hq := hq.1 c6
          refine lv_iinc (v := (l4 + (1 : Int32))) (lv' := [(4, .int (l4 + (1 : Int32))), (0, .ref h_m), (1, .int l1), (2, .int l2), (3, .int l3)]) hx hb dX9_close_77 hl (k := 4) rfl rfl (by decide) rfl (fun ls hl => ?_)
          refine lv_goto (tgt := 28) hx hb dX9_close_80 (by decide) ?_
          exact ih _ _ _ _ hq _ _ hP hD hS _ (lv_sub hl [1, 2, 3, 4, 0] rfl)
        · replace hq := hq.2 c6
          refine lv_aload_n hx hb dX9_close_46 rfl (lv_at hl 0 rfl) ?_
          refine va_get (D := (dC, dI)) (ci := 9) (v := .ref h_m_allowed) (C := RX9) (T := TX9) (N := 30) hx hb hts hinX9 hown hK hP 0 rfl rfl 1 (by decide) hf13 (fun _ h9 => h9) rfl dX9_close_47 ?_
          refine lv_iload hx hb dX9_close_50 (lv_at hl 4 rfl) ?_
          refine lv_iload_n hx hb dX9_close_52 rfl (lv_at hl 1 rfl) ?_
          refine gx_cSi (As := [.int l4, .int l1]) (rest := [.ref h_m_allowed]) ⟨hx, hb, hml, hown, hts⟩ (c_X9_turnOf l dC dI cI cJ cZ H.size l4 l1 hq) (va_cwS 2 hts gX9_close_X9_turnOf rfl rfl rfl hdS_X9_turnOf ⟨Nat.le_of_ble_eq_true rfl, Nat.le_of_ble_eq_true rfl⟩) hK hP hD hS hA [] [0, 1] rfl rfl rfl rfl rfl rfl hl.1 (Nat.le_of_ble_eq_true rfl) dX9_close_53 rfl (fun r7 u H locs hq hP hD hS => ?_)
          try dsimp only at hq
          have hP : va_P (dC, dI) vwCl (W_X9_close cI cJ cZ h_m h_m_allowed h_m_desk h_m_letters h_m_acts h_m_thens h_m_fits h_m_top h_m_bottom h_m_may h_m_ways h_m_found h_m_unlike h_m_seen h_m_seenThen h_m_power h_m_square h_m_product h_m_isLive h_m_down h_m_up h_m_ground h_m_met m_colours m_h m_w m_states m_rows m_ends m_steps m_last f_m_allowed) H := hP
          have hD : va_D A (W_X9_close cI cJ cZ h_m h_m_allowed h_m_desk h_m_letters h_m_acts h_m_thens h_m_fits h_m_top h_m_bottom h_m_may h_m_ways h_m_found h_m_unlike h_m_seen h_m_seenThen h_m_power h_m_square h_m_product h_m_isLive h_m_down h_m_up h_m_ground h_m_met m_colours m_h m_w m_states m_rows m_ends m_steps m_last f_m_allowed) := hD
          obtain ⟨hv8, hq⟩ := hq
          refine va_zald hx hb hK hP 1 2 rfl rfl hv8 dX9_close_56 ?_
          refine lv_if_ne (tgt := 77) hx hb dX9_close_57 (by decide) (fun c9 => ?_) (fun c9 => ?_)
          · replace hq := hq.1 c9
            refine lv_iinc (v := (l4 + (1 : Int32))) (lv' := [(4, .int (l4 + (1 : Int32))), (0, .ref h_m), (1, .int l1), (2, .int l2), (3, .int l3)]) hx hb dX9_close_77 hl (k := 4) rfl rfl (by decide) rfl (fun ls hl => ?_)
            refine lv_goto (tgt := 28) hx hb dX9_close_80 (by decide) ?_
            exact ih _ _ _ _ hq _ _ hP hD hS _ (lv_sub hl [1, 2, 3, 4, 0] rfl)
          · replace hq := hq.2 c9
            refine lv_aload_n hx hb dX9_close_60 rfl (lv_at hl 0 rfl) ?_
            refine va_get (D := (dC, dI)) (ci := 9) (v := .ref h_m_allowed) (C := RX9) (T := TX9) (N := 30) hx hb hts hinX9 hown hK hP 0 rfl rfl 1 (by decide) hf13 (fun _ h9 => h9) rfl dX9_close_61 ?_
            refine lv_iload hx hb dX9_close_64 (lv_at hl 4 rfl) ?_
            refine lv_iload_n hx hb dX9_close_66 rfl (lv_at hl 1 rfl) ?_
            refine gx_cSi (As := [.int l4, .int l1]) (rest := [.ref h_m_allowed]) ⟨hx, hb, hml, hown, hts⟩ (c_X9_turnOf l dC dI cI cJ cZ H.size l4 l1 hq) (va_cwS 2 hts gX9_close_X9_turnOf rfl rfl rfl hdS_X9_turnOf ⟨Nat.le_of_ble_eq_true rfl, Nat.le_of_ble_eq_true rfl⟩) hK hP hD hS hA [] [0, 1] rfl rfl rfl rfl rfl rfl hl.1 (Nat.le_of_ble_eq_true rfl) dX9_close_67 rfl (fun r10 u H locs hq hP hD hS => ?_)
            try dsimp only at hq
            have hP : va_P (dC, dI) vwCl (W_X9_close cI cJ cZ h_m h_m_allowed h_m_desk h_m_letters h_m_acts h_m_thens h_m_fits h_m_top h_m_bottom h_m_may h_m_ways h_m_found h_m_unlike h_m_seen h_m_seenThen h_m_power h_m_square h_m_product h_m_isLive h_m_down h_m_up h_m_ground h_m_met m_colours m_h m_w m_states m_rows m_ends m_steps m_last f_m_allowed) H := hP
            have hD : va_D A (W_X9_close cI cJ cZ h_m h_m_allowed h_m_desk h_m_letters h_m_acts h_m_thens h_m_fits h_m_top h_m_bottom h_m_may h_m_ways h_m_found h_m_unlike h_m_seen h_m_seenThen h_m_power h_m_square h_m_product h_m_isLive h_m_down h_m_up h_m_ground h_m_met m_colours m_h m_w m_states m_rows m_ends m_steps m_last f_m_allowed) := hD
            refine lv_iconst (v := (1 : Int32)) hx hb dX9_close_70 (by decide) ?_
            obtain ⟨hv11, hq⟩ := hq
            refine va_zast hx hb hK hP hD hS 1 2 rfl rfl hv11 dX9_close_71 (fun H locs hP hD hS => ?_)
            have hP : va_P (dC, dI) vwCl (W_X9_close cI cJ cZ h_m h_m_allowed h_m_desk h_m_letters h_m_acts h_m_thens h_m_fits h_m_top h_m_bottom h_m_may h_m_ways h_m_found h_m_unlike h_m_seen h_m_seenThen h_m_power h_m_square h_m_product h_m_isLive h_m_down h_m_up h_m_ground h_m_met m_colours m_h m_w m_states m_rows m_ends m_steps m_last (upd f_m_allowed (r10).toNatClampNeg (1 : Int32))) H := hP
            have hD : va_D A (W_X9_close cI cJ cZ h_m h_m_allowed h_m_desk h_m_letters h_m_acts h_m_thens h_m_fits h_m_top h_m_bottom h_m_may h_m_ways h_m_found h_m_unlike h_m_seen h_m_seenThen h_m_power h_m_square h_m_product h_m_isLive h_m_down h_m_up h_m_ground h_m_met m_colours m_h m_w m_states m_rows m_ends m_steps m_last (upd f_m_allowed (r10).toNatClampNeg (1 : Int32))) := hD
            refine lv_iinc (v := (l2 + (1 : Int32))) (lv' := [(2, .int (l2 + (1 : Int32))), (0, .ref h_m), (1, .int l1), (3, .int l3), (4, .int l4)]) hx hb dX9_close_72 hl (k := 2) rfl rfl (by decide) rfl (fun ls hl => ?_)
            refine lv_iconst (v := (1 : Int32)) hx hb dX9_close_75 (by decide) ?_
            refine lv_istore_n (lv' := [(3, .int (1 : Int32)), (2, .int (l2 + (1 : Int32))), (0, .ref h_m), (1, .int l1), (4, .int l4)]) hx hb dX9_close_76 rfl hl (by decide) rfl (fun ls hl => ?_)
            refine lv_iinc (v := (l4 + (1 : Int32))) (lv' := [(4, .int (l4 + (1 : Int32))), (3, .int (1 : Int32)), (2, .int (l2 + (1 : Int32))), (0, .ref h_m), (1, .int l1)]) hx hb dX9_close_77 hl (k := 4) rfl rfl (by decide) rfl (fun ls hl => ?_)
            refine lv_goto (tgt := 28) hx hb dX9_close_80 (by decide) ?_
            exact ih _ _ _ _ hq _ _ hP hD hS _ (lv_sub hl [3, 4, 2, 1, 0] rfl)
  have C83 : ∀ (l1 : Int32) (K19 : (Int32) → (Int32) → (Nat → Int32) → Prop) (hK19 : (∀ (l2 : Int32) (l3 : Int32) (f_m_allowed : Nat → Int32), K19 l2 l3 f_m_allowed → ∀ (H : Heap) (locs : List Loc), va_P (dC, dI) vwCl (W_X9_close cI cJ cZ h_m h_m_allowed h_m_desk h_m_letters h_m_acts h_m_thens h_m_fits h_m_top h_m_bottom h_m_may h_m_ways h_m_found h_m_unlike h_m_seen h_m_seenThen h_m_power h_m_square h_m_product h_m_isLive h_m_down h_m_up h_m_ground h_m_met m_colours m_h m_w m_states m_rows m_ends m_steps m_last f_m_allowed) H → va_D A (W_X9_close cI cJ cZ h_m h_m_allowed h_m_desk h_m_letters h_m_acts h_m_thens h_m_fits h_m_top h_m_bottom h_m_may h_m_ways h_m_found h_m_unlike h_m_seen h_m_seenThen h_m_power h_m_square h_m_product h_m_isLive h_m_down h_m_up h_m_ground h_m_met m_colours m_h m_w m_states m_rows m_ends m_steps m_last f_m_allowed) → va_S A s.heap H locs → ∀ ls : Array Slot, lv_has ls 5 [(0, .ref h_m), (1, .int l1), (2, .int l2), (3, .int l3)] → W p l e rm_X9_close s m args below meth c H locs 0 0 QQ (F0 m 19 ls []))) (l2 : Int32) (l3 : Int32) (f_m_allowed : Nat → Int32), q_X9_close_83 l1 post K19 l2 l3 f_m_allowed → ∀ (H : Heap) (locs : List Loc), va_P (dC, dI) vwCl (W_X9_close cI cJ cZ h_m h_m_allowed h_m_desk h_m_letters h_m_acts h_m_thens h_m_fits h_m_top h_m_bottom h_m_may h_m_ways h_m_found h_m_unlike h_m_seen h_m_seenThen h_m_power h_m_square h_m_product h_m_isLive h_m_down h_m_up h_m_ground h_m_met m_colours m_h m_w m_states m_rows m_ends m_steps m_last f_m_allowed) H → va_D A (W_X9_close cI cJ cZ h_m h_m_allowed h_m_desk h_m_letters h_m_acts h_m_thens h_m_fits h_m_top h_m_bottom h_m_may h_m_ways h_m_found h_m_unlike h_m_seen h_m_seenThen h_m_power h_m_square h_m_product h_m_isLive h_m_down h_m_up h_m_ground h_m_met m_colours m_h m_w m_states m_rows m_ends m_steps m_last f_m_allowed) → va_S A s.heap H locs → ∀ ls : Array Slot, lv_has ls 5 [(0, .ref h_m), (1, .int l1), (2, .int l2), (3, .int l3)] → W p l e rm_X9_close s m args below meth c H locs 0 0 QQ (F0 m 83 ls []) := by
    intro l1 K19 hK19 l2 l3 f_m_allowed hq H locs hP hD hS ls hl
    unfold q_X9_close_83 at hq
    refine lv_goto (tgt := 19) hx hb dX9_close_83 (by decide) ?_
    exact hK19 _ _ _ hq _ _ hP hD hS _ (lv_sub hl [0, 1, 2, 3] rfl)
  have C28 : ∀ (l1 : Int32) (K19 : (Int32) → (Int32) → (Nat → Int32) → Prop) (hK19 : (∀ (l2 : Int32) (l3 : Int32) (f_m_allowed : Nat → Int32), K19 l2 l3 f_m_allowed → ∀ (H : Heap) (locs : List Loc), va_P (dC, dI) vwCl (W_X9_close cI cJ cZ h_m h_m_allowed h_m_desk h_m_letters h_m_acts h_m_thens h_m_fits h_m_top h_m_bottom h_m_may h_m_ways h_m_found h_m_unlike h_m_seen h_m_seenThen h_m_power h_m_square h_m_product h_m_isLive h_m_down h_m_up h_m_ground h_m_met m_colours m_h m_w m_states m_rows m_ends m_steps m_last f_m_allowed) H → va_D A (W_X9_close cI cJ cZ h_m h_m_allowed h_m_desk h_m_letters h_m_acts h_m_thens h_m_fits h_m_top h_m_bottom h_m_may h_m_ways h_m_found h_m_unlike h_m_seen h_m_seenThen h_m_power h_m_square h_m_product h_m_isLive h_m_down h_m_up h_m_ground h_m_met m_colours m_h m_w m_states m_rows m_ends m_steps m_last f_m_allowed) → va_S A s.heap H locs → ∀ ls : Array Slot, lv_has ls 5 [(0, .ref h_m), (1, .int l1), (2, .int l2), (3, .int l3)] → W p l e rm_X9_close s m args below meth c H locs 0 0 QQ (F0 m 19 ls []))) (l2 : Int32) (l3 : Int32) (l4 : Int32) (f_m_allowed : Nat → Int32), q_X9_close_28 l1 post K19 l2 l3 l4 f_m_allowed → ∀ (H : Heap) (locs : List Loc), va_P (dC, dI) vwCl (W_X9_close cI cJ cZ h_m h_m_allowed h_m_desk h_m_letters h_m_acts h_m_thens h_m_fits h_m_top h_m_bottom h_m_may h_m_ways h_m_found h_m_unlike h_m_seen h_m_seenThen h_m_power h_m_square h_m_product h_m_isLive h_m_down h_m_up h_m_ground h_m_met m_colours m_h m_w m_states m_rows m_ends m_steps m_last f_m_allowed) H → va_D A (W_X9_close cI cJ cZ h_m h_m_allowed h_m_desk h_m_letters h_m_acts h_m_thens h_m_fits h_m_top h_m_bottom h_m_may h_m_ways h_m_found h_m_unlike h_m_seen h_m_seenThen h_m_power h_m_square h_m_product h_m_isLive h_m_down h_m_up h_m_ground h_m_met m_colours m_h m_w m_states m_rows m_ends m_steps m_last f_m_allowed) → va_S A s.heap H locs → ∀ ls : Array Slot, lv_has ls 5 [(0, .ref h_m), (1, .int l1), (2, .int l2), (3, .int l3), (4, .int l4)] → W p l e rm_X9_close s m args below meth c H locs 0 0 QQ (F0 m 28 ls []) := by
    intro l1 K19 hK19 l2 l3 l4 f_m_allowed hq H locs hP hD hS ls hl
    obtain ⟨n, hq⟩ := hq
    exact L28 _ _ (C83 _ _ hK19) n _ _ _ _ hq H locs hP hD hS ls hl
  have L19 : ∀ (l1 : Int32) (n : Nat) (l2 : Int32) (l3 : Int32) (f_m_allowed : Nat → Int32), r_X9_close_19 post l1 n l2 l3 f_m_allowed → ∀ (H : Heap) (locs : List Loc), va_P (dC, dI) vwCl (W_X9_close cI cJ cZ h_m h_m_allowed h_m_desk h_m_letters h_m_acts h_m_thens h_m_fits h_m_top h_m_bottom h_m_may h_m_ways h_m_found h_m_unlike h_m_seen h_m_seenThen h_m_power h_m_square h_m_product h_m_isLive h_m_down h_m_up h_m_ground h_m_met m_colours m_h m_w m_states m_rows m_ends m_steps m_last f_m_allowed) H → va_D A (W_X9_close cI cJ cZ h_m h_m_allowed h_m_desk h_m_letters h_m_acts h_m_thens h_m_fits h_m_top h_m_bottom h_m_may h_m_ways h_m_found h_m_unlike h_m_seen h_m_seenThen h_m_power h_m_square h_m_product h_m_isLive h_m_down h_m_up h_m_ground h_m_met m_colours m_h m_w m_states m_rows m_ends m_steps m_last f_m_allowed) → va_S A s.heap H locs → ∀ ls : Array Slot, lv_has ls 5 [(0, .ref h_m), (1, .int l1), (2, .int l2), (3, .int l3)] → W p l e rm_X9_close s m args below meth c H locs 0 0 QQ (F0 m 19 ls []) := by
    intro l1 n
    induction n with
    | zero => intro l2 l3 f_m_allowed hq; exact False.elim hq
    | succ n ih =>
      intro l2 l3 f_m_allowed hq H locs hP hD hS ls hl
      unfold r_X9_close_19 at hq
      refine lv_iload_n hx hb dX9_close_19 rfl (lv_at hl 3 rfl) ?_
      refine lv_if_eq (tgt := 86) hx hb dX9_close_20 (by decide) (fun c3 => ?_) (fun c3 => ?_)
      · replace hq := hq.1 c3
        refine lv_iload_n hx hb dX9_close_86 rfl (lv_at hl 2 rfl) ?_
        exact hret l2 f_m_allowed hq _ _ hP hD hS _ _ dX9_close_87
      · replace hq := hq.2 c3
        refine lv_iconst (v := (0 : Int32)) hx hb dX9_close_23 (by decide) ?_
        refine lv_istore_n (lv' := [(3, .int (0 : Int32)), (0, .ref h_m), (1, .int l1), (2, .int l2)]) hx hb dX9_close_24 rfl hl (by decide) rfl (fun ls hl => ?_)
        refine lv_iconst (v := (0 : Int32)) hx hb dX9_close_25 (by decide) ?_
        refine lv_istore (lv' := [(4, .int (0 : Int32)), (3, .int (0 : Int32)), (0, .ref h_m), (1, .int l1), (2, .int l2)]) hx hb dX9_close_26 hl (by decide) rfl (fun ls hl => ?_)
        exact (C28 _ _ ih) _ _ _ _ hq _ _ hP hD hS _ (lv_sub hl [2, 3, 4, 1, 0] rfl)
  have C19 : ∀ (l1 : Int32) (l2 : Int32) (l3 : Int32) (f_m_allowed : Nat → Int32), q_X9_close_19 post l1 l2 l3 f_m_allowed → ∀ (H : Heap) (locs : List Loc), va_P (dC, dI) vwCl (W_X9_close cI cJ cZ h_m h_m_allowed h_m_desk h_m_letters h_m_acts h_m_thens h_m_fits h_m_top h_m_bottom h_m_may h_m_ways h_m_found h_m_unlike h_m_seen h_m_seenThen h_m_power h_m_square h_m_product h_m_isLive h_m_down h_m_up h_m_ground h_m_met m_colours m_h m_w m_states m_rows m_ends m_steps m_last f_m_allowed) H → va_D A (W_X9_close cI cJ cZ h_m h_m_allowed h_m_desk h_m_letters h_m_acts h_m_thens h_m_fits h_m_top h_m_bottom h_m_may h_m_ways h_m_found h_m_unlike h_m_seen h_m_seenThen h_m_power h_m_square h_m_product h_m_isLive h_m_down h_m_up h_m_ground h_m_met m_colours m_h m_w m_states m_rows m_ends m_steps m_last f_m_allowed) → va_S A s.heap H locs → ∀ ls : Array Slot, lv_has ls 5 [(0, .ref h_m), (1, .int l1), (2, .int l2), (3, .int l3)] → W p l e rm_X9_close s m args below meth c H locs 0 0 QQ (F0 m 19 ls []) := by
    intro l1 l2 l3 f_m_allowed hq H locs hP hD hS ls hl
    obtain ⟨n, hq⟩ := hq
    exact L19 _ n _ _ _ hq H locs hP hD hS ls hl
  unfold q_X9_close at hq
  refine lv_iload_n hx hb dX9_close_0 rfl (lv_at hl 1 rfl) ?_
  refine lv_i2l hx hb dX9_close_1 rfl ?_
  refine lv_lconst (v := (0 : Int64)) hx hb dX9_close_2 (by decide) ?_
  refine lv_ldc2 hx hb hown hcl101 dX9_close_3 ?_
  refine gx_cSi (As := [.long ((l1).toInt64), .long (0 : Int64), .long (3 : Int64)]) (rest := []) ⟨hx, hb, hml, hown, hts⟩ (c_X9_in l dC dI cI cJ cZ s.heap.size ((l1).toInt64) (0 : Int64) (3 : Int64) hq) (va_cwS 3 hts gX9_close_X9_in rfl rfl rfl hdS_X9_in ⟨Nat.le_of_ble_eq_true rfl, Nat.le_of_ble_eq_true rfl⟩) hK hP hD hS hA [] [0, 1] rfl rfl rfl rfl rfl rfl hl.1 (Nat.le_of_ble_eq_true rfl) dX9_close_6 rfl (fun r1 u H locs hq hP hD hS => ?_)
  try dsimp only at hq
  have hP : va_P (dC, dI) vwCl (W_X9_close cI cJ cZ h_m h_m_allowed h_m_desk h_m_letters h_m_acts h_m_thens h_m_fits h_m_top h_m_bottom h_m_may h_m_ways h_m_found h_m_unlike h_m_seen h_m_seenThen h_m_power h_m_square h_m_product h_m_isLive h_m_down h_m_up h_m_ground h_m_met m_colours m_h m_w m_states m_rows m_ends m_steps m_last f_m_allowed) H := hP
  have hD : va_D A (W_X9_close cI cJ cZ h_m h_m_allowed h_m_desk h_m_letters h_m_acts h_m_thens h_m_fits h_m_top h_m_bottom h_m_may h_m_ways h_m_found h_m_unlike h_m_seen h_m_seenThen h_m_power h_m_square h_m_product h_m_isLive h_m_down h_m_up h_m_ground h_m_met m_colours m_h m_w m_states m_rows m_ends m_steps m_last f_m_allowed) := hD
  refine lv_if_ne (tgt := 15) hx hb dX9_close_9 (by decide) (fun c2 => ?_) (fun c2 => ?_)
  · replace hq := hq.1 c2
    refine lv_iconst (v := (0 : Int32)) hx hb dX9_close_15 (by decide) ?_
    refine lv_istore_n (lv' := [(2, .int (0 : Int32)), (0, .ref h_m), (1, .int l1)]) hx hb dX9_close_16 rfl hl (by decide) rfl (fun ls hl => ?_)
    refine lv_iconst (v := (1 : Int32)) hx hb dX9_close_17 (by decide) ?_
    refine lv_istore_n (lv' := [(3, .int (1 : Int32)), (2, .int (0 : Int32)), (0, .ref h_m), (1, .int l1)]) hx hb dX9_close_18 rfl hl (by decide) rfl (fun ls hl => ?_)
    exact C19 _ _ _ _ hq _ _ hP hD hS _ (lv_sub hl [2, 3, 1, 0] rfl)
  · replace hq := hq.2 c2
    refine lv_bipush (v := (-3 : Int32)) hx hb dX9_close_12 (by decide) ?_
    exact hret (-3 : Int32) f_m_allowed hq _ _ hP hD hS _ _ dX9_close_14

abbrev W_X9_rowsOf (cI cJ cZ : ClassId) (h_m h_m_allowed h_m_desk h_m_letters h_m_acts h_m_thens h_m_fits h_m_top h_m_bottom h_m_may h_m_ways h_m_found h_m_unlike h_m_seen h_m_seenThen h_m_power h_m_square h_m_product h_m_isLive h_m_down h_m_up h_m_ground h_m_met : Nat) (m_colours : Int32) (m_h : Int32) (m_w : Int32) (m_states : Int32) (m_rows : Int32) (m_ends : Int32) (m_steps : Int32) (m_last : Int32) : va_W := [(h_m, .inr (9, [.int m_colours, .ref h_m_allowed, .int m_h, .int m_w, .ref h_m_desk, .ref h_m_letters, .int m_states, .ref h_m_acts, .ref h_m_thens, .ref h_m_fits, .ref h_m_top, .ref h_m_bottom, .int m_rows, .ref h_m_may, .ref h_m_ways, .ref h_m_found, .ref h_m_unlike, .ref h_m_seen, .ref h_m_seenThen, .ref h_m_power, .ref h_m_square, .ref h_m_product, .ref h_m_isLive, .ref h_m_down, .ref h_m_up, .ref h_m_ground, .ref h_m_met, .int m_ends, .int m_steps, .int m_last]))]
abbrev rm_X9_rowsOf : Room := { frames := 0, cells := 0, slots := 0, locals := 0 }
def r_X9_rowsOf_4 (m_colours : Int32) (post : Int32 → Prop) (l1 : Int32) : Nat → (Int32) → (Int32) → Prop
  | 0, _, _ => False
  | n + 1, l2, l3 => ((l1 ≤ l3 → (post l2)) ∧ (¬ l1 ≤ l3 → ((r_X9_rowsOf_4 m_colours post l1 n) (l2 * m_colours) (l3 + (1 : Int32)))))
def q_X9_rowsOf_4 (m_colours : Int32) (post : Int32 → Prop) (l1 : Int32) (l2 : Int32) (l3 : Int32) : Prop := ∃ n, r_X9_rowsOf_4 m_colours post l1 n l2 l3
def q_X9_rowsOf (m_colours : Int32) (l1 : Int32) (post : Int32 → Prop) : Prop := ((q_X9_rowsOf_4 m_colours post) l1 (1 : Int32) (0 : Int32))
theorem hdV_X9_rowsOf : yX9_rowsOf.cls = RX9 ∧ yX9_rowsOf.cls ≠ "java/lang/invoke/MethodHandle" ∧ yX9_rowsOf.cls ≠ "java/lang/invoke/VarHandle" ∧ (parseMethodDescriptor yX9_rowsOf.desc).map (fun d => d.parameters.length) = some 1 := by decide +kernel
set_option maxHeartbeats 4000000 in
set_option maxRecDepth 100000 in
theorem c_X9_rowsOf (l : Launch) (dC : Nat → ClassId) (dI : Nat → Nat → Nat) (cI cJ cZ : ClassId) (h_m h_m_allowed h_m_desk h_m_letters h_m_acts h_m_thens h_m_fits h_m_top h_m_bottom h_m_may h_m_ways h_m_found h_m_unlike h_m_seen h_m_seenThen h_m_power h_m_square h_m_product h_m_isLive h_m_down h_m_up h_m_ground h_m_met : Nat) (sz : Nat) (m_colours : Int32) (m_h : Int32) (m_w : Int32) (m_states : Int32) (m_rows : Int32) (m_ends : Int32) (m_steps : Int32) (m_last : Int32) (l1 : Int32) {post : Int32 → Prop} (hq : q_X9_rowsOf m_colours l1 post) : Met l yX9_rowsOf wsX9_rowsOf rm_X9_rowsOf (va_Pc [.ref h_m, .int l1] (gx_Pre (dC, dI) vwCl (gx_tys cI cJ cZ) sz (W_X9_rowsOf cI cJ cZ h_m h_m_allowed h_m_desk h_m_letters h_m_acts h_m_thens h_m_fits h_m_top h_m_bottom h_m_may h_m_ways h_m_found h_m_unlike h_m_seen h_m_seenThen h_m_power h_m_square h_m_product h_m_isLive h_m_down h_m_up h_m_ground h_m_met m_colours m_h m_w m_states m_rows m_ends m_steps m_last))) (va_Qi (fun (r : Int32) (u : Unit) => post r) (gx_B (dC, dI) vwCl (gx_tys cI cJ cZ) (va_A (W_X9_rowsOf cI cJ cZ h_m h_m_allowed h_m_desk h_m_letters h_m_acts h_m_thens h_m_fits h_m_top h_m_bottom h_m_may h_m_ways h_m_found h_m_unlike h_m_seen h_m_seenThen h_m_power h_m_square h_m_product h_m_isLive h_m_down h_m_up h_m_ground h_m_met m_colours m_h m_w m_states m_rows m_ends m_steps m_last) sz) (fun (u : Unit) => (W_X9_rowsOf cI cJ cZ h_m h_m_allowed h_m_desk h_m_letters h_m_acts h_m_thens h_m_fits h_m_top h_m_bottom h_m_may h_m_ways h_m_found h_m_unlike h_m_seen h_m_seenThen h_m_power h_m_square h_m_product h_m_isLive h_m_down h_m_up h_m_ground h_m_met m_colours m_h m_w m_states m_rows m_ends m_steps m_last))) (va_A (W_X9_rowsOf cI cJ cZ h_m h_m_allowed h_m_desk h_m_letters h_m_acts h_m_thens h_m_fits h_m_top h_m_bottom h_m_may h_m_ways h_m_found h_m_unlike h_m_seen h_m_seenThen h_m_power h_m_square h_m_product h_m_isLive h_m_down h_m_up h_m_ground h_m_met m_colours m_h m_w m_states m_rows m_ends m_steps m_last) sz)) 0 0 (va_A (W_X9_rowsOf cI cJ cZ h_m h_m_allowed h_m_desk h_m_letters h_m_acts h_m_thens h_m_fits h_m_top h_m_bottom h_m_may h_m_ways h_m_found h_m_unlike h_m_seen h_m_seenThen h_m_power h_m_square h_m_product h_m_isLive h_m_down h_m_up h_m_ground h_m_met m_colours m_h m_w m_states m_rows m_ends m_steps m_last) sz) := by
  refine gx_i (cc := cX9_rowsOf) (maxL := 4) (by decide) rfl (Nat.le_of_ble_eq_true rfl) ?_
  intro p e s m args below meth c A QQ hx hb hml hown hts hA hP hK hD hret ls hl
  have hown : s.vm.findClass RX9 = some m.cls := hown
  have hf7 := hts (.fieldLink RX9 7 "SmallWindowsModel" "colours" "I") (by decide +kernel)
  have hinX9 : ∀ w ∈ u_ws RX9 TX9 30, w ∈ wsX9_rowsOf := fun w h => List.mem_cons_of_mem _ ((List.mem_append_right _ h))
  have hS : va_S A s.heap s.heap [] := va_S.rf
  have hl : lv_has ls 4 [(0, .ref h_m), (1, .int l1)] := hl
  have L4 : ∀ (l1 : Int32) (n : Nat) (l2 : Int32) (l3 : Int32), r_X9_rowsOf_4 m_colours post l1 n l2 l3 → ∀ (H : Heap) (locs : List Loc), va_P (dC, dI) vwCl (W_X9_rowsOf cI cJ cZ h_m h_m_allowed h_m_desk h_m_letters h_m_acts h_m_thens h_m_fits h_m_top h_m_bottom h_m_may h_m_ways h_m_found h_m_unlike h_m_seen h_m_seenThen h_m_power h_m_square h_m_product h_m_isLive h_m_down h_m_up h_m_ground h_m_met m_colours m_h m_w m_states m_rows m_ends m_steps m_last) H → va_D A (W_X9_rowsOf cI cJ cZ h_m h_m_allowed h_m_desk h_m_letters h_m_acts h_m_thens h_m_fits h_m_top h_m_bottom h_m_may h_m_ways h_m_found h_m_unlike h_m_seen h_m_seenThen h_m_power h_m_square h_m_product h_m_isLive h_m_down h_m_up h_m_ground h_m_met m_colours m_h m_w m_states m_rows m_ends m_steps m_last) → va_S A s.heap H locs → ∀ ls : Array Slot, lv_has ls 4 [(0, .ref h_m), (1, .int l1), (2, .int l2), (3, .int l3)] → W p l e rm_X9_rowsOf s m args below meth c H locs 0 0 QQ (F0 m 4 ls []) := by
    intro l1 n
    induction n with
    | zero => intro l2 l3 hq; exact False.elim hq
    | succ n ih =>
      intro l2 l3 hq H locs hP hD hS ls hl
      unfold r_X9_rowsOf_4 at hq
      refine lv_iload_n hx hb dX9_rowsOf_4 rfl (lv_at hl 3 rfl) ?_
      refine lv_iload_n hx hb dX9_rowsOf_5 rfl (lv_at hl 1 rfl) ?_
      refine lv_icmp_ge (tgt := 22) hx hb dX9_rowsOf_6 (by decide) (fun c1 => ?_) (fun c1 => ?_)
      · replace hq := hq.1 c1
        refine lv_iload_n hx hb dX9_rowsOf_22 rfl (lv_at hl 2 rfl) ?_
        exact hret l2 () hq _ _ hP hD hS _ _ dX9_rowsOf_23
      · replace hq := hq.2 c1
        refine lv_iload_n hx hb dX9_rowsOf_9 rfl (lv_at hl 2 rfl) ?_
        refine lv_aload_n hx hb dX9_rowsOf_10 rfl (lv_at hl 0 rfl) ?_
        refine va_get (D := (dC, dI)) (ci := 9) (v := .int m_colours) (C := RX9) (T := TX9) (N := 30) hx hb hts hinX9 hown hK hP 0 rfl rfl 0 (by decide) hf7 (fun _ h9 => h9) rfl dX9_rowsOf_11 ?_
        refine lv_imul hx hb dX9_rowsOf_14 ?_
        refine lv_istore_n (lv' := [(2, .int (l2 * m_colours)), (0, .ref h_m), (1, .int l1), (3, .int l3)]) hx hb dX9_rowsOf_15 rfl hl (by decide) rfl (fun ls hl => ?_)
        refine lv_iinc (v := (l3 + (1 : Int32))) (lv' := [(3, .int (l3 + (1 : Int32))), (2, .int (l2 * m_colours)), (0, .ref h_m), (1, .int l1)]) hx hb dX9_rowsOf_16 hl (k := 3) rfl rfl (by decide) rfl (fun ls hl => ?_)
        refine lv_goto (tgt := 4) hx hb dX9_rowsOf_19 (by decide) ?_
        exact ih _ _ hq _ _ hP hD hS _ (lv_sub hl [2, 3, 1, 0] rfl)
  have C4 : ∀ (l1 : Int32) (l2 : Int32) (l3 : Int32), q_X9_rowsOf_4 m_colours post l1 l2 l3 → ∀ (H : Heap) (locs : List Loc), va_P (dC, dI) vwCl (W_X9_rowsOf cI cJ cZ h_m h_m_allowed h_m_desk h_m_letters h_m_acts h_m_thens h_m_fits h_m_top h_m_bottom h_m_may h_m_ways h_m_found h_m_unlike h_m_seen h_m_seenThen h_m_power h_m_square h_m_product h_m_isLive h_m_down h_m_up h_m_ground h_m_met m_colours m_h m_w m_states m_rows m_ends m_steps m_last) H → va_D A (W_X9_rowsOf cI cJ cZ h_m h_m_allowed h_m_desk h_m_letters h_m_acts h_m_thens h_m_fits h_m_top h_m_bottom h_m_may h_m_ways h_m_found h_m_unlike h_m_seen h_m_seenThen h_m_power h_m_square h_m_product h_m_isLive h_m_down h_m_up h_m_ground h_m_met m_colours m_h m_w m_states m_rows m_ends m_steps m_last) → va_S A s.heap H locs → ∀ ls : Array Slot, lv_has ls 4 [(0, .ref h_m), (1, .int l1), (2, .int l2), (3, .int l3)] → W p l e rm_X9_rowsOf s m args below meth c H locs 0 0 QQ (F0 m 4 ls []) := by
    intro l1 l2 l3 hq H locs hP hD hS ls hl
    obtain ⟨n, hq⟩ := hq
    exact L4 _ n _ _ hq H locs hP hD hS ls hl
  unfold q_X9_rowsOf at hq
  refine lv_iconst (v := (1 : Int32)) hx hb dX9_rowsOf_0 (by decide) ?_
  refine lv_istore_n (lv' := [(2, .int (1 : Int32)), (0, .ref h_m), (1, .int l1)]) hx hb dX9_rowsOf_1 rfl hl (by decide) rfl (fun ls hl => ?_)
  refine lv_iconst (v := (0 : Int32)) hx hb dX9_rowsOf_2 (by decide) ?_
  refine lv_istore_n (lv' := [(3, .int (0 : Int32)), (2, .int (1 : Int32)), (0, .ref h_m), (1, .int l1)]) hx hb dX9_rowsOf_3 rfl hl (by decide) rfl (fun ls hl => ?_)
  exact C4 _ _ _ hq _ _ hP hD hS _ (lv_sub hl [2, 3, 1, 0] rfl)

abbrev W_X9_cellOf (cI cJ cZ : ClassId) (h_m h_m_allowed h_m_desk h_m_letters h_m_acts h_m_thens h_m_fits h_m_top h_m_bottom h_m_may h_m_ways h_m_found h_m_unlike h_m_seen h_m_seenThen h_m_power h_m_square h_m_product h_m_isLive h_m_down h_m_up h_m_ground h_m_met : Nat) (m_colours : Int32) (m_h : Int32) (m_w : Int32) (m_states : Int32) (m_rows : Int32) (m_ends : Int32) (m_steps : Int32) (m_last : Int32) : va_W := [(h_m, .inr (9, [.int m_colours, .ref h_m_allowed, .int m_h, .int m_w, .ref h_m_desk, .ref h_m_letters, .int m_states, .ref h_m_acts, .ref h_m_thens, .ref h_m_fits, .ref h_m_top, .ref h_m_bottom, .int m_rows, .ref h_m_may, .ref h_m_ways, .ref h_m_found, .ref h_m_unlike, .ref h_m_seen, .ref h_m_seenThen, .ref h_m_power, .ref h_m_square, .ref h_m_product, .ref h_m_isLive, .ref h_m_down, .ref h_m_up, .ref h_m_ground, .ref h_m_met, .int m_ends, .int m_steps, .int m_last]))]
abbrev rm_X9_cellOf : Room := { frames := 0, cells := 0, slots := 0, locals := 0 }
def r_X9_cellOf_23 (m_colours : Int32) (post : Int32 → Prop) (l2 : Int32) : Nat → (Int32) → (Int32) → Prop
  | 0, _, _ => False
  | n + 1, l4, l5 => ((l5 ≤ l2 → (¬ m_colours = 0 ∧ (post (l4 - (l4 / m_colours) * m_colours)))) ∧ (¬ l5 ≤ l2 → (¬ m_colours = 0 ∧ ((r_X9_cellOf_23 m_colours post l2 n) (l4 / m_colours) (l5 + (-1 : Int32))))))
def q_X9_cellOf_23 (m_colours : Int32) (post : Int32 → Prop) (l2 : Int32) (l4 : Int32) (l5 : Int32) : Prop := ∃ n, r_X9_cellOf_23 m_colours post l2 n l4 l5
def q_X9_cellOf (m_colours : Int32) (l1 : Int32) (l2 : Int32) (l3 : Int32) (post : Int32 → Prop) : Prop := ((l1 < 0 → (post (3 : Int32))) ∧ (¬ l1 < 0 → ((l2 < 0 → (post (3 : Int32))) ∧ (¬ l2 < 0 → ((l2 < l3 → ((q_X9_cellOf_23 m_colours post) l2 l1 (l3 - (1 : Int32)))) ∧ (¬ l2 < l3 → (post (3 : Int32))))))))
theorem hdV_X9_cellOf : yX9_cellOf.cls = RX9 ∧ yX9_cellOf.cls ≠ "java/lang/invoke/MethodHandle" ∧ yX9_cellOf.cls ≠ "java/lang/invoke/VarHandle" ∧ (parseMethodDescriptor yX9_cellOf.desc).map (fun d => d.parameters.length) = some 3 := by decide +kernel
set_option maxHeartbeats 4000000 in
set_option maxRecDepth 100000 in
theorem c_X9_cellOf (l : Launch) (dC : Nat → ClassId) (dI : Nat → Nat → Nat) (cI cJ cZ : ClassId) (h_m h_m_allowed h_m_desk h_m_letters h_m_acts h_m_thens h_m_fits h_m_top h_m_bottom h_m_may h_m_ways h_m_found h_m_unlike h_m_seen h_m_seenThen h_m_power h_m_square h_m_product h_m_isLive h_m_down h_m_up h_m_ground h_m_met : Nat) (sz : Nat) (m_colours : Int32) (m_h : Int32) (m_w : Int32) (m_states : Int32) (m_rows : Int32) (m_ends : Int32) (m_steps : Int32) (m_last : Int32) (l1 : Int32) (l2 : Int32) (l3 : Int32) {post : Int32 → Prop} (hq : q_X9_cellOf m_colours l1 l2 l3 post) : Met l yX9_cellOf wsX9_cellOf rm_X9_cellOf (va_Pc [.ref h_m, .int l1, .int l2, .int l3] (gx_Pre (dC, dI) vwCl (gx_tys cI cJ cZ) sz (W_X9_cellOf cI cJ cZ h_m h_m_allowed h_m_desk h_m_letters h_m_acts h_m_thens h_m_fits h_m_top h_m_bottom h_m_may h_m_ways h_m_found h_m_unlike h_m_seen h_m_seenThen h_m_power h_m_square h_m_product h_m_isLive h_m_down h_m_up h_m_ground h_m_met m_colours m_h m_w m_states m_rows m_ends m_steps m_last))) (va_Qi (fun (r : Int32) (u : Unit) => post r) (gx_B (dC, dI) vwCl (gx_tys cI cJ cZ) (va_A (W_X9_cellOf cI cJ cZ h_m h_m_allowed h_m_desk h_m_letters h_m_acts h_m_thens h_m_fits h_m_top h_m_bottom h_m_may h_m_ways h_m_found h_m_unlike h_m_seen h_m_seenThen h_m_power h_m_square h_m_product h_m_isLive h_m_down h_m_up h_m_ground h_m_met m_colours m_h m_w m_states m_rows m_ends m_steps m_last) sz) (fun (u : Unit) => (W_X9_cellOf cI cJ cZ h_m h_m_allowed h_m_desk h_m_letters h_m_acts h_m_thens h_m_fits h_m_top h_m_bottom h_m_may h_m_ways h_m_found h_m_unlike h_m_seen h_m_seenThen h_m_power h_m_square h_m_product h_m_isLive h_m_down h_m_up h_m_ground h_m_met m_colours m_h m_w m_states m_rows m_ends m_steps m_last))) (va_A (W_X9_cellOf cI cJ cZ h_m h_m_allowed h_m_desk h_m_letters h_m_acts h_m_thens h_m_fits h_m_top h_m_bottom h_m_may h_m_ways h_m_found h_m_unlike h_m_seen h_m_seenThen h_m_power h_m_square h_m_product h_m_isLive h_m_down h_m_up h_m_ground h_m_met m_colours m_h m_w m_states m_rows m_ends m_steps m_last) sz)) 0 0 (va_A (W_X9_cellOf cI cJ cZ h_m h_m_allowed h_m_desk h_m_letters h_m_acts h_m_thens h_m_fits h_m_top h_m_bottom h_m_may h_m_ways h_m_found h_m_unlike h_m_seen h_m_seenThen h_m_power h_m_square h_m_product h_m_isLive h_m_down h_m_up h_m_ground h_m_met m_colours m_h m_w m_states m_rows m_ends m_steps m_last) sz) := by
  refine gx_i (cc := cX9_cellOf) (maxL := 6) (by decide) rfl (Nat.le_of_ble_eq_true rfl) ?_
  intro p e s m args below meth c A QQ hx hb hml hown hts hA hP hK hD hret ls hl
  have hown : s.vm.findClass RX9 = some m.cls := hown
  have hf7 := hts (.fieldLink RX9 7 "SmallWindowsModel" "colours" "I") (by decide +kernel)
  have hinX9 : ∀ w ∈ u_ws RX9 TX9 30, w ∈ wsX9_cellOf := fun w h => List.mem_cons_of_mem _ ((List.mem_append_right _ h))
  have hS : va_S A s.heap s.heap [] := va_S.rf
  have hl : lv_has ls 6 [(0, .ref h_m), (1, .int l1), (2, .int l2), (3, .int l3)] := hl
  have L23 : ∀ (l2 : Int32) (n : Nat) (l4 : Int32) (l5 : Int32), r_X9_cellOf_23 m_colours post l2 n l4 l5 → ∀ (H : Heap) (locs : List Loc), va_P (dC, dI) vwCl (W_X9_cellOf cI cJ cZ h_m h_m_allowed h_m_desk h_m_letters h_m_acts h_m_thens h_m_fits h_m_top h_m_bottom h_m_may h_m_ways h_m_found h_m_unlike h_m_seen h_m_seenThen h_m_power h_m_square h_m_product h_m_isLive h_m_down h_m_up h_m_ground h_m_met m_colours m_h m_w m_states m_rows m_ends m_steps m_last) H → va_D A (W_X9_cellOf cI cJ cZ h_m h_m_allowed h_m_desk h_m_letters h_m_acts h_m_thens h_m_fits h_m_top h_m_bottom h_m_may h_m_ways h_m_found h_m_unlike h_m_seen h_m_seenThen h_m_power h_m_square h_m_product h_m_isLive h_m_down h_m_up h_m_ground h_m_met m_colours m_h m_w m_states m_rows m_ends m_steps m_last) → va_S A s.heap H locs → ∀ ls : Array Slot, lv_has ls 6 [(0, .ref h_m), (2, .int l2), (4, .int l4), (5, .int l5)] → W p l e rm_X9_cellOf s m args below meth c H locs 0 0 QQ (F0 m 23 ls []) := by
    intro l2 n
    induction n with
    | zero => intro l4 l5 hq; exact False.elim hq
    | succ n ih =>
      intro l4 l5 hq H locs hP hD hS ls hl
      unfold r_X9_cellOf_23 at hq
      refine lv_iload hx hb dX9_cellOf_23 (lv_at hl 3 rfl) ?_
      refine lv_iload_n hx hb dX9_cellOf_25 rfl (lv_at hl 1 rfl) ?_
      refine lv_icmp_le (tgt := 44) hx hb dX9_cellOf_26 (by decide) (fun c4 => ?_) (fun c4 => ?_)
      · replace hq := hq.1 c4
        refine lv_iload hx hb dX9_cellOf_44 (lv_at hl 2 rfl) ?_
        refine lv_aload_n hx hb dX9_cellOf_46 rfl (lv_at hl 0 rfl) ?_
        refine va_get (D := (dC, dI)) (ci := 9) (v := .int m_colours) (C := RX9) (T := TX9) (N := 30) hx hb hts hinX9 hown hK hP 0 rfl rfl 0 (by decide) hf7 (fun _ h9 => h9) rfl dX9_cellOf_47 ?_
        obtain ⟨hz5, hq⟩ := hq
        refine lv_irem hx hb dX9_cellOf_50 hz5 ?_
        exact hret (l4 - (l4 / m_colours) * m_colours) () hq _ _ hP hD hS _ _ dX9_cellOf_51
      · replace hq := hq.2 c4
        refine lv_iload hx hb dX9_cellOf_29 (lv_at hl 2 rfl) ?_
        refine lv_aload_n hx hb dX9_cellOf_31 rfl (lv_at hl 0 rfl) ?_
        refine va_get (D := (dC, dI)) (ci := 9) (v := .int m_colours) (C := RX9) (T := TX9) (N := 30) hx hb hts hinX9 hown hK hP 0 rfl rfl 0 (by decide) hf7 (fun _ h9 => h9) rfl dX9_cellOf_32 ?_
        obtain ⟨hz6, hq⟩ := hq
        refine lv_idiv hx hb dX9_cellOf_35 hz6 ?_
        refine lv_istore (lv' := [(4, .int (l4 / m_colours)), (0, .ref h_m), (2, .int l2), (5, .int l5)]) hx hb dX9_cellOf_36 hl (by decide) rfl (fun ls hl => ?_)
        refine lv_iinc (v := (l5 + (-1 : Int32))) (lv' := [(5, .int (l5 + (-1 : Int32))), (4, .int (l4 / m_colours)), (0, .ref h_m), (2, .int l2)]) hx hb dX9_cellOf_38 hl (k := 3) rfl rfl (by decide) rfl (fun ls hl => ?_)
        refine lv_goto (tgt := 23) hx hb dX9_cellOf_41 (by decide) ?_
        exact ih _ _ hq _ _ hP hD hS _ (lv_sub hl [2, 3, 1, 0] rfl)
  have C23 : ∀ (l2 : Int32) (l4 : Int32) (l5 : Int32), q_X9_cellOf_23 m_colours post l2 l4 l5 → ∀ (H : Heap) (locs : List Loc), va_P (dC, dI) vwCl (W_X9_cellOf cI cJ cZ h_m h_m_allowed h_m_desk h_m_letters h_m_acts h_m_thens h_m_fits h_m_top h_m_bottom h_m_may h_m_ways h_m_found h_m_unlike h_m_seen h_m_seenThen h_m_power h_m_square h_m_product h_m_isLive h_m_down h_m_up h_m_ground h_m_met m_colours m_h m_w m_states m_rows m_ends m_steps m_last) H → va_D A (W_X9_cellOf cI cJ cZ h_m h_m_allowed h_m_desk h_m_letters h_m_acts h_m_thens h_m_fits h_m_top h_m_bottom h_m_may h_m_ways h_m_found h_m_unlike h_m_seen h_m_seenThen h_m_power h_m_square h_m_product h_m_isLive h_m_down h_m_up h_m_ground h_m_met m_colours m_h m_w m_states m_rows m_ends m_steps m_last) → va_S A s.heap H locs → ∀ ls : Array Slot, lv_has ls 6 [(0, .ref h_m), (2, .int l2), (4, .int l4), (5, .int l5)] → W p l e rm_X9_cellOf s m args below meth c H locs 0 0 QQ (F0 m 23 ls []) := by
    intro l2 l4 l5 hq H locs hP hD hS ls hl
    obtain ⟨n, hq⟩ := hq
    exact L23 _ n _ _ hq H locs hP hD hS ls hl
  unfold q_X9_cellOf at hq
  refine lv_iload_n hx hb dX9_cellOf_0 rfl (lv_at hl 1 rfl) ?_
  refine lv_if_lt (tgt := 13) hx hb dX9_cellOf_1 (by decide) (fun c1 => ?_) (fun c1 => ?_)
  · replace hq := hq.1 c1
    refine lv_iconst (v := (3 : Int32)) hx hb dX9_cellOf_13 (by decide) ?_
    exact hret (3 : Int32) () hq _ _ hP hD hS _ _ dX9_cellOf_14
  · replace hq := hq.2 c1
    refine lv_iload_n hx hb dX9_cellOf_4 rfl (lv_at hl 2 rfl) ?_
    refine lv_if_lt (tgt := 13) hx hb dX9_cellOf_5 (by decide) (fun c2 => ?_) (fun c2 => ?_)
    · replace hq := hq.1 c2
      refine lv_iconst (v := (3 : Int32)) hx hb dX9_cellOf_13 (by decide) ?_
      exact hret (3 : Int32) () hq _ _ hP hD hS _ _ dX9_cellOf_14
    · replace hq := hq.2 c2
      refine lv_iload_n hx hb dX9_cellOf_8 rfl (lv_at hl 2 rfl) ?_
      refine lv_iload_n hx hb dX9_cellOf_9 rfl (lv_at hl 3 rfl) ?_
      refine lv_icmp_lt (tgt := 15) hx hb dX9_cellOf_10 (by decide) (fun c3 => ?_) (fun c3 => ?_)
      · replace hq := hq.1 c3
        refine lv_iload_n hx hb dX9_cellOf_15 rfl (lv_at hl 1 rfl) ?_
        refine lv_istore (lv' := [(4, .int l1), (0, .ref h_m), (1, .int l1), (2, .int l2), (3, .int l3)]) hx hb dX9_cellOf_16 hl (by decide) rfl (fun ls hl => ?_)
        refine lv_iload_n hx hb dX9_cellOf_18 rfl (lv_at hl 4 rfl) ?_
        refine lv_iconst (v := (1 : Int32)) hx hb dX9_cellOf_19 (by decide) ?_
        refine lv_isub hx hb dX9_cellOf_20 ?_
        refine lv_istore (lv' := [(5, .int (l3 - (1 : Int32))), (4, .int l1), (0, .ref h_m), (1, .int l1), (2, .int l2), (3, .int l3)]) hx hb dX9_cellOf_21 hl (by decide) rfl (fun ls hl => ?_)
        exact C23 _ _ _ hq _ _ hP hD hS _ (lv_sub hl [2, 4, 1, 0] rfl)
      · replace hq := hq.2 c3
        refine lv_iconst (v := (3 : Int32)) hx hb dX9_cellOf_13 (by decide) ?_
        exact hret (3 : Int32) () hq _ _ hP hD hS _ _ dX9_cellOf_14

abbrev W_X9_mayStand (cI cJ cZ : ClassId) (h_m h_m_allowed h_m_desk h_m_letters h_m_acts h_m_thens h_m_fits h_m_top h_m_bottom h_m_may h_m_ways h_m_found h_m_unlike h_m_seen h_m_seenThen h_m_power h_m_square h_m_product h_m_isLive h_m_down h_m_up h_m_ground h_m_met : Nat) (m_colours : Int32) (m_h : Int32) (m_w : Int32) (m_states : Int32) (m_rows : Int32) (m_ends : Int32) (m_steps : Int32) (m_last : Int32) (f_m_allowed : Nat → Int32) : va_W := [(h_m, .inr (9, [.int m_colours, .ref h_m_allowed, .int m_h, .int m_w, .ref h_m_desk, .ref h_m_letters, .int m_states, .ref h_m_acts, .ref h_m_thens, .ref h_m_fits, .ref h_m_top, .ref h_m_bottom, .int m_rows, .ref h_m_may, .ref h_m_ways, .ref h_m_found, .ref h_m_unlike, .ref h_m_seen, .ref h_m_seenThen, .ref h_m_power, .ref h_m_square, .ref h_m_product, .ref h_m_isLive, .ref h_m_down, .ref h_m_up, .ref h_m_ground, .ref h_m_met, .int m_ends, .int m_steps, .int m_last])), (h_m_allowed, .inl (cZ, 256, .inl f_m_allowed))]
abbrev rm_X9_mayStand : Room := { frames := 1, cells := 0, slots := 0, locals := 25 }
def r_X9_mayStand_6 (m_colours : Int32) (f_m_allowed : Nat → Int32) (post : Int32 → Prop) (l1 : Int32) (l2 : Int32) (l3 : Int32) : Nat → (Int32) → (Int32) → Prop
  | 0, _, _ => False
  | n + 1, l4, l5 => ((l4 = 0 → ((l4 = 0 ∨ l4 = 1) ∧ (post l4))) ∧ (¬ l4 = 0 → ((l3 < l5 → ((l4 = 0 ∨ l4 = 1) ∧ (post l4))) ∧ (¬ l3 < l5 → (q_X9_cellOf m_colours l1 (l5 - (1 : Int32)) l3 (fun (r5 : Int32) => (q_X9_cellOf m_colours l1 l5 l3 (fun (r6 : Int32) => (q_X9_cellOf m_colours l2 (l5 - (1 : Int32)) l3 (fun (r7 : Int32) => (q_X9_cellOf m_colours l2 l5 l3 (fun (r8 : Int32) => (vp_in (((((64 : Int32) * r5) + ((16 : Int32) * r6)) + ((4 : Int32) * r7)) + r8) 256 ∧ (∀ v10 : Int32, v10 = (f_m_allowed ((((((64 : Int32) * r5) + ((16 : Int32) * r6)) + ((4 : Int32) * r7)) + r8)).toNatClampNeg) → ((r_X9_mayStand_6 m_colours f_m_allowed post l1 l2 l3 n) v10 (l5 + (1 : Int32)))))))))))))))))
def q_X9_mayStand_6 (m_colours : Int32) (f_m_allowed : Nat → Int32) (post : Int32 → Prop) (l1 : Int32) (l2 : Int32) (l3 : Int32) (l4 : Int32) (l5 : Int32) : Prop := ∃ n, r_X9_mayStand_6 m_colours f_m_allowed post l1 l2 l3 n l4 l5
def q_X9_mayStand (m_colours : Int32) (f_m_allowed : Nat → Int32) (l1 : Int32) (l2 : Int32) (l3 : Int32) (post : Int32 → Prop) : Prop := ((q_X9_mayStand_6 m_colours f_m_allowed post) l1 l2 l3 (1 : Int32) (0 : Int32))
theorem hdV_X9_mayStand : yX9_mayStand.cls = RX9 ∧ yX9_mayStand.cls ≠ "java/lang/invoke/MethodHandle" ∧ yX9_mayStand.cls ≠ "java/lang/invoke/VarHandle" ∧ (parseMethodDescriptor yX9_mayStand.desc).map (fun d => d.parameters.length) = some 3 := by decide +kernel
set_option maxHeartbeats 4000000 in
set_option maxRecDepth 100000 in
theorem c_X9_mayStand (l : Launch) (dC : Nat → ClassId) (dI : Nat → Nat → Nat) (cI cJ cZ : ClassId) (h_m h_m_allowed h_m_desk h_m_letters h_m_acts h_m_thens h_m_fits h_m_top h_m_bottom h_m_may h_m_ways h_m_found h_m_unlike h_m_seen h_m_seenThen h_m_power h_m_square h_m_product h_m_isLive h_m_down h_m_up h_m_ground h_m_met : Nat) (sz : Nat) (m_colours : Int32) (m_h : Int32) (m_w : Int32) (m_states : Int32) (m_rows : Int32) (m_ends : Int32) (m_steps : Int32) (m_last : Int32) (f_m_allowed : Nat → Int32) (l1 : Int32) (l2 : Int32) (l3 : Int32) {post : Int32 → Prop} (hq : q_X9_mayStand m_colours f_m_allowed l1 l2 l3 post) : Met l yX9_mayStand wsX9_mayStand rm_X9_mayStand (va_Pc [.ref h_m, .int l1, .int l2, .int l3] (gx_Pre (dC, dI) vwCl (gx_tys cI cJ cZ) sz (W_X9_mayStand cI cJ cZ h_m h_m_allowed h_m_desk h_m_letters h_m_acts h_m_thens h_m_fits h_m_top h_m_bottom h_m_may h_m_ways h_m_found h_m_unlike h_m_seen h_m_seenThen h_m_power h_m_square h_m_product h_m_isLive h_m_down h_m_up h_m_ground h_m_met m_colours m_h m_w m_states m_rows m_ends m_steps m_last f_m_allowed))) (va_Qi (fun (r : Int32) (u : Unit) => post r) (gx_B (dC, dI) vwCl (gx_tys cI cJ cZ) (va_A (W_X9_mayStand cI cJ cZ h_m h_m_allowed h_m_desk h_m_letters h_m_acts h_m_thens h_m_fits h_m_top h_m_bottom h_m_may h_m_ways h_m_found h_m_unlike h_m_seen h_m_seenThen h_m_power h_m_square h_m_product h_m_isLive h_m_down h_m_up h_m_ground h_m_met m_colours m_h m_w m_states m_rows m_ends m_steps m_last f_m_allowed) sz) (fun (u : Unit) => (W_X9_mayStand cI cJ cZ h_m h_m_allowed h_m_desk h_m_letters h_m_acts h_m_thens h_m_fits h_m_top h_m_bottom h_m_may h_m_ways h_m_found h_m_unlike h_m_seen h_m_seenThen h_m_power h_m_square h_m_product h_m_isLive h_m_down h_m_up h_m_ground h_m_met m_colours m_h m_w m_states m_rows m_ends m_steps m_last f_m_allowed))) (va_A (W_X9_mayStand cI cJ cZ h_m h_m_allowed h_m_desk h_m_letters h_m_acts h_m_thens h_m_fits h_m_top h_m_bottom h_m_may h_m_ways h_m_found h_m_unlike h_m_seen h_m_seenThen h_m_power h_m_square h_m_product h_m_isLive h_m_down h_m_up h_m_ground h_m_met m_colours m_h m_w m_states m_rows m_ends m_steps m_last f_m_allowed) sz)) 0 0 (va_A (W_X9_mayStand cI cJ cZ h_m h_m_allowed h_m_desk h_m_letters h_m_acts h_m_thens h_m_fits h_m_top h_m_bottom h_m_may h_m_ways h_m_found h_m_unlike h_m_seen h_m_seenThen h_m_power h_m_square h_m_product h_m_isLive h_m_down h_m_up h_m_ground h_m_met m_colours m_h m_w m_states m_rows m_ends m_steps m_last f_m_allowed) sz) := by
  refine gx_z (cc := cX9_mayStand) (maxL := 6) (by decide) rfl (Nat.le_of_ble_eq_true rfl) ?_
  intro p e s m args below meth c A QQ hx hb hml hown hts hA hP hK hD hret ls hl
  have hown : s.vm.findClass RX9 = some m.cls := hown
  have hf13 := hts (.fieldLink RX9 13 "SmallWindowsModel" "allowed" "[Z") (by decide +kernel)
  have hinX9 : ∀ w ∈ u_ws RX9 TX9 30, w ∈ wsX9_mayStand := fun w h => List.mem_cons_of_mem _ ((List.mem_append_right _ h))
  have hS : va_S A s.heap s.heap [] := va_S.rf
  have hl : lv_has ls 6 [(0, .ref h_m), (1, .int l1), (2, .int l2), (3, .int l3)] := hl
  have L6 : ∀ (l1 : Int32) (l2 : Int32) (l3 : Int32) (n : Nat) (l4 : Int32) (l5 : Int32), r_X9_mayStand_6 m_colours f_m_allowed post l1 l2 l3 n l4 l5 → ∀ (H : Heap) (locs : List Loc), va_P (dC, dI) vwCl (W_X9_mayStand cI cJ cZ h_m h_m_allowed h_m_desk h_m_letters h_m_acts h_m_thens h_m_fits h_m_top h_m_bottom h_m_may h_m_ways h_m_found h_m_unlike h_m_seen h_m_seenThen h_m_power h_m_square h_m_product h_m_isLive h_m_down h_m_up h_m_ground h_m_met m_colours m_h m_w m_states m_rows m_ends m_steps m_last f_m_allowed) H → va_D A (W_X9_mayStand cI cJ cZ h_m h_m_allowed h_m_desk h_m_letters h_m_acts h_m_thens h_m_fits h_m_top h_m_bottom h_m_may h_m_ways h_m_found h_m_unlike h_m_seen h_m_seenThen h_m_power h_m_square h_m_product h_m_isLive h_m_down h_m_up h_m_ground h_m_met m_colours m_h m_w m_states m_rows m_ends m_steps m_last f_m_allowed) → va_S A s.heap H locs → ∀ ls : Array Slot, lv_has ls 6 [(0, .ref h_m), (1, .int l1), (2, .int l2), (3, .int l3), (4, .int l4), (5, .int l5)] → W p l e rm_X9_mayStand s m args below meth c H locs 0 0 QQ (F0 m 6 ls []) := by
    intro l1 l2 l3 n
    induction n with
    | zero => intro l4 l5 hq; exact False.elim hq
    | succ n ih =>
      intro l4 l5 hq H locs hP hD hS ls hl
      unfold r_X9_mayStand_6 at hq
      refine lv_iload hx hb dX9_mayStand_6 (lv_at hl 4 rfl) ?_
      refine lv_if_eq (tgt := 77) hx hb dX9_mayStand_8 (by decide) (fun c1 => ?_) (fun c1 => ?_)
      · replace hq := hq.1 c1
        refine lv_iload hx hb dX9_mayStand_77 (lv_at hl 4 rfl) ?_
        obtain ⟨hb2, hq⟩ := hq
        exact hret l4 () hb2 hq _ _ hP hD hS _ _ dX9_mayStand_79
      · replace hq := hq.2 c1
        refine lv_iload hx hb dX9_mayStand_11 (lv_at hl 5 rfl) ?_
        refine lv_iload_n hx hb dX9_mayStand_13 rfl (lv_at hl 3 rfl) ?_
        refine lv_icmp_gt (tgt := 77) hx hb dX9_mayStand_14 (by decide) (fun c3 => ?_) (fun c3 => ?_)
        · replace hq := hq.1 c3
          refine lv_iload hx hb dX9_mayStand_77 (lv_at hl 4 rfl) ?_
          obtain ⟨hb4, hq⟩ := hq
          exact hret l4 () hb4 hq _ _ hP hD hS _ _ dX9_mayStand_79
        · replace hq := hq.2 c3
          refine lv_aload_n hx hb dX9_mayStand_17 rfl (lv_at hl 0 rfl) ?_
          refine va_get (D := (dC, dI)) (ci := 9) (v := .ref h_m_allowed) (C := RX9) (T := TX9) (N := 30) hx hb hts hinX9 hown hK hP 0 rfl rfl 1 (by decide) hf13 (fun _ h9 => h9) rfl dX9_mayStand_18 ?_
          refine lv_bipush (v := (64 : Int32)) hx hb dX9_mayStand_21 (by decide) ?_
          refine lv_aload_n hx hb dX9_mayStand_23 rfl (lv_at hl 0 rfl) ?_
          refine lv_iload_n hx hb dX9_mayStand_24 rfl (lv_at hl 1 rfl) ?_
          refine lv_iload hx hb dX9_mayStand_25 (lv_at hl 5 rfl) ?_
          refine lv_iconst (v := (1 : Int32)) hx hb dX9_mayStand_27 (by decide) ?_
          refine lv_isub hx hb dX9_mayStand_28 ?_
          refine lv_iload_n hx hb dX9_mayStand_29 rfl (lv_at hl 3 rfl) ?_
          refine gx_cVi (C := RX9) (As := [.int l1, .int (l5 - (1 : Int32)), .int l3]) (rest := [.int (64 : Int32), .ref h_m_allowed]) ⟨hx, hb, hml, hown, hts⟩ (c_X9_cellOf l dC dI cI cJ cZ h_m h_m_allowed h_m_desk h_m_letters h_m_acts h_m_thens h_m_fits h_m_top h_m_bottom h_m_may h_m_ways h_m_found h_m_unlike h_m_seen h_m_seenThen h_m_power h_m_square h_m_product h_m_isLive h_m_down h_m_up h_m_ground h_m_met H.size m_colours m_h m_w m_states m_rows m_ends m_steps m_last l1 (l5 - (1 : Int32)) l3 hq) (cwV 3 hts gX9_mayStand_X9_cellOf rfl rfl rfl hdV_X9_cellOf ⟨Nat.le_of_ble_eq_true rfl, Nat.le_of_ble_eq_true rfl⟩) hK hP hD hS hA [0] [1] rfl rfl rfl rfl rfl (ci := 9) (q0 := 0) rfl rfl rfl rfl hl.1 (Nat.le_of_ble_eq_true rfl) dX9_mayStand_30 rfl (fun r5 u H locs hq hP hD hS => ?_)
          try dsimp only at hq
          have hP : va_P (dC, dI) vwCl (W_X9_mayStand cI cJ cZ h_m h_m_allowed h_m_desk h_m_letters h_m_acts h_m_thens h_m_fits h_m_top h_m_bottom h_m_may h_m_ways h_m_found h_m_unlike h_m_seen h_m_seenThen h_m_power h_m_square h_m_product h_m_isLive h_m_down h_m_up h_m_ground h_m_met m_colours m_h m_w m_states m_rows m_ends m_steps m_last f_m_allowed) H := hP.sub [1, 0] rfl
          have hD : va_D A (W_X9_mayStand cI cJ cZ h_m h_m_allowed h_m_desk h_m_letters h_m_acts h_m_thens h_m_fits h_m_top h_m_bottom h_m_may h_m_ways h_m_found h_m_unlike h_m_seen h_m_seenThen h_m_power h_m_square h_m_product h_m_isLive h_m_down h_m_up h_m_ground h_m_met m_colours m_h m_w m_states m_rows m_ends m_steps m_last f_m_allowed) := hD.sub [1, 0] (by decide) rfl
          refine lv_imul hx hb dX9_mayStand_33 ?_
          refine lv_bipush (v := (16 : Int32)) hx hb dX9_mayStand_34 (by decide) ?_
          refine lv_aload_n hx hb dX9_mayStand_36 rfl (lv_at hl 0 rfl) ?_
          refine lv_iload_n hx hb dX9_mayStand_37 rfl (lv_at hl 1 rfl) ?_
          refine lv_iload hx hb dX9_mayStand_38 (lv_at hl 5 rfl) ?_
          refine lv_iload_n hx hb dX9_mayStand_40 rfl (lv_at hl 3 rfl) ?_
          refine gx_cVi (C := RX9) (As := [.int l1, .int l5, .int l3]) (rest := [.int (16 : Int32), .int ((64 : Int32) * r5), .ref h_m_allowed]) ⟨hx, hb, hml, hown, hts⟩ (c_X9_cellOf l dC dI cI cJ cZ h_m h_m_allowed h_m_desk h_m_letters h_m_acts h_m_thens h_m_fits h_m_top h_m_bottom h_m_may h_m_ways h_m_found h_m_unlike h_m_seen h_m_seenThen h_m_power h_m_square h_m_product h_m_isLive h_m_down h_m_up h_m_ground h_m_met H.size m_colours m_h m_w m_states m_rows m_ends m_steps m_last l1 l5 l3 hq) (cwV 3 hts gX9_mayStand_X9_cellOf rfl rfl rfl hdV_X9_cellOf ⟨Nat.le_of_ble_eq_true rfl, Nat.le_of_ble_eq_true rfl⟩) hK hP hD hS hA [0] [1] rfl rfl rfl rfl rfl (ci := 9) (q0 := 0) rfl rfl rfl rfl hl.1 (Nat.le_of_ble_eq_true rfl) dX9_mayStand_41 rfl (fun r6 u H locs hq hP hD hS => ?_)
          try dsimp only at hq
          have hP : va_P (dC, dI) vwCl (W_X9_mayStand cI cJ cZ h_m h_m_allowed h_m_desk h_m_letters h_m_acts h_m_thens h_m_fits h_m_top h_m_bottom h_m_may h_m_ways h_m_found h_m_unlike h_m_seen h_m_seenThen h_m_power h_m_square h_m_product h_m_isLive h_m_down h_m_up h_m_ground h_m_met m_colours m_h m_w m_states m_rows m_ends m_steps m_last f_m_allowed) H := hP.sub [1, 0] rfl
          have hD : va_D A (W_X9_mayStand cI cJ cZ h_m h_m_allowed h_m_desk h_m_letters h_m_acts h_m_thens h_m_fits h_m_top h_m_bottom h_m_may h_m_ways h_m_found h_m_unlike h_m_seen h_m_seenThen h_m_power h_m_square h_m_product h_m_isLive h_m_down h_m_up h_m_ground h_m_met m_colours m_h m_w m_states m_rows m_ends m_steps m_last f_m_allowed) := hD.sub [1, 0] (by decide) rfl
          refine lv_imul hx hb dX9_mayStand_44 ?_
          refine lv_iadd hx hb dX9_mayStand_45 ?_
          refine lv_iconst (v := (4 : Int32)) hx hb dX9_mayStand_46 (by decide) ?_
          refine lv_aload_n hx hb dX9_mayStand_47 rfl (lv_at hl 0 rfl) ?_
          refine lv_iload_n hx hb dX9_mayStand_48 rfl (lv_at hl 2 rfl) ?_
          refine lv_iload hx hb dX9_mayStand_49 (lv_at hl 5 rfl) ?_
          refine lv_iconst (v := (1 : Int32)) hx hb dX9_mayStand_51 (by decide) ?_
          refine lv_isub hx hb dX9_mayStand_52 ?_
          refine lv_iload_n hx hb dX9_mayStand_53 rfl (lv_at hl 3 rfl) ?_
          refine gx_cVi (C := RX9) (As := [.int l2, .int (l5 - (1 : Int32)), .int l3]) (rest := [.int (4 : Int32), .int (((64 : Int32) * r5) + ((16 : Int32) * r6)), .ref h_m_allowed]) ⟨hx, hb, hml, hown, hts⟩ (c_X9_cellOf l dC dI cI cJ cZ h_m h_m_allowed h_m_desk h_m_letters h_m_acts h_m_thens h_m_fits h_m_top h_m_bottom h_m_may h_m_ways h_m_found h_m_unlike h_m_seen h_m_seenThen h_m_power h_m_square h_m_product h_m_isLive h_m_down h_m_up h_m_ground h_m_met H.size m_colours m_h m_w m_states m_rows m_ends m_steps m_last l2 (l5 - (1 : Int32)) l3 hq) (cwV 3 hts gX9_mayStand_X9_cellOf rfl rfl rfl hdV_X9_cellOf ⟨Nat.le_of_ble_eq_true rfl, Nat.le_of_ble_eq_true rfl⟩) hK hP hD hS hA [0] [1] rfl rfl rfl rfl rfl (ci := 9) (q0 := 0) rfl rfl rfl rfl hl.1 (Nat.le_of_ble_eq_true rfl) dX9_mayStand_54 rfl (fun r7 u H locs hq hP hD hS => ?_)
          try dsimp only at hq
          have hP : va_P (dC, dI) vwCl (W_X9_mayStand cI cJ cZ h_m h_m_allowed h_m_desk h_m_letters h_m_acts h_m_thens h_m_fits h_m_top h_m_bottom h_m_may h_m_ways h_m_found h_m_unlike h_m_seen h_m_seenThen h_m_power h_m_square h_m_product h_m_isLive h_m_down h_m_up h_m_ground h_m_met m_colours m_h m_w m_states m_rows m_ends m_steps m_last f_m_allowed) H := hP.sub [1, 0] rfl
          have hD : va_D A (W_X9_mayStand cI cJ cZ h_m h_m_allowed h_m_desk h_m_letters h_m_acts h_m_thens h_m_fits h_m_top h_m_bottom h_m_may h_m_ways h_m_found h_m_unlike h_m_seen h_m_seenThen h_m_power h_m_square h_m_product h_m_isLive h_m_down h_m_up h_m_ground h_m_met m_colours m_h m_w m_states m_rows m_ends m_steps m_last f_m_allowed) := hD.sub [1, 0] (by decide) rfl
          refine lv_imul hx hb dX9_mayStand_57 ?_
          refine lv_iadd hx hb dX9_mayStand_58 ?_
          refine lv_aload_n hx hb dX9_mayStand_59 rfl (lv_at hl 0 rfl) ?_
          refine lv_iload_n hx hb dX9_mayStand_60 rfl (lv_at hl 2 rfl) ?_
          refine lv_iload hx hb dX9_mayStand_61 (lv_at hl 5 rfl) ?_
          refine lv_iload_n hx hb dX9_mayStand_63 rfl (lv_at hl 3 rfl) ?_
          refine gx_cVi (C := RX9) (As := [.int l2, .int l5, .int l3]) (rest := [.int ((((64 : Int32) * r5) + ((16 : Int32) * r6)) + ((4 : Int32) * r7)), .ref h_m_allowed]) ⟨hx, hb, hml, hown, hts⟩ (c_X9_cellOf l dC dI cI cJ cZ h_m h_m_allowed h_m_desk h_m_letters h_m_acts h_m_thens h_m_fits h_m_top h_m_bottom h_m_may h_m_ways h_m_found h_m_unlike h_m_seen h_m_seenThen h_m_power h_m_square h_m_product h_m_isLive h_m_down h_m_up h_m_ground h_m_met H.size m_colours m_h m_w m_states m_rows m_ends m_steps m_last l2 l5 l3 hq) (cwV 3 hts gX9_mayStand_X9_cellOf rfl rfl rfl hdV_X9_cellOf ⟨Nat.le_of_ble_eq_true rfl, Nat.le_of_ble_eq_true rfl⟩) hK hP hD hS hA [0] [1] rfl rfl rfl rfl rfl (ci := 9) (q0 := 0) rfl rfl rfl rfl hl.1 (Nat.le_of_ble_eq_true rfl) dX9_mayStand_64 rfl (fun r8 u H locs hq hP hD hS => ?_)
          try dsimp only at hq
          have hP : va_P (dC, dI) vwCl (W_X9_mayStand cI cJ cZ h_m h_m_allowed h_m_desk h_m_letters h_m_acts h_m_thens h_m_fits h_m_top h_m_bottom h_m_may h_m_ways h_m_found h_m_unlike h_m_seen h_m_seenThen h_m_power h_m_square h_m_product h_m_isLive h_m_down h_m_up h_m_ground h_m_met m_colours m_h m_w m_states m_rows m_ends m_steps m_last f_m_allowed) H := hP.sub [1, 0] rfl
          have hD : va_D A (W_X9_mayStand cI cJ cZ h_m h_m_allowed h_m_desk h_m_letters h_m_acts h_m_thens h_m_fits h_m_top h_m_bottom h_m_may h_m_ways h_m_found h_m_unlike h_m_seen h_m_seenThen h_m_power h_m_square h_m_product h_m_isLive h_m_down h_m_up h_m_ground h_m_met m_colours m_h m_w m_states m_rows m_ends m_steps m_last f_m_allowed) := hD.sub [1, 0] (by decide) rfl
          refine lv_iadd hx hb dX9_mayStand_67 ?_
          obtain ⟨hv9, hq⟩ := hq
          refine va_zald hx hb hK hP 1 2 rfl rfl hv9 dX9_mayStand_68 ?_
          refine lv_topi (fun v10 ev10 => ?_)
          replace hq := hq v10 ev10
          refine lv_istore (lv' := [(4, .int v10), (0, .ref h_m), (1, .int l1), (2, .int l2), (3, .int l3), (5, .int l5)]) hx hb dX9_mayStand_69 hl (by decide) rfl (fun ls hl => ?_)
          refine lv_iinc (v := (l5 + (1 : Int32))) (lv' := [(5, .int (l5 + (1 : Int32))), (4, .int v10), (0, .ref h_m), (1, .int l1), (2, .int l2), (3, .int l3)]) hx hb dX9_mayStand_71 hl (k := 5) rfl rfl (by decide) rfl (fun ls hl => ?_)
          refine lv_goto (tgt := 6) hx hb dX9_mayStand_74 (by decide) ?_
          exact ih _ _ hq _ _ hP hD hS _ (lv_sub hl [2, 3, 4, 5, 1, 0] rfl)
  have C6 : ∀ (l1 : Int32) (l2 : Int32) (l3 : Int32) (l4 : Int32) (l5 : Int32), q_X9_mayStand_6 m_colours f_m_allowed post l1 l2 l3 l4 l5 → ∀ (H : Heap) (locs : List Loc), va_P (dC, dI) vwCl (W_X9_mayStand cI cJ cZ h_m h_m_allowed h_m_desk h_m_letters h_m_acts h_m_thens h_m_fits h_m_top h_m_bottom h_m_may h_m_ways h_m_found h_m_unlike h_m_seen h_m_seenThen h_m_power h_m_square h_m_product h_m_isLive h_m_down h_m_up h_m_ground h_m_met m_colours m_h m_w m_states m_rows m_ends m_steps m_last f_m_allowed) H → va_D A (W_X9_mayStand cI cJ cZ h_m h_m_allowed h_m_desk h_m_letters h_m_acts h_m_thens h_m_fits h_m_top h_m_bottom h_m_may h_m_ways h_m_found h_m_unlike h_m_seen h_m_seenThen h_m_power h_m_square h_m_product h_m_isLive h_m_down h_m_up h_m_ground h_m_met m_colours m_h m_w m_states m_rows m_ends m_steps m_last f_m_allowed) → va_S A s.heap H locs → ∀ ls : Array Slot, lv_has ls 6 [(0, .ref h_m), (1, .int l1), (2, .int l2), (3, .int l3), (4, .int l4), (5, .int l5)] → W p l e rm_X9_mayStand s m args below meth c H locs 0 0 QQ (F0 m 6 ls []) := by
    intro l1 l2 l3 l4 l5 hq H locs hP hD hS ls hl
    obtain ⟨n, hq⟩ := hq
    exact L6 _ _ _ n _ _ hq H locs hP hD hS ls hl
  unfold q_X9_mayStand at hq
  refine lv_iconst (v := (1 : Int32)) hx hb dX9_mayStand_0 (by decide) ?_
  refine lv_istore (lv' := [(4, .int (1 : Int32)), (0, .ref h_m), (1, .int l1), (2, .int l2), (3, .int l3)]) hx hb dX9_mayStand_1 hl (by decide) rfl (fun ls hl => ?_)
  refine lv_iconst (v := (0 : Int32)) hx hb dX9_mayStand_3 (by decide) ?_
  refine lv_istore (lv' := [(5, .int (0 : Int32)), (4, .int (1 : Int32)), (0, .ref h_m), (1, .int l1), (2, .int l2), (3, .int l3)]) hx hb dX9_mayStand_4 hl (by decide) rfl (fun ls hl => ?_)
  exact C6 _ _ _ _ _ hq _ _ hP hD hS _ (lv_sub hl [2, 3, 4, 5, 1, 0] rfl)

abbrev W_X9_layFits (cI cJ cZ : ClassId) (h_m h_m_allowed h_m_fits h_m_top h_m_bottom h_m_desk h_m_letters h_m_acts h_m_thens h_m_may h_m_ways h_m_found h_m_unlike h_m_seen h_m_seenThen h_m_power h_m_square h_m_product h_m_isLive h_m_down h_m_up h_m_ground h_m_met : Nat) (m_colours : Int32) (m_h : Int32) (m_w : Int32) (m_states : Int32) (m_rows : Int32) (m_ends : Int32) (m_steps : Int32) (m_last : Int32) (f_m_allowed : Nat → Int32) (f_m_fits : Nat → Int32) (f_m_top : Nat → Int32) (f_m_bottom : Nat → Int32) : va_W := [(h_m, .inr (9, [.int m_colours, .ref h_m_allowed, .int m_h, .int m_w, .ref h_m_desk, .ref h_m_letters, .int m_states, .ref h_m_acts, .ref h_m_thens, .ref h_m_fits, .ref h_m_top, .ref h_m_bottom, .int m_rows, .ref h_m_may, .ref h_m_ways, .ref h_m_found, .ref h_m_unlike, .ref h_m_seen, .ref h_m_seenThen, .ref h_m_power, .ref h_m_square, .ref h_m_product, .ref h_m_isLive, .ref h_m_down, .ref h_m_up, .ref h_m_ground, .ref h_m_met, .int m_ends, .int m_steps, .int m_last])), (h_m_allowed, .inl (cZ, 256, .inl f_m_allowed)), (h_m_fits, .inl (cZ, 59049, .inl f_m_fits)), (h_m_top, .inl (cZ, 243, .inl f_m_top)), (h_m_bottom, .inl (cZ, 243, .inl f_m_bottom))]
abbrev rm_X9_layFits : Room := { frames := 2, cells := 0, slots := 0, locals := 50 }
def r_X9_layFits_47 (m_colours : Int32) (f_m_allowed : Nat → Int32) (l1 : Int32) (m_rows : Int32) (post : (Int32) → (Nat → Int32) → (Nat → Int32) → (Nat → Int32) → Prop) (K80 : (Int32) → (Nat → Int32) → (Nat → Int32) → (Nat → Int32) → Prop) (l2 : Int32) (f_m_top : Nat → Int32) (f_m_bottom : Nat → Int32) : Nat → (Int32) → (Nat → Int32) → Prop
  | 0, _, _ => False
  | n + 1, l3, f_m_fits => ((m_rows ≤ l3 → (K80 l2 f_m_fits f_m_top f_m_bottom)) ∧ (¬ m_rows ≤ l3 → (q_X9_mayStand m_colours f_m_allowed l2 l3 l1 (fun (r10 : Int32) => (vp_in (((243 : Int32) * l2) + l3) 59049 ∧ ((r10 = 0 ∨ r10 = 1) ∧ ((r_X9_layFits_47 m_colours f_m_allowed l1 m_rows post K80 l2 f_m_top f_m_bottom n) (l3 + (1 : Int32)) (upd f_m_fits ((((243 : Int32) * l2) + l3)).toNatClampNeg r10))))))))
def q_X9_layFits_80 (m_colours : Int32) (f_m_allowed : Nat → Int32) (l1 : Int32) (m_rows : Int32) (post : (Int32) → (Nat → Int32) → (Nat → Int32) → (Nat → Int32) → Prop) (K11 : (Int32) → (Nat → Int32) → (Nat → Int32) → (Nat → Int32) → Prop) (l2 : Int32) (f_m_fits : Nat → Int32) (f_m_top : Nat → Int32) (f_m_bottom : Nat → Int32) : Prop := (K11 (l2 + (1 : Int32)) f_m_fits f_m_top f_m_bottom)
def q_X9_layFits_47 (m_colours : Int32) (f_m_allowed : Nat → Int32) (l1 : Int32) (m_rows : Int32) (post : (Int32) → (Nat → Int32) → (Nat → Int32) → (Nat → Int32) → Prop) (K11 : (Int32) → (Nat → Int32) → (Nat → Int32) → (Nat → Int32) → Prop) (l2 : Int32) (l3 : Int32) (f_m_fits : Nat → Int32) (f_m_top : Nat → Int32) (f_m_bottom : Nat → Int32) : Prop := ∃ n, r_X9_layFits_47 m_colours f_m_allowed l1 m_rows post (q_X9_layFits_80 m_colours f_m_allowed l1 m_rows post K11) l2 f_m_top f_m_bottom n l3 f_m_fits
def r_X9_layFits_11 (m_colours : Int32) (f_m_allowed : Nat → Int32) (post : (Int32) → (Nat → Int32) → (Nat → Int32) → (Nat → Int32) → Prop) (l1 : Int32) (m_rows : Int32) : Nat → (Int32) → (Nat → Int32) → (Nat → Int32) → (Nat → Int32) → Prop
  | 0, _, _, _, _ => False
  | n + 1, l2, f_m_fits, f_m_top, f_m_bottom => ((m_rows ≤ l2 → (post m_rows f_m_fits f_m_top f_m_bottom)) ∧ (¬ m_rows ≤ l2 → (q_X9_mayStand m_colours f_m_allowed (-1 : Int32) l2 l1 (fun (r3 : Int32) => (vp_in l2 243 ∧ ((r3 = 0 ∨ r3 = 1) ∧ (q_X9_mayStand m_colours f_m_allowed l2 (-1 : Int32) l1 (fun (r6 : Int32) => (vp_in l2 243 ∧ ((r6 = 0 ∨ r6 = 1) ∧ ((q_X9_layFits_47 m_colours f_m_allowed l1 m_rows post (r_X9_layFits_11 m_colours f_m_allowed post l1 m_rows n)) l2 (0 : Int32) f_m_fits (upd f_m_top (l2).toNatClampNeg r3) (upd f_m_bottom (l2).toNatClampNeg r6))))))))))))
def q_X9_layFits_11 (m_colours : Int32) (f_m_allowed : Nat → Int32) (post : (Int32) → (Nat → Int32) → (Nat → Int32) → (Nat → Int32) → Prop) (l1 : Int32) (l2 : Int32) (m_rows : Int32) (f_m_fits : Nat → Int32) (f_m_top : Nat → Int32) (f_m_bottom : Nat → Int32) : Prop := ∃ n, r_X9_layFits_11 m_colours f_m_allowed post l1 m_rows n l2 f_m_fits f_m_top f_m_bottom
def q_X9_layFits (m_colours : Int32) (f_m_allowed : Nat → Int32) (m_rows : Int32) (f_m_fits : Nat → Int32) (f_m_top : Nat → Int32) (f_m_bottom : Nat → Int32) (l1 : Int32) (post : (Int32) → (Nat → Int32) → (Nat → Int32) → (Nat → Int32) → Prop) : Prop := (q_X9_rowsOf m_colours l1 (fun (r1 : Int32) => ((q_X9_layFits_11 m_colours f_m_allowed post) l1 (0 : Int32) r1 f_m_fits f_m_top f_m_bottom)))
theorem hdV_X9_layFits : yX9_layFits.cls = RX9 ∧ yX9_layFits.cls ≠ "java/lang/invoke/MethodHandle" ∧ yX9_layFits.cls ≠ "java/lang/invoke/VarHandle" ∧ (parseMethodDescriptor yX9_layFits.desc).map (fun d => d.parameters.length) = some 1 := by decide +kernel
set_option maxHeartbeats 4000000 in
set_option maxRecDepth 100000 in
theorem c_X9_layFits (l : Launch) (dC : Nat → ClassId) (dI : Nat → Nat → Nat) (cI cJ cZ : ClassId) (h_m h_m_allowed h_m_fits h_m_top h_m_bottom h_m_desk h_m_letters h_m_acts h_m_thens h_m_may h_m_ways h_m_found h_m_unlike h_m_seen h_m_seenThen h_m_power h_m_square h_m_product h_m_isLive h_m_down h_m_up h_m_ground h_m_met : Nat) (sz : Nat) (m_colours : Int32) (m_h : Int32) (m_w : Int32) (m_states : Int32) (m_rows : Int32) (m_ends : Int32) (m_steps : Int32) (m_last : Int32) (f_m_allowed : Nat → Int32) (f_m_fits : Nat → Int32) (f_m_top : Nat → Int32) (f_m_bottom : Nat → Int32) (l1 : Int32) {post : (Int32) → (Nat → Int32) → (Nat → Int32) → (Nat → Int32) → Prop} (hq : q_X9_layFits m_colours f_m_allowed m_rows f_m_fits f_m_top f_m_bottom l1 post) : Met l yX9_layFits wsX9_layFits rm_X9_layFits (va_Pc [.ref h_m, .int l1] (gx_Pre (dC, dI) vwCl (gx_tys cI cJ cZ) sz (W_X9_layFits cI cJ cZ h_m h_m_allowed h_m_fits h_m_top h_m_bottom h_m_desk h_m_letters h_m_acts h_m_thens h_m_may h_m_ways h_m_found h_m_unlike h_m_seen h_m_seenThen h_m_power h_m_square h_m_product h_m_isLive h_m_down h_m_up h_m_ground h_m_met m_colours m_h m_w m_states m_rows m_ends m_steps m_last f_m_allowed f_m_fits f_m_top f_m_bottom))) (va_Qv (fun (u : (Int32) × (Nat → Int32) × (Nat → Int32) × (Nat → Int32)) => post u.1 u.2.1 u.2.2.1 u.2.2.2) (gx_B (dC, dI) vwCl (gx_tys cI cJ cZ) (va_A (W_X9_layFits cI cJ cZ h_m h_m_allowed h_m_fits h_m_top h_m_bottom h_m_desk h_m_letters h_m_acts h_m_thens h_m_may h_m_ways h_m_found h_m_unlike h_m_seen h_m_seenThen h_m_power h_m_square h_m_product h_m_isLive h_m_down h_m_up h_m_ground h_m_met m_colours m_h m_w m_states m_rows m_ends m_steps m_last f_m_allowed f_m_fits f_m_top f_m_bottom) sz) (fun (u : (Int32) × (Nat → Int32) × (Nat → Int32) × (Nat → Int32)) => (W_X9_layFits cI cJ cZ h_m h_m_allowed h_m_fits h_m_top h_m_bottom h_m_desk h_m_letters h_m_acts h_m_thens h_m_may h_m_ways h_m_found h_m_unlike h_m_seen h_m_seenThen h_m_power h_m_square h_m_product h_m_isLive h_m_down h_m_up h_m_ground h_m_met m_colours m_h m_w m_states u.1 m_ends m_steps m_last f_m_allowed u.2.1 u.2.2.1 u.2.2.2))) (va_A (W_X9_layFits cI cJ cZ h_m h_m_allowed h_m_fits h_m_top h_m_bottom h_m_desk h_m_letters h_m_acts h_m_thens h_m_may h_m_ways h_m_found h_m_unlike h_m_seen h_m_seenThen h_m_power h_m_square h_m_product h_m_isLive h_m_down h_m_up h_m_ground h_m_met m_colours m_h m_w m_states m_rows m_ends m_steps m_last f_m_allowed f_m_fits f_m_top f_m_bottom) sz)) 0 0 (va_A (W_X9_layFits cI cJ cZ h_m h_m_allowed h_m_fits h_m_top h_m_bottom h_m_desk h_m_letters h_m_acts h_m_thens h_m_may h_m_ways h_m_found h_m_unlike h_m_seen h_m_seenThen h_m_power h_m_square h_m_product h_m_isLive h_m_down h_m_up h_m_ground h_m_met m_colours m_h m_w m_states m_rows m_ends m_steps m_last f_m_allowed f_m_fits f_m_top f_m_bottom) sz) := by
  refine gx_v (cc := cX9_layFits) (maxL := 4) (by decide) rfl (Nat.le_of_ble_eq_true rfl) ?_
  intro p e s m args below meth c A QQ hx hb hml hown hts hA hP hK hD hret ls hl
  have hown : s.vm.findClass RX9 = some m.cls := hown
  have hf153 := hts (.fieldLink RX9 153 "SmallWindowsModel" "rows" "I") (by decide +kernel)
  have hf43 := hts (.fieldLink RX9 43 "SmallWindowsModel" "top" "[Z") (by decide +kernel)
  have hf46 := hts (.fieldLink RX9 46 "SmallWindowsModel" "bottom" "[Z") (by decide +kernel)
  have hf40 := hts (.fieldLink RX9 40 "SmallWindowsModel" "fits" "[Z") (by decide +kernel)
  have hinX9 : ∀ w ∈ u_ws RX9 TX9 30, w ∈ wsX9_layFits := fun w h => List.mem_cons_of_mem _ ((List.mem_append_right _ h))
  have hS : va_S A s.heap s.heap [] := va_S.rf
  have hl : lv_has ls 4 [(0, .ref h_m), (1, .int l1)] := hl
  have L47 : ∀ (l1 : Int32) (m_rows : Int32) (K80 : (Int32) → (Nat → Int32) → (Nat → Int32) → (Nat → Int32) → Prop) (hK80 : (∀ (l2 : Int32) (f_m_fits : Nat → Int32) (f_m_top : Nat → Int32) (f_m_bottom : Nat → Int32), K80 l2 f_m_fits f_m_top f_m_bottom → ∀ (H : Heap) (locs : List Loc), va_P (dC, dI) vwCl (W_X9_layFits cI cJ cZ h_m h_m_allowed h_m_fits h_m_top h_m_bottom h_m_desk h_m_letters h_m_acts h_m_thens h_m_may h_m_ways h_m_found h_m_unlike h_m_seen h_m_seenThen h_m_power h_m_square h_m_product h_m_isLive h_m_down h_m_up h_m_ground h_m_met m_colours m_h m_w m_states m_rows m_ends m_steps m_last f_m_allowed f_m_fits f_m_top f_m_bottom) H → va_D A (W_X9_layFits cI cJ cZ h_m h_m_allowed h_m_fits h_m_top h_m_bottom h_m_desk h_m_letters h_m_acts h_m_thens h_m_may h_m_ways h_m_found h_m_unlike h_m_seen h_m_seenThen h_m_power h_m_square h_m_product h_m_isLive h_m_down h_m_up h_m_ground h_m_met m_colours m_h m_w m_states m_rows m_ends m_steps m_last f_m_allowed f_m_fits f_m_top f_m_bottom) → va_S A s.heap H locs → ∀ ls : Array Slot, lv_has ls 4 [(0, .ref h_m), (1, .int l1), (2, .int l2)] → W p l e rm_X9_layFits s m args below meth c H locs 0 0 QQ (F0 m 80 ls []))) (l2 : Int32) (f_m_top : Nat → Int32) (f_m_bottom : Nat → Int32) (n : Nat) (l3 : Int32) (f_m_fits : Nat → Int32), r_X9_layFits_47 m_colours f_m_allowed l1 m_rows post K80 l2 f_m_top f_m_bottom n l3 f_m_fits → ∀ (H : Heap) (locs : List Loc), va_P (dC, dI) vwCl (W_X9_layFits cI cJ cZ h_m h_m_allowed h_m_fits h_m_top h_m_bottom h_m_desk h_m_letters h_m_acts h_m_thens h_m_may h_m_ways h_m_found h_m_unlike h_m_seen h_m_seenThen h_m_power h_m_square h_m_product h_m_isLive h_m_down h_m_up h_m_ground h_m_met m_colours m_h m_w m_states m_rows m_ends m_steps m_last f_m_allowed f_m_fits f_m_top f_m_bottom) H → va_D A (W_X9_layFits cI cJ cZ h_m h_m_allowed h_m_fits h_m_top h_m_bottom h_m_desk h_m_letters h_m_acts h_m_thens h_m_may h_m_ways h_m_found h_m_unlike h_m_seen h_m_seenThen h_m_power h_m_square h_m_product h_m_isLive h_m_down h_m_up h_m_ground h_m_met m_colours m_h m_w m_states m_rows m_ends m_steps m_last f_m_allowed f_m_fits f_m_top f_m_bottom) → va_S A s.heap H locs → ∀ ls : Array Slot, lv_has ls 4 [(0, .ref h_m), (1, .int l1), (2, .int l2), (3, .int l3)] → W p l e rm_X9_layFits s m args below meth c H locs 0 0 QQ (F0 m 47 ls []) := by
    intro l1 m_rows K80 hK80 l2 f_m_top f_m_bottom n
    induction n with
    | zero => intro l3 f_m_fits hq; exact False.elim hq
    | succ n ih =>
      intro l3 f_m_fits hq H locs hP hD hS ls hl
      unfold r_X9_layFits_47 at hq
      refine lv_iload_n hx hb dX9_layFits_47 rfl (lv_at hl 3 rfl) ?_
      refine lv_aload_n hx hb dX9_layFits_48 rfl (lv_at hl 0 rfl) ?_
      refine va_get (D := (dC, dI)) (ci := 9) (v := .int m_rows) (C := RX9) (T := TX9) (N := 30) hx hb hts hinX9 hown hK hP 0 rfl rfl 12 (by decide) hf153 (fun _ h9 => h9) rfl dX9_layFits_49 ?_
      refine lv_icmp_ge (tgt := 80) hx hb dX9_layFits_52 (by decide) (fun c9 => ?_) (fun c9 => ?_)
      · replace hq := hq.1 c9
        exact hK80 _ _ _ _ hq _ _ hP hD hS _ (lv_sub hl [0, 1, 2] rfl)
      · replace hq := hq.2 c9
        refine lv_aload_n hx hb dX9_layFits_55 rfl (lv_at hl 0 rfl) ?_
        refine va_get (D := (dC, dI)) (ci := 9) (v := .ref h_m_fits) (C := RX9) (T := TX9) (N := 30) hx hb hts hinX9 hown hK hP 0 rfl rfl 9 (by decide) hf40 (fun _ h9 => h9) rfl dX9_layFits_56 ?_
        refine lv_sipush (v := (243 : Int32)) hx hb dX9_layFits_59 (by decide) ?_
        refine lv_iload_n hx hb dX9_layFits_62 rfl (lv_at hl 2 rfl) ?_
        refine lv_imul hx hb dX9_layFits_63 ?_
        refine lv_iload_n hx hb dX9_layFits_64 rfl (lv_at hl 3 rfl) ?_
        refine lv_iadd hx hb dX9_layFits_65 ?_
        refine lv_aload_n hx hb dX9_layFits_66 rfl (lv_at hl 0 rfl) ?_
        refine lv_iload_n hx hb dX9_layFits_67 rfl (lv_at hl 2 rfl) ?_
        refine lv_iload_n hx hb dX9_layFits_68 rfl (lv_at hl 3 rfl) ?_
        refine lv_iload_n hx hb dX9_layFits_69 rfl (lv_at hl 1 rfl) ?_
        refine gx_cVi (C := RX9) (As := [.int l2, .int l3, .int l1]) (rest := [.int (((243 : Int32) * l2) + l3), .ref h_m_fits]) ⟨hx, hb, hml, hown, hts⟩ (c_X9_mayStand l dC dI cI cJ cZ h_m h_m_allowed h_m_desk h_m_letters h_m_acts h_m_thens h_m_fits h_m_top h_m_bottom h_m_may h_m_ways h_m_found h_m_unlike h_m_seen h_m_seenThen h_m_power h_m_square h_m_product h_m_isLive h_m_down h_m_up h_m_ground h_m_met H.size m_colours m_h m_w m_states m_rows m_ends m_steps m_last f_m_allowed l2 l3 l1 hq) (cwV 3 hts gX9_layFits_X9_mayStand rfl rfl rfl hdV_X9_mayStand ⟨Nat.le_of_ble_eq_true rfl, Nat.le_of_ble_eq_true rfl⟩) hK hP hD hS hA [0, 1] [2, 3, 4] rfl rfl rfl rfl rfl (ci := 9) (q0 := 0) rfl rfl rfl rfl hl.1 (Nat.le_of_ble_eq_true rfl) dX9_layFits_70 rfl (fun r10 u H locs hq hP hD hS => ?_)
        try dsimp only at hq
        have hP : va_P (dC, dI) vwCl (W_X9_layFits cI cJ cZ h_m h_m_allowed h_m_fits h_m_top h_m_bottom h_m_desk h_m_letters h_m_acts h_m_thens h_m_may h_m_ways h_m_found h_m_unlike h_m_seen h_m_seenThen h_m_power h_m_square h_m_product h_m_isLive h_m_down h_m_up h_m_ground h_m_met m_colours m_h m_w m_states m_rows m_ends m_steps m_last f_m_allowed f_m_fits f_m_top f_m_bottom) H := hP.sub [3, 4, 0, 1, 2] rfl
        have hD : va_D A (W_X9_layFits cI cJ cZ h_m h_m_allowed h_m_fits h_m_top h_m_bottom h_m_desk h_m_letters h_m_acts h_m_thens h_m_may h_m_ways h_m_found h_m_unlike h_m_seen h_m_seenThen h_m_power h_m_square h_m_product h_m_isLive h_m_down h_m_up h_m_ground h_m_met m_colours m_h m_w m_states m_rows m_ends m_steps m_last f_m_allowed f_m_fits f_m_top f_m_bottom) := hD.sub [3, 4, 0, 1, 2] (by decide) rfl
        obtain ⟨hv11, hq⟩ := hq
        obtain ⟨hb12, hq⟩ := hq
        refine va_zast hx hb hK hP hD hS 2 2 rfl rfl hv11 dX9_layFits_73 (fun H locs hP hD hS => ?_)
        rw [gx_nar hb12] at hP hD
        have hP : va_P (dC, dI) vwCl (W_X9_layFits cI cJ cZ h_m h_m_allowed h_m_fits h_m_top h_m_bottom h_m_desk h_m_letters h_m_acts h_m_thens h_m_may h_m_ways h_m_found h_m_unlike h_m_seen h_m_seenThen h_m_power h_m_square h_m_product h_m_isLive h_m_down h_m_up h_m_ground h_m_met m_colours m_h m_w m_states m_rows m_ends m_steps m_last f_m_allowed (upd f_m_fits ((((243 : Int32) * l2) + l3)).toNatClampNeg r10) f_m_top f_m_bottom) H := hP
        have hD : va_D A (W_X9_layFits cI cJ cZ h_m h_m_allowed h_m_fits h_m_top h_m_bottom h_m_desk h_m_letters h_m_acts h_m_thens h_m_may h_m_ways h_m_found h_m_unlike h_m_seen h_m_seenThen h_m_power h_m_square h_m_product h_m_isLive h_m_down h_m_up h_m_ground h_m_met m_colours m_h m_w m_states m_rows m_ends m_steps m_last f_m_allowed (upd f_m_fits ((((243 : Int32) * l2) + l3)).toNatClampNeg r10) f_m_top f_m_bottom) := hD
        refine lv_iinc (v := (l3 + (1 : Int32))) (lv' := [(3, .int (l3 + (1 : Int32))), (0, .ref h_m), (1, .int l1), (2, .int l2)]) hx hb dX9_layFits_74 hl (k := 3) rfl rfl (by decide) rfl (fun ls hl => ?_)
        refine lv_goto (tgt := 47) hx hb dX9_layFits_77 (by decide) ?_
        exact ih _ _ hq _ _ hP hD hS _ (lv_sub hl [1, 2, 3, 0] rfl)
  have C80 : ∀ (l1 : Int32) (m_rows : Int32) (K11 : (Int32) → (Nat → Int32) → (Nat → Int32) → (Nat → Int32) → Prop) (hK11 : (∀ (l2 : Int32) (f_m_fits : Nat → Int32) (f_m_top : Nat → Int32) (f_m_bottom : Nat → Int32), K11 l2 f_m_fits f_m_top f_m_bottom → ∀ (H : Heap) (locs : List Loc), va_P (dC, dI) vwCl (W_X9_layFits cI cJ cZ h_m h_m_allowed h_m_fits h_m_top h_m_bottom h_m_desk h_m_letters h_m_acts h_m_thens h_m_may h_m_ways h_m_found h_m_unlike h_m_seen h_m_seenThen h_m_power h_m_square h_m_product h_m_isLive h_m_down h_m_up h_m_ground h_m_met m_colours m_h m_w m_states m_rows m_ends m_steps m_last f_m_allowed f_m_fits f_m_top f_m_bottom) H → va_D A (W_X9_layFits cI cJ cZ h_m h_m_allowed h_m_fits h_m_top h_m_bottom h_m_desk h_m_letters h_m_acts h_m_thens h_m_may h_m_ways h_m_found h_m_unlike h_m_seen h_m_seenThen h_m_power h_m_square h_m_product h_m_isLive h_m_down h_m_up h_m_ground h_m_met m_colours m_h m_w m_states m_rows m_ends m_steps m_last f_m_allowed f_m_fits f_m_top f_m_bottom) → va_S A s.heap H locs → ∀ ls : Array Slot, lv_has ls 4 [(0, .ref h_m), (1, .int l1), (2, .int l2)] → W p l e rm_X9_layFits s m args below meth c H locs 0 0 QQ (F0 m 11 ls []))) (l2 : Int32) (f_m_fits : Nat → Int32) (f_m_top : Nat → Int32) (f_m_bottom : Nat → Int32), q_X9_layFits_80 m_colours f_m_allowed l1 m_rows post K11 l2 f_m_fits f_m_top f_m_bottom → ∀ (H : Heap) (locs : List Loc), va_P (dC, dI) vwCl (W_X9_layFits cI cJ cZ h_m h_m_allowed h_m_fits h_m_top h_m_bottom h_m_desk h_m_letters h_m_acts h_m_thens h_m_may h_m_ways h_m_found h_m_unlike h_m_seen h_m_seenThen h_m_power h_m_square h_m_product h_m_isLive h_m_down h_m_up h_m_ground h_m_met m_colours m_h m_w m_states m_rows m_ends m_steps m_last f_m_allowed f_m_fits f_m_top f_m_bottom) H → va_D A (W_X9_layFits cI cJ cZ h_m h_m_allowed h_m_fits h_m_top h_m_bottom h_m_desk h_m_letters h_m_acts h_m_thens h_m_may h_m_ways h_m_found h_m_unlike h_m_seen h_m_seenThen h_m_power h_m_square h_m_product h_m_isLive h_m_down h_m_up h_m_ground h_m_met m_colours m_h m_w m_states m_rows m_ends m_steps m_last f_m_allowed f_m_fits f_m_top f_m_bottom) → va_S A s.heap H locs → ∀ ls : Array Slot, lv_has ls 4 [(0, .ref h_m), (1, .int l1), (2, .int l2)] → W p l e rm_X9_layFits s m args below meth c H locs 0 0 QQ (F0 m 80 ls []) := by
    intro l1 m_rows K11 hK11 l2 f_m_fits f_m_top f_m_bottom hq H locs hP hD hS ls hl
    unfold q_X9_layFits_80 at hq
    refine lv_iinc (v := (l2 + (1 : Int32))) (lv' := [(2, .int (l2 + (1 : Int32))), (0, .ref h_m), (1, .int l1)]) hx hb dX9_layFits_80 hl (k := 2) rfl rfl (by decide) rfl (fun ls hl => ?_)
    refine lv_goto (tgt := 11) hx hb dX9_layFits_83 (by decide) ?_
    exact hK11 _ _ _ _ hq _ _ hP hD hS _ (lv_sub hl [1, 2, 0] rfl)
  have C47 : ∀ (l1 : Int32) (m_rows : Int32) (K11 : (Int32) → (Nat → Int32) → (Nat → Int32) → (Nat → Int32) → Prop) (hK11 : (∀ (l2 : Int32) (f_m_fits : Nat → Int32) (f_m_top : Nat → Int32) (f_m_bottom : Nat → Int32), K11 l2 f_m_fits f_m_top f_m_bottom → ∀ (H : Heap) (locs : List Loc), va_P (dC, dI) vwCl (W_X9_layFits cI cJ cZ h_m h_m_allowed h_m_fits h_m_top h_m_bottom h_m_desk h_m_letters h_m_acts h_m_thens h_m_may h_m_ways h_m_found h_m_unlike h_m_seen h_m_seenThen h_m_power h_m_square h_m_product h_m_isLive h_m_down h_m_up h_m_ground h_m_met m_colours m_h m_w m_states m_rows m_ends m_steps m_last f_m_allowed f_m_fits f_m_top f_m_bottom) H → va_D A (W_X9_layFits cI cJ cZ h_m h_m_allowed h_m_fits h_m_top h_m_bottom h_m_desk h_m_letters h_m_acts h_m_thens h_m_may h_m_ways h_m_found h_m_unlike h_m_seen h_m_seenThen h_m_power h_m_square h_m_product h_m_isLive h_m_down h_m_up h_m_ground h_m_met m_colours m_h m_w m_states m_rows m_ends m_steps m_last f_m_allowed f_m_fits f_m_top f_m_bottom) → va_S A s.heap H locs → ∀ ls : Array Slot, lv_has ls 4 [(0, .ref h_m), (1, .int l1), (2, .int l2)] → W p l e rm_X9_layFits s m args below meth c H locs 0 0 QQ (F0 m 11 ls []))) (l2 : Int32) (l3 : Int32) (f_m_fits : Nat → Int32) (f_m_top : Nat → Int32) (f_m_bottom : Nat → Int32), q_X9_layFits_47 m_colours f_m_allowed l1 m_rows post K11 l2 l3 f_m_fits f_m_top f_m_bottom → ∀ (H : Heap) (locs : List Loc), va_P (dC, dI) vwCl (W_X9_layFits cI cJ cZ h_m h_m_allowed h_m_fits h_m_top h_m_bottom h_m_desk h_m_letters h_m_acts h_m_thens h_m_may h_m_ways h_m_found h_m_unlike h_m_seen h_m_seenThen h_m_power h_m_square h_m_product h_m_isLive h_m_down h_m_up h_m_ground h_m_met m_colours m_h m_w m_states m_rows m_ends m_steps m_last f_m_allowed f_m_fits f_m_top f_m_bottom) H → va_D A (W_X9_layFits cI cJ cZ h_m h_m_allowed h_m_fits h_m_top h_m_bottom h_m_desk h_m_letters h_m_acts h_m_thens h_m_may h_m_ways h_m_found h_m_unlike h_m_seen h_m_seenThen h_m_power h_m_square h_m_product h_m_isLive h_m_down h_m_up h_m_ground h_m_met m_colours m_h m_w m_states m_rows m_ends m_steps m_last f_m_allowed f_m_fits f_m_top f_m_bottom) → va_S A s.heap H locs → ∀ ls : Array Slot, lv_has ls 4 [(0, .ref h_m), (1, .int l1), (2, .int l2), (3, .int l3)] → W p l e rm_X9_layFits s m args below meth c H locs 0 0 QQ (F0 m 47 ls []) := by
    intro l1 m_rows K11 hK11 l2 l3 f_m_fits f_m_top f_m_bottom hq H locs hP hD hS ls hl
    obtain ⟨n, hq⟩ := hq
    exact L47 _ _ _ (C80 _ _ _ hK11) _ _ _ n _ _ hq H locs hP hD hS ls hl
  have L11 : ∀ (l1 : Int32) (m_rows : Int32) (n : Nat) (l2 : Int32) (f_m_fits : Nat → Int32) (f_m_top : Nat → Int32) (f_m_bottom : Nat → Int32), r_X9_layFits_11 m_colours f_m_allowed post l1 m_rows n l2 f_m_fits f_m_top f_m_bottom → ∀ (H : Heap) (locs : List Loc), va_P (dC, dI) vwCl (W_X9_layFits cI cJ cZ h_m h_m_allowed h_m_fits h_m_top h_m_bottom h_m_desk h_m_letters h_m_acts h_m_thens h_m_may h_m_ways h_m_found h_m_unlike h_m_seen h_m_seenThen h_m_power h_m_square h_m_product h_m_isLive h_m_down h_m_up h_m_ground h_m_met m_colours m_h m_w m_states m_rows m_ends m_steps m_last f_m_allowed f_m_fits f_m_top f_m_bottom) H → va_D A (W_X9_layFits cI cJ cZ h_m h_m_allowed h_m_fits h_m_top h_m_bottom h_m_desk h_m_letters h_m_acts h_m_thens h_m_may h_m_ways h_m_found h_m_unlike h_m_seen h_m_seenThen h_m_power h_m_square h_m_product h_m_isLive h_m_down h_m_up h_m_ground h_m_met m_colours m_h m_w m_states m_rows m_ends m_steps m_last f_m_allowed f_m_fits f_m_top f_m_bottom) → va_S A s.heap H locs → ∀ ls : Array Slot, lv_has ls 4 [(0, .ref h_m), (1, .int l1), (2, .int l2)] → W p l e rm_X9_layFits s m args below meth c H locs 0 0 QQ (F0 m 11 ls []) := by
    intro l1 m_rows n
    induction n with
    | zero => intro l2 f_m_fits f_m_top f_m_bottom hq; exact False.elim hq
    | succ n ih =>
      intro l2 f_m_fits f_m_top f_m_bottom hq H locs hP hD hS ls hl
      unfold r_X9_layFits_11 at hq
      refine lv_iload_n hx hb dX9_layFits_11 rfl (lv_at hl 2 rfl) ?_
      refine lv_aload_n hx hb dX9_layFits_12 rfl (lv_at hl 0 rfl) ?_
      refine va_get (D := (dC, dI)) (ci := 9) (v := .int m_rows) (C := RX9) (T := TX9) (N := 30) hx hb hts hinX9 hown hK hP 0 rfl rfl 12 (by decide) hf153 (fun _ h9 => h9) rfl dX9_layFits_13 ?_
      refine lv_icmp_ge (tgt := 86) hx hb dX9_layFits_16 (by decide) (fun c2 => ?_) (fun c2 => ?_)
      · replace hq := hq.1 c2
        exact hret (m_rows, f_m_fits, f_m_top, f_m_bottom) hq _ _ hP hD hS _ _ dX9_layFits_86
      · replace hq := hq.2 c2
        refine lv_aload_n hx hb dX9_layFits_19 rfl (lv_at hl 0 rfl) ?_
        refine va_get (D := (dC, dI)) (ci := 9) (v := .ref h_m_top) (C := RX9) (T := TX9) (N := 30) hx hb hts hinX9 hown hK hP 0 rfl rfl 10 (by decide) hf43 (fun _ h9 => h9) rfl dX9_layFits_20 ?_
        refine lv_iload_n hx hb dX9_layFits_23 rfl (lv_at hl 2 rfl) ?_
        refine lv_aload_n hx hb dX9_layFits_24 rfl (lv_at hl 0 rfl) ?_
        refine lv_iconst (v := (-1 : Int32)) hx hb dX9_layFits_25 (by decide) ?_
        refine lv_iload_n hx hb dX9_layFits_26 rfl (lv_at hl 2 rfl) ?_
        refine lv_iload_n hx hb dX9_layFits_27 rfl (lv_at hl 1 rfl) ?_
        refine gx_cVi (C := RX9) (As := [.int (-1 : Int32), .int l2, .int l1]) (rest := [.int l2, .ref h_m_top]) ⟨hx, hb, hml, hown, hts⟩ (c_X9_mayStand l dC dI cI cJ cZ h_m h_m_allowed h_m_desk h_m_letters h_m_acts h_m_thens h_m_fits h_m_top h_m_bottom h_m_may h_m_ways h_m_found h_m_unlike h_m_seen h_m_seenThen h_m_power h_m_square h_m_product h_m_isLive h_m_down h_m_up h_m_ground h_m_met H.size m_colours m_h m_w m_states m_rows m_ends m_steps m_last f_m_allowed (-1 : Int32) l2 l1 hq) (cwV 3 hts gX9_layFits_X9_mayStand rfl rfl rfl hdV_X9_mayStand ⟨Nat.le_of_ble_eq_true rfl, Nat.le_of_ble_eq_true rfl⟩) hK hP hD hS hA [0, 1] [2, 3, 4] rfl rfl rfl rfl rfl (ci := 9) (q0 := 0) rfl rfl rfl rfl hl.1 (Nat.le_of_ble_eq_true rfl) dX9_layFits_28 rfl (fun r3 u H locs hq hP hD hS => ?_)
        try dsimp only at hq
        have hP : va_P (dC, dI) vwCl (W_X9_layFits cI cJ cZ h_m h_m_allowed h_m_fits h_m_top h_m_bottom h_m_desk h_m_letters h_m_acts h_m_thens h_m_may h_m_ways h_m_found h_m_unlike h_m_seen h_m_seenThen h_m_power h_m_square h_m_product h_m_isLive h_m_down h_m_up h_m_ground h_m_met m_colours m_h m_w m_states m_rows m_ends m_steps m_last f_m_allowed f_m_fits f_m_top f_m_bottom) H := hP.sub [3, 4, 0, 1, 2] rfl
        have hD : va_D A (W_X9_layFits cI cJ cZ h_m h_m_allowed h_m_fits h_m_top h_m_bottom h_m_desk h_m_letters h_m_acts h_m_thens h_m_may h_m_ways h_m_found h_m_unlike h_m_seen h_m_seenThen h_m_power h_m_square h_m_product h_m_isLive h_m_down h_m_up h_m_ground h_m_met m_colours m_h m_w m_states m_rows m_ends m_steps m_last f_m_allowed f_m_fits f_m_top f_m_bottom) := hD.sub [3, 4, 0, 1, 2] (by decide) rfl
        obtain ⟨hv4, hq⟩ := hq
        obtain ⟨hb5, hq⟩ := hq
        refine va_zast hx hb hK hP hD hS 3 2 rfl rfl hv4 dX9_layFits_31 (fun H locs hP hD hS => ?_)
        rw [gx_nar hb5] at hP hD
        have hP : va_P (dC, dI) vwCl (W_X9_layFits cI cJ cZ h_m h_m_allowed h_m_fits h_m_top h_m_bottom h_m_desk h_m_letters h_m_acts h_m_thens h_m_may h_m_ways h_m_found h_m_unlike h_m_seen h_m_seenThen h_m_power h_m_square h_m_product h_m_isLive h_m_down h_m_up h_m_ground h_m_met m_colours m_h m_w m_states m_rows m_ends m_steps m_last f_m_allowed f_m_fits (upd f_m_top (l2).toNatClampNeg r3) f_m_bottom) H := hP
        have hD : va_D A (W_X9_layFits cI cJ cZ h_m h_m_allowed h_m_fits h_m_top h_m_bottom h_m_desk h_m_letters h_m_acts h_m_thens h_m_may h_m_ways h_m_found h_m_unlike h_m_seen h_m_seenThen h_m_power h_m_square h_m_product h_m_isLive h_m_down h_m_up h_m_ground h_m_met m_colours m_h m_w m_states m_rows m_ends m_steps m_last f_m_allowed f_m_fits (upd f_m_top (l2).toNatClampNeg r3) f_m_bottom) := hD
        refine lv_aload_n hx hb dX9_layFits_32 rfl (lv_at hl 0 rfl) ?_
        refine va_get (D := (dC, dI)) (ci := 9) (v := .ref h_m_bottom) (C := RX9) (T := TX9) (N := 30) hx hb hts hinX9 hown hK hP 0 rfl rfl 11 (by decide) hf46 (fun _ h9 => h9) rfl dX9_layFits_33 ?_
        refine lv_iload_n hx hb dX9_layFits_36 rfl (lv_at hl 2 rfl) ?_
        refine lv_aload_n hx hb dX9_layFits_37 rfl (lv_at hl 0 rfl) ?_
        refine lv_iload_n hx hb dX9_layFits_38 rfl (lv_at hl 2 rfl) ?_
        refine lv_iconst (v := (-1 : Int32)) hx hb dX9_layFits_39 (by decide) ?_
        refine lv_iload_n hx hb dX9_layFits_40 rfl (lv_at hl 1 rfl) ?_
        refine gx_cVi (C := RX9) (As := [.int l2, .int (-1 : Int32), .int l1]) (rest := [.int l2, .ref h_m_bottom]) ⟨hx, hb, hml, hown, hts⟩ (c_X9_mayStand l dC dI cI cJ cZ h_m h_m_allowed h_m_desk h_m_letters h_m_acts h_m_thens h_m_fits h_m_top h_m_bottom h_m_may h_m_ways h_m_found h_m_unlike h_m_seen h_m_seenThen h_m_power h_m_square h_m_product h_m_isLive h_m_down h_m_up h_m_ground h_m_met H.size m_colours m_h m_w m_states m_rows m_ends m_steps m_last f_m_allowed l2 (-1 : Int32) l1 hq) (cwV 3 hts gX9_layFits_X9_mayStand rfl rfl rfl hdV_X9_mayStand ⟨Nat.le_of_ble_eq_true rfl, Nat.le_of_ble_eq_true rfl⟩) hK hP hD hS hA [0, 1] [2, 3, 4] rfl rfl rfl rfl rfl (ci := 9) (q0 := 0) rfl rfl rfl rfl hl.1 (Nat.le_of_ble_eq_true rfl) dX9_layFits_41 rfl (fun r6 u H locs hq hP hD hS => ?_)
        try dsimp only at hq
        have hP : va_P (dC, dI) vwCl (W_X9_layFits cI cJ cZ h_m h_m_allowed h_m_fits h_m_top h_m_bottom h_m_desk h_m_letters h_m_acts h_m_thens h_m_may h_m_ways h_m_found h_m_unlike h_m_seen h_m_seenThen h_m_power h_m_square h_m_product h_m_isLive h_m_down h_m_up h_m_ground h_m_met m_colours m_h m_w m_states m_rows m_ends m_steps m_last f_m_allowed f_m_fits (upd f_m_top (l2).toNatClampNeg r3) f_m_bottom) H := hP.sub [3, 4, 0, 1, 2] rfl
        have hD : va_D A (W_X9_layFits cI cJ cZ h_m h_m_allowed h_m_fits h_m_top h_m_bottom h_m_desk h_m_letters h_m_acts h_m_thens h_m_may h_m_ways h_m_found h_m_unlike h_m_seen h_m_seenThen h_m_power h_m_square h_m_product h_m_isLive h_m_down h_m_up h_m_ground h_m_met m_colours m_h m_w m_states m_rows m_ends m_steps m_last f_m_allowed f_m_fits (upd f_m_top (l2).toNatClampNeg r3) f_m_bottom) := hD.sub [3, 4, 0, 1, 2] (by decide) rfl
        obtain ⟨hv7, hq⟩ := hq
        obtain ⟨hb8, hq⟩ := hq
        refine va_zast hx hb hK hP hD hS 4 2 rfl rfl hv7 dX9_layFits_44 (fun H locs hP hD hS => ?_)
        rw [gx_nar hb8] at hP hD
        have hP : va_P (dC, dI) vwCl (W_X9_layFits cI cJ cZ h_m h_m_allowed h_m_fits h_m_top h_m_bottom h_m_desk h_m_letters h_m_acts h_m_thens h_m_may h_m_ways h_m_found h_m_unlike h_m_seen h_m_seenThen h_m_power h_m_square h_m_product h_m_isLive h_m_down h_m_up h_m_ground h_m_met m_colours m_h m_w m_states m_rows m_ends m_steps m_last f_m_allowed f_m_fits (upd f_m_top (l2).toNatClampNeg r3) (upd f_m_bottom (l2).toNatClampNeg r6)) H := hP
        have hD : va_D A (W_X9_layFits cI cJ cZ h_m h_m_allowed h_m_fits h_m_top h_m_bottom h_m_desk h_m_letters h_m_acts h_m_thens h_m_may h_m_ways h_m_found h_m_unlike h_m_seen h_m_seenThen h_m_power h_m_square h_m_product h_m_isLive h_m_down h_m_up h_m_ground h_m_met m_colours m_h m_w m_states m_rows m_ends m_steps m_last f_m_allowed f_m_fits (upd f_m_top (l2).toNatClampNeg r3) (upd f_m_bottom (l2).toNatClampNeg r6)) := hD
        refine lv_iconst (v := (0 : Int32)) hx hb dX9_layFits_45 (by decide) ?_
        refine lv_istore_n (lv' := [(3, .int (0 : Int32)), (0, .ref h_m), (1, .int l1), (2, .int l2)]) hx hb dX9_layFits_46 rfl hl (by decide) rfl (fun ls hl => ?_)
        exact (C47 _ _ _ ih) _ _ _ _ _ hq _ _ hP hD hS _ (lv_sub hl [1, 2, 3, 0] rfl)
  have C11 : ∀ (l1 : Int32) (l2 : Int32) (m_rows : Int32) (f_m_fits : Nat → Int32) (f_m_top : Nat → Int32) (f_m_bottom : Nat → Int32), q_X9_layFits_11 m_colours f_m_allowed post l1 l2 m_rows f_m_fits f_m_top f_m_bottom → ∀ (H : Heap) (locs : List Loc), va_P (dC, dI) vwCl (W_X9_layFits cI cJ cZ h_m h_m_allowed h_m_fits h_m_top h_m_bottom h_m_desk h_m_letters h_m_acts h_m_thens h_m_may h_m_ways h_m_found h_m_unlike h_m_seen h_m_seenThen h_m_power h_m_square h_m_product h_m_isLive h_m_down h_m_up h_m_ground h_m_met m_colours m_h m_w m_states m_rows m_ends m_steps m_last f_m_allowed f_m_fits f_m_top f_m_bottom) H → va_D A (W_X9_layFits cI cJ cZ h_m h_m_allowed h_m_fits h_m_top h_m_bottom h_m_desk h_m_letters h_m_acts h_m_thens h_m_may h_m_ways h_m_found h_m_unlike h_m_seen h_m_seenThen h_m_power h_m_square h_m_product h_m_isLive h_m_down h_m_up h_m_ground h_m_met m_colours m_h m_w m_states m_rows m_ends m_steps m_last f_m_allowed f_m_fits f_m_top f_m_bottom) → va_S A s.heap H locs → ∀ ls : Array Slot, lv_has ls 4 [(0, .ref h_m), (1, .int l1), (2, .int l2)] → W p l e rm_X9_layFits s m args below meth c H locs 0 0 QQ (F0 m 11 ls []) := by
    intro l1 l2 m_rows f_m_fits f_m_top f_m_bottom hq H locs hP hD hS ls hl
    obtain ⟨n, hq⟩ := hq
    exact L11 _ _ n _ _ _ _ hq H locs hP hD hS ls hl
  unfold q_X9_layFits at hq
  refine lv_aload_n hx hb dX9_layFits_0 rfl (lv_at hl 0 rfl) ?_
  refine lv_aload_n hx hb dX9_layFits_1 rfl (lv_at hl 0 rfl) ?_
  refine lv_iload_n hx hb dX9_layFits_2 rfl (lv_at hl 1 rfl) ?_
  refine gx_cVi (C := RX9) (As := [.int l1]) (rest := [.ref h_m]) ⟨hx, hb, hml, hown, hts⟩ (c_X9_rowsOf l dC dI cI cJ cZ h_m h_m_allowed h_m_desk h_m_letters h_m_acts h_m_thens h_m_fits h_m_top h_m_bottom h_m_may h_m_ways h_m_found h_m_unlike h_m_seen h_m_seenThen h_m_power h_m_square h_m_product h_m_isLive h_m_down h_m_up h_m_ground h_m_met s.heap.size m_colours m_h m_w m_states m_rows m_ends m_steps m_last l1 hq) (cwV 1 hts gX9_layFits_X9_rowsOf rfl rfl rfl hdV_X9_rowsOf ⟨Nat.le_of_ble_eq_true rfl, Nat.le_of_ble_eq_true rfl⟩) hK hP hD hS hA [0] [1, 2, 3, 4] rfl rfl rfl rfl rfl (ci := 9) (q0 := 0) rfl rfl rfl rfl hl.1 (Nat.le_of_ble_eq_true rfl) dX9_layFits_3 rfl (fun r1 u H locs hq hP hD hS => ?_)
  try dsimp only at hq
  have hP : va_P (dC, dI) vwCl (W_X9_layFits cI cJ cZ h_m h_m_allowed h_m_fits h_m_top h_m_bottom h_m_desk h_m_letters h_m_acts h_m_thens h_m_may h_m_ways h_m_found h_m_unlike h_m_seen h_m_seenThen h_m_power h_m_square h_m_product h_m_isLive h_m_down h_m_up h_m_ground h_m_met m_colours m_h m_w m_states m_rows m_ends m_steps m_last f_m_allowed f_m_fits f_m_top f_m_bottom) H := hP.sub [4, 0, 1, 2, 3] rfl
  have hD : va_D A (W_X9_layFits cI cJ cZ h_m h_m_allowed h_m_fits h_m_top h_m_bottom h_m_desk h_m_letters h_m_acts h_m_thens h_m_may h_m_ways h_m_found h_m_unlike h_m_seen h_m_seenThen h_m_power h_m_square h_m_product h_m_isLive h_m_down h_m_up h_m_ground h_m_met m_colours m_h m_w m_states m_rows m_ends m_steps m_last f_m_allowed f_m_fits f_m_top f_m_bottom) := hD.sub [4, 0, 1, 2, 3] (by decide) rfl
  refine va_put (D := (dC, dI)) (ci := 9) (v := .int r1) (ty := tyX9 12) (C := RX9) (T := TX9) (N := 30) hx hb hts hinX9 tyX9 tyX9_ok nmX9 hown hK hP hD hS 0 rfl rfl 12 (by decide) hf153 (fun _ h9 => h9) rfl (tyX9_ok 12 (by decide)) rfl rfl (Nat.le_of_ble_eq_true rfl) dX9_layFits_6 (fun H locs hP hD hS => ?_)
  have hP : va_P (dC, dI) vwCl (W_X9_layFits cI cJ cZ h_m h_m_allowed h_m_fits h_m_top h_m_bottom h_m_desk h_m_letters h_m_acts h_m_thens h_m_may h_m_ways h_m_found h_m_unlike h_m_seen h_m_seenThen h_m_power h_m_square h_m_product h_m_isLive h_m_down h_m_up h_m_ground h_m_met m_colours m_h m_w m_states r1 m_ends m_steps m_last f_m_allowed f_m_fits f_m_top f_m_bottom) H := hP
  have hD : va_D A (W_X9_layFits cI cJ cZ h_m h_m_allowed h_m_fits h_m_top h_m_bottom h_m_desk h_m_letters h_m_acts h_m_thens h_m_may h_m_ways h_m_found h_m_unlike h_m_seen h_m_seenThen h_m_power h_m_square h_m_product h_m_isLive h_m_down h_m_up h_m_ground h_m_met m_colours m_h m_w m_states r1 m_ends m_steps m_last f_m_allowed f_m_fits f_m_top f_m_bottom) := hD
  refine lv_iconst (v := (0 : Int32)) hx hb dX9_layFits_9 (by decide) ?_
  refine lv_istore_n (lv' := [(2, .int (0 : Int32)), (0, .ref h_m), (1, .int l1)]) hx hb dX9_layFits_10 rfl hl (by decide) rfl (fun ls hl => ?_)
  exact C11 _ _ _ _ _ _ hq _ _ hP hD hS _ (lv_sub hl [1, 2, 0] rfl)

abbrev W_X9_capped (cI cJ cZ : ClassId)  : va_W := []
abbrev rm_X9_capped : Room := { frames := 0, cells := 0, slots := 0, locals := 0 }
def q_X9_capped (l0 : Int64) (post : Int64 → Prop) : Prop := ((l0 ≤ (1000000001 : Int64) → (post l0)) ∧ (¬ l0 ≤ (1000000001 : Int64) → (post (1000000001 : Int64))))
theorem hdS_X9_capped : yX9_capped.cls ≠ "java/lang/invoke/MethodHandle" ∧ yX9_capped.cls ≠ "java/lang/invoke/VarHandle" ∧ (parseMethodDescriptor yX9_capped.desc).map (fun d => d.parameters.length) = some 1 := by decide +kernel
set_option maxHeartbeats 4000000 in
set_option maxRecDepth 100000 in
theorem c_X9_capped (l : Launch) (dC : Nat → ClassId) (dI : Nat → Nat → Nat) (cI cJ cZ : ClassId) (sz : Nat)  (l0 : Int64) {post : Int64 → Prop} (hq : q_X9_capped l0 post) : Met l yX9_capped wsX9_capped rm_X9_capped (va_Pc [.long l0] (gx_Pre (dC, dI) vwCl (gx_tys cI cJ cZ) sz (W_X9_capped cI cJ cZ))) (va_Ql (fun (r : Int64) (u : Unit) => post r) (gx_B (dC, dI) vwCl (gx_tys cI cJ cZ) (va_A (W_X9_capped cI cJ cZ) sz) (fun (u : Unit) => (W_X9_capped cI cJ cZ))) (va_A (W_X9_capped cI cJ cZ) sz)) 0 0 (va_A (W_X9_capped cI cJ cZ) sz) := by
  refine gx_l (cc := cX9_capped) (maxL := 2) (by decide) rfl (Nat.le_of_ble_eq_true rfl) ?_
  intro p e s m args below meth c A QQ hx hb hml hown hts hA hP hK hD hret ls hl
  have hown : s.vm.findClass RX9 = some m.cls := hown
  have hcl160 := hts (.constantLong RX9 160 (1000000001)) (by decide +kernel)
  have hS : va_S A s.heap s.heap [] := va_S.rf
  have hl : lv_has ls 2 [(0, .long l0)] := hl
  unfold q_X9_capped at hq
  refine lv_lload_n hx hb dX9_capped_0 rfl (lv_at hl 0 rfl) ?_
  refine lv_ldc2 hx hb hown hcl160 dX9_capped_1 ?_
  refine W.lcmp hx hb dX9_capped_4 ?_
  refine lv_if_le (tgt := 14) hx hb dX9_capped_5 (by decide) (fun c1 => ?_) (fun c1 => ?_)
  · replace hq := hq.1 ((lg_cmp_le _ _).mp c1)
    refine lv_lload_n hx hb dX9_capped_14 rfl (lv_at hl 0 rfl) ?_
    exact hret l0 () hq _ _ hP hD hS _ _ dX9_capped_15
  · replace hq := hq.2 (fun h => c1 ((lg_cmp_le _ _).mpr h))
    refine lv_ldc2 hx hb hown hcl160 dX9_capped_8 ?_
    refine lv_goto (tgt := 15) hx hb dX9_capped_11 (by decide) ?_
    exact hret (1000000001 : Int64) () hq _ _ hP hD hS _ _ dX9_capped_15

abbrev W_X9_layWays (cI cJ cZ : ClassId) (h_m h_m_fits h_m_top h_m_bottom h_m_may h_m_ways h_m_allowed h_m_desk h_m_letters h_m_acts h_m_thens h_m_found h_m_unlike h_m_seen h_m_seenThen h_m_power h_m_square h_m_product h_m_isLive h_m_down h_m_up h_m_ground h_m_met : Nat) (m_colours : Int32) (m_h : Int32) (m_w : Int32) (m_states : Int32) (m_rows : Int32) (m_ends : Int32) (m_steps : Int32) (m_last : Int32) (f_m_fits : Nat → Int32) (f_m_top : Nat → Int32) (f_m_bottom : Nat → Int32) (f_m_may : Nat → Int32) (f_m_ways : Nat → Int64) : va_W := [(h_m, .inr (9, [.int m_colours, .ref h_m_allowed, .int m_h, .int m_w, .ref h_m_desk, .ref h_m_letters, .int m_states, .ref h_m_acts, .ref h_m_thens, .ref h_m_fits, .ref h_m_top, .ref h_m_bottom, .int m_rows, .ref h_m_may, .ref h_m_ways, .ref h_m_found, .ref h_m_unlike, .ref h_m_seen, .ref h_m_seenThen, .ref h_m_power, .ref h_m_square, .ref h_m_product, .ref h_m_isLive, .ref h_m_down, .ref h_m_up, .ref h_m_ground, .ref h_m_met, .int m_ends, .int m_steps, .int m_last])), (h_m_fits, .inl (cZ, 59049, .inl f_m_fits)), (h_m_top, .inl (cZ, 243, .inl f_m_top)), (h_m_bottom, .inl (cZ, 243, .inl f_m_bottom)), (h_m_may, .inl (cZ, 1215, .inl f_m_may)), (h_m_ways, .inl (cJ, 1215, .inr (.inl f_m_ways)))]
abbrev rm_X9_layWays : Room := { frames := 1, cells := 0, slots := 0, locals := 21 }
def q_X9_layWays_128 (m_rows : Int32) (f_m_fits : Nat → Int32) (f_m_top : Nat → Int32) (f_m_bottom : Nat → Int32) (f_m_may : Nat → Int32) (l1 : Int32) (l2 : Int32) (post : Int64 → (Nat → Int64) → Prop) (K148 : (Int32) → (Nat → Int64) → Prop) (K10 : (Int32) → (Nat → Int64) → Prop) (l3 : Int32) (l4 : Int64) (f_m_ways : Nat → Int64) : Prop := (vp_in (((243 : Int32) * l2) + l3) 1215 ∧ (K10 (l3 + (1 : Int32)) (vp_updL f_m_ways ((((243 : Int32) * l2) + l3)).toNatClampNeg l4)))
def r_X9_layWays_62 (m_rows : Int32) (f_m_fits : Nat → Int32) (f_m_top : Nat → Int32) (f_m_bottom : Nat → Int32) (f_m_may : Nat → Int32) (l1 : Int32) (l2 : Int32) (post : Int64 → (Nat → Int64) → Prop) (K128 : (Int32) → (Int64) → (Nat → Int64) → Prop) (l3 : Int32) (f_m_ways : Nat → Int64) : Nat → (Int64) → (Int32) → Prop
  | 0, _, _ => False
  | n + 1, l4, l6 => (((l1 - (1 : Int32)) ≤ l2 → (K128 l3 l4 f_m_ways)) ∧ (¬ (l1 - (1 : Int32)) ≤ l2 → ((m_rows ≤ l6 → (K128 l3 l4 f_m_ways)) ∧ (¬ m_rows ≤ l6 → (vp_in (((243 : Int32) * l3) + l6) 59049 ∧ (((f_m_fits ((((243 : Int32) * l3) + l6)).toNatClampNeg) = 0 → ((r_X9_layWays_62 m_rows f_m_fits f_m_top f_m_bottom f_m_may l1 l2 post K128 l3 f_m_ways n) l4 (l6 + (1 : Int32)))) ∧ (¬ (f_m_fits ((((243 : Int32) * l3) + l6)).toNatClampNeg) = 0 → (vp_in (((243 : Int32) * (l2 + (1 : Int32))) + l6) 1215 ∧ (q_X9_capped (l4 + (f_m_ways ((((243 : Int32) * (l2 + (1 : Int32))) + l6)).toNatClampNeg)) (fun (r12 : Int64) => ((r_X9_layWays_62 m_rows f_m_fits f_m_top f_m_bottom f_m_may l1 l2 post K128 l3 f_m_ways n) r12 (l6 + (1 : Int32)))))))))))))
def q_X9_layWays_62 (m_rows : Int32) (f_m_fits : Nat → Int32) (f_m_top : Nat → Int32) (f_m_bottom : Nat → Int32) (f_m_may : Nat → Int32) (l1 : Int32) (l2 : Int32) (post : Int64 → (Nat → Int64) → Prop) (K148 : (Int32) → (Nat → Int64) → Prop) (K10 : (Int32) → (Nat → Int64) → Prop) (l3 : Int32) (l4 : Int64) (l6 : Int32) (f_m_ways : Nat → Int64) : Prop := ∃ n, r_X9_layWays_62 m_rows f_m_fits f_m_top f_m_bottom f_m_may l1 l2 post (q_X9_layWays_128 m_rows f_m_fits f_m_top f_m_bottom f_m_may l1 l2 post K148 K10) l3 f_m_ways n l4 l6
def r_X9_layWays_10 (m_rows : Int32) (f_m_fits : Nat → Int32) (f_m_top : Nat → Int32) (f_m_bottom : Nat → Int32) (f_m_may : Nat → Int32) (l1 : Int32) (post : Int64 → (Nat → Int64) → Prop) (K148 : (Int32) → (Nat → Int64) → Prop) (l2 : Int32) : Nat → (Int32) → (Nat → Int64) → Prop
  | 0, _, _ => False
  | n + 1, l3, f_m_ways => ((m_rows ≤ l3 → (K148 l2 f_m_ways)) ∧ (¬ m_rows ≤ l3 → (vp_in (((243 : Int32) * l2) + l3) 1215 ∧ (((f_m_may ((((243 : Int32) * l2) + l3)).toNatClampNeg) = 0 → ((q_X9_layWays_128 m_rows f_m_fits f_m_top f_m_bottom f_m_may l1 l2 post K148 (r_X9_layWays_10 m_rows f_m_fits f_m_top f_m_bottom f_m_may l1 post K148 l2 n)) l3 (0 : Int64) f_m_ways)) ∧ (¬ (f_m_may ((((243 : Int32) * l2) + l3)).toNatClampNeg) = 0 → ((¬ l2 = (l1 - (1 : Int32)) → ((q_X9_layWays_62 m_rows f_m_fits f_m_top f_m_bottom f_m_may l1 l2 post K148 (r_X9_layWays_10 m_rows f_m_fits f_m_top f_m_bottom f_m_may l1 post K148 l2 n)) l3 (0 : Int64) (0 : Int32) f_m_ways)) ∧ (l2 = (l1 - (1 : Int32)) → (vp_in l3 243 ∧ (((f_m_bottom (l3).toNatClampNeg) = 0 → ((q_X9_layWays_62 m_rows f_m_fits f_m_top f_m_bottom f_m_may l1 l2 post K148 (r_X9_layWays_10 m_rows f_m_fits f_m_top f_m_bottom f_m_may l1 post K148 l2 n)) l3 (0 : Int64) (0 : Int32) f_m_ways)) ∧ (¬ (f_m_bottom (l3).toNatClampNeg) = 0 → ((q_X9_layWays_62 m_rows f_m_fits f_m_top f_m_bottom f_m_may l1 l2 post K148 (r_X9_layWays_10 m_rows f_m_fits f_m_top f_m_bottom f_m_may l1 post K148 l2 n)) l3 (1 : Int64) (0 : Int32) f_m_ways)))))))))))
def q_X9_layWays_148 (m_rows : Int32) (f_m_fits : Nat → Int32) (f_m_top : Nat → Int32) (f_m_bottom : Nat → Int32) (f_m_may : Nat → Int32) (l1 : Int32) (post : Int64 → (Nat → Int64) → Prop) (K154 : (Nat → Int64) → Prop) (K4 : (Int32) → (Nat → Int64) → Prop) (l2 : Int32) (f_m_ways : Nat → Int64) : Prop := (K4 (l2 + (-1 : Int32)) f_m_ways)
def q_X9_layWays_10 (m_rows : Int32) (f_m_fits : Nat → Int32) (f_m_top : Nat → Int32) (f_m_bottom : Nat → Int32) (f_m_may : Nat → Int32) (l1 : Int32) (post : Int64 → (Nat → Int64) → Prop) (K154 : (Nat → Int64) → Prop) (K4 : (Int32) → (Nat → Int64) → Prop) (l2 : Int32) (l3 : Int32) (f_m_ways : Nat → Int64) : Prop := ∃ n, r_X9_layWays_10 m_rows f_m_fits f_m_top f_m_bottom f_m_may l1 post (q_X9_layWays_148 m_rows f_m_fits f_m_top f_m_bottom f_m_may l1 post K154 K4) l2 n l3 f_m_ways
def r_X9_layWays_4 (m_rows : Int32) (f_m_fits : Nat → Int32) (f_m_top : Nat → Int32) (f_m_bottom : Nat → Int32) (f_m_may : Nat → Int32) (post : Int64 → (Nat → Int64) → Prop) (K154 : (Nat → Int64) → Prop) (l1 : Int32) : Nat → (Int32) → (Nat → Int64) → Prop
  | 0, _, _ => False
  | n + 1, l2, f_m_ways => ((l2 < 0 → (K154 f_m_ways)) ∧ (¬ l2 < 0 → ((q_X9_layWays_10 m_rows f_m_fits f_m_top f_m_bottom f_m_may l1 post K154 (r_X9_layWays_4 m_rows f_m_fits f_m_top f_m_bottom f_m_may post K154 l1 n)) l2 (0 : Int32) f_m_ways)))
def r_X9_layWays_159 (m_rows : Int32) (f_m_fits : Nat → Int32) (f_m_top : Nat → Int32) (f_m_bottom : Nat → Int32) (f_m_may : Nat → Int32) (post : Int64 → (Nat → Int64) → Prop) (f_m_ways : Nat → Int64) : Nat → (Int64) → (Int32) → Prop
  | 0, _, _ => False
  | n + 1, l2, l4 => ((m_rows ≤ l4 → (post l2 f_m_ways)) ∧ (¬ m_rows ≤ l4 → (vp_in l4 243 ∧ (((f_m_top (l4).toNatClampNeg) = 0 → ((r_X9_layWays_159 m_rows f_m_fits f_m_top f_m_bottom f_m_may post f_m_ways n) l2 (l4 + (1 : Int32)))) ∧ (¬ (f_m_top (l4).toNatClampNeg) = 0 → (vp_in l4 1215 ∧ (q_X9_capped (l2 + (f_m_ways (l4).toNatClampNeg)) (fun (r19 : Int64) => ((r_X9_layWays_159 m_rows f_m_fits f_m_top f_m_bottom f_m_may post f_m_ways n) r19 (l4 + (1 : Int32)))))))))))
def q_X9_layWays_159 (m_rows : Int32) (f_m_fits : Nat → Int32) (f_m_top : Nat → Int32) (f_m_bottom : Nat → Int32) (f_m_may : Nat → Int32) (post : Int64 → (Nat → Int64) → Prop) (l2 : Int64) (l4 : Int32) (f_m_ways : Nat → Int64) : Prop := ∃ n, r_X9_layWays_159 m_rows f_m_fits f_m_top f_m_bottom f_m_may post f_m_ways n l2 l4
def q_X9_layWays_154 (m_rows : Int32) (f_m_fits : Nat → Int32) (f_m_top : Nat → Int32) (f_m_bottom : Nat → Int32) (f_m_may : Nat → Int32) (post : Int64 → (Nat → Int64) → Prop) (f_m_ways : Nat → Int64) : Prop := ((q_X9_layWays_159 m_rows f_m_fits f_m_top f_m_bottom f_m_may post) (0 : Int64) (0 : Int32) f_m_ways)
def q_X9_layWays_4 (m_rows : Int32) (f_m_fits : Nat → Int32) (f_m_top : Nat → Int32) (f_m_bottom : Nat → Int32) (f_m_may : Nat → Int32) (post : Int64 → (Nat → Int64) → Prop) (l1 : Int32) (l2 : Int32) (f_m_ways : Nat → Int64) : Prop := ∃ n, r_X9_layWays_4 m_rows f_m_fits f_m_top f_m_bottom f_m_may post (q_X9_layWays_154 m_rows f_m_fits f_m_top f_m_bottom f_m_may post) l1 n l2 f_m_ways
def q_X9_layWays (m_rows : Int32) (f_m_fits : Nat → Int32) (f_m_top : Nat → Int32) (f_m_bottom : Nat → Int32) (f_m_may : Nat → Int32) (f_m_ways : Nat → Int64) (l1 : Int32) (post : Int64 → (Nat → Int64) → Prop) : Prop := ((q_X9_layWays_4 m_rows f_m_fits f_m_top f_m_bottom f_m_may post) l1 (l1 - (1 : Int32)) f_m_ways)
theorem hdV_X9_layWays : yX9_layWays.cls = RX9 ∧ yX9_layWays.cls ≠ "java/lang/invoke/MethodHandle" ∧ yX9_layWays.cls ≠ "java/lang/invoke/VarHandle" ∧ (parseMethodDescriptor yX9_layWays.desc).map (fun d => d.parameters.length) = some 1 := by decide +kernel
set_option maxHeartbeats 4000000 in
set_option maxRecDepth 100000 in
theorem c_X9_layWays (l : Launch) (dC : Nat → ClassId) (dI : Nat → Nat → Nat) (cI cJ cZ : ClassId) (h_m h_m_fits h_m_top h_m_bottom h_m_may h_m_ways h_m_allowed h_m_desk h_m_letters h_m_acts h_m_thens h_m_found h_m_unlike h_m_seen h_m_seenThen h_m_power h_m_square h_m_product h_m_isLive h_m_down h_m_up h_m_ground h_m_met : Nat) (sz : Nat) (m_colours : Int32) (m_h : Int32) (m_w : Int32) (m_states : Int32) (m_rows : Int32) (m_ends : Int32) (m_steps : Int32) (m_last : Int32) (f_m_fits : Nat → Int32) (f_m_top : Nat → Int32) (f_m_bottom : Nat → Int32) (f_m_may : Nat → Int32) (f_m_ways : Nat → Int64) (l1 : Int32) {post : Int64 → (Nat → Int64) → Prop} (hq : q_X9_layWays m_rows f_m_fits f_m_top f_m_bottom f_m_may f_m_ways l1 post) : Met l yX9_layWays wsX9_layWays rm_X9_layWays (va_Pc [.ref h_m, .int l1] (gx_Pre (dC, dI) vwCl (gx_tys cI cJ cZ) sz (W_X9_layWays cI cJ cZ h_m h_m_fits h_m_top h_m_bottom h_m_may h_m_ways h_m_allowed h_m_desk h_m_letters h_m_acts h_m_thens h_m_found h_m_unlike h_m_seen h_m_seenThen h_m_power h_m_square h_m_product h_m_isLive h_m_down h_m_up h_m_ground h_m_met m_colours m_h m_w m_states m_rows m_ends m_steps m_last f_m_fits f_m_top f_m_bottom f_m_may f_m_ways))) (va_Ql (fun (r : Int64) (u : (Nat → Int64)) => post r u) (gx_B (dC, dI) vwCl (gx_tys cI cJ cZ) (va_A (W_X9_layWays cI cJ cZ h_m h_m_fits h_m_top h_m_bottom h_m_may h_m_ways h_m_allowed h_m_desk h_m_letters h_m_acts h_m_thens h_m_found h_m_unlike h_m_seen h_m_seenThen h_m_power h_m_square h_m_product h_m_isLive h_m_down h_m_up h_m_ground h_m_met m_colours m_h m_w m_states m_rows m_ends m_steps m_last f_m_fits f_m_top f_m_bottom f_m_may f_m_ways) sz) (fun (u : (Nat → Int64)) => (W_X9_layWays cI cJ cZ h_m h_m_fits h_m_top h_m_bottom h_m_may h_m_ways h_m_allowed h_m_desk h_m_letters h_m_acts h_m_thens h_m_found h_m_unlike h_m_seen h_m_seenThen h_m_power h_m_square h_m_product h_m_isLive h_m_down h_m_up h_m_ground h_m_met m_colours m_h m_w m_states m_rows m_ends m_steps m_last f_m_fits f_m_top f_m_bottom f_m_may u))) (va_A (W_X9_layWays cI cJ cZ h_m h_m_fits h_m_top h_m_bottom h_m_may h_m_ways h_m_allowed h_m_desk h_m_letters h_m_acts h_m_thens h_m_found h_m_unlike h_m_seen h_m_seenThen h_m_power h_m_square h_m_product h_m_isLive h_m_down h_m_up h_m_ground h_m_met m_colours m_h m_w m_states m_rows m_ends m_steps m_last f_m_fits f_m_top f_m_bottom f_m_may f_m_ways) sz)) 0 0 (va_A (W_X9_layWays cI cJ cZ h_m h_m_fits h_m_top h_m_bottom h_m_may h_m_ways h_m_allowed h_m_desk h_m_letters h_m_acts h_m_thens h_m_found h_m_unlike h_m_seen h_m_seenThen h_m_power h_m_square h_m_product h_m_isLive h_m_down h_m_up h_m_ground h_m_met m_colours m_h m_w m_states m_rows m_ends m_steps m_last f_m_fits f_m_top f_m_bottom f_m_may f_m_ways) sz) := by
  refine gx_l (cc := cX9_layWays) (maxL := 7) (by decide) rfl (Nat.le_of_ble_eq_true rfl) ?_
  intro p e s m args below meth c A QQ hx hb hml hown hts hA hP hK hD hret ls hl
  have hown : s.vm.findClass RX9 = some m.cls := hown
  have hf153 := hts (.fieldLink RX9 153 "SmallWindowsModel" "rows" "I") (by decide +kernel)
  have hf49 := hts (.fieldLink RX9 49 "SmallWindowsModel" "may" "[Z") (by decide +kernel)
  have hf52 := hts (.fieldLink RX9 52 "SmallWindowsModel" "ways" "[J") (by decide +kernel)
  have hf40 := hts (.fieldLink RX9 40 "SmallWindowsModel" "fits" "[Z") (by decide +kernel)
  have hf46 := hts (.fieldLink RX9 46 "SmallWindowsModel" "bottom" "[Z") (by decide +kernel)
  have hf43 := hts (.fieldLink RX9 43 "SmallWindowsModel" "top" "[Z") (by decide +kernel)
  have hinX9 : ∀ w ∈ u_ws RX9 TX9 30, w ∈ wsX9_layWays := fun w h => List.mem_cons_of_mem _ ((List.mem_append_right _ h))
  have hS : va_S A s.heap s.heap [] := va_S.rf
  have hl : lv_has ls 7 [(0, .ref h_m), (1, .int l1)] := hl
  have C128 : ∀ (l1 : Int32) (l2 : Int32) (K148 : (Int32) → (Nat → Int64) → Prop) (hK148 : (∀ (l2 : Int32) (f_m_ways : Nat → Int64), K148 l2 f_m_ways → ∀ (H : Heap) (locs : List Loc), va_P (dC, dI) vwCl (W_X9_layWays cI cJ cZ h_m h_m_fits h_m_top h_m_bottom h_m_may h_m_ways h_m_allowed h_m_desk h_m_letters h_m_acts h_m_thens h_m_found h_m_unlike h_m_seen h_m_seenThen h_m_power h_m_square h_m_product h_m_isLive h_m_down h_m_up h_m_ground h_m_met m_colours m_h m_w m_states m_rows m_ends m_steps m_last f_m_fits f_m_top f_m_bottom f_m_may f_m_ways) H → va_D A (W_X9_layWays cI cJ cZ h_m h_m_fits h_m_top h_m_bottom h_m_may h_m_ways h_m_allowed h_m_desk h_m_letters h_m_acts h_m_thens h_m_found h_m_unlike h_m_seen h_m_seenThen h_m_power h_m_square h_m_product h_m_isLive h_m_down h_m_up h_m_ground h_m_met m_colours m_h m_w m_states m_rows m_ends m_steps m_last f_m_fits f_m_top f_m_bottom f_m_may f_m_ways) → va_S A s.heap H locs → ∀ ls : Array Slot, lv_has ls 7 [(0, .ref h_m), (1, .int l1), (2, .int l2)] → W p l e rm_X9_layWays s m args below meth c H locs 0 0 QQ (F0 m 148 ls []))) (K10 : (Int32) → (Nat → Int64) → Prop) (hK10 : (∀ (l3 : Int32) (f_m_ways : Nat → Int64), K10 l3 f_m_ways → ∀ (H : Heap) (locs : List Loc), va_P (dC, dI) vwCl (W_X9_layWays cI cJ cZ h_m h_m_fits h_m_top h_m_bottom h_m_may h_m_ways h_m_allowed h_m_desk h_m_letters h_m_acts h_m_thens h_m_found h_m_unlike h_m_seen h_m_seenThen h_m_power h_m_square h_m_product h_m_isLive h_m_down h_m_up h_m_ground h_m_met m_colours m_h m_w m_states m_rows m_ends m_steps m_last f_m_fits f_m_top f_m_bottom f_m_may f_m_ways) H → va_D A (W_X9_layWays cI cJ cZ h_m h_m_fits h_m_top h_m_bottom h_m_may h_m_ways h_m_allowed h_m_desk h_m_letters h_m_acts h_m_thens h_m_found h_m_unlike h_m_seen h_m_seenThen h_m_power h_m_square h_m_product h_m_isLive h_m_down h_m_up h_m_ground h_m_met m_colours m_h m_w m_states m_rows m_ends m_steps m_last f_m_fits f_m_top f_m_bottom f_m_may f_m_ways) → va_S A s.heap H locs → ∀ ls : Array Slot, lv_has ls 7 [(0, .ref h_m), (1, .int l1), (2, .int l2), (3, .int l3)] → W p l e rm_X9_layWays s m args below meth c H locs 0 0 QQ (F0 m 10 ls []))) (l3 : Int32) (l4 : Int64) (f_m_ways : Nat → Int64), q_X9_layWays_128 m_rows f_m_fits f_m_top f_m_bottom f_m_may l1 l2 post K148 K10 l3 l4 f_m_ways → ∀ (H : Heap) (locs : List Loc), va_P (dC, dI) vwCl (W_X9_layWays cI cJ cZ h_m h_m_fits h_m_top h_m_bottom h_m_may h_m_ways h_m_allowed h_m_desk h_m_letters h_m_acts h_m_thens h_m_found h_m_unlike h_m_seen h_m_seenThen h_m_power h_m_square h_m_product h_m_isLive h_m_down h_m_up h_m_ground h_m_met m_colours m_h m_w m_states m_rows m_ends m_steps m_last f_m_fits f_m_top f_m_bottom f_m_may f_m_ways) H → va_D A (W_X9_layWays cI cJ cZ h_m h_m_fits h_m_top h_m_bottom h_m_may h_m_ways h_m_allowed h_m_desk h_m_letters h_m_acts h_m_thens h_m_found h_m_unlike h_m_seen h_m_seenThen h_m_power h_m_square h_m_product h_m_isLive h_m_down h_m_up h_m_ground h_m_met m_colours m_h m_w m_states m_rows m_ends m_steps m_last f_m_fits f_m_top f_m_bottom f_m_may f_m_ways) → va_S A s.heap H locs → ∀ ls : Array Slot, lv_has ls 7 [(0, .ref h_m), (1, .int l1), (2, .int l2), (3, .int l3), (4, .long l4)] → W p l e rm_X9_layWays s m args below meth c H locs 0 0 QQ (F0 m 128 ls []) := by
    intro l1 l2 K148 hK148 K10 hK10 l3 l4 f_m_ways hq H locs hP hD hS ls hl
    unfold q_X9_layWays_128 at hq
    refine lv_aload_n hx hb dX9_layWays_128 rfl (lv_at hl 0 rfl) ?_
    refine va_get (D := (dC, dI)) (ci := 9) (v := .ref h_m_ways) (C := RX9) (T := TX9) (N := 30) hx hb hts hinX9 hown hK hP 0 rfl rfl 14 (by decide) hf52 (fun _ h9 => h9) rfl dX9_layWays_129 ?_
    refine lv_sipush (v := (243 : Int32)) hx hb dX9_layWays_132 (by decide) ?_
    refine lv_iload_n hx hb dX9_layWays_135 rfl (lv_at hl 2 rfl) ?_
    refine lv_imul hx hb dX9_layWays_136 ?_
    refine lv_iload_n hx hb dX9_layWays_137 rfl (lv_at hl 3 rfl) ?_
    refine lv_iadd hx hb dX9_layWays_138 ?_
    refine lv_lload hx hb dX9_layWays_139 (lv_at hl 4 rfl) ?_
    obtain ⟨hv5, hq⟩ := hq
    refine va_last hx hb hK hP hD hS 5 1 rfl rfl hv5 dX9_layWays_141 (fun H locs hP hD hS => ?_)
    have hP : va_P (dC, dI) vwCl (W_X9_layWays cI cJ cZ h_m h_m_fits h_m_top h_m_bottom h_m_may h_m_ways h_m_allowed h_m_desk h_m_letters h_m_acts h_m_thens h_m_found h_m_unlike h_m_seen h_m_seenThen h_m_power h_m_square h_m_product h_m_isLive h_m_down h_m_up h_m_ground h_m_met m_colours m_h m_w m_states m_rows m_ends m_steps m_last f_m_fits f_m_top f_m_bottom f_m_may (vp_updL f_m_ways ((((243 : Int32) * l2) + l3)).toNatClampNeg l4)) H := hP
    have hD : va_D A (W_X9_layWays cI cJ cZ h_m h_m_fits h_m_top h_m_bottom h_m_may h_m_ways h_m_allowed h_m_desk h_m_letters h_m_acts h_m_thens h_m_found h_m_unlike h_m_seen h_m_seenThen h_m_power h_m_square h_m_product h_m_isLive h_m_down h_m_up h_m_ground h_m_met m_colours m_h m_w m_states m_rows m_ends m_steps m_last f_m_fits f_m_top f_m_bottom f_m_may (vp_updL f_m_ways ((((243 : Int32) * l2) + l3)).toNatClampNeg l4)) := hD
    refine lv_iinc (v := (l3 + (1 : Int32))) (lv' := [(3, .int (l3 + (1 : Int32))), (0, .ref h_m), (1, .int l1), (2, .int l2), (4, .long l4)]) hx hb dX9_layWays_142 hl (k := 3) rfl rfl (by decide) rfl (fun ls hl => ?_)
    refine lv_goto (tgt := 10) hx hb dX9_layWays_145 (by decide) ?_
    exact hK10 _ _ hq _ _ hP hD hS _ (lv_sub hl [1, 2, 3, 0] rfl)
  have L62 : ∀ (l1 : Int32) (l2 : Int32) (K128 : (Int32) → (Int64) → (Nat → Int64) → Prop) (hK128 : (∀ (l3 : Int32) (l4 : Int64) (f_m_ways : Nat → Int64), K128 l3 l4 f_m_ways → ∀ (H : Heap) (locs : List Loc), va_P (dC, dI) vwCl (W_X9_layWays cI cJ cZ h_m h_m_fits h_m_top h_m_bottom h_m_may h_m_ways h_m_allowed h_m_desk h_m_letters h_m_acts h_m_thens h_m_found h_m_unlike h_m_seen h_m_seenThen h_m_power h_m_square h_m_product h_m_isLive h_m_down h_m_up h_m_ground h_m_met m_colours m_h m_w m_states m_rows m_ends m_steps m_last f_m_fits f_m_top f_m_bottom f_m_may f_m_ways) H → va_D A (W_X9_layWays cI cJ cZ h_m h_m_fits h_m_top h_m_bottom h_m_may h_m_ways h_m_allowed h_m_desk h_m_letters h_m_acts h_m_thens h_m_found h_m_unlike h_m_seen h_m_seenThen h_m_power h_m_square h_m_product h_m_isLive h_m_down h_m_up h_m_ground h_m_met m_colours m_h m_w m_states m_rows m_ends m_steps m_last f_m_fits f_m_top f_m_bottom f_m_may f_m_ways) → va_S A s.heap H locs → ∀ ls : Array Slot, lv_has ls 7 [(0, .ref h_m), (1, .int l1), (2, .int l2), (3, .int l3), (4, .long l4)] → W p l e rm_X9_layWays s m args below meth c H locs 0 0 QQ (F0 m 128 ls []))) (l3 : Int32) (f_m_ways : Nat → Int64) (n : Nat) (l4 : Int64) (l6 : Int32), r_X9_layWays_62 m_rows f_m_fits f_m_top f_m_bottom f_m_may l1 l2 post K128 l3 f_m_ways n l4 l6 → ∀ (H : Heap) (locs : List Loc), va_P (dC, dI) vwCl (W_X9_layWays cI cJ cZ h_m h_m_fits h_m_top h_m_bottom h_m_may h_m_ways h_m_allowed h_m_desk h_m_letters h_m_acts h_m_thens h_m_found h_m_unlike h_m_seen h_m_seenThen h_m_power h_m_square h_m_product h_m_isLive h_m_down h_m_up h_m_ground h_m_met m_colours m_h m_w m_states m_rows m_ends m_steps m_last f_m_fits f_m_top f_m_bottom f_m_may f_m_ways) H → va_D A (W_X9_layWays cI cJ cZ h_m h_m_fits h_m_top h_m_bottom h_m_may h_m_ways h_m_allowed h_m_desk h_m_letters h_m_acts h_m_thens h_m_found h_m_unlike h_m_seen h_m_seenThen h_m_power h_m_square h_m_product h_m_isLive h_m_down h_m_up h_m_ground h_m_met m_colours m_h m_w m_states m_rows m_ends m_steps m_last f_m_fits f_m_top f_m_bottom f_m_may f_m_ways) → va_S A s.heap H locs → ∀ ls : Array Slot, lv_has ls 7 [(0, .ref h_m), (1, .int l1), (2, .int l2), (3, .int l3), (4, .long l4), (6, .int l6)] → W p l e rm_X9_layWays s m args below meth c H locs 0 0 QQ (F0 m 62 ls []) := by
    intro l1 l2 K128 hK128 l3 f_m_ways n
    induction n with
    | zero => intro l4 l6 hq; exact False.elim hq
    | succ n ih =>
      intro l4 l6 hq H locs hP hD hS ls hl
      unfold r_X9_layWays_62 at hq
      refine lv_iload_n hx hb dX9_layWays_62 rfl (lv_at hl 2 rfl) ?_
      refine lv_iload_n hx hb dX9_layWays_63 rfl (lv_at hl 1 rfl) ?_
      refine lv_iconst (v := (1 : Int32)) hx hb dX9_layWays_64 (by decide) ?_
      refine lv_isub hx hb dX9_layWays_65 ?_
      refine lv_icmp_ge (tgt := 128) hx hb dX9_layWays_66 (by decide) (fun c7 => ?_) (fun c7 => ?_)
      · replace hq := hq.1 c7
        exact hK128 _ _ _ hq _ _ hP hD hS _ (lv_sub hl [0, 1, 2, 3, 4] rfl)
      · replace hq := hq.2 c7
        refine lv_iload hx hb dX9_layWays_69 (lv_at hl 5 rfl) ?_
        refine lv_aload_n hx hb dX9_layWays_71 rfl (lv_at hl 0 rfl) ?_
        refine va_get (D := (dC, dI)) (ci := 9) (v := .int m_rows) (C := RX9) (T := TX9) (N := 30) hx hb hts hinX9 hown hK hP 0 rfl rfl 12 (by decide) hf153 (fun _ h9 => h9) rfl dX9_layWays_72 ?_
        refine lv_icmp_ge (tgt := 128) hx hb dX9_layWays_75 (by decide) (fun c8 => ?_) (fun c8 => ?_)
        · replace hq := hq.1 c8
          exact hK128 _ _ _ hq _ _ hP hD hS _ (lv_sub hl [0, 1, 2, 3, 4] rfl)
        · replace hq := hq.2 c8
          refine lv_aload_n hx hb dX9_layWays_78 rfl (lv_at hl 0 rfl) ?_
          refine va_get (D := (dC, dI)) (ci := 9) (v := .ref h_m_fits) (C := RX9) (T := TX9) (N := 30) hx hb hts hinX9 hown hK hP 0 rfl rfl 9 (by decide) hf40 (fun _ h9 => h9) rfl dX9_layWays_79 ?_
          refine lv_sipush (v := (243 : Int32)) hx hb dX9_layWays_82 (by decide) ?_
          refine lv_iload_n hx hb dX9_layWays_85 rfl (lv_at hl 3 rfl) ?_
          refine lv_imul hx hb dX9_layWays_86 ?_
          refine lv_iload hx hb dX9_layWays_87 (lv_at hl 5 rfl) ?_
          refine lv_iadd hx hb dX9_layWays_89 ?_
          obtain ⟨hv9, hq⟩ := hq
          refine va_zald hx hb hK hP 1 2 rfl rfl hv9 dX9_layWays_90 ?_
          refine lv_if_eq (tgt := 118) hx hb dX9_layWays_91 (by decide) (fun c10 => ?_) (fun c10 => ?_)
          · replace hq := hq.1 c10
            refine lv_lload hx hb dX9_layWays_118 (lv_at hl 4 rfl) ?_
            refine lv_lstore (lv' := [(4, .long l4), (0, .ref h_m), (1, .int l1), (2, .int l2), (3, .int l3), (6, .int l6)]) hx hb dX9_layWays_120 hl (by decide) rfl (fun ls hl => ?_)
            refine lv_iinc (v := (l6 + (1 : Int32))) (lv' := [(6, .int (l6 + (1 : Int32))), (4, .long l4), (0, .ref h_m), (1, .int l1), (2, .int l2), (3, .int l3)]) hx hb dX9_layWays_122 hl (k := 5) rfl rfl (by decide) rfl (fun ls hl => ?_)
            refine lv_goto (tgt := 62) hx hb dX9_layWays_125 (by decide) ?_
            exact ih _ _ hq _ _ hP hD hS _ (lv_sub hl [2, 3, 4, 5, 1, 0] rfl)
          · replace hq := hq.2 c10
            refine lv_lload hx hb dX9_layWays_94 (lv_at hl 4 rfl) ?_
            refine lv_aload_n hx hb dX9_layWays_96 rfl (lv_at hl 0 rfl) ?_
            refine va_get (D := (dC, dI)) (ci := 9) (v := .ref h_m_ways) (C := RX9) (T := TX9) (N := 30) hx hb hts hinX9 hown hK hP 0 rfl rfl 14 (by decide) hf52 (fun _ h9 => h9) rfl dX9_layWays_97 ?_
            refine lv_sipush (v := (243 : Int32)) hx hb dX9_layWays_100 (by decide) ?_
            refine lv_iload_n hx hb dX9_layWays_103 rfl (lv_at hl 2 rfl) ?_
            refine lv_iconst (v := (1 : Int32)) hx hb dX9_layWays_104 (by decide) ?_
            refine lv_iadd hx hb dX9_layWays_105 ?_
            refine lv_imul hx hb dX9_layWays_106 ?_
            refine lv_iload hx hb dX9_layWays_107 (lv_at hl 5 rfl) ?_
            refine lv_iadd hx hb dX9_layWays_109 ?_
            obtain ⟨hv11, hq⟩ := hq
            refine va_lald hx hb hK hP 5 1 rfl rfl hv11 dX9_layWays_110 ?_
            refine lv_ladd hx hb dX9_layWays_111 ?_
            refine gx_cSl (As := [.long (l4 + (f_m_ways ((((243 : Int32) * (l2 + (1 : Int32))) + l6)).toNatClampNeg))]) (rest := []) ⟨hx, hb, hml, hown, hts⟩ (c_X9_capped l dC dI cI cJ cZ H.size (l4 + (f_m_ways ((((243 : Int32) * (l2 + (1 : Int32))) + l6)).toNatClampNeg)) hq) (va_cwS 1 hts gX9_layWays_X9_capped rfl rfl rfl hdS_X9_capped ⟨Nat.le_of_ble_eq_true rfl, Nat.le_of_ble_eq_true rfl⟩) hK hP hD hS hA [] [0, 1, 2, 3, 4, 5] rfl rfl rfl rfl rfl rfl hl.1 (Nat.le_of_ble_eq_true rfl) dX9_layWays_112 rfl (fun r12 u H locs hq hP hD hS => ?_)
            try dsimp only at hq
            have hP : va_P (dC, dI) vwCl (W_X9_layWays cI cJ cZ h_m h_m_fits h_m_top h_m_bottom h_m_may h_m_ways h_m_allowed h_m_desk h_m_letters h_m_acts h_m_thens h_m_found h_m_unlike h_m_seen h_m_seenThen h_m_power h_m_square h_m_product h_m_isLive h_m_down h_m_up h_m_ground h_m_met m_colours m_h m_w m_states m_rows m_ends m_steps m_last f_m_fits f_m_top f_m_bottom f_m_may f_m_ways) H := hP
            have hD : va_D A (W_X9_layWays cI cJ cZ h_m h_m_fits h_m_top h_m_bottom h_m_may h_m_ways h_m_allowed h_m_desk h_m_letters h_m_acts h_m_thens h_m_found h_m_unlike h_m_seen h_m_seenThen h_m_power h_m_square h_m_product h_m_isLive h_m_down h_m_up h_m_ground h_m_met m_colours m_h m_w m_states m_rows m_ends m_steps m_last f_m_fits f_m_top f_m_bottom f_m_may f_m_ways) := hD
            refine lv_goto (tgt := 120) hx hb dX9_layWays_115 (by decide) ?_
            refine lv_lstore (lv' := [(4, .long r12), (0, .ref h_m), (1, .int l1), (2, .int l2), (3, .int l3), (6, .int l6)]) hx hb dX9_layWays_120 hl (by decide) rfl (fun ls hl => ?_)
            refine lv_iinc (v := (l6 + (1 : Int32))) (lv' := [(6, .int (l6 + (1 : Int32))), (4, .long r12), (0, .ref h_m), (1, .int l1), (2, .int l2), (3, .int l3)]) hx hb dX9_layWays_122 hl (k := 5) rfl rfl (by decide) rfl (fun ls hl => ?_)
            refine lv_goto (tgt := 62) hx hb dX9_layWays_125 (by decide) ?_
            exact ih _ _ hq _ _ hP hD hS _ (lv_sub hl [2, 3, 4, 5, 1, 0] rfl)
  have C62 : ∀ (l1 : Int32) (l2 : Int32) (K148 : (Int32) → (Nat → Int64) → Prop) (hK148 : (∀ (l2 : Int32) (f_m_ways : Nat → Int64), K148 l2 f_m_ways → ∀ (H : Heap) (locs : List Loc), va_P (dC, dI) vwCl (W_X9_layWays cI cJ cZ h_m h_m_fits h_m_top h_m_bottom h_m_may h_m_ways h_m_allowed h_m_desk h_m_letters h_m_acts h_m_thens h_m_found h_m_unlike h_m_seen h_m_seenThen h_m_power h_m_square h_m_product h_m_isLive h_m_down h_m_up h_m_ground h_m_met m_colours m_h m_w m_states m_rows m_ends m_steps m_last f_m_fits f_m_top f_m_bottom f_m_may f_m_ways) H → va_D A (W_X9_layWays cI cJ cZ h_m h_m_fits h_m_top h_m_bottom h_m_may h_m_ways h_m_allowed h_m_desk h_m_letters h_m_acts h_m_thens h_m_found h_m_unlike h_m_seen h_m_seenThen h_m_power h_m_square h_m_product h_m_isLive h_m_down h_m_up h_m_ground h_m_met m_colours m_h m_w m_states m_rows m_ends m_steps m_last f_m_fits f_m_top f_m_bottom f_m_may f_m_ways) → va_S A s.heap H locs → ∀ ls : Array Slot, lv_has ls 7 [(0, .ref h_m), (1, .int l1), (2, .int l2)] → W p l e rm_X9_layWays s m args below meth c H locs 0 0 QQ (F0 m 148 ls []))) (K10 : (Int32) → (Nat → Int64) → Prop) (hK10 : (∀ (l3 : Int32) (f_m_ways : Nat → Int64), K10 l3 f_m_ways → ∀ (H : Heap) (locs : List Loc), va_P (dC, dI) vwCl (W_X9_layWays cI cJ cZ h_m h_m_fits h_m_top h_m_bottom h_m_may h_m_ways h_m_allowed h_m_desk h_m_letters h_m_acts h_m_thens h_m_found h_m_unlike h_m_seen h_m_seenThen h_m_power h_m_square h_m_product h_m_isLive h_m_down h_m_up h_m_ground h_m_met m_colours m_h m_w m_states m_rows m_ends m_steps m_last f_m_fits f_m_top f_m_bottom f_m_may f_m_ways) H → va_D A (W_X9_layWays cI cJ cZ h_m h_m_fits h_m_top h_m_bottom h_m_may h_m_ways h_m_allowed h_m_desk h_m_letters h_m_acts h_m_thens h_m_found h_m_unlike h_m_seen h_m_seenThen h_m_power h_m_square h_m_product h_m_isLive h_m_down h_m_up h_m_ground h_m_met m_colours m_h m_w m_states m_rows m_ends m_steps m_last f_m_fits f_m_top f_m_bottom f_m_may f_m_ways) → va_S A s.heap H locs → ∀ ls : Array Slot, lv_has ls 7 [(0, .ref h_m), (1, .int l1), (2, .int l2), (3, .int l3)] → W p l e rm_X9_layWays s m args below meth c H locs 0 0 QQ (F0 m 10 ls []))) (l3 : Int32) (l4 : Int64) (l6 : Int32) (f_m_ways : Nat → Int64), q_X9_layWays_62 m_rows f_m_fits f_m_top f_m_bottom f_m_may l1 l2 post K148 K10 l3 l4 l6 f_m_ways → ∀ (H : Heap) (locs : List Loc), va_P (dC, dI) vwCl (W_X9_layWays cI cJ cZ h_m h_m_fits h_m_top h_m_bottom h_m_may h_m_ways h_m_allowed h_m_desk h_m_letters h_m_acts h_m_thens h_m_found h_m_unlike h_m_seen h_m_seenThen h_m_power h_m_square h_m_product h_m_isLive h_m_down h_m_up h_m_ground h_m_met m_colours m_h m_w m_states m_rows m_ends m_steps m_last f_m_fits f_m_top f_m_bottom f_m_may f_m_ways) H → va_D A (W_X9_layWays cI cJ cZ h_m h_m_fits h_m_top h_m_bottom h_m_may h_m_ways h_m_allowed h_m_desk h_m_letters h_m_acts h_m_thens h_m_found h_m_unlike h_m_seen h_m_seenThen h_m_power h_m_square h_m_product h_m_isLive h_m_down h_m_up h_m_ground h_m_met m_colours m_h m_w m_states m_rows m_ends m_steps m_last f_m_fits f_m_top f_m_bottom f_m_may f_m_ways) → va_S A s.heap H locs → ∀ ls : Array Slot, lv_has ls 7 [(0, .ref h_m), (1, .int l1), (2, .int l2), (3, .int l3), (4, .long l4), (6, .int l6)] → W p l e rm_X9_layWays s m args below meth c H locs 0 0 QQ (F0 m 62 ls []) := by
    intro l1 l2 K148 hK148 K10 hK10 l3 l4 l6 f_m_ways hq H locs hP hD hS ls hl
    obtain ⟨n, hq⟩ := hq
    exact L62 _ _ _ (C128 _ _ _ hK148 _ hK10) _ _ n _ _ hq H locs hP hD hS ls hl
  have L10 : ∀ (l1 : Int32) (K148 : (Int32) → (Nat → Int64) → Prop) (hK148 : (∀ (l2 : Int32) (f_m_ways : Nat → Int64), K148 l2 f_m_ways → ∀ (H : Heap) (locs : List Loc), va_P (dC, dI) vwCl (W_X9_layWays cI cJ cZ h_m h_m_fits h_m_top h_m_bottom h_m_may h_m_ways h_m_allowed h_m_desk h_m_letters h_m_acts h_m_thens h_m_found h_m_unlike h_m_seen h_m_seenThen h_m_power h_m_square h_m_product h_m_isLive h_m_down h_m_up h_m_ground h_m_met m_colours m_h m_w m_states m_rows m_ends m_steps m_last f_m_fits f_m_top f_m_bottom f_m_may f_m_ways) H → va_D A (W_X9_layWays cI cJ cZ h_m h_m_fits h_m_top h_m_bottom h_m_may h_m_ways h_m_allowed h_m_desk h_m_letters h_m_acts h_m_thens h_m_found h_m_unlike h_m_seen h_m_seenThen h_m_power h_m_square h_m_product h_m_isLive h_m_down h_m_up h_m_ground h_m_met m_colours m_h m_w m_states m_rows m_ends m_steps m_last f_m_fits f_m_top f_m_bottom f_m_may f_m_ways) → va_S A s.heap H locs → ∀ ls : Array Slot, lv_has ls 7 [(0, .ref h_m), (1, .int l1), (2, .int l2)] → W p l e rm_X9_layWays s m args below meth c H locs 0 0 QQ (F0 m 148 ls []))) (l2 : Int32) (n : Nat) (l3 : Int32) (f_m_ways : Nat → Int64), r_X9_layWays_10 m_rows f_m_fits f_m_top f_m_bottom f_m_may l1 post K148 l2 n l3 f_m_ways → ∀ (H : Heap) (locs : List Loc), va_P (dC, dI) vwCl (W_X9_layWays cI cJ cZ h_m h_m_fits h_m_top h_m_bottom h_m_may h_m_ways h_m_allowed h_m_desk h_m_letters h_m_acts h_m_thens h_m_found h_m_unlike h_m_seen h_m_seenThen h_m_power h_m_square h_m_product h_m_isLive h_m_down h_m_up h_m_ground h_m_met m_colours m_h m_w m_states m_rows m_ends m_steps m_last f_m_fits f_m_top f_m_bottom f_m_may f_m_ways) H → va_D A (W_X9_layWays cI cJ cZ h_m h_m_fits h_m_top h_m_bottom h_m_may h_m_ways h_m_allowed h_m_desk h_m_letters h_m_acts h_m_thens h_m_found h_m_unlike h_m_seen h_m_seenThen h_m_power h_m_square h_m_product h_m_isLive h_m_down h_m_up h_m_ground h_m_met m_colours m_h m_w m_states m_rows m_ends m_steps m_last f_m_fits f_m_top f_m_bottom f_m_may f_m_ways) → va_S A s.heap H locs → ∀ ls : Array Slot, lv_has ls 7 [(0, .ref h_m), (1, .int l1), (2, .int l2), (3, .int l3)] → W p l e rm_X9_layWays s m args below meth c H locs 0 0 QQ (F0 m 10 ls []) := by
    intro l1 K148 hK148 l2 n
    induction n with
    | zero => intro l3 f_m_ways hq; exact False.elim hq
    | succ n ih =>
      intro l3 f_m_ways hq H locs hP hD hS ls hl
      unfold r_X9_layWays_10 at hq
      refine lv_iload_n hx hb dX9_layWays_10 rfl (lv_at hl 3 rfl) ?_
      refine lv_aload_n hx hb dX9_layWays_11 rfl (lv_at hl 0 rfl) ?_
      refine va_get (D := (dC, dI)) (ci := 9) (v := .int m_rows) (C := RX9) (T := TX9) (N := 30) hx hb hts hinX9 hown hK hP 0 rfl rfl 12 (by decide) hf153 (fun _ h9 => h9) rfl dX9_layWays_12 ?_
      refine lv_icmp_ge (tgt := 148) hx hb dX9_layWays_15 (by decide) (fun c2 => ?_) (fun c2 => ?_)
      · replace hq := hq.1 c2
        exact hK148 _ _ hq _ _ hP hD hS _ (lv_sub hl [0, 1, 2] rfl)
      · replace hq := hq.2 c2
        refine lv_lconst (v := (0 : Int64)) hx hb dX9_layWays_18 (by decide) ?_
        refine lv_lstore (lv' := [(4, .long (0 : Int64)), (0, .ref h_m), (1, .int l1), (2, .int l2), (3, .int l3)]) hx hb dX9_layWays_19 hl (by decide) rfl (fun ls hl => ?_)
        refine lv_aload_n hx hb dX9_layWays_21 rfl (lv_at hl 1 rfl) ?_
        refine va_get (D := (dC, dI)) (ci := 9) (v := .ref h_m_may) (C := RX9) (T := TX9) (N := 30) hx hb hts hinX9 hown hK hP 0 rfl rfl 13 (by decide) hf49 (fun _ h9 => h9) rfl dX9_layWays_22 ?_
        refine lv_sipush (v := (243 : Int32)) hx hb dX9_layWays_25 (by decide) ?_
        refine lv_iload_n hx hb dX9_layWays_28 rfl (lv_at hl 3 rfl) ?_
        refine lv_imul hx hb dX9_layWays_29 ?_
        refine lv_iload_n hx hb dX9_layWays_30 rfl (lv_at hl 4 rfl) ?_
        refine lv_iadd hx hb dX9_layWays_31 ?_
        obtain ⟨hv3, hq⟩ := hq
        refine va_zald hx hb hK hP 4 2 rfl rfl hv3 dX9_layWays_32 ?_
        refine lv_if_eq (tgt := 128) hx hb dX9_layWays_33 (by decide) (fun c4 => ?_) (fun c4 => ?_)
        · replace hq := hq.1 c4
          exact (C128 _ _ _ hK148 _ ih) _ _ _ hq _ _ hP hD hS _ (lv_sub hl [1, 2, 3, 4, 0] rfl)
        · replace hq := hq.2 c4
          refine lv_iload_n hx hb dX9_layWays_36 rfl (lv_at hl 3 rfl) ?_
          refine lv_iload_n hx hb dX9_layWays_37 rfl (lv_at hl 2 rfl) ?_
          refine lv_iconst (v := (1 : Int32)) hx hb dX9_layWays_38 (by decide) ?_
          refine lv_isub hx hb dX9_layWays_39 ?_
          refine lv_icmp_ne (tgt := 56) hx hb dX9_layWays_40 (by decide) (fun c6 => ?_) (fun c6 => ?_)
          · replace hq := hq.1 c6
            refine lv_lconst (v := (0 : Int64)) hx hb dX9_layWays_56 (by decide) ?_
            refine lv_lstore (lv' := [(4, .long (0 : Int64)), (0, .ref h_m), (1, .int l1), (2, .int l2), (3, .int l3)]) hx hb dX9_layWays_57 hl (by decide) rfl (fun ls hl => ?_)
            refine lv_iconst (v := (0 : Int32)) hx hb dX9_layWays_59 (by decide) ?_
            refine lv_istore (lv' := [(6, .int (0 : Int32)), (4, .long (0 : Int64)), (0, .ref h_m), (1, .int l1), (2, .int l2), (3, .int l3)]) hx hb dX9_layWays_60 hl (by decide) rfl (fun ls hl => ?_)
            exact (C62 _ _ _ hK148 _ ih) _ _ _ _ hq _ _ hP hD hS _ (lv_sub hl [2, 3, 4, 5, 1, 0] rfl)
          · replace hq := hq.2 c6
            refine lv_aload_n hx hb dX9_layWays_43 rfl (lv_at hl 1 rfl) ?_
            refine va_get (D := (dC, dI)) (ci := 9) (v := .ref h_m_bottom) (C := RX9) (T := TX9) (N := 30) hx hb hts hinX9 hown hK hP 0 rfl rfl 11 (by decide) hf46 (fun _ h9 => h9) rfl dX9_layWays_44 ?_
            refine lv_iload_n hx hb dX9_layWays_47 rfl (lv_at hl 4 rfl) ?_
            obtain ⟨hv13, hq⟩ := hq
            refine va_zald hx hb hK hP 3 2 rfl rfl hv13 dX9_layWays_48 ?_
            refine lv_if_eq (tgt := 56) hx hb dX9_layWays_49 (by decide) (fun c14 => ?_) (fun c14 => ?_)
            · replace hq := hq.1 c14
              refine lv_lconst (v := (0 : Int64)) hx hb dX9_layWays_56 (by decide) ?_
              refine lv_lstore (lv' := [(4, .long (0 : Int64)), (0, .ref h_m), (1, .int l1), (2, .int l2), (3, .int l3)]) hx hb dX9_layWays_57 hl (by decide) rfl (fun ls hl => ?_)
              refine lv_iconst (v := (0 : Int32)) hx hb dX9_layWays_59 (by decide) ?_
              refine lv_istore (lv' := [(6, .int (0 : Int32)), (4, .long (0 : Int64)), (0, .ref h_m), (1, .int l1), (2, .int l2), (3, .int l3)]) hx hb dX9_layWays_60 hl (by decide) rfl (fun ls hl => ?_)
              exact (C62 _ _ _ hK148 _ ih) _ _ _ _ hq _ _ hP hD hS _ (lv_sub hl [2, 3, 4, 5, 1, 0] rfl)
            · replace hq := hq.2 c14
              refine lv_lconst (v := (1 : Int64)) hx hb dX9_layWays_52 (by decide) ?_
              refine lv_goto (tgt := 57) hx hb dX9_layWays_53 (by decide) ?_
              refine lv_lstore (lv' := [(4, .long (1 : Int64)), (0, .ref h_m), (1, .int l1), (2, .int l2), (3, .int l3)]) hx hb dX9_layWays_57 hl (by decide) rfl (fun ls hl => ?_)
              refine lv_iconst (v := (0 : Int32)) hx hb dX9_layWays_59 (by decide) ?_
              refine lv_istore (lv' := [(6, .int (0 : Int32)), (4, .long (1 : Int64)), (0, .ref h_m), (1, .int l1), (2, .int l2), (3, .int l3)]) hx hb dX9_layWays_60 hl (by decide) rfl (fun ls hl => ?_)
              exact (C62 _ _ _ hK148 _ ih) _ _ _ _ hq _ _ hP hD hS _ (lv_sub hl [2, 3, 4, 5, 1, 0] rfl)
  have C148 : ∀ (l1 : Int32) (K154 : (Nat → Int64) → Prop) (hK154 : (∀ (f_m_ways : Nat → Int64), K154 f_m_ways → ∀ (H : Heap) (locs : List Loc), va_P (dC, dI) vwCl (W_X9_layWays cI cJ cZ h_m h_m_fits h_m_top h_m_bottom h_m_may h_m_ways h_m_allowed h_m_desk h_m_letters h_m_acts h_m_thens h_m_found h_m_unlike h_m_seen h_m_seenThen h_m_power h_m_square h_m_product h_m_isLive h_m_down h_m_up h_m_ground h_m_met m_colours m_h m_w m_states m_rows m_ends m_steps m_last f_m_fits f_m_top f_m_bottom f_m_may f_m_ways) H → va_D A (W_X9_layWays cI cJ cZ h_m h_m_fits h_m_top h_m_bottom h_m_may h_m_ways h_m_allowed h_m_desk h_m_letters h_m_acts h_m_thens h_m_found h_m_unlike h_m_seen h_m_seenThen h_m_power h_m_square h_m_product h_m_isLive h_m_down h_m_up h_m_ground h_m_met m_colours m_h m_w m_states m_rows m_ends m_steps m_last f_m_fits f_m_top f_m_bottom f_m_may f_m_ways) → va_S A s.heap H locs → ∀ ls : Array Slot, lv_has ls 7 [(0, .ref h_m)] → W p l e rm_X9_layWays s m args below meth c H locs 0 0 QQ (F0 m 154 ls []))) (K4 : (Int32) → (Nat → Int64) → Prop) (hK4 : (∀ (l2 : Int32) (f_m_ways : Nat → Int64), K4 l2 f_m_ways → ∀ (H : Heap) (locs : List Loc), va_P (dC, dI) vwCl (W_X9_layWays cI cJ cZ h_m h_m_fits h_m_top h_m_bottom h_m_may h_m_ways h_m_allowed h_m_desk h_m_letters h_m_acts h_m_thens h_m_found h_m_unlike h_m_seen h_m_seenThen h_m_power h_m_square h_m_product h_m_isLive h_m_down h_m_up h_m_ground h_m_met m_colours m_h m_w m_states m_rows m_ends m_steps m_last f_m_fits f_m_top f_m_bottom f_m_may f_m_ways) H → va_D A (W_X9_layWays cI cJ cZ h_m h_m_fits h_m_top h_m_bottom h_m_may h_m_ways h_m_allowed h_m_desk h_m_letters h_m_acts h_m_thens h_m_found h_m_unlike h_m_seen h_m_seenThen h_m_power h_m_square h_m_product h_m_isLive h_m_down h_m_up h_m_ground h_m_met m_colours m_h m_w m_states m_rows m_ends m_steps m_last f_m_fits f_m_top f_m_bottom f_m_may f_m_ways) → va_S A s.heap H locs → ∀ ls : Array Slot, lv_has ls 7 [(0, .ref h_m), (1, .int l1), (2, .int l2)] → W p l e rm_X9_layWays s m args below meth c H locs 0 0 QQ (F0 m 4 ls []))) (l2 : Int32) (f_m_ways : Nat → Int64), q_X9_layWays_148 m_rows f_m_fits f_m_top f_m_bottom f_m_may l1 post K154 K4 l2 f_m_ways → ∀ (H : Heap) (locs : List Loc), va_P (dC, dI) vwCl (W_X9_layWays cI cJ cZ h_m h_m_fits h_m_top h_m_bottom h_m_may h_m_ways h_m_allowed h_m_desk h_m_letters h_m_acts h_m_thens h_m_found h_m_unlike h_m_seen h_m_seenThen h_m_power h_m_square h_m_product h_m_isLive h_m_down h_m_up h_m_ground h_m_met m_colours m_h m_w m_states m_rows m_ends m_steps m_last f_m_fits f_m_top f_m_bottom f_m_may f_m_ways) H → va_D A (W_X9_layWays cI cJ cZ h_m h_m_fits h_m_top h_m_bottom h_m_may h_m_ways h_m_allowed h_m_desk h_m_letters h_m_acts h_m_thens h_m_found h_m_unlike h_m_seen h_m_seenThen h_m_power h_m_square h_m_product h_m_isLive h_m_down h_m_up h_m_ground h_m_met m_colours m_h m_w m_states m_rows m_ends m_steps m_last f_m_fits f_m_top f_m_bottom f_m_may f_m_ways) → va_S A s.heap H locs → ∀ ls : Array Slot, lv_has ls 7 [(0, .ref h_m), (1, .int l1), (2, .int l2)] → W p l e rm_X9_layWays s m args below meth c H locs 0 0 QQ (F0 m 148 ls []) := by
    intro l1 K154 hK154 K4 hK4 l2 f_m_ways hq H locs hP hD hS ls hl
    unfold q_X9_layWays_148 at hq
    refine lv_iinc (v := (l2 + (-1 : Int32))) (lv' := [(2, .int (l2 + (-1 : Int32))), (0, .ref h_m), (1, .int l1)]) hx hb dX9_layWays_148 hl (k := 2) rfl rfl (by decide) rfl (fun ls hl => ?_)
    refine lv_goto (tgt := 4) hx hb dX9_layWays_151 (by decide) ?_
    exact hK4 _ _ hq _ _ hP hD hS _ (lv_sub hl [1, 2, 0] rfl)
  have C10 : ∀ (l1 : Int32) (K154 : (Nat → Int64) → Prop) (hK154 : (∀ (f_m_ways : Nat → Int64), K154 f_m_ways → ∀ (H : Heap) (locs : List Loc), va_P (dC, dI) vwCl (W_X9_layWays cI cJ cZ h_m h_m_fits h_m_top h_m_bottom h_m_may h_m_ways h_m_allowed h_m_desk h_m_letters h_m_acts h_m_thens h_m_found h_m_unlike h_m_seen h_m_seenThen h_m_power h_m_square h_m_product h_m_isLive h_m_down h_m_up h_m_ground h_m_met m_colours m_h m_w m_states m_rows m_ends m_steps m_last f_m_fits f_m_top f_m_bottom f_m_may f_m_ways) H → va_D A (W_X9_layWays cI cJ cZ h_m h_m_fits h_m_top h_m_bottom h_m_may h_m_ways h_m_allowed h_m_desk h_m_letters h_m_acts h_m_thens h_m_found h_m_unlike h_m_seen h_m_seenThen h_m_power h_m_square h_m_product h_m_isLive h_m_down h_m_up h_m_ground h_m_met m_colours m_h m_w m_states m_rows m_ends m_steps m_last f_m_fits f_m_top f_m_bottom f_m_may f_m_ways) → va_S A s.heap H locs → ∀ ls : Array Slot, lv_has ls 7 [(0, .ref h_m)] → W p l e rm_X9_layWays s m args below meth c H locs 0 0 QQ (F0 m 154 ls []))) (K4 : (Int32) → (Nat → Int64) → Prop) (hK4 : (∀ (l2 : Int32) (f_m_ways : Nat → Int64), K4 l2 f_m_ways → ∀ (H : Heap) (locs : List Loc), va_P (dC, dI) vwCl (W_X9_layWays cI cJ cZ h_m h_m_fits h_m_top h_m_bottom h_m_may h_m_ways h_m_allowed h_m_desk h_m_letters h_m_acts h_m_thens h_m_found h_m_unlike h_m_seen h_m_seenThen h_m_power h_m_square h_m_product h_m_isLive h_m_down h_m_up h_m_ground h_m_met m_colours m_h m_w m_states m_rows m_ends m_steps m_last f_m_fits f_m_top f_m_bottom f_m_may f_m_ways) H → va_D A (W_X9_layWays cI cJ cZ h_m h_m_fits h_m_top h_m_bottom h_m_may h_m_ways h_m_allowed h_m_desk h_m_letters h_m_acts h_m_thens h_m_found h_m_unlike h_m_seen h_m_seenThen h_m_power h_m_square h_m_product h_m_isLive h_m_down h_m_up h_m_ground h_m_met m_colours m_h m_w m_states m_rows m_ends m_steps m_last f_m_fits f_m_top f_m_bottom f_m_may f_m_ways) → va_S A s.heap H locs → ∀ ls : Array Slot, lv_has ls 7 [(0, .ref h_m), (1, .int l1), (2, .int l2)] → W p l e rm_X9_layWays s m args below meth c H locs 0 0 QQ (F0 m 4 ls []))) (l2 : Int32) (l3 : Int32) (f_m_ways : Nat → Int64), q_X9_layWays_10 m_rows f_m_fits f_m_top f_m_bottom f_m_may l1 post K154 K4 l2 l3 f_m_ways → ∀ (H : Heap) (locs : List Loc), va_P (dC, dI) vwCl (W_X9_layWays cI cJ cZ h_m h_m_fits h_m_top h_m_bottom h_m_may h_m_ways h_m_allowed h_m_desk h_m_letters h_m_acts h_m_thens h_m_found h_m_unlike h_m_seen h_m_seenThen h_m_power h_m_square h_m_product h_m_isLive h_m_down h_m_up h_m_ground h_m_met m_colours m_h m_w m_states m_rows m_ends m_steps m_last f_m_fits f_m_top f_m_bottom f_m_may f_m_ways) H → va_D A (W_X9_layWays cI cJ cZ h_m h_m_fits h_m_top h_m_bottom h_m_may h_m_ways h_m_allowed h_m_desk h_m_letters h_m_acts h_m_thens h_m_found h_m_unlike h_m_seen h_m_seenThen h_m_power h_m_square h_m_product h_m_isLive h_m_down h_m_up h_m_ground h_m_met m_colours m_h m_w m_states m_rows m_ends m_steps m_last f_m_fits f_m_top f_m_bottom f_m_may f_m_ways) → va_S A s.heap H locs → ∀ ls : Array Slot, lv_has ls 7 [(0, .ref h_m), (1, .int l1), (2, .int l2), (3, .int l3)] → W p l e rm_X9_layWays s m args below meth c H locs 0 0 QQ (F0 m 10 ls []) := by
    intro l1 K154 hK154 K4 hK4 l2 l3 f_m_ways hq H locs hP hD hS ls hl
    obtain ⟨n, hq⟩ := hq
    exact L10 _ _ (C148 _ _ hK154 _ hK4) _ n _ _ hq H locs hP hD hS ls hl
  have L4 : ∀ (K154 : (Nat → Int64) → Prop) (hK154 : (∀ (f_m_ways : Nat → Int64), K154 f_m_ways → ∀ (H : Heap) (locs : List Loc), va_P (dC, dI) vwCl (W_X9_layWays cI cJ cZ h_m h_m_fits h_m_top h_m_bottom h_m_may h_m_ways h_m_allowed h_m_desk h_m_letters h_m_acts h_m_thens h_m_found h_m_unlike h_m_seen h_m_seenThen h_m_power h_m_square h_m_product h_m_isLive h_m_down h_m_up h_m_ground h_m_met m_colours m_h m_w m_states m_rows m_ends m_steps m_last f_m_fits f_m_top f_m_bottom f_m_may f_m_ways) H → va_D A (W_X9_layWays cI cJ cZ h_m h_m_fits h_m_top h_m_bottom h_m_may h_m_ways h_m_allowed h_m_desk h_m_letters h_m_acts h_m_thens h_m_found h_m_unlike h_m_seen h_m_seenThen h_m_power h_m_square h_m_product h_m_isLive h_m_down h_m_up h_m_ground h_m_met m_colours m_h m_w m_states m_rows m_ends m_steps m_last f_m_fits f_m_top f_m_bottom f_m_may f_m_ways) → va_S A s.heap H locs → ∀ ls : Array Slot, lv_has ls 7 [(0, .ref h_m)] → W p l e rm_X9_layWays s m args below meth c H locs 0 0 QQ (F0 m 154 ls []))) (l1 : Int32) (n : Nat) (l2 : Int32) (f_m_ways : Nat → Int64), r_X9_layWays_4 m_rows f_m_fits f_m_top f_m_bottom f_m_may post K154 l1 n l2 f_m_ways → ∀ (H : Heap) (locs : List Loc), va_P (dC, dI) vwCl (W_X9_layWays cI cJ cZ h_m h_m_fits h_m_top h_m_bottom h_m_may h_m_ways h_m_allowed h_m_desk h_m_letters h_m_acts h_m_thens h_m_found h_m_unlike h_m_seen h_m_seenThen h_m_power h_m_square h_m_product h_m_isLive h_m_down h_m_up h_m_ground h_m_met m_colours m_h m_w m_states m_rows m_ends m_steps m_last f_m_fits f_m_top f_m_bottom f_m_may f_m_ways) H → va_D A (W_X9_layWays cI cJ cZ h_m h_m_fits h_m_top h_m_bottom h_m_may h_m_ways h_m_allowed h_m_desk h_m_letters h_m_acts h_m_thens h_m_found h_m_unlike h_m_seen h_m_seenThen h_m_power h_m_square h_m_product h_m_isLive h_m_down h_m_up h_m_ground h_m_met m_colours m_h m_w m_states m_rows m_ends m_steps m_last f_m_fits f_m_top f_m_bottom f_m_may f_m_ways) → va_S A s.heap H locs → ∀ ls : Array Slot, lv_has ls 7 [(0, .ref h_m), (1, .int l1), (2, .int l2)] → W p l e rm_X9_layWays s m args below meth c H locs 0 0 QQ (F0 m 4 ls []) := by
    intro K154 hK154 l1 n
    induction n with
    | zero => intro l2 f_m_ways hq; exact False.elim hq
    | succ n ih =>
      intro l2 f_m_ways hq H locs hP hD hS ls hl
      unfold r_X9_layWays_4 at hq
      refine lv_iload_n hx hb dX9_layWays_4 rfl (lv_at hl 2 rfl) ?_
      refine lv_if_lt (tgt := 154) hx hb dX9_layWays_5 (by decide) (fun c1 => ?_) (fun c1 => ?_)
      · replace hq := hq.1 c1
        exact hK154 _ hq _ _ hP hD hS _ (lv_sub hl [0] rfl)
      · replace hq := hq.2 c1
        refine lv_iconst (v := (0 : Int32)) hx hb dX9_layWays_8 (by decide) ?_
        refine lv_istore_n (lv' := [(3, .int (0 : Int32)), (0, .ref h_m), (1, .int l1), (2, .int l2)]) hx hb dX9_layWays_9 rfl hl (by decide) rfl (fun ls hl => ?_)
        exact (C10 _ _ hK154 _ ih) _ _ _ hq _ _ hP hD hS _ (lv_sub hl [1, 2, 3, 0] rfl)
  have L159 : ∀ (f_m_ways : Nat → Int64) (n : Nat) (l2 : Int64) (l4 : Int32), r_X9_layWays_159 m_rows f_m_fits f_m_top f_m_bottom f_m_may post f_m_ways n l2 l4 → ∀ (H : Heap) (locs : List Loc), va_P (dC, dI) vwCl (W_X9_layWays cI cJ cZ h_m h_m_fits h_m_top h_m_bottom h_m_may h_m_ways h_m_allowed h_m_desk h_m_letters h_m_acts h_m_thens h_m_found h_m_unlike h_m_seen h_m_seenThen h_m_power h_m_square h_m_product h_m_isLive h_m_down h_m_up h_m_ground h_m_met m_colours m_h m_w m_states m_rows m_ends m_steps m_last f_m_fits f_m_top f_m_bottom f_m_may f_m_ways) H → va_D A (W_X9_layWays cI cJ cZ h_m h_m_fits h_m_top h_m_bottom h_m_may h_m_ways h_m_allowed h_m_desk h_m_letters h_m_acts h_m_thens h_m_found h_m_unlike h_m_seen h_m_seenThen h_m_power h_m_square h_m_product h_m_isLive h_m_down h_m_up h_m_ground h_m_met m_colours m_h m_w m_states m_rows m_ends m_steps m_last f_m_fits f_m_top f_m_bottom f_m_may f_m_ways) → va_S A s.heap H locs → ∀ ls : Array Slot, lv_has ls 7 [(0, .ref h_m), (2, .long l2), (4, .int l4)] → W p l e rm_X9_layWays s m args below meth c H locs 0 0 QQ (F0 m 159 ls []) := by
    intro f_m_ways n
    induction n with
    | zero => intro l2 l4 hq; exact False.elim hq
    | succ n ih =>
      intro l2 l4 hq H locs hP hD hS ls hl
      unfold r_X9_layWays_159 at hq
      refine lv_iload hx hb dX9_layWays_159 (lv_at hl 2 rfl) ?_
      refine lv_aload_n hx hb dX9_layWays_161 rfl (lv_at hl 0 rfl) ?_
      refine va_get (D := (dC, dI)) (ci := 9) (v := .int m_rows) (C := RX9) (T := TX9) (N := 30) hx hb hts hinX9 hown hK hP 0 rfl rfl 12 (by decide) hf153 (fun _ h9 => h9) rfl dX9_layWays_162 ?_
      refine lv_icmp_ge (tgt := 201) hx hb dX9_layWays_165 (by decide) (fun c15 => ?_) (fun c15 => ?_)
      · replace hq := hq.1 c15
        refine lv_lload_n hx hb dX9_layWays_201 rfl (lv_at hl 1 rfl) ?_
        exact hret l2 f_m_ways hq _ _ hP hD hS _ _ dX9_layWays_202
      · replace hq := hq.2 c15
        refine lv_aload_n hx hb dX9_layWays_168 rfl (lv_at hl 0 rfl) ?_
        refine va_get (D := (dC, dI)) (ci := 9) (v := .ref h_m_top) (C := RX9) (T := TX9) (N := 30) hx hb hts hinX9 hown hK hP 0 rfl rfl 10 (by decide) hf43 (fun _ h9 => h9) rfl dX9_layWays_169 ?_
        refine lv_iload hx hb dX9_layWays_172 (lv_at hl 2 rfl) ?_
        obtain ⟨hv16, hq⟩ := hq
        refine va_zald hx hb hK hP 2 2 rfl rfl hv16 dX9_layWays_174 ?_
        refine lv_if_eq (tgt := 193) hx hb dX9_layWays_175 (by decide) (fun c17 => ?_) (fun c17 => ?_)
        · replace hq := hq.1 c17
          refine lv_lload_n hx hb dX9_layWays_193 rfl (lv_at hl 1 rfl) ?_
          refine lv_lstore_n (lv' := [(2, .long l2), (0, .ref h_m), (4, .int l4)]) hx hb dX9_layWays_194 rfl hl (by decide) rfl (fun ls hl => ?_)
          refine lv_iinc (v := (l4 + (1 : Int32))) (lv' := [(4, .int (l4 + (1 : Int32))), (2, .long l2), (0, .ref h_m)]) hx hb dX9_layWays_195 hl (k := 2) rfl rfl (by decide) rfl (fun ls hl => ?_)
          refine lv_goto (tgt := 159) hx hb dX9_layWays_198 (by decide) ?_
          exact ih _ _ hq _ _ hP hD hS _ (lv_sub hl [2, 1, 0] rfl)
        · replace hq := hq.2 c17
          refine lv_lload_n hx hb dX9_layWays_178 rfl (lv_at hl 1 rfl) ?_
          refine lv_aload_n hx hb dX9_layWays_179 rfl (lv_at hl 0 rfl) ?_
          refine va_get (D := (dC, dI)) (ci := 9) (v := .ref h_m_ways) (C := RX9) (T := TX9) (N := 30) hx hb hts hinX9 hown hK hP 0 rfl rfl 14 (by decide) hf52 (fun _ h9 => h9) rfl dX9_layWays_180 ?_
          refine lv_iload hx hb dX9_layWays_183 (lv_at hl 2 rfl) ?_
          obtain ⟨hv18, hq⟩ := hq
          refine va_lald hx hb hK hP 5 1 rfl rfl hv18 dX9_layWays_185 ?_
          refine lv_ladd hx hb dX9_layWays_186 ?_
          refine gx_cSl (As := [.long (l2 + (f_m_ways (l4).toNatClampNeg))]) (rest := []) ⟨hx, hb, hml, hown, hts⟩ (c_X9_capped l dC dI cI cJ cZ H.size (l2 + (f_m_ways (l4).toNatClampNeg)) hq) (va_cwS 1 hts gX9_layWays_X9_capped rfl rfl rfl hdS_X9_capped ⟨Nat.le_of_ble_eq_true rfl, Nat.le_of_ble_eq_true rfl⟩) hK hP hD hS hA [] [0, 1, 2, 3, 4, 5] rfl rfl rfl rfl rfl rfl hl.1 (Nat.le_of_ble_eq_true rfl) dX9_layWays_187 rfl (fun r19 u H locs hq hP hD hS => ?_)
          try dsimp only at hq
          have hP : va_P (dC, dI) vwCl (W_X9_layWays cI cJ cZ h_m h_m_fits h_m_top h_m_bottom h_m_may h_m_ways h_m_allowed h_m_desk h_m_letters h_m_acts h_m_thens h_m_found h_m_unlike h_m_seen h_m_seenThen h_m_power h_m_square h_m_product h_m_isLive h_m_down h_m_up h_m_ground h_m_met m_colours m_h m_w m_states m_rows m_ends m_steps m_last f_m_fits f_m_top f_m_bottom f_m_may f_m_ways) H := hP
          have hD : va_D A (W_X9_layWays cI cJ cZ h_m h_m_fits h_m_top h_m_bottom h_m_may h_m_ways h_m_allowed h_m_desk h_m_letters h_m_acts h_m_thens h_m_found h_m_unlike h_m_seen h_m_seenThen h_m_power h_m_square h_m_product h_m_isLive h_m_down h_m_up h_m_ground h_m_met m_colours m_h m_w m_states m_rows m_ends m_steps m_last f_m_fits f_m_top f_m_bottom f_m_may f_m_ways) := hD
          refine lv_goto (tgt := 194) hx hb dX9_layWays_190 (by decide) ?_
          refine lv_lstore_n (lv' := [(2, .long r19), (0, .ref h_m), (4, .int l4)]) hx hb dX9_layWays_194 rfl hl (by decide) rfl (fun ls hl => ?_)
          refine lv_iinc (v := (l4 + (1 : Int32))) (lv' := [(4, .int (l4 + (1 : Int32))), (2, .long r19), (0, .ref h_m)]) hx hb dX9_layWays_195 hl (k := 2) rfl rfl (by decide) rfl (fun ls hl => ?_)
          refine lv_goto (tgt := 159) hx hb dX9_layWays_198 (by decide) ?_
          exact ih _ _ hq _ _ hP hD hS _ (lv_sub hl [2, 1, 0] rfl)
  have C159 : ∀ (l2 : Int64) (l4 : Int32) (f_m_ways : Nat → Int64), q_X9_layWays_159 m_rows f_m_fits f_m_top f_m_bottom f_m_may post l2 l4 f_m_ways → ∀ (H : Heap) (locs : List Loc), va_P (dC, dI) vwCl (W_X9_layWays cI cJ cZ h_m h_m_fits h_m_top h_m_bottom h_m_may h_m_ways h_m_allowed h_m_desk h_m_letters h_m_acts h_m_thens h_m_found h_m_unlike h_m_seen h_m_seenThen h_m_power h_m_square h_m_product h_m_isLive h_m_down h_m_up h_m_ground h_m_met m_colours m_h m_w m_states m_rows m_ends m_steps m_last f_m_fits f_m_top f_m_bottom f_m_may f_m_ways) H → va_D A (W_X9_layWays cI cJ cZ h_m h_m_fits h_m_top h_m_bottom h_m_may h_m_ways h_m_allowed h_m_desk h_m_letters h_m_acts h_m_thens h_m_found h_m_unlike h_m_seen h_m_seenThen h_m_power h_m_square h_m_product h_m_isLive h_m_down h_m_up h_m_ground h_m_met m_colours m_h m_w m_states m_rows m_ends m_steps m_last f_m_fits f_m_top f_m_bottom f_m_may f_m_ways) → va_S A s.heap H locs → ∀ ls : Array Slot, lv_has ls 7 [(0, .ref h_m), (2, .long l2), (4, .int l4)] → W p l e rm_X9_layWays s m args below meth c H locs 0 0 QQ (F0 m 159 ls []) := by
    intro l2 l4 f_m_ways hq H locs hP hD hS ls hl
    obtain ⟨n, hq⟩ := hq
    exact L159 _ n _ _ hq H locs hP hD hS ls hl
  have C154 : ∀ (f_m_ways : Nat → Int64), q_X9_layWays_154 m_rows f_m_fits f_m_top f_m_bottom f_m_may post f_m_ways → ∀ (H : Heap) (locs : List Loc), va_P (dC, dI) vwCl (W_X9_layWays cI cJ cZ h_m h_m_fits h_m_top h_m_bottom h_m_may h_m_ways h_m_allowed h_m_desk h_m_letters h_m_acts h_m_thens h_m_found h_m_unlike h_m_seen h_m_seenThen h_m_power h_m_square h_m_product h_m_isLive h_m_down h_m_up h_m_ground h_m_met m_colours m_h m_w m_states m_rows m_ends m_steps m_last f_m_fits f_m_top f_m_bottom f_m_may f_m_ways) H → va_D A (W_X9_layWays cI cJ cZ h_m h_m_fits h_m_top h_m_bottom h_m_may h_m_ways h_m_allowed h_m_desk h_m_letters h_m_acts h_m_thens h_m_found h_m_unlike h_m_seen h_m_seenThen h_m_power h_m_square h_m_product h_m_isLive h_m_down h_m_up h_m_ground h_m_met m_colours m_h m_w m_states m_rows m_ends m_steps m_last f_m_fits f_m_top f_m_bottom f_m_may f_m_ways) → va_S A s.heap H locs → ∀ ls : Array Slot, lv_has ls 7 [(0, .ref h_m)] → W p l e rm_X9_layWays s m args below meth c H locs 0 0 QQ (F0 m 154 ls []) := by
    intro f_m_ways hq H locs hP hD hS ls hl
    unfold q_X9_layWays_154 at hq
    refine lv_lconst (v := (0 : Int64)) hx hb dX9_layWays_154 (by decide) ?_
    refine lv_lstore_n (lv' := [(2, .long (0 : Int64)), (0, .ref h_m)]) hx hb dX9_layWays_155 rfl hl (by decide) rfl (fun ls hl => ?_)
    refine lv_iconst (v := (0 : Int32)) hx hb dX9_layWays_156 (by decide) ?_
    refine lv_istore (lv' := [(4, .int (0 : Int32)), (2, .long (0 : Int64)), (0, .ref h_m)]) hx hb dX9_layWays_157 hl (by decide) rfl (fun ls hl => ?_)
    exact C159 _ _ _ hq _ _ hP hD hS _ (lv_sub hl [2, 1, 0] rfl)
  have C4 : ∀ (l1 : Int32) (l2 : Int32) (f_m_ways : Nat → Int64), q_X9_layWays_4 m_rows f_m_fits f_m_top f_m_bottom f_m_may post l1 l2 f_m_ways → ∀ (H : Heap) (locs : List Loc), va_P (dC, dI) vwCl (W_X9_layWays cI cJ cZ h_m h_m_fits h_m_top h_m_bottom h_m_may h_m_ways h_m_allowed h_m_desk h_m_letters h_m_acts h_m_thens h_m_found h_m_unlike h_m_seen h_m_seenThen h_m_power h_m_square h_m_product h_m_isLive h_m_down h_m_up h_m_ground h_m_met m_colours m_h m_w m_states m_rows m_ends m_steps m_last f_m_fits f_m_top f_m_bottom f_m_may f_m_ways) H → va_D A (W_X9_layWays cI cJ cZ h_m h_m_fits h_m_top h_m_bottom h_m_may h_m_ways h_m_allowed h_m_desk h_m_letters h_m_acts h_m_thens h_m_found h_m_unlike h_m_seen h_m_seenThen h_m_power h_m_square h_m_product h_m_isLive h_m_down h_m_up h_m_ground h_m_met m_colours m_h m_w m_states m_rows m_ends m_steps m_last f_m_fits f_m_top f_m_bottom f_m_may f_m_ways) → va_S A s.heap H locs → ∀ ls : Array Slot, lv_has ls 7 [(0, .ref h_m), (1, .int l1), (2, .int l2)] → W p l e rm_X9_layWays s m args below meth c H locs 0 0 QQ (F0 m 4 ls []) := by
    intro l1 l2 f_m_ways hq H locs hP hD hS ls hl
    obtain ⟨n, hq⟩ := hq
    exact L4 _ C154 _ n _ _ hq H locs hP hD hS ls hl
  unfold q_X9_layWays at hq
  refine lv_iload_n hx hb dX9_layWays_0 rfl (lv_at hl 1 rfl) ?_
  refine lv_iconst (v := (1 : Int32)) hx hb dX9_layWays_1 (by decide) ?_
  refine lv_isub hx hb dX9_layWays_2 ?_
  refine lv_istore_n (lv' := [(2, .int (l1 - (1 : Int32))), (0, .ref h_m), (1, .int l1)]) hx hb dX9_layWays_3 rfl hl (by decide) rfl (fun ls hl => ?_)
  exact C4 _ _ _ hq _ _ hP hD hS _ (lv_sub hl [1, 2, 0] rfl)
