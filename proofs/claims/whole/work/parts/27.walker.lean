abbrev W_X7_become (cI cJ cZ : ClassId) (h_goer h_goer_acts h_goer_thens h_goer_been : Nat) (goer_states : Int32) (goer_walks : Int32) (goer_x : Int32) (goer_y : Int32) (goer_end : Int32) (goer_steps : Int32) (goer_state : Int32) (goer_lowestRow : Int32) (f_goer_acts : Nat → Int32) (f_goer_thens : Nat → Int32) : va_W := [(h_goer, .inr (7, [.int goer_states, .ref h_goer_acts, .ref h_goer_thens, .ref h_goer_been, .int goer_walks, .int goer_x, .int goer_y, .int goer_end, .int goer_steps, .int goer_state, .int goer_lowestRow])), (h_goer_acts, .inl (cI, 20, .inl f_goer_acts)), (h_goer_thens, .inl (cI, 20, .inl f_goer_thens))]
abbrev rm_X7_become : Room := { frames := 1, cells := 0, slots := 0, locals := 23 }
def q_X7_become (goer_states : Int32) (f_goer_acts : Nat → Int32) (f_goer_thens : Nat → Int32) (l1 : Int32) (post : (Int32) → (Nat → Int32) → (Nat → Int32) → Prop) : Prop := (q_J7_fill_53178 20 f_goer_acts (5 : Int32) (fun (f_goer_acts_1 : Nat → Int32) => (q_J7_fill_53178 20 f_goer_thens (0 : Int32) (fun (f_goer_thens_2 : Nat → Int32) => (post l1 f_goer_acts_1 f_goer_thens_2)))))
theorem hdV_X7_become : yX7_become.cls = RX7 ∧ yX7_become.cls ≠ "java/lang/invoke/MethodHandle" ∧ yX7_become.cls ≠ "java/lang/invoke/VarHandle" ∧ (parseMethodDescriptor yX7_become.desc).map (fun d => d.parameters.length) = some 1 := by decide +kernel
set_option maxHeartbeats 4000000 in
set_option maxRecDepth 100000 in
theorem c_X7_become (l : Launch) (dC : Nat → ClassId) (dI : Nat → Nat → Nat) (cI cJ cZ : ClassId) (h_goer h_goer_acts h_goer_thens h_goer_been : Nat) (sz : Nat) (goer_states : Int32) (goer_walks : Int32) (goer_x : Int32) (goer_y : Int32) (goer_end : Int32) (goer_steps : Int32) (goer_state : Int32) (goer_lowestRow : Int32) (f_goer_acts : Nat → Int32) (f_goer_thens : Nat → Int32) (l1 : Int32) {post : (Int32) → (Nat → Int32) → (Nat → Int32) → Prop} (hq : q_X7_become goer_states f_goer_acts f_goer_thens l1 post) : Met l yX7_become wsX7_become rm_X7_become (va_Pc [.ref h_goer, .int l1] (gx_Pre (dC, dI) vwCl (gx_tys cI cJ cZ) sz (W_X7_become cI cJ cZ h_goer h_goer_acts h_goer_thens h_goer_been goer_states goer_walks goer_x goer_y goer_end goer_steps goer_state goer_lowestRow f_goer_acts f_goer_thens))) (va_Qv (fun (u : (Int32) × (Nat → Int32) × (Nat → Int32)) => post u.1 u.2.1 u.2.2) (gx_B (dC, dI) vwCl (gx_tys cI cJ cZ) (va_A (W_X7_become cI cJ cZ h_goer h_goer_acts h_goer_thens h_goer_been goer_states goer_walks goer_x goer_y goer_end goer_steps goer_state goer_lowestRow f_goer_acts f_goer_thens) sz) (fun (u : (Int32) × (Nat → Int32) × (Nat → Int32)) => (W_X7_become cI cJ cZ h_goer h_goer_acts h_goer_thens h_goer_been u.1 goer_walks goer_x goer_y goer_end goer_steps goer_state goer_lowestRow u.2.1 u.2.2))) (va_A (W_X7_become cI cJ cZ h_goer h_goer_acts h_goer_thens h_goer_been goer_states goer_walks goer_x goer_y goer_end goer_steps goer_state goer_lowestRow f_goer_acts f_goer_thens) sz)) 0 0 (va_A (W_X7_become cI cJ cZ h_goer h_goer_acts h_goer_thens h_goer_been goer_states goer_walks goer_x goer_y goer_end goer_steps goer_state goer_lowestRow f_goer_acts f_goer_thens) sz) := by
  refine gx_v (cc := cX7_become) (maxL := 2) (by decide) rfl (Nat.le_of_ble_eq_true rfl) ?_
  intro p e s m args below meth c A QQ hx hb hml hown hts hA hP hK hD hret ls hl
  have hown : s.vm.findClass RX7 = some m.cls := hown
  have hf9 := hts (.fieldLink RX7 9 "SmallWindows$Walker" "states" "I") (by decide +kernel)
  have hf15 := hts (.fieldLink RX7 15 "SmallWindows$Walker" "acts" "[I") (by decide +kernel)
  have hf19 := hts (.fieldLink RX7 19 "SmallWindows$Walker" "thens" "[I") (by decide +kernel)
  have hinX7 : ∀ w ∈ u_ws RX7 TX7 11, w ∈ wsX7_become := fun w h => List.mem_cons_of_mem _ ((List.mem_append_right _ h))
  have hS : va_S A s.heap s.heap [] := va_S.rf
  have hl : lv_has ls 2 [(0, .ref h_goer), (1, .int l1)] := hl
  unfold q_X7_become at hq
  refine lv_aload_n hx hb dX7_become_0 rfl (lv_at hl 0 rfl) ?_
  refine lv_iload_n hx hb dX7_become_1 rfl (lv_at hl 1 rfl) ?_
  refine va_put (D := (dC, dI)) (ci := 7) (v := .int l1) (ty := tyX7 0) (C := RX7) (T := TX7) (N := 11) hx hb hts hinX7 tyX7 tyX7_ok nmX7 hown hK hP hD hS 0 rfl rfl 0 (by decide) hf9 (fun _ h9 => h9) rfl (tyX7_ok 0 (by decide)) rfl rfl (Nat.le_of_ble_eq_true rfl) dX7_become_2 (fun H locs hP hD hS => ?_)
  have hP : va_P (dC, dI) vwCl (W_X7_become cI cJ cZ h_goer h_goer_acts h_goer_thens h_goer_been l1 goer_walks goer_x goer_y goer_end goer_steps goer_state goer_lowestRow f_goer_acts f_goer_thens) H := hP
  have hD : va_D A (W_X7_become cI cJ cZ h_goer h_goer_acts h_goer_thens h_goer_been l1 goer_walks goer_x goer_y goer_end goer_steps goer_state goer_lowestRow f_goer_acts f_goer_thens) := hD
  refine lv_aload_n hx hb dX7_become_5 rfl (lv_at hl 0 rfl) ?_
  refine va_get (D := (dC, dI)) (ci := 7) (v := .ref h_goer_acts) (C := RX7) (T := TX7) (N := 11) hx hb hts hinX7 hown hK hP 0 rfl rfl 1 (by decide) hf15 (fun _ h9 => h9) rfl dX7_become_6 ?_
  refine lv_iconst (v := (5 : Int32)) hx hb dX7_become_9 (by decide) ?_
  refine gx_cSv (As := [.ref h_goer_acts, .int (5 : Int32)]) (rest := []) ⟨hx, hb, hml, hown, hts⟩ (c_J7_fill_53178 l dC dI cI cJ cZ h_goer_acts H.size 20 f_goer_acts (5 : Int32) hq) (va_cwS 2 hts gX7_become_J7_fill_53178 rfl rfl rfl hdS_J7_fill_53178 ⟨Nat.le_of_ble_eq_true rfl, Nat.le_of_ble_eq_true rfl⟩) hK hP hD hS hA [1] [0, 2] rfl rfl rfl rfl rfl rfl hl.1 (Nat.le_of_ble_eq_true rfl) dX7_become_10 rfl (fun u H locs hq hP hD hS => ?_)
  obtain ⟨f_goer_acts_1, rfl⟩ : ∃ z, z = u := ⟨_, rfl⟩
  try dsimp only at hq
  have hP : va_P (dC, dI) vwCl (W_X7_become cI cJ cZ h_goer h_goer_acts h_goer_thens h_goer_been l1 goer_walks goer_x goer_y goer_end goer_steps goer_state goer_lowestRow f_goer_acts_1 f_goer_thens) H := hP.sub [0, 2, 1] rfl
  have hD : va_D A (W_X7_become cI cJ cZ h_goer h_goer_acts h_goer_thens h_goer_been l1 goer_walks goer_x goer_y goer_end goer_steps goer_state goer_lowestRow f_goer_acts_1 f_goer_thens) := hD.sub [0, 2, 1] (by decide) rfl
  refine lv_aload_n hx hb dX7_become_13 rfl (lv_at hl 0 rfl) ?_
  refine va_get (D := (dC, dI)) (ci := 7) (v := .ref h_goer_thens) (C := RX7) (T := TX7) (N := 11) hx hb hts hinX7 hown hK hP 0 rfl rfl 2 (by decide) hf19 (fun _ h9 => h9) rfl dX7_become_14 ?_
  refine lv_iconst (v := (0 : Int32)) hx hb dX7_become_17 (by decide) ?_
  refine gx_cSv (As := [.ref h_goer_thens, .int (0 : Int32)]) (rest := []) ⟨hx, hb, hml, hown, hts⟩ (c_J7_fill_53178 l dC dI cI cJ cZ h_goer_thens H.size 20 f_goer_thens (0 : Int32) hq) (va_cwS 2 hts gX7_become_J7_fill_53178 rfl rfl rfl hdS_J7_fill_53178 ⟨Nat.le_of_ble_eq_true rfl, Nat.le_of_ble_eq_true rfl⟩) hK hP hD hS hA [2] [0, 1] rfl rfl rfl rfl rfl rfl hl.1 (Nat.le_of_ble_eq_true rfl) dX7_become_18 rfl (fun u H locs hq hP hD hS => ?_)
  obtain ⟨f_goer_thens_2, rfl⟩ : ∃ z, z = u := ⟨_, rfl⟩
  try dsimp only at hq
  have hP : va_P (dC, dI) vwCl (W_X7_become cI cJ cZ h_goer h_goer_acts h_goer_thens h_goer_been l1 goer_walks goer_x goer_y goer_end goer_steps goer_state goer_lowestRow f_goer_acts_1 f_goer_thens_2) H := hP
  have hD : va_D A (W_X7_become cI cJ cZ h_goer h_goer_acts h_goer_thens h_goer_been l1 goer_walks goer_x goer_y goer_end goer_steps goer_state goer_lowestRow f_goer_acts_1 f_goer_thens_2) := hD
  exact hret (l1, f_goer_acts_1, f_goer_thens_2) hq _ _ hP hD hS _ _ dX7_become_21

abbrev W_X7_hasState (cI cJ cZ : ClassId) (h_goer h_goer_acts h_goer_thens h_goer_been : Nat) (goer_states : Int32) (goer_walks : Int32) (goer_x : Int32) (goer_y : Int32) (goer_end : Int32) (goer_steps : Int32) (goer_state : Int32) (goer_lowestRow : Int32) : va_W := [(h_goer, .inr (7, [.int goer_states, .ref h_goer_acts, .ref h_goer_thens, .ref h_goer_been, .int goer_walks, .int goer_x, .int goer_y, .int goer_end, .int goer_steps, .int goer_state, .int goer_lowestRow]))]
abbrev rm_X7_hasState : Room := { frames := 0, cells := 0, slots := 0, locals := 0 }
def q_X7_hasState (goer_states : Int32) (l1 : Int32) (post : Int32 → Prop) : Prop := ((l1 < 0 → (post (0 : Int32))) ∧ (¬ l1 < 0 → ((goer_states ≤ l1 → (post (0 : Int32))) ∧ (¬ goer_states ≤ l1 → (post (1 : Int32))))))
theorem hdV_X7_hasState : yX7_hasState.cls = RX7 ∧ yX7_hasState.cls ≠ "java/lang/invoke/MethodHandle" ∧ yX7_hasState.cls ≠ "java/lang/invoke/VarHandle" ∧ (parseMethodDescriptor yX7_hasState.desc).map (fun d => d.parameters.length) = some 1 := by decide +kernel
set_option maxHeartbeats 4000000 in
set_option maxRecDepth 100000 in
theorem c_X7_hasState (l : Launch) (dC : Nat → ClassId) (dI : Nat → Nat → Nat) (cI cJ cZ : ClassId) (h_goer h_goer_acts h_goer_thens h_goer_been : Nat) (sz : Nat) (goer_states : Int32) (goer_walks : Int32) (goer_x : Int32) (goer_y : Int32) (goer_end : Int32) (goer_steps : Int32) (goer_state : Int32) (goer_lowestRow : Int32) (l1 : Int32) {post : Int32 → Prop} (hq : q_X7_hasState goer_states l1 post) : Met l yX7_hasState wsX7_hasState rm_X7_hasState (va_Pc [.ref h_goer, .int l1] (gx_Pre (dC, dI) vwCl (gx_tys cI cJ cZ) sz (W_X7_hasState cI cJ cZ h_goer h_goer_acts h_goer_thens h_goer_been goer_states goer_walks goer_x goer_y goer_end goer_steps goer_state goer_lowestRow))) (va_Qi (fun (r : Int32) (u : Unit) => post r) (gx_B (dC, dI) vwCl (gx_tys cI cJ cZ) (va_A (W_X7_hasState cI cJ cZ h_goer h_goer_acts h_goer_thens h_goer_been goer_states goer_walks goer_x goer_y goer_end goer_steps goer_state goer_lowestRow) sz) (fun (u : Unit) => (W_X7_hasState cI cJ cZ h_goer h_goer_acts h_goer_thens h_goer_been goer_states goer_walks goer_x goer_y goer_end goer_steps goer_state goer_lowestRow))) (va_A (W_X7_hasState cI cJ cZ h_goer h_goer_acts h_goer_thens h_goer_been goer_states goer_walks goer_x goer_y goer_end goer_steps goer_state goer_lowestRow) sz)) 0 0 (va_A (W_X7_hasState cI cJ cZ h_goer h_goer_acts h_goer_thens h_goer_been goer_states goer_walks goer_x goer_y goer_end goer_steps goer_state goer_lowestRow) sz) := by
  refine gx_z (cc := cX7_hasState) (maxL := 2) (by decide) rfl (Nat.le_of_ble_eq_true rfl) ?_
  intro p e s m args below meth c A QQ hx hb hml hown hts hA hP hK hD hret ls hl
  have hown : s.vm.findClass RX7 = some m.cls := hown
  have hf9 := hts (.fieldLink RX7 9 "SmallWindows$Walker" "states" "I") (by decide +kernel)
  have hinX7 : ∀ w ∈ u_ws RX7 TX7 11, w ∈ wsX7_hasState := fun w h => List.mem_cons_of_mem _ ((List.mem_append_right _ h))
  have hS : va_S A s.heap s.heap [] := va_S.rf
  have hl : lv_has ls 2 [(0, .ref h_goer), (1, .int l1)] := hl
  unfold q_X7_hasState at hq
  refine lv_iload_n hx hb dX7_hasState_0 rfl (lv_at hl 1 rfl) ?_
  refine lv_if_lt (tgt := 16) hx hb dX7_hasState_1 (by decide) (fun c1 => ?_) (fun c1 => ?_)
  · replace hq := hq.1 c1
    refine lv_iconst (v := (0 : Int32)) hx hb dX7_hasState_16 (by decide) ?_
    exact hret (0 : Int32) () (Or.inl rfl) hq _ _ hP hD hS _ _ dX7_hasState_17
  · replace hq := hq.2 c1
    refine lv_iload_n hx hb dX7_hasState_4 rfl (lv_at hl 1 rfl) ?_
    refine lv_aload_n hx hb dX7_hasState_5 rfl (lv_at hl 0 rfl) ?_
    refine va_get (D := (dC, dI)) (ci := 7) (v := .int goer_states) (C := RX7) (T := TX7) (N := 11) hx hb hts hinX7 hown hK hP 0 rfl rfl 0 (by decide) hf9 (fun _ h9 => h9) rfl dX7_hasState_6 ?_
    refine lv_icmp_ge (tgt := 16) hx hb dX7_hasState_9 (by decide) (fun c2 => ?_) (fun c2 => ?_)
    · replace hq := hq.1 c2
      refine lv_iconst (v := (0 : Int32)) hx hb dX7_hasState_16 (by decide) ?_
      exact hret (0 : Int32) () (Or.inl rfl) hq _ _ hP hD hS _ _ dX7_hasState_17
    · replace hq := hq.2 c2
      refine lv_iconst (v := (1 : Int32)) hx hb dX7_hasState_12 (by decide) ?_
      refine lv_goto (tgt := 17) hx hb dX7_hasState_13 (by decide) ?_
      exact hret (1 : Int32) () (Or.inr rfl) hq _ _ hP hD hS _ _ dX7_hasState_17

abbrev W_X7_teach (cI cJ cZ : ClassId) (h_goer h_goer_acts h_goer_thens h_goer_been : Nat) (goer_states : Int32) (goer_walks : Int32) (goer_x : Int32) (goer_y : Int32) (goer_end : Int32) (goer_steps : Int32) (goer_state : Int32) (goer_lowestRow : Int32) (f_goer_acts : Nat → Int32) (f_goer_thens : Nat → Int32) : va_W := [(h_goer, .inr (7, [.int goer_states, .ref h_goer_acts, .ref h_goer_thens, .ref h_goer_been, .int goer_walks, .int goer_x, .int goer_y, .int goer_end, .int goer_steps, .int goer_state, .int goer_lowestRow])), (h_goer_acts, .inl (cI, 20, .inl f_goer_acts)), (h_goer_thens, .inl (cI, 20, .inl f_goer_thens))]
abbrev rm_X7_teach : Room := { frames := 0, cells := 0, slots := 0, locals := 0 }
def q_X7_teach (f_goer_acts : Nat → Int32) (f_goer_thens : Nat → Int32) (l1 : Int32) (l2 : Int32) (l3 : Int32) (l4 : Int32) (post : (Nat → Int32) → (Nat → Int32) → Prop) : Prop := (vp_in ((l1 * (4 : Int32)) + l2) 20 ∧ (vp_in ((l1 * (4 : Int32)) + l2) 20 ∧ (post (upd f_goer_acts (((l1 * (4 : Int32)) + l2)).toNatClampNeg l3) (upd f_goer_thens (((l1 * (4 : Int32)) + l2)).toNatClampNeg l4))))
theorem hdV_X7_teach : yX7_teach.cls = RX7 ∧ yX7_teach.cls ≠ "java/lang/invoke/MethodHandle" ∧ yX7_teach.cls ≠ "java/lang/invoke/VarHandle" ∧ (parseMethodDescriptor yX7_teach.desc).map (fun d => d.parameters.length) = some 4 := by decide +kernel
set_option maxHeartbeats 4000000 in
set_option maxRecDepth 100000 in
theorem c_X7_teach (l : Launch) (dC : Nat → ClassId) (dI : Nat → Nat → Nat) (cI cJ cZ : ClassId) (h_goer h_goer_acts h_goer_thens h_goer_been : Nat) (sz : Nat) (goer_states : Int32) (goer_walks : Int32) (goer_x : Int32) (goer_y : Int32) (goer_end : Int32) (goer_steps : Int32) (goer_state : Int32) (goer_lowestRow : Int32) (f_goer_acts : Nat → Int32) (f_goer_thens : Nat → Int32) (l1 : Int32) (l2 : Int32) (l3 : Int32) (l4 : Int32) {post : (Nat → Int32) → (Nat → Int32) → Prop} (hq : q_X7_teach f_goer_acts f_goer_thens l1 l2 l3 l4 post) : Met l yX7_teach wsX7_teach rm_X7_teach (va_Pc [.ref h_goer, .int l1, .int l2, .int l3, .int l4] (gx_Pre (dC, dI) vwCl (gx_tys cI cJ cZ) sz (W_X7_teach cI cJ cZ h_goer h_goer_acts h_goer_thens h_goer_been goer_states goer_walks goer_x goer_y goer_end goer_steps goer_state goer_lowestRow f_goer_acts f_goer_thens))) (va_Qv (fun (u : (Nat → Int32) × (Nat → Int32)) => post u.1 u.2) (gx_B (dC, dI) vwCl (gx_tys cI cJ cZ) (va_A (W_X7_teach cI cJ cZ h_goer h_goer_acts h_goer_thens h_goer_been goer_states goer_walks goer_x goer_y goer_end goer_steps goer_state goer_lowestRow f_goer_acts f_goer_thens) sz) (fun (u : (Nat → Int32) × (Nat → Int32)) => (W_X7_teach cI cJ cZ h_goer h_goer_acts h_goer_thens h_goer_been goer_states goer_walks goer_x goer_y goer_end goer_steps goer_state goer_lowestRow u.1 u.2))) (va_A (W_X7_teach cI cJ cZ h_goer h_goer_acts h_goer_thens h_goer_been goer_states goer_walks goer_x goer_y goer_end goer_steps goer_state goer_lowestRow f_goer_acts f_goer_thens) sz)) 0 0 (va_A (W_X7_teach cI cJ cZ h_goer h_goer_acts h_goer_thens h_goer_been goer_states goer_walks goer_x goer_y goer_end goer_steps goer_state goer_lowestRow f_goer_acts f_goer_thens) sz) := by
  refine gx_v (cc := cX7_teach) (maxL := 5) (by decide) rfl (Nat.le_of_ble_eq_true rfl) ?_
  intro p e s m args below meth c A QQ hx hb hml hown hts hA hP hK hD hret ls hl
  have hown : s.vm.findClass RX7 = some m.cls := hown
  have hf15 := hts (.fieldLink RX7 15 "SmallWindows$Walker" "acts" "[I") (by decide +kernel)
  have hf19 := hts (.fieldLink RX7 19 "SmallWindows$Walker" "thens" "[I") (by decide +kernel)
  have hinX7 : ∀ w ∈ u_ws RX7 TX7 11, w ∈ wsX7_teach := fun w h => List.mem_cons_of_mem _ ((List.mem_append_right _ h))
  have hS : va_S A s.heap s.heap [] := va_S.rf
  have hl : lv_has ls 5 [(0, .ref h_goer), (1, .int l1), (2, .int l2), (3, .int l3), (4, .int l4)] := hl
  unfold q_X7_teach at hq
  refine lv_aload_n hx hb dX7_teach_0 rfl (lv_at hl 0 rfl) ?_
  refine va_get (D := (dC, dI)) (ci := 7) (v := .ref h_goer_acts) (C := RX7) (T := TX7) (N := 11) hx hb hts hinX7 hown hK hP 0 rfl rfl 1 (by decide) hf15 (fun _ h9 => h9) rfl dX7_teach_1 ?_
  refine lv_iload_n hx hb dX7_teach_4 rfl (lv_at hl 1 rfl) ?_
  refine lv_iconst (v := (4 : Int32)) hx hb dX7_teach_5 (by decide) ?_
  refine lv_imul hx hb dX7_teach_6 ?_
  refine lv_iload_n hx hb dX7_teach_7 rfl (lv_at hl 2 rfl) ?_
  refine lv_iadd hx hb dX7_teach_8 ?_
  refine lv_iload_n hx hb dX7_teach_9 rfl (lv_at hl 3 rfl) ?_
  obtain ⟨hv1, hq⟩ := hq
  refine va_iast hx hb hK hP hD hS 1 0 rfl rfl hv1 dX7_teach_10 (fun H locs hP hD hS => ?_)
  have hP : va_P (dC, dI) vwCl (W_X7_teach cI cJ cZ h_goer h_goer_acts h_goer_thens h_goer_been goer_states goer_walks goer_x goer_y goer_end goer_steps goer_state goer_lowestRow (upd f_goer_acts (((l1 * (4 : Int32)) + l2)).toNatClampNeg l3) f_goer_thens) H := hP
  have hD : va_D A (W_X7_teach cI cJ cZ h_goer h_goer_acts h_goer_thens h_goer_been goer_states goer_walks goer_x goer_y goer_end goer_steps goer_state goer_lowestRow (upd f_goer_acts (((l1 * (4 : Int32)) + l2)).toNatClampNeg l3) f_goer_thens) := hD
  refine lv_aload_n hx hb dX7_teach_11 rfl (lv_at hl 0 rfl) ?_
  refine va_get (D := (dC, dI)) (ci := 7) (v := .ref h_goer_thens) (C := RX7) (T := TX7) (N := 11) hx hb hts hinX7 hown hK hP 0 rfl rfl 2 (by decide) hf19 (fun _ h9 => h9) rfl dX7_teach_12 ?_
  refine lv_iload_n hx hb dX7_teach_15 rfl (lv_at hl 1 rfl) ?_
  refine lv_iconst (v := (4 : Int32)) hx hb dX7_teach_16 (by decide) ?_
  refine lv_imul hx hb dX7_teach_17 ?_
  refine lv_iload_n hx hb dX7_teach_18 rfl (lv_at hl 2 rfl) ?_
  refine lv_iadd hx hb dX7_teach_19 ?_
  refine lv_iload hx hb dX7_teach_20 (lv_at hl 4 rfl) ?_
  obtain ⟨hv2, hq⟩ := hq
  refine va_iast hx hb hK hP hD hS 2 0 rfl rfl hv2 dX7_teach_22 (fun H locs hP hD hS => ?_)
  have hP : va_P (dC, dI) vwCl (W_X7_teach cI cJ cZ h_goer h_goer_acts h_goer_thens h_goer_been goer_states goer_walks goer_x goer_y goer_end goer_steps goer_state goer_lowestRow (upd f_goer_acts (((l1 * (4 : Int32)) + l2)).toNatClampNeg l3) (upd f_goer_thens (((l1 * (4 : Int32)) + l2)).toNatClampNeg l4)) H := hP
  have hD : va_D A (W_X7_teach cI cJ cZ h_goer h_goer_acts h_goer_thens h_goer_been goer_states goer_walks goer_x goer_y goer_end goer_steps goer_state goer_lowestRow (upd f_goer_acts (((l1 * (4 : Int32)) + l2)).toNatClampNeg l3) (upd f_goer_thens (((l1 * (4 : Int32)) + l2)).toNatClampNeg l4)) := hD
  exact hret ((upd f_goer_acts (((l1 * (4 : Int32)) + l2)).toNatClampNeg l3), (upd f_goer_thens (((l1 * (4 : Int32)) + l2)).toNatClampNeg l4)) hq _ _ hP hD hS _ _ dX7_teach_23

abbrev W_X7_isNewHere (cI cJ cZ : ClassId) (h_goer h_goer_been h_S h_goer_acts h_goer_thens h_S_cells : Nat) (goer_states : Int32) (goer_walks : Int32) (goer_x : Int32) (goer_y : Int32) (goer_end : Int32) (goer_steps : Int32) (goer_state : Int32) (goer_lowestRow : Int32) (f_goer_been : Nat → Int32) (S_h : Int32) (S_w : Int32) : va_W := [(h_goer, .inr (7, [.int goer_states, .ref h_goer_acts, .ref h_goer_thens, .ref h_goer_been, .int goer_walks, .int goer_x, .int goer_y, .int goer_end, .int goer_steps, .int goer_state, .int goer_lowestRow])), (h_goer_been, .inl (cI, 245, .inl f_goer_been)), (h_S, .inr (4, [.int S_h, .int S_w, .ref h_S_cells]))]
abbrev rm_X7_isNewHere : Room := { frames := 0, cells := 0, slots := 0, locals := 0 }
def q_X7_isNewHere (goer_walks : Int32) (goer_x : Int32) (goer_y : Int32) (goer_state : Int32) (S_w : Int32) (goer_end : Int32) (f_goer_been : Nat → Int32) (post : Int32 → (Int32) → (Nat → Int32) → Prop) : Prop := (∀ v1 : Int32, v1 = ((((goer_y + (1 : Int32)) * (S_w + (2 : Int32))) + goer_x) + (1 : Int32)) → (vp_in ((v1 * (5 : Int32)) + goer_state) 245 ∧ ((¬ (f_goer_been (((v1 * (5 : Int32)) + goer_state)).toNatClampNeg) = goer_walks → (vp_in ((v1 * (5 : Int32)) + goer_state) 245 ∧ (post (1 : Int32) goer_end (upd f_goer_been (((v1 * (5 : Int32)) + goer_state)).toNatClampNeg goer_walks)))) ∧ ((f_goer_been (((v1 * (5 : Int32)) + goer_state)).toNatClampNeg) = goer_walks → (post (0 : Int32) (2 : Int32) f_goer_been)))))
theorem hdV_X7_isNewHere : yX7_isNewHere.cls = RX7 ∧ yX7_isNewHere.cls ≠ "java/lang/invoke/MethodHandle" ∧ yX7_isNewHere.cls ≠ "java/lang/invoke/VarHandle" ∧ (parseMethodDescriptor yX7_isNewHere.desc).map (fun d => d.parameters.length) = some 1 := by decide +kernel
set_option maxHeartbeats 4000000 in
set_option maxRecDepth 100000 in
theorem c_X7_isNewHere (l : Launch) (dC : Nat → ClassId) (dI : Nat → Nat → Nat) (cI cJ cZ : ClassId) (h_goer h_goer_been h_S h_goer_acts h_goer_thens h_S_cells : Nat) (sz : Nat) (goer_states : Int32) (goer_walks : Int32) (goer_x : Int32) (goer_y : Int32) (goer_end : Int32) (goer_steps : Int32) (goer_state : Int32) (goer_lowestRow : Int32) (f_goer_been : Nat → Int32) (S_h : Int32) (S_w : Int32)  {post : Int32 → (Int32) → (Nat → Int32) → Prop} (hq : q_X7_isNewHere goer_walks goer_x goer_y goer_state S_w goer_end f_goer_been post) : Met l yX7_isNewHere wsX7_isNewHere rm_X7_isNewHere (va_Pc [.ref h_goer, .ref h_S] (gx_Pre (dC, dI) vwCl (gx_tys cI cJ cZ) sz (W_X7_isNewHere cI cJ cZ h_goer h_goer_been h_S h_goer_acts h_goer_thens h_S_cells goer_states goer_walks goer_x goer_y goer_end goer_steps goer_state goer_lowestRow f_goer_been S_h S_w))) (va_Qi (fun (r : Int32) (u : (Int32) × (Nat → Int32)) => post r u.1 u.2) (gx_B (dC, dI) vwCl (gx_tys cI cJ cZ) (va_A (W_X7_isNewHere cI cJ cZ h_goer h_goer_been h_S h_goer_acts h_goer_thens h_S_cells goer_states goer_walks goer_x goer_y goer_end goer_steps goer_state goer_lowestRow f_goer_been S_h S_w) sz) (fun (u : (Int32) × (Nat → Int32)) => (W_X7_isNewHere cI cJ cZ h_goer h_goer_been h_S h_goer_acts h_goer_thens h_S_cells goer_states goer_walks goer_x goer_y u.1 goer_steps goer_state goer_lowestRow u.2 S_h S_w))) (va_A (W_X7_isNewHere cI cJ cZ h_goer h_goer_been h_S h_goer_acts h_goer_thens h_S_cells goer_states goer_walks goer_x goer_y goer_end goer_steps goer_state goer_lowestRow f_goer_been S_h S_w) sz)) 0 0 (va_A (W_X7_isNewHere cI cJ cZ h_goer h_goer_been h_S h_goer_acts h_goer_thens h_S_cells goer_states goer_walks goer_x goer_y goer_end goer_steps goer_state goer_lowestRow f_goer_been S_h S_w) sz) := by
  refine gx_z (cc := cX7_isNewHere) (maxL := 4) (by decide) rfl (Nat.le_of_ble_eq_true rfl) ?_
  intro p e s m args below meth c A QQ hx hb hml hown hts hA hP hK hD hret ls hl
  have hown : s.vm.findClass RX7 = some m.cls := hown
  have hf31 := hts (.fieldLink RX7 31 "SmallWindows$Walker" "y" "I") (by decide +kernel)
  have hf59 := hts (.fieldLink RX7 59 "SmallWindows$Sheet" "w" "I") (by decide +kernel)
  have hf28 := hts (.fieldLink RX7 28 "SmallWindows$Walker" "x" "I") (by decide +kernel)
  have hf40 := hts (.fieldLink RX7 40 "SmallWindows$Walker" "state" "I") (by decide +kernel)
  have hf22 := hts (.fieldLink RX7 22 "SmallWindows$Walker" "been" "[I") (by decide +kernel)
  have hf25 := hts (.fieldLink RX7 25 "SmallWindows$Walker" "walks" "I") (by decide +kernel)
  have hf34 := hts (.fieldLink RX7 34 "SmallWindows$Walker" "end" "I") (by decide +kernel)
  have hinX7 : ∀ w ∈ u_ws RX7 TX7 11, w ∈ wsX7_isNewHere := fun w h => List.mem_cons_of_mem _ ((List.mem_append_left _ (List.mem_append_right _ h)))
  have hinX4 : ∀ w ∈ u_ws RX4 TX4 3, w ∈ wsX7_isNewHere := fun w h => List.mem_cons_of_mem _ ((List.mem_append_right _ h))
  have hS : va_S A s.heap s.heap [] := va_S.rf
  have hl : lv_has ls 4 [(0, .ref h_goer), (1, .ref h_S)] := hl
  unfold q_X7_isNewHere at hq
  refine lv_aload_n hx hb dX7_isNewHere_0 rfl (lv_at hl 0 rfl) ?_
  refine va_get (D := (dC, dI)) (ci := 7) (v := .int goer_y) (C := RX7) (T := TX7) (N := 11) hx hb hts hinX7 hown hK hP 0 rfl rfl 6 (by decide) hf31 (fun _ h9 => h9) rfl dX7_isNewHere_1 ?_
  refine lv_iconst (v := (1 : Int32)) hx hb dX7_isNewHere_4 (by decide) ?_
  refine lv_iadd hx hb dX7_isNewHere_5 ?_
  refine lv_aload_n hx hb dX7_isNewHere_6 rfl (lv_at hl 1 rfl) ?_
  refine va_get (D := (dC, dI)) (ci := 4) (v := .int S_w) (C := RX4) (T := TX4) (N := 3) hx hb hts hinX4 hown hK hP 2 rfl rfl 1 (by decide) hf59 (fun _ h9 => h9) rfl dX7_isNewHere_7 ?_
  refine lv_iconst (v := (2 : Int32)) hx hb dX7_isNewHere_10 (by decide) ?_
  refine lv_iadd hx hb dX7_isNewHere_11 ?_
  refine lv_imul hx hb dX7_isNewHere_12 ?_
  refine lv_aload_n hx hb dX7_isNewHere_13 rfl (lv_at hl 0 rfl) ?_
  refine va_get (D := (dC, dI)) (ci := 7) (v := .int goer_x) (C := RX7) (T := TX7) (N := 11) hx hb hts hinX7 hown hK hP 0 rfl rfl 5 (by decide) hf28 (fun _ h9 => h9) rfl dX7_isNewHere_14 ?_
  refine lv_iadd hx hb dX7_isNewHere_17 ?_
  refine lv_iconst (v := (1 : Int32)) hx hb dX7_isNewHere_18 (by decide) ?_
  refine lv_iadd hx hb dX7_isNewHere_19 ?_
  refine lv_topi (fun v1 ev1 => ?_)
  replace hq := hq v1 ev1
  refine lv_istore_n (lv' := [(2, .int v1), (0, .ref h_goer), (1, .ref h_S)]) hx hb dX7_isNewHere_20 rfl hl (by decide) rfl (fun ls hl => ?_)
  refine lv_iload_n hx hb dX7_isNewHere_21 rfl (lv_at hl 0 rfl) ?_
  refine lv_iconst (v := (5 : Int32)) hx hb dX7_isNewHere_22 (by decide) ?_
  refine lv_imul hx hb dX7_isNewHere_23 ?_
  refine lv_aload_n hx hb dX7_isNewHere_24 rfl (lv_at hl 1 rfl) ?_
  refine va_get (D := (dC, dI)) (ci := 7) (v := .int goer_state) (C := RX7) (T := TX7) (N := 11) hx hb hts hinX7 hown hK hP 0 rfl rfl 9 (by decide) hf40 (fun _ h9 => h9) rfl dX7_isNewHere_25 ?_
  refine lv_iadd hx hb dX7_isNewHere_28 ?_
  refine lv_istore_n (lv' := [(3, .int ((v1 * (5 : Int32)) + goer_state)), (2, .int v1), (0, .ref h_goer), (1, .ref h_S)]) hx hb dX7_isNewHere_29 rfl hl (by decide) rfl (fun ls hl => ?_)
  refine lv_aload_n hx hb dX7_isNewHere_30 rfl (lv_at hl 2 rfl) ?_
  refine va_get (D := (dC, dI)) (ci := 7) (v := .ref h_goer_been) (C := RX7) (T := TX7) (N := 11) hx hb hts hinX7 hown hK hP 0 rfl rfl 3 (by decide) hf22 (fun _ h9 => h9) rfl dX7_isNewHere_31 ?_
  refine lv_iload_n hx hb dX7_isNewHere_34 rfl (lv_at hl 0 rfl) ?_
  obtain ⟨hv2, hq⟩ := hq
  refine va_iald hx hb hK hP 1 0 rfl rfl hv2 dX7_isNewHere_35 ?_
  refine lv_aload_n hx hb dX7_isNewHere_36 rfl (lv_at hl 2 rfl) ?_
  refine va_get (D := (dC, dI)) (ci := 7) (v := .int goer_walks) (C := RX7) (T := TX7) (N := 11) hx hb hts hinX7 hown hK hP 0 rfl rfl 4 (by decide) hf25 (fun _ h9 => h9) rfl dX7_isNewHere_37 ?_
  refine lv_icmp_ne (tgt := 50) hx hb dX7_isNewHere_40 (by decide) (fun c3 => ?_) (fun c3 => ?_)
  · replace hq := hq.1 c3
    refine lv_aload_n hx hb dX7_isNewHere_50 rfl (lv_at hl 2 rfl) ?_
    refine va_get (D := (dC, dI)) (ci := 7) (v := .ref h_goer_been) (C := RX7) (T := TX7) (N := 11) hx hb hts hinX7 hown hK hP 0 rfl rfl 3 (by decide) hf22 (fun _ h9 => h9) rfl dX7_isNewHere_51 ?_
    refine lv_iload_n hx hb dX7_isNewHere_54 rfl (lv_at hl 0 rfl) ?_
    refine lv_aload_n hx hb dX7_isNewHere_55 rfl (lv_at hl 2 rfl) ?_
    refine va_get (D := (dC, dI)) (ci := 7) (v := .int goer_walks) (C := RX7) (T := TX7) (N := 11) hx hb hts hinX7 hown hK hP 0 rfl rfl 4 (by decide) hf25 (fun _ h9 => h9) rfl dX7_isNewHere_56 ?_
    obtain ⟨hv4, hq⟩ := hq
    refine va_iast hx hb hK hP hD hS 1 0 rfl rfl hv4 dX7_isNewHere_59 (fun H locs hP hD hS => ?_)
    have hP : va_P (dC, dI) vwCl (W_X7_isNewHere cI cJ cZ h_goer h_goer_been h_S h_goer_acts h_goer_thens h_S_cells goer_states goer_walks goer_x goer_y goer_end goer_steps goer_state goer_lowestRow (upd f_goer_been (((v1 * (5 : Int32)) + goer_state)).toNatClampNeg goer_walks) S_h S_w) H := hP
    have hD : va_D A (W_X7_isNewHere cI cJ cZ h_goer h_goer_been h_S h_goer_acts h_goer_thens h_S_cells goer_states goer_walks goer_x goer_y goer_end goer_steps goer_state goer_lowestRow (upd f_goer_been (((v1 * (5 : Int32)) + goer_state)).toNatClampNeg goer_walks) S_h S_w) := hD
    refine lv_iconst (v := (1 : Int32)) hx hb dX7_isNewHere_60 (by decide) ?_
    exact hret (1 : Int32) (goer_end, (upd f_goer_been (((v1 * (5 : Int32)) + goer_state)).toNatClampNeg goer_walks)) (Or.inr rfl) hq _ _ hP hD hS _ _ dX7_isNewHere_61
  · replace hq := hq.2 c3
    refine lv_aload_n hx hb dX7_isNewHere_43 rfl (lv_at hl 2 rfl) ?_
    refine lv_iconst (v := (2 : Int32)) hx hb dX7_isNewHere_44 (by decide) ?_
    refine va_put (D := (dC, dI)) (ci := 7) (v := .int (2 : Int32)) (ty := tyX7 7) (C := RX7) (T := TX7) (N := 11) hx hb hts hinX7 tyX7 tyX7_ok nmX7 hown hK hP hD hS 0 rfl rfl 7 (by decide) hf34 (fun _ h9 => h9) rfl (tyX7_ok 7 (by decide)) rfl rfl (Nat.le_of_ble_eq_true rfl) dX7_isNewHere_45 (fun H locs hP hD hS => ?_)
    have hP : va_P (dC, dI) vwCl (W_X7_isNewHere cI cJ cZ h_goer h_goer_been h_S h_goer_acts h_goer_thens h_S_cells goer_states goer_walks goer_x goer_y (2 : Int32) goer_steps goer_state goer_lowestRow f_goer_been S_h S_w) H := hP
    have hD : va_D A (W_X7_isNewHere cI cJ cZ h_goer h_goer_been h_S h_goer_acts h_goer_thens h_S_cells goer_states goer_walks goer_x goer_y (2 : Int32) goer_steps goer_state goer_lowestRow f_goer_been S_h S_w) := hD
    refine lv_iconst (v := (0 : Int32)) hx hb dX7_isNewHere_48 (by decide) ?_
    exact hret (0 : Int32) ((2 : Int32), f_goer_been) (Or.inl rfl) hq _ _ hP hD hS _ _ dX7_isNewHere_49

abbrev W_X7_moves (cI cJ cZ : ClassId) (h_goer h_goer_acts h_goer_thens h_S h_S_cells h_goer_been : Nat) (goer_states : Int32) (goer_walks : Int32) (goer_x : Int32) (goer_y : Int32) (goer_end : Int32) (goer_steps : Int32) (goer_state : Int32) (goer_lowestRow : Int32) (f_goer_acts : Nat → Int32) (f_goer_thens : Nat → Int32) (S_h : Int32) (S_w : Int32) (f_S_cells : Nat → Int32) : va_W := [(h_goer, .inr (7, [.int goer_states, .ref h_goer_acts, .ref h_goer_thens, .ref h_goer_been, .int goer_walks, .int goer_x, .int goer_y, .int goer_end, .int goer_steps, .int goer_state, .int goer_lowestRow])), (h_goer_acts, .inl (cI, 20, .inl f_goer_acts)), (h_goer_thens, .inl (cI, 20, .inl f_goer_thens)), (h_S, .inr (4, [.int S_h, .int S_w, .ref h_S_cells])), (h_S_cells, .inl (cI, 25, .inl f_S_cells))]
abbrev rm_X7_moves : Room := { frames := 1, cells := 0, slots := 0, locals := 22 }
def q_X7_moves_141 (f_goer_acts : Nat → Int32) (f_goer_thens : Nat → Int32) (S_h : Int32) (S_w : Int32) (f_S_cells : Nat → Int32) (post : Int32 → (Int32) → (Int32) → (Int32) → (Int32) → (Int32) → (Int32) → Prop) (l2 : Int32) (t0 : Int32) (t1 : Int32) (goer_x : Int32) (goer_y : Int32) (goer_end : Int32) (goer_steps : Int32) (goer_state : Int32) (goer_lowestRow : Int32) : Prop := ((goer_x < (-1 : Int32) → (post (0 : Int32) goer_x (t1 + t0) (0 : Int32) goer_steps goer_state goer_lowestRow)) ∧ (¬ goer_x < (-1 : Int32) → ((S_w < goer_x → (post (0 : Int32) goer_x (t1 + t0) (0 : Int32) goer_steps goer_state goer_lowestRow)) ∧ (¬ S_w < goer_x → (((t1 + t0) < (-1 : Int32) → (post (0 : Int32) goer_x (t1 + t0) (0 : Int32) goer_steps goer_state goer_lowestRow)) ∧ (¬ (t1 + t0) < (-1 : Int32) → (((t1 + t0) ≤ S_h → (vp_in l2 20 ∧ (post (1 : Int32) goer_x (t1 + t0) goer_end goer_steps (f_goer_thens (l2).toNatClampNeg) goer_lowestRow))) ∧ (¬ (t1 + t0) ≤ S_h → (post (0 : Int32) goer_x (t1 + t0) (0 : Int32) goer_steps goer_state goer_lowestRow)))))))))
def q_X7_moves_113 (f_goer_acts : Nat → Int32) (f_goer_thens : Nat → Int32) (S_h : Int32) (S_w : Int32) (f_S_cells : Nat → Int32) (post : Int32 → (Int32) → (Int32) → (Int32) → (Int32) → (Int32) → (Int32) → Prop) (l2 : Int32) (l3 : Int32) (t0 : Int32) (t1 : Int32) (goer_x : Int32) (goer_y : Int32) (goer_end : Int32) (goer_steps : Int32) (goer_state : Int32) (goer_lowestRow : Int32) : Prop := ((¬ l3 = (1 : Int32) → ((¬ l3 = (3 : Int32) → ((q_X7_moves_141 f_goer_acts f_goer_thens S_h S_w f_S_cells post) l2 (0 : Int32) goer_y (t1 + t0) goer_y goer_end goer_steps goer_state goer_lowestRow)) ∧ (l3 = (3 : Int32) → ((q_X7_moves_141 f_goer_acts f_goer_thens S_h S_w f_S_cells post) l2 (-1 : Int32) goer_y (t1 + t0) goer_y goer_end goer_steps goer_state goer_lowestRow)))) ∧ (l3 = (1 : Int32) → ((q_X7_moves_141 f_goer_acts f_goer_thens S_h S_w f_S_cells post) l2 (1 : Int32) goer_y (t1 + t0) goer_y goer_end goer_steps goer_state goer_lowestRow)))
def q_X7_moves_30 (f_goer_acts : Nat → Int32) (f_goer_thens : Nat → Int32) (S_h : Int32) (S_w : Int32) (f_S_cells : Nat → Int32) (post : Int32 → (Int32) → (Int32) → (Int32) → (Int32) → (Int32) → (Int32) → Prop) (goer_x : Int32) (goer_y : Int32) (goer_end : Int32) (goer_steps : Int32) (goer_state : Int32) (goer_lowestRow : Int32) : Prop := (q_X4_at S_h S_w f_S_cells goer_y goer_x (fun (r2 : Int32) => (vp_in ((goer_state * (4 : Int32)) + (r2 &&& (3 : Int32))) 20 ∧ (∀ v4 : Int32, v4 = (f_goer_acts (((goer_state * (4 : Int32)) + (r2 &&& (3 : Int32)))).toNatClampNeg) → ((v4 < (4 : Int32) → ((¬ v4 = 0 → ((¬ v4 = (2 : Int32) → ((q_X7_moves_113 f_goer_acts f_goer_thens S_h S_w f_S_cells post) ((goer_state * (4 : Int32)) + (r2 &&& (3 : Int32))) v4 (0 : Int32) goer_x goer_x goer_y goer_end (goer_steps + (1 : Int32)) goer_state goer_lowestRow)) ∧ (v4 = (2 : Int32) → ((q_X7_moves_113 f_goer_acts f_goer_thens S_h S_w f_S_cells post) ((goer_state * (4 : Int32)) + (r2 &&& (3 : Int32))) v4 (-1 : Int32) goer_x goer_x goer_y goer_end (goer_steps + (1 : Int32)) goer_state goer_lowestRow)))) ∧ (v4 = 0 → ((q_X7_moves_113 f_goer_acts f_goer_thens S_h S_w f_S_cells post) ((goer_state * (4 : Int32)) + (r2 &&& (3 : Int32))) v4 (1 : Int32) goer_x goer_x goer_y goer_end (goer_steps + (1 : Int32)) goer_state goer_lowestRow)))) ∧ (¬ v4 < (4 : Int32) → ((¬ v4 = (4 : Int32) → (post (0 : Int32) goer_x goer_y (0 : Int32) goer_steps goer_state goer_lowestRow)) ∧ (v4 = (4 : Int32) → (post (0 : Int32) goer_x goer_y (1 : Int32) goer_steps goer_state goer_lowestRow)))))))))
def q_X7_moves (f_goer_acts : Nat → Int32) (f_goer_thens : Nat → Int32) (S_h : Int32) (S_w : Int32) (f_S_cells : Nat → Int32) (goer_x : Int32) (goer_y : Int32) (goer_end : Int32) (goer_steps : Int32) (goer_state : Int32) (goer_lowestRow : Int32) (post : Int32 → (Int32) → (Int32) → (Int32) → (Int32) → (Int32) → (Int32) → Prop) : Prop := ((goer_y ≤ goer_lowestRow → ((q_X7_moves_30 f_goer_acts f_goer_thens S_h S_w f_S_cells post) goer_x goer_y goer_end goer_steps goer_state goer_lowestRow)) ∧ (¬ goer_y ≤ goer_lowestRow → ((S_h ≤ goer_y → ((q_X7_moves_30 f_goer_acts f_goer_thens S_h S_w f_S_cells post) goer_x goer_y goer_end goer_steps goer_state goer_lowestRow)) ∧ (¬ S_h ≤ goer_y → ((q_X7_moves_30 f_goer_acts f_goer_thens S_h S_w f_S_cells post) goer_x goer_y goer_end goer_steps goer_state goer_y)))))
theorem hdV_X7_moves : yX7_moves.cls = RX7 ∧ yX7_moves.cls ≠ "java/lang/invoke/MethodHandle" ∧ yX7_moves.cls ≠ "java/lang/invoke/VarHandle" ∧ (parseMethodDescriptor yX7_moves.desc).map (fun d => d.parameters.length) = some 1 := by decide +kernel
set_option maxHeartbeats 4000000 in
set_option maxRecDepth 100000 in
theorem c_X7_moves (l : Launch) (dC : Nat → ClassId) (dI : Nat → Nat → Nat) (cI cJ cZ : ClassId) (h_goer h_goer_acts h_goer_thens h_S h_S_cells h_goer_been : Nat) (sz : Nat) (goer_states : Int32) (goer_walks : Int32) (goer_x : Int32) (goer_y : Int32) (goer_end : Int32) (goer_steps : Int32) (goer_state : Int32) (goer_lowestRow : Int32) (f_goer_acts : Nat → Int32) (f_goer_thens : Nat → Int32) (S_h : Int32) (S_w : Int32) (f_S_cells : Nat → Int32)  {post : Int32 → (Int32) → (Int32) → (Int32) → (Int32) → (Int32) → (Int32) → Prop} (hq : q_X7_moves f_goer_acts f_goer_thens S_h S_w f_S_cells goer_x goer_y goer_end goer_steps goer_state goer_lowestRow post) : Met l yX7_moves wsX7_moves rm_X7_moves (va_Pc [.ref h_goer, .ref h_S] (gx_Pre (dC, dI) vwCl (gx_tys cI cJ cZ) sz (W_X7_moves cI cJ cZ h_goer h_goer_acts h_goer_thens h_S h_S_cells h_goer_been goer_states goer_walks goer_x goer_y goer_end goer_steps goer_state goer_lowestRow f_goer_acts f_goer_thens S_h S_w f_S_cells))) (va_Qi (fun (r : Int32) (u : (Int32) × (Int32) × (Int32) × (Int32) × (Int32) × (Int32)) => post r u.1 u.2.1 u.2.2.1 u.2.2.2.1 u.2.2.2.2.1 u.2.2.2.2.2) (gx_B (dC, dI) vwCl (gx_tys cI cJ cZ) (va_A (W_X7_moves cI cJ cZ h_goer h_goer_acts h_goer_thens h_S h_S_cells h_goer_been goer_states goer_walks goer_x goer_y goer_end goer_steps goer_state goer_lowestRow f_goer_acts f_goer_thens S_h S_w f_S_cells) sz) (fun (u : (Int32) × (Int32) × (Int32) × (Int32) × (Int32) × (Int32)) => (W_X7_moves cI cJ cZ h_goer h_goer_acts h_goer_thens h_S h_S_cells h_goer_been goer_states goer_walks u.1 u.2.1 u.2.2.1 u.2.2.2.1 u.2.2.2.2.1 u.2.2.2.2.2 f_goer_acts f_goer_thens S_h S_w f_S_cells))) (va_A (W_X7_moves cI cJ cZ h_goer h_goer_acts h_goer_thens h_S h_S_cells h_goer_been goer_states goer_walks goer_x goer_y goer_end goer_steps goer_state goer_lowestRow f_goer_acts f_goer_thens S_h S_w f_S_cells) sz)) 0 0 (va_A (W_X7_moves cI cJ cZ h_goer h_goer_acts h_goer_thens h_S h_S_cells h_goer_been goer_states goer_walks goer_x goer_y goer_end goer_steps goer_state goer_lowestRow f_goer_acts f_goer_thens S_h S_w f_S_cells) sz) := by
  refine gx_z (cc := cX7_moves) (maxL := 4) (by decide) rfl (Nat.le_of_ble_eq_true rfl) ?_
  intro p e s m args below meth c A QQ hx hb hml hown hts hA hP hK hD hret ls hl
  have hown : s.vm.findClass RX7 = some m.cls := hown
  have hf31 := hts (.fieldLink RX7 31 "SmallWindows$Walker" "y" "I") (by decide +kernel)
  have hf43 := hts (.fieldLink RX7 43 "SmallWindows$Walker" "lowestRow" "I") (by decide +kernel)
  have hf40 := hts (.fieldLink RX7 40 "SmallWindows$Walker" "state" "I") (by decide +kernel)
  have hf28 := hts (.fieldLink RX7 28 "SmallWindows$Walker" "x" "I") (by decide +kernel)
  have hf15 := hts (.fieldLink RX7 15 "SmallWindows$Walker" "acts" "[I") (by decide +kernel)
  have hf37 := hts (.fieldLink RX7 37 "SmallWindows$Walker" "steps" "I") (by decide +kernel)
  have hf34 := hts (.fieldLink RX7 34 "SmallWindows$Walker" "end" "I") (by decide +kernel)
  have hf59 := hts (.fieldLink RX7 59 "SmallWindows$Sheet" "w" "I") (by decide +kernel)
  have hf64 := hts (.fieldLink RX7 64 "SmallWindows$Sheet" "h" "I") (by decide +kernel)
  have hf19 := hts (.fieldLink RX7 19 "SmallWindows$Walker" "thens" "[I") (by decide +kernel)
  have hinX7 : ∀ w ∈ u_ws RX7 TX7 11, w ∈ wsX7_moves := fun w h => List.mem_cons_of_mem _ ((List.mem_append_left _ (List.mem_append_right _ h)))
  have hinX4 : ∀ w ∈ u_ws RX4 TX4 3, w ∈ wsX7_moves := fun w h => List.mem_cons_of_mem _ ((List.mem_append_right _ h))
  have hS : va_S A s.heap s.heap [] := va_S.rf
  have hl : lv_has ls 4 [(0, .ref h_goer), (1, .ref h_S)] := hl
  have C141 : ∀ (l2 : Int32) (t0 : Int32) (t1 : Int32) (goer_x : Int32) (goer_y : Int32) (goer_end : Int32) (goer_steps : Int32) (goer_state : Int32) (goer_lowestRow : Int32), q_X7_moves_141 f_goer_acts f_goer_thens S_h S_w f_S_cells post l2 t0 t1 goer_x goer_y goer_end goer_steps goer_state goer_lowestRow → ∀ (H : Heap) (locs : List Loc), va_P (dC, dI) vwCl (W_X7_moves cI cJ cZ h_goer h_goer_acts h_goer_thens h_S h_S_cells h_goer_been goer_states goer_walks goer_x goer_y goer_end goer_steps goer_state goer_lowestRow f_goer_acts f_goer_thens S_h S_w f_S_cells) H → va_D A (W_X7_moves cI cJ cZ h_goer h_goer_acts h_goer_thens h_S h_S_cells h_goer_been goer_states goer_walks goer_x goer_y goer_end goer_steps goer_state goer_lowestRow f_goer_acts f_goer_thens S_h S_w f_S_cells) → va_S A s.heap H locs → ∀ ls : Array Slot, lv_has ls 4 [(0, .ref h_goer), (1, .ref h_S), (2, .int l2)] → W p l e rm_X7_moves s m args below meth c H locs 0 0 QQ (F0 m 141 ls [.int t0, .int t1, .ref h_goer]) := by
    intro l2 t0 t1 goer_x goer_y goer_end goer_steps goer_state goer_lowestRow hq H locs hP hD hS ls hl
    unfold q_X7_moves_141 at hq
    refine lv_iadd hx hb dX7_moves_141 ?_
    refine va_put (D := (dC, dI)) (ci := 7) (v := .int (t1 + t0)) (ty := tyX7 6) (C := RX7) (T := TX7) (N := 11) hx hb hts hinX7 tyX7 tyX7_ok nmX7 hown hK hP hD hS 0 rfl rfl 6 (by decide) hf31 (fun _ h9 => h9) rfl (tyX7_ok 6 (by decide)) rfl rfl (Nat.le_of_ble_eq_true rfl) dX7_moves_142 (fun H locs hP hD hS => ?_)
    have hP : va_P (dC, dI) vwCl (W_X7_moves cI cJ cZ h_goer h_goer_acts h_goer_thens h_S h_S_cells h_goer_been goer_states goer_walks goer_x (t1 + t0) goer_end goer_steps goer_state goer_lowestRow f_goer_acts f_goer_thens S_h S_w f_S_cells) H := hP
    have hD : va_D A (W_X7_moves cI cJ cZ h_goer h_goer_acts h_goer_thens h_S h_S_cells h_goer_been goer_states goer_walks goer_x (t1 + t0) goer_end goer_steps goer_state goer_lowestRow f_goer_acts f_goer_thens S_h S_w f_S_cells) := hD
    refine lv_aload_n hx hb dX7_moves_145 rfl (lv_at hl 0 rfl) ?_
    refine va_get (D := (dC, dI)) (ci := 7) (v := .int goer_x) (C := RX7) (T := TX7) (N := 11) hx hb hts hinX7 hown hK hP 0 rfl rfl 5 (by decide) hf28 (fun _ h9 => h9) rfl dX7_moves_146 ?_
    refine lv_iconst (v := (-1 : Int32)) hx hb dX7_moves_149 (by decide) ?_
    refine lv_icmp_lt (tgt := 183) hx hb dX7_moves_150 (by decide) (fun c10 => ?_) (fun c10 => ?_)
    · replace hq := hq.1 c10
      refine lv_aload_n hx hb dX7_moves_183 rfl (lv_at hl 0 rfl) ?_
      refine lv_iconst (v := (0 : Int32)) hx hb dX7_moves_184 (by decide) ?_
      refine va_put (D := (dC, dI)) (ci := 7) (v := .int (0 : Int32)) (ty := tyX7 7) (C := RX7) (T := TX7) (N := 11) hx hb hts hinX7 tyX7 tyX7_ok nmX7 hown hK hP hD hS 0 rfl rfl 7 (by decide) hf34 (fun _ h9 => h9) rfl (tyX7_ok 7 (by decide)) rfl rfl (Nat.le_of_ble_eq_true rfl) dX7_moves_185 (fun H locs hP hD hS => ?_)
      have hP : va_P (dC, dI) vwCl (W_X7_moves cI cJ cZ h_goer h_goer_acts h_goer_thens h_S h_S_cells h_goer_been goer_states goer_walks goer_x (t1 + t0) (0 : Int32) goer_steps goer_state goer_lowestRow f_goer_acts f_goer_thens S_h S_w f_S_cells) H := hP
      have hD : va_D A (W_X7_moves cI cJ cZ h_goer h_goer_acts h_goer_thens h_S h_S_cells h_goer_been goer_states goer_walks goer_x (t1 + t0) (0 : Int32) goer_steps goer_state goer_lowestRow f_goer_acts f_goer_thens S_h S_w f_S_cells) := hD
      refine lv_iconst (v := (0 : Int32)) hx hb dX7_moves_188 (by decide) ?_
      exact hret (0 : Int32) (goer_x, (t1 + t0), (0 : Int32), goer_steps, goer_state, goer_lowestRow) (Or.inl rfl) hq _ _ hP hD hS _ _ dX7_moves_189
    · replace hq := hq.2 c10
      refine lv_aload_n hx hb dX7_moves_153 rfl (lv_at hl 0 rfl) ?_
      refine va_get (D := (dC, dI)) (ci := 7) (v := .int goer_x) (C := RX7) (T := TX7) (N := 11) hx hb hts hinX7 hown hK hP 0 rfl rfl 5 (by decide) hf28 (fun _ h9 => h9) rfl dX7_moves_154 ?_
      refine lv_aload_n hx hb dX7_moves_157 rfl (lv_at hl 1 rfl) ?_
      refine va_get (D := (dC, dI)) (ci := 4) (v := .int S_w) (C := RX4) (T := TX4) (N := 3) hx hb hts hinX4 hown hK hP 3 rfl rfl 1 (by decide) hf59 (fun _ h9 => h9) rfl dX7_moves_158 ?_
      refine lv_icmp_gt (tgt := 183) hx hb dX7_moves_161 (by decide) (fun c11 => ?_) (fun c11 => ?_)
      · replace hq := hq.1 c11
        refine lv_aload_n hx hb dX7_moves_183 rfl (lv_at hl 0 rfl) ?_
        refine lv_iconst (v := (0 : Int32)) hx hb dX7_moves_184 (by decide) ?_
        refine va_put (D := (dC, dI)) (ci := 7) (v := .int (0 : Int32)) (ty := tyX7 7) (C := RX7) (T := TX7) (N := 11) hx hb hts hinX7 tyX7 tyX7_ok nmX7 hown hK hP hD hS 0 rfl rfl 7 (by decide) hf34 (fun _ h9 => h9) rfl (tyX7_ok 7 (by decide)) rfl rfl (Nat.le_of_ble_eq_true rfl) dX7_moves_185 (fun H locs hP hD hS => ?_)
        have hP : va_P (dC, dI) vwCl (W_X7_moves cI cJ cZ h_goer h_goer_acts h_goer_thens h_S h_S_cells h_goer_been goer_states goer_walks goer_x (t1 + t0) (0 : Int32) goer_steps goer_state goer_lowestRow f_goer_acts f_goer_thens S_h S_w f_S_cells) H := hP
        have hD : va_D A (W_X7_moves cI cJ cZ h_goer h_goer_acts h_goer_thens h_S h_S_cells h_goer_been goer_states goer_walks goer_x (t1 + t0) (0 : Int32) goer_steps goer_state goer_lowestRow f_goer_acts f_goer_thens S_h S_w f_S_cells) := hD
        refine lv_iconst (v := (0 : Int32)) hx hb dX7_moves_188 (by decide) ?_
        exact hret (0 : Int32) (goer_x, (t1 + t0), (0 : Int32), goer_steps, goer_state, goer_lowestRow) (Or.inl rfl) hq _ _ hP hD hS _ _ dX7_moves_189
      · replace hq := hq.2 c11
        refine lv_aload_n hx hb dX7_moves_164 rfl (lv_at hl 0 rfl) ?_
        refine va_get (D := (dC, dI)) (ci := 7) (v := .int (t1 + t0)) (C := RX7) (T := TX7) (N := 11) hx hb hts hinX7 hown hK hP 0 rfl rfl 6 (by decide) hf31 (fun _ h9 => h9) rfl dX7_moves_165 ?_
        refine lv_iconst (v := (-1 : Int32)) hx hb dX7_moves_168 (by decide) ?_
        refine lv_icmp_lt (tgt := 183) hx hb dX7_moves_169 (by decide) (fun c12 => ?_) (fun c12 => ?_)
        · replace hq := hq.1 c12
          refine lv_aload_n hx hb dX7_moves_183 rfl (lv_at hl 0 rfl) ?_
          refine lv_iconst (v := (0 : Int32)) hx hb dX7_moves_184 (by decide) ?_
          refine va_put (D := (dC, dI)) (ci := 7) (v := .int (0 : Int32)) (ty := tyX7 7) (C := RX7) (T := TX7) (N := 11) hx hb hts hinX7 tyX7 tyX7_ok nmX7 hown hK hP hD hS 0 rfl rfl 7 (by decide) hf34 (fun _ h9 => h9) rfl (tyX7_ok 7 (by decide)) rfl rfl (Nat.le_of_ble_eq_true rfl) dX7_moves_185 (fun H locs hP hD hS => ?_)
          have hP : va_P (dC, dI) vwCl (W_X7_moves cI cJ cZ h_goer h_goer_acts h_goer_thens h_S h_S_cells h_goer_been goer_states goer_walks goer_x (t1 + t0) (0 : Int32) goer_steps goer_state goer_lowestRow f_goer_acts f_goer_thens S_h S_w f_S_cells) H := hP
          have hD : va_D A (W_X7_moves cI cJ cZ h_goer h_goer_acts h_goer_thens h_S h_S_cells h_goer_been goer_states goer_walks goer_x (t1 + t0) (0 : Int32) goer_steps goer_state goer_lowestRow f_goer_acts f_goer_thens S_h S_w f_S_cells) := hD
          refine lv_iconst (v := (0 : Int32)) hx hb dX7_moves_188 (by decide) ?_
          exact hret (0 : Int32) (goer_x, (t1 + t0), (0 : Int32), goer_steps, goer_state, goer_lowestRow) (Or.inl rfl) hq _ _ hP hD hS _ _ dX7_moves_189
        · replace hq := hq.2 c12
          refine lv_aload_n hx hb dX7_moves_172 rfl (lv_at hl 0 rfl) ?_
          refine va_get (D := (dC, dI)) (ci := 7) (v := .int (t1 + t0)) (C := RX7) (T := TX7) (N := 11) hx hb hts hinX7 hown hK hP 0 rfl rfl 6 (by decide) hf31 (fun _ h9 => h9) rfl dX7_moves_173 ?_
          refine lv_aload_n hx hb dX7_moves_176 rfl (lv_at hl 1 rfl) ?_
          refine va_get (D := (dC, dI)) (ci := 4) (v := .int S_h) (C := RX4) (T := TX4) (N := 3) hx hb hts hinX4 hown hK hP 3 rfl rfl 0 (by decide) hf64 (fun _ h9 => h9) rfl dX7_moves_177 ?_
          refine lv_icmp_le (tgt := 190) hx hb dX7_moves_180 (by decide) (fun c13 => ?_) (fun c13 => ?_)
          · replace hq := hq.1 c13
            refine lv_aload_n hx hb dX7_moves_190 rfl (lv_at hl 0 rfl) ?_
            refine lv_aload_n hx hb dX7_moves_191 rfl (lv_at hl 0 rfl) ?_
            refine va_get (D := (dC, dI)) (ci := 7) (v := .ref h_goer_thens) (C := RX7) (T := TX7) (N := 11) hx hb hts hinX7 hown hK hP 0 rfl rfl 2 (by decide) hf19 (fun _ h9 => h9) rfl dX7_moves_192 ?_
            refine lv_iload_n hx hb dX7_moves_195 rfl (lv_at hl 2 rfl) ?_
            obtain ⟨hv14, hq⟩ := hq
            refine va_iald hx hb hK hP 2 0 rfl rfl hv14 dX7_moves_196 ?_
            refine va_put (D := (dC, dI)) (ci := 7) (v := .int (f_goer_thens (l2).toNatClampNeg)) (ty := tyX7 9) (C := RX7) (T := TX7) (N := 11) hx hb hts hinX7 tyX7 tyX7_ok nmX7 hown hK hP hD hS 0 rfl rfl 9 (by decide) hf40 (fun _ h9 => h9) rfl (tyX7_ok 9 (by decide)) rfl rfl (Nat.le_of_ble_eq_true rfl) dX7_moves_197 (fun H locs hP hD hS => ?_)
            have hP : va_P (dC, dI) vwCl (W_X7_moves cI cJ cZ h_goer h_goer_acts h_goer_thens h_S h_S_cells h_goer_been goer_states goer_walks goer_x (t1 + t0) goer_end goer_steps (f_goer_thens (l2).toNatClampNeg) goer_lowestRow f_goer_acts f_goer_thens S_h S_w f_S_cells) H := hP
            have hD : va_D A (W_X7_moves cI cJ cZ h_goer h_goer_acts h_goer_thens h_S h_S_cells h_goer_been goer_states goer_walks goer_x (t1 + t0) goer_end goer_steps (f_goer_thens (l2).toNatClampNeg) goer_lowestRow f_goer_acts f_goer_thens S_h S_w f_S_cells) := hD
            refine lv_iconst (v := (1 : Int32)) hx hb dX7_moves_200 (by decide) ?_
            exact hret (1 : Int32) (goer_x, (t1 + t0), goer_end, goer_steps, (f_goer_thens (l2).toNatClampNeg), goer_lowestRow) (Or.inr rfl) hq _ _ hP hD hS _ _ dX7_moves_201
          · replace hq := hq.2 c13
            refine lv_aload_n hx hb dX7_moves_183 rfl (lv_at hl 0 rfl) ?_
            refine lv_iconst (v := (0 : Int32)) hx hb dX7_moves_184 (by decide) ?_
            refine va_put (D := (dC, dI)) (ci := 7) (v := .int (0 : Int32)) (ty := tyX7 7) (C := RX7) (T := TX7) (N := 11) hx hb hts hinX7 tyX7 tyX7_ok nmX7 hown hK hP hD hS 0 rfl rfl 7 (by decide) hf34 (fun _ h9 => h9) rfl (tyX7_ok 7 (by decide)) rfl rfl (Nat.le_of_ble_eq_true rfl) dX7_moves_185 (fun H locs hP hD hS => ?_)
            have hP : va_P (dC, dI) vwCl (W_X7_moves cI cJ cZ h_goer h_goer_acts h_goer_thens h_S h_S_cells h_goer_been goer_states goer_walks goer_x (t1 + t0) (0 : Int32) goer_steps goer_state goer_lowestRow f_goer_acts f_goer_thens S_h S_w f_S_cells) H := hP
            have hD : va_D A (W_X7_moves cI cJ cZ h_goer h_goer_acts h_goer_thens h_S h_S_cells h_goer_been goer_states goer_walks goer_x (t1 + t0) (0 : Int32) goer_steps goer_state goer_lowestRow f_goer_acts f_goer_thens S_h S_w f_S_cells) := hD
            refine lv_iconst (v := (0 : Int32)) hx hb dX7_moves_188 (by decide) ?_
            exact hret (0 : Int32) (goer_x, (t1 + t0), (0 : Int32), goer_steps, goer_state, goer_lowestRow) (Or.inl rfl) hq _ _ hP hD hS _ _ dX7_moves_189
  have C113 : ∀ (l2 : Int32) (l3 : Int32) (t0 : Int32) (t1 : Int32) (goer_x : Int32) (goer_y : Int32) (goer_end : Int32) (goer_steps : Int32) (goer_state : Int32) (goer_lowestRow : Int32), q_X7_moves_113 f_goer_acts f_goer_thens S_h S_w f_S_cells post l2 l3 t0 t1 goer_x goer_y goer_end goer_steps goer_state goer_lowestRow → ∀ (H : Heap) (locs : List Loc), va_P (dC, dI) vwCl (W_X7_moves cI cJ cZ h_goer h_goer_acts h_goer_thens h_S h_S_cells h_goer_been goer_states goer_walks goer_x goer_y goer_end goer_steps goer_state goer_lowestRow f_goer_acts f_goer_thens S_h S_w f_S_cells) H → va_D A (W_X7_moves cI cJ cZ h_goer h_goer_acts h_goer_thens h_S h_S_cells h_goer_been goer_states goer_walks goer_x goer_y goer_end goer_steps goer_state goer_lowestRow f_goer_acts f_goer_thens S_h S_w f_S_cells) → va_S A s.heap H locs → ∀ ls : Array Slot, lv_has ls 4 [(0, .ref h_goer), (1, .ref h_S), (2, .int l2), (3, .int l3)] → W p l e rm_X7_moves s m args below meth c H locs 0 0 QQ (F0 m 113 ls [.int t0, .int t1, .ref h_goer]) := by
    intro l2 l3 t0 t1 goer_x goer_y goer_end goer_steps goer_state goer_lowestRow hq H locs hP hD hS ls hl
    unfold q_X7_moves_113 at hq
    refine lv_iadd hx hb dX7_moves_113 ?_
    refine va_put (D := (dC, dI)) (ci := 7) (v := .int (t1 + t0)) (ty := tyX7 5) (C := RX7) (T := TX7) (N := 11) hx hb hts hinX7 tyX7 tyX7_ok nmX7 hown hK hP hD hS 0 rfl rfl 5 (by decide) hf28 (fun _ h9 => h9) rfl (tyX7_ok 5 (by decide)) rfl rfl (Nat.le_of_ble_eq_true rfl) dX7_moves_114 (fun H locs hP hD hS => ?_)
    have hP : va_P (dC, dI) vwCl (W_X7_moves cI cJ cZ h_goer h_goer_acts h_goer_thens h_S h_S_cells h_goer_been goer_states goer_walks (t1 + t0) goer_y goer_end goer_steps goer_state goer_lowestRow f_goer_acts f_goer_thens S_h S_w f_S_cells) H := hP
    have hD : va_D A (W_X7_moves cI cJ cZ h_goer h_goer_acts h_goer_thens h_S h_S_cells h_goer_been goer_states goer_walks (t1 + t0) goer_y goer_end goer_steps goer_state goer_lowestRow f_goer_acts f_goer_thens S_h S_w f_S_cells) := hD
    refine lv_aload_n hx hb dX7_moves_117 rfl (lv_at hl 0 rfl) ?_
    refine lv_dup hx hb dX7_moves_118 rfl ?_
    refine va_get (D := (dC, dI)) (ci := 7) (v := .int goer_y) (C := RX7) (T := TX7) (N := 11) hx hb hts hinX7 hown hK hP 0 rfl rfl 6 (by decide) hf31 (fun _ h9 => h9) rfl dX7_moves_119 ?_
    refine lv_iload_n hx hb dX7_moves_122 rfl (lv_at hl 3 rfl) ?_
    refine lv_iconst (v := (1 : Int32)) hx hb dX7_moves_123 (by decide) ?_
    refine lv_icmp_ne (tgt := 131) hx hb dX7_moves_124 (by decide) (fun c8 => ?_) (fun c8 => ?_)
    · replace hq := hq.1 c8
      refine lv_iload_n hx hb dX7_moves_131 rfl (lv_at hl 3 rfl) ?_
      refine lv_iconst (v := (3 : Int32)) hx hb dX7_moves_132 (by decide) ?_
      refine lv_icmp_ne (tgt := 140) hx hb dX7_moves_133 (by decide) (fun c9 => ?_) (fun c9 => ?_)
      · replace hq := hq.1 c9
        refine lv_iconst (v := (0 : Int32)) hx hb dX7_moves_140 (by decide) ?_
        exact C141 _ _ _ _ _ _ _ _ _ hq _ _ hP hD hS _ (lv_sub hl [0, 1, 2] rfl)
      · replace hq := hq.2 c9
        refine lv_iconst (v := (-1 : Int32)) hx hb dX7_moves_136 (by decide) ?_
        refine lv_goto (tgt := 141) hx hb dX7_moves_137 (by decide) ?_
        exact C141 _ _ _ _ _ _ _ _ _ hq _ _ hP hD hS _ (lv_sub hl [0, 1, 2] rfl)
    · replace hq := hq.2 c8
      refine lv_iconst (v := (1 : Int32)) hx hb dX7_moves_127 (by decide) ?_
      refine lv_goto (tgt := 141) hx hb dX7_moves_128 (by decide) ?_
      exact C141 _ _ _ _ _ _ _ _ _ hq _ _ hP hD hS _ (lv_sub hl [0, 1, 2] rfl)
  have C30 : ∀ (goer_x : Int32) (goer_y : Int32) (goer_end : Int32) (goer_steps : Int32) (goer_state : Int32) (goer_lowestRow : Int32), q_X7_moves_30 f_goer_acts f_goer_thens S_h S_w f_S_cells post goer_x goer_y goer_end goer_steps goer_state goer_lowestRow → ∀ (H : Heap) (locs : List Loc), va_P (dC, dI) vwCl (W_X7_moves cI cJ cZ h_goer h_goer_acts h_goer_thens h_S h_S_cells h_goer_been goer_states goer_walks goer_x goer_y goer_end goer_steps goer_state goer_lowestRow f_goer_acts f_goer_thens S_h S_w f_S_cells) H → va_D A (W_X7_moves cI cJ cZ h_goer h_goer_acts h_goer_thens h_S h_S_cells h_goer_been goer_states goer_walks goer_x goer_y goer_end goer_steps goer_state goer_lowestRow f_goer_acts f_goer_thens S_h S_w f_S_cells) → va_S A s.heap H locs → ∀ ls : Array Slot, lv_has ls 4 [(0, .ref h_goer), (1, .ref h_S)] → W p l e rm_X7_moves s m args below meth c H locs 0 0 QQ (F0 m 30 ls []) := by
    intro goer_x goer_y goer_end goer_steps goer_state goer_lowestRow hq H locs hP hD hS ls hl
    unfold q_X7_moves_30 at hq
    refine lv_aload_n hx hb dX7_moves_30 rfl (lv_at hl 0 rfl) ?_
    refine va_get (D := (dC, dI)) (ci := 7) (v := .int goer_state) (C := RX7) (T := TX7) (N := 11) hx hb hts hinX7 hown hK hP 0 rfl rfl 9 (by decide) hf40 (fun _ h9 => h9) rfl dX7_moves_31 ?_
    refine lv_iconst (v := (4 : Int32)) hx hb dX7_moves_34 (by decide) ?_
    refine lv_imul hx hb dX7_moves_35 ?_
    refine lv_aload_n hx hb dX7_moves_36 rfl (lv_at hl 1 rfl) ?_
    refine lv_aload_n hx hb dX7_moves_37 rfl (lv_at hl 0 rfl) ?_
    refine va_get (D := (dC, dI)) (ci := 7) (v := .int goer_y) (C := RX7) (T := TX7) (N := 11) hx hb hts hinX7 hown hK hP 0 rfl rfl 6 (by decide) hf31 (fun _ h9 => h9) rfl dX7_moves_38 ?_
    refine lv_aload_n hx hb dX7_moves_41 rfl (lv_at hl 0 rfl) ?_
    refine va_get (D := (dC, dI)) (ci := 7) (v := .int goer_x) (C := RX7) (T := TX7) (N := 11) hx hb hts hinX7 hown hK hP 0 rfl rfl 5 (by decide) hf28 (fun _ h9 => h9) rfl dX7_moves_42 ?_
    refine gx_cVi (C := RX4) (As := [.int goer_y, .int goer_x]) (rest := [.int (goer_state * (4 : Int32))]) ⟨hx, hb, hml, hown, hts⟩ (c_X4_at l dC dI cI cJ cZ h_S h_S_cells H.size S_h S_w f_S_cells goer_y goer_x hq) (cwV 2 hts gX7_moves_X4_at rfl rfl rfl hdV_X4_at ⟨Nat.le_of_ble_eq_true rfl, Nat.le_of_ble_eq_true rfl⟩) hK hP hD hS hA [3, 4] [0, 1, 2] rfl rfl rfl rfl rfl (ci := 4) (q0 := 0) rfl rfl rfl rfl hl.1 (Nat.le_of_ble_eq_true rfl) dX7_moves_45 rfl (fun r2 u H locs hq hP hD hS => ?_)
    try dsimp only at hq
    have hP : va_P (dC, dI) vwCl (W_X7_moves cI cJ cZ h_goer h_goer_acts h_goer_thens h_S h_S_cells h_goer_been goer_states goer_walks goer_x goer_y goer_end goer_steps goer_state goer_lowestRow f_goer_acts f_goer_thens S_h S_w f_S_cells) H := hP
    have hD : va_D A (W_X7_moves cI cJ cZ h_goer h_goer_acts h_goer_thens h_S h_S_cells h_goer_been goer_states goer_walks goer_x goer_y goer_end goer_steps goer_state goer_lowestRow f_goer_acts f_goer_thens S_h S_w f_S_cells) := hD
    refine lv_iconst (v := (3 : Int32)) hx hb dX7_moves_48 (by decide) ?_
    refine lv_iand hx hb dX7_moves_49 ?_
    refine lv_iadd hx hb dX7_moves_50 ?_
    refine lv_istore_n (lv' := [(2, .int ((goer_state * (4 : Int32)) + (r2 &&& (3 : Int32)))), (0, .ref h_goer), (1, .ref h_S)]) hx hb dX7_moves_51 rfl hl (by decide) rfl (fun ls hl => ?_)
    refine lv_aload_n hx hb dX7_moves_52 rfl (lv_at hl 1 rfl) ?_
    refine va_get (D := (dC, dI)) (ci := 7) (v := .ref h_goer_acts) (C := RX7) (T := TX7) (N := 11) hx hb hts hinX7 hown hK hP 0 rfl rfl 1 (by decide) hf15 (fun _ h9 => h9) rfl dX7_moves_53 ?_
    refine lv_iload_n hx hb dX7_moves_56 rfl (lv_at hl 0 rfl) ?_
    obtain ⟨hv3, hq⟩ := hq
    refine va_iald hx hb hK hP 1 0 rfl rfl hv3 dX7_moves_57 ?_
    refine lv_topi (fun v4 ev4 => ?_)
    replace hq := hq v4 ev4
    refine lv_istore_n (lv' := [(3, .int v4), (2, .int ((goer_state * (4 : Int32)) + (r2 &&& (3 : Int32)))), (0, .ref h_goer), (1, .ref h_S)]) hx hb dX7_moves_58 rfl hl (by decide) rfl (fun ls hl => ?_)
    refine lv_iload_n hx hb dX7_moves_59 rfl (lv_at hl 0 rfl) ?_
    refine lv_iconst (v := (4 : Int32)) hx hb dX7_moves_60 (by decide) ?_
    refine lv_icmp_lt (tgt := 80) hx hb dX7_moves_61 (by decide) (fun c5 => ?_) (fun c5 => ?_)
    · replace hq := hq.1 c5
      refine lv_aload_n hx hb dX7_moves_80 rfl (lv_at hl 2 rfl) ?_
      refine lv_dup hx hb dX7_moves_81 rfl ?_
      refine va_get (D := (dC, dI)) (ci := 7) (v := .int goer_steps) (C := RX7) (T := TX7) (N := 11) hx hb hts hinX7 hown hK hP 0 rfl rfl 8 (by decide) hf37 (fun _ h9 => h9) rfl dX7_moves_82 ?_
      refine lv_iconst (v := (1 : Int32)) hx hb dX7_moves_85 (by decide) ?_
      refine lv_iadd hx hb dX7_moves_86 ?_
      refine va_put (D := (dC, dI)) (ci := 7) (v := .int (goer_steps + (1 : Int32))) (ty := tyX7 8) (C := RX7) (T := TX7) (N := 11) hx hb hts hinX7 tyX7 tyX7_ok nmX7 hown hK hP hD hS 0 rfl rfl 8 (by decide) hf37 (fun _ h9 => h9) rfl (tyX7_ok 8 (by decide)) rfl rfl (Nat.le_of_ble_eq_true rfl) dX7_moves_87 (fun H locs hP hD hS => ?_)
      have hP : va_P (dC, dI) vwCl (W_X7_moves cI cJ cZ h_goer h_goer_acts h_goer_thens h_S h_S_cells h_goer_been goer_states goer_walks goer_x goer_y goer_end (goer_steps + (1 : Int32)) goer_state goer_lowestRow f_goer_acts f_goer_thens S_h S_w f_S_cells) H := hP
      have hD : va_D A (W_X7_moves cI cJ cZ h_goer h_goer_acts h_goer_thens h_S h_S_cells h_goer_been goer_states goer_walks goer_x goer_y goer_end (goer_steps + (1 : Int32)) goer_state goer_lowestRow f_goer_acts f_goer_thens S_h S_w f_S_cells) := hD
      refine lv_aload_n hx hb dX7_moves_90 rfl (lv_at hl 2 rfl) ?_
      refine lv_dup hx hb dX7_moves_91 rfl ?_
      refine va_get (D := (dC, dI)) (ci := 7) (v := .int goer_x) (C := RX7) (T := TX7) (N := 11) hx hb hts hinX7 hown hK hP 0 rfl rfl 5 (by decide) hf28 (fun _ h9 => h9) rfl dX7_moves_92 ?_
      refine lv_iload_n hx hb dX7_moves_95 rfl (lv_at hl 0 rfl) ?_
      refine lv_if_ne (tgt := 103) hx hb dX7_moves_96 (by decide) (fun c6 => ?_) (fun c6 => ?_)
      · replace hq := hq.1 c6
        refine lv_iload_n hx hb dX7_moves_103 rfl (lv_at hl 0 rfl) ?_
        refine lv_iconst (v := (2 : Int32)) hx hb dX7_moves_104 (by decide) ?_
        refine lv_icmp_ne (tgt := 112) hx hb dX7_moves_105 (by decide) (fun c7 => ?_) (fun c7 => ?_)
        · replace hq := hq.1 c7
          refine lv_iconst (v := (0 : Int32)) hx hb dX7_moves_112 (by decide) ?_
          exact C113 _ _ _ _ _ _ _ _ _ _ hq _ _ hP hD hS _ (lv_sub hl [2, 3, 1, 0] rfl)
        · replace hq := hq.2 c7
          refine lv_iconst (v := (-1 : Int32)) hx hb dX7_moves_108 (by decide) ?_
          refine lv_goto (tgt := 113) hx hb dX7_moves_109 (by decide) ?_
          exact C113 _ _ _ _ _ _ _ _ _ _ hq _ _ hP hD hS _ (lv_sub hl [2, 3, 1, 0] rfl)
      · replace hq := hq.2 c6
        refine lv_iconst (v := (1 : Int32)) hx hb dX7_moves_99 (by decide) ?_
        refine lv_goto (tgt := 113) hx hb dX7_moves_100 (by decide) ?_
        exact C113 _ _ _ _ _ _ _ _ _ _ hq _ _ hP hD hS _ (lv_sub hl [2, 3, 1, 0] rfl)
    · replace hq := hq.2 c5
      refine lv_aload_n hx hb dX7_moves_64 rfl (lv_at hl 2 rfl) ?_
      refine lv_iload_n hx hb dX7_moves_65 rfl (lv_at hl 0 rfl) ?_
      refine lv_iconst (v := (4 : Int32)) hx hb dX7_moves_66 (by decide) ?_
      refine lv_icmp_ne (tgt := 74) hx hb dX7_moves_67 (by decide) (fun c15 => ?_) (fun c15 => ?_)
      · replace hq := hq.1 c15
        refine lv_iconst (v := (0 : Int32)) hx hb dX7_moves_74 (by decide) ?_
        refine va_put (D := (dC, dI)) (ci := 7) (v := .int (0 : Int32)) (ty := tyX7 7) (C := RX7) (T := TX7) (N := 11) hx hb hts hinX7 tyX7 tyX7_ok nmX7 hown hK hP hD hS 0 rfl rfl 7 (by decide) hf34 (fun _ h9 => h9) rfl (tyX7_ok 7 (by decide)) rfl rfl (Nat.le_of_ble_eq_true rfl) dX7_moves_75 (fun H locs hP hD hS => ?_)
        have hP : va_P (dC, dI) vwCl (W_X7_moves cI cJ cZ h_goer h_goer_acts h_goer_thens h_S h_S_cells h_goer_been goer_states goer_walks goer_x goer_y (0 : Int32) goer_steps goer_state goer_lowestRow f_goer_acts f_goer_thens S_h S_w f_S_cells) H := hP
        have hD : va_D A (W_X7_moves cI cJ cZ h_goer h_goer_acts h_goer_thens h_S h_S_cells h_goer_been goer_states goer_walks goer_x goer_y (0 : Int32) goer_steps goer_state goer_lowestRow f_goer_acts f_goer_thens S_h S_w f_S_cells) := hD
        refine lv_iconst (v := (0 : Int32)) hx hb dX7_moves_78 (by decide) ?_
        exact hret (0 : Int32) (goer_x, goer_y, (0 : Int32), goer_steps, goer_state, goer_lowestRow) (Or.inl rfl) hq _ _ hP hD hS _ _ dX7_moves_79
      · replace hq := hq.2 c15
        refine lv_iconst (v := (1 : Int32)) hx hb dX7_moves_70 (by decide) ?_
        refine lv_goto (tgt := 75) hx hb dX7_moves_71 (by decide) ?_
        refine va_put (D := (dC, dI)) (ci := 7) (v := .int (1 : Int32)) (ty := tyX7 7) (C := RX7) (T := TX7) (N := 11) hx hb hts hinX7 tyX7 tyX7_ok nmX7 hown hK hP hD hS 0 rfl rfl 7 (by decide) hf34 (fun _ h9 => h9) rfl (tyX7_ok 7 (by decide)) rfl rfl (Nat.le_of_ble_eq_true rfl) dX7_moves_75 (fun H locs hP hD hS => ?_)
        have hP : va_P (dC, dI) vwCl (W_X7_moves cI cJ cZ h_goer h_goer_acts h_goer_thens h_S h_S_cells h_goer_been goer_states goer_walks goer_x goer_y (1 : Int32) goer_steps goer_state goer_lowestRow f_goer_acts f_goer_thens S_h S_w f_S_cells) H := hP
        have hD : va_D A (W_X7_moves cI cJ cZ h_goer h_goer_acts h_goer_thens h_S h_S_cells h_goer_been goer_states goer_walks goer_x goer_y (1 : Int32) goer_steps goer_state goer_lowestRow f_goer_acts f_goer_thens S_h S_w f_S_cells) := hD
        refine lv_iconst (v := (0 : Int32)) hx hb dX7_moves_78 (by decide) ?_
        exact hret (0 : Int32) (goer_x, goer_y, (1 : Int32), goer_steps, goer_state, goer_lowestRow) (Or.inl rfl) hq _ _ hP hD hS _ _ dX7_moves_79
  unfold q_X7_moves at hq
  refine lv_aload_n hx hb dX7_moves_0 rfl (lv_at hl 0 rfl) ?_
  refine va_get (D := (dC, dI)) (ci := 7) (v := .int goer_y) (C := RX7) (T := TX7) (N := 11) hx hb hts hinX7 hown hK hP 0 rfl rfl 6 (by decide) hf31 (fun _ h9 => h9) rfl dX7_moves_1 ?_
  refine lv_aload_n hx hb dX7_moves_4 rfl (lv_at hl 0 rfl) ?_
  refine va_get (D := (dC, dI)) (ci := 7) (v := .int goer_lowestRow) (C := RX7) (T := TX7) (N := 11) hx hb hts hinX7 hown hK hP 0 rfl rfl 10 (by decide) hf43 (fun _ h9 => h9) rfl dX7_moves_5 ?_
  refine lv_icmp_le (tgt := 30) hx hb dX7_moves_8 (by decide) (fun c1 => ?_) (fun c1 => ?_)
  · replace hq := hq.1 c1
    exact C30 _ _ _ _ _ _ hq _ _ hP hD hS _ (lv_sub hl [0, 1] rfl)
  · replace hq := hq.2 c1
    refine lv_aload_n hx hb dX7_moves_11 rfl (lv_at hl 0 rfl) ?_
    refine va_get (D := (dC, dI)) (ci := 7) (v := .int goer_y) (C := RX7) (T := TX7) (N := 11) hx hb hts hinX7 hown hK hP 0 rfl rfl 6 (by decide) hf31 (fun _ h9 => h9) rfl dX7_moves_12 ?_
    refine lv_aload_n hx hb dX7_moves_15 rfl (lv_at hl 1 rfl) ?_
    refine va_get (D := (dC, dI)) (ci := 4) (v := .int S_h) (C := RX4) (T := TX4) (N := 3) hx hb hts hinX4 hown hK hP 3 rfl rfl 0 (by decide) hf64 (fun _ h9 => h9) rfl dX7_moves_16 ?_
    refine lv_icmp_ge (tgt := 30) hx hb dX7_moves_19 (by decide) (fun c16 => ?_) (fun c16 => ?_)
    · replace hq := hq.1 c16
      exact C30 _ _ _ _ _ _ hq _ _ hP hD hS _ (lv_sub hl [0, 1] rfl)
    · replace hq := hq.2 c16
      refine lv_aload_n hx hb dX7_moves_22 rfl (lv_at hl 0 rfl) ?_
      refine lv_aload_n hx hb dX7_moves_23 rfl (lv_at hl 0 rfl) ?_
      refine va_get (D := (dC, dI)) (ci := 7) (v := .int goer_y) (C := RX7) (T := TX7) (N := 11) hx hb hts hinX7 hown hK hP 0 rfl rfl 6 (by decide) hf31 (fun _ h9 => h9) rfl dX7_moves_24 ?_
      refine va_put (D := (dC, dI)) (ci := 7) (v := .int goer_y) (ty := tyX7 10) (C := RX7) (T := TX7) (N := 11) hx hb hts hinX7 tyX7 tyX7_ok nmX7 hown hK hP hD hS 0 rfl rfl 10 (by decide) hf43 (fun _ h9 => h9) rfl (tyX7_ok 10 (by decide)) rfl rfl (Nat.le_of_ble_eq_true rfl) dX7_moves_27 (fun H locs hP hD hS => ?_)
      have hP : va_P (dC, dI) vwCl (W_X7_moves cI cJ cZ h_goer h_goer_acts h_goer_thens h_S h_S_cells h_goer_been goer_states goer_walks goer_x goer_y goer_end goer_steps goer_state goer_y f_goer_acts f_goer_thens S_h S_w f_S_cells) H := hP
      have hD : va_D A (W_X7_moves cI cJ cZ h_goer h_goer_acts h_goer_thens h_S h_S_cells h_goer_been goer_states goer_walks goer_x goer_y goer_end goer_steps goer_state goer_y f_goer_acts f_goer_thens S_h S_w f_S_cells) := hD
      exact C30 _ _ _ _ _ _ hq _ _ hP hD hS _ (lv_sub hl [0, 1] rfl)

abbrev W_X7_go (cI cJ cZ : ClassId) (h_goer h_goer_acts h_goer_thens h_goer_been h_S h_S_cells : Nat) (goer_states : Int32) (goer_walks : Int32) (goer_x : Int32) (goer_y : Int32) (goer_end : Int32) (goer_steps : Int32) (goer_state : Int32) (goer_lowestRow : Int32) (f_goer_acts : Nat → Int32) (f_goer_thens : Nat → Int32) (f_goer_been : Nat → Int32) (S_h : Int32) (S_w : Int32) (f_S_cells : Nat → Int32) : va_W := [(h_goer, .inr (7, [.int goer_states, .ref h_goer_acts, .ref h_goer_thens, .ref h_goer_been, .int goer_walks, .int goer_x, .int goer_y, .int goer_end, .int goer_steps, .int goer_state, .int goer_lowestRow])), (h_goer_acts, .inl (cI, 20, .inl f_goer_acts)), (h_goer_thens, .inl (cI, 20, .inl f_goer_thens)), (h_goer_been, .inl (cI, 245, .inl f_goer_been)), (h_S, .inr (4, [.int S_h, .int S_w, .ref h_S_cells])), (h_S_cells, .inl (cI, 25, .inl f_S_cells))]
abbrev rm_X7_go : Room := { frames := 2, cells := 0, slots := 0, locals := 45 }
def r_X7_go_39 (f_goer_acts : Nat → Int32) (f_goer_thens : Nat → Int32) (S_h : Int32) (S_w : Int32) (f_S_cells : Nat → Int32) (post : (Int32) → (Int32) → (Int32) → (Int32) → (Int32) → (Int32) → (Int32) → (Nat → Int32) → Prop) (goer_walks : Int32) : Nat → (Int32) → (Int32) → (Int32) → (Int32) → (Int32) → (Int32) → (Int32) → (Int32) → (Nat → Int32) → Prop
  | 0, _, _, _, _, _, _, _, _, _ => False
  | n + 1, l2, l3, goer_x, goer_y, goer_end, goer_steps, goer_state, goer_lowestRow, f_goer_been => (((245 : Int32) < l3 → (post goer_walks goer_x goer_y goer_end goer_steps goer_state goer_lowestRow f_goer_been)) ∧ (¬ (245 : Int32) < l3 → ((l2 = 0 → (post goer_walks goer_x goer_y goer_end goer_steps goer_state goer_lowestRow f_goer_been)) ∧ (¬ l2 = 0 → (q_X7_isNewHere goer_walks goer_x goer_y goer_state S_w goer_end f_goer_been (fun (r3 : Int32) (goer_end_3 : Int32) (f_goer_been_3 : Nat → Int32) => ((r3 = 0 → ((r_X7_go_39 f_goer_acts f_goer_thens S_h S_w f_S_cells post goer_walks n) (0 : Int32) (l3 + (1 : Int32)) goer_x goer_y goer_end_3 goer_steps goer_state goer_lowestRow f_goer_been_3)) ∧ (¬ r3 = 0 → (q_X7_moves f_goer_acts f_goer_thens S_h S_w f_S_cells goer_x goer_y goer_end_3 goer_steps goer_state goer_lowestRow (fun (r5 : Int32) (goer_x_5 : Int32) (goer_y_5 : Int32) (goer_end_5 : Int32) (goer_steps_5 : Int32) (goer_state_5 : Int32) (goer_lowestRow_5 : Int32) => ((r5 = 0 → ((r_X7_go_39 f_goer_acts f_goer_thens S_h S_w f_S_cells post goer_walks n) (0 : Int32) (l3 + (1 : Int32)) goer_x_5 goer_y_5 goer_end_5 goer_steps_5 goer_state_5 goer_lowestRow_5 f_goer_been_3)) ∧ (¬ r5 = 0 → ((r_X7_go_39 f_goer_acts f_goer_thens S_h S_w f_S_cells post goer_walks n) (1 : Int32) (l3 + (1 : Int32)) goer_x_5 goer_y_5 goer_end_5 goer_steps_5 goer_state_5 goer_lowestRow_5 f_goer_been_3)))))))))))))
def q_X7_go_39 (f_goer_acts : Nat → Int32) (f_goer_thens : Nat → Int32) (S_h : Int32) (S_w : Int32) (f_S_cells : Nat → Int32) (post : (Int32) → (Int32) → (Int32) → (Int32) → (Int32) → (Int32) → (Int32) → (Nat → Int32) → Prop) (l2 : Int32) (l3 : Int32) (goer_walks : Int32) (goer_x : Int32) (goer_y : Int32) (goer_end : Int32) (goer_steps : Int32) (goer_state : Int32) (goer_lowestRow : Int32) (f_goer_been : Nat → Int32) : Prop := ∃ n, r_X7_go_39 f_goer_acts f_goer_thens S_h S_w f_S_cells post goer_walks n l2 l3 goer_x goer_y goer_end goer_steps goer_state goer_lowestRow f_goer_been
def q_X7_go (f_goer_acts : Nat → Int32) (f_goer_thens : Nat → Int32) (S_h : Int32) (S_w : Int32) (f_S_cells : Nat → Int32) (goer_walks : Int32) (goer_x : Int32) (goer_y : Int32) (goer_end : Int32) (goer_steps : Int32) (goer_state : Int32) (goer_lowestRow : Int32) (f_goer_been : Nat → Int32) (post : (Int32) → (Int32) → (Int32) → (Int32) → (Int32) → (Int32) → (Int32) → (Nat → Int32) → Prop) : Prop := ((q_X7_go_39 f_goer_acts f_goer_thens S_h S_w f_S_cells post) (1 : Int32) (0 : Int32) (goer_walks + (1 : Int32)) (0 : Int32) (0 : Int32) goer_end (0 : Int32) (0 : Int32) (0 : Int32) f_goer_been)
theorem hdV_X7_go : yX7_go.cls = RX7 ∧ yX7_go.cls ≠ "java/lang/invoke/MethodHandle" ∧ yX7_go.cls ≠ "java/lang/invoke/VarHandle" ∧ (parseMethodDescriptor yX7_go.desc).map (fun d => d.parameters.length) = some 1 := by decide +kernel
set_option maxHeartbeats 4000000 in
set_option maxRecDepth 100000 in
theorem c_X7_go (l : Launch) (dC : Nat → ClassId) (dI : Nat → Nat → Nat) (cI cJ cZ : ClassId) (h_goer h_goer_acts h_goer_thens h_goer_been h_S h_S_cells : Nat) (sz : Nat) (goer_states : Int32) (goer_walks : Int32) (goer_x : Int32) (goer_y : Int32) (goer_end : Int32) (goer_steps : Int32) (goer_state : Int32) (goer_lowestRow : Int32) (f_goer_acts : Nat → Int32) (f_goer_thens : Nat → Int32) (f_goer_been : Nat → Int32) (S_h : Int32) (S_w : Int32) (f_S_cells : Nat → Int32)  {post : (Int32) → (Int32) → (Int32) → (Int32) → (Int32) → (Int32) → (Int32) → (Nat → Int32) → Prop} (hq : q_X7_go f_goer_acts f_goer_thens S_h S_w f_S_cells goer_walks goer_x goer_y goer_end goer_steps goer_state goer_lowestRow f_goer_been post) : Met l yX7_go wsX7_go rm_X7_go (va_Pc [.ref h_goer, .ref h_S] (gx_Pre (dC, dI) vwCl (gx_tys cI cJ cZ) sz (W_X7_go cI cJ cZ h_goer h_goer_acts h_goer_thens h_goer_been h_S h_S_cells goer_states goer_walks goer_x goer_y goer_end goer_steps goer_state goer_lowestRow f_goer_acts f_goer_thens f_goer_been S_h S_w f_S_cells))) (va_Qv (fun (u : (Int32) × (Int32) × (Int32) × (Int32) × (Int32) × (Int32) × (Int32) × (Nat → Int32)) => post u.1 u.2.1 u.2.2.1 u.2.2.2.1 u.2.2.2.2.1 u.2.2.2.2.2.1 u.2.2.2.2.2.2.1 u.2.2.2.2.2.2.2) (gx_B (dC, dI) vwCl (gx_tys cI cJ cZ) (va_A (W_X7_go cI cJ cZ h_goer h_goer_acts h_goer_thens h_goer_been h_S h_S_cells goer_states goer_walks goer_x goer_y goer_end goer_steps goer_state goer_lowestRow f_goer_acts f_goer_thens f_goer_been S_h S_w f_S_cells) sz) (fun (u : (Int32) × (Int32) × (Int32) × (Int32) × (Int32) × (Int32) × (Int32) × (Nat → Int32)) => (W_X7_go cI cJ cZ h_goer h_goer_acts h_goer_thens h_goer_been h_S h_S_cells goer_states u.1 u.2.1 u.2.2.1 u.2.2.2.1 u.2.2.2.2.1 u.2.2.2.2.2.1 u.2.2.2.2.2.2.1 f_goer_acts f_goer_thens u.2.2.2.2.2.2.2 S_h S_w f_S_cells))) (va_A (W_X7_go cI cJ cZ h_goer h_goer_acts h_goer_thens h_goer_been h_S h_S_cells goer_states goer_walks goer_x goer_y goer_end goer_steps goer_state goer_lowestRow f_goer_acts f_goer_thens f_goer_been S_h S_w f_S_cells) sz)) 0 0 (va_A (W_X7_go cI cJ cZ h_goer h_goer_acts h_goer_thens h_goer_been h_S h_S_cells goer_states goer_walks goer_x goer_y goer_end goer_steps goer_state goer_lowestRow f_goer_acts f_goer_thens f_goer_been S_h S_w f_S_cells) sz) := by
  refine gx_v (cc := cX7_go) (maxL := 4) (by decide) rfl (Nat.le_of_ble_eq_true rfl) ?_
  intro p e s m args below meth c A QQ hx hb hml hown hts hA hP hK hD hret ls hl
  have hown : s.vm.findClass RX7 = some m.cls := hown
  have hf25 := hts (.fieldLink RX7 25 "SmallWindows$Walker" "walks" "I") (by decide +kernel)
  have hf37 := hts (.fieldLink RX7 37 "SmallWindows$Walker" "steps" "I") (by decide +kernel)
  have hf40 := hts (.fieldLink RX7 40 "SmallWindows$Walker" "state" "I") (by decide +kernel)
  have hf28 := hts (.fieldLink RX7 28 "SmallWindows$Walker" "x" "I") (by decide +kernel)
  have hf31 := hts (.fieldLink RX7 31 "SmallWindows$Walker" "y" "I") (by decide +kernel)
  have hf43 := hts (.fieldLink RX7 43 "SmallWindows$Walker" "lowestRow" "I") (by decide +kernel)
  have hf22 := hts (.fieldLink RX7 22 "SmallWindows$Walker" "been" "[I") (by decide +kernel)
  have hinX7 : ∀ w ∈ u_ws RX7 TX7 11, w ∈ wsX7_go := fun w h => List.mem_cons_of_mem _ ((List.mem_append_left _ (List.mem_append_right _ h)))
  have hS : va_S A s.heap s.heap [] := va_S.rf
  have hl : lv_has ls 4 [(0, .ref h_goer), (1, .ref h_S)] := hl
  have L39 : ∀ (goer_walks : Int32) (n : Nat) (l2 : Int32) (l3 : Int32) (goer_x : Int32) (goer_y : Int32) (goer_end : Int32) (goer_steps : Int32) (goer_state : Int32) (goer_lowestRow : Int32) (f_goer_been : Nat → Int32), r_X7_go_39 f_goer_acts f_goer_thens S_h S_w f_S_cells post goer_walks n l2 l3 goer_x goer_y goer_end goer_steps goer_state goer_lowestRow f_goer_been → ∀ (H : Heap) (locs : List Loc), va_P (dC, dI) vwCl (W_X7_go cI cJ cZ h_goer h_goer_acts h_goer_thens h_goer_been h_S h_S_cells goer_states goer_walks goer_x goer_y goer_end goer_steps goer_state goer_lowestRow f_goer_acts f_goer_thens f_goer_been S_h S_w f_S_cells) H → va_D A (W_X7_go cI cJ cZ h_goer h_goer_acts h_goer_thens h_goer_been h_S h_S_cells goer_states goer_walks goer_x goer_y goer_end goer_steps goer_state goer_lowestRow f_goer_acts f_goer_thens f_goer_been S_h S_w f_S_cells) → va_S A s.heap H locs → ∀ ls : Array Slot, lv_has ls 4 [(0, .ref h_goer), (1, .ref h_S), (2, .int l2), (3, .int l3)] → W p l e rm_X7_go s m args below meth c H locs 0 0 QQ (F0 m 39 ls []) := by
    intro goer_walks n
    induction n with
    | zero => intro l2 l3 goer_x goer_y goer_end goer_steps goer_state goer_lowestRow f_goer_been hq; exact False.elim hq
    | succ n ih =>
      intro l2 l3 goer_x goer_y goer_end goer_steps goer_state goer_lowestRow f_goer_been hq H locs hP hD hS ls hl
      unfold r_X7_go_39 at hq
      refine lv_iload_n hx hb dX7_go_39 rfl (lv_at hl 3 rfl) ?_
      refine lv_aload_n hx hb dX7_go_40 rfl (lv_at hl 0 rfl) ?_
      refine va_get (D := (dC, dI)) (ci := 7) (v := .ref h_goer_been) (C := RX7) (T := TX7) (N := 11) hx hb hts hinX7 hown hK hP 0 rfl rfl 3 (by decide) hf22 (fun _ h9 => h9) rfl dX7_go_41 ?_
      refine va_alen (v := (245 : Int32)) hx hb hK hP 3 0 rfl rfl rfl dX7_go_44 ?_
      refine lv_icmp_gt (tgt := 80) hx hb dX7_go_45 (by decide) (fun c1 => ?_) (fun c1 => ?_)
      · replace hq := hq.1 c1
        exact hret (goer_walks, goer_x, goer_y, goer_end, goer_steps, goer_state, goer_lowestRow, f_goer_been) hq _ _ hP hD hS _ _ dX7_go_80
      · replace hq := hq.2 c1
        refine lv_iload_n hx hb dX7_go_48 rfl (lv_at hl 2 rfl) ?_
        refine lv_if_eq (tgt := 80) hx hb dX7_go_49 (by decide) (fun c2 => ?_) (fun c2 => ?_)
        · replace hq := hq.1 c2
          exact hret (goer_walks, goer_x, goer_y, goer_end, goer_steps, goer_state, goer_lowestRow, f_goer_been) hq _ _ hP hD hS _ _ dX7_go_80
        · replace hq := hq.2 c2
          refine lv_aload_n hx hb dX7_go_52 rfl (lv_at hl 0 rfl) ?_
          refine lv_aload_n hx hb dX7_go_53 rfl (lv_at hl 1 rfl) ?_
          refine gx_cVi (C := RX7) (As := [.ref h_S]) (rest := []) ⟨hx, hb, hml, hown, hts⟩ (c_X7_isNewHere l dC dI cI cJ cZ h_goer h_goer_been h_S h_goer_acts h_goer_thens h_S_cells H.size goer_states goer_walks goer_x goer_y goer_end goer_steps goer_state goer_lowestRow f_goer_been S_h S_w hq) (cwV 1 hts gX7_go_X7_isNewHere rfl rfl rfl hdV_X7_isNewHere ⟨Nat.le_of_ble_eq_true rfl, Nat.le_of_ble_eq_true rfl⟩) hK hP hD hS hA [0, 3, 4] [1, 2, 5] rfl rfl rfl rfl rfl (ci := 7) (q0 := 0) rfl rfl rfl rfl hl.1 (Nat.le_of_ble_eq_true rfl) dX7_go_54 rfl (fun r3 u H locs hq hP hD hS => ?_)
          obtain ⟨goer_end_3, f_goer_been_3⟩ := u
          try dsimp only at hq
          have hP : va_P (dC, dI) vwCl (W_X7_go cI cJ cZ h_goer h_goer_acts h_goer_thens h_goer_been h_S h_S_cells goer_states goer_walks goer_x goer_y goer_end_3 goer_steps goer_state goer_lowestRow f_goer_acts f_goer_thens f_goer_been_3 S_h S_w f_S_cells) H := hP.sub [3, 0, 1, 4, 5, 2] rfl
          have hD : va_D A (W_X7_go cI cJ cZ h_goer h_goer_acts h_goer_thens h_goer_been h_S h_S_cells goer_states goer_walks goer_x goer_y goer_end_3 goer_steps goer_state goer_lowestRow f_goer_acts f_goer_thens f_goer_been_3 S_h S_w f_S_cells) := hD.sub [3, 0, 1, 4, 5, 2] (by decide) rfl
          refine lv_if_eq (tgt := 72) hx hb dX7_go_57 (by decide) (fun c4 => ?_) (fun c4 => ?_)
          · replace hq := hq.1 c4
            refine lv_iconst (v := (0 : Int32)) hx hb dX7_go_72 (by decide) ?_
            refine lv_istore_n (lv' := [(2, .int (0 : Int32)), (0, .ref h_goer), (1, .ref h_S), (3, .int l3)]) hx hb dX7_go_73 rfl hl (by decide) rfl (fun ls hl => ?_)
            refine lv_iinc (v := (l3 + (1 : Int32))) (lv' := [(3, .int (l3 + (1 : Int32))), (2, .int (0 : Int32)), (0, .ref h_goer), (1, .ref h_S)]) hx hb dX7_go_74 hl (k := 3) rfl rfl (by decide) rfl (fun ls hl => ?_)
            refine lv_goto (tgt := 39) hx hb dX7_go_77 (by decide) ?_
            exact ih _ _ _ _ _ _ _ _ _ hq _ _ hP hD hS _ (lv_sub hl [2, 3, 1, 0] rfl)
          · replace hq := hq.2 c4
            refine lv_aload_n hx hb dX7_go_60 rfl (lv_at hl 0 rfl) ?_
            refine lv_aload_n hx hb dX7_go_61 rfl (lv_at hl 1 rfl) ?_
            refine gx_cVi (C := RX7) (As := [.ref h_S]) (rest := []) ⟨hx, hb, hml, hown, hts⟩ (c_X7_moves l dC dI cI cJ cZ h_goer h_goer_acts h_goer_thens h_S h_S_cells h_goer_been H.size goer_states goer_walks goer_x goer_y goer_end_3 goer_steps goer_state goer_lowestRow f_goer_acts f_goer_thens S_h S_w f_S_cells hq) (cwV 1 hts gX7_go_X7_moves rfl rfl rfl hdV_X7_moves ⟨Nat.le_of_ble_eq_true rfl, Nat.le_of_ble_eq_true rfl⟩) hK hP hD hS hA [0, 1, 2, 4, 5] [3] rfl rfl rfl rfl rfl (ci := 7) (q0 := 0) rfl rfl rfl rfl hl.1 (Nat.le_of_ble_eq_true rfl) dX7_go_62 rfl (fun r5 u H locs hq hP hD hS => ?_)
            obtain ⟨goer_x_5, goer_y_5, goer_end_5, goer_steps_5, goer_state_5, goer_lowestRow_5⟩ := u
            try dsimp only at hq
            have hP : va_P (dC, dI) vwCl (W_X7_go cI cJ cZ h_goer h_goer_acts h_goer_thens h_goer_been h_S h_S_cells goer_states goer_walks goer_x_5 goer_y_5 goer_end_5 goer_steps_5 goer_state_5 goer_lowestRow_5 f_goer_acts f_goer_thens f_goer_been_3 S_h S_w f_S_cells) H := hP.sub [1, 2, 3, 0, 4, 5] rfl
            have hD : va_D A (W_X7_go cI cJ cZ h_goer h_goer_acts h_goer_thens h_goer_been h_S h_S_cells goer_states goer_walks goer_x_5 goer_y_5 goer_end_5 goer_steps_5 goer_state_5 goer_lowestRow_5 f_goer_acts f_goer_thens f_goer_been_3 S_h S_w f_S_cells) := hD.sub [1, 2, 3, 0, 4, 5] (by decide) rfl
            refine lv_if_eq (tgt := 72) hx hb dX7_go_65 (by decide) (fun c6 => ?_) (fun c6 => ?_)
            · replace hq := hq.1 c6
              refine lv_iconst (v := (0 : Int32)) hx hb dX7_go_72 (by decide) ?_
              refine lv_istore_n (lv' := [(2, .int (0 : Int32)), (0, .ref h_goer), (1, .ref h_S), (3, .int l3)]) hx hb dX7_go_73 rfl hl (by decide) rfl (fun ls hl => ?_)
              refine lv_iinc (v := (l3 + (1 : Int32))) (lv' := [(3, .int (l3 + (1 : Int32))), (2, .int (0 : Int32)), (0, .ref h_goer), (1, .ref h_S)]) hx hb dX7_go_74 hl (k := 3) rfl rfl (by decide) rfl (fun ls hl => ?_)
              refine lv_goto (tgt := 39) hx hb dX7_go_77 (by decide) ?_
              exact ih _ _ _ _ _ _ _ _ _ hq _ _ hP hD hS _ (lv_sub hl [2, 3, 1, 0] rfl)
            · replace hq := hq.2 c6
              refine lv_iconst (v := (1 : Int32)) hx hb dX7_go_68 (by decide) ?_
              refine lv_goto (tgt := 73) hx hb dX7_go_69 (by decide) ?_
              refine lv_istore_n (lv' := [(2, .int (1 : Int32)), (0, .ref h_goer), (1, .ref h_S), (3, .int l3)]) hx hb dX7_go_73 rfl hl (by decide) rfl (fun ls hl => ?_)
              refine lv_iinc (v := (l3 + (1 : Int32))) (lv' := [(3, .int (l3 + (1 : Int32))), (2, .int (1 : Int32)), (0, .ref h_goer), (1, .ref h_S)]) hx hb dX7_go_74 hl (k := 3) rfl rfl (by decide) rfl (fun ls hl => ?_)
              refine lv_goto (tgt := 39) hx hb dX7_go_77 (by decide) ?_
              exact ih _ _ _ _ _ _ _ _ _ hq _ _ hP hD hS _ (lv_sub hl [2, 3, 1, 0] rfl)
  have C39 : ∀ (l2 : Int32) (l3 : Int32) (goer_walks : Int32) (goer_x : Int32) (goer_y : Int32) (goer_end : Int32) (goer_steps : Int32) (goer_state : Int32) (goer_lowestRow : Int32) (f_goer_been : Nat → Int32), q_X7_go_39 f_goer_acts f_goer_thens S_h S_w f_S_cells post l2 l3 goer_walks goer_x goer_y goer_end goer_steps goer_state goer_lowestRow f_goer_been → ∀ (H : Heap) (locs : List Loc), va_P (dC, dI) vwCl (W_X7_go cI cJ cZ h_goer h_goer_acts h_goer_thens h_goer_been h_S h_S_cells goer_states goer_walks goer_x goer_y goer_end goer_steps goer_state goer_lowestRow f_goer_acts f_goer_thens f_goer_been S_h S_w f_S_cells) H → va_D A (W_X7_go cI cJ cZ h_goer h_goer_acts h_goer_thens h_goer_been h_S h_S_cells goer_states goer_walks goer_x goer_y goer_end goer_steps goer_state goer_lowestRow f_goer_acts f_goer_thens f_goer_been S_h S_w f_S_cells) → va_S A s.heap H locs → ∀ ls : Array Slot, lv_has ls 4 [(0, .ref h_goer), (1, .ref h_S), (2, .int l2), (3, .int l3)] → W p l e rm_X7_go s m args below meth c H locs 0 0 QQ (F0 m 39 ls []) := by
    intro l2 l3 goer_walks goer_x goer_y goer_end goer_steps goer_state goer_lowestRow f_goer_been hq H locs hP hD hS ls hl
    obtain ⟨n, hq⟩ := hq
    exact L39 _ n _ _ _ _ _ _ _ _ _ hq H locs hP hD hS ls hl
  unfold q_X7_go at hq
  refine lv_aload_n hx hb dX7_go_0 rfl (lv_at hl 0 rfl) ?_
  refine lv_dup hx hb dX7_go_1 rfl ?_
  refine va_get (D := (dC, dI)) (ci := 7) (v := .int goer_walks) (C := RX7) (T := TX7) (N := 11) hx hb hts hinX7 hown hK hP 0 rfl rfl 4 (by decide) hf25 (fun _ h9 => h9) rfl dX7_go_2 ?_
  refine lv_iconst (v := (1 : Int32)) hx hb dX7_go_5 (by decide) ?_
  refine lv_iadd hx hb dX7_go_6 ?_
  refine va_put (D := (dC, dI)) (ci := 7) (v := .int (goer_walks + (1 : Int32))) (ty := tyX7 4) (C := RX7) (T := TX7) (N := 11) hx hb hts hinX7 tyX7 tyX7_ok nmX7 hown hK hP hD hS 0 rfl rfl 4 (by decide) hf25 (fun _ h9 => h9) rfl (tyX7_ok 4 (by decide)) rfl rfl (Nat.le_of_ble_eq_true rfl) dX7_go_7 (fun H locs hP hD hS => ?_)
  have hP : va_P (dC, dI) vwCl (W_X7_go cI cJ cZ h_goer h_goer_acts h_goer_thens h_goer_been h_S h_S_cells goer_states (goer_walks + (1 : Int32)) goer_x goer_y goer_end goer_steps goer_state goer_lowestRow f_goer_acts f_goer_thens f_goer_been S_h S_w f_S_cells) H := hP
  have hD : va_D A (W_X7_go cI cJ cZ h_goer h_goer_acts h_goer_thens h_goer_been h_S h_S_cells goer_states (goer_walks + (1 : Int32)) goer_x goer_y goer_end goer_steps goer_state goer_lowestRow f_goer_acts f_goer_thens f_goer_been S_h S_w f_S_cells) := hD
  refine lv_aload_n hx hb dX7_go_10 rfl (lv_at hl 0 rfl) ?_
  refine lv_iconst (v := (0 : Int32)) hx hb dX7_go_11 (by decide) ?_
  refine va_put (D := (dC, dI)) (ci := 7) (v := .int (0 : Int32)) (ty := tyX7 8) (C := RX7) (T := TX7) (N := 11) hx hb hts hinX7 tyX7 tyX7_ok nmX7 hown hK hP hD hS 0 rfl rfl 8 (by decide) hf37 (fun _ h9 => h9) rfl (tyX7_ok 8 (by decide)) rfl rfl (Nat.le_of_ble_eq_true rfl) dX7_go_12 (fun H locs hP hD hS => ?_)
  have hP : va_P (dC, dI) vwCl (W_X7_go cI cJ cZ h_goer h_goer_acts h_goer_thens h_goer_been h_S h_S_cells goer_states (goer_walks + (1 : Int32)) goer_x goer_y goer_end (0 : Int32) goer_state goer_lowestRow f_goer_acts f_goer_thens f_goer_been S_h S_w f_S_cells) H := hP
  have hD : va_D A (W_X7_go cI cJ cZ h_goer h_goer_acts h_goer_thens h_goer_been h_S h_S_cells goer_states (goer_walks + (1 : Int32)) goer_x goer_y goer_end (0 : Int32) goer_state goer_lowestRow f_goer_acts f_goer_thens f_goer_been S_h S_w f_S_cells) := hD
  refine lv_aload_n hx hb dX7_go_15 rfl (lv_at hl 0 rfl) ?_
  refine lv_iconst (v := (0 : Int32)) hx hb dX7_go_16 (by decide) ?_
  refine va_put (D := (dC, dI)) (ci := 7) (v := .int (0 : Int32)) (ty := tyX7 9) (C := RX7) (T := TX7) (N := 11) hx hb hts hinX7 tyX7 tyX7_ok nmX7 hown hK hP hD hS 0 rfl rfl 9 (by decide) hf40 (fun _ h9 => h9) rfl (tyX7_ok 9 (by decide)) rfl rfl (Nat.le_of_ble_eq_true rfl) dX7_go_17 (fun H locs hP hD hS => ?_)
  have hP : va_P (dC, dI) vwCl (W_X7_go cI cJ cZ h_goer h_goer_acts h_goer_thens h_goer_been h_S h_S_cells goer_states (goer_walks + (1 : Int32)) goer_x goer_y goer_end (0 : Int32) (0 : Int32) goer_lowestRow f_goer_acts f_goer_thens f_goer_been S_h S_w f_S_cells) H := hP
  have hD : va_D A (W_X7_go cI cJ cZ h_goer h_goer_acts h_goer_thens h_goer_been h_S h_S_cells goer_states (goer_walks + (1 : Int32)) goer_x goer_y goer_end (0 : Int32) (0 : Int32) goer_lowestRow f_goer_acts f_goer_thens f_goer_been S_h S_w f_S_cells) := hD
  refine lv_aload_n hx hb dX7_go_20 rfl (lv_at hl 0 rfl) ?_
  refine lv_iconst (v := (0 : Int32)) hx hb dX7_go_21 (by decide) ?_
  refine va_put (D := (dC, dI)) (ci := 7) (v := .int (0 : Int32)) (ty := tyX7 5) (C := RX7) (T := TX7) (N := 11) hx hb hts hinX7 tyX7 tyX7_ok nmX7 hown hK hP hD hS 0 rfl rfl 5 (by decide) hf28 (fun _ h9 => h9) rfl (tyX7_ok 5 (by decide)) rfl rfl (Nat.le_of_ble_eq_true rfl) dX7_go_22 (fun H locs hP hD hS => ?_)
  have hP : va_P (dC, dI) vwCl (W_X7_go cI cJ cZ h_goer h_goer_acts h_goer_thens h_goer_been h_S h_S_cells goer_states (goer_walks + (1 : Int32)) (0 : Int32) goer_y goer_end (0 : Int32) (0 : Int32) goer_lowestRow f_goer_acts f_goer_thens f_goer_been S_h S_w f_S_cells) H := hP
  have hD : va_D A (W_X7_go cI cJ cZ h_goer h_goer_acts h_goer_thens h_goer_been h_S h_S_cells goer_states (goer_walks + (1 : Int32)) (0 : Int32) goer_y goer_end (0 : Int32) (0 : Int32) goer_lowestRow f_goer_acts f_goer_thens f_goer_been S_h S_w f_S_cells) := hD
  refine lv_aload_n hx hb dX7_go_25 rfl (lv_at hl 0 rfl) ?_
  refine lv_iconst (v := (0 : Int32)) hx hb dX7_go_26 (by decide) ?_
  refine va_put (D := (dC, dI)) (ci := 7) (v := .int (0 : Int32)) (ty := tyX7 6) (C := RX7) (T := TX7) (N := 11) hx hb hts hinX7 tyX7 tyX7_ok nmX7 hown hK hP hD hS 0 rfl rfl 6 (by decide) hf31 (fun _ h9 => h9) rfl (tyX7_ok 6 (by decide)) rfl rfl (Nat.le_of_ble_eq_true rfl) dX7_go_27 (fun H locs hP hD hS => ?_)
  have hP : va_P (dC, dI) vwCl (W_X7_go cI cJ cZ h_goer h_goer_acts h_goer_thens h_goer_been h_S h_S_cells goer_states (goer_walks + (1 : Int32)) (0 : Int32) (0 : Int32) goer_end (0 : Int32) (0 : Int32) goer_lowestRow f_goer_acts f_goer_thens f_goer_been S_h S_w f_S_cells) H := hP
  have hD : va_D A (W_X7_go cI cJ cZ h_goer h_goer_acts h_goer_thens h_goer_been h_S h_S_cells goer_states (goer_walks + (1 : Int32)) (0 : Int32) (0 : Int32) goer_end (0 : Int32) (0 : Int32) goer_lowestRow f_goer_acts f_goer_thens f_goer_been S_h S_w f_S_cells) := hD
  refine lv_aload_n hx hb dX7_go_30 rfl (lv_at hl 0 rfl) ?_
  refine lv_iconst (v := (0 : Int32)) hx hb dX7_go_31 (by decide) ?_
  refine va_put (D := (dC, dI)) (ci := 7) (v := .int (0 : Int32)) (ty := tyX7 10) (C := RX7) (T := TX7) (N := 11) hx hb hts hinX7 tyX7 tyX7_ok nmX7 hown hK hP hD hS 0 rfl rfl 10 (by decide) hf43 (fun _ h9 => h9) rfl (tyX7_ok 10 (by decide)) rfl rfl (Nat.le_of_ble_eq_true rfl) dX7_go_32 (fun H locs hP hD hS => ?_)
  have hP : va_P (dC, dI) vwCl (W_X7_go cI cJ cZ h_goer h_goer_acts h_goer_thens h_goer_been h_S h_S_cells goer_states (goer_walks + (1 : Int32)) (0 : Int32) (0 : Int32) goer_end (0 : Int32) (0 : Int32) (0 : Int32) f_goer_acts f_goer_thens f_goer_been S_h S_w f_S_cells) H := hP
  have hD : va_D A (W_X7_go cI cJ cZ h_goer h_goer_acts h_goer_thens h_goer_been h_S h_S_cells goer_states (goer_walks + (1 : Int32)) (0 : Int32) (0 : Int32) goer_end (0 : Int32) (0 : Int32) (0 : Int32) f_goer_acts f_goer_thens f_goer_been S_h S_w f_S_cells) := hD
  refine lv_iconst (v := (1 : Int32)) hx hb dX7_go_35 (by decide) ?_
  refine lv_istore_n (lv' := [(2, .int (1 : Int32)), (0, .ref h_goer), (1, .ref h_S)]) hx hb dX7_go_36 rfl hl (by decide) rfl (fun ls hl => ?_)
  refine lv_iconst (v := (0 : Int32)) hx hb dX7_go_37 (by decide) ?_
  refine lv_istore_n (lv' := [(3, .int (0 : Int32)), (2, .int (1 : Int32)), (0, .ref h_goer), (1, .ref h_S)]) hx hb dX7_go_38 rfl hl (by decide) rfl (fun ls hl => ?_)
  exact C39 _ _ _ _ _ _ _ _ _ _ hq _ _ hP hD hS _ (lv_sub hl [2, 3, 1, 0] rfl)
