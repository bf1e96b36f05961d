abbrev W_X1_clear (cI cJ cZ : ClassId) (h_hints h_hints_unlike : Nat) (hints_size : Int32) : va_W := [(h_hints, .inr (1, [.ref h_hints_unlike, .int hints_size]))]
abbrev rm_X1_clear : Room := { frames := 0, cells := 0, slots := 0, locals := 0 }
def q_X1_clear (hints_size : Int32) (post : (Int32) → Prop) : Prop := (post (0 : Int32))
theorem hdV_X1_clear : yX1_clear.cls = RX1 ∧ yX1_clear.cls ≠ "java/lang/invoke/MethodHandle" ∧ yX1_clear.cls ≠ "java/lang/invoke/VarHandle" ∧ (parseMethodDescriptor yX1_clear.desc).map (fun d => d.parameters.length) = some 0 := by decide +kernel
set_option maxHeartbeats 4000000 in
set_option maxRecDepth 100000 in
theorem c_X1_clear (l : Launch) (dC : Nat → ClassId) (dI : Nat → Nat → Nat) (cI cJ cZ : ClassId) (h_hints h_hints_unlike : Nat) (sz : Nat) (hints_size : Int32)  {post : (Int32) → Prop} (hq : q_X1_clear hints_size post) : Met l yX1_clear wsX1_clear rm_X1_clear (va_Pc [.ref h_hints] (gx_Pre (dC, dI) vwCl (gx_tys cI cJ cZ) sz (W_X1_clear cI cJ cZ h_hints h_hints_unlike hints_size))) (va_Qv (fun (u : (Int32)) => post u) (gx_B (dC, dI) vwCl (gx_tys cI cJ cZ) (va_A (W_X1_clear cI cJ cZ h_hints h_hints_unlike hints_size) sz) (fun (u : (Int32)) => (W_X1_clear cI cJ cZ h_hints h_hints_unlike u))) (va_A (W_X1_clear cI cJ cZ h_hints h_hints_unlike hints_size) sz)) 0 0 (va_A (W_X1_clear cI cJ cZ h_hints h_hints_unlike hints_size) sz) := by
  refine gx_v (cc := cX1_clear) (maxL := 1) (by decide) rfl (Nat.le_of_ble_eq_true rfl) ?_
  intro p e s m args below meth c A QQ hx hb hml hown hts hA hP hK hD hret ls hl
  have hown : s.vm.findClass RX1 = some m.cls := hown
  have hf15 := hts (.fieldLink RX1 15 "SmallWindows$Clues" "size" "I") (by decide +kernel)
  have hinX1 : ∀ w ∈ u_ws RX1 TX1 2, w ∈ wsX1_clear := fun w h => List.mem_cons_of_mem _ ((List.mem_append_right _ h))
  have hS : va_S A s.heap s.heap [] := va_S.rf
  have hl : lv_has ls 1 [(0, .ref h_hints)] := hl
  unfold q_X1_clear at hq
  refine lv_aload_n hx hb dX1_clear_0 rfl (lv_at hl 0 rfl) ?_
  refine lv_iconst (v := (0 : Int32)) hx hb dX1_clear_1 (by decide) ?_
  refine va_put (D := (dC, dI)) (ci := 1) (v := .int (0 : Int32)) (ty := tyX1 1) (C := RX1) (T := TX1) (N := 2) hx hb hts hinX1 tyX1 tyX1_ok nmX1 hown hK hP hD hS 0 rfl rfl 1 (by decide) hf15 (fun _ h9 => h9) rfl (tyX1_ok 1 (by decide)) rfl rfl (Nat.le_of_ble_eq_true rfl) dX1_clear_2 (fun H locs hP hD hS => ?_)
  have hP : va_P (dC, dI) vwCl (W_X1_clear cI cJ cZ h_hints h_hints_unlike (0 : Int32)) H := hP
  have hD : va_D A (W_X1_clear cI cJ cZ h_hints h_hints_unlike (0 : Int32)) := hD
  exact hret (0 : Int32) hq _ _ hP hD hS _ _ dX1_clear_5

abbrev W_X1_tellApart (cI cJ cZ : ClassId) (h_hints h_hints_unlike h_S h_S_cells h_T h_T_cells : Nat) (hints_size : Int32) (f_hints_unlike : Nat → Int32) (S_h : Int32) (S_w : Int32) (f_S_cells : Nat → Int32) (T_h : Int32) (T_w : Int32) (f_T_cells : Nat → Int32) : va_W := [(h_hints, .inr (1, [.ref h_hints_unlike, .int hints_size])), (h_hints_unlike, .inl (cI, 300, .inl f_hints_unlike)), (h_S, .inr (4, [.int S_h, .int S_w, .ref h_S_cells])), (h_S_cells, .inl (cI, 25, .inl f_S_cells)), (h_T, .inr (4, [.int T_h, .int T_w, .ref h_T_cells])), (h_T_cells, .inl (cI, 25, .inl f_T_cells))]
abbrev rm_X1_tellApart : Room := { frames := 1, cells := 0, slots := 0, locals := 20 }
def r_X1_tellApart_11 (S_h : Int32) (S_w : Int32) (f_S_cells : Nat → Int32) (f_T_cells : Nat → Int32) (post : (Int32) → (Nat → Int32) → Prop) (K48 : (Int32) → (Int32) → (Nat → Int32) → Prop) (l4 : Int32) (hints_size : Int32) (f_hints_unlike : Nat → Int32) : Nat → (Int32) → (Int32) → Prop
  | 0, _, _ => False
  | n + 1, l3, l5 => ((l4 ≤ l5 → (K48 l3 hints_size f_hints_unlike)) ∧ (¬ l4 ≤ l5 → (vp_in l5 25 ∧ (vp_in l5 25 ∧ (((f_S_cells (l5).toNatClampNeg) = (f_T_cells (l5).toNatClampNeg) → ((r_X1_tellApart_11 S_h S_w f_S_cells f_T_cells post K48 l4 hints_size f_hints_unlike n) l3 (l5 + (1 : Int32)))) ∧ (¬ (f_S_cells (l5).toNatClampNeg) = (f_T_cells (l5).toNatClampNeg) → ((r_X1_tellApart_11 S_h S_w f_S_cells f_T_cells post K48 l4 hints_size f_hints_unlike n) (l3 ||| ((1 : Int32) <<< (l5 &&& 31))) (l5 + (1 : Int32)))))))))
def q_X1_tellApart_48 (S_h : Int32) (S_w : Int32) (f_S_cells : Nat → Int32) (f_T_cells : Nat → Int32) (post : (Int32) → (Nat → Int32) → Prop) (l3 : Int32) (hints_size : Int32) (f_hints_unlike : Nat → Int32) : Prop := ((l3 = 0 → (post hints_size f_hints_unlike)) ∧ (¬ l3 = 0 → (((300 : Int32) ≤ hints_size → (post hints_size f_hints_unlike)) ∧ (¬ (300 : Int32) ≤ hints_size → (vp_in hints_size 300 ∧ (post (hints_size + (1 : Int32)) (upd f_hints_unlike (hints_size).toNatClampNeg l3)))))))
def q_X1_tellApart_11 (S_h : Int32) (S_w : Int32) (f_S_cells : Nat → Int32) (f_T_cells : Nat → Int32) (post : (Int32) → (Nat → Int32) → Prop) (l3 : Int32) (l4 : Int32) (l5 : Int32) (hints_size : Int32) (f_hints_unlike : Nat → Int32) : Prop := ∃ n, r_X1_tellApart_11 S_h S_w f_S_cells f_T_cells post (q_X1_tellApart_48 S_h S_w f_S_cells f_T_cells post) l4 hints_size f_hints_unlike n l3 l5
def q_X1_tellApart (S_h : Int32) (S_w : Int32) (f_S_cells : Nat → Int32) (f_T_cells : Nat → Int32) (hints_size : Int32) (f_hints_unlike : Nat → Int32) (post : (Int32) → (Nat → Int32) → Prop) : Prop := (q_X4_size S_h S_w (fun (r1 : Int32) => ((q_X1_tellApart_11 S_h S_w f_S_cells f_T_cells post) (0 : Int32) r1 (0 : Int32) hints_size f_hints_unlike)))
theorem hdV_X1_tellApart : yX1_tellApart.cls = RX1 ∧ yX1_tellApart.cls ≠ "java/lang/invoke/MethodHandle" ∧ yX1_tellApart.cls ≠ "java/lang/invoke/VarHandle" ∧ (parseMethodDescriptor yX1_tellApart.desc).map (fun d => d.parameters.length) = some 2 := by decide +kernel
set_option maxHeartbeats 4000000 in
set_option maxRecDepth 100000 in
theorem c_X1_tellApart (l : Launch) (dC : Nat → ClassId) (dI : Nat → Nat → Nat) (cI cJ cZ : ClassId) (h_hints h_hints_unlike h_S h_S_cells h_T h_T_cells : Nat) (sz : Nat) (hints_size : Int32) (f_hints_unlike : Nat → Int32) (S_h : Int32) (S_w : Int32) (f_S_cells : Nat → Int32) (T_h : Int32) (T_w : Int32) (f_T_cells : Nat → Int32)  {post : (Int32) → (Nat → Int32) → Prop} (hq : q_X1_tellApart S_h S_w f_S_cells f_T_cells hints_size f_hints_unlike post) : Met l yX1_tellApart wsX1_tellApart rm_X1_tellApart (va_Pc [.ref h_hints, .ref h_S, .ref h_T] (gx_Pre (dC, dI) vwCl (gx_tys cI cJ cZ) sz (W_X1_tellApart cI cJ cZ h_hints h_hints_unlike h_S h_S_cells h_T h_T_cells hints_size f_hints_unlike S_h S_w f_S_cells T_h T_w f_T_cells))) (va_Qv (fun (u : (Int32) × (Nat → Int32)) => post u.1 u.2) (gx_B (dC, dI) vwCl (gx_tys cI cJ cZ) (va_A (W_X1_tellApart cI cJ cZ h_hints h_hints_unlike h_S h_S_cells h_T h_T_cells hints_size f_hints_unlike S_h S_w f_S_cells T_h T_w f_T_cells) sz) (fun (u : (Int32) × (Nat → Int32)) => (W_X1_tellApart cI cJ cZ h_hints h_hints_unlike h_S h_S_cells h_T h_T_cells u.1 u.2 S_h S_w f_S_cells T_h T_w f_T_cells))) (va_A (W_X1_tellApart cI cJ cZ h_hints h_hints_unlike h_S h_S_cells h_T h_T_cells hints_size f_hints_unlike S_h S_w f_S_cells T_h T_w f_T_cells) sz)) 0 0 (va_A (W_X1_tellApart cI cJ cZ h_hints h_hints_unlike h_S h_S_cells h_T h_T_cells hints_size f_hints_unlike S_h S_w f_S_cells T_h T_w f_T_cells) sz) := by
  refine gx_v (cc := cX1_tellApart) (maxL := 6) (by decide) rfl (Nat.le_of_ble_eq_true rfl) ?_
  intro p e s m args below meth c A QQ hx hb hml hown hts hA hP hK hD hret ls hl
  have hown : s.vm.findClass RX1 = some m.cls := hown
  have hf24 := hts (.fieldLink RX1 24 "SmallWindows$Sheet" "cells" "[I") (by decide +kernel)
  have hf15 := hts (.fieldLink RX1 15 "SmallWindows$Clues" "size" "I") (by decide +kernel)
  have hf9 := hts (.fieldLink RX1 9 "SmallWindows$Clues" "unlike" "[I") (by decide +kernel)
  have hinX4 : ∀ w ∈ u_ws RX4 TX4 3, w ∈ wsX1_tellApart := fun w h => List.mem_cons_of_mem _ ((List.mem_append_left _ (List.mem_append_right _ h)))
  have hinX1 : ∀ w ∈ u_ws RX1 TX1 2, w ∈ wsX1_tellApart := fun w h => List.mem_cons_of_mem _ ((List.mem_append_right _ h))
  have hS : va_S A s.heap s.heap [] := va_S.rf
  have hl : lv_has ls 6 [(0, .ref h_hints), (1, .ref h_S), (2, .ref h_T)] := hl
  have L11 : ∀ (K48 : (Int32) → (Int32) → (Nat → Int32) → Prop) (hK48 : (∀ (l3 : Int32) (hints_size : Int32) (f_hints_unlike : Nat → Int32), K48 l3 hints_size f_hints_unlike → ∀ (H : Heap) (locs : List Loc), va_P (dC, dI) vwCl (W_X1_tellApart cI cJ cZ h_hints h_hints_unlike h_S h_S_cells h_T h_T_cells hints_size f_hints_unlike S_h S_w f_S_cells T_h T_w f_T_cells) H → va_D A (W_X1_tellApart cI cJ cZ h_hints h_hints_unlike h_S h_S_cells h_T h_T_cells hints_size f_hints_unlike S_h S_w f_S_cells T_h T_w f_T_cells) → va_S A s.heap H locs → ∀ ls : Array Slot, lv_has ls 6 [(0, .ref h_hints), (3, .int l3)] → W p l e rm_X1_tellApart s m args below meth c H locs 0 0 QQ (F0 m 48 ls []))) (l4 : Int32) (hints_size : Int32) (f_hints_unlike : Nat → Int32) (n : Nat) (l3 : Int32) (l5 : Int32), r_X1_tellApart_11 S_h S_w f_S_cells f_T_cells post K48 l4 hints_size f_hints_unlike n l3 l5 → ∀ (H : Heap) (locs : List Loc), va_P (dC, dI) vwCl (W_X1_tellApart cI cJ cZ h_hints h_hints_unlike h_S h_S_cells h_T h_T_cells hints_size f_hints_unlike S_h S_w f_S_cells T_h T_w f_T_cells) H → va_D A (W_X1_tellApart cI cJ cZ h_hints h_hints_unlike h_S h_S_cells h_T h_T_cells hints_size f_hints_unlike S_h S_w f_S_cells T_h T_w f_T_cells) → va_S A s.heap H locs → ∀ ls : Array Slot, lv_has ls 6 [(0, .ref h_hints), (1, .ref h_S), (2, .ref h_T), (3, .int l3), (4, .int l4), (5, .int l5)] → W p l e rm_X1_tellApart s m args below meth c H locs 0 0 QQ (F0 m 11 ls []) := by
    intro K48 hK48 l4 hints_size f_hints_unlike n
    induction n with
    | zero => intro l3 l5 hq; exact False.elim hq
    | succ n ih =>
      intro l3 l5 hq H locs hP hD hS ls hl
      unfold r_X1_tellApart_11 at hq
      refine lv_iload hx hb dX1_tellApart_11 (lv_at hl 5 rfl) ?_
      refine lv_iload hx hb dX1_tellApart_13 (lv_at hl 4 rfl) ?_
      refine lv_icmp_ge (tgt := 48) hx hb dX1_tellApart_15 (by decide) (fun c2 => ?_) (fun c2 => ?_)
      · replace hq := hq.1 c2
        exact hK48 _ _ _ hq _ _ hP hD hS _ (lv_sub hl [0, 3] rfl)
      · replace hq := hq.2 c2
        refine lv_aload_n hx hb dX1_tellApart_18 rfl (lv_at hl 1 rfl) ?_
        refine va_get (D := (dC, dI)) (ci := 4) (v := .ref h_S_cells) (C := RX4) (T := TX4) (N := 3) hx hb hts hinX4 hown hK hP 2 rfl rfl 2 (by decide) hf24 (fun _ h9 => h9) rfl dX1_tellApart_19 ?_
        refine lv_iload hx hb dX1_tellApart_22 (lv_at hl 5 rfl) ?_
        obtain ⟨hv3, hq⟩ := hq
        refine va_iald hx hb hK hP 3 0 rfl rfl hv3 dX1_tellApart_24 ?_
        refine lv_aload_n hx hb dX1_tellApart_25 rfl (lv_at hl 2 rfl) ?_
        refine va_get (D := (dC, dI)) (ci := 4) (v := .ref h_T_cells) (C := RX4) (T := TX4) (N := 3) hx hb hts hinX4 hown hK hP 4 rfl rfl 2 (by decide) hf24 (fun _ h9 => h9) rfl dX1_tellApart_26 ?_
        refine lv_iload hx hb dX1_tellApart_29 (lv_at hl 5 rfl) ?_
        obtain ⟨hv4, hq⟩ := hq
        refine va_iald hx hb hK hP 5 0 rfl rfl hv4 dX1_tellApart_31 ?_
        refine lv_icmp_eq (tgt := 42) hx hb dX1_tellApart_32 (by decide) (fun c5 => ?_) (fun c5 => ?_)
        · replace hq := hq.1 c5
          refine lv_iinc (v := (l5 + (1 : Int32))) (lv' := [(5, .int (l5 + (1 : Int32))), (0, .ref h_hints), (1, .ref h_S), (2, .ref h_T), (3, .int l3), (4, .int l4)]) hx hb dX1_tellApart_42 hl (k := 5) rfl rfl (by decide) rfl (fun ls hl => ?_)
          refine lv_goto (tgt := 11) hx hb dX1_tellApart_45 (by decide) ?_
          exact ih _ _ hq _ _ hP hD hS _ (lv_sub hl [1, 2, 3, 4, 5, 0] rfl)
        · replace hq := hq.2 c5
          refine lv_iload_n hx hb dX1_tellApart_35 rfl (lv_at hl 3 rfl) ?_
          refine lv_iconst (v := (1 : Int32)) hx hb dX1_tellApart_36 (by decide) ?_
          refine lv_iload hx hb dX1_tellApart_37 (lv_at hl 5 rfl) ?_
          refine lv_ishl hx hb dX1_tellApart_39 ?_
          refine lv_ior hx hb dX1_tellApart_40 ?_
          refine lv_istore_n (lv' := [(3, .int (l3 ||| ((1 : Int32) <<< (l5 &&& 31)))), (0, .ref h_hints), (1, .ref h_S), (2, .ref h_T), (4, .int l4), (5, .int l5)]) hx hb dX1_tellApart_41 rfl hl (by decide) rfl (fun ls hl => ?_)
          refine lv_iinc (v := (l5 + (1 : Int32))) (lv' := [(5, .int (l5 + (1 : Int32))), (3, .int (l3 ||| ((1 : Int32) <<< (l5 &&& 31)))), (0, .ref h_hints), (1, .ref h_S), (2, .ref h_T), (4, .int l4)]) hx hb dX1_tellApart_42 hl (k := 5) rfl rfl (by decide) rfl (fun ls hl => ?_)
          refine lv_goto (tgt := 11) hx hb dX1_tellApart_45 (by decide) ?_
          exact ih _ _ hq _ _ hP hD hS _ (lv_sub hl [2, 3, 4, 1, 5, 0] rfl)
  have C48 : ∀ (l3 : Int32) (hints_size : Int32) (f_hints_unlike : Nat → Int32), q_X1_tellApart_48 S_h S_w f_S_cells f_T_cells post l3 hints_size f_hints_unlike → ∀ (H : Heap) (locs : List Loc), va_P (dC, dI) vwCl (W_X1_tellApart cI cJ cZ h_hints h_hints_unlike h_S h_S_cells h_T h_T_cells hints_size f_hints_unlike S_h S_w f_S_cells T_h T_w f_T_cells) H → va_D A (W_X1_tellApart cI cJ cZ h_hints h_hints_unlike h_S h_S_cells h_T h_T_cells hints_size f_hints_unlike S_h S_w f_S_cells T_h T_w f_T_cells) → va_S A s.heap H locs → ∀ ls : Array Slot, lv_has ls 6 [(0, .ref h_hints), (3, .int l3)] → W p l e rm_X1_tellApart s m args below meth c H locs 0 0 QQ (F0 m 48 ls []) := by
    intro l3 hints_size f_hints_unlike hq H locs hP hD hS ls hl
    unfold q_X1_tellApart_48 at hq
    refine lv_iload_n hx hb dX1_tellApart_48 rfl (lv_at hl 1 rfl) ?_
    refine lv_if_eq (tgt := 82) hx hb dX1_tellApart_49 (by decide) (fun c6 => ?_) (fun c6 => ?_)
    · replace hq := hq.1 c6
      exact hret (hints_size, f_hints_unlike) hq _ _ hP hD hS _ _ dX1_tellApart_82
    · replace hq := hq.2 c6
      refine lv_aload_n hx hb dX1_tellApart_52 rfl (lv_at hl 0 rfl) ?_
      refine va_get (D := (dC, dI)) (ci := 1) (v := .int hints_size) (C := RX1) (T := TX1) (N := 2) hx hb hts hinX1 hown hK hP 0 rfl rfl 1 (by decide) hf15 (fun _ h9 => h9) rfl dX1_tellApart_53 ?_
      refine lv_sipush (v := (300 : Int32)) hx hb dX1_tellApart_56 (by decide) ?_
      refine lv_icmp_ge (tgt := 82) hx hb dX1_tellApart_59 (by decide) (fun c7 => ?_) (fun c7 => ?_)
      · replace hq := hq.1 c7
        exact hret (hints_size, f_hints_unlike) hq _ _ hP hD hS _ _ dX1_tellApart_82
      · replace hq := hq.2 c7
        refine lv_aload_n hx hb dX1_tellApart_62 rfl (lv_at hl 0 rfl) ?_
        refine va_get (D := (dC, dI)) (ci := 1) (v := .ref h_hints_unlike) (C := RX1) (T := TX1) (N := 2) hx hb hts hinX1 hown hK hP 0 rfl rfl 0 (by decide) hf9 (fun _ h9 => h9) rfl dX1_tellApart_63 ?_
        refine lv_aload_n hx hb dX1_tellApart_66 rfl (lv_at hl 0 rfl) ?_
        refine va_get (D := (dC, dI)) (ci := 1) (v := .int hints_size) (C := RX1) (T := TX1) (N := 2) hx hb hts hinX1 hown hK hP 0 rfl rfl 1 (by decide) hf15 (fun _ h9 => h9) rfl dX1_tellApart_67 ?_
        refine lv_iload_n hx hb dX1_tellApart_70 rfl (lv_at hl 1 rfl) ?_
        obtain ⟨hv8, hq⟩ := hq
        refine va_iast hx hb hK hP hD hS 1 0 rfl rfl hv8 dX1_tellApart_71 (fun H locs hP hD hS => ?_)
        have hP : va_P (dC, dI) vwCl (W_X1_tellApart cI cJ cZ h_hints h_hints_unlike h_S h_S_cells h_T h_T_cells hints_size (upd f_hints_unlike (hints_size).toNatClampNeg l3) S_h S_w f_S_cells T_h T_w f_T_cells) H := hP
        have hD : va_D A (W_X1_tellApart cI cJ cZ h_hints h_hints_unlike h_S h_S_cells h_T h_T_cells hints_size (upd f_hints_unlike (hints_size).toNatClampNeg l3) S_h S_w f_S_cells T_h T_w f_T_cells) := hD
        refine lv_aload_n hx hb dX1_tellApart_72 rfl (lv_at hl 0 rfl) ?_
        refine lv_dup hx hb dX1_tellApart_73 rfl ?_
        refine va_get (D := (dC, dI)) (ci := 1) (v := .int hints_size) (C := RX1) (T := TX1) (N := 2) hx hb hts hinX1 hown hK hP 0 rfl rfl 1 (by decide) hf15 (fun _ h9 => h9) rfl dX1_tellApart_74 ?_
        refine lv_iconst (v := (1 : Int32)) hx hb dX1_tellApart_77 (by decide) ?_
        refine lv_iadd hx hb dX1_tellApart_78 ?_
        refine va_put (D := (dC, dI)) (ci := 1) (v := .int (hints_size + (1 : Int32))) (ty := tyX1 1) (C := RX1) (T := TX1) (N := 2) hx hb hts hinX1 tyX1 tyX1_ok nmX1 hown hK hP hD hS 0 rfl rfl 1 (by decide) hf15 (fun _ h9 => h9) rfl (tyX1_ok 1 (by decide)) rfl rfl (Nat.le_of_ble_eq_true rfl) dX1_tellApart_79 (fun H locs hP hD hS => ?_)
        have hP : va_P (dC, dI) vwCl (W_X1_tellApart cI cJ cZ h_hints h_hints_unlike h_S h_S_cells h_T h_T_cells (hints_size + (1 : Int32)) (upd f_hints_unlike (hints_size).toNatClampNeg l3) S_h S_w f_S_cells T_h T_w f_T_cells) H := hP
        have hD : va_D A (W_X1_tellApart cI cJ cZ h_hints h_hints_unlike h_S h_S_cells h_T h_T_cells (hints_size + (1 : Int32)) (upd f_hints_unlike (hints_size).toNatClampNeg l3) S_h S_w f_S_cells T_h T_w f_T_cells) := hD
        exact hret ((hints_size + (1 : Int32)), (upd f_hints_unlike (hints_size).toNatClampNeg l3)) hq _ _ hP hD hS _ _ dX1_tellApart_82
  have C11 : ∀ (l3 : Int32) (l4 : Int32) (l5 : Int32) (hints_size : Int32) (f_hints_unlike : Nat → Int32), q_X1_tellApart_11 S_h S_w f_S_cells f_T_cells post l3 l4 l5 hints_size f_hints_unlike → ∀ (H : Heap) (locs : List Loc), va_P (dC, dI) vwCl (W_X1_tellApart cI cJ cZ h_hints h_hints_unlike h_S h_S_cells h_T h_T_cells hints_size f_hints_unlike S_h S_w f_S_cells T_h T_w f_T_cells) H → va_D A (W_X1_tellApart cI cJ cZ h_hints h_hints_unlike h_S h_S_cells h_T h_T_cells hints_size f_hints_unlike S_h S_w f_S_cells T_h T_w f_T_cells) → va_S A s.heap H locs → ∀ ls : Array Slot, lv_has ls 6 [(0, .ref h_hints), (1, .ref h_S), (2, .ref h_T), (3, .int l3), (4, .int l4), (5, .int l5)] → W p l e rm_X1_tellApart s m args below meth c H locs 0 0 QQ (F0 m 11 ls []) := by
    intro l3 l4 l5 hints_size f_hints_unlike hq H locs hP hD hS ls hl
    obtain ⟨n, hq⟩ := hq
    exact L11 _ C48 _ _ _ n _ _ hq H locs hP hD hS ls hl
  unfold q_X1_tellApart at hq
  refine lv_iconst (v := (0 : Int32)) hx hb dX1_tellApart_0 (by decide) ?_
  refine lv_istore_n (lv' := [(3, .int (0 : Int32)), (0, .ref h_hints), (1, .ref h_S), (2, .ref h_T)]) hx hb dX1_tellApart_1 rfl hl (by decide) rfl (fun ls hl => ?_)
  refine lv_aload_n hx hb dX1_tellApart_2 rfl (lv_at hl 2 rfl) ?_
  refine gx_cVi (C := RX4) (As := []) (rest := []) ⟨hx, hb, hml, hown, hts⟩ (c_X4_size l dC dI cI cJ cZ h_S h_S_cells s.heap.size S_h S_w hq) (cwV 0 hts gX1_tellApart_X4_size rfl rfl rfl hdV_X4_size ⟨Nat.le_of_ble_eq_true rfl, Nat.le_of_ble_eq_true rfl⟩) hK hP hD hS hA [2] [0, 1, 3, 4, 5] rfl rfl rfl rfl rfl (ci := 4) (q0 := 0) rfl rfl rfl rfl hl.1 (Nat.le_of_ble_eq_true rfl) dX1_tellApart_3 rfl (fun r1 u H locs hq hP hD hS => ?_)
  try dsimp only at hq
  have hP : va_P (dC, dI) vwCl (W_X1_tellApart cI cJ cZ h_hints h_hints_unlike h_S h_S_cells h_T h_T_cells hints_size f_hints_unlike S_h S_w f_S_cells T_h T_w f_T_cells) H := hP.sub [0, 1, 5, 2, 3, 4] rfl
  have hD : va_D A (W_X1_tellApart cI cJ cZ h_hints h_hints_unlike h_S h_S_cells h_T h_T_cells hints_size f_hints_unlike S_h S_w f_S_cells T_h T_w f_T_cells) := hD.sub [0, 1, 5, 2, 3, 4] (by decide) rfl
  refine lv_istore (lv' := [(4, .int r1), (3, .int (0 : Int32)), (0, .ref h_hints), (1, .ref h_S), (2, .ref h_T)]) hx hb dX1_tellApart_6 hl (by decide) rfl (fun ls hl => ?_)
  refine lv_iconst (v := (0 : Int32)) hx hb dX1_tellApart_8 (by decide) ?_
  refine lv_istore (lv' := [(5, .int (0 : Int32)), (4, .int r1), (3, .int (0 : Int32)), (0, .ref h_hints), (1, .ref h_S), (2, .ref h_T)]) hx hb dX1_tellApart_9 hl (by decide) rfl (fun ls hl => ?_)
  exact C11 _ _ _ _ _ hq _ _ hP hD hS _ (lv_sub hl [3, 4, 5, 2, 1, 0] rfl)

abbrev W_X1_tells (cI cJ cZ : ClassId) (h_hints h_hints_unlike : Nat) (hints_size : Int32) (f_hints_unlike : Nat → Int32) : va_W := [(h_hints, .inr (1, [.ref h_hints_unlike, .int hints_size])), (h_hints_unlike, .inl (cI, 300, .inl f_hints_unlike))]
abbrev rm_X1_tells : Room := { frames := 0, cells := 0, slots := 0, locals := 0 }
def r_X1_tells_2 (hints_size : Int32) (f_hints_unlike : Nat → Int32) (post : Int32 → Prop) (l1 : Int32) : Nat → (Int32) → Prop
  | 0, _ => False
  | n + 1, l2 => ((hints_size ≤ l2 → (post (1 : Int32))) ∧ (¬ hints_size ≤ l2 → (vp_in l2 300 ∧ ((¬ (l1 &&& (f_hints_unlike (l2).toNatClampNeg)) = 0 → ((r_X1_tells_2 hints_size f_hints_unlike post l1 n) (l2 + (1 : Int32)))) ∧ ((l1 &&& (f_hints_unlike (l2).toNatClampNeg)) = 0 → (post (0 : Int32)))))))
def q_X1_tells_2 (hints_size : Int32) (f_hints_unlike : Nat → Int32) (post : Int32 → Prop) (l1 : Int32) (l2 : Int32) : Prop := ∃ n, r_X1_tells_2 hints_size f_hints_unlike post l1 n l2
def q_X1_tells (hints_size : Int32) (f_hints_unlike : Nat → Int32) (l1 : Int32) (post : Int32 → Prop) : Prop := ((q_X1_tells_2 hints_size f_hints_unlike post) l1 (0 : Int32))
theorem hdV_X1_tells : yX1_tells.cls = RX1 ∧ yX1_tells.cls ≠ "java/lang/invoke/MethodHandle" ∧ yX1_tells.cls ≠ "java/lang/invoke/VarHandle" ∧ (parseMethodDescriptor yX1_tells.desc).map (fun d => d.parameters.length) = some 1 := by decide +kernel
set_option maxHeartbeats 4000000 in
set_option maxRecDepth 100000 in
theorem c_X1_tells (l : Launch) (dC : Nat → ClassId) (dI : Nat → Nat → Nat) (cI cJ cZ : ClassId) (h_hints h_hints_unlike : Nat) (sz : Nat) (hints_size : Int32) (f_hints_unlike : Nat → Int32) (l1 : Int32) {post : Int32 → Prop} (hq : q_X1_tells hints_size f_hints_unlike l1 post) : Met l yX1_tells wsX1_tells rm_X1_tells (va_Pc [.ref h_hints, .int l1] (gx_Pre (dC, dI) vwCl (gx_tys cI cJ cZ) sz (W_X1_tells cI cJ cZ h_hints h_hints_unlike hints_size f_hints_unlike))) (va_Qi (fun (r : Int32) (u : Unit) => post r) (gx_B (dC, dI) vwCl (gx_tys cI cJ cZ) (va_A (W_X1_tells cI cJ cZ h_hints h_hints_unlike hints_size f_hints_unlike) sz) (fun (u : Unit) => (W_X1_tells cI cJ cZ h_hints h_hints_unlike hints_size f_hints_unlike))) (va_A (W_X1_tells cI cJ cZ h_hints h_hints_unlike hints_size f_hints_unlike) sz)) 0 0 (va_A (W_X1_tells cI cJ cZ h_hints h_hints_unlike hints_size f_hints_unlike) sz) := by
  refine gx_z (cc := cX1_tells) (maxL := 3) (by decide) rfl (Nat.le_of_ble_eq_true rfl) ?_
  intro p e s m args below meth c A QQ hx hb hml hown hts hA hP hK hD hret ls hl
  have hown : s.vm.findClass RX1 = some m.cls := hown
  have hf15 := hts (.fieldLink RX1 15 "SmallWindows$Clues" "size" "I") (by decide +kernel)
  have hf9 := hts (.fieldLink RX1 9 "SmallWindows$Clues" "unlike" "[I") (by decide +kernel)
  have hinX1 : ∀ w ∈ u_ws RX1 TX1 2, w ∈ wsX1_tells := fun w h => List.mem_cons_of_mem _ ((List.mem_append_right _ h))
  have hS : va_S A s.heap s.heap [] := va_S.rf
  have hl : lv_has ls 3 [(0, .ref h_hints), (1, .int l1)] := hl
  have L2 : ∀ (l1 : Int32) (n : Nat) (l2 : Int32), r_X1_tells_2 hints_size f_hints_unlike post l1 n l2 → ∀ (H : Heap) (locs : List Loc), va_P (dC, dI) vwCl (W_X1_tells cI cJ cZ h_hints h_hints_unlike hints_size f_hints_unlike) H → va_D A (W_X1_tells cI cJ cZ h_hints h_hints_unlike hints_size f_hints_unlike) → va_S A s.heap H locs → ∀ ls : Array Slot, lv_has ls 3 [(0, .ref h_hints), (1, .int l1), (2, .int l2)] → W p l e rm_X1_tells s m args below meth c H locs 0 0 QQ (F0 m 2 ls []) := by
    intro l1 n
    induction n with
    | zero => intro l2 hq; exact False.elim hq
    | succ n ih =>
      intro l2 hq H locs hP hD hS ls hl
      unfold r_X1_tells_2 at hq
      refine lv_iload_n hx hb dX1_tells_2 rfl (lv_at hl 2 rfl) ?_
      refine lv_aload_n hx hb dX1_tells_3 rfl (lv_at hl 0 rfl) ?_
      refine va_get (D := (dC, dI)) (ci := 1) (v := .int hints_size) (C := RX1) (T := TX1) (N := 2) hx hb hts hinX1 hown hK hP 0 rfl rfl 1 (by decide) hf15 (fun _ h9 => h9) rfl dX1_tells_4 ?_
      refine lv_icmp_ge (tgt := 29) hx hb dX1_tells_7 (by decide) (fun c1 => ?_) (fun c1 => ?_)
      · replace hq := hq.1 c1
        refine lv_iconst (v := (1 : Int32)) hx hb dX1_tells_29 (by decide) ?_
        exact hret (1 : Int32) () (Or.inr rfl) hq _ _ hP hD hS _ _ dX1_tells_30
      · replace hq := hq.2 c1
        refine lv_iload_n hx hb dX1_tells_10 rfl (lv_at hl 1 rfl) ?_
        refine lv_aload_n hx hb dX1_tells_11 rfl (lv_at hl 0 rfl) ?_
        refine va_get (D := (dC, dI)) (ci := 1) (v := .ref h_hints_unlike) (C := RX1) (T := TX1) (N := 2) hx hb hts hinX1 hown hK hP 0 rfl rfl 0 (by decide) hf9 (fun _ h9 => h9) rfl dX1_tells_12 ?_
        refine lv_iload_n hx hb dX1_tells_15 rfl (lv_at hl 2 rfl) ?_
        obtain ⟨hv2, hq⟩ := hq
        refine va_iald hx hb hK hP 1 0 rfl rfl hv2 dX1_tells_16 ?_
        refine lv_iand hx hb dX1_tells_17 ?_
        refine lv_if_ne (tgt := 23) hx hb dX1_tells_18 (by decide) (fun c3 => ?_) (fun c3 => ?_)
        · replace hq := hq.1 c3
          refine lv_iinc (v := (l2 + (1 : Int32))) (lv' := [(2, .int (l2 + (1 : Int32))), (0, .ref h_hints), (1, .int l1)]) hx hb dX1_tells_23 hl (k := 2) rfl rfl (by decide) rfl (fun ls hl => ?_)
          refine lv_goto (tgt := 2) hx hb dX1_tells_26 (by decide) ?_
          exact ih _ hq _ _ hP hD hS _ (lv_sub hl [1, 2, 0] rfl)
        · replace hq := hq.2 c3
          refine lv_iconst (v := (0 : Int32)) hx hb dX1_tells_21 (by decide) ?_
          exact hret (0 : Int32) () (Or.inl rfl) hq _ _ hP hD hS _ _ dX1_tells_22
  have C2 : ∀ (l1 : Int32) (l2 : Int32), q_X1_tells_2 hints_size f_hints_unlike post l1 l2 → ∀ (H : Heap) (locs : List Loc), va_P (dC, dI) vwCl (W_X1_tells cI cJ cZ h_hints h_hints_unlike hints_size f_hints_unlike) H → va_D A (W_X1_tells cI cJ cZ h_hints h_hints_unlike hints_size f_hints_unlike) → va_S A s.heap H locs → ∀ ls : Array Slot, lv_has ls 3 [(0, .ref h_hints), (1, .int l1), (2, .int l2)] → W p l e rm_X1_tells s m args below meth c H locs 0 0 QQ (F0 m 2 ls []) := by
    intro l1 l2 hq H locs hP hD hS ls hl
    obtain ⟨n, hq⟩ := hq
    exact L2 _ n _ hq H locs hP hD hS ls hl
  unfold q_X1_tells at hq
  refine lv_iconst (v := (0 : Int32)) hx hb dX1_tells_0 (by decide) ?_
  refine lv_istore_n (lv' := [(2, .int (0 : Int32)), (0, .ref h_hints), (1, .int l1)]) hx hb dX1_tells_1 rfl hl (by decide) rfl (fun ls hl => ?_)
  exact C2 _ _ hq _ _ hP hD hS _ (lv_sub hl [1, 2, 0] rfl)

abbrev W_X1_fewest (cI cJ cZ : ClassId) (h_hints h_hints_unlike : Nat) (hints_size : Int32) (f_hints_unlike : Nat → Int32) : va_W := [(h_hints, .inr (1, [.ref h_hints_unlike, .int hints_size])), (h_hints_unlike, .inl (cI, 300, .inl f_hints_unlike))]
abbrev rm_X1_fewest : Room := { frames := 1, cells := 0, slots := 0, locals := 22 }
def r_X1_fewest_8 (hints_size : Int32) (f_hints_unlike : Nat → Int32) (post : Int32 → Prop) (l1 : Int32) : Nat → (Int32) → (Int32) → Prop
  | 0, _, _ => False
  | n + 1, l2, l3 => ((((1 : Int32) <<< (l1 &&& 31)) ≤ l3 → (post l2)) ∧ (¬ ((1 : Int32) <<< (l1 &&& 31)) ≤ l3 → (q_J6_bitCount_0f7a4 l3 (fun (r2 : Int32) => (q_J6_bitCount_0f7a4 l2 (fun (r3 : Int32) => ((r3 ≤ r2 → ((r_X1_fewest_8 hints_size f_hints_unlike post l1 n) l2 (l3 + (1 : Int32)))) ∧ (¬ r3 ≤ r2 → (q_X1_tells hints_size f_hints_unlike l3 (fun (r5 : Int32) => ((r5 = 0 → ((r_X1_fewest_8 hints_size f_hints_unlike post l1 n) l2 (l3 + (1 : Int32)))) ∧ (¬ r5 = 0 → ((r_X1_fewest_8 hints_size f_hints_unlike post l1 n) l3 (l3 + (1 : Int32)))))))))))))))
def q_X1_fewest_8 (hints_size : Int32) (f_hints_unlike : Nat → Int32) (post : Int32 → Prop) (l1 : Int32) (l2 : Int32) (l3 : Int32) : Prop := ∃ n, r_X1_fewest_8 hints_size f_hints_unlike post l1 n l2 l3
def q_X1_fewest (hints_size : Int32) (f_hints_unlike : Nat → Int32) (l1 : Int32) (post : Int32 → Prop) : Prop := ((q_X1_fewest_8 hints_size f_hints_unlike post) l1 (((1 : Int32) <<< (l1 &&& 31)) - (1 : Int32)) (0 : Int32))
theorem hdV_X1_fewest : yX1_fewest.cls = RX1 ∧ yX1_fewest.cls ≠ "java/lang/invoke/MethodHandle" ∧ yX1_fewest.cls ≠ "java/lang/invoke/VarHandle" ∧ (parseMethodDescriptor yX1_fewest.desc).map (fun d => d.parameters.length) = some 1 := by decide +kernel
set_option maxHeartbeats 4000000 in
set_option maxRecDepth 100000 in
theorem c_X1_fewest (l : Launch) (dC : Nat → ClassId) (dI : Nat → Nat → Nat) (cI cJ cZ : ClassId) (h_hints h_hints_unlike : Nat) (sz : Nat) (hints_size : Int32) (f_hints_unlike : Nat → Int32) (l1 : Int32) {post : Int32 → Prop} (hq : q_X1_fewest hints_size f_hints_unlike l1 post) : Met l yX1_fewest wsX1_fewest rm_X1_fewest (va_Pc [.ref h_hints, .int l1] (gx_Pre (dC, dI) vwCl (gx_tys cI cJ cZ) sz (W_X1_fewest cI cJ cZ h_hints h_hints_unlike hints_size f_hints_unlike))) (va_Qi (fun (r : Int32) (u : Unit) => post r) (gx_B (dC, dI) vwCl (gx_tys cI cJ cZ) (va_A (W_X1_fewest cI cJ cZ h_hints h_hints_unlike hints_size f_hints_unlike) sz) (fun (u : Unit) => (W_X1_fewest cI cJ cZ h_hints h_hints_unlike hints_size f_hints_unlike))) (va_A (W_X1_fewest cI cJ cZ h_hints h_hints_unlike hints_size f_hints_unlike) sz)) 0 0 (va_A (W_X1_fewest cI cJ cZ h_hints h_hints_unlike hints_size f_hints_unlike) sz) := by
  refine gx_i (cc := cX1_fewest) (maxL := 4) (by decide) rfl (Nat.le_of_ble_eq_true rfl) ?_
  intro p e s m args below meth c A QQ hx hb hml hown hts hA hP hK hD hret ls hl
  have hown : s.vm.findClass RX1 = some m.cls := hown
  have hS : va_S A s.heap s.heap [] := va_S.rf
  have hl : lv_has ls 4 [(0, .ref h_hints), (1, .int l1)] := hl
  have L8 : ∀ (l1 : Int32) (n : Nat) (l2 : Int32) (l3 : Int32), r_X1_fewest_8 hints_size f_hints_unlike post l1 n l2 l3 → ∀ (H : Heap) (locs : List Loc), va_P (dC, dI) vwCl (W_X1_fewest cI cJ cZ h_hints h_hints_unlike hints_size f_hints_unlike) H → va_D A (W_X1_fewest cI cJ cZ h_hints h_hints_unlike hints_size f_hints_unlike) → va_S A s.heap H locs → ∀ ls : Array Slot, lv_has ls 4 [(0, .ref h_hints), (1, .int l1), (2, .int l2), (3, .int l3)] → W p l e rm_X1_fewest s m args below meth c H locs 0 0 QQ (F0 m 8 ls []) := by
    intro l1 n
    induction n with
    | zero => intro l2 l3 hq; exact False.elim hq
    | succ n ih =>
      intro l2 l3 hq H locs hP hD hS ls hl
      unfold r_X1_fewest_8 at hq
      refine lv_iload_n hx hb dX1_fewest_8 rfl (lv_at hl 3 rfl) ?_
      refine lv_iconst (v := (1 : Int32)) hx hb dX1_fewest_9 (by decide) ?_
      refine lv_iload_n hx hb dX1_fewest_10 rfl (lv_at hl 1 rfl) ?_
      refine lv_ishl hx hb dX1_fewest_11 ?_
      refine lv_icmp_ge (tgt := 42) hx hb dX1_fewest_12 (by decide) (fun c1 => ?_) (fun c1 => ?_)
      · replace hq := hq.1 c1
        refine lv_iload_n hx hb dX1_fewest_42 rfl (lv_at hl 2 rfl) ?_
        exact hret l2 () hq _ _ hP hD hS _ _ dX1_fewest_43
      · replace hq := hq.2 c1
        refine lv_iload_n hx hb dX1_fewest_15 rfl (lv_at hl 3 rfl) ?_
        refine gx_cSi (As := [.int l3]) (rest := []) ⟨hx, hb, hml, hown, hts⟩ (c_J6_bitCount_0f7a4 l dC dI cI cJ cZ H.size l3 hq) (va_cwS 1 hts gX1_fewest_J6_bitCount_0f7a4 rfl rfl rfl hdS_J6_bitCount_0f7a4 ⟨Nat.le_of_ble_eq_true rfl, Nat.le_of_ble_eq_true rfl⟩) hK hP hD hS hA [] [0, 1] rfl rfl rfl rfl rfl rfl hl.1 (Nat.le_of_ble_eq_true rfl) dX1_fewest_16 rfl (fun r2 u H locs hq hP hD hS => ?_)
        try dsimp only at hq
        have hP : va_P (dC, dI) vwCl (W_X1_fewest cI cJ cZ h_hints h_hints_unlike hints_size f_hints_unlike) H := hP
        have hD : va_D A (W_X1_fewest cI cJ cZ h_hints h_hints_unlike hints_size f_hints_unlike) := hD
        refine lv_iload_n hx hb dX1_fewest_19 rfl (lv_at hl 2 rfl) ?_
        refine gx_cSi (As := [.int l2]) (rest := [.int r2]) ⟨hx, hb, hml, hown, hts⟩ (c_J6_bitCount_0f7a4 l dC dI cI cJ cZ H.size l2 hq) (va_cwS 1 hts gX1_fewest_J6_bitCount_0f7a4 rfl rfl rfl hdS_J6_bitCount_0f7a4 ⟨Nat.le_of_ble_eq_true rfl, Nat.le_of_ble_eq_true rfl⟩) hK hP hD hS hA [] [0, 1] rfl rfl rfl rfl rfl rfl hl.1 (Nat.le_of_ble_eq_true rfl) dX1_fewest_20 rfl (fun r3 u H locs hq hP hD hS => ?_)
        try dsimp only at hq
        have hP : va_P (dC, dI) vwCl (W_X1_fewest cI cJ cZ h_hints h_hints_unlike hints_size f_hints_unlike) H := hP
        have hD : va_D A (W_X1_fewest cI cJ cZ h_hints h_hints_unlike hints_size f_hints_unlike) := hD
        refine lv_icmp_ge (tgt := 36) hx hb dX1_fewest_23 (by decide) (fun c4 => ?_) (fun c4 => ?_)
        · replace hq := hq.1 c4
          refine lv_iinc (v := (l3 + (1 : Int32))) (lv' := [(3, .int (l3 + (1 : Int32))), (0, .ref h_hints), (1, .int l1), (2, .int l2)]) hx hb dX1_fewest_36 hl (k := 3) rfl rfl (by decide) rfl (fun ls hl => ?_)
          refine lv_goto (tgt := 8) hx hb dX1_fewest_39 (by decide) ?_
          exact ih _ _ hq _ _ hP hD hS _ (lv_sub hl [1, 2, 3, 0] rfl)
        · replace hq := hq.2 c4
          refine lv_aload_n hx hb dX1_fewest_26 rfl (lv_at hl 0 rfl) ?_
          refine lv_iload_n hx hb dX1_fewest_27 rfl (lv_at hl 3 rfl) ?_
          refine gx_cVi (C := RX1) (As := [.int l3]) (rest := []) ⟨hx, hb, hml, hown, hts⟩ (c_X1_tells l dC dI cI cJ cZ h_hints h_hints_unlike H.size hints_size f_hints_unlike l3 hq) (cwV 1 hts gX1_fewest_X1_tells rfl rfl rfl hdV_X1_tells ⟨Nat.le_of_ble_eq_true rfl, Nat.le_of_ble_eq_true rfl⟩) hK hP hD hS hA [0, 1] [] rfl rfl rfl rfl rfl (ci := 1) (q0 := 0) rfl rfl rfl rfl hl.1 (Nat.le_of_ble_eq_true rfl) dX1_fewest_28 rfl (fun r5 u H locs hq hP hD hS => ?_)
          try dsimp only at hq
          have hP : va_P (dC, dI) vwCl (W_X1_fewest cI cJ cZ h_hints h_hints_unlike hints_size f_hints_unlike) H := hP
          have hD : va_D A (W_X1_fewest cI cJ cZ h_hints h_hints_unlike hints_size f_hints_unlike) := hD
          refine lv_if_eq (tgt := 36) hx hb dX1_fewest_31 (by decide) (fun c6 => ?_) (fun c6 => ?_)
          · replace hq := hq.1 c6
            refine lv_iinc (v := (l3 + (1 : Int32))) (lv' := [(3, .int (l3 + (1 : Int32))), (0, .ref h_hints), (1, .int l1), (2, .int l2)]) hx hb dX1_fewest_36 hl (k := 3) rfl rfl (by decide) rfl (fun ls hl => ?_)
            refine lv_goto (tgt := 8) hx hb dX1_fewest_39 (by decide) ?_
            exact ih _ _ hq _ _ hP hD hS _ (lv_sub hl [1, 2, 3, 0] rfl)
          · replace hq := hq.2 c6
            refine lv_iload_n hx hb dX1_fewest_34 rfl (lv_at hl 3 rfl) ?_
            refine lv_istore_n (lv' := [(2, .int l3), (0, .ref h_hints), (1, .int l1), (3, .int l3)]) hx hb dX1_fewest_35 rfl hl (by decide) rfl (fun ls hl => ?_)
            refine lv_iinc (v := (l3 + (1 : Int32))) (lv' := [(3, .int (l3 + (1 : Int32))), (2, .int l3), (0, .ref h_hints), (1, .int l1)]) hx hb dX1_fewest_36 hl (k := 3) rfl rfl (by decide) rfl (fun ls hl => ?_)
            refine lv_goto (tgt := 8) hx hb dX1_fewest_39 (by decide) ?_
            exact ih _ _ hq _ _ hP hD hS _ (lv_sub hl [2, 3, 1, 0] rfl)
  have C8 : ∀ (l1 : Int32) (l2 : Int32) (l3 : Int32), q_X1_fewest_8 hints_size f_hints_unlike post l1 l2 l3 → ∀ (H : Heap) (locs : List Loc), va_P (dC, dI) vwCl (W_X1_fewest cI cJ cZ h_hints h_hints_unlike hints_size f_hints_unlike) H → va_D A (W_X1_fewest cI cJ cZ h_hints h_hints_unlike hints_size f_hints_unlike) → va_S A s.heap H locs → ∀ ls : Array Slot, lv_has ls 4 [(0, .ref h_hints), (1, .int l1), (2, .int l2), (3, .int l3)] → W p l e rm_X1_fewest s m args below meth c H locs 0 0 QQ (F0 m 8 ls []) := by
    intro l1 l2 l3 hq H locs hP hD hS ls hl
    obtain ⟨n, hq⟩ := hq
    exact L8 _ n _ _ hq H locs hP hD hS ls hl
  unfold q_X1_fewest at hq
  refine lv_iconst (v := (1 : Int32)) hx hb dX1_fewest_0 (by decide) ?_
  refine lv_iload_n hx hb dX1_fewest_1 rfl (lv_at hl 1 rfl) ?_
  refine lv_ishl hx hb dX1_fewest_2 ?_
  refine lv_iconst (v := (1 : Int32)) hx hb dX1_fewest_3 (by decide) ?_
  refine lv_isub hx hb dX1_fewest_4 ?_
  refine lv_istore_n (lv' := [(2, .int (((1 : Int32) <<< (l1 &&& 31)) - (1 : Int32))), (0, .ref h_hints), (1, .int l1)]) hx hb dX1_fewest_5 rfl hl (by decide) rfl (fun ls hl => ?_)
  refine lv_iconst (v := (0 : Int32)) hx hb dX1_fewest_6 (by decide) ?_
  refine lv_istore_n (lv' := [(3, .int (0 : Int32)), (2, .int (((1 : Int32) <<< (l1 &&& 31)) - (1 : Int32))), (0, .ref h_hints), (1, .int l1)]) hx hb dX1_fewest_7 rfl hl (by decide) rfl (fun ls hl => ?_)
  exact C8 _ _ _ hq _ _ hP hD hS _ (lv_sub hl [2, 3, 1, 0] rfl)
