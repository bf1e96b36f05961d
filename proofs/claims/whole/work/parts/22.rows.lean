abbrev W_X2_addCell (cI cJ cZ : ClassId) (h_rows h_rows_framed h_rows_power : Nat) (rows_c : Int32) (rows_w : Int32) (rows_size : Int32) (rows_ring : Int32) (f_rows_framed : Nat → Int32) : va_W := [(h_rows, .inr (2, [.int rows_c, .int rows_w, .int rows_size, .int rows_ring, .ref h_rows_framed, .ref h_rows_power])), (h_rows_framed, .inl (cI, 243, .inl f_rows_framed))]
abbrev rm_X2_addCell : Room := { frames := 0, cells := 0, slots := 0, locals := 0 }
def r_X2_addCell_20 (rows_c : Int32) (rows_size : Int32) (post : (Int32) → (Nat → Int32) → Prop) (K52 : (Int32) → (Nat → Int32) → Prop) (l1 : Int32) (l2 : Int32) : Nat → (Int32) → (Nat → Int32) → Prop
  | 0, _, _ => False
  | n + 1, l3, f_rows_framed => ((rows_c ≤ l3 → (K52 l1 f_rows_framed)) ∧ (¬ rows_c ≤ l3 → (vp_in ((l1 * rows_c) + l3) 243 ∧ ((r_X2_addCell_20 rows_c rows_size post K52 l1 l2 n) (l3 + (1 : Int32)) (upd f_rows_framed (((l1 * rows_c) + l3)).toNatClampNeg ((l2 <<< ((2 : Int32) &&& 31)) ||| l3))))))
def q_X2_addCell_52 (rows_c : Int32) (rows_size : Int32) (post : (Int32) → (Nat → Int32) → Prop) (K58 : (Int32) → (Nat → Int32) → Prop) (K7 : (Int32) → (Nat → Int32) → Prop) (l1 : Int32) (f_rows_framed : Nat → Int32) : Prop := (K7 (l1 + (-1 : Int32)) f_rows_framed)
def q_X2_addCell_20 (rows_c : Int32) (rows_size : Int32) (post : (Int32) → (Nat → Int32) → Prop) (K58 : (Int32) → (Nat → Int32) → Prop) (K7 : (Int32) → (Nat → Int32) → Prop) (l1 : Int32) (l2 : Int32) (l3 : Int32) (f_rows_framed : Nat → Int32) : Prop := ∃ n, r_X2_addCell_20 rows_c rows_size post (q_X2_addCell_52 rows_c rows_size post K58 K7) l1 l2 n l3 f_rows_framed
def r_X2_addCell_7 (rows_c : Int32) (post : (Int32) → (Nat → Int32) → Prop) (K58 : (Int32) → (Nat → Int32) → Prop) (rows_size : Int32) : Nat → (Int32) → (Nat → Int32) → Prop
  | 0, _, _ => False
  | n + 1, l1, f_rows_framed => ((l1 < 0 → (K58 rows_size f_rows_framed)) ∧ (¬ l1 < 0 → (vp_in l1 243 ∧ ((q_X2_addCell_20 rows_c rows_size post K58 (r_X2_addCell_7 rows_c post K58 rows_size n)) l1 (f_rows_framed (l1).toNatClampNeg) (0 : Int32) f_rows_framed))))
def q_X2_addCell_58 (rows_c : Int32) (post : (Int32) → (Nat → Int32) → Prop) (rows_size : Int32) (f_rows_framed : Nat → Int32) : Prop := (post (rows_size * rows_c) f_rows_framed)
def q_X2_addCell_7 (rows_c : Int32) (post : (Int32) → (Nat → Int32) → Prop) (l1 : Int32) (rows_size : Int32) (f_rows_framed : Nat → Int32) : Prop := ∃ n, r_X2_addCell_7 rows_c post (q_X2_addCell_58 rows_c post) rows_size n l1 f_rows_framed
def q_X2_addCell (rows_c : Int32) (rows_size : Int32) (f_rows_framed : Nat → Int32) (post : (Int32) → (Nat → Int32) → Prop) : Prop := ((q_X2_addCell_7 rows_c post) (rows_size - (1 : Int32)) rows_size f_rows_framed)
theorem hdV_X2_addCell : yX2_addCell.cls = RX2 ∧ yX2_addCell.cls ≠ "java/lang/invoke/MethodHandle" ∧ yX2_addCell.cls ≠ "java/lang/invoke/VarHandle" ∧ (parseMethodDescriptor yX2_addCell.desc).map (fun d => d.parameters.length) = some 0 := by decide +kernel
set_option maxHeartbeats 4000000 in
set_option maxRecDepth 100000 in
theorem c_X2_addCell (l : Launch) (dC : Nat → ClassId) (dI : Nat → Nat → Nat) (cI cJ cZ : ClassId) (h_rows h_rows_framed h_rows_power : Nat) (sz : Nat) (rows_c : Int32) (rows_w : Int32) (rows_size : Int32) (rows_ring : Int32) (f_rows_framed : Nat → Int32)  {post : (Int32) → (Nat → Int32) → Prop} (hq : q_X2_addCell rows_c rows_size f_rows_framed post) : Met l yX2_addCell wsX2_addCell rm_X2_addCell (va_Pc [.ref h_rows] (gx_Pre (dC, dI) vwCl (gx_tys cI cJ cZ) sz (W_X2_addCell cI cJ cZ h_rows h_rows_framed h_rows_power rows_c rows_w rows_size rows_ring f_rows_framed))) (va_Qv (fun (u : (Int32) × (Nat → Int32)) => post u.1 u.2) (gx_B (dC, dI) vwCl (gx_tys cI cJ cZ) (va_A (W_X2_addCell cI cJ cZ h_rows h_rows_framed h_rows_power rows_c rows_w rows_size rows_ring f_rows_framed) sz) (fun (u : (Int32) × (Nat → Int32)) => (W_X2_addCell cI cJ cZ h_rows h_rows_framed h_rows_power rows_c rows_w u.1 rows_ring u.2))) (va_A (W_X2_addCell cI cJ cZ h_rows h_rows_framed h_rows_power rows_c rows_w rows_size rows_ring f_rows_framed) sz)) 0 0 (va_A (W_X2_addCell cI cJ cZ h_rows h_rows_framed h_rows_power rows_c rows_w rows_size rows_ring f_rows_framed) sz) := by
  refine gx_v (cc := cX2_addCell) (maxL := 4) (by decide) rfl (Nat.le_of_ble_eq_true rfl) ?_
  intro p e s m args below meth c A QQ hx hb hml hown hts hA hP hK hD hret ls hl
  have hown : s.vm.findClass RX2 = some m.cls := hown
  have hf18 := hts (.fieldLink RX2 18 "SmallWindows$Rows" "size" "I") (by decide +kernel)
  have hf24 := hts (.fieldLink RX2 24 "SmallWindows$Rows" "framed" "[I") (by decide +kernel)
  have hf9 := hts (.fieldLink RX2 9 "SmallWindows$Rows" "c" "I") (by decide +kernel)
  have hinX2 : ∀ w ∈ u_ws RX2 TX2 6, w ∈ wsX2_addCell := fun w h => List.mem_cons_of_mem _ ((List.mem_append_right _ h))
  have hS : va_S A s.heap s.heap [] := va_S.rf
  have hl : lv_has ls 4 [(0, .ref h_rows)] := hl
  have L20 : ∀ (rows_size : Int32) (K52 : (Int32) → (Nat → Int32) → Prop) (hK52 : (∀ (l1 : Int32) (f_rows_framed : Nat → Int32), K52 l1 f_rows_framed → ∀ (H : Heap) (locs : List Loc), va_P (dC, dI) vwCl (W_X2_addCell cI cJ cZ h_rows h_rows_framed h_rows_power rows_c rows_w rows_size rows_ring f_rows_framed) H → va_D A (W_X2_addCell cI cJ cZ h_rows h_rows_framed h_rows_power rows_c rows_w rows_size rows_ring f_rows_framed) → va_S A s.heap H locs → ∀ ls : Array Slot, lv_has ls 4 [(0, .ref h_rows), (1, .int l1)] → W p l e rm_X2_addCell s m args below meth c H locs 0 0 QQ (F0 m 52 ls []))) (l1 : Int32) (l2 : Int32) (n : Nat) (l3 : Int32) (f_rows_framed : Nat → Int32), r_X2_addCell_20 rows_c rows_size post K52 l1 l2 n l3 f_rows_framed → ∀ (H : Heap) (locs : List Loc), va_P (dC, dI) vwCl (W_X2_addCell cI cJ cZ h_rows h_rows_framed h_rows_power rows_c rows_w rows_size rows_ring f_rows_framed) H → va_D A (W_X2_addCell cI cJ cZ h_rows h_rows_framed h_rows_power rows_c rows_w rows_size rows_ring f_rows_framed) → va_S A s.heap H locs → ∀ ls : Array Slot, lv_has ls 4 [(0, .ref h_rows), (1, .int l1), (2, .int l2), (3, .int l3)] → W p l e rm_X2_addCell s m args below meth c H locs 0 0 QQ (F0 m 20 ls []) := by
    intro rows_size K52 hK52 l1 l2 n
    induction n with
    | zero => intro l3 f_rows_framed hq; exact False.elim hq
    | succ n ih =>
      intro l3 f_rows_framed hq H locs hP hD hS ls hl
      unfold r_X2_addCell_20 at hq
      refine lv_iload_n hx hb dX2_addCell_20 rfl (lv_at hl 3 rfl) ?_
      refine lv_aload_n hx hb dX2_addCell_21 rfl (lv_at hl 0 rfl) ?_
      refine va_get (D := (dC, dI)) (ci := 2) (v := .int rows_c) (C := RX2) (T := TX2) (N := 6) hx hb hts hinX2 hown hK hP 0 rfl rfl 0 (by decide) hf9 (fun _ h9 => h9) rfl dX2_addCell_22 ?_
      refine lv_icmp_ge (tgt := 52) hx hb dX2_addCell_25 (by decide) (fun c3 => ?_) (fun c3 => ?_)
      · replace hq := hq.1 c3
        exact hK52 _ _ hq _ _ hP hD hS _ (lv_sub hl [0, 1] rfl)
      · replace hq := hq.2 c3
        refine lv_aload_n hx hb dX2_addCell_28 rfl (lv_at hl 0 rfl) ?_
        refine va_get (D := (dC, dI)) (ci := 2) (v := .ref h_rows_framed) (C := RX2) (T := TX2) (N := 6) hx hb hts hinX2 hown hK hP 0 rfl rfl 4 (by decide) hf24 (fun _ h9 => h9) rfl dX2_addCell_29 ?_
        refine lv_iload_n hx hb dX2_addCell_32 rfl (lv_at hl 1 rfl) ?_
        refine lv_aload_n hx hb dX2_addCell_33 rfl (lv_at hl 0 rfl) ?_
        refine va_get (D := (dC, dI)) (ci := 2) (v := .int rows_c) (C := RX2) (T := TX2) (N := 6) hx hb hts hinX2 hown hK hP 0 rfl rfl 0 (by decide) hf9 (fun _ h9 => h9) rfl dX2_addCell_34 ?_
        refine lv_imul hx hb dX2_addCell_37 ?_
        refine lv_iload_n hx hb dX2_addCell_38 rfl (lv_at hl 3 rfl) ?_
        refine lv_iadd hx hb dX2_addCell_39 ?_
        refine lv_iload_n hx hb dX2_addCell_40 rfl (lv_at hl 2 rfl) ?_
        refine lv_iconst (v := (2 : Int32)) hx hb dX2_addCell_41 (by decide) ?_
        refine lv_ishl hx hb dX2_addCell_42 ?_
        refine lv_iload_n hx hb dX2_addCell_43 rfl (lv_at hl 3 rfl) ?_
        refine lv_ior hx hb dX2_addCell_44 ?_
        obtain ⟨hv4, hq⟩ := hq
        refine va_iast hx hb hK hP hD hS 1 0 rfl rfl hv4 dX2_addCell_45 (fun H locs hP hD hS => ?_)
        have hP : va_P (dC, dI) vwCl (W_X2_addCell cI cJ cZ h_rows h_rows_framed h_rows_power rows_c rows_w rows_size rows_ring (upd f_rows_framed (((l1 * rows_c) + l3)).toNatClampNeg ((l2 <<< ((2 : Int32) &&& 31)) ||| l3))) H := hP
        have hD : va_D A (W_X2_addCell cI cJ cZ h_rows h_rows_framed h_rows_power rows_c rows_w rows_size rows_ring (upd f_rows_framed (((l1 * rows_c) + l3)).toNatClampNeg ((l2 <<< ((2 : Int32) &&& 31)) ||| l3))) := hD
        refine lv_iinc (v := (l3 + (1 : Int32))) (lv' := [(3, .int (l3 + (1 : Int32))), (0, .ref h_rows), (1, .int l1), (2, .int l2)]) hx hb dX2_addCell_46 hl (k := 3) rfl rfl (by decide) rfl (fun ls hl => ?_)
        refine lv_goto (tgt := 20) hx hb dX2_addCell_49 (by decide) ?_
        exact ih _ _ hq _ _ hP hD hS _ (lv_sub hl [1, 2, 3, 0] rfl)
  have C52 : ∀ (rows_size : Int32) (K58 : (Int32) → (Nat → Int32) → Prop) (hK58 : (∀ (rows_size : Int32) (f_rows_framed : Nat → Int32), K58 rows_size f_rows_framed → ∀ (H : Heap) (locs : List Loc), va_P (dC, dI) vwCl (W_X2_addCell cI cJ cZ h_rows h_rows_framed h_rows_power rows_c rows_w rows_size rows_ring f_rows_framed) H → va_D A (W_X2_addCell cI cJ cZ h_rows h_rows_framed h_rows_power rows_c rows_w rows_size rows_ring f_rows_framed) → va_S A s.heap H locs → ∀ ls : Array Slot, lv_has ls 4 [(0, .ref h_rows)] → W p l e rm_X2_addCell s m args below meth c H locs 0 0 QQ (F0 m 58 ls []))) (K7 : (Int32) → (Nat → Int32) → Prop) (hK7 : (∀ (l1 : Int32) (f_rows_framed : Nat → Int32), K7 l1 f_rows_framed → ∀ (H : Heap) (locs : List Loc), va_P (dC, dI) vwCl (W_X2_addCell cI cJ cZ h_rows h_rows_framed h_rows_power rows_c rows_w rows_size rows_ring f_rows_framed) H → va_D A (W_X2_addCell cI cJ cZ h_rows h_rows_framed h_rows_power rows_c rows_w rows_size rows_ring f_rows_framed) → va_S A s.heap H locs → ∀ ls : Array Slot, lv_has ls 4 [(0, .ref h_rows), (1, .int l1)] → W p l e rm_X2_addCell s m args below meth c H locs 0 0 QQ (F0 m 7 ls []))) (l1 : Int32) (f_rows_framed : Nat → Int32), q_X2_addCell_52 rows_c rows_size post K58 K7 l1 f_rows_framed → ∀ (H : Heap) (locs : List Loc), va_P (dC, dI) vwCl (W_X2_addCell cI cJ cZ h_rows h_rows_framed h_rows_power rows_c rows_w rows_size rows_ring f_rows_framed) H → va_D A (W_X2_addCell cI cJ cZ h_rows h_rows_framed h_rows_power rows_c rows_w rows_size rows_ring f_rows_framed) → va_S A s.heap H locs → ∀ ls : Array Slot, lv_has ls 4 [(0, .ref h_rows), (1, .int l1)] → W p l e rm_X2_addCell s m args below meth c H locs 0 0 QQ (F0 m 52 ls []) := by
    intro rows_size K58 hK58 K7 hK7 l1 f_rows_framed hq H locs hP hD hS ls hl
    unfold q_X2_addCell_52 at hq
    refine lv_iinc (v := (l1 + (-1 : Int32))) (lv' := [(1, .int (l1 + (-1 : Int32))), (0, .ref h_rows)]) hx hb dX2_addCell_52 hl (k := 1) rfl rfl (by decide) rfl (fun ls hl => ?_)
    refine lv_goto (tgt := 7) hx hb dX2_addCell_55 (by decide) ?_
    exact hK7 _ _ hq _ _ hP hD hS _ (lv_sub hl [1, 0] rfl)
  have C20 : ∀ (rows_size : Int32) (K58 : (Int32) → (Nat → Int32) → Prop) (hK58 : (∀ (rows_size : Int32) (f_rows_framed : Nat → Int32), K58 rows_size f_rows_framed → ∀ (H : Heap) (locs : List Loc), va_P (dC, dI) vwCl (W_X2_addCell cI cJ cZ h_rows h_rows_framed h_rows_power rows_c rows_w rows_size rows_ring f_rows_framed) H → va_D A (W_X2_addCell cI cJ cZ h_rows h_rows_framed h_rows_power rows_c rows_w rows_size rows_ring f_rows_framed) → va_S A s.heap H locs → ∀ ls : Array Slot, lv_has ls 4 [(0, .ref h_rows)] → W p l e rm_X2_addCell s m args below meth c H locs 0 0 QQ (F0 m 58 ls []))) (K7 : (Int32) → (Nat → Int32) → Prop) (hK7 : (∀ (l1 : Int32) (f_rows_framed : Nat → Int32), K7 l1 f_rows_framed → ∀ (H : Heap) (locs : List Loc), va_P (dC, dI) vwCl (W_X2_addCell cI cJ cZ h_rows h_rows_framed h_rows_power rows_c rows_w rows_size rows_ring f_rows_framed) H → va_D A (W_X2_addCell cI cJ cZ h_rows h_rows_framed h_rows_power rows_c rows_w rows_size rows_ring f_rows_framed) → va_S A s.heap H locs → ∀ ls : Array Slot, lv_has ls 4 [(0, .ref h_rows), (1, .int l1)] → W p l e rm_X2_addCell s m args below meth c H locs 0 0 QQ (F0 m 7 ls []))) (l1 : Int32) (l2 : Int32) (l3 : Int32) (f_rows_framed : Nat → Int32), q_X2_addCell_20 rows_c rows_size post K58 K7 l1 l2 l3 f_rows_framed → ∀ (H : Heap) (locs : List Loc), va_P (dC, dI) vwCl (W_X2_addCell cI cJ cZ h_rows h_rows_framed h_rows_power rows_c rows_w rows_size rows_ring f_rows_framed) H → va_D A (W_X2_addCell cI cJ cZ h_rows h_rows_framed h_rows_power rows_c rows_w rows_size rows_ring f_rows_framed) → va_S A s.heap H locs → ∀ ls : Array Slot, lv_has ls 4 [(0, .ref h_rows), (1, .int l1), (2, .int l2), (3, .int l3)] → W p l e rm_X2_addCell s m args below meth c H locs 0 0 QQ (F0 m 20 ls []) := by
    intro rows_size K58 hK58 K7 hK7 l1 l2 l3 f_rows_framed hq H locs hP hD hS ls hl
    obtain ⟨n, hq⟩ := hq
    exact L20 _ _ (C52 _ _ hK58 _ hK7) _ _ n _ _ hq H locs hP hD hS ls hl
  have L7 : ∀ (K58 : (Int32) → (Nat → Int32) → Prop) (hK58 : (∀ (rows_size : Int32) (f_rows_framed : Nat → Int32), K58 rows_size f_rows_framed → ∀ (H : Heap) (locs : List Loc), va_P (dC, dI) vwCl (W_X2_addCell cI cJ cZ h_rows h_rows_framed h_rows_power rows_c rows_w rows_size rows_ring f_rows_framed) H → va_D A (W_X2_addCell cI cJ cZ h_rows h_rows_framed h_rows_power rows_c rows_w rows_size rows_ring f_rows_framed) → va_S A s.heap H locs → ∀ ls : Array Slot, lv_has ls 4 [(0, .ref h_rows)] → W p l e rm_X2_addCell s m args below meth c H locs 0 0 QQ (F0 m 58 ls []))) (rows_size : Int32) (n : Nat) (l1 : Int32) (f_rows_framed : Nat → Int32), r_X2_addCell_7 rows_c post K58 rows_size n l1 f_rows_framed → ∀ (H : Heap) (locs : List Loc), va_P (dC, dI) vwCl (W_X2_addCell cI cJ cZ h_rows h_rows_framed h_rows_power rows_c rows_w rows_size rows_ring f_rows_framed) H → va_D A (W_X2_addCell cI cJ cZ h_rows h_rows_framed h_rows_power rows_c rows_w rows_size rows_ring f_rows_framed) → va_S A s.heap H locs → ∀ ls : Array Slot, lv_has ls 4 [(0, .ref h_rows), (1, .int l1)] → W p l e rm_X2_addCell s m args below meth c H locs 0 0 QQ (F0 m 7 ls []) := by
    intro K58 hK58 rows_size n
    induction n with
    | zero => intro l1 f_rows_framed hq; exact False.elim hq
    | succ n ih =>
      intro l1 f_rows_framed hq H locs hP hD hS ls hl
      unfold r_X2_addCell_7 at hq
      refine lv_iload_n hx hb dX2_addCell_7 rfl (lv_at hl 1 rfl) ?_
      refine lv_if_lt (tgt := 58) hx hb dX2_addCell_8 (by decide) (fun c1 => ?_) (fun c1 => ?_)
      · replace hq := hq.1 c1
        exact hK58 _ _ hq _ _ hP hD hS _ (lv_sub hl [0] rfl)
      · replace hq := hq.2 c1
        refine lv_aload_n hx hb dX2_addCell_11 rfl (lv_at hl 0 rfl) ?_
        refine va_get (D := (dC, dI)) (ci := 2) (v := .ref h_rows_framed) (C := RX2) (T := TX2) (N := 6) hx hb hts hinX2 hown hK hP 0 rfl rfl 4 (by decide) hf24 (fun _ h9 => h9) rfl dX2_addCell_12 ?_
        refine lv_iload_n hx hb dX2_addCell_15 rfl (lv_at hl 1 rfl) ?_
        obtain ⟨hv2, hq⟩ := hq
        refine va_iald hx hb hK hP 1 0 rfl rfl hv2 dX2_addCell_16 ?_
        refine lv_istore_n (lv' := [(2, .int (f_rows_framed (l1).toNatClampNeg)), (0, .ref h_rows), (1, .int l1)]) hx hb dX2_addCell_17 rfl hl (by decide) rfl (fun ls hl => ?_)
        refine lv_iconst (v := (0 : Int32)) hx hb dX2_addCell_18 (by decide) ?_
        refine lv_istore_n (lv' := [(3, .int (0 : Int32)), (2, .int (f_rows_framed (l1).toNatClampNeg)), (0, .ref h_rows), (1, .int l1)]) hx hb dX2_addCell_19 rfl hl (by decide) rfl (fun ls hl => ?_)
        exact (C20 _ _ hK58 _ ih) _ _ _ _ hq _ _ hP hD hS _ (lv_sub hl [2, 3, 1, 0] rfl)
  have C58 : ∀ (rows_size : Int32) (f_rows_framed : Nat → Int32), q_X2_addCell_58 rows_c post rows_size f_rows_framed → ∀ (H : Heap) (locs : List Loc), va_P (dC, dI) vwCl (W_X2_addCell cI cJ cZ h_rows h_rows_framed h_rows_power rows_c rows_w rows_size rows_ring f_rows_framed) H → va_D A (W_X2_addCell cI cJ cZ h_rows h_rows_framed h_rows_power rows_c rows_w rows_size rows_ring f_rows_framed) → va_S A s.heap H locs → ∀ ls : Array Slot, lv_has ls 4 [(0, .ref h_rows)] → W p l e rm_X2_addCell s m args below meth c H locs 0 0 QQ (F0 m 58 ls []) := by
    intro rows_size f_rows_framed hq H locs hP hD hS ls hl
    unfold q_X2_addCell_58 at hq
    refine lv_aload_n hx hb dX2_addCell_58 rfl (lv_at hl 0 rfl) ?_
    refine lv_dup hx hb dX2_addCell_59 rfl ?_
    refine va_get (D := (dC, dI)) (ci := 2) (v := .int rows_size) (C := RX2) (T := TX2) (N := 6) hx hb hts hinX2 hown hK hP 0 rfl rfl 2 (by decide) hf18 (fun _ h9 => h9) rfl dX2_addCell_60 ?_
    refine lv_aload_n hx hb dX2_addCell_63 rfl (lv_at hl 0 rfl) ?_
    refine va_get (D := (dC, dI)) (ci := 2) (v := .int rows_c) (C := RX2) (T := TX2) (N := 6) hx hb hts hinX2 hown hK hP 0 rfl rfl 0 (by decide) hf9 (fun _ h9 => h9) rfl dX2_addCell_64 ?_
    refine lv_imul hx hb dX2_addCell_67 ?_
    refine va_put (D := (dC, dI)) (ci := 2) (v := .int (rows_size * rows_c)) (ty := tyX2 2) (C := RX2) (T := TX2) (N := 6) hx hb hts hinX2 tyX2 tyX2_ok nmX2 hown hK hP hD hS 0 rfl rfl 2 (by decide) hf18 (fun _ h9 => h9) rfl (tyX2_ok 2 (by decide)) rfl rfl (Nat.le_of_ble_eq_true rfl) dX2_addCell_68 (fun H locs hP hD hS => ?_)
    have hP : va_P (dC, dI) vwCl (W_X2_addCell cI cJ cZ h_rows h_rows_framed h_rows_power rows_c rows_w (rows_size * rows_c) rows_ring f_rows_framed) H := hP
    have hD : va_D A (W_X2_addCell cI cJ cZ h_rows h_rows_framed h_rows_power rows_c rows_w (rows_size * rows_c) rows_ring f_rows_framed) := hD
    exact hret ((rows_size * rows_c), f_rows_framed) hq _ _ hP hD hS _ _ dX2_addCell_71
  have C7 : ∀ (l1 : Int32) (rows_size : Int32) (f_rows_framed : Nat → Int32), q_X2_addCell_7 rows_c post l1 rows_size f_rows_framed → ∀ (H : Heap) (locs : List Loc), va_P (dC, dI) vwCl (W_X2_addCell cI cJ cZ h_rows h_rows_framed h_rows_power rows_c rows_w rows_size rows_ring f_rows_framed) H → va_D A (W_X2_addCell cI cJ cZ h_rows h_rows_framed h_rows_power rows_c rows_w rows_size rows_ring f_rows_framed) → va_S A s.heap H locs → ∀ ls : Array Slot, lv_has ls 4 [(0, .ref h_rows), (1, .int l1)] → W p l e rm_X2_addCell s m args below meth c H locs 0 0 QQ (F0 m 7 ls []) := by
    intro l1 rows_size f_rows_framed hq H locs hP hD hS ls hl
    obtain ⟨n, hq⟩ := hq
    exact L7 _ C58 _ n _ _ hq H locs hP hD hS ls hl
  unfold q_X2_addCell at hq
  refine lv_aload_n hx hb dX2_addCell_0 rfl (lv_at hl 0 rfl) ?_
  refine va_get (D := (dC, dI)) (ci := 2) (v := .int rows_size) (C := RX2) (T := TX2) (N := 6) hx hb hts hinX2 hown hK hP 0 rfl rfl 2 (by decide) hf18 (fun _ h9 => h9) rfl dX2_addCell_1 ?_
  refine lv_iconst (v := (1 : Int32)) hx hb dX2_addCell_4 (by decide) ?_
  refine lv_isub hx hb dX2_addCell_5 ?_
  refine lv_istore_n (lv' := [(1, .int (rows_size - (1 : Int32))), (0, .ref h_rows)]) hx hb dX2_addCell_6 rfl hl (by decide) rfl (fun ls hl => ?_)
  exact C7 _ _ _ hq _ _ hP hD hS _ (lv_sub hl [1, 0] rfl)

abbrev W_X2_list (cI cJ cZ : ClassId) (h_rows h_rows_framed h_rows_power : Nat) (rows_c : Int32) (rows_w : Int32) (rows_size : Int32) (rows_ring : Int32) (f_rows_framed : Nat → Int32) (f_rows_power : Nat → Int32) : va_W := [(h_rows, .inr (2, [.int rows_c, .int rows_w, .int rows_size, .int rows_ring, .ref h_rows_framed, .ref h_rows_power])), (h_rows_framed, .inl (cI, 243, .inl f_rows_framed)), (h_rows_power, .inl (cI, 7, .inl f_rows_power))]
abbrev rm_X2_list : Room := { frames := 1, cells := 0, slots := 0, locals := 23 }
def r_X2_list_19 (post : (Int32) → (Int32) → (Int32) → (Int32) → (Nat → Int32) → (Nat → Int32) → Prop) (K53 : (Int32) → (Int32) → (Int32) → (Int32) → (Nat → Int32) → (Nat → Int32) → Prop) (rows_c : Int32) (rows_w : Int32) (rows_size : Int32) (rows_ring : Int32) (f_rows_framed : Nat → Int32) : Nat → (Int32) → (Nat → Int32) → Prop
  | 0, _, _ => False
  | n + 1, l3, f_rows_power => (((7 : Int32) ≤ l3 → (K53 rows_c rows_w rows_size rows_ring f_rows_framed f_rows_power)) ∧ (¬ (7 : Int32) ≤ l3 → (vp_in (l3 - (1 : Int32)) 7 ∧ (vp_in l3 7 ∧ ((r_X2_list_19 post K53 rows_c rows_w rows_size rows_ring f_rows_framed n) (l3 + (1 : Int32)) (upd f_rows_power (l3).toNatClampNeg ((f_rows_power ((l3 - (1 : Int32))).toNatClampNeg) * rows_c)))))))
def r_X2_list_67 (post : (Int32) → (Int32) → (Int32) → (Int32) → (Nat → Int32) → (Nat → Int32) → Prop) (K85 : (Int32) → (Int32) → (Int32) → (Int32) → (Nat → Int32) → (Nat → Int32) → Prop) (rows_c : Int32) (rows_w : Int32) (rows_ring : Int32) (f_rows_power : Nat → Int32) : Nat → (Int32) → (Int32) → (Nat → Int32) → Prop
  | 0, _, _, _ => False
  | n + 1, l3, rows_size, f_rows_framed => ((rows_w ≤ l3 → (K85 rows_c rows_w rows_size rows_ring f_rows_framed f_rows_power)) ∧ (¬ rows_w ≤ l3 → (q_X2_addCell rows_c rows_size f_rows_framed (fun (rows_size_5 : Int32) (f_rows_framed_5 : Nat → Int32) => ((r_X2_list_67 post K85 rows_c rows_w rows_ring f_rows_power n) (l3 + (1 : Int32)) rows_size_5 f_rows_framed_5)))))
def r_X2_list_87 (post : (Int32) → (Int32) → (Int32) → (Int32) → (Nat → Int32) → (Nat → Int32) → Prop) (K117 : (Int32) → (Int32) → (Int32) → (Int32) → (Nat → Int32) → (Nat → Int32) → Prop) (rows_c : Int32) (rows_w : Int32) (rows_size : Int32) (rows_ring : Int32) (f_rows_power : Nat → Int32) : Nat → (Int32) → (Nat → Int32) → Prop
  | 0, _, _ => False
  | n + 1, l3, f_rows_framed => ((rows_size ≤ l3 → (K117 rows_c rows_w rows_size rows_ring f_rows_framed f_rows_power)) ∧ (¬ rows_size ≤ l3 → (vp_in l3 243 ∧ (vp_in l3 243 ∧ ((r_X2_list_87 post K117 rows_c rows_w rows_size rows_ring f_rows_power n) (l3 + (1 : Int32)) (upd f_rows_framed (l3).toNatClampNeg (((f_rows_framed (l3).toNatClampNeg) <<< ((2 : Int32) &&& 31)) ||| (3 : Int32))))))))
def q_X2_list_117 (post : (Int32) → (Int32) → (Int32) → (Int32) → (Nat → Int32) → (Nat → Int32) → Prop) (rows_c : Int32) (rows_w : Int32) (rows_size : Int32) (rows_ring : Int32) (f_rows_framed : Nat → Int32) (f_rows_power : Nat → Int32) : Prop := (∀ v9 : Int32, v9 = (((1 : Int32) <<< (((2 : Int32) * (rows_w + (2 : Int32))) &&& 31)) - (1 : Int32)) → (post rows_c rows_w rows_size v9 f_rows_framed f_rows_power))
def q_X2_list_87 (post : (Int32) → (Int32) → (Int32) → (Int32) → (Nat → Int32) → (Nat → Int32) → Prop) (l3 : Int32) (rows_c : Int32) (rows_w : Int32) (rows_size : Int32) (rows_ring : Int32) (f_rows_framed : Nat → Int32) (f_rows_power : Nat → Int32) : Prop := ∃ n, r_X2_list_87 post (q_X2_list_117 post) rows_c rows_w rows_size rows_ring f_rows_power n l3 f_rows_framed
def q_X2_list_85 (post : (Int32) → (Int32) → (Int32) → (Int32) → (Nat → Int32) → (Nat → Int32) → Prop) (rows_c : Int32) (rows_w : Int32) (rows_size : Int32) (rows_ring : Int32) (f_rows_framed : Nat → Int32) (f_rows_power : Nat → Int32) : Prop := ((q_X2_list_87 post) (0 : Int32) rows_c rows_w rows_size rows_ring f_rows_framed f_rows_power)
def q_X2_list_67 (post : (Int32) → (Int32) → (Int32) → (Int32) → (Nat → Int32) → (Nat → Int32) → Prop) (l3 : Int32) (rows_c : Int32) (rows_w : Int32) (rows_size : Int32) (rows_ring : Int32) (f_rows_framed : Nat → Int32) (f_rows_power : Nat → Int32) : Prop := ∃ n, r_X2_list_67 post (q_X2_list_85 post) rows_c rows_w rows_ring f_rows_power n l3 rows_size f_rows_framed
def q_X2_list_53 (post : (Int32) → (Int32) → (Int32) → (Int32) → (Nat → Int32) → (Nat → Int32) → Prop) (rows_c : Int32) (rows_w : Int32) (rows_size : Int32) (rows_ring : Int32) (f_rows_framed : Nat → Int32) (f_rows_power : Nat → Int32) : Prop := ((q_X2_list_67 post) (0 : Int32) rows_c rows_w (1 : Int32) rows_ring (upd f_rows_framed ((0 : Int32)).toNatClampNeg (3 : Int32)) f_rows_power)
def q_X2_list_19 (post : (Int32) → (Int32) → (Int32) → (Int32) → (Nat → Int32) → (Nat → Int32) → Prop) (l3 : Int32) (rows_c : Int32) (rows_w : Int32) (rows_size : Int32) (rows_ring : Int32) (f_rows_framed : Nat → Int32) (f_rows_power : Nat → Int32) : Prop := ∃ n, r_X2_list_19 post (q_X2_list_53 post) rows_c rows_w rows_size rows_ring f_rows_framed n l3 f_rows_power
def q_X2_list (rows_c : Int32) (rows_w : Int32) (rows_size : Int32) (rows_ring : Int32) (f_rows_framed : Nat → Int32) (f_rows_power : Nat → Int32) (l1 : Int32) (l2 : Int32) (post : (Int32) → (Int32) → (Int32) → (Int32) → (Nat → Int32) → (Nat → Int32) → Prop) : Prop := ((q_X2_list_19 post) (1 : Int32) l1 l2 rows_size rows_ring f_rows_framed (upd f_rows_power ((0 : Int32)).toNatClampNeg (1 : Int32)))
theorem hdV_X2_list : yX2_list.cls = RX2 ∧ yX2_list.cls ≠ "java/lang/invoke/MethodHandle" ∧ yX2_list.cls ≠ "java/lang/invoke/VarHandle" ∧ (parseMethodDescriptor yX2_list.desc).map (fun d => d.parameters.length) = some 2 := by decide +kernel
set_option maxHeartbeats 4000000 in
set_option maxRecDepth 100000 in
theorem c_X2_list (l : Launch) (dC : Nat → ClassId) (dI : Nat → Nat → Nat) (cI cJ cZ : ClassId) (h_rows h_rows_framed h_rows_power : Nat) (sz : Nat) (rows_c : Int32) (rows_w : Int32) (rows_size : Int32) (rows_ring : Int32) (f_rows_framed : Nat → Int32) (f_rows_power : Nat → Int32) (l1 : Int32) (l2 : Int32) {post : (Int32) → (Int32) → (Int32) → (Int32) → (Nat → Int32) → (Nat → Int32) → Prop} (hq : q_X2_list rows_c rows_w rows_size rows_ring f_rows_framed f_rows_power l1 l2 post) : Met l yX2_list wsX2_list rm_X2_list (va_Pc [.ref h_rows, .int l1, .int l2] (gx_Pre (dC, dI) vwCl (gx_tys cI cJ cZ) sz (W_X2_list cI cJ cZ h_rows h_rows_framed h_rows_power rows_c rows_w rows_size rows_ring f_rows_framed f_rows_power))) (va_Qv (fun (u : (Int32) × (Int32) × (Int32) × (Int32) × (Nat → Int32) × (Nat → Int32)) => post u.1 u.2.1 u.2.2.1 u.2.2.2.1 u.2.2.2.2.1 u.2.2.2.2.2) (gx_B (dC, dI) vwCl (gx_tys cI cJ cZ) (va_A (W_X2_list cI cJ cZ h_rows h_rows_framed h_rows_power rows_c rows_w rows_size rows_ring f_rows_framed f_rows_power) sz) (fun (u : (Int32) × (Int32) × (Int32) × (Int32) × (Nat → Int32) × (Nat → Int32)) => (W_X2_list cI cJ cZ h_rows h_rows_framed h_rows_power u.1 u.2.1 u.2.2.1 u.2.2.2.1 u.2.2.2.2.1 u.2.2.2.2.2))) (va_A (W_X2_list cI cJ cZ h_rows h_rows_framed h_rows_power rows_c rows_w rows_size rows_ring f_rows_framed f_rows_power) sz)) 0 0 (va_A (W_X2_list cI cJ cZ h_rows h_rows_framed h_rows_power rows_c rows_w rows_size rows_ring f_rows_framed f_rows_power) sz) := by
  refine gx_v (cc := cX2_list) (maxL := 4) (by decide) rfl (Nat.le_of_ble_eq_true rfl) ?_
  intro p e s m args below meth c A QQ hx hb hml hown hts hA hP hK hD hret ls hl
  have hown : s.vm.findClass RX2 = some m.cls := hown
  have hf9 := hts (.fieldLink RX2 9 "SmallWindows$Rows" "c" "I") (by decide +kernel)
  have hf15 := hts (.fieldLink RX2 15 "SmallWindows$Rows" "w" "I") (by decide +kernel)
  have hf28 := hts (.fieldLink RX2 28 "SmallWindows$Rows" "power" "[I") (by decide +kernel)
  have hf18 := hts (.fieldLink RX2 18 "SmallWindows$Rows" "size" "I") (by decide +kernel)
  have hf24 := hts (.fieldLink RX2 24 "SmallWindows$Rows" "framed" "[I") (by decide +kernel)
  have hf21 := hts (.fieldLink RX2 21 "SmallWindows$Rows" "ring" "I") (by decide +kernel)
  have hinX2 : ∀ w ∈ u_ws RX2 TX2 6, w ∈ wsX2_list := fun w h => List.mem_cons_of_mem _ ((List.mem_append_right _ h))
  have hS : va_S A s.heap s.heap [] := va_S.rf
  have hl : lv_has ls 4 [(0, .ref h_rows), (1, .int l1), (2, .int l2)] := hl
  have L19 : ∀ (K53 : (Int32) → (Int32) → (Int32) → (Int32) → (Nat → Int32) → (Nat → Int32) → Prop) (hK53 : (∀ (rows_c : Int32) (rows_w : Int32) (rows_size : Int32) (rows_ring : Int32) (f_rows_framed : Nat → Int32) (f_rows_power : Nat → Int32), K53 rows_c rows_w rows_size rows_ring f_rows_framed f_rows_power → ∀ (H : Heap) (locs : List Loc), va_P (dC, dI) vwCl (W_X2_list cI cJ cZ h_rows h_rows_framed h_rows_power rows_c rows_w rows_size rows_ring f_rows_framed f_rows_power) H → va_D A (W_X2_list cI cJ cZ h_rows h_rows_framed h_rows_power rows_c rows_w rows_size rows_ring f_rows_framed f_rows_power) → va_S A s.heap H locs → ∀ ls : Array Slot, lv_has ls 4 [(0, .ref h_rows)] → W p l e rm_X2_list s m args below meth c H locs 0 0 QQ (F0 m 53 ls []))) (rows_c : Int32) (rows_w : Int32) (rows_size : Int32) (rows_ring : Int32) (f_rows_framed : Nat → Int32) (n : Nat) (l3 : Int32) (f_rows_power : Nat → Int32), r_X2_list_19 post K53 rows_c rows_w rows_size rows_ring f_rows_framed n l3 f_rows_power → ∀ (H : Heap) (locs : List Loc), va_P (dC, dI) vwCl (W_X2_list cI cJ cZ h_rows h_rows_framed h_rows_power rows_c rows_w rows_size rows_ring f_rows_framed f_rows_power) H → va_D A (W_X2_list cI cJ cZ h_rows h_rows_framed h_rows_power rows_c rows_w rows_size rows_ring f_rows_framed f_rows_power) → va_S A s.heap H locs → ∀ ls : Array Slot, lv_has ls 4 [(0, .ref h_rows), (3, .int l3)] → W p l e rm_X2_list s m args below meth c H locs 0 0 QQ (F0 m 19 ls []) := by
    intro K53 hK53 rows_c rows_w rows_size rows_ring f_rows_framed n
    induction n with
    | zero => intro l3 f_rows_power hq; exact False.elim hq
    | succ n ih =>
      intro l3 f_rows_power hq H locs hP hD hS ls hl
      unfold r_X2_list_19 at hq
      refine lv_iload_n hx hb dX2_list_19 rfl (lv_at hl 1 rfl) ?_
      refine lv_aload_n hx hb dX2_list_20 rfl (lv_at hl 0 rfl) ?_
      refine va_get (D := (dC, dI)) (ci := 2) (v := .ref h_rows_power) (C := RX2) (T := TX2) (N := 6) hx hb hts hinX2 hown hK hP 0 rfl rfl 5 (by decide) hf28 (fun _ h9 => h9) rfl dX2_list_21 ?_
      refine va_alen (v := (7 : Int32)) hx hb hK hP 2 0 rfl rfl rfl dX2_list_24 ?_
      refine lv_icmp_ge (tgt := 53) hx hb dX2_list_25 (by decide) (fun c1 => ?_) (fun c1 => ?_)
      · replace hq := hq.1 c1
        exact hK53 _ _ _ _ _ _ hq _ _ hP hD hS _ (lv_sub hl [0] rfl)
      · replace hq := hq.2 c1
        refine lv_aload_n hx hb dX2_list_28 rfl (lv_at hl 0 rfl) ?_
        refine va_get (D := (dC, dI)) (ci := 2) (v := .ref h_rows_power) (C := RX2) (T := TX2) (N := 6) hx hb hts hinX2 hown hK hP 0 rfl rfl 5 (by decide) hf28 (fun _ h9 => h9) rfl dX2_list_29 ?_
        refine lv_iload_n hx hb dX2_list_32 rfl (lv_at hl 1 rfl) ?_
        refine lv_aload_n hx hb dX2_list_33 rfl (lv_at hl 0 rfl) ?_
        refine va_get (D := (dC, dI)) (ci := 2) (v := .ref h_rows_power) (C := RX2) (T := TX2) (N := 6) hx hb hts hinX2 hown hK hP 0 rfl rfl 5 (by decide) hf28 (fun _ h9 => h9) rfl dX2_list_34 ?_
        refine lv_iload_n hx hb dX2_list_37 rfl (lv_at hl 1 rfl) ?_
        refine lv_iconst (v := (1 : Int32)) hx hb dX2_list_38 (by decide) ?_
        refine lv_isub hx hb dX2_list_39 ?_
        obtain ⟨hv2, hq⟩ := hq
        refine va_iald hx hb hK hP 2 0 rfl rfl hv2 dX2_list_40 ?_
        refine lv_aload_n hx hb dX2_list_41 rfl (lv_at hl 0 rfl) ?_
        refine va_get (D := (dC, dI)) (ci := 2) (v := .int rows_c) (C := RX2) (T := TX2) (N := 6) hx hb hts hinX2 hown hK hP 0 rfl rfl 0 (by decide) hf9 (fun _ h9 => h9) rfl dX2_list_42 ?_
        refine lv_imul hx hb dX2_list_45 ?_
        obtain ⟨hv3, hq⟩ := hq
        refine va_iast hx hb hK hP hD hS 2 0 rfl rfl hv3 dX2_list_46 (fun H locs hP hD hS => ?_)
        have hP : va_P (dC, dI) vwCl (W_X2_list cI cJ cZ h_rows h_rows_framed h_rows_power rows_c rows_w rows_size rows_ring f_rows_framed (upd f_rows_power (l3).toNatClampNeg ((f_rows_power ((l3 - (1 : Int32))).toNatClampNeg) * rows_c))) H := hP
        have hD : va_D A (W_X2_list cI cJ cZ h_rows h_rows_framed h_rows_power rows_c rows_w rows_size rows_ring f_rows_framed (upd f_rows_power (l3).toNatClampNeg ((f_rows_power ((l3 - (1 : Int32))).toNatClampNeg) * rows_c))) := hD
        refine lv_iinc (v := (l3 + (1 : Int32))) (lv' := [(3, .int (l3 + (1 : Int32))), (0, .ref h_rows)]) hx hb dX2_list_47 hl (k := 1) rfl rfl (by decide) rfl (fun ls hl => ?_)
        refine lv_goto (tgt := 19) hx hb dX2_list_50 (by decide) ?_
        exact ih _ _ hq _ _ hP hD hS _ (lv_sub hl [1, 0] rfl)
  have L67 : ∀ (K85 : (Int32) → (Int32) → (Int32) → (Int32) → (Nat → Int32) → (Nat → Int32) → Prop) (hK85 : (∀ (rows_c : Int32) (rows_w : Int32) (rows_size : Int32) (rows_ring : Int32) (f_rows_framed : Nat → Int32) (f_rows_power : Nat → Int32), K85 rows_c rows_w rows_size rows_ring f_rows_framed f_rows_power → ∀ (H : Heap) (locs : List Loc), va_P (dC, dI) vwCl (W_X2_list cI cJ cZ h_rows h_rows_framed h_rows_power rows_c rows_w rows_size rows_ring f_rows_framed f_rows_power) H → va_D A (W_X2_list cI cJ cZ h_rows h_rows_framed h_rows_power rows_c rows_w rows_size rows_ring f_rows_framed f_rows_power) → va_S A s.heap H locs → ∀ ls : Array Slot, lv_has ls 4 [(0, .ref h_rows)] → W p l e rm_X2_list s m args below meth c H locs 0 0 QQ (F0 m 85 ls []))) (rows_c : Int32) (rows_w : Int32) (rows_ring : Int32) (f_rows_power : Nat → Int32) (n : Nat) (l3 : Int32) (rows_size : Int32) (f_rows_framed : Nat → Int32), r_X2_list_67 post K85 rows_c rows_w rows_ring f_rows_power n l3 rows_size f_rows_framed → ∀ (H : Heap) (locs : List Loc), va_P (dC, dI) vwCl (W_X2_list cI cJ cZ h_rows h_rows_framed h_rows_power rows_c rows_w rows_size rows_ring f_rows_framed f_rows_power) H → va_D A (W_X2_list cI cJ cZ h_rows h_rows_framed h_rows_power rows_c rows_w rows_size rows_ring f_rows_framed f_rows_power) → va_S A s.heap H locs → ∀ ls : Array Slot, lv_has ls 4 [(0, .ref h_rows), (3, .int l3)] → W p l e rm_X2_list s m args below meth c H locs 0 0 QQ (F0 m 67 ls []) := by
    intro K85 hK85 rows_c rows_w rows_ring f_rows_power n
    induction n with
    | zero => intro l3 rows_size f_rows_framed hq; exact False.elim hq
    | succ n ih =>
      intro l3 rows_size f_rows_framed hq H locs hP hD hS ls hl
      unfold r_X2_list_67 at hq
      refine lv_iload_n hx hb dX2_list_67 rfl (lv_at hl 1 rfl) ?_
      refine lv_aload_n hx hb dX2_list_68 rfl (lv_at hl 0 rfl) ?_
      refine va_get (D := (dC, dI)) (ci := 2) (v := .int rows_w) (C := RX2) (T := TX2) (N := 6) hx hb hts hinX2 hown hK hP 0 rfl rfl 1 (by decide) hf15 (fun _ h9 => h9) rfl dX2_list_69 ?_
      refine lv_icmp_ge (tgt := 85) hx hb dX2_list_72 (by decide) (fun c4 => ?_) (fun c4 => ?_)
      · replace hq := hq.1 c4
        exact hK85 _ _ _ _ _ _ hq _ _ hP hD hS _ (lv_sub hl [0] rfl)
      · replace hq := hq.2 c4
        refine lv_aload_n hx hb dX2_list_75 rfl (lv_at hl 0 rfl) ?_
        refine gx_cVv (C := RX2) (As := []) (rest := []) ⟨hx, hb, hml, hown, hts⟩ (c_X2_addCell l dC dI cI cJ cZ h_rows h_rows_framed h_rows_power H.size rows_c rows_w rows_size rows_ring f_rows_framed hq) (cwV 0 hts gX2_list_X2_addCell rfl rfl rfl hdV_X2_addCell ⟨Nat.le_of_ble_eq_true rfl, Nat.le_of_ble_eq_true rfl⟩) hK hP hD hS hA [0, 1] [2] rfl rfl rfl rfl rfl (ci := 2) (q0 := 0) rfl rfl rfl rfl hl.1 (Nat.le_of_ble_eq_true rfl) dX2_list_76 rfl (fun u H locs hq hP hD hS => ?_)
        obtain ⟨rows_size_5, f_rows_framed_5⟩ := u
        try dsimp only at hq
        have hP : va_P (dC, dI) vwCl (W_X2_list cI cJ cZ h_rows h_rows_framed h_rows_power rows_c rows_w rows_size_5 rows_ring f_rows_framed_5 f_rows_power) H := hP.sub [1, 2, 0] rfl
        have hD : va_D A (W_X2_list cI cJ cZ h_rows h_rows_framed h_rows_power rows_c rows_w rows_size_5 rows_ring f_rows_framed_5 f_rows_power) := hD.sub [1, 2, 0] (by decide) rfl
        refine lv_iinc (v := (l3 + (1 : Int32))) (lv' := [(3, .int (l3 + (1 : Int32))), (0, .ref h_rows)]) hx hb dX2_list_79 hl (k := 1) rfl rfl (by decide) rfl (fun ls hl => ?_)
        refine lv_goto (tgt := 67) hx hb dX2_list_82 (by decide) ?_
        exact ih _ _ _ hq _ _ hP hD hS _ (lv_sub hl [1, 0] rfl)
  have L87 : ∀ (K117 : (Int32) → (Int32) → (Int32) → (Int32) → (Nat → Int32) → (Nat → Int32) → Prop) (hK117 : (∀ (rows_c : Int32) (rows_w : Int32) (rows_size : Int32) (rows_ring : Int32) (f_rows_framed : Nat → Int32) (f_rows_power : Nat → Int32), K117 rows_c rows_w rows_size rows_ring f_rows_framed f_rows_power → ∀ (H : Heap) (locs : List Loc), va_P (dC, dI) vwCl (W_X2_list cI cJ cZ h_rows h_rows_framed h_rows_power rows_c rows_w rows_size rows_ring f_rows_framed f_rows_power) H → va_D A (W_X2_list cI cJ cZ h_rows h_rows_framed h_rows_power rows_c rows_w rows_size rows_ring f_rows_framed f_rows_power) → va_S A s.heap H locs → ∀ ls : Array Slot, lv_has ls 4 [(0, .ref h_rows)] → W p l e rm_X2_list s m args below meth c H locs 0 0 QQ (F0 m 117 ls []))) (rows_c : Int32) (rows_w : Int32) (rows_size : Int32) (rows_ring : Int32) (f_rows_power : Nat → Int32) (n : Nat) (l3 : Int32) (f_rows_framed : Nat → Int32), r_X2_list_87 post K117 rows_c rows_w rows_size rows_ring f_rows_power n l3 f_rows_framed → ∀ (H : Heap) (locs : List Loc), va_P (dC, dI) vwCl (W_X2_list cI cJ cZ h_rows h_rows_framed h_rows_power rows_c rows_w rows_size rows_ring f_rows_framed f_rows_power) H → va_D A (W_X2_list cI cJ cZ h_rows h_rows_framed h_rows_power rows_c rows_w rows_size rows_ring f_rows_framed f_rows_power) → va_S A s.heap H locs → ∀ ls : Array Slot, lv_has ls 4 [(0, .ref h_rows), (3, .int l3)] → W p l e rm_X2_list s m args below meth c H locs 0 0 QQ (F0 m 87 ls []) := by
    intro K117 hK117 rows_c rows_w rows_size rows_ring f_rows_power n
    induction n with
    | zero => intro l3 f_rows_framed hq; exact False.elim hq
    | succ n ih =>
      intro l3 f_rows_framed hq H locs hP hD hS ls hl
      unfold r_X2_list_87 at hq
      refine lv_iload_n hx hb dX2_list_87 rfl (lv_at hl 1 rfl) ?_
      refine lv_aload_n hx hb dX2_list_88 rfl (lv_at hl 0 rfl) ?_
      refine va_get (D := (dC, dI)) (ci := 2) (v := .int rows_size) (C := RX2) (T := TX2) (N := 6) hx hb hts hinX2 hown hK hP 0 rfl rfl 2 (by decide) hf18 (fun _ h9 => h9) rfl dX2_list_89 ?_
      refine lv_icmp_ge (tgt := 117) hx hb dX2_list_92 (by decide) (fun c6 => ?_) (fun c6 => ?_)
      · replace hq := hq.1 c6
        exact hK117 _ _ _ _ _ _ hq _ _ hP hD hS _ (lv_sub hl [0] rfl)
      · replace hq := hq.2 c6
        refine lv_aload_n hx hb dX2_list_95 rfl (lv_at hl 0 rfl) ?_
        refine va_get (D := (dC, dI)) (ci := 2) (v := .ref h_rows_framed) (C := RX2) (T := TX2) (N := 6) hx hb hts hinX2 hown hK hP 0 rfl rfl 4 (by decide) hf24 (fun _ h9 => h9) rfl dX2_list_96 ?_
        refine lv_iload_n hx hb dX2_list_99 rfl (lv_at hl 1 rfl) ?_
        refine lv_aload_n hx hb dX2_list_100 rfl (lv_at hl 0 rfl) ?_
        refine va_get (D := (dC, dI)) (ci := 2) (v := .ref h_rows_framed) (C := RX2) (T := TX2) (N := 6) hx hb hts hinX2 hown hK hP 0 rfl rfl 4 (by decide) hf24 (fun _ h9 => h9) rfl dX2_list_101 ?_
        refine lv_iload_n hx hb dX2_list_104 rfl (lv_at hl 1 rfl) ?_
        obtain ⟨hv7, hq⟩ := hq
        refine va_iald hx hb hK hP 1 0 rfl rfl hv7 dX2_list_105 ?_
        refine lv_iconst (v := (2 : Int32)) hx hb dX2_list_106 (by decide) ?_
        refine lv_ishl hx hb dX2_list_107 ?_
        refine lv_iconst (v := (3 : Int32)) hx hb dX2_list_108 (by decide) ?_
        refine lv_ior hx hb dX2_list_109 ?_
        obtain ⟨hv8, hq⟩ := hq
        refine va_iast hx hb hK hP hD hS 1 0 rfl rfl hv8 dX2_list_110 (fun H locs hP hD hS => ?_)
        have hP : va_P (dC, dI) vwCl (W_X2_list cI cJ cZ h_rows h_rows_framed h_rows_power rows_c rows_w rows_size rows_ring (upd f_rows_framed (l3).toNatClampNeg (((f_rows_framed (l3).toNatClampNeg) <<< ((2 : Int32) &&& 31)) ||| (3 : Int32))) f_rows_power) H := hP
        have hD : va_D A (W_X2_list cI cJ cZ h_rows h_rows_framed h_rows_power rows_c rows_w rows_size rows_ring (upd f_rows_framed (l3).toNatClampNeg (((f_rows_framed (l3).toNatClampNeg) <<< ((2 : Int32) &&& 31)) ||| (3 : Int32))) f_rows_power) := hD
        refine lv_iinc (v := (l3 + (1 : Int32))) (lv' := [(3, .int (l3 + (1 : Int32))), (0, .ref h_rows)]) hx hb dX2_list_111 hl (k := 1) rfl rfl (by decide) rfl (fun ls hl => ?_)
        refine lv_goto (tgt := 87) hx hb dX2_list_114 (by decide) ?_
        exact ih _ _ hq _ _ hP hD hS _ (lv_sub hl [1, 0] rfl)
  have C117 : ∀ (rows_c : Int32) (rows_w : Int32) (rows_size : Int32) (rows_ring : Int32) (f_rows_framed : Nat → Int32) (f_rows_power : Nat → Int32), q_X2_list_117 post rows_c rows_w rows_size rows_ring f_rows_framed f_rows_power → ∀ (H : Heap) (locs : List Loc), va_P (dC, dI) vwCl (W_X2_list cI cJ cZ h_rows h_rows_framed h_rows_power rows_c rows_w rows_size rows_ring f_rows_framed f_rows_power) H → va_D A (W_X2_list cI cJ cZ h_rows h_rows_framed h_rows_power rows_c rows_w rows_size rows_ring f_rows_framed f_rows_power) → va_S A s.heap H locs → ∀ ls : Array Slot, lv_has ls 4 [(0, .ref h_rows)] → W p l e rm_X2_list s m args below meth c H locs 0 0 QQ (F0 m 117 ls []) := by
    intro rows_c rows_w rows_size rows_ring f_rows_framed f_rows_power hq H locs hP hD hS ls hl
    unfold q_X2_list_117 at hq
    refine lv_aload_n hx hb dX2_list_117 rfl (lv_at hl 0 rfl) ?_
    refine lv_iconst (v := (1 : Int32)) hx hb dX2_list_118 (by decide) ?_
    refine lv_iconst (v := (2 : Int32)) hx hb dX2_list_119 (by decide) ?_
    refine lv_aload_n hx hb dX2_list_120 rfl (lv_at hl 0 rfl) ?_
    refine va_get (D := (dC, dI)) (ci := 2) (v := .int rows_w) (C := RX2) (T := TX2) (N := 6) hx hb hts hinX2 hown hK hP 0 rfl rfl 1 (by decide) hf15 (fun _ h9 => h9) rfl dX2_list_121 ?_
    refine lv_iconst (v := (2 : Int32)) hx hb dX2_list_124 (by decide) ?_
    refine lv_iadd hx hb dX2_list_125 ?_
    refine lv_imul hx hb dX2_list_126 ?_
    refine lv_ishl hx hb dX2_list_127 ?_
    refine lv_iconst (v := (1 : Int32)) hx hb dX2_list_128 (by decide) ?_
    refine lv_isub hx hb dX2_list_129 ?_
    refine lv_topi (fun v9 ev9 => ?_)
    replace hq := hq v9 ev9
    refine va_put (D := (dC, dI)) (ci := 2) (v := .int v9) (ty := tyX2 3) (C := RX2) (T := TX2) (N := 6) hx hb hts hinX2 tyX2 tyX2_ok nmX2 hown hK hP hD hS 0 rfl rfl 3 (by decide) hf21 (fun _ h9 => h9) rfl (tyX2_ok 3 (by decide)) rfl rfl (Nat.le_of_ble_eq_true rfl) dX2_list_130 (fun H locs hP hD hS => ?_)
    have hP : va_P (dC, dI) vwCl (W_X2_list cI cJ cZ h_rows h_rows_framed h_rows_power rows_c rows_w rows_size v9 f_rows_framed f_rows_power) H := hP
    have hD : va_D A (W_X2_list cI cJ cZ h_rows h_rows_framed h_rows_power rows_c rows_w rows_size v9 f_rows_framed f_rows_power) := hD
    exact hret (rows_c, rows_w, rows_size, v9, f_rows_framed, f_rows_power) hq _ _ hP hD hS _ _ dX2_list_133
  have C87 : ∀ (l3 : Int32) (rows_c : Int32) (rows_w : Int32) (rows_size : Int32) (rows_ring : Int32) (f_rows_framed : Nat → Int32) (f_rows_power : Nat → Int32), q_X2_list_87 post l3 rows_c rows_w rows_size rows_ring f_rows_framed f_rows_power → ∀ (H : Heap) (locs : List Loc), va_P (dC, dI) vwCl (W_X2_list cI cJ cZ h_rows h_rows_framed h_rows_power rows_c rows_w rows_size rows_ring f_rows_framed f_rows_power) H → va_D A (W_X2_list cI cJ cZ h_rows h_rows_framed h_rows_power rows_c rows_w rows_size rows_ring f_rows_framed f_rows_power) → va_S A s.heap H locs → ∀ ls : Array Slot, lv_has ls 4 [(0, .ref h_rows), (3, .int l3)] → W p l e rm_X2_list s m args below meth c H locs 0 0 QQ (F0 m 87 ls []) := by
    intro l3 rows_c rows_w rows_size rows_ring f_rows_framed f_rows_power hq H locs hP hD hS ls hl
    obtain ⟨n, hq⟩ := hq
    exact L87 _ C117 _ _ _ _ _ n _ _ hq H locs hP hD hS ls hl
  have C85 : ∀ (rows_c : Int32) (rows_w : Int32) (rows_size : Int32) (rows_ring : Int32) (f_rows_framed : Nat → Int32) (f_rows_power : Nat → Int32), q_X2_list_85 post rows_c rows_w rows_size rows_ring f_rows_framed f_rows_power → ∀ (H : Heap) (locs : List Loc), va_P (dC, dI) vwCl (W_X2_list cI cJ cZ h_rows h_rows_framed h_rows_power rows_c rows_w rows_size rows_ring f_rows_framed f_rows_power) H → va_D A (W_X2_list cI cJ cZ h_rows h_rows_framed h_rows_power rows_c rows_w rows_size rows_ring f_rows_framed f_rows_power) → va_S A s.heap H locs → ∀ ls : Array Slot, lv_has ls 4 [(0, .ref h_rows)] → W p l e rm_X2_list s m args below meth c H locs 0 0 QQ (F0 m 85 ls []) := by
    intro rows_c rows_w rows_size rows_ring f_rows_framed f_rows_power hq H locs hP hD hS ls hl
    unfold q_X2_list_85 at hq
    refine lv_iconst (v := (0 : Int32)) hx hb dX2_list_85 (by decide) ?_
    refine lv_istore_n (lv' := [(3, .int (0 : Int32)), (0, .ref h_rows)]) hx hb dX2_list_86 rfl hl (by decide) rfl (fun ls hl => ?_)
    exact C87 _ _ _ _ _ _ _ hq _ _ hP hD hS _ (lv_sub hl [1, 0] rfl)
  have C67 : ∀ (l3 : Int32) (rows_c : Int32) (rows_w : Int32) (rows_size : Int32) (rows_ring : Int32) (f_rows_framed : Nat → Int32) (f_rows_power : Nat → Int32), q_X2_list_67 post l3 rows_c rows_w rows_size rows_ring f_rows_framed f_rows_power → ∀ (H : Heap) (locs : List Loc), va_P (dC, dI) vwCl (W_X2_list cI cJ cZ h_rows h_rows_framed h_rows_power rows_c rows_w rows_size rows_ring f_rows_framed f_rows_power) H → va_D A (W_X2_list cI cJ cZ h_rows h_rows_framed h_rows_power rows_c rows_w rows_size rows_ring f_rows_framed f_rows_power) → va_S A s.heap H locs → ∀ ls : Array Slot, lv_has ls 4 [(0, .ref h_rows), (3, .int l3)] → W p l e rm_X2_list s m args below meth c H locs 0 0 QQ (F0 m 67 ls []) := by
    intro l3 rows_c rows_w rows_size rows_ring f_rows_framed f_rows_power hq H locs hP hD hS ls hl
    obtain ⟨n, hq⟩ := hq
    exact L67 _ C85 _ _ _ _ n _ _ _ hq H locs hP hD hS ls hl
  have C53 : ∀ (rows_c : Int32) (rows_w : Int32) (rows_size : Int32) (rows_ring : Int32) (f_rows_framed : Nat → Int32) (f_rows_power : Nat → Int32), q_X2_list_53 post rows_c rows_w rows_size rows_ring f_rows_framed f_rows_power → ∀ (H : Heap) (locs : List Loc), va_P (dC, dI) vwCl (W_X2_list cI cJ cZ h_rows h_rows_framed h_rows_power rows_c rows_w rows_size rows_ring f_rows_framed f_rows_power) H → va_D A (W_X2_list cI cJ cZ h_rows h_rows_framed h_rows_power rows_c rows_w rows_size rows_ring f_rows_framed f_rows_power) → va_S A s.heap H locs → ∀ ls : Array Slot, lv_has ls 4 [(0, .ref h_rows)] → W p l e rm_X2_list s m args below meth c H locs 0 0 QQ (F0 m 53 ls []) := by
    intro rows_c rows_w rows_size rows_ring f_rows_framed f_rows_power hq H locs hP hD hS ls hl
    unfold q_X2_list_53 at hq
    refine lv_aload_n hx hb dX2_list_53 rfl (lv_at hl 0 rfl) ?_
    refine lv_iconst (v := (1 : Int32)) hx hb dX2_list_54 (by decide) ?_
    refine va_put (D := (dC, dI)) (ci := 2) (v := .int (1 : Int32)) (ty := tyX2 2) (C := RX2) (T := TX2) (N := 6) hx hb hts hinX2 tyX2 tyX2_ok nmX2 hown hK hP hD hS 0 rfl rfl 2 (by decide) hf18 (fun _ h9 => h9) rfl (tyX2_ok 2 (by decide)) rfl rfl (Nat.le_of_ble_eq_true rfl) dX2_list_55 (fun H locs hP hD hS => ?_)
    have hP : va_P (dC, dI) vwCl (W_X2_list cI cJ cZ h_rows h_rows_framed h_rows_power rows_c rows_w (1 : Int32) rows_ring f_rows_framed f_rows_power) H := hP
    have hD : va_D A (W_X2_list cI cJ cZ h_rows h_rows_framed h_rows_power rows_c rows_w (1 : Int32) rows_ring f_rows_framed f_rows_power) := hD
    refine lv_aload_n hx hb dX2_list_58 rfl (lv_at hl 0 rfl) ?_
    refine va_get (D := (dC, dI)) (ci := 2) (v := .ref h_rows_framed) (C := RX2) (T := TX2) (N := 6) hx hb hts hinX2 hown hK hP 0 rfl rfl 4 (by decide) hf24 (fun _ h9 => h9) rfl dX2_list_59 ?_
    refine lv_iconst (v := (0 : Int32)) hx hb dX2_list_62 (by decide) ?_
    refine lv_iconst (v := (3 : Int32)) hx hb dX2_list_63 (by decide) ?_
    refine va_iast hx hb hK hP hD hS 1 0 rfl rfl (by unfold vp_in; decide) dX2_list_64 (fun H locs hP hD hS => ?_)
    have hP : va_P (dC, dI) vwCl (W_X2_list cI cJ cZ h_rows h_rows_framed h_rows_power rows_c rows_w (1 : Int32) rows_ring (upd f_rows_framed ((0 : Int32)).toNatClampNeg (3 : Int32)) f_rows_power) H := hP
    have hD : va_D A (W_X2_list cI cJ cZ h_rows h_rows_framed h_rows_power rows_c rows_w (1 : Int32) rows_ring (upd f_rows_framed ((0 : Int32)).toNatClampNeg (3 : Int32)) f_rows_power) := hD
    refine lv_iconst (v := (0 : Int32)) hx hb dX2_list_65 (by decide) ?_
    refine lv_istore_n (lv' := [(3, .int (0 : Int32)), (0, .ref h_rows)]) hx hb dX2_list_66 rfl hl (by decide) rfl (fun ls hl => ?_)
    exact C67 _ _ _ _ _ _ _ hq _ _ hP hD hS _ (lv_sub hl [1, 0] rfl)
  have C19 : ∀ (l3 : Int32) (rows_c : Int32) (rows_w : Int32) (rows_size : Int32) (rows_ring : Int32) (f_rows_framed : Nat → Int32) (f_rows_power : Nat → Int32), q_X2_list_19 post l3 rows_c rows_w rows_size rows_ring f_rows_framed f_rows_power → ∀ (H : Heap) (locs : List Loc), va_P (dC, dI) vwCl (W_X2_list cI cJ cZ h_rows h_rows_framed h_rows_power rows_c rows_w rows_size rows_ring f_rows_framed f_rows_power) H → va_D A (W_X2_list cI cJ cZ h_rows h_rows_framed h_rows_power rows_c rows_w rows_size rows_ring f_rows_framed f_rows_power) → va_S A s.heap H locs → ∀ ls : Array Slot, lv_has ls 4 [(0, .ref h_rows), (3, .int l3)] → W p l e rm_X2_list s m args below meth c H locs 0 0 QQ (F0 m 19 ls []) := by
    intro l3 rows_c rows_w rows_size rows_ring f_rows_framed f_rows_power hq H locs hP hD hS ls hl
    obtain ⟨n, hq⟩ := hq
    exact L19 _ C53 _ _ _ _ _ n _ _ hq H locs hP hD hS ls hl
  unfold q_X2_list at hq
  refine lv_aload_n hx hb dX2_list_0 rfl (lv_at hl 0 rfl) ?_
  refine lv_iload_n hx hb dX2_list_1 rfl (lv_at hl 1 rfl) ?_
  refine va_put (D := (dC, dI)) (ci := 2) (v := .int l1) (ty := tyX2 0) (C := RX2) (T := TX2) (N := 6) hx hb hts hinX2 tyX2 tyX2_ok nmX2 hown hK hP hD hS 0 rfl rfl 0 (by decide) hf9 (fun _ h9 => h9) rfl (tyX2_ok 0 (by decide)) rfl rfl (Nat.le_of_ble_eq_true rfl) dX2_list_2 (fun H locs hP hD hS => ?_)
  have hP : va_P (dC, dI) vwCl (W_X2_list cI cJ cZ h_rows h_rows_framed h_rows_power l1 rows_w rows_size rows_ring f_rows_framed f_rows_power) H := hP
  have hD : va_D A (W_X2_list cI cJ cZ h_rows h_rows_framed h_rows_power l1 rows_w rows_size rows_ring f_rows_framed f_rows_power) := hD
  refine lv_aload_n hx hb dX2_list_5 rfl (lv_at hl 0 rfl) ?_
  refine lv_iload_n hx hb dX2_list_6 rfl (lv_at hl 2 rfl) ?_
  refine va_put (D := (dC, dI)) (ci := 2) (v := .int l2) (ty := tyX2 1) (C := RX2) (T := TX2) (N := 6) hx hb hts hinX2 tyX2 tyX2_ok nmX2 hown hK hP hD hS 0 rfl rfl 1 (by decide) hf15 (fun _ h9 => h9) rfl (tyX2_ok 1 (by decide)) rfl rfl (Nat.le_of_ble_eq_true rfl) dX2_list_7 (fun H locs hP hD hS => ?_)
  have hP : va_P (dC, dI) vwCl (W_X2_list cI cJ cZ h_rows h_rows_framed h_rows_power l1 l2 rows_size rows_ring f_rows_framed f_rows_power) H := hP
  have hD : va_D A (W_X2_list cI cJ cZ h_rows h_rows_framed h_rows_power l1 l2 rows_size rows_ring f_rows_framed f_rows_power) := hD
  refine lv_aload_n hx hb dX2_list_10 rfl (lv_at hl 0 rfl) ?_
  refine va_get (D := (dC, dI)) (ci := 2) (v := .ref h_rows_power) (C := RX2) (T := TX2) (N := 6) hx hb hts hinX2 hown hK hP 0 rfl rfl 5 (by decide) hf28 (fun _ h9 => h9) rfl dX2_list_11 ?_
  refine lv_iconst (v := (0 : Int32)) hx hb dX2_list_14 (by decide) ?_
  refine lv_iconst (v := (1 : Int32)) hx hb dX2_list_15 (by decide) ?_
  refine va_iast hx hb hK hP hD hS 2 0 rfl rfl (by unfold vp_in; decide) dX2_list_16 (fun H locs hP hD hS => ?_)
  have hP : va_P (dC, dI) vwCl (W_X2_list cI cJ cZ h_rows h_rows_framed h_rows_power l1 l2 rows_size rows_ring f_rows_framed (upd f_rows_power ((0 : Int32)).toNatClampNeg (1 : Int32))) H := hP
  have hD : va_D A (W_X2_list cI cJ cZ h_rows h_rows_framed h_rows_power l1 l2 rows_size rows_ring f_rows_framed (upd f_rows_power ((0 : Int32)).toNatClampNeg (1 : Int32))) := hD
  refine lv_iconst (v := (1 : Int32)) hx hb dX2_list_17 (by decide) ?_
  refine lv_istore_n (lv' := [(3, .int (1 : Int32)), (0, .ref h_rows), (1, .int l1), (2, .int l2)]) hx hb dX2_list_18 rfl hl (by decide) rfl (fun ls hl => ?_)
  exact C19 _ _ _ _ _ _ _ hq _ _ hP hD hS _ (lv_sub hl [1, 0] rfl)

abbrev W_X2_colour (cI cJ cZ : ClassId) (h_rows h_rows_framed h_rows_power : Nat) (rows_c : Int32) (rows_w : Int32) (rows_size : Int32) (rows_ring : Int32) (f_rows_framed : Nat → Int32) : va_W := [(h_rows, .inr (2, [.int rows_c, .int rows_w, .int rows_size, .int rows_ring, .ref h_rows_framed, .ref h_rows_power])), (h_rows_framed, .inl (cI, 243, .inl f_rows_framed))]
abbrev rm_X2_colour : Room := { frames := 0, cells := 0, slots := 0, locals := 0 }
def q_X2_colour (rows_w : Int32) (f_rows_framed : Nat → Int32) (l1 : Int32) (l2 : Int32) (post : Int32 → Prop) : Prop := (vp_in l1 243 ∧ (post (((f_rows_framed (l1).toNatClampNeg) >>> (((2 : Int32) * (rows_w - l2)) &&& 31)) &&& (3 : Int32))))
theorem hdV_X2_colour : yX2_colour.cls = RX2 ∧ yX2_colour.cls ≠ "java/lang/invoke/MethodHandle" ∧ yX2_colour.cls ≠ "java/lang/invoke/VarHandle" ∧ (parseMethodDescriptor yX2_colour.desc).map (fun d => d.parameters.length) = some 2 := by decide +kernel
set_option maxHeartbeats 4000000 in
set_option maxRecDepth 100000 in
theorem c_X2_colour (l : Launch) (dC : Nat → ClassId) (dI : Nat → Nat → Nat) (cI cJ cZ : ClassId) (h_rows h_rows_framed h_rows_power : Nat) (sz : Nat) (rows_c : Int32) (rows_w : Int32) (rows_size : Int32) (rows_ring : Int32) (f_rows_framed : Nat → Int32) (l1 : Int32) (l2 : Int32) {post : Int32 → Prop} (hq : q_X2_colour rows_w f_rows_framed l1 l2 post) : Met l yX2_colour wsX2_colour rm_X2_colour (va_Pc [.ref h_rows, .int l1, .int l2] (gx_Pre (dC, dI) vwCl (gx_tys cI cJ cZ) sz (W_X2_colour cI cJ cZ h_rows h_rows_framed h_rows_power rows_c rows_w rows_size rows_ring f_rows_framed))) (va_Qi (fun (r : Int32) (u : Unit) => post r) (gx_B (dC, dI) vwCl (gx_tys cI cJ cZ) (va_A (W_X2_colour cI cJ cZ h_rows h_rows_framed h_rows_power rows_c rows_w rows_size rows_ring f_rows_framed) sz) (fun (u : Unit) => (W_X2_colour cI cJ cZ h_rows h_rows_framed h_rows_power rows_c rows_w rows_size rows_ring f_rows_framed))) (va_A (W_X2_colour cI cJ cZ h_rows h_rows_framed h_rows_power rows_c rows_w rows_size rows_ring f_rows_framed) sz)) 0 0 (va_A (W_X2_colour cI cJ cZ h_rows h_rows_framed h_rows_power rows_c rows_w rows_size rows_ring f_rows_framed) sz) := by
  refine gx_i (cc := cX2_colour) (maxL := 3) (by decide) rfl (Nat.le_of_ble_eq_true rfl) ?_
  intro p e s m args below meth c A QQ hx hb hml hown hts hA hP hK hD hret ls hl
  have hown : s.vm.findClass RX2 = some m.cls := hown
  have hf24 := hts (.fieldLink RX2 24 "SmallWindows$Rows" "framed" "[I") (by decide +kernel)
  have hf15 := hts (.fieldLink RX2 15 "SmallWindows$Rows" "w" "I") (by decide +kernel)
  have hinX2 : ∀ w ∈ u_ws RX2 TX2 6, w ∈ wsX2_colour := fun w h => List.mem_cons_of_mem _ ((List.mem_append_right _ h))
  have hS : va_S A s.heap s.heap [] := va_S.rf
  have hl : lv_has ls 3 [(0, .ref h_rows), (1, .int l1), (2, .int l2)] := hl
  unfold q_X2_colour at hq
  refine lv_aload_n hx hb dX2_colour_0 rfl (lv_at hl 0 rfl) ?_
  refine va_get (D := (dC, dI)) (ci := 2) (v := .ref h_rows_framed) (C := RX2) (T := TX2) (N := 6) hx hb hts hinX2 hown hK hP 0 rfl rfl 4 (by decide) hf24 (fun _ h9 => h9) rfl dX2_colour_1 ?_
  refine lv_iload_n hx hb dX2_colour_4 rfl (lv_at hl 1 rfl) ?_
  obtain ⟨hv1, hq⟩ := hq
  refine va_iald hx hb hK hP 1 0 rfl rfl hv1 dX2_colour_5 ?_
  refine lv_iconst (v := (2 : Int32)) hx hb dX2_colour_6 (by decide) ?_
  refine lv_aload_n hx hb dX2_colour_7 rfl (lv_at hl 0 rfl) ?_
  refine va_get (D := (dC, dI)) (ci := 2) (v := .int rows_w) (C := RX2) (T := TX2) (N := 6) hx hb hts hinX2 hown hK hP 0 rfl rfl 1 (by decide) hf15 (fun _ h9 => h9) rfl dX2_colour_8 ?_
  refine lv_iload_n hx hb dX2_colour_11 rfl (lv_at hl 2 rfl) ?_
  refine lv_isub hx hb dX2_colour_12 ?_
  refine lv_imul hx hb dX2_colour_13 ?_
  refine lv_ishr hx hb dX2_colour_14 ?_
  refine lv_iconst (v := (3 : Int32)) hx hb dX2_colour_15 (by decide) ?_
  refine lv_iand hx hb dX2_colour_16 ?_
  exact hret (((f_rows_framed (l1).toNatClampNeg) >>> (((2 : Int32) * (rows_w - l2)) &&& 31)) &&& (3 : Int32)) () hq _ _ hP hD hS _ _ dX2_colour_17

abbrev W_X2_numberOf (cI cJ cZ : ClassId) (h_rows h_S h_S_cells h_rows_framed h_rows_power : Nat) (rows_c : Int32) (rows_w : Int32) (rows_size : Int32) (rows_ring : Int32) (S_h : Int32) (S_w : Int32) (f_S_cells : Nat → Int32) : va_W := [(h_rows, .inr (2, [.int rows_c, .int rows_w, .int rows_size, .int rows_ring, .ref h_rows_framed, .ref h_rows_power])), (h_S, .inr (4, [.int S_h, .int S_w, .ref h_S_cells])), (h_S_cells, .inl (cI, 25, .inl f_S_cells))]
abbrev rm_X2_numberOf : Room := { frames := 1, cells := 0, slots := 0, locals := 22 }
def r_X2_numberOf_5 (rows_c : Int32) (rows_w : Int32) (S_h : Int32) (S_w : Int32) (f_S_cells : Nat → Int32) (post : Int32 → Prop) (l2 : Int32) : Nat → (Int32) → (Int32) → Prop
  | 0, _, _ => False
  | n + 1, l3, l4 => ((rows_w ≤ l4 → (post l3)) ∧ (¬ rows_w ≤ l4 → (q_X4_at S_h S_w f_S_cells l2 l4 (fun (r2 : Int32) => ((r_X2_numberOf_5 rows_c rows_w S_h S_w f_S_cells post l2 n) ((l3 * rows_c) + r2) (l4 + (1 : Int32)))))))
def q_X2_numberOf_5 (rows_c : Int32) (rows_w : Int32) (S_h : Int32) (S_w : Int32) (f_S_cells : Nat → Int32) (post : Int32 → Prop) (l2 : Int32) (l3 : Int32) (l4 : Int32) : Prop := ∃ n, r_X2_numberOf_5 rows_c rows_w S_h S_w f_S_cells post l2 n l3 l4
def q_X2_numberOf (rows_c : Int32) (rows_w : Int32) (S_h : Int32) (S_w : Int32) (f_S_cells : Nat → Int32) (l2 : Int32) (post : Int32 → Prop) : Prop := ((q_X2_numberOf_5 rows_c rows_w S_h S_w f_S_cells post) l2 (0 : Int32) (0 : Int32))
theorem hdV_X2_numberOf : yX2_numberOf.cls = RX2 ∧ yX2_numberOf.cls ≠ "java/lang/invoke/MethodHandle" ∧ yX2_numberOf.cls ≠ "java/lang/invoke/VarHandle" ∧ (parseMethodDescriptor yX2_numberOf.desc).map (fun d => d.parameters.length) = some 2 := by decide +kernel
set_option maxHeartbeats 4000000 in
set_option maxRecDepth 100000 in
theorem c_X2_numberOf (l : Launch) (dC : Nat → ClassId) (dI : Nat → Nat → Nat) (cI cJ cZ : ClassId) (h_rows h_S h_S_cells h_rows_framed h_rows_power : Nat) (sz : Nat) (rows_c : Int32) (rows_w : Int32) (rows_size : Int32) (rows_ring : Int32) (S_h : Int32) (S_w : Int32) (f_S_cells : Nat → Int32) (l2 : Int32) {post : Int32 → Prop} (hq : q_X2_numberOf rows_c rows_w S_h S_w f_S_cells l2 post) : Met l yX2_numberOf wsX2_numberOf rm_X2_numberOf (va_Pc [.ref h_rows, .ref h_S, .int l2] (gx_Pre (dC, dI) vwCl (gx_tys cI cJ cZ) sz (W_X2_numberOf cI cJ cZ h_rows h_S h_S_cells h_rows_framed h_rows_power rows_c rows_w rows_size rows_ring S_h S_w f_S_cells))) (va_Qi (fun (r : Int32) (u : Unit) => post r) (gx_B (dC, dI) vwCl (gx_tys cI cJ cZ) (va_A (W_X2_numberOf cI cJ cZ h_rows h_S h_S_cells h_rows_framed h_rows_power rows_c rows_w rows_size rows_ring S_h S_w f_S_cells) sz) (fun (u : Unit) => (W_X2_numberOf cI cJ cZ h_rows h_S h_S_cells h_rows_framed h_rows_power rows_c rows_w rows_size rows_ring S_h S_w f_S_cells))) (va_A (W_X2_numberOf cI cJ cZ h_rows h_S h_S_cells h_rows_framed h_rows_power rows_c rows_w rows_size rows_ring S_h S_w f_S_cells) sz)) 0 0 (va_A (W_X2_numberOf cI cJ cZ h_rows h_S h_S_cells h_rows_framed h_rows_power rows_c rows_w rows_size rows_ring S_h S_w f_S_cells) sz) := by
  refine gx_i (cc := cX2_numberOf) (maxL := 5) (by decide) rfl (Nat.le_of_ble_eq_true rfl) ?_
  intro p e s m args below meth c A QQ hx hb hml hown hts hA hP hK hD hret ls hl
  have hown : s.vm.findClass RX2 = some m.cls := hown
  have hf15 := hts (.fieldLink RX2 15 "SmallWindows$Rows" "w" "I") (by decide +kernel)
  have hf9 := hts (.fieldLink RX2 9 "SmallWindows$Rows" "c" "I") (by decide +kernel)
  have hinX2 : ∀ w ∈ u_ws RX2 TX2 6, w ∈ wsX2_numberOf := fun w h => List.mem_cons_of_mem _ ((List.mem_append_left _ (List.mem_append_right _ h)))
  have hS : va_S A s.heap s.heap [] := va_S.rf
  have hl : lv_has ls 5 [(0, .ref h_rows), (1, .ref h_S), (2, .int l2)] := hl
  have L5 : ∀ (l2 : Int32) (n : Nat) (l3 : Int32) (l4 : Int32), r_X2_numberOf_5 rows_c rows_w S_h S_w f_S_cells post l2 n l3 l4 → ∀ (H : Heap) (locs : List Loc), va_P (dC, dI) vwCl (W_X2_numberOf cI cJ cZ h_rows h_S h_S_cells h_rows_framed h_rows_power rows_c rows_w rows_size rows_ring S_h S_w f_S_cells) H → va_D A (W_X2_numberOf cI cJ cZ h_rows h_S h_S_cells h_rows_framed h_rows_power rows_c rows_w rows_size rows_ring S_h S_w f_S_cells) → va_S A s.heap H locs → ∀ ls : Array Slot, lv_has ls 5 [(0, .ref h_rows), (1, .ref h_S), (2, .int l2), (3, .int l3), (4, .int l4)] → W p l e rm_X2_numberOf s m args below meth c H locs 0 0 QQ (F0 m 5 ls []) := by
    intro l2 n
    induction n with
    | zero => intro l3 l4 hq; exact False.elim hq
    | succ n ih =>
      intro l3 l4 hq H locs hP hD hS ls hl
      unfold r_X2_numberOf_5 at hq
      refine lv_iload hx hb dX2_numberOf_5 (lv_at hl 4 rfl) ?_
      refine lv_aload_n hx hb dX2_numberOf_7 rfl (lv_at hl 0 rfl) ?_
      refine va_get (D := (dC, dI)) (ci := 2) (v := .int rows_w) (C := RX2) (T := TX2) (N := 6) hx hb hts hinX2 hown hK hP 0 rfl rfl 1 (by decide) hf15 (fun _ h9 => h9) rfl dX2_numberOf_8 ?_
      refine lv_icmp_ge (tgt := 35) hx hb dX2_numberOf_11 (by decide) (fun c1 => ?_) (fun c1 => ?_)
      · replace hq := hq.1 c1
        refine lv_iload_n hx hb dX2_numberOf_35 rfl (lv_at hl 3 rfl) ?_
        exact hret l3 () hq _ _ hP hD hS _ _ dX2_numberOf_36
      · replace hq := hq.2 c1
        refine lv_iload_n hx hb dX2_numberOf_14 rfl (lv_at hl 3 rfl) ?_
        refine lv_aload_n hx hb dX2_numberOf_15 rfl (lv_at hl 0 rfl) ?_
        refine va_get (D := (dC, dI)) (ci := 2) (v := .int rows_c) (C := RX2) (T := TX2) (N := 6) hx hb hts hinX2 hown hK hP 0 rfl rfl 0 (by decide) hf9 (fun _ h9 => h9) rfl dX2_numberOf_16 ?_
        refine lv_imul hx hb dX2_numberOf_19 ?_
        refine lv_aload_n hx hb dX2_numberOf_20 rfl (lv_at hl 1 rfl) ?_
        refine lv_iload_n hx hb dX2_numberOf_21 rfl (lv_at hl 2 rfl) ?_
        refine lv_iload hx hb dX2_numberOf_22 (lv_at hl 4 rfl) ?_
        refine gx_cVi (C := RX4) (As := [.int l2, .int l4]) (rest := [.int (l3 * rows_c)]) ⟨hx, hb, hml, hown, hts⟩ (c_X4_at l dC dI cI cJ cZ h_S h_S_cells H.size S_h S_w f_S_cells l2 l4 hq) (cwV 2 hts gX2_numberOf_X4_at rfl rfl rfl hdV_X4_at ⟨Nat.le_of_ble_eq_true rfl, Nat.le_of_ble_eq_true rfl⟩) hK hP hD hS hA [1, 2] [0] rfl rfl rfl rfl rfl (ci := 4) (q0 := 0) rfl rfl rfl rfl hl.1 (Nat.le_of_ble_eq_true rfl) dX2_numberOf_24 rfl (fun r2 u H locs hq hP hD hS => ?_)
        try dsimp only at hq
        have hP : va_P (dC, dI) vwCl (W_X2_numberOf cI cJ cZ h_rows h_S h_S_cells h_rows_framed h_rows_power rows_c rows_w rows_size rows_ring S_h S_w f_S_cells) H := hP
        have hD : va_D A (W_X2_numberOf cI cJ cZ h_rows h_S h_S_cells h_rows_framed h_rows_power rows_c rows_w rows_size rows_ring S_h S_w f_S_cells) := hD
        refine lv_iadd hx hb dX2_numberOf_27 ?_
        refine lv_istore_n (lv' := [(3, .int ((l3 * rows_c) + r2)), (0, .ref h_rows), (1, .ref h_S), (2, .int l2), (4, .int l4)]) hx hb dX2_numberOf_28 rfl hl (by decide) rfl (fun ls hl => ?_)
        refine lv_iinc (v := (l4 + (1 : Int32))) (lv' := [(4, .int (l4 + (1 : Int32))), (3, .int ((l3 * rows_c) + r2)), (0, .ref h_rows), (1, .ref h_S), (2, .int l2)]) hx hb dX2_numberOf_29 hl (k := 4) rfl rfl (by decide) rfl (fun ls hl => ?_)
        refine lv_goto (tgt := 5) hx hb dX2_numberOf_32 (by decide) ?_
        exact ih _ _ hq _ _ hP hD hS _ (lv_sub hl [2, 3, 4, 1, 0] rfl)
  have C5 : ∀ (l2 : Int32) (l3 : Int32) (l4 : Int32), q_X2_numberOf_5 rows_c rows_w S_h S_w f_S_cells post l2 l3 l4 → ∀ (H : Heap) (locs : List Loc), va_P (dC, dI) vwCl (W_X2_numberOf cI cJ cZ h_rows h_S h_S_cells h_rows_framed h_rows_power rows_c rows_w rows_size rows_ring S_h S_w f_S_cells) H → va_D A (W_X2_numberOf cI cJ cZ h_rows h_S h_S_cells h_rows_framed h_rows_power rows_c rows_w rows_size rows_ring S_h S_w f_S_cells) → va_S A s.heap H locs → ∀ ls : Array Slot, lv_has ls 5 [(0, .ref h_rows), (1, .ref h_S), (2, .int l2), (3, .int l3), (4, .int l4)] → W p l e rm_X2_numberOf s m args below meth c H locs 0 0 QQ (F0 m 5 ls []) := by
    intro l2 l3 l4 hq H locs hP hD hS ls hl
    obtain ⟨n, hq⟩ := hq
    exact L5 _ n _ _ hq H locs hP hD hS ls hl
  unfold q_X2_numberOf at hq
  refine lv_iconst (v := (0 : Int32)) hx hb dX2_numberOf_0 (by decide) ?_
  refine lv_istore_n (lv' := [(3, .int (0 : Int32)), (0, .ref h_rows), (1, .ref h_S), (2, .int l2)]) hx hb dX2_numberOf_1 rfl hl (by decide) rfl (fun ls hl => ?_)
  refine lv_iconst (v := (0 : Int32)) hx hb dX2_numberOf_2 (by decide) ?_
  refine lv_istore (lv' := [(4, .int (0 : Int32)), (3, .int (0 : Int32)), (0, .ref h_rows), (1, .ref h_S), (2, .int l2)]) hx hb dX2_numberOf_3 hl (by decide) rfl (fun ls hl => ?_)
  exact C5 _ _ _ hq _ _ hP hD hS _ (lv_sub hl [2, 3, 4, 1, 0] rfl)
