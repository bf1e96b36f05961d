abbrev W_X5_bit (cI cJ cZ : ClassId) (h_strip h_rows h_rule h_rule_lower h_strip_below h_strip_chosen h_strip_table h_strip_square h_strip_line h_strip_pushed h_rows_framed h_rows_power : Nat) (strip_tops : Int32) (strip_bottoms : Int32) (rows_c : Int32) (rows_w : Int32) (rows_size : Int32) (rows_ring : Int32) (f_rule_lower : Nat → Int32) : va_W := [(h_strip, .inr (5, [.ref h_rule, .ref h_rows, .ref h_strip_below, .int strip_tops, .int strip_bottoms, .ref h_strip_chosen, .ref h_strip_table, .ref h_strip_square, .ref h_strip_line, .ref h_strip_pushed])), (h_rows, .inr (2, [.int rows_c, .int rows_w, .int rows_size, .int rows_ring, .ref h_rows_framed, .ref h_rows_power])), (h_rule, .inr (3, [.ref h_rule_lower])), (h_rule_lower, .inl (cI, 16, .inl f_rule_lower))]
abbrev rm_X5_bit : Room := { frames := 1, cells := 0, slots := 0, locals := 24 }
def q_X5_bit (rows_w : Int32) (f_rule_lower : Nat → Int32) (l1 : Int32) (l2 : Int32) (l3 : Int32) (post : Int32 → Prop) : Prop := (q_X3_joins f_rule_lower l1 l2 rows_w (fun (r1 : Int32) => ((r1 = 0 → (post (0 : Int32))) ∧ (¬ r1 = 0 → (post ((1 : Int32) <<< (l3 &&& 31)))))))
theorem hdV_X5_bit : yX5_bit.cls = RX5 ∧ yX5_bit.cls ≠ "java/lang/invoke/MethodHandle" ∧ yX5_bit.cls ≠ "java/lang/invoke/VarHandle" ∧ (parseMethodDescriptor yX5_bit.desc).map (fun d => d.parameters.length) = some 3 := by decide +kernel
set_option maxHeartbeats 4000000 in
set_option maxRecDepth 100000 in
theorem c_X5_bit (l : Launch) (dC : Nat → ClassId) (dI : Nat → Nat → Nat) (cI cJ cZ : ClassId) (h_strip h_rows h_rule h_rule_lower h_strip_below h_strip_chosen h_strip_table h_strip_square h_strip_line h_strip_pushed h_rows_framed h_rows_power : Nat) (sz : Nat) (strip_tops : Int32) (strip_bottoms : Int32) (rows_c : Int32) (rows_w : Int32) (rows_size : Int32) (rows_ring : Int32) (f_rule_lower : Nat → Int32) (l1 : Int32) (l2 : Int32) (l3 : Int32) {post : Int32 → Prop} (hq : q_X5_bit rows_w f_rule_lower l1 l2 l3 post) : Met l yX5_bit wsX5_bit rm_X5_bit (va_Pc [.ref h_strip, .int l1, .int l2, .int l3] (gx_Pre (dC, dI) vwCl (gx_tys cI cJ cZ) sz (W_X5_bit cI cJ cZ h_strip h_rows h_rule h_rule_lower h_strip_below h_strip_chosen h_strip_table h_strip_square h_strip_line h_strip_pushed h_rows_framed h_rows_power strip_tops strip_bottoms rows_c rows_w rows_size rows_ring f_rule_lower))) (va_Qi (fun (r : Int32) (u : Unit) => post r) (gx_B (dC, dI) vwCl (gx_tys cI cJ cZ) (va_A (W_X5_bit cI cJ cZ h_strip h_rows h_rule h_rule_lower h_strip_below h_strip_chosen h_strip_table h_strip_square h_strip_line h_strip_pushed h_rows_framed h_rows_power strip_tops strip_bottoms rows_c rows_w rows_size rows_ring f_rule_lower) sz) (fun (u : Unit) => (W_X5_bit cI cJ cZ h_strip h_rows h_rule h_rule_lower h_strip_below h_strip_chosen h_strip_table h_strip_square h_strip_line h_strip_pushed h_rows_framed h_rows_power strip_tops strip_bottoms rows_c rows_w rows_size rows_ring f_rule_lower))) (va_A (W_X5_bit cI cJ cZ h_strip h_rows h_rule h_rule_lower h_strip_below h_strip_chosen h_strip_table h_strip_square h_strip_line h_strip_pushed h_rows_framed h_rows_power strip_tops strip_bottoms rows_c rows_w rows_size rows_ring f_rule_lower) sz)) 0 0 (va_A (W_X5_bit cI cJ cZ h_strip h_rows h_rule h_rule_lower h_strip_below h_strip_chosen h_strip_table h_strip_square h_strip_line h_strip_pushed h_rows_framed h_rows_power strip_tops strip_bottoms rows_c rows_w rows_size rows_ring f_rule_lower) sz) := by
  refine gx_i (cc := cX5_bit) (maxL := 4) (by decide) rfl (Nat.le_of_ble_eq_true rfl) ?_
  intro p e s m args below meth c A QQ hx hb hml hown hts hA hP hK hD hret ls hl
  have hown : s.vm.findClass RX5 = some m.cls := hown
  have hf38 := hts (.fieldLink RX5 38 "SmallWindows$Strip" "rule" "LSmallWindows$Rule;") (by decide +kernel)
  have hf42 := hts (.fieldLink RX5 42 "SmallWindows$Strip" "rows" "LSmallWindows$Rows;") (by decide +kernel)
  have hf65 := hts (.fieldLink RX5 65 "SmallWindows$Rows" "w" "I") (by decide +kernel)
  have hinX5 : ∀ w ∈ u_ws RX5 TX5 10, w ∈ wsX5_bit := fun w h => List.mem_cons_of_mem _ ((List.mem_append_left _ (List.mem_append_left _ (List.mem_append_right _ h))))
  have hinX2 : ∀ w ∈ u_ws RX2 TX2 6, w ∈ wsX5_bit := fun w h => List.mem_cons_of_mem _ ((List.mem_append_left _ (List.mem_append_right _ h)))
  have hS : va_S A s.heap s.heap [] := va_S.rf
  have hl : lv_has ls 4 [(0, .ref h_strip), (1, .int l1), (2, .int l2), (3, .int l3)] := hl
  unfold q_X5_bit at hq
  refine lv_aload_n hx hb dX5_bit_0 rfl (lv_at hl 0 rfl) ?_
  refine va_get (D := (dC, dI)) (ci := 5) (v := .ref h_rule) (C := RX5) (T := TX5) (N := 10) hx hb hts hinX5 hown hK hP 0 rfl rfl 0 (by decide) hf38 (fun _ h9 => h9) rfl dX5_bit_1 ?_
  refine lv_iload_n hx hb dX5_bit_4 rfl (lv_at hl 1 rfl) ?_
  refine lv_iload_n hx hb dX5_bit_5 rfl (lv_at hl 2 rfl) ?_
  refine lv_aload_n hx hb dX5_bit_6 rfl (lv_at hl 0 rfl) ?_
  refine va_get (D := (dC, dI)) (ci := 5) (v := .ref h_rows) (C := RX5) (T := TX5) (N := 10) hx hb hts hinX5 hown hK hP 0 rfl rfl 1 (by decide) hf42 (fun _ h9 => h9) rfl dX5_bit_7 ?_
  refine va_get (D := (dC, dI)) (ci := 2) (v := .int rows_w) (C := RX2) (T := TX2) (N := 6) hx hb hts hinX2 hown hK hP 1 rfl rfl 1 (by decide) hf65 (fun _ h9 => h9) rfl dX5_bit_10 ?_
  refine gx_cVi (C := RX3) (As := [.int l1, .int l2, .int rows_w]) (rest := []) ⟨hx, hb, hml, hown, hts⟩ (c_X3_joins l dC dI cI cJ cZ h_rule h_rule_lower s.heap.size f_rule_lower l1 l2 rows_w hq) (cwV 3 hts gX5_bit_X3_joins rfl rfl rfl hdV_X3_joins ⟨Nat.le_of_ble_eq_true rfl, Nat.le_of_ble_eq_true rfl⟩) hK hP hD hS hA [2, 3] [0, 1] rfl rfl rfl rfl rfl (ci := 3) (q0 := 0) rfl rfl rfl rfl hl.1 (Nat.le_of_ble_eq_true rfl) dX5_bit_13 rfl (fun r1 u H locs hq hP hD hS => ?_)
  try dsimp only at hq
  have hP : va_P (dC, dI) vwCl (W_X5_bit cI cJ cZ h_strip h_rows h_rule h_rule_lower h_strip_below h_strip_chosen h_strip_table h_strip_square h_strip_line h_strip_pushed h_rows_framed h_rows_power strip_tops strip_bottoms rows_c rows_w rows_size rows_ring f_rule_lower) H := hP
  have hD : va_D A (W_X5_bit cI cJ cZ h_strip h_rows h_rule h_rule_lower h_strip_below h_strip_chosen h_strip_table h_strip_square h_strip_line h_strip_pushed h_rows_framed h_rows_power strip_tops strip_bottoms rows_c rows_w rows_size rows_ring f_rule_lower) := hD
  refine lv_if_eq (tgt := 25) hx hb dX5_bit_16 (by decide) (fun c2 => ?_) (fun c2 => ?_)
  · replace hq := hq.1 c2
    refine lv_iconst (v := (0 : Int32)) hx hb dX5_bit_25 (by decide) ?_
    exact hret (0 : Int32) () hq _ _ hP hD hS _ _ dX5_bit_26
  · replace hq := hq.2 c2
    refine lv_iconst (v := (1 : Int32)) hx hb dX5_bit_19 (by decide) ?_
    refine lv_iload_n hx hb dX5_bit_20 rfl (lv_at hl 3 rfl) ?_
    refine lv_ishl hx hb dX5_bit_21 ?_
    refine lv_goto (tgt := 26) hx hb dX5_bit_22 (by decide) ?_
    exact hret ((1 : Int32) <<< (l3 &&& 31)) () hq _ _ hP hD hS _ _ dX5_bit_26

abbrev W_X5_lay (cI cJ cZ : ClassId) (h_strip h_strip_below h_rows h_rows_framed h_rows_power h_rule h_rule_lower h_strip_chosen h_strip_table h_strip_square h_strip_line h_strip_pushed : Nat) (strip_tops : Int32) (strip_bottoms : Int32) (f_strip_below : Nat → Int32) (rows_c : Int32) (rows_w : Int32) (rows_size : Int32) (rows_ring : Int32) (f_rows_framed : Nat → Int32) (f_rows_power : Nat → Int32) (f_rule_lower : Nat → Int32) : va_W := [(h_strip, .inr (5, [.ref h_rule, .ref h_rows, .ref h_strip_below, .int strip_tops, .int strip_bottoms, .ref h_strip_chosen, .ref h_strip_table, .ref h_strip_square, .ref h_strip_line, .ref h_strip_pushed])), (h_strip_below, .inl (cI, 27, .inl f_strip_below)), (h_rows, .inr (2, [.int rows_c, .int rows_w, .int rows_size, .int rows_ring, .ref h_rows_framed, .ref h_rows_power])), (h_rows_framed, .inl (cI, 243, .inl f_rows_framed)), (h_rows_power, .inl (cI, 7, .inl f_rows_power)), (h_rule, .inr (3, [.ref h_rule_lower])), (h_rule_lower, .inl (cI, 16, .inl f_rule_lower))]
abbrev rm_X5_lay : Room := { frames := 2, cells := 0, slots := 0, locals := 47 }
def r_X5_lay_99 (f_rule_lower : Nat → Int32) (rows_c : Int32) (rows_w : Int32) (rows_size : Int32) (rows_ring : Int32) (f_rows_framed : Nat → Int32) (f_rows_power : Nat → Int32) (post : (Int32) → (Int32) → (Nat → Int32) → (Int32) → (Int32) → (Int32) → (Int32) → (Nat → Int32) → (Nat → Int32) → Prop) (K144 : (Int32) → (Int32) → (Int32) → (Nat → Int32) → Prop) (l3 : Int32) (l4 : Int32) (strip_tops : Int32) (strip_bottoms : Int32) : Nat → (Int32) → (Nat → Int32) → Prop
  | 0, _, _ => False
  | n + 1, l5, f_strip_below => ((rows_size ≤ l5 → (K144 l3 strip_tops strip_bottoms f_strip_below)) ∧ (¬ rows_size ≤ l5 → (vp_in l3 27 ∧ (vp_in l5 243 ∧ (q_X5_bit rows_w f_rule_lower l4 (f_rows_framed (l5).toNatClampNeg) l5 (fun (r10 : Int32) => (vp_in l3 27 ∧ ((r_X5_lay_99 f_rule_lower rows_c rows_w rows_size rows_ring f_rows_framed f_rows_power post K144 l3 l4 strip_tops strip_bottoms n) (l5 + (1 : Int32)) (upd f_strip_below (l3).toNatClampNeg ((f_strip_below (l3).toNatClampNeg) ||| r10))))))))))
def q_X5_lay_144 (f_rule_lower : Nat → Int32) (rows_c : Int32) (rows_w : Int32) (rows_size : Int32) (rows_ring : Int32) (f_rows_framed : Nat → Int32) (f_rows_power : Nat → Int32) (post : (Int32) → (Int32) → (Nat → Int32) → (Int32) → (Int32) → (Int32) → (Int32) → (Nat → Int32) → (Nat → Int32) → Prop) (K21 : (Int32) → (Int32) → (Int32) → (Nat → Int32) → Prop) (l3 : Int32) (strip_tops : Int32) (strip_bottoms : Int32) (f_strip_below : Nat → Int32) : Prop := (K21 (l3 + (1 : Int32)) strip_tops strip_bottoms f_strip_below)
def q_X5_lay_99 (f_rule_lower : Nat → Int32) (rows_c : Int32) (rows_w : Int32) (rows_size : Int32) (rows_ring : Int32) (f_rows_framed : Nat → Int32) (f_rows_power : Nat → Int32) (post : (Int32) → (Int32) → (Nat → Int32) → (Int32) → (Int32) → (Int32) → (Int32) → (Nat → Int32) → (Nat → Int32) → Prop) (K21 : (Int32) → (Int32) → (Int32) → (Nat → Int32) → Prop) (l3 : Int32) (l4 : Int32) (l5 : Int32) (strip_tops : Int32) (strip_bottoms : Int32) (f_strip_below : Nat → Int32) : Prop := ∃ n, r_X5_lay_99 f_rule_lower rows_c rows_w rows_size rows_ring f_rows_framed f_rows_power post (q_X5_lay_144 f_rule_lower rows_c rows_w rows_size rows_ring f_rows_framed f_rows_power post K21) l3 l4 strip_tops strip_bottoms n l5 f_strip_below
def r_X5_lay_21 (f_rule_lower : Nat → Int32) (post : (Int32) → (Int32) → (Nat → Int32) → (Int32) → (Int32) → (Int32) → (Int32) → (Nat → Int32) → (Nat → Int32) → Prop) (rows_c : Int32) (rows_w : Int32) (rows_size : Int32) (rows_ring : Int32) (f_rows_framed : Nat → Int32) (f_rows_power : Nat → Int32) : Nat → (Int32) → (Int32) → (Int32) → (Nat → Int32) → Prop
  | 0, _, _, _, _ => False
  | n + 1, l3, strip_tops, strip_bottoms, f_strip_below => ((rows_size ≤ l3 → (post strip_tops strip_bottoms f_strip_below rows_c rows_w rows_size rows_ring f_rows_framed f_rows_power)) ∧ (¬ rows_size ≤ l3 → (vp_in l3 243 ∧ (q_X5_bit rows_w f_rule_lower rows_ring (f_rows_framed (l3).toNatClampNeg) l3 (fun (r4 : Int32) => (q_X5_bit rows_w f_rule_lower (f_rows_framed (l3).toNatClampNeg) rows_ring l3 (fun (r5 : Int32) => (vp_in l3 27 ∧ ((q_X5_lay_99 f_rule_lower rows_c rows_w rows_size rows_ring f_rows_framed f_rows_power post (r_X5_lay_21 f_rule_lower post rows_c rows_w rows_size rows_ring f_rows_framed f_rows_power n)) l3 (f_rows_framed (l3).toNatClampNeg) (0 : Int32) (strip_tops ||| r4) (strip_bottoms ||| r5) (upd f_strip_below (l3).toNatClampNeg (0 : Int32)))))))))))
def q_X5_lay_21 (f_rule_lower : Nat → Int32) (post : (Int32) → (Int32) → (Nat → Int32) → (Int32) → (Int32) → (Int32) → (Int32) → (Nat → Int32) → (Nat → Int32) → Prop) (l3 : Int32) (strip_tops : Int32) (strip_bottoms : Int32) (f_strip_below : Nat → Int32) (rows_c : Int32) (rows_w : Int32) (rows_size : Int32) (rows_ring : Int32) (f_rows_framed : Nat → Int32) (f_rows_power : Nat → Int32) : Prop := ∃ n, r_X5_lay_21 f_rule_lower post rows_c rows_w rows_size rows_ring f_rows_framed f_rows_power n l3 strip_tops strip_bottoms f_strip_below
def q_X5_lay (f_rule_lower : Nat → Int32) (strip_tops : Int32) (strip_bottoms : Int32) (f_strip_below : Nat → Int32) (rows_c : Int32) (rows_w : Int32) (rows_size : Int32) (rows_ring : Int32) (f_rows_framed : Nat → Int32) (f_rows_power : Nat → Int32) (l1 : Int32) (l2 : Int32) (post : (Int32) → (Int32) → (Nat → Int32) → (Int32) → (Int32) → (Int32) → (Int32) → (Nat → Int32) → (Nat → Int32) → Prop) : Prop := (q_X2_list rows_c rows_w rows_size rows_ring f_rows_framed f_rows_power l1 l2 (fun (rows_c_1 : Int32) (rows_w_1 : Int32) (rows_size_1 : Int32) (rows_ring_1 : Int32) (f_rows_framed_1 : Nat → Int32) (f_rows_power_1 : Nat → Int32) => ((q_X5_lay_21 f_rule_lower post) (0 : Int32) (0 : Int32) (0 : Int32) f_strip_below rows_c_1 rows_w_1 rows_size_1 rows_ring_1 f_rows_framed_1 f_rows_power_1)))
theorem hdV_X5_lay : yX5_lay.cls = RX5 ∧ yX5_lay.cls ≠ "java/lang/invoke/MethodHandle" ∧ yX5_lay.cls ≠ "java/lang/invoke/VarHandle" ∧ (parseMethodDescriptor yX5_lay.desc).map (fun d => d.parameters.length) = some 2 := by decide +kernel
set_option maxHeartbeats 4000000 in
set_option maxRecDepth 100000 in
theorem c_X5_lay (l : Launch) (dC : Nat → ClassId) (dI : Nat → Nat → Nat) (cI cJ cZ : ClassId) (h_strip h_strip_below h_rows h_rows_framed h_rows_power h_rule h_rule_lower h_strip_chosen h_strip_table h_strip_square h_strip_line h_strip_pushed : Nat) (sz : Nat) (strip_tops : Int32) (strip_bottoms : Int32) (f_strip_below : Nat → Int32) (rows_c : Int32) (rows_w : Int32) (rows_size : Int32) (rows_ring : Int32) (f_rows_framed : Nat → Int32) (f_rows_power : Nat → Int32) (f_rule_lower : Nat → Int32) (l1 : Int32) (l2 : Int32) {post : (Int32) → (Int32) → (Nat → Int32) → (Int32) → (Int32) → (Int32) → (Int32) → (Nat → Int32) → (Nat → Int32) → Prop} (hq : q_X5_lay f_rule_lower strip_tops strip_bottoms f_strip_below rows_c rows_w rows_size rows_ring f_rows_framed f_rows_power l1 l2 post) : Met l yX5_lay wsX5_lay rm_X5_lay (va_Pc [.ref h_strip, .int l1, .int l2] (gx_Pre (dC, dI) vwCl (gx_tys cI cJ cZ) sz (W_X5_lay cI cJ cZ h_strip h_strip_below h_rows h_rows_framed h_rows_power h_rule h_rule_lower h_strip_chosen h_strip_table h_strip_square h_strip_line h_strip_pushed strip_tops strip_bottoms f_strip_below rows_c rows_w rows_size rows_ring f_rows_framed f_rows_power f_rule_lower))) (va_Qv (fun (u : (Int32) × (Int32) × (Nat → Int32) × (Int32) × (Int32) × (Int32) × (Int32) × (Nat → Int32) × (Nat → Int32)) => post u.1 u.2.1 u.2.2.1 u.2.2.2.1 u.2.2.2.2.1 u.2.2.2.2.2.1 u.2.2.2.2.2.2.1 u.2.2.2.2.2.2.2.1 u.2.2.2.2.2.2.2.2) (gx_B (dC, dI) vwCl (gx_tys cI cJ cZ) (va_A (W_X5_lay cI cJ cZ h_strip h_strip_below h_rows h_rows_framed h_rows_power h_rule h_rule_lower h_strip_chosen h_strip_table h_strip_square h_strip_line h_strip_pushed strip_tops strip_bottoms f_strip_below rows_c rows_w rows_size rows_ring f_rows_framed f_rows_power f_rule_lower) sz) (fun (u : (Int32) × (Int32) × (Nat → Int32) × (Int32) × (Int32) × (Int32) × (Int32) × (Nat → Int32) × (Nat → Int32)) => (W_X5_lay cI cJ cZ h_strip h_strip_below h_rows h_rows_framed h_rows_power h_rule h_rule_lower h_strip_chosen h_strip_table h_strip_square h_strip_line h_strip_pushed u.1 u.2.1 u.2.2.1 u.2.2.2.1 u.2.2.2.2.1 u.2.2.2.2.2.1 u.2.2.2.2.2.2.1 u.2.2.2.2.2.2.2.1 u.2.2.2.2.2.2.2.2 f_rule_lower))) (va_A (W_X5_lay cI cJ cZ h_strip h_strip_below h_rows h_rows_framed h_rows_power h_rule h_rule_lower h_strip_chosen h_strip_table h_strip_square h_strip_line h_strip_pushed strip_tops strip_bottoms f_strip_below rows_c rows_w rows_size rows_ring f_rows_framed f_rows_power f_rule_lower) sz)) 0 0 (va_A (W_X5_lay cI cJ cZ h_strip h_strip_below h_rows h_rows_framed h_rows_power h_rule h_rule_lower h_strip_chosen h_strip_table h_strip_square h_strip_line h_strip_pushed strip_tops strip_bottoms f_strip_below rows_c rows_w rows_size rows_ring f_rows_framed f_rows_power f_rule_lower) sz) := by
  refine gx_v (cc := cX5_lay) (maxL := 6) (by decide) rfl (Nat.le_of_ble_eq_true rfl) ?_
  intro p e s m args below meth c A QQ hx hb hml hown hts hA hP hK hD hret ls hl
  have hown : s.vm.findClass RX5 = some m.cls := hown
  have hf42 := hts (.fieldLink RX5 42 "SmallWindows$Strip" "rows" "LSmallWindows$Rows;") (by decide +kernel)
  have hf15 := hts (.fieldLink RX5 15 "SmallWindows$Strip" "tops" "I") (by decide +kernel)
  have hf19 := hts (.fieldLink RX5 19 "SmallWindows$Strip" "bottoms" "I") (by decide +kernel)
  have hf52 := hts (.fieldLink RX5 52 "SmallWindows$Rows" "size" "I") (by decide +kernel)
  have hf55 := hts (.fieldLink RX5 55 "SmallWindows$Rows" "framed" "[I") (by decide +kernel)
  have hf58 := hts (.fieldLink RX5 58 "SmallWindows$Rows" "ring" "I") (by decide +kernel)
  have hf9 := hts (.fieldLink RX5 9 "SmallWindows$Strip" "below" "[I") (by decide +kernel)
  have hinX5 : ∀ w ∈ u_ws RX5 TX5 10, w ∈ wsX5_lay := fun w h => List.mem_cons_of_mem _ ((List.mem_append_left _ (List.mem_append_left _ (List.mem_append_right _ h))))
  have hinX2 : ∀ w ∈ u_ws RX2 TX2 6, w ∈ wsX5_lay := fun w h => List.mem_cons_of_mem _ ((List.mem_append_left _ (List.mem_append_right _ h)))
  have hS : va_S A s.heap s.heap [] := va_S.rf
  have hl : lv_has ls 6 [(0, .ref h_strip), (1, .int l1), (2, .int l2)] := hl
  have L99 : ∀ (rows_c : Int32) (rows_w : Int32) (rows_size : Int32) (rows_ring : Int32) (f_rows_framed : Nat → Int32) (f_rows_power : Nat → Int32) (K144 : (Int32) → (Int32) → (Int32) → (Nat → Int32) → Prop) (hK144 : (∀ (l3 : Int32) (strip_tops : Int32) (strip_bottoms : Int32) (f_strip_below : Nat → Int32), K144 l3 strip_tops strip_bottoms f_strip_below → ∀ (H : Heap) (locs : List Loc), va_P (dC, dI) vwCl (W_X5_lay cI cJ cZ h_strip h_strip_below h_rows h_rows_framed h_rows_power h_rule h_rule_lower h_strip_chosen h_strip_table h_strip_square h_strip_line h_strip_pushed strip_tops strip_bottoms f_strip_below rows_c rows_w rows_size rows_ring f_rows_framed f_rows_power f_rule_lower) H → va_D A (W_X5_lay cI cJ cZ h_strip h_strip_below h_rows h_rows_framed h_rows_power h_rule h_rule_lower h_strip_chosen h_strip_table h_strip_square h_strip_line h_strip_pushed strip_tops strip_bottoms f_strip_below rows_c rows_w rows_size rows_ring f_rows_framed f_rows_power f_rule_lower) → va_S A s.heap H locs → ∀ ls : Array Slot, lv_has ls 6 [(0, .ref h_strip), (3, .int l3)] → W p l e rm_X5_lay s m args below meth c H locs 0 0 QQ (F0 m 144 ls []))) (l3 : Int32) (l4 : Int32) (strip_tops : Int32) (strip_bottoms : Int32) (n : Nat) (l5 : Int32) (f_strip_below : Nat → Int32), r_X5_lay_99 f_rule_lower rows_c rows_w rows_size rows_ring f_rows_framed f_rows_power post K144 l3 l4 strip_tops strip_bottoms n l5 f_strip_below → ∀ (H : Heap) (locs : List Loc), va_P (dC, dI) vwCl (W_X5_lay cI cJ cZ h_strip h_strip_below h_rows h_rows_framed h_rows_power h_rule h_rule_lower h_strip_chosen h_strip_table h_strip_square h_strip_line h_strip_pushed strip_tops strip_bottoms f_strip_below rows_c rows_w rows_size rows_ring f_rows_framed f_rows_power f_rule_lower) H → va_D A (W_X5_lay cI cJ cZ h_strip h_strip_below h_rows h_rows_framed h_rows_power h_rule h_rule_lower h_strip_chosen h_strip_table h_strip_square h_strip_line h_strip_pushed strip_tops strip_bottoms f_strip_below rows_c rows_w rows_size rows_ring f_rows_framed f_rows_power f_rule_lower) → va_S A s.heap H locs → ∀ ls : Array Slot, lv_has ls 6 [(0, .ref h_strip), (3, .int l3), (4, .int l4), (5, .int l5)] → W p l e rm_X5_lay s m args below meth c H locs 0 0 QQ (F0 m 99 ls []) := by
    intro rows_c rows_w rows_size rows_ring f_rows_framed f_rows_power K144 hK144 l3 l4 strip_tops strip_bottoms n
    induction n with
    | zero => intro l5 f_strip_below hq; exact False.elim hq
    | succ n ih =>
      intro l5 f_strip_below hq H locs hP hD hS ls hl
      unfold r_X5_lay_99 at hq
      refine lv_iload hx hb dX5_lay_99 (lv_at hl 3 rfl) ?_
      refine lv_aload_n hx hb dX5_lay_101 rfl (lv_at hl 0 rfl) ?_
      refine va_get (D := (dC, dI)) (ci := 5) (v := .ref h_rows) (C := RX5) (T := TX5) (N := 10) hx hb hts hinX5 hown hK hP 0 rfl rfl 1 (by decide) hf42 (fun _ h9 => h9) rfl dX5_lay_102 ?_
      refine va_get (D := (dC, dI)) (ci := 2) (v := .int rows_size) (C := RX2) (T := TX2) (N := 6) hx hb hts hinX2 hown hK hP 2 rfl rfl 2 (by decide) hf52 (fun _ h9 => h9) rfl dX5_lay_105 ?_
      refine lv_icmp_ge (tgt := 144) hx hb dX5_lay_108 (by decide) (fun c7 => ?_) (fun c7 => ?_)
      · replace hq := hq.1 c7
        exact hK144 _ _ _ _ hq _ _ hP hD hS _ (lv_sub hl [0, 1] rfl)
      · replace hq := hq.2 c7
        refine lv_aload_n hx hb dX5_lay_111 rfl (lv_at hl 0 rfl) ?_
        refine va_get (D := (dC, dI)) (ci := 5) (v := .ref h_strip_below) (C := RX5) (T := TX5) (N := 10) hx hb hts hinX5 hown hK hP 0 rfl rfl 2 (by decide) hf9 (fun _ h9 => h9) rfl dX5_lay_112 ?_
        refine lv_iload_n hx hb dX5_lay_115 rfl (lv_at hl 1 rfl) ?_
        refine lv_dup2_11 hx hb dX5_lay_116 rfl rfl ?_
        obtain ⟨hv8, hq⟩ := hq
        refine va_iald hx hb hK hP 1 0 rfl rfl hv8 dX5_lay_117 ?_
        refine lv_aload_n hx hb dX5_lay_118 rfl (lv_at hl 0 rfl) ?_
        refine lv_iload hx hb dX5_lay_119 (lv_at hl 2 rfl) ?_
        refine lv_aload_n hx hb dX5_lay_121 rfl (lv_at hl 0 rfl) ?_
        refine va_get (D := (dC, dI)) (ci := 5) (v := .ref h_rows) (C := RX5) (T := TX5) (N := 10) hx hb hts hinX5 hown hK hP 0 rfl rfl 1 (by decide) hf42 (fun _ h9 => h9) rfl dX5_lay_122 ?_
        refine va_get (D := (dC, dI)) (ci := 2) (v := .ref h_rows_framed) (C := RX2) (T := TX2) (N := 6) hx hb hts hinX2 hown hK hP 2 rfl rfl 4 (by decide) hf55 (fun _ h9 => h9) rfl dX5_lay_125 ?_
        refine lv_iload hx hb dX5_lay_128 (lv_at hl 3 rfl) ?_
        obtain ⟨hv9, hq⟩ := hq
        refine va_iald hx hb hK hP 3 0 rfl rfl hv9 dX5_lay_130 ?_
        refine lv_iload hx hb dX5_lay_131 (lv_at hl 3 rfl) ?_
        refine gx_cVi (C := RX5) (As := [.int l4, .int (f_rows_framed (l5).toNatClampNeg), .int l5]) (rest := [.int (f_strip_below (l3).toNatClampNeg), .int l3, .ref h_strip_below]) ⟨hx, hb, hml, hown, hts⟩ (c_X5_bit l dC dI cI cJ cZ h_strip h_rows h_rule h_rule_lower h_strip_below h_strip_chosen h_strip_table h_strip_square h_strip_line h_strip_pushed h_rows_framed h_rows_power H.size strip_tops strip_bottoms rows_c rows_w rows_size rows_ring f_rule_lower l4 (f_rows_framed (l5).toNatClampNeg) l5 hq) (cwV 3 hts gX5_lay_X5_bit rfl rfl rfl hdV_X5_bit ⟨Nat.le_of_ble_eq_true rfl, Nat.le_of_ble_eq_true rfl⟩) hK hP hD hS hA [0, 2, 5, 6] [1, 3, 4] rfl rfl rfl rfl rfl (ci := 5) (q0 := 0) rfl rfl rfl rfl hl.1 (Nat.le_of_ble_eq_true rfl) dX5_lay_133 rfl (fun r10 u H locs hq hP hD hS => ?_)
        try dsimp only at hq
        have hP : va_P (dC, dI) vwCl (W_X5_lay cI cJ cZ h_strip h_strip_below h_rows h_rows_framed h_rows_power h_rule h_rule_lower h_strip_chosen h_strip_table h_strip_square h_strip_line h_strip_pushed strip_tops strip_bottoms f_strip_below rows_c rows_w rows_size rows_ring f_rows_framed f_rows_power f_rule_lower) H := hP.sub [3, 0, 4, 1, 2, 5, 6] rfl
        have hD : va_D A (W_X5_lay cI cJ cZ h_strip h_strip_below h_rows h_rows_framed h_rows_power h_rule h_rule_lower h_strip_chosen h_strip_table h_strip_square h_strip_line h_strip_pushed strip_tops strip_bottoms f_strip_below rows_c rows_w rows_size rows_ring f_rows_framed f_rows_power f_rule_lower) := hD.sub [3, 0, 4, 1, 2, 5, 6] (by decide) rfl
        refine lv_ior hx hb dX5_lay_136 ?_
        obtain ⟨hv11, hq⟩ := hq
        refine va_iast hx hb hK hP hD hS 1 0 rfl rfl hv11 dX5_lay_137 (fun H locs hP hD hS => ?_)
        have hP : va_P (dC, dI) vwCl (W_X5_lay cI cJ cZ h_strip h_strip_below h_rows h_rows_framed h_rows_power h_rule h_rule_lower h_strip_chosen h_strip_table h_strip_square h_strip_line h_strip_pushed strip_tops strip_bottoms (upd f_strip_below (l3).toNatClampNeg ((f_strip_below (l3).toNatClampNeg) ||| r10)) rows_c rows_w rows_size rows_ring f_rows_framed f_rows_power f_rule_lower) H := hP
        have hD : va_D A (W_X5_lay cI cJ cZ h_strip h_strip_below h_rows h_rows_framed h_rows_power h_rule h_rule_lower h_strip_chosen h_strip_table h_strip_square h_strip_line h_strip_pushed strip_tops strip_bottoms (upd f_strip_below (l3).toNatClampNeg ((f_strip_below (l3).toNatClampNeg) ||| r10)) rows_c rows_w rows_size rows_ring f_rows_framed f_rows_power f_rule_lower) := hD
        refine lv_iinc (v := (l5 + (1 : Int32))) (lv' := [(5, .int (l5 + (1 : Int32))), (0, .ref h_strip), (3, .int l3), (4, .int l4)]) hx hb dX5_lay_138 hl (k := 3) rfl rfl (by decide) rfl (fun ls hl => ?_)
        refine lv_goto (tgt := 99) hx hb dX5_lay_141 (by decide) ?_
        exact ih _ _ hq _ _ hP hD hS _ (lv_sub hl [1, 2, 3, 0] rfl)
  have C144 : ∀ (rows_c : Int32) (rows_w : Int32) (rows_size : Int32) (rows_ring : Int32) (f_rows_framed : Nat → Int32) (f_rows_power : Nat → Int32) (K21 : (Int32) → (Int32) → (Int32) → (Nat → Int32) → Prop) (hK21 : (∀ (l3 : Int32) (strip_tops : Int32) (strip_bottoms : Int32) (f_strip_below : Nat → Int32), K21 l3 strip_tops strip_bottoms f_strip_below → ∀ (H : Heap) (locs : List Loc), va_P (dC, dI) vwCl (W_X5_lay cI cJ cZ h_strip h_strip_below h_rows h_rows_framed h_rows_power h_rule h_rule_lower h_strip_chosen h_strip_table h_strip_square h_strip_line h_strip_pushed strip_tops strip_bottoms f_strip_below rows_c rows_w rows_size rows_ring f_rows_framed f_rows_power f_rule_lower) H → va_D A (W_X5_lay cI cJ cZ h_strip h_strip_below h_rows h_rows_framed h_rows_power h_rule h_rule_lower h_strip_chosen h_strip_table h_strip_square h_strip_line h_strip_pushed strip_tops strip_bottoms f_strip_below rows_c rows_w rows_size rows_ring f_rows_framed f_rows_power f_rule_lower) → va_S A s.heap H locs → ∀ ls : Array Slot, lv_has ls 6 [(0, .ref h_strip), (3, .int l3)] → W p l e rm_X5_lay s m args below meth c H locs 0 0 QQ (F0 m 21 ls []))) (l3 : Int32) (strip_tops : Int32) (strip_bottoms : Int32) (f_strip_below : Nat → Int32), q_X5_lay_144 f_rule_lower rows_c rows_w rows_size rows_ring f_rows_framed f_rows_power post K21 l3 strip_tops strip_bottoms f_strip_below → ∀ (H : Heap) (locs : List Loc), va_P (dC, dI) vwCl (W_X5_lay cI cJ cZ h_strip h_strip_below h_rows h_rows_framed h_rows_power h_rule h_rule_lower h_strip_chosen h_strip_table h_strip_square h_strip_line h_strip_pushed strip_tops strip_bottoms f_strip_below rows_c rows_w rows_size rows_ring f_rows_framed f_rows_power f_rule_lower) H → va_D A (W_X5_lay cI cJ cZ h_strip h_strip_below h_rows h_rows_framed h_rows_power h_rule h_rule_lower h_strip_chosen h_strip_table h_strip_square h_strip_line h_strip_pushed strip_tops strip_bottoms f_strip_below rows_c rows_w rows_size rows_ring f_rows_framed f_rows_power f_rule_lower) → va_S A s.heap H locs → ∀ ls : Array Slot, lv_has ls 6 [(0, .ref h_strip), (3, .int l3)] → W p l e rm_X5_lay s m args below meth c H locs 0 0 QQ (F0 m 144 ls []) := by
    intro rows_c rows_w rows_size rows_ring f_rows_framed f_rows_power K21 hK21 l3 strip_tops strip_bottoms f_strip_below hq H locs hP hD hS ls hl
    unfold q_X5_lay_144 at hq
    refine lv_iinc (v := (l3 + (1 : Int32))) (lv' := [(3, .int (l3 + (1 : Int32))), (0, .ref h_strip)]) hx hb dX5_lay_144 hl (k := 1) rfl rfl (by decide) rfl (fun ls hl => ?_)
    refine lv_goto (tgt := 21) hx hb dX5_lay_147 (by decide) ?_
    exact hK21 _ _ _ _ hq _ _ hP hD hS _ (lv_sub hl [1, 0] rfl)
  have C99 : ∀ (rows_c : Int32) (rows_w : Int32) (rows_size : Int32) (rows_ring : Int32) (f_rows_framed : Nat → Int32) (f_rows_power : Nat → Int32) (K21 : (Int32) → (Int32) → (Int32) → (Nat → Int32) → Prop) (hK21 : (∀ (l3 : Int32) (strip_tops : Int32) (strip_bottoms : Int32) (f_strip_below : Nat → Int32), K21 l3 strip_tops strip_bottoms f_strip_below → ∀ (H : Heap) (locs : List Loc), va_P (dC, dI) vwCl (W_X5_lay cI cJ cZ h_strip h_strip_below h_rows h_rows_framed h_rows_power h_rule h_rule_lower h_strip_chosen h_strip_table h_strip_square h_strip_line h_strip_pushed strip_tops strip_bottoms f_strip_below rows_c rows_w rows_size rows_ring f_rows_framed f_rows_power f_rule_lower) H → va_D A (W_X5_lay cI cJ cZ h_strip h_strip_below h_rows h_rows_framed h_rows_power h_rule h_rule_lower h_strip_chosen h_strip_table h_strip_square h_strip_line h_strip_pushed strip_tops strip_bottoms f_strip_below rows_c rows_w rows_size rows_ring f_rows_framed f_rows_power f_rule_lower) → va_S A s.heap H locs → ∀ ls : Array Slot, lv_has ls 6 [(0, .ref h_strip), (3, .int l3)] → W p l e rm_X5_lay s m args below meth c H locs 0 0 QQ (F0 m 21 ls []))) (l3 : Int32) (l4 : Int32) (l5 : Int32) (strip_tops : Int32) (strip_bottoms : Int32) (f_strip_below : Nat → Int32), q_X5_lay_99 f_rule_lower rows_c rows_w rows_size rows_ring f_rows_framed f_rows_power post K21 l3 l4 l5 strip_tops strip_bottoms f_strip_below → ∀ (H : Heap) (locs : List Loc), va_P (dC, dI) vwCl (W_X5_lay cI cJ cZ h_strip h_strip_below h_rows h_rows_framed h_rows_power h_rule h_rule_lower h_strip_chosen h_strip_table h_strip_square h_strip_line h_strip_pushed strip_tops strip_bottoms f_strip_below rows_c rows_w rows_size rows_ring f_rows_framed f_rows_power f_rule_lower) H → va_D A (W_X5_lay cI cJ cZ h_strip h_strip_below h_rows h_rows_framed h_rows_power h_rule h_rule_lower h_strip_chosen h_strip_table h_strip_square h_strip_line h_strip_pushed strip_tops strip_bottoms f_strip_below rows_c rows_w rows_size rows_ring f_rows_framed f_rows_power f_rule_lower) → va_S A s.heap H locs → ∀ ls : Array Slot, lv_has ls 6 [(0, .ref h_strip), (3, .int l3), (4, .int l4), (5, .int l5)] → W p l e rm_X5_lay s m args below meth c H locs 0 0 QQ (F0 m 99 ls []) := by
    intro rows_c rows_w rows_size rows_ring f_rows_framed f_rows_power K21 hK21 l3 l4 l5 strip_tops strip_bottoms f_strip_below hq H locs hP hD hS ls hl
    obtain ⟨n, hq⟩ := hq
    exact L99 _ _ _ _ _ _ _ (C144 _ _ _ _ _ _ _ hK21) _ _ _ _ n _ _ hq H locs hP hD hS ls hl
  have L21 : ∀ (rows_c : Int32) (rows_w : Int32) (rows_size : Int32) (rows_ring : Int32) (f_rows_framed : Nat → Int32) (f_rows_power : Nat → Int32) (n : Nat) (l3 : Int32) (strip_tops : Int32) (strip_bottoms : Int32) (f_strip_below : Nat → Int32), r_X5_lay_21 f_rule_lower post rows_c rows_w rows_size rows_ring f_rows_framed f_rows_power n l3 strip_tops strip_bottoms f_strip_below → ∀ (H : Heap) (locs : List Loc), va_P (dC, dI) vwCl (W_X5_lay cI cJ cZ h_strip h_strip_below h_rows h_rows_framed h_rows_power h_rule h_rule_lower h_strip_chosen h_strip_table h_strip_square h_strip_line h_strip_pushed strip_tops strip_bottoms f_strip_below rows_c rows_w rows_size rows_ring f_rows_framed f_rows_power f_rule_lower) H → va_D A (W_X5_lay cI cJ cZ h_strip h_strip_below h_rows h_rows_framed h_rows_power h_rule h_rule_lower h_strip_chosen h_strip_table h_strip_square h_strip_line h_strip_pushed strip_tops strip_bottoms f_strip_below rows_c rows_w rows_size rows_ring f_rows_framed f_rows_power f_rule_lower) → va_S A s.heap H locs → ∀ ls : Array Slot, lv_has ls 6 [(0, .ref h_strip), (3, .int l3)] → W p l e rm_X5_lay s m args below meth c H locs 0 0 QQ (F0 m 21 ls []) := by
    intro rows_c rows_w rows_size rows_ring f_rows_framed f_rows_power n
    induction n with
    | zero => intro l3 strip_tops strip_bottoms f_strip_below hq; exact False.elim hq
    | succ n ih =>
      intro l3 strip_tops strip_bottoms f_strip_below hq H locs hP hD hS ls hl
      unfold r_X5_lay_21 at hq
      refine lv_iload_n hx hb dX5_lay_21 rfl (lv_at hl 1 rfl) ?_
      refine lv_aload_n hx hb dX5_lay_22 rfl (lv_at hl 0 rfl) ?_
      refine va_get (D := (dC, dI)) (ci := 5) (v := .ref h_rows) (C := RX5) (T := TX5) (N := 10) hx hb hts hinX5 hown hK hP 0 rfl rfl 1 (by decide) hf42 (fun _ h9 => h9) rfl dX5_lay_23 ?_
      refine va_get (D := (dC, dI)) (ci := 2) (v := .int rows_size) (C := RX2) (T := TX2) (N := 6) hx hb hts hinX2 hown hK hP 2 rfl rfl 2 (by decide) hf52 (fun _ h9 => h9) rfl dX5_lay_26 ?_
      refine lv_icmp_ge (tgt := 150) hx hb dX5_lay_29 (by decide) (fun c2 => ?_) (fun c2 => ?_)
      · replace hq := hq.1 c2
        exact hret (strip_tops, strip_bottoms, f_strip_below, rows_c, rows_w, rows_size, rows_ring, f_rows_framed, f_rows_power) hq _ _ hP hD hS _ _ dX5_lay_150
      · replace hq := hq.2 c2
        refine lv_aload_n hx hb dX5_lay_32 rfl (lv_at hl 0 rfl) ?_
        refine va_get (D := (dC, dI)) (ci := 5) (v := .ref h_rows) (C := RX5) (T := TX5) (N := 10) hx hb hts hinX5 hown hK hP 0 rfl rfl 1 (by decide) hf42 (fun _ h9 => h9) rfl dX5_lay_33 ?_
        refine va_get (D := (dC, dI)) (ci := 2) (v := .ref h_rows_framed) (C := RX2) (T := TX2) (N := 6) hx hb hts hinX2 hown hK hP 2 rfl rfl 4 (by decide) hf55 (fun _ h9 => h9) rfl dX5_lay_36 ?_
        refine lv_iload_n hx hb dX5_lay_39 rfl (lv_at hl 1 rfl) ?_
        obtain ⟨hv3, hq⟩ := hq
        refine va_iald hx hb hK hP 3 0 rfl rfl hv3 dX5_lay_40 ?_
        refine lv_istore (lv' := [(4, .int (f_rows_framed (l3).toNatClampNeg)), (0, .ref h_strip), (3, .int l3)]) hx hb dX5_lay_41 hl (by decide) rfl (fun ls hl => ?_)
        refine lv_aload_n hx hb dX5_lay_43 rfl (lv_at hl 1 rfl) ?_
        refine lv_dup hx hb dX5_lay_44 rfl ?_
        refine va_get (D := (dC, dI)) (ci := 5) (v := .int strip_tops) (C := RX5) (T := TX5) (N := 10) hx hb hts hinX5 hown hK hP 0 rfl rfl 3 (by decide) hf15 (fun _ h9 => h9) rfl dX5_lay_45 ?_
        refine lv_aload_n hx hb dX5_lay_48 rfl (lv_at hl 1 rfl) ?_
        refine lv_aload_n hx hb dX5_lay_49 rfl (lv_at hl 1 rfl) ?_
        refine va_get (D := (dC, dI)) (ci := 5) (v := .ref h_rows) (C := RX5) (T := TX5) (N := 10) hx hb hts hinX5 hown hK hP 0 rfl rfl 1 (by decide) hf42 (fun _ h9 => h9) rfl dX5_lay_50 ?_
        refine va_get (D := (dC, dI)) (ci := 2) (v := .int rows_ring) (C := RX2) (T := TX2) (N := 6) hx hb hts hinX2 hown hK hP 2 rfl rfl 3 (by decide) hf58 (fun _ h9 => h9) rfl dX5_lay_53 ?_
        refine lv_iload hx hb dX5_lay_56 (lv_at hl 0 rfl) ?_
        refine lv_iload_n hx hb dX5_lay_58 rfl (lv_at hl 2 rfl) ?_
        refine gx_cVi (C := RX5) (As := [.int rows_ring, .int (f_rows_framed (l3).toNatClampNeg), .int l3]) (rest := [.int strip_tops, .ref h_strip]) ⟨hx, hb, hml, hown, hts⟩ (c_X5_bit l dC dI cI cJ cZ h_strip h_rows h_rule h_rule_lower h_strip_below h_strip_chosen h_strip_table h_strip_square h_strip_line h_strip_pushed h_rows_framed h_rows_power H.size strip_tops strip_bottoms rows_c rows_w rows_size rows_ring f_rule_lower rows_ring (f_rows_framed (l3).toNatClampNeg) l3 hq) (cwV 3 hts gX5_lay_X5_bit rfl rfl rfl hdV_X5_bit ⟨Nat.le_of_ble_eq_true rfl, Nat.le_of_ble_eq_true rfl⟩) hK hP hD hS hA [0, 2, 5, 6] [1, 3, 4] rfl rfl rfl rfl rfl (ci := 5) (q0 := 0) rfl rfl rfl rfl hl.1 (Nat.le_of_ble_eq_true rfl) dX5_lay_59 rfl (fun r4 u H locs hq hP hD hS => ?_)
        try dsimp only at hq
        have hP : va_P (dC, dI) vwCl (W_X5_lay cI cJ cZ h_strip h_strip_below h_rows h_rows_framed h_rows_power h_rule h_rule_lower h_strip_chosen h_strip_table h_strip_square h_strip_line h_strip_pushed strip_tops strip_bottoms f_strip_below rows_c rows_w rows_size rows_ring f_rows_framed f_rows_power f_rule_lower) H := hP.sub [3, 0, 4, 1, 2, 5, 6] rfl
        have hD : va_D A (W_X5_lay cI cJ cZ h_strip h_strip_below h_rows h_rows_framed h_rows_power h_rule h_rule_lower h_strip_chosen h_strip_table h_strip_square h_strip_line h_strip_pushed strip_tops strip_bottoms f_strip_below rows_c rows_w rows_size rows_ring f_rows_framed f_rows_power f_rule_lower) := hD.sub [3, 0, 4, 1, 2, 5, 6] (by decide) rfl
        refine lv_ior hx hb dX5_lay_62 ?_
        refine va_put (D := (dC, dI)) (ci := 5) (v := .int (strip_tops ||| r4)) (ty := tyX5 3) (C := RX5) (T := TX5) (N := 10) hx hb hts hinX5 tyX5 tyX5_ok nmX5 hown hK hP hD hS 0 rfl rfl 3 (by decide) hf15 (fun _ h9 => h9) rfl (tyX5_ok 3 (by decide)) rfl rfl (Nat.le_of_ble_eq_true rfl) dX5_lay_63 (fun H locs hP hD hS => ?_)
        have hP : va_P (dC, dI) vwCl (W_X5_lay cI cJ cZ h_strip h_strip_below h_rows h_rows_framed h_rows_power h_rule h_rule_lower h_strip_chosen h_strip_table h_strip_square h_strip_line h_strip_pushed (strip_tops ||| r4) strip_bottoms f_strip_below rows_c rows_w rows_size rows_ring f_rows_framed f_rows_power f_rule_lower) H := hP
        have hD : va_D A (W_X5_lay cI cJ cZ h_strip h_strip_below h_rows h_rows_framed h_rows_power h_rule h_rule_lower h_strip_chosen h_strip_table h_strip_square h_strip_line h_strip_pushed (strip_tops ||| r4) strip_bottoms f_strip_below rows_c rows_w rows_size rows_ring f_rows_framed f_rows_power f_rule_lower) := hD
        refine lv_aload_n hx hb dX5_lay_66 rfl (lv_at hl 1 rfl) ?_
        refine lv_dup hx hb dX5_lay_67 rfl ?_
        refine va_get (D := (dC, dI)) (ci := 5) (v := .int strip_bottoms) (C := RX5) (T := TX5) (N := 10) hx hb hts hinX5 hown hK hP 0 rfl rfl 4 (by decide) hf19 (fun _ h9 => h9) rfl dX5_lay_68 ?_
        refine lv_aload_n hx hb dX5_lay_71 rfl (lv_at hl 1 rfl) ?_
        refine lv_iload hx hb dX5_lay_72 (lv_at hl 0 rfl) ?_
        refine lv_aload_n hx hb dX5_lay_74 rfl (lv_at hl 1 rfl) ?_
        refine va_get (D := (dC, dI)) (ci := 5) (v := .ref h_rows) (C := RX5) (T := TX5) (N := 10) hx hb hts hinX5 hown hK hP 0 rfl rfl 1 (by decide) hf42 (fun _ h9 => h9) rfl dX5_lay_75 ?_
        refine va_get (D := (dC, dI)) (ci := 2) (v := .int rows_ring) (C := RX2) (T := TX2) (N := 6) hx hb hts hinX2 hown hK hP 2 rfl rfl 3 (by decide) hf58 (fun _ h9 => h9) rfl dX5_lay_78 ?_
        refine lv_iload_n hx hb dX5_lay_81 rfl (lv_at hl 2 rfl) ?_
        refine gx_cVi (C := RX5) (As := [.int (f_rows_framed (l3).toNatClampNeg), .int rows_ring, .int l3]) (rest := [.int strip_bottoms, .ref h_strip]) ⟨hx, hb, hml, hown, hts⟩ (c_X5_bit l dC dI cI cJ cZ h_strip h_rows h_rule h_rule_lower h_strip_below h_strip_chosen h_strip_table h_strip_square h_strip_line h_strip_pushed h_rows_framed h_rows_power H.size (strip_tops ||| r4) strip_bottoms rows_c rows_w rows_size rows_ring f_rule_lower (f_rows_framed (l3).toNatClampNeg) rows_ring l3 hq) (cwV 3 hts gX5_lay_X5_bit rfl rfl rfl hdV_X5_bit ⟨Nat.le_of_ble_eq_true rfl, Nat.le_of_ble_eq_true rfl⟩) hK hP hD hS hA [0, 2, 5, 6] [1, 3, 4] rfl rfl rfl rfl rfl (ci := 5) (q0 := 0) rfl rfl rfl rfl hl.1 (Nat.le_of_ble_eq_true rfl) dX5_lay_82 rfl (fun r5 u H locs hq hP hD hS => ?_)
        try dsimp only at hq
        have hP : va_P (dC, dI) vwCl (W_X5_lay cI cJ cZ h_strip h_strip_below h_rows h_rows_framed h_rows_power h_rule h_rule_lower h_strip_chosen h_strip_table h_strip_square h_strip_line h_strip_pushed (strip_tops ||| r4) strip_bottoms f_strip_below rows_c rows_w rows_size rows_ring f_rows_framed f_rows_power f_rule_lower) H := hP.sub [3, 0, 4, 1, 2, 5, 6] rfl
        have hD : va_D A (W_X5_lay cI cJ cZ h_strip h_strip_below h_rows h_rows_framed h_rows_power h_rule h_rule_lower h_strip_chosen h_strip_table h_strip_square h_strip_line h_strip_pushed (strip_tops ||| r4) strip_bottoms f_strip_below rows_c rows_w rows_size rows_ring f_rows_framed f_rows_power f_rule_lower) := hD.sub [3, 0, 4, 1, 2, 5, 6] (by decide) rfl
        refine lv_ior hx hb dX5_lay_85 ?_
        refine va_put (D := (dC, dI)) (ci := 5) (v := .int (strip_bottoms ||| r5)) (ty := tyX5 4) (C := RX5) (T := TX5) (N := 10) hx hb hts hinX5 tyX5 tyX5_ok nmX5 hown hK hP hD hS 0 rfl rfl 4 (by decide) hf19 (fun _ h9 => h9) rfl (tyX5_ok 4 (by decide)) rfl rfl (Nat.le_of_ble_eq_true rfl) dX5_lay_86 (fun H locs hP hD hS => ?_)
        have hP : va_P (dC, dI) vwCl (W_X5_lay cI cJ cZ h_strip h_strip_below h_rows h_rows_framed h_rows_power h_rule h_rule_lower h_strip_chosen h_strip_table h_strip_square h_strip_line h_strip_pushed (strip_tops ||| r4) (strip_bottoms ||| r5) f_strip_below rows_c rows_w rows_size rows_ring f_rows_framed f_rows_power f_rule_lower) H := hP
        have hD : va_D A (W_X5_lay cI cJ cZ h_strip h_strip_below h_rows h_rows_framed h_rows_power h_rule h_rule_lower h_strip_chosen h_strip_table h_strip_square h_strip_line h_strip_pushed (strip_tops ||| r4) (strip_bottoms ||| r5) f_strip_below rows_c rows_w rows_size rows_ring f_rows_framed f_rows_power f_rule_lower) := hD
        refine lv_aload_n hx hb dX5_lay_89 rfl (lv_at hl 1 rfl) ?_
        refine va_get (D := (dC, dI)) (ci := 5) (v := .ref h_strip_below) (C := RX5) (T := TX5) (N := 10) hx hb hts hinX5 hown hK hP 0 rfl rfl 2 (by decide) hf9 (fun _ h9 => h9) rfl dX5_lay_90 ?_
        refine lv_iload_n hx hb dX5_lay_93 rfl (lv_at hl 2 rfl) ?_
        refine lv_iconst (v := (0 : Int32)) hx hb dX5_lay_94 (by decide) ?_
        obtain ⟨hv6, hq⟩ := hq
        refine va_iast hx hb hK hP hD hS 1 0 rfl rfl hv6 dX5_lay_95 (fun H locs hP hD hS => ?_)
        have hP : va_P (dC, dI) vwCl (W_X5_lay cI cJ cZ h_strip h_strip_below h_rows h_rows_framed h_rows_power h_rule h_rule_lower h_strip_chosen h_strip_table h_strip_square h_strip_line h_strip_pushed (strip_tops ||| r4) (strip_bottoms ||| r5) (upd f_strip_below (l3).toNatClampNeg (0 : Int32)) rows_c rows_w rows_size rows_ring f_rows_framed f_rows_power f_rule_lower) H := hP
        have hD : va_D A (W_X5_lay cI cJ cZ h_strip h_strip_below h_rows h_rows_framed h_rows_power h_rule h_rule_lower h_strip_chosen h_strip_table h_strip_square h_strip_line h_strip_pushed (strip_tops ||| r4) (strip_bottoms ||| r5) (upd f_strip_below (l3).toNatClampNeg (0 : Int32)) rows_c rows_w rows_size rows_ring f_rows_framed f_rows_power f_rule_lower) := hD
        refine lv_iconst (v := (0 : Int32)) hx hb dX5_lay_96 (by decide) ?_
        refine lv_istore (lv' := [(5, .int (0 : Int32)), (4, .int (f_rows_framed (l3).toNatClampNeg)), (0, .ref h_strip), (3, .int l3)]) hx hb dX5_lay_97 hl (by decide) rfl (fun ls hl => ?_)
        exact (C99 _ _ _ _ _ _ _ ih) _ _ _ _ _ _ hq _ _ hP hD hS _ (lv_sub hl [2, 3, 1, 0] rfl)
  have C21 : ∀ (l3 : Int32) (strip_tops : Int32) (strip_bottoms : Int32) (f_strip_below : Nat → Int32) (rows_c : Int32) (rows_w : Int32) (rows_size : Int32) (rows_ring : Int32) (f_rows_framed : Nat → Int32) (f_rows_power : Nat → Int32), q_X5_lay_21 f_rule_lower post l3 strip_tops strip_bottoms f_strip_below rows_c rows_w rows_size rows_ring f_rows_framed f_rows_power → ∀ (H : Heap) (locs : List Loc), va_P (dC, dI) vwCl (W_X5_lay cI cJ cZ h_strip h_strip_below h_rows h_rows_framed h_rows_power h_rule h_rule_lower h_strip_chosen h_strip_table h_strip_square h_strip_line h_strip_pushed strip_tops strip_bottoms f_strip_below rows_c rows_w rows_size rows_ring f_rows_framed f_rows_power f_rule_lower) H → va_D A (W_X5_lay cI cJ cZ h_strip h_strip_below h_rows h_rows_framed h_rows_power h_rule h_rule_lower h_strip_chosen h_strip_table h_strip_square h_strip_line h_strip_pushed strip_tops strip_bottoms f_strip_below rows_c rows_w rows_size rows_ring f_rows_framed f_rows_power f_rule_lower) → va_S A s.heap H locs → ∀ ls : Array Slot, lv_has ls 6 [(0, .ref h_strip), (3, .int l3)] → W p l e rm_X5_lay s m args below meth c H locs 0 0 QQ (F0 m 21 ls []) := by
    intro l3 strip_tops strip_bottoms f_strip_below rows_c rows_w rows_size rows_ring f_rows_framed f_rows_power hq H locs hP hD hS ls hl
    obtain ⟨n, hq⟩ := hq
    exact L21 _ _ _ _ _ _ n _ _ _ _ hq H locs hP hD hS ls hl
  unfold q_X5_lay at hq
  refine lv_aload_n hx hb dX5_lay_0 rfl (lv_at hl 0 rfl) ?_
  refine va_get (D := (dC, dI)) (ci := 5) (v := .ref h_rows) (C := RX5) (T := TX5) (N := 10) hx hb hts hinX5 hown hK hP 0 rfl rfl 1 (by decide) hf42 (fun _ h9 => h9) rfl dX5_lay_1 ?_
  refine lv_iload_n hx hb dX5_lay_4 rfl (lv_at hl 1 rfl) ?_
  refine lv_iload_n hx hb dX5_lay_5 rfl (lv_at hl 2 rfl) ?_
  refine gx_cVv (C := RX2) (As := [.int l1, .int l2]) (rest := []) ⟨hx, hb, hml, hown, hts⟩ (c_X2_list l dC dI cI cJ cZ h_rows h_rows_framed h_rows_power s.heap.size rows_c rows_w rows_size rows_ring f_rows_framed f_rows_power l1 l2 hq) (cwV 2 hts gX5_lay_X2_list rfl rfl rfl hdV_X2_list ⟨Nat.le_of_ble_eq_true rfl, Nat.le_of_ble_eq_true rfl⟩) hK hP hD hS hA [2, 3, 4] [0, 1, 5, 6] rfl rfl rfl rfl rfl (ci := 2) (q0 := 0) rfl rfl rfl rfl hl.1 (Nat.le_of_ble_eq_true rfl) dX5_lay_6 rfl (fun u H locs hq hP hD hS => ?_)
  obtain ⟨rows_c_1, rows_w_1, rows_size_1, rows_ring_1, f_rows_framed_1, f_rows_power_1⟩ := u
  try dsimp only at hq
  have hP : va_P (dC, dI) vwCl (W_X5_lay cI cJ cZ h_strip h_strip_below h_rows h_rows_framed h_rows_power h_rule h_rule_lower h_strip_chosen h_strip_table h_strip_square h_strip_line h_strip_pushed strip_tops strip_bottoms f_strip_below rows_c_1 rows_w_1 rows_size_1 rows_ring_1 f_rows_framed_1 f_rows_power_1 f_rule_lower) H := hP.sub [0, 1, 4, 5, 6, 2, 3] rfl
  have hD : va_D A (W_X5_lay cI cJ cZ h_strip h_strip_below h_rows h_rows_framed h_rows_power h_rule h_rule_lower h_strip_chosen h_strip_table h_strip_square h_strip_line h_strip_pushed strip_tops strip_bottoms f_strip_below rows_c_1 rows_w_1 rows_size_1 rows_ring_1 f_rows_framed_1 f_rows_power_1 f_rule_lower) := hD.sub [0, 1, 4, 5, 6, 2, 3] (by decide) rfl
  refine lv_aload_n hx hb dX5_lay_9 rfl (lv_at hl 0 rfl) ?_
  refine lv_iconst (v := (0 : Int32)) hx hb dX5_lay_10 (by decide) ?_
  refine va_put (D := (dC, dI)) (ci := 5) (v := .int (0 : Int32)) (ty := tyX5 3) (C := RX5) (T := TX5) (N := 10) hx hb hts hinX5 tyX5 tyX5_ok nmX5 hown hK hP hD hS 0 rfl rfl 3 (by decide) hf15 (fun _ h9 => h9) rfl (tyX5_ok 3 (by decide)) rfl rfl (Nat.le_of_ble_eq_true rfl) dX5_lay_11 (fun H locs hP hD hS => ?_)
  have hP : va_P (dC, dI) vwCl (W_X5_lay cI cJ cZ h_strip h_strip_below h_rows h_rows_framed h_rows_power h_rule h_rule_lower h_strip_chosen h_strip_table h_strip_square h_strip_line h_strip_pushed (0 : Int32) strip_bottoms f_strip_below rows_c_1 rows_w_1 rows_size_1 rows_ring_1 f_rows_framed_1 f_rows_power_1 f_rule_lower) H := hP
  have hD : va_D A (W_X5_lay cI cJ cZ h_strip h_strip_below h_rows h_rows_framed h_rows_power h_rule h_rule_lower h_strip_chosen h_strip_table h_strip_square h_strip_line h_strip_pushed (0 : Int32) strip_bottoms f_strip_below rows_c_1 rows_w_1 rows_size_1 rows_ring_1 f_rows_framed_1 f_rows_power_1 f_rule_lower) := hD
  refine lv_aload_n hx hb dX5_lay_14 rfl (lv_at hl 0 rfl) ?_
  refine lv_iconst (v := (0 : Int32)) hx hb dX5_lay_15 (by decide) ?_
  refine va_put (D := (dC, dI)) (ci := 5) (v := .int (0 : Int32)) (ty := tyX5 4) (C := RX5) (T := TX5) (N := 10) hx hb hts hinX5 tyX5 tyX5_ok nmX5 hown hK hP hD hS 0 rfl rfl 4 (by decide) hf19 (fun _ h9 => h9) rfl (tyX5_ok 4 (by decide)) rfl rfl (Nat.le_of_ble_eq_true rfl) dX5_lay_16 (fun H locs hP hD hS => ?_)
  have hP : va_P (dC, dI) vwCl (W_X5_lay cI cJ cZ h_strip h_strip_below h_rows h_rows_framed h_rows_power h_rule h_rule_lower h_strip_chosen h_strip_table h_strip_square h_strip_line h_strip_pushed (0 : Int32) (0 : Int32) f_strip_below rows_c_1 rows_w_1 rows_size_1 rows_ring_1 f_rows_framed_1 f_rows_power_1 f_rule_lower) H := hP
  have hD : va_D A (W_X5_lay cI cJ cZ h_strip h_strip_below h_rows h_rows_framed h_rows_power h_rule h_rule_lower h_strip_chosen h_strip_table h_strip_square h_strip_line h_strip_pushed (0 : Int32) (0 : Int32) f_strip_below rows_c_1 rows_w_1 rows_size_1 rows_ring_1 f_rows_framed_1 f_rows_power_1 f_rule_lower) := hD
  refine lv_iconst (v := (0 : Int32)) hx hb dX5_lay_19 (by decide) ?_
  refine lv_istore_n (lv' := [(3, .int (0 : Int32)), (0, .ref h_strip), (1, .int l1), (2, .int l2)]) hx hb dX5_lay_20 rfl hl (by decide) rfl (fun ls hl => ?_)
  exact C21 _ _ _ _ _ _ _ _ _ _ hq _ _ hP hD hS _ (lv_sub hl [1, 0] rfl)

abbrev W_X5_after (cI cJ cZ : ClassId) (h_strip h_strip_below h_rows h_rule h_strip_chosen h_strip_table h_strip_square h_strip_line h_strip_pushed h_rows_framed h_rows_power : Nat) (strip_tops : Int32) (strip_bottoms : Int32) (f_strip_below : Nat → Int32) (rows_c : Int32) (rows_w : Int32) (rows_size : Int32) (rows_ring : Int32) : va_W := [(h_strip, .inr (5, [.ref h_rule, .ref h_rows, .ref h_strip_below, .int strip_tops, .int strip_bottoms, .ref h_strip_chosen, .ref h_strip_table, .ref h_strip_square, .ref h_strip_line, .ref h_strip_pushed])), (h_strip_below, .inl (cI, 27, .inl f_strip_below)), (h_rows, .inr (2, [.int rows_c, .int rows_w, .int rows_size, .int rows_ring, .ref h_rows_framed, .ref h_rows_power]))]
abbrev rm_X5_after : Room := { frames := 0, cells := 0, slots := 0, locals := 0 }
def r_X5_after_4 (f_strip_below : Nat → Int32) (rows_size : Int32) (post : Int32 → Prop) (l1 : Int32) : Nat → (Int32) → (Int32) → Prop
  | 0, _, _ => False
  | n + 1, l2, l3 => ((rows_size ≤ l3 → (post l2)) ∧ (¬ rows_size ≤ l3 → ((((l1 >>> (l3 &&& 31)) &&& (1 : Int32)) = 0 → ((r_X5_after_4 f_strip_below rows_size post l1 n) l2 (l3 + (1 : Int32)))) ∧ (¬ ((l1 >>> (l3 &&& 31)) &&& (1 : Int32)) = 0 → (vp_in l3 27 ∧ ((r_X5_after_4 f_strip_below rows_size post l1 n) (l2 ||| (f_strip_below (l3).toNatClampNeg)) (l3 + (1 : Int32))))))))
def q_X5_after_4 (f_strip_below : Nat → Int32) (rows_size : Int32) (post : Int32 → Prop) (l1 : Int32) (l2 : Int32) (l3 : Int32) : Prop := ∃ n, r_X5_after_4 f_strip_below rows_size post l1 n l2 l3
def q_X5_after (f_strip_below : Nat → Int32) (rows_size : Int32) (l1 : Int32) (post : Int32 → Prop) : Prop := ((q_X5_after_4 f_strip_below rows_size post) l1 (0 : Int32) (0 : Int32))
theorem hdV_X5_after : yX5_after.cls = RX5 ∧ yX5_after.cls ≠ "java/lang/invoke/MethodHandle" ∧ yX5_after.cls ≠ "java/lang/invoke/VarHandle" ∧ (parseMethodDescriptor yX5_after.desc).map (fun d => d.parameters.length) = some 1 := by decide +kernel
set_option maxHeartbeats 4000000 in
set_option maxRecDepth 100000 in
theorem c_X5_after (l : Launch) (dC : Nat → ClassId) (dI : Nat → Nat → Nat) (cI cJ cZ : ClassId) (h_strip h_strip_below h_rows h_rule h_strip_chosen h_strip_table h_strip_square h_strip_line h_strip_pushed h_rows_framed h_rows_power : Nat) (sz : Nat) (strip_tops : Int32) (strip_bottoms : Int32) (f_strip_below : Nat → Int32) (rows_c : Int32) (rows_w : Int32) (rows_size : Int32) (rows_ring : Int32) (l1 : Int32) {post : Int32 → Prop} (hq : q_X5_after f_strip_below rows_size l1 post) : Met l yX5_after wsX5_after rm_X5_after (va_Pc [.ref h_strip, .int l1] (gx_Pre (dC, dI) vwCl (gx_tys cI cJ cZ) sz (W_X5_after cI cJ cZ h_strip h_strip_below h_rows h_rule h_strip_chosen h_strip_table h_strip_square h_strip_line h_strip_pushed h_rows_framed h_rows_power strip_tops strip_bottoms f_strip_below rows_c rows_w rows_size rows_ring))) (va_Qi (fun (r : Int32) (u : Unit) => post r) (gx_B (dC, dI) vwCl (gx_tys cI cJ cZ) (va_A (W_X5_after cI cJ cZ h_strip h_strip_below h_rows h_rule h_strip_chosen h_strip_table h_strip_square h_strip_line h_strip_pushed h_rows_framed h_rows_power strip_tops strip_bottoms f_strip_below rows_c rows_w rows_size rows_ring) sz) (fun (u : Unit) => (W_X5_after cI cJ cZ h_strip h_strip_below h_rows h_rule h_strip_chosen h_strip_table h_strip_square h_strip_line h_strip_pushed h_rows_framed h_rows_power strip_tops strip_bottoms f_strip_below rows_c rows_w rows_size rows_ring))) (va_A (W_X5_after cI cJ cZ h_strip h_strip_below h_rows h_rule h_strip_chosen h_strip_table h_strip_square h_strip_line h_strip_pushed h_rows_framed h_rows_power strip_tops strip_bottoms f_strip_below rows_c rows_w rows_size rows_ring) sz)) 0 0 (va_A (W_X5_after cI cJ cZ h_strip h_strip_below h_rows h_rule h_strip_chosen h_strip_table h_strip_square h_strip_line h_strip_pushed h_rows_framed h_rows_power strip_tops strip_bottoms f_strip_below rows_c rows_w rows_size rows_ring) sz) := by
  refine gx_i (cc := cX5_after) (maxL := 4) (by decide) rfl (Nat.le_of_ble_eq_true rfl) ?_
  intro p e s m args below meth c A QQ hx hb hml hown hts hA hP hK hD hret ls hl
  have hown : s.vm.findClass RX5 = some m.cls := hown
  have hf42 := hts (.fieldLink RX5 42 "SmallWindows$Strip" "rows" "LSmallWindows$Rows;") (by decide +kernel)
  have hf52 := hts (.fieldLink RX5 52 "SmallWindows$Rows" "size" "I") (by decide +kernel)
  have hf9 := hts (.fieldLink RX5 9 "SmallWindows$Strip" "below" "[I") (by decide +kernel)
  have hinX5 : ∀ w ∈ u_ws RX5 TX5 10, w ∈ wsX5_after := fun w h => List.mem_cons_of_mem _ ((List.mem_append_left _ (List.mem_append_right _ h)))
  have hinX2 : ∀ w ∈ u_ws RX2 TX2 6, w ∈ wsX5_after := fun w h => List.mem_cons_of_mem _ ((List.mem_append_right _ h))
  have hS : va_S A s.heap s.heap [] := va_S.rf
  have hl : lv_has ls 4 [(0, .ref h_strip), (1, .int l1)] := hl
  have L4 : ∀ (l1 : Int32) (n : Nat) (l2 : Int32) (l3 : Int32), r_X5_after_4 f_strip_below rows_size post l1 n l2 l3 → ∀ (H : Heap) (locs : List Loc), va_P (dC, dI) vwCl (W_X5_after cI cJ cZ h_strip h_strip_below h_rows h_rule h_strip_chosen h_strip_table h_strip_square h_strip_line h_strip_pushed h_rows_framed h_rows_power strip_tops strip_bottoms f_strip_below rows_c rows_w rows_size rows_ring) H → va_D A (W_X5_after cI cJ cZ h_strip h_strip_below h_rows h_rule h_strip_chosen h_strip_table h_strip_square h_strip_line h_strip_pushed h_rows_framed h_rows_power strip_tops strip_bottoms f_strip_below rows_c rows_w rows_size rows_ring) → va_S A s.heap H locs → ∀ ls : Array Slot, lv_has ls 4 [(0, .ref h_strip), (1, .int l1), (2, .int l2), (3, .int l3)] → W p l e rm_X5_after s m args below meth c H locs 0 0 QQ (F0 m 4 ls []) := by
    intro l1 n
    induction n with
    | zero => intro l2 l3 hq; exact False.elim hq
    | succ n ih =>
      intro l2 l3 hq H locs hP hD hS ls hl
      unfold r_X5_after_4 at hq
      refine lv_iload_n hx hb dX5_after_4 rfl (lv_at hl 3 rfl) ?_
      refine lv_aload_n hx hb dX5_after_5 rfl (lv_at hl 0 rfl) ?_
      refine va_get (D := (dC, dI)) (ci := 5) (v := .ref h_rows) (C := RX5) (T := TX5) (N := 10) hx hb hts hinX5 hown hK hP 0 rfl rfl 1 (by decide) hf42 (fun _ h9 => h9) rfl dX5_after_6 ?_
      refine va_get (D := (dC, dI)) (ci := 2) (v := .int rows_size) (C := RX2) (T := TX2) (N := 6) hx hb hts hinX2 hown hK hP 2 rfl rfl 2 (by decide) hf52 (fun _ h9 => h9) rfl dX5_after_9 ?_
      refine lv_icmp_ge (tgt := 38) hx hb dX5_after_12 (by decide) (fun c1 => ?_) (fun c1 => ?_)
      · replace hq := hq.1 c1
        refine lv_iload_n hx hb dX5_after_38 rfl (lv_at hl 2 rfl) ?_
        exact hret l2 () hq _ _ hP hD hS _ _ dX5_after_39
      · replace hq := hq.2 c1
        refine lv_iload_n hx hb dX5_after_15 rfl (lv_at hl 1 rfl) ?_
        refine lv_iload_n hx hb dX5_after_16 rfl (lv_at hl 3 rfl) ?_
        refine lv_ishr hx hb dX5_after_17 ?_
        refine lv_iconst (v := (1 : Int32)) hx hb dX5_after_18 (by decide) ?_
        refine lv_iand hx hb dX5_after_19 ?_
        refine lv_if_eq (tgt := 32) hx hb dX5_after_20 (by decide) (fun c2 => ?_) (fun c2 => ?_)
        · replace hq := hq.1 c2
          refine lv_iinc (v := (l3 + (1 : Int32))) (lv' := [(3, .int (l3 + (1 : Int32))), (0, .ref h_strip), (1, .int l1), (2, .int l2)]) hx hb dX5_after_32 hl (k := 3) rfl rfl (by decide) rfl (fun ls hl => ?_)
          refine lv_goto (tgt := 4) hx hb dX5_after_35 (by decide) ?_
          exact ih _ _ hq _ _ hP hD hS _ (lv_sub hl [1, 2, 3, 0] rfl)
        · replace hq := hq.2 c2
          refine lv_iload_n hx hb dX5_after_23 rfl (lv_at hl 2 rfl) ?_
          refine lv_aload_n hx hb dX5_after_24 rfl (lv_at hl 0 rfl) ?_
          refine va_get (D := (dC, dI)) (ci := 5) (v := .ref h_strip_below) (C := RX5) (T := TX5) (N := 10) hx hb hts hinX5 hown hK hP 0 rfl rfl 2 (by decide) hf9 (fun _ h9 => h9) rfl dX5_after_25 ?_
          refine lv_iload_n hx hb dX5_after_28 rfl (lv_at hl 3 rfl) ?_
          obtain ⟨hv3, hq⟩ := hq
          refine va_iald hx hb hK hP 1 0 rfl rfl hv3 dX5_after_29 ?_
          refine lv_ior hx hb dX5_after_30 ?_
          refine lv_istore_n (lv' := [(2, .int (l2 ||| (f_strip_below (l3).toNatClampNeg))), (0, .ref h_strip), (1, .int l1), (3, .int l3)]) hx hb dX5_after_31 rfl hl (by decide) rfl (fun ls hl => ?_)
          refine lv_iinc (v := (l3 + (1 : Int32))) (lv' := [(3, .int (l3 + (1 : Int32))), (2, .int (l2 ||| (f_strip_below (l3).toNatClampNeg))), (0, .ref h_strip), (1, .int l1)]) hx hb dX5_after_32 hl (k := 3) rfl rfl (by decide) rfl (fun ls hl => ?_)
          refine lv_goto (tgt := 4) hx hb dX5_after_35 (by decide) ?_
          exact ih _ _ hq _ _ hP hD hS _ (lv_sub hl [2, 3, 1, 0] rfl)
  have C4 : ∀ (l1 : Int32) (l2 : Int32) (l3 : Int32), q_X5_after_4 f_strip_below rows_size post l1 l2 l3 → ∀ (H : Heap) (locs : List Loc), va_P (dC, dI) vwCl (W_X5_after cI cJ cZ h_strip h_strip_below h_rows h_rule h_strip_chosen h_strip_table h_strip_square h_strip_line h_strip_pushed h_rows_framed h_rows_power strip_tops strip_bottoms f_strip_below rows_c rows_w rows_size rows_ring) H → va_D A (W_X5_after cI cJ cZ h_strip h_strip_below h_rows h_rule h_strip_chosen h_strip_table h_strip_square h_strip_line h_strip_pushed h_rows_framed h_rows_power strip_tops strip_bottoms f_strip_below rows_c rows_w rows_size rows_ring) → va_S A s.heap H locs → ∀ ls : Array Slot, lv_has ls 4 [(0, .ref h_strip), (1, .int l1), (2, .int l2), (3, .int l3)] → W p l e rm_X5_after s m args below meth c H locs 0 0 QQ (F0 m 4 ls []) := by
    intro l1 l2 l3 hq H locs hP hD hS ls hl
    obtain ⟨n, hq⟩ := hq
    exact L4 _ n _ _ hq H locs hP hD hS ls hl
  unfold q_X5_after at hq
  refine lv_iconst (v := (0 : Int32)) hx hb dX5_after_0 (by decide) ?_
  refine lv_istore_n (lv' := [(2, .int (0 : Int32)), (0, .ref h_strip), (1, .int l1)]) hx hb dX5_after_1 rfl hl (by decide) rfl (fun ls hl => ?_)
  refine lv_iconst (v := (0 : Int32)) hx hb dX5_after_2 (by decide) ?_
  refine lv_istore_n (lv' := [(3, .int (0 : Int32)), (2, .int (0 : Int32)), (0, .ref h_strip), (1, .int l1)]) hx hb dX5_after_3 rfl hl (by decide) rfl (fun ls hl => ?_)
  exact C4 _ _ _ hq _ _ hP hD hS _ (lv_sub hl [2, 3, 1, 0] rfl)

abbrev W_X5_before (cI cJ cZ : ClassId) (h_strip h_strip_below h_rows h_rule h_strip_chosen h_strip_table h_strip_square h_strip_line h_strip_pushed h_rows_framed h_rows_power : Nat) (strip_tops : Int32) (strip_bottoms : Int32) (f_strip_below : Nat → Int32) (rows_c : Int32) (rows_w : Int32) (rows_size : Int32) (rows_ring : Int32) : va_W := [(h_strip, .inr (5, [.ref h_rule, .ref h_rows, .ref h_strip_below, .int strip_tops, .int strip_bottoms, .ref h_strip_chosen, .ref h_strip_table, .ref h_strip_square, .ref h_strip_line, .ref h_strip_pushed])), (h_strip_below, .inl (cI, 27, .inl f_strip_below)), (h_rows, .inr (2, [.int rows_c, .int rows_w, .int rows_size, .int rows_ring, .ref h_rows_framed, .ref h_rows_power]))]
abbrev rm_X5_before : Room := { frames := 0, cells := 0, slots := 0, locals := 0 }
def r_X5_before_4 (f_strip_below : Nat → Int32) (rows_size : Int32) (post : Int32 → Prop) (l1 : Int32) : Nat → (Int32) → (Int32) → Prop
  | 0, _, _ => False
  | n + 1, l2, l3 => ((rows_size ≤ l3 → (post l2)) ∧ (¬ rows_size ≤ l3 → (vp_in l3 27 ∧ ((((f_strip_below (l3).toNatClampNeg) &&& l1) = 0 → ((r_X5_before_4 f_strip_below rows_size post l1 n) l2 (l3 + (1 : Int32)))) ∧ (¬ ((f_strip_below (l3).toNatClampNeg) &&& l1) = 0 → ((r_X5_before_4 f_strip_below rows_size post l1 n) (l2 ||| ((1 : Int32) <<< (l3 &&& 31))) (l3 + (1 : Int32))))))))
def q_X5_before_4 (f_strip_below : Nat → Int32) (rows_size : Int32) (post : Int32 → Prop) (l1 : Int32) (l2 : Int32) (l3 : Int32) : Prop := ∃ n, r_X5_before_4 f_strip_below rows_size post l1 n l2 l3
def q_X5_before (f_strip_below : Nat → Int32) (rows_size : Int32) (l1 : Int32) (post : Int32 → Prop) : Prop := ((q_X5_before_4 f_strip_below rows_size post) l1 (0 : Int32) (0 : Int32))
theorem hdV_X5_before : yX5_before.cls = RX5 ∧ yX5_before.cls ≠ "java/lang/invoke/MethodHandle" ∧ yX5_before.cls ≠ "java/lang/invoke/VarHandle" ∧ (parseMethodDescriptor yX5_before.desc).map (fun d => d.parameters.length) = some 1 := by decide +kernel
set_option maxHeartbeats 4000000 in
set_option maxRecDepth 100000 in
theorem c_X5_before (l : Launch) (dC : Nat → ClassId) (dI : Nat → Nat → Nat) (cI cJ cZ : ClassId) (h_strip h_strip_below h_rows h_rule h_strip_chosen h_strip_table h_strip_square h_strip_line h_strip_pushed h_rows_framed h_rows_power : Nat) (sz : Nat) (strip_tops : Int32) (strip_bottoms : Int32) (f_strip_below : Nat → Int32) (rows_c : Int32) (rows_w : Int32) (rows_size : Int32) (rows_ring : Int32) (l1 : Int32) {post : Int32 → Prop} (hq : q_X5_before f_strip_below rows_size l1 post) : Met l yX5_before wsX5_before rm_X5_before (va_Pc [.ref h_strip, .int l1] (gx_Pre (dC, dI) vwCl (gx_tys cI cJ cZ) sz (W_X5_before cI cJ cZ h_strip h_strip_below h_rows h_rule h_strip_chosen h_strip_table h_strip_square h_strip_line h_strip_pushed h_rows_framed h_rows_power strip_tops strip_bottoms f_strip_below rows_c rows_w rows_size rows_ring))) (va_Qi (fun (r : Int32) (u : Unit) => post r) (gx_B (dC, dI) vwCl (gx_tys cI cJ cZ) (va_A (W_X5_before cI cJ cZ h_strip h_strip_below h_rows h_rule h_strip_chosen h_strip_table h_strip_square h_strip_line h_strip_pushed h_rows_framed h_rows_power strip_tops strip_bottoms f_strip_below rows_c rows_w rows_size rows_ring) sz) (fun (u : Unit) => (W_X5_before cI cJ cZ h_strip h_strip_below h_rows h_rule h_strip_chosen h_strip_table h_strip_square h_strip_line h_strip_pushed h_rows_framed h_rows_power strip_tops strip_bottoms f_strip_below rows_c rows_w rows_size rows_ring))) (va_A (W_X5_before cI cJ cZ h_strip h_strip_below h_rows h_rule h_strip_chosen h_strip_table h_strip_square h_strip_line h_strip_pushed h_rows_framed h_rows_power strip_tops strip_bottoms f_strip_below rows_c rows_w rows_size rows_ring) sz)) 0 0 (va_A (W_X5_before cI cJ cZ h_strip h_strip_below h_rows h_rule h_strip_chosen h_strip_table h_strip_square h_strip_line h_strip_pushed h_rows_framed h_rows_power strip_tops strip_bottoms f_strip_below rows_c rows_w rows_size rows_ring) sz) := by
  refine gx_i (cc := cX5_before) (maxL := 4) (by decide) rfl (Nat.le_of_ble_eq_true rfl) ?_
  intro p e s m args below meth c A QQ hx hb hml hown hts hA hP hK hD hret ls hl
  have hown : s.vm.findClass RX5 = some m.cls := hown
  have hf42 := hts (.fieldLink RX5 42 "SmallWindows$Strip" "rows" "LSmallWindows$Rows;") (by decide +kernel)
  have hf52 := hts (.fieldLink RX5 52 "SmallWindows$Rows" "size" "I") (by decide +kernel)
  have hf9 := hts (.fieldLink RX5 9 "SmallWindows$Strip" "below" "[I") (by decide +kernel)
  have hinX5 : ∀ w ∈ u_ws RX5 TX5 10, w ∈ wsX5_before := fun w h => List.mem_cons_of_mem _ ((List.mem_append_left _ (List.mem_append_right _ h)))
  have hinX2 : ∀ w ∈ u_ws RX2 TX2 6, w ∈ wsX5_before := fun w h => List.mem_cons_of_mem _ ((List.mem_append_right _ h))
  have hS : va_S A s.heap s.heap [] := va_S.rf
  have hl : lv_has ls 4 [(0, .ref h_strip), (1, .int l1)] := hl
  have L4 : ∀ (l1 : Int32) (n : Nat) (l2 : Int32) (l3 : Int32), r_X5_before_4 f_strip_below rows_size post l1 n l2 l3 → ∀ (H : Heap) (locs : List Loc), va_P (dC, dI) vwCl (W_X5_before cI cJ cZ h_strip h_strip_below h_rows h_rule h_strip_chosen h_strip_table h_strip_square h_strip_line h_strip_pushed h_rows_framed h_rows_power strip_tops strip_bottoms f_strip_below rows_c rows_w rows_size rows_ring) H → va_D A (W_X5_before cI cJ cZ h_strip h_strip_below h_rows h_rule h_strip_chosen h_strip_table h_strip_square h_strip_line h_strip_pushed h_rows_framed h_rows_power strip_tops strip_bottoms f_strip_below rows_c rows_w rows_size rows_ring) → va_S A s.heap H locs → ∀ ls : Array Slot, lv_has ls 4 [(0, .ref h_strip), (1, .int l1), (2, .int l2), (3, .int l3)] → W p l e rm_X5_before s m args below meth c H locs 0 0 QQ (F0 m 4 ls []) := by
    intro l1 n
    induction n with
    | zero => intro l2 l3 hq; exact False.elim hq
    | succ n ih =>
      intro l2 l3 hq H locs hP hD hS ls hl
      unfold r_X5_before_4 at hq
      refine lv_iload_n hx hb dX5_before_4 rfl (lv_at hl 3 rfl) ?_
      refine lv_aload_n hx hb dX5_before_5 rfl (lv_at hl 0 rfl) ?_
      refine va_get (D := (dC, dI)) (ci := 5) (v := .ref h_rows) (C := RX5) (T := TX5) (N := 10) hx hb hts hinX5 hown hK hP 0 rfl rfl 1 (by decide) hf42 (fun _ h9 => h9) rfl dX5_before_6 ?_
      refine va_get (D := (dC, dI)) (ci := 2) (v := .int rows_size) (C := RX2) (T := TX2) (N := 6) hx hb hts hinX2 hown hK hP 2 rfl rfl 2 (by decide) hf52 (fun _ h9 => h9) rfl dX5_before_9 ?_
      refine lv_icmp_ge (tgt := 38) hx hb dX5_before_12 (by decide) (fun c1 => ?_) (fun c1 => ?_)
      · replace hq := hq.1 c1
        refine lv_iload_n hx hb dX5_before_38 rfl (lv_at hl 2 rfl) ?_
        exact hret l2 () hq _ _ hP hD hS _ _ dX5_before_39
      · replace hq := hq.2 c1
        refine lv_aload_n hx hb dX5_before_15 rfl (lv_at hl 0 rfl) ?_
        refine va_get (D := (dC, dI)) (ci := 5) (v := .ref h_strip_below) (C := RX5) (T := TX5) (N := 10) hx hb hts hinX5 hown hK hP 0 rfl rfl 2 (by decide) hf9 (fun _ h9 => h9) rfl dX5_before_16 ?_
        refine lv_iload_n hx hb dX5_before_19 rfl (lv_at hl 3 rfl) ?_
        obtain ⟨hv2, hq⟩ := hq
        refine va_iald hx hb hK hP 1 0 rfl rfl hv2 dX5_before_20 ?_
        refine lv_iload_n hx hb dX5_before_21 rfl (lv_at hl 1 rfl) ?_
        refine lv_iand hx hb dX5_before_22 ?_
        refine lv_if_eq (tgt := 32) hx hb dX5_before_23 (by decide) (fun c3 => ?_) (fun c3 => ?_)
        · replace hq := hq.1 c3
          refine lv_iinc (v := (l3 + (1 : Int32))) (lv' := [(3, .int (l3 + (1 : Int32))), (0, .ref h_strip), (1, .int l1), (2, .int l2)]) hx hb dX5_before_32 hl (k := 3) rfl rfl (by decide) rfl (fun ls hl => ?_)
          refine lv_goto (tgt := 4) hx hb dX5_before_35 (by decide) ?_
          exact ih _ _ hq _ _ hP hD hS _ (lv_sub hl [1, 2, 3, 0] rfl)
        · replace hq := hq.2 c3
          refine lv_iload_n hx hb dX5_before_26 rfl (lv_at hl 2 rfl) ?_
          refine lv_iconst (v := (1 : Int32)) hx hb dX5_before_27 (by decide) ?_
          refine lv_iload_n hx hb dX5_before_28 rfl (lv_at hl 3 rfl) ?_
          refine lv_ishl hx hb dX5_before_29 ?_
          refine lv_ior hx hb dX5_before_30 ?_
          refine lv_istore_n (lv' := [(2, .int (l2 ||| ((1 : Int32) <<< (l3 &&& 31)))), (0, .ref h_strip), (1, .int l1), (3, .int l3)]) hx hb dX5_before_31 rfl hl (by decide) rfl (fun ls hl => ?_)
          refine lv_iinc (v := (l3 + (1 : Int32))) (lv' := [(3, .int (l3 + (1 : Int32))), (2, .int (l2 ||| ((1 : Int32) <<< (l3 &&& 31)))), (0, .ref h_strip), (1, .int l1)]) hx hb dX5_before_32 hl (k := 3) rfl rfl (by decide) rfl (fun ls hl => ?_)
          refine lv_goto (tgt := 4) hx hb dX5_before_35 (by decide) ?_
          exact ih _ _ hq _ _ hP hD hS _ (lv_sub hl [2, 3, 1, 0] rfl)
  have C4 : ∀ (l1 : Int32) (l2 : Int32) (l3 : Int32), q_X5_before_4 f_strip_below rows_size post l1 l2 l3 → ∀ (H : Heap) (locs : List Loc), va_P (dC, dI) vwCl (W_X5_before cI cJ cZ h_strip h_strip_below h_rows h_rule h_strip_chosen h_strip_table h_strip_square h_strip_line h_strip_pushed h_rows_framed h_rows_power strip_tops strip_bottoms f_strip_below rows_c rows_w rows_size rows_ring) H → va_D A (W_X5_before cI cJ cZ h_strip h_strip_below h_rows h_rule h_strip_chosen h_strip_table h_strip_square h_strip_line h_strip_pushed h_rows_framed h_rows_power strip_tops strip_bottoms f_strip_below rows_c rows_w rows_size rows_ring) → va_S A s.heap H locs → ∀ ls : Array Slot, lv_has ls 4 [(0, .ref h_strip), (1, .int l1), (2, .int l2), (3, .int l3)] → W p l e rm_X5_before s m args below meth c H locs 0 0 QQ (F0 m 4 ls []) := by
    intro l1 l2 l3 hq H locs hP hD hS ls hl
    obtain ⟨n, hq⟩ := hq
    exact L4 _ n _ _ hq H locs hP hD hS ls hl
  unfold q_X5_before at hq
  refine lv_iconst (v := (0 : Int32)) hx hb dX5_before_0 (by decide) ?_
  refine lv_istore_n (lv' := [(2, .int (0 : Int32)), (0, .ref h_strip), (1, .int l1)]) hx hb dX5_before_1 rfl hl (by decide) rfl (fun ls hl => ?_)
  refine lv_iconst (v := (0 : Int32)) hx hb dX5_before_2 (by decide) ?_
  refine lv_istore_n (lv' := [(3, .int (0 : Int32)), (2, .int (0 : Int32)), (0, .ref h_strip), (1, .int l1)]) hx hb dX5_before_3 rfl hl (by decide) rfl (fun ls hl => ?_)
  exact C4 _ _ _ hq _ _ hP hD hS _ (lv_sub hl [2, 3, 1, 0] rfl)

abbrev W_X5_reached (cI cJ cZ : ClassId) (h_strip h_strip_below h_rows h_rule h_strip_chosen h_strip_table h_strip_square h_strip_line h_strip_pushed h_rows_framed h_rows_power : Nat) (strip_tops : Int32) (strip_bottoms : Int32) (f_strip_below : Nat → Int32) (rows_c : Int32) (rows_w : Int32) (rows_size : Int32) (rows_ring : Int32) : va_W := [(h_strip, .inr (5, [.ref h_rule, .ref h_rows, .ref h_strip_below, .int strip_tops, .int strip_bottoms, .ref h_strip_chosen, .ref h_strip_table, .ref h_strip_square, .ref h_strip_line, .ref h_strip_pushed])), (h_strip_below, .inl (cI, 27, .inl f_strip_below)), (h_rows, .inr (2, [.int rows_c, .int rows_w, .int rows_size, .int rows_ring, .ref h_rows_framed, .ref h_rows_power]))]
abbrev rm_X5_reached : Room := { frames := 1, cells := 0, slots := 0, locals := 23 }
def r_X5_reached_7 (strip_tops : Int32) (f_strip_below : Nat → Int32) (rows_size : Int32) (post : Int32 → Prop) : Nat → (Int32) → (Int32) → Prop
  | 0, _, _ => False
  | n + 1, l1, l2 => ((rows_size ≤ l2 → (post l1)) ∧ (¬ rows_size ≤ l2 → (q_X5_after f_strip_below rows_size l1 (fun (r2 : Int32) => ((r_X5_reached_7 strip_tops f_strip_below rows_size post n) (l1 ||| r2) (l2 + (1 : Int32)))))))
def q_X5_reached_7 (strip_tops : Int32) (f_strip_below : Nat → Int32) (rows_size : Int32) (post : Int32 → Prop) (l1 : Int32) (l2 : Int32) : Prop := ∃ n, r_X5_reached_7 strip_tops f_strip_below rows_size post n l1 l2
def q_X5_reached (strip_tops : Int32) (f_strip_below : Nat → Int32) (rows_size : Int32) (post : Int32 → Prop) : Prop := ((q_X5_reached_7 strip_tops f_strip_below rows_size post) strip_tops (0 : Int32))
theorem hdV_X5_reached : yX5_reached.cls = RX5 ∧ yX5_reached.cls ≠ "java/lang/invoke/MethodHandle" ∧ yX5_reached.cls ≠ "java/lang/invoke/VarHandle" ∧ (parseMethodDescriptor yX5_reached.desc).map (fun d => d.parameters.length) = some 0 := by decide +kernel
set_option maxHeartbeats 4000000 in
set_option maxRecDepth 100000 in
theorem c_X5_reached (l : Launch) (dC : Nat → ClassId) (dI : Nat → Nat → Nat) (cI cJ cZ : ClassId) (h_strip h_strip_below h_rows h_rule h_strip_chosen h_strip_table h_strip_square h_strip_line h_strip_pushed h_rows_framed h_rows_power : Nat) (sz : Nat) (strip_tops : Int32) (strip_bottoms : Int32) (f_strip_below : Nat → Int32) (rows_c : Int32) (rows_w : Int32) (rows_size : Int32) (rows_ring : Int32)  {post : Int32 → Prop} (hq : q_X5_reached strip_tops f_strip_below rows_size post) : Met l yX5_reached wsX5_reached rm_X5_reached (va_Pc [.ref h_strip] (gx_Pre (dC, dI) vwCl (gx_tys cI cJ cZ) sz (W_X5_reached cI cJ cZ h_strip h_strip_below h_rows h_rule h_strip_chosen h_strip_table h_strip_square h_strip_line h_strip_pushed h_rows_framed h_rows_power strip_tops strip_bottoms f_strip_below rows_c rows_w rows_size rows_ring))) (va_Qi (fun (r : Int32) (u : Unit) => post r) (gx_B (dC, dI) vwCl (gx_tys cI cJ cZ) (va_A (W_X5_reached cI cJ cZ h_strip h_strip_below h_rows h_rule h_strip_chosen h_strip_table h_strip_square h_strip_line h_strip_pushed h_rows_framed h_rows_power strip_tops strip_bottoms f_strip_below rows_c rows_w rows_size rows_ring) sz) (fun (u : Unit) => (W_X5_reached cI cJ cZ h_strip h_strip_below h_rows h_rule h_strip_chosen h_strip_table h_strip_square h_strip_line h_strip_pushed h_rows_framed h_rows_power strip_tops strip_bottoms f_strip_below rows_c rows_w rows_size rows_ring))) (va_A (W_X5_reached cI cJ cZ h_strip h_strip_below h_rows h_rule h_strip_chosen h_strip_table h_strip_square h_strip_line h_strip_pushed h_rows_framed h_rows_power strip_tops strip_bottoms f_strip_below rows_c rows_w rows_size rows_ring) sz)) 0 0 (va_A (W_X5_reached cI cJ cZ h_strip h_strip_below h_rows h_rule h_strip_chosen h_strip_table h_strip_square h_strip_line h_strip_pushed h_rows_framed h_rows_power strip_tops strip_bottoms f_strip_below rows_c rows_w rows_size rows_ring) sz) := by
  refine gx_i (cc := cX5_reached) (maxL := 3) (by decide) rfl (Nat.le_of_ble_eq_true rfl) ?_
  intro p e s m args below meth c A QQ hx hb hml hown hts hA hP hK hD hret ls hl
  have hown : s.vm.findClass RX5 = some m.cls := hown
  have hf15 := hts (.fieldLink RX5 15 "SmallWindows$Strip" "tops" "I") (by decide +kernel)
  have hf42 := hts (.fieldLink RX5 42 "SmallWindows$Strip" "rows" "LSmallWindows$Rows;") (by decide +kernel)
  have hf52 := hts (.fieldLink RX5 52 "SmallWindows$Rows" "size" "I") (by decide +kernel)
  have hinX5 : ∀ w ∈ u_ws RX5 TX5 10, w ∈ wsX5_reached := fun w h => List.mem_cons_of_mem _ ((List.mem_append_left _ (List.mem_append_right _ h)))
  have hinX2 : ∀ w ∈ u_ws RX2 TX2 6, w ∈ wsX5_reached := fun w h => List.mem_cons_of_mem _ ((List.mem_append_right _ h))
  have hS : va_S A s.heap s.heap [] := va_S.rf
  have hl : lv_has ls 3 [(0, .ref h_strip)] := hl
  have L7 : ∀  (n : Nat) (l1 : Int32) (l2 : Int32), r_X5_reached_7 strip_tops f_strip_below rows_size post n l1 l2 → ∀ (H : Heap) (locs : List Loc), va_P (dC, dI) vwCl (W_X5_reached cI cJ cZ h_strip h_strip_below h_rows h_rule h_strip_chosen h_strip_table h_strip_square h_strip_line h_strip_pushed h_rows_framed h_rows_power strip_tops strip_bottoms f_strip_below rows_c rows_w rows_size rows_ring) H → va_D A (W_X5_reached cI cJ cZ h_strip h_strip_below h_rows h_rule h_strip_chosen h_strip_table h_strip_square h_strip_line h_strip_pushed h_rows_framed h_rows_power strip_tops strip_bottoms f_strip_below rows_c rows_w rows_size rows_ring) → va_S A s.heap H locs → ∀ ls : Array Slot, lv_has ls 3 [(0, .ref h_strip), (1, .int l1), (2, .int l2)] → W p l e rm_X5_reached s m args below meth c H locs 0 0 QQ (F0 m 7 ls []) := by
    intro n
    induction n with
    | zero => intro l1 l2 hq; exact False.elim hq
    | succ n ih =>
      intro l1 l2 hq H locs hP hD hS ls hl
      unfold r_X5_reached_7 at hq
      refine lv_iload_n hx hb dX5_reached_7 rfl (lv_at hl 2 rfl) ?_
      refine lv_aload_n hx hb dX5_reached_8 rfl (lv_at hl 0 rfl) ?_
      refine va_get (D := (dC, dI)) (ci := 5) (v := .ref h_rows) (C := RX5) (T := TX5) (N := 10) hx hb hts hinX5 hown hK hP 0 rfl rfl 1 (by decide) hf42 (fun _ h9 => h9) rfl dX5_reached_9 ?_
      refine va_get (D := (dC, dI)) (ci := 2) (v := .int rows_size) (C := RX2) (T := TX2) (N := 6) hx hb hts hinX2 hown hK hP 2 rfl rfl 2 (by decide) hf52 (fun _ h9 => h9) rfl dX5_reached_12 ?_
      refine lv_icmp_ge (tgt := 32) hx hb dX5_reached_15 (by decide) (fun c1 => ?_) (fun c1 => ?_)
      · replace hq := hq.1 c1
        refine lv_iload_n hx hb dX5_reached_32 rfl (lv_at hl 1 rfl) ?_
        exact hret l1 () hq _ _ hP hD hS _ _ dX5_reached_33
      · replace hq := hq.2 c1
        refine lv_iload_n hx hb dX5_reached_18 rfl (lv_at hl 1 rfl) ?_
        refine lv_aload_n hx hb dX5_reached_19 rfl (lv_at hl 0 rfl) ?_
        refine lv_iload_n hx hb dX5_reached_20 rfl (lv_at hl 1 rfl) ?_
        refine gx_cVi (C := RX5) (As := [.int l1]) (rest := [.int l1]) ⟨hx, hb, hml, hown, hts⟩ (c_X5_after l dC dI cI cJ cZ h_strip h_strip_below h_rows h_rule h_strip_chosen h_strip_table h_strip_square h_strip_line h_strip_pushed h_rows_framed h_rows_power H.size strip_tops strip_bottoms f_strip_below rows_c rows_w rows_size rows_ring l1 hq) (cwV 1 hts gX5_reached_X5_after rfl rfl rfl hdV_X5_after ⟨Nat.le_of_ble_eq_true rfl, Nat.le_of_ble_eq_true rfl⟩) hK hP hD hS hA [0, 1, 2] [] rfl rfl rfl rfl rfl (ci := 5) (q0 := 0) rfl rfl rfl rfl hl.1 (Nat.le_of_ble_eq_true rfl) dX5_reached_21 rfl (fun r2 u H locs hq hP hD hS => ?_)
        try dsimp only at hq
        have hP : va_P (dC, dI) vwCl (W_X5_reached cI cJ cZ h_strip h_strip_below h_rows h_rule h_strip_chosen h_strip_table h_strip_square h_strip_line h_strip_pushed h_rows_framed h_rows_power strip_tops strip_bottoms f_strip_below rows_c rows_w rows_size rows_ring) H := hP
        have hD : va_D A (W_X5_reached cI cJ cZ h_strip h_strip_below h_rows h_rule h_strip_chosen h_strip_table h_strip_square h_strip_line h_strip_pushed h_rows_framed h_rows_power strip_tops strip_bottoms f_strip_below rows_c rows_w rows_size rows_ring) := hD
        refine lv_ior hx hb dX5_reached_24 ?_
        refine lv_istore_n (lv' := [(1, .int (l1 ||| r2)), (0, .ref h_strip), (2, .int l2)]) hx hb dX5_reached_25 rfl hl (by decide) rfl (fun ls hl => ?_)
        refine lv_iinc (v := (l2 + (1 : Int32))) (lv' := [(2, .int (l2 + (1 : Int32))), (1, .int (l1 ||| r2)), (0, .ref h_strip)]) hx hb dX5_reached_26 hl (k := 2) rfl rfl (by decide) rfl (fun ls hl => ?_)
        refine lv_goto (tgt := 7) hx hb dX5_reached_29 (by decide) ?_
        exact ih _ _ hq _ _ hP hD hS _ (lv_sub hl [2, 1, 0] rfl)
  have C7 : ∀ (l1 : Int32) (l2 : Int32), q_X5_reached_7 strip_tops f_strip_below rows_size post l1 l2 → ∀ (H : Heap) (locs : List Loc), va_P (dC, dI) vwCl (W_X5_reached cI cJ cZ h_strip h_strip_below h_rows h_rule h_strip_chosen h_strip_table h_strip_square h_strip_line h_strip_pushed h_rows_framed h_rows_power strip_tops strip_bottoms f_strip_below rows_c rows_w rows_size rows_ring) H → va_D A (W_X5_reached cI cJ cZ h_strip h_strip_below h_rows h_rule h_strip_chosen h_strip_table h_strip_square h_strip_line h_strip_pushed h_rows_framed h_rows_power strip_tops strip_bottoms f_strip_below rows_c rows_w rows_size rows_ring) → va_S A s.heap H locs → ∀ ls : Array Slot, lv_has ls 3 [(0, .ref h_strip), (1, .int l1), (2, .int l2)] → W p l e rm_X5_reached s m args below meth c H locs 0 0 QQ (F0 m 7 ls []) := by
    intro l1 l2 hq H locs hP hD hS ls hl
    obtain ⟨n, hq⟩ := hq
    exact L7 n _ _ hq H locs hP hD hS ls hl
  unfold q_X5_reached at hq
  refine lv_aload_n hx hb dX5_reached_0 rfl (lv_at hl 0 rfl) ?_
  refine va_get (D := (dC, dI)) (ci := 5) (v := .int strip_tops) (C := RX5) (T := TX5) (N := 10) hx hb hts hinX5 hown hK hP 0 rfl rfl 3 (by decide) hf15 (fun _ h9 => h9) rfl dX5_reached_1 ?_
  refine lv_istore_n (lv' := [(1, .int strip_tops), (0, .ref h_strip)]) hx hb dX5_reached_4 rfl hl (by decide) rfl (fun ls hl => ?_)
  refine lv_iconst (v := (0 : Int32)) hx hb dX5_reached_5 (by decide) ?_
  refine lv_istore_n (lv' := [(2, .int (0 : Int32)), (1, .int strip_tops), (0, .ref h_strip)]) hx hb dX5_reached_6 rfl hl (by decide) rfl (fun ls hl => ?_)
  exact C7 _ _ hq _ _ hP hD hS _ (lv_sub hl [2, 1, 0] rfl)

abbrev W_X5_closing (cI cJ cZ : ClassId) (h_strip h_strip_below h_rows h_rule h_strip_chosen h_strip_table h_strip_square h_strip_line h_strip_pushed h_rows_framed h_rows_power : Nat) (strip_tops : Int32) (strip_bottoms : Int32) (f_strip_below : Nat → Int32) (rows_c : Int32) (rows_w : Int32) (rows_size : Int32) (rows_ring : Int32) : va_W := [(h_strip, .inr (5, [.ref h_rule, .ref h_rows, .ref h_strip_below, .int strip_tops, .int strip_bottoms, .ref h_strip_chosen, .ref h_strip_table, .ref h_strip_square, .ref h_strip_line, .ref h_strip_pushed])), (h_strip_below, .inl (cI, 27, .inl f_strip_below)), (h_rows, .inr (2, [.int rows_c, .int rows_w, .int rows_size, .int rows_ring, .ref h_rows_framed, .ref h_rows_power]))]
abbrev rm_X5_closing : Room := { frames := 1, cells := 0, slots := 0, locals := 23 }
def r_X5_closing_7 (strip_bottoms : Int32) (f_strip_below : Nat → Int32) (rows_size : Int32) (post : Int32 → Prop) : Nat → (Int32) → (Int32) → Prop
  | 0, _, _ => False
  | n + 1, l1, l2 => ((rows_size ≤ l2 → (post l1)) ∧ (¬ rows_size ≤ l2 → (q_X5_before f_strip_below rows_size l1 (fun (r2 : Int32) => ((r_X5_closing_7 strip_bottoms f_strip_below rows_size post n) (l1 ||| r2) (l2 + (1 : Int32)))))))
def q_X5_closing_7 (strip_bottoms : Int32) (f_strip_below : Nat → Int32) (rows_size : Int32) (post : Int32 → Prop) (l1 : Int32) (l2 : Int32) : Prop := ∃ n, r_X5_closing_7 strip_bottoms f_strip_below rows_size post n l1 l2
def q_X5_closing (strip_bottoms : Int32) (f_strip_below : Nat → Int32) (rows_size : Int32) (post : Int32 → Prop) : Prop := ((q_X5_closing_7 strip_bottoms f_strip_below rows_size post) strip_bottoms (0 : Int32))
theorem hdV_X5_closing : yX5_closing.cls = RX5 ∧ yX5_closing.cls ≠ "java/lang/invoke/MethodHandle" ∧ yX5_closing.cls ≠ "java/lang/invoke/VarHandle" ∧ (parseMethodDescriptor yX5_closing.desc).map (fun d => d.parameters.length) = some 0 := by decide +kernel
set_option maxHeartbeats 4000000 in
set_option maxRecDepth 100000 in
theorem c_X5_closing (l : Launch) (dC : Nat → ClassId) (dI : Nat → Nat → Nat) (cI cJ cZ : ClassId) (h_strip h_strip_below h_rows h_rule h_strip_chosen h_strip_table h_strip_square h_strip_line h_strip_pushed h_rows_framed h_rows_power : Nat) (sz : Nat) (strip_tops : Int32) (strip_bottoms : Int32) (f_strip_below : Nat → Int32) (rows_c : Int32) (rows_w : Int32) (rows_size : Int32) (rows_ring : Int32)  {post : Int32 → Prop} (hq : q_X5_closing strip_bottoms f_strip_below rows_size post) : Met l yX5_closing wsX5_closing rm_X5_closing (va_Pc [.ref h_strip] (gx_Pre (dC, dI) vwCl (gx_tys cI cJ cZ) sz (W_X5_closing cI cJ cZ h_strip h_strip_below h_rows h_rule h_strip_chosen h_strip_table h_strip_square h_strip_line h_strip_pushed h_rows_framed h_rows_power strip_tops strip_bottoms f_strip_below rows_c rows_w rows_size rows_ring))) (va_Qi (fun (r : Int32) (u : Unit) => post r) (gx_B (dC, dI) vwCl (gx_tys cI cJ cZ) (va_A (W_X5_closing cI cJ cZ h_strip h_strip_below h_rows h_rule h_strip_chosen h_strip_table h_strip_square h_strip_line h_strip_pushed h_rows_framed h_rows_power strip_tops strip_bottoms f_strip_below rows_c rows_w rows_size rows_ring) sz) (fun (u : Unit) => (W_X5_closing cI cJ cZ h_strip h_strip_below h_rows h_rule h_strip_chosen h_strip_table h_strip_square h_strip_line h_strip_pushed h_rows_framed h_rows_power strip_tops strip_bottoms f_strip_below rows_c rows_w rows_size rows_ring))) (va_A (W_X5_closing cI cJ cZ h_strip h_strip_below h_rows h_rule h_strip_chosen h_strip_table h_strip_square h_strip_line h_strip_pushed h_rows_framed h_rows_power strip_tops strip_bottoms f_strip_below rows_c rows_w rows_size rows_ring) sz)) 0 0 (va_A (W_X5_closing cI cJ cZ h_strip h_strip_below h_rows h_rule h_strip_chosen h_strip_table h_strip_square h_strip_line h_strip_pushed h_rows_framed h_rows_power strip_tops strip_bottoms f_strip_below rows_c rows_w rows_size rows_ring) sz) := by
  refine gx_i (cc := cX5_closing) (maxL := 3) (by decide) rfl (Nat.le_of_ble_eq_true rfl) ?_
  intro p e s m args below meth c A QQ hx hb hml hown hts hA hP hK hD hret ls hl
  have hown : s.vm.findClass RX5 = some m.cls := hown
  have hf19 := hts (.fieldLink RX5 19 "SmallWindows$Strip" "bottoms" "I") (by decide +kernel)
  have hf42 := hts (.fieldLink RX5 42 "SmallWindows$Strip" "rows" "LSmallWindows$Rows;") (by decide +kernel)
  have hf52 := hts (.fieldLink RX5 52 "SmallWindows$Rows" "size" "I") (by decide +kernel)
  have hinX5 : ∀ w ∈ u_ws RX5 TX5 10, w ∈ wsX5_closing := fun w h => List.mem_cons_of_mem _ ((List.mem_append_left _ (List.mem_append_right _ h)))
  have hinX2 : ∀ w ∈ u_ws RX2 TX2 6, w ∈ wsX5_closing := fun w h => List.mem_cons_of_mem _ ((List.mem_append_right _ h))
  have hS : va_S A s.heap s.heap [] := va_S.rf
  have hl : lv_has ls 3 [(0, .ref h_strip)] := hl
  have L7 : ∀  (n : Nat) (l1 : Int32) (l2 : Int32), r_X5_closing_7 strip_bottoms f_strip_below rows_size post n l1 l2 → ∀ (H : Heap) (locs : List Loc), va_P (dC, dI) vwCl (W_X5_closing cI cJ cZ h_strip h_strip_below h_rows h_rule h_strip_chosen h_strip_table h_strip_square h_strip_line h_strip_pushed h_rows_framed h_rows_power strip_tops strip_bottoms f_strip_below rows_c rows_w rows_size rows_ring) H → va_D A (W_X5_closing cI cJ cZ h_strip h_strip_below h_rows h_rule h_strip_chosen h_strip_table h_strip_square h_strip_line h_strip_pushed h_rows_framed h_rows_power strip_tops strip_bottoms f_strip_below rows_c rows_w rows_size rows_ring) → va_S A s.heap H locs → ∀ ls : Array Slot, lv_has ls 3 [(0, .ref h_strip), (1, .int l1), (2, .int l2)] → W p l e rm_X5_closing s m args below meth c H locs 0 0 QQ (F0 m 7 ls []) := by
    intro n
    induction n with
    | zero => intro l1 l2 hq; exact False.elim hq
    | succ n ih =>
      intro l1 l2 hq H locs hP hD hS ls hl
      unfold r_X5_closing_7 at hq
      refine lv_iload_n hx hb dX5_closing_7 rfl (lv_at hl 2 rfl) ?_
      refine lv_aload_n hx hb dX5_closing_8 rfl (lv_at hl 0 rfl) ?_
      refine va_get (D := (dC, dI)) (ci := 5) (v := .ref h_rows) (C := RX5) (T := TX5) (N := 10) hx hb hts hinX5 hown hK hP 0 rfl rfl 1 (by decide) hf42 (fun _ h9 => h9) rfl dX5_closing_9 ?_
      refine va_get (D := (dC, dI)) (ci := 2) (v := .int rows_size) (C := RX2) (T := TX2) (N := 6) hx hb hts hinX2 hown hK hP 2 rfl rfl 2 (by decide) hf52 (fun _ h9 => h9) rfl dX5_closing_12 ?_
      refine lv_icmp_ge (tgt := 32) hx hb dX5_closing_15 (by decide) (fun c1 => ?_) (fun c1 => ?_)
      · replace hq := hq.1 c1
        refine lv_iload_n hx hb dX5_closing_32 rfl (lv_at hl 1 rfl) ?_
        exact hret l1 () hq _ _ hP hD hS _ _ dX5_closing_33
      · replace hq := hq.2 c1
        refine lv_iload_n hx hb dX5_closing_18 rfl (lv_at hl 1 rfl) ?_
        refine lv_aload_n hx hb dX5_closing_19 rfl (lv_at hl 0 rfl) ?_
        refine lv_iload_n hx hb dX5_closing_20 rfl (lv_at hl 1 rfl) ?_
        refine gx_cVi (C := RX5) (As := [.int l1]) (rest := [.int l1]) ⟨hx, hb, hml, hown, hts⟩ (c_X5_before l dC dI cI cJ cZ h_strip h_strip_below h_rows h_rule h_strip_chosen h_strip_table h_strip_square h_strip_line h_strip_pushed h_rows_framed h_rows_power H.size strip_tops strip_bottoms f_strip_below rows_c rows_w rows_size rows_ring l1 hq) (cwV 1 hts gX5_closing_X5_before rfl rfl rfl hdV_X5_before ⟨Nat.le_of_ble_eq_true rfl, Nat.le_of_ble_eq_true rfl⟩) hK hP hD hS hA [0, 1, 2] [] rfl rfl rfl rfl rfl (ci := 5) (q0 := 0) rfl rfl rfl rfl hl.1 (Nat.le_of_ble_eq_true rfl) dX5_closing_21 rfl (fun r2 u H locs hq hP hD hS => ?_)
        try dsimp only at hq
        have hP : va_P (dC, dI) vwCl (W_X5_closing cI cJ cZ h_strip h_strip_below h_rows h_rule h_strip_chosen h_strip_table h_strip_square h_strip_line h_strip_pushed h_rows_framed h_rows_power strip_tops strip_bottoms f_strip_below rows_c rows_w rows_size rows_ring) H := hP
        have hD : va_D A (W_X5_closing cI cJ cZ h_strip h_strip_below h_rows h_rule h_strip_chosen h_strip_table h_strip_square h_strip_line h_strip_pushed h_rows_framed h_rows_power strip_tops strip_bottoms f_strip_below rows_c rows_w rows_size rows_ring) := hD
        refine lv_ior hx hb dX5_closing_24 ?_
        refine lv_istore_n (lv' := [(1, .int (l1 ||| r2)), (0, .ref h_strip), (2, .int l2)]) hx hb dX5_closing_25 rfl hl (by decide) rfl (fun ls hl => ?_)
        refine lv_iinc (v := (l2 + (1 : Int32))) (lv' := [(2, .int (l2 + (1 : Int32))), (1, .int (l1 ||| r2)), (0, .ref h_strip)]) hx hb dX5_closing_26 hl (k := 2) rfl rfl (by decide) rfl (fun ls hl => ?_)
        refine lv_goto (tgt := 7) hx hb dX5_closing_29 (by decide) ?_
        exact ih _ _ hq _ _ hP hD hS _ (lv_sub hl [2, 1, 0] rfl)
  have C7 : ∀ (l1 : Int32) (l2 : Int32), q_X5_closing_7 strip_bottoms f_strip_below rows_size post l1 l2 → ∀ (H : Heap) (locs : List Loc), va_P (dC, dI) vwCl (W_X5_closing cI cJ cZ h_strip h_strip_below h_rows h_rule h_strip_chosen h_strip_table h_strip_square h_strip_line h_strip_pushed h_rows_framed h_rows_power strip_tops strip_bottoms f_strip_below rows_c rows_w rows_size rows_ring) H → va_D A (W_X5_closing cI cJ cZ h_strip h_strip_below h_rows h_rule h_strip_chosen h_strip_table h_strip_square h_strip_line h_strip_pushed h_rows_framed h_rows_power strip_tops strip_bottoms f_strip_below rows_c rows_w rows_size rows_ring) → va_S A s.heap H locs → ∀ ls : Array Slot, lv_has ls 3 [(0, .ref h_strip), (1, .int l1), (2, .int l2)] → W p l e rm_X5_closing s m args below meth c H locs 0 0 QQ (F0 m 7 ls []) := by
    intro l1 l2 hq H locs hP hD hS ls hl
    obtain ⟨n, hq⟩ := hq
    exact L7 n _ _ hq H locs hP hD hS ls hl
  unfold q_X5_closing at hq
  refine lv_aload_n hx hb dX5_closing_0 rfl (lv_at hl 0 rfl) ?_
  refine va_get (D := (dC, dI)) (ci := 5) (v := .int strip_bottoms) (C := RX5) (T := TX5) (N := 10) hx hb hts hinX5 hown hK hP 0 rfl rfl 4 (by decide) hf19 (fun _ h9 => h9) rfl dX5_closing_1 ?_
  refine lv_istore_n (lv' := [(1, .int strip_bottoms), (0, .ref h_strip)]) hx hb dX5_closing_4 rfl hl (by decide) rfl (fun ls hl => ?_)
  refine lv_iconst (v := (0 : Int32)) hx hb dX5_closing_5 (by decide) ?_
  refine lv_istore_n (lv' := [(2, .int (0 : Int32)), (1, .int strip_bottoms), (0, .ref h_strip)]) hx hb dX5_closing_6 rfl hl (by decide) rfl (fun ls hl => ?_)
  exact C7 _ _ hq _ _ hP hD hS _ (lv_sub hl [2, 1, 0] rfl)

abbrev W_X5_used (cI cJ cZ : ClassId) (h_strip h_strip_below h_rows h_rule h_strip_chosen h_strip_table h_strip_square h_strip_line h_strip_pushed h_rows_framed h_rows_power : Nat) (strip_tops : Int32) (strip_bottoms : Int32) (f_strip_below : Nat → Int32) (rows_c : Int32) (rows_w : Int32) (rows_size : Int32) (rows_ring : Int32) : va_W := [(h_strip, .inr (5, [.ref h_rule, .ref h_rows, .ref h_strip_below, .int strip_tops, .int strip_bottoms, .ref h_strip_chosen, .ref h_strip_table, .ref h_strip_square, .ref h_strip_line, .ref h_strip_pushed])), (h_strip_below, .inl (cI, 27, .inl f_strip_below)), (h_rows, .inr (2, [.int rows_c, .int rows_w, .int rows_size, .int rows_ring, .ref h_rows_framed, .ref h_rows_power]))]
abbrev rm_X5_used : Room := { frames := 2, cells := 0, slots := 0, locals := 45 }
def q_X5_used (strip_tops : Int32) (strip_bottoms : Int32) (f_strip_below : Nat → Int32) (rows_size : Int32) (post : Int32 → Prop) : Prop := (q_X5_reached strip_tops f_strip_below rows_size (fun (r1 : Int32) => (q_X5_closing strip_bottoms f_strip_below rows_size (fun (r2 : Int32) => (post (r1 &&& r2))))))
theorem hdV_X5_used : yX5_used.cls = RX5 ∧ yX5_used.cls ≠ "java/lang/invoke/MethodHandle" ∧ yX5_used.cls ≠ "java/lang/invoke/VarHandle" ∧ (parseMethodDescriptor yX5_used.desc).map (fun d => d.parameters.length) = some 0 := by decide +kernel
set_option maxHeartbeats 4000000 in
set_option maxRecDepth 100000 in
theorem c_X5_used (l : Launch) (dC : Nat → ClassId) (dI : Nat → Nat → Nat) (cI cJ cZ : ClassId) (h_strip h_strip_below h_rows h_rule h_strip_chosen h_strip_table h_strip_square h_strip_line h_strip_pushed h_rows_framed h_rows_power : Nat) (sz : Nat) (strip_tops : Int32) (strip_bottoms : Int32) (f_strip_below : Nat → Int32) (rows_c : Int32) (rows_w : Int32) (rows_size : Int32) (rows_ring : Int32)  {post : Int32 → Prop} (hq : q_X5_used strip_tops strip_bottoms f_strip_below rows_size post) : Met l yX5_used wsX5_used rm_X5_used (va_Pc [.ref h_strip] (gx_Pre (dC, dI) vwCl (gx_tys cI cJ cZ) sz (W_X5_used cI cJ cZ h_strip h_strip_below h_rows h_rule h_strip_chosen h_strip_table h_strip_square h_strip_line h_strip_pushed h_rows_framed h_rows_power strip_tops strip_bottoms f_strip_below rows_c rows_w rows_size rows_ring))) (va_Qi (fun (r : Int32) (u : Unit) => post r) (gx_B (dC, dI) vwCl (gx_tys cI cJ cZ) (va_A (W_X5_used cI cJ cZ h_strip h_strip_below h_rows h_rule h_strip_chosen h_strip_table h_strip_square h_strip_line h_strip_pushed h_rows_framed h_rows_power strip_tops strip_bottoms f_strip_below rows_c rows_w rows_size rows_ring) sz) (fun (u : Unit) => (W_X5_used cI cJ cZ h_strip h_strip_below h_rows h_rule h_strip_chosen h_strip_table h_strip_square h_strip_line h_strip_pushed h_rows_framed h_rows_power strip_tops strip_bottoms f_strip_below rows_c rows_w rows_size rows_ring))) (va_A (W_X5_used cI cJ cZ h_strip h_strip_below h_rows h_rule h_strip_chosen h_strip_table h_strip_square h_strip_line h_strip_pushed h_rows_framed h_rows_power strip_tops strip_bottoms f_strip_below rows_c rows_w rows_size rows_ring) sz)) 0 0 (va_A (W_X5_used cI cJ cZ h_strip h_strip_below h_rows h_rule h_strip_chosen h_strip_table h_strip_square h_strip_line h_strip_pushed h_rows_framed h_rows_power strip_tops strip_bottoms f_strip_below rows_c rows_w rows_size rows_ring) sz) := by
  refine gx_i (cc := cX5_used) (maxL := 1) (by decide) rfl (Nat.le_of_ble_eq_true rfl) ?_
  intro p e s m args below meth c A QQ hx hb hml hown hts hA hP hK hD hret ls hl
  have hown : s.vm.findClass RX5 = some m.cls := hown
  have hS : va_S A s.heap s.heap [] := va_S.rf
  have hl : lv_has ls 1 [(0, .ref h_strip)] := hl
  unfold q_X5_used at hq
  refine lv_aload_n hx hb dX5_used_0 rfl (lv_at hl 0 rfl) ?_
  refine gx_cVi (C := RX5) (As := []) (rest := []) ⟨hx, hb, hml, hown, hts⟩ (c_X5_reached l dC dI cI cJ cZ h_strip h_strip_below h_rows h_rule h_strip_chosen h_strip_table h_strip_square h_strip_line h_strip_pushed h_rows_framed h_rows_power s.heap.size strip_tops strip_bottoms f_strip_below rows_c rows_w rows_size rows_ring hq) (cwV 0 hts gX5_used_X5_reached rfl rfl rfl hdV_X5_reached ⟨Nat.le_of_ble_eq_true rfl, Nat.le_of_ble_eq_true rfl⟩) hK hP hD hS hA [0, 1, 2] [] rfl rfl rfl rfl rfl (ci := 5) (q0 := 0) rfl rfl rfl rfl hl.1 (Nat.le_of_ble_eq_true rfl) dX5_used_1 rfl (fun r1 u H locs hq hP hD hS => ?_)
  try dsimp only at hq
  have hP : va_P (dC, dI) vwCl (W_X5_used cI cJ cZ h_strip h_strip_below h_rows h_rule h_strip_chosen h_strip_table h_strip_square h_strip_line h_strip_pushed h_rows_framed h_rows_power strip_tops strip_bottoms f_strip_below rows_c rows_w rows_size rows_ring) H := hP
  have hD : va_D A (W_X5_used cI cJ cZ h_strip h_strip_below h_rows h_rule h_strip_chosen h_strip_table h_strip_square h_strip_line h_strip_pushed h_rows_framed h_rows_power strip_tops strip_bottoms f_strip_below rows_c rows_w rows_size rows_ring) := hD
  refine lv_aload_n hx hb dX5_used_4 rfl (lv_at hl 0 rfl) ?_
  refine gx_cVi (C := RX5) (As := []) (rest := [.int r1]) ⟨hx, hb, hml, hown, hts⟩ (c_X5_closing l dC dI cI cJ cZ h_strip h_strip_below h_rows h_rule h_strip_chosen h_strip_table h_strip_square h_strip_line h_strip_pushed h_rows_framed h_rows_power H.size strip_tops strip_bottoms f_strip_below rows_c rows_w rows_size rows_ring hq) (cwV 0 hts gX5_used_X5_closing rfl rfl rfl hdV_X5_closing ⟨Nat.le_of_ble_eq_true rfl, Nat.le_of_ble_eq_true rfl⟩) hK hP hD hS hA [0, 1, 2] [] rfl rfl rfl rfl rfl (ci := 5) (q0 := 0) rfl rfl rfl rfl hl.1 (Nat.le_of_ble_eq_true rfl) dX5_used_5 rfl (fun r2 u H locs hq hP hD hS => ?_)
  try dsimp only at hq
  have hP : va_P (dC, dI) vwCl (W_X5_used cI cJ cZ h_strip h_strip_below h_rows h_rule h_strip_chosen h_strip_table h_strip_square h_strip_line h_strip_pushed h_rows_framed h_rows_power strip_tops strip_bottoms f_strip_below rows_c rows_w rows_size rows_ring) H := hP
  have hD : va_D A (W_X5_used cI cJ cZ h_strip h_strip_below h_rows h_rule h_strip_chosen h_strip_table h_strip_square h_strip_line h_strip_pushed h_rows_framed h_rows_power strip_tops strip_bottoms f_strip_below rows_c rows_w rows_size rows_ring) := hD
  refine lv_iand hx hb dX5_used_8 ?_
  exact hret (r1 &&& r2) () hq _ _ hP hD hS _ _ dX5_used_9

abbrev W_X5_goesOn (cI cJ cZ : ClassId) (h_strip h_strip_below h_rows h_rule h_strip_chosen h_strip_table h_strip_square h_strip_line h_strip_pushed h_rows_framed h_rows_power : Nat) (strip_tops : Int32) (strip_bottoms : Int32) (f_strip_below : Nat → Int32) (rows_c : Int32) (rows_w : Int32) (rows_size : Int32) (rows_ring : Int32) : va_W := [(h_strip, .inr (5, [.ref h_rule, .ref h_rows, .ref h_strip_below, .int strip_tops, .int strip_bottoms, .ref h_strip_chosen, .ref h_strip_table, .ref h_strip_square, .ref h_strip_line, .ref h_strip_pushed])), (h_strip_below, .inl (cI, 27, .inl f_strip_below)), (h_rows, .inr (2, [.int rows_c, .int rows_w, .int rows_size, .int rows_ring, .ref h_rows_framed, .ref h_rows_power]))]
abbrev rm_X5_goesOn : Room := { frames := 3, cells := 0, slots := 0, locals := 65 }
def r_X5_goesOn_14 (strip_tops : Int32) (strip_bottoms : Int32) (f_strip_below : Nat → Int32) (rows_size : Int32) (post : Int32 → Prop) (l1 : Int32) : Nat → (Int32) → (Int32) → Prop
  | 0, _, _ => False
  | n + 1, l2, l3 => ((rows_size ≤ l3 → ((l2 = 0 → (post (0 : Int32))) ∧ (¬ l2 = 0 → (post (1 : Int32))))) ∧ (¬ rows_size ≤ l3 → (q_X5_after f_strip_below rows_size l2 (fun (r4 : Int32) => ((r_X5_goesOn_14 strip_tops strip_bottoms f_strip_below rows_size post l1 n) (r4 &&& l1) (l3 + (1 : Int32)))))))
def q_X5_goesOn_14 (strip_tops : Int32) (strip_bottoms : Int32) (f_strip_below : Nat → Int32) (rows_size : Int32) (post : Int32 → Prop) (l1 : Int32) (l2 : Int32) (l3 : Int32) : Prop := ∃ n, r_X5_goesOn_14 strip_tops strip_bottoms f_strip_below rows_size post l1 n l2 l3
def q_X5_goesOn (strip_tops : Int32) (strip_bottoms : Int32) (f_strip_below : Nat → Int32) (rows_size : Int32) (post : Int32 → Prop) : Prop := (q_X5_used strip_tops strip_bottoms f_strip_below rows_size (fun (r1 : Int32) => ((q_X5_goesOn_14 strip_tops strip_bottoms f_strip_below rows_size post) r1 (strip_tops &&& r1) (0 : Int32))))
theorem hdV_X5_goesOn : yX5_goesOn.cls = RX5 ∧ yX5_goesOn.cls ≠ "java/lang/invoke/MethodHandle" ∧ yX5_goesOn.cls ≠ "java/lang/invoke/VarHandle" ∧ (parseMethodDescriptor yX5_goesOn.desc).map (fun d => d.parameters.length) = some 0 := by decide +kernel
set_option maxHeartbeats 4000000 in
set_option maxRecDepth 100000 in
theorem c_X5_goesOn (l : Launch) (dC : Nat → ClassId) (dI : Nat → Nat → Nat) (cI cJ cZ : ClassId) (h_strip h_strip_below h_rows h_rule h_strip_chosen h_strip_table h_strip_square h_strip_line h_strip_pushed h_rows_framed h_rows_power : Nat) (sz : Nat) (strip_tops : Int32) (strip_bottoms : Int32) (f_strip_below : Nat → Int32) (rows_c : Int32) (rows_w : Int32) (rows_size : Int32) (rows_ring : Int32)  {post : Int32 → Prop} (hq : q_X5_goesOn strip_tops strip_bottoms f_strip_below rows_size post) : Met l yX5_goesOn wsX5_goesOn rm_X5_goesOn (va_Pc [.ref h_strip] (gx_Pre (dC, dI) vwCl (gx_tys cI cJ cZ) sz (W_X5_goesOn cI cJ cZ h_strip h_strip_below h_rows h_rule h_strip_chosen h_strip_table h_strip_square h_strip_line h_strip_pushed h_rows_framed h_rows_power strip_tops strip_bottoms f_strip_below rows_c rows_w rows_size rows_ring))) (va_Qi (fun (r : Int32) (u : Unit) => post r) (gx_B (dC, dI) vwCl (gx_tys cI cJ cZ) (va_A (W_X5_goesOn cI cJ cZ h_strip h_strip_below h_rows h_rule h_strip_chosen h_strip_table h_strip_square h_strip_line h_strip_pushed h_rows_framed h_rows_power strip_tops strip_bottoms f_strip_below rows_c rows_w rows_size rows_ring) sz) (fun (u : Unit) => (W_X5_goesOn cI cJ cZ h_strip h_strip_below h_rows h_rule h_strip_chosen h_strip_table h_strip_square h_strip_line h_strip_pushed h_rows_framed h_rows_power strip_tops strip_bottoms f_strip_below rows_c rows_w rows_size rows_ring))) (va_A (W_X5_goesOn cI cJ cZ h_strip h_strip_below h_rows h_rule h_strip_chosen h_strip_table h_strip_square h_strip_line h_strip_pushed h_rows_framed h_rows_power strip_tops strip_bottoms f_strip_below rows_c rows_w rows_size rows_ring) sz)) 0 0 (va_A (W_X5_goesOn cI cJ cZ h_strip h_strip_below h_rows h_rule h_strip_chosen h_strip_table h_strip_square h_strip_line h_strip_pushed h_rows_framed h_rows_power strip_tops strip_bottoms f_strip_below rows_c rows_w rows_size rows_ring) sz) := by
  refine gx_z (cc := cX5_goesOn) (maxL := 4) (by decide) rfl (Nat.le_of_ble_eq_true rfl) ?_
  intro p e s m args below meth c A QQ hx hb hml hown hts hA hP hK hD hret ls hl
  have hown : s.vm.findClass RX5 = some m.cls := hown
  have hf15 := hts (.fieldLink RX5 15 "SmallWindows$Strip" "tops" "I") (by decide +kernel)
  have hf42 := hts (.fieldLink RX5 42 "SmallWindows$Strip" "rows" "LSmallWindows$Rows;") (by decide +kernel)
  have hf52 := hts (.fieldLink RX5 52 "SmallWindows$Rows" "size" "I") (by decide +kernel)
  have hinX5 : ∀ w ∈ u_ws RX5 TX5 10, w ∈ wsX5_goesOn := fun w h => List.mem_cons_of_mem _ ((List.mem_append_left _ (List.mem_append_right _ h)))
  have hinX2 : ∀ w ∈ u_ws RX2 TX2 6, w ∈ wsX5_goesOn := fun w h => List.mem_cons_of_mem _ ((List.mem_append_right _ h))
  have hS : va_S A s.heap s.heap [] := va_S.rf
  have hl : lv_has ls 4 [(0, .ref h_strip)] := hl
  have L14 : ∀ (l1 : Int32) (n : Nat) (l2 : Int32) (l3 : Int32), r_X5_goesOn_14 strip_tops strip_bottoms f_strip_below rows_size post l1 n l2 l3 → ∀ (H : Heap) (locs : List Loc), va_P (dC, dI) vwCl (W_X5_goesOn cI cJ cZ h_strip h_strip_below h_rows h_rule h_strip_chosen h_strip_table h_strip_square h_strip_line h_strip_pushed h_rows_framed h_rows_power strip_tops strip_bottoms f_strip_below rows_c rows_w rows_size rows_ring) H → va_D A (W_X5_goesOn cI cJ cZ h_strip h_strip_below h_rows h_rule h_strip_chosen h_strip_table h_strip_square h_strip_line h_strip_pushed h_rows_framed h_rows_power strip_tops strip_bottoms f_strip_below rows_c rows_w rows_size rows_ring) → va_S A s.heap H locs → ∀ ls : Array Slot, lv_has ls 4 [(0, .ref h_strip), (1, .int l1), (2, .int l2), (3, .int l3)] → W p l e rm_X5_goesOn s m args below meth c H locs 0 0 QQ (F0 m 14 ls []) := by
    intro l1 n
    induction n with
    | zero => intro l2 l3 hq; exact False.elim hq
    | succ n ih =>
      intro l2 l3 hq H locs hP hD hS ls hl
      unfold r_X5_goesOn_14 at hq
      refine lv_iload_n hx hb dX5_goesOn_14 rfl (lv_at hl 3 rfl) ?_
      refine lv_aload_n hx hb dX5_goesOn_15 rfl (lv_at hl 0 rfl) ?_
      refine va_get (D := (dC, dI)) (ci := 5) (v := .ref h_rows) (C := RX5) (T := TX5) (N := 10) hx hb hts hinX5 hown hK hP 0 rfl rfl 1 (by decide) hf42 (fun _ h9 => h9) rfl dX5_goesOn_16 ?_
      refine va_get (D := (dC, dI)) (ci := 2) (v := .int rows_size) (C := RX2) (T := TX2) (N := 6) hx hb hts hinX2 hown hK hP 2 rfl rfl 2 (by decide) hf52 (fun _ h9 => h9) rfl dX5_goesOn_19 ?_
      refine lv_icmp_ge (tgt := 39) hx hb dX5_goesOn_22 (by decide) (fun c2 => ?_) (fun c2 => ?_)
      · replace hq := hq.1 c2
        refine lv_iload_n hx hb dX5_goesOn_39 rfl (lv_at hl 2 rfl) ?_
        refine lv_if_eq (tgt := 47) hx hb dX5_goesOn_40 (by decide) (fun c3 => ?_) (fun c3 => ?_)
        · replace hq := hq.1 c3
          refine lv_iconst (v := (0 : Int32)) hx hb dX5_goesOn_47 (by decide) ?_
          exact hret (0 : Int32) () (Or.inl rfl) hq _ _ hP hD hS _ _ dX5_goesOn_48
        · replace hq := hq.2 c3
          refine lv_iconst (v := (1 : Int32)) hx hb dX5_goesOn_43 (by decide) ?_
          refine lv_goto (tgt := 48) hx hb dX5_goesOn_44 (by decide) ?_
          exact hret (1 : Int32) () (Or.inr rfl) hq _ _ hP hD hS _ _ dX5_goesOn_48
      · replace hq := hq.2 c2
        refine lv_aload_n hx hb dX5_goesOn_25 rfl (lv_at hl 0 rfl) ?_
        refine lv_iload_n hx hb dX5_goesOn_26 rfl (lv_at hl 2 rfl) ?_
        refine gx_cVi (C := RX5) (As := [.int l2]) (rest := []) ⟨hx, hb, hml, hown, hts⟩ (c_X5_after l dC dI cI cJ cZ h_strip h_strip_below h_rows h_rule h_strip_chosen h_strip_table h_strip_square h_strip_line h_strip_pushed h_rows_framed h_rows_power H.size strip_tops strip_bottoms f_strip_below rows_c rows_w rows_size rows_ring l2 hq) (cwV 1 hts gX5_goesOn_X5_after rfl rfl rfl hdV_X5_after ⟨Nat.le_of_ble_eq_true rfl, Nat.le_of_ble_eq_true rfl⟩) hK hP hD hS hA [0, 1, 2] [] rfl rfl rfl rfl rfl (ci := 5) (q0 := 0) rfl rfl rfl rfl hl.1 (Nat.le_of_ble_eq_true rfl) dX5_goesOn_27 rfl (fun r4 u H locs hq hP hD hS => ?_)
        try dsimp only at hq
        have hP : va_P (dC, dI) vwCl (W_X5_goesOn cI cJ cZ h_strip h_strip_below h_rows h_rule h_strip_chosen h_strip_table h_strip_square h_strip_line h_strip_pushed h_rows_framed h_rows_power strip_tops strip_bottoms f_strip_below rows_c rows_w rows_size rows_ring) H := hP
        have hD : va_D A (W_X5_goesOn cI cJ cZ h_strip h_strip_below h_rows h_rule h_strip_chosen h_strip_table h_strip_square h_strip_line h_strip_pushed h_rows_framed h_rows_power strip_tops strip_bottoms f_strip_below rows_c rows_w rows_size rows_ring) := hD
        refine lv_iload_n hx hb dX5_goesOn_30 rfl (lv_at hl 1 rfl) ?_
        refine lv_iand hx hb dX5_goesOn_31 ?_
        refine lv_istore_n (lv' := [(2, .int (r4 &&& l1)), (0, .ref h_strip), (1, .int l1), (3, .int l3)]) hx hb dX5_goesOn_32 rfl hl (by decide) rfl (fun ls hl => ?_)
        refine lv_iinc (v := (l3 + (1 : Int32))) (lv' := [(3, .int (l3 + (1 : Int32))), (2, .int (r4 &&& l1)), (0, .ref h_strip), (1, .int l1)]) hx hb dX5_goesOn_33 hl (k := 3) rfl rfl (by decide) rfl (fun ls hl => ?_)
        refine lv_goto (tgt := 14) hx hb dX5_goesOn_36 (by decide) ?_
        exact ih _ _ hq _ _ hP hD hS _ (lv_sub hl [2, 3, 1, 0] rfl)
  have C14 : ∀ (l1 : Int32) (l2 : Int32) (l3 : Int32), q_X5_goesOn_14 strip_tops strip_bottoms f_strip_below rows_size post l1 l2 l3 → ∀ (H : Heap) (locs : List Loc), va_P (dC, dI) vwCl (W_X5_goesOn cI cJ cZ h_strip h_strip_below h_rows h_rule h_strip_chosen h_strip_table h_strip_square h_strip_line h_strip_pushed h_rows_framed h_rows_power strip_tops strip_bottoms f_strip_below rows_c rows_w rows_size rows_ring) H → va_D A (W_X5_goesOn cI cJ cZ h_strip h_strip_below h_rows h_rule h_strip_chosen h_strip_table h_strip_square h_strip_line h_strip_pushed h_rows_framed h_rows_power strip_tops strip_bottoms f_strip_below rows_c rows_w rows_size rows_ring) → va_S A s.heap H locs → ∀ ls : Array Slot, lv_has ls 4 [(0, .ref h_strip), (1, .int l1), (2, .int l2), (3, .int l3)] → W p l e rm_X5_goesOn s m args below meth c H locs 0 0 QQ (F0 m 14 ls []) := by
    intro l1 l2 l3 hq H locs hP hD hS ls hl
    obtain ⟨n, hq⟩ := hq
    exact L14 _ n _ _ hq H locs hP hD hS ls hl
  unfold q_X5_goesOn at hq
  refine lv_aload_n hx hb dX5_goesOn_0 rfl (lv_at hl 0 rfl) ?_
  refine gx_cVi (C := RX5) (As := []) (rest := []) ⟨hx, hb, hml, hown, hts⟩ (c_X5_used l dC dI cI cJ cZ h_strip h_strip_below h_rows h_rule h_strip_chosen h_strip_table h_strip_square h_strip_line h_strip_pushed h_rows_framed h_rows_power s.heap.size strip_tops strip_bottoms f_strip_below rows_c rows_w rows_size rows_ring hq) (cwV 0 hts gX5_goesOn_X5_used rfl rfl rfl hdV_X5_used ⟨Nat.le_of_ble_eq_true rfl, Nat.le_of_ble_eq_true rfl⟩) hK hP hD hS hA [0, 1, 2] [] rfl rfl rfl rfl rfl (ci := 5) (q0 := 0) rfl rfl rfl rfl hl.1 (Nat.le_of_ble_eq_true rfl) dX5_goesOn_1 rfl (fun r1 u H locs hq hP hD hS => ?_)
  try dsimp only at hq
  have hP : va_P (dC, dI) vwCl (W_X5_goesOn cI cJ cZ h_strip h_strip_below h_rows h_rule h_strip_chosen h_strip_table h_strip_square h_strip_line h_strip_pushed h_rows_framed h_rows_power strip_tops strip_bottoms f_strip_below rows_c rows_w rows_size rows_ring) H := hP
  have hD : va_D A (W_X5_goesOn cI cJ cZ h_strip h_strip_below h_rows h_rule h_strip_chosen h_strip_table h_strip_square h_strip_line h_strip_pushed h_rows_framed h_rows_power strip_tops strip_bottoms f_strip_below rows_c rows_w rows_size rows_ring) := hD
  refine lv_istore_n (lv' := [(1, .int r1), (0, .ref h_strip)]) hx hb dX5_goesOn_4 rfl hl (by decide) rfl (fun ls hl => ?_)
  refine lv_aload_n hx hb dX5_goesOn_5 rfl (lv_at hl 1 rfl) ?_
  refine va_get (D := (dC, dI)) (ci := 5) (v := .int strip_tops) (C := RX5) (T := TX5) (N := 10) hx hb hts hinX5 hown hK hP 0 rfl rfl 3 (by decide) hf15 (fun _ h9 => h9) rfl dX5_goesOn_6 ?_
  refine lv_iload_n hx hb dX5_goesOn_9 rfl (lv_at hl 0 rfl) ?_
  refine lv_iand hx hb dX5_goesOn_10 ?_
  refine lv_istore_n (lv' := [(2, .int (strip_tops &&& r1)), (1, .int r1), (0, .ref h_strip)]) hx hb dX5_goesOn_11 rfl hl (by decide) rfl (fun ls hl => ?_)
  refine lv_iconst (v := (0 : Int32)) hx hb dX5_goesOn_12 (by decide) ?_
  refine lv_istore_n (lv' := [(3, .int (0 : Int32)), (2, .int (strip_tops &&& r1)), (1, .int r1), (0, .ref h_strip)]) hx hb dX5_goesOn_13 rfl hl (by decide) rfl (fun ls hl => ?_)
  exact C14 _ _ _ hq _ _ hP hD hS _ (lv_sub hl [3, 2, 1, 0] rfl)

abbrev W_X5_leastHeight (cI cJ cZ : ClassId) (h_strip h_strip_below h_rows h_rule h_strip_chosen h_strip_table h_strip_square h_strip_line h_strip_pushed h_rows_framed h_rows_power : Nat) (strip_tops : Int32) (strip_bottoms : Int32) (f_strip_below : Nat → Int32) (rows_c : Int32) (rows_w : Int32) (rows_size : Int32) (rows_ring : Int32) : va_W := [(h_strip, .inr (5, [.ref h_rule, .ref h_rows, .ref h_strip_below, .int strip_tops, .int strip_bottoms, .ref h_strip_chosen, .ref h_strip_table, .ref h_strip_square, .ref h_strip_line, .ref h_strip_pushed])), (h_strip_below, .inl (cI, 27, .inl f_strip_below)), (h_rows, .inr (2, [.int rows_c, .int rows_w, .int rows_size, .int rows_ring, .ref h_rows_framed, .ref h_rows_power]))]
abbrev rm_X5_leastHeight : Room := { frames := 1, cells := 0, slots := 0, locals := 23 }
def r_X5_leastHeight_7 (strip_tops : Int32) (strip_bottoms : Int32) (f_strip_below : Nat → Int32) (rows_size : Int32) (post : Int32 → Prop) : Nat → (Int32) → (Int32) → Prop
  | 0, _, _ => False
  | n + 1, l1, l2 => ((rows_size < l2 → (post (-1 : Int32))) ∧ (¬ rows_size < l2 → (((l1 &&& strip_bottoms) = 0 → (q_X5_after f_strip_below rows_size l1 (fun (r3 : Int32) => ((r_X5_leastHeight_7 strip_tops strip_bottoms f_strip_below rows_size post n) r3 (l2 + (1 : Int32)))))) ∧ (¬ (l1 &&& strip_bottoms) = 0 → (post l2)))))
def q_X5_leastHeight_7 (strip_tops : Int32) (strip_bottoms : Int32) (f_strip_below : Nat → Int32) (rows_size : Int32) (post : Int32 → Prop) (l1 : Int32) (l2 : Int32) : Prop := ∃ n, r_X5_leastHeight_7 strip_tops strip_bottoms f_strip_below rows_size post n l1 l2
def q_X5_leastHeight (strip_tops : Int32) (strip_bottoms : Int32) (f_strip_below : Nat → Int32) (rows_size : Int32) (post : Int32 → Prop) : Prop := ((q_X5_leastHeight_7 strip_tops strip_bottoms f_strip_below rows_size post) strip_tops (1 : Int32))
theorem hdV_X5_leastHeight : yX5_leastHeight.cls = RX5 ∧ yX5_leastHeight.cls ≠ "java/lang/invoke/MethodHandle" ∧ yX5_leastHeight.cls ≠ "java/lang/invoke/VarHandle" ∧ (parseMethodDescriptor yX5_leastHeight.desc).map (fun d => d.parameters.length) = some 0 := by decide +kernel
set_option maxHeartbeats 4000000 in
set_option maxRecDepth 100000 in
theorem c_X5_leastHeight (l : Launch) (dC : Nat → ClassId) (dI : Nat → Nat → Nat) (cI cJ cZ : ClassId) (h_strip h_strip_below h_rows h_rule h_strip_chosen h_strip_table h_strip_square h_strip_line h_strip_pushed h_rows_framed h_rows_power : Nat) (sz : Nat) (strip_tops : Int32) (strip_bottoms : Int32) (f_strip_below : Nat → Int32) (rows_c : Int32) (rows_w : Int32) (rows_size : Int32) (rows_ring : Int32)  {post : Int32 → Prop} (hq : q_X5_leastHeight strip_tops strip_bottoms f_strip_below rows_size post) : Met l yX5_leastHeight wsX5_leastHeight rm_X5_leastHeight (va_Pc [.ref h_strip] (gx_Pre (dC, dI) vwCl (gx_tys cI cJ cZ) sz (W_X5_leastHeight cI cJ cZ h_strip h_strip_below h_rows h_rule h_strip_chosen h_strip_table h_strip_square h_strip_line h_strip_pushed h_rows_framed h_rows_power strip_tops strip_bottoms f_strip_below rows_c rows_w rows_size rows_ring))) (va_Qi (fun (r : Int32) (u : Unit) => post r) (gx_B (dC, dI) vwCl (gx_tys cI cJ cZ) (va_A (W_X5_leastHeight cI cJ cZ h_strip h_strip_below h_rows h_rule h_strip_chosen h_strip_table h_strip_square h_strip_line h_strip_pushed h_rows_framed h_rows_power strip_tops strip_bottoms f_strip_below rows_c rows_w rows_size rows_ring) sz) (fun (u : Unit) => (W_X5_leastHeight cI cJ cZ h_strip h_strip_below h_rows h_rule h_strip_chosen h_strip_table h_strip_square h_strip_line h_strip_pushed h_rows_framed h_rows_power strip_tops strip_bottoms f_strip_below rows_c rows_w rows_size rows_ring))) (va_A (W_X5_leastHeight cI cJ cZ h_strip h_strip_below h_rows h_rule h_strip_chosen h_strip_table h_strip_square h_strip_line h_strip_pushed h_rows_framed h_rows_power strip_tops strip_bottoms f_strip_below rows_c rows_w rows_size rows_ring) sz)) 0 0 (va_A (W_X5_leastHeight cI cJ cZ h_strip h_strip_below h_rows h_rule h_strip_chosen h_strip_table h_strip_square h_strip_line h_strip_pushed h_rows_framed h_rows_power strip_tops strip_bottoms f_strip_below rows_c rows_w rows_size rows_ring) sz) := by
  refine gx_i (cc := cX5_leastHeight) (maxL := 3) (by decide) rfl (Nat.le_of_ble_eq_true rfl) ?_
  intro p e s m args below meth c A QQ hx hb hml hown hts hA hP hK hD hret ls hl
  have hown : s.vm.findClass RX5 = some m.cls := hown
  have hf15 := hts (.fieldLink RX5 15 "SmallWindows$Strip" "tops" "I") (by decide +kernel)
  have hf42 := hts (.fieldLink RX5 42 "SmallWindows$Strip" "rows" "LSmallWindows$Rows;") (by decide +kernel)
  have hf52 := hts (.fieldLink RX5 52 "SmallWindows$Rows" "size" "I") (by decide +kernel)
  have hf19 := hts (.fieldLink RX5 19 "SmallWindows$Strip" "bottoms" "I") (by decide +kernel)
  have hinX5 : ∀ w ∈ u_ws RX5 TX5 10, w ∈ wsX5_leastHeight := fun w h => List.mem_cons_of_mem _ ((List.mem_append_left _ (List.mem_append_right _ h)))
  have hinX2 : ∀ w ∈ u_ws RX2 TX2 6, w ∈ wsX5_leastHeight := fun w h => List.mem_cons_of_mem _ ((List.mem_append_right _ h))
  have hS : va_S A s.heap s.heap [] := va_S.rf
  have hl : lv_has ls 3 [(0, .ref h_strip)] := hl
  have L7 : ∀  (n : Nat) (l1 : Int32) (l2 : Int32), r_X5_leastHeight_7 strip_tops strip_bottoms f_strip_below rows_size post n l1 l2 → ∀ (H : Heap) (locs : List Loc), va_P (dC, dI) vwCl (W_X5_leastHeight cI cJ cZ h_strip h_strip_below h_rows h_rule h_strip_chosen h_strip_table h_strip_square h_strip_line h_strip_pushed h_rows_framed h_rows_power strip_tops strip_bottoms f_strip_below rows_c rows_w rows_size rows_ring) H → va_D A (W_X5_leastHeight cI cJ cZ h_strip h_strip_below h_rows h_rule h_strip_chosen h_strip_table h_strip_square h_strip_line h_strip_pushed h_rows_framed h_rows_power strip_tops strip_bottoms f_strip_below rows_c rows_w rows_size rows_ring) → va_S A s.heap H locs → ∀ ls : Array Slot, lv_has ls 3 [(0, .ref h_strip), (1, .int l1), (2, .int l2)] → W p l e rm_X5_leastHeight s m args below meth c H locs 0 0 QQ (F0 m 7 ls []) := by
    intro n
    induction n with
    | zero => intro l1 l2 hq; exact False.elim hq
    | succ n ih =>
      intro l1 l2 hq H locs hP hD hS ls hl
      unfold r_X5_leastHeight_7 at hq
      refine lv_iload_n hx hb dX5_leastHeight_7 rfl (lv_at hl 2 rfl) ?_
      refine lv_aload_n hx hb dX5_leastHeight_8 rfl (lv_at hl 0 rfl) ?_
      refine va_get (D := (dC, dI)) (ci := 5) (v := .ref h_rows) (C := RX5) (T := TX5) (N := 10) hx hb hts hinX5 hown hK hP 0 rfl rfl 1 (by decide) hf42 (fun _ h9 => h9) rfl dX5_leastHeight_9 ?_
      refine va_get (D := (dC, dI)) (ci := 2) (v := .int rows_size) (C := RX2) (T := TX2) (N := 6) hx hb hts hinX2 hown hK hP 2 rfl rfl 2 (by decide) hf52 (fun _ h9 => h9) rfl dX5_leastHeight_12 ?_
      refine lv_icmp_gt (tgt := 41) hx hb dX5_leastHeight_15 (by decide) (fun c1 => ?_) (fun c1 => ?_)
      · replace hq := hq.1 c1
        refine lv_iconst (v := (-1 : Int32)) hx hb dX5_leastHeight_41 (by decide) ?_
        exact hret (-1 : Int32) () hq _ _ hP hD hS _ _ dX5_leastHeight_42
      · replace hq := hq.2 c1
        refine lv_iload_n hx hb dX5_leastHeight_18 rfl (lv_at hl 1 rfl) ?_
        refine lv_aload_n hx hb dX5_leastHeight_19 rfl (lv_at hl 0 rfl) ?_
        refine va_get (D := (dC, dI)) (ci := 5) (v := .int strip_bottoms) (C := RX5) (T := TX5) (N := 10) hx hb hts hinX5 hown hK hP 0 rfl rfl 4 (by decide) hf19 (fun _ h9 => h9) rfl dX5_leastHeight_20 ?_
        refine lv_iand hx hb dX5_leastHeight_23 ?_
        refine lv_if_eq (tgt := 29) hx hb dX5_leastHeight_24 (by decide) (fun c2 => ?_) (fun c2 => ?_)
        · replace hq := hq.1 c2
          refine lv_aload_n hx hb dX5_leastHeight_29 rfl (lv_at hl 0 rfl) ?_
          refine lv_iload_n hx hb dX5_leastHeight_30 rfl (lv_at hl 1 rfl) ?_
          refine gx_cVi (C := RX5) (As := [.int l1]) (rest := []) ⟨hx, hb, hml, hown, hts⟩ (c_X5_after l dC dI cI cJ cZ h_strip h_strip_below h_rows h_rule h_strip_chosen h_strip_table h_strip_square h_strip_line h_strip_pushed h_rows_framed h_rows_power H.size strip_tops strip_bottoms f_strip_below rows_c rows_w rows_size rows_ring l1 hq) (cwV 1 hts gX5_leastHeight_X5_after rfl rfl rfl hdV_X5_after ⟨Nat.le_of_ble_eq_true rfl, Nat.le_of_ble_eq_true rfl⟩) hK hP hD hS hA [0, 1, 2] [] rfl rfl rfl rfl rfl (ci := 5) (q0 := 0) rfl rfl rfl rfl hl.1 (Nat.le_of_ble_eq_true rfl) dX5_leastHeight_31 rfl (fun r3 u H locs hq hP hD hS => ?_)
          try dsimp only at hq
          have hP : va_P (dC, dI) vwCl (W_X5_leastHeight cI cJ cZ h_strip h_strip_below h_rows h_rule h_strip_chosen h_strip_table h_strip_square h_strip_line h_strip_pushed h_rows_framed h_rows_power strip_tops strip_bottoms f_strip_below rows_c rows_w rows_size rows_ring) H := hP
          have hD : va_D A (W_X5_leastHeight cI cJ cZ h_strip h_strip_below h_rows h_rule h_strip_chosen h_strip_table h_strip_square h_strip_line h_strip_pushed h_rows_framed h_rows_power strip_tops strip_bottoms f_strip_below rows_c rows_w rows_size rows_ring) := hD
          refine lv_istore_n (lv' := [(1, .int r3), (0, .ref h_strip), (2, .int l2)]) hx hb dX5_leastHeight_34 rfl hl (by decide) rfl (fun ls hl => ?_)
          refine lv_iinc (v := (l2 + (1 : Int32))) (lv' := [(2, .int (l2 + (1 : Int32))), (1, .int r3), (0, .ref h_strip)]) hx hb dX5_leastHeight_35 hl (k := 2) rfl rfl (by decide) rfl (fun ls hl => ?_)
          refine lv_goto (tgt := 7) hx hb dX5_leastHeight_38 (by decide) ?_
          exact ih _ _ hq _ _ hP hD hS _ (lv_sub hl [2, 1, 0] rfl)
        · replace hq := hq.2 c2
          refine lv_iload_n hx hb dX5_leastHeight_27 rfl (lv_at hl 2 rfl) ?_
          exact hret l2 () hq _ _ hP hD hS _ _ dX5_leastHeight_28
  have C7 : ∀ (l1 : Int32) (l2 : Int32), q_X5_leastHeight_7 strip_tops strip_bottoms f_strip_below rows_size post l1 l2 → ∀ (H : Heap) (locs : List Loc), va_P (dC, dI) vwCl (W_X5_leastHeight cI cJ cZ h_strip h_strip_below h_rows h_rule h_strip_chosen h_strip_table h_strip_square h_strip_line h_strip_pushed h_rows_framed h_rows_power strip_tops strip_bottoms f_strip_below rows_c rows_w rows_size rows_ring) H → va_D A (W_X5_leastHeight cI cJ cZ h_strip h_strip_below h_rows h_rule h_strip_chosen h_strip_table h_strip_square h_strip_line h_strip_pushed h_rows_framed h_rows_power strip_tops strip_bottoms f_strip_below rows_c rows_w rows_size rows_ring) → va_S A s.heap H locs → ∀ ls : Array Slot, lv_has ls 3 [(0, .ref h_strip), (1, .int l1), (2, .int l2)] → W p l e rm_X5_leastHeight s m args below meth c H locs 0 0 QQ (F0 m 7 ls []) := by
    intro l1 l2 hq H locs hP hD hS ls hl
    obtain ⟨n, hq⟩ := hq
    exact L7 n _ _ hq H locs hP hD hS ls hl
  unfold q_X5_leastHeight at hq
  refine lv_aload_n hx hb dX5_leastHeight_0 rfl (lv_at hl 0 rfl) ?_
  refine va_get (D := (dC, dI)) (ci := 5) (v := .int strip_tops) (C := RX5) (T := TX5) (N := 10) hx hb hts hinX5 hown hK hP 0 rfl rfl 3 (by decide) hf15 (fun _ h9 => h9) rfl dX5_leastHeight_1 ?_
  refine lv_istore_n (lv' := [(1, .int strip_tops), (0, .ref h_strip)]) hx hb dX5_leastHeight_4 rfl hl (by decide) rfl (fun ls hl => ?_)
  refine lv_iconst (v := (1 : Int32)) hx hb dX5_leastHeight_5 (by decide) ?_
  refine lv_istore_n (lv' := [(2, .int (1 : Int32)), (1, .int strip_tops), (0, .ref h_strip)]) hx hb dX5_leastHeight_6 rfl hl (by decide) rfl (fun ls hl => ?_)
  exact C7 _ _ hq _ _ hP hD hS _ (lv_sub hl [2, 1, 0] rfl)

abbrev W_X5_choose (cI cJ cZ : ClassId) (h_strip h_strip_below h_strip_chosen h_strip_table h_strip_line h_rows h_rule h_strip_square h_strip_pushed h_rows_framed h_rows_power : Nat) (strip_tops : Int32) (strip_bottoms : Int32) (f_strip_below : Nat → Int32) (f_strip_chosen : Nat → Int32) (f_strip_table : Nat → Int64) (f_strip_line : Nat → Int64) (rows_c : Int32) (rows_w : Int32) (rows_size : Int32) (rows_ring : Int32) : va_W := [(h_strip, .inr (5, [.ref h_rule, .ref h_rows, .ref h_strip_below, .int strip_tops, .int strip_bottoms, .ref h_strip_chosen, .ref h_strip_table, .ref h_strip_square, .ref h_strip_line, .ref h_strip_pushed])), (h_strip_below, .inl (cI, 27, .inl f_strip_below)), (h_strip_chosen, .inl (cI, 27, .inl f_strip_chosen)), (h_strip_table, .inl (cJ, 729, .inr (.inl f_strip_table))), (h_strip_line, .inl (cJ, 27, .inr (.inl f_strip_line))), (h_rows, .inr (2, [.int rows_c, .int rows_w, .int rows_size, .int rows_ring, .ref h_rows_framed, .ref h_rows_power]))]
abbrev rm_X5_choose : Room := { frames := 3, cells := 0, slots := 0, locals := 65 }
def r_X5_choose_9 (strip_tops : Int32) (strip_bottoms : Int32) (f_strip_below : Nat → Int32) (rows_size : Int32) (post : Int32 → (Nat → Int32) → (Nat → Int64) → (Nat → Int64) → Prop) (K44 : (Int32) → (Nat → Int32) → (Nat → Int64) → (Nat → Int64) → Prop) (l1 : Int32) (f_strip_table : Nat → Int64) (f_strip_line : Nat → Int64) : Nat → (Int32) → (Int32) → (Nat → Int32) → Prop
  | 0, _, _, _ => False
  | n + 1, l2, l3, f_strip_chosen => ((rows_size ≤ l3 → (K44 l2 f_strip_chosen f_strip_table f_strip_line)) ∧ (¬ rows_size ≤ l3 → ((((l1 >>> (l3 &&& 31)) &&& (1 : Int32)) = 0 → ((r_X5_choose_9 strip_tops strip_bottoms f_strip_below rows_size post K44 l1 f_strip_table f_strip_line n) l2 (l3 + (1 : Int32)) f_strip_chosen)) ∧ (¬ ((l1 >>> (l3 &&& 31)) &&& (1 : Int32)) = 0 → (vp_in l2 27 ∧ ((r_X5_choose_9 strip_tops strip_bottoms f_strip_below rows_size post K44 l1 f_strip_table f_strip_line n) (l2 + (1 : Int32)) (l3 + (1 : Int32)) (upd f_strip_chosen (l2).toNatClampNeg l3)))))))
def r_X5_choose_74 (strip_tops : Int32) (strip_bottoms : Int32) (f_strip_below : Nat → Int32) (rows_size : Int32) (l2 : Int32) (f_strip_chosen : Nat → Int32) (post : Int32 → (Nat → Int32) → (Nat → Int64) → (Nat → Int64) → Prop) (K119 : (Int32) → (Nat → Int64) → (Nat → Int64) → Prop) (l3 : Int32) (f_strip_line : Nat → Int64) : Nat → (Int32) → (Nat → Int64) → Prop
  | 0, _, _ => False
  | n + 1, l4, f_strip_table => ((l2 ≤ l4 → (K119 l3 f_strip_table f_strip_line)) ∧ (¬ l2 ≤ l4 → (vp_in l3 27 ∧ (vp_in (f_strip_chosen (l3).toNatClampNeg) 27 ∧ (vp_in l4 27 ∧ (vp_in ((l3 * l2) + l4) 729 ∧ ((r_X5_choose_74 strip_tops strip_bottoms f_strip_below rows_size l2 f_strip_chosen post K119 l3 f_strip_line n) (l4 + (1 : Int32)) (vp_updL f_strip_table (((l3 * l2) + l4)).toNatClampNeg ((((f_strip_below ((f_strip_chosen (l3).toNatClampNeg)).toNatClampNeg) >>> ((f_strip_chosen (l4).toNatClampNeg) &&& 31)) &&& (1 : Int32)).toInt64)))))))))
def q_X5_choose_119 (strip_tops : Int32) (strip_bottoms : Int32) (f_strip_below : Nat → Int32) (rows_size : Int32) (l2 : Int32) (f_strip_chosen : Nat → Int32) (post : Int32 → (Nat → Int32) → (Nat → Int64) → (Nat → Int64) → Prop) (K46 : (Int32) → (Nat → Int64) → (Nat → Int64) → Prop) (l3 : Int32) (f_strip_table : Nat → Int64) (f_strip_line : Nat → Int64) : Prop := (K46 (l3 + (1 : Int32)) f_strip_table f_strip_line)
def q_X5_choose_74 (strip_tops : Int32) (strip_bottoms : Int32) (f_strip_below : Nat → Int32) (rows_size : Int32) (l2 : Int32) (f_strip_chosen : Nat → Int32) (post : Int32 → (Nat → Int32) → (Nat → Int64) → (Nat → Int64) → Prop) (K46 : (Int32) → (Nat → Int64) → (Nat → Int64) → Prop) (l3 : Int32) (l4 : Int32) (f_strip_table : Nat → Int64) (f_strip_line : Nat → Int64) : Prop := ∃ n, r_X5_choose_74 strip_tops strip_bottoms f_strip_below rows_size l2 f_strip_chosen post (q_X5_choose_119 strip_tops strip_bottoms f_strip_below rows_size l2 f_strip_chosen post K46) l3 f_strip_line n l4 f_strip_table
def r_X5_choose_46 (strip_tops : Int32) (strip_bottoms : Int32) (f_strip_below : Nat → Int32) (rows_size : Int32) (post : Int32 → (Nat → Int32) → (Nat → Int64) → (Nat → Int64) → Prop) (l2 : Int32) (f_strip_chosen : Nat → Int32) : Nat → (Int32) → (Nat → Int64) → (Nat → Int64) → Prop
  | 0, _, _, _ => False
  | n + 1, l3, f_strip_table, f_strip_line => ((l2 ≤ l3 → (post l2 f_strip_chosen f_strip_table f_strip_line)) ∧ (¬ l2 ≤ l3 → (vp_in l3 27 ∧ (vp_in l3 27 ∧ ((q_X5_choose_74 strip_tops strip_bottoms f_strip_below rows_size l2 f_strip_chosen post (r_X5_choose_46 strip_tops strip_bottoms f_strip_below rows_size post l2 f_strip_chosen n)) l3 (0 : Int32) f_strip_table (vp_updL f_strip_line (l3).toNatClampNeg (((strip_tops >>> ((f_strip_chosen (l3).toNatClampNeg) &&& 31)) &&& (1 : Int32)).toInt64)))))))
def q_X5_choose_46 (strip_tops : Int32) (strip_bottoms : Int32) (f_strip_below : Nat → Int32) (rows_size : Int32) (post : Int32 → (Nat → Int32) → (Nat → Int64) → (Nat → Int64) → Prop) (l2 : Int32) (l3 : Int32) (f_strip_chosen : Nat → Int32) (f_strip_table : Nat → Int64) (f_strip_line : Nat → Int64) : Prop := ∃ n, r_X5_choose_46 strip_tops strip_bottoms f_strip_below rows_size post l2 f_strip_chosen n l3 f_strip_table f_strip_line
def q_X5_choose_44 (strip_tops : Int32) (strip_bottoms : Int32) (f_strip_below : Nat → Int32) (rows_size : Int32) (post : Int32 → (Nat → Int32) → (Nat → Int64) → (Nat → Int64) → Prop) (l2 : Int32) (f_strip_chosen : Nat → Int32) (f_strip_table : Nat → Int64) (f_strip_line : Nat → Int64) : Prop := ((q_X5_choose_46 strip_tops strip_bottoms f_strip_below rows_size post) l2 (0 : Int32) f_strip_chosen f_strip_table f_strip_line)
def q_X5_choose_9 (strip_tops : Int32) (strip_bottoms : Int32) (f_strip_below : Nat → Int32) (rows_size : Int32) (post : Int32 → (Nat → Int32) → (Nat → Int64) → (Nat → Int64) → Prop) (l1 : Int32) (l2 : Int32) (l3 : Int32) (f_strip_chosen : Nat → Int32) (f_strip_table : Nat → Int64) (f_strip_line : Nat → Int64) : Prop := ∃ n, r_X5_choose_9 strip_tops strip_bottoms f_strip_below rows_size post (q_X5_choose_44 strip_tops strip_bottoms f_strip_below rows_size post) l1 f_strip_table f_strip_line n l2 l3 f_strip_chosen
def q_X5_choose (strip_tops : Int32) (strip_bottoms : Int32) (f_strip_below : Nat → Int32) (rows_size : Int32) (f_strip_chosen : Nat → Int32) (f_strip_table : Nat → Int64) (f_strip_line : Nat → Int64) (post : Int32 → (Nat → Int32) → (Nat → Int64) → (Nat → Int64) → Prop) : Prop := (q_X5_used strip_tops strip_bottoms f_strip_below rows_size (fun (r1 : Int32) => ((q_X5_choose_9 strip_tops strip_bottoms f_strip_below rows_size post) r1 (0 : Int32) (0 : Int32) f_strip_chosen f_strip_table f_strip_line)))
theorem hdV_X5_choose : yX5_choose.cls = RX5 ∧ yX5_choose.cls ≠ "java/lang/invoke/MethodHandle" ∧ yX5_choose.cls ≠ "java/lang/invoke/VarHandle" ∧ (parseMethodDescriptor yX5_choose.desc).map (fun d => d.parameters.length) = some 0 := by decide +kernel
set_option maxHeartbeats 4000000 in
set_option maxRecDepth 100000 in
theorem c_X5_choose (l : Launch) (dC : Nat → ClassId) (dI : Nat → Nat → Nat) (cI cJ cZ : ClassId) (h_strip h_strip_below h_strip_chosen h_strip_table h_strip_line h_rows h_rule h_strip_square h_strip_pushed h_rows_framed h_rows_power : Nat) (sz : Nat) (strip_tops : Int32) (strip_bottoms : Int32) (f_strip_below : Nat → Int32) (f_strip_chosen : Nat → Int32) (f_strip_table : Nat → Int64) (f_strip_line : Nat → Int64) (rows_c : Int32) (rows_w : Int32) (rows_size : Int32) (rows_ring : Int32)  {post : Int32 → (Nat → Int32) → (Nat → Int64) → (Nat → Int64) → Prop} (hq : q_X5_choose strip_tops strip_bottoms f_strip_below rows_size f_strip_chosen f_strip_table f_strip_line post) : Met l yX5_choose wsX5_choose rm_X5_choose (va_Pc [.ref h_strip] (gx_Pre (dC, dI) vwCl (gx_tys cI cJ cZ) sz (W_X5_choose cI cJ cZ h_strip h_strip_below h_strip_chosen h_strip_table h_strip_line h_rows h_rule h_strip_square h_strip_pushed h_rows_framed h_rows_power strip_tops strip_bottoms f_strip_below f_strip_chosen f_strip_table f_strip_line rows_c rows_w rows_size rows_ring))) (va_Qi (fun (r : Int32) (u : (Nat → Int32) × (Nat → Int64) × (Nat → Int64)) => post r u.1 u.2.1 u.2.2) (gx_B (dC, dI) vwCl (gx_tys cI cJ cZ) (va_A (W_X5_choose cI cJ cZ h_strip h_strip_below h_strip_chosen h_strip_table h_strip_line h_rows h_rule h_strip_square h_strip_pushed h_rows_framed h_rows_power strip_tops strip_bottoms f_strip_below f_strip_chosen f_strip_table f_strip_line rows_c rows_w rows_size rows_ring) sz) (fun (u : (Nat → Int32) × (Nat → Int64) × (Nat → Int64)) => (W_X5_choose cI cJ cZ h_strip h_strip_below h_strip_chosen h_strip_table h_strip_line h_rows h_rule h_strip_square h_strip_pushed h_rows_framed h_rows_power strip_tops strip_bottoms f_strip_below u.1 u.2.1 u.2.2 rows_c rows_w rows_size rows_ring))) (va_A (W_X5_choose cI cJ cZ h_strip h_strip_below h_strip_chosen h_strip_table h_strip_line h_rows h_rule h_strip_square h_strip_pushed h_rows_framed h_rows_power strip_tops strip_bottoms f_strip_below f_strip_chosen f_strip_table f_strip_line rows_c rows_w rows_size rows_ring) sz)) 0 0 (va_A (W_X5_choose cI cJ cZ h_strip h_strip_below h_strip_chosen h_strip_table h_strip_line h_rows h_rule h_strip_square h_strip_pushed h_rows_framed h_rows_power strip_tops strip_bottoms f_strip_below f_strip_chosen f_strip_table f_strip_line rows_c rows_w rows_size rows_ring) sz) := by
  refine gx_i (cc := cX5_choose) (maxL := 5) (by decide) rfl (Nat.le_of_ble_eq_true rfl) ?_
  intro p e s m args below meth c A QQ hx hb hml hown hts hA hP hK hD hret ls hl
  have hown : s.vm.findClass RX5 = some m.cls := hown
  have hf42 := hts (.fieldLink RX5 42 "SmallWindows$Strip" "rows" "LSmallWindows$Rows;") (by decide +kernel)
  have hf52 := hts (.fieldLink RX5 52 "SmallWindows$Rows" "size" "I") (by decide +kernel)
  have hf22 := hts (.fieldLink RX5 22 "SmallWindows$Strip" "chosen" "[I") (by decide +kernel)
  have hf32 := hts (.fieldLink RX5 32 "SmallWindows$Strip" "line" "[J") (by decide +kernel)
  have hf15 := hts (.fieldLink RX5 15 "SmallWindows$Strip" "tops" "I") (by decide +kernel)
  have hf25 := hts (.fieldLink RX5 25 "SmallWindows$Strip" "table" "[J") (by decide +kernel)
  have hf9 := hts (.fieldLink RX5 9 "SmallWindows$Strip" "below" "[I") (by decide +kernel)
  have hinX5 : ∀ w ∈ u_ws RX5 TX5 10, w ∈ wsX5_choose := fun w h => List.mem_cons_of_mem _ ((List.mem_append_left _ (List.mem_append_right _ h)))
  have hinX2 : ∀ w ∈ u_ws RX2 TX2 6, w ∈ wsX5_choose := fun w h => List.mem_cons_of_mem _ ((List.mem_append_right _ h))
  have hS : va_S A s.heap s.heap [] := va_S.rf
  have hl : lv_has ls 5 [(0, .ref h_strip)] := hl
  have L9 : ∀ (K44 : (Int32) → (Nat → Int32) → (Nat → Int64) → (Nat → Int64) → Prop) (hK44 : (∀ (l2 : Int32) (f_strip_chosen : Nat → Int32) (f_strip_table : Nat → Int64) (f_strip_line : Nat → Int64), K44 l2 f_strip_chosen f_strip_table f_strip_line → ∀ (H : Heap) (locs : List Loc), va_P (dC, dI) vwCl (W_X5_choose cI cJ cZ h_strip h_strip_below h_strip_chosen h_strip_table h_strip_line h_rows h_rule h_strip_square h_strip_pushed h_rows_framed h_rows_power strip_tops strip_bottoms f_strip_below f_strip_chosen f_strip_table f_strip_line rows_c rows_w rows_size rows_ring) H → va_D A (W_X5_choose cI cJ cZ h_strip h_strip_below h_strip_chosen h_strip_table h_strip_line h_rows h_rule h_strip_square h_strip_pushed h_rows_framed h_rows_power strip_tops strip_bottoms f_strip_below f_strip_chosen f_strip_table f_strip_line rows_c rows_w rows_size rows_ring) → va_S A s.heap H locs → ∀ ls : Array Slot, lv_has ls 5 [(0, .ref h_strip), (2, .int l2)] → W p l e rm_X5_choose s m args below meth c H locs 0 0 QQ (F0 m 44 ls []))) (l1 : Int32) (f_strip_table : Nat → Int64) (f_strip_line : Nat → Int64) (n : Nat) (l2 : Int32) (l3 : Int32) (f_strip_chosen : Nat → Int32), r_X5_choose_9 strip_tops strip_bottoms f_strip_below rows_size post K44 l1 f_strip_table f_strip_line n l2 l3 f_strip_chosen → ∀ (H : Heap) (locs : List Loc), va_P (dC, dI) vwCl (W_X5_choose cI cJ cZ h_strip h_strip_below h_strip_chosen h_strip_table h_strip_line h_rows h_rule h_strip_square h_strip_pushed h_rows_framed h_rows_power strip_tops strip_bottoms f_strip_below f_strip_chosen f_strip_table f_strip_line rows_c rows_w rows_size rows_ring) H → va_D A (W_X5_choose cI cJ cZ h_strip h_strip_below h_strip_chosen h_strip_table h_strip_line h_rows h_rule h_strip_square h_strip_pushed h_rows_framed h_rows_power strip_tops strip_bottoms f_strip_below f_strip_chosen f_strip_table f_strip_line rows_c rows_w rows_size rows_ring) → va_S A s.heap H locs → ∀ ls : Array Slot, lv_has ls 5 [(0, .ref h_strip), (1, .int l1), (2, .int l2), (3, .int l3)] → W p l e rm_X5_choose s m args below meth c H locs 0 0 QQ (F0 m 9 ls []) := by
    intro K44 hK44 l1 f_strip_table f_strip_line n
    induction n with
    | zero => intro l2 l3 f_strip_chosen hq; exact False.elim hq
    | succ n ih =>
      intro l2 l3 f_strip_chosen hq H locs hP hD hS ls hl
      unfold r_X5_choose_9 at hq
      refine lv_iload_n hx hb dX5_choose_9 rfl (lv_at hl 3 rfl) ?_
      refine lv_aload_n hx hb dX5_choose_10 rfl (lv_at hl 0 rfl) ?_
      refine va_get (D := (dC, dI)) (ci := 5) (v := .ref h_rows) (C := RX5) (T := TX5) (N := 10) hx hb hts hinX5 hown hK hP 0 rfl rfl 1 (by decide) hf42 (fun _ h9 => h9) rfl dX5_choose_11 ?_
      refine va_get (D := (dC, dI)) (ci := 2) (v := .int rows_size) (C := RX2) (T := TX2) (N := 6) hx hb hts hinX2 hown hK hP 5 rfl rfl 2 (by decide) hf52 (fun _ h9 => h9) rfl dX5_choose_14 ?_
      refine lv_icmp_ge (tgt := 44) hx hb dX5_choose_17 (by decide) (fun c2 => ?_) (fun c2 => ?_)
      · replace hq := hq.1 c2
        exact hK44 _ _ _ _ hq _ _ hP hD hS _ (lv_sub hl [0, 2] rfl)
      · replace hq := hq.2 c2
        refine lv_iload_n hx hb dX5_choose_20 rfl (lv_at hl 1 rfl) ?_
        refine lv_iload_n hx hb dX5_choose_21 rfl (lv_at hl 3 rfl) ?_
        refine lv_ishr hx hb dX5_choose_22 ?_
        refine lv_iconst (v := (1 : Int32)) hx hb dX5_choose_23 (by decide) ?_
        refine lv_iand hx hb dX5_choose_24 ?_
        refine lv_if_eq (tgt := 38) hx hb dX5_choose_25 (by decide) (fun c3 => ?_) (fun c3 => ?_)
        · replace hq := hq.1 c3
          refine lv_iinc (v := (l3 + (1 : Int32))) (lv' := [(3, .int (l3 + (1 : Int32))), (0, .ref h_strip), (1, .int l1), (2, .int l2)]) hx hb dX5_choose_38 hl (k := 3) rfl rfl (by decide) rfl (fun ls hl => ?_)
          refine lv_goto (tgt := 9) hx hb dX5_choose_41 (by decide) ?_
          exact ih _ _ _ hq _ _ hP hD hS _ (lv_sub hl [1, 2, 3, 0] rfl)
        · replace hq := hq.2 c3
          refine lv_aload_n hx hb dX5_choose_28 rfl (lv_at hl 0 rfl) ?_
          refine va_get (D := (dC, dI)) (ci := 5) (v := .ref h_strip_chosen) (C := RX5) (T := TX5) (N := 10) hx hb hts hinX5 hown hK hP 0 rfl rfl 5 (by decide) hf22 (fun _ h9 => h9) rfl dX5_choose_29 ?_
          refine lv_iload_n hx hb dX5_choose_32 rfl (lv_at hl 2 rfl) ?_
          refine lv_iload_n hx hb dX5_choose_33 rfl (lv_at hl 3 rfl) ?_
          obtain ⟨hv4, hq⟩ := hq
          refine va_iast hx hb hK hP hD hS 2 0 rfl rfl hv4 dX5_choose_34 (fun H locs hP hD hS => ?_)
          have hP : va_P (dC, dI) vwCl (W_X5_choose cI cJ cZ h_strip h_strip_below h_strip_chosen h_strip_table h_strip_line h_rows h_rule h_strip_square h_strip_pushed h_rows_framed h_rows_power strip_tops strip_bottoms f_strip_below (upd f_strip_chosen (l2).toNatClampNeg l3) f_strip_table f_strip_line rows_c rows_w rows_size rows_ring) H := hP
          have hD : va_D A (W_X5_choose cI cJ cZ h_strip h_strip_below h_strip_chosen h_strip_table h_strip_line h_rows h_rule h_strip_square h_strip_pushed h_rows_framed h_rows_power strip_tops strip_bottoms f_strip_below (upd f_strip_chosen (l2).toNatClampNeg l3) f_strip_table f_strip_line rows_c rows_w rows_size rows_ring) := hD
          refine lv_iinc (v := (l2 + (1 : Int32))) (lv' := [(2, .int (l2 + (1 : Int32))), (0, .ref h_strip), (1, .int l1), (3, .int l3)]) hx hb dX5_choose_35 hl (k := 2) rfl rfl (by decide) rfl (fun ls hl => ?_)
          refine lv_iinc (v := (l3 + (1 : Int32))) (lv' := [(3, .int (l3 + (1 : Int32))), (2, .int (l2 + (1 : Int32))), (0, .ref h_strip), (1, .int l1)]) hx hb dX5_choose_38 hl (k := 3) rfl rfl (by decide) rfl (fun ls hl => ?_)
          refine lv_goto (tgt := 9) hx hb dX5_choose_41 (by decide) ?_
          exact ih _ _ _ hq _ _ hP hD hS _ (lv_sub hl [2, 3, 1, 0] rfl)
  have L74 : ∀ (l2 : Int32) (f_strip_chosen : Nat → Int32) (K119 : (Int32) → (Nat → Int64) → (Nat → Int64) → Prop) (hK119 : (∀ (l3 : Int32) (f_strip_table : Nat → Int64) (f_strip_line : Nat → Int64), K119 l3 f_strip_table f_strip_line → ∀ (H : Heap) (locs : List Loc), va_P (dC, dI) vwCl (W_X5_choose cI cJ cZ h_strip h_strip_below h_strip_chosen h_strip_table h_strip_line h_rows h_rule h_strip_square h_strip_pushed h_rows_framed h_rows_power strip_tops strip_bottoms f_strip_below f_strip_chosen f_strip_table f_strip_line rows_c rows_w rows_size rows_ring) H → va_D A (W_X5_choose cI cJ cZ h_strip h_strip_below h_strip_chosen h_strip_table h_strip_line h_rows h_rule h_strip_square h_strip_pushed h_rows_framed h_rows_power strip_tops strip_bottoms f_strip_below f_strip_chosen f_strip_table f_strip_line rows_c rows_w rows_size rows_ring) → va_S A s.heap H locs → ∀ ls : Array Slot, lv_has ls 5 [(0, .ref h_strip), (2, .int l2), (3, .int l3)] → W p l e rm_X5_choose s m args below meth c H locs 0 0 QQ (F0 m 119 ls []))) (l3 : Int32) (f_strip_line : Nat → Int64) (n : Nat) (l4 : Int32) (f_strip_table : Nat → Int64), r_X5_choose_74 strip_tops strip_bottoms f_strip_below rows_size l2 f_strip_chosen post K119 l3 f_strip_line n l4 f_strip_table → ∀ (H : Heap) (locs : List Loc), va_P (dC, dI) vwCl (W_X5_choose cI cJ cZ h_strip h_strip_below h_strip_chosen h_strip_table h_strip_line h_rows h_rule h_strip_square h_strip_pushed h_rows_framed h_rows_power strip_tops strip_bottoms f_strip_below f_strip_chosen f_strip_table f_strip_line rows_c rows_w rows_size rows_ring) H → va_D A (W_X5_choose cI cJ cZ h_strip h_strip_below h_strip_chosen h_strip_table h_strip_line h_rows h_rule h_strip_square h_strip_pushed h_rows_framed h_rows_power strip_tops strip_bottoms f_strip_below f_strip_chosen f_strip_table f_strip_line rows_c rows_w rows_size rows_ring) → va_S A s.heap H locs → ∀ ls : Array Slot, lv_has ls 5 [(0, .ref h_strip), (2, .int l2), (3, .int l3), (4, .int l4)] → W p l e rm_X5_choose s m args below meth c H locs 0 0 QQ (F0 m 74 ls []) := by
    intro l2 f_strip_chosen K119 hK119 l3 f_strip_line n
    induction n with
    | zero => intro l4 f_strip_table hq; exact False.elim hq
    | succ n ih =>
      intro l4 f_strip_table hq H locs hP hD hS ls hl
      unfold r_X5_choose_74 at hq
      refine lv_iload hx hb dX5_choose_74 (lv_at hl 3 rfl) ?_
      refine lv_iload_n hx hb dX5_choose_76 rfl (lv_at hl 1 rfl) ?_
      refine lv_icmp_ge (tgt := 119) hx hb dX5_choose_77 (by decide) (fun c8 => ?_) (fun c8 => ?_)
      · replace hq := hq.1 c8
        exact hK119 _ _ _ hq _ _ hP hD hS _ (lv_sub hl [0, 1, 2] rfl)
      · replace hq := hq.2 c8
        refine lv_aload_n hx hb dX5_choose_80 rfl (lv_at hl 0 rfl) ?_
        refine va_get (D := (dC, dI)) (ci := 5) (v := .ref h_strip_table) (C := RX5) (T := TX5) (N := 10) hx hb hts hinX5 hown hK hP 0 rfl rfl 6 (by decide) hf25 (fun _ h9 => h9) rfl dX5_choose_81 ?_
        refine lv_iload_n hx hb dX5_choose_84 rfl (lv_at hl 2 rfl) ?_
        refine lv_iload_n hx hb dX5_choose_85 rfl (lv_at hl 1 rfl) ?_
        refine lv_imul hx hb dX5_choose_86 ?_
        refine lv_iload hx hb dX5_choose_87 (lv_at hl 3 rfl) ?_
        refine lv_iadd hx hb dX5_choose_89 ?_
        refine lv_aload_n hx hb dX5_choose_90 rfl (lv_at hl 0 rfl) ?_
        refine va_get (D := (dC, dI)) (ci := 5) (v := .ref h_strip_below) (C := RX5) (T := TX5) (N := 10) hx hb hts hinX5 hown hK hP 0 rfl rfl 2 (by decide) hf9 (fun _ h9 => h9) rfl dX5_choose_91 ?_
        refine lv_aload_n hx hb dX5_choose_94 rfl (lv_at hl 0 rfl) ?_
        refine va_get (D := (dC, dI)) (ci := 5) (v := .ref h_strip_chosen) (C := RX5) (T := TX5) (N := 10) hx hb hts hinX5 hown hK hP 0 rfl rfl 5 (by decide) hf22 (fun _ h9 => h9) rfl dX5_choose_95 ?_
        refine lv_iload_n hx hb dX5_choose_98 rfl (lv_at hl 2 rfl) ?_
        obtain ⟨hv9, hq⟩ := hq
        refine va_iald hx hb hK hP 2 0 rfl rfl hv9 dX5_choose_99 ?_
        obtain ⟨hv10, hq⟩ := hq
        refine va_iald hx hb hK hP 1 0 rfl rfl hv10 dX5_choose_100 ?_
        refine lv_aload_n hx hb dX5_choose_101 rfl (lv_at hl 0 rfl) ?_
        refine va_get (D := (dC, dI)) (ci := 5) (v := .ref h_strip_chosen) (C := RX5) (T := TX5) (N := 10) hx hb hts hinX5 hown hK hP 0 rfl rfl 5 (by decide) hf22 (fun _ h9 => h9) rfl dX5_choose_102 ?_
        refine lv_iload hx hb dX5_choose_105 (lv_at hl 3 rfl) ?_
        obtain ⟨hv11, hq⟩ := hq
        refine va_iald hx hb hK hP 2 0 rfl rfl hv11 dX5_choose_107 ?_
        refine lv_ishr hx hb dX5_choose_108 ?_
        refine lv_iconst (v := (1 : Int32)) hx hb dX5_choose_109 (by decide) ?_
        refine lv_iand hx hb dX5_choose_110 ?_
        refine lv_i2l hx hb dX5_choose_111 rfl ?_
        obtain ⟨hv12, hq⟩ := hq
        refine va_last hx hb hK hP hD hS 3 1 rfl rfl hv12 dX5_choose_112 (fun H locs hP hD hS => ?_)
        have hP : va_P (dC, dI) vwCl (W_X5_choose cI cJ cZ h_strip h_strip_below h_strip_chosen h_strip_table h_strip_line h_rows h_rule h_strip_square h_strip_pushed h_rows_framed h_rows_power strip_tops strip_bottoms f_strip_below f_strip_chosen (vp_updL f_strip_table (((l3 * l2) + l4)).toNatClampNeg ((((f_strip_below ((f_strip_chosen (l3).toNatClampNeg)).toNatClampNeg) >>> ((f_strip_chosen (l4).toNatClampNeg) &&& 31)) &&& (1 : Int32)).toInt64)) f_strip_line rows_c rows_w rows_size rows_ring) H := hP
        have hD : va_D A (W_X5_choose cI cJ cZ h_strip h_strip_below h_strip_chosen h_strip_table h_strip_line h_rows h_rule h_strip_square h_strip_pushed h_rows_framed h_rows_power strip_tops strip_bottoms f_strip_below f_strip_chosen (vp_updL f_strip_table (((l3 * l2) + l4)).toNatClampNeg ((((f_strip_below ((f_strip_chosen (l3).toNatClampNeg)).toNatClampNeg) >>> ((f_strip_chosen (l4).toNatClampNeg) &&& 31)) &&& (1 : Int32)).toInt64)) f_strip_line rows_c rows_w rows_size rows_ring) := hD
        refine lv_iinc (v := (l4 + (1 : Int32))) (lv' := [(4, .int (l4 + (1 : Int32))), (0, .ref h_strip), (2, .int l2), (3, .int l3)]) hx hb dX5_choose_113 hl (k := 3) rfl rfl (by decide) rfl (fun ls hl => ?_)
        refine lv_goto (tgt := 74) hx hb dX5_choose_116 (by decide) ?_
        exact ih _ _ hq _ _ hP hD hS _ (lv_sub hl [1, 2, 3, 0] rfl)
  have C119 : ∀ (l2 : Int32) (f_strip_chosen : Nat → Int32) (K46 : (Int32) → (Nat → Int64) → (Nat → Int64) → Prop) (hK46 : (∀ (l3 : Int32) (f_strip_table : Nat → Int64) (f_strip_line : Nat → Int64), K46 l3 f_strip_table f_strip_line → ∀ (H : Heap) (locs : List Loc), va_P (dC, dI) vwCl (W_X5_choose cI cJ cZ h_strip h_strip_below h_strip_chosen h_strip_table h_strip_line h_rows h_rule h_strip_square h_strip_pushed h_rows_framed h_rows_power strip_tops strip_bottoms f_strip_below f_strip_chosen f_strip_table f_strip_line rows_c rows_w rows_size rows_ring) H → va_D A (W_X5_choose cI cJ cZ h_strip h_strip_below h_strip_chosen h_strip_table h_strip_line h_rows h_rule h_strip_square h_strip_pushed h_rows_framed h_rows_power strip_tops strip_bottoms f_strip_below f_strip_chosen f_strip_table f_strip_line rows_c rows_w rows_size rows_ring) → va_S A s.heap H locs → ∀ ls : Array Slot, lv_has ls 5 [(0, .ref h_strip), (2, .int l2), (3, .int l3)] → W p l e rm_X5_choose s m args below meth c H locs 0 0 QQ (F0 m 46 ls []))) (l3 : Int32) (f_strip_table : Nat → Int64) (f_strip_line : Nat → Int64), q_X5_choose_119 strip_tops strip_bottoms f_strip_below rows_size l2 f_strip_chosen post K46 l3 f_strip_table f_strip_line → ∀ (H : Heap) (locs : List Loc), va_P (dC, dI) vwCl (W_X5_choose cI cJ cZ h_strip h_strip_below h_strip_chosen h_strip_table h_strip_line h_rows h_rule h_strip_square h_strip_pushed h_rows_framed h_rows_power strip_tops strip_bottoms f_strip_below f_strip_chosen f_strip_table f_strip_line rows_c rows_w rows_size rows_ring) H → va_D A (W_X5_choose cI cJ cZ h_strip h_strip_below h_strip_chosen h_strip_table h_strip_line h_rows h_rule h_strip_square h_strip_pushed h_rows_framed h_rows_power strip_tops strip_bottoms f_strip_below f_strip_chosen f_strip_table f_strip_line rows_c rows_w rows_size rows_ring) → va_S A s.heap H locs → ∀ ls : Array Slot, lv_has ls 5 [(0, .ref h_strip), (2, .int l2), (3, .int l3)] → W p l e rm_X5_choose s m args below meth c H locs 0 0 QQ (F0 m 119 ls []) := by
    intro l2 f_strip_chosen K46 hK46 l3 f_strip_table f_strip_line hq H locs hP hD hS ls hl
    unfold q_X5_choose_119 at hq
    refine lv_iinc (v := (l3 + (1 : Int32))) (lv' := [(3, .int (l3 + (1 : Int32))), (0, .ref h_strip), (2, .int l2)]) hx hb dX5_choose_119 hl (k := 2) rfl rfl (by decide) rfl (fun ls hl => ?_)
    refine lv_goto (tgt := 46) hx hb dX5_choose_122 (by decide) ?_
    exact hK46 _ _ _ hq _ _ hP hD hS _ (lv_sub hl [1, 2, 0] rfl)
  have C74 : ∀ (l2 : Int32) (f_strip_chosen : Nat → Int32) (K46 : (Int32) → (Nat → Int64) → (Nat → Int64) → Prop) (hK46 : (∀ (l3 : Int32) (f_strip_table : Nat → Int64) (f_strip_line : Nat → Int64), K46 l3 f_strip_table f_strip_line → ∀ (H : Heap) (locs : List Loc), va_P (dC, dI) vwCl (W_X5_choose cI cJ cZ h_strip h_strip_below h_strip_chosen h_strip_table h_strip_line h_rows h_rule h_strip_square h_strip_pushed h_rows_framed h_rows_power strip_tops strip_bottoms f_strip_below f_strip_chosen f_strip_table f_strip_line rows_c rows_w rows_size rows_ring) H → va_D A (W_X5_choose cI cJ cZ h_strip h_strip_below h_strip_chosen h_strip_table h_strip_line h_rows h_rule h_strip_square h_strip_pushed h_rows_framed h_rows_power strip_tops strip_bottoms f_strip_below f_strip_chosen f_strip_table f_strip_line rows_c rows_w rows_size rows_ring) → va_S A s.heap H locs → ∀ ls : Array Slot, lv_has ls 5 [(0, .ref h_strip), (2, .int l2), (3, .int l3)] → W p l e rm_X5_choose s m args below meth c H locs 0 0 QQ (F0 m 46 ls []))) (l3 : Int32) (l4 : Int32) (f_strip_table : Nat → Int64) (f_strip_line : Nat → Int64), q_X5_choose_74 strip_tops strip_bottoms f_strip_below rows_size l2 f_strip_chosen post K46 l3 l4 f_strip_table f_strip_line → ∀ (H : Heap) (locs : List Loc), va_P (dC, dI) vwCl (W_X5_choose cI cJ cZ h_strip h_strip_below h_strip_chosen h_strip_table h_strip_line h_rows h_rule h_strip_square h_strip_pushed h_rows_framed h_rows_power strip_tops strip_bottoms f_strip_below f_strip_chosen f_strip_table f_strip_line rows_c rows_w rows_size rows_ring) H → va_D A (W_X5_choose cI cJ cZ h_strip h_strip_below h_strip_chosen h_strip_table h_strip_line h_rows h_rule h_strip_square h_strip_pushed h_rows_framed h_rows_power strip_tops strip_bottoms f_strip_below f_strip_chosen f_strip_table f_strip_line rows_c rows_w rows_size rows_ring) → va_S A s.heap H locs → ∀ ls : Array Slot, lv_has ls 5 [(0, .ref h_strip), (2, .int l2), (3, .int l3), (4, .int l4)] → W p l e rm_X5_choose s m args below meth c H locs 0 0 QQ (F0 m 74 ls []) := by
    intro l2 f_strip_chosen K46 hK46 l3 l4 f_strip_table f_strip_line hq H locs hP hD hS ls hl
    obtain ⟨n, hq⟩ := hq
    exact L74 _ _ _ (C119 _ _ _ hK46) _ _ n _ _ hq H locs hP hD hS ls hl
  have L46 : ∀ (l2 : Int32) (f_strip_chosen : Nat → Int32) (n : Nat) (l3 : Int32) (f_strip_table : Nat → Int64) (f_strip_line : Nat → Int64), r_X5_choose_46 strip_tops strip_bottoms f_strip_below rows_size post l2 f_strip_chosen n l3 f_strip_table f_strip_line → ∀ (H : Heap) (locs : List Loc), va_P (dC, dI) vwCl (W_X5_choose cI cJ cZ h_strip h_strip_below h_strip_chosen h_strip_table h_strip_line h_rows h_rule h_strip_square h_strip_pushed h_rows_framed h_rows_power strip_tops strip_bottoms f_strip_below f_strip_chosen f_strip_table f_strip_line rows_c rows_w rows_size rows_ring) H → va_D A (W_X5_choose cI cJ cZ h_strip h_strip_below h_strip_chosen h_strip_table h_strip_line h_rows h_rule h_strip_square h_strip_pushed h_rows_framed h_rows_power strip_tops strip_bottoms f_strip_below f_strip_chosen f_strip_table f_strip_line rows_c rows_w rows_size rows_ring) → va_S A s.heap H locs → ∀ ls : Array Slot, lv_has ls 5 [(0, .ref h_strip), (2, .int l2), (3, .int l3)] → W p l e rm_X5_choose s m args below meth c H locs 0 0 QQ (F0 m 46 ls []) := by
    intro l2 f_strip_chosen n
    induction n with
    | zero => intro l3 f_strip_table f_strip_line hq; exact False.elim hq
    | succ n ih =>
      intro l3 f_strip_table f_strip_line hq H locs hP hD hS ls hl
      unfold r_X5_choose_46 at hq
      refine lv_iload_n hx hb dX5_choose_46 rfl (lv_at hl 2 rfl) ?_
      refine lv_iload_n hx hb dX5_choose_47 rfl (lv_at hl 1 rfl) ?_
      refine lv_icmp_ge (tgt := 125) hx hb dX5_choose_48 (by decide) (fun c5 => ?_) (fun c5 => ?_)
      · replace hq := hq.1 c5
        refine lv_iload_n hx hb dX5_choose_125 rfl (lv_at hl 1 rfl) ?_
        exact hret l2 (f_strip_chosen, f_strip_table, f_strip_line) hq _ _ hP hD hS _ _ dX5_choose_126
      · replace hq := hq.2 c5
        refine lv_aload_n hx hb dX5_choose_51 rfl (lv_at hl 0 rfl) ?_
        refine va_get (D := (dC, dI)) (ci := 5) (v := .ref h_strip_line) (C := RX5) (T := TX5) (N := 10) hx hb hts hinX5 hown hK hP 0 rfl rfl 8 (by decide) hf32 (fun _ h9 => h9) rfl dX5_choose_52 ?_
        refine lv_iload_n hx hb dX5_choose_55 rfl (lv_at hl 2 rfl) ?_
        refine lv_aload_n hx hb dX5_choose_56 rfl (lv_at hl 0 rfl) ?_
        refine va_get (D := (dC, dI)) (ci := 5) (v := .int strip_tops) (C := RX5) (T := TX5) (N := 10) hx hb hts hinX5 hown hK hP 0 rfl rfl 3 (by decide) hf15 (fun _ h9 => h9) rfl dX5_choose_57 ?_
        refine lv_aload_n hx hb dX5_choose_60 rfl (lv_at hl 0 rfl) ?_
        refine va_get (D := (dC, dI)) (ci := 5) (v := .ref h_strip_chosen) (C := RX5) (T := TX5) (N := 10) hx hb hts hinX5 hown hK hP 0 rfl rfl 5 (by decide) hf22 (fun _ h9 => h9) rfl dX5_choose_61 ?_
        refine lv_iload_n hx hb dX5_choose_64 rfl (lv_at hl 2 rfl) ?_
        obtain ⟨hv6, hq⟩ := hq
        refine va_iald hx hb hK hP 2 0 rfl rfl hv6 dX5_choose_65 ?_
        refine lv_ishr hx hb dX5_choose_66 ?_
        refine lv_iconst (v := (1 : Int32)) hx hb dX5_choose_67 (by decide) ?_
        refine lv_iand hx hb dX5_choose_68 ?_
        refine lv_i2l hx hb dX5_choose_69 rfl ?_
        obtain ⟨hv7, hq⟩ := hq
        refine va_last hx hb hK hP hD hS 4 1 rfl rfl hv7 dX5_choose_70 (fun H locs hP hD hS => ?_)
        have hP : va_P (dC, dI) vwCl (W_X5_choose cI cJ cZ h_strip h_strip_below h_strip_chosen h_strip_table h_strip_line h_rows h_rule h_strip_square h_strip_pushed h_rows_framed h_rows_power strip_tops strip_bottoms f_strip_below f_strip_chosen f_strip_table (vp_updL f_strip_line (l3).toNatClampNeg (((strip_tops >>> ((f_strip_chosen (l3).toNatClampNeg) &&& 31)) &&& (1 : Int32)).toInt64)) rows_c rows_w rows_size rows_ring) H := hP
        have hD : va_D A (W_X5_choose cI cJ cZ h_strip h_strip_below h_strip_chosen h_strip_table h_strip_line h_rows h_rule h_strip_square h_strip_pushed h_rows_framed h_rows_power strip_tops strip_bottoms f_strip_below f_strip_chosen f_strip_table (vp_updL f_strip_line (l3).toNatClampNeg (((strip_tops >>> ((f_strip_chosen (l3).toNatClampNeg) &&& 31)) &&& (1 : Int32)).toInt64)) rows_c rows_w rows_size rows_ring) := hD
        refine lv_iconst (v := (0 : Int32)) hx hb dX5_choose_71 (by decide) ?_
        refine lv_istore (lv' := [(4, .int (0 : Int32)), (0, .ref h_strip), (2, .int l2), (3, .int l3)]) hx hb dX5_choose_72 hl (by decide) rfl (fun ls hl => ?_)
        exact (C74 _ _ _ ih) _ _ _ _ hq _ _ hP hD hS _ (lv_sub hl [1, 2, 3, 0] rfl)
  have C46 : ∀ (l2 : Int32) (l3 : Int32) (f_strip_chosen : Nat → Int32) (f_strip_table : Nat → Int64) (f_strip_line : Nat → Int64), q_X5_choose_46 strip_tops strip_bottoms f_strip_below rows_size post l2 l3 f_strip_chosen f_strip_table f_strip_line → ∀ (H : Heap) (locs : List Loc), va_P (dC, dI) vwCl (W_X5_choose cI cJ cZ h_strip h_strip_below h_strip_chosen h_strip_table h_strip_line h_rows h_rule h_strip_square h_strip_pushed h_rows_framed h_rows_power strip_tops strip_bottoms f_strip_below f_strip_chosen f_strip_table f_strip_line rows_c rows_w rows_size rows_ring) H → va_D A (W_X5_choose cI cJ cZ h_strip h_strip_below h_strip_chosen h_strip_table h_strip_line h_rows h_rule h_strip_square h_strip_pushed h_rows_framed h_rows_power strip_tops strip_bottoms f_strip_below f_strip_chosen f_strip_table f_strip_line rows_c rows_w rows_size rows_ring) → va_S A s.heap H locs → ∀ ls : Array Slot, lv_has ls 5 [(0, .ref h_strip), (2, .int l2), (3, .int l3)] → W p l e rm_X5_choose s m args below meth c H locs 0 0 QQ (F0 m 46 ls []) := by
    intro l2 l3 f_strip_chosen f_strip_table f_strip_line hq H locs hP hD hS ls hl
    obtain ⟨n, hq⟩ := hq
    exact L46 _ _ n _ _ _ hq H locs hP hD hS ls hl
  have C44 : ∀ (l2 : Int32) (f_strip_chosen : Nat → Int32) (f_strip_table : Nat → Int64) (f_strip_line : Nat → Int64), q_X5_choose_44 strip_tops strip_bottoms f_strip_below rows_size post l2 f_strip_chosen f_strip_table f_strip_line → ∀ (H : Heap) (locs : List Loc), va_P (dC, dI) vwCl (W_X5_choose cI cJ cZ h_strip h_strip_below h_strip_chosen h_strip_table h_strip_line h_rows h_rule h_strip_square h_strip_pushed h_rows_framed h_rows_power strip_tops strip_bottoms f_strip_below f_strip_chosen f_strip_table f_strip_line rows_c rows_w rows_size rows_ring) H → va_D A (W_X5_choose cI cJ cZ h_strip h_strip_below h_strip_chosen h_strip_table h_strip_line h_rows h_rule h_strip_square h_strip_pushed h_rows_framed h_rows_power strip_tops strip_bottoms f_strip_below f_strip_chosen f_strip_table f_strip_line rows_c rows_w rows_size rows_ring) → va_S A s.heap H locs → ∀ ls : Array Slot, lv_has ls 5 [(0, .ref h_strip), (2, .int l2)] → W p l e rm_X5_choose s m args below meth c H locs 0 0 QQ (F0 m 44 ls []) := by
    intro l2 f_strip_chosen f_strip_table f_strip_line hq H locs hP hD hS ls hl
    unfold q_X5_choose_44 at hq
    refine lv_iconst (v := (0 : Int32)) hx hb dX5_choose_44 (by decide) ?_
    refine lv_istore_n (lv' := [(3, .int (0 : Int32)), (0, .ref h_strip), (2, .int l2)]) hx hb dX5_choose_45 rfl hl (by decide) rfl (fun ls hl => ?_)
    exact C46 _ _ _ _ _ hq _ _ hP hD hS _ (lv_sub hl [1, 2, 0] rfl)
  have C9 : ∀ (l1 : Int32) (l2 : Int32) (l3 : Int32) (f_strip_chosen : Nat → Int32) (f_strip_table : Nat → Int64) (f_strip_line : Nat → Int64), q_X5_choose_9 strip_tops strip_bottoms f_strip_below rows_size post l1 l2 l3 f_strip_chosen f_strip_table f_strip_line → ∀ (H : Heap) (locs : List Loc), va_P (dC, dI) vwCl (W_X5_choose cI cJ cZ h_strip h_strip_below h_strip_chosen h_strip_table h_strip_line h_rows h_rule h_strip_square h_strip_pushed h_rows_framed h_rows_power strip_tops strip_bottoms f_strip_below f_strip_chosen f_strip_table f_strip_line rows_c rows_w rows_size rows_ring) H → va_D A (W_X5_choose cI cJ cZ h_strip h_strip_below h_strip_chosen h_strip_table h_strip_line h_rows h_rule h_strip_square h_strip_pushed h_rows_framed h_rows_power strip_tops strip_bottoms f_strip_below f_strip_chosen f_strip_table f_strip_line rows_c rows_w rows_size rows_ring) → va_S A s.heap H locs → ∀ ls : Array Slot, lv_has ls 5 [(0, .ref h_strip), (1, .int l1), (2, .int l2), (3, .int l3)] → W p l e rm_X5_choose s m args below meth c H locs 0 0 QQ (F0 m 9 ls []) := by
    intro l1 l2 l3 f_strip_chosen f_strip_table f_strip_line hq H locs hP hD hS ls hl
    obtain ⟨n, hq⟩ := hq
    exact L9 _ C44 _ _ _ n _ _ _ hq H locs hP hD hS ls hl
  unfold q_X5_choose at hq
  refine lv_aload_n hx hb dX5_choose_0 rfl (lv_at hl 0 rfl) ?_
  refine gx_cVi (C := RX5) (As := []) (rest := []) ⟨hx, hb, hml, hown, hts⟩ (c_X5_used l dC dI cI cJ cZ h_strip h_strip_below h_rows h_rule h_strip_chosen h_strip_table h_strip_square h_strip_line h_strip_pushed h_rows_framed h_rows_power s.heap.size strip_tops strip_bottoms f_strip_below rows_c rows_w rows_size rows_ring hq) (cwV 0 hts gX5_choose_X5_used rfl rfl rfl hdV_X5_used ⟨Nat.le_of_ble_eq_true rfl, Nat.le_of_ble_eq_true rfl⟩) hK hP hD hS hA [0, 1, 5] [2, 3, 4] rfl rfl rfl rfl rfl (ci := 5) (q0 := 0) rfl rfl rfl rfl hl.1 (Nat.le_of_ble_eq_true rfl) dX5_choose_1 rfl (fun r1 u H locs hq hP hD hS => ?_)
  try dsimp only at hq
  have hP : va_P (dC, dI) vwCl (W_X5_choose cI cJ cZ h_strip h_strip_below h_strip_chosen h_strip_table h_strip_line h_rows h_rule h_strip_square h_strip_pushed h_rows_framed h_rows_power strip_tops strip_bottoms f_strip_below f_strip_chosen f_strip_table f_strip_line rows_c rows_w rows_size rows_ring) H := hP.sub [3, 4, 0, 1, 2, 5] rfl
  have hD : va_D A (W_X5_choose cI cJ cZ h_strip h_strip_below h_strip_chosen h_strip_table h_strip_line h_rows h_rule h_strip_square h_strip_pushed h_rows_framed h_rows_power strip_tops strip_bottoms f_strip_below f_strip_chosen f_strip_table f_strip_line rows_c rows_w rows_size rows_ring) := hD.sub [3, 4, 0, 1, 2, 5] (by decide) rfl
  refine lv_istore_n (lv' := [(1, .int r1), (0, .ref h_strip)]) hx hb dX5_choose_4 rfl hl (by decide) rfl (fun ls hl => ?_)
  refine lv_iconst (v := (0 : Int32)) hx hb dX5_choose_5 (by decide) ?_
  refine lv_istore_n (lv' := [(2, .int (0 : Int32)), (1, .int r1), (0, .ref h_strip)]) hx hb dX5_choose_6 rfl hl (by decide) rfl (fun ls hl => ?_)
  refine lv_iconst (v := (0 : Int32)) hx hb dX5_choose_7 (by decide) ?_
  refine lv_istore_n (lv' := [(3, .int (0 : Int32)), (2, .int (0 : Int32)), (1, .int r1), (0, .ref h_strip)]) hx hb dX5_choose_8 rfl hl (by decide) rfl (fun ls hl => ?_)
  exact C9 _ _ _ _ _ _ hq _ _ hP hD hS _ (lv_sub hl [3, 2, 1, 0] rfl)

abbrev W_X5_push (cI cJ cZ : ClassId) (h_strip h_strip_table h_strip_line h_strip_pushed h_rule h_rows h_strip_below h_strip_chosen h_strip_square : Nat) (strip_tops : Int32) (strip_bottoms : Int32) (f_strip_table : Nat → Int64) (f_strip_line : Nat → Int64) (f_strip_pushed : Nat → Int64) : va_W := [(h_strip, .inr (5, [.ref h_rule, .ref h_rows, .ref h_strip_below, .int strip_tops, .int strip_bottoms, .ref h_strip_chosen, .ref h_strip_table, .ref h_strip_square, .ref h_strip_line, .ref h_strip_pushed])), (h_strip_table, .inl (cJ, 729, .inr (.inl f_strip_table))), (h_strip_line, .inl (cJ, 27, .inr (.inl f_strip_line))), (h_strip_pushed, .inl (cJ, 27, .inr (.inl f_strip_pushed)))]
abbrev rm_X5_push : Room := { frames := 0, cells := 0, slots := 0, locals := 0 }
def r_X5_push_12 (f_strip_table : Nat → Int64) (l1 : Int32) (f_strip_line : Nat → Int64) (post : (Nat → Int64) → (Nat → Int64) → Prop) (K50 : (Int32) → (Int64) → (Nat → Int64) → Prop) (l2 : Int32) (f_strip_pushed : Nat → Int64) : Nat → (Int64) → (Int32) → Prop
  | 0, _, _ => False
  | n + 1, l3, l5 => ((l1 ≤ l5 → (K50 l2 l3 f_strip_pushed)) ∧ (¬ l1 ≤ l5 → (vp_in l5 27 ∧ (vp_in ((l5 * l1) + l2) 729 ∧ (∀ v5 : Int64, v5 = ((l3 + ((f_strip_line (l5).toNatClampNeg) * (f_strip_table (((l5 * l1) + l2)).toNatClampNeg))) - ((l3 + ((f_strip_line (l5).toNatClampNeg) * (f_strip_table (((l5 * l1) + l2)).toNatClampNeg))) / (1000000007 : Int64)) * (1000000007 : Int64)) → ((r_X5_push_12 f_strip_table l1 f_strip_line post K50 l2 f_strip_pushed n) v5 (l5 + (1 : Int32))))))))
def q_X5_push_50 (f_strip_table : Nat → Int64) (l1 : Int32) (f_strip_line : Nat → Int64) (post : (Nat → Int64) → (Nat → Int64) → Prop) (K63 : (Nat → Int64) → (Nat → Int64) → Prop) (K2 : (Int32) → (Nat → Int64) → Prop) (l2 : Int32) (l3 : Int64) (f_strip_pushed : Nat → Int64) : Prop := (vp_in l2 27 ∧ (K2 (l2 + (1 : Int32)) (vp_updL f_strip_pushed (l2).toNatClampNeg l3)))
def q_X5_push_12 (f_strip_table : Nat → Int64) (l1 : Int32) (f_strip_line : Nat → Int64) (post : (Nat → Int64) → (Nat → Int64) → Prop) (K63 : (Nat → Int64) → (Nat → Int64) → Prop) (K2 : (Int32) → (Nat → Int64) → Prop) (l2 : Int32) (l3 : Int64) (l5 : Int32) (f_strip_pushed : Nat → Int64) : Prop := ∃ n, r_X5_push_12 f_strip_table l1 f_strip_line post (q_X5_push_50 f_strip_table l1 f_strip_line post K63 K2) l2 f_strip_pushed n l3 l5
def r_X5_push_2 (f_strip_table : Nat → Int64) (post : (Nat → Int64) → (Nat → Int64) → Prop) (K63 : (Nat → Int64) → (Nat → Int64) → Prop) (l1 : Int32) (f_strip_line : Nat → Int64) : Nat → (Int32) → (Nat → Int64) → Prop
  | 0, _, _ => False
  | n + 1, l2, f_strip_pushed => ((l1 ≤ l2 → (K63 f_strip_line f_strip_pushed)) ∧ (¬ l1 ≤ l2 → ((q_X5_push_12 f_strip_table l1 f_strip_line post K63 (r_X5_push_2 f_strip_table post K63 l1 f_strip_line n)) l2 (0 : Int64) (0 : Int32) f_strip_pushed)))
def q_X5_push_63 (f_strip_table : Nat → Int64) (post : (Nat → Int64) → (Nat → Int64) → Prop) (f_strip_line : Nat → Int64) (f_strip_pushed : Nat → Int64) : Prop := (post f_strip_pushed f_strip_line)
def q_X5_push_2 (f_strip_table : Nat → Int64) (post : (Nat → Int64) → (Nat → Int64) → Prop) (l1 : Int32) (l2 : Int32) (f_strip_line : Nat → Int64) (f_strip_pushed : Nat → Int64) : Prop := ∃ n, r_X5_push_2 f_strip_table post (q_X5_push_63 f_strip_table post) l1 f_strip_line n l2 f_strip_pushed
def q_X5_push (f_strip_table : Nat → Int64) (f_strip_line : Nat → Int64) (f_strip_pushed : Nat → Int64) (l1 : Int32) (post : (Nat → Int64) → (Nat → Int64) → Prop) : Prop := ((q_X5_push_2 f_strip_table post) l1 (0 : Int32) f_strip_line f_strip_pushed)
theorem hdV_X5_push : yX5_push.cls = RX5 ∧ yX5_push.cls ≠ "java/lang/invoke/MethodHandle" ∧ yX5_push.cls ≠ "java/lang/invoke/VarHandle" ∧ (parseMethodDescriptor yX5_push.desc).map (fun d => d.parameters.length) = some 1 := by decide +kernel
set_option maxHeartbeats 4000000 in
set_option maxRecDepth 100000 in
theorem c_X5_push (l : Launch) (dC : Nat → ClassId) (dI : Nat → Nat → Nat) (cI cJ cZ : ClassId) (h_strip h_strip_table h_strip_line h_strip_pushed h_rule h_rows h_strip_below h_strip_chosen h_strip_square : Nat) (sz : Nat) (strip_tops : Int32) (strip_bottoms : Int32) (f_strip_table : Nat → Int64) (f_strip_line : Nat → Int64) (f_strip_pushed : Nat → Int64) (l1 : Int32) {post : (Nat → Int64) → (Nat → Int64) → Prop} (hq : q_X5_push f_strip_table f_strip_line f_strip_pushed l1 post) : Met l yX5_push wsX5_push rm_X5_push (va_Pc [.ref h_strip, .int l1] (gx_Pre (dC, dI) vwCl (gx_tys cI cJ cZ) sz (W_X5_push cI cJ cZ h_strip h_strip_table h_strip_line h_strip_pushed h_rule h_rows h_strip_below h_strip_chosen h_strip_square strip_tops strip_bottoms f_strip_table f_strip_line f_strip_pushed))) (va_Qv (fun (u : (Nat → Int64) × (Nat → Int64) × (Nat) × (Nat)) => post u.1 u.2.1) (gx_B (dC, dI) vwCl (gx_tys cI cJ cZ) (va_A (W_X5_push cI cJ cZ h_strip h_strip_table h_strip_line h_strip_pushed h_rule h_rows h_strip_below h_strip_chosen h_strip_square strip_tops strip_bottoms f_strip_table f_strip_line f_strip_pushed) sz) (fun (u : (Nat → Int64) × (Nat → Int64) × (Nat) × (Nat)) => (W_X5_push cI cJ cZ h_strip h_strip_table u.2.2.1 u.2.2.2 h_rule h_rows h_strip_below h_strip_chosen h_strip_square strip_tops strip_bottoms f_strip_table u.1 u.2.1))) (va_A (W_X5_push cI cJ cZ h_strip h_strip_table h_strip_line h_strip_pushed h_rule h_rows h_strip_below h_strip_chosen h_strip_square strip_tops strip_bottoms f_strip_table f_strip_line f_strip_pushed) sz)) 0 0 (va_A (W_X5_push cI cJ cZ h_strip h_strip_table h_strip_line h_strip_pushed h_rule h_rows h_strip_below h_strip_chosen h_strip_square strip_tops strip_bottoms f_strip_table f_strip_line f_strip_pushed) sz) := by
  refine gx_v (cc := cX5_push) (maxL := 6) (by decide) rfl (Nat.le_of_ble_eq_true rfl) ?_
  intro p e s m args below meth c A QQ hx hb hml hown hts hA hP hK hD hret ls hl
  have hown : s.vm.findClass RX5 = some m.cls := hown
  have hf32 := hts (.fieldLink RX5 32 "SmallWindows$Strip" "line" "[J") (by decide +kernel)
  have hf25 := hts (.fieldLink RX5 25 "SmallWindows$Strip" "table" "[J") (by decide +kernel)
  have hcl101 := hts (.constantLong RX5 101 (1000000007)) (by decide +kernel)
  have hf35 := hts (.fieldLink RX5 35 "SmallWindows$Strip" "pushed" "[J") (by decide +kernel)
  have hinX5 : ∀ w ∈ u_ws RX5 TX5 10, w ∈ wsX5_push := fun w h => List.mem_cons_of_mem _ ((List.mem_append_right _ h))
  have hS : va_S A s.heap s.heap [] := va_S.rf
  have hl : lv_has ls 6 [(0, .ref h_strip), (1, .int l1)] := hl
  have L12 : ∀ (l1 : Int32) (f_strip_line : Nat → Int64) (K50 : (Int32) → (Int64) → (Nat → Int64) → Prop) (hK50 : (∀ (l2 : Int32) (l3 : Int64) (f_strip_pushed : Nat → Int64), K50 l2 l3 f_strip_pushed → ∀ (H : Heap) (locs : List Loc) (h_strip_line : Nat) (h_strip_pushed : Nat), va_P (dC, dI) vwCl (W_X5_push cI cJ cZ h_strip h_strip_table h_strip_line h_strip_pushed h_rule h_rows h_strip_below h_strip_chosen h_strip_square strip_tops strip_bottoms f_strip_table f_strip_line f_strip_pushed) H → va_D A (W_X5_push cI cJ cZ h_strip h_strip_table h_strip_line h_strip_pushed h_rule h_rows h_strip_below h_strip_chosen h_strip_square strip_tops strip_bottoms f_strip_table f_strip_line f_strip_pushed) → va_S A s.heap H locs → ∀ ls : Array Slot, lv_has ls 6 [(0, .ref h_strip), (1, .int l1), (2, .int l2), (3, .long l3)] → W p l e rm_X5_push s m args below meth c H locs 0 0 QQ (F0 m 50 ls []))) (l2 : Int32) (f_strip_pushed : Nat → Int64) (n : Nat) (l3 : Int64) (l5 : Int32), r_X5_push_12 f_strip_table l1 f_strip_line post K50 l2 f_strip_pushed n l3 l5 → ∀ (H : Heap) (locs : List Loc) (h_strip_line : Nat) (h_strip_pushed : Nat), va_P (dC, dI) vwCl (W_X5_push cI cJ cZ h_strip h_strip_table h_strip_line h_strip_pushed h_rule h_rows h_strip_below h_strip_chosen h_strip_square strip_tops strip_bottoms f_strip_table f_strip_line f_strip_pushed) H → va_D A (W_X5_push cI cJ cZ h_strip h_strip_table h_strip_line h_strip_pushed h_rule h_rows h_strip_below h_strip_chosen h_strip_square strip_tops strip_bottoms f_strip_table f_strip_line f_strip_pushed) → va_S A s.heap H locs → ∀ ls : Array Slot, lv_has ls 6 [(0, .ref h_strip), (1, .int l1), (2, .int l2), (3, .long l3), (5, .int l5)] → W p l e rm_X5_push s m args below meth c H locs 0 0 QQ (F0 m 12 ls []) := by
    intro l1 f_strip_line K50 hK50 l2 f_strip_pushed n
    induction n with
    | zero => intro l3 l5 hq; exact False.elim hq
    | succ n ih =>
      intro l3 l5 hq H locs h_strip_line h_strip_pushed hP hD hS ls hl
      unfold r_X5_push_12 at hq
      refine lv_iload hx hb dX5_push_12 (lv_at hl 4 rfl) ?_
      refine lv_iload_n hx hb dX5_push_14 rfl (lv_at hl 1 rfl) ?_
      refine lv_icmp_ge (tgt := 50) hx hb dX5_push_15 (by decide) (fun c2 => ?_) (fun c2 => ?_)
      · replace hq := hq.1 c2
        exact hK50 _ _ _ hq _ _ _ _ hP hD hS _ (lv_sub hl [0, 1, 2, 3] rfl)
      · replace hq := hq.2 c2
        refine lv_lload_n hx hb dX5_push_18 rfl (lv_at hl 3 rfl) ?_
        refine lv_aload_n hx hb dX5_push_19 rfl (lv_at hl 0 rfl) ?_
        refine va_get (D := (dC, dI)) (ci := 5) (v := .ref h_strip_line) (C := RX5) (T := TX5) (N := 10) hx hb hts hinX5 hown hK hP 0 rfl rfl 8 (by decide) hf32 (fun _ h9 => h9) rfl dX5_push_20 ?_
        refine lv_iload hx hb dX5_push_23 (lv_at hl 4 rfl) ?_
        obtain ⟨hv3, hq⟩ := hq
        refine va_lald hx hb hK hP 2 1 rfl rfl hv3 dX5_push_25 ?_
        refine lv_aload_n hx hb dX5_push_26 rfl (lv_at hl 0 rfl) ?_
        refine va_get (D := (dC, dI)) (ci := 5) (v := .ref h_strip_table) (C := RX5) (T := TX5) (N := 10) hx hb hts hinX5 hown hK hP 0 rfl rfl 6 (by decide) hf25 (fun _ h9 => h9) rfl dX5_push_27 ?_
        refine lv_iload hx hb dX5_push_30 (lv_at hl 4 rfl) ?_
        refine lv_iload_n hx hb dX5_push_32 rfl (lv_at hl 1 rfl) ?_
        refine lv_imul hx hb dX5_push_33 ?_
        refine lv_iload_n hx hb dX5_push_34 rfl (lv_at hl 2 rfl) ?_
        refine lv_iadd hx hb dX5_push_35 ?_
        obtain ⟨hv4, hq⟩ := hq
        refine va_lald hx hb hK hP 1 1 rfl rfl hv4 dX5_push_36 ?_
        refine lv_lmul hx hb dX5_push_37 ?_
        refine lv_ladd hx hb dX5_push_38 ?_
        refine lv_ldc2 hx hb hown hcl101 dX5_push_39 ?_
        refine lv_lrem hx hb dX5_push_42 (by decide) ?_
        refine lv_topl (fun v5 ev5 => ?_)
        replace hq := hq v5 ev5
        refine lv_lstore_n (lv' := [(3, .long v5), (0, .ref h_strip), (1, .int l1), (2, .int l2), (5, .int l5)]) hx hb dX5_push_43 rfl hl (by decide) rfl (fun ls hl => ?_)
        refine lv_iinc (v := (l5 + (1 : Int32))) (lv' := [(5, .int (l5 + (1 : Int32))), (3, .long v5), (0, .ref h_strip), (1, .int l1), (2, .int l2)]) hx hb dX5_push_44 hl (k := 4) rfl rfl (by decide) rfl (fun ls hl => ?_)
        refine lv_goto (tgt := 12) hx hb dX5_push_47 (by decide) ?_
        exact ih _ _ hq _ _ _ _ hP hD hS _ (lv_sub hl [2, 3, 4, 1, 0] rfl)
  have C50 : ∀ (l1 : Int32) (f_strip_line : Nat → Int64) (K63 : (Nat → Int64) → (Nat → Int64) → Prop) (hK63 : (∀ (f_strip_line : Nat → Int64) (f_strip_pushed : Nat → Int64), K63 f_strip_line f_strip_pushed → ∀ (H : Heap) (locs : List Loc) (h_strip_line : Nat) (h_strip_pushed : Nat), va_P (dC, dI) vwCl (W_X5_push cI cJ cZ h_strip h_strip_table h_strip_line h_strip_pushed h_rule h_rows h_strip_below h_strip_chosen h_strip_square strip_tops strip_bottoms f_strip_table f_strip_line f_strip_pushed) H → va_D A (W_X5_push cI cJ cZ h_strip h_strip_table h_strip_line h_strip_pushed h_rule h_rows h_strip_below h_strip_chosen h_strip_square strip_tops strip_bottoms f_strip_table f_strip_line f_strip_pushed) → va_S A s.heap H locs → ∀ ls : Array Slot, lv_has ls 6 [(0, .ref h_strip)] → W p l e rm_X5_push s m args below meth c H locs 0 0 QQ (F0 m 63 ls []))) (K2 : (Int32) → (Nat → Int64) → Prop) (hK2 : (∀ (l2 : Int32) (f_strip_pushed : Nat → Int64), K2 l2 f_strip_pushed → ∀ (H : Heap) (locs : List Loc) (h_strip_line : Nat) (h_strip_pushed : Nat), va_P (dC, dI) vwCl (W_X5_push cI cJ cZ h_strip h_strip_table h_strip_line h_strip_pushed h_rule h_rows h_strip_below h_strip_chosen h_strip_square strip_tops strip_bottoms f_strip_table f_strip_line f_strip_pushed) H → va_D A (W_X5_push cI cJ cZ h_strip h_strip_table h_strip_line h_strip_pushed h_rule h_rows h_strip_below h_strip_chosen h_strip_square strip_tops strip_bottoms f_strip_table f_strip_line f_strip_pushed) → va_S A s.heap H locs → ∀ ls : Array Slot, lv_has ls 6 [(0, .ref h_strip), (1, .int l1), (2, .int l2)] → W p l e rm_X5_push s m args below meth c H locs 0 0 QQ (F0 m 2 ls []))) (l2 : Int32) (l3 : Int64) (f_strip_pushed : Nat → Int64), q_X5_push_50 f_strip_table l1 f_strip_line post K63 K2 l2 l3 f_strip_pushed → ∀ (H : Heap) (locs : List Loc) (h_strip_line : Nat) (h_strip_pushed : Nat), va_P (dC, dI) vwCl (W_X5_push cI cJ cZ h_strip h_strip_table h_strip_line h_strip_pushed h_rule h_rows h_strip_below h_strip_chosen h_strip_square strip_tops strip_bottoms f_strip_table f_strip_line f_strip_pushed) H → va_D A (W_X5_push cI cJ cZ h_strip h_strip_table h_strip_line h_strip_pushed h_rule h_rows h_strip_below h_strip_chosen h_strip_square strip_tops strip_bottoms f_strip_table f_strip_line f_strip_pushed) → va_S A s.heap H locs → ∀ ls : Array Slot, lv_has ls 6 [(0, .ref h_strip), (1, .int l1), (2, .int l2), (3, .long l3)] → W p l e rm_X5_push s m args below meth c H locs 0 0 QQ (F0 m 50 ls []) := by
    intro l1 f_strip_line K63 hK63 K2 hK2 l2 l3 f_strip_pushed hq H locs h_strip_line h_strip_pushed hP hD hS ls hl
    unfold q_X5_push_50 at hq
    refine lv_aload_n hx hb dX5_push_50 rfl (lv_at hl 0 rfl) ?_
    refine va_get (D := (dC, dI)) (ci := 5) (v := .ref h_strip_pushed) (C := RX5) (T := TX5) (N := 10) hx hb hts hinX5 hown hK hP 0 rfl rfl 9 (by decide) hf35 (fun _ h9 => h9) rfl dX5_push_51 ?_
    refine lv_iload_n hx hb dX5_push_54 rfl (lv_at hl 2 rfl) ?_
    refine lv_lload_n hx hb dX5_push_55 rfl (lv_at hl 3 rfl) ?_
    obtain ⟨hv6, hq⟩ := hq
    refine va_last hx hb hK hP hD hS 3 1 rfl rfl hv6 dX5_push_56 (fun H locs hP hD hS => ?_)
    have hP : va_P (dC, dI) vwCl (W_X5_push cI cJ cZ h_strip h_strip_table h_strip_line h_strip_pushed h_rule h_rows h_strip_below h_strip_chosen h_strip_square strip_tops strip_bottoms f_strip_table f_strip_line (vp_updL f_strip_pushed (l2).toNatClampNeg l3)) H := hP
    have hD : va_D A (W_X5_push cI cJ cZ h_strip h_strip_table h_strip_line h_strip_pushed h_rule h_rows h_strip_below h_strip_chosen h_strip_square strip_tops strip_bottoms f_strip_table f_strip_line (vp_updL f_strip_pushed (l2).toNatClampNeg l3)) := hD
    refine lv_iinc (v := (l2 + (1 : Int32))) (lv' := [(2, .int (l2 + (1 : Int32))), (0, .ref h_strip), (1, .int l1), (3, .long l3)]) hx hb dX5_push_57 hl (k := 2) rfl rfl (by decide) rfl (fun ls hl => ?_)
    refine lv_goto (tgt := 2) hx hb dX5_push_60 (by decide) ?_
    exact hK2 _ _ hq _ _ _ _ hP hD hS _ (lv_sub hl [1, 2, 0] rfl)
  have C12 : ∀ (l1 : Int32) (f_strip_line : Nat → Int64) (K63 : (Nat → Int64) → (Nat → Int64) → Prop) (hK63 : (∀ (f_strip_line : Nat → Int64) (f_strip_pushed : Nat → Int64), K63 f_strip_line f_strip_pushed → ∀ (H : Heap) (locs : List Loc) (h_strip_line : Nat) (h_strip_pushed : Nat), va_P (dC, dI) vwCl (W_X5_push cI cJ cZ h_strip h_strip_table h_strip_line h_strip_pushed h_rule h_rows h_strip_below h_strip_chosen h_strip_square strip_tops strip_bottoms f_strip_table f_strip_line f_strip_pushed) H → va_D A (W_X5_push cI cJ cZ h_strip h_strip_table h_strip_line h_strip_pushed h_rule h_rows h_strip_below h_strip_chosen h_strip_square strip_tops strip_bottoms f_strip_table f_strip_line f_strip_pushed) → va_S A s.heap H locs → ∀ ls : Array Slot, lv_has ls 6 [(0, .ref h_strip)] → W p l e rm_X5_push s m args below meth c H locs 0 0 QQ (F0 m 63 ls []))) (K2 : (Int32) → (Nat → Int64) → Prop) (hK2 : (∀ (l2 : Int32) (f_strip_pushed : Nat → Int64), K2 l2 f_strip_pushed → ∀ (H : Heap) (locs : List Loc) (h_strip_line : Nat) (h_strip_pushed : Nat), va_P (dC, dI) vwCl (W_X5_push cI cJ cZ h_strip h_strip_table h_strip_line h_strip_pushed h_rule h_rows h_strip_below h_strip_chosen h_strip_square strip_tops strip_bottoms f_strip_table f_strip_line f_strip_pushed) H → va_D A (W_X5_push cI cJ cZ h_strip h_strip_table h_strip_line h_strip_pushed h_rule h_rows h_strip_below h_strip_chosen h_strip_square strip_tops strip_bottoms f_strip_table f_strip_line f_strip_pushed) → va_S A s.heap H locs → ∀ ls : Array Slot, lv_has ls 6 [(0, .ref h_strip), (1, .int l1), (2, .int l2)] → W p l e rm_X5_push s m args below meth c H locs 0 0 QQ (F0 m 2 ls []))) (l2 : Int32) (l3 : Int64) (l5 : Int32) (f_strip_pushed : Nat → Int64), q_X5_push_12 f_strip_table l1 f_strip_line post K63 K2 l2 l3 l5 f_strip_pushed → ∀ (H : Heap) (locs : List Loc) (h_strip_line : Nat) (h_strip_pushed : Nat), va_P (dC, dI) vwCl (W_X5_push cI cJ cZ h_strip h_strip_table h_strip_line h_strip_pushed h_rule h_rows h_strip_below h_strip_chosen h_strip_square strip_tops strip_bottoms f_strip_table f_strip_line f_strip_pushed) H → va_D A (W_X5_push cI cJ cZ h_strip h_strip_table h_strip_line h_strip_pushed h_rule h_rows h_strip_below h_strip_chosen h_strip_square strip_tops strip_bottoms f_strip_table f_strip_line f_strip_pushed) → va_S A s.heap H locs → ∀ ls : Array Slot, lv_has ls 6 [(0, .ref h_strip), (1, .int l1), (2, .int l2), (3, .long l3), (5, .int l5)] → W p l e rm_X5_push s m args below meth c H locs 0 0 QQ (F0 m 12 ls []) := by
    intro l1 f_strip_line K63 hK63 K2 hK2 l2 l3 l5 f_strip_pushed hq H locs h_strip_line h_strip_pushed hP hD hS ls hl
    obtain ⟨n, hq⟩ := hq
    exact L12 _ _ _ (C50 _ _ _ hK63 _ hK2) _ _ n _ _ hq H locs _ _ hP hD hS ls hl
  have L2 : ∀ (K63 : (Nat → Int64) → (Nat → Int64) → Prop) (hK63 : (∀ (f_strip_line : Nat → Int64) (f_strip_pushed : Nat → Int64), K63 f_strip_line f_strip_pushed → ∀ (H : Heap) (locs : List Loc) (h_strip_line : Nat) (h_strip_pushed : Nat), va_P (dC, dI) vwCl (W_X5_push cI cJ cZ h_strip h_strip_table h_strip_line h_strip_pushed h_rule h_rows h_strip_below h_strip_chosen h_strip_square strip_tops strip_bottoms f_strip_table f_strip_line f_strip_pushed) H → va_D A (W_X5_push cI cJ cZ h_strip h_strip_table h_strip_line h_strip_pushed h_rule h_rows h_strip_below h_strip_chosen h_strip_square strip_tops strip_bottoms f_strip_table f_strip_line f_strip_pushed) → va_S A s.heap H locs → ∀ ls : Array Slot, lv_has ls 6 [(0, .ref h_strip)] → W p l e rm_X5_push s m args below meth c H locs 0 0 QQ (F0 m 63 ls []))) (l1 : Int32) (f_strip_line : Nat → Int64) (n : Nat) (l2 : Int32) (f_strip_pushed : Nat → Int64), r_X5_push_2 f_strip_table post K63 l1 f_strip_line n l2 f_strip_pushed → ∀ (H : Heap) (locs : List Loc) (h_strip_line : Nat) (h_strip_pushed : Nat), va_P (dC, dI) vwCl (W_X5_push cI cJ cZ h_strip h_strip_table h_strip_line h_strip_pushed h_rule h_rows h_strip_below h_strip_chosen h_strip_square strip_tops strip_bottoms f_strip_table f_strip_line f_strip_pushed) H → va_D A (W_X5_push cI cJ cZ h_strip h_strip_table h_strip_line h_strip_pushed h_rule h_rows h_strip_below h_strip_chosen h_strip_square strip_tops strip_bottoms f_strip_table f_strip_line f_strip_pushed) → va_S A s.heap H locs → ∀ ls : Array Slot, lv_has ls 6 [(0, .ref h_strip), (1, .int l1), (2, .int l2)] → W p l e rm_X5_push s m args below meth c H locs 0 0 QQ (F0 m 2 ls []) := by
    intro K63 hK63 l1 f_strip_line n
    induction n with
    | zero => intro l2 f_strip_pushed hq; exact False.elim hq
    | succ n ih =>
      intro l2 f_strip_pushed hq H locs h_strip_line h_strip_pushed hP hD hS ls hl
      unfold r_X5_push_2 at hq
      refine lv_iload_n hx hb dX5_push_2 rfl (lv_at hl 2 rfl) ?_
      refine lv_iload_n hx hb dX5_push_3 rfl (lv_at hl 1 rfl) ?_
      refine lv_icmp_ge (tgt := 63) hx hb dX5_push_4 (by decide) (fun c1 => ?_) (fun c1 => ?_)
      · replace hq := hq.1 c1
        exact hK63 _ _ hq _ _ _ _ hP hD hS _ (lv_sub hl [0] rfl)
      · replace hq := hq.2 c1
        refine lv_lconst (v := (0 : Int64)) hx hb dX5_push_7 (by decide) ?_
        refine lv_lstore_n (lv' := [(3, .long (0 : Int64)), (0, .ref h_strip), (1, .int l1), (2, .int l2)]) hx hb dX5_push_8 rfl hl (by decide) rfl (fun ls hl => ?_)
        refine lv_iconst (v := (0 : Int32)) hx hb dX5_push_9 (by decide) ?_
        refine lv_istore (lv' := [(5, .int (0 : Int32)), (3, .long (0 : Int64)), (0, .ref h_strip), (1, .int l1), (2, .int l2)]) hx hb dX5_push_10 hl (by decide) rfl (fun ls hl => ?_)
        exact (C12 _ _ _ hK63 _ ih) _ _ _ _ hq _ _ _ _ hP hD hS _ (lv_sub hl [2, 3, 4, 1, 0] rfl)
  have C63 : ∀ (f_strip_line : Nat → Int64) (f_strip_pushed : Nat → Int64), q_X5_push_63 f_strip_table post f_strip_line f_strip_pushed → ∀ (H : Heap) (locs : List Loc) (h_strip_line : Nat) (h_strip_pushed : Nat), va_P (dC, dI) vwCl (W_X5_push cI cJ cZ h_strip h_strip_table h_strip_line h_strip_pushed h_rule h_rows h_strip_below h_strip_chosen h_strip_square strip_tops strip_bottoms f_strip_table f_strip_line f_strip_pushed) H → va_D A (W_X5_push cI cJ cZ h_strip h_strip_table h_strip_line h_strip_pushed h_rule h_rows h_strip_below h_strip_chosen h_strip_square strip_tops strip_bottoms f_strip_table f_strip_line f_strip_pushed) → va_S A s.heap H locs → ∀ ls : Array Slot, lv_has ls 6 [(0, .ref h_strip)] → W p l e rm_X5_push s m args below meth c H locs 0 0 QQ (F0 m 63 ls []) := by
    intro f_strip_line f_strip_pushed hq H locs h_strip_line h_strip_pushed hP hD hS ls hl
    unfold q_X5_push_63 at hq
    refine lv_aload_n hx hb dX5_push_63 rfl (lv_at hl 0 rfl) ?_
    refine va_get (D := (dC, dI)) (ci := 5) (v := .ref h_strip_line) (C := RX5) (T := TX5) (N := 10) hx hb hts hinX5 hown hK hP 0 rfl rfl 8 (by decide) hf32 (fun _ h9 => h9) rfl dX5_push_64 ?_
    refine lv_astore_n (lv' := [(2, .ref h_strip_line), (0, .ref h_strip)]) hx hb dX5_push_67 rfl hl (by decide) rfl (fun ls hl => ?_)
    refine lv_aload_n hx hb dX5_push_68 rfl (lv_at hl 1 rfl) ?_
    refine lv_aload_n hx hb dX5_push_69 rfl (lv_at hl 1 rfl) ?_
    refine va_get (D := (dC, dI)) (ci := 5) (v := .ref h_strip_pushed) (C := RX5) (T := TX5) (N := 10) hx hb hts hinX5 hown hK hP 0 rfl rfl 9 (by decide) hf35 (fun _ h9 => h9) rfl dX5_push_70 ?_
    refine va_put (D := (dC, dI)) (ci := 5) (v := .ref h_strip_pushed) (ty := tyX5 8) (C := RX5) (T := TX5) (N := 10) hx hb hts hinX5 tyX5 tyX5_ok nmX5 hown hK hP hD hS 0 rfl rfl 8 (by decide) hf32 (fun _ h9 => h9) rfl (tyX5_ok 8 (by decide)) rfl rfl (Nat.le_of_ble_eq_true rfl) dX5_push_73 (fun H locs hP hD hS => ?_)
    have hP : va_P (dC, dI) vwCl [(h_strip, .inr (5, [.ref h_rule, .ref h_rows, .ref h_strip_below, .int strip_tops, .int strip_bottoms, .ref h_strip_chosen, .ref h_strip_table, .ref h_strip_square, .ref h_strip_pushed, .ref h_strip_pushed])), (h_strip_table, .inl (cJ, 729, .inr (.inl f_strip_table))), (h_strip_line, .inl (cJ, 27, .inr (.inl f_strip_line))), (h_strip_pushed, .inl (cJ, 27, .inr (.inl f_strip_pushed)))] H := hP
    have hD : va_D A [(h_strip, .inr (5, [.ref h_rule, .ref h_rows, .ref h_strip_below, .int strip_tops, .int strip_bottoms, .ref h_strip_chosen, .ref h_strip_table, .ref h_strip_square, .ref h_strip_pushed, .ref h_strip_pushed])), (h_strip_table, .inl (cJ, 729, .inr (.inl f_strip_table))), (h_strip_line, .inl (cJ, 27, .inr (.inl f_strip_line))), (h_strip_pushed, .inl (cJ, 27, .inr (.inl f_strip_pushed)))] := hD
    refine lv_aload_n hx hb dX5_push_76 rfl (lv_at hl 1 rfl) ?_
    refine lv_aload_n hx hb dX5_push_77 rfl (lv_at hl 0 rfl) ?_
    refine va_put (D := (dC, dI)) (ci := 5) (v := .ref h_strip_line) (ty := tyX5 9) (C := RX5) (T := TX5) (N := 10) hx hb hts hinX5 tyX5 tyX5_ok nmX5 hown hK hP hD hS 0 rfl rfl 9 (by decide) hf35 (fun _ h9 => h9) rfl (tyX5_ok 9 (by decide)) rfl rfl (Nat.le_of_ble_eq_true rfl) dX5_push_78 (fun H locs hP hD hS => ?_)
    have hP : va_P (dC, dI) vwCl [(h_strip, .inr (5, [.ref h_rule, .ref h_rows, .ref h_strip_below, .int strip_tops, .int strip_bottoms, .ref h_strip_chosen, .ref h_strip_table, .ref h_strip_square, .ref h_strip_pushed, .ref h_strip_line])), (h_strip_table, .inl (cJ, 729, .inr (.inl f_strip_table))), (h_strip_line, .inl (cJ, 27, .inr (.inl f_strip_line))), (h_strip_pushed, .inl (cJ, 27, .inr (.inl f_strip_pushed)))] H := hP
    have hD : va_D A [(h_strip, .inr (5, [.ref h_rule, .ref h_rows, .ref h_strip_below, .int strip_tops, .int strip_bottoms, .ref h_strip_chosen, .ref h_strip_table, .ref h_strip_square, .ref h_strip_pushed, .ref h_strip_line])), (h_strip_table, .inl (cJ, 729, .inr (.inl f_strip_table))), (h_strip_line, .inl (cJ, 27, .inr (.inl f_strip_line))), (h_strip_pushed, .inl (cJ, 27, .inr (.inl f_strip_pushed)))] := hD
    have hP : va_P (dC, dI) vwCl (W_X5_push cI cJ cZ h_strip h_strip_table h_strip_pushed h_strip_line h_rule h_rows h_strip_below h_strip_chosen h_strip_square strip_tops strip_bottoms f_strip_table f_strip_pushed f_strip_line) H := hP.sub [0, 1, 3, 2] rfl
    have hD : va_D A (W_X5_push cI cJ cZ h_strip h_strip_table h_strip_pushed h_strip_line h_rule h_rows h_strip_below h_strip_chosen h_strip_square strip_tops strip_bottoms f_strip_table f_strip_pushed f_strip_line) := hD.sub [0, 1, 3, 2] (by decide) rfl
    exact hret (f_strip_pushed, f_strip_line, h_strip_pushed, h_strip_line) hq _ _ hP hD hS _ _ dX5_push_81
  have C2 : ∀ (l1 : Int32) (l2 : Int32) (f_strip_line : Nat → Int64) (f_strip_pushed : Nat → Int64), q_X5_push_2 f_strip_table post l1 l2 f_strip_line f_strip_pushed → ∀ (H : Heap) (locs : List Loc) (h_strip_line : Nat) (h_strip_pushed : Nat), va_P (dC, dI) vwCl (W_X5_push cI cJ cZ h_strip h_strip_table h_strip_line h_strip_pushed h_rule h_rows h_strip_below h_strip_chosen h_strip_square strip_tops strip_bottoms f_strip_table f_strip_line f_strip_pushed) H → va_D A (W_X5_push cI cJ cZ h_strip h_strip_table h_strip_line h_strip_pushed h_rule h_rows h_strip_below h_strip_chosen h_strip_square strip_tops strip_bottoms f_strip_table f_strip_line f_strip_pushed) → va_S A s.heap H locs → ∀ ls : Array Slot, lv_has ls 6 [(0, .ref h_strip), (1, .int l1), (2, .int l2)] → W p l e rm_X5_push s m args below meth c H locs 0 0 QQ (F0 m 2 ls []) := by
    intro l1 l2 f_strip_line f_strip_pushed hq H locs h_strip_line h_strip_pushed hP hD hS ls hl
    obtain ⟨n, hq⟩ := hq
    exact L2 _ C63 _ _ n _ _ hq H locs _ _ hP hD hS ls hl
  unfold q_X5_push at hq
  refine lv_iconst (v := (0 : Int32)) hx hb dX5_push_0 (by decide) ?_
  refine lv_istore_n (lv' := [(2, .int (0 : Int32)), (0, .ref h_strip), (1, .int l1)]) hx hb dX5_push_1 rfl hl (by decide) rfl (fun ls hl => ?_)
  exact C2 _ _ _ _ hq _ _ _ _ hP hD hS _ (lv_sub hl [1, 2, 0] rfl)

abbrev W_X5_addRow (cI cJ cZ : ClassId) (h_strip h_strip_table h_strip_square h_rule h_rows h_strip_below h_strip_chosen h_strip_line h_strip_pushed : Nat) (strip_tops : Int32) (strip_bottoms : Int32) (f_strip_table : Nat → Int64) (f_strip_square : Nat → Int64) : va_W := [(h_strip, .inr (5, [.ref h_rule, .ref h_rows, .ref h_strip_below, .int strip_tops, .int strip_bottoms, .ref h_strip_chosen, .ref h_strip_table, .ref h_strip_square, .ref h_strip_line, .ref h_strip_pushed])), (h_strip_table, .inl (cJ, 729, .inr (.inl f_strip_table))), (h_strip_square, .inl (cJ, 729, .inr (.inl f_strip_square)))]
abbrev rm_X5_addRow : Room := { frames := 0, cells := 0, slots := 0, locals := 0 }
def r_X5_addRow_3 (f_strip_table : Nat → Int64) (post : (Nat → Int64) → Prop) (l1 : Int32) (l2 : Int64) (l4 : Int32) (l5 : Int32) : Nat → (Int32) → (Nat → Int64) → Prop
  | 0, _, _ => False
  | n + 1, l6, f_strip_square => ((l5 ≤ l6 → (post f_strip_square)) ∧ (¬ l5 ≤ l6 → (vp_in (l1 + l6) 729 ∧ (vp_in (l4 + l6) 729 ∧ (vp_in (l1 + l6) 729 ∧ ((r_X5_addRow_3 f_strip_table post l1 l2 l4 l5 n) (l6 + (1 : Int32)) (vp_updL f_strip_square ((l1 + l6)).toNatClampNeg (((f_strip_square ((l1 + l6)).toNatClampNeg) + (l2 * (f_strip_table ((l4 + l6)).toNatClampNeg))) - (((f_strip_square ((l1 + l6)).toNatClampNeg) + (l2 * (f_strip_table ((l4 + l6)).toNatClampNeg))) / (1000000007 : Int64)) * (1000000007 : Int64)))))))))
def q_X5_addRow_3 (f_strip_table : Nat → Int64) (post : (Nat → Int64) → Prop) (l1 : Int32) (l2 : Int64) (l4 : Int32) (l5 : Int32) (l6 : Int32) (f_strip_square : Nat → Int64) : Prop := ∃ n, r_X5_addRow_3 f_strip_table post l1 l2 l4 l5 n l6 f_strip_square
def q_X5_addRow (f_strip_table : Nat → Int64) (f_strip_square : Nat → Int64) (l1 : Int32) (l2 : Int64) (l4 : Int32) (l5 : Int32) (post : (Nat → Int64) → Prop) : Prop := ((q_X5_addRow_3 f_strip_table post) l1 l2 l4 l5 (0 : Int32) f_strip_square)
theorem hdV_X5_addRow : yX5_addRow.cls = RX5 ∧ yX5_addRow.cls ≠ "java/lang/invoke/MethodHandle" ∧ yX5_addRow.cls ≠ "java/lang/invoke/VarHandle" ∧ (parseMethodDescriptor yX5_addRow.desc).map (fun d => d.parameters.length) = some 4 := by decide +kernel
set_option maxHeartbeats 4000000 in
set_option maxRecDepth 100000 in
theorem c_X5_addRow (l : Launch) (dC : Nat → ClassId) (dI : Nat → Nat → Nat) (cI cJ cZ : ClassId) (h_strip h_strip_table h_strip_square h_rule h_rows h_strip_below h_strip_chosen h_strip_line h_strip_pushed : Nat) (sz : Nat) (strip_tops : Int32) (strip_bottoms : Int32) (f_strip_table : Nat → Int64) (f_strip_square : Nat → Int64) (l1 : Int32) (l2 : Int64) (l4 : Int32) (l5 : Int32) {post : (Nat → Int64) → Prop} (hq : q_X5_addRow f_strip_table f_strip_square l1 l2 l4 l5 post) : Met l yX5_addRow wsX5_addRow rm_X5_addRow (va_Pc [.ref h_strip, .int l1, .long l2, .int l4, .int l5] (gx_Pre (dC, dI) vwCl (gx_tys cI cJ cZ) sz (W_X5_addRow cI cJ cZ h_strip h_strip_table h_strip_square h_rule h_rows h_strip_below h_strip_chosen h_strip_line h_strip_pushed strip_tops strip_bottoms f_strip_table f_strip_square))) (va_Qv (fun (u : (Nat → Int64)) => post u) (gx_B (dC, dI) vwCl (gx_tys cI cJ cZ) (va_A (W_X5_addRow cI cJ cZ h_strip h_strip_table h_strip_square h_rule h_rows h_strip_below h_strip_chosen h_strip_line h_strip_pushed strip_tops strip_bottoms f_strip_table f_strip_square) sz) (fun (u : (Nat → Int64)) => (W_X5_addRow cI cJ cZ h_strip h_strip_table h_strip_square h_rule h_rows h_strip_below h_strip_chosen h_strip_line h_strip_pushed strip_tops strip_bottoms f_strip_table u))) (va_A (W_X5_addRow cI cJ cZ h_strip h_strip_table h_strip_square h_rule h_rows h_strip_below h_strip_chosen h_strip_line h_strip_pushed strip_tops strip_bottoms f_strip_table f_strip_square) sz)) 0 0 (va_A (W_X5_addRow cI cJ cZ h_strip h_strip_table h_strip_square h_rule h_rows h_strip_below h_strip_chosen h_strip_line h_strip_pushed strip_tops strip_bottoms f_strip_table f_strip_square) sz) := by
  refine gx_v (cc := cX5_addRow) (maxL := 7) (by decide) rfl (Nat.le_of_ble_eq_true rfl) ?_
  intro p e s m args below meth c A QQ hx hb hml hown hts hA hP hK hD hret ls hl
  have hown : s.vm.findClass RX5 = some m.cls := hown
  have hf29 := hts (.fieldLink RX5 29 "SmallWindows$Strip" "square" "[J") (by decide +kernel)
  have hf25 := hts (.fieldLink RX5 25 "SmallWindows$Strip" "table" "[J") (by decide +kernel)
  have hcl101 := hts (.constantLong RX5 101 (1000000007)) (by decide +kernel)
  have hinX5 : ∀ w ∈ u_ws RX5 TX5 10, w ∈ wsX5_addRow := fun w h => List.mem_cons_of_mem _ ((List.mem_append_right _ h))
  have hS : va_S A s.heap s.heap [] := va_S.rf
  have hl : lv_has ls 7 [(0, .ref h_strip), (1, .int l1), (2, .long l2), (4, .int l4), (5, .int l5)] := hl
  have L3 : ∀ (l1 : Int32) (l2 : Int64) (l4 : Int32) (l5 : Int32) (n : Nat) (l6 : Int32) (f_strip_square : Nat → Int64), r_X5_addRow_3 f_strip_table post l1 l2 l4 l5 n l6 f_strip_square → ∀ (H : Heap) (locs : List Loc), va_P (dC, dI) vwCl (W_X5_addRow cI cJ cZ h_strip h_strip_table h_strip_square h_rule h_rows h_strip_below h_strip_chosen h_strip_line h_strip_pushed strip_tops strip_bottoms f_strip_table f_strip_square) H → va_D A (W_X5_addRow cI cJ cZ h_strip h_strip_table h_strip_square h_rule h_rows h_strip_below h_strip_chosen h_strip_line h_strip_pushed strip_tops strip_bottoms f_strip_table f_strip_square) → va_S A s.heap H locs → ∀ ls : Array Slot, lv_has ls 7 [(0, .ref h_strip), (1, .int l1), (2, .long l2), (4, .int l4), (5, .int l5), (6, .int l6)] → W p l e rm_X5_addRow s m args below meth c H locs 0 0 QQ (F0 m 3 ls []) := by
    intro l1 l2 l4 l5 n
    induction n with
    | zero => intro l6 f_strip_square hq; exact False.elim hq
    | succ n ih =>
      intro l6 f_strip_square hq H locs hP hD hS ls hl
      unfold r_X5_addRow_3 at hq
      refine lv_iload hx hb dX5_addRow_3 (lv_at hl 5 rfl) ?_
      refine lv_iload hx hb dX5_addRow_5 (lv_at hl 4 rfl) ?_
      refine lv_icmp_ge (tgt := 51) hx hb dX5_addRow_7 (by decide) (fun c1 => ?_) (fun c1 => ?_)
      · replace hq := hq.1 c1
        exact hret f_strip_square hq _ _ hP hD hS _ _ dX5_addRow_51
      · replace hq := hq.2 c1
        refine lv_aload_n hx hb dX5_addRow_10 rfl (lv_at hl 0 rfl) ?_
        refine va_get (D := (dC, dI)) (ci := 5) (v := .ref h_strip_square) (C := RX5) (T := TX5) (N := 10) hx hb hts hinX5 hown hK hP 0 rfl rfl 7 (by decide) hf29 (fun _ h9 => h9) rfl dX5_addRow_11 ?_
        refine lv_iload_n hx hb dX5_addRow_14 rfl (lv_at hl 1 rfl) ?_
        refine lv_iload hx hb dX5_addRow_15 (lv_at hl 5 rfl) ?_
        refine lv_iadd hx hb dX5_addRow_17 ?_
        refine lv_aload_n hx hb dX5_addRow_18 rfl (lv_at hl 0 rfl) ?_
        refine va_get (D := (dC, dI)) (ci := 5) (v := .ref h_strip_square) (C := RX5) (T := TX5) (N := 10) hx hb hts hinX5 hown hK hP 0 rfl rfl 7 (by decide) hf29 (fun _ h9 => h9) rfl dX5_addRow_19 ?_
        refine lv_iload_n hx hb dX5_addRow_22 rfl (lv_at hl 1 rfl) ?_
        refine lv_iload hx hb dX5_addRow_23 (lv_at hl 5 rfl) ?_
        refine lv_iadd hx hb dX5_addRow_25 ?_
        obtain ⟨hv2, hq⟩ := hq
        refine va_lald hx hb hK hP 2 1 rfl rfl hv2 dX5_addRow_26 ?_
        refine lv_lload_n hx hb dX5_addRow_27 rfl (lv_at hl 2 rfl) ?_
        refine lv_aload_n hx hb dX5_addRow_28 rfl (lv_at hl 0 rfl) ?_
        refine va_get (D := (dC, dI)) (ci := 5) (v := .ref h_strip_table) (C := RX5) (T := TX5) (N := 10) hx hb hts hinX5 hown hK hP 0 rfl rfl 6 (by decide) hf25 (fun _ h9 => h9) rfl dX5_addRow_29 ?_
        refine lv_iload hx hb dX5_addRow_32 (lv_at hl 3 rfl) ?_
        refine lv_iload hx hb dX5_addRow_34 (lv_at hl 5 rfl) ?_
        refine lv_iadd hx hb dX5_addRow_36 ?_
        obtain ⟨hv3, hq⟩ := hq
        refine va_lald hx hb hK hP 1 1 rfl rfl hv3 dX5_addRow_37 ?_
        refine lv_lmul hx hb dX5_addRow_38 ?_
        refine lv_ladd hx hb dX5_addRow_39 ?_
        refine lv_ldc2 hx hb hown hcl101 dX5_addRow_40 ?_
        refine lv_lrem hx hb dX5_addRow_43 (by decide) ?_
        obtain ⟨hv4, hq⟩ := hq
        refine va_last hx hb hK hP hD hS 2 1 rfl rfl hv4 dX5_addRow_44 (fun H locs hP hD hS => ?_)
        have hP : va_P (dC, dI) vwCl (W_X5_addRow cI cJ cZ h_strip h_strip_table h_strip_square h_rule h_rows h_strip_below h_strip_chosen h_strip_line h_strip_pushed strip_tops strip_bottoms f_strip_table (vp_updL f_strip_square ((l1 + l6)).toNatClampNeg (((f_strip_square ((l1 + l6)).toNatClampNeg) + (l2 * (f_strip_table ((l4 + l6)).toNatClampNeg))) - (((f_strip_square ((l1 + l6)).toNatClampNeg) + (l2 * (f_strip_table ((l4 + l6)).toNatClampNeg))) / (1000000007 : Int64)) * (1000000007 : Int64)))) H := hP
        have hD : va_D A (W_X5_addRow cI cJ cZ h_strip h_strip_table h_strip_square h_rule h_rows h_strip_below h_strip_chosen h_strip_line h_strip_pushed strip_tops strip_bottoms f_strip_table (vp_updL f_strip_square ((l1 + l6)).toNatClampNeg (((f_strip_square ((l1 + l6)).toNatClampNeg) + (l2 * (f_strip_table ((l4 + l6)).toNatClampNeg))) - (((f_strip_square ((l1 + l6)).toNatClampNeg) + (l2 * (f_strip_table ((l4 + l6)).toNatClampNeg))) / (1000000007 : Int64)) * (1000000007 : Int64)))) := hD
        refine lv_iinc (v := (l6 + (1 : Int32))) (lv' := [(6, .int (l6 + (1 : Int32))), (0, .ref h_strip), (1, .int l1), (2, .long l2), (4, .int l4), (5, .int l5)]) hx hb dX5_addRow_45 hl (k := 5) rfl rfl (by decide) rfl (fun ls hl => ?_)
        refine lv_goto (tgt := 3) hx hb dX5_addRow_48 (by decide) ?_
        exact ih _ _ hq _ _ hP hD hS _ (lv_sub hl [1, 2, 3, 4, 5, 0] rfl)
  have C3 : ∀ (l1 : Int32) (l2 : Int64) (l4 : Int32) (l5 : Int32) (l6 : Int32) (f_strip_square : Nat → Int64), q_X5_addRow_3 f_strip_table post l1 l2 l4 l5 l6 f_strip_square → ∀ (H : Heap) (locs : List Loc), va_P (dC, dI) vwCl (W_X5_addRow cI cJ cZ h_strip h_strip_table h_strip_square h_rule h_rows h_strip_below h_strip_chosen h_strip_line h_strip_pushed strip_tops strip_bottoms f_strip_table f_strip_square) H → va_D A (W_X5_addRow cI cJ cZ h_strip h_strip_table h_strip_square h_rule h_rows h_strip_below h_strip_chosen h_strip_line h_strip_pushed strip_tops strip_bottoms f_strip_table f_strip_square) → va_S A s.heap H locs → ∀ ls : Array Slot, lv_has ls 7 [(0, .ref h_strip), (1, .int l1), (2, .long l2), (4, .int l4), (5, .int l5), (6, .int l6)] → W p l e rm_X5_addRow s m args below meth c H locs 0 0 QQ (F0 m 3 ls []) := by
    intro l1 l2 l4 l5 l6 f_strip_square hq H locs hP hD hS ls hl
    obtain ⟨n, hq⟩ := hq
    exact L3 _ _ _ _ n _ _ hq H locs hP hD hS ls hl
  unfold q_X5_addRow at hq
  refine lv_iconst (v := (0 : Int32)) hx hb dX5_addRow_0 (by decide) ?_
  refine lv_istore (lv' := [(6, .int (0 : Int32)), (0, .ref h_strip), (1, .int l1), (2, .long l2), (4, .int l4), (5, .int l5)]) hx hb dX5_addRow_1 hl (by decide) rfl (fun ls hl => ?_)
  exact C3 _ _ _ _ _ _ hq _ _ hP hD hS _ (lv_sub hl [1, 2, 3, 4, 5, 0] rfl)

abbrev W_X5_squareTable (cI cJ cZ : ClassId) (h_strip h_strip_table h_strip_square h_rule h_rows h_strip_below h_strip_chosen h_strip_line h_strip_pushed : Nat) (strip_tops : Int32) (strip_bottoms : Int32) (f_strip_table : Nat → Int64) (f_strip_square : Nat → Int64) : va_W := [(h_strip, .inr (5, [.ref h_rule, .ref h_rows, .ref h_strip_below, .int strip_tops, .int strip_bottoms, .ref h_strip_chosen, .ref h_strip_table, .ref h_strip_square, .ref h_strip_line, .ref h_strip_pushed])), (h_strip_table, .inl (cJ, 729, .inr (.inl f_strip_table))), (h_strip_square, .inl (cJ, 729, .inr (.inl f_strip_square)))]
abbrev rm_X5_squareTable : Room := { frames := 1, cells := 0, slots := 0, locals := 26 }
def r_X5_squareTable_2 (post : (Nat → Int64) → (Nat → Int64) → Prop) (K22 : (Int32) → (Nat → Int64) → (Nat → Int64) → Prop) (l1 : Int32) (f_strip_table : Nat → Int64) : Nat → (Int32) → (Nat → Int64) → Prop
  | 0, _, _ => False
  | n + 1, l2, f_strip_square => (((l1 * l1) ≤ l2 → (K22 l1 f_strip_table f_strip_square)) ∧ (¬ (l1 * l1) ≤ l2 → (vp_in l2 729 ∧ ((r_X5_squareTable_2 post K22 l1 f_strip_table n) (l2 + (1 : Int32)) (vp_updL f_strip_square (l2).toNatClampNeg (0 : Int64))))))
def r_X5_squareTable_31 (l1 : Int32) (f_strip_table : Nat → Int64) (post : (Nat → Int64) → (Nat → Int64) → Prop) (K74 : (Int32) → (Nat → Int64) → Prop) (l2 : Int32) : Nat → (Int32) → (Nat → Int64) → Prop
  | 0, _, _ => False
  | n + 1, l3, f_strip_square => ((l1 ≤ l3 → (K74 l2 f_strip_square)) ∧ (¬ l1 ≤ l3 → (vp_in ((l2 * l1) + l3) 729 ∧ (((f_strip_table (((l2 * l1) + l3)).toNatClampNeg) = (0 : Int64) → ((r_X5_squareTable_31 l1 f_strip_table post K74 l2 n) (l3 + (1 : Int32)) f_strip_square)) ∧ (¬ (f_strip_table (((l2 * l1) + l3)).toNatClampNeg) = (0 : Int64) → (q_X5_addRow f_strip_table f_strip_square (l2 * l1) (f_strip_table (((l2 * l1) + l3)).toNatClampNeg) (l3 * l1) l1 (fun (f_strip_square_7 : Nat → Int64) => ((r_X5_squareTable_31 l1 f_strip_table post K74 l2 n) (l3 + (1 : Int32)) f_strip_square_7))))))))
def q_X5_squareTable_74 (l1 : Int32) (f_strip_table : Nat → Int64) (post : (Nat → Int64) → (Nat → Int64) → Prop) (K80 : (Nat → Int64) → (Nat → Int64) → Prop) (K24 : (Int32) → (Nat → Int64) → Prop) (l2 : Int32) (f_strip_square : Nat → Int64) : Prop := (K24 (l2 + (1 : Int32)) f_strip_square)
def q_X5_squareTable_31 (l1 : Int32) (f_strip_table : Nat → Int64) (post : (Nat → Int64) → (Nat → Int64) → Prop) (K80 : (Nat → Int64) → (Nat → Int64) → Prop) (K24 : (Int32) → (Nat → Int64) → Prop) (l2 : Int32) (l3 : Int32) (f_strip_square : Nat → Int64) : Prop := ∃ n, r_X5_squareTable_31 l1 f_strip_table post (q_X5_squareTable_74 l1 f_strip_table post K80 K24) l2 n l3 f_strip_square
def r_X5_squareTable_24 (post : (Nat → Int64) → (Nat → Int64) → Prop) (K80 : (Nat → Int64) → (Nat → Int64) → Prop) (l1 : Int32) (f_strip_table : Nat → Int64) : Nat → (Int32) → (Nat → Int64) → Prop
  | 0, _, _ => False
  | n + 1, l2, f_strip_square => ((l1 ≤ l2 → (K80 f_strip_table f_strip_square)) ∧ (¬ l1 ≤ l2 → ((q_X5_squareTable_31 l1 f_strip_table post K80 (r_X5_squareTable_24 post K80 l1 f_strip_table n)) l2 (0 : Int32) f_strip_square)))
def q_X5_squareTable_80 (post : (Nat → Int64) → (Nat → Int64) → Prop) (f_strip_table : Nat → Int64) (f_strip_square : Nat → Int64) : Prop := (post f_strip_square f_strip_table)
def q_X5_squareTable_24 (post : (Nat → Int64) → (Nat → Int64) → Prop) (l1 : Int32) (l2 : Int32) (f_strip_table : Nat → Int64) (f_strip_square : Nat → Int64) : Prop := ∃ n, r_X5_squareTable_24 post (q_X5_squareTable_80 post) l1 f_strip_table n l2 f_strip_square
def q_X5_squareTable_22 (post : (Nat → Int64) → (Nat → Int64) → Prop) (l1 : Int32) (f_strip_table : Nat → Int64) (f_strip_square : Nat → Int64) : Prop := ((q_X5_squareTable_24 post) l1 (0 : Int32) f_strip_table f_strip_square)
def q_X5_squareTable_2 (post : (Nat → Int64) → (Nat → Int64) → Prop) (l1 : Int32) (l2 : Int32) (f_strip_table : Nat → Int64) (f_strip_square : Nat → Int64) : Prop := ∃ n, r_X5_squareTable_2 post (q_X5_squareTable_22 post) l1 f_strip_table n l2 f_strip_square
def q_X5_squareTable (f_strip_table : Nat → Int64) (f_strip_square : Nat → Int64) (l1 : Int32) (post : (Nat → Int64) → (Nat → Int64) → Prop) : Prop := ((q_X5_squareTable_2 post) l1 (0 : Int32) f_strip_table f_strip_square)
theorem hdV_X5_squareTable : yX5_squareTable.cls = RX5 ∧ yX5_squareTable.cls ≠ "java/lang/invoke/MethodHandle" ∧ yX5_squareTable.cls ≠ "java/lang/invoke/VarHandle" ∧ (parseMethodDescriptor yX5_squareTable.desc).map (fun d => d.parameters.length) = some 1 := by decide +kernel
set_option maxHeartbeats 4000000 in
set_option maxRecDepth 100000 in
theorem c_X5_squareTable (l : Launch) (dC : Nat → ClassId) (dI : Nat → Nat → Nat) (cI cJ cZ : ClassId) (h_strip h_strip_table h_strip_square h_rule h_rows h_strip_below h_strip_chosen h_strip_line h_strip_pushed : Nat) (sz : Nat) (strip_tops : Int32) (strip_bottoms : Int32) (f_strip_table : Nat → Int64) (f_strip_square : Nat → Int64) (l1 : Int32) {post : (Nat → Int64) → (Nat → Int64) → Prop} (hq : q_X5_squareTable f_strip_table f_strip_square l1 post) : Met l yX5_squareTable wsX5_squareTable rm_X5_squareTable (va_Pc [.ref h_strip, .int l1] (gx_Pre (dC, dI) vwCl (gx_tys cI cJ cZ) sz (W_X5_squareTable cI cJ cZ h_strip h_strip_table h_strip_square h_rule h_rows h_strip_below h_strip_chosen h_strip_line h_strip_pushed strip_tops strip_bottoms f_strip_table f_strip_square))) (va_Qv (fun (u : (Nat → Int64) × (Nat → Int64) × (Nat) × (Nat)) => post u.1 u.2.1) (gx_B (dC, dI) vwCl (gx_tys cI cJ cZ) (va_A (W_X5_squareTable cI cJ cZ h_strip h_strip_table h_strip_square h_rule h_rows h_strip_below h_strip_chosen h_strip_line h_strip_pushed strip_tops strip_bottoms f_strip_table f_strip_square) sz) (fun (u : (Nat → Int64) × (Nat → Int64) × (Nat) × (Nat)) => (W_X5_squareTable cI cJ cZ h_strip u.2.2.1 u.2.2.2 h_rule h_rows h_strip_below h_strip_chosen h_strip_line h_strip_pushed strip_tops strip_bottoms u.1 u.2.1))) (va_A (W_X5_squareTable cI cJ cZ h_strip h_strip_table h_strip_square h_rule h_rows h_strip_below h_strip_chosen h_strip_line h_strip_pushed strip_tops strip_bottoms f_strip_table f_strip_square) sz)) 0 0 (va_A (W_X5_squareTable cI cJ cZ h_strip h_strip_table h_strip_square h_rule h_rows h_strip_below h_strip_chosen h_strip_line h_strip_pushed strip_tops strip_bottoms f_strip_table f_strip_square) sz) := by
  refine gx_v (cc := cX5_squareTable) (maxL := 6) (by decide) rfl (Nat.le_of_ble_eq_true rfl) ?_
  intro p e s m args below meth c A QQ hx hb hml hown hts hA hP hK hD hret ls hl
  have hown : s.vm.findClass RX5 = some m.cls := hown
  have hf29 := hts (.fieldLink RX5 29 "SmallWindows$Strip" "square" "[J") (by decide +kernel)
  have hf25 := hts (.fieldLink RX5 25 "SmallWindows$Strip" "table" "[J") (by decide +kernel)
  have hinX5 : ∀ w ∈ u_ws RX5 TX5 10, w ∈ wsX5_squareTable := fun w h => List.mem_cons_of_mem _ ((List.mem_append_right _ h))
  have hS : va_S A s.heap s.heap [] := va_S.rf
  have hl : lv_has ls 6 [(0, .ref h_strip), (1, .int l1)] := hl
  have L2 : ∀ (K22 : (Int32) → (Nat → Int64) → (Nat → Int64) → Prop) (hK22 : (∀ (l1 : Int32) (f_strip_table : Nat → Int64) (f_strip_square : Nat → Int64), K22 l1 f_strip_table f_strip_square → ∀ (H : Heap) (locs : List Loc) (h_strip_table : Nat) (h_strip_square : Nat), va_P (dC, dI) vwCl (W_X5_squareTable cI cJ cZ h_strip h_strip_table h_strip_square h_rule h_rows h_strip_below h_strip_chosen h_strip_line h_strip_pushed strip_tops strip_bottoms f_strip_table f_strip_square) H → va_D A (W_X5_squareTable cI cJ cZ h_strip h_strip_table h_strip_square h_rule h_rows h_strip_below h_strip_chosen h_strip_line h_strip_pushed strip_tops strip_bottoms f_strip_table f_strip_square) → va_S A s.heap H locs → ∀ ls : Array Slot, lv_has ls 6 [(0, .ref h_strip), (1, .int l1)] → W p l e rm_X5_squareTable s m args below meth c H locs 0 0 QQ (F0 m 22 ls []))) (l1 : Int32) (f_strip_table : Nat → Int64) (n : Nat) (l2 : Int32) (f_strip_square : Nat → Int64), r_X5_squareTable_2 post K22 l1 f_strip_table n l2 f_strip_square → ∀ (H : Heap) (locs : List Loc) (h_strip_table : Nat) (h_strip_square : Nat), va_P (dC, dI) vwCl (W_X5_squareTable cI cJ cZ h_strip h_strip_table h_strip_square h_rule h_rows h_strip_below h_strip_chosen h_strip_line h_strip_pushed strip_tops strip_bottoms f_strip_table f_strip_square) H → va_D A (W_X5_squareTable cI cJ cZ h_strip h_strip_table h_strip_square h_rule h_rows h_strip_below h_strip_chosen h_strip_line h_strip_pushed strip_tops strip_bottoms f_strip_table f_strip_square) → va_S A s.heap H locs → ∀ ls : Array Slot, lv_has ls 6 [(0, .ref h_strip), (1, .int l1), (2, .int l2)] → W p l e rm_X5_squareTable s m args below meth c H locs 0 0 QQ (F0 m 2 ls []) := by
    intro K22 hK22 l1 f_strip_table n
    induction n with
    | zero => intro l2 f_strip_square hq; exact False.elim hq
    | succ n ih =>
      intro l2 f_strip_square hq H locs h_strip_table h_strip_square hP hD hS ls hl
      unfold r_X5_squareTable_2 at hq
      refine lv_iload_n hx hb dX5_squareTable_2 rfl (lv_at hl 2 rfl) ?_
      refine lv_iload_n hx hb dX5_squareTable_3 rfl (lv_at hl 1 rfl) ?_
      refine lv_iload_n hx hb dX5_squareTable_4 rfl (lv_at hl 1 rfl) ?_
      refine lv_imul hx hb dX5_squareTable_5 ?_
      refine lv_icmp_ge (tgt := 22) hx hb dX5_squareTable_6 (by decide) (fun c1 => ?_) (fun c1 => ?_)
      · replace hq := hq.1 c1
        exact hK22 _ _ _ hq _ _ _ _ hP hD hS _ (lv_sub hl [0, 1] rfl)
      · replace hq := hq.2 c1
        refine lv_aload_n hx hb dX5_squareTable_9 rfl (lv_at hl 0 rfl) ?_
        refine va_get (D := (dC, dI)) (ci := 5) (v := .ref h_strip_square) (C := RX5) (T := TX5) (N := 10) hx hb hts hinX5 hown hK hP 0 rfl rfl 7 (by decide) hf29 (fun _ h9 => h9) rfl dX5_squareTable_10 ?_
        refine lv_iload_n hx hb dX5_squareTable_13 rfl (lv_at hl 2 rfl) ?_
        refine lv_lconst (v := (0 : Int64)) hx hb dX5_squareTable_14 (by decide) ?_
        obtain ⟨hv2, hq⟩ := hq
        refine va_last hx hb hK hP hD hS 2 1 rfl rfl hv2 dX5_squareTable_15 (fun H locs hP hD hS => ?_)
        have hP : va_P (dC, dI) vwCl (W_X5_squareTable cI cJ cZ h_strip h_strip_table h_strip_square h_rule h_rows h_strip_below h_strip_chosen h_strip_line h_strip_pushed strip_tops strip_bottoms f_strip_table (vp_updL f_strip_square (l2).toNatClampNeg (0 : Int64))) H := hP
        have hD : va_D A (W_X5_squareTable cI cJ cZ h_strip h_strip_table h_strip_square h_rule h_rows h_strip_below h_strip_chosen h_strip_line h_strip_pushed strip_tops strip_bottoms f_strip_table (vp_updL f_strip_square (l2).toNatClampNeg (0 : Int64))) := hD
        refine lv_iinc (v := (l2 + (1 : Int32))) (lv' := [(2, .int (l2 + (1 : Int32))), (0, .ref h_strip), (1, .int l1)]) hx hb dX5_squareTable_16 hl (k := 2) rfl rfl (by decide) rfl (fun ls hl => ?_)
        refine lv_goto (tgt := 2) hx hb dX5_squareTable_19 (by decide) ?_
        exact ih _ _ hq _ _ _ _ hP hD hS _ (lv_sub hl [1, 2, 0] rfl)
  have L31 : ∀ (l1 : Int32) (f_strip_table : Nat → Int64) (K74 : (Int32) → (Nat → Int64) → Prop) (hK74 : (∀ (l2 : Int32) (f_strip_square : Nat → Int64), K74 l2 f_strip_square → ∀ (H : Heap) (locs : List Loc) (h_strip_table : Nat) (h_strip_square : Nat), va_P (dC, dI) vwCl (W_X5_squareTable cI cJ cZ h_strip h_strip_table h_strip_square h_rule h_rows h_strip_below h_strip_chosen h_strip_line h_strip_pushed strip_tops strip_bottoms f_strip_table f_strip_square) H → va_D A (W_X5_squareTable cI cJ cZ h_strip h_strip_table h_strip_square h_rule h_rows h_strip_below h_strip_chosen h_strip_line h_strip_pushed strip_tops strip_bottoms f_strip_table f_strip_square) → va_S A s.heap H locs → ∀ ls : Array Slot, lv_has ls 6 [(0, .ref h_strip), (1, .int l1), (2, .int l2)] → W p l e rm_X5_squareTable s m args below meth c H locs 0 0 QQ (F0 m 74 ls []))) (l2 : Int32) (n : Nat) (l3 : Int32) (f_strip_square : Nat → Int64), r_X5_squareTable_31 l1 f_strip_table post K74 l2 n l3 f_strip_square → ∀ (H : Heap) (locs : List Loc) (h_strip_table : Nat) (h_strip_square : Nat), va_P (dC, dI) vwCl (W_X5_squareTable cI cJ cZ h_strip h_strip_table h_strip_square h_rule h_rows h_strip_below h_strip_chosen h_strip_line h_strip_pushed strip_tops strip_bottoms f_strip_table f_strip_square) H → va_D A (W_X5_squareTable cI cJ cZ h_strip h_strip_table h_strip_square h_rule h_rows h_strip_below h_strip_chosen h_strip_line h_strip_pushed strip_tops strip_bottoms f_strip_table f_strip_square) → va_S A s.heap H locs → ∀ ls : Array Slot, lv_has ls 6 [(0, .ref h_strip), (1, .int l1), (2, .int l2), (3, .int l3)] → W p l e rm_X5_squareTable s m args below meth c H locs 0 0 QQ (F0 m 31 ls []) := by
    intro l1 f_strip_table K74 hK74 l2 n
    induction n with
    | zero => intro l3 f_strip_square hq; exact False.elim hq
    | succ n ih =>
      intro l3 f_strip_square hq H locs h_strip_table h_strip_square hP hD hS ls hl
      unfold r_X5_squareTable_31 at hq
      refine lv_iload_n hx hb dX5_squareTable_31 rfl (lv_at hl 3 rfl) ?_
      refine lv_iload_n hx hb dX5_squareTable_32 rfl (lv_at hl 1 rfl) ?_
      refine lv_icmp_ge (tgt := 74) hx hb dX5_squareTable_33 (by decide) (fun c4 => ?_) (fun c4 => ?_)
      · replace hq := hq.1 c4
        exact hK74 _ _ hq _ _ _ _ hP hD hS _ (lv_sub hl [0, 1, 2] rfl)
      · replace hq := hq.2 c4
        refine lv_aload_n hx hb dX5_squareTable_36 rfl (lv_at hl 0 rfl) ?_
        refine va_get (D := (dC, dI)) (ci := 5) (v := .ref h_strip_table) (C := RX5) (T := TX5) (N := 10) hx hb hts hinX5 hown hK hP 0 rfl rfl 6 (by decide) hf25 (fun _ h9 => h9) rfl dX5_squareTable_37 ?_
        refine lv_iload_n hx hb dX5_squareTable_40 rfl (lv_at hl 2 rfl) ?_
        refine lv_iload_n hx hb dX5_squareTable_41 rfl (lv_at hl 1 rfl) ?_
        refine lv_imul hx hb dX5_squareTable_42 ?_
        refine lv_iload_n hx hb dX5_squareTable_43 rfl (lv_at hl 3 rfl) ?_
        refine lv_iadd hx hb dX5_squareTable_44 ?_
        obtain ⟨hv5, hq⟩ := hq
        refine va_lald hx hb hK hP 1 1 rfl rfl hv5 dX5_squareTable_45 ?_
        refine lv_lstore (lv' := [(4, .long (f_strip_table (((l2 * l1) + l3)).toNatClampNeg)), (0, .ref h_strip), (1, .int l1), (2, .int l2), (3, .int l3)]) hx hb dX5_squareTable_46 hl (by decide) rfl (fun ls hl => ?_)
        refine lv_lload hx hb dX5_squareTable_48 (lv_at hl 0 rfl) ?_
        refine lv_lconst (v := (0 : Int64)) hx hb dX5_squareTable_50 (by decide) ?_
        refine W.lcmp hx hb dX5_squareTable_51 ?_
        refine lv_if_eq (tgt := 68) hx hb dX5_squareTable_52 (by decide) (fun c6 => ?_) (fun c6 => ?_)
        · replace hq := hq.1 ((lg_cmp_eq _ _).mp c6)
          refine lv_iinc (v := (l3 + (1 : Int32))) (lv' := [(3, .int (l3 + (1 : Int32))), (4, .long (f_strip_table (((l2 * l1) + l3)).toNatClampNeg)), (0, .ref h_strip), (1, .int l1), (2, .int l2)]) hx hb dX5_squareTable_68 hl (k := 4) rfl rfl (by decide) rfl (fun ls hl => ?_)
          refine lv_goto (tgt := 31) hx hb dX5_squareTable_71 (by decide) ?_
          exact ih _ _ hq _ _ _ _ hP hD hS _ (lv_sub hl [2, 3, 4, 0] rfl)
        · replace hq := hq.2 (fun h => c6 ((lg_cmp_eq _ _).mpr h))
          refine lv_aload_n hx hb dX5_squareTable_55 rfl (lv_at hl 1 rfl) ?_
          refine lv_iload_n hx hb dX5_squareTable_56 rfl (lv_at hl 3 rfl) ?_
          refine lv_iload_n hx hb dX5_squareTable_57 rfl (lv_at hl 2 rfl) ?_
          refine lv_imul hx hb dX5_squareTable_58 ?_
          refine lv_lload hx hb dX5_squareTable_59 (lv_at hl 0 rfl) ?_
          refine lv_iload_n hx hb dX5_squareTable_61 rfl (lv_at hl 4 rfl) ?_
          refine lv_iload_n hx hb dX5_squareTable_62 rfl (lv_at hl 2 rfl) ?_
          refine lv_imul hx hb dX5_squareTable_63 ?_
          refine lv_iload_n hx hb dX5_squareTable_64 rfl (lv_at hl 2 rfl) ?_
          refine gx_cVv (C := RX5) (As := [.int (l2 * l1), .long (f_strip_table (((l2 * l1) + l3)).toNatClampNeg), .int (l3 * l1), .int l1]) (rest := []) ⟨hx, hb, hml, hown, hts⟩ (c_X5_addRow l dC dI cI cJ cZ h_strip h_strip_table h_strip_square h_rule h_rows h_strip_below h_strip_chosen h_strip_line h_strip_pushed H.size strip_tops strip_bottoms f_strip_table f_strip_square (l2 * l1) (f_strip_table (((l2 * l1) + l3)).toNatClampNeg) (l3 * l1) l1 hq) (cwV 4 hts gX5_squareTable_X5_addRow rfl rfl rfl hdV_X5_addRow ⟨Nat.le_of_ble_eq_true rfl, Nat.le_of_ble_eq_true rfl⟩) hK hP hD hS hA [0, 1, 2] [] rfl rfl rfl rfl rfl (ci := 5) (q0 := 0) rfl rfl rfl rfl hl.1 (Nat.le_of_ble_eq_true rfl) dX5_squareTable_65 rfl (fun u H locs hq hP hD hS => ?_)
          obtain ⟨f_strip_square_7, rfl⟩ : ∃ z, z = u := ⟨_, rfl⟩
          try dsimp only at hq
          have hP : va_P (dC, dI) vwCl (W_X5_squareTable cI cJ cZ h_strip h_strip_table h_strip_square h_rule h_rows h_strip_below h_strip_chosen h_strip_line h_strip_pushed strip_tops strip_bottoms f_strip_table f_strip_square_7) H := hP
          have hD : va_D A (W_X5_squareTable cI cJ cZ h_strip h_strip_table h_strip_square h_rule h_rows h_strip_below h_strip_chosen h_strip_line h_strip_pushed strip_tops strip_bottoms f_strip_table f_strip_square_7) := hD
          refine lv_iinc (v := (l3 + (1 : Int32))) (lv' := [(3, .int (l3 + (1 : Int32))), (4, .long (f_strip_table (((l2 * l1) + l3)).toNatClampNeg)), (0, .ref h_strip), (1, .int l1), (2, .int l2)]) hx hb dX5_squareTable_68 hl (k := 4) rfl rfl (by decide) rfl (fun ls hl => ?_)
          refine lv_goto (tgt := 31) hx hb dX5_squareTable_71 (by decide) ?_
          exact ih _ _ hq _ _ _ _ hP hD hS _ (lv_sub hl [2, 3, 4, 0] rfl)
  have C74 : ∀ (l1 : Int32) (f_strip_table : Nat → Int64) (K80 : (Nat → Int64) → (Nat → Int64) → Prop) (hK80 : (∀ (f_strip_table : Nat → Int64) (f_strip_square : Nat → Int64), K80 f_strip_table f_strip_square → ∀ (H : Heap) (locs : List Loc) (h_strip_table : Nat) (h_strip_square : Nat), va_P (dC, dI) vwCl (W_X5_squareTable cI cJ cZ h_strip h_strip_table h_strip_square h_rule h_rows h_strip_below h_strip_chosen h_strip_line h_strip_pushed strip_tops strip_bottoms f_strip_table f_strip_square) H → va_D A (W_X5_squareTable cI cJ cZ h_strip h_strip_table h_strip_square h_rule h_rows h_strip_below h_strip_chosen h_strip_line h_strip_pushed strip_tops strip_bottoms f_strip_table f_strip_square) → va_S A s.heap H locs → ∀ ls : Array Slot, lv_has ls 6 [(0, .ref h_strip)] → W p l e rm_X5_squareTable s m args below meth c H locs 0 0 QQ (F0 m 80 ls []))) (K24 : (Int32) → (Nat → Int64) → Prop) (hK24 : (∀ (l2 : Int32) (f_strip_square : Nat → Int64), K24 l2 f_strip_square → ∀ (H : Heap) (locs : List Loc) (h_strip_table : Nat) (h_strip_square : Nat), va_P (dC, dI) vwCl (W_X5_squareTable cI cJ cZ h_strip h_strip_table h_strip_square h_rule h_rows h_strip_below h_strip_chosen h_strip_line h_strip_pushed strip_tops strip_bottoms f_strip_table f_strip_square) H → va_D A (W_X5_squareTable cI cJ cZ h_strip h_strip_table h_strip_square h_rule h_rows h_strip_below h_strip_chosen h_strip_line h_strip_pushed strip_tops strip_bottoms f_strip_table f_strip_square) → va_S A s.heap H locs → ∀ ls : Array Slot, lv_has ls 6 [(0, .ref h_strip), (1, .int l1), (2, .int l2)] → W p l e rm_X5_squareTable s m args below meth c H locs 0 0 QQ (F0 m 24 ls []))) (l2 : Int32) (f_strip_square : Nat → Int64), q_X5_squareTable_74 l1 f_strip_table post K80 K24 l2 f_strip_square → ∀ (H : Heap) (locs : List Loc) (h_strip_table : Nat) (h_strip_square : Nat), va_P (dC, dI) vwCl (W_X5_squareTable cI cJ cZ h_strip h_strip_table h_strip_square h_rule h_rows h_strip_below h_strip_chosen h_strip_line h_strip_pushed strip_tops strip_bottoms f_strip_table f_strip_square) H → va_D A (W_X5_squareTable cI cJ cZ h_strip h_strip_table h_strip_square h_rule h_rows h_strip_below h_strip_chosen h_strip_line h_strip_pushed strip_tops strip_bottoms f_strip_table f_strip_square) → va_S A s.heap H locs → ∀ ls : Array Slot, lv_has ls 6 [(0, .ref h_strip), (1, .int l1), (2, .int l2)] → W p l e rm_X5_squareTable s m args below meth c H locs 0 0 QQ (F0 m 74 ls []) := by
    intro l1 f_strip_table K80 hK80 K24 hK24 l2 f_strip_square hq H locs h_strip_table h_strip_square hP hD hS ls hl
    unfold q_X5_squareTable_74 at hq
    refine lv_iinc (v := (l2 + (1 : Int32))) (lv' := [(2, .int (l2 + (1 : Int32))), (0, .ref h_strip), (1, .int l1)]) hx hb dX5_squareTable_74 hl (k := 2) rfl rfl (by decide) rfl (fun ls hl => ?_)
    refine lv_goto (tgt := 24) hx hb dX5_squareTable_77 (by decide) ?_
    exact hK24 _ _ hq _ _ _ _ hP hD hS _ (lv_sub hl [1, 2, 0] rfl)
  have C31 : ∀ (l1 : Int32) (f_strip_table : Nat → Int64) (K80 : (Nat → Int64) → (Nat → Int64) → Prop) (hK80 : (∀ (f_strip_table : Nat → Int64) (f_strip_square : Nat → Int64), K80 f_strip_table f_strip_square → ∀ (H : Heap) (locs : List Loc) (h_strip_table : Nat) (h_strip_square : Nat), va_P (dC, dI) vwCl (W_X5_squareTable cI cJ cZ h_strip h_strip_table h_strip_square h_rule h_rows h_strip_below h_strip_chosen h_strip_line h_strip_pushed strip_tops strip_bottoms f_strip_table f_strip_square) H → va_D A (W_X5_squareTable cI cJ cZ h_strip h_strip_table h_strip_square h_rule h_rows h_strip_below h_strip_chosen h_strip_line h_strip_pushed strip_tops strip_bottoms f_strip_table f_strip_square) → va_S A s.heap H locs → ∀ ls : Array Slot, lv_has ls 6 [(0, .ref h_strip)] → W p l e rm_X5_squareTable s m args below meth c H locs 0 0 QQ (F0 m 80 ls []))) (K24 : (Int32) → (Nat → Int64) → Prop) (hK24 : (∀ (l2 : Int32) (f_strip_square : Nat → Int64), K24 l2 f_strip_square → ∀ (H : Heap) (locs : List Loc) (h_strip_table : Nat) (h_strip_square : Nat), va_P (dC, dI) vwCl (W_X5_squareTable cI cJ cZ h_strip h_strip_table h_strip_square h_rule h_rows h_strip_below h_strip_chosen h_strip_line h_strip_pushed strip_tops strip_bottoms f_strip_table f_strip_square) H → va_D A (W_X5_squareTable cI cJ cZ h_strip h_strip_table h_strip_square h_rule h_rows h_strip_below h_strip_chosen h_strip_line h_strip_pushed strip_tops strip_bottoms f_strip_table f_strip_square) → va_S A s.heap H locs → ∀ ls : Array Slot, lv_has ls 6 [(0, .ref h_strip), (1, .int l1), (2, .int l2)] → W p l e rm_X5_squareTable s m args below meth c H locs 0 0 QQ (F0 m 24 ls []))) (l2 : Int32) (l3 : Int32) (f_strip_square : Nat → Int64), q_X5_squareTable_31 l1 f_strip_table post K80 K24 l2 l3 f_strip_square → ∀ (H : Heap) (locs : List Loc) (h_strip_table : Nat) (h_strip_square : Nat), va_P (dC, dI) vwCl (W_X5_squareTable cI cJ cZ h_strip h_strip_table h_strip_square h_rule h_rows h_strip_below h_strip_chosen h_strip_line h_strip_pushed strip_tops strip_bottoms f_strip_table f_strip_square) H → va_D A (W_X5_squareTable cI cJ cZ h_strip h_strip_table h_strip_square h_rule h_rows h_strip_below h_strip_chosen h_strip_line h_strip_pushed strip_tops strip_bottoms f_strip_table f_strip_square) → va_S A s.heap H locs → ∀ ls : Array Slot, lv_has ls 6 [(0, .ref h_strip), (1, .int l1), (2, .int l2), (3, .int l3)] → W p l e rm_X5_squareTable s m args below meth c H locs 0 0 QQ (F0 m 31 ls []) := by
    intro l1 f_strip_table K80 hK80 K24 hK24 l2 l3 f_strip_square hq H locs h_strip_table h_strip_square hP hD hS ls hl
    obtain ⟨n, hq⟩ := hq
    exact L31 _ _ _ (C74 _ _ _ hK80 _ hK24) _ n _ _ hq H locs _ _ hP hD hS ls hl
  have L24 : ∀ (K80 : (Nat → Int64) → (Nat → Int64) → Prop) (hK80 : (∀ (f_strip_table : Nat → Int64) (f_strip_square : Nat → Int64), K80 f_strip_table f_strip_square → ∀ (H : Heap) (locs : List Loc) (h_strip_table : Nat) (h_strip_square : Nat), va_P (dC, dI) vwCl (W_X5_squareTable cI cJ cZ h_strip h_strip_table h_strip_square h_rule h_rows h_strip_below h_strip_chosen h_strip_line h_strip_pushed strip_tops strip_bottoms f_strip_table f_strip_square) H → va_D A (W_X5_squareTable cI cJ cZ h_strip h_strip_table h_strip_square h_rule h_rows h_strip_below h_strip_chosen h_strip_line h_strip_pushed strip_tops strip_bottoms f_strip_table f_strip_square) → va_S A s.heap H locs → ∀ ls : Array Slot, lv_has ls 6 [(0, .ref h_strip)] → W p l e rm_X5_squareTable s m args below meth c H locs 0 0 QQ (F0 m 80 ls []))) (l1 : Int32) (f_strip_table : Nat → Int64) (n : Nat) (l2 : Int32) (f_strip_square : Nat → Int64), r_X5_squareTable_24 post K80 l1 f_strip_table n l2 f_strip_square → ∀ (H : Heap) (locs : List Loc) (h_strip_table : Nat) (h_strip_square : Nat), va_P (dC, dI) vwCl (W_X5_squareTable cI cJ cZ h_strip h_strip_table h_strip_square h_rule h_rows h_strip_below h_strip_chosen h_strip_line h_strip_pushed strip_tops strip_bottoms f_strip_table f_strip_square) H → va_D A (W_X5_squareTable cI cJ cZ h_strip h_strip_table h_strip_square h_rule h_rows h_strip_below h_strip_chosen h_strip_line h_strip_pushed strip_tops strip_bottoms f_strip_table f_strip_square) → va_S A s.heap H locs → ∀ ls : Array Slot, lv_has ls 6 [(0, .ref h_strip), (1, .int l1), (2, .int l2)] → W p l e rm_X5_squareTable s m args below meth c H locs 0 0 QQ (F0 m 24 ls []) := by
    intro K80 hK80 l1 f_strip_table n
    induction n with
    | zero => intro l2 f_strip_square hq; exact False.elim hq
    | succ n ih =>
      intro l2 f_strip_square hq H locs h_strip_table h_strip_square hP hD hS ls hl
      unfold r_X5_squareTable_24 at hq
      refine lv_iload_n hx hb dX5_squareTable_24 rfl (lv_at hl 2 rfl) ?_
      refine lv_iload_n hx hb dX5_squareTable_25 rfl (lv_at hl 1 rfl) ?_
      refine lv_icmp_ge (tgt := 80) hx hb dX5_squareTable_26 (by decide) (fun c3 => ?_) (fun c3 => ?_)
      · replace hq := hq.1 c3
        exact hK80 _ _ hq _ _ _ _ hP hD hS _ (lv_sub hl [0] rfl)
      · replace hq := hq.2 c3
        refine lv_iconst (v := (0 : Int32)) hx hb dX5_squareTable_29 (by decide) ?_
        refine lv_istore_n (lv' := [(3, .int (0 : Int32)), (0, .ref h_strip), (1, .int l1), (2, .int l2)]) hx hb dX5_squareTable_30 rfl hl (by decide) rfl (fun ls hl => ?_)
        exact (C31 _ _ _ hK80 _ ih) _ _ _ hq _ _ _ _ hP hD hS _ (lv_sub hl [1, 2, 3, 0] rfl)
  have C80 : ∀ (f_strip_table : Nat → Int64) (f_strip_square : Nat → Int64), q_X5_squareTable_80 post f_strip_table f_strip_square → ∀ (H : Heap) (locs : List Loc) (h_strip_table : Nat) (h_strip_square : Nat), va_P (dC, dI) vwCl (W_X5_squareTable cI cJ cZ h_strip h_strip_table h_strip_square h_rule h_rows h_strip_below h_strip_chosen h_strip_line h_strip_pushed strip_tops strip_bottoms f_strip_table f_strip_square) H → va_D A (W_X5_squareTable cI cJ cZ h_strip h_strip_table h_strip_square h_rule h_rows h_strip_below h_strip_chosen h_strip_line h_strip_pushed strip_tops strip_bottoms f_strip_table f_strip_square) → va_S A s.heap H locs → ∀ ls : Array Slot, lv_has ls 6 [(0, .ref h_strip)] → W p l e rm_X5_squareTable s m args below meth c H locs 0 0 QQ (F0 m 80 ls []) := by
    intro f_strip_table f_strip_square hq H locs h_strip_table h_strip_square hP hD hS ls hl
    unfold q_X5_squareTable_80 at hq
    refine lv_aload_n hx hb dX5_squareTable_80 rfl (lv_at hl 0 rfl) ?_
    refine va_get (D := (dC, dI)) (ci := 5) (v := .ref h_strip_table) (C := RX5) (T := TX5) (N := 10) hx hb hts hinX5 hown hK hP 0 rfl rfl 6 (by decide) hf25 (fun _ h9 => h9) rfl dX5_squareTable_81 ?_
    refine lv_astore_n (lv' := [(2, .ref h_strip_table), (0, .ref h_strip)]) hx hb dX5_squareTable_84 rfl hl (by decide) rfl (fun ls hl => ?_)
    refine lv_aload_n hx hb dX5_squareTable_85 rfl (lv_at hl 1 rfl) ?_
    refine lv_aload_n hx hb dX5_squareTable_86 rfl (lv_at hl 1 rfl) ?_
    refine va_get (D := (dC, dI)) (ci := 5) (v := .ref h_strip_square) (C := RX5) (T := TX5) (N := 10) hx hb hts hinX5 hown hK hP 0 rfl rfl 7 (by decide) hf29 (fun _ h9 => h9) rfl dX5_squareTable_87 ?_
    refine va_put (D := (dC, dI)) (ci := 5) (v := .ref h_strip_square) (ty := tyX5 6) (C := RX5) (T := TX5) (N := 10) hx hb hts hinX5 tyX5 tyX5_ok nmX5 hown hK hP hD hS 0 rfl rfl 6 (by decide) hf25 (fun _ h9 => h9) rfl (tyX5_ok 6 (by decide)) rfl rfl (Nat.le_of_ble_eq_true rfl) dX5_squareTable_90 (fun H locs hP hD hS => ?_)
    have hP : va_P (dC, dI) vwCl [(h_strip, .inr (5, [.ref h_rule, .ref h_rows, .ref h_strip_below, .int strip_tops, .int strip_bottoms, .ref h_strip_chosen, .ref h_strip_square, .ref h_strip_square, .ref h_strip_line, .ref h_strip_pushed])), (h_strip_table, .inl (cJ, 729, .inr (.inl f_strip_table))), (h_strip_square, .inl (cJ, 729, .inr (.inl f_strip_square)))] H := hP
    have hD : va_D A [(h_strip, .inr (5, [.ref h_rule, .ref h_rows, .ref h_strip_below, .int strip_tops, .int strip_bottoms, .ref h_strip_chosen, .ref h_strip_square, .ref h_strip_square, .ref h_strip_line, .ref h_strip_pushed])), (h_strip_table, .inl (cJ, 729, .inr (.inl f_strip_table))), (h_strip_square, .inl (cJ, 729, .inr (.inl f_strip_square)))] := hD
    refine lv_aload_n hx hb dX5_squareTable_93 rfl (lv_at hl 1 rfl) ?_
    refine lv_aload_n hx hb dX5_squareTable_94 rfl (lv_at hl 0 rfl) ?_
    refine va_put (D := (dC, dI)) (ci := 5) (v := .ref h_strip_table) (ty := tyX5 7) (C := RX5) (T := TX5) (N := 10) hx hb hts hinX5 tyX5 tyX5_ok nmX5 hown hK hP hD hS 0 rfl rfl 7 (by decide) hf29 (fun _ h9 => h9) rfl (tyX5_ok 7 (by decide)) rfl rfl (Nat.le_of_ble_eq_true rfl) dX5_squareTable_95 (fun H locs hP hD hS => ?_)
    have hP : va_P (dC, dI) vwCl [(h_strip, .inr (5, [.ref h_rule, .ref h_rows, .ref h_strip_below, .int strip_tops, .int strip_bottoms, .ref h_strip_chosen, .ref h_strip_square, .ref h_strip_table, .ref h_strip_line, .ref h_strip_pushed])), (h_strip_table, .inl (cJ, 729, .inr (.inl f_strip_table))), (h_strip_square, .inl (cJ, 729, .inr (.inl f_strip_square)))] H := hP
    have hD : va_D A [(h_strip, .inr (5, [.ref h_rule, .ref h_rows, .ref h_strip_below, .int strip_tops, .int strip_bottoms, .ref h_strip_chosen, .ref h_strip_square, .ref h_strip_table, .ref h_strip_line, .ref h_strip_pushed])), (h_strip_table, .inl (cJ, 729, .inr (.inl f_strip_table))), (h_strip_square, .inl (cJ, 729, .inr (.inl f_strip_square)))] := hD
    have hP : va_P (dC, dI) vwCl (W_X5_squareTable cI cJ cZ h_strip h_strip_square h_strip_table h_rule h_rows h_strip_below h_strip_chosen h_strip_line h_strip_pushed strip_tops strip_bottoms f_strip_square f_strip_table) H := hP.sub [0, 2, 1] rfl
    have hD : va_D A (W_X5_squareTable cI cJ cZ h_strip h_strip_square h_strip_table h_rule h_rows h_strip_below h_strip_chosen h_strip_line h_strip_pushed strip_tops strip_bottoms f_strip_square f_strip_table) := hD.sub [0, 2, 1] (by decide) rfl
    exact hret (f_strip_square, f_strip_table, h_strip_square, h_strip_table) hq _ _ hP hD hS _ _ dX5_squareTable_98
  have C24 : ∀ (l1 : Int32) (l2 : Int32) (f_strip_table : Nat → Int64) (f_strip_square : Nat → Int64), q_X5_squareTable_24 post l1 l2 f_strip_table f_strip_square → ∀ (H : Heap) (locs : List Loc) (h_strip_table : Nat) (h_strip_square : Nat), va_P (dC, dI) vwCl (W_X5_squareTable cI cJ cZ h_strip h_strip_table h_strip_square h_rule h_rows h_strip_below h_strip_chosen h_strip_line h_strip_pushed strip_tops strip_bottoms f_strip_table f_strip_square) H → va_D A (W_X5_squareTable cI cJ cZ h_strip h_strip_table h_strip_square h_rule h_rows h_strip_below h_strip_chosen h_strip_line h_strip_pushed strip_tops strip_bottoms f_strip_table f_strip_square) → va_S A s.heap H locs → ∀ ls : Array Slot, lv_has ls 6 [(0, .ref h_strip), (1, .int l1), (2, .int l2)] → W p l e rm_X5_squareTable s m args below meth c H locs 0 0 QQ (F0 m 24 ls []) := by
    intro l1 l2 f_strip_table f_strip_square hq H locs h_strip_table h_strip_square hP hD hS ls hl
    obtain ⟨n, hq⟩ := hq
    exact L24 _ C80 _ _ n _ _ hq H locs _ _ hP hD hS ls hl
  have C22 : ∀ (l1 : Int32) (f_strip_table : Nat → Int64) (f_strip_square : Nat → Int64), q_X5_squareTable_22 post l1 f_strip_table f_strip_square → ∀ (H : Heap) (locs : List Loc) (h_strip_table : Nat) (h_strip_square : Nat), va_P (dC, dI) vwCl (W_X5_squareTable cI cJ cZ h_strip h_strip_table h_strip_square h_rule h_rows h_strip_below h_strip_chosen h_strip_line h_strip_pushed strip_tops strip_bottoms f_strip_table f_strip_square) H → va_D A (W_X5_squareTable cI cJ cZ h_strip h_strip_table h_strip_square h_rule h_rows h_strip_below h_strip_chosen h_strip_line h_strip_pushed strip_tops strip_bottoms f_strip_table f_strip_square) → va_S A s.heap H locs → ∀ ls : Array Slot, lv_has ls 6 [(0, .ref h_strip), (1, .int l1)] → W p l e rm_X5_squareTable s m args below meth c H locs 0 0 QQ (F0 m 22 ls []) := by
    intro l1 f_strip_table f_strip_square hq H locs h_strip_table h_strip_square hP hD hS ls hl
    unfold q_X5_squareTable_22 at hq
    refine lv_iconst (v := (0 : Int32)) hx hb dX5_squareTable_22 (by decide) ?_
    refine lv_istore_n (lv' := [(2, .int (0 : Int32)), (0, .ref h_strip), (1, .int l1)]) hx hb dX5_squareTable_23 rfl hl (by decide) rfl (fun ls hl => ?_)
    exact C24 _ _ _ _ hq _ _ _ _ hP hD hS _ (lv_sub hl [1, 2, 0] rfl)
  have C2 : ∀ (l1 : Int32) (l2 : Int32) (f_strip_table : Nat → Int64) (f_strip_square : Nat → Int64), q_X5_squareTable_2 post l1 l2 f_strip_table f_strip_square → ∀ (H : Heap) (locs : List Loc) (h_strip_table : Nat) (h_strip_square : Nat), va_P (dC, dI) vwCl (W_X5_squareTable cI cJ cZ h_strip h_strip_table h_strip_square h_rule h_rows h_strip_below h_strip_chosen h_strip_line h_strip_pushed strip_tops strip_bottoms f_strip_table f_strip_square) H → va_D A (W_X5_squareTable cI cJ cZ h_strip h_strip_table h_strip_square h_rule h_rows h_strip_below h_strip_chosen h_strip_line h_strip_pushed strip_tops strip_bottoms f_strip_table f_strip_square) → va_S A s.heap H locs → ∀ ls : Array Slot, lv_has ls 6 [(0, .ref h_strip), (1, .int l1), (2, .int l2)] → W p l e rm_X5_squareTable s m args below meth c H locs 0 0 QQ (F0 m 2 ls []) := by
    intro l1 l2 f_strip_table f_strip_square hq H locs h_strip_table h_strip_square hP hD hS ls hl
    obtain ⟨n, hq⟩ := hq
    exact L2 _ C22 _ _ n _ _ hq H locs _ _ hP hD hS ls hl
  unfold q_X5_squareTable at hq
  refine lv_iconst (v := (0 : Int32)) hx hb dX5_squareTable_0 (by decide) ?_
  refine lv_istore_n (lv' := [(2, .int (0 : Int32)), (0, .ref h_strip), (1, .int l1)]) hx hb dX5_squareTable_1 rfl hl (by decide) rfl (fun ls hl => ?_)
  exact C2 _ _ _ _ hq _ _ _ _ hP hD hS _ (lv_sub hl [1, 2, 0] rfl)

abbrev W_X5_ofHeight (cI cJ cZ : ClassId) (h_strip h_strip_below h_strip_chosen h_strip_table h_strip_square h_strip_line h_strip_pushed h_rows h_rule h_rows_framed h_rows_power : Nat) (strip_tops : Int32) (strip_bottoms : Int32) (f_strip_below : Nat → Int32) (f_strip_chosen : Nat → Int32) (f_strip_table : Nat → Int64) (f_strip_square : Nat → Int64) (f_strip_line : Nat → Int64) (f_strip_pushed : Nat → Int64) (rows_c : Int32) (rows_w : Int32) (rows_size : Int32) (rows_ring : Int32) : va_W := [(h_strip, .inr (5, [.ref h_rule, .ref h_rows, .ref h_strip_below, .int strip_tops, .int strip_bottoms, .ref h_strip_chosen, .ref h_strip_table, .ref h_strip_square, .ref h_strip_line, .ref h_strip_pushed])), (h_strip_below, .inl (cI, 27, .inl f_strip_below)), (h_strip_chosen, .inl (cI, 27, .inl f_strip_chosen)), (h_strip_table, .inl (cJ, 729, .inr (.inl f_strip_table))), (h_strip_square, .inl (cJ, 729, .inr (.inl f_strip_square))), (h_strip_line, .inl (cJ, 27, .inr (.inl f_strip_line))), (h_strip_pushed, .inl (cJ, 27, .inr (.inl f_strip_pushed))), (h_rows, .inr (2, [.int rows_c, .int rows_w, .int rows_size, .int rows_ring, .ref h_rows_framed, .ref h_rows_power]))]
abbrev rm_X5_ofHeight : Room := { frames := 4, cells := 0, slots := 0, locals := 89 }
def q_X5_ofHeight_24 (strip_tops : Int32) (strip_bottoms : Int32) (f_strip_below : Nat → Int32) (rows_size : Int32) (l2 : Int32) (f_strip_chosen : Nat → Int32) (post : Int32 → (Nat → Int32) → (Nat → Int64) → (Nat → Int64) → (Nat → Int64) → (Nat → Int64) → Prop) (K41 : (Int32) → (Nat → Int32) → (Nat → Int64) → (Nat → Int64) → (Nat → Int64) → (Nat → Int64) → Prop) (K9 : (Int32) → (Nat → Int64) → (Nat → Int64) → (Nat → Int64) → (Nat → Int64) → Prop) (l3 : Int32) (f_strip_table : Nat → Int64) (f_strip_square : Nat → Int64) (f_strip_line : Nat → Int64) (f_strip_pushed : Nat → Int64) : Prop := ((l3 ≤ (1 : Int32) → (K9 (l3 >>> ((1 : Int32) &&& 31)) f_strip_table f_strip_square f_strip_line f_strip_pushed)) ∧ (¬ l3 ≤ (1 : Int32) → (q_X5_squareTable f_strip_table f_strip_square l2 (fun (f_strip_table_5 : Nat → Int64) (f_strip_square_5 : Nat → Int64) => (K9 (l3 >>> ((1 : Int32) &&& 31)) f_strip_table_5 f_strip_square_5 f_strip_line f_strip_pushed)))))
def r_X5_ofHeight_9 (strip_tops : Int32) (strip_bottoms : Int32) (f_strip_below : Nat → Int32) (rows_size : Int32) (post : Int32 → (Nat → Int32) → (Nat → Int64) → (Nat → Int64) → (Nat → Int64) → (Nat → Int64) → Prop) (K41 : (Int32) → (Nat → Int32) → (Nat → Int64) → (Nat → Int64) → (Nat → Int64) → (Nat → Int64) → Prop) (l2 : Int32) (f_strip_chosen : Nat → Int32) : Nat → (Int32) → (Nat → Int64) → (Nat → Int64) → (Nat → Int64) → (Nat → Int64) → Prop
  | 0, _, _, _, _, _ => False
  | n + 1, l3, f_strip_table, f_strip_square, f_strip_line, f_strip_pushed => ((l3 ≤ 0 → (K41 l2 f_strip_chosen f_strip_table f_strip_square f_strip_line f_strip_pushed)) ∧ (¬ l3 ≤ 0 → (((l3 &&& (1 : Int32)) = 0 → ((q_X5_ofHeight_24 strip_tops strip_bottoms f_strip_below rows_size l2 f_strip_chosen post K41 (r_X5_ofHeight_9 strip_tops strip_bottoms f_strip_below rows_size post K41 l2 f_strip_chosen n)) l3 f_strip_table f_strip_square f_strip_line f_strip_pushed)) ∧ (¬ (l3 &&& (1 : Int32)) = 0 → (q_X5_push f_strip_table f_strip_line f_strip_pushed l2 (fun (f_strip_line_6 : Nat → Int64) (f_strip_pushed_6 : Nat → Int64) => ((q_X5_ofHeight_24 strip_tops strip_bottoms f_strip_below rows_size l2 f_strip_chosen post K41 (r_X5_ofHeight_9 strip_tops strip_bottoms f_strip_below rows_size post K41 l2 f_strip_chosen n)) l3 f_strip_table f_strip_square f_strip_line_6 f_strip_pushed_6)))))))
def r_X5_ofHeight_46 (strip_tops : Int32) (strip_bottoms : Int32) (f_strip_below : Nat → Int32) (rows_size : Int32) (post : Int32 → (Nat → Int32) → (Nat → Int64) → (Nat → Int64) → (Nat → Int64) → (Nat → Int64) → Prop) (l2 : Int32) (f_strip_chosen : Nat → Int32) (f_strip_table : Nat → Int64) (f_strip_square : Nat → Int64) (f_strip_line : Nat → Int64) (f_strip_pushed : Nat → Int64) : Nat → (Int64) → (Int32) → Prop
  | 0, _, _ => False
  | n + 1, l3, l5 => ((l2 ≤ l5 → (post (((l3 - (l3 / (1000000007 : Int64)) * (1000000007 : Int64))).toInt32) f_strip_chosen f_strip_table f_strip_square f_strip_line f_strip_pushed)) ∧ (¬ l2 ≤ l5 → (vp_in l5 27 ∧ ((((strip_bottoms >>> ((f_strip_chosen (l5).toNatClampNeg) &&& 31)) &&& (1 : Int32)) = 0 → ((r_X5_ofHeight_46 strip_tops strip_bottoms f_strip_below rows_size post l2 f_strip_chosen f_strip_table f_strip_square f_strip_line f_strip_pushed n) l3 (l5 + (1 : Int32)))) ∧ (¬ ((strip_bottoms >>> ((f_strip_chosen (l5).toNatClampNeg) &&& 31)) &&& (1 : Int32)) = 0 → (vp_in l5 27 ∧ ((r_X5_ofHeight_46 strip_tops strip_bottoms f_strip_below rows_size post l2 f_strip_chosen f_strip_table f_strip_square f_strip_line f_strip_pushed n) (l3 + (f_strip_line (l5).toNatClampNeg)) (l5 + (1 : Int32)))))))))
def q_X5_ofHeight_46 (strip_tops : Int32) (strip_bottoms : Int32) (f_strip_below : Nat → Int32) (rows_size : Int32) (post : Int32 → (Nat → Int32) → (Nat → Int64) → (Nat → Int64) → (Nat → Int64) → (Nat → Int64) → Prop) (l2 : Int32) (l3 : Int64) (l5 : Int32) (f_strip_chosen : Nat → Int32) (f_strip_table : Nat → Int64) (f_strip_square : Nat → Int64) (f_strip_line : Nat → Int64) (f_strip_pushed : Nat → Int64) : Prop := ∃ n, r_X5_ofHeight_46 strip_tops strip_bottoms f_strip_below rows_size post l2 f_strip_chosen f_strip_table f_strip_square f_strip_line f_strip_pushed n l3 l5
def q_X5_ofHeight_41 (strip_tops : Int32) (strip_bottoms : Int32) (f_strip_below : Nat → Int32) (rows_size : Int32) (post : Int32 → (Nat → Int32) → (Nat → Int64) → (Nat → Int64) → (Nat → Int64) → (Nat → Int64) → Prop) (l2 : Int32) (f_strip_chosen : Nat → Int32) (f_strip_table : Nat → Int64) (f_strip_square : Nat → Int64) (f_strip_line : Nat → Int64) (f_strip_pushed : Nat → Int64) : Prop := ((q_X5_ofHeight_46 strip_tops strip_bottoms f_strip_below rows_size post) l2 (0 : Int64) (0 : Int32) f_strip_chosen f_strip_table f_strip_square f_strip_line f_strip_pushed)
def q_X5_ofHeight_9 (strip_tops : Int32) (strip_bottoms : Int32) (f_strip_below : Nat → Int32) (rows_size : Int32) (post : Int32 → (Nat → Int32) → (Nat → Int64) → (Nat → Int64) → (Nat → Int64) → (Nat → Int64) → Prop) (l2 : Int32) (l3 : Int32) (f_strip_chosen : Nat → Int32) (f_strip_table : Nat → Int64) (f_strip_square : Nat → Int64) (f_strip_line : Nat → Int64) (f_strip_pushed : Nat → Int64) : Prop := ∃ n, r_X5_ofHeight_9 strip_tops strip_bottoms f_strip_below rows_size post (q_X5_ofHeight_41 strip_tops strip_bottoms f_strip_below rows_size post) l2 f_strip_chosen n l3 f_strip_table f_strip_square f_strip_line f_strip_pushed
def q_X5_ofHeight (strip_tops : Int32) (strip_bottoms : Int32) (f_strip_below : Nat → Int32) (rows_size : Int32) (f_strip_chosen : Nat → Int32) (f_strip_table : Nat → Int64) (f_strip_square : Nat → Int64) (f_strip_line : Nat → Int64) (f_strip_pushed : Nat → Int64) (l1 : Int32) (post : Int32 → (Nat → Int32) → (Nat → Int64) → (Nat → Int64) → (Nat → Int64) → (Nat → Int64) → Prop) : Prop := (q_X5_choose strip_tops strip_bottoms f_strip_below rows_size f_strip_chosen f_strip_table f_strip_line (fun (r1 : Int32) (f_strip_chosen_1 : Nat → Int32) (f_strip_table_1 : Nat → Int64) (f_strip_line_1 : Nat → Int64) => ((q_X5_ofHeight_9 strip_tops strip_bottoms f_strip_below rows_size post) r1 (l1 - (1 : Int32)) f_strip_chosen_1 f_strip_table_1 f_strip_square f_strip_line_1 f_strip_pushed)))
theorem hdV_X5_ofHeight : yX5_ofHeight.cls = RX5 ∧ yX5_ofHeight.cls ≠ "java/lang/invoke/MethodHandle" ∧ yX5_ofHeight.cls ≠ "java/lang/invoke/VarHandle" ∧ (parseMethodDescriptor yX5_ofHeight.desc).map (fun d => d.parameters.length) = some 1 := by decide +kernel
set_option maxHeartbeats 4000000 in
set_option maxRecDepth 100000 in
theorem c_X5_ofHeight (l : Launch) (dC : Nat → ClassId) (dI : Nat → Nat → Nat) (cI cJ cZ : ClassId) (h_strip h_strip_below h_strip_chosen h_strip_table h_strip_square h_strip_line h_strip_pushed h_rows h_rule h_rows_framed h_rows_power : Nat) (sz : Nat) (strip_tops : Int32) (strip_bottoms : Int32) (f_strip_below : Nat → Int32) (f_strip_chosen : Nat → Int32) (f_strip_table : Nat → Int64) (f_strip_square : Nat → Int64) (f_strip_line : Nat → Int64) (f_strip_pushed : Nat → Int64) (rows_c : Int32) (rows_w : Int32) (rows_size : Int32) (rows_ring : Int32) (l1 : Int32) {post : Int32 → (Nat → Int32) → (Nat → Int64) → (Nat → Int64) → (Nat → Int64) → (Nat → Int64) → Prop} (hq : q_X5_ofHeight strip_tops strip_bottoms f_strip_below rows_size f_strip_chosen f_strip_table f_strip_square f_strip_line f_strip_pushed l1 post) : Met l yX5_ofHeight wsX5_ofHeight rm_X5_ofHeight (va_Pc [.ref h_strip, .int l1] (gx_Pre (dC, dI) vwCl (gx_tys cI cJ cZ) sz (W_X5_ofHeight cI cJ cZ h_strip h_strip_below h_strip_chosen h_strip_table h_strip_square h_strip_line h_strip_pushed h_rows h_rule h_rows_framed h_rows_power strip_tops strip_bottoms f_strip_below f_strip_chosen f_strip_table f_strip_square f_strip_line f_strip_pushed rows_c rows_w rows_size rows_ring))) (va_Qi (fun (r : Int32) (u : (Nat → Int32) × (Nat → Int64) × (Nat → Int64) × (Nat → Int64) × (Nat → Int64) × (Nat) × (Nat) × (Nat) × (Nat)) => post r u.1 u.2.1 u.2.2.1 u.2.2.2.1 u.2.2.2.2.1) (gx_B (dC, dI) vwCl (gx_tys cI cJ cZ) (va_A (W_X5_ofHeight cI cJ cZ h_strip h_strip_below h_strip_chosen h_strip_table h_strip_square h_strip_line h_strip_pushed h_rows h_rule h_rows_framed h_rows_power strip_tops strip_bottoms f_strip_below f_strip_chosen f_strip_table f_strip_square f_strip_line f_strip_pushed rows_c rows_w rows_size rows_ring) sz) (fun (u : (Nat → Int32) × (Nat → Int64) × (Nat → Int64) × (Nat → Int64) × (Nat → Int64) × (Nat) × (Nat) × (Nat) × (Nat)) => (W_X5_ofHeight cI cJ cZ h_strip h_strip_below h_strip_chosen u.2.2.2.2.2.2.2.1 u.2.2.2.2.2.2.2.2 u.2.2.2.2.2.1 u.2.2.2.2.2.2.1 h_rows h_rule h_rows_framed h_rows_power strip_tops strip_bottoms f_strip_below u.1 u.2.1 u.2.2.1 u.2.2.2.1 u.2.2.2.2.1 rows_c rows_w rows_size rows_ring))) (va_A (W_X5_ofHeight cI cJ cZ h_strip h_strip_below h_strip_chosen h_strip_table h_strip_square h_strip_line h_strip_pushed h_rows h_rule h_rows_framed h_rows_power strip_tops strip_bottoms f_strip_below f_strip_chosen f_strip_table f_strip_square f_strip_line f_strip_pushed rows_c rows_w rows_size rows_ring) sz)) 0 0 (va_A (W_X5_ofHeight cI cJ cZ h_strip h_strip_below h_strip_chosen h_strip_table h_strip_square h_strip_line h_strip_pushed h_rows h_rule h_rows_framed h_rows_power strip_tops strip_bottoms f_strip_below f_strip_chosen f_strip_table f_strip_square f_strip_line f_strip_pushed rows_c rows_w rows_size rows_ring) sz) := by
  refine gx_i (cc := cX5_ofHeight) (maxL := 6) (by decide) rfl (Nat.le_of_ble_eq_true rfl) ?_
  intro p e s m args below meth c A QQ hx hb hml hown hts hA hP hK hD hret ls hl
  have hown : s.vm.findClass RX5 = some m.cls := hown
  have hcl101 := hts (.constantLong RX5 101 (1000000007)) (by decide +kernel)
  have hf19 := hts (.fieldLink RX5 19 "SmallWindows$Strip" "bottoms" "I") (by decide +kernel)
  have hf22 := hts (.fieldLink RX5 22 "SmallWindows$Strip" "chosen" "[I") (by decide +kernel)
  have hf32 := hts (.fieldLink RX5 32 "SmallWindows$Strip" "line" "[J") (by decide +kernel)
  have hinX5 : ∀ w ∈ u_ws RX5 TX5 10, w ∈ wsX5_ofHeight := fun w h => List.mem_cons_of_mem _ ((List.mem_append_left _ (List.mem_append_right _ h)))
  have hS : va_S A s.heap s.heap [] := va_S.rf
  have hl : lv_has ls 6 [(0, .ref h_strip), (1, .int l1)] := hl
  have C24 : ∀ (l2 : Int32) (f_strip_chosen : Nat → Int32) (K41 : (Int32) → (Nat → Int32) → (Nat → Int64) → (Nat → Int64) → (Nat → Int64) → (Nat → Int64) → Prop) (hK41 : (∀ (l2 : Int32) (f_strip_chosen : Nat → Int32) (f_strip_table : Nat → Int64) (f_strip_square : Nat → Int64) (f_strip_line : Nat → Int64) (f_strip_pushed : Nat → Int64), K41 l2 f_strip_chosen f_strip_table f_strip_square f_strip_line f_strip_pushed → ∀ (H : Heap) (locs : List Loc) (h_strip_line : Nat) (h_strip_pushed : Nat) (h_strip_table : Nat) (h_strip_square : Nat), va_P (dC, dI) vwCl (W_X5_ofHeight cI cJ cZ h_strip h_strip_below h_strip_chosen h_strip_table h_strip_square h_strip_line h_strip_pushed h_rows h_rule h_rows_framed h_rows_power strip_tops strip_bottoms f_strip_below f_strip_chosen f_strip_table f_strip_square f_strip_line f_strip_pushed rows_c rows_w rows_size rows_ring) H → va_D A (W_X5_ofHeight cI cJ cZ h_strip h_strip_below h_strip_chosen h_strip_table h_strip_square h_strip_line h_strip_pushed h_rows h_rule h_rows_framed h_rows_power strip_tops strip_bottoms f_strip_below f_strip_chosen f_strip_table f_strip_square f_strip_line f_strip_pushed rows_c rows_w rows_size rows_ring) → va_S A s.heap H locs → ∀ ls : Array Slot, lv_has ls 6 [(0, .ref h_strip), (2, .int l2)] → W p l e rm_X5_ofHeight s m args below meth c H locs 0 0 QQ (F0 m 41 ls []))) (K9 : (Int32) → (Nat → Int64) → (Nat → Int64) → (Nat → Int64) → (Nat → Int64) → Prop) (hK9 : (∀ (l3 : Int32) (f_strip_table : Nat → Int64) (f_strip_square : Nat → Int64) (f_strip_line : Nat → Int64) (f_strip_pushed : Nat → Int64), K9 l3 f_strip_table f_strip_square f_strip_line f_strip_pushed → ∀ (H : Heap) (locs : List Loc) (h_strip_line : Nat) (h_strip_pushed : Nat) (h_strip_table : Nat) (h_strip_square : Nat), va_P (dC, dI) vwCl (W_X5_ofHeight cI cJ cZ h_strip h_strip_below h_strip_chosen h_strip_table h_strip_square h_strip_line h_strip_pushed h_rows h_rule h_rows_framed h_rows_power strip_tops strip_bottoms f_strip_below f_strip_chosen f_strip_table f_strip_square f_strip_line f_strip_pushed rows_c rows_w rows_size rows_ring) H → va_D A (W_X5_ofHeight cI cJ cZ h_strip h_strip_below h_strip_chosen h_strip_table h_strip_square h_strip_line h_strip_pushed h_rows h_rule h_rows_framed h_rows_power strip_tops strip_bottoms f_strip_below f_strip_chosen f_strip_table f_strip_square f_strip_line f_strip_pushed rows_c rows_w rows_size rows_ring) → va_S A s.heap H locs → ∀ ls : Array Slot, lv_has ls 6 [(0, .ref h_strip), (2, .int l2), (3, .int l3)] → W p l e rm_X5_ofHeight s m args below meth c H locs 0 0 QQ (F0 m 9 ls []))) (l3 : Int32) (f_strip_table : Nat → Int64) (f_strip_square : Nat → Int64) (f_strip_line : Nat → Int64) (f_strip_pushed : Nat → Int64), q_X5_ofHeight_24 strip_tops strip_bottoms f_strip_below rows_size l2 f_strip_chosen post K41 K9 l3 f_strip_table f_strip_square f_strip_line f_strip_pushed → ∀ (H : Heap) (locs : List Loc) (h_strip_line : Nat) (h_strip_pushed : Nat) (h_strip_table : Nat) (h_strip_square : Nat), va_P (dC, dI) vwCl (W_X5_ofHeight cI cJ cZ h_strip h_strip_below h_strip_chosen h_strip_table h_strip_square h_strip_line h_strip_pushed h_rows h_rule h_rows_framed h_rows_power strip_tops strip_bottoms f_strip_below f_strip_chosen f_strip_table f_strip_square f_strip_line f_strip_pushed rows_c rows_w rows_size rows_ring) H → va_D A (W_X5_ofHeight cI cJ cZ h_strip h_strip_below h_strip_chosen h_strip_table h_strip_square h_strip_line h_strip_pushed h_rows h_rule h_rows_framed h_rows_power strip_tops strip_bottoms f_strip_below f_strip_chosen f_strip_table f_strip_square f_strip_line f_strip_pushed rows_c rows_w rows_size rows_ring) → va_S A s.heap H locs → ∀ ls : Array Slot, lv_has ls 6 [(0, .ref h_strip), (2, .int l2), (3, .int l3)] → W p l e rm_X5_ofHeight s m args below meth c H locs 0 0 QQ (F0 m 24 ls []) := by
    intro l2 f_strip_chosen K41 hK41 K9 hK9 l3 f_strip_table f_strip_square f_strip_line f_strip_pushed hq H locs h_strip_line h_strip_pushed h_strip_table h_strip_square hP hD hS ls hl
    unfold q_X5_ofHeight_24 at hq
    refine lv_iload_n hx hb dX5_ofHeight_24 rfl (lv_at hl 2 rfl) ?_
    refine lv_iconst (v := (1 : Int32)) hx hb dX5_ofHeight_25 (by decide) ?_
    refine lv_icmp_le (tgt := 34) hx hb dX5_ofHeight_26 (by decide) (fun c4 => ?_) (fun c4 => ?_)
    · replace hq := hq.1 c4
      refine lv_iload_n hx hb dX5_ofHeight_34 rfl (lv_at hl 2 rfl) ?_
      refine lv_iconst (v := (1 : Int32)) hx hb dX5_ofHeight_35 (by decide) ?_
      refine lv_ishr hx hb dX5_ofHeight_36 ?_
      refine lv_istore_n (lv' := [(3, .int (l3 >>> ((1 : Int32) &&& 31))), (0, .ref h_strip), (2, .int l2)]) hx hb dX5_ofHeight_37 rfl hl (by decide) rfl (fun ls hl => ?_)
      refine lv_goto (tgt := 9) hx hb dX5_ofHeight_38 (by decide) ?_
      exact hK9 _ _ _ _ _ hq _ _ _ _ _ _ hP hD hS _ (lv_sub hl [1, 2, 0] rfl)
    · replace hq := hq.2 c4
      refine lv_aload_n hx hb dX5_ofHeight_29 rfl (lv_at hl 0 rfl) ?_
      refine lv_iload_n hx hb dX5_ofHeight_30 rfl (lv_at hl 1 rfl) ?_
      refine gx_cVv (C := RX5) (As := [.int l2]) (rest := []) ⟨hx, hb, hml, hown, hts⟩ (c_X5_squareTable l dC dI cI cJ cZ h_strip h_strip_table h_strip_square h_rule h_rows h_strip_below h_strip_chosen h_strip_line h_strip_pushed H.size strip_tops strip_bottoms f_strip_table f_strip_square l2 hq) (cwV 1 hts gX5_ofHeight_X5_squareTable rfl rfl rfl hdV_X5_squareTable ⟨Nat.le_of_ble_eq_true rfl, Nat.le_of_ble_eq_true rfl⟩) hK hP hD hS hA [0, 3, 4] [1, 2, 5, 6, 7] rfl rfl rfl rfl rfl (ci := 5) (q0 := 0) rfl rfl rfl rfl hl.1 (Nat.le_of_ble_eq_true rfl) dX5_ofHeight_31 rfl (fun u H locs hq hP hD hS => ?_)
      obtain ⟨f_strip_table_5, f_strip_square_5, h_strip_table_5, h_strip_square_5⟩ := u
      try dsimp only at hq
      have hP : va_P (dC, dI) vwCl (W_X5_ofHeight cI cJ cZ h_strip h_strip_below h_strip_chosen h_strip_table_5 h_strip_square_5 h_strip_line h_strip_pushed h_rows h_rule h_rows_framed h_rows_power strip_tops strip_bottoms f_strip_below f_strip_chosen f_strip_table_5 f_strip_square_5 f_strip_line f_strip_pushed rows_c rows_w rows_size rows_ring) H := hP.sub [5, 0, 1, 6, 7, 2, 3, 4] rfl
      have hD : va_D A (W_X5_ofHeight cI cJ cZ h_strip h_strip_below h_strip_chosen h_strip_table_5 h_strip_square_5 h_strip_line h_strip_pushed h_rows h_rule h_rows_framed h_rows_power strip_tops strip_bottoms f_strip_below f_strip_chosen f_strip_table_5 f_strip_square_5 f_strip_line f_strip_pushed rows_c rows_w rows_size rows_ring) := hD.sub [5, 0, 1, 6, 7, 2, 3, 4] (by decide) rfl
      refine lv_iload_n hx hb dX5_ofHeight_34 rfl (lv_at hl 2 rfl) ?_
      refine lv_iconst (v := (1 : Int32)) hx hb dX5_ofHeight_35 (by decide) ?_
      refine lv_ishr hx hb dX5_ofHeight_36 ?_
      refine lv_istore_n (lv' := [(3, .int (l3 >>> ((1 : Int32) &&& 31))), (0, .ref h_strip), (2, .int l2)]) hx hb dX5_ofHeight_37 rfl hl (by decide) rfl (fun ls hl => ?_)
      refine lv_goto (tgt := 9) hx hb dX5_ofHeight_38 (by decide) ?_
      exact hK9 _ _ _ _ _ hq _ _ _ _ _ _ hP hD hS _ (lv_sub hl [1, 2, 0] rfl)
  have L9 : ∀ (K41 : (Int32) → (Nat → Int32) → (Nat → Int64) → (Nat → Int64) → (Nat → Int64) → (Nat → Int64) → Prop) (hK41 : (∀ (l2 : Int32) (f_strip_chosen : Nat → Int32) (f_strip_table : Nat → Int64) (f_strip_square : Nat → Int64) (f_strip_line : Nat → Int64) (f_strip_pushed : Nat → Int64), K41 l2 f_strip_chosen f_strip_table f_strip_square f_strip_line f_strip_pushed → ∀ (H : Heap) (locs : List Loc) (h_strip_line : Nat) (h_strip_pushed : Nat) (h_strip_table : Nat) (h_strip_square : Nat), va_P (dC, dI) vwCl (W_X5_ofHeight cI cJ cZ h_strip h_strip_below h_strip_chosen h_strip_table h_strip_square h_strip_line h_strip_pushed h_rows h_rule h_rows_framed h_rows_power strip_tops strip_bottoms f_strip_below f_strip_chosen f_strip_table f_strip_square f_strip_line f_strip_pushed rows_c rows_w rows_size rows_ring) H → va_D A (W_X5_ofHeight cI cJ cZ h_strip h_strip_below h_strip_chosen h_strip_table h_strip_square h_strip_line h_strip_pushed h_rows h_rule h_rows_framed h_rows_power strip_tops strip_bottoms f_strip_below f_strip_chosen f_strip_table f_strip_square f_strip_line f_strip_pushed rows_c rows_w rows_size rows_ring) → va_S A s.heap H locs → ∀ ls : Array Slot, lv_has ls 6 [(0, .ref h_strip), (2, .int l2)] → W p l e rm_X5_ofHeight s m args below meth c H locs 0 0 QQ (F0 m 41 ls []))) (l2 : Int32) (f_strip_chosen : Nat → Int32) (n : Nat) (l3 : Int32) (f_strip_table : Nat → Int64) (f_strip_square : Nat → Int64) (f_strip_line : Nat → Int64) (f_strip_pushed : Nat → Int64), r_X5_ofHeight_9 strip_tops strip_bottoms f_strip_below rows_size post K41 l2 f_strip_chosen n l3 f_strip_table f_strip_square f_strip_line f_strip_pushed → ∀ (H : Heap) (locs : List Loc) (h_strip_line : Nat) (h_strip_pushed : Nat) (h_strip_table : Nat) (h_strip_square : Nat), va_P (dC, dI) vwCl (W_X5_ofHeight cI cJ cZ h_strip h_strip_below h_strip_chosen h_strip_table h_strip_square h_strip_line h_strip_pushed h_rows h_rule h_rows_framed h_rows_power strip_tops strip_bottoms f_strip_below f_strip_chosen f_strip_table f_strip_square f_strip_line f_strip_pushed rows_c rows_w rows_size rows_ring) H → va_D A (W_X5_ofHeight cI cJ cZ h_strip h_strip_below h_strip_chosen h_strip_table h_strip_square h_strip_line h_strip_pushed h_rows h_rule h_rows_framed h_rows_power strip_tops strip_bottoms f_strip_below f_strip_chosen f_strip_table f_strip_square f_strip_line f_strip_pushed rows_c rows_w rows_size rows_ring) → va_S A s.heap H locs → ∀ ls : Array Slot, lv_has ls 6 [(0, .ref h_strip), (2, .int l2), (3, .int l3)] → W p l e rm_X5_ofHeight s m args below meth c H locs 0 0 QQ (F0 m 9 ls []) := by
    intro K41 hK41 l2 f_strip_chosen n
    induction n with
    | zero => intro l3 f_strip_table f_strip_square f_strip_line f_strip_pushed hq; exact False.elim hq
    | succ n ih =>
      intro l3 f_strip_table f_strip_square f_strip_line f_strip_pushed hq H locs h_strip_line h_strip_pushed h_strip_table h_strip_square hP hD hS ls hl
      unfold r_X5_ofHeight_9 at hq
      refine lv_iload_n hx hb dX5_ofHeight_9 rfl (lv_at hl 2 rfl) ?_
      refine lv_if_le (tgt := 41) hx hb dX5_ofHeight_10 (by decide) (fun c2 => ?_) (fun c2 => ?_)
      · replace hq := hq.1 c2
        exact hK41 _ _ _ _ _ _ hq _ _ _ _ _ _ hP hD hS _ (lv_sub hl [0, 1] rfl)
      · replace hq := hq.2 c2
        refine lv_iload_n hx hb dX5_ofHeight_13 rfl (lv_at hl 2 rfl) ?_
        refine lv_iconst (v := (1 : Int32)) hx hb dX5_ofHeight_14 (by decide) ?_
        refine lv_iand hx hb dX5_ofHeight_15 ?_
        refine lv_if_eq (tgt := 24) hx hb dX5_ofHeight_16 (by decide) (fun c3 => ?_) (fun c3 => ?_)
        · replace hq := hq.1 c3
          exact (C24 _ _ _ hK41 _ ih) _ _ _ _ _ hq _ _ _ _ _ _ hP hD hS _ (lv_sub hl [0, 1, 2] rfl)
        · replace hq := hq.2 c3
          refine lv_aload_n hx hb dX5_ofHeight_19 rfl (lv_at hl 0 rfl) ?_
          refine lv_iload_n hx hb dX5_ofHeight_20 rfl (lv_at hl 1 rfl) ?_
          refine gx_cVv (C := RX5) (As := [.int l2]) (rest := []) ⟨hx, hb, hml, hown, hts⟩ (c_X5_push l dC dI cI cJ cZ h_strip h_strip_table h_strip_line h_strip_pushed h_rule h_rows h_strip_below h_strip_chosen h_strip_square H.size strip_tops strip_bottoms f_strip_table f_strip_line f_strip_pushed l2 hq) (cwV 1 hts gX5_ofHeight_X5_push rfl rfl rfl hdV_X5_push ⟨Nat.le_of_ble_eq_true rfl, Nat.le_of_ble_eq_true rfl⟩) hK hP hD hS hA [0, 3, 5, 6] [1, 2, 4, 7] rfl rfl rfl rfl rfl (ci := 5) (q0 := 0) rfl rfl rfl rfl hl.1 (Nat.le_of_ble_eq_true rfl) dX5_ofHeight_21 rfl (fun u H locs hq hP hD hS => ?_)
          obtain ⟨f_strip_line_6, f_strip_pushed_6, h_strip_line_6, h_strip_pushed_6⟩ := u
          try dsimp only at hq
          have hP : va_P (dC, dI) vwCl (W_X5_ofHeight cI cJ cZ h_strip h_strip_below h_strip_chosen h_strip_table h_strip_square h_strip_line_6 h_strip_pushed_6 h_rows h_rule h_rows_framed h_rows_power strip_tops strip_bottoms f_strip_below f_strip_chosen f_strip_table f_strip_square f_strip_line_6 f_strip_pushed_6 rows_c rows_w rows_size rows_ring) H := hP.sub [4, 0, 1, 5, 2, 6, 7, 3] rfl
          have hD : va_D A (W_X5_ofHeight cI cJ cZ h_strip h_strip_below h_strip_chosen h_strip_table h_strip_square h_strip_line_6 h_strip_pushed_6 h_rows h_rule h_rows_framed h_rows_power strip_tops strip_bottoms f_strip_below f_strip_chosen f_strip_table f_strip_square f_strip_line_6 f_strip_pushed_6 rows_c rows_w rows_size rows_ring) := hD.sub [4, 0, 1, 5, 2, 6, 7, 3] (by decide) rfl
          exact (C24 _ _ _ hK41 _ ih) _ _ _ _ _ hq _ _ _ _ _ _ hP hD hS _ (lv_sub hl [0, 1, 2] rfl)
  have L46 : ∀ (l2 : Int32) (f_strip_chosen : Nat → Int32) (f_strip_table : Nat → Int64) (f_strip_square : Nat → Int64) (f_strip_line : Nat → Int64) (f_strip_pushed : Nat → Int64) (n : Nat) (l3 : Int64) (l5 : Int32), r_X5_ofHeight_46 strip_tops strip_bottoms f_strip_below rows_size post l2 f_strip_chosen f_strip_table f_strip_square f_strip_line f_strip_pushed n l3 l5 → ∀ (H : Heap) (locs : List Loc) (h_strip_line : Nat) (h_strip_pushed : Nat) (h_strip_table : Nat) (h_strip_square : Nat), va_P (dC, dI) vwCl (W_X5_ofHeight cI cJ cZ h_strip h_strip_below h_strip_chosen h_strip_table h_strip_square h_strip_line h_strip_pushed h_rows h_rule h_rows_framed h_rows_power strip_tops strip_bottoms f_strip_below f_strip_chosen f_strip_table f_strip_square f_strip_line f_strip_pushed rows_c rows_w rows_size rows_ring) H → va_D A (W_X5_ofHeight cI cJ cZ h_strip h_strip_below h_strip_chosen h_strip_table h_strip_square h_strip_line h_strip_pushed h_rows h_rule h_rows_framed h_rows_power strip_tops strip_bottoms f_strip_below f_strip_chosen f_strip_table f_strip_square f_strip_line f_strip_pushed rows_c rows_w rows_size rows_ring) → va_S A s.heap H locs → ∀ ls : Array Slot, lv_has ls 6 [(0, .ref h_strip), (2, .int l2), (3, .long l3), (5, .int l5)] → W p l e rm_X5_ofHeight s m args below meth c H locs 0 0 QQ (F0 m 46 ls []) := by
    intro l2 f_strip_chosen f_strip_table f_strip_square f_strip_line f_strip_pushed n
    induction n with
    | zero => intro l3 l5 hq; exact False.elim hq
    | succ n ih =>
      intro l3 l5 hq H locs h_strip_line h_strip_pushed h_strip_table h_strip_square hP hD hS ls hl
      unfold r_X5_ofHeight_46 at hq
      refine lv_iload hx hb dX5_ofHeight_46 (lv_at hl 3 rfl) ?_
      refine lv_iload_n hx hb dX5_ofHeight_48 rfl (lv_at hl 1 rfl) ?_
      refine lv_icmp_ge (tgt := 85) hx hb dX5_ofHeight_49 (by decide) (fun c7 => ?_) (fun c7 => ?_)
      · replace hq := hq.1 c7
        refine lv_lload_n hx hb dX5_ofHeight_85 rfl (lv_at hl 2 rfl) ?_
        refine lv_ldc2 hx hb hown hcl101 dX5_ofHeight_86 ?_
        refine lv_lrem hx hb dX5_ofHeight_89 (by decide) ?_
        refine lv_l2i hx hb dX5_ofHeight_90 rfl ?_
        exact hret (((l3 - (l3 / (1000000007 : Int64)) * (1000000007 : Int64))).toInt32) (f_strip_chosen, f_strip_table, f_strip_square, f_strip_line, f_strip_pushed, h_strip_line, h_strip_pushed, h_strip_table, h_strip_square) hq _ _ hP hD hS _ _ dX5_ofHeight_91
      · replace hq := hq.2 c7
        refine lv_aload_n hx hb dX5_ofHeight_52 rfl (lv_at hl 0 rfl) ?_
        refine va_get (D := (dC, dI)) (ci := 5) (v := .int strip_bottoms) (C := RX5) (T := TX5) (N := 10) hx hb hts hinX5 hown hK hP 0 rfl rfl 4 (by decide) hf19 (fun _ h9 => h9) rfl dX5_ofHeight_53 ?_
        refine lv_aload_n hx hb dX5_ofHeight_56 rfl (lv_at hl 0 rfl) ?_
        refine va_get (D := (dC, dI)) (ci := 5) (v := .ref h_strip_chosen) (C := RX5) (T := TX5) (N := 10) hx hb hts hinX5 hown hK hP 0 rfl rfl 5 (by decide) hf22 (fun _ h9 => h9) rfl dX5_ofHeight_57 ?_
        refine lv_iload hx hb dX5_ofHeight_60 (lv_at hl 3 rfl) ?_
        obtain ⟨hv8, hq⟩ := hq
        refine va_iald hx hb hK hP 2 0 rfl rfl hv8 dX5_ofHeight_62 ?_
        refine lv_ishr hx hb dX5_ofHeight_63 ?_
        refine lv_iconst (v := (1 : Int32)) hx hb dX5_ofHeight_64 (by decide) ?_
        refine lv_iand hx hb dX5_ofHeight_65 ?_
        refine lv_if_eq (tgt := 79) hx hb dX5_ofHeight_66 (by decide) (fun c9 => ?_) (fun c9 => ?_)
        · replace hq := hq.1 c9
          refine lv_iinc (v := (l5 + (1 : Int32))) (lv' := [(5, .int (l5 + (1 : Int32))), (0, .ref h_strip), (2, .int l2), (3, .long l3)]) hx hb dX5_ofHeight_79 hl (k := 3) rfl rfl (by decide) rfl (fun ls hl => ?_)
          refine lv_goto (tgt := 46) hx hb dX5_ofHeight_82 (by decide) ?_
          exact ih _ _ hq _ _ _ _ _ _ hP hD hS _ (lv_sub hl [1, 2, 3, 0] rfl)
        · replace hq := hq.2 c9
          refine lv_lload_n hx hb dX5_ofHeight_69 rfl (lv_at hl 2 rfl) ?_
          refine lv_aload_n hx hb dX5_ofHeight_70 rfl (lv_at hl 0 rfl) ?_
          refine va_get (D := (dC, dI)) (ci := 5) (v := .ref h_strip_line) (C := RX5) (T := TX5) (N := 10) hx hb hts hinX5 hown hK hP 0 rfl rfl 8 (by decide) hf32 (fun _ h9 => h9) rfl dX5_ofHeight_71 ?_
          refine lv_iload hx hb dX5_ofHeight_74 (lv_at hl 3 rfl) ?_
          obtain ⟨hv10, hq⟩ := hq
          refine va_lald hx hb hK hP 5 1 rfl rfl hv10 dX5_ofHeight_76 ?_
          refine lv_ladd hx hb dX5_ofHeight_77 ?_
          refine lv_lstore_n (lv' := [(3, .long (l3 + (f_strip_line (l5).toNatClampNeg))), (0, .ref h_strip), (2, .int l2), (5, .int l5)]) hx hb dX5_ofHeight_78 rfl hl (by decide) rfl (fun ls hl => ?_)
          refine lv_iinc (v := (l5 + (1 : Int32))) (lv' := [(5, .int (l5 + (1 : Int32))), (3, .long (l3 + (f_strip_line (l5).toNatClampNeg))), (0, .ref h_strip), (2, .int l2)]) hx hb dX5_ofHeight_79 hl (k := 3) rfl rfl (by decide) rfl (fun ls hl => ?_)
          refine lv_goto (tgt := 46) hx hb dX5_ofHeight_82 (by decide) ?_
          exact ih _ _ hq _ _ _ _ _ _ hP hD hS _ (lv_sub hl [2, 3, 1, 0] rfl)
  have C46 : ∀ (l2 : Int32) (l3 : Int64) (l5 : Int32) (f_strip_chosen : Nat → Int32) (f_strip_table : Nat → Int64) (f_strip_square : Nat → Int64) (f_strip_line : Nat → Int64) (f_strip_pushed : Nat → Int64), q_X5_ofHeight_46 strip_tops strip_bottoms f_strip_below rows_size post l2 l3 l5 f_strip_chosen f_strip_table f_strip_square f_strip_line f_strip_pushed → ∀ (H : Heap) (locs : List Loc) (h_strip_line : Nat) (h_strip_pushed : Nat) (h_strip_table : Nat) (h_strip_square : Nat), va_P (dC, dI) vwCl (W_X5_ofHeight cI cJ cZ h_strip h_strip_below h_strip_chosen h_strip_table h_strip_square h_strip_line h_strip_pushed h_rows h_rule h_rows_framed h_rows_power strip_tops strip_bottoms f_strip_below f_strip_chosen f_strip_table f_strip_square f_strip_line f_strip_pushed rows_c rows_w rows_size rows_ring) H → va_D A (W_X5_ofHeight cI cJ cZ h_strip h_strip_below h_strip_chosen h_strip_table h_strip_square h_strip_line h_strip_pushed h_rows h_rule h_rows_framed h_rows_power strip_tops strip_bottoms f_strip_below f_strip_chosen f_strip_table f_strip_square f_strip_line f_strip_pushed rows_c rows_w rows_size rows_ring) → va_S A s.heap H locs → ∀ ls : Array Slot, lv_has ls 6 [(0, .ref h_strip), (2, .int l2), (3, .long l3), (5, .int l5)] → W p l e rm_X5_ofHeight s m args below meth c H locs 0 0 QQ (F0 m 46 ls []) := by
    intro l2 l3 l5 f_strip_chosen f_strip_table f_strip_square f_strip_line f_strip_pushed hq H locs h_strip_line h_strip_pushed h_strip_table h_strip_square hP hD hS ls hl
    obtain ⟨n, hq⟩ := hq
    exact L46 _ _ _ _ _ _ n _ _ hq H locs _ _ _ _ hP hD hS ls hl
  have C41 : ∀ (l2 : Int32) (f_strip_chosen : Nat → Int32) (f_strip_table : Nat → Int64) (f_strip_square : Nat → Int64) (f_strip_line : Nat → Int64) (f_strip_pushed : Nat → Int64), q_X5_ofHeight_41 strip_tops strip_bottoms f_strip_below rows_size post l2 f_strip_chosen f_strip_table f_strip_square f_strip_line f_strip_pushed → ∀ (H : Heap) (locs : List Loc) (h_strip_line : Nat) (h_strip_pushed : Nat) (h_strip_table : Nat) (h_strip_square : Nat), va_P (dC, dI) vwCl (W_X5_ofHeight cI cJ cZ h_strip h_strip_below h_strip_chosen h_strip_table h_strip_square h_strip_line h_strip_pushed h_rows h_rule h_rows_framed h_rows_power strip_tops strip_bottoms f_strip_below f_strip_chosen f_strip_table f_strip_square f_strip_line f_strip_pushed rows_c rows_w rows_size rows_ring) H → va_D A (W_X5_ofHeight cI cJ cZ h_strip h_strip_below h_strip_chosen h_strip_table h_strip_square h_strip_line h_strip_pushed h_rows h_rule h_rows_framed h_rows_power strip_tops strip_bottoms f_strip_below f_strip_chosen f_strip_table f_strip_square f_strip_line f_strip_pushed rows_c rows_w rows_size rows_ring) → va_S A s.heap H locs → ∀ ls : Array Slot, lv_has ls 6 [(0, .ref h_strip), (2, .int l2)] → W p l e rm_X5_ofHeight s m args below meth c H locs 0 0 QQ (F0 m 41 ls []) := by
    intro l2 f_strip_chosen f_strip_table f_strip_square f_strip_line f_strip_pushed hq H locs h_strip_line h_strip_pushed h_strip_table h_strip_square hP hD hS ls hl
    unfold q_X5_ofHeight_41 at hq
    refine lv_lconst (v := (0 : Int64)) hx hb dX5_ofHeight_41 (by decide) ?_
    refine lv_lstore_n (lv' := [(3, .long (0 : Int64)), (0, .ref h_strip), (2, .int l2)]) hx hb dX5_ofHeight_42 rfl hl (by decide) rfl (fun ls hl => ?_)
    refine lv_iconst (v := (0 : Int32)) hx hb dX5_ofHeight_43 (by decide) ?_
    refine lv_istore (lv' := [(5, .int (0 : Int32)), (3, .long (0 : Int64)), (0, .ref h_strip), (2, .int l2)]) hx hb dX5_ofHeight_44 hl (by decide) rfl (fun ls hl => ?_)
    exact C46 _ _ _ _ _ _ _ _ hq _ _ _ _ _ _ hP hD hS _ (lv_sub hl [2, 3, 1, 0] rfl)
  have C9 : ∀ (l2 : Int32) (l3 : Int32) (f_strip_chosen : Nat → Int32) (f_strip_table : Nat → Int64) (f_strip_square : Nat → Int64) (f_strip_line : Nat → Int64) (f_strip_pushed : Nat → Int64), q_X5_ofHeight_9 strip_tops strip_bottoms f_strip_below rows_size post l2 l3 f_strip_chosen f_strip_table f_strip_square f_strip_line f_strip_pushed → ∀ (H : Heap) (locs : List Loc) (h_strip_line : Nat) (h_strip_pushed : Nat) (h_strip_table : Nat) (h_strip_square : Nat), va_P (dC, dI) vwCl (W_X5_ofHeight cI cJ cZ h_strip h_strip_below h_strip_chosen h_strip_table h_strip_square h_strip_line h_strip_pushed h_rows h_rule h_rows_framed h_rows_power strip_tops strip_bottoms f_strip_below f_strip_chosen f_strip_table f_strip_square f_strip_line f_strip_pushed rows_c rows_w rows_size rows_ring) H → va_D A (W_X5_ofHeight cI cJ cZ h_strip h_strip_below h_strip_chosen h_strip_table h_strip_square h_strip_line h_strip_pushed h_rows h_rule h_rows_framed h_rows_power strip_tops strip_bottoms f_strip_below f_strip_chosen f_strip_table f_strip_square f_strip_line f_strip_pushed rows_c rows_w rows_size rows_ring) → va_S A s.heap H locs → ∀ ls : Array Slot, lv_has ls 6 [(0, .ref h_strip), (2, .int l2), (3, .int l3)] → W p l e rm_X5_ofHeight s m args below meth c H locs 0 0 QQ (F0 m 9 ls []) := by
    intro l2 l3 f_strip_chosen f_strip_table f_strip_square f_strip_line f_strip_pushed hq H locs h_strip_line h_strip_pushed h_strip_table h_strip_square hP hD hS ls hl
    obtain ⟨n, hq⟩ := hq
    exact L9 _ C41 _ _ n _ _ _ _ _ hq H locs _ _ _ _ hP hD hS ls hl
  unfold q_X5_ofHeight at hq
  refine lv_aload_n hx hb dX5_ofHeight_0 rfl (lv_at hl 0 rfl) ?_
  refine gx_cVi (C := RX5) (As := []) (rest := []) ⟨hx, hb, hml, hown, hts⟩ (c_X5_choose l dC dI cI cJ cZ h_strip h_strip_below h_strip_chosen h_strip_table h_strip_line h_rows h_rule h_strip_square h_strip_pushed h_rows_framed h_rows_power s.heap.size strip_tops strip_bottoms f_strip_below f_strip_chosen f_strip_table f_strip_line rows_c rows_w rows_size rows_ring hq) (cwV 0 hts gX5_ofHeight_X5_choose rfl rfl rfl hdV_X5_choose ⟨Nat.le_of_ble_eq_true rfl, Nat.le_of_ble_eq_true rfl⟩) hK hP hD hS hA [0, 1, 2, 3, 5, 7] [4, 6] rfl rfl rfl rfl rfl (ci := 5) (q0 := 0) rfl rfl rfl rfl hl.1 (Nat.le_of_ble_eq_true rfl) dX5_ofHeight_1 rfl (fun r1 u H locs hq hP hD hS => ?_)
  obtain ⟨f_strip_chosen_1, f_strip_table_1, f_strip_line_1⟩ := u
  try dsimp only at hq
  have hP : va_P (dC, dI) vwCl (W_X5_ofHeight cI cJ cZ h_strip h_strip_below h_strip_chosen h_strip_table h_strip_square h_strip_line h_strip_pushed h_rows h_rule h_rows_framed h_rows_power strip_tops strip_bottoms f_strip_below f_strip_chosen_1 f_strip_table_1 f_strip_square f_strip_line_1 f_strip_pushed rows_c rows_w rows_size rows_ring) H := hP.sub [2, 3, 4, 5, 0, 6, 1, 7] rfl
  have hD : va_D A (W_X5_ofHeight cI cJ cZ h_strip h_strip_below h_strip_chosen h_strip_table h_strip_square h_strip_line h_strip_pushed h_rows h_rule h_rows_framed h_rows_power strip_tops strip_bottoms f_strip_below f_strip_chosen_1 f_strip_table_1 f_strip_square f_strip_line_1 f_strip_pushed rows_c rows_w rows_size rows_ring) := hD.sub [2, 3, 4, 5, 0, 6, 1, 7] (by decide) rfl
  refine lv_istore_n (lv' := [(2, .int r1), (0, .ref h_strip), (1, .int l1)]) hx hb dX5_ofHeight_4 rfl hl (by decide) rfl (fun ls hl => ?_)
  refine lv_iload_n hx hb dX5_ofHeight_5 rfl (lv_at hl 2 rfl) ?_
  refine lv_iconst (v := (1 : Int32)) hx hb dX5_ofHeight_6 (by decide) ?_
  refine lv_isub hx hb dX5_ofHeight_7 ?_
  refine lv_istore_n (lv' := [(3, .int (l1 - (1 : Int32))), (2, .int r1), (0, .ref h_strip), (1, .int l1)]) hx hb dX5_ofHeight_8 rfl hl (by decide) rfl (fun ls hl => ?_)
  exact C9 _ _ _ _ _ _ _ hq _ _ _ _ _ _ hP hD hS _ (lv_sub hl [2, 1, 0] rfl)
