abbrev W_X0_open (cI cJ cZ : ClassId) (h_album h_album_wishes h_rows h_rows_framed h_rows_power h_page h_page_cells h_rule h_album_ways h_album_front h_album_at : Nat) (f_album_wishes : Nat → Int32) (rows_c : Int32) (rows_w : Int32) (rows_size : Int32) (rows_ring : Int32) (f_rows_framed : Nat → Int32) (f_rows_power : Nat → Int32) (page_h : Int32) (page_w : Int32) (f_page_cells : Nat → Int32) : va_W := [(h_album, .inr (0, [.ref h_rows, .ref h_rule, .ref h_album_wishes, .ref h_album_ways, .ref h_album_front, .ref h_album_at, .ref h_page])), (h_album_wishes, .inl (cI, 25, .inl f_album_wishes)), (h_rows, .inr (2, [.int rows_c, .int rows_w, .int rows_size, .int rows_ring, .ref h_rows_framed, .ref h_rows_power])), (h_rows_framed, .inl (cI, 243, .inl f_rows_framed)), (h_rows_power, .inl (cI, 7, .inl f_rows_power)), (h_page, .inr (4, [.int page_h, .int page_w, .ref h_page_cells])), (h_page_cells, .inl (cI, 25, .inl f_page_cells))]
abbrev rm_X0_open : Room := { frames := 2, cells := 0, slots := 0, locals := 46 }
def q_X0_open (f_album_wishes : Nat → Int32) (rows_c : Int32) (rows_w : Int32) (rows_size : Int32) (rows_ring : Int32) (f_rows_framed : Nat → Int32) (f_rows_power : Nat → Int32) (page_h : Int32) (page_w : Int32) (f_page_cells : Nat → Int32) (l1 : Int32) (l2 : Int32) (l3 : Int32) (post : (Nat → Int32) → (Int32) → (Int32) → (Int32) → (Int32) → (Nat → Int32) → (Nat → Int32) → (Int32) → (Int32) → (Nat → Int32) → Prop) : Prop := (q_X2_list rows_c rows_w rows_size rows_ring f_rows_framed f_rows_power l1 l3 (fun (rows_c_1 : Int32) (rows_w_1 : Int32) (rows_size_1 : Int32) (rows_ring_1 : Int32) (f_rows_framed_1 : Nat → Int32) (f_rows_power_1 : Nat → Int32) => (q_X4_lay page_h page_w f_page_cells l2 l3 (fun (page_h_2 : Int32) (page_w_2 : Int32) (f_page_cells_2 : Nat → Int32) => (q_J7_fill_53178 25 f_album_wishes (((1 : Int32) <<< (l1 &&& 31)) - (1 : Int32)) (fun (f_album_wishes_3 : Nat → Int32) => (post f_album_wishes_3 rows_c_1 rows_w_1 rows_size_1 rows_ring_1 f_rows_framed_1 f_rows_power_1 page_h_2 page_w_2 f_page_cells_2)))))))
theorem hdV_X0_open : yX0_open.cls = RX0 ∧ yX0_open.cls ≠ "java/lang/invoke/MethodHandle" ∧ yX0_open.cls ≠ "java/lang/invoke/VarHandle" ∧ (parseMethodDescriptor yX0_open.desc).map (fun d => d.parameters.length) = some 3 := by decide +kernel
set_option maxHeartbeats 4000000 in
set_option maxRecDepth 100000 in
theorem c_X0_open (l : Launch) (dC : Nat → ClassId) (dI : Nat → Nat → Nat) (cI cJ cZ : ClassId) (h_album h_album_wishes h_rows h_rows_framed h_rows_power h_page h_page_cells h_rule h_album_ways h_album_front h_album_at : Nat) (sz : Nat) (f_album_wishes : Nat → Int32) (rows_c : Int32) (rows_w : Int32) (rows_size : Int32) (rows_ring : Int32) (f_rows_framed : Nat → Int32) (f_rows_power : Nat → Int32) (page_h : Int32) (page_w : Int32) (f_page_cells : Nat → Int32) (l1 : Int32) (l2 : Int32) (l3 : Int32) {post : (Nat → Int32) → (Int32) → (Int32) → (Int32) → (Int32) → (Nat → Int32) → (Nat → Int32) → (Int32) → (Int32) → (Nat → Int32) → Prop} (hq : q_X0_open f_album_wishes rows_c rows_w rows_size rows_ring f_rows_framed f_rows_power page_h page_w f_page_cells l1 l2 l3 post) : Met l yX0_open wsX0_open rm_X0_open (va_Pc [.ref h_album, .int l1, .int l2, .int l3] (gx_Pre (dC, dI) vwCl (gx_tys cI cJ cZ) sz (W_X0_open cI cJ cZ h_album h_album_wishes h_rows h_rows_framed h_rows_power h_page h_page_cells h_rule h_album_ways h_album_front h_album_at f_album_wishes rows_c rows_w rows_size rows_ring f_rows_framed f_rows_power page_h page_w f_page_cells))) (va_Qv (fun (u : (Nat → Int32) × (Int32) × (Int32) × (Int32) × (Int32) × (Nat → Int32) × (Nat → Int32) × (Int32) × (Int32) × (Nat → Int32)) => post u.1 u.2.1 u.2.2.1 u.2.2.2.1 u.2.2.2.2.1 u.2.2.2.2.2.1 u.2.2.2.2.2.2.1 u.2.2.2.2.2.2.2.1 u.2.2.2.2.2.2.2.2.1 u.2.2.2.2.2.2.2.2.2) (gx_B (dC, dI) vwCl (gx_tys cI cJ cZ) (va_A (W_X0_open cI cJ cZ h_album h_album_wishes h_rows h_rows_framed h_rows_power h_page h_page_cells h_rule h_album_ways h_album_front h_album_at f_album_wishes rows_c rows_w rows_size rows_ring f_rows_framed f_rows_power page_h page_w f_page_cells) sz) (fun (u : (Nat → Int32) × (Int32) × (Int32) × (Int32) × (Int32) × (Nat → Int32) × (Nat → Int32) × (Int32) × (Int32) × (Nat → Int32)) => (W_X0_open cI cJ cZ h_album h_album_wishes h_rows h_rows_framed h_rows_power h_page h_page_cells h_rule h_album_ways h_album_front h_album_at u.1 u.2.1 u.2.2.1 u.2.2.2.1 u.2.2.2.2.1 u.2.2.2.2.2.1 u.2.2.2.2.2.2.1 u.2.2.2.2.2.2.2.1 u.2.2.2.2.2.2.2.2.1 u.2.2.2.2.2.2.2.2.2))) (va_A (W_X0_open cI cJ cZ h_album h_album_wishes h_rows h_rows_framed h_rows_power h_page h_page_cells h_rule h_album_ways h_album_front h_album_at f_album_wishes rows_c rows_w rows_size rows_ring f_rows_framed f_rows_power page_h page_w f_page_cells) sz)) 0 0 (va_A (W_X0_open cI cJ cZ h_album h_album_wishes h_rows h_rows_framed h_rows_power h_page h_page_cells h_rule h_album_ways h_album_front h_album_at f_album_wishes rows_c rows_w rows_size rows_ring f_rows_framed f_rows_power page_h page_w f_page_cells) sz) := by
  refine gx_v (cc := cX0_open) (maxL := 4) (by decide) rfl (Nat.le_of_ble_eq_true rfl) ?_
  intro p e s m args below meth c A QQ hx hb hml hown hts hA hP hK hD hret ls hl
  have hown : s.vm.findClass RX0 = some m.cls := hown
  have hf36 := hts (.fieldLink RX0 36 "SmallWindows$Album" "rows" "LSmallWindows$Rows;") (by decide +kernel)
  have hf28 := hts (.fieldLink RX0 28 "SmallWindows$Album" "page" "LSmallWindows$Sheet;") (by decide +kernel)
  have hf9 := hts (.fieldLink RX0 9 "SmallWindows$Album" "wishes" "[I") (by decide +kernel)
  have hinX0 : ∀ w ∈ u_ws RX0 TX0 7, w ∈ wsX0_open := fun w h => List.mem_cons_of_mem _ ((List.mem_append_left _ (List.mem_append_left _ (List.mem_append_right _ h))))
  have hS : va_S A s.heap s.heap [] := va_S.rf
  have hl : lv_has ls 4 [(0, .ref h_album), (1, .int l1), (2, .int l2), (3, .int l3)] := hl
  unfold q_X0_open at hq
  refine lv_aload_n hx hb dX0_open_0 rfl (lv_at hl 0 rfl) ?_
  refine va_get (D := (dC, dI)) (ci := 0) (v := .ref h_rows) (C := RX0) (T := TX0) (N := 7) hx hb hts hinX0 hown hK hP 0 rfl rfl 0 (by decide) hf36 (fun _ h9 => h9) rfl dX0_open_1 ?_
  refine lv_iload_n hx hb dX0_open_4 rfl (lv_at hl 1 rfl) ?_
  refine lv_iload_n hx hb dX0_open_5 rfl (lv_at hl 3 rfl) ?_
  refine gx_cVv (C := RX2) (As := [.int l1, .int l3]) (rest := []) ⟨hx, hb, hml, hown, hts⟩ (c_X2_list l dC dI cI cJ cZ h_rows h_rows_framed h_rows_power s.heap.size rows_c rows_w rows_size rows_ring f_rows_framed f_rows_power l1 l3 hq) (cwV 2 hts gX0_open_X2_list rfl rfl rfl hdV_X2_list ⟨Nat.le_of_ble_eq_true rfl, Nat.le_of_ble_eq_true rfl⟩) hK hP hD hS hA [2, 3, 4] [0, 1, 5, 6] rfl rfl rfl rfl rfl (ci := 2) (q0 := 0) rfl rfl rfl rfl hl.1 (Nat.le_of_ble_eq_true rfl) dX0_open_6 rfl (fun u H locs hq hP hD hS => ?_)
  obtain ⟨rows_c_1, rows_w_1, rows_size_1, rows_ring_1, f_rows_framed_1, f_rows_power_1⟩ := u
  try dsimp only at hq
  have hP : va_P (dC, dI) vwCl (W_X0_open cI cJ cZ h_album h_album_wishes h_rows h_rows_framed h_rows_power h_page h_page_cells h_rule h_album_ways h_album_front h_album_at f_album_wishes rows_c_1 rows_w_1 rows_size_1 rows_ring_1 f_rows_framed_1 f_rows_power_1 page_h page_w f_page_cells) H := hP.sub [0, 1, 4, 5, 6, 2, 3] rfl
  have hD : va_D A (W_X0_open cI cJ cZ h_album h_album_wishes h_rows h_rows_framed h_rows_power h_page h_page_cells h_rule h_album_ways h_album_front h_album_at f_album_wishes rows_c_1 rows_w_1 rows_size_1 rows_ring_1 f_rows_framed_1 f_rows_power_1 page_h page_w f_page_cells) := hD.sub [0, 1, 4, 5, 6, 2, 3] (by decide) rfl
  refine lv_aload_n hx hb dX0_open_9 rfl (lv_at hl 0 rfl) ?_
  refine va_get (D := (dC, dI)) (ci := 0) (v := .ref h_page) (C := RX0) (T := TX0) (N := 7) hx hb hts hinX0 hown hK hP 0 rfl rfl 6 (by decide) hf28 (fun _ h9 => h9) rfl dX0_open_10 ?_
  refine lv_iload_n hx hb dX0_open_13 rfl (lv_at hl 2 rfl) ?_
  refine lv_iload_n hx hb dX0_open_14 rfl (lv_at hl 3 rfl) ?_
  refine gx_cVv (C := RX4) (As := [.int l2, .int l3]) (rest := []) ⟨hx, hb, hml, hown, hts⟩ (c_X4_lay l dC dI cI cJ cZ h_page h_page_cells H.size page_h page_w f_page_cells l2 l3 hq) (cwV 2 hts gX0_open_X4_lay rfl rfl rfl hdV_X4_lay ⟨Nat.le_of_ble_eq_true rfl, Nat.le_of_ble_eq_true rfl⟩) hK hP hD hS hA [5, 6] [0, 1, 2, 3, 4] rfl rfl rfl rfl rfl (ci := 4) (q0 := 0) rfl rfl rfl rfl hl.1 (Nat.le_of_ble_eq_true rfl) dX0_open_15 rfl (fun u H locs hq hP hD hS => ?_)
  obtain ⟨page_h_2, page_w_2, f_page_cells_2⟩ := u
  try dsimp only at hq
  have hP : va_P (dC, dI) vwCl (W_X0_open cI cJ cZ h_album h_album_wishes h_rows h_rows_framed h_rows_power h_page h_page_cells h_rule h_album_ways h_album_front h_album_at f_album_wishes rows_c_1 rows_w_1 rows_size_1 rows_ring_1 f_rows_framed_1 f_rows_power_1 page_h_2 page_w_2 f_page_cells_2) H := hP
  have hD : va_D A (W_X0_open cI cJ cZ h_album h_album_wishes h_rows h_rows_framed h_rows_power h_page h_page_cells h_rule h_album_ways h_album_front h_album_at f_album_wishes rows_c_1 rows_w_1 rows_size_1 rows_ring_1 f_rows_framed_1 f_rows_power_1 page_h_2 page_w_2 f_page_cells_2) := hD
  refine lv_aload_n hx hb dX0_open_18 rfl (lv_at hl 0 rfl) ?_
  refine va_get (D := (dC, dI)) (ci := 0) (v := .ref h_album_wishes) (C := RX0) (T := TX0) (N := 7) hx hb hts hinX0 hown hK hP 0 rfl rfl 2 (by decide) hf9 (fun _ h9 => h9) rfl dX0_open_19 ?_
  refine lv_iconst (v := (1 : Int32)) hx hb dX0_open_22 (by decide) ?_
  refine lv_iload_n hx hb dX0_open_23 rfl (lv_at hl 1 rfl) ?_
  refine lv_ishl hx hb dX0_open_24 ?_
  refine lv_iconst (v := (1 : Int32)) hx hb dX0_open_25 (by decide) ?_
  refine lv_isub hx hb dX0_open_26 ?_
  refine gx_cSv (As := [.ref h_album_wishes, .int (((1 : Int32) <<< (l1 &&& 31)) - (1 : Int32))]) (rest := []) ⟨hx, hb, hml, hown, hts⟩ (c_J7_fill_53178 l dC dI cI cJ cZ h_album_wishes H.size 25 f_album_wishes (((1 : Int32) <<< (l1 &&& 31)) - (1 : Int32)) hq) (va_cwS 2 hts gX0_open_J7_fill_53178 rfl rfl rfl hdS_J7_fill_53178 ⟨Nat.le_of_ble_eq_true rfl, Nat.le_of_ble_eq_true rfl⟩) hK hP hD hS hA [1] [0, 2, 3, 4, 5, 6] rfl rfl rfl rfl rfl rfl hl.1 (Nat.le_of_ble_eq_true rfl) dX0_open_27 rfl (fun u H locs hq hP hD hS => ?_)
  obtain ⟨f_album_wishes_3, rfl⟩ : ∃ z, z = u := ⟨_, rfl⟩
  try dsimp only at hq
  have hP : va_P (dC, dI) vwCl (W_X0_open cI cJ cZ h_album h_album_wishes h_rows h_rows_framed h_rows_power h_page h_page_cells h_rule h_album_ways h_album_front h_album_at f_album_wishes_3 rows_c_1 rows_w_1 rows_size_1 rows_ring_1 f_rows_framed_1 f_rows_power_1 page_h_2 page_w_2 f_page_cells_2) H := hP.sub [0, 6, 1, 2, 3, 4, 5] rfl
  have hD : va_D A (W_X0_open cI cJ cZ h_album h_album_wishes h_rows h_rows_framed h_rows_power h_page h_page_cells h_rule h_album_ways h_album_front h_album_at f_album_wishes_3 rows_c_1 rows_w_1 rows_size_1 rows_ring_1 f_rows_framed_1 f_rows_power_1 page_h_2 page_w_2 f_page_cells_2) := hD.sub [0, 6, 1, 2, 3, 4, 5] (by decide) rfl
  exact hret (f_album_wishes_3, rows_c_1, rows_w_1, rows_size_1, rows_ring_1, f_rows_framed_1, f_rows_power_1, page_h_2, page_w_2, f_page_cells_2) hq _ _ hP hD hS _ _ dX0_open_30

abbrev W_X0_isWished (cI cJ cZ : ClassId) (h_album h_album_wishes h_rows h_rows_framed h_rule h_album_ways h_album_front h_album_at h_page h_rows_power : Nat) (f_album_wishes : Nat → Int32) (rows_c : Int32) (rows_w : Int32) (rows_size : Int32) (rows_ring : Int32) (f_rows_framed : Nat → Int32) : va_W := [(h_album, .inr (0, [.ref h_rows, .ref h_rule, .ref h_album_wishes, .ref h_album_ways, .ref h_album_front, .ref h_album_at, .ref h_page])), (h_album_wishes, .inl (cI, 25, .inl f_album_wishes)), (h_rows, .inr (2, [.int rows_c, .int rows_w, .int rows_size, .int rows_ring, .ref h_rows_framed, .ref h_rows_power])), (h_rows_framed, .inl (cI, 243, .inl f_rows_framed))]
abbrev rm_X0_isWished : Room := { frames := 1, cells := 0, slots := 0, locals := 22 }
def r_X0_isWished_2 (f_album_wishes : Nat → Int32) (rows_w : Int32) (f_rows_framed : Nat → Int32) (post : Int32 → Prop) (l1 : Int32) (l2 : Int32) : Nat → (Int32) → Prop
  | 0, _ => False
  | n + 1, l3 => ((rows_w ≤ l3 → (post (1 : Int32))) ∧ (¬ rows_w ≤ l3 → (vp_in ((rows_w * l1) + l3) 25 ∧ (q_X2_colour rows_w f_rows_framed l2 l3 (fun (r3 : Int32) => ((¬ (((f_album_wishes (((rows_w * l1) + l3)).toNatClampNeg) >>> (r3 &&& 31)) &&& (1 : Int32)) = 0 → ((r_X0_isWished_2 f_album_wishes rows_w f_rows_framed post l1 l2 n) (l3 + (1 : Int32)))) ∧ ((((f_album_wishes (((rows_w * l1) + l3)).toNatClampNeg) >>> (r3 &&& 31)) &&& (1 : Int32)) = 0 → (post (0 : Int32)))))))))
def q_X0_isWished_2 (f_album_wishes : Nat → Int32) (rows_w : Int32) (f_rows_framed : Nat → Int32) (post : Int32 → Prop) (l1 : Int32) (l2 : Int32) (l3 : Int32) : Prop := ∃ n, r_X0_isWished_2 f_album_wishes rows_w f_rows_framed post l1 l2 n l3
def q_X0_isWished (f_album_wishes : Nat → Int32) (rows_w : Int32) (f_rows_framed : Nat → Int32) (l1 : Int32) (l2 : Int32) (post : Int32 → Prop) : Prop := ((q_X0_isWished_2 f_album_wishes rows_w f_rows_framed post) l1 l2 (0 : Int32))
theorem hdV_X0_isWished : yX0_isWished.cls = RX0 ∧ yX0_isWished.cls ≠ "java/lang/invoke/MethodHandle" ∧ yX0_isWished.cls ≠ "java/lang/invoke/VarHandle" ∧ (parseMethodDescriptor yX0_isWished.desc).map (fun d => d.parameters.length) = some 2 := by decide +kernel
set_option maxHeartbeats 4000000 in
set_option maxRecDepth 100000 in
theorem c_X0_isWished (l : Launch) (dC : Nat → ClassId) (dI : Nat → Nat → Nat) (cI cJ cZ : ClassId) (h_album h_album_wishes h_rows h_rows_framed h_rule h_album_ways h_album_front h_album_at h_page h_rows_power : Nat) (sz : Nat) (f_album_wishes : Nat → Int32) (rows_c : Int32) (rows_w : Int32) (rows_size : Int32) (rows_ring : Int32) (f_rows_framed : Nat → Int32) (l1 : Int32) (l2 : Int32) {post : Int32 → Prop} (hq : q_X0_isWished f_album_wishes rows_w f_rows_framed l1 l2 post) : Met l yX0_isWished wsX0_isWished rm_X0_isWished (va_Pc [.ref h_album, .int l1, .int l2] (gx_Pre (dC, dI) vwCl (gx_tys cI cJ cZ) sz (W_X0_isWished cI cJ cZ h_album h_album_wishes h_rows h_rows_framed h_rule h_album_ways h_album_front h_album_at h_page h_rows_power f_album_wishes rows_c rows_w rows_size rows_ring f_rows_framed))) (va_Qi (fun (r : Int32) (u : Unit) => post r) (gx_B (dC, dI) vwCl (gx_tys cI cJ cZ) (va_A (W_X0_isWished cI cJ cZ h_album h_album_wishes h_rows h_rows_framed h_rule h_album_ways h_album_front h_album_at h_page h_rows_power f_album_wishes rows_c rows_w rows_size rows_ring f_rows_framed) sz) (fun (u : Unit) => (W_X0_isWished cI cJ cZ h_album h_album_wishes h_rows h_rows_framed h_rule h_album_ways h_album_front h_album_at h_page h_rows_power f_album_wishes rows_c rows_w rows_size rows_ring f_rows_framed))) (va_A (W_X0_isWished cI cJ cZ h_album h_album_wishes h_rows h_rows_framed h_rule h_album_ways h_album_front h_album_at h_page h_rows_power f_album_wishes rows_c rows_w rows_size rows_ring f_rows_framed) sz)) 0 0 (va_A (W_X0_isWished cI cJ cZ h_album h_album_wishes h_rows h_rows_framed h_rule h_album_ways h_album_front h_album_at h_page h_rows_power f_album_wishes rows_c rows_w rows_size rows_ring f_rows_framed) sz) := by
  refine gx_z (cc := cX0_isWished) (maxL := 4) (by decide) rfl (Nat.le_of_ble_eq_true rfl) ?_
  intro p e s m args below meth c A QQ hx hb hml hown hts hA hP hK hD hret ls hl
  have hown : s.vm.findClass RX0 = some m.cls := hown
  have hf36 := hts (.fieldLink RX0 36 "SmallWindows$Album" "rows" "LSmallWindows$Rows;") (by decide +kernel)
  have hf72 := hts (.fieldLink RX0 72 "SmallWindows$Rows" "w" "I") (by decide +kernel)
  have hf9 := hts (.fieldLink RX0 9 "SmallWindows$Album" "wishes" "[I") (by decide +kernel)
  have hinX0 : ∀ w ∈ u_ws RX0 TX0 7, w ∈ wsX0_isWished := fun w h => List.mem_cons_of_mem _ ((List.mem_append_left _ (List.mem_append_right _ h)))
  have hinX2 : ∀ w ∈ u_ws RX2 TX2 6, w ∈ wsX0_isWished := fun w h => List.mem_cons_of_mem _ ((List.mem_append_right _ h))
  have hS : va_S A s.heap s.heap [] := va_S.rf
  have hl : lv_has ls 4 [(0, .ref h_album), (1, .int l1), (2, .int l2)] := hl
  have L2 : ∀ (l1 : Int32) (l2 : Int32) (n : Nat) (l3 : Int32), r_X0_isWished_2 f_album_wishes rows_w f_rows_framed post l1 l2 n l3 → ∀ (H : Heap) (locs : List Loc), va_P (dC, dI) vwCl (W_X0_isWished cI cJ cZ h_album h_album_wishes h_rows h_rows_framed h_rule h_album_ways h_album_front h_album_at h_page h_rows_power f_album_wishes rows_c rows_w rows_size rows_ring f_rows_framed) H → va_D A (W_X0_isWished cI cJ cZ h_album h_album_wishes h_rows h_rows_framed h_rule h_album_ways h_album_front h_album_at h_page h_rows_power f_album_wishes rows_c rows_w rows_size rows_ring f_rows_framed) → va_S A s.heap H locs → ∀ ls : Array Slot, lv_has ls 4 [(0, .ref h_album), (1, .int l1), (2, .int l2), (3, .int l3)] → W p l e rm_X0_isWished s m args below meth c H locs 0 0 QQ (F0 m 2 ls []) := by
    intro l1 l2 n
    induction n with
    | zero => intro l3 hq; exact False.elim hq
    | succ n ih =>
      intro l3 hq H locs hP hD hS ls hl
      unfold r_X0_isWished_2 at hq
      refine lv_iload_n hx hb dX0_isWished_2 rfl (lv_at hl 3 rfl) ?_
      refine lv_aload_n hx hb dX0_isWished_3 rfl (lv_at hl 0 rfl) ?_
      refine va_get (D := (dC, dI)) (ci := 0) (v := .ref h_rows) (C := RX0) (T := TX0) (N := 7) hx hb hts hinX0 hown hK hP 0 rfl rfl 0 (by decide) hf36 (fun _ h9 => h9) rfl dX0_isWished_4 ?_
      refine va_get (D := (dC, dI)) (ci := 2) (v := .int rows_w) (C := RX2) (T := TX2) (N := 6) hx hb hts hinX2 hown hK hP 2 rfl rfl 1 (by decide) hf72 (fun _ h9 => h9) rfl dX0_isWished_7 ?_
      refine lv_icmp_ge (tgt := 52) hx hb dX0_isWished_10 (by decide) (fun c1 => ?_) (fun c1 => ?_)
      · replace hq := hq.1 c1
        refine lv_iconst (v := (1 : Int32)) hx hb dX0_isWished_52 (by decide) ?_
        exact hret (1 : Int32) () (Or.inr rfl) hq _ _ hP hD hS _ _ dX0_isWished_53
      · replace hq := hq.2 c1
        refine lv_aload_n hx hb dX0_isWished_13 rfl (lv_at hl 0 rfl) ?_
        refine va_get (D := (dC, dI)) (ci := 0) (v := .ref h_album_wishes) (C := RX0) (T := TX0) (N := 7) hx hb hts hinX0 hown hK hP 0 rfl rfl 2 (by decide) hf9 (fun _ h9 => h9) rfl dX0_isWished_14 ?_
        refine lv_aload_n hx hb dX0_isWished_17 rfl (lv_at hl 0 rfl) ?_
        refine va_get (D := (dC, dI)) (ci := 0) (v := .ref h_rows) (C := RX0) (T := TX0) (N := 7) hx hb hts hinX0 hown hK hP 0 rfl rfl 0 (by decide) hf36 (fun _ h9 => h9) rfl dX0_isWished_18 ?_
        refine va_get (D := (dC, dI)) (ci := 2) (v := .int rows_w) (C := RX2) (T := TX2) (N := 6) hx hb hts hinX2 hown hK hP 2 rfl rfl 1 (by decide) hf72 (fun _ h9 => h9) rfl dX0_isWished_21 ?_
        refine lv_iload_n hx hb dX0_isWished_24 rfl (lv_at hl 1 rfl) ?_
        refine lv_imul hx hb dX0_isWished_25 ?_
        refine lv_iload_n hx hb dX0_isWished_26 rfl (lv_at hl 3 rfl) ?_
        refine lv_iadd hx hb dX0_isWished_27 ?_
        obtain ⟨hv2, hq⟩ := hq
        refine va_iald hx hb hK hP 1 0 rfl rfl hv2 dX0_isWished_28 ?_
        refine lv_aload_n hx hb dX0_isWished_29 rfl (lv_at hl 0 rfl) ?_
        refine va_get (D := (dC, dI)) (ci := 0) (v := .ref h_rows) (C := RX0) (T := TX0) (N := 7) hx hb hts hinX0 hown hK hP 0 rfl rfl 0 (by decide) hf36 (fun _ h9 => h9) rfl dX0_isWished_30 ?_
        refine lv_iload_n hx hb dX0_isWished_33 rfl (lv_at hl 2 rfl) ?_
        refine lv_iload_n hx hb dX0_isWished_34 rfl (lv_at hl 3 rfl) ?_
        refine gx_cVi (C := RX2) (As := [.int l2, .int l3]) (rest := [.int (f_album_wishes (((rows_w * l1) + l3)).toNatClampNeg)]) ⟨hx, hb, hml, hown, hts⟩ (c_X2_colour l dC dI cI cJ cZ h_rows h_rows_framed h_rows_power H.size rows_c rows_w rows_size rows_ring f_rows_framed l2 l3 hq) (cwV 2 hts gX0_isWished_X2_colour rfl rfl rfl hdV_X2_colour ⟨Nat.le_of_ble_eq_true rfl, Nat.le_of_ble_eq_true rfl⟩) hK hP hD hS hA [2, 3] [0, 1] rfl rfl rfl rfl rfl (ci := 2) (q0 := 0) rfl rfl rfl rfl hl.1 (Nat.le_of_ble_eq_true rfl) dX0_isWished_35 rfl (fun r3 u H locs hq hP hD hS => ?_)
        try dsimp only at hq
        have hP : va_P (dC, dI) vwCl (W_X0_isWished cI cJ cZ h_album h_album_wishes h_rows h_rows_framed h_rule h_album_ways h_album_front h_album_at h_page h_rows_power f_album_wishes rows_c rows_w rows_size rows_ring f_rows_framed) H := hP
        have hD : va_D A (W_X0_isWished cI cJ cZ h_album h_album_wishes h_rows h_rows_framed h_rule h_album_ways h_album_front h_album_at h_page h_rows_power f_album_wishes rows_c rows_w rows_size rows_ring f_rows_framed) := hD
        refine lv_ishr hx hb dX0_isWished_38 ?_
        refine lv_iconst (v := (1 : Int32)) hx hb dX0_isWished_39 (by decide) ?_
        refine lv_iand hx hb dX0_isWished_40 ?_
        refine lv_if_ne (tgt := 46) hx hb dX0_isWished_41 (by decide) (fun c4 => ?_) (fun c4 => ?_)
        · replace hq := hq.1 c4
          refine lv_iinc (v := (l3 + (1 : Int32))) (lv' := [(3, .int (l3 + (1 : Int32))), (0, .ref h_album), (1, .int l1), (2, .int l2)]) hx hb dX0_isWished_46 hl (k := 3) rfl rfl (by decide) rfl (fun ls hl => ?_)
          refine lv_goto (tgt := 2) hx hb dX0_isWished_49 (by decide) ?_
          exact ih _ hq _ _ hP hD hS _ (lv_sub hl [1, 2, 3, 0] rfl)
        · replace hq := hq.2 c4
          refine lv_iconst (v := (0 : Int32)) hx hb dX0_isWished_44 (by decide) ?_
          exact hret (0 : Int32) () (Or.inl rfl) hq _ _ hP hD hS _ _ dX0_isWished_45
  have C2 : ∀ (l1 : Int32) (l2 : Int32) (l3 : Int32), q_X0_isWished_2 f_album_wishes rows_w f_rows_framed post l1 l2 l3 → ∀ (H : Heap) (locs : List Loc), va_P (dC, dI) vwCl (W_X0_isWished cI cJ cZ h_album h_album_wishes h_rows h_rows_framed h_rule h_album_ways h_album_front h_album_at h_page h_rows_power f_album_wishes rows_c rows_w rows_size rows_ring f_rows_framed) H → va_D A (W_X0_isWished cI cJ cZ h_album h_album_wishes h_rows h_rows_framed h_rule h_album_ways h_album_front h_album_at h_page h_rows_power f_album_wishes rows_c rows_w rows_size rows_ring f_rows_framed) → va_S A s.heap H locs → ∀ ls : Array Slot, lv_has ls 4 [(0, .ref h_album), (1, .int l1), (2, .int l2), (3, .int l3)] → W p l e rm_X0_isWished s m args below meth c H locs 0 0 QQ (F0 m 2 ls []) := by
    intro l1 l2 l3 hq H locs hP hD hS ls hl
    obtain ⟨n, hq⟩ := hq
    exact L2 _ _ n _ hq H locs hP hD hS ls hl
  unfold q_X0_isWished at hq
  refine lv_iconst (v := (0 : Int32)) hx hb dX0_isWished_0 (by decide) ?_
  refine lv_istore_n (lv' := [(3, .int (0 : Int32)), (0, .ref h_album), (1, .int l1), (2, .int l2)]) hx hb dX0_isWished_1 rfl hl (by decide) rfl (fun ls hl => ?_)
  exact C2 _ _ _ hq _ _ hP hD hS _ (lv_sub hl [1, 2, 3, 0] rfl)

abbrev W_X0_closeRight (cI cJ cZ : ClassId) (h_album h_album_ways h_album_front h_rows h_rows_framed h_rule h_rule_lower h_album_wishes h_album_at h_page h_rows_power : Nat) (f_album_ways : Nat → Int64) (f_album_front : Nat → Int64) (rows_c : Int32) (rows_w : Int32) (rows_size : Int32) (rows_ring : Int32) (f_rows_framed : Nat → Int32) (f_rule_lower : Nat → Int32) : va_W := [(h_album, .inr (0, [.ref h_rows, .ref h_rule, .ref h_album_wishes, .ref h_album_ways, .ref h_album_front, .ref h_album_at, .ref h_page])), (h_album_ways, .inl (cJ, 1215, .inr (.inl f_album_ways))), (h_album_front, .inl (cJ, 729, .inr (.inl f_album_front))), (h_rows, .inr (2, [.int rows_c, .int rows_w, .int rows_size, .int rows_ring, .ref h_rows_framed, .ref h_rows_power])), (h_rows_framed, .inl (cI, 243, .inl f_rows_framed)), (h_rule, .inr (3, [.ref h_rule_lower])), (h_rule_lower, .inl (cI, 16, .inl f_rule_lower))]
abbrev rm_X0_closeRight : Room := { frames := 1, cells := 0, slots := 0, locals := 23 }
def q_X0_closeRight_87 (f_album_ways : Nat → Int64) (rows_c : Int32) (rows_w : Int32) (rows_size : Int32) (f_rows_framed : Nat → Int32) (f_rule_lower : Nat → Int32) (l1 : Int32) (l2 : Int32) (l3 : Int32) (l4 : Int64) (l6 : Int32) (post : (Nat → Int64) → Prop) (K117 : (Int32) → (Nat → Int64) → Prop) (K57 : (Int32) → (Nat → Int64) → Prop) (l7 : Int32) (t0 : Int32) (f_album_front : Nat → Int64) : Prop := ((t0 = 0 → (vp_in ((l3 * l2) + l7) 729 ∧ (K57 (l7 + (1 : Int32)) (vp_updL f_album_front (((l3 * l2) + l7)).toNatClampNeg (0 : Int64))))) ∧ (¬ t0 = 0 → (vp_in ((l3 * l2) + l7) 729 ∧ (K57 (l7 + (1 : Int32)) (vp_updL f_album_front (((l3 * l2) + l7)).toNatClampNeg l4)))))
def r_X0_closeRight_57 (f_album_ways : Nat → Int64) (rows_c : Int32) (rows_w : Int32) (rows_size : Int32) (f_rows_framed : Nat → Int32) (f_rule_lower : Nat → Int32) (l1 : Int32) (l2 : Int32) (post : (Nat → Int64) → Prop) (K117 : (Int32) → (Nat → Int64) → Prop) (l3 : Int32) (l4 : Int64) (l6 : Int32) : Nat → (Int32) → (Nat → Int64) → Prop
  | 0, _, _ => False
  | n + 1, l7, f_album_front => ((l2 ≤ l7 → (K117 l3 f_album_front)) ∧ (¬ l2 ≤ l7 → (q_X3_corners f_rule_lower l7 (3 : Int32) l6 (fun (r5 : Int32) => ((((r5 >>> ((3 : Int32) &&& 31)) &&& (1 : Int32)) = 0 → ((q_X0_closeRight_87 f_album_ways rows_c rows_w rows_size f_rows_framed f_rule_lower l1 l2 l3 l4 l6 post K117 (r_X0_closeRight_57 f_album_ways rows_c rows_w rows_size f_rows_framed f_rule_lower l1 l2 post K117 l3 l4 l6 n)) l7 (0 : Int32) f_album_front)) ∧ (¬ ((r5 >>> ((3 : Int32) &&& 31)) &&& (1 : Int32)) = 0 → ((q_X0_closeRight_87 f_album_ways rows_c rows_w rows_size f_rows_framed f_rule_lower l1 l2 l3 l4 l6 post K117 (r_X0_closeRight_57 f_album_ways rows_c rows_w rows_size f_rows_framed f_rule_lower l1 l2 post K117 l3 l4 l6 n)) l7 (1 : Int32) f_album_front)))))))
def q_X0_closeRight_117 (f_album_ways : Nat → Int64) (rows_c : Int32) (rows_w : Int32) (rows_size : Int32) (f_rows_framed : Nat → Int32) (f_rule_lower : Nat → Int32) (l1 : Int32) (l2 : Int32) (post : (Nat → Int64) → Prop) (K10 : (Int32) → (Nat → Int64) → Prop) (l3 : Int32) (f_album_front : Nat → Int64) : Prop := (K10 (l3 + (1 : Int32)) f_album_front)
def q_X0_closeRight_57 (f_album_ways : Nat → Int64) (rows_c : Int32) (rows_w : Int32) (rows_size : Int32) (f_rows_framed : Nat → Int32) (f_rule_lower : Nat → Int32) (l1 : Int32) (l2 : Int32) (post : (Nat → Int64) → Prop) (K10 : (Int32) → (Nat → Int64) → Prop) (l3 : Int32) (l4 : Int64) (l6 : Int32) (l7 : Int32) (f_album_front : Nat → Int64) : Prop := ∃ n, r_X0_closeRight_57 f_album_ways rows_c rows_w rows_size f_rows_framed f_rule_lower l1 l2 post (q_X0_closeRight_117 f_album_ways rows_c rows_w rows_size f_rows_framed f_rule_lower l1 l2 post K10) l3 l4 l6 n l7 f_album_front
def r_X0_closeRight_10 (f_album_ways : Nat → Int64) (rows_c : Int32) (rows_w : Int32) (rows_size : Int32) (f_rows_framed : Nat → Int32) (f_rule_lower : Nat → Int32) (post : (Nat → Int64) → Prop) (l1 : Int32) (l2 : Int32) : Nat → (Int32) → (Nat → Int64) → Prop
  | 0, _, _ => False
  | n + 1, l3, f_album_front => ((rows_size ≤ l3 → (post f_album_front)) ∧ (¬ rows_size ≤ l3 → (vp_in ((l1 * (243 : Int32)) + l3) 1215 ∧ (q_X2_colour rows_w f_rows_framed l3 (rows_w - (1 : Int32)) (fun (r3 : Int32) => ((q_X0_closeRight_57 f_album_ways rows_c rows_w rows_size f_rows_framed f_rule_lower l1 l2 post (r_X0_closeRight_10 f_album_ways rows_c rows_w rows_size f_rows_framed f_rule_lower post l1 l2 n)) l3 (f_album_ways (((l1 * (243 : Int32)) + l3)).toNatClampNeg) r3 (0 : Int32) f_album_front))))))
def q_X0_closeRight_10 (f_album_ways : Nat → Int64) (rows_c : Int32) (rows_w : Int32) (rows_size : Int32) (f_rows_framed : Nat → Int32) (f_rule_lower : Nat → Int32) (post : (Nat → Int64) → Prop) (l1 : Int32) (l2 : Int32) (l3 : Int32) (f_album_front : Nat → Int64) : Prop := ∃ n, r_X0_closeRight_10 f_album_ways rows_c rows_w rows_size f_rows_framed f_rule_lower post l1 l2 n l3 f_album_front
def q_X0_closeRight (f_album_ways : Nat → Int64) (rows_c : Int32) (rows_w : Int32) (rows_size : Int32) (f_rows_framed : Nat → Int32) (f_rule_lower : Nat → Int32) (f_album_front : Nat → Int64) (l1 : Int32) (post : (Nat → Int64) → Prop) : Prop := ((q_X0_closeRight_10 f_album_ways rows_c rows_w rows_size f_rows_framed f_rule_lower post) l1 rows_c (0 : Int32) f_album_front)
theorem hdV_X0_closeRight : yX0_closeRight.cls = RX0 ∧ yX0_closeRight.cls ≠ "java/lang/invoke/MethodHandle" ∧ yX0_closeRight.cls ≠ "java/lang/invoke/VarHandle" ∧ (parseMethodDescriptor yX0_closeRight.desc).map (fun d => d.parameters.length) = some 1 := by decide +kernel
set_option maxHeartbeats 4000000 in
set_option maxRecDepth 100000 in
theorem c_X0_closeRight (l : Launch) (dC : Nat → ClassId) (dI : Nat → Nat → Nat) (cI cJ cZ : ClassId) (h_album h_album_ways h_album_front h_rows h_rows_framed h_rule h_rule_lower h_album_wishes h_album_at h_page h_rows_power : Nat) (sz : Nat) (f_album_ways : Nat → Int64) (f_album_front : Nat → Int64) (rows_c : Int32) (rows_w : Int32) (rows_size : Int32) (rows_ring : Int32) (f_rows_framed : Nat → Int32) (f_rule_lower : Nat → Int32) (l1 : Int32) {post : (Nat → Int64) → Prop} (hq : q_X0_closeRight f_album_ways rows_c rows_w rows_size f_rows_framed f_rule_lower f_album_front l1 post) : Met l yX0_closeRight wsX0_closeRight rm_X0_closeRight (va_Pc [.ref h_album, .int l1] (gx_Pre (dC, dI) vwCl (gx_tys cI cJ cZ) sz (W_X0_closeRight cI cJ cZ h_album h_album_ways h_album_front h_rows h_rows_framed h_rule h_rule_lower h_album_wishes h_album_at h_page h_rows_power f_album_ways f_album_front rows_c rows_w rows_size rows_ring f_rows_framed f_rule_lower))) (va_Qv (fun (u : (Nat → Int64)) => post u) (gx_B (dC, dI) vwCl (gx_tys cI cJ cZ) (va_A (W_X0_closeRight cI cJ cZ h_album h_album_ways h_album_front h_rows h_rows_framed h_rule h_rule_lower h_album_wishes h_album_at h_page h_rows_power f_album_ways f_album_front rows_c rows_w rows_size rows_ring f_rows_framed f_rule_lower) sz) (fun (u : (Nat → Int64)) => (W_X0_closeRight cI cJ cZ h_album h_album_ways h_album_front h_rows h_rows_framed h_rule h_rule_lower h_album_wishes h_album_at h_page h_rows_power f_album_ways u rows_c rows_w rows_size rows_ring f_rows_framed f_rule_lower))) (va_A (W_X0_closeRight cI cJ cZ h_album h_album_ways h_album_front h_rows h_rows_framed h_rule h_rule_lower h_album_wishes h_album_at h_page h_rows_power f_album_ways f_album_front rows_c rows_w rows_size rows_ring f_rows_framed f_rule_lower) sz)) 0 0 (va_A (W_X0_closeRight cI cJ cZ h_album h_album_ways h_album_front h_rows h_rows_framed h_rule h_rule_lower h_album_wishes h_album_at h_page h_rows_power f_album_ways f_album_front rows_c rows_w rows_size rows_ring f_rows_framed f_rule_lower) sz) := by
  refine gx_v (cc := cX0_closeRight) (maxL := 9) (by decide) rfl (Nat.le_of_ble_eq_true rfl) ?_
  intro p e s m args below meth c A QQ hx hb hml hown hts hA hP hK hD hret ls hl
  have hown : s.vm.findClass RX0 = some m.cls := hown
  have hf36 := hts (.fieldLink RX0 36 "SmallWindows$Album" "rows" "LSmallWindows$Rows;") (by decide +kernel)
  have hf95 := hts (.fieldLink RX0 95 "SmallWindows$Rows" "c" "I") (by decide +kernel)
  have hf59 := hts (.fieldLink RX0 59 "SmallWindows$Rows" "size" "I") (by decide +kernel)
  have hf15 := hts (.fieldLink RX0 15 "SmallWindows$Album" "ways" "[J") (by decide +kernel)
  have hf72 := hts (.fieldLink RX0 72 "SmallWindows$Rows" "w" "I") (by decide +kernel)
  have hf32 := hts (.fieldLink RX0 32 "SmallWindows$Album" "rule" "LSmallWindows$Rule;") (by decide +kernel)
  have hf19 := hts (.fieldLink RX0 19 "SmallWindows$Album" "front" "[J") (by decide +kernel)
  have hinX0 : ∀ w ∈ u_ws RX0 TX0 7, w ∈ wsX0_closeRight := fun w h => List.mem_cons_of_mem _ ((List.mem_append_left _ (List.mem_append_left _ (List.mem_append_right _ h))))
  have hinX2 : ∀ w ∈ u_ws RX2 TX2 6, w ∈ wsX0_closeRight := fun w h => List.mem_cons_of_mem _ ((List.mem_append_left _ (List.mem_append_right _ h)))
  have hS : va_S A s.heap s.heap [] := va_S.rf
  have hl : lv_has ls 9 [(0, .ref h_album), (1, .int l1)] := hl
  have C87 : ∀ (l1 : Int32) (l2 : Int32) (l3 : Int32) (l4 : Int64) (l6 : Int32) (K117 : (Int32) → (Nat → Int64) → Prop) (hK117 : (∀ (l3 : Int32) (f_album_front : Nat → Int64), K117 l3 f_album_front → ∀ (H : Heap) (locs : List Loc), va_P (dC, dI) vwCl (W_X0_closeRight cI cJ cZ h_album h_album_ways h_album_front h_rows h_rows_framed h_rule h_rule_lower h_album_wishes h_album_at h_page h_rows_power f_album_ways f_album_front rows_c rows_w rows_size rows_ring f_rows_framed f_rule_lower) H → va_D A (W_X0_closeRight cI cJ cZ h_album h_album_ways h_album_front h_rows h_rows_framed h_rule h_rule_lower h_album_wishes h_album_at h_page h_rows_power f_album_ways f_album_front rows_c rows_w rows_size rows_ring f_rows_framed f_rule_lower) → va_S A s.heap H locs → ∀ ls : Array Slot, lv_has ls 9 [(0, .ref h_album), (1, .int l1), (2, .int l2), (3, .int l3)] → W p l e rm_X0_closeRight s m args below meth c H locs 0 0 QQ (F0 m 117 ls []))) (K57 : (Int32) → (Nat → Int64) → Prop) (hK57 : (∀ (l7 : Int32) (f_album_front : Nat → Int64), K57 l7 f_album_front → ∀ (H : Heap) (locs : List Loc), va_P (dC, dI) vwCl (W_X0_closeRight cI cJ cZ h_album h_album_ways h_album_front h_rows h_rows_framed h_rule h_rule_lower h_album_wishes h_album_at h_page h_rows_power f_album_ways f_album_front rows_c rows_w rows_size rows_ring f_rows_framed f_rule_lower) H → va_D A (W_X0_closeRight cI cJ cZ h_album h_album_ways h_album_front h_rows h_rows_framed h_rule h_rule_lower h_album_wishes h_album_at h_page h_rows_power f_album_ways f_album_front rows_c rows_w rows_size rows_ring f_rows_framed f_rule_lower) → va_S A s.heap H locs → ∀ ls : Array Slot, lv_has ls 9 [(0, .ref h_album), (1, .int l1), (2, .int l2), (3, .int l3), (4, .long l4), (6, .int l6), (7, .int l7)] → W p l e rm_X0_closeRight s m args below meth c H locs 0 0 QQ (F0 m 57 ls []))) (l7 : Int32) (t0 : Int32) (f_album_front : Nat → Int64), q_X0_closeRight_87 f_album_ways rows_c rows_w rows_size f_rows_framed f_rule_lower l1 l2 l3 l4 l6 post K117 K57 l7 t0 f_album_front → ∀ (H : Heap) (locs : List Loc), va_P (dC, dI) vwCl (W_X0_closeRight cI cJ cZ h_album h_album_ways h_album_front h_rows h_rows_framed h_rule h_rule_lower h_album_wishes h_album_at h_page h_rows_power f_album_ways f_album_front rows_c rows_w rows_size rows_ring f_rows_framed f_rule_lower) H → va_D A (W_X0_closeRight cI cJ cZ h_album h_album_ways h_album_front h_rows h_rows_framed h_rule h_rule_lower h_album_wishes h_album_at h_page h_rows_power f_album_ways f_album_front rows_c rows_w rows_size rows_ring f_rows_framed f_rule_lower) → va_S A s.heap H locs → ∀ ls : Array Slot, lv_has ls 9 [(0, .ref h_album), (1, .int l1), (2, .int l2), (3, .int l3), (4, .long l4), (6, .int l6), (7, .int l7)] → W p l e rm_X0_closeRight s m args below meth c H locs 0 0 QQ (F0 m 87 ls [.int t0]) := by
    intro l1 l2 l3 l4 l6 K117 hK117 K57 hK57 l7 t0 f_album_front hq H locs hP hD hS ls hl
    unfold q_X0_closeRight_87 at hq
    refine lv_istore (lv' := [(8, .int t0), (0, .ref h_album), (1, .int l1), (2, .int l2), (3, .int l3), (4, .long l4), (6, .int l6), (7, .int l7)]) hx hb dX0_closeRight_87 hl (by decide) rfl (fun ls hl => ?_)
    refine lv_aload_n hx hb dX0_closeRight_89 rfl (lv_at hl 1 rfl) ?_
    refine va_get (D := (dC, dI)) (ci := 0) (v := .ref h_album_front) (C := RX0) (T := TX0) (N := 7) hx hb hts hinX0 hown hK hP 0 rfl rfl 4 (by decide) hf19 (fun _ h9 => h9) rfl dX0_closeRight_90 ?_
    refine lv_iload_n hx hb dX0_closeRight_93 rfl (lv_at hl 4 rfl) ?_
    refine lv_iload_n hx hb dX0_closeRight_94 rfl (lv_at hl 3 rfl) ?_
    refine lv_imul hx hb dX0_closeRight_95 ?_
    refine lv_iload hx hb dX0_closeRight_96 (lv_at hl 7 rfl) ?_
    refine lv_iadd hx hb dX0_closeRight_98 ?_
    refine lv_iload hx hb dX0_closeRight_99 (lv_at hl 0 rfl) ?_
    refine lv_if_eq (tgt := 109) hx hb dX0_closeRight_101 (by decide) (fun c7 => ?_) (fun c7 => ?_)
    · replace hq := hq.1 c7
      refine lv_lconst (v := (0 : Int64)) hx hb dX0_closeRight_109 (by decide) ?_
      obtain ⟨hv8, hq⟩ := hq
      refine va_last hx hb hK hP hD hS 2 1 rfl rfl hv8 dX0_closeRight_110 (fun H locs hP hD hS => ?_)
      have hP : va_P (dC, dI) vwCl (W_X0_closeRight cI cJ cZ h_album h_album_ways h_album_front h_rows h_rows_framed h_rule h_rule_lower h_album_wishes h_album_at h_page h_rows_power f_album_ways (vp_updL f_album_front (((l3 * l2) + l7)).toNatClampNeg (0 : Int64)) rows_c rows_w rows_size rows_ring f_rows_framed f_rule_lower) H := hP
      have hD : va_D A (W_X0_closeRight cI cJ cZ h_album h_album_ways h_album_front h_rows h_rows_framed h_rule h_rule_lower h_album_wishes h_album_at h_page h_rows_power f_album_ways (vp_updL f_album_front (((l3 * l2) + l7)).toNatClampNeg (0 : Int64)) rows_c rows_w rows_size rows_ring f_rows_framed f_rule_lower) := hD
      refine lv_iinc (v := (l7 + (1 : Int32))) (lv' := [(7, .int (l7 + (1 : Int32))), (8, .int t0), (0, .ref h_album), (1, .int l1), (2, .int l2), (3, .int l3), (4, .long l4), (6, .int l6)]) hx hb dX0_closeRight_111 hl (k := 7) rfl rfl (by decide) rfl (fun ls hl => ?_)
      refine lv_goto (tgt := 57) hx hb dX0_closeRight_114 (by decide) ?_
      exact hK57 _ _ hq _ _ hP hD hS _ (lv_sub hl [2, 3, 4, 5, 6, 7, 0] rfl)
    · replace hq := hq.2 c7
      refine lv_lload hx hb dX0_closeRight_104 (lv_at hl 5 rfl) ?_
      refine lv_goto (tgt := 110) hx hb dX0_closeRight_106 (by decide) ?_
      obtain ⟨hv9, hq⟩ := hq
      refine va_last hx hb hK hP hD hS 2 1 rfl rfl hv9 dX0_closeRight_110 (fun H locs hP hD hS => ?_)
      have hP : va_P (dC, dI) vwCl (W_X0_closeRight cI cJ cZ h_album h_album_ways h_album_front h_rows h_rows_framed h_rule h_rule_lower h_album_wishes h_album_at h_page h_rows_power f_album_ways (vp_updL f_album_front (((l3 * l2) + l7)).toNatClampNeg l4) rows_c rows_w rows_size rows_ring f_rows_framed f_rule_lower) H := hP
      have hD : va_D A (W_X0_closeRight cI cJ cZ h_album h_album_ways h_album_front h_rows h_rows_framed h_rule h_rule_lower h_album_wishes h_album_at h_page h_rows_power f_album_ways (vp_updL f_album_front (((l3 * l2) + l7)).toNatClampNeg l4) rows_c rows_w rows_size rows_ring f_rows_framed f_rule_lower) := hD
      refine lv_iinc (v := (l7 + (1 : Int32))) (lv' := [(7, .int (l7 + (1 : Int32))), (8, .int t0), (0, .ref h_album), (1, .int l1), (2, .int l2), (3, .int l3), (4, .long l4), (6, .int l6)]) hx hb dX0_closeRight_111 hl (k := 7) rfl rfl (by decide) rfl (fun ls hl => ?_)
      refine lv_goto (tgt := 57) hx hb dX0_closeRight_114 (by decide) ?_
      exact hK57 _ _ hq _ _ hP hD hS _ (lv_sub hl [2, 3, 4, 5, 6, 7, 0] rfl)
  have L57 : ∀ (l1 : Int32) (l2 : Int32) (K117 : (Int32) → (Nat → Int64) → Prop) (hK117 : (∀ (l3 : Int32) (f_album_front : Nat → Int64), K117 l3 f_album_front → ∀ (H : Heap) (locs : List Loc), va_P (dC, dI) vwCl (W_X0_closeRight cI cJ cZ h_album h_album_ways h_album_front h_rows h_rows_framed h_rule h_rule_lower h_album_wishes h_album_at h_page h_rows_power f_album_ways f_album_front rows_c rows_w rows_size rows_ring f_rows_framed f_rule_lower) H → va_D A (W_X0_closeRight cI cJ cZ h_album h_album_ways h_album_front h_rows h_rows_framed h_rule h_rule_lower h_album_wishes h_album_at h_page h_rows_power f_album_ways f_album_front rows_c rows_w rows_size rows_ring f_rows_framed f_rule_lower) → va_S A s.heap H locs → ∀ ls : Array Slot, lv_has ls 9 [(0, .ref h_album), (1, .int l1), (2, .int l2), (3, .int l3)] → W p l e rm_X0_closeRight s m args below meth c H locs 0 0 QQ (F0 m 117 ls []))) (l3 : Int32) (l4 : Int64) (l6 : Int32) (n : Nat) (l7 : Int32) (f_album_front : Nat → Int64), r_X0_closeRight_57 f_album_ways rows_c rows_w rows_size f_rows_framed f_rule_lower l1 l2 post K117 l3 l4 l6 n l7 f_album_front → ∀ (H : Heap) (locs : List Loc), va_P (dC, dI) vwCl (W_X0_closeRight cI cJ cZ h_album h_album_ways h_album_front h_rows h_rows_framed h_rule h_rule_lower h_album_wishes h_album_at h_page h_rows_power f_album_ways f_album_front rows_c rows_w rows_size rows_ring f_rows_framed f_rule_lower) H → va_D A (W_X0_closeRight cI cJ cZ h_album h_album_ways h_album_front h_rows h_rows_framed h_rule h_rule_lower h_album_wishes h_album_at h_page h_rows_power f_album_ways f_album_front rows_c rows_w rows_size rows_ring f_rows_framed f_rule_lower) → va_S A s.heap H locs → ∀ ls : Array Slot, lv_has ls 9 [(0, .ref h_album), (1, .int l1), (2, .int l2), (3, .int l3), (4, .long l4), (6, .int l6), (7, .int l7)] → W p l e rm_X0_closeRight s m args below meth c H locs 0 0 QQ (F0 m 57 ls []) := by
    intro l1 l2 K117 hK117 l3 l4 l6 n
    induction n with
    | zero => intro l7 f_album_front hq; exact False.elim hq
    | succ n ih =>
      intro l7 f_album_front hq H locs hP hD hS ls hl
      unfold r_X0_closeRight_57 at hq
      refine lv_iload hx hb dX0_closeRight_57 (lv_at hl 6 rfl) ?_
      refine lv_iload_n hx hb dX0_closeRight_59 rfl (lv_at hl 2 rfl) ?_
      refine lv_icmp_ge (tgt := 117) hx hb dX0_closeRight_60 (by decide) (fun c4 => ?_) (fun c4 => ?_)
      · replace hq := hq.1 c4
        exact hK117 _ _ hq _ _ hP hD hS _ (lv_sub hl [0, 1, 2, 3] rfl)
      · replace hq := hq.2 c4
        refine lv_aload_n hx hb dX0_closeRight_63 rfl (lv_at hl 0 rfl) ?_
        refine va_get (D := (dC, dI)) (ci := 0) (v := .ref h_rule) (C := RX0) (T := TX0) (N := 7) hx hb hts hinX0 hown hK hP 0 rfl rfl 1 (by decide) hf32 (fun _ h9 => h9) rfl dX0_closeRight_64 ?_
        refine lv_iload hx hb dX0_closeRight_67 (lv_at hl 6 rfl) ?_
        refine lv_iconst (v := (3 : Int32)) hx hb dX0_closeRight_69 (by decide) ?_
        refine lv_iload hx hb dX0_closeRight_70 (lv_at hl 5 rfl) ?_
        refine gx_cVi (C := RX3) (As := [.int l7, .int (3 : Int32), .int l6]) (rest := []) ⟨hx, hb, hml, hown, hts⟩ (c_X3_corners l dC dI cI cJ cZ h_rule h_rule_lower H.size f_rule_lower l7 (3 : Int32) l6 hq) (cwV 3 hts gX0_closeRight_X3_corners rfl rfl rfl hdV_X3_corners ⟨Nat.le_of_ble_eq_true rfl, Nat.le_of_ble_eq_true rfl⟩) hK hP hD hS hA [5, 6] [0, 1, 2, 3, 4] rfl rfl rfl rfl rfl (ci := 3) (q0 := 0) rfl rfl rfl rfl hl.1 (Nat.le_of_ble_eq_true rfl) dX0_closeRight_72 rfl (fun r5 u H locs hq hP hD hS => ?_)
        try dsimp only at hq
        have hP : va_P (dC, dI) vwCl (W_X0_closeRight cI cJ cZ h_album h_album_ways h_album_front h_rows h_rows_framed h_rule h_rule_lower h_album_wishes h_album_at h_page h_rows_power f_album_ways f_album_front rows_c rows_w rows_size rows_ring f_rows_framed f_rule_lower) H := hP
        have hD : va_D A (W_X0_closeRight cI cJ cZ h_album h_album_ways h_album_front h_rows h_rows_framed h_rule h_rule_lower h_album_wishes h_album_at h_page h_rows_power f_album_ways f_album_front rows_c rows_w rows_size rows_ring f_rows_framed f_rule_lower) := hD
        refine lv_iconst (v := (3 : Int32)) hx hb dX0_closeRight_75 (by decide) ?_
        refine lv_ishr hx hb dX0_closeRight_76 ?_
        refine lv_iconst (v := (1 : Int32)) hx hb dX0_closeRight_77 (by decide) ?_
        refine lv_iand hx hb dX0_closeRight_78 ?_
        refine lv_if_eq (tgt := 86) hx hb dX0_closeRight_79 (by decide) (fun c6 => ?_) (fun c6 => ?_)
        · replace hq := hq.1 c6
          refine lv_iconst (v := (0 : Int32)) hx hb dX0_closeRight_86 (by decide) ?_
          exact (C87 _ _ _ _ _ _ hK117 _ ih) _ _ _ hq _ _ hP hD hS _ (lv_sub hl [0, 1, 2, 3, 4, 5, 6] rfl)
        · replace hq := hq.2 c6
          refine lv_iconst (v := (1 : Int32)) hx hb dX0_closeRight_82 (by decide) ?_
          refine lv_goto (tgt := 87) hx hb dX0_closeRight_83 (by decide) ?_
          exact (C87 _ _ _ _ _ _ hK117 _ ih) _ _ _ hq _ _ hP hD hS _ (lv_sub hl [0, 1, 2, 3, 4, 5, 6] rfl)
  have C117 : ∀ (l1 : Int32) (l2 : Int32) (K10 : (Int32) → (Nat → Int64) → Prop) (hK10 : (∀ (l3 : Int32) (f_album_front : Nat → Int64), K10 l3 f_album_front → ∀ (H : Heap) (locs : List Loc), va_P (dC, dI) vwCl (W_X0_closeRight cI cJ cZ h_album h_album_ways h_album_front h_rows h_rows_framed h_rule h_rule_lower h_album_wishes h_album_at h_page h_rows_power f_album_ways f_album_front rows_c rows_w rows_size rows_ring f_rows_framed f_rule_lower) H → va_D A (W_X0_closeRight cI cJ cZ h_album h_album_ways h_album_front h_rows h_rows_framed h_rule h_rule_lower h_album_wishes h_album_at h_page h_rows_power f_album_ways f_album_front rows_c rows_w rows_size rows_ring f_rows_framed f_rule_lower) → va_S A s.heap H locs → ∀ ls : Array Slot, lv_has ls 9 [(0, .ref h_album), (1, .int l1), (2, .int l2), (3, .int l3)] → W p l e rm_X0_closeRight s m args below meth c H locs 0 0 QQ (F0 m 10 ls []))) (l3 : Int32) (f_album_front : Nat → Int64), q_X0_closeRight_117 f_album_ways rows_c rows_w rows_size f_rows_framed f_rule_lower l1 l2 post K10 l3 f_album_front → ∀ (H : Heap) (locs : List Loc), va_P (dC, dI) vwCl (W_X0_closeRight cI cJ cZ h_album h_album_ways h_album_front h_rows h_rows_framed h_rule h_rule_lower h_album_wishes h_album_at h_page h_rows_power f_album_ways f_album_front rows_c rows_w rows_size rows_ring f_rows_framed f_rule_lower) H → va_D A (W_X0_closeRight cI cJ cZ h_album h_album_ways h_album_front h_rows h_rows_framed h_rule h_rule_lower h_album_wishes h_album_at h_page h_rows_power f_album_ways f_album_front rows_c rows_w rows_size rows_ring f_rows_framed f_rule_lower) → va_S A s.heap H locs → ∀ ls : Array Slot, lv_has ls 9 [(0, .ref h_album), (1, .int l1), (2, .int l2), (3, .int l3)] → W p l e rm_X0_closeRight s m args below meth c H locs 0 0 QQ (F0 m 117 ls []) := by
    intro l1 l2 K10 hK10 l3 f_album_front hq H locs hP hD hS ls hl
    unfold q_X0_closeRight_117 at hq
    refine lv_iinc (v := (l3 + (1 : Int32))) (lv' := [(3, .int (l3 + (1 : Int32))), (0, .ref h_album), (1, .int l1), (2, .int l2)]) hx hb dX0_closeRight_117 hl (k := 3) rfl rfl (by decide) rfl (fun ls hl => ?_)
    refine lv_goto (tgt := 10) hx hb dX0_closeRight_120 (by decide) ?_
    exact hK10 _ _ hq _ _ hP hD hS _ (lv_sub hl [1, 2, 3, 0] rfl)
  have C57 : ∀ (l1 : Int32) (l2 : Int32) (K10 : (Int32) → (Nat → Int64) → Prop) (hK10 : (∀ (l3 : Int32) (f_album_front : Nat → Int64), K10 l3 f_album_front → ∀ (H : Heap) (locs : List Loc), va_P (dC, dI) vwCl (W_X0_closeRight cI cJ cZ h_album h_album_ways h_album_front h_rows h_rows_framed h_rule h_rule_lower h_album_wishes h_album_at h_page h_rows_power f_album_ways f_album_front rows_c rows_w rows_size rows_ring f_rows_framed f_rule_lower) H → va_D A (W_X0_closeRight cI cJ cZ h_album h_album_ways h_album_front h_rows h_rows_framed h_rule h_rule_lower h_album_wishes h_album_at h_page h_rows_power f_album_ways f_album_front rows_c rows_w rows_size rows_ring f_rows_framed f_rule_lower) → va_S A s.heap H locs → ∀ ls : Array Slot, lv_has ls 9 [(0, .ref h_album), (1, .int l1), (2, .int l2), (3, .int l3)] → W p l e rm_X0_closeRight s m args below meth c H locs 0 0 QQ (F0 m 10 ls []))) (l3 : Int32) (l4 : Int64) (l6 : Int32) (l7 : Int32) (f_album_front : Nat → Int64), q_X0_closeRight_57 f_album_ways rows_c rows_w rows_size f_rows_framed f_rule_lower l1 l2 post K10 l3 l4 l6 l7 f_album_front → ∀ (H : Heap) (locs : List Loc), va_P (dC, dI) vwCl (W_X0_closeRight cI cJ cZ h_album h_album_ways h_album_front h_rows h_rows_framed h_rule h_rule_lower h_album_wishes h_album_at h_page h_rows_power f_album_ways f_album_front rows_c rows_w rows_size rows_ring f_rows_framed f_rule_lower) H → va_D A (W_X0_closeRight cI cJ cZ h_album h_album_ways h_album_front h_rows h_rows_framed h_rule h_rule_lower h_album_wishes h_album_at h_page h_rows_power f_album_ways f_album_front rows_c rows_w rows_size rows_ring f_rows_framed f_rule_lower) → va_S A s.heap H locs → ∀ ls : Array Slot, lv_has ls 9 [(0, .ref h_album), (1, .int l1), (2, .int l2), (3, .int l3), (4, .long l4), (6, .int l6), (7, .int l7)] → W p l e rm_X0_closeRight s m args below meth c H locs 0 0 QQ (F0 m 57 ls []) := by
    intro l1 l2 K10 hK10 l3 l4 l6 l7 f_album_front hq H locs hP hD hS ls hl
    obtain ⟨n, hq⟩ := hq
    exact L57 _ _ _ (C117 _ _ _ hK10) _ _ _ n _ _ hq H locs hP hD hS ls hl
  have L10 : ∀ (l1 : Int32) (l2 : Int32) (n : Nat) (l3 : Int32) (f_album_front : Nat → Int64), r_X0_closeRight_10 f_album_ways rows_c rows_w rows_size f_rows_framed f_rule_lower post l1 l2 n l3 f_album_front → ∀ (H : Heap) (locs : List Loc), va_P (dC, dI) vwCl (W_X0_closeRight cI cJ cZ h_album h_album_ways h_album_front h_rows h_rows_framed h_rule h_rule_lower h_album_wishes h_album_at h_page h_rows_power f_album_ways f_album_front rows_c rows_w rows_size rows_ring f_rows_framed f_rule_lower) H → va_D A (W_X0_closeRight cI cJ cZ h_album h_album_ways h_album_front h_rows h_rows_framed h_rule h_rule_lower h_album_wishes h_album_at h_page h_rows_power f_album_ways f_album_front rows_c rows_w rows_size rows_ring f_rows_framed f_rule_lower) → va_S A s.heap H locs → ∀ ls : Array Slot, lv_has ls 9 [(0, .ref h_album), (1, .int l1), (2, .int l2), (3, .int l3)] → W p l e rm_X0_closeRight s m args below meth c H locs 0 0 QQ (F0 m 10 ls []) := by
    intro l1 l2 n
    induction n with
    | zero => intro l3 f_album_front hq; exact False.elim hq
    | succ n ih =>
      intro l3 f_album_front hq H locs hP hD hS ls hl
      unfold r_X0_closeRight_10 at hq
      refine lv_iload_n hx hb dX0_closeRight_10 rfl (lv_at hl 3 rfl) ?_
      refine lv_aload_n hx hb dX0_closeRight_11 rfl (lv_at hl 0 rfl) ?_
      refine va_get (D := (dC, dI)) (ci := 0) (v := .ref h_rows) (C := RX0) (T := TX0) (N := 7) hx hb hts hinX0 hown hK hP 0 rfl rfl 0 (by decide) hf36 (fun _ h9 => h9) rfl dX0_closeRight_12 ?_
      refine va_get (D := (dC, dI)) (ci := 2) (v := .int rows_size) (C := RX2) (T := TX2) (N := 6) hx hb hts hinX2 hown hK hP 3 rfl rfl 2 (by decide) hf59 (fun _ h9 => h9) rfl dX0_closeRight_15 ?_
      refine lv_icmp_ge (tgt := 123) hx hb dX0_closeRight_18 (by decide) (fun c1 => ?_) (fun c1 => ?_)
      · replace hq := hq.1 c1
        exact hret f_album_front hq _ _ hP hD hS _ _ dX0_closeRight_123
      · replace hq := hq.2 c1
        refine lv_aload_n hx hb dX0_closeRight_21 rfl (lv_at hl 0 rfl) ?_
        refine va_get (D := (dC, dI)) (ci := 0) (v := .ref h_album_ways) (C := RX0) (T := TX0) (N := 7) hx hb hts hinX0 hown hK hP 0 rfl rfl 3 (by decide) hf15 (fun _ h9 => h9) rfl dX0_closeRight_22 ?_
        refine lv_iload_n hx hb dX0_closeRight_25 rfl (lv_at hl 1 rfl) ?_
        refine lv_sipush (v := (243 : Int32)) hx hb dX0_closeRight_26 (by decide) ?_
        refine lv_imul hx hb dX0_closeRight_29 ?_
        refine lv_iload_n hx hb dX0_closeRight_30 rfl (lv_at hl 3 rfl) ?_
        refine lv_iadd hx hb dX0_closeRight_31 ?_
        obtain ⟨hv2, hq⟩ := hq
        refine va_lald hx hb hK hP 1 1 rfl rfl hv2 dX0_closeRight_32 ?_
        refine lv_lstore (lv' := [(4, .long (f_album_ways (((l1 * (243 : Int32)) + l3)).toNatClampNeg)), (0, .ref h_album), (1, .int l1), (2, .int l2), (3, .int l3)]) hx hb dX0_closeRight_33 hl (by decide) rfl (fun ls hl => ?_)
        refine lv_aload_n hx hb dX0_closeRight_35 rfl (lv_at hl 1 rfl) ?_
        refine va_get (D := (dC, dI)) (ci := 0) (v := .ref h_rows) (C := RX0) (T := TX0) (N := 7) hx hb hts hinX0 hown hK hP 0 rfl rfl 0 (by decide) hf36 (fun _ h9 => h9) rfl dX0_closeRight_36 ?_
        refine lv_iload_n hx hb dX0_closeRight_39 rfl (lv_at hl 4 rfl) ?_
        refine lv_aload_n hx hb dX0_closeRight_40 rfl (lv_at hl 1 rfl) ?_
        refine va_get (D := (dC, dI)) (ci := 0) (v := .ref h_rows) (C := RX0) (T := TX0) (N := 7) hx hb hts hinX0 hown hK hP 0 rfl rfl 0 (by decide) hf36 (fun _ h9 => h9) rfl dX0_closeRight_41 ?_
        refine va_get (D := (dC, dI)) (ci := 2) (v := .int rows_w) (C := RX2) (T := TX2) (N := 6) hx hb hts hinX2 hown hK hP 3 rfl rfl 1 (by decide) hf72 (fun _ h9 => h9) rfl dX0_closeRight_44 ?_
        refine lv_iconst (v := (1 : Int32)) hx hb dX0_closeRight_47 (by decide) ?_
        refine lv_isub hx hb dX0_closeRight_48 ?_
        refine gx_cVi (C := RX2) (As := [.int l3, .int (rows_w - (1 : Int32))]) (rest := []) ⟨hx, hb, hml, hown, hts⟩ (c_X2_colour l dC dI cI cJ cZ h_rows h_rows_framed h_rows_power H.size rows_c rows_w rows_size rows_ring f_rows_framed l3 (rows_w - (1 : Int32)) hq) (cwV 2 hts gX0_closeRight_X2_colour rfl rfl rfl hdV_X2_colour ⟨Nat.le_of_ble_eq_true rfl, Nat.le_of_ble_eq_true rfl⟩) hK hP hD hS hA [3, 4] [0, 1, 2, 5, 6] rfl rfl rfl rfl rfl (ci := 2) (q0 := 0) rfl rfl rfl rfl hl.1 (Nat.le_of_ble_eq_true rfl) dX0_closeRight_49 rfl (fun r3 u H locs hq hP hD hS => ?_)
        try dsimp only at hq
        have hP : va_P (dC, dI) vwCl (W_X0_closeRight cI cJ cZ h_album h_album_ways h_album_front h_rows h_rows_framed h_rule h_rule_lower h_album_wishes h_album_at h_page h_rows_power f_album_ways f_album_front rows_c rows_w rows_size rows_ring f_rows_framed f_rule_lower) H := hP.sub [0, 1, 2, 5, 6, 3, 4] rfl
        have hD : va_D A (W_X0_closeRight cI cJ cZ h_album h_album_ways h_album_front h_rows h_rows_framed h_rule h_rule_lower h_album_wishes h_album_at h_page h_rows_power f_album_ways f_album_front rows_c rows_w rows_size rows_ring f_rows_framed f_rule_lower) := hD.sub [0, 1, 2, 5, 6, 3, 4] (by decide) rfl
        refine lv_istore (lv' := [(6, .int r3), (4, .long (f_album_ways (((l1 * (243 : Int32)) + l3)).toNatClampNeg)), (0, .ref h_album), (1, .int l1), (2, .int l2), (3, .int l3)]) hx hb dX0_closeRight_52 hl (by decide) rfl (fun ls hl => ?_)
        refine lv_iconst (v := (0 : Int32)) hx hb dX0_closeRight_54 (by decide) ?_
        refine lv_istore (lv' := [(7, .int (0 : Int32)), (6, .int r3), (4, .long (f_album_ways (((l1 * (243 : Int32)) + l3)).toNatClampNeg)), (0, .ref h_album), (1, .int l1), (2, .int l2), (3, .int l3)]) hx hb dX0_closeRight_55 hl (by decide) rfl (fun ls hl => ?_)
        exact (C57 _ _ _ ih) _ _ _ _ _ hq _ _ hP hD hS _ (lv_sub hl [3, 4, 5, 6, 2, 1, 0] rfl)
  have C10 : ∀ (l1 : Int32) (l2 : Int32) (l3 : Int32) (f_album_front : Nat → Int64), q_X0_closeRight_10 f_album_ways rows_c rows_w rows_size f_rows_framed f_rule_lower post l1 l2 l3 f_album_front → ∀ (H : Heap) (locs : List Loc), va_P (dC, dI) vwCl (W_X0_closeRight cI cJ cZ h_album h_album_ways h_album_front h_rows h_rows_framed h_rule h_rule_lower h_album_wishes h_album_at h_page h_rows_power f_album_ways f_album_front rows_c rows_w rows_size rows_ring f_rows_framed f_rule_lower) H → va_D A (W_X0_closeRight cI cJ cZ h_album h_album_ways h_album_front h_rows h_rows_framed h_rule h_rule_lower h_album_wishes h_album_at h_page h_rows_power f_album_ways f_album_front rows_c rows_w rows_size rows_ring f_rows_framed f_rule_lower) → va_S A s.heap H locs → ∀ ls : Array Slot, lv_has ls 9 [(0, .ref h_album), (1, .int l1), (2, .int l2), (3, .int l3)] → W p l e rm_X0_closeRight s m args below meth c H locs 0 0 QQ (F0 m 10 ls []) := by
    intro l1 l2 l3 f_album_front hq H locs hP hD hS ls hl
    obtain ⟨n, hq⟩ := hq
    exact L10 _ _ n _ _ hq H locs hP hD hS ls hl
  unfold q_X0_closeRight at hq
  refine lv_aload_n hx hb dX0_closeRight_0 rfl (lv_at hl 0 rfl) ?_
  refine va_get (D := (dC, dI)) (ci := 0) (v := .ref h_rows) (C := RX0) (T := TX0) (N := 7) hx hb hts hinX0 hown hK hP 0 rfl rfl 0 (by decide) hf36 (fun _ h9 => h9) rfl dX0_closeRight_1 ?_
  refine va_get (D := (dC, dI)) (ci := 2) (v := .int rows_c) (C := RX2) (T := TX2) (N := 6) hx hb hts hinX2 hown hK hP 3 rfl rfl 0 (by decide) hf95 (fun _ h9 => h9) rfl dX0_closeRight_4 ?_
  refine lv_istore_n (lv' := [(2, .int rows_c), (0, .ref h_album), (1, .int l1)]) hx hb dX0_closeRight_7 rfl hl (by decide) rfl (fun ls hl => ?_)
  refine lv_iconst (v := (0 : Int32)) hx hb dX0_closeRight_8 (by decide) ?_
  refine lv_istore_n (lv' := [(3, .int (0 : Int32)), (2, .int rows_c), (0, .ref h_album), (1, .int l1)]) hx hb dX0_closeRight_9 rfl hl (by decide) rfl (fun ls hl => ?_)
  exact C10 _ _ _ _ hq _ _ hP hD hS _ (lv_sub hl [2, 3, 1, 0] rfl)

abbrev W_X0_sum (cI cJ cZ : ClassId)  : va_W := []
abbrev rm_X0_sum : Room := { frames := 0, cells := 0, slots := 0, locals := 0 }
def q_X0_sum_26 (post : Int64 → Prop) (l0 : Int32) (l5 : Int64) (t0 : Int64) (t1 : Int64) : Prop := (((l0 &&& (4 : Int32)) = 0 → (post ((t1 + t0) + (0 : Int64)))) ∧ (¬ (l0 &&& (4 : Int32)) = 0 → (post ((t1 + t0) + l5))))
def q_X0_sum_11 (post : Int64 → Prop) (l0 : Int32) (l3 : Int64) (l5 : Int64) (t0 : Int64) : Prop := (((l0 &&& (2 : Int32)) = 0 → ((q_X0_sum_26 post) l0 l5 (0 : Int64) t0)) ∧ (¬ (l0 &&& (2 : Int32)) = 0 → ((q_X0_sum_26 post) l0 l5 l3 t0)))
def q_X0_sum (l0 : Int32) (l1 : Int64) (l3 : Int64) (l5 : Int64) (post : Int64 → Prop) : Prop := (((l0 &&& (1 : Int32)) = 0 → ((q_X0_sum_11 post) l0 l3 l5 (0 : Int64))) ∧ (¬ (l0 &&& (1 : Int32)) = 0 → ((q_X0_sum_11 post) l0 l3 l5 l1)))
theorem hdS_X0_sum : yX0_sum.cls ≠ "java/lang/invoke/MethodHandle" ∧ yX0_sum.cls ≠ "java/lang/invoke/VarHandle" ∧ (parseMethodDescriptor yX0_sum.desc).map (fun d => d.parameters.length) = some 4 := by decide +kernel
set_option maxHeartbeats 4000000 in
set_option maxRecDepth 100000 in
theorem c_X0_sum (l : Launch) (dC : Nat → ClassId) (dI : Nat → Nat → Nat) (cI cJ cZ : ClassId) (sz : Nat)  (l0 : Int32) (l1 : Int64) (l3 : Int64) (l5 : Int64) {post : Int64 → Prop} (hq : q_X0_sum l0 l1 l3 l5 post) : Met l yX0_sum wsX0_sum rm_X0_sum (va_Pc [.int l0, .long l1, .long l3, .long l5] (gx_Pre (dC, dI) vwCl (gx_tys cI cJ cZ) sz (W_X0_sum cI cJ cZ))) (va_Ql (fun (r : Int64) (u : Unit) => post r) (gx_B (dC, dI) vwCl (gx_tys cI cJ cZ) (va_A (W_X0_sum cI cJ cZ) sz) (fun (u : Unit) => (W_X0_sum cI cJ cZ))) (va_A (W_X0_sum cI cJ cZ) sz)) 0 0 (va_A (W_X0_sum cI cJ cZ) sz) := by
  refine gx_l (cc := cX0_sum) (maxL := 9) (by decide) rfl (Nat.le_of_ble_eq_true rfl) ?_
  intro p e s m args below meth c A QQ hx hb hml hown hts hA hP hK hD hret ls hl
  have hown : s.vm.findClass RX0 = some m.cls := hown
  have hS : va_S A s.heap s.heap [] := va_S.rf
  have hl : lv_has ls 9 [(0, .int l0), (1, .long l1), (3, .long l3), (5, .long l5)] := hl
  have C26 : ∀ (l0 : Int32) (l5 : Int64) (t0 : Int64) (t1 : Int64), q_X0_sum_26 post l0 l5 t0 t1 → ∀ (H : Heap) (locs : List Loc), va_P (dC, dI) vwCl (W_X0_sum cI cJ cZ) H → va_D A (W_X0_sum cI cJ cZ) → va_S A s.heap H locs → ∀ ls : Array Slot, lv_has ls 9 [(0, .int l0), (5, .long l5)] → W p l e rm_X0_sum s m args below meth c H locs 0 0 QQ (F0 m 26 ls [.long t0, .long t1]) := by
    intro l0 l5 t0 t1 hq H locs hP hD hS ls hl
    unfold q_X0_sum_26 at hq
    refine lv_ladd hx hb dX0_sum_26 ?_
    refine lv_lstore (lv' := [(7, .long (t1 + t0)), (0, .int l0), (5, .long l5)]) hx hb dX0_sum_27 hl (by decide) rfl (fun ls hl => ?_)
    refine lv_lload hx hb dX0_sum_29 (lv_at hl 0 rfl) ?_
    refine lv_iload_n hx hb dX0_sum_31 rfl (lv_at hl 1 rfl) ?_
    refine lv_iconst (v := (4 : Int32)) hx hb dX0_sum_32 (by decide) ?_
    refine lv_iand hx hb dX0_sum_33 ?_
    refine lv_if_eq (tgt := 42) hx hb dX0_sum_34 (by decide) (fun c3 => ?_) (fun c3 => ?_)
    · replace hq := hq.1 c3
      refine lv_lconst (v := (0 : Int64)) hx hb dX0_sum_42 (by decide) ?_
      refine lv_ladd hx hb dX0_sum_43 ?_
      exact hret ((t1 + t0) + (0 : Int64)) () hq _ _ hP hD hS _ _ dX0_sum_44
    · replace hq := hq.2 c3
      refine lv_lload hx hb dX0_sum_37 (lv_at hl 2 rfl) ?_
      refine lv_goto (tgt := 43) hx hb dX0_sum_39 (by decide) ?_
      refine lv_ladd hx hb dX0_sum_43 ?_
      exact hret ((t1 + t0) + l5) () hq _ _ hP hD hS _ _ dX0_sum_44
  have C11 : ∀ (l0 : Int32) (l3 : Int64) (l5 : Int64) (t0 : Int64), q_X0_sum_11 post l0 l3 l5 t0 → ∀ (H : Heap) (locs : List Loc), va_P (dC, dI) vwCl (W_X0_sum cI cJ cZ) H → va_D A (W_X0_sum cI cJ cZ) → va_S A s.heap H locs → ∀ ls : Array Slot, lv_has ls 9 [(0, .int l0), (3, .long l3), (5, .long l5)] → W p l e rm_X0_sum s m args below meth c H locs 0 0 QQ (F0 m 11 ls [.long t0]) := by
    intro l0 l3 l5 t0 hq H locs hP hD hS ls hl
    unfold q_X0_sum_11 at hq
    refine lv_lstore (lv' := [(7, .long t0), (0, .int l0), (3, .long l3), (5, .long l5)]) hx hb dX0_sum_11 hl (by decide) rfl (fun ls hl => ?_)
    refine lv_lload hx hb dX0_sum_13 (lv_at hl 0 rfl) ?_
    refine lv_iload_n hx hb dX0_sum_15 rfl (lv_at hl 1 rfl) ?_
    refine lv_iconst (v := (2 : Int32)) hx hb dX0_sum_16 (by decide) ?_
    refine lv_iand hx hb dX0_sum_17 ?_
    refine lv_if_eq (tgt := 25) hx hb dX0_sum_18 (by decide) (fun c2 => ?_) (fun c2 => ?_)
    · replace hq := hq.1 c2
      refine lv_lconst (v := (0 : Int64)) hx hb dX0_sum_25 (by decide) ?_
      exact C26 _ _ _ _ hq _ _ hP hD hS _ (lv_sub hl [1, 3] rfl)
    · replace hq := hq.2 c2
      refine lv_lload_n hx hb dX0_sum_21 rfl (lv_at hl 2 rfl) ?_
      refine lv_goto (tgt := 26) hx hb dX0_sum_22 (by decide) ?_
      exact C26 _ _ _ _ hq _ _ hP hD hS _ (lv_sub hl [1, 3] rfl)
  unfold q_X0_sum at hq
  refine lv_iload_n hx hb dX0_sum_0 rfl (lv_at hl 0 rfl) ?_
  refine lv_iconst (v := (1 : Int32)) hx hb dX0_sum_1 (by decide) ?_
  refine lv_iand hx hb dX0_sum_2 ?_
  refine lv_if_eq (tgt := 10) hx hb dX0_sum_3 (by decide) (fun c1 => ?_) (fun c1 => ?_)
  · replace hq := hq.1 c1
    refine lv_lconst (v := (0 : Int64)) hx hb dX0_sum_10 (by decide) ?_
    exact C11 _ _ _ _ hq _ _ hP hD hS _ (lv_sub hl [0, 2, 3] rfl)
  · replace hq := hq.2 c1
    refine lv_lload_n hx hb dX0_sum_6 rfl (lv_at hl 1 rfl) ?_
    refine lv_goto (tgt := 11) hx hb dX0_sum_7 (by decide) ?_
    exact C11 _ _ _ _ hq _ _ hP hD hS _ (lv_sub hl [0, 2, 3] rfl)

abbrev W_X0_mix (cI cJ cZ : ClassId) (h_album h_album_front h_rows h_rule h_album_wishes h_album_ways h_album_at h_page h_rows_framed h_rows_power : Nat) (f_album_front : Nat → Int64) (rows_c : Int32) (rows_w : Int32) (rows_size : Int32) (rows_ring : Int32) : va_W := [(h_album, .inr (0, [.ref h_rows, .ref h_rule, .ref h_album_wishes, .ref h_album_ways, .ref h_album_front, .ref h_album_at, .ref h_page])), (h_album_front, .inl (cJ, 729, .inr (.inl f_album_front))), (h_rows, .inr (2, [.int rows_c, .int rows_w, .int rows_size, .int rows_ring, .ref h_rows_framed, .ref h_rows_power]))]
abbrev rm_X0_mix : Room := { frames := 1, cells := 0, slots := 0, locals := 28 }
def q_X0_mix_55 (rows_c : Int32) (post : (Nat → Int64) → Prop) (l1 : Int32) (l2 : Int32) (l3 : Int32) (l4 : Int32) (l5 : Int32) (l6 : Int32) (l7 : Int64) (l9 : Int64) (t0 : Int64) (f_album_front : Nat → Int64) : Prop := ((¬ ((l7 ||| l9) ||| t0) = (0 : Int64) → (q_X0_sum l3 l7 l9 t0 (fun (r6 : Int64) => (vp_in l1 729 ∧ (q_X0_sum l4 l7 l9 t0 (fun (r8 : Int64) => (vp_in (l1 + l2) 729 ∧ ((l6 = 0 → (post (vp_updL (vp_updL f_album_front (l1).toNatClampNeg r6) ((l1 + l2)).toNatClampNeg r8))) ∧ (¬ l6 = 0 → (q_X0_sum l5 l7 l9 t0 (fun (r11 : Int64) => (vp_in (l1 + ((2 : Int32) * l2)) 729 ∧ (post (vp_updL (vp_updL (vp_updL f_album_front (l1).toNatClampNeg r6) ((l1 + l2)).toNatClampNeg r8) ((l1 + ((2 : Int32) * l2))).toNatClampNeg r11)))))))))))))) ∧ (((l7 ||| l9) ||| t0) = (0 : Int64) → (post f_album_front)))
def q_X0_mix_16 (rows_c : Int32) (post : (Nat → Int64) → Prop) (l1 : Int32) (l2 : Int32) (l3 : Int32) (l4 : Int32) (l5 : Int32) (t0 : Int32) (f_album_front : Nat → Int64) : Prop := (vp_in l1 729 ∧ (vp_in (l1 + l2) 729 ∧ ((t0 = 0 → ((q_X0_mix_55 rows_c post) l1 l2 l3 l4 l5 t0 (f_album_front (l1).toNatClampNeg) (f_album_front ((l1 + l2)).toNatClampNeg) (0 : Int64) f_album_front)) ∧ (¬ t0 = 0 → (vp_in (l1 + ((2 : Int32) * l2)) 729 ∧ ((q_X0_mix_55 rows_c post) l1 l2 l3 l4 l5 t0 (f_album_front (l1).toNatClampNeg) (f_album_front ((l1 + l2)).toNatClampNeg) (f_album_front ((l1 + ((2 : Int32) * l2))).toNatClampNeg) f_album_front))))))
def q_X0_mix (rows_c : Int32) (f_album_front : Nat → Int64) (l1 : Int32) (l2 : Int32) (l3 : Int32) (l4 : Int32) (l5 : Int32) (post : (Nat → Int64) → Prop) : Prop := ((¬ rows_c = (3 : Int32) → ((q_X0_mix_16 rows_c post) l1 l2 l3 l4 l5 (0 : Int32) f_album_front)) ∧ (rows_c = (3 : Int32) → ((q_X0_mix_16 rows_c post) l1 l2 l3 l4 l5 (1 : Int32) f_album_front)))
theorem hdV_X0_mix : yX0_mix.cls = RX0 ∧ yX0_mix.cls ≠ "java/lang/invoke/MethodHandle" ∧ yX0_mix.cls ≠ "java/lang/invoke/VarHandle" ∧ (parseMethodDescriptor yX0_mix.desc).map (fun d => d.parameters.length) = some 5 := by decide +kernel
set_option maxHeartbeats 4000000 in
set_option maxRecDepth 100000 in
theorem c_X0_mix (l : Launch) (dC : Nat → ClassId) (dI : Nat → Nat → Nat) (cI cJ cZ : ClassId) (h_album h_album_front h_rows h_rule h_album_wishes h_album_ways h_album_at h_page h_rows_framed h_rows_power : Nat) (sz : Nat) (f_album_front : Nat → Int64) (rows_c : Int32) (rows_w : Int32) (rows_size : Int32) (rows_ring : Int32) (l1 : Int32) (l2 : Int32) (l3 : Int32) (l4 : Int32) (l5 : Int32) {post : (Nat → Int64) → Prop} (hq : q_X0_mix rows_c f_album_front l1 l2 l3 l4 l5 post) : Met l yX0_mix wsX0_mix rm_X0_mix (va_Pc [.ref h_album, .int l1, .int l2, .int l3, .int l4, .int l5] (gx_Pre (dC, dI) vwCl (gx_tys cI cJ cZ) sz (W_X0_mix cI cJ cZ h_album h_album_front h_rows h_rule h_album_wishes h_album_ways h_album_at h_page h_rows_framed h_rows_power f_album_front rows_c rows_w rows_size rows_ring))) (va_Qv (fun (u : (Nat → Int64)) => post u) (gx_B (dC, dI) vwCl (gx_tys cI cJ cZ) (va_A (W_X0_mix cI cJ cZ h_album h_album_front h_rows h_rule h_album_wishes h_album_ways h_album_at h_page h_rows_framed h_rows_power f_album_front rows_c rows_w rows_size rows_ring) sz) (fun (u : (Nat → Int64)) => (W_X0_mix cI cJ cZ h_album h_album_front h_rows h_rule h_album_wishes h_album_ways h_album_at h_page h_rows_framed h_rows_power u rows_c rows_w rows_size rows_ring))) (va_A (W_X0_mix cI cJ cZ h_album h_album_front h_rows h_rule h_album_wishes h_album_ways h_album_at h_page h_rows_framed h_rows_power f_album_front rows_c rows_w rows_size rows_ring) sz)) 0 0 (va_A (W_X0_mix cI cJ cZ h_album h_album_front h_rows h_rule h_album_wishes h_album_ways h_album_at h_page h_rows_framed h_rows_power f_album_front rows_c rows_w rows_size rows_ring) sz) := by
  refine gx_v (cc := cX0_mix) (maxL := 13) (by decide) rfl (Nat.le_of_ble_eq_true rfl) ?_
  intro p e s m args below meth c A QQ hx hb hml hown hts hA hP hK hD hret ls hl
  have hown : s.vm.findClass RX0 = some m.cls := hown
  have hf36 := hts (.fieldLink RX0 36 "SmallWindows$Album" "rows" "LSmallWindows$Rows;") (by decide +kernel)
  have hf95 := hts (.fieldLink RX0 95 "SmallWindows$Rows" "c" "I") (by decide +kernel)
  have hf19 := hts (.fieldLink RX0 19 "SmallWindows$Album" "front" "[J") (by decide +kernel)
  have hinX0 : ∀ w ∈ u_ws RX0 TX0 7, w ∈ wsX0_mix := fun w h => List.mem_cons_of_mem _ ((List.mem_append_left _ (List.mem_append_right _ h)))
  have hinX2 : ∀ w ∈ u_ws RX2 TX2 6, w ∈ wsX0_mix := fun w h => List.mem_cons_of_mem _ ((List.mem_append_right _ h))
  have hS : va_S A s.heap s.heap [] := va_S.rf
  have hl : lv_has ls 13 [(0, .ref h_album), (1, .int l1), (2, .int l2), (3, .int l3), (4, .int l4), (5, .int l5)] := hl
  have C55 : ∀ (l1 : Int32) (l2 : Int32) (l3 : Int32) (l4 : Int32) (l5 : Int32) (l6 : Int32) (l7 : Int64) (l9 : Int64) (t0 : Int64) (f_album_front : Nat → Int64), q_X0_mix_55 rows_c post l1 l2 l3 l4 l5 l6 l7 l9 t0 f_album_front → ∀ (H : Heap) (locs : List Loc), va_P (dC, dI) vwCl (W_X0_mix cI cJ cZ h_album h_album_front h_rows h_rule h_album_wishes h_album_ways h_album_at h_page h_rows_framed h_rows_power f_album_front rows_c rows_w rows_size rows_ring) H → va_D A (W_X0_mix cI cJ cZ h_album h_album_front h_rows h_rule h_album_wishes h_album_ways h_album_at h_page h_rows_framed h_rows_power f_album_front rows_c rows_w rows_size rows_ring) → va_S A s.heap H locs → ∀ ls : Array Slot, lv_has ls 13 [(0, .ref h_album), (1, .int l1), (2, .int l2), (3, .int l3), (4, .int l4), (5, .int l5), (6, .int l6), (7, .long l7), (9, .long l9)] → W p l e rm_X0_mix s m args below meth c H locs 0 0 QQ (F0 m 55 ls [.long t0]) := by
    intro l1 l2 l3 l4 l5 l6 l7 l9 t0 f_album_front hq H locs hP hD hS ls hl
    unfold q_X0_mix_55 at hq
    refine lv_lstore (lv' := [(11, .long t0), (0, .ref h_album), (1, .int l1), (2, .int l2), (3, .int l3), (4, .int l4), (5, .int l5), (6, .int l6), (7, .long l7), (9, .long l9)]) hx hb dX0_mix_55 hl (by decide) rfl (fun ls hl => ?_)
    refine lv_lload hx hb dX0_mix_57 (lv_at hl 8 rfl) ?_
    refine lv_lload hx hb dX0_mix_59 (lv_at hl 9 rfl) ?_
    refine lv_lor hx hb dX0_mix_61 ?_
    refine lv_lload hx hb dX0_mix_62 (lv_at hl 0 rfl) ?_
    refine lv_lor hx hb dX0_mix_64 ?_
    refine lv_lconst (v := (0 : Int64)) hx hb dX0_mix_65 (by decide) ?_
    refine W.lcmp hx hb dX0_mix_66 ?_
    refine lv_if_ne (tgt := 71) hx hb dX0_mix_67 (by decide) (fun c5 => ?_) (fun c5 => ?_)
    · replace hq := hq.1 (fun h => c5 ((lg_cmp_eq _ _).mpr h))
      refine lv_aload_n hx hb dX0_mix_71 rfl (lv_at hl 1 rfl) ?_
      refine va_get (D := (dC, dI)) (ci := 0) (v := .ref h_album_front) (C := RX0) (T := TX0) (N := 7) hx hb hts hinX0 hown hK hP 0 rfl rfl 4 (by decide) hf19 (fun _ h9 => h9) rfl dX0_mix_72 ?_
      refine lv_iload_n hx hb dX0_mix_75 rfl (lv_at hl 2 rfl) ?_
      refine lv_iload_n hx hb dX0_mix_76 rfl (lv_at hl 4 rfl) ?_
      refine lv_lload hx hb dX0_mix_77 (lv_at hl 8 rfl) ?_
      refine lv_lload hx hb dX0_mix_79 (lv_at hl 9 rfl) ?_
      refine lv_lload hx hb dX0_mix_81 (lv_at hl 0 rfl) ?_
      refine gx_cSl (As := [.int l3, .long l7, .long l9, .long t0]) (rest := [.int l1, .ref h_album_front]) ⟨hx, hb, hml, hown, hts⟩ (c_X0_sum l dC dI cI cJ cZ H.size l3 l7 l9 t0 hq) (va_cwS 4 hts gX0_mix_X0_sum rfl rfl rfl hdS_X0_sum ⟨Nat.le_of_ble_eq_true rfl, Nat.le_of_ble_eq_true rfl⟩) hK hP hD hS hA [] [0, 1, 2] rfl rfl rfl rfl rfl rfl hl.1 (Nat.le_of_ble_eq_true rfl) dX0_mix_83 rfl (fun r6 u H locs hq hP hD hS => ?_)
      try dsimp only at hq
      have hP : va_P (dC, dI) vwCl (W_X0_mix cI cJ cZ h_album h_album_front h_rows h_rule h_album_wishes h_album_ways h_album_at h_page h_rows_framed h_rows_power f_album_front rows_c rows_w rows_size rows_ring) H := hP
      have hD : va_D A (W_X0_mix cI cJ cZ h_album h_album_front h_rows h_rule h_album_wishes h_album_ways h_album_at h_page h_rows_framed h_rows_power f_album_front rows_c rows_w rows_size rows_ring) := hD
      obtain ⟨hv7, hq⟩ := hq
      refine va_last hx hb hK hP hD hS 1 1 rfl rfl hv7 dX0_mix_86 (fun H locs hP hD hS => ?_)
      have hP : va_P (dC, dI) vwCl (W_X0_mix cI cJ cZ h_album h_album_front h_rows h_rule h_album_wishes h_album_ways h_album_at h_page h_rows_framed h_rows_power (vp_updL f_album_front (l1).toNatClampNeg r6) rows_c rows_w rows_size rows_ring) H := hP
      have hD : va_D A (W_X0_mix cI cJ cZ h_album h_album_front h_rows h_rule h_album_wishes h_album_ways h_album_at h_page h_rows_framed h_rows_power (vp_updL f_album_front (l1).toNatClampNeg r6) rows_c rows_w rows_size rows_ring) := hD
      refine lv_aload_n hx hb dX0_mix_87 rfl (lv_at hl 1 rfl) ?_
      refine va_get (D := (dC, dI)) (ci := 0) (v := .ref h_album_front) (C := RX0) (T := TX0) (N := 7) hx hb hts hinX0 hown hK hP 0 rfl rfl 4 (by decide) hf19 (fun _ h9 => h9) rfl dX0_mix_88 ?_
      refine lv_iload_n hx hb dX0_mix_91 rfl (lv_at hl 2 rfl) ?_
      refine lv_iload_n hx hb dX0_mix_92 rfl (lv_at hl 3 rfl) ?_
      refine lv_iadd hx hb dX0_mix_93 ?_
      refine lv_iload hx hb dX0_mix_94 (lv_at hl 5 rfl) ?_
      refine lv_lload hx hb dX0_mix_96 (lv_at hl 8 rfl) ?_
      refine lv_lload hx hb dX0_mix_98 (lv_at hl 9 rfl) ?_
      refine lv_lload hx hb dX0_mix_100 (lv_at hl 0 rfl) ?_
      refine gx_cSl (As := [.int l4, .long l7, .long l9, .long t0]) (rest := [.int (l1 + l2), .ref h_album_front]) ⟨hx, hb, hml, hown, hts⟩ (c_X0_sum l dC dI cI cJ cZ H.size l4 l7 l9 t0 hq) (va_cwS 4 hts gX0_mix_X0_sum rfl rfl rfl hdS_X0_sum ⟨Nat.le_of_ble_eq_true rfl, Nat.le_of_ble_eq_true rfl⟩) hK hP hD hS hA [] [0, 1, 2] rfl rfl rfl rfl rfl rfl hl.1 (Nat.le_of_ble_eq_true rfl) dX0_mix_102 rfl (fun r8 u H locs hq hP hD hS => ?_)
      try dsimp only at hq
      have hP : va_P (dC, dI) vwCl (W_X0_mix cI cJ cZ h_album h_album_front h_rows h_rule h_album_wishes h_album_ways h_album_at h_page h_rows_framed h_rows_power (vp_updL f_album_front (l1).toNatClampNeg r6) rows_c rows_w rows_size rows_ring) H := hP
      have hD : va_D A (W_X0_mix cI cJ cZ h_album h_album_front h_rows h_rule h_album_wishes h_album_ways h_album_at h_page h_rows_framed h_rows_power (vp_updL f_album_front (l1).toNatClampNeg r6) rows_c rows_w rows_size rows_ring) := hD
      obtain ⟨hv9, hq⟩ := hq
      refine va_last hx hb hK hP hD hS 1 1 rfl rfl hv9 dX0_mix_105 (fun H locs hP hD hS => ?_)
      have hP : va_P (dC, dI) vwCl (W_X0_mix cI cJ cZ h_album h_album_front h_rows h_rule h_album_wishes h_album_ways h_album_at h_page h_rows_framed h_rows_power (vp_updL (vp_updL f_album_front (l1).toNatClampNeg r6) ((l1 + l2)).toNatClampNeg r8) rows_c rows_w rows_size rows_ring) H := hP
      have hD : va_D A (W_X0_mix cI cJ cZ h_album h_album_front h_rows h_rule h_album_wishes h_album_ways h_album_at h_page h_rows_framed h_rows_power (vp_updL (vp_updL f_album_front (l1).toNatClampNeg r6) ((l1 + l2)).toNatClampNeg r8) rows_c rows_w rows_size rows_ring) := hD
      refine lv_iload hx hb dX0_mix_106 (lv_at hl 7 rfl) ?_
      refine lv_if_eq (tgt := 132) hx hb dX0_mix_108 (by decide) (fun c10 => ?_) (fun c10 => ?_)
      · replace hq := hq.1 c10
        exact hret (vp_updL (vp_updL f_album_front (l1).toNatClampNeg r6) ((l1 + l2)).toNatClampNeg r8) hq _ _ hP hD hS _ _ dX0_mix_132
      · replace hq := hq.2 c10
        refine lv_aload_n hx hb dX0_mix_111 rfl (lv_at hl 1 rfl) ?_
        refine va_get (D := (dC, dI)) (ci := 0) (v := .ref h_album_front) (C := RX0) (T := TX0) (N := 7) hx hb hts hinX0 hown hK hP 0 rfl rfl 4 (by decide) hf19 (fun _ h9 => h9) rfl dX0_mix_112 ?_
        refine lv_iload_n hx hb dX0_mix_115 rfl (lv_at hl 2 rfl) ?_
        refine lv_iconst (v := (2 : Int32)) hx hb dX0_mix_116 (by decide) ?_
        refine lv_iload_n hx hb dX0_mix_117 rfl (lv_at hl 3 rfl) ?_
        refine lv_imul hx hb dX0_mix_118 ?_
        refine lv_iadd hx hb dX0_mix_119 ?_
        refine lv_iload hx hb dX0_mix_120 (lv_at hl 6 rfl) ?_
        refine lv_lload hx hb dX0_mix_122 (lv_at hl 8 rfl) ?_
        refine lv_lload hx hb dX0_mix_124 (lv_at hl 9 rfl) ?_
        refine lv_lload hx hb dX0_mix_126 (lv_at hl 0 rfl) ?_
        refine gx_cSl (As := [.int l5, .long l7, .long l9, .long t0]) (rest := [.int (l1 + ((2 : Int32) * l2)), .ref h_album_front]) ⟨hx, hb, hml, hown, hts⟩ (c_X0_sum l dC dI cI cJ cZ H.size l5 l7 l9 t0 hq) (va_cwS 4 hts gX0_mix_X0_sum rfl rfl rfl hdS_X0_sum ⟨Nat.le_of_ble_eq_true rfl, Nat.le_of_ble_eq_true rfl⟩) hK hP hD hS hA [] [0, 1, 2] rfl rfl rfl rfl rfl rfl hl.1 (Nat.le_of_ble_eq_true rfl) dX0_mix_128 rfl (fun r11 u H locs hq hP hD hS => ?_)
        try dsimp only at hq
        have hP : va_P (dC, dI) vwCl (W_X0_mix cI cJ cZ h_album h_album_front h_rows h_rule h_album_wishes h_album_ways h_album_at h_page h_rows_framed h_rows_power (vp_updL (vp_updL f_album_front (l1).toNatClampNeg r6) ((l1 + l2)).toNatClampNeg r8) rows_c rows_w rows_size rows_ring) H := hP
        have hD : va_D A (W_X0_mix cI cJ cZ h_album h_album_front h_rows h_rule h_album_wishes h_album_ways h_album_at h_page h_rows_framed h_rows_power (vp_updL (vp_updL f_album_front (l1).toNatClampNeg r6) ((l1 + l2)).toNatClampNeg r8) rows_c rows_w rows_size rows_ring) := hD
        obtain ⟨hv12, hq⟩ := hq
        refine va_last hx hb hK hP hD hS 1 1 rfl rfl hv12 dX0_mix_131 (fun H locs hP hD hS => ?_)
        have hP : va_P (dC, dI) vwCl (W_X0_mix cI cJ cZ h_album h_album_front h_rows h_rule h_album_wishes h_album_ways h_album_at h_page h_rows_framed h_rows_power (vp_updL (vp_updL (vp_updL f_album_front (l1).toNatClampNeg r6) ((l1 + l2)).toNatClampNeg r8) ((l1 + ((2 : Int32) * l2))).toNatClampNeg r11) rows_c rows_w rows_size rows_ring) H := hP
        have hD : va_D A (W_X0_mix cI cJ cZ h_album h_album_front h_rows h_rule h_album_wishes h_album_ways h_album_at h_page h_rows_framed h_rows_power (vp_updL (vp_updL (vp_updL f_album_front (l1).toNatClampNeg r6) ((l1 + l2)).toNatClampNeg r8) ((l1 + ((2 : Int32) * l2))).toNatClampNeg r11) rows_c rows_w rows_size rows_ring) := hD
        exact hret (vp_updL (vp_updL (vp_updL f_album_front (l1).toNatClampNeg r6) ((l1 + l2)).toNatClampNeg r8) ((l1 + ((2 : Int32) * l2))).toNatClampNeg r11) hq _ _ hP hD hS _ _ dX0_mix_132
    · replace hq := hq.2 ((lg_cmp_eq _ _).mp c5)
      exact hret f_album_front hq _ _ hP hD hS _ _ dX0_mix_70
  have C16 : ∀ (l1 : Int32) (l2 : Int32) (l3 : Int32) (l4 : Int32) (l5 : Int32) (t0 : Int32) (f_album_front : Nat → Int64), q_X0_mix_16 rows_c post l1 l2 l3 l4 l5 t0 f_album_front → ∀ (H : Heap) (locs : List Loc), va_P (dC, dI) vwCl (W_X0_mix cI cJ cZ h_album h_album_front h_rows h_rule h_album_wishes h_album_ways h_album_at h_page h_rows_framed h_rows_power f_album_front rows_c rows_w rows_size rows_ring) H → va_D A (W_X0_mix cI cJ cZ h_album h_album_front h_rows h_rule h_album_wishes h_album_ways h_album_at h_page h_rows_framed h_rows_power f_album_front rows_c rows_w rows_size rows_ring) → va_S A s.heap H locs → ∀ ls : Array Slot, lv_has ls 13 [(0, .ref h_album), (1, .int l1), (2, .int l2), (3, .int l3), (4, .int l4), (5, .int l5)] → W p l e rm_X0_mix s m args below meth c H locs 0 0 QQ (F0 m 16 ls [.int t0]) := by
    intro l1 l2 l3 l4 l5 t0 f_album_front hq H locs hP hD hS ls hl
    unfold q_X0_mix_16 at hq
    refine lv_istore (lv' := [(6, .int t0), (0, .ref h_album), (1, .int l1), (2, .int l2), (3, .int l3), (4, .int l4), (5, .int l5)]) hx hb dX0_mix_16 hl (by decide) rfl (fun ls hl => ?_)
    refine lv_aload_n hx hb dX0_mix_18 rfl (lv_at hl 1 rfl) ?_
    refine va_get (D := (dC, dI)) (ci := 0) (v := .ref h_album_front) (C := RX0) (T := TX0) (N := 7) hx hb hts hinX0 hown hK hP 0 rfl rfl 4 (by decide) hf19 (fun _ h9 => h9) rfl dX0_mix_19 ?_
    refine lv_iload_n hx hb dX0_mix_22 rfl (lv_at hl 2 rfl) ?_
    obtain ⟨hv2, hq⟩ := hq
    refine va_lald hx hb hK hP 1 1 rfl rfl hv2 dX0_mix_23 ?_
    refine lv_lstore (lv' := [(7, .long (f_album_front (l1).toNatClampNeg)), (6, .int t0), (0, .ref h_album), (1, .int l1), (2, .int l2), (3, .int l3), (4, .int l4), (5, .int l5)]) hx hb dX0_mix_24 hl (by decide) rfl (fun ls hl => ?_)
    refine lv_aload_n hx hb dX0_mix_26 rfl (lv_at hl 2 rfl) ?_
    refine va_get (D := (dC, dI)) (ci := 0) (v := .ref h_album_front) (C := RX0) (T := TX0) (N := 7) hx hb hts hinX0 hown hK hP 0 rfl rfl 4 (by decide) hf19 (fun _ h9 => h9) rfl dX0_mix_27 ?_
    refine lv_iload_n hx hb dX0_mix_30 rfl (lv_at hl 3 rfl) ?_
    refine lv_iload_n hx hb dX0_mix_31 rfl (lv_at hl 4 rfl) ?_
    refine lv_iadd hx hb dX0_mix_32 ?_
    obtain ⟨hv3, hq⟩ := hq
    refine va_lald hx hb hK hP 1 1 rfl rfl hv3 dX0_mix_33 ?_
    refine lv_lstore (lv' := [(9, .long (f_album_front ((l1 + l2)).toNatClampNeg)), (7, .long (f_album_front (l1).toNatClampNeg)), (6, .int t0), (0, .ref h_album), (1, .int l1), (2, .int l2), (3, .int l3), (4, .int l4), (5, .int l5)]) hx hb dX0_mix_34 hl (by decide) rfl (fun ls hl => ?_)
    refine lv_iload hx hb dX0_mix_36 (lv_at hl 2 rfl) ?_
    refine lv_if_eq (tgt := 54) hx hb dX0_mix_38 (by decide) (fun c4 => ?_) (fun c4 => ?_)
    · replace hq := hq.1 c4
      refine lv_lconst (v := (0 : Int64)) hx hb dX0_mix_54 (by decide) ?_
      exact C55 _ _ _ _ _ _ _ _ _ _ hq _ _ hP hD hS _ (lv_sub hl [3, 4, 5, 6, 7, 8, 2, 1, 0] rfl)
    · replace hq := hq.2 c4
      refine lv_aload_n hx hb dX0_mix_41 rfl (lv_at hl 3 rfl) ?_
      refine va_get (D := (dC, dI)) (ci := 0) (v := .ref h_album_front) (C := RX0) (T := TX0) (N := 7) hx hb hts hinX0 hown hK hP 0 rfl rfl 4 (by decide) hf19 (fun _ h9 => h9) rfl dX0_mix_42 ?_
      refine lv_iload_n hx hb dX0_mix_45 rfl (lv_at hl 4 rfl) ?_
      refine lv_iconst (v := (2 : Int32)) hx hb dX0_mix_46 (by decide) ?_
      refine lv_iload_n hx hb dX0_mix_47 rfl (lv_at hl 5 rfl) ?_
      refine lv_imul hx hb dX0_mix_48 ?_
      refine lv_iadd hx hb dX0_mix_49 ?_
      obtain ⟨hv13, hq⟩ := hq
      refine va_lald hx hb hK hP 1 1 rfl rfl hv13 dX0_mix_50 ?_
      refine lv_goto (tgt := 55) hx hb dX0_mix_51 (by decide) ?_
      exact C55 _ _ _ _ _ _ _ _ _ _ hq _ _ hP hD hS _ (lv_sub hl [3, 4, 5, 6, 7, 8, 2, 1, 0] rfl)
  unfold q_X0_mix at hq
  refine lv_aload_n hx hb dX0_mix_0 rfl (lv_at hl 0 rfl) ?_
  refine va_get (D := (dC, dI)) (ci := 0) (v := .ref h_rows) (C := RX0) (T := TX0) (N := 7) hx hb hts hinX0 hown hK hP 0 rfl rfl 0 (by decide) hf36 (fun _ h9 => h9) rfl dX0_mix_1 ?_
  refine va_get (D := (dC, dI)) (ci := 2) (v := .int rows_c) (C := RX2) (T := TX2) (N := 6) hx hb hts hinX2 hown hK hP 2 rfl rfl 0 (by decide) hf95 (fun _ h9 => h9) rfl dX0_mix_4 ?_
  refine lv_iconst (v := (3 : Int32)) hx hb dX0_mix_7 (by decide) ?_
  refine lv_icmp_ne (tgt := 15) hx hb dX0_mix_8 (by decide) (fun c1 => ?_) (fun c1 => ?_)
  · replace hq := hq.1 c1
    refine lv_iconst (v := (0 : Int32)) hx hb dX0_mix_15 (by decide) ?_
    exact C16 _ _ _ _ _ _ _ hq _ _ hP hD hS _ (lv_sub hl [0, 1, 2, 3, 4, 5] rfl)
  · replace hq := hq.2 c1
    refine lv_iconst (v := (1 : Int32)) hx hb dX0_mix_11 (by decide) ?_
    refine lv_goto (tgt := 16) hx hb dX0_mix_12 (by decide) ?_
    exact C16 _ _ _ _ _ _ _ hq _ _ hP hD hS _ (lv_sub hl [0, 1, 2, 3, 4, 5] rfl)

abbrev W_X0_moveLeft (cI cJ cZ : ClassId) (h_album h_album_front h_rows h_rows_power h_rule h_rule_lower h_album_wishes h_album_ways h_album_at h_page h_rows_framed : Nat) (f_album_front : Nat → Int64) (rows_c : Int32) (rows_w : Int32) (rows_size : Int32) (rows_ring : Int32) (f_rows_power : Nat → Int32) (f_rule_lower : Nat → Int32) : va_W := [(h_album, .inr (0, [.ref h_rows, .ref h_rule, .ref h_album_wishes, .ref h_album_ways, .ref h_album_front, .ref h_album_at, .ref h_page])), (h_album_front, .inl (cJ, 729, .inr (.inl f_album_front))), (h_rows, .inr (2, [.int rows_c, .int rows_w, .int rows_size, .int rows_ring, .ref h_rows_framed, .ref h_rows_power])), (h_rows_power, .inl (cI, 7, .inl f_rows_power)), (h_rule, .inr (3, [.ref h_rule_lower])), (h_rule_lower, .inl (cI, 16, .inl f_rule_lower))]
abbrev rm_X0_moveLeft : Room := { frames := 2, cells := 0, slots := 0, locals := 60 }
def r_X0_moveLeft_150 (rows_c : Int32) (rows_w : Int32) (f_rows_power : Nat → Int32) (f_rule_lower : Nat → Int32) (l1 : Int32) (l2 : Int32) (l3 : Int32) (l4 : Int32) (l5 : Int32) (l6 : Int32) (l7 : Int32) (l8 : Int32) (l9 : Int32) (l10 : Int32) (l11 : Int32) (post : (Nat → Int64) → Prop) (K185 : (Int32) → (Nat → Int64) → Prop) (l12 : Int32) : Nat → (Int32) → (Nat → Int64) → Prop
  | 0, _, _ => False
  | n + 1, l13, f_album_front => ((l4 ≤ l13 → (K185 l12 f_album_front)) ∧ (¬ l4 ≤ l13 → (q_X0_mix rows_c f_album_front (((l12 * l5) + l11) + l13) l3 l8 l9 l10 (fun (f_album_front_13 : Nat → Int64) => ((r_X0_moveLeft_150 rows_c rows_w f_rows_power f_rule_lower l1 l2 l3 l4 l5 l6 l7 l8 l9 l10 l11 post K185 l12 n) (l13 + (1 : Int32)) f_album_front_13)))))
def q_X0_moveLeft_185 (rows_c : Int32) (rows_w : Int32) (f_rows_power : Nat → Int32) (f_rule_lower : Nat → Int32) (l1 : Int32) (l2 : Int32) (l3 : Int32) (l4 : Int32) (l5 : Int32) (l6 : Int32) (l7 : Int32) (l8 : Int32) (l9 : Int32) (l10 : Int32) (l11 : Int32) (post : (Nat → Int64) → Prop) (K191 : (Int32) → (Nat → Int64) → Prop) (K131 : (Int32) → (Nat → Int64) → Prop) (l12 : Int32) (f_album_front : Nat → Int64) : Prop := (K131 (l12 + (1 : Int32)) f_album_front)
def q_X0_moveLeft_150 (rows_c : Int32) (rows_w : Int32) (f_rows_power : Nat → Int32) (f_rule_lower : Nat → Int32) (l1 : Int32) (l2 : Int32) (l3 : Int32) (l4 : Int32) (l5 : Int32) (l6 : Int32) (l7 : Int32) (l8 : Int32) (l9 : Int32) (l10 : Int32) (l11 : Int32) (post : (Nat → Int64) → Prop) (K191 : (Int32) → (Nat → Int64) → Prop) (K131 : (Int32) → (Nat → Int64) → Prop) (l12 : Int32) (l13 : Int32) (f_album_front : Nat → Int64) : Prop := ∃ n, r_X0_moveLeft_150 rows_c rows_w f_rows_power f_rule_lower l1 l2 l3 l4 l5 l6 l7 l8 l9 l10 l11 post (q_X0_moveLeft_185 rows_c rows_w f_rows_power f_rule_lower l1 l2 l3 l4 l5 l6 l7 l8 l9 l10 l11 post K191 K131) l12 n l13 f_album_front
def r_X0_moveLeft_131 (rows_c : Int32) (rows_w : Int32) (f_rows_power : Nat → Int32) (f_rule_lower : Nat → Int32) (l1 : Int32) (l2 : Int32) (l3 : Int32) (l4 : Int32) (l5 : Int32) (l6 : Int32) (post : (Nat → Int64) → Prop) (K191 : (Int32) → (Nat → Int64) → Prop) (l7 : Int32) (l8 : Int32) (l9 : Int32) (l10 : Int32) (l11 : Int32) : Nat → (Int32) → (Nat → Int64) → Prop
  | 0, _, _ => False
  | n + 1, l12, f_album_front => (vp_in (l1 - (1 : Int32)) 7 ∧ (((f_rows_power ((l1 - (1 : Int32))).toNatClampNeg) ≤ l12 → (K191 l7 f_album_front)) ∧ (¬ (f_rows_power ((l1 - (1 : Int32))).toNatClampNeg) ≤ l12 → ((q_X0_moveLeft_150 rows_c rows_w f_rows_power f_rule_lower l1 l2 l3 l4 l5 l6 l7 l8 l9 l10 l11 post K191 (r_X0_moveLeft_131 rows_c rows_w f_rows_power f_rule_lower l1 l2 l3 l4 l5 l6 post K191 l7 l8 l9 l10 l11 n)) l12 (0 : Int32) f_album_front))))
def q_X0_moveLeft_191 (rows_c : Int32) (rows_w : Int32) (f_rows_power : Nat → Int32) (f_rule_lower : Nat → Int32) (l1 : Int32) (l2 : Int32) (l3 : Int32) (l4 : Int32) (l5 : Int32) (l6 : Int32) (post : (Nat → Int64) → Prop) (K197 : (Int32) → (Nat → Int64) → Prop) (K66 : (Int32) → (Nat → Int64) → Prop) (l7 : Int32) (f_album_front : Nat → Int64) : Prop := (K66 (l7 + (1 : Int32)) f_album_front)
def q_X0_moveLeft_131 (rows_c : Int32) (rows_w : Int32) (f_rows_power : Nat → Int32) (f_rule_lower : Nat → Int32) (l1 : Int32) (l2 : Int32) (l3 : Int32) (l4 : Int32) (l5 : Int32) (l6 : Int32) (post : (Nat → Int64) → Prop) (K197 : (Int32) → (Nat → Int64) → Prop) (K66 : (Int32) → (Nat → Int64) → Prop) (l7 : Int32) (l8 : Int32) (l9 : Int32) (l10 : Int32) (l11 : Int32) (l12 : Int32) (f_album_front : Nat → Int64) : Prop := ∃ n, r_X0_moveLeft_131 rows_c rows_w f_rows_power f_rule_lower l1 l2 l3 l4 l5 l6 post (q_X0_moveLeft_191 rows_c rows_w f_rows_power f_rule_lower l1 l2 l3 l4 l5 l6 post K197 K66) l7 l8 l9 l10 l11 n l12 f_album_front
def r_X0_moveLeft_66 (rows_c : Int32) (rows_w : Int32) (f_rows_power : Nat → Int32) (f_rule_lower : Nat → Int32) (l1 : Int32) (l2 : Int32) (l3 : Int32) (l4 : Int32) (l5 : Int32) (post : (Nat → Int64) → Prop) (K197 : (Int32) → (Nat → Int64) → Prop) (l6 : Int32) : Nat → (Int32) → (Nat → Int64) → Prop
  | 0, _, _ => False
  | n + 1, l7, f_album_front => ((l2 ≤ l7 → (K197 l6 f_album_front)) ∧ (¬ l2 ≤ l7 → (q_X3_corners f_rule_lower (0 : Int32) l7 l6 (fun (r6 : Int32) => (q_X3_corners f_rule_lower (1 : Int32) l7 l6 (fun (r7 : Int32) => (q_X3_corners f_rule_lower (2 : Int32) l7 l6 (fun (r8 : Int32) => (∀ v9 : Int32, v9 = (((l6 * l3) * l2) + (l7 * l4)) → ((q_X0_moveLeft_131 rows_c rows_w f_rows_power f_rule_lower l1 l2 l3 l4 l5 l6 post K197 (r_X0_moveLeft_66 rows_c rows_w f_rows_power f_rule_lower l1 l2 l3 l4 l5 post K197 l6 n)) l7 r6 r7 r8 v9 (0 : Int32) f_album_front))))))))))
def q_X0_moveLeft_197 (rows_c : Int32) (rows_w : Int32) (f_rows_power : Nat → Int32) (f_rule_lower : Nat → Int32) (l1 : Int32) (l2 : Int32) (l3 : Int32) (l4 : Int32) (l5 : Int32) (post : (Nat → Int64) → Prop) (K57 : (Int32) → (Nat → Int64) → Prop) (l6 : Int32) (f_album_front : Nat → Int64) : Prop := (K57 (l6 + (1 : Int32)) f_album_front)
def q_X0_moveLeft_66 (rows_c : Int32) (rows_w : Int32) (f_rows_power : Nat → Int32) (f_rule_lower : Nat → Int32) (l1 : Int32) (l2 : Int32) (l3 : Int32) (l4 : Int32) (l5 : Int32) (post : (Nat → Int64) → Prop) (K57 : (Int32) → (Nat → Int64) → Prop) (l6 : Int32) (l7 : Int32) (f_album_front : Nat → Int64) : Prop := ∃ n, r_X0_moveLeft_66 rows_c rows_w f_rows_power f_rule_lower l1 l2 l3 l4 l5 post (q_X0_moveLeft_197 rows_c rows_w f_rows_power f_rule_lower l1 l2 l3 l4 l5 post K57) l6 n l7 f_album_front
def r_X0_moveLeft_57 (rows_c : Int32) (rows_w : Int32) (f_rows_power : Nat → Int32) (f_rule_lower : Nat → Int32) (post : (Nat → Int64) → Prop) (l1 : Int32) (l2 : Int32) (l3 : Int32) (l4 : Int32) (l5 : Int32) : Nat → (Int32) → (Nat → Int64) → Prop
  | 0, _, _ => False
  | n + 1, l6, f_album_front => ((l2 ≤ l6 → (post f_album_front)) ∧ (¬ l2 ≤ l6 → ((q_X0_moveLeft_66 rows_c rows_w f_rows_power f_rule_lower l1 l2 l3 l4 l5 post (r_X0_moveLeft_57 rows_c rows_w f_rows_power f_rule_lower post l1 l2 l3 l4 l5 n)) l6 (0 : Int32) f_album_front)))
def q_X0_moveLeft_57 (rows_c : Int32) (rows_w : Int32) (f_rows_power : Nat → Int32) (f_rule_lower : Nat → Int32) (post : (Nat → Int64) → Prop) (l1 : Int32) (l2 : Int32) (l3 : Int32) (l4 : Int32) (l5 : Int32) (l6 : Int32) (f_album_front : Nat → Int64) : Prop := ∃ n, r_X0_moveLeft_57 rows_c rows_w f_rows_power f_rule_lower post l1 l2 l3 l4 l5 n l6 f_album_front
def q_X0_moveLeft (rows_c : Int32) (rows_w : Int32) (f_rows_power : Nat → Int32) (f_rule_lower : Nat → Int32) (f_album_front : Nat → Int64) (l1 : Int32) (post : (Nat → Int64) → Prop) : Prop := (vp_in (rows_w - l1) 7 ∧ (vp_in ((rows_w - l1) - (1 : Int32)) 7 ∧ (∀ v3 : Int32, v3 = (((f_rows_power ((rows_w - l1)).toNatClampNeg) * rows_c) * rows_c) → ((q_X0_moveLeft_57 rows_c rows_w f_rows_power f_rule_lower post) l1 rows_c (f_rows_power ((rows_w - l1)).toNatClampNeg) (f_rows_power (((rows_w - l1) - (1 : Int32))).toNatClampNeg) v3 (0 : Int32) f_album_front))))
theorem hdV_X0_moveLeft : yX0_moveLeft.cls = RX0 ∧ yX0_moveLeft.cls ≠ "java/lang/invoke/MethodHandle" ∧ yX0_moveLeft.cls ≠ "java/lang/invoke/VarHandle" ∧ (parseMethodDescriptor yX0_moveLeft.desc).map (fun d => d.parameters.length) = some 1 := by decide +kernel
set_option maxHeartbeats 4000000 in
set_option maxRecDepth 100000 in
theorem c_X0_moveLeft (l : Launch) (dC : Nat → ClassId) (dI : Nat → Nat → Nat) (cI cJ cZ : ClassId) (h_album h_album_front h_rows h_rows_power h_rule h_rule_lower h_album_wishes h_album_ways h_album_at h_page h_rows_framed : Nat) (sz : Nat) (f_album_front : Nat → Int64) (rows_c : Int32) (rows_w : Int32) (rows_size : Int32) (rows_ring : Int32) (f_rows_power : Nat → Int32) (f_rule_lower : Nat → Int32) (l1 : Int32) {post : (Nat → Int64) → Prop} (hq : q_X0_moveLeft rows_c rows_w f_rows_power f_rule_lower f_album_front l1 post) : Met l yX0_moveLeft wsX0_moveLeft rm_X0_moveLeft (va_Pc [.ref h_album, .int l1] (gx_Pre (dC, dI) vwCl (gx_tys cI cJ cZ) sz (W_X0_moveLeft cI cJ cZ h_album h_album_front h_rows h_rows_power h_rule h_rule_lower h_album_wishes h_album_ways h_album_at h_page h_rows_framed f_album_front rows_c rows_w rows_size rows_ring f_rows_power f_rule_lower))) (va_Qv (fun (u : (Nat → Int64)) => post u) (gx_B (dC, dI) vwCl (gx_tys cI cJ cZ) (va_A (W_X0_moveLeft cI cJ cZ h_album h_album_front h_rows h_rows_power h_rule h_rule_lower h_album_wishes h_album_ways h_album_at h_page h_rows_framed f_album_front rows_c rows_w rows_size rows_ring f_rows_power f_rule_lower) sz) (fun (u : (Nat → Int64)) => (W_X0_moveLeft cI cJ cZ h_album h_album_front h_rows h_rows_power h_rule h_rule_lower h_album_wishes h_album_ways h_album_at h_page h_rows_framed u rows_c rows_w rows_size rows_ring f_rows_power f_rule_lower))) (va_A (W_X0_moveLeft cI cJ cZ h_album h_album_front h_rows h_rows_power h_rule h_rule_lower h_album_wishes h_album_ways h_album_at h_page h_rows_framed f_album_front rows_c rows_w rows_size rows_ring f_rows_power f_rule_lower) sz)) 0 0 (va_A (W_X0_moveLeft cI cJ cZ h_album h_album_front h_rows h_rows_power h_rule h_rule_lower h_album_wishes h_album_ways h_album_at h_page h_rows_framed f_album_front rows_c rows_w rows_size rows_ring f_rows_power f_rule_lower) sz) := by
  refine gx_v (cc := cX0_moveLeft) (maxL := 14) (by decide) rfl (Nat.le_of_ble_eq_true rfl) ?_
  intro p e s m args below meth c A QQ hx hb hml hown hts hA hP hK hD hret ls hl
  have hown : s.vm.findClass RX0 = some m.cls := hown
  have hf36 := hts (.fieldLink RX0 36 "SmallWindows$Album" "rows" "LSmallWindows$Rows;") (by decide +kernel)
  have hf95 := hts (.fieldLink RX0 95 "SmallWindows$Rows" "c" "I") (by decide +kernel)
  have hf102 := hts (.fieldLink RX0 102 "SmallWindows$Rows" "power" "[I") (by decide +kernel)
  have hf72 := hts (.fieldLink RX0 72 "SmallWindows$Rows" "w" "I") (by decide +kernel)
  have hf32 := hts (.fieldLink RX0 32 "SmallWindows$Album" "rule" "LSmallWindows$Rule;") (by decide +kernel)
  have hinX0 : ∀ w ∈ u_ws RX0 TX0 7, w ∈ wsX0_moveLeft := fun w h => List.mem_cons_of_mem _ ((List.mem_append_left _ (List.mem_append_left _ (List.mem_append_right _ h))))
  have hinX2 : ∀ w ∈ u_ws RX2 TX2 6, w ∈ wsX0_moveLeft := fun w h => List.mem_cons_of_mem _ ((List.mem_append_left _ (List.mem_append_right _ h)))
  have hS : va_S A s.heap s.heap [] := va_S.rf
  have hl : lv_has ls 14 [(0, .ref h_album), (1, .int l1)] := hl
  have L150 : ∀ (l1 : Int32) (l2 : Int32) (l3 : Int32) (l4 : Int32) (l5 : Int32) (l6 : Int32) (l7 : Int32) (l8 : Int32) (l9 : Int32) (l10 : Int32) (l11 : Int32) (K185 : (Int32) → (Nat → Int64) → Prop) (hK185 : (∀ (l12 : Int32) (f_album_front : Nat → Int64), K185 l12 f_album_front → ∀ (H : Heap) (locs : List Loc), va_P (dC, dI) vwCl (W_X0_moveLeft cI cJ cZ h_album h_album_front h_rows h_rows_power h_rule h_rule_lower h_album_wishes h_album_ways h_album_at h_page h_rows_framed f_album_front rows_c rows_w rows_size rows_ring f_rows_power f_rule_lower) H → va_D A (W_X0_moveLeft cI cJ cZ h_album h_album_front h_rows h_rows_power h_rule h_rule_lower h_album_wishes h_album_ways h_album_at h_page h_rows_framed f_album_front rows_c rows_w rows_size rows_ring f_rows_power f_rule_lower) → va_S A s.heap H locs → ∀ ls : Array Slot, lv_has ls 14 [(0, .ref h_album), (1, .int l1), (2, .int l2), (3, .int l3), (4, .int l4), (5, .int l5), (6, .int l6), (7, .int l7), (8, .int l8), (9, .int l9), (10, .int l10), (11, .int l11), (12, .int l12)] → W p l e rm_X0_moveLeft s m args below meth c H locs 0 0 QQ (F0 m 185 ls []))) (l12 : Int32) (n : Nat) (l13 : Int32) (f_album_front : Nat → Int64), r_X0_moveLeft_150 rows_c rows_w f_rows_power f_rule_lower l1 l2 l3 l4 l5 l6 l7 l8 l9 l10 l11 post K185 l12 n l13 f_album_front → ∀ (H : Heap) (locs : List Loc), va_P (dC, dI) vwCl (W_X0_moveLeft cI cJ cZ h_album h_album_front h_rows h_rows_power h_rule h_rule_lower h_album_wishes h_album_ways h_album_at h_page h_rows_framed f_album_front rows_c rows_w rows_size rows_ring f_rows_power f_rule_lower) H → va_D A (W_X0_moveLeft cI cJ cZ h_album h_album_front h_rows h_rows_power h_rule h_rule_lower h_album_wishes h_album_ways h_album_at h_page h_rows_framed f_album_front rows_c rows_w rows_size rows_ring f_rows_power f_rule_lower) → va_S A s.heap H locs → ∀ ls : Array Slot, lv_has ls 14 [(0, .ref h_album), (1, .int l1), (2, .int l2), (3, .int l3), (4, .int l4), (5, .int l5), (6, .int l6), (7, .int l7), (8, .int l8), (9, .int l9), (10, .int l10), (11, .int l11), (12, .int l12), (13, .int l13)] → W p l e rm_X0_moveLeft s m args below meth c H locs 0 0 QQ (F0 m 150 ls []) := by
    intro l1 l2 l3 l4 l5 l6 l7 l8 l9 l10 l11 K185 hK185 l12 n
    induction n with
    | zero => intro l13 f_album_front hq; exact False.elim hq
    | succ n ih =>
      intro l13 f_album_front hq H locs hP hD hS ls hl
      unfold r_X0_moveLeft_150 at hq
      refine lv_iload hx hb dX0_moveLeft_150 (lv_at hl 13 rfl) ?_
      refine lv_iload hx hb dX0_moveLeft_152 (lv_at hl 4 rfl) ?_
      refine lv_icmp_ge (tgt := 185) hx hb dX0_moveLeft_154 (by decide) (fun c12 => ?_) (fun c12 => ?_)
      · replace hq := hq.1 c12
        exact hK185 _ _ hq _ _ hP hD hS _ (lv_sub hl [0, 1, 2, 3, 4, 5, 6, 7, 8, 9, 10, 11, 12] rfl)
      · replace hq := hq.2 c12
        refine lv_aload_n hx hb dX0_moveLeft_157 rfl (lv_at hl 0 rfl) ?_
        refine lv_iload hx hb dX0_moveLeft_158 (lv_at hl 12 rfl) ?_
        refine lv_iload hx hb dX0_moveLeft_160 (lv_at hl 5 rfl) ?_
        refine lv_imul hx hb dX0_moveLeft_162 ?_
        refine lv_iload hx hb dX0_moveLeft_163 (lv_at hl 11 rfl) ?_
        refine lv_iadd hx hb dX0_moveLeft_165 ?_
        refine lv_iload hx hb dX0_moveLeft_166 (lv_at hl 13 rfl) ?_
        refine lv_iadd hx hb dX0_moveLeft_168 ?_
        refine lv_iload_n hx hb dX0_moveLeft_169 rfl (lv_at hl 3 rfl) ?_
        refine lv_iload hx hb dX0_moveLeft_170 (lv_at hl 8 rfl) ?_
        refine lv_iload hx hb dX0_moveLeft_172 (lv_at hl 9 rfl) ?_
        refine lv_iload hx hb dX0_moveLeft_174 (lv_at hl 10 rfl) ?_
        refine gx_cVv (C := RX0) (As := [.int (((l12 * l5) + l11) + l13), .int l3, .int l8, .int l9, .int l10]) (rest := []) ⟨hx, hb, hml, hown, hts⟩ (c_X0_mix l dC dI cI cJ cZ h_album h_album_front h_rows h_rule h_album_wishes h_album_ways h_album_at h_page h_rows_framed h_rows_power H.size f_album_front rows_c rows_w rows_size rows_ring (((l12 * l5) + l11) + l13) l3 l8 l9 l10 hq) (cwV 5 hts gX0_moveLeft_X0_mix rfl rfl rfl hdV_X0_mix ⟨Nat.le_of_ble_eq_true rfl, Nat.le_of_ble_eq_true rfl⟩) hK hP hD hS hA [0, 1, 2] [3, 4, 5] rfl rfl rfl rfl rfl (ci := 0) (q0 := 0) rfl rfl rfl rfl hl.1 (Nat.le_of_ble_eq_true rfl) dX0_moveLeft_176 rfl (fun u H locs hq hP hD hS => ?_)
        obtain ⟨f_album_front_13, rfl⟩ : ∃ z, z = u := ⟨_, rfl⟩
        try dsimp only at hq
        have hP : va_P (dC, dI) vwCl (W_X0_moveLeft cI cJ cZ h_album h_album_front h_rows h_rows_power h_rule h_rule_lower h_album_wishes h_album_ways h_album_at h_page h_rows_framed f_album_front_13 rows_c rows_w rows_size rows_ring f_rows_power f_rule_lower) H := hP.sub [3, 4, 5, 0, 1, 2] rfl
        have hD : va_D A (W_X0_moveLeft cI cJ cZ h_album h_album_front h_rows h_rows_power h_rule h_rule_lower h_album_wishes h_album_ways h_album_at h_page h_rows_framed f_album_front_13 rows_c rows_w rows_size rows_ring f_rows_power f_rule_lower) := hD.sub [3, 4, 5, 0, 1, 2] (by decide) rfl
        refine lv_iinc (v := (l13 + (1 : Int32))) (lv' := [(13, .int (l13 + (1 : Int32))), (0, .ref h_album), (1, .int l1), (2, .int l2), (3, .int l3), (4, .int l4), (5, .int l5), (6, .int l6), (7, .int l7), (8, .int l8), (9, .int l9), (10, .int l10), (11, .int l11), (12, .int l12)]) hx hb dX0_moveLeft_179 hl (k := 13) rfl rfl (by decide) rfl (fun ls hl => ?_)
        refine lv_goto (tgt := 150) hx hb dX0_moveLeft_182 (by decide) ?_
        exact ih _ _ hq _ _ hP hD hS _ (lv_sub hl [1, 2, 3, 4, 5, 6, 7, 8, 9, 10, 11, 12, 13, 0] rfl)
  have C185 : ∀ (l1 : Int32) (l2 : Int32) (l3 : Int32) (l4 : Int32) (l5 : Int32) (l6 : Int32) (l7 : Int32) (l8 : Int32) (l9 : Int32) (l10 : Int32) (l11 : Int32) (K191 : (Int32) → (Nat → Int64) → Prop) (hK191 : (∀ (l7 : Int32) (f_album_front : Nat → Int64), K191 l7 f_album_front → ∀ (H : Heap) (locs : List Loc), va_P (dC, dI) vwCl (W_X0_moveLeft cI cJ cZ h_album h_album_front h_rows h_rows_power h_rule h_rule_lower h_album_wishes h_album_ways h_album_at h_page h_rows_framed f_album_front rows_c rows_w rows_size rows_ring f_rows_power f_rule_lower) H → va_D A (W_X0_moveLeft cI cJ cZ h_album h_album_front h_rows h_rows_power h_rule h_rule_lower h_album_wishes h_album_ways h_album_at h_page h_rows_framed f_album_front rows_c rows_w rows_size rows_ring f_rows_power f_rule_lower) → va_S A s.heap H locs → ∀ ls : Array Slot, lv_has ls 14 [(0, .ref h_album), (1, .int l1), (2, .int l2), (3, .int l3), (4, .int l4), (5, .int l5), (6, .int l6), (7, .int l7)] → W p l e rm_X0_moveLeft s m args below meth c H locs 0 0 QQ (F0 m 191 ls []))) (K131 : (Int32) → (Nat → Int64) → Prop) (hK131 : (∀ (l12 : Int32) (f_album_front : Nat → Int64), K131 l12 f_album_front → ∀ (H : Heap) (locs : List Loc), va_P (dC, dI) vwCl (W_X0_moveLeft cI cJ cZ h_album h_album_front h_rows h_rows_power h_rule h_rule_lower h_album_wishes h_album_ways h_album_at h_page h_rows_framed f_album_front rows_c rows_w rows_size rows_ring f_rows_power f_rule_lower) H → va_D A (W_X0_moveLeft cI cJ cZ h_album h_album_front h_rows h_rows_power h_rule h_rule_lower h_album_wishes h_album_ways h_album_at h_page h_rows_framed f_album_front rows_c rows_w rows_size rows_ring f_rows_power f_rule_lower) → va_S A s.heap H locs → ∀ ls : Array Slot, lv_has ls 14 [(0, .ref h_album), (1, .int l1), (2, .int l2), (3, .int l3), (4, .int l4), (5, .int l5), (6, .int l6), (7, .int l7), (8, .int l8), (9, .int l9), (10, .int l10), (11, .int l11), (12, .int l12)] → W p l e rm_X0_moveLeft s m args below meth c H locs 0 0 QQ (F0 m 131 ls []))) (l12 : Int32) (f_album_front : Nat → Int64), q_X0_moveLeft_185 rows_c rows_w f_rows_power f_rule_lower l1 l2 l3 l4 l5 l6 l7 l8 l9 l10 l11 post K191 K131 l12 f_album_front → ∀ (H : Heap) (locs : List Loc), va_P (dC, dI) vwCl (W_X0_moveLeft cI cJ cZ h_album h_album_front h_rows h_rows_power h_rule h_rule_lower h_album_wishes h_album_ways h_album_at h_page h_rows_framed f_album_front rows_c rows_w rows_size rows_ring f_rows_power f_rule_lower) H → va_D A (W_X0_moveLeft cI cJ cZ h_album h_album_front h_rows h_rows_power h_rule h_rule_lower h_album_wishes h_album_ways h_album_at h_page h_rows_framed f_album_front rows_c rows_w rows_size rows_ring f_rows_power f_rule_lower) → va_S A s.heap H locs → ∀ ls : Array Slot, lv_has ls 14 [(0, .ref h_album), (1, .int l1), (2, .int l2), (3, .int l3), (4, .int l4), (5, .int l5), (6, .int l6), (7, .int l7), (8, .int l8), (9, .int l9), (10, .int l10), (11, .int l11), (12, .int l12)] → W p l e rm_X0_moveLeft s m args below meth c H locs 0 0 QQ (F0 m 185 ls []) := by
    intro l1 l2 l3 l4 l5 l6 l7 l8 l9 l10 l11 K191 hK191 K131 hK131 l12 f_album_front hq H locs hP hD hS ls hl
    unfold q_X0_moveLeft_185 at hq
    refine lv_iinc (v := (l12 + (1 : Int32))) (lv' := [(12, .int (l12 + (1 : Int32))), (0, .ref h_album), (1, .int l1), (2, .int l2), (3, .int l3), (4, .int l4), (5, .int l5), (6, .int l6), (7, .int l7), (8, .int l8), (9, .int l9), (10, .int l10), (11, .int l11)]) hx hb dX0_moveLeft_185 hl (k := 12) rfl rfl (by decide) rfl (fun ls hl => ?_)
    refine lv_goto (tgt := 131) hx hb dX0_moveLeft_188 (by decide) ?_
    exact hK131 _ _ hq _ _ hP hD hS _ (lv_sub hl [1, 2, 3, 4, 5, 6, 7, 8, 9, 10, 11, 12, 0] rfl)
  have C150 : ∀ (l1 : Int32) (l2 : Int32) (l3 : Int32) (l4 : Int32) (l5 : Int32) (l6 : Int32) (l7 : Int32) (l8 : Int32) (l9 : Int32) (l10 : Int32) (l11 : Int32) (K191 : (Int32) → (Nat → Int64) → Prop) (hK191 : (∀ (l7 : Int32) (f_album_front : Nat → Int64), K191 l7 f_album_front → ∀ (H : Heap) (locs : List Loc), va_P (dC, dI) vwCl (W_X0_moveLeft cI cJ cZ h_album h_album_front h_rows h_rows_power h_rule h_rule_lower h_album_wishes h_album_ways h_album_at h_page h_rows_framed f_album_front rows_c rows_w rows_size rows_ring f_rows_power f_rule_lower) H → va_D A (W_X0_moveLeft cI cJ cZ h_album h_album_front h_rows h_rows_power h_rule h_rule_lower h_album_wishes h_album_ways h_album_at h_page h_rows_framed f_album_front rows_c rows_w rows_size rows_ring f_rows_power f_rule_lower) → va_S A s.heap H locs → ∀ ls : Array Slot, lv_has ls 14 [(0, .ref h_album), (1, .int l1), (2, .int l2), (3, .int l3), (4, .int l4), (5, .int l5), (6, .int l6), (7, .int l7)] → W p l e rm_X0_moveLeft s m args below meth c H locs 0 0 QQ (F0 m 191 ls []))) (K131 : (Int32) → (Nat → Int64) → Prop) (hK131 : (∀ (l12 : Int32) (f_album_front : Nat → Int64), K131 l12 f_album_front → ∀ (H : Heap) (locs : List Loc), va_P (dC, dI) vwCl (W_X0_moveLeft cI cJ cZ h_album h_album_front h_rows h_rows_power h_rule h_rule_lower h_album_wishes h_album_ways h_album_at h_page h_rows_framed f_album_front rows_c rows_w rows_size rows_ring f_rows_power f_rule_lower) H → va_D A (W_X0_moveLeft cI cJ cZ h_album h_album_front h_rows h_rows_power h_rule h_rule_lower h_album_wishes h_album_ways h_album_at h_page h_rows_framed f_album_front rows_c rows_w rows_size rows_ring f_rows_power f_rule_lower) → va_S A s.heap H locs → ∀ ls : Array Slot, lv_has ls 14 [(0, .ref h_album), (1, .int l1), (2, .int l2), (3, .int l3), (4, .int l4), (5, .int l5), (6, .int l6), (7, .int l7), (8, .int l8), (9, .int l9), (10, .int l10), (11, .int l11), (12, .int l12)] → W p l e rm_X0_moveLeft s m args below meth c H locs 0 0 QQ (F0 m 131 ls []))) (l12 : Int32) (l13 : Int32) (f_album_front : Nat → Int64), q_X0_moveLeft_150 rows_c rows_w f_rows_power f_rule_lower l1 l2 l3 l4 l5 l6 l7 l8 l9 l10 l11 post K191 K131 l12 l13 f_album_front → ∀ (H : Heap) (locs : List Loc), va_P (dC, dI) vwCl (W_X0_moveLeft cI cJ cZ h_album h_album_front h_rows h_rows_power h_rule h_rule_lower h_album_wishes h_album_ways h_album_at h_page h_rows_framed f_album_front rows_c rows_w rows_size rows_ring f_rows_power f_rule_lower) H → va_D A (W_X0_moveLeft cI cJ cZ h_album h_album_front h_rows h_rows_power h_rule h_rule_lower h_album_wishes h_album_ways h_album_at h_page h_rows_framed f_album_front rows_c rows_w rows_size rows_ring f_rows_power f_rule_lower) → va_S A s.heap H locs → ∀ ls : Array Slot, lv_has ls 14 [(0, .ref h_album), (1, .int l1), (2, .int l2), (3, .int l3), (4, .int l4), (5, .int l5), (6, .int l6), (7, .int l7), (8, .int l8), (9, .int l9), (10, .int l10), (11, .int l11), (12, .int l12), (13, .int l13)] → W p l e rm_X0_moveLeft s m args below meth c H locs 0 0 QQ (F0 m 150 ls []) := by
    intro l1 l2 l3 l4 l5 l6 l7 l8 l9 l10 l11 K191 hK191 K131 hK131 l12 l13 f_album_front hq H locs hP hD hS ls hl
    obtain ⟨n, hq⟩ := hq
    exact L150 _ _ _ _ _ _ _ _ _ _ _ _ (C185 _ _ _ _ _ _ _ _ _ _ _ _ hK191 _ hK131) _ n _ _ hq H locs hP hD hS ls hl
  have L131 : ∀ (l1 : Int32) (l2 : Int32) (l3 : Int32) (l4 : Int32) (l5 : Int32) (l6 : Int32) (K191 : (Int32) → (Nat → Int64) → Prop) (hK191 : (∀ (l7 : Int32) (f_album_front : Nat → Int64), K191 l7 f_album_front → ∀ (H : Heap) (locs : List Loc), va_P (dC, dI) vwCl (W_X0_moveLeft cI cJ cZ h_album h_album_front h_rows h_rows_power h_rule h_rule_lower h_album_wishes h_album_ways h_album_at h_page h_rows_framed f_album_front rows_c rows_w rows_size rows_ring f_rows_power f_rule_lower) H → va_D A (W_X0_moveLeft cI cJ cZ h_album h_album_front h_rows h_rows_power h_rule h_rule_lower h_album_wishes h_album_ways h_album_at h_page h_rows_framed f_album_front rows_c rows_w rows_size rows_ring f_rows_power f_rule_lower) → va_S A s.heap H locs → ∀ ls : Array Slot, lv_has ls 14 [(0, .ref h_album), (1, .int l1), (2, .int l2), (3, .int l3), (4, .int l4), (5, .int l5), (6, .int l6), (7, .int l7)] → W p l e rm_X0_moveLeft s m args below meth c H locs 0 0 QQ (F0 m 191 ls []))) (l7 : Int32) (l8 : Int32) (l9 : Int32) (l10 : Int32) (l11 : Int32) (n : Nat) (l12 : Int32) (f_album_front : Nat → Int64), r_X0_moveLeft_131 rows_c rows_w f_rows_power f_rule_lower l1 l2 l3 l4 l5 l6 post K191 l7 l8 l9 l10 l11 n l12 f_album_front → ∀ (H : Heap) (locs : List Loc), va_P (dC, dI) vwCl (W_X0_moveLeft cI cJ cZ h_album h_album_front h_rows h_rows_power h_rule h_rule_lower h_album_wishes h_album_ways h_album_at h_page h_rows_framed f_album_front rows_c rows_w rows_size rows_ring f_rows_power f_rule_lower) H → va_D A (W_X0_moveLeft cI cJ cZ h_album h_album_front h_rows h_rows_power h_rule h_rule_lower h_album_wishes h_album_ways h_album_at h_page h_rows_framed f_album_front rows_c rows_w rows_size rows_ring f_rows_power f_rule_lower) → va_S A s.heap H locs → ∀ ls : Array Slot, lv_has ls 14 [(0, .ref h_album), (1, .int l1), (2, .int l2), (3, .int l3), (4, .int l4), (5, .int l5), (6, .int l6), (7, .int l7), (8, .int l8), (9, .int l9), (10, .int l10), (11, .int l11), (12, .int l12)] → W p l e rm_X0_moveLeft s m args below meth c H locs 0 0 QQ (F0 m 131 ls []) := by
    intro l1 l2 l3 l4 l5 l6 K191 hK191 l7 l8 l9 l10 l11 n
    induction n with
    | zero => intro l12 f_album_front hq; exact False.elim hq
    | succ n ih =>
      intro l12 f_album_front hq H locs hP hD hS ls hl
      unfold r_X0_moveLeft_131 at hq
      refine lv_iload hx hb dX0_moveLeft_131 (lv_at hl 12 rfl) ?_
      refine lv_aload_n hx hb dX0_moveLeft_133 rfl (lv_at hl 0 rfl) ?_
      refine va_get (D := (dC, dI)) (ci := 0) (v := .ref h_rows) (C := RX0) (T := TX0) (N := 7) hx hb hts hinX0 hown hK hP 0 rfl rfl 0 (by decide) hf36 (fun _ h9 => h9) rfl dX0_moveLeft_134 ?_
      refine va_get (D := (dC, dI)) (ci := 2) (v := .ref h_rows_power) (C := RX2) (T := TX2) (N := 6) hx hb hts hinX2 hown hK hP 2 rfl rfl 5 (by decide) hf102 (fun _ h9 => h9) rfl dX0_moveLeft_137 ?_
      refine lv_iload_n hx hb dX0_moveLeft_140 rfl (lv_at hl 1 rfl) ?_
      refine lv_iconst (v := (1 : Int32)) hx hb dX0_moveLeft_141 (by decide) ?_
      refine lv_isub hx hb dX0_moveLeft_142 ?_
      obtain ⟨hv10, hq⟩ := hq
      refine va_iald hx hb hK hP 3 0 rfl rfl hv10 dX0_moveLeft_143 ?_
      refine lv_icmp_ge (tgt := 191) hx hb dX0_moveLeft_144 (by decide) (fun c11 => ?_) (fun c11 => ?_)
      · replace hq := hq.1 c11
        exact hK191 _ _ hq _ _ hP hD hS _ (lv_sub hl [0, 1, 2, 3, 4, 5, 6, 7] rfl)
      · replace hq := hq.2 c11
        refine lv_iconst (v := (0 : Int32)) hx hb dX0_moveLeft_147 (by decide) ?_
        refine lv_istore (lv' := [(13, .int (0 : Int32)), (0, .ref h_album), (1, .int l1), (2, .int l2), (3, .int l3), (4, .int l4), (5, .int l5), (6, .int l6), (7, .int l7), (8, .int l8), (9, .int l9), (10, .int l10), (11, .int l11), (12, .int l12)]) hx hb dX0_moveLeft_148 hl (by decide) rfl (fun ls hl => ?_)
        exact (C150 _ _ _ _ _ _ _ _ _ _ _ _ hK191 _ ih) _ _ _ hq _ _ hP hD hS _ (lv_sub hl [1, 2, 3, 4, 5, 6, 7, 8, 9, 10, 11, 12, 13, 0] rfl)
  have C191 : ∀ (l1 : Int32) (l2 : Int32) (l3 : Int32) (l4 : Int32) (l5 : Int32) (l6 : Int32) (K197 : (Int32) → (Nat → Int64) → Prop) (hK197 : (∀ (l6 : Int32) (f_album_front : Nat → Int64), K197 l6 f_album_front → ∀ (H : Heap) (locs : List Loc), va_P (dC, dI) vwCl (W_X0_moveLeft cI cJ cZ h_album h_album_front h_rows h_rows_power h_rule h_rule_lower h_album_wishes h_album_ways h_album_at h_page h_rows_framed f_album_front rows_c rows_w rows_size rows_ring f_rows_power f_rule_lower) H → va_D A (W_X0_moveLeft cI cJ cZ h_album h_album_front h_rows h_rows_power h_rule h_rule_lower h_album_wishes h_album_ways h_album_at h_page h_rows_framed f_album_front rows_c rows_w rows_size rows_ring f_rows_power f_rule_lower) → va_S A s.heap H locs → ∀ ls : Array Slot, lv_has ls 14 [(0, .ref h_album), (1, .int l1), (2, .int l2), (3, .int l3), (4, .int l4), (5, .int l5), (6, .int l6)] → W p l e rm_X0_moveLeft s m args below meth c H locs 0 0 QQ (F0 m 197 ls []))) (K66 : (Int32) → (Nat → Int64) → Prop) (hK66 : (∀ (l7 : Int32) (f_album_front : Nat → Int64), K66 l7 f_album_front → ∀ (H : Heap) (locs : List Loc), va_P (dC, dI) vwCl (W_X0_moveLeft cI cJ cZ h_album h_album_front h_rows h_rows_power h_rule h_rule_lower h_album_wishes h_album_ways h_album_at h_page h_rows_framed f_album_front rows_c rows_w rows_size rows_ring f_rows_power f_rule_lower) H → va_D A (W_X0_moveLeft cI cJ cZ h_album h_album_front h_rows h_rows_power h_rule h_rule_lower h_album_wishes h_album_ways h_album_at h_page h_rows_framed f_album_front rows_c rows_w rows_size rows_ring f_rows_power f_rule_lower) → va_S A s.heap H locs → ∀ ls : Array Slot, lv_has ls 14 [(0, .ref h_album), (1, .int l1), (2, .int l2), (3, .int l3), (4, .int l4), (5, .int l5), (6, .int l6), (7, .int l7)] → W p l e rm_X0_moveLeft s m args below meth c H locs 0 0 QQ (F0 m 66 ls []))) (l7 : Int32) (f_album_front : Nat → Int64), q_X0_moveLeft_191 rows_c rows_w f_rows_power f_rule_lower l1 l2 l3 l4 l5 l6 post K197 K66 l7 f_album_front → ∀ (H : Heap) (locs : List Loc), va_P (dC, dI) vwCl (W_X0_moveLeft cI cJ cZ h_album h_album_front h_rows h_rows_power h_rule h_rule_lower h_album_wishes h_album_ways h_album_at h_page h_rows_framed f_album_front rows_c rows_w rows_size rows_ring f_rows_power f_rule_lower) H → va_D A (W_X0_moveLeft cI cJ cZ h_album h_album_front h_rows h_rows_power h_rule h_rule_lower h_album_wishes h_album_ways h_album_at h_page h_rows_framed f_album_front rows_c rows_w rows_size rows_ring f_rows_power f_rule_lower) → va_S A s.heap H locs → ∀ ls : Array Slot, lv_has ls 14 [(0, .ref h_album), (1, .int l1), (2, .int l2), (3, .int l3), (4, .int l4), (5, .int l5), (6, .int l6), (7, .int l7)] → W p l e rm_X0_moveLeft s m args below meth c H locs 0 0 QQ (F0 m 191 ls []) := by
    intro l1 l2 l3 l4 l5 l6 K197 hK197 K66 hK66 l7 f_album_front hq H locs hP hD hS ls hl
    unfold q_X0_moveLeft_191 at hq
    refine lv_iinc (v := (l7 + (1 : Int32))) (lv' := [(7, .int (l7 + (1 : Int32))), (0, .ref h_album), (1, .int l1), (2, .int l2), (3, .int l3), (4, .int l4), (5, .int l5), (6, .int l6)]) hx hb dX0_moveLeft_191 hl (k := 7) rfl rfl (by decide) rfl (fun ls hl => ?_)
    refine lv_goto (tgt := 66) hx hb dX0_moveLeft_194 (by decide) ?_
    exact hK66 _ _ hq _ _ hP hD hS _ (lv_sub hl [1, 2, 3, 4, 5, 6, 7, 0] rfl)
  have C131 : ∀ (l1 : Int32) (l2 : Int32) (l3 : Int32) (l4 : Int32) (l5 : Int32) (l6 : Int32) (K197 : (Int32) → (Nat → Int64) → Prop) (hK197 : (∀ (l6 : Int32) (f_album_front : Nat → Int64), K197 l6 f_album_front → ∀ (H : Heap) (locs : List Loc), va_P (dC, dI) vwCl (W_X0_moveLeft cI cJ cZ h_album h_album_front h_rows h_rows_power h_rule h_rule_lower h_album_wishes h_album_ways h_album_at h_page h_rows_framed f_album_front rows_c rows_w rows_size rows_ring f_rows_power f_rule_lower) H → va_D A (W_X0_moveLeft cI cJ cZ h_album h_album_front h_rows h_rows_power h_rule h_rule_lower h_album_wishes h_album_ways h_album_at h_page h_rows_framed f_album_front rows_c rows_w rows_size rows_ring f_rows_power f_rule_lower) → va_S A s.heap H locs → ∀ ls : Array Slot, lv_has ls 14 [(0, .ref h_album), (1, .int l1), (2, .int l2), (3, .int l3), (4, .int l4), (5, .int l5), (6, .int l6)] → W p l e rm_X0_moveLeft s m args below meth c H locs 0 0 QQ (F0 m 197 ls []))) (K66 : (Int32) → (Nat → Int64) → Prop) (hK66 : (∀ (l7 : Int32) (f_album_front : Nat → Int64), K66 l7 f_album_front → ∀ (H : Heap) (locs : List Loc), va_P (dC, dI) vwCl (W_X0_moveLeft cI cJ cZ h_album h_album_front h_rows h_rows_power h_rule h_rule_lower h_album_wishes h_album_ways h_album_at h_page h_rows_framed f_album_front rows_c rows_w rows_size rows_ring f_rows_power f_rule_lower) H → va_D A (W_X0_moveLeft cI cJ cZ h_album h_album_front h_rows h_rows_power h_rule h_rule_lower h_album_wishes h_album_ways h_album_at h_page h_rows_framed f_album_front rows_c rows_w rows_size rows_ring f_rows_power f_rule_lower) → va_S A s.heap H locs → ∀ ls : Array Slot, lv_has ls 14 [(0, .ref h_album), (1, .int l1), (2, .int l2), (3, .int l3), (4, .int l4), (5, .int l5), (6, .int l6), (7, .int l7)] → W p l e rm_X0_moveLeft s m args below meth c H locs 0 0 QQ (F0 m 66 ls []))) (l7 : Int32) (l8 : Int32) (l9 : Int32) (l10 : Int32) (l11 : Int32) (l12 : Int32) (f_album_front : Nat → Int64), q_X0_moveLeft_131 rows_c rows_w f_rows_power f_rule_lower l1 l2 l3 l4 l5 l6 post K197 K66 l7 l8 l9 l10 l11 l12 f_album_front → ∀ (H : Heap) (locs : List Loc), va_P (dC, dI) vwCl (W_X0_moveLeft cI cJ cZ h_album h_album_front h_rows h_rows_power h_rule h_rule_lower h_album_wishes h_album_ways h_album_at h_page h_rows_framed f_album_front rows_c rows_w rows_size rows_ring f_rows_power f_rule_lower) H → va_D A (W_X0_moveLeft cI cJ cZ h_album h_album_front h_rows h_rows_power h_rule h_rule_lower h_album_wishes h_album_ways h_album_at h_page h_rows_framed f_album_front rows_c rows_w rows_size rows_ring f_rows_power f_rule_lower) → va_S A s.heap H locs → ∀ ls : Array Slot, lv_has ls 14 [(0, .ref h_album), (1, .int l1), (2, .int l2), (3, .int l3), (4, .int l4), (5, .int l5), (6, .int l6), (7, .int l7), (8, .int l8), (9, .int l9), (10, .int l10), (11, .int l11), (12, .int l12)] → W p l e rm_X0_moveLeft s m args below meth c H locs 0 0 QQ (F0 m 131 ls []) := by
    intro l1 l2 l3 l4 l5 l6 K197 hK197 K66 hK66 l7 l8 l9 l10 l11 l12 f_album_front hq H locs hP hD hS ls hl
    obtain ⟨n, hq⟩ := hq
    exact L131 _ _ _ _ _ _ _ (C191 _ _ _ _ _ _ _ hK197 _ hK66) _ _ _ _ _ n _ _ hq H locs hP hD hS ls hl
  have L66 : ∀ (l1 : Int32) (l2 : Int32) (l3 : Int32) (l4 : Int32) (l5 : Int32) (K197 : (Int32) → (Nat → Int64) → Prop) (hK197 : (∀ (l6 : Int32) (f_album_front : Nat → Int64), K197 l6 f_album_front → ∀ (H : Heap) (locs : List Loc), va_P (dC, dI) vwCl (W_X0_moveLeft cI cJ cZ h_album h_album_front h_rows h_rows_power h_rule h_rule_lower h_album_wishes h_album_ways h_album_at h_page h_rows_framed f_album_front rows_c rows_w rows_size rows_ring f_rows_power f_rule_lower) H → va_D A (W_X0_moveLeft cI cJ cZ h_album h_album_front h_rows h_rows_power h_rule h_rule_lower h_album_wishes h_album_ways h_album_at h_page h_rows_framed f_album_front rows_c rows_w rows_size rows_ring f_rows_power f_rule_lower) → va_S A s.heap H locs → ∀ ls : Array Slot, lv_has ls 14 [(0, .ref h_album), (1, .int l1), (2, .int l2), (3, .int l3), (4, .int l4), (5, .int l5), (6, .int l6)] → W p l e rm_X0_moveLeft s m args below meth c H locs 0 0 QQ (F0 m 197 ls []))) (l6 : Int32) (n : Nat) (l7 : Int32) (f_album_front : Nat → Int64), r_X0_moveLeft_66 rows_c rows_w f_rows_power f_rule_lower l1 l2 l3 l4 l5 post K197 l6 n l7 f_album_front → ∀ (H : Heap) (locs : List Loc), va_P (dC, dI) vwCl (W_X0_moveLeft cI cJ cZ h_album h_album_front h_rows h_rows_power h_rule h_rule_lower h_album_wishes h_album_ways h_album_at h_page h_rows_framed f_album_front rows_c rows_w rows_size rows_ring f_rows_power f_rule_lower) H → va_D A (W_X0_moveLeft cI cJ cZ h_album h_album_front h_rows h_rows_power h_rule h_rule_lower h_album_wishes h_album_ways h_album_at h_page h_rows_framed f_album_front rows_c rows_w rows_size rows_ring f_rows_power f_rule_lower) → va_S A s.heap H locs → ∀ ls : Array Slot, lv_has ls 14 [(0, .ref h_album), (1, .int l1), (2, .int l2), (3, .int l3), (4, .int l4), (5, .int l5), (6, .int l6), (7, .int l7)] → W p l e rm_X0_moveLeft s m args below meth c H locs 0 0 QQ (F0 m 66 ls []) := by
    intro l1 l2 l3 l4 l5 K197 hK197 l6 n
    induction n with
    | zero => intro l7 f_album_front hq; exact False.elim hq
    | succ n ih =>
      intro l7 f_album_front hq H locs hP hD hS ls hl
      unfold r_X0_moveLeft_66 at hq
      refine lv_iload hx hb dX0_moveLeft_66 (lv_at hl 7 rfl) ?_
      refine lv_iload_n hx hb dX0_moveLeft_68 rfl (lv_at hl 2 rfl) ?_
      refine lv_icmp_ge (tgt := 197) hx hb dX0_moveLeft_69 (by decide) (fun c5 => ?_) (fun c5 => ?_)
      · replace hq := hq.1 c5
        exact hK197 _ _ hq _ _ hP hD hS _ (lv_sub hl [0, 1, 2, 3, 4, 5, 6] rfl)
      · replace hq := hq.2 c5
        refine lv_aload_n hx hb dX0_moveLeft_72 rfl (lv_at hl 0 rfl) ?_
        refine va_get (D := (dC, dI)) (ci := 0) (v := .ref h_rule) (C := RX0) (T := TX0) (N := 7) hx hb hts hinX0 hown hK hP 0 rfl rfl 1 (by decide) hf32 (fun _ h9 => h9) rfl dX0_moveLeft_73 ?_
        refine lv_iconst (v := (0 : Int32)) hx hb dX0_moveLeft_76 (by decide) ?_
        refine lv_iload hx hb dX0_moveLeft_77 (lv_at hl 7 rfl) ?_
        refine lv_iload hx hb dX0_moveLeft_79 (lv_at hl 6 rfl) ?_
        refine gx_cVi (C := RX3) (As := [.int (0 : Int32), .int l7, .int l6]) (rest := []) ⟨hx, hb, hml, hown, hts⟩ (c_X3_corners l dC dI cI cJ cZ h_rule h_rule_lower H.size f_rule_lower (0 : Int32) l7 l6 hq) (cwV 3 hts gX0_moveLeft_X3_corners rfl rfl rfl hdV_X3_corners ⟨Nat.le_of_ble_eq_true rfl, Nat.le_of_ble_eq_true rfl⟩) hK hP hD hS hA [4, 5] [0, 1, 2, 3] rfl rfl rfl rfl rfl (ci := 3) (q0 := 0) rfl rfl rfl rfl hl.1 (Nat.le_of_ble_eq_true rfl) dX0_moveLeft_81 rfl (fun r6 u H locs hq hP hD hS => ?_)
        try dsimp only at hq
        have hP : va_P (dC, dI) vwCl (W_X0_moveLeft cI cJ cZ h_album h_album_front h_rows h_rows_power h_rule h_rule_lower h_album_wishes h_album_ways h_album_at h_page h_rows_framed f_album_front rows_c rows_w rows_size rows_ring f_rows_power f_rule_lower) H := hP
        have hD : va_D A (W_X0_moveLeft cI cJ cZ h_album h_album_front h_rows h_rows_power h_rule h_rule_lower h_album_wishes h_album_ways h_album_at h_page h_rows_framed f_album_front rows_c rows_w rows_size rows_ring f_rows_power f_rule_lower) := hD
        refine lv_istore (lv' := [(8, .int r6), (0, .ref h_album), (1, .int l1), (2, .int l2), (3, .int l3), (4, .int l4), (5, .int l5), (6, .int l6), (7, .int l7)]) hx hb dX0_moveLeft_84 hl (by decide) rfl (fun ls hl => ?_)
        refine lv_aload_n hx hb dX0_moveLeft_86 rfl (lv_at hl 1 rfl) ?_
        refine va_get (D := (dC, dI)) (ci := 0) (v := .ref h_rule) (C := RX0) (T := TX0) (N := 7) hx hb hts hinX0 hown hK hP 0 rfl rfl 1 (by decide) hf32 (fun _ h9 => h9) rfl dX0_moveLeft_87 ?_
        refine lv_iconst (v := (1 : Int32)) hx hb dX0_moveLeft_90 (by decide) ?_
        refine lv_iload hx hb dX0_moveLeft_91 (lv_at hl 8 rfl) ?_
        refine lv_iload hx hb dX0_moveLeft_93 (lv_at hl 7 rfl) ?_
        refine gx_cVi (C := RX3) (As := [.int (1 : Int32), .int l7, .int l6]) (rest := []) ⟨hx, hb, hml, hown, hts⟩ (c_X3_corners l dC dI cI cJ cZ h_rule h_rule_lower H.size f_rule_lower (1 : Int32) l7 l6 hq) (cwV 3 hts gX0_moveLeft_X3_corners rfl rfl rfl hdV_X3_corners ⟨Nat.le_of_ble_eq_true rfl, Nat.le_of_ble_eq_true rfl⟩) hK hP hD hS hA [4, 5] [0, 1, 2, 3] rfl rfl rfl rfl rfl (ci := 3) (q0 := 0) rfl rfl rfl rfl hl.1 (Nat.le_of_ble_eq_true rfl) dX0_moveLeft_95 rfl (fun r7 u H locs hq hP hD hS => ?_)
        try dsimp only at hq
        have hP : va_P (dC, dI) vwCl (W_X0_moveLeft cI cJ cZ h_album h_album_front h_rows h_rows_power h_rule h_rule_lower h_album_wishes h_album_ways h_album_at h_page h_rows_framed f_album_front rows_c rows_w rows_size rows_ring f_rows_power f_rule_lower) H := hP
        have hD : va_D A (W_X0_moveLeft cI cJ cZ h_album h_album_front h_rows h_rows_power h_rule h_rule_lower h_album_wishes h_album_ways h_album_at h_page h_rows_framed f_album_front rows_c rows_w rows_size rows_ring f_rows_power f_rule_lower) := hD
        refine lv_istore (lv' := [(9, .int r7), (8, .int r6), (0, .ref h_album), (1, .int l1), (2, .int l2), (3, .int l3), (4, .int l4), (5, .int l5), (6, .int l6), (7, .int l7)]) hx hb dX0_moveLeft_98 hl (by decide) rfl (fun ls hl => ?_)
        refine lv_aload_n hx hb dX0_moveLeft_100 rfl (lv_at hl 2 rfl) ?_
        refine va_get (D := (dC, dI)) (ci := 0) (v := .ref h_rule) (C := RX0) (T := TX0) (N := 7) hx hb hts hinX0 hown hK hP 0 rfl rfl 1 (by decide) hf32 (fun _ h9 => h9) rfl dX0_moveLeft_101 ?_
        refine lv_iconst (v := (2 : Int32)) hx hb dX0_moveLeft_104 (by decide) ?_
        refine lv_iload hx hb dX0_moveLeft_105 (lv_at hl 9 rfl) ?_
        refine lv_iload hx hb dX0_moveLeft_107 (lv_at hl 8 rfl) ?_
        refine gx_cVi (C := RX3) (As := [.int (2 : Int32), .int l7, .int l6]) (rest := []) ⟨hx, hb, hml, hown, hts⟩ (c_X3_corners l dC dI cI cJ cZ h_rule h_rule_lower H.size f_rule_lower (2 : Int32) l7 l6 hq) (cwV 3 hts gX0_moveLeft_X3_corners rfl rfl rfl hdV_X3_corners ⟨Nat.le_of_ble_eq_true rfl, Nat.le_of_ble_eq_true rfl⟩) hK hP hD hS hA [4, 5] [0, 1, 2, 3] rfl rfl rfl rfl rfl (ci := 3) (q0 := 0) rfl rfl rfl rfl hl.1 (Nat.le_of_ble_eq_true rfl) dX0_moveLeft_109 rfl (fun r8 u H locs hq hP hD hS => ?_)
        try dsimp only at hq
        have hP : va_P (dC, dI) vwCl (W_X0_moveLeft cI cJ cZ h_album h_album_front h_rows h_rows_power h_rule h_rule_lower h_album_wishes h_album_ways h_album_at h_page h_rows_framed f_album_front rows_c rows_w rows_size rows_ring f_rows_power f_rule_lower) H := hP
        have hD : va_D A (W_X0_moveLeft cI cJ cZ h_album h_album_front h_rows h_rows_power h_rule h_rule_lower h_album_wishes h_album_ways h_album_at h_page h_rows_framed f_album_front rows_c rows_w rows_size rows_ring f_rows_power f_rule_lower) := hD
        refine lv_istore (lv' := [(10, .int r8), (9, .int r7), (8, .int r6), (0, .ref h_album), (1, .int l1), (2, .int l2), (3, .int l3), (4, .int l4), (5, .int l5), (6, .int l6), (7, .int l7)]) hx hb dX0_moveLeft_112 hl (by decide) rfl (fun ls hl => ?_)
        refine lv_iload hx hb dX0_moveLeft_114 (lv_at hl 9 rfl) ?_
        refine lv_iload_n hx hb dX0_moveLeft_116 rfl (lv_at hl 6 rfl) ?_
        refine lv_imul hx hb dX0_moveLeft_117 ?_
        refine lv_iload_n hx hb dX0_moveLeft_118 rfl (lv_at hl 5 rfl) ?_
        refine lv_imul hx hb dX0_moveLeft_119 ?_
        refine lv_iload hx hb dX0_moveLeft_120 (lv_at hl 10 rfl) ?_
        refine lv_iload hx hb dX0_moveLeft_122 (lv_at hl 7 rfl) ?_
        refine lv_imul hx hb dX0_moveLeft_124 ?_
        refine lv_iadd hx hb dX0_moveLeft_125 ?_
        refine lv_topi (fun v9 ev9 => ?_)
        replace hq := hq v9 ev9
        refine lv_istore (lv' := [(11, .int v9), (10, .int r8), (9, .int r7), (8, .int r6), (0, .ref h_album), (1, .int l1), (2, .int l2), (3, .int l3), (4, .int l4), (5, .int l5), (6, .int l6), (7, .int l7)]) hx hb dX0_moveLeft_126 hl (by decide) rfl (fun ls hl => ?_)
        refine lv_iconst (v := (0 : Int32)) hx hb dX0_moveLeft_128 (by decide) ?_
        refine lv_istore (lv' := [(12, .int (0 : Int32)), (11, .int v9), (10, .int r8), (9, .int r7), (8, .int r6), (0, .ref h_album), (1, .int l1), (2, .int l2), (3, .int l3), (4, .int l4), (5, .int l5), (6, .int l6), (7, .int l7)]) hx hb dX0_moveLeft_129 hl (by decide) rfl (fun ls hl => ?_)
        exact (C131 _ _ _ _ _ _ _ hK197 _ ih) _ _ _ _ _ _ _ hq _ _ hP hD hS _ (lv_sub hl [5, 6, 7, 8, 9, 10, 11, 12, 4, 3, 2, 1, 0] rfl)
  have C197 : ∀ (l1 : Int32) (l2 : Int32) (l3 : Int32) (l4 : Int32) (l5 : Int32) (K57 : (Int32) → (Nat → Int64) → Prop) (hK57 : (∀ (l6 : Int32) (f_album_front : Nat → Int64), K57 l6 f_album_front → ∀ (H : Heap) (locs : List Loc), va_P (dC, dI) vwCl (W_X0_moveLeft cI cJ cZ h_album h_album_front h_rows h_rows_power h_rule h_rule_lower h_album_wishes h_album_ways h_album_at h_page h_rows_framed f_album_front rows_c rows_w rows_size rows_ring f_rows_power f_rule_lower) H → va_D A (W_X0_moveLeft cI cJ cZ h_album h_album_front h_rows h_rows_power h_rule h_rule_lower h_album_wishes h_album_ways h_album_at h_page h_rows_framed f_album_front rows_c rows_w rows_size rows_ring f_rows_power f_rule_lower) → va_S A s.heap H locs → ∀ ls : Array Slot, lv_has ls 14 [(0, .ref h_album), (1, .int l1), (2, .int l2), (3, .int l3), (4, .int l4), (5, .int l5), (6, .int l6)] → W p l e rm_X0_moveLeft s m args below meth c H locs 0 0 QQ (F0 m 57 ls []))) (l6 : Int32) (f_album_front : Nat → Int64), q_X0_moveLeft_197 rows_c rows_w f_rows_power f_rule_lower l1 l2 l3 l4 l5 post K57 l6 f_album_front → ∀ (H : Heap) (locs : List Loc), va_P (dC, dI) vwCl (W_X0_moveLeft cI cJ cZ h_album h_album_front h_rows h_rows_power h_rule h_rule_lower h_album_wishes h_album_ways h_album_at h_page h_rows_framed f_album_front rows_c rows_w rows_size rows_ring f_rows_power f_rule_lower) H → va_D A (W_X0_moveLeft cI cJ cZ h_album h_album_front h_rows h_rows_power h_rule h_rule_lower h_album_wishes h_album_ways h_album_at h_page h_rows_framed f_album_front rows_c rows_w rows_size rows_ring f_rows_power f_rule_lower) → va_S A s.heap H locs → ∀ ls : Array Slot, lv_has ls 14 [(0, .ref h_album), (1, .int l1), (2, .int l2), (3, .int l3), (4, .int l4), (5, .int l5), (6, .int l6)] → W p l e rm_X0_moveLeft s m args below meth c H locs 0 0 QQ (F0 m 197 ls []) := by
    intro l1 l2 l3 l4 l5 K57 hK57 l6 f_album_front hq H locs hP hD hS ls hl
    unfold q_X0_moveLeft_197 at hq
    refine lv_iinc (v := (l6 + (1 : Int32))) (lv' := [(6, .int (l6 + (1 : Int32))), (0, .ref h_album), (1, .int l1), (2, .int l2), (3, .int l3), (4, .int l4), (5, .int l5)]) hx hb dX0_moveLeft_197 hl (k := 6) rfl rfl (by decide) rfl (fun ls hl => ?_)
    refine lv_goto (tgt := 57) hx hb dX0_moveLeft_200 (by decide) ?_
    exact hK57 _ _ hq _ _ hP hD hS _ (lv_sub hl [1, 2, 3, 4, 5, 6, 0] rfl)
  have C66 : ∀ (l1 : Int32) (l2 : Int32) (l3 : Int32) (l4 : Int32) (l5 : Int32) (K57 : (Int32) → (Nat → Int64) → Prop) (hK57 : (∀ (l6 : Int32) (f_album_front : Nat → Int64), K57 l6 f_album_front → ∀ (H : Heap) (locs : List Loc), va_P (dC, dI) vwCl (W_X0_moveLeft cI cJ cZ h_album h_album_front h_rows h_rows_power h_rule h_rule_lower h_album_wishes h_album_ways h_album_at h_page h_rows_framed f_album_front rows_c rows_w rows_size rows_ring f_rows_power f_rule_lower) H → va_D A (W_X0_moveLeft cI cJ cZ h_album h_album_front h_rows h_rows_power h_rule h_rule_lower h_album_wishes h_album_ways h_album_at h_page h_rows_framed f_album_front rows_c rows_w rows_size rows_ring f_rows_power f_rule_lower) → va_S A s.heap H locs → ∀ ls : Array Slot, lv_has ls 14 [(0, .ref h_album), (1, .int l1), (2, .int l2), (3, .int l3), (4, .int l4), (5, .int l5), (6, .int l6)] → W p l e rm_X0_moveLeft s m args below meth c H locs 0 0 QQ (F0 m 57 ls []))) (l6 : Int32) (l7 : Int32) (f_album_front : Nat → Int64), q_X0_moveLeft_66 rows_c rows_w f_rows_power f_rule_lower l1 l2 l3 l4 l5 post K57 l6 l7 f_album_front → ∀ (H : Heap) (locs : List Loc), va_P (dC, dI) vwCl (W_X0_moveLeft cI cJ cZ h_album h_album_front h_rows h_rows_power h_rule h_rule_lower h_album_wishes h_album_ways h_album_at h_page h_rows_framed f_album_front rows_c rows_w rows_size rows_ring f_rows_power f_rule_lower) H → va_D A (W_X0_moveLeft cI cJ cZ h_album h_album_front h_rows h_rows_power h_rule h_rule_lower h_album_wishes h_album_ways h_album_at h_page h_rows_framed f_album_front rows_c rows_w rows_size rows_ring f_rows_power f_rule_lower) → va_S A s.heap H locs → ∀ ls : Array Slot, lv_has ls 14 [(0, .ref h_album), (1, .int l1), (2, .int l2), (3, .int l3), (4, .int l4), (5, .int l5), (6, .int l6), (7, .int l7)] → W p l e rm_X0_moveLeft s m args below meth c H locs 0 0 QQ (F0 m 66 ls []) := by
    intro l1 l2 l3 l4 l5 K57 hK57 l6 l7 f_album_front hq H locs hP hD hS ls hl
    obtain ⟨n, hq⟩ := hq
    exact L66 _ _ _ _ _ _ (C197 _ _ _ _ _ _ hK57) _ n _ _ hq H locs hP hD hS ls hl
  have L57 : ∀ (l1 : Int32) (l2 : Int32) (l3 : Int32) (l4 : Int32) (l5 : Int32) (n : Nat) (l6 : Int32) (f_album_front : Nat → Int64), r_X0_moveLeft_57 rows_c rows_w f_rows_power f_rule_lower post l1 l2 l3 l4 l5 n l6 f_album_front → ∀ (H : Heap) (locs : List Loc), va_P (dC, dI) vwCl (W_X0_moveLeft cI cJ cZ h_album h_album_front h_rows h_rows_power h_rule h_rule_lower h_album_wishes h_album_ways h_album_at h_page h_rows_framed f_album_front rows_c rows_w rows_size rows_ring f_rows_power f_rule_lower) H → va_D A (W_X0_moveLeft cI cJ cZ h_album h_album_front h_rows h_rows_power h_rule h_rule_lower h_album_wishes h_album_ways h_album_at h_page h_rows_framed f_album_front rows_c rows_w rows_size rows_ring f_rows_power f_rule_lower) → va_S A s.heap H locs → ∀ ls : Array Slot, lv_has ls 14 [(0, .ref h_album), (1, .int l1), (2, .int l2), (3, .int l3), (4, .int l4), (5, .int l5), (6, .int l6)] → W p l e rm_X0_moveLeft s m args below meth c H locs 0 0 QQ (F0 m 57 ls []) := by
    intro l1 l2 l3 l4 l5 n
    induction n with
    | zero => intro l6 f_album_front hq; exact False.elim hq
    | succ n ih =>
      intro l6 f_album_front hq H locs hP hD hS ls hl
      unfold r_X0_moveLeft_57 at hq
      refine lv_iload hx hb dX0_moveLeft_57 (lv_at hl 6 rfl) ?_
      refine lv_iload_n hx hb dX0_moveLeft_59 rfl (lv_at hl 2 rfl) ?_
      refine lv_icmp_ge (tgt := 203) hx hb dX0_moveLeft_60 (by decide) (fun c4 => ?_) (fun c4 => ?_)
      · replace hq := hq.1 c4
        exact hret f_album_front hq _ _ hP hD hS _ _ dX0_moveLeft_203
      · replace hq := hq.2 c4
        refine lv_iconst (v := (0 : Int32)) hx hb dX0_moveLeft_63 (by decide) ?_
        refine lv_istore (lv' := [(7, .int (0 : Int32)), (0, .ref h_album), (1, .int l1), (2, .int l2), (3, .int l3), (4, .int l4), (5, .int l5), (6, .int l6)]) hx hb dX0_moveLeft_64 hl (by decide) rfl (fun ls hl => ?_)
        exact (C66 _ _ _ _ _ _ ih) _ _ _ hq _ _ hP hD hS _ (lv_sub hl [1, 2, 3, 4, 5, 6, 7, 0] rfl)
  have C57 : ∀ (l1 : Int32) (l2 : Int32) (l3 : Int32) (l4 : Int32) (l5 : Int32) (l6 : Int32) (f_album_front : Nat → Int64), q_X0_moveLeft_57 rows_c rows_w f_rows_power f_rule_lower post l1 l2 l3 l4 l5 l6 f_album_front → ∀ (H : Heap) (locs : List Loc), va_P (dC, dI) vwCl (W_X0_moveLeft cI cJ cZ h_album h_album_front h_rows h_rows_power h_rule h_rule_lower h_album_wishes h_album_ways h_album_at h_page h_rows_framed f_album_front rows_c rows_w rows_size rows_ring f_rows_power f_rule_lower) H → va_D A (W_X0_moveLeft cI cJ cZ h_album h_album_front h_rows h_rows_power h_rule h_rule_lower h_album_wishes h_album_ways h_album_at h_page h_rows_framed f_album_front rows_c rows_w rows_size rows_ring f_rows_power f_rule_lower) → va_S A s.heap H locs → ∀ ls : Array Slot, lv_has ls 14 [(0, .ref h_album), (1, .int l1), (2, .int l2), (3, .int l3), (4, .int l4), (5, .int l5), (6, .int l6)] → W p l e rm_X0_moveLeft s m args below meth c H locs 0 0 QQ (F0 m 57 ls []) := by
    intro l1 l2 l3 l4 l5 l6 f_album_front hq H locs hP hD hS ls hl
    obtain ⟨n, hq⟩ := hq
    exact L57 _ _ _ _ _ n _ _ hq H locs hP hD hS ls hl
  unfold q_X0_moveLeft at hq
  refine lv_aload_n hx hb dX0_moveLeft_0 rfl (lv_at hl 0 rfl) ?_
  refine va_get (D := (dC, dI)) (ci := 0) (v := .ref h_rows) (C := RX0) (T := TX0) (N := 7) hx hb hts hinX0 hown hK hP 0 rfl rfl 0 (by decide) hf36 (fun _ h9 => h9) rfl dX0_moveLeft_1 ?_
  refine va_get (D := (dC, dI)) (ci := 2) (v := .int rows_c) (C := RX2) (T := TX2) (N := 6) hx hb hts hinX2 hown hK hP 2 rfl rfl 0 (by decide) hf95 (fun _ h9 => h9) rfl dX0_moveLeft_4 ?_
  refine lv_istore_n (lv' := [(2, .int rows_c), (0, .ref h_album), (1, .int l1)]) hx hb dX0_moveLeft_7 rfl hl (by decide) rfl (fun ls hl => ?_)
  refine lv_aload_n hx hb dX0_moveLeft_8 rfl (lv_at hl 1 rfl) ?_
  refine va_get (D := (dC, dI)) (ci := 0) (v := .ref h_rows) (C := RX0) (T := TX0) (N := 7) hx hb hts hinX0 hown hK hP 0 rfl rfl 0 (by decide) hf36 (fun _ h9 => h9) rfl dX0_moveLeft_9 ?_
  refine va_get (D := (dC, dI)) (ci := 2) (v := .ref h_rows_power) (C := RX2) (T := TX2) (N := 6) hx hb hts hinX2 hown hK hP 2 rfl rfl 5 (by decide) hf102 (fun _ h9 => h9) rfl dX0_moveLeft_12 ?_
  refine lv_aload_n hx hb dX0_moveLeft_15 rfl (lv_at hl 1 rfl) ?_
  refine va_get (D := (dC, dI)) (ci := 0) (v := .ref h_rows) (C := RX0) (T := TX0) (N := 7) hx hb hts hinX0 hown hK hP 0 rfl rfl 0 (by decide) hf36 (fun _ h9 => h9) rfl dX0_moveLeft_16 ?_
  refine va_get (D := (dC, dI)) (ci := 2) (v := .int rows_w) (C := RX2) (T := TX2) (N := 6) hx hb hts hinX2 hown hK hP 2 rfl rfl 1 (by decide) hf72 (fun _ h9 => h9) rfl dX0_moveLeft_19 ?_
  refine lv_iload_n hx hb dX0_moveLeft_22 rfl (lv_at hl 2 rfl) ?_
  refine lv_isub hx hb dX0_moveLeft_23 ?_
  obtain ⟨hv1, hq⟩ := hq
  refine va_iald hx hb hK hP 3 0 rfl rfl hv1 dX0_moveLeft_24 ?_
  refine lv_istore_n (lv' := [(3, .int (f_rows_power ((rows_w - l1)).toNatClampNeg)), (2, .int rows_c), (0, .ref h_album), (1, .int l1)]) hx hb dX0_moveLeft_25 rfl hl (by decide) rfl (fun ls hl => ?_)
  refine lv_aload_n hx hb dX0_moveLeft_26 rfl (lv_at hl 2 rfl) ?_
  refine va_get (D := (dC, dI)) (ci := 0) (v := .ref h_rows) (C := RX0) (T := TX0) (N := 7) hx hb hts hinX0 hown hK hP 0 rfl rfl 0 (by decide) hf36 (fun _ h9 => h9) rfl dX0_moveLeft_27 ?_
  refine va_get (D := (dC, dI)) (ci := 2) (v := .ref h_rows_power) (C := RX2) (T := TX2) (N := 6) hx hb hts hinX2 hown hK hP 2 rfl rfl 5 (by decide) hf102 (fun _ h9 => h9) rfl dX0_moveLeft_30 ?_
  refine lv_aload_n hx hb dX0_moveLeft_33 rfl (lv_at hl 2 rfl) ?_
  refine va_get (D := (dC, dI)) (ci := 0) (v := .ref h_rows) (C := RX0) (T := TX0) (N := 7) hx hb hts hinX0 hown hK hP 0 rfl rfl 0 (by decide) hf36 (fun _ h9 => h9) rfl dX0_moveLeft_34 ?_
  refine va_get (D := (dC, dI)) (ci := 2) (v := .int rows_w) (C := RX2) (T := TX2) (N := 6) hx hb hts hinX2 hown hK hP 2 rfl rfl 1 (by decide) hf72 (fun _ h9 => h9) rfl dX0_moveLeft_37 ?_
  refine lv_iload_n hx hb dX0_moveLeft_40 rfl (lv_at hl 3 rfl) ?_
  refine lv_isub hx hb dX0_moveLeft_41 ?_
  refine lv_iconst (v := (1 : Int32)) hx hb dX0_moveLeft_42 (by decide) ?_
  refine lv_isub hx hb dX0_moveLeft_43 ?_
  obtain ⟨hv2, hq⟩ := hq
  refine va_iald hx hb hK hP 3 0 rfl rfl hv2 dX0_moveLeft_44 ?_
  refine lv_istore (lv' := [(4, .int (f_rows_power (((rows_w - l1) - (1 : Int32))).toNatClampNeg)), (3, .int (f_rows_power ((rows_w - l1)).toNatClampNeg)), (2, .int rows_c), (0, .ref h_album), (1, .int l1)]) hx hb dX0_moveLeft_45 hl (by decide) rfl (fun ls hl => ?_)
  refine lv_iload_n hx hb dX0_moveLeft_47 rfl (lv_at hl 1 rfl) ?_
  refine lv_iload_n hx hb dX0_moveLeft_48 rfl (lv_at hl 2 rfl) ?_
  refine lv_imul hx hb dX0_moveLeft_49 ?_
  refine lv_iload_n hx hb dX0_moveLeft_50 rfl (lv_at hl 2 rfl) ?_
  refine lv_imul hx hb dX0_moveLeft_51 ?_
  refine lv_topi (fun v3 ev3 => ?_)
  replace hq := hq v3 ev3
  refine lv_istore (lv' := [(5, .int v3), (4, .int (f_rows_power (((rows_w - l1) - (1 : Int32))).toNatClampNeg)), (3, .int (f_rows_power ((rows_w - l1)).toNatClampNeg)), (2, .int rows_c), (0, .ref h_album), (1, .int l1)]) hx hb dX0_moveLeft_52 hl (by decide) rfl (fun ls hl => ?_)
  refine lv_iconst (v := (0 : Int32)) hx hb dX0_moveLeft_54 (by decide) ?_
  refine lv_istore (lv' := [(6, .int (0 : Int32)), (5, .int v3), (4, .int (f_rows_power (((rows_w - l1) - (1 : Int32))).toNatClampNeg)), (3, .int (f_rows_power ((rows_w - l1)).toNatClampNeg)), (2, .int rows_c), (0, .ref h_album), (1, .int l1)]) hx hb dX0_moveLeft_55 hl (by decide) rfl (fun ls hl => ?_)
  exact C57 _ _ _ _ _ _ _ hq _ _ hP hD hS _ (lv_sub hl [5, 6, 4, 3, 2, 1, 0] rfl)

abbrev W_X0_openLeft (cI cJ cZ : ClassId) (h_album h_album_wishes h_album_ways h_album_front h_rows h_rows_framed h_rule h_rule_lower h_album_at h_page h_rows_power : Nat) (f_album_wishes : Nat → Int32) (f_album_ways : Nat → Int64) (f_album_front : Nat → Int64) (rows_c : Int32) (rows_w : Int32) (rows_size : Int32) (rows_ring : Int32) (f_rows_framed : Nat → Int32) (f_rule_lower : Nat → Int32) : va_W := [(h_album, .inr (0, [.ref h_rows, .ref h_rule, .ref h_album_wishes, .ref h_album_ways, .ref h_album_front, .ref h_album_at, .ref h_page])), (h_album_wishes, .inl (cI, 25, .inl f_album_wishes)), (h_album_ways, .inl (cJ, 1215, .inr (.inl f_album_ways))), (h_album_front, .inl (cJ, 729, .inr (.inl f_album_front))), (h_rows, .inr (2, [.int rows_c, .int rows_w, .int rows_size, .int rows_ring, .ref h_rows_framed, .ref h_rows_power])), (h_rows_framed, .inl (cI, 243, .inl f_rows_framed)), (h_rule, .inr (3, [.ref h_rule_lower])), (h_rule_lower, .inl (cI, 16, .inl f_rule_lower))]
abbrev rm_X0_openLeft : Room := { frames := 2, cells := 0, slots := 0, locals := 45 }
def q_X0_openLeft_95 (f_album_wishes : Nat → Int32) (f_album_front : Nat → Int64) (rows_c : Int32) (rows_w : Int32) (rows_size : Int32) (f_rows_framed : Nat → Int32) (f_rule_lower : Nat → Int32) (l1 : Int32) (post : (Nat → Int64) → Prop) (K2 : (Int32) → (Nat → Int64) → Prop) (l2 : Int32) (l3 : Int64) (f_album_ways : Nat → Int64) : Prop := (vp_in ((l1 * (243 : Int32)) + l2) 1215 ∧ (K2 (l2 + (1 : Int32)) (vp_updL f_album_ways (((l1 * (243 : Int32)) + l2)).toNatClampNeg l3)))
def r_X0_openLeft_47 (f_album_wishes : Nat → Int32) (f_album_front : Nat → Int64) (rows_c : Int32) (rows_w : Int32) (rows_size : Int32) (f_rows_framed : Nat → Int32) (f_rule_lower : Nat → Int32) (l1 : Int32) (post : (Nat → Int64) → Prop) (K95 : (Int32) → (Int64) → (Nat → Int64) → Prop) (l2 : Int32) (l5 : Int32) (f_album_ways : Nat → Int64) : Nat → (Int64) → (Int32) → Prop
  | 0, _, _ => False
  | n + 1, l3, l6 => ((rows_c ≤ l6 → (K95 l2 l3 f_album_ways)) ∧ (¬ rows_c ≤ l6 → ((((l5 >>> (l6 &&& 31)) &&& (1 : Int32)) = 0 → ((r_X0_openLeft_47 f_album_wishes f_album_front rows_c rows_w rows_size f_rows_framed f_rule_lower l1 post K95 l2 l5 f_album_ways n) l3 (l6 + (1 : Int32)))) ∧ (¬ ((l5 >>> (l6 &&& 31)) &&& (1 : Int32)) = 0 → (vp_in ((l6 * rows_size) + l2) 729 ∧ (∀ v10 : Int64, v10 = (l3 + (f_album_front (((l6 * rows_size) + l2)).toNatClampNeg)) → ((r_X0_openLeft_47 f_album_wishes f_album_front rows_c rows_w rows_size f_rows_framed f_rule_lower l1 post K95 l2 l5 f_album_ways n) v10 (l6 + (1 : Int32)))))))))
def q_X0_openLeft_47 (f_album_wishes : Nat → Int32) (f_album_front : Nat → Int64) (rows_c : Int32) (rows_w : Int32) (rows_size : Int32) (f_rows_framed : Nat → Int32) (f_rule_lower : Nat → Int32) (l1 : Int32) (post : (Nat → Int64) → Prop) (K2 : (Int32) → (Nat → Int64) → Prop) (l2 : Int32) (l3 : Int64) (l5 : Int32) (l6 : Int32) (f_album_ways : Nat → Int64) : Prop := ∃ n, r_X0_openLeft_47 f_album_wishes f_album_front rows_c rows_w rows_size f_rows_framed f_rule_lower l1 post (q_X0_openLeft_95 f_album_wishes f_album_front rows_c rows_w rows_size f_rows_framed f_rule_lower l1 post K2) l2 l5 f_album_ways n l3 l6
def r_X0_openLeft_2 (f_album_wishes : Nat → Int32) (f_album_front : Nat → Int64) (rows_c : Int32) (rows_w : Int32) (rows_size : Int32) (f_rows_framed : Nat → Int32) (f_rule_lower : Nat → Int32) (post : (Nat → Int64) → Prop) (l1 : Int32) : Nat → (Int32) → (Nat → Int64) → Prop
  | 0, _, _ => False
  | n + 1, l2, f_album_ways => ((rows_size ≤ l2 → (post f_album_ways)) ∧ (¬ rows_size ≤ l2 → (q_X0_isWished f_album_wishes rows_w f_rows_framed l1 l2 (fun (r2 : Int32) => ((r2 = 0 → ((q_X0_openLeft_95 f_album_wishes f_album_front rows_c rows_w rows_size f_rows_framed f_rule_lower l1 post (r_X0_openLeft_2 f_album_wishes f_album_front rows_c rows_w rows_size f_rows_framed f_rule_lower post l1 n)) l2 (0 : Int64) f_album_ways)) ∧ (¬ r2 = 0 → (q_X2_colour rows_w f_rows_framed l2 (0 : Int32) (fun (r5 : Int32) => (q_X3_corners f_rule_lower (3 : Int32) r5 (3 : Int32) (fun (r6 : Int32) => ((q_X0_openLeft_47 f_album_wishes f_album_front rows_c rows_w rows_size f_rows_framed f_rule_lower l1 post (r_X0_openLeft_2 f_album_wishes f_album_front rows_c rows_w rows_size f_rows_framed f_rule_lower post l1 n)) l2 (0 : Int64) r6 (0 : Int32) f_album_ways)))))))))))
def q_X0_openLeft_2 (f_album_wishes : Nat → Int32) (f_album_front : Nat → Int64) (rows_c : Int32) (rows_w : Int32) (rows_size : Int32) (f_rows_framed : Nat → Int32) (f_rule_lower : Nat → Int32) (post : (Nat → Int64) → Prop) (l1 : Int32) (l2 : Int32) (f_album_ways : Nat → Int64) : Prop := ∃ n, r_X0_openLeft_2 f_album_wishes f_album_front rows_c rows_w rows_size f_rows_framed f_rule_lower post l1 n l2 f_album_ways
def q_X0_openLeft (f_album_wishes : Nat → Int32) (f_album_front : Nat → Int64) (rows_c : Int32) (rows_w : Int32) (rows_size : Int32) (f_rows_framed : Nat → Int32) (f_rule_lower : Nat → Int32) (f_album_ways : Nat → Int64) (l1 : Int32) (post : (Nat → Int64) → Prop) : Prop := ((q_X0_openLeft_2 f_album_wishes f_album_front rows_c rows_w rows_size f_rows_framed f_rule_lower post) l1 (0 : Int32) f_album_ways)
theorem hdV_X0_openLeft : yX0_openLeft.cls = RX0 ∧ yX0_openLeft.cls ≠ "java/lang/invoke/MethodHandle" ∧ yX0_openLeft.cls ≠ "java/lang/invoke/VarHandle" ∧ (parseMethodDescriptor yX0_openLeft.desc).map (fun d => d.parameters.length) = some 1 := by decide +kernel
set_option maxHeartbeats 4000000 in
set_option maxRecDepth 100000 in
theorem c_X0_openLeft (l : Launch) (dC : Nat → ClassId) (dI : Nat → Nat → Nat) (cI cJ cZ : ClassId) (h_album h_album_wishes h_album_ways h_album_front h_rows h_rows_framed h_rule h_rule_lower h_album_at h_page h_rows_power : Nat) (sz : Nat) (f_album_wishes : Nat → Int32) (f_album_ways : Nat → Int64) (f_album_front : Nat → Int64) (rows_c : Int32) (rows_w : Int32) (rows_size : Int32) (rows_ring : Int32) (f_rows_framed : Nat → Int32) (f_rule_lower : Nat → Int32) (l1 : Int32) {post : (Nat → Int64) → Prop} (hq : q_X0_openLeft f_album_wishes f_album_front rows_c rows_w rows_size f_rows_framed f_rule_lower f_album_ways l1 post) : Met l yX0_openLeft wsX0_openLeft rm_X0_openLeft (va_Pc [.ref h_album, .int l1] (gx_Pre (dC, dI) vwCl (gx_tys cI cJ cZ) sz (W_X0_openLeft cI cJ cZ h_album h_album_wishes h_album_ways h_album_front h_rows h_rows_framed h_rule h_rule_lower h_album_at h_page h_rows_power f_album_wishes f_album_ways f_album_front rows_c rows_w rows_size rows_ring f_rows_framed f_rule_lower))) (va_Qv (fun (u : (Nat → Int64)) => post u) (gx_B (dC, dI) vwCl (gx_tys cI cJ cZ) (va_A (W_X0_openLeft cI cJ cZ h_album h_album_wishes h_album_ways h_album_front h_rows h_rows_framed h_rule h_rule_lower h_album_at h_page h_rows_power f_album_wishes f_album_ways f_album_front rows_c rows_w rows_size rows_ring f_rows_framed f_rule_lower) sz) (fun (u : (Nat → Int64)) => (W_X0_openLeft cI cJ cZ h_album h_album_wishes h_album_ways h_album_front h_rows h_rows_framed h_rule h_rule_lower h_album_at h_page h_rows_power f_album_wishes u f_album_front rows_c rows_w rows_size rows_ring f_rows_framed f_rule_lower))) (va_A (W_X0_openLeft cI cJ cZ h_album h_album_wishes h_album_ways h_album_front h_rows h_rows_framed h_rule h_rule_lower h_album_at h_page h_rows_power f_album_wishes f_album_ways f_album_front rows_c rows_w rows_size rows_ring f_rows_framed f_rule_lower) sz)) 0 0 (va_A (W_X0_openLeft cI cJ cZ h_album h_album_wishes h_album_ways h_album_front h_rows h_rows_framed h_rule h_rule_lower h_album_at h_page h_rows_power f_album_wishes f_album_ways f_album_front rows_c rows_w rows_size rows_ring f_rows_framed f_rule_lower) sz) := by
  refine gx_v (cc := cX0_openLeft) (maxL := 7) (by decide) rfl (Nat.le_of_ble_eq_true rfl) ?_
  intro p e s m args below meth c A QQ hx hb hml hown hts hA hP hK hD hret ls hl
  have hown : s.vm.findClass RX0 = some m.cls := hown
  have hf36 := hts (.fieldLink RX0 36 "SmallWindows$Album" "rows" "LSmallWindows$Rows;") (by decide +kernel)
  have hf59 := hts (.fieldLink RX0 59 "SmallWindows$Rows" "size" "I") (by decide +kernel)
  have hf15 := hts (.fieldLink RX0 15 "SmallWindows$Album" "ways" "[J") (by decide +kernel)
  have hf32 := hts (.fieldLink RX0 32 "SmallWindows$Album" "rule" "LSmallWindows$Rule;") (by decide +kernel)
  have hf95 := hts (.fieldLink RX0 95 "SmallWindows$Rows" "c" "I") (by decide +kernel)
  have hf19 := hts (.fieldLink RX0 19 "SmallWindows$Album" "front" "[J") (by decide +kernel)
  have hinX0 : ∀ w ∈ u_ws RX0 TX0 7, w ∈ wsX0_openLeft := fun w h => List.mem_cons_of_mem _ ((List.mem_append_left _ (List.mem_append_left _ (List.mem_append_right _ h))))
  have hinX2 : ∀ w ∈ u_ws RX2 TX2 6, w ∈ wsX0_openLeft := fun w h => List.mem_cons_of_mem _ ((List.mem_append_left _ (List.mem_append_right _ h)))
  have hS : va_S A s.heap s.heap [] := va_S.rf
  have hl : lv_has ls 7 [(0, .ref h_album), (1, .int l1)] := hl
  have C95 : ∀ (l1 : Int32) (K2 : (Int32) → (Nat → Int64) → Prop) (hK2 : (∀ (l2 : Int32) (f_album_ways : Nat → Int64), K2 l2 f_album_ways → ∀ (H : Heap) (locs : List Loc), va_P (dC, dI) vwCl (W_X0_openLeft cI cJ cZ h_album h_album_wishes h_album_ways h_album_front h_rows h_rows_framed h_rule h_rule_lower h_album_at h_page h_rows_power f_album_wishes f_album_ways f_album_front rows_c rows_w rows_size rows_ring f_rows_framed f_rule_lower) H → va_D A (W_X0_openLeft cI cJ cZ h_album h_album_wishes h_album_ways h_album_front h_rows h_rows_framed h_rule h_rule_lower h_album_at h_page h_rows_power f_album_wishes f_album_ways f_album_front rows_c rows_w rows_size rows_ring f_rows_framed f_rule_lower) → va_S A s.heap H locs → ∀ ls : Array Slot, lv_has ls 7 [(0, .ref h_album), (1, .int l1), (2, .int l2)] → W p l e rm_X0_openLeft s m args below meth c H locs 0 0 QQ (F0 m 2 ls []))) (l2 : Int32) (l3 : Int64) (f_album_ways : Nat → Int64), q_X0_openLeft_95 f_album_wishes f_album_front rows_c rows_w rows_size f_rows_framed f_rule_lower l1 post K2 l2 l3 f_album_ways → ∀ (H : Heap) (locs : List Loc), va_P (dC, dI) vwCl (W_X0_openLeft cI cJ cZ h_album h_album_wishes h_album_ways h_album_front h_rows h_rows_framed h_rule h_rule_lower h_album_at h_page h_rows_power f_album_wishes f_album_ways f_album_front rows_c rows_w rows_size rows_ring f_rows_framed f_rule_lower) H → va_D A (W_X0_openLeft cI cJ cZ h_album h_album_wishes h_album_ways h_album_front h_rows h_rows_framed h_rule h_rule_lower h_album_at h_page h_rows_power f_album_wishes f_album_ways f_album_front rows_c rows_w rows_size rows_ring f_rows_framed f_rule_lower) → va_S A s.heap H locs → ∀ ls : Array Slot, lv_has ls 7 [(0, .ref h_album), (1, .int l1), (2, .int l2), (3, .long l3)] → W p l e rm_X0_openLeft s m args below meth c H locs 0 0 QQ (F0 m 95 ls []) := by
    intro l1 K2 hK2 l2 l3 f_album_ways hq H locs hP hD hS ls hl
    unfold q_X0_openLeft_95 at hq
    refine lv_aload_n hx hb dX0_openLeft_95 rfl (lv_at hl 0 rfl) ?_
    refine va_get (D := (dC, dI)) (ci := 0) (v := .ref h_album_ways) (C := RX0) (T := TX0) (N := 7) hx hb hts hinX0 hown hK hP 0 rfl rfl 3 (by decide) hf15 (fun _ h9 => h9) rfl dX0_openLeft_96 ?_
    refine lv_iload_n hx hb dX0_openLeft_99 rfl (lv_at hl 1 rfl) ?_
    refine lv_sipush (v := (243 : Int32)) hx hb dX0_openLeft_100 (by decide) ?_
    refine lv_imul hx hb dX0_openLeft_103 ?_
    refine lv_iload_n hx hb dX0_openLeft_104 rfl (lv_at hl 2 rfl) ?_
    refine lv_iadd hx hb dX0_openLeft_105 ?_
    refine lv_lload_n hx hb dX0_openLeft_106 rfl (lv_at hl 3 rfl) ?_
    obtain ⟨hv4, hq⟩ := hq
    refine va_last hx hb hK hP hD hS 2 1 rfl rfl hv4 dX0_openLeft_107 (fun H locs hP hD hS => ?_)
    have hP : va_P (dC, dI) vwCl (W_X0_openLeft cI cJ cZ h_album h_album_wishes h_album_ways h_album_front h_rows h_rows_framed h_rule h_rule_lower h_album_at h_page h_rows_power f_album_wishes (vp_updL f_album_ways (((l1 * (243 : Int32)) + l2)).toNatClampNeg l3) f_album_front rows_c rows_w rows_size rows_ring f_rows_framed f_rule_lower) H := hP
    have hD : va_D A (W_X0_openLeft cI cJ cZ h_album h_album_wishes h_album_ways h_album_front h_rows h_rows_framed h_rule h_rule_lower h_album_at h_page h_rows_power f_album_wishes (vp_updL f_album_ways (((l1 * (243 : Int32)) + l2)).toNatClampNeg l3) f_album_front rows_c rows_w rows_size rows_ring f_rows_framed f_rule_lower) := hD
    refine lv_iinc (v := (l2 + (1 : Int32))) (lv' := [(2, .int (l2 + (1 : Int32))), (0, .ref h_album), (1, .int l1), (3, .long l3)]) hx hb dX0_openLeft_108 hl (k := 2) rfl rfl (by decide) rfl (fun ls hl => ?_)
    refine lv_goto (tgt := 2) hx hb dX0_openLeft_111 (by decide) ?_
    exact hK2 _ _ hq _ _ hP hD hS _ (lv_sub hl [1, 2, 0] rfl)
  have L47 : ∀ (l1 : Int32) (K95 : (Int32) → (Int64) → (Nat → Int64) → Prop) (hK95 : (∀ (l2 : Int32) (l3 : Int64) (f_album_ways : Nat → Int64), K95 l2 l3 f_album_ways → ∀ (H : Heap) (locs : List Loc), va_P (dC, dI) vwCl (W_X0_openLeft cI cJ cZ h_album h_album_wishes h_album_ways h_album_front h_rows h_rows_framed h_rule h_rule_lower h_album_at h_page h_rows_power f_album_wishes f_album_ways f_album_front rows_c rows_w rows_size rows_ring f_rows_framed f_rule_lower) H → va_D A (W_X0_openLeft cI cJ cZ h_album h_album_wishes h_album_ways h_album_front h_rows h_rows_framed h_rule h_rule_lower h_album_at h_page h_rows_power f_album_wishes f_album_ways f_album_front rows_c rows_w rows_size rows_ring f_rows_framed f_rule_lower) → va_S A s.heap H locs → ∀ ls : Array Slot, lv_has ls 7 [(0, .ref h_album), (1, .int l1), (2, .int l2), (3, .long l3)] → W p l e rm_X0_openLeft s m args below meth c H locs 0 0 QQ (F0 m 95 ls []))) (l2 : Int32) (l5 : Int32) (f_album_ways : Nat → Int64) (n : Nat) (l3 : Int64) (l6 : Int32), r_X0_openLeft_47 f_album_wishes f_album_front rows_c rows_w rows_size f_rows_framed f_rule_lower l1 post K95 l2 l5 f_album_ways n l3 l6 → ∀ (H : Heap) (locs : List Loc), va_P (dC, dI) vwCl (W_X0_openLeft cI cJ cZ h_album h_album_wishes h_album_ways h_album_front h_rows h_rows_framed h_rule h_rule_lower h_album_at h_page h_rows_power f_album_wishes f_album_ways f_album_front rows_c rows_w rows_size rows_ring f_rows_framed f_rule_lower) H → va_D A (W_X0_openLeft cI cJ cZ h_album h_album_wishes h_album_ways h_album_front h_rows h_rows_framed h_rule h_rule_lower h_album_at h_page h_rows_power f_album_wishes f_album_ways f_album_front rows_c rows_w rows_size rows_ring f_rows_framed f_rule_lower) → va_S A s.heap H locs → ∀ ls : Array Slot, lv_has ls 7 [(0, .ref h_album), (1, .int l1), (2, .int l2), (3, .long l3), (5, .int l5), (6, .int l6)] → W p l e rm_X0_openLeft s m args below meth c H locs 0 0 QQ (F0 m 47 ls []) := by
    intro l1 K95 hK95 l2 l5 f_album_ways n
    induction n with
    | zero => intro l3 l6 hq; exact False.elim hq
    | succ n ih =>
      intro l3 l6 hq H locs hP hD hS ls hl
      unfold r_X0_openLeft_47 at hq
      refine lv_iload hx hb dX0_openLeft_47 (lv_at hl 5 rfl) ?_
      refine lv_aload_n hx hb dX0_openLeft_49 rfl (lv_at hl 0 rfl) ?_
      refine va_get (D := (dC, dI)) (ci := 0) (v := .ref h_rows) (C := RX0) (T := TX0) (N := 7) hx hb hts hinX0 hown hK hP 0 rfl rfl 0 (by decide) hf36 (fun _ h9 => h9) rfl dX0_openLeft_50 ?_
      refine va_get (D := (dC, dI)) (ci := 2) (v := .int rows_c) (C := RX2) (T := TX2) (N := 6) hx hb hts hinX2 hown hK hP 4 rfl rfl 0 (by decide) hf95 (fun _ h9 => h9) rfl dX0_openLeft_53 ?_
      refine lv_icmp_ge (tgt := 95) hx hb dX0_openLeft_56 (by decide) (fun c7 => ?_) (fun c7 => ?_)
      · replace hq := hq.1 c7
        exact hK95 _ _ _ hq _ _ hP hD hS _ (lv_sub hl [0, 1, 2, 3] rfl)
      · replace hq := hq.2 c7
        refine lv_iload hx hb dX0_openLeft_59 (lv_at hl 4 rfl) ?_
        refine lv_iload hx hb dX0_openLeft_61 (lv_at hl 5 rfl) ?_
        refine lv_ishr hx hb dX0_openLeft_63 ?_
        refine lv_iconst (v := (1 : Int32)) hx hb dX0_openLeft_64 (by decide) ?_
        refine lv_iand hx hb dX0_openLeft_65 ?_
        refine lv_if_eq (tgt := 89) hx hb dX0_openLeft_66 (by decide) (fun c8 => ?_) (fun c8 => ?_)
        · replace hq := hq.1 c8
          refine lv_iinc (v := (l6 + (1 : Int32))) (lv' := [(6, .int (l6 + (1 : Int32))), (0, .ref h_album), (1, .int l1), (2, .int l2), (3, .long l3), (5, .int l5)]) hx hb dX0_openLeft_89 hl (k := 5) rfl rfl (by decide) rfl (fun ls hl => ?_)
          refine lv_goto (tgt := 47) hx hb dX0_openLeft_92 (by decide) ?_
          exact ih _ _ hq _ _ hP hD hS _ (lv_sub hl [1, 2, 3, 4, 5, 0] rfl)
        · replace hq := hq.2 c8
          refine lv_lload_n hx hb dX0_openLeft_69 rfl (lv_at hl 3 rfl) ?_
          refine lv_aload_n hx hb dX0_openLeft_70 rfl (lv_at hl 0 rfl) ?_
          refine va_get (D := (dC, dI)) (ci := 0) (v := .ref h_album_front) (C := RX0) (T := TX0) (N := 7) hx hb hts hinX0 hown hK hP 0 rfl rfl 4 (by decide) hf19 (fun _ h9 => h9) rfl dX0_openLeft_71 ?_
          refine lv_iload hx hb dX0_openLeft_74 (lv_at hl 5 rfl) ?_
          refine lv_aload_n hx hb dX0_openLeft_76 rfl (lv_at hl 0 rfl) ?_
          refine va_get (D := (dC, dI)) (ci := 0) (v := .ref h_rows) (C := RX0) (T := TX0) (N := 7) hx hb hts hinX0 hown hK hP 0 rfl rfl 0 (by decide) hf36 (fun _ h9 => h9) rfl dX0_openLeft_77 ?_
          refine va_get (D := (dC, dI)) (ci := 2) (v := .int rows_size) (C := RX2) (T := TX2) (N := 6) hx hb hts hinX2 hown hK hP 4 rfl rfl 2 (by decide) hf59 (fun _ h9 => h9) rfl dX0_openLeft_80 ?_
          refine lv_imul hx hb dX0_openLeft_83 ?_
          refine lv_iload_n hx hb dX0_openLeft_84 rfl (lv_at hl 2 rfl) ?_
          refine lv_iadd hx hb dX0_openLeft_85 ?_
          obtain ⟨hv9, hq⟩ := hq
          refine va_lald hx hb hK hP 3 1 rfl rfl hv9 dX0_openLeft_86 ?_
          refine lv_ladd hx hb dX0_openLeft_87 ?_
          refine lv_topl (fun v10 ev10 => ?_)
          replace hq := hq v10 ev10
          refine lv_lstore_n (lv' := [(3, .long v10), (0, .ref h_album), (1, .int l1), (2, .int l2), (5, .int l5), (6, .int l6)]) hx hb dX0_openLeft_88 rfl hl (by decide) rfl (fun ls hl => ?_)
          refine lv_iinc (v := (l6 + (1 : Int32))) (lv' := [(6, .int (l6 + (1 : Int32))), (3, .long v10), (0, .ref h_album), (1, .int l1), (2, .int l2), (5, .int l5)]) hx hb dX0_openLeft_89 hl (k := 5) rfl rfl (by decide) rfl (fun ls hl => ?_)
          refine lv_goto (tgt := 47) hx hb dX0_openLeft_92 (by decide) ?_
          exact ih _ _ hq _ _ hP hD hS _ (lv_sub hl [2, 3, 4, 1, 5, 0] rfl)
  have C47 : ∀ (l1 : Int32) (K2 : (Int32) → (Nat → Int64) → Prop) (hK2 : (∀ (l2 : Int32) (f_album_ways : Nat → Int64), K2 l2 f_album_ways → ∀ (H : Heap) (locs : List Loc), va_P (dC, dI) vwCl (W_X0_openLeft cI cJ cZ h_album h_album_wishes h_album_ways h_album_front h_rows h_rows_framed h_rule h_rule_lower h_album_at h_page h_rows_power f_album_wishes f_album_ways f_album_front rows_c rows_w rows_size rows_ring f_rows_framed f_rule_lower) H → va_D A (W_X0_openLeft cI cJ cZ h_album h_album_wishes h_album_ways h_album_front h_rows h_rows_framed h_rule h_rule_lower h_album_at h_page h_rows_power f_album_wishes f_album_ways f_album_front rows_c rows_w rows_size rows_ring f_rows_framed f_rule_lower) → va_S A s.heap H locs → ∀ ls : Array Slot, lv_has ls 7 [(0, .ref h_album), (1, .int l1), (2, .int l2)] → W p l e rm_X0_openLeft s m args below meth c H locs 0 0 QQ (F0 m 2 ls []))) (l2 : Int32) (l3 : Int64) (l5 : Int32) (l6 : Int32) (f_album_ways : Nat → Int64), q_X0_openLeft_47 f_album_wishes f_album_front rows_c rows_w rows_size f_rows_framed f_rule_lower l1 post K2 l2 l3 l5 l6 f_album_ways → ∀ (H : Heap) (locs : List Loc), va_P (dC, dI) vwCl (W_X0_openLeft cI cJ cZ h_album h_album_wishes h_album_ways h_album_front h_rows h_rows_framed h_rule h_rule_lower h_album_at h_page h_rows_power f_album_wishes f_album_ways f_album_front rows_c rows_w rows_size rows_ring f_rows_framed f_rule_lower) H → va_D A (W_X0_openLeft cI cJ cZ h_album h_album_wishes h_album_ways h_album_front h_rows h_rows_framed h_rule h_rule_lower h_album_at h_page h_rows_power f_album_wishes f_album_ways f_album_front rows_c rows_w rows_size rows_ring f_rows_framed f_rule_lower) → va_S A s.heap H locs → ∀ ls : Array Slot, lv_has ls 7 [(0, .ref h_album), (1, .int l1), (2, .int l2), (3, .long l3), (5, .int l5), (6, .int l6)] → W p l e rm_X0_openLeft s m args below meth c H locs 0 0 QQ (F0 m 47 ls []) := by
    intro l1 K2 hK2 l2 l3 l5 l6 f_album_ways hq H locs hP hD hS ls hl
    obtain ⟨n, hq⟩ := hq
    exact L47 _ _ (C95 _ _ hK2) _ _ _ n _ _ hq H locs hP hD hS ls hl
  have L2 : ∀ (l1 : Int32) (n : Nat) (l2 : Int32) (f_album_ways : Nat → Int64), r_X0_openLeft_2 f_album_wishes f_album_front rows_c rows_w rows_size f_rows_framed f_rule_lower post l1 n l2 f_album_ways → ∀ (H : Heap) (locs : List Loc), va_P (dC, dI) vwCl (W_X0_openLeft cI cJ cZ h_album h_album_wishes h_album_ways h_album_front h_rows h_rows_framed h_rule h_rule_lower h_album_at h_page h_rows_power f_album_wishes f_album_ways f_album_front rows_c rows_w rows_size rows_ring f_rows_framed f_rule_lower) H → va_D A (W_X0_openLeft cI cJ cZ h_album h_album_wishes h_album_ways h_album_front h_rows h_rows_framed h_rule h_rule_lower h_album_at h_page h_rows_power f_album_wishes f_album_ways f_album_front rows_c rows_w rows_size rows_ring f_rows_framed f_rule_lower) → va_S A s.heap H locs → ∀ ls : Array Slot, lv_has ls 7 [(0, .ref h_album), (1, .int l1), (2, .int l2)] → W p l e rm_X0_openLeft s m args below meth c H locs 0 0 QQ (F0 m 2 ls []) := by
    intro l1 n
    induction n with
    | zero => intro l2 f_album_ways hq; exact False.elim hq
    | succ n ih =>
      intro l2 f_album_ways hq H locs hP hD hS ls hl
      unfold r_X0_openLeft_2 at hq
      refine lv_iload_n hx hb dX0_openLeft_2 rfl (lv_at hl 2 rfl) ?_
      refine lv_aload_n hx hb dX0_openLeft_3 rfl (lv_at hl 0 rfl) ?_
      refine va_get (D := (dC, dI)) (ci := 0) (v := .ref h_rows) (C := RX0) (T := TX0) (N := 7) hx hb hts hinX0 hown hK hP 0 rfl rfl 0 (by decide) hf36 (fun _ h9 => h9) rfl dX0_openLeft_4 ?_
      refine va_get (D := (dC, dI)) (ci := 2) (v := .int rows_size) (C := RX2) (T := TX2) (N := 6) hx hb hts hinX2 hown hK hP 4 rfl rfl 2 (by decide) hf59 (fun _ h9 => h9) rfl dX0_openLeft_7 ?_
      refine lv_icmp_ge (tgt := 114) hx hb dX0_openLeft_10 (by decide) (fun c1 => ?_) (fun c1 => ?_)
      · replace hq := hq.1 c1
        exact hret f_album_ways hq _ _ hP hD hS _ _ dX0_openLeft_114
      · replace hq := hq.2 c1
        refine lv_lconst (v := (0 : Int64)) hx hb dX0_openLeft_13 (by decide) ?_
        refine lv_lstore_n (lv' := [(3, .long (0 : Int64)), (0, .ref h_album), (1, .int l1), (2, .int l2)]) hx hb dX0_openLeft_14 rfl hl (by decide) rfl (fun ls hl => ?_)
        refine lv_aload_n hx hb dX0_openLeft_15 rfl (lv_at hl 1 rfl) ?_
        refine lv_iload_n hx hb dX0_openLeft_16 rfl (lv_at hl 2 rfl) ?_
        refine lv_iload_n hx hb dX0_openLeft_17 rfl (lv_at hl 3 rfl) ?_
        refine gx_cVi (C := RX0) (As := [.int l1, .int l2]) (rest := []) ⟨hx, hb, hml, hown, hts⟩ (c_X0_isWished l dC dI cI cJ cZ h_album h_album_wishes h_rows h_rows_framed h_rule h_album_ways h_album_front h_album_at h_page h_rows_power H.size f_album_wishes rows_c rows_w rows_size rows_ring f_rows_framed l1 l2 hq) (cwV 2 hts gX0_openLeft_X0_isWished rfl rfl rfl hdV_X0_isWished ⟨Nat.le_of_ble_eq_true rfl, Nat.le_of_ble_eq_true rfl⟩) hK hP hD hS hA [0, 1, 4, 5] [2, 3, 6, 7] rfl rfl rfl rfl rfl (ci := 0) (q0 := 0) rfl rfl rfl rfl hl.1 (Nat.le_of_ble_eq_true rfl) dX0_openLeft_18 rfl (fun r2 u H locs hq hP hD hS => ?_)
        try dsimp only at hq
        have hP : va_P (dC, dI) vwCl (W_X0_openLeft cI cJ cZ h_album h_album_wishes h_album_ways h_album_front h_rows h_rows_framed h_rule h_rule_lower h_album_at h_page h_rows_power f_album_wishes f_album_ways f_album_front rows_c rows_w rows_size rows_ring f_rows_framed f_rule_lower) H := hP.sub [4, 5, 0, 1, 6, 7, 2, 3] rfl
        have hD : va_D A (W_X0_openLeft cI cJ cZ h_album h_album_wishes h_album_ways h_album_front h_rows h_rows_framed h_rule h_rule_lower h_album_at h_page h_rows_power f_album_wishes f_album_ways f_album_front rows_c rows_w rows_size rows_ring f_rows_framed f_rule_lower) := hD.sub [4, 5, 0, 1, 6, 7, 2, 3] (by decide) rfl
        refine lv_if_eq (tgt := 95) hx hb dX0_openLeft_21 (by decide) (fun c3 => ?_) (fun c3 => ?_)
        · replace hq := hq.1 c3
          exact (C95 _ _ ih) _ _ _ hq _ _ hP hD hS _ (lv_sub hl [1, 2, 3, 0] rfl)
        · replace hq := hq.2 c3
          refine lv_aload_n hx hb dX0_openLeft_24 rfl (lv_at hl 1 rfl) ?_
          refine va_get (D := (dC, dI)) (ci := 0) (v := .ref h_rule) (C := RX0) (T := TX0) (N := 7) hx hb hts hinX0 hown hK hP 0 rfl rfl 1 (by decide) hf32 (fun _ h9 => h9) rfl dX0_openLeft_25 ?_
          refine lv_iconst (v := (3 : Int32)) hx hb dX0_openLeft_28 (by decide) ?_
          refine lv_aload_n hx hb dX0_openLeft_29 rfl (lv_at hl 1 rfl) ?_
          refine va_get (D := (dC, dI)) (ci := 0) (v := .ref h_rows) (C := RX0) (T := TX0) (N := 7) hx hb hts hinX0 hown hK hP 0 rfl rfl 0 (by decide) hf36 (fun _ h9 => h9) rfl dX0_openLeft_30 ?_
          refine lv_iload_n hx hb dX0_openLeft_33 rfl (lv_at hl 3 rfl) ?_
          refine lv_iconst (v := (0 : Int32)) hx hb dX0_openLeft_34 (by decide) ?_
          refine gx_cVi (C := RX2) (As := [.int l2, .int (0 : Int32)]) (rest := [.int (3 : Int32), .ref h_rule]) ⟨hx, hb, hml, hown, hts⟩ (c_X2_colour l dC dI cI cJ cZ h_rows h_rows_framed h_rows_power H.size rows_c rows_w rows_size rows_ring f_rows_framed l2 (0 : Int32) hq) (cwV 2 hts gX0_openLeft_X2_colour rfl rfl rfl hdV_X2_colour ⟨Nat.le_of_ble_eq_true rfl, Nat.le_of_ble_eq_true rfl⟩) hK hP hD hS hA [4, 5] [0, 1, 2, 3, 6, 7] rfl rfl rfl rfl rfl (ci := 2) (q0 := 0) rfl rfl rfl rfl hl.1 (Nat.le_of_ble_eq_true rfl) dX0_openLeft_35 rfl (fun r5 u H locs hq hP hD hS => ?_)
          try dsimp only at hq
          have hP : va_P (dC, dI) vwCl (W_X0_openLeft cI cJ cZ h_album h_album_wishes h_album_ways h_album_front h_rows h_rows_framed h_rule h_rule_lower h_album_at h_page h_rows_power f_album_wishes f_album_ways f_album_front rows_c rows_w rows_size rows_ring f_rows_framed f_rule_lower) H := hP.sub [0, 1, 2, 3, 6, 7, 4, 5] rfl
          have hD : va_D A (W_X0_openLeft cI cJ cZ h_album h_album_wishes h_album_ways h_album_front h_rows h_rows_framed h_rule h_rule_lower h_album_at h_page h_rows_power f_album_wishes f_album_ways f_album_front rows_c rows_w rows_size rows_ring f_rows_framed f_rule_lower) := hD.sub [0, 1, 2, 3, 6, 7, 4, 5] (by decide) rfl
          refine lv_iconst (v := (3 : Int32)) hx hb dX0_openLeft_38 (by decide) ?_
          refine gx_cVi (C := RX3) (As := [.int (3 : Int32), .int r5, .int (3 : Int32)]) (rest := []) ⟨hx, hb, hml, hown, hts⟩ (c_X3_corners l dC dI cI cJ cZ h_rule h_rule_lower H.size f_rule_lower (3 : Int32) r5 (3 : Int32) hq) (cwV 3 hts gX0_openLeft_X3_corners rfl rfl rfl hdV_X3_corners ⟨Nat.le_of_ble_eq_true rfl, Nat.le_of_ble_eq_true rfl⟩) hK hP hD hS hA [6, 7] [0, 1, 2, 3, 4, 5] rfl rfl rfl rfl rfl (ci := 3) (q0 := 0) rfl rfl rfl rfl hl.1 (Nat.le_of_ble_eq_true rfl) dX0_openLeft_39 rfl (fun r6 u H locs hq hP hD hS => ?_)
          try dsimp only at hq
          have hP : va_P (dC, dI) vwCl (W_X0_openLeft cI cJ cZ h_album h_album_wishes h_album_ways h_album_front h_rows h_rows_framed h_rule h_rule_lower h_album_at h_page h_rows_power f_album_wishes f_album_ways f_album_front rows_c rows_w rows_size rows_ring f_rows_framed f_rule_lower) H := hP
          have hD : va_D A (W_X0_openLeft cI cJ cZ h_album h_album_wishes h_album_ways h_album_front h_rows h_rows_framed h_rule h_rule_lower h_album_at h_page h_rows_power f_album_wishes f_album_ways f_album_front rows_c rows_w rows_size rows_ring f_rows_framed f_rule_lower) := hD
          refine lv_istore (lv' := [(5, .int r6), (3, .long (0 : Int64)), (0, .ref h_album), (1, .int l1), (2, .int l2)]) hx hb dX0_openLeft_42 hl (by decide) rfl (fun ls hl => ?_)
          refine lv_iconst (v := (0 : Int32)) hx hb dX0_openLeft_44 (by decide) ?_
          refine lv_istore (lv' := [(6, .int (0 : Int32)), (5, .int r6), (3, .long (0 : Int64)), (0, .ref h_album), (1, .int l1), (2, .int l2)]) hx hb dX0_openLeft_45 hl (by decide) rfl (fun ls hl => ?_)
          exact (C47 _ _ ih) _ _ _ _ _ hq _ _ hP hD hS _ (lv_sub hl [3, 4, 5, 2, 1, 0] rfl)
  have C2 : ∀ (l1 : Int32) (l2 : Int32) (f_album_ways : Nat → Int64), q_X0_openLeft_2 f_album_wishes f_album_front rows_c rows_w rows_size f_rows_framed f_rule_lower post l1 l2 f_album_ways → ∀ (H : Heap) (locs : List Loc), va_P (dC, dI) vwCl (W_X0_openLeft cI cJ cZ h_album h_album_wishes h_album_ways h_album_front h_rows h_rows_framed h_rule h_rule_lower h_album_at h_page h_rows_power f_album_wishes f_album_ways f_album_front rows_c rows_w rows_size rows_ring f_rows_framed f_rule_lower) H → va_D A (W_X0_openLeft cI cJ cZ h_album h_album_wishes h_album_ways h_album_front h_rows h_rows_framed h_rule h_rule_lower h_album_at h_page h_rows_power f_album_wishes f_album_ways f_album_front rows_c rows_w rows_size rows_ring f_rows_framed f_rule_lower) → va_S A s.heap H locs → ∀ ls : Array Slot, lv_has ls 7 [(0, .ref h_album), (1, .int l1), (2, .int l2)] → W p l e rm_X0_openLeft s m args below meth c H locs 0 0 QQ (F0 m 2 ls []) := by
    intro l1 l2 f_album_ways hq H locs hP hD hS ls hl
    obtain ⟨n, hq⟩ := hq
    exact L2 _ n _ _ hq H locs hP hD hS ls hl
  unfold q_X0_openLeft at hq
  refine lv_iconst (v := (0 : Int32)) hx hb dX0_openLeft_0 (by decide) ?_
  refine lv_istore_n (lv' := [(2, .int (0 : Int32)), (0, .ref h_album), (1, .int l1)]) hx hb dX0_openLeft_1 rfl hl (by decide) rfl (fun ls hl => ?_)
  exact C2 _ _ _ hq _ _ hP hD hS _ (lv_sub hl [1, 2, 0] rfl)

abbrev W_X0_fill (cI cJ cZ : ClassId) (h_album h_album_wishes h_album_ways h_album_front h_rows h_rows_framed h_rows_power h_rule h_rule_lower h_page h_album_at h_page_cells : Nat) (f_album_wishes : Nat → Int32) (f_album_ways : Nat → Int64) (f_album_front : Nat → Int64) (rows_c : Int32) (rows_w : Int32) (rows_size : Int32) (rows_ring : Int32) (f_rows_framed : Nat → Int32) (f_rows_power : Nat → Int32) (f_rule_lower : Nat → Int32) (page_h : Int32) (page_w : Int32) : va_W := [(h_album, .inr (0, [.ref h_rows, .ref h_rule, .ref h_album_wishes, .ref h_album_ways, .ref h_album_front, .ref h_album_at, .ref h_page])), (h_album_wishes, .inl (cI, 25, .inl f_album_wishes)), (h_album_ways, .inl (cJ, 1215, .inr (.inl f_album_ways))), (h_album_front, .inl (cJ, 729, .inr (.inl f_album_front))), (h_rows, .inr (2, [.int rows_c, .int rows_w, .int rows_size, .int rows_ring, .ref h_rows_framed, .ref h_rows_power])), (h_rows_framed, .inl (cI, 243, .inl f_rows_framed)), (h_rows_power, .inl (cI, 7, .inl f_rows_power)), (h_rule, .inr (3, [.ref h_rule_lower])), (h_rule_lower, .inl (cI, 16, .inl f_rule_lower)), (h_page, .inr (4, [.int page_h, .int page_w, .ref h_page_cells]))]
abbrev rm_X0_fill : Room := { frames := 3, cells := 0, slots := 0, locals := 93 }
def q_X0_fill_70 (f_album_wishes : Nat → Int32) (rows_c : Int32) (rows_w : Int32) (rows_size : Int32) (rows_ring : Int32) (f_rows_framed : Nat → Int32) (f_rows_power : Nat → Int32) (f_rule_lower : Nat → Int32) (page_h : Int32) (l1 : Int32) (f_album_front : Nat → Int64) (post : (Nat → Int64) → (Nat → Int64) → Prop) (K98 : (Int32) → (Nat → Int64) → (Nat → Int64) → Prop) (K12 : (Int32) → (Nat → Int64) → Prop) (l2 : Int32) (t0 : Int32) (f_album_ways : Nat → Int64) : Prop := ((t0 = 0 → (vp_in ((l1 * (243 : Int32)) + l2) 1215 ∧ (K12 (l2 + (1 : Int32)) (vp_updL f_album_ways (((l1 * (243 : Int32)) + l2)).toNatClampNeg (0 : Int64))))) ∧ (¬ t0 = 0 → (vp_in ((l1 * (243 : Int32)) + l2) 1215 ∧ (K12 (l2 + (1 : Int32)) (vp_updL f_album_ways (((l1 * (243 : Int32)) + l2)).toNatClampNeg (1 : Int64))))))
def r_X0_fill_12 (f_album_wishes : Nat → Int32) (rows_c : Int32) (rows_w : Int32) (rows_size : Int32) (rows_ring : Int32) (f_rows_framed : Nat → Int32) (f_rows_power : Nat → Int32) (f_rule_lower : Nat → Int32) (page_h : Int32) (post : (Nat → Int64) → (Nat → Int64) → Prop) (K98 : (Int32) → (Nat → Int64) → (Nat → Int64) → Prop) (l1 : Int32) (f_album_front : Nat → Int64) : Nat → (Int32) → (Nat → Int64) → Prop
  | 0, _, _ => False
  | n + 1, l2, f_album_ways => ((rows_size ≤ l2 → (K98 l1 f_album_ways f_album_front)) ∧ (¬ rows_size ≤ l2 → (q_X0_isWished f_album_wishes rows_w f_rows_framed l1 l2 (fun (r2 : Int32) => ((r2 = 0 → ((q_X0_fill_70 f_album_wishes rows_c rows_w rows_size rows_ring f_rows_framed f_rows_power f_rule_lower page_h l1 f_album_front post K98 (r_X0_fill_12 f_album_wishes rows_c rows_w rows_size rows_ring f_rows_framed f_rows_power f_rule_lower page_h post K98 l1 f_album_front n)) l2 (0 : Int32) f_album_ways)) ∧ (¬ r2 = 0 → (vp_in l2 243 ∧ (q_X3_joins f_rule_lower (f_rows_framed (l2).toNatClampNeg) rows_ring rows_w (fun (r8 : Int32) => ((r8 = 0 → ((q_X0_fill_70 f_album_wishes rows_c rows_w rows_size rows_ring f_rows_framed f_rows_power f_rule_lower page_h l1 f_album_front post K98 (r_X0_fill_12 f_album_wishes rows_c rows_w rows_size rows_ring f_rows_framed f_rows_power f_rule_lower page_h post K98 l1 f_album_front n)) l2 (0 : Int32) f_album_ways)) ∧ (¬ r8 = 0 → ((q_X0_fill_70 f_album_wishes rows_c rows_w rows_size rows_ring f_rows_framed f_rows_power f_rule_lower page_h l1 f_album_front post K98 (r_X0_fill_12 f_album_wishes rows_c rows_w rows_size rows_ring f_rows_framed f_rows_power f_rule_lower page_h post K98 l1 f_album_front n)) l2 (1 : Int32) f_album_ways))))))))))))
def r_X0_fill_123 (f_album_wishes : Nat → Int32) (rows_c : Int32) (rows_w : Int32) (rows_size : Int32) (rows_ring : Int32) (f_rows_framed : Nat → Int32) (f_rows_power : Nat → Int32) (f_rule_lower : Nat → Int32) (page_h : Int32) (post : (Nat → Int64) → (Nat → Int64) → Prop) (K138 : (Int32) → (Nat → Int64) → (Nat → Int64) → Prop) (l2 : Int32) (f_album_ways : Nat → Int64) : Nat → (Int32) → (Nat → Int64) → Prop
  | 0, _, _ => False
  | n + 1, l3, f_album_front => ((l3 ≤ 0 → (K138 l2 f_album_ways f_album_front)) ∧ (¬ l3 ≤ 0 → (q_X0_moveLeft rows_c rows_w f_rows_power f_rule_lower f_album_front l3 (fun (f_album_front_13 : Nat → Int64) => ((r_X0_fill_123 f_album_wishes rows_c rows_w rows_size rows_ring f_rows_framed f_rows_power f_rule_lower page_h post K138 l2 f_album_ways n) (l3 + (-1 : Int32)) f_album_front_13)))))
def q_X0_fill_138 (f_album_wishes : Nat → Int32) (rows_c : Int32) (rows_w : Int32) (rows_size : Int32) (rows_ring : Int32) (f_rows_framed : Nat → Int32) (f_rows_power : Nat → Int32) (f_rule_lower : Nat → Int32) (page_h : Int32) (post : (Nat → Int64) → (Nat → Int64) → Prop) (K102 : (Int32) → (Nat → Int64) → (Nat → Int64) → Prop) (l2 : Int32) (f_album_ways : Nat → Int64) (f_album_front : Nat → Int64) : Prop := (q_X0_openLeft f_album_wishes f_album_front rows_c rows_w rows_size f_rows_framed f_rule_lower f_album_ways l2 (fun (f_album_ways_14 : Nat → Int64) => (K102 (l2 + (-1 : Int32)) f_album_ways_14 f_album_front)))
def q_X0_fill_123 (f_album_wishes : Nat → Int32) (rows_c : Int32) (rows_w : Int32) (rows_size : Int32) (rows_ring : Int32) (f_rows_framed : Nat → Int32) (f_rows_power : Nat → Int32) (f_rule_lower : Nat → Int32) (page_h : Int32) (post : (Nat → Int64) → (Nat → Int64) → Prop) (K102 : (Int32) → (Nat → Int64) → (Nat → Int64) → Prop) (l2 : Int32) (l3 : Int32) (f_album_ways : Nat → Int64) (f_album_front : Nat → Int64) : Prop := ∃ n, r_X0_fill_123 f_album_wishes rows_c rows_w rows_size rows_ring f_rows_framed f_rows_power f_rule_lower page_h post (q_X0_fill_138 f_album_wishes rows_c rows_w rows_size rows_ring f_rows_framed f_rows_power f_rule_lower page_h post K102) l2 f_album_ways n l3 f_album_front
def r_X0_fill_102 (f_album_wishes : Nat → Int32) (rows_c : Int32) (rows_w : Int32) (rows_size : Int32) (rows_ring : Int32) (f_rows_framed : Nat → Int32) (f_rows_power : Nat → Int32) (f_rule_lower : Nat → Int32) (page_h : Int32) (post : (Nat → Int64) → (Nat → Int64) → Prop) : Nat → (Int32) → (Nat → Int64) → (Nat → Int64) → Prop
  | 0, _, _, _ => False
  | n + 1, l2, f_album_ways, f_album_front => ((l2 < 0 → (post f_album_ways f_album_front)) ∧ (¬ l2 < 0 → (q_X0_closeRight f_album_ways rows_c rows_w rows_size f_rows_framed f_rule_lower f_album_front (l2 + (1 : Int32)) (fun (f_album_front_11 : Nat → Int64) => ((q_X0_fill_123 f_album_wishes rows_c rows_w rows_size rows_ring f_rows_framed f_rows_power f_rule_lower page_h post (r_X0_fill_102 f_album_wishes rows_c rows_w rows_size rows_ring f_rows_framed f_rows_power f_rule_lower page_h post n)) l2 (rows_w - (1 : Int32)) f_album_ways f_album_front_11)))))
def q_X0_fill_102 (f_album_wishes : Nat → Int32) (rows_c : Int32) (rows_w : Int32) (rows_size : Int32) (rows_ring : Int32) (f_rows_framed : Nat → Int32) (f_rows_power : Nat → Int32) (f_rule_lower : Nat → Int32) (page_h : Int32) (post : (Nat → Int64) → (Nat → Int64) → Prop) (l2 : Int32) (f_album_ways : Nat → Int64) (f_album_front : Nat → Int64) : Prop := ∃ n, r_X0_fill_102 f_album_wishes rows_c rows_w rows_size rows_ring f_rows_framed f_rows_power f_rule_lower page_h post n l2 f_album_ways f_album_front
def q_X0_fill_98 (f_album_wishes : Nat → Int32) (rows_c : Int32) (rows_w : Int32) (rows_size : Int32) (rows_ring : Int32) (f_rows_framed : Nat → Int32) (f_rows_power : Nat → Int32) (f_rule_lower : Nat → Int32) (page_h : Int32) (post : (Nat → Int64) → (Nat → Int64) → Prop) (l1 : Int32) (f_album_ways : Nat → Int64) (f_album_front : Nat → Int64) : Prop := ((q_X0_fill_102 f_album_wishes rows_c rows_w rows_size rows_ring f_rows_framed f_rows_power f_rule_lower page_h post) (l1 - (1 : Int32)) f_album_ways f_album_front)
def q_X0_fill_12 (f_album_wishes : Nat → Int32) (rows_c : Int32) (rows_w : Int32) (rows_size : Int32) (rows_ring : Int32) (f_rows_framed : Nat → Int32) (f_rows_power : Nat → Int32) (f_rule_lower : Nat → Int32) (page_h : Int32) (post : (Nat → Int64) → (Nat → Int64) → Prop) (l1 : Int32) (l2 : Int32) (f_album_ways : Nat → Int64) (f_album_front : Nat → Int64) : Prop := ∃ n, r_X0_fill_12 f_album_wishes rows_c rows_w rows_size rows_ring f_rows_framed f_rows_power f_rule_lower page_h post (q_X0_fill_98 f_album_wishes rows_c rows_w rows_size rows_ring f_rows_framed f_rows_power f_rule_lower page_h post) l1 f_album_front n l2 f_album_ways
def q_X0_fill (f_album_wishes : Nat → Int32) (rows_c : Int32) (rows_w : Int32) (rows_size : Int32) (rows_ring : Int32) (f_rows_framed : Nat → Int32) (f_rows_power : Nat → Int32) (f_rule_lower : Nat → Int32) (page_h : Int32) (f_album_ways : Nat → Int64) (f_album_front : Nat → Int64) (post : (Nat → Int64) → (Nat → Int64) → Prop) : Prop := ((q_X0_fill_12 f_album_wishes rows_c rows_w rows_size rows_ring f_rows_framed f_rows_power f_rule_lower page_h post) (page_h - (1 : Int32)) (0 : Int32) f_album_ways f_album_front)
theorem hdV_X0_fill : yX0_fill.cls = RX0 ∧ yX0_fill.cls ≠ "java/lang/invoke/MethodHandle" ∧ yX0_fill.cls ≠ "java/lang/invoke/VarHandle" ∧ (parseMethodDescriptor yX0_fill.desc).map (fun d => d.parameters.length) = some 0 := by decide +kernel
set_option maxHeartbeats 4000000 in
set_option maxRecDepth 100000 in
theorem c_X0_fill (l : Launch) (dC : Nat → ClassId) (dI : Nat → Nat → Nat) (cI cJ cZ : ClassId) (h_album h_album_wishes h_album_ways h_album_front h_rows h_rows_framed h_rows_power h_rule h_rule_lower h_page h_album_at h_page_cells : Nat) (sz : Nat) (f_album_wishes : Nat → Int32) (f_album_ways : Nat → Int64) (f_album_front : Nat → Int64) (rows_c : Int32) (rows_w : Int32) (rows_size : Int32) (rows_ring : Int32) (f_rows_framed : Nat → Int32) (f_rows_power : Nat → Int32) (f_rule_lower : Nat → Int32) (page_h : Int32) (page_w : Int32)  {post : (Nat → Int64) → (Nat → Int64) → Prop} (hq : q_X0_fill f_album_wishes rows_c rows_w rows_size rows_ring f_rows_framed f_rows_power f_rule_lower page_h f_album_ways f_album_front post) : Met l yX0_fill wsX0_fill rm_X0_fill (va_Pc [.ref h_album] (gx_Pre (dC, dI) vwCl (gx_tys cI cJ cZ) sz (W_X0_fill cI cJ cZ h_album h_album_wishes h_album_ways h_album_front h_rows h_rows_framed h_rows_power h_rule h_rule_lower h_page h_album_at h_page_cells f_album_wishes f_album_ways f_album_front rows_c rows_w rows_size rows_ring f_rows_framed f_rows_power f_rule_lower page_h page_w))) (va_Qv (fun (u : (Nat → Int64) × (Nat → Int64)) => post u.1 u.2) (gx_B (dC, dI) vwCl (gx_tys cI cJ cZ) (va_A (W_X0_fill cI cJ cZ h_album h_album_wishes h_album_ways h_album_front h_rows h_rows_framed h_rows_power h_rule h_rule_lower h_page h_album_at h_page_cells f_album_wishes f_album_ways f_album_front rows_c rows_w rows_size rows_ring f_rows_framed f_rows_power f_rule_lower page_h page_w) sz) (fun (u : (Nat → Int64) × (Nat → Int64)) => (W_X0_fill cI cJ cZ h_album h_album_wishes h_album_ways h_album_front h_rows h_rows_framed h_rows_power h_rule h_rule_lower h_page h_album_at h_page_cells f_album_wishes u.1 u.2 rows_c rows_w rows_size rows_ring f_rows_framed f_rows_power f_rule_lower page_h page_w))) (va_A (W_X0_fill cI cJ cZ h_album h_album_wishes h_album_ways h_album_front h_rows h_rows_framed h_rows_power h_rule h_rule_lower h_page h_album_at h_page_cells f_album_wishes f_album_ways f_album_front rows_c rows_w rows_size rows_ring f_rows_framed f_rows_power f_rule_lower page_h page_w) sz)) 0 0 (va_A (W_X0_fill cI cJ cZ h_album h_album_wishes h_album_ways h_album_front h_rows h_rows_framed h_rows_power h_rule h_rule_lower h_page h_album_at h_page_cells f_album_wishes f_album_ways f_album_front rows_c rows_w rows_size rows_ring f_rows_framed f_rows_power f_rule_lower page_h page_w) sz) := by
  refine gx_v (cc := cX0_fill) (maxL := 4) (by decide) rfl (Nat.le_of_ble_eq_true rfl) ?_
  intro p e s m args below meth c A QQ hx hb hml hown hts hA hP hK hD hret ls hl
  have hown : s.vm.findClass RX0 = some m.cls := hown
  have hf28 := hts (.fieldLink RX0 28 "SmallWindows$Album" "page" "LSmallWindows$Sheet;") (by decide +kernel)
  have hf55 := hts (.fieldLink RX0 55 "SmallWindows$Sheet" "h" "I") (by decide +kernel)
  have hf36 := hts (.fieldLink RX0 36 "SmallWindows$Album" "rows" "LSmallWindows$Rows;") (by decide +kernel)
  have hf59 := hts (.fieldLink RX0 59 "SmallWindows$Rows" "size" "I") (by decide +kernel)
  have hf15 := hts (.fieldLink RX0 15 "SmallWindows$Album" "ways" "[J") (by decide +kernel)
  have hf32 := hts (.fieldLink RX0 32 "SmallWindows$Album" "rule" "LSmallWindows$Rule;") (by decide +kernel)
  have hf66 := hts (.fieldLink RX0 66 "SmallWindows$Rows" "framed" "[I") (by decide +kernel)
  have hf69 := hts (.fieldLink RX0 69 "SmallWindows$Rows" "ring" "I") (by decide +kernel)
  have hf72 := hts (.fieldLink RX0 72 "SmallWindows$Rows" "w" "I") (by decide +kernel)
  have hinX0 : ∀ w ∈ u_ws RX0 TX0 7, w ∈ wsX0_fill := fun w h => List.mem_cons_of_mem _ ((List.mem_append_left _ (List.mem_append_left _ (List.mem_append_left _ (List.mem_append_right _ h)))))
  have hinX4 : ∀ w ∈ u_ws RX4 TX4 3, w ∈ wsX0_fill := fun w h => List.mem_cons_of_mem _ ((List.mem_append_left _ (List.mem_append_left _ (List.mem_append_right _ h))))
  have hinX2 : ∀ w ∈ u_ws RX2 TX2 6, w ∈ wsX0_fill := fun w h => List.mem_cons_of_mem _ ((List.mem_append_left _ (List.mem_append_right _ h)))
  have hS : va_S A s.heap s.heap [] := va_S.rf
  have hl : lv_has ls 4 [(0, .ref h_album)] := hl
  have C70 : ∀ (l1 : Int32) (f_album_front : Nat → Int64) (K98 : (Int32) → (Nat → Int64) → (Nat → Int64) → Prop) (hK98 : (∀ (l1 : Int32) (f_album_ways : Nat → Int64) (f_album_front : Nat → Int64), K98 l1 f_album_ways f_album_front → ∀ (H : Heap) (locs : List Loc), va_P (dC, dI) vwCl (W_X0_fill cI cJ cZ h_album h_album_wishes h_album_ways h_album_front h_rows h_rows_framed h_rows_power h_rule h_rule_lower h_page h_album_at h_page_cells f_album_wishes f_album_ways f_album_front rows_c rows_w rows_size rows_ring f_rows_framed f_rows_power f_rule_lower page_h page_w) H → va_D A (W_X0_fill cI cJ cZ h_album h_album_wishes h_album_ways h_album_front h_rows h_rows_framed h_rows_power h_rule h_rule_lower h_page h_album_at h_page_cells f_album_wishes f_album_ways f_album_front rows_c rows_w rows_size rows_ring f_rows_framed f_rows_power f_rule_lower page_h page_w) → va_S A s.heap H locs → ∀ ls : Array Slot, lv_has ls 4 [(0, .ref h_album), (1, .int l1)] → W p l e rm_X0_fill s m args below meth c H locs 0 0 QQ (F0 m 98 ls []))) (K12 : (Int32) → (Nat → Int64) → Prop) (hK12 : (∀ (l2 : Int32) (f_album_ways : Nat → Int64), K12 l2 f_album_ways → ∀ (H : Heap) (locs : List Loc), va_P (dC, dI) vwCl (W_X0_fill cI cJ cZ h_album h_album_wishes h_album_ways h_album_front h_rows h_rows_framed h_rows_power h_rule h_rule_lower h_page h_album_at h_page_cells f_album_wishes f_album_ways f_album_front rows_c rows_w rows_size rows_ring f_rows_framed f_rows_power f_rule_lower page_h page_w) H → va_D A (W_X0_fill cI cJ cZ h_album h_album_wishes h_album_ways h_album_front h_rows h_rows_framed h_rows_power h_rule h_rule_lower h_page h_album_at h_page_cells f_album_wishes f_album_ways f_album_front rows_c rows_w rows_size rows_ring f_rows_framed f_rows_power f_rule_lower page_h page_w) → va_S A s.heap H locs → ∀ ls : Array Slot, lv_has ls 4 [(0, .ref h_album), (1, .int l1), (2, .int l2)] → W p l e rm_X0_fill s m args below meth c H locs 0 0 QQ (F0 m 12 ls []))) (l2 : Int32) (t0 : Int32) (f_album_ways : Nat → Int64), q_X0_fill_70 f_album_wishes rows_c rows_w rows_size rows_ring f_rows_framed f_rows_power f_rule_lower page_h l1 f_album_front post K98 K12 l2 t0 f_album_ways → ∀ (H : Heap) (locs : List Loc), va_P (dC, dI) vwCl (W_X0_fill cI cJ cZ h_album h_album_wishes h_album_ways h_album_front h_rows h_rows_framed h_rows_power h_rule h_rule_lower h_page h_album_at h_page_cells f_album_wishes f_album_ways f_album_front rows_c rows_w rows_size rows_ring f_rows_framed f_rows_power f_rule_lower page_h page_w) H → va_D A (W_X0_fill cI cJ cZ h_album h_album_wishes h_album_ways h_album_front h_rows h_rows_framed h_rows_power h_rule h_rule_lower h_page h_album_at h_page_cells f_album_wishes f_album_ways f_album_front rows_c rows_w rows_size rows_ring f_rows_framed f_rows_power f_rule_lower page_h page_w) → va_S A s.heap H locs → ∀ ls : Array Slot, lv_has ls 4 [(0, .ref h_album), (1, .int l1), (2, .int l2)] → W p l e rm_X0_fill s m args below meth c H locs 0 0 QQ (F0 m 70 ls [.int t0]) := by
    intro l1 f_album_front K98 hK98 K12 hK12 l2 t0 f_album_ways hq H locs hP hD hS ls hl
    unfold q_X0_fill_70 at hq
    refine lv_istore_n (lv' := [(3, .int t0), (0, .ref h_album), (1, .int l1), (2, .int l2)]) hx hb dX0_fill_70 rfl hl (by decide) rfl (fun ls hl => ?_)
    refine lv_aload_n hx hb dX0_fill_71 rfl (lv_at hl 1 rfl) ?_
    refine va_get (D := (dC, dI)) (ci := 0) (v := .ref h_album_ways) (C := RX0) (T := TX0) (N := 7) hx hb hts hinX0 hown hK hP 0 rfl rfl 3 (by decide) hf15 (fun _ h9 => h9) rfl dX0_fill_72 ?_
    refine lv_iload_n hx hb dX0_fill_75 rfl (lv_at hl 2 rfl) ?_
    refine lv_sipush (v := (243 : Int32)) hx hb dX0_fill_76 (by decide) ?_
    refine lv_imul hx hb dX0_fill_79 ?_
    refine lv_iload_n hx hb dX0_fill_80 rfl (lv_at hl 3 rfl) ?_
    refine lv_iadd hx hb dX0_fill_81 ?_
    refine lv_iload_n hx hb dX0_fill_82 rfl (lv_at hl 0 rfl) ?_
    refine lv_if_eq (tgt := 90) hx hb dX0_fill_83 (by decide) (fun c4 => ?_) (fun c4 => ?_)
    · replace hq := hq.1 c4
      refine lv_lconst (v := (0 : Int64)) hx hb dX0_fill_90 (by decide) ?_
      obtain ⟨hv5, hq⟩ := hq
      refine va_last hx hb hK hP hD hS 2 1 rfl rfl hv5 dX0_fill_91 (fun H locs hP hD hS => ?_)
      have hP : va_P (dC, dI) vwCl (W_X0_fill cI cJ cZ h_album h_album_wishes h_album_ways h_album_front h_rows h_rows_framed h_rows_power h_rule h_rule_lower h_page h_album_at h_page_cells f_album_wishes (vp_updL f_album_ways (((l1 * (243 : Int32)) + l2)).toNatClampNeg (0 : Int64)) f_album_front rows_c rows_w rows_size rows_ring f_rows_framed f_rows_power f_rule_lower page_h page_w) H := hP
      have hD : va_D A (W_X0_fill cI cJ cZ h_album h_album_wishes h_album_ways h_album_front h_rows h_rows_framed h_rows_power h_rule h_rule_lower h_page h_album_at h_page_cells f_album_wishes (vp_updL f_album_ways (((l1 * (243 : Int32)) + l2)).toNatClampNeg (0 : Int64)) f_album_front rows_c rows_w rows_size rows_ring f_rows_framed f_rows_power f_rule_lower page_h page_w) := hD
      refine lv_iinc (v := (l2 + (1 : Int32))) (lv' := [(2, .int (l2 + (1 : Int32))), (3, .int t0), (0, .ref h_album), (1, .int l1)]) hx hb dX0_fill_92 hl (k := 3) rfl rfl (by decide) rfl (fun ls hl => ?_)
      refine lv_goto (tgt := 12) hx hb dX0_fill_95 (by decide) ?_
      exact hK12 _ _ hq _ _ hP hD hS _ (lv_sub hl [2, 3, 0] rfl)
    · replace hq := hq.2 c4
      refine lv_lconst (v := (1 : Int64)) hx hb dX0_fill_86 (by decide) ?_
      refine lv_goto (tgt := 91) hx hb dX0_fill_87 (by decide) ?_
      obtain ⟨hv6, hq⟩ := hq
      refine va_last hx hb hK hP hD hS 2 1 rfl rfl hv6 dX0_fill_91 (fun H locs hP hD hS => ?_)
      have hP : va_P (dC, dI) vwCl (W_X0_fill cI cJ cZ h_album h_album_wishes h_album_ways h_album_front h_rows h_rows_framed h_rows_power h_rule h_rule_lower h_page h_album_at h_page_cells f_album_wishes (vp_updL f_album_ways (((l1 * (243 : Int32)) + l2)).toNatClampNeg (1 : Int64)) f_album_front rows_c rows_w rows_size rows_ring f_rows_framed f_rows_power f_rule_lower page_h page_w) H := hP
      have hD : va_D A (W_X0_fill cI cJ cZ h_album h_album_wishes h_album_ways h_album_front h_rows h_rows_framed h_rows_power h_rule h_rule_lower h_page h_album_at h_page_cells f_album_wishes (vp_updL f_album_ways (((l1 * (243 : Int32)) + l2)).toNatClampNeg (1 : Int64)) f_album_front rows_c rows_w rows_size rows_ring f_rows_framed f_rows_power f_rule_lower page_h page_w) := hD
      refine lv_iinc (v := (l2 + (1 : Int32))) (lv' := [(2, .int (l2 + (1 : Int32))), (3, .int t0), (0, .ref h_album), (1, .int l1)]) hx hb dX0_fill_92 hl (k := 3) rfl rfl (by decide) rfl (fun ls hl => ?_)
      refine lv_goto (tgt := 12) hx hb dX0_fill_95 (by decide) ?_
      exact hK12 _ _ hq _ _ hP hD hS _ (lv_sub hl [2, 3, 0] rfl)
  have L12 : ∀ (K98 : (Int32) → (Nat → Int64) → (Nat → Int64) → Prop) (hK98 : (∀ (l1 : Int32) (f_album_ways : Nat → Int64) (f_album_front : Nat → Int64), K98 l1 f_album_ways f_album_front → ∀ (H : Heap) (locs : List Loc), va_P (dC, dI) vwCl (W_X0_fill cI cJ cZ h_album h_album_wishes h_album_ways h_album_front h_rows h_rows_framed h_rows_power h_rule h_rule_lower h_page h_album_at h_page_cells f_album_wishes f_album_ways f_album_front rows_c rows_w rows_size rows_ring f_rows_framed f_rows_power f_rule_lower page_h page_w) H → va_D A (W_X0_fill cI cJ cZ h_album h_album_wishes h_album_ways h_album_front h_rows h_rows_framed h_rows_power h_rule h_rule_lower h_page h_album_at h_page_cells f_album_wishes f_album_ways f_album_front rows_c rows_w rows_size rows_ring f_rows_framed f_rows_power f_rule_lower page_h page_w) → va_S A s.heap H locs → ∀ ls : Array Slot, lv_has ls 4 [(0, .ref h_album), (1, .int l1)] → W p l e rm_X0_fill s m args below meth c H locs 0 0 QQ (F0 m 98 ls []))) (l1 : Int32) (f_album_front : Nat → Int64) (n : Nat) (l2 : Int32) (f_album_ways : Nat → Int64), r_X0_fill_12 f_album_wishes rows_c rows_w rows_size rows_ring f_rows_framed f_rows_power f_rule_lower page_h post K98 l1 f_album_front n l2 f_album_ways → ∀ (H : Heap) (locs : List Loc), va_P (dC, dI) vwCl (W_X0_fill cI cJ cZ h_album h_album_wishes h_album_ways h_album_front h_rows h_rows_framed h_rows_power h_rule h_rule_lower h_page h_album_at h_page_cells f_album_wishes f_album_ways f_album_front rows_c rows_w rows_size rows_ring f_rows_framed f_rows_power f_rule_lower page_h page_w) H → va_D A (W_X0_fill cI cJ cZ h_album h_album_wishes h_album_ways h_album_front h_rows h_rows_framed h_rows_power h_rule h_rule_lower h_page h_album_at h_page_cells f_album_wishes f_album_ways f_album_front rows_c rows_w rows_size rows_ring f_rows_framed f_rows_power f_rule_lower page_h page_w) → va_S A s.heap H locs → ∀ ls : Array Slot, lv_has ls 4 [(0, .ref h_album), (1, .int l1), (2, .int l2)] → W p l e rm_X0_fill s m args below meth c H locs 0 0 QQ (F0 m 12 ls []) := by
    intro K98 hK98 l1 f_album_front n
    induction n with
    | zero => intro l2 f_album_ways hq; exact False.elim hq
    | succ n ih =>
      intro l2 f_album_ways hq H locs hP hD hS ls hl
      unfold r_X0_fill_12 at hq
      refine lv_iload_n hx hb dX0_fill_12 rfl (lv_at hl 2 rfl) ?_
      refine lv_aload_n hx hb dX0_fill_13 rfl (lv_at hl 0 rfl) ?_
      refine va_get (D := (dC, dI)) (ci := 0) (v := .ref h_rows) (C := RX0) (T := TX0) (N := 7) hx hb hts hinX0 hown hK hP 0 rfl rfl 0 (by decide) hf36 (fun _ h9 => h9) rfl dX0_fill_14 ?_
      refine va_get (D := (dC, dI)) (ci := 2) (v := .int rows_size) (C := RX2) (T := TX2) (N := 6) hx hb hts hinX2 hown hK hP 4 rfl rfl 2 (by decide) hf59 (fun _ h9 => h9) rfl dX0_fill_17 ?_
      refine lv_icmp_ge (tgt := 98) hx hb dX0_fill_20 (by decide) (fun c1 => ?_) (fun c1 => ?_)
      · replace hq := hq.1 c1
        exact hK98 _ _ _ hq _ _ hP hD hS _ (lv_sub hl [0, 1] rfl)
      · replace hq := hq.2 c1
        refine lv_aload_n hx hb dX0_fill_23 rfl (lv_at hl 0 rfl) ?_
        refine lv_iload_n hx hb dX0_fill_24 rfl (lv_at hl 1 rfl) ?_
        refine lv_iload_n hx hb dX0_fill_25 rfl (lv_at hl 2 rfl) ?_
        refine gx_cVi (C := RX0) (As := [.int l1, .int l2]) (rest := []) ⟨hx, hb, hml, hown, hts⟩ (c_X0_isWished l dC dI cI cJ cZ h_album h_album_wishes h_rows h_rows_framed h_rule h_album_ways h_album_front h_album_at h_page h_rows_power H.size f_album_wishes rows_c rows_w rows_size rows_ring f_rows_framed l1 l2 hq) (cwV 2 hts gX0_fill_X0_isWished rfl rfl rfl hdV_X0_isWished ⟨Nat.le_of_ble_eq_true rfl, Nat.le_of_ble_eq_true rfl⟩) hK hP hD hS hA [0, 1, 4, 5] [2, 3, 6, 7, 8, 9] rfl rfl rfl rfl rfl (ci := 0) (q0 := 0) rfl rfl rfl rfl hl.1 (Nat.le_of_ble_eq_true rfl) dX0_fill_26 rfl (fun r2 u H locs hq hP hD hS => ?_)
        try dsimp only at hq
        have hP : va_P (dC, dI) vwCl (W_X0_fill cI cJ cZ h_album h_album_wishes h_album_ways h_album_front h_rows h_rows_framed h_rows_power h_rule h_rule_lower h_page h_album_at h_page_cells f_album_wishes f_album_ways f_album_front rows_c rows_w rows_size rows_ring f_rows_framed f_rows_power f_rule_lower page_h page_w) H := hP.sub [6, 7, 0, 1, 8, 9, 2, 3, 4, 5] rfl
        have hD : va_D A (W_X0_fill cI cJ cZ h_album h_album_wishes h_album_ways h_album_front h_rows h_rows_framed h_rows_power h_rule h_rule_lower h_page h_album_at h_page_cells f_album_wishes f_album_ways f_album_front rows_c rows_w rows_size rows_ring f_rows_framed f_rows_power f_rule_lower page_h page_w) := hD.sub [6, 7, 0, 1, 8, 9, 2, 3, 4, 5] (by decide) rfl
        refine lv_if_eq (tgt := 69) hx hb dX0_fill_29 (by decide) (fun c3 => ?_) (fun c3 => ?_)
        · replace hq := hq.1 c3
          refine lv_iconst (v := (0 : Int32)) hx hb dX0_fill_69 (by decide) ?_
          exact (C70 _ _ _ hK98 _ ih) _ _ _ hq _ _ hP hD hS _ (lv_sub hl [0, 1, 2] rfl)
        · replace hq := hq.2 c3
          refine lv_aload_n hx hb dX0_fill_32 rfl (lv_at hl 0 rfl) ?_
          refine va_get (D := (dC, dI)) (ci := 0) (v := .ref h_rule) (C := RX0) (T := TX0) (N := 7) hx hb hts hinX0 hown hK hP 0 rfl rfl 1 (by decide) hf32 (fun _ h9 => h9) rfl dX0_fill_33 ?_
          refine lv_aload_n hx hb dX0_fill_36 rfl (lv_at hl 0 rfl) ?_
          refine va_get (D := (dC, dI)) (ci := 0) (v := .ref h_rows) (C := RX0) (T := TX0) (N := 7) hx hb hts hinX0 hown hK hP 0 rfl rfl 0 (by decide) hf36 (fun _ h9 => h9) rfl dX0_fill_37 ?_
          refine va_get (D := (dC, dI)) (ci := 2) (v := .ref h_rows_framed) (C := RX2) (T := TX2) (N := 6) hx hb hts hinX2 hown hK hP 4 rfl rfl 4 (by decide) hf66 (fun _ h9 => h9) rfl dX0_fill_40 ?_
          refine lv_iload_n hx hb dX0_fill_43 rfl (lv_at hl 2 rfl) ?_
          obtain ⟨hv7, hq⟩ := hq
          refine va_iald hx hb hK hP 5 0 rfl rfl hv7 dX0_fill_44 ?_
          refine lv_aload_n hx hb dX0_fill_45 rfl (lv_at hl 0 rfl) ?_
          refine va_get (D := (dC, dI)) (ci := 0) (v := .ref h_rows) (C := RX0) (T := TX0) (N := 7) hx hb hts hinX0 hown hK hP 0 rfl rfl 0 (by decide) hf36 (fun _ h9 => h9) rfl dX0_fill_46 ?_
          refine va_get (D := (dC, dI)) (ci := 2) (v := .int rows_ring) (C := RX2) (T := TX2) (N := 6) hx hb hts hinX2 hown hK hP 4 rfl rfl 3 (by decide) hf69 (fun _ h9 => h9) rfl dX0_fill_49 ?_
          refine lv_aload_n hx hb dX0_fill_52 rfl (lv_at hl 0 rfl) ?_
          refine va_get (D := (dC, dI)) (ci := 0) (v := .ref h_rows) (C := RX0) (T := TX0) (N := 7) hx hb hts hinX0 hown hK hP 0 rfl rfl 0 (by decide) hf36 (fun _ h9 => h9) rfl dX0_fill_53 ?_
          refine va_get (D := (dC, dI)) (ci := 2) (v := .int rows_w) (C := RX2) (T := TX2) (N := 6) hx hb hts hinX2 hown hK hP 4 rfl rfl 1 (by decide) hf72 (fun _ h9 => h9) rfl dX0_fill_56 ?_
          refine gx_cVi (C := RX3) (As := [.int (f_rows_framed (l2).toNatClampNeg), .int rows_ring, .int rows_w]) (rest := []) ⟨hx, hb, hml, hown, hts⟩ (c_X3_joins l dC dI cI cJ cZ h_rule h_rule_lower H.size f_rule_lower (f_rows_framed (l2).toNatClampNeg) rows_ring rows_w hq) (cwV 3 hts gX0_fill_X3_joins rfl rfl rfl hdV_X3_joins ⟨Nat.le_of_ble_eq_true rfl, Nat.le_of_ble_eq_true rfl⟩) hK hP hD hS hA [7, 8] [0, 1, 2, 3, 4, 5, 6, 9] rfl rfl rfl rfl rfl (ci := 3) (q0 := 0) rfl rfl rfl rfl hl.1 (Nat.le_of_ble_eq_true rfl) dX0_fill_59 rfl (fun r8 u H locs hq hP hD hS => ?_)
          try dsimp only at hq
          have hP : va_P (dC, dI) vwCl (W_X0_fill cI cJ cZ h_album h_album_wishes h_album_ways h_album_front h_rows h_rows_framed h_rows_power h_rule h_rule_lower h_page h_album_at h_page_cells f_album_wishes f_album_ways f_album_front rows_c rows_w rows_size rows_ring f_rows_framed f_rows_power f_rule_lower page_h page_w) H := hP.sub [0, 1, 2, 3, 4, 5, 6, 8, 9, 7] rfl
          have hD : va_D A (W_X0_fill cI cJ cZ h_album h_album_wishes h_album_ways h_album_front h_rows h_rows_framed h_rows_power h_rule h_rule_lower h_page h_album_at h_page_cells f_album_wishes f_album_ways f_album_front rows_c rows_w rows_size rows_ring f_rows_framed f_rows_power f_rule_lower page_h page_w) := hD.sub [0, 1, 2, 3, 4, 5, 6, 8, 9, 7] (by decide) rfl
          refine lv_if_eq (tgt := 69) hx hb dX0_fill_62 (by decide) (fun c9 => ?_) (fun c9 => ?_)
          · replace hq := hq.1 c9
            refine lv_iconst (v := (0 : Int32)) hx hb dX0_fill_69 (by decide) ?_
            exact (C70 _ _ _ hK98 _ ih) _ _ _ hq _ _ hP hD hS _ (lv_sub hl [0, 1, 2] rfl)
          · replace hq := hq.2 c9
            refine lv_iconst (v := (1 : Int32)) hx hb dX0_fill_65 (by decide) ?_
            refine lv_goto (tgt := 70) hx hb dX0_fill_66 (by decide) ?_
            exact (C70 _ _ _ hK98 _ ih) _ _ _ hq _ _ hP hD hS _ (lv_sub hl [0, 1, 2] rfl)
  have L123 : ∀ (K138 : (Int32) → (Nat → Int64) → (Nat → Int64) → Prop) (hK138 : (∀ (l2 : Int32) (f_album_ways : Nat → Int64) (f_album_front : Nat → Int64), K138 l2 f_album_ways f_album_front → ∀ (H : Heap) (locs : List Loc), va_P (dC, dI) vwCl (W_X0_fill cI cJ cZ h_album h_album_wishes h_album_ways h_album_front h_rows h_rows_framed h_rows_power h_rule h_rule_lower h_page h_album_at h_page_cells f_album_wishes f_album_ways f_album_front rows_c rows_w rows_size rows_ring f_rows_framed f_rows_power f_rule_lower page_h page_w) H → va_D A (W_X0_fill cI cJ cZ h_album h_album_wishes h_album_ways h_album_front h_rows h_rows_framed h_rows_power h_rule h_rule_lower h_page h_album_at h_page_cells f_album_wishes f_album_ways f_album_front rows_c rows_w rows_size rows_ring f_rows_framed f_rows_power f_rule_lower page_h page_w) → va_S A s.heap H locs → ∀ ls : Array Slot, lv_has ls 4 [(0, .ref h_album), (2, .int l2)] → W p l e rm_X0_fill s m args below meth c H locs 0 0 QQ (F0 m 138 ls []))) (l2 : Int32) (f_album_ways : Nat → Int64) (n : Nat) (l3 : Int32) (f_album_front : Nat → Int64), r_X0_fill_123 f_album_wishes rows_c rows_w rows_size rows_ring f_rows_framed f_rows_power f_rule_lower page_h post K138 l2 f_album_ways n l3 f_album_front → ∀ (H : Heap) (locs : List Loc), va_P (dC, dI) vwCl (W_X0_fill cI cJ cZ h_album h_album_wishes h_album_ways h_album_front h_rows h_rows_framed h_rows_power h_rule h_rule_lower h_page h_album_at h_page_cells f_album_wishes f_album_ways f_album_front rows_c rows_w rows_size rows_ring f_rows_framed f_rows_power f_rule_lower page_h page_w) H → va_D A (W_X0_fill cI cJ cZ h_album h_album_wishes h_album_ways h_album_front h_rows h_rows_framed h_rows_power h_rule h_rule_lower h_page h_album_at h_page_cells f_album_wishes f_album_ways f_album_front rows_c rows_w rows_size rows_ring f_rows_framed f_rows_power f_rule_lower page_h page_w) → va_S A s.heap H locs → ∀ ls : Array Slot, lv_has ls 4 [(0, .ref h_album), (2, .int l2), (3, .int l3)] → W p l e rm_X0_fill s m args below meth c H locs 0 0 QQ (F0 m 123 ls []) := by
    intro K138 hK138 l2 f_album_ways n
    induction n with
    | zero => intro l3 f_album_front hq; exact False.elim hq
    | succ n ih =>
      intro l3 f_album_front hq H locs hP hD hS ls hl
      unfold r_X0_fill_123 at hq
      refine lv_iload_n hx hb dX0_fill_123 rfl (lv_at hl 2 rfl) ?_
      refine lv_if_le (tgt := 138) hx hb dX0_fill_124 (by decide) (fun c12 => ?_) (fun c12 => ?_)
      · replace hq := hq.1 c12
        exact hK138 _ _ _ hq _ _ hP hD hS _ (lv_sub hl [0, 1] rfl)
      · replace hq := hq.2 c12
        refine lv_aload_n hx hb dX0_fill_127 rfl (lv_at hl 0 rfl) ?_
        refine lv_iload_n hx hb dX0_fill_128 rfl (lv_at hl 2 rfl) ?_
        refine gx_cVv (C := RX0) (As := [.int l3]) (rest := []) ⟨hx, hb, hml, hown, hts⟩ (c_X0_moveLeft l dC dI cI cJ cZ h_album h_album_front h_rows h_rows_power h_rule h_rule_lower h_album_wishes h_album_ways h_album_at h_page h_rows_framed H.size f_album_front rows_c rows_w rows_size rows_ring f_rows_power f_rule_lower l3 hq) (cwV 1 hts gX0_fill_X0_moveLeft rfl rfl rfl hdV_X0_moveLeft ⟨Nat.le_of_ble_eq_true rfl, Nat.le_of_ble_eq_true rfl⟩) hK hP hD hS hA [0, 3, 4, 6, 7, 8] [1, 2, 5, 9] rfl rfl rfl rfl rfl (ci := 0) (q0 := 0) rfl rfl rfl rfl hl.1 (Nat.le_of_ble_eq_true rfl) dX0_fill_129 rfl (fun u H locs hq hP hD hS => ?_)
        obtain ⟨f_album_front_13, rfl⟩ : ∃ z, z = u := ⟨_, rfl⟩
        try dsimp only at hq
        have hP : va_P (dC, dI) vwCl (W_X0_fill cI cJ cZ h_album h_album_wishes h_album_ways h_album_front h_rows h_rows_framed h_rows_power h_rule h_rule_lower h_page h_album_at h_page_cells f_album_wishes f_album_ways f_album_front_13 rows_c rows_w rows_size rows_ring f_rows_framed f_rows_power f_rule_lower page_h page_w) H := hP.sub [4, 0, 1, 5, 6, 2, 7, 8, 9, 3] rfl
        have hD : va_D A (W_X0_fill cI cJ cZ h_album h_album_wishes h_album_ways h_album_front h_rows h_rows_framed h_rows_power h_rule h_rule_lower h_page h_album_at h_page_cells f_album_wishes f_album_ways f_album_front_13 rows_c rows_w rows_size rows_ring f_rows_framed f_rows_power f_rule_lower page_h page_w) := hD.sub [4, 0, 1, 5, 6, 2, 7, 8, 9, 3] (by decide) rfl
        refine lv_iinc (v := (l3 + (-1 : Int32))) (lv' := [(3, .int (l3 + (-1 : Int32))), (0, .ref h_album), (2, .int l2)]) hx hb dX0_fill_132 hl (k := 2) rfl rfl (by decide) rfl (fun ls hl => ?_)
        refine lv_goto (tgt := 123) hx hb dX0_fill_135 (by decide) ?_
        exact ih _ _ hq _ _ hP hD hS _ (lv_sub hl [1, 2, 0] rfl)
  have C138 : ∀ (K102 : (Int32) → (Nat → Int64) → (Nat → Int64) → Prop) (hK102 : (∀ (l2 : Int32) (f_album_ways : Nat → Int64) (f_album_front : Nat → Int64), K102 l2 f_album_ways f_album_front → ∀ (H : Heap) (locs : List Loc), va_P (dC, dI) vwCl (W_X0_fill cI cJ cZ h_album h_album_wishes h_album_ways h_album_front h_rows h_rows_framed h_rows_power h_rule h_rule_lower h_page h_album_at h_page_cells f_album_wishes f_album_ways f_album_front rows_c rows_w rows_size rows_ring f_rows_framed f_rows_power f_rule_lower page_h page_w) H → va_D A (W_X0_fill cI cJ cZ h_album h_album_wishes h_album_ways h_album_front h_rows h_rows_framed h_rows_power h_rule h_rule_lower h_page h_album_at h_page_cells f_album_wishes f_album_ways f_album_front rows_c rows_w rows_size rows_ring f_rows_framed f_rows_power f_rule_lower page_h page_w) → va_S A s.heap H locs → ∀ ls : Array Slot, lv_has ls 4 [(0, .ref h_album), (2, .int l2)] → W p l e rm_X0_fill s m args below meth c H locs 0 0 QQ (F0 m 102 ls []))) (l2 : Int32) (f_album_ways : Nat → Int64) (f_album_front : Nat → Int64), q_X0_fill_138 f_album_wishes rows_c rows_w rows_size rows_ring f_rows_framed f_rows_power f_rule_lower page_h post K102 l2 f_album_ways f_album_front → ∀ (H : Heap) (locs : List Loc), va_P (dC, dI) vwCl (W_X0_fill cI cJ cZ h_album h_album_wishes h_album_ways h_album_front h_rows h_rows_framed h_rows_power h_rule h_rule_lower h_page h_album_at h_page_cells f_album_wishes f_album_ways f_album_front rows_c rows_w rows_size rows_ring f_rows_framed f_rows_power f_rule_lower page_h page_w) H → va_D A (W_X0_fill cI cJ cZ h_album h_album_wishes h_album_ways h_album_front h_rows h_rows_framed h_rows_power h_rule h_rule_lower h_page h_album_at h_page_cells f_album_wishes f_album_ways f_album_front rows_c rows_w rows_size rows_ring f_rows_framed f_rows_power f_rule_lower page_h page_w) → va_S A s.heap H locs → ∀ ls : Array Slot, lv_has ls 4 [(0, .ref h_album), (2, .int l2)] → W p l e rm_X0_fill s m args below meth c H locs 0 0 QQ (F0 m 138 ls []) := by
    intro K102 hK102 l2 f_album_ways f_album_front hq H locs hP hD hS ls hl
    unfold q_X0_fill_138 at hq
    refine lv_aload_n hx hb dX0_fill_138 rfl (lv_at hl 0 rfl) ?_
    refine lv_iload_n hx hb dX0_fill_139 rfl (lv_at hl 1 rfl) ?_
    refine gx_cVv (C := RX0) (As := [.int l2]) (rest := []) ⟨hx, hb, hml, hown, hts⟩ (c_X0_openLeft l dC dI cI cJ cZ h_album h_album_wishes h_album_ways h_album_front h_rows h_rows_framed h_rule h_rule_lower h_album_at h_page h_rows_power H.size f_album_wishes f_album_ways f_album_front rows_c rows_w rows_size rows_ring f_rows_framed f_rule_lower l2 hq) (cwV 1 hts gX0_fill_X0_openLeft rfl rfl rfl hdV_X0_openLeft ⟨Nat.le_of_ble_eq_true rfl, Nat.le_of_ble_eq_true rfl⟩) hK hP hD hS hA [0, 1, 2, 3, 4, 5, 7, 8] [6, 9] rfl rfl rfl rfl rfl (ci := 0) (q0 := 0) rfl rfl rfl rfl hl.1 (Nat.le_of_ble_eq_true rfl) dX0_fill_140 rfl (fun u H locs hq hP hD hS => ?_)
    obtain ⟨f_album_ways_14, rfl⟩ : ∃ z, z = u := ⟨_, rfl⟩
    try dsimp only at hq
    have hP : va_P (dC, dI) vwCl (W_X0_fill cI cJ cZ h_album h_album_wishes h_album_ways h_album_front h_rows h_rows_framed h_rows_power h_rule h_rule_lower h_page h_album_at h_page_cells f_album_wishes f_album_ways_14 f_album_front rows_c rows_w rows_size rows_ring f_rows_framed f_rows_power f_rule_lower page_h page_w) H := hP.sub [2, 3, 4, 5, 6, 7, 0, 8, 9, 1] rfl
    have hD : va_D A (W_X0_fill cI cJ cZ h_album h_album_wishes h_album_ways h_album_front h_rows h_rows_framed h_rows_power h_rule h_rule_lower h_page h_album_at h_page_cells f_album_wishes f_album_ways_14 f_album_front rows_c rows_w rows_size rows_ring f_rows_framed f_rows_power f_rule_lower page_h page_w) := hD.sub [2, 3, 4, 5, 6, 7, 0, 8, 9, 1] (by decide) rfl
    refine lv_iinc (v := (l2 + (-1 : Int32))) (lv' := [(2, .int (l2 + (-1 : Int32))), (0, .ref h_album)]) hx hb dX0_fill_143 hl (k := 1) rfl rfl (by decide) rfl (fun ls hl => ?_)
    refine lv_goto (tgt := 102) hx hb dX0_fill_146 (by decide) ?_
    exact hK102 _ _ _ hq _ _ hP hD hS _ (lv_sub hl [1, 0] rfl)
  have C123 : ∀ (K102 : (Int32) → (Nat → Int64) → (Nat → Int64) → Prop) (hK102 : (∀ (l2 : Int32) (f_album_ways : Nat → Int64) (f_album_front : Nat → Int64), K102 l2 f_album_ways f_album_front → ∀ (H : Heap) (locs : List Loc), va_P (dC, dI) vwCl (W_X0_fill cI cJ cZ h_album h_album_wishes h_album_ways h_album_front h_rows h_rows_framed h_rows_power h_rule h_rule_lower h_page h_album_at h_page_cells f_album_wishes f_album_ways f_album_front rows_c rows_w rows_size rows_ring f_rows_framed f_rows_power f_rule_lower page_h page_w) H → va_D A (W_X0_fill cI cJ cZ h_album h_album_wishes h_album_ways h_album_front h_rows h_rows_framed h_rows_power h_rule h_rule_lower h_page h_album_at h_page_cells f_album_wishes f_album_ways f_album_front rows_c rows_w rows_size rows_ring f_rows_framed f_rows_power f_rule_lower page_h page_w) → va_S A s.heap H locs → ∀ ls : Array Slot, lv_has ls 4 [(0, .ref h_album), (2, .int l2)] → W p l e rm_X0_fill s m args below meth c H locs 0 0 QQ (F0 m 102 ls []))) (l2 : Int32) (l3 : Int32) (f_album_ways : Nat → Int64) (f_album_front : Nat → Int64), q_X0_fill_123 f_album_wishes rows_c rows_w rows_size rows_ring f_rows_framed f_rows_power f_rule_lower page_h post K102 l2 l3 f_album_ways f_album_front → ∀ (H : Heap) (locs : List Loc), va_P (dC, dI) vwCl (W_X0_fill cI cJ cZ h_album h_album_wishes h_album_ways h_album_front h_rows h_rows_framed h_rows_power h_rule h_rule_lower h_page h_album_at h_page_cells f_album_wishes f_album_ways f_album_front rows_c rows_w rows_size rows_ring f_rows_framed f_rows_power f_rule_lower page_h page_w) H → va_D A (W_X0_fill cI cJ cZ h_album h_album_wishes h_album_ways h_album_front h_rows h_rows_framed h_rows_power h_rule h_rule_lower h_page h_album_at h_page_cells f_album_wishes f_album_ways f_album_front rows_c rows_w rows_size rows_ring f_rows_framed f_rows_power f_rule_lower page_h page_w) → va_S A s.heap H locs → ∀ ls : Array Slot, lv_has ls 4 [(0, .ref h_album), (2, .int l2), (3, .int l3)] → W p l e rm_X0_fill s m args below meth c H locs 0 0 QQ (F0 m 123 ls []) := by
    intro K102 hK102 l2 l3 f_album_ways f_album_front hq H locs hP hD hS ls hl
    obtain ⟨n, hq⟩ := hq
    exact L123 _ (C138 _ hK102) _ _ n _ _ hq H locs hP hD hS ls hl
  have L102 : ∀  (n : Nat) (l2 : Int32) (f_album_ways : Nat → Int64) (f_album_front : Nat → Int64), r_X0_fill_102 f_album_wishes rows_c rows_w rows_size rows_ring f_rows_framed f_rows_power f_rule_lower page_h post n l2 f_album_ways f_album_front → ∀ (H : Heap) (locs : List Loc), va_P (dC, dI) vwCl (W_X0_fill cI cJ cZ h_album h_album_wishes h_album_ways h_album_front h_rows h_rows_framed h_rows_power h_rule h_rule_lower h_page h_album_at h_page_cells f_album_wishes f_album_ways f_album_front rows_c rows_w rows_size rows_ring f_rows_framed f_rows_power f_rule_lower page_h page_w) H → va_D A (W_X0_fill cI cJ cZ h_album h_album_wishes h_album_ways h_album_front h_rows h_rows_framed h_rows_power h_rule h_rule_lower h_page h_album_at h_page_cells f_album_wishes f_album_ways f_album_front rows_c rows_w rows_size rows_ring f_rows_framed f_rows_power f_rule_lower page_h page_w) → va_S A s.heap H locs → ∀ ls : Array Slot, lv_has ls 4 [(0, .ref h_album), (2, .int l2)] → W p l e rm_X0_fill s m args below meth c H locs 0 0 QQ (F0 m 102 ls []) := by
    intro n
    induction n with
    | zero => intro l2 f_album_ways f_album_front hq; exact False.elim hq
    | succ n ih =>
      intro l2 f_album_ways f_album_front hq H locs hP hD hS ls hl
      unfold r_X0_fill_102 at hq
      refine lv_iload_n hx hb dX0_fill_102 rfl (lv_at hl 1 rfl) ?_
      refine lv_if_lt (tgt := 149) hx hb dX0_fill_103 (by decide) (fun c10 => ?_) (fun c10 => ?_)
      · replace hq := hq.1 c10
        exact hret (f_album_ways, f_album_front) hq _ _ hP hD hS _ _ dX0_fill_149
      · replace hq := hq.2 c10
        refine lv_aload_n hx hb dX0_fill_106 rfl (lv_at hl 0 rfl) ?_
        refine lv_iload_n hx hb dX0_fill_107 rfl (lv_at hl 1 rfl) ?_
        refine lv_iconst (v := (1 : Int32)) hx hb dX0_fill_108 (by decide) ?_
        refine lv_iadd hx hb dX0_fill_109 ?_
        refine gx_cVv (C := RX0) (As := [.int (l2 + (1 : Int32))]) (rest := []) ⟨hx, hb, hml, hown, hts⟩ (c_X0_closeRight l dC dI cI cJ cZ h_album h_album_ways h_album_front h_rows h_rows_framed h_rule h_rule_lower h_album_wishes h_album_at h_page h_rows_power H.size f_album_ways f_album_front rows_c rows_w rows_size rows_ring f_rows_framed f_rule_lower (l2 + (1 : Int32)) hq) (cwV 1 hts gX0_fill_X0_closeRight rfl rfl rfl hdV_X0_closeRight ⟨Nat.le_of_ble_eq_true rfl, Nat.le_of_ble_eq_true rfl⟩) hK hP hD hS hA [0, 2, 3, 4, 5, 7, 8] [1, 6, 9] rfl rfl rfl rfl rfl (ci := 0) (q0 := 0) rfl rfl rfl rfl hl.1 (Nat.le_of_ble_eq_true rfl) dX0_fill_110 rfl (fun u H locs hq hP hD hS => ?_)
        obtain ⟨f_album_front_11, rfl⟩ : ∃ z, z = u := ⟨_, rfl⟩
        try dsimp only at hq
        have hP : va_P (dC, dI) vwCl (W_X0_fill cI cJ cZ h_album h_album_wishes h_album_ways h_album_front h_rows h_rows_framed h_rows_power h_rule h_rule_lower h_page h_album_at h_page_cells f_album_wishes f_album_ways f_album_front_11 rows_c rows_w rows_size rows_ring f_rows_framed f_rows_power f_rule_lower page_h page_w) H := hP.sub [3, 0, 4, 5, 6, 7, 1, 8, 9, 2] rfl
        have hD : va_D A (W_X0_fill cI cJ cZ h_album h_album_wishes h_album_ways h_album_front h_rows h_rows_framed h_rows_power h_rule h_rule_lower h_page h_album_at h_page_cells f_album_wishes f_album_ways f_album_front_11 rows_c rows_w rows_size rows_ring f_rows_framed f_rows_power f_rule_lower page_h page_w) := hD.sub [3, 0, 4, 5, 6, 7, 1, 8, 9, 2] (by decide) rfl
        refine lv_aload_n hx hb dX0_fill_113 rfl (lv_at hl 0 rfl) ?_
        refine va_get (D := (dC, dI)) (ci := 0) (v := .ref h_rows) (C := RX0) (T := TX0) (N := 7) hx hb hts hinX0 hown hK hP 0 rfl rfl 0 (by decide) hf36 (fun _ h9 => h9) rfl dX0_fill_114 ?_
        refine va_get (D := (dC, dI)) (ci := 2) (v := .int rows_w) (C := RX2) (T := TX2) (N := 6) hx hb hts hinX2 hown hK hP 4 rfl rfl 1 (by decide) hf72 (fun _ h9 => h9) rfl dX0_fill_117 ?_
        refine lv_iconst (v := (1 : Int32)) hx hb dX0_fill_120 (by decide) ?_
        refine lv_isub hx hb dX0_fill_121 ?_
        refine lv_istore_n (lv' := [(3, .int (rows_w - (1 : Int32))), (0, .ref h_album), (2, .int l2)]) hx hb dX0_fill_122 rfl hl (by decide) rfl (fun ls hl => ?_)
        exact (C123 _ ih) _ _ _ _ hq _ _ hP hD hS _ (lv_sub hl [1, 2, 0] rfl)
  have C102 : ∀ (l2 : Int32) (f_album_ways : Nat → Int64) (f_album_front : Nat → Int64), q_X0_fill_102 f_album_wishes rows_c rows_w rows_size rows_ring f_rows_framed f_rows_power f_rule_lower page_h post l2 f_album_ways f_album_front → ∀ (H : Heap) (locs : List Loc), va_P (dC, dI) vwCl (W_X0_fill cI cJ cZ h_album h_album_wishes h_album_ways h_album_front h_rows h_rows_framed h_rows_power h_rule h_rule_lower h_page h_album_at h_page_cells f_album_wishes f_album_ways f_album_front rows_c rows_w rows_size rows_ring f_rows_framed f_rows_power f_rule_lower page_h page_w) H → va_D A (W_X0_fill cI cJ cZ h_album h_album_wishes h_album_ways h_album_front h_rows h_rows_framed h_rows_power h_rule h_rule_lower h_page h_album_at h_page_cells f_album_wishes f_album_ways f_album_front rows_c rows_w rows_size rows_ring f_rows_framed f_rows_power f_rule_lower page_h page_w) → va_S A s.heap H locs → ∀ ls : Array Slot, lv_has ls 4 [(0, .ref h_album), (2, .int l2)] → W p l e rm_X0_fill s m args below meth c H locs 0 0 QQ (F0 m 102 ls []) := by
    intro l2 f_album_ways f_album_front hq H locs hP hD hS ls hl
    obtain ⟨n, hq⟩ := hq
    exact L102 n _ _ _ hq H locs hP hD hS ls hl
  have C98 : ∀ (l1 : Int32) (f_album_ways : Nat → Int64) (f_album_front : Nat → Int64), q_X0_fill_98 f_album_wishes rows_c rows_w rows_size rows_ring f_rows_framed f_rows_power f_rule_lower page_h post l1 f_album_ways f_album_front → ∀ (H : Heap) (locs : List Loc), va_P (dC, dI) vwCl (W_X0_fill cI cJ cZ h_album h_album_wishes h_album_ways h_album_front h_rows h_rows_framed h_rows_power h_rule h_rule_lower h_page h_album_at h_page_cells f_album_wishes f_album_ways f_album_front rows_c rows_w rows_size rows_ring f_rows_framed f_rows_power f_rule_lower page_h page_w) H → va_D A (W_X0_fill cI cJ cZ h_album h_album_wishes h_album_ways h_album_front h_rows h_rows_framed h_rows_power h_rule h_rule_lower h_page h_album_at h_page_cells f_album_wishes f_album_ways f_album_front rows_c rows_w rows_size rows_ring f_rows_framed f_rows_power f_rule_lower page_h page_w) → va_S A s.heap H locs → ∀ ls : Array Slot, lv_has ls 4 [(0, .ref h_album), (1, .int l1)] → W p l e rm_X0_fill s m args below meth c H locs 0 0 QQ (F0 m 98 ls []) := by
    intro l1 f_album_ways f_album_front hq H locs hP hD hS ls hl
    unfold q_X0_fill_98 at hq
    refine lv_iload_n hx hb dX0_fill_98 rfl (lv_at hl 1 rfl) ?_
    refine lv_iconst (v := (1 : Int32)) hx hb dX0_fill_99 (by decide) ?_
    refine lv_isub hx hb dX0_fill_100 ?_
    refine lv_istore_n (lv' := [(2, .int (l1 - (1 : Int32))), (0, .ref h_album), (1, .int l1)]) hx hb dX0_fill_101 rfl hl (by decide) rfl (fun ls hl => ?_)
    exact C102 _ _ _ hq _ _ hP hD hS _ (lv_sub hl [1, 0] rfl)
  have C12 : ∀ (l1 : Int32) (l2 : Int32) (f_album_ways : Nat → Int64) (f_album_front : Nat → Int64), q_X0_fill_12 f_album_wishes rows_c rows_w rows_size rows_ring f_rows_framed f_rows_power f_rule_lower page_h post l1 l2 f_album_ways f_album_front → ∀ (H : Heap) (locs : List Loc), va_P (dC, dI) vwCl (W_X0_fill cI cJ cZ h_album h_album_wishes h_album_ways h_album_front h_rows h_rows_framed h_rows_power h_rule h_rule_lower h_page h_album_at h_page_cells f_album_wishes f_album_ways f_album_front rows_c rows_w rows_size rows_ring f_rows_framed f_rows_power f_rule_lower page_h page_w) H → va_D A (W_X0_fill cI cJ cZ h_album h_album_wishes h_album_ways h_album_front h_rows h_rows_framed h_rows_power h_rule h_rule_lower h_page h_album_at h_page_cells f_album_wishes f_album_ways f_album_front rows_c rows_w rows_size rows_ring f_rows_framed f_rows_power f_rule_lower page_h page_w) → va_S A s.heap H locs → ∀ ls : Array Slot, lv_has ls 4 [(0, .ref h_album), (1, .int l1), (2, .int l2)] → W p l e rm_X0_fill s m args below meth c H locs 0 0 QQ (F0 m 12 ls []) := by
    intro l1 l2 f_album_ways f_album_front hq H locs hP hD hS ls hl
    obtain ⟨n, hq⟩ := hq
    exact L12 _ C98 _ _ n _ _ hq H locs hP hD hS ls hl
  unfold q_X0_fill at hq
  refine lv_aload_n hx hb dX0_fill_0 rfl (lv_at hl 0 rfl) ?_
  refine va_get (D := (dC, dI)) (ci := 0) (v := .ref h_page) (C := RX0) (T := TX0) (N := 7) hx hb hts hinX0 hown hK hP 0 rfl rfl 6 (by decide) hf28 (fun _ h9 => h9) rfl dX0_fill_1 ?_
  refine va_get (D := (dC, dI)) (ci := 4) (v := .int page_h) (C := RX4) (T := TX4) (N := 3) hx hb hts hinX4 hown hK hP 9 rfl rfl 0 (by decide) hf55 (fun _ h9 => h9) rfl dX0_fill_4 ?_
  refine lv_iconst (v := (1 : Int32)) hx hb dX0_fill_7 (by decide) ?_
  refine lv_isub hx hb dX0_fill_8 ?_
  refine lv_istore_n (lv' := [(1, .int (page_h - (1 : Int32))), (0, .ref h_album)]) hx hb dX0_fill_9 rfl hl (by decide) rfl (fun ls hl => ?_)
  refine lv_iconst (v := (0 : Int32)) hx hb dX0_fill_10 (by decide) ?_
  refine lv_istore_n (lv' := [(2, .int (0 : Int32)), (1, .int (page_h - (1 : Int32))), (0, .ref h_album)]) hx hb dX0_fill_11 rfl hl (by decide) rfl (fun ls hl => ?_)
  exact C12 _ _ _ _ hq _ _ hP hD hS _ (lv_sub hl [2, 1, 0] rfl)

abbrev W_X0_waysUnder (cI cJ cZ : ClassId) (h_album h_album_ways h_rows h_rows_framed h_rule h_rule_lower h_album_wishes h_album_front h_album_at h_page h_rows_power : Nat) (f_album_ways : Nat → Int64) (rows_c : Int32) (rows_w : Int32) (rows_size : Int32) (rows_ring : Int32) (f_rows_framed : Nat → Int32) (f_rule_lower : Nat → Int32) : va_W := [(h_album, .inr (0, [.ref h_rows, .ref h_rule, .ref h_album_wishes, .ref h_album_ways, .ref h_album_front, .ref h_album_at, .ref h_page])), (h_album_ways, .inl (cJ, 1215, .inr (.inl f_album_ways))), (h_rows, .inr (2, [.int rows_c, .int rows_w, .int rows_size, .int rows_ring, .ref h_rows_framed, .ref h_rows_power])), (h_rows_framed, .inl (cI, 243, .inl f_rows_framed)), (h_rule, .inr (3, [.ref h_rule_lower])), (h_rule_lower, .inl (cI, 16, .inl f_rule_lower))]
abbrev rm_X0_waysUnder : Room := { frames := 1, cells := 0, slots := 0, locals := 24 }
def q_X0_waysUnder (f_album_ways : Nat → Int64) (rows_w : Int32) (f_rows_framed : Nat → Int32) (f_rule_lower : Nat → Int32) (l1 : Int32) (l2 : Int32) (l3 : Int32) (post : Int64 → Prop) : Prop := (vp_in ((l2 * (243 : Int32)) + l3) 1215 ∧ (((f_album_ways (((l2 * (243 : Int32)) + l3)).toNatClampNeg) = (0 : Int64) → (post (0 : Int64))) ∧ (¬ (f_album_ways (((l2 * (243 : Int32)) + l3)).toNatClampNeg) = (0 : Int64) → (vp_in l3 243 ∧ (q_X3_joins f_rule_lower l1 (f_rows_framed (l3).toNatClampNeg) rows_w (fun (r4 : Int32) => ((r4 = 0 → (post (0 : Int64))) ∧ (¬ r4 = 0 → (post (f_album_ways (((l2 * (243 : Int32)) + l3)).toNatClampNeg))))))))))
theorem hdV_X0_waysUnder : yX0_waysUnder.cls = RX0 ∧ yX0_waysUnder.cls ≠ "java/lang/invoke/MethodHandle" ∧ yX0_waysUnder.cls ≠ "java/lang/invoke/VarHandle" ∧ (parseMethodDescriptor yX0_waysUnder.desc).map (fun d => d.parameters.length) = some 3 := by decide +kernel
set_option maxHeartbeats 4000000 in
set_option maxRecDepth 100000 in
theorem c_X0_waysUnder (l : Launch) (dC : Nat → ClassId) (dI : Nat → Nat → Nat) (cI cJ cZ : ClassId) (h_album h_album_ways h_rows h_rows_framed h_rule h_rule_lower h_album_wishes h_album_front h_album_at h_page h_rows_power : Nat) (sz : Nat) (f_album_ways : Nat → Int64) (rows_c : Int32) (rows_w : Int32) (rows_size : Int32) (rows_ring : Int32) (f_rows_framed : Nat → Int32) (f_rule_lower : Nat → Int32) (l1 : Int32) (l2 : Int32) (l3 : Int32) {post : Int64 → Prop} (hq : q_X0_waysUnder f_album_ways rows_w f_rows_framed f_rule_lower l1 l2 l3 post) : Met l yX0_waysUnder wsX0_waysUnder rm_X0_waysUnder (va_Pc [.ref h_album, .int l1, .int l2, .int l3] (gx_Pre (dC, dI) vwCl (gx_tys cI cJ cZ) sz (W_X0_waysUnder cI cJ cZ h_album h_album_ways h_rows h_rows_framed h_rule h_rule_lower h_album_wishes h_album_front h_album_at h_page h_rows_power f_album_ways rows_c rows_w rows_size rows_ring f_rows_framed f_rule_lower))) (va_Ql (fun (r : Int64) (u : Unit) => post r) (gx_B (dC, dI) vwCl (gx_tys cI cJ cZ) (va_A (W_X0_waysUnder cI cJ cZ h_album h_album_ways h_rows h_rows_framed h_rule h_rule_lower h_album_wishes h_album_front h_album_at h_page h_rows_power f_album_ways rows_c rows_w rows_size rows_ring f_rows_framed f_rule_lower) sz) (fun (u : Unit) => (W_X0_waysUnder cI cJ cZ h_album h_album_ways h_rows h_rows_framed h_rule h_rule_lower h_album_wishes h_album_front h_album_at h_page h_rows_power f_album_ways rows_c rows_w rows_size rows_ring f_rows_framed f_rule_lower))) (va_A (W_X0_waysUnder cI cJ cZ h_album h_album_ways h_rows h_rows_framed h_rule h_rule_lower h_album_wishes h_album_front h_album_at h_page h_rows_power f_album_ways rows_c rows_w rows_size rows_ring f_rows_framed f_rule_lower) sz)) 0 0 (va_A (W_X0_waysUnder cI cJ cZ h_album h_album_ways h_rows h_rows_framed h_rule h_rule_lower h_album_wishes h_album_front h_album_at h_page h_rows_power f_album_ways rows_c rows_w rows_size rows_ring f_rows_framed f_rule_lower) sz) := by
  refine gx_l (cc := cX0_waysUnder) (maxL := 6) (by decide) rfl (Nat.le_of_ble_eq_true rfl) ?_
  intro p e s m args below meth c A QQ hx hb hml hown hts hA hP hK hD hret ls hl
  have hown : s.vm.findClass RX0 = some m.cls := hown
  have hf15 := hts (.fieldLink RX0 15 "SmallWindows$Album" "ways" "[J") (by decide +kernel)
  have hf32 := hts (.fieldLink RX0 32 "SmallWindows$Album" "rule" "LSmallWindows$Rule;") (by decide +kernel)
  have hf36 := hts (.fieldLink RX0 36 "SmallWindows$Album" "rows" "LSmallWindows$Rows;") (by decide +kernel)
  have hf66 := hts (.fieldLink RX0 66 "SmallWindows$Rows" "framed" "[I") (by decide +kernel)
  have hf72 := hts (.fieldLink RX0 72 "SmallWindows$Rows" "w" "I") (by decide +kernel)
  have hinX0 : ∀ w ∈ u_ws RX0 TX0 7, w ∈ wsX0_waysUnder := fun w h => List.mem_cons_of_mem _ ((List.mem_append_left _ (List.mem_append_left _ (List.mem_append_right _ h))))
  have hinX2 : ∀ w ∈ u_ws RX2 TX2 6, w ∈ wsX0_waysUnder := fun w h => List.mem_cons_of_mem _ ((List.mem_append_left _ (List.mem_append_right _ h)))
  have hS : va_S A s.heap s.heap [] := va_S.rf
  have hl : lv_has ls 6 [(0, .ref h_album), (1, .int l1), (2, .int l2), (3, .int l3)] := hl
  unfold q_X0_waysUnder at hq
  refine lv_aload_n hx hb dX0_waysUnder_0 rfl (lv_at hl 0 rfl) ?_
  refine va_get (D := (dC, dI)) (ci := 0) (v := .ref h_album_ways) (C := RX0) (T := TX0) (N := 7) hx hb hts hinX0 hown hK hP 0 rfl rfl 3 (by decide) hf15 (fun _ h9 => h9) rfl dX0_waysUnder_1 ?_
  refine lv_iload_n hx hb dX0_waysUnder_4 rfl (lv_at hl 2 rfl) ?_
  refine lv_sipush (v := (243 : Int32)) hx hb dX0_waysUnder_5 (by decide) ?_
  refine lv_imul hx hb dX0_waysUnder_8 ?_
  refine lv_iload_n hx hb dX0_waysUnder_9 rfl (lv_at hl 3 rfl) ?_
  refine lv_iadd hx hb dX0_waysUnder_10 ?_
  obtain ⟨hv1, hq⟩ := hq
  refine va_lald hx hb hK hP 1 1 rfl rfl hv1 dX0_waysUnder_11 ?_
  refine lv_lstore (lv' := [(4, .long (f_album_ways (((l2 * (243 : Int32)) + l3)).toNatClampNeg)), (0, .ref h_album), (1, .int l1), (2, .int l2), (3, .int l3)]) hx hb dX0_waysUnder_12 hl (by decide) rfl (fun ls hl => ?_)
  refine lv_lload hx hb dX0_waysUnder_14 (lv_at hl 0 rfl) ?_
  refine lv_lconst (v := (0 : Int64)) hx hb dX0_waysUnder_16 (by decide) ?_
  refine W.lcmp hx hb dX0_waysUnder_17 ?_
  refine lv_if_eq (tgt := 53) hx hb dX0_waysUnder_18 (by decide) (fun c2 => ?_) (fun c2 => ?_)
  · replace hq := hq.1 ((lg_cmp_eq _ _).mp c2)
    refine lv_lconst (v := (0 : Int64)) hx hb dX0_waysUnder_53 (by decide) ?_
    exact hret (0 : Int64) () hq _ _ hP hD hS _ _ dX0_waysUnder_54
  · replace hq := hq.2 (fun h => c2 ((lg_cmp_eq _ _).mpr h))
    refine lv_aload_n hx hb dX0_waysUnder_21 rfl (lv_at hl 1 rfl) ?_
    refine va_get (D := (dC, dI)) (ci := 0) (v := .ref h_rule) (C := RX0) (T := TX0) (N := 7) hx hb hts hinX0 hown hK hP 0 rfl rfl 1 (by decide) hf32 (fun _ h9 => h9) rfl dX0_waysUnder_22 ?_
    refine lv_iload_n hx hb dX0_waysUnder_25 rfl (lv_at hl 2 rfl) ?_
    refine lv_aload_n hx hb dX0_waysUnder_26 rfl (lv_at hl 1 rfl) ?_
    refine va_get (D := (dC, dI)) (ci := 0) (v := .ref h_rows) (C := RX0) (T := TX0) (N := 7) hx hb hts hinX0 hown hK hP 0 rfl rfl 0 (by decide) hf36 (fun _ h9 => h9) rfl dX0_waysUnder_27 ?_
    refine va_get (D := (dC, dI)) (ci := 2) (v := .ref h_rows_framed) (C := RX2) (T := TX2) (N := 6) hx hb hts hinX2 hown hK hP 2 rfl rfl 4 (by decide) hf66 (fun _ h9 => h9) rfl dX0_waysUnder_30 ?_
    refine lv_iload_n hx hb dX0_waysUnder_33 rfl (lv_at hl 4 rfl) ?_
    obtain ⟨hv3, hq⟩ := hq
    refine va_iald hx hb hK hP 3 0 rfl rfl hv3 dX0_waysUnder_34 ?_
    refine lv_aload_n hx hb dX0_waysUnder_35 rfl (lv_at hl 1 rfl) ?_
    refine va_get (D := (dC, dI)) (ci := 0) (v := .ref h_rows) (C := RX0) (T := TX0) (N := 7) hx hb hts hinX0 hown hK hP 0 rfl rfl 0 (by decide) hf36 (fun _ h9 => h9) rfl dX0_waysUnder_36 ?_
    refine va_get (D := (dC, dI)) (ci := 2) (v := .int rows_w) (C := RX2) (T := TX2) (N := 6) hx hb hts hinX2 hown hK hP 2 rfl rfl 1 (by decide) hf72 (fun _ h9 => h9) rfl dX0_waysUnder_39 ?_
    refine gx_cVi (C := RX3) (As := [.int l1, .int (f_rows_framed (l3).toNatClampNeg), .int rows_w]) (rest := []) ⟨hx, hb, hml, hown, hts⟩ (c_X3_joins l dC dI cI cJ cZ h_rule h_rule_lower s.heap.size f_rule_lower l1 (f_rows_framed (l3).toNatClampNeg) rows_w hq) (cwV 3 hts gX0_waysUnder_X3_joins rfl rfl rfl hdV_X3_joins ⟨Nat.le_of_ble_eq_true rfl, Nat.le_of_ble_eq_true rfl⟩) hK hP hD hS hA [4, 5] [0, 1, 2, 3] rfl rfl rfl rfl rfl (ci := 3) (q0 := 0) rfl rfl rfl rfl hl.1 (Nat.le_of_ble_eq_true rfl) dX0_waysUnder_42 rfl (fun r4 u H locs hq hP hD hS => ?_)
    try dsimp only at hq
    have hP : va_P (dC, dI) vwCl (W_X0_waysUnder cI cJ cZ h_album h_album_ways h_rows h_rows_framed h_rule h_rule_lower h_album_wishes h_album_front h_album_at h_page h_rows_power f_album_ways rows_c rows_w rows_size rows_ring f_rows_framed f_rule_lower) H := hP
    have hD : va_D A (W_X0_waysUnder cI cJ cZ h_album h_album_ways h_rows h_rows_framed h_rule h_rule_lower h_album_wishes h_album_front h_album_at h_page h_rows_power f_album_ways rows_c rows_w rows_size rows_ring f_rows_framed f_rule_lower) := hD
    refine lv_if_eq (tgt := 53) hx hb dX0_waysUnder_45 (by decide) (fun c5 => ?_) (fun c5 => ?_)
    · replace hq := hq.1 c5
      refine lv_lconst (v := (0 : Int64)) hx hb dX0_waysUnder_53 (by decide) ?_
      exact hret (0 : Int64) () hq _ _ hP hD hS _ _ dX0_waysUnder_54
    · replace hq := hq.2 c5
      refine lv_lload hx hb dX0_waysUnder_48 (lv_at hl 0 rfl) ?_
      refine lv_goto (tgt := 54) hx hb dX0_waysUnder_50 (by decide) ?_
      exact hret (f_album_ways (((l2 * (243 : Int32)) + l3)).toNatClampNeg) () hq _ _ hP hD hS _ _ dX0_waysUnder_54

abbrev W_X0_total (cI cJ cZ : ClassId) (h_album h_album_ways h_rows h_rows_framed h_rule h_rule_lower h_album_wishes h_album_front h_album_at h_page h_rows_power : Nat) (f_album_ways : Nat → Int64) (rows_c : Int32) (rows_w : Int32) (rows_size : Int32) (rows_ring : Int32) (f_rows_framed : Nat → Int32) (f_rule_lower : Nat → Int32) : va_W := [(h_album, .inr (0, [.ref h_rows, .ref h_rule, .ref h_album_wishes, .ref h_album_ways, .ref h_album_front, .ref h_album_at, .ref h_page])), (h_album_ways, .inl (cJ, 1215, .inr (.inl f_album_ways))), (h_rows, .inr (2, [.int rows_c, .int rows_w, .int rows_size, .int rows_ring, .ref h_rows_framed, .ref h_rows_power])), (h_rows_framed, .inl (cI, 243, .inl f_rows_framed)), (h_rule, .inr (3, [.ref h_rule_lower])), (h_rule_lower, .inl (cI, 16, .inl f_rule_lower))]
abbrev rm_X0_total : Room := { frames := 2, cells := 0, slots := 0, locals := 49 }
def r_X0_total_5 (f_album_ways : Nat → Int64) (rows_w : Int32) (rows_size : Int32) (rows_ring : Int32) (f_rows_framed : Nat → Int32) (f_rule_lower : Nat → Int32) (post : Int64 → Prop) (l1 : Int32) : Nat → (Int64) → (Int32) → Prop
  | 0, _, _ => False
  | n + 1, l2, l4 => ((rows_size ≤ l4 → (post l2)) ∧ (¬ rows_size ≤ l4 → (q_X0_waysUnder f_album_ways rows_w f_rows_framed f_rule_lower rows_ring l1 l4 (fun (r2 : Int64) => ((r_X0_total_5 f_album_ways rows_w rows_size rows_ring f_rows_framed f_rule_lower post l1 n) (l2 + r2) (l4 + (1 : Int32)))))))
def q_X0_total_5 (f_album_ways : Nat → Int64) (rows_w : Int32) (rows_size : Int32) (rows_ring : Int32) (f_rows_framed : Nat → Int32) (f_rule_lower : Nat → Int32) (post : Int64 → Prop) (l1 : Int32) (l2 : Int64) (l4 : Int32) : Prop := ∃ n, r_X0_total_5 f_album_ways rows_w rows_size rows_ring f_rows_framed f_rule_lower post l1 n l2 l4
def q_X0_total (f_album_ways : Nat → Int64) (rows_w : Int32) (rows_size : Int32) (rows_ring : Int32) (f_rows_framed : Nat → Int32) (f_rule_lower : Nat → Int32) (l1 : Int32) (post : Int64 → Prop) : Prop := ((q_X0_total_5 f_album_ways rows_w rows_size rows_ring f_rows_framed f_rule_lower post) l1 (0 : Int64) (0 : Int32))
theorem hdV_X0_total : yX0_total.cls = RX0 ∧ yX0_total.cls ≠ "java/lang/invoke/MethodHandle" ∧ yX0_total.cls ≠ "java/lang/invoke/VarHandle" ∧ (parseMethodDescriptor yX0_total.desc).map (fun d => d.parameters.length) = some 1 := by decide +kernel
set_option maxHeartbeats 4000000 in
set_option maxRecDepth 100000 in
theorem c_X0_total (l : Launch) (dC : Nat → ClassId) (dI : Nat → Nat → Nat) (cI cJ cZ : ClassId) (h_album h_album_ways h_rows h_rows_framed h_rule h_rule_lower h_album_wishes h_album_front h_album_at h_page h_rows_power : Nat) (sz : Nat) (f_album_ways : Nat → Int64) (rows_c : Int32) (rows_w : Int32) (rows_size : Int32) (rows_ring : Int32) (f_rows_framed : Nat → Int32) (f_rule_lower : Nat → Int32) (l1 : Int32) {post : Int64 → Prop} (hq : q_X0_total f_album_ways rows_w rows_size rows_ring f_rows_framed f_rule_lower l1 post) : Met l yX0_total wsX0_total rm_X0_total (va_Pc [.ref h_album, .int l1] (gx_Pre (dC, dI) vwCl (gx_tys cI cJ cZ) sz (W_X0_total cI cJ cZ h_album h_album_ways h_rows h_rows_framed h_rule h_rule_lower h_album_wishes h_album_front h_album_at h_page h_rows_power f_album_ways rows_c rows_w rows_size rows_ring f_rows_framed f_rule_lower))) (va_Ql (fun (r : Int64) (u : Unit) => post r) (gx_B (dC, dI) vwCl (gx_tys cI cJ cZ) (va_A (W_X0_total cI cJ cZ h_album h_album_ways h_rows h_rows_framed h_rule h_rule_lower h_album_wishes h_album_front h_album_at h_page h_rows_power f_album_ways rows_c rows_w rows_size rows_ring f_rows_framed f_rule_lower) sz) (fun (u : Unit) => (W_X0_total cI cJ cZ h_album h_album_ways h_rows h_rows_framed h_rule h_rule_lower h_album_wishes h_album_front h_album_at h_page h_rows_power f_album_ways rows_c rows_w rows_size rows_ring f_rows_framed f_rule_lower))) (va_A (W_X0_total cI cJ cZ h_album h_album_ways h_rows h_rows_framed h_rule h_rule_lower h_album_wishes h_album_front h_album_at h_page h_rows_power f_album_ways rows_c rows_w rows_size rows_ring f_rows_framed f_rule_lower) sz)) 0 0 (va_A (W_X0_total cI cJ cZ h_album h_album_ways h_rows h_rows_framed h_rule h_rule_lower h_album_wishes h_album_front h_album_at h_page h_rows_power f_album_ways rows_c rows_w rows_size rows_ring f_rows_framed f_rule_lower) sz) := by
  refine gx_l (cc := cX0_total) (maxL := 5) (by decide) rfl (Nat.le_of_ble_eq_true rfl) ?_
  intro p e s m args below meth c A QQ hx hb hml hown hts hA hP hK hD hret ls hl
  have hown : s.vm.findClass RX0 = some m.cls := hown
  have hf36 := hts (.fieldLink RX0 36 "SmallWindows$Album" "rows" "LSmallWindows$Rows;") (by decide +kernel)
  have hf59 := hts (.fieldLink RX0 59 "SmallWindows$Rows" "size" "I") (by decide +kernel)
  have hf69 := hts (.fieldLink RX0 69 "SmallWindows$Rows" "ring" "I") (by decide +kernel)
  have hinX0 : ∀ w ∈ u_ws RX0 TX0 7, w ∈ wsX0_total := fun w h => List.mem_cons_of_mem _ ((List.mem_append_left _ (List.mem_append_left _ (List.mem_append_right _ h))))
  have hinX2 : ∀ w ∈ u_ws RX2 TX2 6, w ∈ wsX0_total := fun w h => List.mem_cons_of_mem _ ((List.mem_append_left _ (List.mem_append_right _ h)))
  have hS : va_S A s.heap s.heap [] := va_S.rf
  have hl : lv_has ls 5 [(0, .ref h_album), (1, .int l1)] := hl
  have L5 : ∀ (l1 : Int32) (n : Nat) (l2 : Int64) (l4 : Int32), r_X0_total_5 f_album_ways rows_w rows_size rows_ring f_rows_framed f_rule_lower post l1 n l2 l4 → ∀ (H : Heap) (locs : List Loc), va_P (dC, dI) vwCl (W_X0_total cI cJ cZ h_album h_album_ways h_rows h_rows_framed h_rule h_rule_lower h_album_wishes h_album_front h_album_at h_page h_rows_power f_album_ways rows_c rows_w rows_size rows_ring f_rows_framed f_rule_lower) H → va_D A (W_X0_total cI cJ cZ h_album h_album_ways h_rows h_rows_framed h_rule h_rule_lower h_album_wishes h_album_front h_album_at h_page h_rows_power f_album_ways rows_c rows_w rows_size rows_ring f_rows_framed f_rule_lower) → va_S A s.heap H locs → ∀ ls : Array Slot, lv_has ls 5 [(0, .ref h_album), (1, .int l1), (2, .long l2), (4, .int l4)] → W p l e rm_X0_total s m args below meth c H locs 0 0 QQ (F0 m 5 ls []) := by
    intro l1 n
    induction n with
    | zero => intro l2 l4 hq; exact False.elim hq
    | succ n ih =>
      intro l2 l4 hq H locs hP hD hS ls hl
      unfold r_X0_total_5 at hq
      refine lv_iload hx hb dX0_total_5 (lv_at hl 3 rfl) ?_
      refine lv_aload_n hx hb dX0_total_7 rfl (lv_at hl 0 rfl) ?_
      refine va_get (D := (dC, dI)) (ci := 0) (v := .ref h_rows) (C := RX0) (T := TX0) (N := 7) hx hb hts hinX0 hown hK hP 0 rfl rfl 0 (by decide) hf36 (fun _ h9 => h9) rfl dX0_total_8 ?_
      refine va_get (D := (dC, dI)) (ci := 2) (v := .int rows_size) (C := RX2) (T := TX2) (N := 6) hx hb hts hinX2 hown hK hP 2 rfl rfl 2 (by decide) hf59 (fun _ h9 => h9) rfl dX0_total_11 ?_
      refine lv_icmp_ge (tgt := 40) hx hb dX0_total_14 (by decide) (fun c1 => ?_) (fun c1 => ?_)
      · replace hq := hq.1 c1
        refine lv_lload_n hx hb dX0_total_40 rfl (lv_at hl 2 rfl) ?_
        exact hret l2 () hq _ _ hP hD hS _ _ dX0_total_41
      · replace hq := hq.2 c1
        refine lv_lload_n hx hb dX0_total_17 rfl (lv_at hl 2 rfl) ?_
        refine lv_aload_n hx hb dX0_total_18 rfl (lv_at hl 0 rfl) ?_
        refine lv_aload_n hx hb dX0_total_19 rfl (lv_at hl 0 rfl) ?_
        refine va_get (D := (dC, dI)) (ci := 0) (v := .ref h_rows) (C := RX0) (T := TX0) (N := 7) hx hb hts hinX0 hown hK hP 0 rfl rfl 0 (by decide) hf36 (fun _ h9 => h9) rfl dX0_total_20 ?_
        refine va_get (D := (dC, dI)) (ci := 2) (v := .int rows_ring) (C := RX2) (T := TX2) (N := 6) hx hb hts hinX2 hown hK hP 2 rfl rfl 3 (by decide) hf69 (fun _ h9 => h9) rfl dX0_total_23 ?_
        refine lv_iload_n hx hb dX0_total_26 rfl (lv_at hl 1 rfl) ?_
        refine lv_iload hx hb dX0_total_27 (lv_at hl 3 rfl) ?_
        refine gx_cVl (C := RX0) (As := [.int rows_ring, .int l1, .int l4]) (rest := [.long l2]) ⟨hx, hb, hml, hown, hts⟩ (c_X0_waysUnder l dC dI cI cJ cZ h_album h_album_ways h_rows h_rows_framed h_rule h_rule_lower h_album_wishes h_album_front h_album_at h_page h_rows_power H.size f_album_ways rows_c rows_w rows_size rows_ring f_rows_framed f_rule_lower rows_ring l1 l4 hq) (cwV 3 hts gX0_total_X0_waysUnder rfl rfl rfl hdV_X0_waysUnder ⟨Nat.le_of_ble_eq_true rfl, Nat.le_of_ble_eq_true rfl⟩) hK hP hD hS hA [0, 1, 2, 3, 4, 5] [] rfl rfl rfl rfl rfl (ci := 0) (q0 := 0) rfl rfl rfl rfl hl.1 (Nat.le_of_ble_eq_true rfl) dX0_total_29 rfl (fun r2 u H locs hq hP hD hS => ?_)
        try dsimp only at hq
        have hP : va_P (dC, dI) vwCl (W_X0_total cI cJ cZ h_album h_album_ways h_rows h_rows_framed h_rule h_rule_lower h_album_wishes h_album_front h_album_at h_page h_rows_power f_album_ways rows_c rows_w rows_size rows_ring f_rows_framed f_rule_lower) H := hP
        have hD : va_D A (W_X0_total cI cJ cZ h_album h_album_ways h_rows h_rows_framed h_rule h_rule_lower h_album_wishes h_album_front h_album_at h_page h_rows_power f_album_ways rows_c rows_w rows_size rows_ring f_rows_framed f_rule_lower) := hD
        refine lv_ladd hx hb dX0_total_32 ?_
        refine lv_lstore_n (lv' := [(2, .long (l2 + r2)), (0, .ref h_album), (1, .int l1), (4, .int l4)]) hx hb dX0_total_33 rfl hl (by decide) rfl (fun ls hl => ?_)
        refine lv_iinc (v := (l4 + (1 : Int32))) (lv' := [(4, .int (l4 + (1 : Int32))), (2, .long (l2 + r2)), (0, .ref h_album), (1, .int l1)]) hx hb dX0_total_34 hl (k := 3) rfl rfl (by decide) rfl (fun ls hl => ?_)
        refine lv_goto (tgt := 5) hx hb dX0_total_37 (by decide) ?_
        exact ih _ _ hq _ _ hP hD hS _ (lv_sub hl [2, 3, 1, 0] rfl)
  have C5 : ∀ (l1 : Int32) (l2 : Int64) (l4 : Int32), q_X0_total_5 f_album_ways rows_w rows_size rows_ring f_rows_framed f_rule_lower post l1 l2 l4 → ∀ (H : Heap) (locs : List Loc), va_P (dC, dI) vwCl (W_X0_total cI cJ cZ h_album h_album_ways h_rows h_rows_framed h_rule h_rule_lower h_album_wishes h_album_front h_album_at h_page h_rows_power f_album_ways rows_c rows_w rows_size rows_ring f_rows_framed f_rule_lower) H → va_D A (W_X0_total cI cJ cZ h_album h_album_ways h_rows h_rows_framed h_rule h_rule_lower h_album_wishes h_album_front h_album_at h_page h_rows_power f_album_ways rows_c rows_w rows_size rows_ring f_rows_framed f_rule_lower) → va_S A s.heap H locs → ∀ ls : Array Slot, lv_has ls 5 [(0, .ref h_album), (1, .int l1), (2, .long l2), (4, .int l4)] → W p l e rm_X0_total s m args below meth c H locs 0 0 QQ (F0 m 5 ls []) := by
    intro l1 l2 l4 hq H locs hP hD hS ls hl
    obtain ⟨n, hq⟩ := hq
    exact L5 _ n _ _ hq H locs hP hD hS ls hl
  unfold q_X0_total at hq
  refine lv_lconst (v := (0 : Int64)) hx hb dX0_total_0 (by decide) ?_
  refine lv_lstore_n (lv' := [(2, .long (0 : Int64)), (0, .ref h_album), (1, .int l1)]) hx hb dX0_total_1 rfl hl (by decide) rfl (fun ls hl => ?_)
  refine lv_iconst (v := (0 : Int32)) hx hb dX0_total_2 (by decide) ?_
  refine lv_istore (lv' := [(4, .int (0 : Int32)), (2, .long (0 : Int64)), (0, .ref h_album), (1, .int l1)]) hx hb dX0_total_3 hl (by decide) rfl (fun ls hl => ?_)
  exact C5 _ _ _ hq _ _ hP hD hS _ (lv_sub hl [2, 3, 1, 0] rfl)

abbrev W_X0_above (cI cJ cZ : ClassId) (h_album h_album_at h_rows h_rows_framed h_rule h_album_wishes h_album_ways h_album_front h_page h_rows_power : Nat) (f_album_at : Nat → Int32) (rows_c : Int32) (rows_w : Int32) (rows_size : Int32) (rows_ring : Int32) (f_rows_framed : Nat → Int32) : va_W := [(h_album, .inr (0, [.ref h_rows, .ref h_rule, .ref h_album_wishes, .ref h_album_ways, .ref h_album_front, .ref h_album_at, .ref h_page])), (h_album_at, .inl (cI, 5, .inl f_album_at)), (h_rows, .inr (2, [.int rows_c, .int rows_w, .int rows_size, .int rows_ring, .ref h_rows_framed, .ref h_rows_power])), (h_rows_framed, .inl (cI, 243, .inl f_rows_framed))]
abbrev rm_X0_above : Room := { frames := 0, cells := 0, slots := 0, locals := 0 }
def q_X0_above (f_album_at : Nat → Int32) (rows_ring : Int32) (f_rows_framed : Nat → Int32) (l1 : Int32) (post : Int32 → Prop) : Prop := ((l1 = 0 → (post rows_ring)) ∧ (¬ l1 = 0 → (vp_in (l1 - (1 : Int32)) 5 ∧ ((¬ (f_album_at ((l1 - (1 : Int32))).toNatClampNeg) = (-1 : Int32) → (vp_in (l1 - (1 : Int32)) 5 ∧ (vp_in (f_album_at ((l1 - (1 : Int32))).toNatClampNeg) 243 ∧ (post (f_rows_framed ((f_album_at ((l1 - (1 : Int32))).toNatClampNeg)).toNatClampNeg))))) ∧ ((f_album_at ((l1 - (1 : Int32))).toNatClampNeg) = (-1 : Int32) → (post rows_ring))))))
theorem hdV_X0_above : yX0_above.cls = RX0 ∧ yX0_above.cls ≠ "java/lang/invoke/MethodHandle" ∧ yX0_above.cls ≠ "java/lang/invoke/VarHandle" ∧ (parseMethodDescriptor yX0_above.desc).map (fun d => d.parameters.length) = some 1 := by decide +kernel
set_option maxHeartbeats 4000000 in
set_option maxRecDepth 100000 in
theorem c_X0_above (l : Launch) (dC : Nat → ClassId) (dI : Nat → Nat → Nat) (cI cJ cZ : ClassId) (h_album h_album_at h_rows h_rows_framed h_rule h_album_wishes h_album_ways h_album_front h_page h_rows_power : Nat) (sz : Nat) (f_album_at : Nat → Int32) (rows_c : Int32) (rows_w : Int32) (rows_size : Int32) (rows_ring : Int32) (f_rows_framed : Nat → Int32) (l1 : Int32) {post : Int32 → Prop} (hq : q_X0_above f_album_at rows_ring f_rows_framed l1 post) : Met l yX0_above wsX0_above rm_X0_above (va_Pc [.ref h_album, .int l1] (gx_Pre (dC, dI) vwCl (gx_tys cI cJ cZ) sz (W_X0_above cI cJ cZ h_album h_album_at h_rows h_rows_framed h_rule h_album_wishes h_album_ways h_album_front h_page h_rows_power f_album_at rows_c rows_w rows_size rows_ring f_rows_framed))) (va_Qi (fun (r : Int32) (u : Unit) => post r) (gx_B (dC, dI) vwCl (gx_tys cI cJ cZ) (va_A (W_X0_above cI cJ cZ h_album h_album_at h_rows h_rows_framed h_rule h_album_wishes h_album_ways h_album_front h_page h_rows_power f_album_at rows_c rows_w rows_size rows_ring f_rows_framed) sz) (fun (u : Unit) => (W_X0_above cI cJ cZ h_album h_album_at h_rows h_rows_framed h_rule h_album_wishes h_album_ways h_album_front h_page h_rows_power f_album_at rows_c rows_w rows_size rows_ring f_rows_framed))) (va_A (W_X0_above cI cJ cZ h_album h_album_at h_rows h_rows_framed h_rule h_album_wishes h_album_ways h_album_front h_page h_rows_power f_album_at rows_c rows_w rows_size rows_ring f_rows_framed) sz)) 0 0 (va_A (W_X0_above cI cJ cZ h_album h_album_at h_rows h_rows_framed h_rule h_album_wishes h_album_ways h_album_front h_page h_rows_power f_album_at rows_c rows_w rows_size rows_ring f_rows_framed) sz) := by
  refine gx_i (cc := cX0_above) (maxL := 2) (by decide) rfl (Nat.le_of_ble_eq_true rfl) ?_
  intro p e s m args below meth c A QQ hx hb hml hown hts hA hP hK hD hret ls hl
  have hown : s.vm.findClass RX0 = some m.cls := hown
  have hf36 := hts (.fieldLink RX0 36 "SmallWindows$Album" "rows" "LSmallWindows$Rows;") (by decide +kernel)
  have hf69 := hts (.fieldLink RX0 69 "SmallWindows$Rows" "ring" "I") (by decide +kernel)
  have hf22 := hts (.fieldLink RX0 22 "SmallWindows$Album" "at" "[I") (by decide +kernel)
  have hf66 := hts (.fieldLink RX0 66 "SmallWindows$Rows" "framed" "[I") (by decide +kernel)
  have hinX0 : ∀ w ∈ u_ws RX0 TX0 7, w ∈ wsX0_above := fun w h => List.mem_cons_of_mem _ ((List.mem_append_left _ (List.mem_append_right _ h)))
  have hinX2 : ∀ w ∈ u_ws RX2 TX2 6, w ∈ wsX0_above := fun w h => List.mem_cons_of_mem _ ((List.mem_append_right _ h))
  have hS : va_S A s.heap s.heap [] := va_S.rf
  have hl : lv_has ls 2 [(0, .ref h_album), (1, .int l1)] := hl
  unfold q_X0_above at hq
  refine lv_iload_n hx hb dX0_above_0 rfl (lv_at hl 1 rfl) ?_
  refine lv_if_eq (tgt := 16) hx hb dX0_above_1 (by decide) (fun c1 => ?_) (fun c1 => ?_)
  · replace hq := hq.1 c1
    refine lv_aload_n hx hb dX0_above_16 rfl (lv_at hl 0 rfl) ?_
    refine va_get (D := (dC, dI)) (ci := 0) (v := .ref h_rows) (C := RX0) (T := TX0) (N := 7) hx hb hts hinX0 hown hK hP 0 rfl rfl 0 (by decide) hf36 (fun _ h9 => h9) rfl dX0_above_17 ?_
    refine va_get (D := (dC, dI)) (ci := 2) (v := .int rows_ring) (C := RX2) (T := TX2) (N := 6) hx hb hts hinX2 hown hK hP 2 rfl rfl 3 (by decide) hf69 (fun _ h9 => h9) rfl dX0_above_20 ?_
    refine lv_goto (tgt := 42) hx hb dX0_above_23 (by decide) ?_
    exact hret rows_ring () hq _ _ hP hD hS _ _ dX0_above_42
  · replace hq := hq.2 c1
    refine lv_aload_n hx hb dX0_above_4 rfl (lv_at hl 0 rfl) ?_
    refine va_get (D := (dC, dI)) (ci := 0) (v := .ref h_album_at) (C := RX0) (T := TX0) (N := 7) hx hb hts hinX0 hown hK hP 0 rfl rfl 5 (by decide) hf22 (fun _ h9 => h9) rfl dX0_above_5 ?_
    refine lv_iload_n hx hb dX0_above_8 rfl (lv_at hl 1 rfl) ?_
    refine lv_iconst (v := (1 : Int32)) hx hb dX0_above_9 (by decide) ?_
    refine lv_isub hx hb dX0_above_10 ?_
    obtain ⟨hv2, hq⟩ := hq
    refine va_iald hx hb hK hP 1 0 rfl rfl hv2 dX0_above_11 ?_
    refine lv_iconst (v := (-1 : Int32)) hx hb dX0_above_12 (by decide) ?_
    refine lv_icmp_ne (tgt := 26) hx hb dX0_above_13 (by decide) (fun c3 => ?_) (fun c3 => ?_)
    · replace hq := hq.1 c3
      refine lv_aload_n hx hb dX0_above_26 rfl (lv_at hl 0 rfl) ?_
      refine va_get (D := (dC, dI)) (ci := 0) (v := .ref h_rows) (C := RX0) (T := TX0) (N := 7) hx hb hts hinX0 hown hK hP 0 rfl rfl 0 (by decide) hf36 (fun _ h9 => h9) rfl dX0_above_27 ?_
      refine va_get (D := (dC, dI)) (ci := 2) (v := .ref h_rows_framed) (C := RX2) (T := TX2) (N := 6) hx hb hts hinX2 hown hK hP 2 rfl rfl 4 (by decide) hf66 (fun _ h9 => h9) rfl dX0_above_30 ?_
      refine lv_aload_n hx hb dX0_above_33 rfl (lv_at hl 0 rfl) ?_
      refine va_get (D := (dC, dI)) (ci := 0) (v := .ref h_album_at) (C := RX0) (T := TX0) (N := 7) hx hb hts hinX0 hown hK hP 0 rfl rfl 5 (by decide) hf22 (fun _ h9 => h9) rfl dX0_above_34 ?_
      refine lv_iload_n hx hb dX0_above_37 rfl (lv_at hl 1 rfl) ?_
      refine lv_iconst (v := (1 : Int32)) hx hb dX0_above_38 (by decide) ?_
      refine lv_isub hx hb dX0_above_39 ?_
      obtain ⟨hv4, hq⟩ := hq
      refine va_iald hx hb hK hP 1 0 rfl rfl hv4 dX0_above_40 ?_
      obtain ⟨hv5, hq⟩ := hq
      refine va_iald hx hb hK hP 3 0 rfl rfl hv5 dX0_above_41 ?_
      exact hret (f_rows_framed ((f_album_at ((l1 - (1 : Int32))).toNatClampNeg)).toNatClampNeg) () hq _ _ hP hD hS _ _ dX0_above_42
    · replace hq := hq.2 c3
      refine lv_aload_n hx hb dX0_above_16 rfl (lv_at hl 0 rfl) ?_
      refine va_get (D := (dC, dI)) (ci := 0) (v := .ref h_rows) (C := RX0) (T := TX0) (N := 7) hx hb hts hinX0 hown hK hP 0 rfl rfl 0 (by decide) hf36 (fun _ h9 => h9) rfl dX0_above_17 ?_
      refine va_get (D := (dC, dI)) (ci := 2) (v := .int rows_ring) (C := RX2) (T := TX2) (N := 6) hx hb hts hinX2 hown hK hP 2 rfl rfl 3 (by decide) hf69 (fun _ h9 => h9) rfl dX0_above_20 ?_
      refine lv_goto (tgt := 42) hx hb dX0_above_23 (by decide) ?_
      exact hret rows_ring () hq _ _ hP hD hS _ _ dX0_above_42

abbrev W_X0_show (cI cJ cZ : ClassId) (h_album h_album_at h_rows h_rows_framed h_page h_page_cells h_rule h_album_wishes h_album_ways h_album_front h_rows_power : Nat) (f_album_at : Nat → Int32) (rows_c : Int32) (rows_w : Int32) (rows_size : Int32) (rows_ring : Int32) (f_rows_framed : Nat → Int32) (page_h : Int32) (page_w : Int32) (f_page_cells : Nat → Int32) : va_W := [(h_album, .inr (0, [.ref h_rows, .ref h_rule, .ref h_album_wishes, .ref h_album_ways, .ref h_album_front, .ref h_album_at, .ref h_page])), (h_album_at, .inl (cI, 5, .inl f_album_at)), (h_rows, .inr (2, [.int rows_c, .int rows_w, .int rows_size, .int rows_ring, .ref h_rows_framed, .ref h_rows_power])), (h_rows_framed, .inl (cI, 243, .inl f_rows_framed)), (h_page, .inr (4, [.int page_h, .int page_w, .ref h_page_cells])), (h_page_cells, .inl (cI, 25, .inl f_page_cells))]
abbrev rm_X0_show : Room := { frames := 1, cells := 0, slots := 0, locals := 22 }
def r_X0_show_9 (rows_w : Int32) (f_rows_framed : Nat → Int32) (post : (Nat → Int32) → (Nat → Int32) → Prop) (l1 : Int32) (l2 : Int32) (f_album_at : Nat → Int32) : Nat → (Int32) → (Nat → Int32) → Prop
  | 0, _, _ => False
  | n + 1, l3, f_page_cells => ((rows_w ≤ l3 → (post f_album_at f_page_cells)) ∧ (¬ rows_w ≤ l3 → (q_X2_colour rows_w f_rows_framed l2 l3 (fun (r3 : Int32) => (vp_in ((rows_w * l1) + l3) 25 ∧ ((r_X0_show_9 rows_w f_rows_framed post l1 l2 f_album_at n) (l3 + (1 : Int32)) (upd f_page_cells (((rows_w * l1) + l3)).toNatClampNeg r3)))))))
def q_X0_show_9 (rows_w : Int32) (f_rows_framed : Nat → Int32) (post : (Nat → Int32) → (Nat → Int32) → Prop) (l1 : Int32) (l2 : Int32) (l3 : Int32) (f_album_at : Nat → Int32) (f_page_cells : Nat → Int32) : Prop := ∃ n, r_X0_show_9 rows_w f_rows_framed post l1 l2 f_album_at n l3 f_page_cells
def q_X0_show (rows_w : Int32) (f_rows_framed : Nat → Int32) (f_album_at : Nat → Int32) (f_page_cells : Nat → Int32) (l1 : Int32) (l2 : Int32) (post : (Nat → Int32) → (Nat → Int32) → Prop) : Prop := (vp_in l1 5 ∧ ((q_X0_show_9 rows_w f_rows_framed post) l1 l2 (0 : Int32) (upd f_album_at (l1).toNatClampNeg l2) f_page_cells))
theorem hdV_X0_show : yX0_show.cls = RX0 ∧ yX0_show.cls ≠ "java/lang/invoke/MethodHandle" ∧ yX0_show.cls ≠ "java/lang/invoke/VarHandle" ∧ (parseMethodDescriptor yX0_show.desc).map (fun d => d.parameters.length) = some 2 := by decide +kernel
set_option maxHeartbeats 4000000 in
set_option maxRecDepth 100000 in
theorem c_X0_show (l : Launch) (dC : Nat → ClassId) (dI : Nat → Nat → Nat) (cI cJ cZ : ClassId) (h_album h_album_at h_rows h_rows_framed h_page h_page_cells h_rule h_album_wishes h_album_ways h_album_front h_rows_power : Nat) (sz : Nat) (f_album_at : Nat → Int32) (rows_c : Int32) (rows_w : Int32) (rows_size : Int32) (rows_ring : Int32) (f_rows_framed : Nat → Int32) (page_h : Int32) (page_w : Int32) (f_page_cells : Nat → Int32) (l1 : Int32) (l2 : Int32) {post : (Nat → Int32) → (Nat → Int32) → Prop} (hq : q_X0_show rows_w f_rows_framed f_album_at f_page_cells l1 l2 post) : Met l yX0_show wsX0_show rm_X0_show (va_Pc [.ref h_album, .int l1, .int l2] (gx_Pre (dC, dI) vwCl (gx_tys cI cJ cZ) sz (W_X0_show cI cJ cZ h_album h_album_at h_rows h_rows_framed h_page h_page_cells h_rule h_album_wishes h_album_ways h_album_front h_rows_power f_album_at rows_c rows_w rows_size rows_ring f_rows_framed page_h page_w f_page_cells))) (va_Qv (fun (u : (Nat → Int32) × (Nat → Int32)) => post u.1 u.2) (gx_B (dC, dI) vwCl (gx_tys cI cJ cZ) (va_A (W_X0_show cI cJ cZ h_album h_album_at h_rows h_rows_framed h_page h_page_cells h_rule h_album_wishes h_album_ways h_album_front h_rows_power f_album_at rows_c rows_w rows_size rows_ring f_rows_framed page_h page_w f_page_cells) sz) (fun (u : (Nat → Int32) × (Nat → Int32)) => (W_X0_show cI cJ cZ h_album h_album_at h_rows h_rows_framed h_page h_page_cells h_rule h_album_wishes h_album_ways h_album_front h_rows_power u.1 rows_c rows_w rows_size rows_ring f_rows_framed page_h page_w u.2))) (va_A (W_X0_show cI cJ cZ h_album h_album_at h_rows h_rows_framed h_page h_page_cells h_rule h_album_wishes h_album_ways h_album_front h_rows_power f_album_at rows_c rows_w rows_size rows_ring f_rows_framed page_h page_w f_page_cells) sz)) 0 0 (va_A (W_X0_show cI cJ cZ h_album h_album_at h_rows h_rows_framed h_page h_page_cells h_rule h_album_wishes h_album_ways h_album_front h_rows_power f_album_at rows_c rows_w rows_size rows_ring f_rows_framed page_h page_w f_page_cells) sz) := by
  refine gx_v (cc := cX0_show) (maxL := 4) (by decide) rfl (Nat.le_of_ble_eq_true rfl) ?_
  intro p e s m args below meth c A QQ hx hb hml hown hts hA hP hK hD hret ls hl
  have hown : s.vm.findClass RX0 = some m.cls := hown
  have hf22 := hts (.fieldLink RX0 22 "SmallWindows$Album" "at" "[I") (by decide +kernel)
  have hf36 := hts (.fieldLink RX0 36 "SmallWindows$Album" "rows" "LSmallWindows$Rows;") (by decide +kernel)
  have hf72 := hts (.fieldLink RX0 72 "SmallWindows$Rows" "w" "I") (by decide +kernel)
  have hf28 := hts (.fieldLink RX0 28 "SmallWindows$Album" "page" "LSmallWindows$Sheet;") (by decide +kernel)
  have hf117 := hts (.fieldLink RX0 117 "SmallWindows$Sheet" "cells" "[I") (by decide +kernel)
  have hinX0 : ∀ w ∈ u_ws RX0 TX0 7, w ∈ wsX0_show := fun w h => List.mem_cons_of_mem _ ((List.mem_append_left _ (List.mem_append_left _ (List.mem_append_right _ h))))
  have hinX2 : ∀ w ∈ u_ws RX2 TX2 6, w ∈ wsX0_show := fun w h => List.mem_cons_of_mem _ ((List.mem_append_left _ (List.mem_append_right _ h)))
  have hinX4 : ∀ w ∈ u_ws RX4 TX4 3, w ∈ wsX0_show := fun w h => List.mem_cons_of_mem _ ((List.mem_append_right _ h))
  have hS : va_S A s.heap s.heap [] := va_S.rf
  have hl : lv_has ls 4 [(0, .ref h_album), (1, .int l1), (2, .int l2)] := hl
  have L9 : ∀ (l1 : Int32) (l2 : Int32) (f_album_at : Nat → Int32) (n : Nat) (l3 : Int32) (f_page_cells : Nat → Int32), r_X0_show_9 rows_w f_rows_framed post l1 l2 f_album_at n l3 f_page_cells → ∀ (H : Heap) (locs : List Loc), va_P (dC, dI) vwCl (W_X0_show cI cJ cZ h_album h_album_at h_rows h_rows_framed h_page h_page_cells h_rule h_album_wishes h_album_ways h_album_front h_rows_power f_album_at rows_c rows_w rows_size rows_ring f_rows_framed page_h page_w f_page_cells) H → va_D A (W_X0_show cI cJ cZ h_album h_album_at h_rows h_rows_framed h_page h_page_cells h_rule h_album_wishes h_album_ways h_album_front h_rows_power f_album_at rows_c rows_w rows_size rows_ring f_rows_framed page_h page_w f_page_cells) → va_S A s.heap H locs → ∀ ls : Array Slot, lv_has ls 4 [(0, .ref h_album), (1, .int l1), (2, .int l2), (3, .int l3)] → W p l e rm_X0_show s m args below meth c H locs 0 0 QQ (F0 m 9 ls []) := by
    intro l1 l2 f_album_at n
    induction n with
    | zero => intro l3 f_page_cells hq; exact False.elim hq
    | succ n ih =>
      intro l3 f_page_cells hq H locs hP hD hS ls hl
      unfold r_X0_show_9 at hq
      refine lv_iload_n hx hb dX0_show_9 rfl (lv_at hl 3 rfl) ?_
      refine lv_aload_n hx hb dX0_show_10 rfl (lv_at hl 0 rfl) ?_
      refine va_get (D := (dC, dI)) (ci := 0) (v := .ref h_rows) (C := RX0) (T := TX0) (N := 7) hx hb hts hinX0 hown hK hP 0 rfl rfl 0 (by decide) hf36 (fun _ h9 => h9) rfl dX0_show_11 ?_
      refine va_get (D := (dC, dI)) (ci := 2) (v := .int rows_w) (C := RX2) (T := TX2) (N := 6) hx hb hts hinX2 hown hK hP 2 rfl rfl 1 (by decide) hf72 (fun _ h9 => h9) rfl dX0_show_14 ?_
      refine lv_icmp_ge (tgt := 54) hx hb dX0_show_17 (by decide) (fun c2 => ?_) (fun c2 => ?_)
      · replace hq := hq.1 c2
        exact hret (f_album_at, f_page_cells) hq _ _ hP hD hS _ _ dX0_show_54
      · replace hq := hq.2 c2
        refine lv_aload_n hx hb dX0_show_20 rfl (lv_at hl 0 rfl) ?_
        refine va_get (D := (dC, dI)) (ci := 0) (v := .ref h_page) (C := RX0) (T := TX0) (N := 7) hx hb hts hinX0 hown hK hP 0 rfl rfl 6 (by decide) hf28 (fun _ h9 => h9) rfl dX0_show_21 ?_
        refine va_get (D := (dC, dI)) (ci := 4) (v := .ref h_page_cells) (C := RX4) (T := TX4) (N := 3) hx hb hts hinX4 hown hK hP 4 rfl rfl 2 (by decide) hf117 (fun _ h9 => h9) rfl dX0_show_24 ?_
        refine lv_aload_n hx hb dX0_show_27 rfl (lv_at hl 0 rfl) ?_
        refine va_get (D := (dC, dI)) (ci := 0) (v := .ref h_rows) (C := RX0) (T := TX0) (N := 7) hx hb hts hinX0 hown hK hP 0 rfl rfl 0 (by decide) hf36 (fun _ h9 => h9) rfl dX0_show_28 ?_
        refine va_get (D := (dC, dI)) (ci := 2) (v := .int rows_w) (C := RX2) (T := TX2) (N := 6) hx hb hts hinX2 hown hK hP 2 rfl rfl 1 (by decide) hf72 (fun _ h9 => h9) rfl dX0_show_31 ?_
        refine lv_iload_n hx hb dX0_show_34 rfl (lv_at hl 1 rfl) ?_
        refine lv_imul hx hb dX0_show_35 ?_
        refine lv_iload_n hx hb dX0_show_36 rfl (lv_at hl 3 rfl) ?_
        refine lv_iadd hx hb dX0_show_37 ?_
        refine lv_aload_n hx hb dX0_show_38 rfl (lv_at hl 0 rfl) ?_
        refine va_get (D := (dC, dI)) (ci := 0) (v := .ref h_rows) (C := RX0) (T := TX0) (N := 7) hx hb hts hinX0 hown hK hP 0 rfl rfl 0 (by decide) hf36 (fun _ h9 => h9) rfl dX0_show_39 ?_
        refine lv_iload_n hx hb dX0_show_42 rfl (lv_at hl 2 rfl) ?_
        refine lv_iload_n hx hb dX0_show_43 rfl (lv_at hl 3 rfl) ?_
        refine gx_cVi (C := RX2) (As := [.int l2, .int l3]) (rest := [.int ((rows_w * l1) + l3), .ref h_page_cells]) ⟨hx, hb, hml, hown, hts⟩ (c_X2_colour l dC dI cI cJ cZ h_rows h_rows_framed h_rows_power H.size rows_c rows_w rows_size rows_ring f_rows_framed l2 l3 hq) (cwV 2 hts gX0_show_X2_colour rfl rfl rfl hdV_X2_colour ⟨Nat.le_of_ble_eq_true rfl, Nat.le_of_ble_eq_true rfl⟩) hK hP hD hS hA [2, 3] [0, 1, 4, 5] rfl rfl rfl rfl rfl (ci := 2) (q0 := 0) rfl rfl rfl rfl hl.1 (Nat.le_of_ble_eq_true rfl) dX0_show_44 rfl (fun r3 u H locs hq hP hD hS => ?_)
        try dsimp only at hq
        have hP : va_P (dC, dI) vwCl (W_X0_show cI cJ cZ h_album h_album_at h_rows h_rows_framed h_page h_page_cells h_rule h_album_wishes h_album_ways h_album_front h_rows_power f_album_at rows_c rows_w rows_size rows_ring f_rows_framed page_h page_w f_page_cells) H := hP.sub [0, 1, 4, 5, 2, 3] rfl
        have hD : va_D A (W_X0_show cI cJ cZ h_album h_album_at h_rows h_rows_framed h_page h_page_cells h_rule h_album_wishes h_album_ways h_album_front h_rows_power f_album_at rows_c rows_w rows_size rows_ring f_rows_framed page_h page_w f_page_cells) := hD.sub [0, 1, 4, 5, 2, 3] (by decide) rfl
        obtain ⟨hv4, hq⟩ := hq
        refine va_iast hx hb hK hP hD hS 5 0 rfl rfl hv4 dX0_show_47 (fun H locs hP hD hS => ?_)
        have hP : va_P (dC, dI) vwCl (W_X0_show cI cJ cZ h_album h_album_at h_rows h_rows_framed h_page h_page_cells h_rule h_album_wishes h_album_ways h_album_front h_rows_power f_album_at rows_c rows_w rows_size rows_ring f_rows_framed page_h page_w (upd f_page_cells (((rows_w * l1) + l3)).toNatClampNeg r3)) H := hP
        have hD : va_D A (W_X0_show cI cJ cZ h_album h_album_at h_rows h_rows_framed h_page h_page_cells h_rule h_album_wishes h_album_ways h_album_front h_rows_power f_album_at rows_c rows_w rows_size rows_ring f_rows_framed page_h page_w (upd f_page_cells (((rows_w * l1) + l3)).toNatClampNeg r3)) := hD
        refine lv_iinc (v := (l3 + (1 : Int32))) (lv' := [(3, .int (l3 + (1 : Int32))), (0, .ref h_album), (1, .int l1), (2, .int l2)]) hx hb dX0_show_48 hl (k := 3) rfl rfl (by decide) rfl (fun ls hl => ?_)
        refine lv_goto (tgt := 9) hx hb dX0_show_51 (by decide) ?_
        exact ih _ _ hq _ _ hP hD hS _ (lv_sub hl [1, 2, 3, 0] rfl)
  have C9 : ∀ (l1 : Int32) (l2 : Int32) (l3 : Int32) (f_album_at : Nat → Int32) (f_page_cells : Nat → Int32), q_X0_show_9 rows_w f_rows_framed post l1 l2 l3 f_album_at f_page_cells → ∀ (H : Heap) (locs : List Loc), va_P (dC, dI) vwCl (W_X0_show cI cJ cZ h_album h_album_at h_rows h_rows_framed h_page h_page_cells h_rule h_album_wishes h_album_ways h_album_front h_rows_power f_album_at rows_c rows_w rows_size rows_ring f_rows_framed page_h page_w f_page_cells) H → va_D A (W_X0_show cI cJ cZ h_album h_album_at h_rows h_rows_framed h_page h_page_cells h_rule h_album_wishes h_album_ways h_album_front h_rows_power f_album_at rows_c rows_w rows_size rows_ring f_rows_framed page_h page_w f_page_cells) → va_S A s.heap H locs → ∀ ls : Array Slot, lv_has ls 4 [(0, .ref h_album), (1, .int l1), (2, .int l2), (3, .int l3)] → W p l e rm_X0_show s m args below meth c H locs 0 0 QQ (F0 m 9 ls []) := by
    intro l1 l2 l3 f_album_at f_page_cells hq H locs hP hD hS ls hl
    obtain ⟨n, hq⟩ := hq
    exact L9 _ _ _ n _ _ hq H locs hP hD hS ls hl
  unfold q_X0_show at hq
  refine lv_aload_n hx hb dX0_show_0 rfl (lv_at hl 0 rfl) ?_
  refine va_get (D := (dC, dI)) (ci := 0) (v := .ref h_album_at) (C := RX0) (T := TX0) (N := 7) hx hb hts hinX0 hown hK hP 0 rfl rfl 5 (by decide) hf22 (fun _ h9 => h9) rfl dX0_show_1 ?_
  refine lv_iload_n hx hb dX0_show_4 rfl (lv_at hl 1 rfl) ?_
  refine lv_iload_n hx hb dX0_show_5 rfl (lv_at hl 2 rfl) ?_
  obtain ⟨hv1, hq⟩ := hq
  refine va_iast hx hb hK hP hD hS 1 0 rfl rfl hv1 dX0_show_6 (fun H locs hP hD hS => ?_)
  have hP : va_P (dC, dI) vwCl (W_X0_show cI cJ cZ h_album h_album_at h_rows h_rows_framed h_page h_page_cells h_rule h_album_wishes h_album_ways h_album_front h_rows_power (upd f_album_at (l1).toNatClampNeg l2) rows_c rows_w rows_size rows_ring f_rows_framed page_h page_w f_page_cells) H := hP
  have hD : va_D A (W_X0_show cI cJ cZ h_album h_album_at h_rows h_rows_framed h_page h_page_cells h_rule h_album_wishes h_album_ways h_album_front h_rows_power (upd f_album_at (l1).toNatClampNeg l2) rows_c rows_w rows_size rows_ring f_rows_framed page_h page_w f_page_cells) := hD
  refine lv_iconst (v := (0 : Int32)) hx hb dX0_show_7 (by decide) ?_
  refine lv_istore_n (lv' := [(3, .int (0 : Int32)), (0, .ref h_album), (1, .int l1), (2, .int l2)]) hx hb dX0_show_8 rfl hl (by decide) rfl (fun ls hl => ?_)
  exact C9 _ _ _ _ _ hq _ _ hP hD hS _ (lv_sub hl [1, 2, 3, 0] rfl)

abbrev W_X0_turnTo (cI cJ cZ : ClassId) (h_album h_album_ways h_album_at h_rows h_rows_framed h_rule h_rule_lower h_page h_page_cells h_album_wishes h_album_front h_rows_power : Nat) (f_album_ways : Nat → Int64) (f_album_at : Nat → Int32) (rows_c : Int32) (rows_w : Int32) (rows_size : Int32) (rows_ring : Int32) (f_rows_framed : Nat → Int32) (f_rule_lower : Nat → Int32) (page_h : Int32) (page_w : Int32) (f_page_cells : Nat → Int32) : va_W := [(h_album, .inr (0, [.ref h_rows, .ref h_rule, .ref h_album_wishes, .ref h_album_ways, .ref h_album_front, .ref h_album_at, .ref h_page])), (h_album_ways, .inl (cJ, 1215, .inr (.inl f_album_ways))), (h_album_at, .inl (cI, 5, .inl f_album_at)), (h_rows, .inr (2, [.int rows_c, .int rows_w, .int rows_size, .int rows_ring, .ref h_rows_framed, .ref h_rows_power])), (h_rows_framed, .inl (cI, 243, .inl f_rows_framed)), (h_rule, .inr (3, [.ref h_rule_lower])), (h_rule_lower, .inl (cI, 16, .inl f_rule_lower)), (h_page, .inr (4, [.int page_h, .int page_w, .ref h_page_cells])), (h_page_cells, .inl (cI, 25, .inl f_page_cells))]
abbrev rm_X0_turnTo : Room := { frames := 2, cells := 0, slots := 0, locals := 49 }
def q_X0_turnTo_72 (f_album_ways : Nat → Int64) (rows_w : Int32) (rows_size : Int32) (rows_ring : Int32) (f_rows_framed : Nat → Int32) (f_rule_lower : Nat → Int32) (page_h : Int32) (l5 : Int32) (l6 : Int32) (post : Int32 → (Nat → Int32) → (Nat → Int32) → Prop) (K101 : (Int64) → (Int32) → (Int32) → (Nat → Int32) → (Nat → Int32) → Prop) (K31 : (Int64) → (Int32) → (Int32) → (Nat → Int32) → (Nat → Int32) → Prop) (l3 : Int64) (l8 : Int32) (l9 : Int64) (t0 : Int32) (f_album_at : Nat → Int32) (f_page_cells : Nat → Int32) : Prop := ((t0 = 0 → (K31 (l3 - l9) t0 (l8 + (1 : Int32)) f_album_at f_page_cells)) ∧ (¬ t0 = 0 → (q_X0_show rows_w f_rows_framed f_album_at f_page_cells l5 l8 (fun (f_album_at_8 : Nat → Int32) (f_page_cells_8 : Nat → Int32) => (K31 l3 t0 (l8 + (1 : Int32)) f_album_at_8 f_page_cells_8)))))
def r_X0_turnTo_31 (f_album_ways : Nat → Int64) (rows_w : Int32) (rows_size : Int32) (rows_ring : Int32) (f_rows_framed : Nat → Int32) (f_rule_lower : Nat → Int32) (page_h : Int32) (post : Int32 → (Nat → Int32) → (Nat → Int32) → Prop) (K101 : (Int64) → (Int32) → (Int32) → (Nat → Int32) → (Nat → Int32) → Prop) (l5 : Int32) (l6 : Int32) : Nat → (Int64) → (Int32) → (Int32) → (Nat → Int32) → (Nat → Int32) → Prop
  | 0, _, _, _, _, _ => False
  | n + 1, l3, l7, l8, f_album_at, f_page_cells => ((rows_size ≤ l8 → (K101 l3 l5 l7 f_album_at f_page_cells)) ∧ (¬ rows_size ≤ l8 → ((¬ l7 = 0 → (K101 l3 l5 l7 f_album_at f_page_cells)) ∧ (l7 = 0 → (q_X0_waysUnder f_album_ways rows_w f_rows_framed f_rule_lower l6 l5 l8 (fun (r5 : Int64) => ((r5 ≤ l3 → ((q_X0_turnTo_72 f_album_ways rows_w rows_size rows_ring f_rows_framed f_rule_lower page_h l5 l6 post K101 (r_X0_turnTo_31 f_album_ways rows_w rows_size rows_ring f_rows_framed f_rule_lower page_h post K101 l5 l6 n)) l3 l8 r5 (0 : Int32) f_album_at f_page_cells)) ∧ (¬ r5 ≤ l3 → ((q_X0_turnTo_72 f_album_ways rows_w rows_size rows_ring f_rows_framed f_rule_lower page_h l5 l6 post K101 (r_X0_turnTo_31 f_album_ways rows_w rows_size rows_ring f_rows_framed f_rule_lower page_h post K101 l5 l6 n)) l3 l8 r5 (1 : Int32) f_album_at f_page_cells)))))))))
def q_X0_turnTo_101 (f_album_ways : Nat → Int64) (rows_w : Int32) (rows_size : Int32) (rows_ring : Int32) (f_rows_framed : Nat → Int32) (f_rule_lower : Nat → Int32) (page_h : Int32) (post : Int32 → (Nat → Int32) → (Nat → Int32) → Prop) (K5 : (Int64) → (Int32) → (Nat → Int32) → (Nat → Int32) → Prop) (l3 : Int64) (l5 : Int32) (l7 : Int32) (f_album_at : Nat → Int32) (f_page_cells : Nat → Int32) : Prop := ((¬ l7 = 0 → (K5 l3 (l5 + (1 : Int32)) f_album_at f_page_cells)) ∧ (l7 = 0 → (post (0 : Int32) f_album_at f_page_cells)))
def q_X0_turnTo_31 (f_album_ways : Nat → Int64) (rows_w : Int32) (rows_size : Int32) (rows_ring : Int32) (f_rows_framed : Nat → Int32) (f_rule_lower : Nat → Int32) (page_h : Int32) (post : Int32 → (Nat → Int32) → (Nat → Int32) → Prop) (K5 : (Int64) → (Int32) → (Nat → Int32) → (Nat → Int32) → Prop) (l3 : Int64) (l5 : Int32) (l6 : Int32) (l7 : Int32) (l8 : Int32) (f_album_at : Nat → Int32) (f_page_cells : Nat → Int32) : Prop := ∃ n, r_X0_turnTo_31 f_album_ways rows_w rows_size rows_ring f_rows_framed f_rule_lower page_h post (q_X0_turnTo_101 f_album_ways rows_w rows_size rows_ring f_rows_framed f_rule_lower page_h post K5) l5 l6 n l3 l7 l8 f_album_at f_page_cells
def r_X0_turnTo_5 (f_album_ways : Nat → Int64) (rows_w : Int32) (rows_size : Int32) (rows_ring : Int32) (f_rows_framed : Nat → Int32) (f_rule_lower : Nat → Int32) (page_h : Int32) (post : Int32 → (Nat → Int32) → (Nat → Int32) → Prop) : Nat → (Int64) → (Int32) → (Nat → Int32) → (Nat → Int32) → Prop
  | 0, _, _, _, _ => False
  | n + 1, l3, l5, f_album_at, f_page_cells => ((page_h ≤ l5 → (post (1 : Int32) f_album_at f_page_cells)) ∧ (¬ page_h ≤ l5 → (q_X0_above f_album_at rows_ring f_rows_framed l5 (fun (r2 : Int32) => ((q_X0_turnTo_31 f_album_ways rows_w rows_size rows_ring f_rows_framed f_rule_lower page_h post (r_X0_turnTo_5 f_album_ways rows_w rows_size rows_ring f_rows_framed f_rule_lower page_h post n)) l3 l5 r2 (0 : Int32) (0 : Int32) f_album_at f_page_cells)))))
def q_X0_turnTo_5 (f_album_ways : Nat → Int64) (rows_w : Int32) (rows_size : Int32) (rows_ring : Int32) (f_rows_framed : Nat → Int32) (f_rule_lower : Nat → Int32) (page_h : Int32) (post : Int32 → (Nat → Int32) → (Nat → Int32) → Prop) (l3 : Int64) (l5 : Int32) (f_album_at : Nat → Int32) (f_page_cells : Nat → Int32) : Prop := ∃ n, r_X0_turnTo_5 f_album_ways rows_w rows_size rows_ring f_rows_framed f_rule_lower page_h post n l3 l5 f_album_at f_page_cells
def q_X0_turnTo (f_album_ways : Nat → Int64) (rows_w : Int32) (rows_size : Int32) (rows_ring : Int32) (f_rows_framed : Nat → Int32) (f_rule_lower : Nat → Int32) (page_h : Int32) (f_album_at : Nat → Int32) (f_page_cells : Nat → Int32) (l1 : Int64) (post : Int32 → (Nat → Int32) → (Nat → Int32) → Prop) : Prop := ((q_X0_turnTo_5 f_album_ways rows_w rows_size rows_ring f_rows_framed f_rule_lower page_h post) l1 (0 : Int32) f_album_at f_page_cells)
theorem hdV_X0_turnTo : yX0_turnTo.cls = RX0 ∧ yX0_turnTo.cls ≠ "java/lang/invoke/MethodHandle" ∧ yX0_turnTo.cls ≠ "java/lang/invoke/VarHandle" ∧ (parseMethodDescriptor yX0_turnTo.desc).map (fun d => d.parameters.length) = some 1 := by decide +kernel
set_option maxHeartbeats 4000000 in
set_option maxRecDepth 100000 in
theorem c_X0_turnTo (l : Launch) (dC : Nat → ClassId) (dI : Nat → Nat → Nat) (cI cJ cZ : ClassId) (h_album h_album_ways h_album_at h_rows h_rows_framed h_rule h_rule_lower h_page h_page_cells h_album_wishes h_album_front h_rows_power : Nat) (sz : Nat) (f_album_ways : Nat → Int64) (f_album_at : Nat → Int32) (rows_c : Int32) (rows_w : Int32) (rows_size : Int32) (rows_ring : Int32) (f_rows_framed : Nat → Int32) (f_rule_lower : Nat → Int32) (page_h : Int32) (page_w : Int32) (f_page_cells : Nat → Int32) (l1 : Int64) {post : Int32 → (Nat → Int32) → (Nat → Int32) → Prop} (hq : q_X0_turnTo f_album_ways rows_w rows_size rows_ring f_rows_framed f_rule_lower page_h f_album_at f_page_cells l1 post) : Met l yX0_turnTo wsX0_turnTo rm_X0_turnTo (va_Pc [.ref h_album, .long l1] (gx_Pre (dC, dI) vwCl (gx_tys cI cJ cZ) sz (W_X0_turnTo cI cJ cZ h_album h_album_ways h_album_at h_rows h_rows_framed h_rule h_rule_lower h_page h_page_cells h_album_wishes h_album_front h_rows_power f_album_ways f_album_at rows_c rows_w rows_size rows_ring f_rows_framed f_rule_lower page_h page_w f_page_cells))) (va_Qi (fun (r : Int32) (u : (Nat → Int32) × (Nat → Int32)) => post r u.1 u.2) (gx_B (dC, dI) vwCl (gx_tys cI cJ cZ) (va_A (W_X0_turnTo cI cJ cZ h_album h_album_ways h_album_at h_rows h_rows_framed h_rule h_rule_lower h_page h_page_cells h_album_wishes h_album_front h_rows_power f_album_ways f_album_at rows_c rows_w rows_size rows_ring f_rows_framed f_rule_lower page_h page_w f_page_cells) sz) (fun (u : (Nat → Int32) × (Nat → Int32)) => (W_X0_turnTo cI cJ cZ h_album h_album_ways h_album_at h_rows h_rows_framed h_rule h_rule_lower h_page h_page_cells h_album_wishes h_album_front h_rows_power f_album_ways u.1 rows_c rows_w rows_size rows_ring f_rows_framed f_rule_lower page_h page_w u.2))) (va_A (W_X0_turnTo cI cJ cZ h_album h_album_ways h_album_at h_rows h_rows_framed h_rule h_rule_lower h_page h_page_cells h_album_wishes h_album_front h_rows_power f_album_ways f_album_at rows_c rows_w rows_size rows_ring f_rows_framed f_rule_lower page_h page_w f_page_cells) sz)) 0 0 (va_A (W_X0_turnTo cI cJ cZ h_album h_album_ways h_album_at h_rows h_rows_framed h_rule h_rule_lower h_page h_page_cells h_album_wishes h_album_front h_rows_power f_album_ways f_album_at rows_c rows_w rows_size rows_ring f_rows_framed f_rule_lower page_h page_w f_page_cells) sz) := by
  refine gx_z (cc := cX0_turnTo) (maxL := 11) (by decide) rfl (Nat.le_of_ble_eq_true rfl) ?_
  intro p e s m args below meth c A QQ hx hb hml hown hts hA hP hK hD hret ls hl
  have hown : s.vm.findClass RX0 = some m.cls := hown
  have hf28 := hts (.fieldLink RX0 28 "SmallWindows$Album" "page" "LSmallWindows$Sheet;") (by decide +kernel)
  have hf55 := hts (.fieldLink RX0 55 "SmallWindows$Sheet" "h" "I") (by decide +kernel)
  have hf36 := hts (.fieldLink RX0 36 "SmallWindows$Album" "rows" "LSmallWindows$Rows;") (by decide +kernel)
  have hf59 := hts (.fieldLink RX0 59 "SmallWindows$Rows" "size" "I") (by decide +kernel)
  have hinX0 : ∀ w ∈ u_ws RX0 TX0 7, w ∈ wsX0_turnTo := fun w h => List.mem_cons_of_mem _ ((List.mem_append_left _ (List.mem_append_left _ (List.mem_append_left _ (List.mem_append_right _ h)))))
  have hinX4 : ∀ w ∈ u_ws RX4 TX4 3, w ∈ wsX0_turnTo := fun w h => List.mem_cons_of_mem _ ((List.mem_append_left _ (List.mem_append_left _ (List.mem_append_right _ h))))
  have hinX2 : ∀ w ∈ u_ws RX2 TX2 6, w ∈ wsX0_turnTo := fun w h => List.mem_cons_of_mem _ ((List.mem_append_left _ (List.mem_append_right _ h)))
  have hS : va_S A s.heap s.heap [] := va_S.rf
  have hl : lv_has ls 11 [(0, .ref h_album), (1, .long l1)] := hl
  have C72 : ∀ (l5 : Int32) (l6 : Int32) (K101 : (Int64) → (Int32) → (Int32) → (Nat → Int32) → (Nat → Int32) → Prop) (hK101 : (∀ (l3 : Int64) (l5 : Int32) (l7 : Int32) (f_album_at : Nat → Int32) (f_page_cells : Nat → Int32), K101 l3 l5 l7 f_album_at f_page_cells → ∀ (H : Heap) (locs : List Loc), va_P (dC, dI) vwCl (W_X0_turnTo cI cJ cZ h_album h_album_ways h_album_at h_rows h_rows_framed h_rule h_rule_lower h_page h_page_cells h_album_wishes h_album_front h_rows_power f_album_ways f_album_at rows_c rows_w rows_size rows_ring f_rows_framed f_rule_lower page_h page_w f_page_cells) H → va_D A (W_X0_turnTo cI cJ cZ h_album h_album_ways h_album_at h_rows h_rows_framed h_rule h_rule_lower h_page h_page_cells h_album_wishes h_album_front h_rows_power f_album_ways f_album_at rows_c rows_w rows_size rows_ring f_rows_framed f_rule_lower page_h page_w f_page_cells) → va_S A s.heap H locs → ∀ ls : Array Slot, lv_has ls 11 [(0, .ref h_album), (3, .long l3), (5, .int l5), (7, .int l7)] → W p l e rm_X0_turnTo s m args below meth c H locs 0 0 QQ (F0 m 101 ls []))) (K31 : (Int64) → (Int32) → (Int32) → (Nat → Int32) → (Nat → Int32) → Prop) (hK31 : (∀ (l3 : Int64) (l7 : Int32) (l8 : Int32) (f_album_at : Nat → Int32) (f_page_cells : Nat → Int32), K31 l3 l7 l8 f_album_at f_page_cells → ∀ (H : Heap) (locs : List Loc), va_P (dC, dI) vwCl (W_X0_turnTo cI cJ cZ h_album h_album_ways h_album_at h_rows h_rows_framed h_rule h_rule_lower h_page h_page_cells h_album_wishes h_album_front h_rows_power f_album_ways f_album_at rows_c rows_w rows_size rows_ring f_rows_framed f_rule_lower page_h page_w f_page_cells) H → va_D A (W_X0_turnTo cI cJ cZ h_album h_album_ways h_album_at h_rows h_rows_framed h_rule h_rule_lower h_page h_page_cells h_album_wishes h_album_front h_rows_power f_album_ways f_album_at rows_c rows_w rows_size rows_ring f_rows_framed f_rule_lower page_h page_w f_page_cells) → va_S A s.heap H locs → ∀ ls : Array Slot, lv_has ls 11 [(0, .ref h_album), (3, .long l3), (5, .int l5), (6, .int l6), (7, .int l7), (8, .int l8)] → W p l e rm_X0_turnTo s m args below meth c H locs 0 0 QQ (F0 m 31 ls []))) (l3 : Int64) (l8 : Int32) (l9 : Int64) (t0 : Int32) (f_album_at : Nat → Int32) (f_page_cells : Nat → Int32), q_X0_turnTo_72 f_album_ways rows_w rows_size rows_ring f_rows_framed f_rule_lower page_h l5 l6 post K101 K31 l3 l8 l9 t0 f_album_at f_page_cells → ∀ (H : Heap) (locs : List Loc), va_P (dC, dI) vwCl (W_X0_turnTo cI cJ cZ h_album h_album_ways h_album_at h_rows h_rows_framed h_rule h_rule_lower h_page h_page_cells h_album_wishes h_album_front h_rows_power f_album_ways f_album_at rows_c rows_w rows_size rows_ring f_rows_framed f_rule_lower page_h page_w f_page_cells) H → va_D A (W_X0_turnTo cI cJ cZ h_album h_album_ways h_album_at h_rows h_rows_framed h_rule h_rule_lower h_page h_page_cells h_album_wishes h_album_front h_rows_power f_album_ways f_album_at rows_c rows_w rows_size rows_ring f_rows_framed f_rule_lower page_h page_w f_page_cells) → va_S A s.heap H locs → ∀ ls : Array Slot, lv_has ls 11 [(0, .ref h_album), (3, .long l3), (5, .int l5), (6, .int l6), (8, .int l8), (9, .long l9)] → W p l e rm_X0_turnTo s m args below meth c H locs 0 0 QQ (F0 m 72 ls [.int t0]) := by
    intro l5 l6 K101 hK101 K31 hK31 l3 l8 l9 t0 f_album_at f_page_cells hq H locs hP hD hS ls hl
    unfold q_X0_turnTo_72 at hq
    refine lv_istore (lv' := [(7, .int t0), (0, .ref h_album), (3, .long l3), (5, .int l5), (6, .int l6), (8, .int l8), (9, .long l9)]) hx hb dX0_turnTo_72 hl (by decide) rfl (fun ls hl => ?_)
    refine lv_iload hx hb dX0_turnTo_74 (lv_at hl 0 rfl) ?_
    refine lv_if_eq (tgt := 90) hx hb dX0_turnTo_76 (by decide) (fun c7 => ?_) (fun c7 => ?_)
    · replace hq := hq.1 c7
      refine lv_lload_n hx hb dX0_turnTo_90 rfl (lv_at hl 2 rfl) ?_
      refine lv_lload hx hb dX0_turnTo_91 (lv_at hl 6 rfl) ?_
      refine lv_lsub hx hb dX0_turnTo_93 ?_
      refine lv_lstore_n (lv' := [(3, .long (l3 - l9)), (7, .int t0), (0, .ref h_album), (5, .int l5), (6, .int l6), (8, .int l8), (9, .long l9)]) hx hb dX0_turnTo_94 rfl hl (by decide) rfl (fun ls hl => ?_)
      refine lv_iinc (v := (l8 + (1 : Int32))) (lv' := [(8, .int (l8 + (1 : Int32))), (3, .long (l3 - l9)), (7, .int t0), (0, .ref h_album), (5, .int l5), (6, .int l6), (9, .long l9)]) hx hb dX0_turnTo_95 hl (k := 5) rfl rfl (by decide) rfl (fun ls hl => ?_)
      refine lv_goto (tgt := 31) hx hb dX0_turnTo_98 (by decide) ?_
      exact hK31 _ _ _ _ _ hq _ _ hP hD hS _ (lv_sub hl [3, 1, 4, 5, 2, 0] rfl)
    · replace hq := hq.2 c7
      refine lv_aload_n hx hb dX0_turnTo_79 rfl (lv_at hl 1 rfl) ?_
      refine lv_iload hx hb dX0_turnTo_80 (lv_at hl 3 rfl) ?_
      refine lv_iload hx hb dX0_turnTo_82 (lv_at hl 5 rfl) ?_
      refine gx_cVv (C := RX0) (As := [.int l5, .int l8]) (rest := []) ⟨hx, hb, hml, hown, hts⟩ (c_X0_show l dC dI cI cJ cZ h_album h_album_at h_rows h_rows_framed h_page h_page_cells h_rule h_album_wishes h_album_ways h_album_front h_rows_power H.size f_album_at rows_c rows_w rows_size rows_ring f_rows_framed page_h page_w f_page_cells l5 l8 hq) (cwV 2 hts gX0_turnTo_X0_show rfl rfl rfl hdV_X0_show ⟨Nat.le_of_ble_eq_true rfl, Nat.le_of_ble_eq_true rfl⟩) hK hP hD hS hA [0, 2, 3, 4, 7, 8] [1, 5, 6] rfl rfl rfl rfl rfl (ci := 0) (q0 := 0) rfl rfl rfl rfl hl.1 (Nat.le_of_ble_eq_true rfl) dX0_turnTo_84 rfl (fun u H locs hq hP hD hS => ?_)
      obtain ⟨f_album_at_8, f_page_cells_8⟩ := u
      try dsimp only at hq
      have hP : va_P (dC, dI) vwCl (W_X0_turnTo cI cJ cZ h_album h_album_ways h_album_at h_rows h_rows_framed h_rule h_rule_lower h_page h_page_cells h_album_wishes h_album_front h_rows_power f_album_ways f_album_at_8 rows_c rows_w rows_size rows_ring f_rows_framed f_rule_lower page_h page_w f_page_cells_8) H := hP.sub [3, 0, 4, 5, 6, 1, 2, 7, 8] rfl
      have hD : va_D A (W_X0_turnTo cI cJ cZ h_album h_album_ways h_album_at h_rows h_rows_framed h_rule h_rule_lower h_page h_page_cells h_album_wishes h_album_front h_rows_power f_album_ways f_album_at_8 rows_c rows_w rows_size rows_ring f_rows_framed f_rule_lower page_h page_w f_page_cells_8) := hD.sub [3, 0, 4, 5, 6, 1, 2, 7, 8] (by decide) rfl
      refine lv_goto (tgt := 95) hx hb dX0_turnTo_87 (by decide) ?_
      refine lv_iinc (v := (l8 + (1 : Int32))) (lv' := [(8, .int (l8 + (1 : Int32))), (7, .int t0), (0, .ref h_album), (3, .long l3), (5, .int l5), (6, .int l6), (9, .long l9)]) hx hb dX0_turnTo_95 hl (k := 5) rfl rfl (by decide) rfl (fun ls hl => ?_)
      refine lv_goto (tgt := 31) hx hb dX0_turnTo_98 (by decide) ?_
      exact hK31 _ _ _ _ _ hq _ _ hP hD hS _ (lv_sub hl [2, 3, 4, 5, 1, 0] rfl)
  have L31 : ∀ (K101 : (Int64) → (Int32) → (Int32) → (Nat → Int32) → (Nat → Int32) → Prop) (hK101 : (∀ (l3 : Int64) (l5 : Int32) (l7 : Int32) (f_album_at : Nat → Int32) (f_page_cells : Nat → Int32), K101 l3 l5 l7 f_album_at f_page_cells → ∀ (H : Heap) (locs : List Loc), va_P (dC, dI) vwCl (W_X0_turnTo cI cJ cZ h_album h_album_ways h_album_at h_rows h_rows_framed h_rule h_rule_lower h_page h_page_cells h_album_wishes h_album_front h_rows_power f_album_ways f_album_at rows_c rows_w rows_size rows_ring f_rows_framed f_rule_lower page_h page_w f_page_cells) H → va_D A (W_X0_turnTo cI cJ cZ h_album h_album_ways h_album_at h_rows h_rows_framed h_rule h_rule_lower h_page h_page_cells h_album_wishes h_album_front h_rows_power f_album_ways f_album_at rows_c rows_w rows_size rows_ring f_rows_framed f_rule_lower page_h page_w f_page_cells) → va_S A s.heap H locs → ∀ ls : Array Slot, lv_has ls 11 [(0, .ref h_album), (3, .long l3), (5, .int l5), (7, .int l7)] → W p l e rm_X0_turnTo s m args below meth c H locs 0 0 QQ (F0 m 101 ls []))) (l5 : Int32) (l6 : Int32) (n : Nat) (l3 : Int64) (l7 : Int32) (l8 : Int32) (f_album_at : Nat → Int32) (f_page_cells : Nat → Int32), r_X0_turnTo_31 f_album_ways rows_w rows_size rows_ring f_rows_framed f_rule_lower page_h post K101 l5 l6 n l3 l7 l8 f_album_at f_page_cells → ∀ (H : Heap) (locs : List Loc), va_P (dC, dI) vwCl (W_X0_turnTo cI cJ cZ h_album h_album_ways h_album_at h_rows h_rows_framed h_rule h_rule_lower h_page h_page_cells h_album_wishes h_album_front h_rows_power f_album_ways f_album_at rows_c rows_w rows_size rows_ring f_rows_framed f_rule_lower page_h page_w f_page_cells) H → va_D A (W_X0_turnTo cI cJ cZ h_album h_album_ways h_album_at h_rows h_rows_framed h_rule h_rule_lower h_page h_page_cells h_album_wishes h_album_front h_rows_power f_album_ways f_album_at rows_c rows_w rows_size rows_ring f_rows_framed f_rule_lower page_h page_w f_page_cells) → va_S A s.heap H locs → ∀ ls : Array Slot, lv_has ls 11 [(0, .ref h_album), (3, .long l3), (5, .int l5), (6, .int l6), (7, .int l7), (8, .int l8)] → W p l e rm_X0_turnTo s m args below meth c H locs 0 0 QQ (F0 m 31 ls []) := by
    intro K101 hK101 l5 l6 n
    induction n with
    | zero => intro l3 l7 l8 f_album_at f_page_cells hq; exact False.elim hq
    | succ n ih =>
      intro l3 l7 l8 f_album_at f_page_cells hq H locs hP hD hS ls hl
      unfold r_X0_turnTo_31 at hq
      refine lv_iload hx hb dX0_turnTo_31 (lv_at hl 5 rfl) ?_
      refine lv_aload_n hx hb dX0_turnTo_33 rfl (lv_at hl 0 rfl) ?_
      refine va_get (D := (dC, dI)) (ci := 0) (v := .ref h_rows) (C := RX0) (T := TX0) (N := 7) hx hb hts hinX0 hown hK hP 0 rfl rfl 0 (by decide) hf36 (fun _ h9 => h9) rfl dX0_turnTo_34 ?_
      refine va_get (D := (dC, dI)) (ci := 2) (v := .int rows_size) (C := RX2) (T := TX2) (N := 6) hx hb hts hinX2 hown hK hP 3 rfl rfl 2 (by decide) hf59 (fun _ h9 => h9) rfl dX0_turnTo_37 ?_
      refine lv_icmp_ge (tgt := 101) hx hb dX0_turnTo_40 (by decide) (fun c3 => ?_) (fun c3 => ?_)
      · replace hq := hq.1 c3
        exact hK101 _ _ _ _ _ hq _ _ hP hD hS _ (lv_sub hl [0, 1, 2, 4] rfl)
      · replace hq := hq.2 c3
        refine lv_iload hx hb dX0_turnTo_43 (lv_at hl 4 rfl) ?_
        refine lv_if_ne (tgt := 101) hx hb dX0_turnTo_45 (by decide) (fun c4 => ?_) (fun c4 => ?_)
        · replace hq := hq.1 c4
          exact hK101 _ _ _ _ _ hq _ _ hP hD hS _ (lv_sub hl [0, 1, 2, 4] rfl)
        · replace hq := hq.2 c4
          refine lv_aload_n hx hb dX0_turnTo_48 rfl (lv_at hl 0 rfl) ?_
          refine lv_iload hx hb dX0_turnTo_49 (lv_at hl 3 rfl) ?_
          refine lv_iload hx hb dX0_turnTo_51 (lv_at hl 2 rfl) ?_
          refine lv_iload hx hb dX0_turnTo_53 (lv_at hl 5 rfl) ?_
          refine gx_cVl (C := RX0) (As := [.int l6, .int l5, .int l8]) (rest := []) ⟨hx, hb, hml, hown, hts⟩ (c_X0_waysUnder l dC dI cI cJ cZ h_album h_album_ways h_rows h_rows_framed h_rule h_rule_lower h_album_wishes h_album_front h_album_at h_page h_rows_power H.size f_album_ways rows_c rows_w rows_size rows_ring f_rows_framed f_rule_lower l6 l5 l8 hq) (cwV 3 hts gX0_turnTo_X0_waysUnder rfl rfl rfl hdV_X0_waysUnder ⟨Nat.le_of_ble_eq_true rfl, Nat.le_of_ble_eq_true rfl⟩) hK hP hD hS hA [0, 1, 3, 4, 5, 6] [2, 7, 8] rfl rfl rfl rfl rfl (ci := 0) (q0 := 0) rfl rfl rfl rfl hl.1 (Nat.le_of_ble_eq_true rfl) dX0_turnTo_55 rfl (fun r5 u H locs hq hP hD hS => ?_)
          try dsimp only at hq
          have hP : va_P (dC, dI) vwCl (W_X0_turnTo cI cJ cZ h_album h_album_ways h_album_at h_rows h_rows_framed h_rule h_rule_lower h_page h_page_cells h_album_wishes h_album_front h_rows_power f_album_ways f_album_at rows_c rows_w rows_size rows_ring f_rows_framed f_rule_lower page_h page_w f_page_cells) H := hP.sub [3, 4, 0, 5, 6, 7, 8, 1, 2] rfl
          have hD : va_D A (W_X0_turnTo cI cJ cZ h_album h_album_ways h_album_at h_rows h_rows_framed h_rule h_rule_lower h_page h_page_cells h_album_wishes h_album_front h_rows_power f_album_ways f_album_at rows_c rows_w rows_size rows_ring f_rows_framed f_rule_lower page_h page_w f_page_cells) := hD.sub [3, 4, 0, 5, 6, 7, 8, 1, 2] (by decide) rfl
          refine lv_lstore (lv' := [(9, .long r5), (0, .ref h_album), (3, .long l3), (5, .int l5), (6, .int l6), (7, .int l7), (8, .int l8)]) hx hb dX0_turnTo_58 hl (by decide) rfl (fun ls hl => ?_)
          refine lv_lload_n hx hb dX0_turnTo_60 rfl (lv_at hl 2 rfl) ?_
          refine lv_lload hx hb dX0_turnTo_61 (lv_at hl 0 rfl) ?_
          refine W.lcmp hx hb dX0_turnTo_63 ?_
          refine lv_if_ge (tgt := 71) hx hb dX0_turnTo_64 (by decide) (fun c6 => ?_) (fun c6 => ?_)
          · replace hq := hq.1 ((lg_cmp_ge _ _).mp c6)
            refine lv_iconst (v := (0 : Int32)) hx hb dX0_turnTo_71 (by decide) ?_
            exact (C72 _ _ _ hK101 _ ih) _ _ _ _ _ _ hq _ _ hP hD hS _ (lv_sub hl [1, 2, 3, 4, 6, 0] rfl)
          · replace hq := hq.2 (fun h => c6 ((lg_cmp_ge _ _).mpr h))
            refine lv_iconst (v := (1 : Int32)) hx hb dX0_turnTo_67 (by decide) ?_
            refine lv_goto (tgt := 72) hx hb dX0_turnTo_68 (by decide) ?_
            exact (C72 _ _ _ hK101 _ ih) _ _ _ _ _ _ hq _ _ hP hD hS _ (lv_sub hl [1, 2, 3, 4, 6, 0] rfl)
  have C101 : ∀ (K5 : (Int64) → (Int32) → (Nat → Int32) → (Nat → Int32) → Prop) (hK5 : (∀ (l3 : Int64) (l5 : Int32) (f_album_at : Nat → Int32) (f_page_cells : Nat → Int32), K5 l3 l5 f_album_at f_page_cells → ∀ (H : Heap) (locs : List Loc), va_P (dC, dI) vwCl (W_X0_turnTo cI cJ cZ h_album h_album_ways h_album_at h_rows h_rows_framed h_rule h_rule_lower h_page h_page_cells h_album_wishes h_album_front h_rows_power f_album_ways f_album_at rows_c rows_w rows_size rows_ring f_rows_framed f_rule_lower page_h page_w f_page_cells) H → va_D A (W_X0_turnTo cI cJ cZ h_album h_album_ways h_album_at h_rows h_rows_framed h_rule h_rule_lower h_page h_page_cells h_album_wishes h_album_front h_rows_power f_album_ways f_album_at rows_c rows_w rows_size rows_ring f_rows_framed f_rule_lower page_h page_w f_page_cells) → va_S A s.heap H locs → ∀ ls : Array Slot, lv_has ls 11 [(0, .ref h_album), (3, .long l3), (5, .int l5)] → W p l e rm_X0_turnTo s m args below meth c H locs 0 0 QQ (F0 m 5 ls []))) (l3 : Int64) (l5 : Int32) (l7 : Int32) (f_album_at : Nat → Int32) (f_page_cells : Nat → Int32), q_X0_turnTo_101 f_album_ways rows_w rows_size rows_ring f_rows_framed f_rule_lower page_h post K5 l3 l5 l7 f_album_at f_page_cells → ∀ (H : Heap) (locs : List Loc), va_P (dC, dI) vwCl (W_X0_turnTo cI cJ cZ h_album h_album_ways h_album_at h_rows h_rows_framed h_rule h_rule_lower h_page h_page_cells h_album_wishes h_album_front h_rows_power f_album_ways f_album_at rows_c rows_w rows_size rows_ring f_rows_framed f_rule_lower page_h page_w f_page_cells) H → va_D A (W_X0_turnTo cI cJ cZ h_album h_album_ways h_album_at h_rows h_rows_framed h_rule h_rule_lower h_page h_page_cells h_album_wishes h_album_front h_rows_power f_album_ways f_album_at rows_c rows_w rows_size rows_ring f_rows_framed f_rule_lower page_h page_w f_page_cells) → va_S A s.heap H locs → ∀ ls : Array Slot, lv_has ls 11 [(0, .ref h_album), (3, .long l3), (5, .int l5), (7, .int l7)] → W p l e rm_X0_turnTo s m args below meth c H locs 0 0 QQ (F0 m 101 ls []) := by
    intro K5 hK5 l3 l5 l7 f_album_at f_page_cells hq H locs hP hD hS ls hl
    unfold q_X0_turnTo_101 at hq
    refine lv_iload hx hb dX0_turnTo_101 (lv_at hl 3 rfl) ?_
    refine lv_if_ne (tgt := 108) hx hb dX0_turnTo_103 (by decide) (fun c9 => ?_) (fun c9 => ?_)
    · replace hq := hq.1 c9
      refine lv_iinc (v := (l5 + (1 : Int32))) (lv' := [(5, .int (l5 + (1 : Int32))), (0, .ref h_album), (3, .long l3), (7, .int l7)]) hx hb dX0_turnTo_108 hl (k := 2) rfl rfl (by decide) rfl (fun ls hl => ?_)
      refine lv_goto (tgt := 5) hx hb dX0_turnTo_111 (by decide) ?_
      exact hK5 _ _ _ _ hq _ _ hP hD hS _ (lv_sub hl [1, 2, 0] rfl)
    · replace hq := hq.2 c9
      refine lv_iconst (v := (0 : Int32)) hx hb dX0_turnTo_106 (by decide) ?_
      exact hret (0 : Int32) (f_album_at, f_page_cells) (Or.inl rfl) hq _ _ hP hD hS _ _ dX0_turnTo_107
  have C31 : ∀ (K5 : (Int64) → (Int32) → (Nat → Int32) → (Nat → Int32) → Prop) (hK5 : (∀ (l3 : Int64) (l5 : Int32) (f_album_at : Nat → Int32) (f_page_cells : Nat → Int32), K5 l3 l5 f_album_at f_page_cells → ∀ (H : Heap) (locs : List Loc), va_P (dC, dI) vwCl (W_X0_turnTo cI cJ cZ h_album h_album_ways h_album_at h_rows h_rows_framed h_rule h_rule_lower h_page h_page_cells h_album_wishes h_album_front h_rows_power f_album_ways f_album_at rows_c rows_w rows_size rows_ring f_rows_framed f_rule_lower page_h page_w f_page_cells) H → va_D A (W_X0_turnTo cI cJ cZ h_album h_album_ways h_album_at h_rows h_rows_framed h_rule h_rule_lower h_page h_page_cells h_album_wishes h_album_front h_rows_power f_album_ways f_album_at rows_c rows_w rows_size rows_ring f_rows_framed f_rule_lower page_h page_w f_page_cells) → va_S A s.heap H locs → ∀ ls : Array Slot, lv_has ls 11 [(0, .ref h_album), (3, .long l3), (5, .int l5)] → W p l e rm_X0_turnTo s m args below meth c H locs 0 0 QQ (F0 m 5 ls []))) (l3 : Int64) (l5 : Int32) (l6 : Int32) (l7 : Int32) (l8 : Int32) (f_album_at : Nat → Int32) (f_page_cells : Nat → Int32), q_X0_turnTo_31 f_album_ways rows_w rows_size rows_ring f_rows_framed f_rule_lower page_h post K5 l3 l5 l6 l7 l8 f_album_at f_page_cells → ∀ (H : Heap) (locs : List Loc), va_P (dC, dI) vwCl (W_X0_turnTo cI cJ cZ h_album h_album_ways h_album_at h_rows h_rows_framed h_rule h_rule_lower h_page h_page_cells h_album_wishes h_album_front h_rows_power f_album_ways f_album_at rows_c rows_w rows_size rows_ring f_rows_framed f_rule_lower page_h page_w f_page_cells) H → va_D A (W_X0_turnTo cI cJ cZ h_album h_album_ways h_album_at h_rows h_rows_framed h_rule h_rule_lower h_page h_page_cells h_album_wishes h_album_front h_rows_power f_album_ways f_album_at rows_c rows_w rows_size rows_ring f_rows_framed f_rule_lower page_h page_w f_page_cells) → va_S A s.heap H locs → ∀ ls : Array Slot, lv_has ls 11 [(0, .ref h_album), (3, .long l3), (5, .int l5), (6, .int l6), (7, .int l7), (8, .int l8)] → W p l e rm_X0_turnTo s m args below meth c H locs 0 0 QQ (F0 m 31 ls []) := by
    intro K5 hK5 l3 l5 l6 l7 l8 f_album_at f_page_cells hq H locs hP hD hS ls hl
    obtain ⟨n, hq⟩ := hq
    exact L31 _ (C101 _ hK5) _ _ n _ _ _ _ _ hq H locs hP hD hS ls hl
  have L5 : ∀  (n : Nat) (l3 : Int64) (l5 : Int32) (f_album_at : Nat → Int32) (f_page_cells : Nat → Int32), r_X0_turnTo_5 f_album_ways rows_w rows_size rows_ring f_rows_framed f_rule_lower page_h post n l3 l5 f_album_at f_page_cells → ∀ (H : Heap) (locs : List Loc), va_P (dC, dI) vwCl (W_X0_turnTo cI cJ cZ h_album h_album_ways h_album_at h_rows h_rows_framed h_rule h_rule_lower h_page h_page_cells h_album_wishes h_album_front h_rows_power f_album_ways f_album_at rows_c rows_w rows_size rows_ring f_rows_framed f_rule_lower page_h page_w f_page_cells) H → va_D A (W_X0_turnTo cI cJ cZ h_album h_album_ways h_album_at h_rows h_rows_framed h_rule h_rule_lower h_page h_page_cells h_album_wishes h_album_front h_rows_power f_album_ways f_album_at rows_c rows_w rows_size rows_ring f_rows_framed f_rule_lower page_h page_w f_page_cells) → va_S A s.heap H locs → ∀ ls : Array Slot, lv_has ls 11 [(0, .ref h_album), (3, .long l3), (5, .int l5)] → W p l e rm_X0_turnTo s m args below meth c H locs 0 0 QQ (F0 m 5 ls []) := by
    intro n
    induction n with
    | zero => intro l3 l5 f_album_at f_page_cells hq; exact False.elim hq
    | succ n ih =>
      intro l3 l5 f_album_at f_page_cells hq H locs hP hD hS ls hl
      unfold r_X0_turnTo_5 at hq
      refine lv_iload hx hb dX0_turnTo_5 (lv_at hl 2 rfl) ?_
      refine lv_aload_n hx hb dX0_turnTo_7 rfl (lv_at hl 0 rfl) ?_
      refine va_get (D := (dC, dI)) (ci := 0) (v := .ref h_page) (C := RX0) (T := TX0) (N := 7) hx hb hts hinX0 hown hK hP 0 rfl rfl 6 (by decide) hf28 (fun _ h9 => h9) rfl dX0_turnTo_8 ?_
      refine va_get (D := (dC, dI)) (ci := 4) (v := .int page_h) (C := RX4) (T := TX4) (N := 3) hx hb hts hinX4 hown hK hP 7 rfl rfl 0 (by decide) hf55 (fun _ h9 => h9) rfl dX0_turnTo_11 ?_
      refine lv_icmp_ge (tgt := 114) hx hb dX0_turnTo_14 (by decide) (fun c1 => ?_) (fun c1 => ?_)
      · replace hq := hq.1 c1
        refine lv_iconst (v := (1 : Int32)) hx hb dX0_turnTo_114 (by decide) ?_
        exact hret (1 : Int32) (f_album_at, f_page_cells) (Or.inr rfl) hq _ _ hP hD hS _ _ dX0_turnTo_115
      · replace hq := hq.2 c1
        refine lv_aload_n hx hb dX0_turnTo_17 rfl (lv_at hl 0 rfl) ?_
        refine lv_iload hx hb dX0_turnTo_18 (lv_at hl 2 rfl) ?_
        refine gx_cVi (C := RX0) (As := [.int l5]) (rest := []) ⟨hx, hb, hml, hown, hts⟩ (c_X0_above l dC dI cI cJ cZ h_album h_album_at h_rows h_rows_framed h_rule h_album_wishes h_album_ways h_album_front h_page h_rows_power H.size f_album_at rows_c rows_w rows_size rows_ring f_rows_framed l5 hq) (cwV 1 hts gX0_turnTo_X0_above rfl rfl rfl hdV_X0_above ⟨Nat.le_of_ble_eq_true rfl, Nat.le_of_ble_eq_true rfl⟩) hK hP hD hS hA [0, 2, 3, 4] [1, 5, 6, 7, 8] rfl rfl rfl rfl rfl (ci := 0) (q0 := 0) rfl rfl rfl rfl hl.1 (Nat.le_of_ble_eq_true rfl) dX0_turnTo_20 rfl (fun r2 u H locs hq hP hD hS => ?_)
        try dsimp only at hq
        have hP : va_P (dC, dI) vwCl (W_X0_turnTo cI cJ cZ h_album h_album_ways h_album_at h_rows h_rows_framed h_rule h_rule_lower h_page h_page_cells h_album_wishes h_album_front h_rows_power f_album_ways f_album_at rows_c rows_w rows_size rows_ring f_rows_framed f_rule_lower page_h page_w f_page_cells) H := hP.sub [5, 0, 6, 7, 8, 1, 2, 3, 4] rfl
        have hD : va_D A (W_X0_turnTo cI cJ cZ h_album h_album_ways h_album_at h_rows h_rows_framed h_rule h_rule_lower h_page h_page_cells h_album_wishes h_album_front h_rows_power f_album_ways f_album_at rows_c rows_w rows_size rows_ring f_rows_framed f_rule_lower page_h page_w f_page_cells) := hD.sub [5, 0, 6, 7, 8, 1, 2, 3, 4] (by decide) rfl
        refine lv_istore (lv' := [(6, .int r2), (0, .ref h_album), (3, .long l3), (5, .int l5)]) hx hb dX0_turnTo_23 hl (by decide) rfl (fun ls hl => ?_)
        refine lv_iconst (v := (0 : Int32)) hx hb dX0_turnTo_25 (by decide) ?_
        refine lv_istore (lv' := [(7, .int (0 : Int32)), (6, .int r2), (0, .ref h_album), (3, .long l3), (5, .int l5)]) hx hb dX0_turnTo_26 hl (by decide) rfl (fun ls hl => ?_)
        refine lv_iconst (v := (0 : Int32)) hx hb dX0_turnTo_28 (by decide) ?_
        refine lv_istore (lv' := [(8, .int (0 : Int32)), (7, .int (0 : Int32)), (6, .int r2), (0, .ref h_album), (3, .long l3), (5, .int l5)]) hx hb dX0_turnTo_29 hl (by decide) rfl (fun ls hl => ?_)
        exact (C31 _ ih) _ _ _ _ _ _ _ hq _ _ hP hD hS _ (lv_sub hl [3, 4, 5, 2, 1, 0] rfl)
  have C5 : ∀ (l3 : Int64) (l5 : Int32) (f_album_at : Nat → Int32) (f_page_cells : Nat → Int32), q_X0_turnTo_5 f_album_ways rows_w rows_size rows_ring f_rows_framed f_rule_lower page_h post l3 l5 f_album_at f_page_cells → ∀ (H : Heap) (locs : List Loc), va_P (dC, dI) vwCl (W_X0_turnTo cI cJ cZ h_album h_album_ways h_album_at h_rows h_rows_framed h_rule h_rule_lower h_page h_page_cells h_album_wishes h_album_front h_rows_power f_album_ways f_album_at rows_c rows_w rows_size rows_ring f_rows_framed f_rule_lower page_h page_w f_page_cells) H → va_D A (W_X0_turnTo cI cJ cZ h_album h_album_ways h_album_at h_rows h_rows_framed h_rule h_rule_lower h_page h_page_cells h_album_wishes h_album_front h_rows_power f_album_ways f_album_at rows_c rows_w rows_size rows_ring f_rows_framed f_rule_lower page_h page_w f_page_cells) → va_S A s.heap H locs → ∀ ls : Array Slot, lv_has ls 11 [(0, .ref h_album), (3, .long l3), (5, .int l5)] → W p l e rm_X0_turnTo s m args below meth c H locs 0 0 QQ (F0 m 5 ls []) := by
    intro l3 l5 f_album_at f_page_cells hq H locs hP hD hS ls hl
    obtain ⟨n, hq⟩ := hq
    exact L5 n _ _ _ _ hq H locs hP hD hS ls hl
  unfold q_X0_turnTo at hq
  refine lv_lload_n hx hb dX0_turnTo_0 rfl (lv_at hl 1 rfl) ?_
  refine lv_lstore_n (lv' := [(3, .long l1), (0, .ref h_album), (1, .long l1)]) hx hb dX0_turnTo_1 rfl hl (by decide) rfl (fun ls hl => ?_)
  refine lv_iconst (v := (0 : Int32)) hx hb dX0_turnTo_2 (by decide) ?_
  refine lv_istore (lv' := [(5, .int (0 : Int32)), (3, .long l1), (0, .ref h_album), (1, .long l1)]) hx hb dX0_turnTo_3 hl (by decide) rfl (fun ls hl => ?_)
  exact C5 _ _ _ _ hq _ _ hP hD hS _ (lv_sub hl [2, 1, 0] rfl)

abbrev W_X0_before (cI cJ cZ : ClassId) (h_album h_album_ways h_rows h_rows_framed h_rule h_rule_lower h_page h_S h_S_cells h_album_wishes h_album_front h_album_at h_rows_power h_page_cells : Nat) (f_album_ways : Nat → Int64) (rows_c : Int32) (rows_w : Int32) (rows_size : Int32) (rows_ring : Int32) (f_rows_framed : Nat → Int32) (f_rule_lower : Nat → Int32) (page_h : Int32) (page_w : Int32) (S_h : Int32) (S_w : Int32) (f_S_cells : Nat → Int32) : va_W := [(h_album, .inr (0, [.ref h_rows, .ref h_rule, .ref h_album_wishes, .ref h_album_ways, .ref h_album_front, .ref h_album_at, .ref h_page])), (h_album_ways, .inl (cJ, 1215, .inr (.inl f_album_ways))), (h_rows, .inr (2, [.int rows_c, .int rows_w, .int rows_size, .int rows_ring, .ref h_rows_framed, .ref h_rows_power])), (h_rows_framed, .inl (cI, 243, .inl f_rows_framed)), (h_rule, .inr (3, [.ref h_rule_lower])), (h_rule_lower, .inl (cI, 16, .inl f_rule_lower)), (h_page, .inr (4, [.int page_h, .int page_w, .ref h_page_cells])), (h_S, .inr (4, [.int S_h, .int S_w, .ref h_S_cells])), (h_S_cells, .inl (cI, 25, .inl f_S_cells))]
abbrev rm_X0_before : Room := { frames := 2, cells := 0, slots := 0, locals := 49 }
def r_X0_before_41 (f_album_ways : Nat → Int64) (rows_c : Int32) (rows_w : Int32) (rows_ring : Int32) (f_rows_framed : Nat → Int32) (f_rule_lower : Nat → Int32) (page_h : Int32) (S_h : Int32) (S_w : Int32) (f_S_cells : Nat → Int32) (post : Int64 → Prop) (K67 : (Int64) → (Int32) → (Int32) → Prop) (l4 : Int32) (l5 : Int32) (l6 : Int32) : Nat → (Int64) → (Int32) → Prop
  | 0, _, _ => False
  | n + 1, l2, l7 => ((l6 ≤ l7 → (K67 l2 l5 l6)) ∧ (¬ l6 ≤ l7 → (q_X0_waysUnder f_album_ways rows_w f_rows_framed f_rule_lower l4 l5 l7 (fun (r4 : Int64) => ((r_X0_before_41 f_album_ways rows_c rows_w rows_ring f_rows_framed f_rule_lower page_h S_h S_w f_S_cells post K67 l4 l5 l6 n) (l2 + r4) (l7 + (1 : Int32)))))))
def q_X0_before_67 (f_album_ways : Nat → Int64) (rows_c : Int32) (rows_w : Int32) (rows_ring : Int32) (f_rows_framed : Nat → Int32) (f_rule_lower : Nat → Int32) (page_h : Int32) (S_h : Int32) (S_w : Int32) (f_S_cells : Nat → Int32) (post : Int64 → Prop) (K14 : (Int64) → (Int32) → (Int32) → Prop) (l2 : Int64) (l5 : Int32) (l6 : Int32) : Prop := (vp_in l6 243 ∧ (K14 l2 (f_rows_framed (l6).toNatClampNeg) (l5 + (1 : Int32))))
def q_X0_before_41 (f_album_ways : Nat → Int64) (rows_c : Int32) (rows_w : Int32) (rows_ring : Int32) (f_rows_framed : Nat → Int32) (f_rule_lower : Nat → Int32) (page_h : Int32) (S_h : Int32) (S_w : Int32) (f_S_cells : Nat → Int32) (post : Int64 → Prop) (K14 : (Int64) → (Int32) → (Int32) → Prop) (l2 : Int64) (l4 : Int32) (l5 : Int32) (l6 : Int32) (l7 : Int32) : Prop := ∃ n, r_X0_before_41 f_album_ways rows_c rows_w rows_ring f_rows_framed f_rule_lower page_h S_h S_w f_S_cells post (q_X0_before_67 f_album_ways rows_c rows_w rows_ring f_rows_framed f_rule_lower page_h S_h S_w f_S_cells post K14) l4 l5 l6 n l2 l7
def r_X0_before_14 (f_album_ways : Nat → Int64) (rows_c : Int32) (rows_w : Int32) (rows_ring : Int32) (f_rows_framed : Nat → Int32) (f_rule_lower : Nat → Int32) (page_h : Int32) (S_h : Int32) (S_w : Int32) (f_S_cells : Nat → Int32) (post : Int64 → Prop) : Nat → (Int64) → (Int32) → (Int32) → Prop
  | 0, _, _, _ => False
  | n + 1, l2, l4, l5 => ((page_h ≤ l5 → (post l2)) ∧ (¬ page_h ≤ l5 → (q_X2_numberOf rows_c rows_w S_h S_w f_S_cells l5 (fun (r2 : Int32) => ((q_X0_before_41 f_album_ways rows_c rows_w rows_ring f_rows_framed f_rule_lower page_h S_h S_w f_S_cells post (r_X0_before_14 f_album_ways rows_c rows_w rows_ring f_rows_framed f_rule_lower page_h S_h S_w f_S_cells post n)) l2 l4 l5 r2 (0 : Int32))))))
def q_X0_before_14 (f_album_ways : Nat → Int64) (rows_c : Int32) (rows_w : Int32) (rows_ring : Int32) (f_rows_framed : Nat → Int32) (f_rule_lower : Nat → Int32) (page_h : Int32) (S_h : Int32) (S_w : Int32) (f_S_cells : Nat → Int32) (post : Int64 → Prop) (l2 : Int64) (l4 : Int32) (l5 : Int32) : Prop := ∃ n, r_X0_before_14 f_album_ways rows_c rows_w rows_ring f_rows_framed f_rule_lower page_h S_h S_w f_S_cells post n l2 l4 l5
def q_X0_before (f_album_ways : Nat → Int64) (rows_c : Int32) (rows_w : Int32) (rows_ring : Int32) (f_rows_framed : Nat → Int32) (f_rule_lower : Nat → Int32) (page_h : Int32) (S_h : Int32) (S_w : Int32) (f_S_cells : Nat → Int32) (post : Int64 → Prop) : Prop := ((q_X0_before_14 f_album_ways rows_c rows_w rows_ring f_rows_framed f_rule_lower page_h S_h S_w f_S_cells post) (0 : Int64) rows_ring (0 : Int32))
theorem hdV_X0_before : yX0_before.cls = RX0 ∧ yX0_before.cls ≠ "java/lang/invoke/MethodHandle" ∧ yX0_before.cls ≠ "java/lang/invoke/VarHandle" ∧ (parseMethodDescriptor yX0_before.desc).map (fun d => d.parameters.length) = some 1 := by decide +kernel
set_option maxHeartbeats 4000000 in
set_option maxRecDepth 100000 in
theorem c_X0_before (l : Launch) (dC : Nat → ClassId) (dI : Nat → Nat → Nat) (cI cJ cZ : ClassId) (h_album h_album_ways h_rows h_rows_framed h_rule h_rule_lower h_page h_S h_S_cells h_album_wishes h_album_front h_album_at h_rows_power h_page_cells : Nat) (sz : Nat) (f_album_ways : Nat → Int64) (rows_c : Int32) (rows_w : Int32) (rows_size : Int32) (rows_ring : Int32) (f_rows_framed : Nat → Int32) (f_rule_lower : Nat → Int32) (page_h : Int32) (page_w : Int32) (S_h : Int32) (S_w : Int32) (f_S_cells : Nat → Int32)  {post : Int64 → Prop} (hq : q_X0_before f_album_ways rows_c rows_w rows_ring f_rows_framed f_rule_lower page_h S_h S_w f_S_cells post) : Met l yX0_before wsX0_before rm_X0_before (va_Pc [.ref h_album, .ref h_S] (gx_Pre (dC, dI) vwCl (gx_tys cI cJ cZ) sz (W_X0_before cI cJ cZ h_album h_album_ways h_rows h_rows_framed h_rule h_rule_lower h_page h_S h_S_cells h_album_wishes h_album_front h_album_at h_rows_power h_page_cells f_album_ways rows_c rows_w rows_size rows_ring f_rows_framed f_rule_lower page_h page_w S_h S_w f_S_cells))) (va_Ql (fun (r : Int64) (u : Unit) => post r) (gx_B (dC, dI) vwCl (gx_tys cI cJ cZ) (va_A (W_X0_before cI cJ cZ h_album h_album_ways h_rows h_rows_framed h_rule h_rule_lower h_page h_S h_S_cells h_album_wishes h_album_front h_album_at h_rows_power h_page_cells f_album_ways rows_c rows_w rows_size rows_ring f_rows_framed f_rule_lower page_h page_w S_h S_w f_S_cells) sz) (fun (u : Unit) => (W_X0_before cI cJ cZ h_album h_album_ways h_rows h_rows_framed h_rule h_rule_lower h_page h_S h_S_cells h_album_wishes h_album_front h_album_at h_rows_power h_page_cells f_album_ways rows_c rows_w rows_size rows_ring f_rows_framed f_rule_lower page_h page_w S_h S_w f_S_cells))) (va_A (W_X0_before cI cJ cZ h_album h_album_ways h_rows h_rows_framed h_rule h_rule_lower h_page h_S h_S_cells h_album_wishes h_album_front h_album_at h_rows_power h_page_cells f_album_ways rows_c rows_w rows_size rows_ring f_rows_framed f_rule_lower page_h page_w S_h S_w f_S_cells) sz)) 0 0 (va_A (W_X0_before cI cJ cZ h_album h_album_ways h_rows h_rows_framed h_rule h_rule_lower h_page h_S h_S_cells h_album_wishes h_album_front h_album_at h_rows_power h_page_cells f_album_ways rows_c rows_w rows_size rows_ring f_rows_framed f_rule_lower page_h page_w S_h S_w f_S_cells) sz) := by
  refine gx_l (cc := cX0_before) (maxL := 8) (by decide) rfl (Nat.le_of_ble_eq_true rfl) ?_
  intro p e s m args below meth c A QQ hx hb hml hown hts hA hP hK hD hret ls hl
  have hown : s.vm.findClass RX0 = some m.cls := hown
  have hf36 := hts (.fieldLink RX0 36 "SmallWindows$Album" "rows" "LSmallWindows$Rows;") (by decide +kernel)
  have hf69 := hts (.fieldLink RX0 69 "SmallWindows$Rows" "ring" "I") (by decide +kernel)
  have hf28 := hts (.fieldLink RX0 28 "SmallWindows$Album" "page" "LSmallWindows$Sheet;") (by decide +kernel)
  have hf55 := hts (.fieldLink RX0 55 "SmallWindows$Sheet" "h" "I") (by decide +kernel)
  have hf66 := hts (.fieldLink RX0 66 "SmallWindows$Rows" "framed" "[I") (by decide +kernel)
  have hinX0 : ∀ w ∈ u_ws RX0 TX0 7, w ∈ wsX0_before := fun w h => List.mem_cons_of_mem _ ((List.mem_append_left _ (List.mem_append_left _ (List.mem_append_left _ (List.mem_append_right _ h)))))
  have hinX2 : ∀ w ∈ u_ws RX2 TX2 6, w ∈ wsX0_before := fun w h => List.mem_cons_of_mem _ ((List.mem_append_left _ (List.mem_append_left _ (List.mem_append_right _ h))))
  have hinX4 : ∀ w ∈ u_ws RX4 TX4 3, w ∈ wsX0_before := fun w h => List.mem_cons_of_mem _ ((List.mem_append_left _ (List.mem_append_right _ h)))
  have hS : va_S A s.heap s.heap [] := va_S.rf
  have hl : lv_has ls 8 [(0, .ref h_album), (1, .ref h_S)] := hl
  have L41 : ∀ (K67 : (Int64) → (Int32) → (Int32) → Prop) (hK67 : (∀ (l2 : Int64) (l5 : Int32) (l6 : Int32), K67 l2 l5 l6 → ∀ (H : Heap) (locs : List Loc), va_P (dC, dI) vwCl (W_X0_before cI cJ cZ h_album h_album_ways h_rows h_rows_framed h_rule h_rule_lower h_page h_S h_S_cells h_album_wishes h_album_front h_album_at h_rows_power h_page_cells f_album_ways rows_c rows_w rows_size rows_ring f_rows_framed f_rule_lower page_h page_w S_h S_w f_S_cells) H → va_D A (W_X0_before cI cJ cZ h_album h_album_ways h_rows h_rows_framed h_rule h_rule_lower h_page h_S h_S_cells h_album_wishes h_album_front h_album_at h_rows_power h_page_cells f_album_ways rows_c rows_w rows_size rows_ring f_rows_framed f_rule_lower page_h page_w S_h S_w f_S_cells) → va_S A s.heap H locs → ∀ ls : Array Slot, lv_has ls 8 [(0, .ref h_album), (1, .ref h_S), (2, .long l2), (5, .int l5), (6, .int l6)] → W p l e rm_X0_before s m args below meth c H locs 0 0 QQ (F0 m 67 ls []))) (l4 : Int32) (l5 : Int32) (l6 : Int32) (n : Nat) (l2 : Int64) (l7 : Int32), r_X0_before_41 f_album_ways rows_c rows_w rows_ring f_rows_framed f_rule_lower page_h S_h S_w f_S_cells post K67 l4 l5 l6 n l2 l7 → ∀ (H : Heap) (locs : List Loc), va_P (dC, dI) vwCl (W_X0_before cI cJ cZ h_album h_album_ways h_rows h_rows_framed h_rule h_rule_lower h_page h_S h_S_cells h_album_wishes h_album_front h_album_at h_rows_power h_page_cells f_album_ways rows_c rows_w rows_size rows_ring f_rows_framed f_rule_lower page_h page_w S_h S_w f_S_cells) H → va_D A (W_X0_before cI cJ cZ h_album h_album_ways h_rows h_rows_framed h_rule h_rule_lower h_page h_S h_S_cells h_album_wishes h_album_front h_album_at h_rows_power h_page_cells f_album_ways rows_c rows_w rows_size rows_ring f_rows_framed f_rule_lower page_h page_w S_h S_w f_S_cells) → va_S A s.heap H locs → ∀ ls : Array Slot, lv_has ls 8 [(0, .ref h_album), (1, .ref h_S), (2, .long l2), (4, .int l4), (5, .int l5), (6, .int l6), (7, .int l7)] → W p l e rm_X0_before s m args below meth c H locs 0 0 QQ (F0 m 41 ls []) := by
    intro K67 hK67 l4 l5 l6 n
    induction n with
    | zero => intro l2 l7 hq; exact False.elim hq
    | succ n ih =>
      intro l2 l7 hq H locs hP hD hS ls hl
      unfold r_X0_before_41 at hq
      refine lv_iload hx hb dX0_before_41 (lv_at hl 6 rfl) ?_
      refine lv_iload hx hb dX0_before_43 (lv_at hl 5 rfl) ?_
      refine lv_icmp_ge (tgt := 67) hx hb dX0_before_45 (by decide) (fun c3 => ?_) (fun c3 => ?_)
      · replace hq := hq.1 c3
        exact hK67 _ _ _ hq _ _ hP hD hS _ (lv_sub hl [0, 1, 2, 4, 5] rfl)
      · replace hq := hq.2 c3
        refine lv_lload_n hx hb dX0_before_48 rfl (lv_at hl 2 rfl) ?_
        refine lv_aload_n hx hb dX0_before_49 rfl (lv_at hl 0 rfl) ?_
        refine lv_iload hx hb dX0_before_50 (lv_at hl 3 rfl) ?_
        refine lv_iload hx hb dX0_before_52 (lv_at hl 4 rfl) ?_
        refine lv_iload hx hb dX0_before_54 (lv_at hl 6 rfl) ?_
        refine gx_cVl (C := RX0) (As := [.int l4, .int l5, .int l7]) (rest := [.long l2]) ⟨hx, hb, hml, hown, hts⟩ (c_X0_waysUnder l dC dI cI cJ cZ h_album h_album_ways h_rows h_rows_framed h_rule h_rule_lower h_album_wishes h_album_front h_album_at h_page h_rows_power H.size f_album_ways rows_c rows_w rows_size rows_ring f_rows_framed f_rule_lower l4 l5 l7 hq) (cwV 3 hts gX0_before_X0_waysUnder rfl rfl rfl hdV_X0_waysUnder ⟨Nat.le_of_ble_eq_true rfl, Nat.le_of_ble_eq_true rfl⟩) hK hP hD hS hA [0, 1, 2, 3, 4, 5] [6, 7, 8] rfl rfl rfl rfl rfl (ci := 0) (q0 := 0) rfl rfl rfl rfl hl.1 (Nat.le_of_ble_eq_true rfl) dX0_before_56 rfl (fun r4 u H locs hq hP hD hS => ?_)
        try dsimp only at hq
        have hP : va_P (dC, dI) vwCl (W_X0_before cI cJ cZ h_album h_album_ways h_rows h_rows_framed h_rule h_rule_lower h_page h_S h_S_cells h_album_wishes h_album_front h_album_at h_rows_power h_page_cells f_album_ways rows_c rows_w rows_size rows_ring f_rows_framed f_rule_lower page_h page_w S_h S_w f_S_cells) H := hP.sub [3, 4, 5, 6, 7, 8, 0, 1, 2] rfl
        have hD : va_D A (W_X0_before cI cJ cZ h_album h_album_ways h_rows h_rows_framed h_rule h_rule_lower h_page h_S h_S_cells h_album_wishes h_album_front h_album_at h_rows_power h_page_cells f_album_ways rows_c rows_w rows_size rows_ring f_rows_framed f_rule_lower page_h page_w S_h S_w f_S_cells) := hD.sub [3, 4, 5, 6, 7, 8, 0, 1, 2] (by decide) rfl
        refine lv_ladd hx hb dX0_before_59 ?_
        refine lv_lstore_n (lv' := [(2, .long (l2 + r4)), (0, .ref h_album), (1, .ref h_S), (4, .int l4), (5, .int l5), (6, .int l6), (7, .int l7)]) hx hb dX0_before_60 rfl hl (by decide) rfl (fun ls hl => ?_)
        refine lv_iinc (v := (l7 + (1 : Int32))) (lv' := [(7, .int (l7 + (1 : Int32))), (2, .long (l2 + r4)), (0, .ref h_album), (1, .ref h_S), (4, .int l4), (5, .int l5), (6, .int l6)]) hx hb dX0_before_61 hl (k := 6) rfl rfl (by decide) rfl (fun ls hl => ?_)
        refine lv_goto (tgt := 41) hx hb dX0_before_64 (by decide) ?_
        exact ih _ _ hq _ _ hP hD hS _ (lv_sub hl [2, 3, 1, 4, 5, 6, 0] rfl)
  have C67 : ∀ (K14 : (Int64) → (Int32) → (Int32) → Prop) (hK14 : (∀ (l2 : Int64) (l4 : Int32) (l5 : Int32), K14 l2 l4 l5 → ∀ (H : Heap) (locs : List Loc), va_P (dC, dI) vwCl (W_X0_before cI cJ cZ h_album h_album_ways h_rows h_rows_framed h_rule h_rule_lower h_page h_S h_S_cells h_album_wishes h_album_front h_album_at h_rows_power h_page_cells f_album_ways rows_c rows_w rows_size rows_ring f_rows_framed f_rule_lower page_h page_w S_h S_w f_S_cells) H → va_D A (W_X0_before cI cJ cZ h_album h_album_ways h_rows h_rows_framed h_rule h_rule_lower h_page h_S h_S_cells h_album_wishes h_album_front h_album_at h_rows_power h_page_cells f_album_ways rows_c rows_w rows_size rows_ring f_rows_framed f_rule_lower page_h page_w S_h S_w f_S_cells) → va_S A s.heap H locs → ∀ ls : Array Slot, lv_has ls 8 [(0, .ref h_album), (1, .ref h_S), (2, .long l2), (4, .int l4), (5, .int l5)] → W p l e rm_X0_before s m args below meth c H locs 0 0 QQ (F0 m 14 ls []))) (l2 : Int64) (l5 : Int32) (l6 : Int32), q_X0_before_67 f_album_ways rows_c rows_w rows_ring f_rows_framed f_rule_lower page_h S_h S_w f_S_cells post K14 l2 l5 l6 → ∀ (H : Heap) (locs : List Loc), va_P (dC, dI) vwCl (W_X0_before cI cJ cZ h_album h_album_ways h_rows h_rows_framed h_rule h_rule_lower h_page h_S h_S_cells h_album_wishes h_album_front h_album_at h_rows_power h_page_cells f_album_ways rows_c rows_w rows_size rows_ring f_rows_framed f_rule_lower page_h page_w S_h S_w f_S_cells) H → va_D A (W_X0_before cI cJ cZ h_album h_album_ways h_rows h_rows_framed h_rule h_rule_lower h_page h_S h_S_cells h_album_wishes h_album_front h_album_at h_rows_power h_page_cells f_album_ways rows_c rows_w rows_size rows_ring f_rows_framed f_rule_lower page_h page_w S_h S_w f_S_cells) → va_S A s.heap H locs → ∀ ls : Array Slot, lv_has ls 8 [(0, .ref h_album), (1, .ref h_S), (2, .long l2), (5, .int l5), (6, .int l6)] → W p l e rm_X0_before s m args below meth c H locs 0 0 QQ (F0 m 67 ls []) := by
    intro K14 hK14 l2 l5 l6 hq H locs hP hD hS ls hl
    unfold q_X0_before_67 at hq
    refine lv_aload_n hx hb dX0_before_67 rfl (lv_at hl 0 rfl) ?_
    refine va_get (D := (dC, dI)) (ci := 0) (v := .ref h_rows) (C := RX0) (T := TX0) (N := 7) hx hb hts hinX0 hown hK hP 0 rfl rfl 0 (by decide) hf36 (fun _ h9 => h9) rfl dX0_before_68 ?_
    refine va_get (D := (dC, dI)) (ci := 2) (v := .ref h_rows_framed) (C := RX2) (T := TX2) (N := 6) hx hb hts hinX2 hown hK hP 2 rfl rfl 4 (by decide) hf66 (fun _ h9 => h9) rfl dX0_before_71 ?_
    refine lv_iload hx hb dX0_before_74 (lv_at hl 4 rfl) ?_
    obtain ⟨hv5, hq⟩ := hq
    refine va_iald hx hb hK hP 3 0 rfl rfl hv5 dX0_before_76 ?_
    refine lv_istore (lv' := [(4, .int (f_rows_framed (l6).toNatClampNeg)), (0, .ref h_album), (1, .ref h_S), (2, .long l2), (5, .int l5), (6, .int l6)]) hx hb dX0_before_77 hl (by decide) rfl (fun ls hl => ?_)
    refine lv_iinc (v := (l5 + (1 : Int32))) (lv' := [(5, .int (l5 + (1 : Int32))), (4, .int (f_rows_framed (l6).toNatClampNeg)), (0, .ref h_album), (1, .ref h_S), (2, .long l2), (6, .int l6)]) hx hb dX0_before_79 hl (k := 4) rfl rfl (by decide) rfl (fun ls hl => ?_)
    refine lv_goto (tgt := 14) hx hb dX0_before_82 (by decide) ?_
    exact hK14 _ _ _ hq _ _ hP hD hS _ (lv_sub hl [2, 3, 4, 1, 0] rfl)
  have C41 : ∀ (K14 : (Int64) → (Int32) → (Int32) → Prop) (hK14 : (∀ (l2 : Int64) (l4 : Int32) (l5 : Int32), K14 l2 l4 l5 → ∀ (H : Heap) (locs : List Loc), va_P (dC, dI) vwCl (W_X0_before cI cJ cZ h_album h_album_ways h_rows h_rows_framed h_rule h_rule_lower h_page h_S h_S_cells h_album_wishes h_album_front h_album_at h_rows_power h_page_cells f_album_ways rows_c rows_w rows_size rows_ring f_rows_framed f_rule_lower page_h page_w S_h S_w f_S_cells) H → va_D A (W_X0_before cI cJ cZ h_album h_album_ways h_rows h_rows_framed h_rule h_rule_lower h_page h_S h_S_cells h_album_wishes h_album_front h_album_at h_rows_power h_page_cells f_album_ways rows_c rows_w rows_size rows_ring f_rows_framed f_rule_lower page_h page_w S_h S_w f_S_cells) → va_S A s.heap H locs → ∀ ls : Array Slot, lv_has ls 8 [(0, .ref h_album), (1, .ref h_S), (2, .long l2), (4, .int l4), (5, .int l5)] → W p l e rm_X0_before s m args below meth c H locs 0 0 QQ (F0 m 14 ls []))) (l2 : Int64) (l4 : Int32) (l5 : Int32) (l6 : Int32) (l7 : Int32), q_X0_before_41 f_album_ways rows_c rows_w rows_ring f_rows_framed f_rule_lower page_h S_h S_w f_S_cells post K14 l2 l4 l5 l6 l7 → ∀ (H : Heap) (locs : List Loc), va_P (dC, dI) vwCl (W_X0_before cI cJ cZ h_album h_album_ways h_rows h_rows_framed h_rule h_rule_lower h_page h_S h_S_cells h_album_wishes h_album_front h_album_at h_rows_power h_page_cells f_album_ways rows_c rows_w rows_size rows_ring f_rows_framed f_rule_lower page_h page_w S_h S_w f_S_cells) H → va_D A (W_X0_before cI cJ cZ h_album h_album_ways h_rows h_rows_framed h_rule h_rule_lower h_page h_S h_S_cells h_album_wishes h_album_front h_album_at h_rows_power h_page_cells f_album_ways rows_c rows_w rows_size rows_ring f_rows_framed f_rule_lower page_h page_w S_h S_w f_S_cells) → va_S A s.heap H locs → ∀ ls : Array Slot, lv_has ls 8 [(0, .ref h_album), (1, .ref h_S), (2, .long l2), (4, .int l4), (5, .int l5), (6, .int l6), (7, .int l7)] → W p l e rm_X0_before s m args below meth c H locs 0 0 QQ (F0 m 41 ls []) := by
    intro K14 hK14 l2 l4 l5 l6 l7 hq H locs hP hD hS ls hl
    obtain ⟨n, hq⟩ := hq
    exact L41 _ (C67 _ hK14) _ _ _ n _ _ hq H locs hP hD hS ls hl
  have L14 : ∀  (n : Nat) (l2 : Int64) (l4 : Int32) (l5 : Int32), r_X0_before_14 f_album_ways rows_c rows_w rows_ring f_rows_framed f_rule_lower page_h S_h S_w f_S_cells post n l2 l4 l5 → ∀ (H : Heap) (locs : List Loc), va_P (dC, dI) vwCl (W_X0_before cI cJ cZ h_album h_album_ways h_rows h_rows_framed h_rule h_rule_lower h_page h_S h_S_cells h_album_wishes h_album_front h_album_at h_rows_power h_page_cells f_album_ways rows_c rows_w rows_size rows_ring f_rows_framed f_rule_lower page_h page_w S_h S_w f_S_cells) H → va_D A (W_X0_before cI cJ cZ h_album h_album_ways h_rows h_rows_framed h_rule h_rule_lower h_page h_S h_S_cells h_album_wishes h_album_front h_album_at h_rows_power h_page_cells f_album_ways rows_c rows_w rows_size rows_ring f_rows_framed f_rule_lower page_h page_w S_h S_w f_S_cells) → va_S A s.heap H locs → ∀ ls : Array Slot, lv_has ls 8 [(0, .ref h_album), (1, .ref h_S), (2, .long l2), (4, .int l4), (5, .int l5)] → W p l e rm_X0_before s m args below meth c H locs 0 0 QQ (F0 m 14 ls []) := by
    intro n
    induction n with
    | zero => intro l2 l4 l5 hq; exact False.elim hq
    | succ n ih =>
      intro l2 l4 l5 hq H locs hP hD hS ls hl
      unfold r_X0_before_14 at hq
      refine lv_iload hx hb dX0_before_14 (lv_at hl 4 rfl) ?_
      refine lv_aload_n hx hb dX0_before_16 rfl (lv_at hl 0 rfl) ?_
      refine va_get (D := (dC, dI)) (ci := 0) (v := .ref h_page) (C := RX0) (T := TX0) (N := 7) hx hb hts hinX0 hown hK hP 0 rfl rfl 6 (by decide) hf28 (fun _ h9 => h9) rfl dX0_before_17 ?_
      refine va_get (D := (dC, dI)) (ci := 4) (v := .int page_h) (C := RX4) (T := TX4) (N := 3) hx hb hts hinX4 hown hK hP 6 rfl rfl 0 (by decide) hf55 (fun _ h9 => h9) rfl dX0_before_20 ?_
      refine lv_icmp_ge (tgt := 85) hx hb dX0_before_23 (by decide) (fun c1 => ?_) (fun c1 => ?_)
      · replace hq := hq.1 c1
        refine lv_lload_n hx hb dX0_before_85 rfl (lv_at hl 2 rfl) ?_
        exact hret l2 () hq _ _ hP hD hS _ _ dX0_before_86
      · replace hq := hq.2 c1
        refine lv_aload_n hx hb dX0_before_26 rfl (lv_at hl 0 rfl) ?_
        refine va_get (D := (dC, dI)) (ci := 0) (v := .ref h_rows) (C := RX0) (T := TX0) (N := 7) hx hb hts hinX0 hown hK hP 0 rfl rfl 0 (by decide) hf36 (fun _ h9 => h9) rfl dX0_before_27 ?_
        refine lv_aload_n hx hb dX0_before_30 rfl (lv_at hl 1 rfl) ?_
        refine lv_iload hx hb dX0_before_31 (lv_at hl 4 rfl) ?_
        refine gx_cVi (C := RX2) (As := [.ref h_S, .int l5]) (rest := []) ⟨hx, hb, hml, hown, hts⟩ (c_X2_numberOf l dC dI cI cJ cZ h_rows h_S h_S_cells h_rows_framed h_rows_power H.size rows_c rows_w rows_size rows_ring S_h S_w f_S_cells l5 hq) (cwV 2 hts gX0_before_X2_numberOf rfl rfl rfl hdV_X2_numberOf ⟨Nat.le_of_ble_eq_true rfl, Nat.le_of_ble_eq_true rfl⟩) hK hP hD hS hA [2, 7, 8] [0, 1, 3, 4, 5, 6] rfl rfl rfl rfl rfl (ci := 2) (q0 := 0) rfl rfl rfl rfl hl.1 (Nat.le_of_ble_eq_true rfl) dX0_before_33 rfl (fun r2 u H locs hq hP hD hS => ?_)
        try dsimp only at hq
        have hP : va_P (dC, dI) vwCl (W_X0_before cI cJ cZ h_album h_album_ways h_rows h_rows_framed h_rule h_rule_lower h_page h_S h_S_cells h_album_wishes h_album_front h_album_at h_rows_power h_page_cells f_album_ways rows_c rows_w rows_size rows_ring f_rows_framed f_rule_lower page_h page_w S_h S_w f_S_cells) H := hP.sub [0, 1, 6, 2, 3, 4, 5, 7, 8] rfl
        have hD : va_D A (W_X0_before cI cJ cZ h_album h_album_ways h_rows h_rows_framed h_rule h_rule_lower h_page h_S h_S_cells h_album_wishes h_album_front h_album_at h_rows_power h_page_cells f_album_ways rows_c rows_w rows_size rows_ring f_rows_framed f_rule_lower page_h page_w S_h S_w f_S_cells) := hD.sub [0, 1, 6, 2, 3, 4, 5, 7, 8] (by decide) rfl
        refine lv_istore (lv' := [(6, .int r2), (0, .ref h_album), (1, .ref h_S), (2, .long l2), (4, .int l4), (5, .int l5)]) hx hb dX0_before_36 hl (by decide) rfl (fun ls hl => ?_)
        refine lv_iconst (v := (0 : Int32)) hx hb dX0_before_38 (by decide) ?_
        refine lv_istore (lv' := [(7, .int (0 : Int32)), (6, .int r2), (0, .ref h_album), (1, .ref h_S), (2, .long l2), (4, .int l4), (5, .int l5)]) hx hb dX0_before_39 hl (by decide) rfl (fun ls hl => ?_)
        exact (C41 _ ih) _ _ _ _ _ hq _ _ hP hD hS _ (lv_sub hl [2, 3, 4, 5, 6, 1, 0] rfl)
  have C14 : ∀ (l2 : Int64) (l4 : Int32) (l5 : Int32), q_X0_before_14 f_album_ways rows_c rows_w rows_ring f_rows_framed f_rule_lower page_h S_h S_w f_S_cells post l2 l4 l5 → ∀ (H : Heap) (locs : List Loc), va_P (dC, dI) vwCl (W_X0_before cI cJ cZ h_album h_album_ways h_rows h_rows_framed h_rule h_rule_lower h_page h_S h_S_cells h_album_wishes h_album_front h_album_at h_rows_power h_page_cells f_album_ways rows_c rows_w rows_size rows_ring f_rows_framed f_rule_lower page_h page_w S_h S_w f_S_cells) H → va_D A (W_X0_before cI cJ cZ h_album h_album_ways h_rows h_rows_framed h_rule h_rule_lower h_page h_S h_S_cells h_album_wishes h_album_front h_album_at h_rows_power h_page_cells f_album_ways rows_c rows_w rows_size rows_ring f_rows_framed f_rule_lower page_h page_w S_h S_w f_S_cells) → va_S A s.heap H locs → ∀ ls : Array Slot, lv_has ls 8 [(0, .ref h_album), (1, .ref h_S), (2, .long l2), (4, .int l4), (5, .int l5)] → W p l e rm_X0_before s m args below meth c H locs 0 0 QQ (F0 m 14 ls []) := by
    intro l2 l4 l5 hq H locs hP hD hS ls hl
    obtain ⟨n, hq⟩ := hq
    exact L14 n _ _ _ hq H locs hP hD hS ls hl
  unfold q_X0_before at hq
  refine lv_lconst (v := (0 : Int64)) hx hb dX0_before_0 (by decide) ?_
  refine lv_lstore_n (lv' := [(2, .long (0 : Int64)), (0, .ref h_album), (1, .ref h_S)]) hx hb dX0_before_1 rfl hl (by decide) rfl (fun ls hl => ?_)
  refine lv_aload_n hx hb dX0_before_2 rfl (lv_at hl 1 rfl) ?_
  refine va_get (D := (dC, dI)) (ci := 0) (v := .ref h_rows) (C := RX0) (T := TX0) (N := 7) hx hb hts hinX0 hown hK hP 0 rfl rfl 0 (by decide) hf36 (fun _ h9 => h9) rfl dX0_before_3 ?_
  refine va_get (D := (dC, dI)) (ci := 2) (v := .int rows_ring) (C := RX2) (T := TX2) (N := 6) hx hb hts hinX2 hown hK hP 2 rfl rfl 3 (by decide) hf69 (fun _ h9 => h9) rfl dX0_before_6 ?_
  refine lv_istore (lv' := [(4, .int rows_ring), (2, .long (0 : Int64)), (0, .ref h_album), (1, .ref h_S)]) hx hb dX0_before_9 hl (by decide) rfl (fun ls hl => ?_)
  refine lv_iconst (v := (0 : Int32)) hx hb dX0_before_11 (by decide) ?_
  refine lv_istore (lv' := [(5, .int (0 : Int32)), (4, .int rows_ring), (2, .long (0 : Int64)), (0, .ref h_album), (1, .ref h_S)]) hx hb dX0_before_12 hl (by decide) rfl (fun ls hl => ?_)
  exact C14 _ _ _ hq _ _ hP hD hS _ (lv_sub hl [3, 4, 2, 1, 0] rfl)

abbrev W_X0_nextRow (cI cJ cZ : ClassId) (h_album h_album_ways h_album_at h_rows h_rows_framed h_rule h_rule_lower h_album_wishes h_album_front h_page h_rows_power : Nat) (f_album_ways : Nat → Int64) (f_album_at : Nat → Int32) (rows_c : Int32) (rows_w : Int32) (rows_size : Int32) (rows_ring : Int32) (f_rows_framed : Nat → Int32) (f_rule_lower : Nat → Int32) : va_W := [(h_album, .inr (0, [.ref h_rows, .ref h_rule, .ref h_album_wishes, .ref h_album_ways, .ref h_album_front, .ref h_album_at, .ref h_page])), (h_album_ways, .inl (cJ, 1215, .inr (.inl f_album_ways))), (h_album_at, .inl (cI, 5, .inl f_album_at)), (h_rows, .inr (2, [.int rows_c, .int rows_w, .int rows_size, .int rows_ring, .ref h_rows_framed, .ref h_rows_power])), (h_rows_framed, .inl (cI, 243, .inl f_rows_framed)), (h_rule, .inr (3, [.ref h_rule_lower])), (h_rule_lower, .inl (cI, 16, .inl f_rule_lower))]
abbrev rm_X0_nextRow : Room := { frames := 2, cells := 0, slots := 0, locals := 49 }
def r_X0_nextRow_15 (f_album_ways : Nat → Int64) (f_album_at : Nat → Int32) (rows_w : Int32) (rows_size : Int32) (rows_ring : Int32) (f_rows_framed : Nat → Int32) (f_rule_lower : Nat → Int32) (post : Int32 → Prop) (l1 : Int32) (l2 : Int32) : Nat → (Int32) → Prop
  | 0, _ => False
  | n + 1, l3 => ((rows_size ≤ l3 → (post (-1 : Int32))) ∧ (¬ rows_size ≤ l3 → (q_X0_waysUnder f_album_ways rows_w f_rows_framed f_rule_lower l2 l1 l3 (fun (r4 : Int64) => ((r4 = (0 : Int64) → ((r_X0_nextRow_15 f_album_ways f_album_at rows_w rows_size rows_ring f_rows_framed f_rule_lower post l1 l2 n) (l3 + (1 : Int32)))) ∧ (¬ r4 = (0 : Int64) → (post l3)))))))
def q_X0_nextRow_15 (f_album_ways : Nat → Int64) (f_album_at : Nat → Int32) (rows_w : Int32) (rows_size : Int32) (rows_ring : Int32) (f_rows_framed : Nat → Int32) (f_rule_lower : Nat → Int32) (post : Int32 → Prop) (l1 : Int32) (l2 : Int32) (l3 : Int32) : Prop := ∃ n, r_X0_nextRow_15 f_album_ways f_album_at rows_w rows_size rows_ring f_rows_framed f_rule_lower post l1 l2 n l3
def q_X0_nextRow (f_album_ways : Nat → Int64) (f_album_at : Nat → Int32) (rows_w : Int32) (rows_size : Int32) (rows_ring : Int32) (f_rows_framed : Nat → Int32) (f_rule_lower : Nat → Int32) (l1 : Int32) (post : Int32 → Prop) : Prop := (q_X0_above f_album_at rows_ring f_rows_framed l1 (fun (r1 : Int32) => (vp_in l1 5 ∧ ((q_X0_nextRow_15 f_album_ways f_album_at rows_w rows_size rows_ring f_rows_framed f_rule_lower post) l1 r1 ((f_album_at (l1).toNatClampNeg) + (1 : Int32))))))
theorem hdV_X0_nextRow : yX0_nextRow.cls = RX0 ∧ yX0_nextRow.cls ≠ "java/lang/invoke/MethodHandle" ∧ yX0_nextRow.cls ≠ "java/lang/invoke/VarHandle" ∧ (parseMethodDescriptor yX0_nextRow.desc).map (fun d => d.parameters.length) = some 1 := by decide +kernel
set_option maxHeartbeats 4000000 in
set_option maxRecDepth 100000 in
theorem c_X0_nextRow (l : Launch) (dC : Nat → ClassId) (dI : Nat → Nat → Nat) (cI cJ cZ : ClassId) (h_album h_album_ways h_album_at h_rows h_rows_framed h_rule h_rule_lower h_album_wishes h_album_front h_page h_rows_power : Nat) (sz : Nat) (f_album_ways : Nat → Int64) (f_album_at : Nat → Int32) (rows_c : Int32) (rows_w : Int32) (rows_size : Int32) (rows_ring : Int32) (f_rows_framed : Nat → Int32) (f_rule_lower : Nat → Int32) (l1 : Int32) {post : Int32 → Prop} (hq : q_X0_nextRow f_album_ways f_album_at rows_w rows_size rows_ring f_rows_framed f_rule_lower l1 post) : Met l yX0_nextRow wsX0_nextRow rm_X0_nextRow (va_Pc [.ref h_album, .int l1] (gx_Pre (dC, dI) vwCl (gx_tys cI cJ cZ) sz (W_X0_nextRow cI cJ cZ h_album h_album_ways h_album_at h_rows h_rows_framed h_rule h_rule_lower h_album_wishes h_album_front h_page h_rows_power f_album_ways f_album_at rows_c rows_w rows_size rows_ring f_rows_framed f_rule_lower))) (va_Qi (fun (r : Int32) (u : Unit) => post r) (gx_B (dC, dI) vwCl (gx_tys cI cJ cZ) (va_A (W_X0_nextRow cI cJ cZ h_album h_album_ways h_album_at h_rows h_rows_framed h_rule h_rule_lower h_album_wishes h_album_front h_page h_rows_power f_album_ways f_album_at rows_c rows_w rows_size rows_ring f_rows_framed f_rule_lower) sz) (fun (u : Unit) => (W_X0_nextRow cI cJ cZ h_album h_album_ways h_album_at h_rows h_rows_framed h_rule h_rule_lower h_album_wishes h_album_front h_page h_rows_power f_album_ways f_album_at rows_c rows_w rows_size rows_ring f_rows_framed f_rule_lower))) (va_A (W_X0_nextRow cI cJ cZ h_album h_album_ways h_album_at h_rows h_rows_framed h_rule h_rule_lower h_album_wishes h_album_front h_page h_rows_power f_album_ways f_album_at rows_c rows_w rows_size rows_ring f_rows_framed f_rule_lower) sz)) 0 0 (va_A (W_X0_nextRow cI cJ cZ h_album h_album_ways h_album_at h_rows h_rows_framed h_rule h_rule_lower h_album_wishes h_album_front h_page h_rows_power f_album_ways f_album_at rows_c rows_w rows_size rows_ring f_rows_framed f_rule_lower) sz) := by
  refine gx_i (cc := cX0_nextRow) (maxL := 4) (by decide) rfl (Nat.le_of_ble_eq_true rfl) ?_
  intro p e s m args below meth c A QQ hx hb hml hown hts hA hP hK hD hret ls hl
  have hown : s.vm.findClass RX0 = some m.cls := hown
  have hf22 := hts (.fieldLink RX0 22 "SmallWindows$Album" "at" "[I") (by decide +kernel)
  have hf36 := hts (.fieldLink RX0 36 "SmallWindows$Album" "rows" "LSmallWindows$Rows;") (by decide +kernel)
  have hf59 := hts (.fieldLink RX0 59 "SmallWindows$Rows" "size" "I") (by decide +kernel)
  have hinX0 : ∀ w ∈ u_ws RX0 TX0 7, w ∈ wsX0_nextRow := fun w h => List.mem_cons_of_mem _ ((List.mem_append_left _ (List.mem_append_left _ (List.mem_append_right _ h))))
  have hinX2 : ∀ w ∈ u_ws RX2 TX2 6, w ∈ wsX0_nextRow := fun w h => List.mem_cons_of_mem _ ((List.mem_append_left _ (List.mem_append_right _ h)))
  have hS : va_S A s.heap s.heap [] := va_S.rf
  have hl : lv_has ls 4 [(0, .ref h_album), (1, .int l1)] := hl
  have L15 : ∀ (l1 : Int32) (l2 : Int32) (n : Nat) (l3 : Int32), r_X0_nextRow_15 f_album_ways f_album_at rows_w rows_size rows_ring f_rows_framed f_rule_lower post l1 l2 n l3 → ∀ (H : Heap) (locs : List Loc), va_P (dC, dI) vwCl (W_X0_nextRow cI cJ cZ h_album h_album_ways h_album_at h_rows h_rows_framed h_rule h_rule_lower h_album_wishes h_album_front h_page h_rows_power f_album_ways f_album_at rows_c rows_w rows_size rows_ring f_rows_framed f_rule_lower) H → va_D A (W_X0_nextRow cI cJ cZ h_album h_album_ways h_album_at h_rows h_rows_framed h_rule h_rule_lower h_album_wishes h_album_front h_page h_rows_power f_album_ways f_album_at rows_c rows_w rows_size rows_ring f_rows_framed f_rule_lower) → va_S A s.heap H locs → ∀ ls : Array Slot, lv_has ls 4 [(0, .ref h_album), (1, .int l1), (2, .int l2), (3, .int l3)] → W p l e rm_X0_nextRow s m args below meth c H locs 0 0 QQ (F0 m 15 ls []) := by
    intro l1 l2 n
    induction n with
    | zero => intro l3 hq; exact False.elim hq
    | succ n ih =>
      intro l3 hq H locs hP hD hS ls hl
      unfold r_X0_nextRow_15 at hq
      refine lv_iload_n hx hb dX0_nextRow_15 rfl (lv_at hl 3 rfl) ?_
      refine lv_aload_n hx hb dX0_nextRow_16 rfl (lv_at hl 0 rfl) ?_
      refine va_get (D := (dC, dI)) (ci := 0) (v := .ref h_rows) (C := RX0) (T := TX0) (N := 7) hx hb hts hinX0 hown hK hP 0 rfl rfl 0 (by decide) hf36 (fun _ h9 => h9) rfl dX0_nextRow_17 ?_
      refine va_get (D := (dC, dI)) (ci := 2) (v := .int rows_size) (C := RX2) (T := TX2) (N := 6) hx hb hts hinX2 hown hK hP 3 rfl rfl 2 (by decide) hf59 (fun _ h9 => h9) rfl dX0_nextRow_20 ?_
      refine lv_icmp_ge (tgt := 46) hx hb dX0_nextRow_23 (by decide) (fun c3 => ?_) (fun c3 => ?_)
      · replace hq := hq.1 c3
        refine lv_iconst (v := (-1 : Int32)) hx hb dX0_nextRow_46 (by decide) ?_
        exact hret (-1 : Int32) () hq _ _ hP hD hS _ _ dX0_nextRow_47
      · replace hq := hq.2 c3
        refine lv_aload_n hx hb dX0_nextRow_26 rfl (lv_at hl 0 rfl) ?_
        refine lv_iload_n hx hb dX0_nextRow_27 rfl (lv_at hl 2 rfl) ?_
        refine lv_iload_n hx hb dX0_nextRow_28 rfl (lv_at hl 1 rfl) ?_
        refine lv_iload_n hx hb dX0_nextRow_29 rfl (lv_at hl 3 rfl) ?_
        refine gx_cVl (C := RX0) (As := [.int l2, .int l1, .int l3]) (rest := []) ⟨hx, hb, hml, hown, hts⟩ (c_X0_waysUnder l dC dI cI cJ cZ h_album h_album_ways h_rows h_rows_framed h_rule h_rule_lower h_album_wishes h_album_front h_album_at h_page h_rows_power H.size f_album_ways rows_c rows_w rows_size rows_ring f_rows_framed f_rule_lower l2 l1 l3 hq) (cwV 3 hts gX0_nextRow_X0_waysUnder rfl rfl rfl hdV_X0_waysUnder ⟨Nat.le_of_ble_eq_true rfl, Nat.le_of_ble_eq_true rfl⟩) hK hP hD hS hA [0, 1, 3, 4, 5, 6] [2] rfl rfl rfl rfl rfl (ci := 0) (q0 := 0) rfl rfl rfl rfl hl.1 (Nat.le_of_ble_eq_true rfl) dX0_nextRow_30 rfl (fun r4 u H locs hq hP hD hS => ?_)
        try dsimp only at hq
        have hP : va_P (dC, dI) vwCl (W_X0_nextRow cI cJ cZ h_album h_album_ways h_album_at h_rows h_rows_framed h_rule h_rule_lower h_album_wishes h_album_front h_page h_rows_power f_album_ways f_album_at rows_c rows_w rows_size rows_ring f_rows_framed f_rule_lower) H := hP.sub [1, 2, 0, 3, 4, 5, 6] rfl
        have hD : va_D A (W_X0_nextRow cI cJ cZ h_album h_album_ways h_album_at h_rows h_rows_framed h_rule h_rule_lower h_album_wishes h_album_front h_page h_rows_power f_album_ways f_album_at rows_c rows_w rows_size rows_ring f_rows_framed f_rule_lower) := hD.sub [1, 2, 0, 3, 4, 5, 6] (by decide) rfl
        refine lv_lconst (v := (0 : Int64)) hx hb dX0_nextRow_33 (by decide) ?_
        refine W.lcmp hx hb dX0_nextRow_34 ?_
        refine lv_if_eq (tgt := 40) hx hb dX0_nextRow_35 (by decide) (fun c5 => ?_) (fun c5 => ?_)
        · replace hq := hq.1 ((lg_cmp_eq _ _).mp c5)
          refine lv_iinc (v := (l3 + (1 : Int32))) (lv' := [(3, .int (l3 + (1 : Int32))), (0, .ref h_album), (1, .int l1), (2, .int l2)]) hx hb dX0_nextRow_40 hl (k := 3) rfl rfl (by decide) rfl (fun ls hl => ?_)
          refine lv_goto (tgt := 15) hx hb dX0_nextRow_43 (by decide) ?_
          exact ih _ hq _ _ hP hD hS _ (lv_sub hl [1, 2, 3, 0] rfl)
        · replace hq := hq.2 (fun h => c5 ((lg_cmp_eq _ _).mpr h))
          refine lv_iload_n hx hb dX0_nextRow_38 rfl (lv_at hl 3 rfl) ?_
          exact hret l3 () hq _ _ hP hD hS _ _ dX0_nextRow_39
  have C15 : ∀ (l1 : Int32) (l2 : Int32) (l3 : Int32), q_X0_nextRow_15 f_album_ways f_album_at rows_w rows_size rows_ring f_rows_framed f_rule_lower post l1 l2 l3 → ∀ (H : Heap) (locs : List Loc), va_P (dC, dI) vwCl (W_X0_nextRow cI cJ cZ h_album h_album_ways h_album_at h_rows h_rows_framed h_rule h_rule_lower h_album_wishes h_album_front h_page h_rows_power f_album_ways f_album_at rows_c rows_w rows_size rows_ring f_rows_framed f_rule_lower) H → va_D A (W_X0_nextRow cI cJ cZ h_album h_album_ways h_album_at h_rows h_rows_framed h_rule h_rule_lower h_album_wishes h_album_front h_page h_rows_power f_album_ways f_album_at rows_c rows_w rows_size rows_ring f_rows_framed f_rule_lower) → va_S A s.heap H locs → ∀ ls : Array Slot, lv_has ls 4 [(0, .ref h_album), (1, .int l1), (2, .int l2), (3, .int l3)] → W p l e rm_X0_nextRow s m args below meth c H locs 0 0 QQ (F0 m 15 ls []) := by
    intro l1 l2 l3 hq H locs hP hD hS ls hl
    obtain ⟨n, hq⟩ := hq
    exact L15 _ _ n _ hq H locs hP hD hS ls hl
  unfold q_X0_nextRow at hq
  refine lv_aload_n hx hb dX0_nextRow_0 rfl (lv_at hl 0 rfl) ?_
  refine lv_iload_n hx hb dX0_nextRow_1 rfl (lv_at hl 1 rfl) ?_
  refine gx_cVi (C := RX0) (As := [.int l1]) (rest := []) ⟨hx, hb, hml, hown, hts⟩ (c_X0_above l dC dI cI cJ cZ h_album h_album_at h_rows h_rows_framed h_rule h_album_wishes h_album_ways h_album_front h_page h_rows_power s.heap.size f_album_at rows_c rows_w rows_size rows_ring f_rows_framed l1 hq) (cwV 1 hts gX0_nextRow_X0_above rfl rfl rfl hdV_X0_above ⟨Nat.le_of_ble_eq_true rfl, Nat.le_of_ble_eq_true rfl⟩) hK hP hD hS hA [0, 2, 3, 4] [1, 5, 6] rfl rfl rfl rfl rfl (ci := 0) (q0 := 0) rfl rfl rfl rfl hl.1 (Nat.le_of_ble_eq_true rfl) dX0_nextRow_2 rfl (fun r1 u H locs hq hP hD hS => ?_)
  try dsimp only at hq
  have hP : va_P (dC, dI) vwCl (W_X0_nextRow cI cJ cZ h_album h_album_ways h_album_at h_rows h_rows_framed h_rule h_rule_lower h_album_wishes h_album_front h_page h_rows_power f_album_ways f_album_at rows_c rows_w rows_size rows_ring f_rows_framed f_rule_lower) H := hP.sub [3, 0, 4, 5, 6, 1, 2] rfl
  have hD : va_D A (W_X0_nextRow cI cJ cZ h_album h_album_ways h_album_at h_rows h_rows_framed h_rule h_rule_lower h_album_wishes h_album_front h_page h_rows_power f_album_ways f_album_at rows_c rows_w rows_size rows_ring f_rows_framed f_rule_lower) := hD.sub [3, 0, 4, 5, 6, 1, 2] (by decide) rfl
  refine lv_istore_n (lv' := [(2, .int r1), (0, .ref h_album), (1, .int l1)]) hx hb dX0_nextRow_5 rfl hl (by decide) rfl (fun ls hl => ?_)
  refine lv_aload_n hx hb dX0_nextRow_6 rfl (lv_at hl 1 rfl) ?_
  refine va_get (D := (dC, dI)) (ci := 0) (v := .ref h_album_at) (C := RX0) (T := TX0) (N := 7) hx hb hts hinX0 hown hK hP 0 rfl rfl 5 (by decide) hf22 (fun _ h9 => h9) rfl dX0_nextRow_7 ?_
  refine lv_iload_n hx hb dX0_nextRow_10 rfl (lv_at hl 2 rfl) ?_
  obtain ⟨hv2, hq⟩ := hq
  refine va_iald hx hb hK hP 2 0 rfl rfl hv2 dX0_nextRow_11 ?_
  refine lv_iconst (v := (1 : Int32)) hx hb dX0_nextRow_12 (by decide) ?_
  refine lv_iadd hx hb dX0_nextRow_13 ?_
  refine lv_istore_n (lv' := [(3, .int ((f_album_at (l1).toNatClampNeg) + (1 : Int32))), (2, .int r1), (0, .ref h_album), (1, .int l1)]) hx hb dX0_nextRow_14 rfl hl (by decide) rfl (fun ls hl => ?_)
  exact C15 _ _ _ hq _ _ hP hD hS _ (lv_sub hl [2, 3, 1, 0] rfl)

abbrev W_X0_advance (cI cJ cZ : ClassId) (h_album h_album_ways h_album_at h_rows h_rows_framed h_rule h_rule_lower h_page h_page_cells h_album_wishes h_album_front h_rows_power : Nat) (f_album_ways : Nat → Int64) (f_album_at : Nat → Int32) (rows_c : Int32) (rows_w : Int32) (rows_size : Int32) (rows_ring : Int32) (f_rows_framed : Nat → Int32) (f_rule_lower : Nat → Int32) (page_h : Int32) (page_w : Int32) (f_page_cells : Nat → Int32) : va_W := [(h_album, .inr (0, [.ref h_rows, .ref h_rule, .ref h_album_wishes, .ref h_album_ways, .ref h_album_front, .ref h_album_at, .ref h_page])), (h_album_ways, .inl (cJ, 1215, .inr (.inl f_album_ways))), (h_album_at, .inl (cI, 5, .inl f_album_at)), (h_rows, .inr (2, [.int rows_c, .int rows_w, .int rows_size, .int rows_ring, .ref h_rows_framed, .ref h_rows_power])), (h_rows_framed, .inl (cI, 243, .inl f_rows_framed)), (h_rule, .inr (3, [.ref h_rule_lower])), (h_rule_lower, .inl (cI, 16, .inl f_rule_lower)), (h_page, .inr (4, [.int page_h, .int page_w, .ref h_page_cells])), (h_page_cells, .inl (cI, 25, .inl f_page_cells))]
abbrev rm_X0_advance : Room := { frames := 3, cells := 0, slots := 0, locals := 72 }
def r_X0_advance_4 (f_album_ways : Nat → Int64) (rows_w : Int32) (rows_size : Int32) (rows_ring : Int32) (f_rows_framed : Nat → Int32) (f_rule_lower : Nat → Int32) (page_h : Int32) (post : Int32 → (Nat → Int32) → (Nat → Int32) → Prop) (K28 : (Int32) → (Nat → Int32) → (Nat → Int32) → Prop) (l1 : Int32) (f_page_cells : Nat → Int32) : Nat → (Int32) → (Nat → Int32) → Prop
  | 0, _, _ => False
  | n + 1, l2, f_album_at => ((page_h ≤ l2 → (K28 l1 f_album_at f_page_cells)) ∧ (¬ page_h ≤ l2 → (vp_in l2 5 ∧ ((r_X0_advance_4 f_album_ways rows_w rows_size rows_ring f_rows_framed f_rule_lower page_h post K28 l1 f_page_cells n) (l2 + (1 : Int32)) (upd f_album_at (l2).toNatClampNeg (-1 : Int32))))))
def r_X0_advance_32 (f_album_ways : Nat → Int64) (rows_w : Int32) (rows_size : Int32) (rows_ring : Int32) (f_rows_framed : Nat → Int32) (f_rule_lower : Nat → Int32) (page_h : Int32) (post : Int32 → (Nat → Int32) → (Nat → Int32) → Prop) : Nat → (Int32) → (Int32) → (Nat → Int32) → (Nat → Int32) → Prop
  | 0, _, _, _, _ => False
  | n + 1, l2, l3, f_album_at, f_page_cells => (((10 : Int32) ≤ l3 → ((¬ l2 = page_h → (post (0 : Int32) f_album_at f_page_cells)) ∧ (l2 = page_h → (post (1 : Int32) f_album_at f_page_cells)))) ∧ (¬ (10 : Int32) ≤ l3 → ((l2 < 0 → ((¬ l2 = page_h → (post (0 : Int32) f_album_at f_page_cells)) ∧ (l2 = page_h → (post (1 : Int32) f_album_at f_page_cells)))) ∧ (¬ l2 < 0 → ((page_h ≤ l2 → ((¬ l2 = page_h → (post (0 : Int32) f_album_at f_page_cells)) ∧ (l2 = page_h → (post (1 : Int32) f_album_at f_page_cells)))) ∧ (¬ page_h ≤ l2 → (q_X0_nextRow f_album_ways f_album_at rows_w rows_size rows_ring f_rows_framed f_rule_lower l2 (fun (r9 : Int32) => ((¬ r9 = (-1 : Int32) → (q_X0_show rows_w f_rows_framed f_album_at f_page_cells l2 r9 (fun (f_album_at_11 : Nat → Int32) (f_page_cells_11 : Nat → Int32) => ((r_X0_advance_32 f_album_ways rows_w rows_size rows_ring f_rows_framed f_rule_lower page_h post n) (l2 + (1 : Int32)) (l3 + (1 : Int32)) f_album_at_11 f_page_cells_11)))) ∧ (r9 = (-1 : Int32) → (vp_in l2 5 ∧ ((r_X0_advance_32 f_album_ways rows_w rows_size rows_ring f_rows_framed f_rule_lower page_h post n) (l2 + (-1 : Int32)) (l3 + (1 : Int32)) (upd f_album_at (l2).toNatClampNeg (-1 : Int32)) f_page_cells))))))))))))
def q_X0_advance_32 (f_album_ways : Nat → Int64) (rows_w : Int32) (rows_size : Int32) (rows_ring : Int32) (f_rows_framed : Nat → Int32) (f_rule_lower : Nat → Int32) (page_h : Int32) (post : Int32 → (Nat → Int32) → (Nat → Int32) → Prop) (l2 : Int32) (l3 : Int32) (f_album_at : Nat → Int32) (f_page_cells : Nat → Int32) : Prop := ∃ n, r_X0_advance_32 f_album_ways rows_w rows_size rows_ring f_rows_framed f_rule_lower page_h post n l2 l3 f_album_at f_page_cells
def q_X0_advance_28 (f_album_ways : Nat → Int64) (rows_w : Int32) (rows_size : Int32) (rows_ring : Int32) (f_rows_framed : Nat → Int32) (f_rule_lower : Nat → Int32) (page_h : Int32) (post : Int32 → (Nat → Int32) → (Nat → Int32) → Prop) (l1 : Int32) (f_album_at : Nat → Int32) (f_page_cells : Nat → Int32) : Prop := ((q_X0_advance_32 f_album_ways rows_w rows_size rows_ring f_rows_framed f_rule_lower page_h post) l1 (0 : Int32) f_album_at f_page_cells)
def q_X0_advance_4 (f_album_ways : Nat → Int64) (rows_w : Int32) (rows_size : Int32) (rows_ring : Int32) (f_rows_framed : Nat → Int32) (f_rule_lower : Nat → Int32) (page_h : Int32) (post : Int32 → (Nat → Int32) → (Nat → Int32) → Prop) (l1 : Int32) (l2 : Int32) (f_album_at : Nat → Int32) (f_page_cells : Nat → Int32) : Prop := ∃ n, r_X0_advance_4 f_album_ways rows_w rows_size rows_ring f_rows_framed f_rule_lower page_h post (q_X0_advance_28 f_album_ways rows_w rows_size rows_ring f_rows_framed f_rule_lower page_h post) l1 f_page_cells n l2 f_album_at
def q_X0_advance (f_album_ways : Nat → Int64) (rows_w : Int32) (rows_size : Int32) (rows_ring : Int32) (f_rows_framed : Nat → Int32) (f_rule_lower : Nat → Int32) (page_h : Int32) (f_album_at : Nat → Int32) (f_page_cells : Nat → Int32) (l1 : Int32) (post : Int32 → (Nat → Int32) → (Nat → Int32) → Prop) : Prop := ((q_X0_advance_4 f_album_ways rows_w rows_size rows_ring f_rows_framed f_rule_lower page_h post) l1 (l1 + (1 : Int32)) f_album_at f_page_cells)
theorem hdV_X0_advance : yX0_advance.cls = RX0 ∧ yX0_advance.cls ≠ "java/lang/invoke/MethodHandle" ∧ yX0_advance.cls ≠ "java/lang/invoke/VarHandle" ∧ (parseMethodDescriptor yX0_advance.desc).map (fun d => d.parameters.length) = some 1 := by decide +kernel
set_option maxHeartbeats 4000000 in
set_option maxRecDepth 100000 in
theorem c_X0_advance (l : Launch) (dC : Nat → ClassId) (dI : Nat → Nat → Nat) (cI cJ cZ : ClassId) (h_album h_album_ways h_album_at h_rows h_rows_framed h_rule h_rule_lower h_page h_page_cells h_album_wishes h_album_front h_rows_power : Nat) (sz : Nat) (f_album_ways : Nat → Int64) (f_album_at : Nat → Int32) (rows_c : Int32) (rows_w : Int32) (rows_size : Int32) (rows_ring : Int32) (f_rows_framed : Nat → Int32) (f_rule_lower : Nat → Int32) (page_h : Int32) (page_w : Int32) (f_page_cells : Nat → Int32) (l1 : Int32) {post : Int32 → (Nat → Int32) → (Nat → Int32) → Prop} (hq : q_X0_advance f_album_ways rows_w rows_size rows_ring f_rows_framed f_rule_lower page_h f_album_at f_page_cells l1 post) : Met l yX0_advance wsX0_advance rm_X0_advance (va_Pc [.ref h_album, .int l1] (gx_Pre (dC, dI) vwCl (gx_tys cI cJ cZ) sz (W_X0_advance cI cJ cZ h_album h_album_ways h_album_at h_rows h_rows_framed h_rule h_rule_lower h_page h_page_cells h_album_wishes h_album_front h_rows_power f_album_ways f_album_at rows_c rows_w rows_size rows_ring f_rows_framed f_rule_lower page_h page_w f_page_cells))) (va_Qi (fun (r : Int32) (u : (Nat → Int32) × (Nat → Int32)) => post r u.1 u.2) (gx_B (dC, dI) vwCl (gx_tys cI cJ cZ) (va_A (W_X0_advance cI cJ cZ h_album h_album_ways h_album_at h_rows h_rows_framed h_rule h_rule_lower h_page h_page_cells h_album_wishes h_album_front h_rows_power f_album_ways f_album_at rows_c rows_w rows_size rows_ring f_rows_framed f_rule_lower page_h page_w f_page_cells) sz) (fun (u : (Nat → Int32) × (Nat → Int32)) => (W_X0_advance cI cJ cZ h_album h_album_ways h_album_at h_rows h_rows_framed h_rule h_rule_lower h_page h_page_cells h_album_wishes h_album_front h_rows_power f_album_ways u.1 rows_c rows_w rows_size rows_ring f_rows_framed f_rule_lower page_h page_w u.2))) (va_A (W_X0_advance cI cJ cZ h_album h_album_ways h_album_at h_rows h_rows_framed h_rule h_rule_lower h_page h_page_cells h_album_wishes h_album_front h_rows_power f_album_ways f_album_at rows_c rows_w rows_size rows_ring f_rows_framed f_rule_lower page_h page_w f_page_cells) sz)) 0 0 (va_A (W_X0_advance cI cJ cZ h_album h_album_ways h_album_at h_rows h_rows_framed h_rule h_rule_lower h_page h_page_cells h_album_wishes h_album_front h_rows_power f_album_ways f_album_at rows_c rows_w rows_size rows_ring f_rows_framed f_rule_lower page_h page_w f_page_cells) sz) := by
  refine gx_z (cc := cX0_advance) (maxL := 5) (by decide) rfl (Nat.le_of_ble_eq_true rfl) ?_
  intro p e s m args below meth c A QQ hx hb hml hown hts hA hP hK hD hret ls hl
  have hown : s.vm.findClass RX0 = some m.cls := hown
  have hf28 := hts (.fieldLink RX0 28 "SmallWindows$Album" "page" "LSmallWindows$Sheet;") (by decide +kernel)
  have hf55 := hts (.fieldLink RX0 55 "SmallWindows$Sheet" "h" "I") (by decide +kernel)
  have hf22 := hts (.fieldLink RX0 22 "SmallWindows$Album" "at" "[I") (by decide +kernel)
  have hinX0 : ∀ w ∈ u_ws RX0 TX0 7, w ∈ wsX0_advance := fun w h => List.mem_cons_of_mem _ ((List.mem_append_left _ (List.mem_append_left _ (List.mem_append_left _ (List.mem_append_right _ h)))))
  have hinX4 : ∀ w ∈ u_ws RX4 TX4 3, w ∈ wsX0_advance := fun w h => List.mem_cons_of_mem _ ((List.mem_append_left _ (List.mem_append_left _ (List.mem_append_right _ h))))
  have hS : va_S A s.heap s.heap [] := va_S.rf
  have hl : lv_has ls 5 [(0, .ref h_album), (1, .int l1)] := hl
  have L4 : ∀ (K28 : (Int32) → (Nat → Int32) → (Nat → Int32) → Prop) (hK28 : (∀ (l1 : Int32) (f_album_at : Nat → Int32) (f_page_cells : Nat → Int32), K28 l1 f_album_at f_page_cells → ∀ (H : Heap) (locs : List Loc), va_P (dC, dI) vwCl (W_X0_advance cI cJ cZ h_album h_album_ways h_album_at h_rows h_rows_framed h_rule h_rule_lower h_page h_page_cells h_album_wishes h_album_front h_rows_power f_album_ways f_album_at rows_c rows_w rows_size rows_ring f_rows_framed f_rule_lower page_h page_w f_page_cells) H → va_D A (W_X0_advance cI cJ cZ h_album h_album_ways h_album_at h_rows h_rows_framed h_rule h_rule_lower h_page h_page_cells h_album_wishes h_album_front h_rows_power f_album_ways f_album_at rows_c rows_w rows_size rows_ring f_rows_framed f_rule_lower page_h page_w f_page_cells) → va_S A s.heap H locs → ∀ ls : Array Slot, lv_has ls 5 [(0, .ref h_album), (1, .int l1)] → W p l e rm_X0_advance s m args below meth c H locs 0 0 QQ (F0 m 28 ls []))) (l1 : Int32) (f_page_cells : Nat → Int32) (n : Nat) (l2 : Int32) (f_album_at : Nat → Int32), r_X0_advance_4 f_album_ways rows_w rows_size rows_ring f_rows_framed f_rule_lower page_h post K28 l1 f_page_cells n l2 f_album_at → ∀ (H : Heap) (locs : List Loc), va_P (dC, dI) vwCl (W_X0_advance cI cJ cZ h_album h_album_ways h_album_at h_rows h_rows_framed h_rule h_rule_lower h_page h_page_cells h_album_wishes h_album_front h_rows_power f_album_ways f_album_at rows_c rows_w rows_size rows_ring f_rows_framed f_rule_lower page_h page_w f_page_cells) H → va_D A (W_X0_advance cI cJ cZ h_album h_album_ways h_album_at h_rows h_rows_framed h_rule h_rule_lower h_page h_page_cells h_album_wishes h_album_front h_rows_power f_album_ways f_album_at rows_c rows_w rows_size rows_ring f_rows_framed f_rule_lower page_h page_w f_page_cells) → va_S A s.heap H locs → ∀ ls : Array Slot, lv_has ls 5 [(0, .ref h_album), (1, .int l1), (2, .int l2)] → W p l e rm_X0_advance s m args below meth c H locs 0 0 QQ (F0 m 4 ls []) := by
    intro K28 hK28 l1 f_page_cells n
    induction n with
    | zero => intro l2 f_album_at hq; exact False.elim hq
    | succ n ih =>
      intro l2 f_album_at hq H locs hP hD hS ls hl
      unfold r_X0_advance_4 at hq
      refine lv_iload_n hx hb dX0_advance_4 rfl (lv_at hl 2 rfl) ?_
      refine lv_aload_n hx hb dX0_advance_5 rfl (lv_at hl 0 rfl) ?_
      refine va_get (D := (dC, dI)) (ci := 0) (v := .ref h_page) (C := RX0) (T := TX0) (N := 7) hx hb hts hinX0 hown hK hP 0 rfl rfl 6 (by decide) hf28 (fun _ h9 => h9) rfl dX0_advance_6 ?_
      refine va_get (D := (dC, dI)) (ci := 4) (v := .int page_h) (C := RX4) (T := TX4) (N := 3) hx hb hts hinX4 hown hK hP 7 rfl rfl 0 (by decide) hf55 (fun _ h9 => h9) rfl dX0_advance_9 ?_
      refine lv_icmp_ge (tgt := 28) hx hb dX0_advance_12 (by decide) (fun c1 => ?_) (fun c1 => ?_)
      · replace hq := hq.1 c1
        exact hK28 _ _ _ hq _ _ hP hD hS _ (lv_sub hl [0, 1] rfl)
      · replace hq := hq.2 c1
        refine lv_aload_n hx hb dX0_advance_15 rfl (lv_at hl 0 rfl) ?_
        refine va_get (D := (dC, dI)) (ci := 0) (v := .ref h_album_at) (C := RX0) (T := TX0) (N := 7) hx hb hts hinX0 hown hK hP 0 rfl rfl 5 (by decide) hf22 (fun _ h9 => h9) rfl dX0_advance_16 ?_
        refine lv_iload_n hx hb dX0_advance_19 rfl (lv_at hl 2 rfl) ?_
        refine lv_iconst (v := (-1 : Int32)) hx hb dX0_advance_20 (by decide) ?_
        obtain ⟨hv2, hq⟩ := hq
        refine va_iast hx hb hK hP hD hS 2 0 rfl rfl hv2 dX0_advance_21 (fun H locs hP hD hS => ?_)
        have hP : va_P (dC, dI) vwCl (W_X0_advance cI cJ cZ h_album h_album_ways h_album_at h_rows h_rows_framed h_rule h_rule_lower h_page h_page_cells h_album_wishes h_album_front h_rows_power f_album_ways (upd f_album_at (l2).toNatClampNeg (-1 : Int32)) rows_c rows_w rows_size rows_ring f_rows_framed f_rule_lower page_h page_w f_page_cells) H := hP
        have hD : va_D A (W_X0_advance cI cJ cZ h_album h_album_ways h_album_at h_rows h_rows_framed h_rule h_rule_lower h_page h_page_cells h_album_wishes h_album_front h_rows_power f_album_ways (upd f_album_at (l2).toNatClampNeg (-1 : Int32)) rows_c rows_w rows_size rows_ring f_rows_framed f_rule_lower page_h page_w f_page_cells) := hD
        refine lv_iinc (v := (l2 + (1 : Int32))) (lv' := [(2, .int (l2 + (1 : Int32))), (0, .ref h_album), (1, .int l1)]) hx hb dX0_advance_22 hl (k := 2) rfl rfl (by decide) rfl (fun ls hl => ?_)
        refine lv_goto (tgt := 4) hx hb dX0_advance_25 (by decide) ?_
        exact ih _ _ hq _ _ hP hD hS _ (lv_sub hl [1, 2, 0] rfl)
  have L32 : ∀  (n : Nat) (l2 : Int32) (l3 : Int32) (f_album_at : Nat → Int32) (f_page_cells : Nat → Int32), r_X0_advance_32 f_album_ways rows_w rows_size rows_ring f_rows_framed f_rule_lower page_h post n l2 l3 f_album_at f_page_cells → ∀ (H : Heap) (locs : List Loc), va_P (dC, dI) vwCl (W_X0_advance cI cJ cZ h_album h_album_ways h_album_at h_rows h_rows_framed h_rule h_rule_lower h_page h_page_cells h_album_wishes h_album_front h_rows_power f_album_ways f_album_at rows_c rows_w rows_size rows_ring f_rows_framed f_rule_lower page_h page_w f_page_cells) H → va_D A (W_X0_advance cI cJ cZ h_album h_album_ways h_album_at h_rows h_rows_framed h_rule h_rule_lower h_page h_page_cells h_album_wishes h_album_front h_rows_power f_album_ways f_album_at rows_c rows_w rows_size rows_ring f_rows_framed f_rule_lower page_h page_w f_page_cells) → va_S A s.heap H locs → ∀ ls : Array Slot, lv_has ls 5 [(0, .ref h_album), (2, .int l2), (3, .int l3)] → W p l e rm_X0_advance s m args below meth c H locs 0 0 QQ (F0 m 32 ls []) := by
    intro n
    induction n with
    | zero => intro l2 l3 f_album_at f_page_cells hq; exact False.elim hq
    | succ n ih =>
      intro l2 l3 f_album_at f_page_cells hq H locs hP hD hS ls hl
      unfold r_X0_advance_32 at hq
      refine lv_iload_n hx hb dX0_advance_32 rfl (lv_at hl 2 rfl) ?_
      refine lv_bipush (v := (10 : Int32)) hx hb dX0_advance_33 (by decide) ?_
      refine lv_icmp_ge (tgt := 95) hx hb dX0_advance_35 (by decide) (fun c3 => ?_) (fun c3 => ?_)
      · replace hq := hq.1 c3
        refine lv_iload_n hx hb dX0_advance_95 rfl (lv_at hl 1 rfl) ?_
        refine lv_aload_n hx hb dX0_advance_96 rfl (lv_at hl 0 rfl) ?_
        refine va_get (D := (dC, dI)) (ci := 0) (v := .ref h_page) (C := RX0) (T := TX0) (N := 7) hx hb hts hinX0 hown hK hP 0 rfl rfl 6 (by decide) hf28 (fun _ h9 => h9) rfl dX0_advance_97 ?_
        refine va_get (D := (dC, dI)) (ci := 4) (v := .int page_h) (C := RX4) (T := TX4) (N := 3) hx hb hts hinX4 hown hK hP 7 rfl rfl 0 (by decide) hf55 (fun _ h9 => h9) rfl dX0_advance_100 ?_
        refine lv_icmp_ne (tgt := 110) hx hb dX0_advance_103 (by decide) (fun c4 => ?_) (fun c4 => ?_)
        · replace hq := hq.1 c4
          refine lv_iconst (v := (0 : Int32)) hx hb dX0_advance_110 (by decide) ?_
          exact hret (0 : Int32) (f_album_at, f_page_cells) (Or.inl rfl) hq _ _ hP hD hS _ _ dX0_advance_111
        · replace hq := hq.2 c4
          refine lv_iconst (v := (1 : Int32)) hx hb dX0_advance_106 (by decide) ?_
          refine lv_goto (tgt := 111) hx hb dX0_advance_107 (by decide) ?_
          exact hret (1 : Int32) (f_album_at, f_page_cells) (Or.inr rfl) hq _ _ hP hD hS _ _ dX0_advance_111
      · replace hq := hq.2 c3
        refine lv_iload_n hx hb dX0_advance_38 rfl (lv_at hl 1 rfl) ?_
        refine lv_if_lt (tgt := 95) hx hb dX0_advance_39 (by decide) (fun c5 => ?_) (fun c5 => ?_)
        · replace hq := hq.1 c5
          refine lv_iload_n hx hb dX0_advance_95 rfl (lv_at hl 1 rfl) ?_
          refine lv_aload_n hx hb dX0_advance_96 rfl (lv_at hl 0 rfl) ?_
          refine va_get (D := (dC, dI)) (ci := 0) (v := .ref h_page) (C := RX0) (T := TX0) (N := 7) hx hb hts hinX0 hown hK hP 0 rfl rfl 6 (by decide) hf28 (fun _ h9 => h9) rfl dX0_advance_97 ?_
          refine va_get (D := (dC, dI)) (ci := 4) (v := .int page_h) (C := RX4) (T := TX4) (N := 3) hx hb hts hinX4 hown hK hP 7 rfl rfl 0 (by decide) hf55 (fun _ h9 => h9) rfl dX0_advance_100 ?_
          refine lv_icmp_ne (tgt := 110) hx hb dX0_advance_103 (by decide) (fun c6 => ?_) (fun c6 => ?_)
          · replace hq := hq.1 c6
            refine lv_iconst (v := (0 : Int32)) hx hb dX0_advance_110 (by decide) ?_
            exact hret (0 : Int32) (f_album_at, f_page_cells) (Or.inl rfl) hq _ _ hP hD hS _ _ dX0_advance_111
          · replace hq := hq.2 c6
            refine lv_iconst (v := (1 : Int32)) hx hb dX0_advance_106 (by decide) ?_
            refine lv_goto (tgt := 111) hx hb dX0_advance_107 (by decide) ?_
            exact hret (1 : Int32) (f_album_at, f_page_cells) (Or.inr rfl) hq _ _ hP hD hS _ _ dX0_advance_111
        · replace hq := hq.2 c5
          refine lv_iload_n hx hb dX0_advance_42 rfl (lv_at hl 1 rfl) ?_
          refine lv_aload_n hx hb dX0_advance_43 rfl (lv_at hl 0 rfl) ?_
          refine va_get (D := (dC, dI)) (ci := 0) (v := .ref h_page) (C := RX0) (T := TX0) (N := 7) hx hb hts hinX0 hown hK hP 0 rfl rfl 6 (by decide) hf28 (fun _ h9 => h9) rfl dX0_advance_44 ?_
          refine va_get (D := (dC, dI)) (ci := 4) (v := .int page_h) (C := RX4) (T := TX4) (N := 3) hx hb hts hinX4 hown hK hP 7 rfl rfl 0 (by decide) hf55 (fun _ h9 => h9) rfl dX0_advance_47 ?_
          refine lv_icmp_ge (tgt := 95) hx hb dX0_advance_50 (by decide) (fun c7 => ?_) (fun c7 => ?_)
          · replace hq := hq.1 c7
            refine lv_iload_n hx hb dX0_advance_95 rfl (lv_at hl 1 rfl) ?_
            refine lv_aload_n hx hb dX0_advance_96 rfl (lv_at hl 0 rfl) ?_
            refine va_get (D := (dC, dI)) (ci := 0) (v := .ref h_page) (C := RX0) (T := TX0) (N := 7) hx hb hts hinX0 hown hK hP 0 rfl rfl 6 (by decide) hf28 (fun _ h9 => h9) rfl dX0_advance_97 ?_
            refine va_get (D := (dC, dI)) (ci := 4) (v := .int page_h) (C := RX4) (T := TX4) (N := 3) hx hb hts hinX4 hown hK hP 7 rfl rfl 0 (by decide) hf55 (fun _ h9 => h9) rfl dX0_advance_100 ?_
            refine lv_icmp_ne (tgt := 110) hx hb dX0_advance_103 (by decide) (fun c8 => ?_) (fun c8 => ?_)
            · replace hq := hq.1 c8
              refine lv_iconst (v := (0 : Int32)) hx hb dX0_advance_110 (by decide) ?_
              exact hret (0 : Int32) (f_album_at, f_page_cells) (Or.inl rfl) hq _ _ hP hD hS _ _ dX0_advance_111
            · replace hq := hq.2 c8
              refine lv_iconst (v := (1 : Int32)) hx hb dX0_advance_106 (by decide) ?_
              refine lv_goto (tgt := 111) hx hb dX0_advance_107 (by decide) ?_
              exact hret (1 : Int32) (f_album_at, f_page_cells) (Or.inr rfl) hq _ _ hP hD hS _ _ dX0_advance_111
          · replace hq := hq.2 c7
            refine lv_aload_n hx hb dX0_advance_53 rfl (lv_at hl 0 rfl) ?_
            refine lv_iload_n hx hb dX0_advance_54 rfl (lv_at hl 1 rfl) ?_
            refine gx_cVi (C := RX0) (As := [.int l2]) (rest := []) ⟨hx, hb, hml, hown, hts⟩ (c_X0_nextRow l dC dI cI cJ cZ h_album h_album_ways h_album_at h_rows h_rows_framed h_rule h_rule_lower h_album_wishes h_album_front h_page h_rows_power H.size f_album_ways f_album_at rows_c rows_w rows_size rows_ring f_rows_framed f_rule_lower l2 hq) (cwV 1 hts gX0_advance_X0_nextRow rfl rfl rfl hdV_X0_nextRow ⟨Nat.le_of_ble_eq_true rfl, Nat.le_of_ble_eq_true rfl⟩) hK hP hD hS hA [0, 1, 2, 3, 4, 5, 6] [7, 8] rfl rfl rfl rfl rfl (ci := 0) (q0 := 0) rfl rfl rfl rfl hl.1 (Nat.le_of_ble_eq_true rfl) dX0_advance_55 rfl (fun r9 u H locs hq hP hD hS => ?_)
            try dsimp only at hq
            have hP : va_P (dC, dI) vwCl (W_X0_advance cI cJ cZ h_album h_album_ways h_album_at h_rows h_rows_framed h_rule h_rule_lower h_page h_page_cells h_album_wishes h_album_front h_rows_power f_album_ways f_album_at rows_c rows_w rows_size rows_ring f_rows_framed f_rule_lower page_h page_w f_page_cells) H := hP.sub [2, 3, 4, 5, 6, 7, 8, 0, 1] rfl
            have hD : va_D A (W_X0_advance cI cJ cZ h_album h_album_ways h_album_at h_rows h_rows_framed h_rule h_rule_lower h_page h_page_cells h_album_wishes h_album_front h_rows_power f_album_ways f_album_at rows_c rows_w rows_size rows_ring f_rows_framed f_rule_lower page_h page_w f_page_cells) := hD.sub [2, 3, 4, 5, 6, 7, 8, 0, 1] (by decide) rfl
            refine lv_istore (lv' := [(4, .int r9), (0, .ref h_album), (2, .int l2), (3, .int l3)]) hx hb dX0_advance_58 hl (by decide) rfl (fun ls hl => ?_)
            refine lv_iload hx hb dX0_advance_60 (lv_at hl 0 rfl) ?_
            refine lv_iconst (v := (-1 : Int32)) hx hb dX0_advance_62 (by decide) ?_
            refine lv_icmp_ne (tgt := 79) hx hb dX0_advance_63 (by decide) (fun c10 => ?_) (fun c10 => ?_)
            · replace hq := hq.1 c10
              refine lv_aload_n hx hb dX0_advance_79 rfl (lv_at hl 1 rfl) ?_
              refine lv_iload_n hx hb dX0_advance_80 rfl (lv_at hl 2 rfl) ?_
              refine lv_iload hx hb dX0_advance_81 (lv_at hl 0 rfl) ?_
              refine gx_cVv (C := RX0) (As := [.int l2, .int r9]) (rest := []) ⟨hx, hb, hml, hown, hts⟩ (c_X0_show l dC dI cI cJ cZ h_album h_album_at h_rows h_rows_framed h_page h_page_cells h_rule h_album_wishes h_album_ways h_album_front h_rows_power H.size f_album_at rows_c rows_w rows_size rows_ring f_rows_framed page_h page_w f_page_cells l2 r9 hq) (cwV 2 hts gX0_advance_X0_show rfl rfl rfl hdV_X0_show ⟨Nat.le_of_ble_eq_true rfl, Nat.le_of_ble_eq_true rfl⟩) hK hP hD hS hA [0, 2, 3, 4, 7, 8] [1, 5, 6] rfl rfl rfl rfl rfl (ci := 0) (q0 := 0) rfl rfl rfl rfl hl.1 (Nat.le_of_ble_eq_true rfl) dX0_advance_83 rfl (fun u H locs hq hP hD hS => ?_)
              obtain ⟨f_album_at_11, f_page_cells_11⟩ := u
              try dsimp only at hq
              have hP : va_P (dC, dI) vwCl (W_X0_advance cI cJ cZ h_album h_album_ways h_album_at h_rows h_rows_framed h_rule h_rule_lower h_page h_page_cells h_album_wishes h_album_front h_rows_power f_album_ways f_album_at_11 rows_c rows_w rows_size rows_ring f_rows_framed f_rule_lower page_h page_w f_page_cells_11) H := hP.sub [3, 0, 4, 5, 6, 1, 2, 7, 8] rfl
              have hD : va_D A (W_X0_advance cI cJ cZ h_album h_album_ways h_album_at h_rows h_rows_framed h_rule h_rule_lower h_page h_page_cells h_album_wishes h_album_front h_rows_power f_album_ways f_album_at_11 rows_c rows_w rows_size rows_ring f_rows_framed f_rule_lower page_h page_w f_page_cells_11) := hD.sub [3, 0, 4, 5, 6, 1, 2, 7, 8] (by decide) rfl
              refine lv_iinc (v := (l2 + (1 : Int32))) (lv' := [(2, .int (l2 + (1 : Int32))), (4, .int r9), (0, .ref h_album), (3, .int l3)]) hx hb dX0_advance_86 hl (k := 2) rfl rfl (by decide) rfl (fun ls hl => ?_)
              refine lv_iinc (v := (l3 + (1 : Int32))) (lv' := [(3, .int (l3 + (1 : Int32))), (2, .int (l2 + (1 : Int32))), (4, .int r9), (0, .ref h_album)]) hx hb dX0_advance_89 hl (k := 3) rfl rfl (by decide) rfl (fun ls hl => ?_)
              refine lv_goto (tgt := 32) hx hb dX0_advance_92 (by decide) ?_
              exact ih _ _ _ _ hq _ _ hP hD hS _ (lv_sub hl [3, 1, 0] rfl)
            · replace hq := hq.2 c10
              refine lv_aload_n hx hb dX0_advance_66 rfl (lv_at hl 1 rfl) ?_
              refine va_get (D := (dC, dI)) (ci := 0) (v := .ref h_album_at) (C := RX0) (T := TX0) (N := 7) hx hb hts hinX0 hown hK hP 0 rfl rfl 5 (by decide) hf22 (fun _ h9 => h9) rfl dX0_advance_67 ?_
              refine lv_iload_n hx hb dX0_advance_70 rfl (lv_at hl 2 rfl) ?_
              refine lv_iconst (v := (-1 : Int32)) hx hb dX0_advance_71 (by decide) ?_
              obtain ⟨hv12, hq⟩ := hq
              refine va_iast hx hb hK hP hD hS 2 0 rfl rfl hv12 dX0_advance_72 (fun H locs hP hD hS => ?_)
              have hP : va_P (dC, dI) vwCl (W_X0_advance cI cJ cZ h_album h_album_ways h_album_at h_rows h_rows_framed h_rule h_rule_lower h_page h_page_cells h_album_wishes h_album_front h_rows_power f_album_ways (upd f_album_at (l2).toNatClampNeg (-1 : Int32)) rows_c rows_w rows_size rows_ring f_rows_framed f_rule_lower page_h page_w f_page_cells) H := hP
              have hD : va_D A (W_X0_advance cI cJ cZ h_album h_album_ways h_album_at h_rows h_rows_framed h_rule h_rule_lower h_page h_page_cells h_album_wishes h_album_front h_rows_power f_album_ways (upd f_album_at (l2).toNatClampNeg (-1 : Int32)) rows_c rows_w rows_size rows_ring f_rows_framed f_rule_lower page_h page_w f_page_cells) := hD
              refine lv_iinc (v := (l2 + (-1 : Int32))) (lv' := [(2, .int (l2 + (-1 : Int32))), (4, .int r9), (0, .ref h_album), (3, .int l3)]) hx hb dX0_advance_73 hl (k := 2) rfl rfl (by decide) rfl (fun ls hl => ?_)
              refine lv_goto (tgt := 89) hx hb dX0_advance_76 (by decide) ?_
              refine lv_iinc (v := (l3 + (1 : Int32))) (lv' := [(3, .int (l3 + (1 : Int32))), (2, .int (l2 + (-1 : Int32))), (4, .int r9), (0, .ref h_album)]) hx hb dX0_advance_89 hl (k := 3) rfl rfl (by decide) rfl (fun ls hl => ?_)
              refine lv_goto (tgt := 32) hx hb dX0_advance_92 (by decide) ?_
              exact ih _ _ _ _ hq _ _ hP hD hS _ (lv_sub hl [3, 1, 0] rfl)
  have C32 : ∀ (l2 : Int32) (l3 : Int32) (f_album_at : Nat → Int32) (f_page_cells : Nat → Int32), q_X0_advance_32 f_album_ways rows_w rows_size rows_ring f_rows_framed f_rule_lower page_h post l2 l3 f_album_at f_page_cells → ∀ (H : Heap) (locs : List Loc), va_P (dC, dI) vwCl (W_X0_advance cI cJ cZ h_album h_album_ways h_album_at h_rows h_rows_framed h_rule h_rule_lower h_page h_page_cells h_album_wishes h_album_front h_rows_power f_album_ways f_album_at rows_c rows_w rows_size rows_ring f_rows_framed f_rule_lower page_h page_w f_page_cells) H → va_D A (W_X0_advance cI cJ cZ h_album h_album_ways h_album_at h_rows h_rows_framed h_rule h_rule_lower h_page h_page_cells h_album_wishes h_album_front h_rows_power f_album_ways f_album_at rows_c rows_w rows_size rows_ring f_rows_framed f_rule_lower page_h page_w f_page_cells) → va_S A s.heap H locs → ∀ ls : Array Slot, lv_has ls 5 [(0, .ref h_album), (2, .int l2), (3, .int l3)] → W p l e rm_X0_advance s m args below meth c H locs 0 0 QQ (F0 m 32 ls []) := by
    intro l2 l3 f_album_at f_page_cells hq H locs hP hD hS ls hl
    obtain ⟨n, hq⟩ := hq
    exact L32 n _ _ _ _ hq H locs hP hD hS ls hl
  have C28 : ∀ (l1 : Int32) (f_album_at : Nat → Int32) (f_page_cells : Nat → Int32), q_X0_advance_28 f_album_ways rows_w rows_size rows_ring f_rows_framed f_rule_lower page_h post l1 f_album_at f_page_cells → ∀ (H : Heap) (locs : List Loc), va_P (dC, dI) vwCl (W_X0_advance cI cJ cZ h_album h_album_ways h_album_at h_rows h_rows_framed h_rule h_rule_lower h_page h_page_cells h_album_wishes h_album_front h_rows_power f_album_ways f_album_at rows_c rows_w rows_size rows_ring f_rows_framed f_rule_lower page_h page_w f_page_cells) H → va_D A (W_X0_advance cI cJ cZ h_album h_album_ways h_album_at h_rows h_rows_framed h_rule h_rule_lower h_page h_page_cells h_album_wishes h_album_front h_rows_power f_album_ways f_album_at rows_c rows_w rows_size rows_ring f_rows_framed f_rule_lower page_h page_w f_page_cells) → va_S A s.heap H locs → ∀ ls : Array Slot, lv_has ls 5 [(0, .ref h_album), (1, .int l1)] → W p l e rm_X0_advance s m args below meth c H locs 0 0 QQ (F0 m 28 ls []) := by
    intro l1 f_album_at f_page_cells hq H locs hP hD hS ls hl
    unfold q_X0_advance_28 at hq
    refine lv_iload_n hx hb dX0_advance_28 rfl (lv_at hl 1 rfl) ?_
    refine lv_istore_n (lv' := [(2, .int l1), (0, .ref h_album), (1, .int l1)]) hx hb dX0_advance_29 rfl hl (by decide) rfl (fun ls hl => ?_)
    refine lv_iconst (v := (0 : Int32)) hx hb dX0_advance_30 (by decide) ?_
    refine lv_istore_n (lv' := [(3, .int (0 : Int32)), (2, .int l1), (0, .ref h_album), (1, .int l1)]) hx hb dX0_advance_31 rfl hl (by decide) rfl (fun ls hl => ?_)
    exact C32 _ _ _ _ hq _ _ hP hD hS _ (lv_sub hl [2, 1, 0] rfl)
  have C4 : ∀ (l1 : Int32) (l2 : Int32) (f_album_at : Nat → Int32) (f_page_cells : Nat → Int32), q_X0_advance_4 f_album_ways rows_w rows_size rows_ring f_rows_framed f_rule_lower page_h post l1 l2 f_album_at f_page_cells → ∀ (H : Heap) (locs : List Loc), va_P (dC, dI) vwCl (W_X0_advance cI cJ cZ h_album h_album_ways h_album_at h_rows h_rows_framed h_rule h_rule_lower h_page h_page_cells h_album_wishes h_album_front h_rows_power f_album_ways f_album_at rows_c rows_w rows_size rows_ring f_rows_framed f_rule_lower page_h page_w f_page_cells) H → va_D A (W_X0_advance cI cJ cZ h_album h_album_ways h_album_at h_rows h_rows_framed h_rule h_rule_lower h_page h_page_cells h_album_wishes h_album_front h_rows_power f_album_ways f_album_at rows_c rows_w rows_size rows_ring f_rows_framed f_rule_lower page_h page_w f_page_cells) → va_S A s.heap H locs → ∀ ls : Array Slot, lv_has ls 5 [(0, .ref h_album), (1, .int l1), (2, .int l2)] → W p l e rm_X0_advance s m args below meth c H locs 0 0 QQ (F0 m 4 ls []) := by
    intro l1 l2 f_album_at f_page_cells hq H locs hP hD hS ls hl
    obtain ⟨n, hq⟩ := hq
    exact L4 _ C28 _ _ n _ _ hq H locs hP hD hS ls hl
  unfold q_X0_advance at hq
  refine lv_iload_n hx hb dX0_advance_0 rfl (lv_at hl 1 rfl) ?_
  refine lv_iconst (v := (1 : Int32)) hx hb dX0_advance_1 (by decide) ?_
  refine lv_iadd hx hb dX0_advance_2 ?_
  refine lv_istore_n (lv' := [(2, .int (l1 + (1 : Int32))), (0, .ref h_album), (1, .int l1)]) hx hb dX0_advance_3 rfl hl (by decide) rfl (fun ls hl => ?_)
  exact C4 _ _ _ _ hq _ _ hP hD hS _ (lv_sub hl [1, 2, 0] rfl)

abbrev W_X0_begin (cI cJ cZ : ClassId) (h_album h_album_ways h_album_at h_rows h_rows_framed h_rule h_rule_lower h_page h_page_cells h_album_wishes h_album_front h_rows_power : Nat) (f_album_ways : Nat → Int64) (f_album_at : Nat → Int32) (rows_c : Int32) (rows_w : Int32) (rows_size : Int32) (rows_ring : Int32) (f_rows_framed : Nat → Int32) (f_rule_lower : Nat → Int32) (page_h : Int32) (page_w : Int32) (f_page_cells : Nat → Int32) : va_W := [(h_album, .inr (0, [.ref h_rows, .ref h_rule, .ref h_album_wishes, .ref h_album_ways, .ref h_album_front, .ref h_album_at, .ref h_page])), (h_album_ways, .inl (cJ, 1215, .inr (.inl f_album_ways))), (h_album_at, .inl (cI, 5, .inl f_album_at)), (h_rows, .inr (2, [.int rows_c, .int rows_w, .int rows_size, .int rows_ring, .ref h_rows_framed, .ref h_rows_power])), (h_rows_framed, .inl (cI, 243, .inl f_rows_framed)), (h_rule, .inr (3, [.ref h_rule_lower])), (h_rule_lower, .inl (cI, 16, .inl f_rule_lower)), (h_page, .inr (4, [.int page_h, .int page_w, .ref h_page_cells])), (h_page_cells, .inl (cI, 25, .inl f_page_cells))]
abbrev rm_X0_begin : Room := { frames := 4, cells := 0, slots := 0, locals := 96 }
def q_X0_begin (f_album_ways : Nat → Int64) (rows_w : Int32) (rows_size : Int32) (rows_ring : Int32) (f_rows_framed : Nat → Int32) (f_rule_lower : Nat → Int32) (page_h : Int32) (f_album_at : Nat → Int32) (f_page_cells : Nat → Int32) (post : Int32 → (Nat → Int32) → (Nat → Int32) → Prop) : Prop := (q_X0_advance f_album_ways rows_w rows_size rows_ring f_rows_framed f_rule_lower page_h (upd f_album_at ((0 : Int32)).toNatClampNeg (-1 : Int32)) f_page_cells (0 : Int32) (fun (r1 : Int32) (f_album_at_1 : Nat → Int32) (f_page_cells_1 : Nat → Int32) => ((r1 = 0 ∨ r1 = 1) ∧ (post r1 f_album_at_1 f_page_cells_1))))
theorem hdV_X0_begin : yX0_begin.cls = RX0 ∧ yX0_begin.cls ≠ "java/lang/invoke/MethodHandle" ∧ yX0_begin.cls ≠ "java/lang/invoke/VarHandle" ∧ (parseMethodDescriptor yX0_begin.desc).map (fun d => d.parameters.length) = some 0 := by decide +kernel
set_option maxHeartbeats 4000000 in
set_option maxRecDepth 100000 in
theorem c_X0_begin (l : Launch) (dC : Nat → ClassId) (dI : Nat → Nat → Nat) (cI cJ cZ : ClassId) (h_album h_album_ways h_album_at h_rows h_rows_framed h_rule h_rule_lower h_page h_page_cells h_album_wishes h_album_front h_rows_power : Nat) (sz : Nat) (f_album_ways : Nat → Int64) (f_album_at : Nat → Int32) (rows_c : Int32) (rows_w : Int32) (rows_size : Int32) (rows_ring : Int32) (f_rows_framed : Nat → Int32) (f_rule_lower : Nat → Int32) (page_h : Int32) (page_w : Int32) (f_page_cells : Nat → Int32)  {post : Int32 → (Nat → Int32) → (Nat → Int32) → Prop} (hq : q_X0_begin f_album_ways rows_w rows_size rows_ring f_rows_framed f_rule_lower page_h f_album_at f_page_cells post) : Met l yX0_begin wsX0_begin rm_X0_begin (va_Pc [.ref h_album] (gx_Pre (dC, dI) vwCl (gx_tys cI cJ cZ) sz (W_X0_begin cI cJ cZ h_album h_album_ways h_album_at h_rows h_rows_framed h_rule h_rule_lower h_page h_page_cells h_album_wishes h_album_front h_rows_power f_album_ways f_album_at rows_c rows_w rows_size rows_ring f_rows_framed f_rule_lower page_h page_w f_page_cells))) (va_Qi (fun (r : Int32) (u : (Nat → Int32) × (Nat → Int32)) => post r u.1 u.2) (gx_B (dC, dI) vwCl (gx_tys cI cJ cZ) (va_A (W_X0_begin cI cJ cZ h_album h_album_ways h_album_at h_rows h_rows_framed h_rule h_rule_lower h_page h_page_cells h_album_wishes h_album_front h_rows_power f_album_ways f_album_at rows_c rows_w rows_size rows_ring f_rows_framed f_rule_lower page_h page_w f_page_cells) sz) (fun (u : (Nat → Int32) × (Nat → Int32)) => (W_X0_begin cI cJ cZ h_album h_album_ways h_album_at h_rows h_rows_framed h_rule h_rule_lower h_page h_page_cells h_album_wishes h_album_front h_rows_power f_album_ways u.1 rows_c rows_w rows_size rows_ring f_rows_framed f_rule_lower page_h page_w u.2))) (va_A (W_X0_begin cI cJ cZ h_album h_album_ways h_album_at h_rows h_rows_framed h_rule h_rule_lower h_page h_page_cells h_album_wishes h_album_front h_rows_power f_album_ways f_album_at rows_c rows_w rows_size rows_ring f_rows_framed f_rule_lower page_h page_w f_page_cells) sz)) 0 0 (va_A (W_X0_begin cI cJ cZ h_album h_album_ways h_album_at h_rows h_rows_framed h_rule h_rule_lower h_page h_page_cells h_album_wishes h_album_front h_rows_power f_album_ways f_album_at rows_c rows_w rows_size rows_ring f_rows_framed f_rule_lower page_h page_w f_page_cells) sz) := by
  refine gx_z (cc := cX0_begin) (maxL := 1) (by decide) rfl (Nat.le_of_ble_eq_true rfl) ?_
  intro p e s m args below meth c A QQ hx hb hml hown hts hA hP hK hD hret ls hl
  have hown : s.vm.findClass RX0 = some m.cls := hown
  have hf22 := hts (.fieldLink RX0 22 "SmallWindows$Album" "at" "[I") (by decide +kernel)
  have hinX0 : ∀ w ∈ u_ws RX0 TX0 7, w ∈ wsX0_begin := fun w h => List.mem_cons_of_mem _ ((List.mem_append_left _ (List.mem_append_left _ (List.mem_append_left _ (List.mem_append_right _ h)))))
  have hS : va_S A s.heap s.heap [] := va_S.rf
  have hl : lv_has ls 1 [(0, .ref h_album)] := hl
  unfold q_X0_begin at hq
  refine lv_aload_n hx hb dX0_begin_0 rfl (lv_at hl 0 rfl) ?_
  refine va_get (D := (dC, dI)) (ci := 0) (v := .ref h_album_at) (C := RX0) (T := TX0) (N := 7) hx hb hts hinX0 hown hK hP 0 rfl rfl 5 (by decide) hf22 (fun _ h9 => h9) rfl dX0_begin_1 ?_
  refine lv_iconst (v := (0 : Int32)) hx hb dX0_begin_4 (by decide) ?_
  refine lv_iconst (v := (-1 : Int32)) hx hb dX0_begin_5 (by decide) ?_
  refine va_iast hx hb hK hP hD hS 2 0 rfl rfl (by unfold vp_in; decide) dX0_begin_6 (fun H locs hP hD hS => ?_)
  have hP : va_P (dC, dI) vwCl (W_X0_begin cI cJ cZ h_album h_album_ways h_album_at h_rows h_rows_framed h_rule h_rule_lower h_page h_page_cells h_album_wishes h_album_front h_rows_power f_album_ways (upd f_album_at ((0 : Int32)).toNatClampNeg (-1 : Int32)) rows_c rows_w rows_size rows_ring f_rows_framed f_rule_lower page_h page_w f_page_cells) H := hP
  have hD : va_D A (W_X0_begin cI cJ cZ h_album h_album_ways h_album_at h_rows h_rows_framed h_rule h_rule_lower h_page h_page_cells h_album_wishes h_album_front h_rows_power f_album_ways (upd f_album_at ((0 : Int32)).toNatClampNeg (-1 : Int32)) rows_c rows_w rows_size rows_ring f_rows_framed f_rule_lower page_h page_w f_page_cells) := hD
  refine lv_aload_n hx hb dX0_begin_7 rfl (lv_at hl 0 rfl) ?_
  refine lv_iconst (v := (0 : Int32)) hx hb dX0_begin_8 (by decide) ?_
  refine gx_cVi (C := RX0) (As := [.int (0 : Int32)]) (rest := []) ⟨hx, hb, hml, hown, hts⟩ (c_X0_advance l dC dI cI cJ cZ h_album h_album_ways h_album_at h_rows h_rows_framed h_rule h_rule_lower h_page h_page_cells h_album_wishes h_album_front h_rows_power H.size f_album_ways (upd f_album_at ((0 : Int32)).toNatClampNeg (-1 : Int32)) rows_c rows_w rows_size rows_ring f_rows_framed f_rule_lower page_h page_w f_page_cells (0 : Int32) hq) (cwV 1 hts gX0_begin_X0_advance rfl rfl rfl hdV_X0_advance ⟨Nat.le_of_ble_eq_true rfl, Nat.le_of_ble_eq_true rfl⟩) hK hP hD hS hA [0, 1, 2, 3, 4, 5, 6, 7, 8] [] rfl rfl rfl rfl rfl (ci := 0) (q0 := 0) rfl rfl rfl rfl hl.1 (Nat.le_of_ble_eq_true rfl) dX0_begin_9 rfl (fun r1 u H locs hq hP hD hS => ?_)
  obtain ⟨f_album_at_1, f_page_cells_1⟩ := u
  try dsimp only at hq
  have hP : va_P (dC, dI) vwCl (W_X0_begin cI cJ cZ h_album h_album_ways h_album_at h_rows h_rows_framed h_rule h_rule_lower h_page h_page_cells h_album_wishes h_album_front h_rows_power f_album_ways f_album_at_1 rows_c rows_w rows_size rows_ring f_rows_framed f_rule_lower page_h page_w f_page_cells_1) H := hP
  have hD : va_D A (W_X0_begin cI cJ cZ h_album h_album_ways h_album_at h_rows h_rows_framed h_rule h_rule_lower h_page h_page_cells h_album_wishes h_album_front h_rows_power f_album_ways f_album_at_1 rows_c rows_w rows_size rows_ring f_rows_framed f_rule_lower page_h page_w f_page_cells_1) := hD
  obtain ⟨hb2, hq⟩ := hq
  exact hret r1 (f_album_at_1, f_page_cells_1) hb2 hq _ _ hP hD hS _ _ dX0_begin_12

abbrev W_X0_alikeDownTo (cI cJ cZ : ClassId) (h_album h_album_ways h_album_at h_rows h_rule h_album_wishes h_album_front h_page : Nat) (f_album_ways : Nat → Int64) (f_album_at : Nat → Int32) : va_W := [(h_album, .inr (0, [.ref h_rows, .ref h_rule, .ref h_album_wishes, .ref h_album_ways, .ref h_album_front, .ref h_album_at, .ref h_page])), (h_album_ways, .inl (cJ, 1215, .inr (.inl f_album_ways))), (h_album_at, .inl (cI, 5, .inl f_album_at))]
abbrev rm_X0_alikeDownTo : Room := { frames := 0, cells := 0, slots := 0, locals := 0 }
def q_X0_alikeDownTo (f_album_ways : Nat → Int64) (f_album_at : Nat → Int32) (l1 : Int32) (post : Int64 → Prop) : Prop := (vp_in l1 5 ∧ ((¬ (f_album_at (l1).toNatClampNeg) = (-1 : Int32) → (vp_in l1 5 ∧ (vp_in ((l1 * (243 : Int32)) + (f_album_at (l1).toNatClampNeg)) 1215 ∧ (post (f_album_ways (((l1 * (243 : Int32)) + (f_album_at (l1).toNatClampNeg))).toNatClampNeg))))) ∧ ((f_album_at (l1).toNatClampNeg) = (-1 : Int32) → (post (0 : Int64)))))
theorem hdV_X0_alikeDownTo : yX0_alikeDownTo.cls = RX0 ∧ yX0_alikeDownTo.cls ≠ "java/lang/invoke/MethodHandle" ∧ yX0_alikeDownTo.cls ≠ "java/lang/invoke/VarHandle" ∧ (parseMethodDescriptor yX0_alikeDownTo.desc).map (fun d => d.parameters.length) = some 1 := by decide +kernel
set_option maxHeartbeats 4000000 in
set_option maxRecDepth 100000 in
theorem c_X0_alikeDownTo (l : Launch) (dC : Nat → ClassId) (dI : Nat → Nat → Nat) (cI cJ cZ : ClassId) (h_album h_album_ways h_album_at h_rows h_rule h_album_wishes h_album_front h_page : Nat) (sz : Nat) (f_album_ways : Nat → Int64) (f_album_at : Nat → Int32) (l1 : Int32) {post : Int64 → Prop} (hq : q_X0_alikeDownTo f_album_ways f_album_at l1 post) : Met l yX0_alikeDownTo wsX0_alikeDownTo rm_X0_alikeDownTo (va_Pc [.ref h_album, .int l1] (gx_Pre (dC, dI) vwCl (gx_tys cI cJ cZ) sz (W_X0_alikeDownTo cI cJ cZ h_album h_album_ways h_album_at h_rows h_rule h_album_wishes h_album_front h_page f_album_ways f_album_at))) (va_Ql (fun (r : Int64) (u : Unit) => post r) (gx_B (dC, dI) vwCl (gx_tys cI cJ cZ) (va_A (W_X0_alikeDownTo cI cJ cZ h_album h_album_ways h_album_at h_rows h_rule h_album_wishes h_album_front h_page f_album_ways f_album_at) sz) (fun (u : Unit) => (W_X0_alikeDownTo cI cJ cZ h_album h_album_ways h_album_at h_rows h_rule h_album_wishes h_album_front h_page f_album_ways f_album_at))) (va_A (W_X0_alikeDownTo cI cJ cZ h_album h_album_ways h_album_at h_rows h_rule h_album_wishes h_album_front h_page f_album_ways f_album_at) sz)) 0 0 (va_A (W_X0_alikeDownTo cI cJ cZ h_album h_album_ways h_album_at h_rows h_rule h_album_wishes h_album_front h_page f_album_ways f_album_at) sz) := by
  refine gx_l (cc := cX0_alikeDownTo) (maxL := 2) (by decide) rfl (Nat.le_of_ble_eq_true rfl) ?_
  intro p e s m args below meth c A QQ hx hb hml hown hts hA hP hK hD hret ls hl
  have hown : s.vm.findClass RX0 = some m.cls := hown
  have hf22 := hts (.fieldLink RX0 22 "SmallWindows$Album" "at" "[I") (by decide +kernel)
  have hf15 := hts (.fieldLink RX0 15 "SmallWindows$Album" "ways" "[J") (by decide +kernel)
  have hinX0 : ∀ w ∈ u_ws RX0 TX0 7, w ∈ wsX0_alikeDownTo := fun w h => List.mem_cons_of_mem _ ((List.mem_append_right _ h))
  have hS : va_S A s.heap s.heap [] := va_S.rf
  have hl : lv_has ls 2 [(0, .ref h_album), (1, .int l1)] := hl
  unfold q_X0_alikeDownTo at hq
  refine lv_aload_n hx hb dX0_alikeDownTo_0 rfl (lv_at hl 0 rfl) ?_
  refine va_get (D := (dC, dI)) (ci := 0) (v := .ref h_album_at) (C := RX0) (T := TX0) (N := 7) hx hb hts hinX0 hown hK hP 0 rfl rfl 5 (by decide) hf22 (fun _ h9 => h9) rfl dX0_alikeDownTo_1 ?_
  refine lv_iload_n hx hb dX0_alikeDownTo_4 rfl (lv_at hl 1 rfl) ?_
  obtain ⟨hv1, hq⟩ := hq
  refine va_iald hx hb hK hP 2 0 rfl rfl hv1 dX0_alikeDownTo_5 ?_
  refine lv_iconst (v := (-1 : Int32)) hx hb dX0_alikeDownTo_6 (by decide) ?_
  refine lv_icmp_ne (tgt := 14) hx hb dX0_alikeDownTo_7 (by decide) (fun c2 => ?_) (fun c2 => ?_)
  · replace hq := hq.1 c2
    refine lv_aload_n hx hb dX0_alikeDownTo_14 rfl (lv_at hl 0 rfl) ?_
    refine va_get (D := (dC, dI)) (ci := 0) (v := .ref h_album_ways) (C := RX0) (T := TX0) (N := 7) hx hb hts hinX0 hown hK hP 0 rfl rfl 3 (by decide) hf15 (fun _ h9 => h9) rfl dX0_alikeDownTo_15 ?_
    refine lv_iload_n hx hb dX0_alikeDownTo_18 rfl (lv_at hl 1 rfl) ?_
    refine lv_sipush (v := (243 : Int32)) hx hb dX0_alikeDownTo_19 (by decide) ?_
    refine lv_imul hx hb dX0_alikeDownTo_22 ?_
    refine lv_aload_n hx hb dX0_alikeDownTo_23 rfl (lv_at hl 0 rfl) ?_
    refine va_get (D := (dC, dI)) (ci := 0) (v := .ref h_album_at) (C := RX0) (T := TX0) (N := 7) hx hb hts hinX0 hown hK hP 0 rfl rfl 5 (by decide) hf22 (fun _ h9 => h9) rfl dX0_alikeDownTo_24 ?_
    refine lv_iload_n hx hb dX0_alikeDownTo_27 rfl (lv_at hl 1 rfl) ?_
    obtain ⟨hv3, hq⟩ := hq
    refine va_iald hx hb hK hP 2 0 rfl rfl hv3 dX0_alikeDownTo_28 ?_
    refine lv_iadd hx hb dX0_alikeDownTo_29 ?_
    obtain ⟨hv4, hq⟩ := hq
    refine va_lald hx hb hK hP 1 1 rfl rfl hv4 dX0_alikeDownTo_30 ?_
    exact hret (f_album_ways (((l1 * (243 : Int32)) + (f_album_at (l1).toNatClampNeg))).toNatClampNeg) () hq _ _ hP hD hS _ _ dX0_alikeDownTo_31
  · replace hq := hq.2 c2
    refine lv_lconst (v := (0 : Int64)) hx hb dX0_alikeDownTo_10 (by decide) ?_
    refine lv_goto (tgt := 31) hx hb dX0_alikeDownTo_11 (by decide) ?_
    exact hret (0 : Int64) () hq _ _ hP hD hS _ _ dX0_alikeDownTo_31
