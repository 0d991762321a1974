theorem dfX0 : ∀ j, j < 0 → defaultValue (tyX0 j) = vp_V [] j := fun j hj => absurd hj (Nat.not_lt_zero j)
theorem dfX1 : ∀ j, j < 0 → defaultValue (tyX1 j) = vp_V [] j := fun j hj => absurd hj (Nat.not_lt_zero j)
theorem dfX2 : ∀ j, j < 0 → defaultValue (tyX2 j) = vp_V [] j := fun j hj => absurd hj (Nat.not_lt_zero j)
theorem dfX3 : ∀ j, j < 6 → defaultValue (tyX3 j) = vp_V [.null, .null, .int 0, .int 0, .int 0, .int 0] j := fun j hj => by rcases (show j = 0 ∨ j = 1 ∨ j = 2 ∨ j = 3 ∨ j = 4 ∨ j = 5 by omega) with rfl | rfl | rfl | rfl | rfl | rfl <;> rfl
theorem dfX4 : ∀ j, j < 0 → defaultValue (tyX4 j) = vp_V [] j := fun j hj => absurd hj (Nat.not_lt_zero j)
theorem dfX5 : ∀ j, j < 3 → defaultValue (tyX5 j) = vp_V [.null, .int 0, .int 0] j := fun j hj => by rcases (show j = 0 ∨ j = 1 ∨ j = 2 by omega) with rfl | rfl | rfl <;> rfl
theorem dfX6 : ∀ j, j < 0 → defaultValue (tyX6 j) = vp_V [] j := fun j hj => absurd hj (Nat.not_lt_zero j)
theorem dfX7 : ∀ j, j < 6 → defaultValue (tyX7 j) = vp_V [.null, .int 0, .int 0, .int 0, .int 0, .int 0] j := fun j hj => by rcases (show j = 0 ∨ j = 1 ∨ j = 2 ∨ j = 3 ∨ j = 4 ∨ j = 5 by omega) with rfl | rfl | rfl | rfl | rfl | rfl <;> rfl
theorem dfX8 : ∀ j, j < 6 → defaultValue (tyX8 j) = vp_V [.int 0, .int 0, .int 0, .int 0, .int 0, .int 0] j := fun j hj => by rcases (show j = 0 ∨ j = 1 ∨ j = 2 ∨ j = 3 ∨ j = 4 ∨ j = 5 by omega) with rfl | rfl | rfl | rfl | rfl | rfl <;> rfl
theorem dfX9 : ∀ j, j < 0 → defaultValue (tyX9 j) = vp_V [] j := fun j hj => absurd hj (Nat.not_lt_zero j)
theorem dfX10 : ∀ j, j < 8 → defaultValue (tyX10 j) = vp_V [.null, .null, .null, .int 0, .null, .null, .null, .null] j := fun j hj => by rcases (show j = 0 ∨ j = 1 ∨ j = 2 ∨ j = 3 ∨ j = 4 ∨ j = 5 ∨ j = 6 ∨ j = 7 by omega) with rfl | rfl | rfl | rfl | rfl | rfl | rfl | rfl <;> rfl
theorem dfX11 : ∀ j, j < 16 → defaultValue (tyX11 j) = vp_V [.null, .null, .null, .null, .int 0, .null, .null, .int 0, .null, .null, .null, .int 0, .int 0, .int 0, .int 0, .int 0] j := fun j hj => by rcases (show j = 0 ∨ j = 1 ∨ j = 2 ∨ j = 3 ∨ j = 4 ∨ j = 5 ∨ j = 6 ∨ j = 7 ∨ j = 8 ∨ j = 9 ∨ j = 10 ∨ j = 11 ∨ j = 12 ∨ j = 13 ∨ j = 14 ∨ j = 15 by omega) with rfl | rfl | rfl | rfl | rfl | rfl | rfl | rfl | rfl | rfl | rfl | rfl | rfl | rfl | rfl | rfl <;> rfl
theorem isc_X0 : i_Sc yX0_init cX0_init 1 0 := ⟨q68, q105, by decide +kernel, rfl, q104⟩
theorem isc_X1 : i_Sc yX1_init cX1_init 1 0 := ⟨q69, q112, by decide +kernel, rfl, q111⟩
theorem isc_X2 : i_Sc yX2_init cX2_init 1 0 := ⟨q71, q126, by decide +kernel, rfl, q125⟩
theorem isc_X3 : i_Sc yX3_init cX3_init 3 1 := ⟨q73, q140, by decide +kernel, rfl, q139⟩
theorem isc_X4 : i_Sc yX4_init cX4_init 1 0 := ⟨q67, q98, by decide +kernel, rfl, q97⟩
theorem isc_X5 : i_Sc yX5_init cX5_init 1 0 := ⟨q76, q241, by decide +kernel, rfl, q240⟩
theorem isc_X6 : i_Sc yX6_init cX6_init 1 0 := ⟨q72, q133, by decide +kernel, rfl, q132⟩
theorem isc_X7 : i_Sc yX7_init cX7_init 1 0 := ⟨q75, q213, by decide +kernel, rfl, q212⟩
theorem isc_X8 : i_Sc yX8_init cX8_init 1 0 := ⟨q74, q147, by decide +kernel, rfl, q146⟩
theorem isc_X9 : i_Sc yX9_init cX9_init 1 0 := ⟨q70, q119, by decide +kernel, rfl, q118⟩
theorem isc_X10 : i_Sc yX10_init cX10_init 3 0 := ⟨q66, q89, by decide +kernel, rfl, q88⟩
theorem isc_X11 : i_Sc yX11_init cX11_init 1 0 := ⟨q77, q853, by decide +kernel, rfl, q852⟩
set_option maxRecDepth 100000 in
theorem c_X4_init (l : Launch) (D : va_G) (C : Nat → ClassId) (sz k0 n : Nat) (f : Nat → va_E) : i_Fn l D C sz yX4_init cX4_init 1 1 20 0 0 [.ref (sz + k0)] n f n f := by
  refine i_Fn.of (by decide) rfl (Nat.le_of_ble_eq_true rfl) ?_
  intro p e s m below meth c ls B hr hlk hnm hW hl
  have B : i_B D C p s m _ c cX4_init 1 RX4 := B
  have hl : lv_has ls 1 [(0, .ref (sz + k0))] := hl
  have hx := B.1
  have hb := B.2.1
  have hml := B.2.2.1
  have ho := B.2.2.2.1
  have hw := B.2.2.2.2.1
  refine lv_aload_n hx hb dX4_init_0 rfl (lv_at hl 0 rfl) ?_
  refine W.objInit hx hb ho (hw _ q99) (hw _ q91) (hw _ qobj_code) rfl (by rw [hml]; exact hl.1) rfl dX4_init_1 (Nat.le_of_ble_eq_true rfl) (Nat.le_of_ble_eq_true rfl) ?_
  refine W.eq (g2 := F0 m 4 ls []) rfl ?_
  exact i_rv B hr hlk hW dX4_init_4
set_option maxRecDepth 100000 in
theorem c_X8_init (l : Launch) (D : va_G) (C : Nat → ClassId) (sz k0 n : Nat) (f : Nat → va_E) : i_Fn l D C sz yX8_init cX8_init 1 1 20 0 0 [.ref (sz + k0)] n f n f := by
  refine i_Fn.of (by decide) rfl (Nat.le_of_ble_eq_true rfl) ?_
  intro p e s m below meth c ls B hr hlk hnm hW hl
  have B : i_B D C p s m _ c cX8_init 1 RX8 := B
  have hl : lv_has ls 1 [(0, .ref (sz + k0))] := hl
  have hx := B.1
  have hb := B.2.1
  have hml := B.2.2.1
  have ho := B.2.2.2.1
  have hw := B.2.2.2.2.1
  refine lv_aload_n hx hb dX8_init_0 rfl (lv_at hl 0 rfl) ?_
  refine W.objInit hx hb ho (hw _ q148) (hw _ q91) (hw _ qobj_code) rfl (by rw [hml]; exact hl.1) rfl dX8_init_1 (Nat.le_of_ble_eq_true rfl) (Nat.le_of_ble_eq_true rfl) ?_
  refine W.eq (g2 := F0 m 4 ls []) rfl ?_
  exact i_rv B hr hlk hW dX8_init_4
set_option maxRecDepth 100000 in
theorem c_X0_init (l : Launch) (D : va_G) (C : Nat → ClassId) (sz k0 n : Nat) (f : Nat → va_E) : i_Fn l D C sz yX0_init cX0_init 1 2 40 0 0 [.ref (sz + k0)] n f n f := by
  refine i_Fn.of (by decide) rfl (Nat.le_of_ble_eq_true rfl) ?_
  intro p e s m below meth c ls B hr hlk hnm hW hl
  have B : i_B D C p s m _ c cX0_init 1 RX0 := B
  have hl : lv_has ls 1 [(0, .ref (sz + k0))] := hl
  have hx := B.1
  have hb := B.2.1
  have hml := B.2.2.1
  have ho := B.2.2.2.1
  have hw := B.2.2.2.2.1
  refine lv_aload_n hx hb dX0_init_0 rfl (lv_at hl 0 rfl) ?_
  refine i_cN (As := []) (rest := []) B hW (c_X4_init l D C sz k0 n f) isc_X4 q106 ⟨(Nat.le_of_ble_eq_true rfl), (Nat.le_of_ble_eq_true rfl)⟩ ⟨(Nat.le_of_ble_eq_true rfl), (Nat.le_of_ble_eq_true rfl)⟩ rfl hl.1 rfl (Nat.le_of_ble_eq_true rfl) dX0_init_1 (fun H locs hW => ?_)
  exact i_rv B hr hlk hW dX0_init_4
set_option maxRecDepth 100000 in
theorem c_X1_init (l : Launch) (D : va_G) (C : Nat → ClassId) (sz k0 n : Nat) (f : Nat → va_E) : i_Fn l D C sz yX1_init cX1_init 1 2 40 0 0 [.ref (sz + k0)] n f n f := by
  refine i_Fn.of (by decide) rfl (Nat.le_of_ble_eq_true rfl) ?_
  intro p e s m below meth c ls B hr hlk hnm hW hl
  have B : i_B D C p s m _ c cX1_init 1 RX1 := B
  have hl : lv_has ls 1 [(0, .ref (sz + k0))] := hl
  have hx := B.1
  have hb := B.2.1
  have hml := B.2.2.1
  have ho := B.2.2.2.1
  have hw := B.2.2.2.2.1
  refine lv_aload_n hx hb dX1_init_0 rfl (lv_at hl 0 rfl) ?_
  refine i_cN (As := []) (rest := []) B hW (c_X4_init l D C sz k0 n f) isc_X4 q113 ⟨(Nat.le_of_ble_eq_true rfl), (Nat.le_of_ble_eq_true rfl)⟩ ⟨(Nat.le_of_ble_eq_true rfl), (Nat.le_of_ble_eq_true rfl)⟩ rfl hl.1 rfl (Nat.le_of_ble_eq_true rfl) dX1_init_1 (fun H locs hW => ?_)
  exact i_rv B hr hlk hW dX1_init_4
set_option maxRecDepth 100000 in
theorem c_X9_init (l : Launch) (D : va_G) (C : Nat → ClassId) (sz k0 n : Nat) (f : Nat → va_E) : i_Fn l D C sz yX9_init cX9_init 1 2 40 0 0 [.ref (sz + k0)] n f n f := by
  refine i_Fn.of (by decide) rfl (Nat.le_of_ble_eq_true rfl) ?_
  intro p e s m below meth c ls B hr hlk hnm hW hl
  have B : i_B D C p s m _ c cX9_init 1 RX9 := B
  have hl : lv_has ls 1 [(0, .ref (sz + k0))] := hl
  have hx := B.1
  have hb := B.2.1
  have hml := B.2.2.1
  have ho := B.2.2.2.1
  have hw := B.2.2.2.2.1
  refine lv_aload_n hx hb dX9_init_0 rfl (lv_at hl 0 rfl) ?_
  refine i_cN (As := []) (rest := []) B hW (c_X4_init l D C sz k0 n f) isc_X4 q120 ⟨(Nat.le_of_ble_eq_true rfl), (Nat.le_of_ble_eq_true rfl)⟩ ⟨(Nat.le_of_ble_eq_true rfl), (Nat.le_of_ble_eq_true rfl)⟩ rfl hl.1 rfl (Nat.le_of_ble_eq_true rfl) dX9_init_1 (fun H locs hW => ?_)
  exact i_rv B hr hlk hW dX9_init_4
set_option maxRecDepth 100000 in
theorem c_X2_init (l : Launch) (D : va_G) (C : Nat → ClassId) (sz k0 n : Nat) (f : Nat → va_E) : i_Fn l D C sz yX2_init cX2_init 1 3 60 0 0 [.ref (sz + k0)] n f n f := by
  refine i_Fn.of (by decide) rfl (Nat.le_of_ble_eq_true rfl) ?_
  intro p e s m below meth c ls B hr hlk hnm hW hl
  have B : i_B D C p s m _ c cX2_init 1 RX2 := B
  have hl : lv_has ls 1 [(0, .ref (sz + k0))] := hl
  have hx := B.1
  have hb := B.2.1
  have hml := B.2.2.1
  have ho := B.2.2.2.1
  have hw := B.2.2.2.2.1
  refine lv_aload_n hx hb dX2_init_0 rfl (lv_at hl 0 rfl) ?_
  refine i_cN (As := []) (rest := []) B hW (c_X0_init l D C sz k0 n f) isc_X0 q127 ⟨(Nat.le_of_ble_eq_true rfl), (Nat.le_of_ble_eq_true rfl)⟩ ⟨(Nat.le_of_ble_eq_true rfl), (Nat.le_of_ble_eq_true rfl)⟩ rfl hl.1 rfl (Nat.le_of_ble_eq_true rfl) dX2_init_1 (fun H locs hW => ?_)
  exact i_rv B hr hlk hW dX2_init_4
set_option maxRecDepth 100000 in
theorem c_X6_init (l : Launch) (D : va_G) (C : Nat → ClassId) (sz k0 n : Nat) (f : Nat → va_E) : i_Fn l D C sz yX6_init cX6_init 1 3 60 0 0 [.ref (sz + k0)] n f n f := by
  refine i_Fn.of (by decide) rfl (Nat.le_of_ble_eq_true rfl) ?_
  intro p e s m below meth c ls B hr hlk hnm hW hl
  have B : i_B D C p s m _ c cX6_init 1 RX6 := B
  have hl : lv_has ls 1 [(0, .ref (sz + k0))] := hl
  have hx := B.1
  have hb := B.2.1
  have hml := B.2.2.1
  have ho := B.2.2.2.1
  have hw := B.2.2.2.2.1
  refine lv_aload_n hx hb dX6_init_0 rfl (lv_at hl 0 rfl) ?_
  refine i_cN (As := []) (rest := []) B hW (c_X9_init l D C sz k0 n f) isc_X9 q134 ⟨(Nat.le_of_ble_eq_true rfl), (Nat.le_of_ble_eq_true rfl)⟩ ⟨(Nat.le_of_ble_eq_true rfl), (Nat.le_of_ble_eq_true rfl)⟩ rfl hl.1 rfl (Nat.le_of_ble_eq_true rfl) dX6_init_1 (fun H locs hW => ?_)
  exact i_rv B hr hlk hW dX6_init_4
def j3_8_0 (sz : Nat) (C : Nat → ClassId) (v : Nat) (f : Nat → va_E) : Nat → va_E := f
def j3_8_1 (sz : Nat) (C : Nat → ClassId) (v : Nat) (f : Nat → va_E) : Nat → va_E := va_up (j3_8_0 sz C v f) 8 (.inr (3, [.ref v, .null, .int 0, .int 0, .int 0, .int 0]))
def j3_8_2 (sz : Nat) (C : Nat → ClassId) (v : Nat) (f : Nat → va_E) : Nat → va_E := va_up (j3_8_1 sz C v f) 9 (.inl (C 4, 8, .inr (.inr (.inr (.inr (fun _ => none))))))
def j3_8_3 (sz : Nat) (C : Nat → ClassId) (v : Nat) (f : Nat → va_E) : Nat → va_E := va_up (j3_8_2 sz C v f) 8 (.inr (3, [.ref v, .ref (sz + 9), .int 0, .int 0, .int 0, .int 0]))
def j3_8_4 (sz : Nat) (C : Nat → ClassId) (v : Nat) (f : Nat → va_E) : Nat → va_E := va_up (j3_8_3 sz C v f) 10 (.inr (8, [.int 0, .int 0, .int 0, .int 0, .int 0, .int 0]))
def j3_8_5 (sz : Nat) (C : Nat → ClassId) (v : Nat) (f : Nat → va_E) : Nat → va_E := va_up (j3_8_4 sz C v f) 9 (.inl (C 4, 8, .inr (.inr (.inr (.inr (va_up (fun _ => none) 0 (some (sz + 10))))))))
def j3_8_6 (sz : Nat) (C : Nat → ClassId) (v : Nat) (f : Nat → va_E) : Nat → va_E := va_up (j3_8_5 sz C v f) 11 (.inr (8, [.int 0, .int 0, .int 0, .int 0, .int 0, .int 0]))
def j3_8_7 (sz : Nat) (C : Nat → ClassId) (v : Nat) (f : Nat → va_E) : Nat → va_E := va_up (j3_8_6 sz C v f) 9 (.inl (C 4, 8, .inr (.inr (.inr (.inr (va_up (va_up (fun _ => none) 0 (some (sz + 10))) 1 (some (sz + 11))))))))
def j3_8_8 (sz : Nat) (C : Nat → ClassId) (v : Nat) (f : Nat → va_E) : Nat → va_E := va_up (j3_8_7 sz C v f) 12 (.inr (8, [.int 0, .int 0, .int 0, .int 0, .int 0, .int 0]))
def j3_8_9 (sz : Nat) (C : Nat → ClassId) (v : Nat) (f : Nat → va_E) : Nat → va_E := va_up (j3_8_8 sz C v f) 9 (.inl (C 4, 8, .inr (.inr (.inr (.inr (va_up (va_up (va_up (fun _ => none) 0 (some (sz + 10))) 1 (some (sz + 11))) 2 (some (sz + 12))))))))
def j3_8_10 (sz : Nat) (C : Nat → ClassId) (v : Nat) (f : Nat → va_E) : Nat → va_E := va_up (j3_8_9 sz C v f) 13 (.inr (8, [.int 0, .int 0, .int 0, .int 0, .int 0, .int 0]))
def j3_8_11 (sz : Nat) (C : Nat → ClassId) (v : Nat) (f : Nat → va_E) : Nat → va_E := va_up (j3_8_10 sz C v f) 9 (.inl (C 4, 8, .inr (.inr (.inr (.inr (va_up (va_up (va_up (va_up (fun _ => none) 0 (some (sz + 10))) 1 (some (sz + 11))) 2 (some (sz + 12))) 3 (some (sz + 13))))))))
def j3_8_12 (sz : Nat) (C : Nat → ClassId) (v : Nat) (f : Nat → va_E) : Nat → va_E := va_up (j3_8_11 sz C v f) 14 (.inr (8, [.int 0, .int 0, .int 0, .int 0, .int 0, .int 0]))
def j3_8_13 (sz : Nat) (C : Nat → ClassId) (v : Nat) (f : Nat → va_E) : Nat → va_E := va_up (j3_8_12 sz C v f) 9 (.inl (C 4, 8, .inr (.inr (.inr (.inr (va_up (va_up (va_up (va_up (va_up (fun _ => none) 0 (some (sz + 10))) 1 (some (sz + 11))) 2 (some (sz + 12))) 3 (some (sz + 13))) 4 (some (sz + 14))))))))
def j3_8_14 (sz : Nat) (C : Nat → ClassId) (v : Nat) (f : Nat → va_E) : Nat → va_E := va_up (j3_8_13 sz C v f) 15 (.inr (8, [.int 0, .int 0, .int 0, .int 0, .int 0, .int 0]))
def j3_8_15 (sz : Nat) (C : Nat → ClassId) (v : Nat) (f : Nat → va_E) : Nat → va_E := va_up (j3_8_14 sz C v f) 9 (.inl (C 4, 8, .inr (.inr (.inr (.inr (va_up (va_up (va_up (va_up (va_up (va_up (fun _ => none) 0 (some (sz + 10))) 1 (some (sz + 11))) 2 (some (sz + 12))) 3 (some (sz + 13))) 4 (some (sz + 14))) 5 (some (sz + 15))))))))
def j3_8_16 (sz : Nat) (C : Nat → ClassId) (v : Nat) (f : Nat → va_E) : Nat → va_E := va_up (j3_8_15 sz C v f) 16 (.inr (8, [.int 0, .int 0, .int 0, .int 0, .int 0, .int 0]))
def j3_8_17 (sz : Nat) (C : Nat → ClassId) (v : Nat) (f : Nat → va_E) : Nat → va_E := va_up (j3_8_16 sz C v f) 9 (.inl (C 4, 8, .inr (.inr (.inr (.inr (va_up (va_up (va_up (va_up (va_up (va_up (va_up (fun _ => none) 0 (some (sz + 10))) 1 (some (sz + 11))) 2 (some (sz + 12))) 3 (some (sz + 13))) 4 (some (sz + 14))) 5 (some (sz + 15))) 6 (some (sz + 16))))))))
def j3_8_18 (sz : Nat) (C : Nat → ClassId) (v : Nat) (f : Nat → va_E) : Nat → va_E := va_up (j3_8_17 sz C v f) 17 (.inr (8, [.int 0, .int 0, .int 0, .int 0, .int 0, .int 0]))
def j3_8_19 (sz : Nat) (C : Nat → ClassId) (v : Nat) (f : Nat → va_E) : Nat → va_E := va_up (j3_8_18 sz C v f) 9 (.inl (C 4, 8, .inr (.inr (.inr (.inr (va_up (va_up (va_up (va_up (va_up (va_up (va_up (va_up (fun _ => none) 0 (some (sz + 10))) 1 (some (sz + 11))) 2 (some (sz + 12))) 3 (some (sz + 13))) 4 (some (sz + 14))) 5 (some (sz + 15))) 6 (some (sz + 16))) 7 (some (sz + 17))))))))
def j3_8_20 (sz : Nat) (C : Nat → ClassId) (v : Nat) (f : Nat → va_E) : Nat → va_E := va_up (j3_8_19 sz C v f) 8 (.inr (3, [.ref v, .ref (sz + 9), .int (0), .int 0, .int 0, .int 0]))
def j3_8_21 (sz : Nat) (C : Nat → ClassId) (v : Nat) (f : Nat → va_E) : Nat → va_E := va_up (j3_8_20 sz C v f) 8 (.inr (3, [.ref v, .ref (sz + 9), .int (0), .int (0), .int 0, .int 0]))
def j3_8_22 (sz : Nat) (C : Nat → ClassId) (v : Nat) (f : Nat → va_E) : Nat → va_E := va_up (j3_8_21 sz C v f) 8 (.inr (3, [.ref v, .ref (sz + 9), .int (0), .int (0), .int (0), .int 0]))
def j3_8_23 (sz : Nat) (C : Nat → ClassId) (v : Nat) (f : Nat → va_E) : Nat → va_E := va_up (j3_8_22 sz C v f) 8 (.inr (3, [.ref v, .ref (sz + 9), .int (0), .int (0), .int (0), .int (-1)]))
set_option maxHeartbeats 4000000 in
set_option maxRecDepth 100000 in
theorem c_X3_init_8 (l : Launch) (D : va_G) (C : Nat → ClassId) (sz : Nat) (v : Nat) (f : Nat → va_E) (hf0 : f 8 = .inr (3, [.null, .null, .int 0, .int 0, .int 0, .int 0])) : i_Fn l D C sz yX3_init cX3_init 3 2 40 9 56 [.ref (sz + 8), .ref v] 9 f 18 (j3_8_23 sz C v f) := by
  refine i_Fn.of (by decide) rfl (Nat.le_of_ble_eq_true rfl) ?_
  intro p e s m below meth c ls B hr hlk hnm hW hl
  have B : i_B D C p s m _ c cX3_init 3 RX3 := B
  have hl : lv_has ls 3 [(0, .ref (sz + 8)), (1, .ref v)] := hl
  have hx := B.1
  have hb := B.2.1
  have hml := B.2.2.1
  have ho := B.2.2.2.1
  have hw := B.2.2.2.2.1
  have hW : i_W D sz 9 (j3_8_0 sz C v f) s.heap s.heap [] := hW
  refine lv_aload_n hx hb dX3_init_0 rfl (lv_at hl 0 rfl) ?_
  refine W.objInit hx hb ho (hw _ q141) (hw _ q91) (hw _ qobj_code) rfl (by rw [hml]; exact hl.1) rfl dX3_init_1 (Nat.le_of_ble_eq_true rfl) (Nat.le_of_ble_eq_true rfl) ?_
  refine W.eq (g2 := F0 m 4 ls []) rfl ?_
  refine lv_aload_n hx hb dX3_init_4 rfl (lv_at hl 0 rfl) ?_
  refine lv_aload_n hx hb dX3_init_5 rfl (lv_at hl 1 rfl) ?_
  refine i_putF (q := 8) (ci := 3) (k := 0) (C0 := RX3) (T := TX3) (N := 6) (ty := tyX3 0) B hW (by decide) hf0 rfl iX3 tyX3 tyX3_ok nmX3 (by decide) q185 rfl rfl hnm rfl (tyX3_ok 0 (by decide)) rfl rfl (Nat.le_of_ble_eq_true rfl) dX3_init_6 (fun H locs hW => ?_)
  have hW : i_W D sz 9 (j3_8_1 sz C v f) s.heap H _ := hW
  refine lv_aload_n hx hb dX3_init_9 rfl (lv_at hl 0 rfl) ?_
  refine lv_bipush (v := 8) hx hb dX3_init_10 (by decide) ?_
  refine i_newQ (t := 4) (N := 8) B hW rfl B.2.2.2.2.2.2.2.1.2.2 q142 (by decide) (by decide) (Nat.le_of_ble_eq_true rfl) (Nat.le_of_ble_eq_true rfl) (Nat.le_of_ble_eq_true rfl) dX3_init_12 (fun H hW => ?_)
  have hW : i_W D sz 10 (j3_8_2 sz C v f) s.heap H _ := hW
  refine i_putF (q := 8) (ci := 3) (k := 1) (C0 := RX3) (T := TX3) (N := 6) (ty := tyX3 1) B hW (by decide) rfl rfl iX3 tyX3 tyX3_ok nmX3 (by decide) q186 rfl rfl hnm rfl (tyX3_ok 1 (by decide)) rfl rfl (Nat.le_of_ble_eq_true rfl) dX3_init_15 (fun H locs hW => ?_)
  have hW : i_W D sz 10 (j3_8_3 sz C v f) s.heap H _ := hW
  refine lv_iconst (v := 0) hx hb dX3_init_18 (by decide) ?_
  refine lv_istore_n (lv' := [(2, .int (0)), (0, .ref (sz + 8)), (1, .ref v)]) hx hb dX3_init_19 rfl hl (by decide) rfl (fun ls hl => ?_)
  refine lv_iload_n hx hb dX3_init_20 rfl (lv_at hl 0 rfl) ?_
  refine lv_bipush (v := 8) hx hb dX3_init_21 (by decide) ?_
  refine lv_icmp_ge (tgt := 45) hx hb dX3_init_23 (by decide) (fun c1 => absurd c1 (by decide)) (fun c1 => ?_)
  refine lv_aload_n hx hb dX3_init_26 rfl (lv_at hl 1 rfl) ?_
  refine i_get (q := 8) (ci := 3) (k := 1) (C0 := RX3) (T := TX3) (N := 6) B hW (by decide) rfl rfl iX3 (by decide) q186 rfl rfl dX3_init_27 ?_
  refine lv_iload_n hx hb dX3_init_30 rfl (lv_at hl 0 rfl) ?_
  refine i_new (ci := 8) (fs := [.int 0, .int 0, .int 0, .int 0, .int 0, .int 0]) (C0 := RX8) (T := TX8) (N := 6) B hW iX8 tyX8 tyX8_ok q142 q144 q74 rfl dfX8 (Nat.le_of_ble_eq_true rfl) (Nat.le_of_ble_eq_true rfl) dX3_init_31 (fun H hW => ?_)
  have hW : i_W D sz 11 (j3_8_4 sz C v f) s.heap H _ := hW
  refine lv_dup hx hb dX3_init_34 rfl ?_
  refine i_cN (As := []) (rest := [.ref (sz + 10), .int (0), .ref (sz + 9)]) B hW (c_X8_init l D C sz 10 11 (j3_8_4 sz C v f)) isc_X8 q145 ⟨(Nat.le_of_ble_eq_true rfl), (Nat.le_of_ble_eq_true rfl)⟩ ⟨(Nat.le_of_ble_eq_true rfl), (Nat.le_of_ble_eq_true rfl)⟩ rfl hl.1 rfl (Nat.le_of_ble_eq_true rfl) dX3_init_35 (fun H locs hW => ?_)
  refine i_astq (t := 4) (q := 9) (qk := 10) (ci := 8) (E := "WhisperSeats$Visitor") (r := (RX8, TX8, 6)) B hW rfl (by decide) rfl (by decide) rfl rfl (Or.inl rfl) (z_ixd (by decide)) dX3_init_38 (fun H locs hW => ?_)
  have hW : i_W D sz 11 (j3_8_5 sz C v f) s.heap H _ := hW
  refine lv_iinc (v := 1) (lv' := [(2, .int (1)), (0, .ref (sz + 8)), (1, .ref v)]) hx hb dX3_init_39 hl (k := 0) rfl (by decide) (by decide) rfl (fun ls hl => ?_)
  refine lv_goto (tgt := 20) hx hb dX3_init_42 (by decide) ?_
  refine lv_iload_n hx hb dX3_init_20 rfl (lv_at hl 0 rfl) ?_
  refine lv_bipush (v := 8) hx hb dX3_init_21 (by decide) ?_
  refine lv_icmp_ge (tgt := 45) hx hb dX3_init_23 (by decide) (fun c1 => absurd c1 (by decide)) (fun c1 => ?_)
  refine lv_aload_n hx hb dX3_init_26 rfl (lv_at hl 1 rfl) ?_
  refine i_get (q := 8) (ci := 3) (k := 1) (C0 := RX3) (T := TX3) (N := 6) B hW (by decide) rfl rfl iX3 (by decide) q186 rfl rfl dX3_init_27 ?_
  refine lv_iload_n hx hb dX3_init_30 rfl (lv_at hl 0 rfl) ?_
  refine i_new (ci := 8) (fs := [.int 0, .int 0, .int 0, .int 0, .int 0, .int 0]) (C0 := RX8) (T := TX8) (N := 6) B hW iX8 tyX8 tyX8_ok q142 q144 q74 rfl dfX8 (Nat.le_of_ble_eq_true rfl) (Nat.le_of_ble_eq_true rfl) dX3_init_31 (fun H hW => ?_)
  have hW : i_W D sz 12 (j3_8_6 sz C v f) s.heap H _ := hW
  refine lv_dup hx hb dX3_init_34 rfl ?_
  refine i_cN (As := []) (rest := [.ref (sz + 11), .int (1), .ref (sz + 9)]) B hW (c_X8_init l D C sz 11 12 (j3_8_6 sz C v f)) isc_X8 q145 ⟨(Nat.le_of_ble_eq_true rfl), (Nat.le_of_ble_eq_true rfl)⟩ ⟨(Nat.le_of_ble_eq_true rfl), (Nat.le_of_ble_eq_true rfl)⟩ rfl hl.1 rfl (Nat.le_of_ble_eq_true rfl) dX3_init_35 (fun H locs hW => ?_)
  refine i_astq (t := 4) (q := 9) (qk := 11) (ci := 8) (E := "WhisperSeats$Visitor") (r := (RX8, TX8, 6)) B hW rfl (by decide) rfl (by decide) rfl rfl (Or.inl rfl) (z_ixd (by decide)) dX3_init_38 (fun H locs hW => ?_)
  have hW : i_W D sz 12 (j3_8_7 sz C v f) s.heap H _ := hW
  refine lv_iinc (v := 2) (lv' := [(2, .int (2)), (0, .ref (sz + 8)), (1, .ref v)]) hx hb dX3_init_39 hl (k := 0) rfl (by decide) (by decide) rfl (fun ls hl => ?_)
  refine lv_goto (tgt := 20) hx hb dX3_init_42 (by decide) ?_
  refine lv_iload_n hx hb dX3_init_20 rfl (lv_at hl 0 rfl) ?_
  refine lv_bipush (v := 8) hx hb dX3_init_21 (by decide) ?_
  refine lv_icmp_ge (tgt := 45) hx hb dX3_init_23 (by decide) (fun c1 => absurd c1 (by decide)) (fun c1 => ?_)
  refine lv_aload_n hx hb dX3_init_26 rfl (lv_at hl 1 rfl) ?_
  refine i_get (q := 8) (ci := 3) (k := 1) (C0 := RX3) (T := TX3) (N := 6) B hW (by decide) rfl rfl iX3 (by decide) q186 rfl rfl dX3_init_27 ?_
  refine lv_iload_n hx hb dX3_init_30 rfl (lv_at hl 0 rfl) ?_
  refine i_new (ci := 8) (fs := [.int 0, .int 0, .int 0, .int 0, .int 0, .int 0]) (C0 := RX8) (T := TX8) (N := 6) B hW iX8 tyX8 tyX8_ok q142 q144 q74 rfl dfX8 (Nat.le_of_ble_eq_true rfl) (Nat.le_of_ble_eq_true rfl) dX3_init_31 (fun H hW => ?_)
  have hW : i_W D sz 13 (j3_8_8 sz C v f) s.heap H _ := hW
  refine lv_dup hx hb dX3_init_34 rfl ?_
  refine i_cN (As := []) (rest := [.ref (sz + 12), .int (2), .ref (sz + 9)]) B hW (c_X8_init l D C sz 12 13 (j3_8_8 sz C v f)) isc_X8 q145 ⟨(Nat.le_of_ble_eq_true rfl), (Nat.le_of_ble_eq_true rfl)⟩ ⟨(Nat.le_of_ble_eq_true rfl), (Nat.le_of_ble_eq_true rfl)⟩ rfl hl.1 rfl (Nat.le_of_ble_eq_true rfl) dX3_init_35 (fun H locs hW => ?_)
  refine i_astq (t := 4) (q := 9) (qk := 12) (ci := 8) (E := "WhisperSeats$Visitor") (r := (RX8, TX8, 6)) B hW rfl (by decide) rfl (by decide) rfl rfl (Or.inl rfl) (z_ixd (by decide)) dX3_init_38 (fun H locs hW => ?_)
  have hW : i_W D sz 13 (j3_8_9 sz C v f) s.heap H _ := hW
  refine lv_iinc (v := 3) (lv' := [(2, .int (3)), (0, .ref (sz + 8)), (1, .ref v)]) hx hb dX3_init_39 hl (k := 0) rfl (by decide) (by decide) rfl (fun ls hl => ?_)
  refine lv_goto (tgt := 20) hx hb dX3_init_42 (by decide) ?_
  refine lv_iload_n hx hb dX3_init_20 rfl (lv_at hl 0 rfl) ?_
  refine lv_bipush (v := 8) hx hb dX3_init_21 (by decide) ?_
  refine lv_icmp_ge (tgt := 45) hx hb dX3_init_23 (by decide) (fun c1 => absurd c1 (by decide)) (fun c1 => ?_)
  refine lv_aload_n hx hb dX3_init_26 rfl (lv_at hl 1 rfl) ?_
  refine i_get (q := 8) (ci := 3) (k := 1) (C0 := RX3) (T := TX3) (N := 6) B hW (by decide) rfl rfl iX3 (by decide) q186 rfl rfl dX3_init_27 ?_
  refine lv_iload_n hx hb dX3_init_30 rfl (lv_at hl 0 rfl) ?_
  refine i_new (ci := 8) (fs := [.int 0, .int 0, .int 0, .int 0, .int 0, .int 0]) (C0 := RX8) (T := TX8) (N := 6) B hW iX8 tyX8 tyX8_ok q142 q144 q74 rfl dfX8 (Nat.le_of_ble_eq_true rfl) (Nat.le_of_ble_eq_true rfl) dX3_init_31 (fun H hW => ?_)
  have hW : i_W D sz 14 (j3_8_10 sz C v f) s.heap H _ := hW
  refine lv_dup hx hb dX3_init_34 rfl ?_
  refine i_cN (As := []) (rest := [.ref (sz + 13), .int (3), .ref (sz + 9)]) B hW (c_X8_init l D C sz 13 14 (j3_8_10 sz C v f)) isc_X8 q145 ⟨(Nat.le_of_ble_eq_true rfl), (Nat.le_of_ble_eq_true rfl)⟩ ⟨(Nat.le_of_ble_eq_true rfl), (Nat.le_of_ble_eq_true rfl)⟩ rfl hl.1 rfl (Nat.le_of_ble_eq_true rfl) dX3_init_35 (fun H locs hW => ?_)
  refine i_astq (t := 4) (q := 9) (qk := 13) (ci := 8) (E := "WhisperSeats$Visitor") (r := (RX8, TX8, 6)) B hW rfl (by decide) rfl (by decide) rfl rfl (Or.inl rfl) (z_ixd (by decide)) dX3_init_38 (fun H locs hW => ?_)
  have hW : i_W D sz 14 (j3_8_11 sz C v f) s.heap H _ := hW
  refine lv_iinc (v := 4) (lv' := [(2, .int (4)), (0, .ref (sz + 8)), (1, .ref v)]) hx hb dX3_init_39 hl (k := 0) rfl (by decide) (by decide) rfl (fun ls hl => ?_)
  refine lv_goto (tgt := 20) hx hb dX3_init_42 (by decide) ?_
  refine lv_iload_n hx hb dX3_init_20 rfl (lv_at hl 0 rfl) ?_
  refine lv_bipush (v := 8) hx hb dX3_init_21 (by decide) ?_
  refine lv_icmp_ge (tgt := 45) hx hb dX3_init_23 (by decide) (fun c1 => absurd c1 (by decide)) (fun c1 => ?_)
  refine lv_aload_n hx hb dX3_init_26 rfl (lv_at hl 1 rfl) ?_
  refine i_get (q := 8) (ci := 3) (k := 1) (C0 := RX3) (T := TX3) (N := 6) B hW (by decide) rfl rfl iX3 (by decide) q186 rfl rfl dX3_init_27 ?_
  refine lv_iload_n hx hb dX3_init_30 rfl (lv_at hl 0 rfl) ?_
  refine i_new (ci := 8) (fs := [.int 0, .int 0, .int 0, .int 0, .int 0, .int 0]) (C0 := RX8) (T := TX8) (N := 6) B hW iX8 tyX8 tyX8_ok q142 q144 q74 rfl dfX8 (Nat.le_of_ble_eq_true rfl) (Nat.le_of_ble_eq_true rfl) dX3_init_31 (fun H hW => ?_)
  have hW : i_W D sz 15 (j3_8_12 sz C v f) s.heap H _ := hW
  refine lv_dup hx hb dX3_init_34 rfl ?_
  refine i_cN (As := []) (rest := [.ref (sz + 14), .int (4), .ref (sz + 9)]) B hW (c_X8_init l D C sz 14 15 (j3_8_12 sz C v f)) isc_X8 q145 ⟨(Nat.le_of_ble_eq_true rfl), (Nat.le_of_ble_eq_true rfl)⟩ ⟨(Nat.le_of_ble_eq_true rfl), (Nat.le_of_ble_eq_true rfl)⟩ rfl hl.1 rfl (Nat.le_of_ble_eq_true rfl) dX3_init_35 (fun H locs hW => ?_)
  refine i_astq (t := 4) (q := 9) (qk := 14) (ci := 8) (E := "WhisperSeats$Visitor") (r := (RX8, TX8, 6)) B hW rfl (by decide) rfl (by decide) rfl rfl (Or.inl rfl) (z_ixd (by decide)) dX3_init_38 (fun H locs hW => ?_)
  have hW : i_W D sz 15 (j3_8_13 sz C v f) s.heap H _ := hW
  refine lv_iinc (v := 5) (lv' := [(2, .int (5)), (0, .ref (sz + 8)), (1, .ref v)]) hx hb dX3_init_39 hl (k := 0) rfl (by decide) (by decide) rfl (fun ls hl => ?_)
  refine lv_goto (tgt := 20) hx hb dX3_init_42 (by decide) ?_
  refine lv_iload_n hx hb dX3_init_20 rfl (lv_at hl 0 rfl) ?_
  refine lv_bipush (v := 8) hx hb dX3_init_21 (by decide) ?_
  refine lv_icmp_ge (tgt := 45) hx hb dX3_init_23 (by decide) (fun c1 => absurd c1 (by decide)) (fun c1 => ?_)
  refine lv_aload_n hx hb dX3_init_26 rfl (lv_at hl 1 rfl) ?_
  refine i_get (q := 8) (ci := 3) (k := 1) (C0 := RX3) (T := TX3) (N := 6) B hW (by decide) rfl rfl iX3 (by decide) q186 rfl rfl dX3_init_27 ?_
  refine lv_iload_n hx hb dX3_init_30 rfl (lv_at hl 0 rfl) ?_
  refine i_new (ci := 8) (fs := [.int 0, .int 0, .int 0, .int 0, .int 0, .int 0]) (C0 := RX8) (T := TX8) (N := 6) B hW iX8 tyX8 tyX8_ok q142 q144 q74 rfl dfX8 (Nat.le_of_ble_eq_true rfl) (Nat.le_of_ble_eq_true rfl) dX3_init_31 (fun H hW => ?_)
  have hW : i_W D sz 16 (j3_8_14 sz C v f) s.heap H _ := hW
  refine lv_dup hx hb dX3_init_34 rfl ?_
  refine i_cN (As := []) (rest := [.ref (sz + 15), .int (5), .ref (sz + 9)]) B hW (c_X8_init l D C sz 15 16 (j3_8_14 sz C v f)) isc_X8 q145 ⟨(Nat.le_of_ble_eq_true rfl), (Nat.le_of_ble_eq_true rfl)⟩ ⟨(Nat.le_of_ble_eq_true rfl), (Nat.le_of_ble_eq_true rfl)⟩ rfl hl.1 rfl (Nat.le_of_ble_eq_true rfl) dX3_init_35 (fun H locs hW => ?_)
  refine i_astq (t := 4) (q := 9) (qk := 15) (ci := 8) (E := "WhisperSeats$Visitor") (r := (RX8, TX8, 6)) B hW rfl (by decide) rfl (by decide) rfl rfl (Or.inl rfl) (z_ixd (by decide)) dX3_init_38 (fun H locs hW => ?_)
  have hW : i_W D sz 16 (j3_8_15 sz C v f) s.heap H _ := hW
  refine lv_iinc (v := 6) (lv' := [(2, .int (6)), (0, .ref (sz + 8)), (1, .ref v)]) hx hb dX3_init_39 hl (k := 0) rfl (by decide) (by decide) rfl (fun ls hl => ?_)
  refine lv_goto (tgt := 20) hx hb dX3_init_42 (by decide) ?_
  refine lv_iload_n hx hb dX3_init_20 rfl (lv_at hl 0 rfl) ?_
  refine lv_bipush (v := 8) hx hb dX3_init_21 (by decide) ?_
  refine lv_icmp_ge (tgt := 45) hx hb dX3_init_23 (by decide) (fun c1 => absurd c1 (by decide)) (fun c1 => ?_)
  refine lv_aload_n hx hb dX3_init_26 rfl (lv_at hl 1 rfl) ?_
  refine i_get (q := 8) (ci := 3) (k := 1) (C0 := RX3) (T := TX3) (N := 6) B hW (by decide) rfl rfl iX3 (by decide) q186 rfl rfl dX3_init_27 ?_
  refine lv_iload_n hx hb dX3_init_30 rfl (lv_at hl 0 rfl) ?_
  refine i_new (ci := 8) (fs := [.int 0, .int 0, .int 0, .int 0, .int 0, .int 0]) (C0 := RX8) (T := TX8) (N := 6) B hW iX8 tyX8 tyX8_ok q142 q144 q74 rfl dfX8 (Nat.le_of_ble_eq_true rfl) (Nat.le_of_ble_eq_true rfl) dX3_init_31 (fun H hW => ?_)
  have hW : i_W D sz 17 (j3_8_16 sz C v f) s.heap H _ := hW
  refine lv_dup hx hb dX3_init_34 rfl ?_
  refine i_cN (As := []) (rest := [.ref (sz + 16), .int (6), .ref (sz + 9)]) B hW (c_X8_init l D C sz 16 17 (j3_8_16 sz C v f)) isc_X8 q145 ⟨(Nat.le_of_ble_eq_true rfl), (Nat.le_of_ble_eq_true rfl)⟩ ⟨(Nat.le_of_ble_eq_true rfl), (Nat.le_of_ble_eq_true rfl)⟩ rfl hl.1 rfl (Nat.le_of_ble_eq_true rfl) dX3_init_35 (fun H locs hW => ?_)
  refine i_astq (t := 4) (q := 9) (qk := 16) (ci := 8) (E := "WhisperSeats$Visitor") (r := (RX8, TX8, 6)) B hW rfl (by decide) rfl (by decide) rfl rfl (Or.inl rfl) (z_ixd (by decide)) dX3_init_38 (fun H locs hW => ?_)
  have hW : i_W D sz 17 (j3_8_17 sz C v f) s.heap H _ := hW
  refine lv_iinc (v := 7) (lv' := [(2, .int (7)), (0, .ref (sz + 8)), (1, .ref v)]) hx hb dX3_init_39 hl (k := 0) rfl (by decide) (by decide) rfl (fun ls hl => ?_)
  refine lv_goto (tgt := 20) hx hb dX3_init_42 (by decide) ?_
  refine lv_iload_n hx hb dX3_init_20 rfl (lv_at hl 0 rfl) ?_
  refine lv_bipush (v := 8) hx hb dX3_init_21 (by decide) ?_
  refine lv_icmp_ge (tgt := 45) hx hb dX3_init_23 (by decide) (fun c1 => absurd c1 (by decide)) (fun c1 => ?_)
  refine lv_aload_n hx hb dX3_init_26 rfl (lv_at hl 1 rfl) ?_
  refine i_get (q := 8) (ci := 3) (k := 1) (C0 := RX3) (T := TX3) (N := 6) B hW (by decide) rfl rfl iX3 (by decide) q186 rfl rfl dX3_init_27 ?_
  refine lv_iload_n hx hb dX3_init_30 rfl (lv_at hl 0 rfl) ?_
  refine i_new (ci := 8) (fs := [.int 0, .int 0, .int 0, .int 0, .int 0, .int 0]) (C0 := RX8) (T := TX8) (N := 6) B hW iX8 tyX8 tyX8_ok q142 q144 q74 rfl dfX8 (Nat.le_of_ble_eq_true rfl) (Nat.le_of_ble_eq_true rfl) dX3_init_31 (fun H hW => ?_)
  have hW : i_W D sz 18 (j3_8_18 sz C v f) s.heap H _ := hW
  refine lv_dup hx hb dX3_init_34 rfl ?_
  refine i_cN (As := []) (rest := [.ref (sz + 17), .int (7), .ref (sz + 9)]) B hW (c_X8_init l D C sz 17 18 (j3_8_18 sz C v f)) isc_X8 q145 ⟨(Nat.le_of_ble_eq_true rfl), (Nat.le_of_ble_eq_true rfl)⟩ ⟨(Nat.le_of_ble_eq_true rfl), (Nat.le_of_ble_eq_true rfl)⟩ rfl hl.1 rfl (Nat.le_of_ble_eq_true rfl) dX3_init_35 (fun H locs hW => ?_)
  refine i_astq (t := 4) (q := 9) (qk := 17) (ci := 8) (E := "WhisperSeats$Visitor") (r := (RX8, TX8, 6)) B hW rfl (by decide) rfl (by decide) rfl rfl (Or.inl rfl) (z_ixd (by decide)) dX3_init_38 (fun H locs hW => ?_)
  have hW : i_W D sz 18 (j3_8_19 sz C v f) s.heap H _ := hW
  refine lv_iinc (v := 8) (lv' := [(2, .int (8)), (0, .ref (sz + 8)), (1, .ref v)]) hx hb dX3_init_39 hl (k := 0) rfl (by decide) (by decide) rfl (fun ls hl => ?_)
  refine lv_goto (tgt := 20) hx hb dX3_init_42 (by decide) ?_
  refine lv_iload_n hx hb dX3_init_20 rfl (lv_at hl 0 rfl) ?_
  refine lv_bipush (v := 8) hx hb dX3_init_21 (by decide) ?_
  refine lv_icmp_ge (tgt := 45) hx hb dX3_init_23 (by decide) (fun c1 => ?_) (fun c1 => absurd (by decide) c1)
  refine lv_aload_n hx hb dX3_init_45 rfl (lv_at hl 1 rfl) ?_
  refine lv_iconst (v := 0) hx hb dX3_init_46 (by decide) ?_
  refine i_put (q := 8) (ci := 3) (k := 2) (C0 := RX3) (T := TX3) (N := 6) (ty := tyX3 2) B hW (by decide) rfl rfl iX3 tyX3 tyX3_ok nmX3 (by decide) q187 rfl rfl (tyX3_ok 2 (by decide)) rfl rfl (Nat.le_of_ble_eq_true rfl) dX3_init_47 (fun H locs hW => ?_)
  have hW : i_W D sz 18 (j3_8_20 sz C v f) s.heap H _ := hW
  refine lv_aload_n hx hb dX3_init_50 rfl (lv_at hl 1 rfl) ?_
  refine lv_iconst (v := 0) hx hb dX3_init_51 (by decide) ?_
  refine i_put (q := 8) (ci := 3) (k := 3) (C0 := RX3) (T := TX3) (N := 6) (ty := tyX3 3) B hW (by decide) rfl rfl iX3 tyX3 tyX3_ok nmX3 (by decide) q189 rfl rfl (tyX3_ok 3 (by decide)) rfl rfl (Nat.le_of_ble_eq_true rfl) dX3_init_52 (fun H locs hW => ?_)
  have hW : i_W D sz 18 (j3_8_21 sz C v f) s.heap H _ := hW
  refine lv_aload_n hx hb dX3_init_55 rfl (lv_at hl 1 rfl) ?_
  refine lv_iconst (v := 0) hx hb dX3_init_56 (by decide) ?_
  refine i_put (q := 8) (ci := 3) (k := 4) (C0 := RX3) (T := TX3) (N := 6) (ty := tyX3 4) B hW (by decide) rfl rfl iX3 tyX3 tyX3_ok nmX3 (by decide) q192 rfl rfl (tyX3_ok 4 (by decide)) rfl rfl (Nat.le_of_ble_eq_true rfl) dX3_init_57 (fun H locs hW => ?_)
  have hW : i_W D sz 18 (j3_8_22 sz C v f) s.heap H _ := hW
  refine lv_aload_n hx hb dX3_init_60 rfl (lv_at hl 1 rfl) ?_
  refine lv_iconst (v := -1) hx hb dX3_init_61 (by decide) ?_
  refine i_put (q := 8) (ci := 3) (k := 5) (C0 := RX3) (T := TX3) (N := 6) (ty := tyX3 5) B hW (by decide) rfl rfl iX3 tyX3 tyX3_ok nmX3 (by decide) q194 rfl rfl (tyX3_ok 5 (by decide)) rfl rfl (Nat.le_of_ble_eq_true rfl) dX3_init_62 (fun H locs hW => ?_)
  have hW : i_W D sz 18 (j3_8_23 sz C v f) s.heap H _ := hW
  refine W.widen (k := 9) (n := 56) (Nat.le_of_ble_eq_true rfl) (Nat.le_of_ble_eq_true rfl) ?_
  exact i_rv B hr hlk hW dX3_init_65
def j3_18_0 (sz : Nat) (C : Nat → ClassId) (v : Nat) (f : Nat → va_E) : Nat → va_E := f
def j3_18_1 (sz : Nat) (C : Nat → ClassId) (v : Nat) (f : Nat → va_E) : Nat → va_E := va_up (j3_18_0 sz C v f) 18 (.inr (3, [.ref v, .null, .int 0, .int 0, .int 0, .int 0]))
def j3_18_2 (sz : Nat) (C : Nat → ClassId) (v : Nat) (f : Nat → va_E) : Nat → va_E := va_up (j3_18_1 sz C v f) 19 (.inl (C 4, 8, .inr (.inr (.inr (.inr (fun _ => none))))))
def j3_18_3 (sz : Nat) (C : Nat → ClassId) (v : Nat) (f : Nat → va_E) : Nat → va_E := va_up (j3_18_2 sz C v f) 18 (.inr (3, [.ref v, .ref (sz + 19), .int 0, .int 0, .int 0, .int 0]))
def j3_18_4 (sz : Nat) (C : Nat → ClassId) (v : Nat) (f : Nat → va_E) : Nat → va_E := va_up (j3_18_3 sz C v f) 20 (.inr (8, [.int 0, .int 0, .int 0, .int 0, .int 0, .int 0]))
def j3_18_5 (sz : Nat) (C : Nat → ClassId) (v : Nat) (f : Nat → va_E) : Nat → va_E := va_up (j3_18_4 sz C v f) 19 (.inl (C 4, 8, .inr (.inr (.inr (.inr (va_up (fun _ => none) 0 (some (sz + 20))))))))
def j3_18_6 (sz : Nat) (C : Nat → ClassId) (v : Nat) (f : Nat → va_E) : Nat → va_E := va_up (j3_18_5 sz C v f) 21 (.inr (8, [.int 0, .int 0, .int 0, .int 0, .int 0, .int 0]))
def j3_18_7 (sz : Nat) (C : Nat → ClassId) (v : Nat) (f : Nat → va_E) : Nat → va_E := va_up (j3_18_6 sz C v f) 19 (.inl (C 4, 8, .inr (.inr (.inr (.inr (va_up (va_up (fun _ => none) 0 (some (sz + 20))) 1 (some (sz + 21))))))))
def j3_18_8 (sz : Nat) (C : Nat → ClassId) (v : Nat) (f : Nat → va_E) : Nat → va_E := va_up (j3_18_7 sz C v f) 22 (.inr (8, [.int 0, .int 0, .int 0, .int 0, .int 0, .int 0]))
def j3_18_9 (sz : Nat) (C : Nat → ClassId) (v : Nat) (f : Nat → va_E) : Nat → va_E := va_up (j3_18_8 sz C v f) 19 (.inl (C 4, 8, .inr (.inr (.inr (.inr (va_up (va_up (va_up (fun _ => none) 0 (some (sz + 20))) 1 (some (sz + 21))) 2 (some (sz + 22))))))))
def j3_18_10 (sz : Nat) (C : Nat → ClassId) (v : Nat) (f : Nat → va_E) : Nat → va_E := va_up (j3_18_9 sz C v f) 23 (.inr (8, [.int 0, .int 0, .int 0, .int 0, .int 0, .int 0]))
def j3_18_11 (sz : Nat) (C : Nat → ClassId) (v : Nat) (f : Nat → va_E) : Nat → va_E := va_up (j3_18_10 sz C v f) 19 (.inl (C 4, 8, .inr (.inr (.inr (.inr (va_up (va_up (va_up (va_up (fun _ => none) 0 (some (sz + 20))) 1 (some (sz + 21))) 2 (some (sz + 22))) 3 (some (sz + 23))))))))
def j3_18_12 (sz : Nat) (C : Nat → ClassId) (v : Nat) (f : Nat → va_E) : Nat → va_E := va_up (j3_18_11 sz C v f) 24 (.inr (8, [.int 0, .int 0, .int 0, .int 0, .int 0, .int 0]))
def j3_18_13 (sz : Nat) (C : Nat → ClassId) (v : Nat) (f : Nat → va_E) : Nat → va_E := va_up (j3_18_12 sz C v f) 19 (.inl (C 4, 8, .inr (.inr (.inr (.inr (va_up (va_up (va_up (va_up (va_up (fun _ => none) 0 (some (sz + 20))) 1 (some (sz + 21))) 2 (some (sz + 22))) 3 (some (sz + 23))) 4 (some (sz + 24))))))))
def j3_18_14 (sz : Nat) (C : Nat → ClassId) (v : Nat) (f : Nat → va_E) : Nat → va_E := va_up (j3_18_13 sz C v f) 25 (.inr (8, [.int 0, .int 0, .int 0, .int 0, .int 0, .int 0]))
def j3_18_15 (sz : Nat) (C : Nat → ClassId) (v : Nat) (f : Nat → va_E) : Nat → va_E := va_up (j3_18_14 sz C v f) 19 (.inl (C 4, 8, .inr (.inr (.inr (.inr (va_up (va_up (va_up (va_up (va_up (va_up (fun _ => none) 0 (some (sz + 20))) 1 (some (sz + 21))) 2 (some (sz + 22))) 3 (some (sz + 23))) 4 (some (sz + 24))) 5 (some (sz + 25))))))))
def j3_18_16 (sz : Nat) (C : Nat → ClassId) (v : Nat) (f : Nat → va_E) : Nat → va_E := va_up (j3_18_15 sz C v f) 26 (.inr (8, [.int 0, .int 0, .int 0, .int 0, .int 0, .int 0]))
def j3_18_17 (sz : Nat) (C : Nat → ClassId) (v : Nat) (f : Nat → va_E) : Nat → va_E := va_up (j3_18_16 sz C v f) 19 (.inl (C 4, 8, .inr (.inr (.inr (.inr (va_up (va_up (va_up (va_up (va_up (va_up (va_up (fun _ => none) 0 (some (sz + 20))) 1 (some (sz + 21))) 2 (some (sz + 22))) 3 (some (sz + 23))) 4 (some (sz + 24))) 5 (some (sz + 25))) 6 (some (sz + 26))))))))
def j3_18_18 (sz : Nat) (C : Nat → ClassId) (v : Nat) (f : Nat → va_E) : Nat → va_E := va_up (j3_18_17 sz C v f) 27 (.inr (8, [.int 0, .int 0, .int 0, .int 0, .int 0, .int 0]))
def j3_18_19 (sz : Nat) (C : Nat → ClassId) (v : Nat) (f : Nat → va_E) : Nat → va_E := va_up (j3_18_18 sz C v f) 19 (.inl (C 4, 8, .inr (.inr (.inr (.inr (va_up (va_up (va_up (va_up (va_up (va_up (va_up (va_up (fun _ => none) 0 (some (sz + 20))) 1 (some (sz + 21))) 2 (some (sz + 22))) 3 (some (sz + 23))) 4 (some (sz + 24))) 5 (some (sz + 25))) 6 (some (sz + 26))) 7 (some (sz + 27))))))))
def j3_18_20 (sz : Nat) (C : Nat → ClassId) (v : Nat) (f : Nat → va_E) : Nat → va_E := va_up (j3_18_19 sz C v f) 18 (.inr (3, [.ref v, .ref (sz + 19), .int (0), .int 0, .int 0, .int 0]))
def j3_18_21 (sz : Nat) (C : Nat → ClassId) (v : Nat) (f : Nat → va_E) : Nat → va_E := va_up (j3_18_20 sz C v f) 18 (.inr (3, [.ref v, .ref (sz + 19), .int (0), .int (0), .int 0, .int 0]))
def j3_18_22 (sz : Nat) (C : Nat → ClassId) (v : Nat) (f : Nat → va_E) : Nat → va_E := va_up (j3_18_21 sz C v f) 18 (.inr (3, [.ref v, .ref (sz + 19), .int (0), .int (0), .int (0), .int 0]))
def j3_18_23 (sz : Nat) (C : Nat → ClassId) (v : Nat) (f : Nat → va_E) : Nat → va_E := va_up (j3_18_22 sz C v f) 18 (.inr (3, [.ref v, .ref (sz + 19), .int (0), .int (0), .int (0), .int (-1)]))
set_option maxHeartbeats 4000000 in
set_option maxRecDepth 100000 in
theorem c_X3_init_18 (l : Launch) (D : va_G) (C : Nat → ClassId) (sz : Nat) (v : Nat) (f : Nat → va_E) (hf0 : f 18 = .inr (3, [.null, .null, .int 0, .int 0, .int 0, .int 0])) : i_Fn l D C sz yX3_init cX3_init 3 2 40 9 56 [.ref (sz + 18), .ref v] 19 f 28 (j3_18_23 sz C v f) := by
  refine i_Fn.of (by decide) rfl (Nat.le_of_ble_eq_true rfl) ?_
  intro p e s m below meth c ls B hr hlk hnm hW hl
  have B : i_B D C p s m _ c cX3_init 3 RX3 := B
  have hl : lv_has ls 3 [(0, .ref (sz + 18)), (1, .ref v)] := hl
  have hx := B.1
  have hb := B.2.1
  have hml := B.2.2.1
  have ho := B.2.2.2.1
  have hw := B.2.2.2.2.1
  have hW : i_W D sz 19 (j3_18_0 sz C v f) s.heap s.heap [] := hW
  refine lv_aload_n hx hb dX3_init_0 rfl (lv_at hl 0 rfl) ?_
  refine W.objInit hx hb ho (hw _ q141) (hw _ q91) (hw _ qobj_code) rfl (by rw [hml]; exact hl.1) rfl dX3_init_1 (Nat.le_of_ble_eq_true rfl) (Nat.le_of_ble_eq_true rfl) ?_
  refine W.eq (g2 := F0 m 4 ls []) rfl ?_
  refine lv_aload_n hx hb dX3_init_4 rfl (lv_at hl 0 rfl) ?_
  refine lv_aload_n hx hb dX3_init_5 rfl (lv_at hl 1 rfl) ?_
  refine i_putF (q := 18) (ci := 3) (k := 0) (C0 := RX3) (T := TX3) (N := 6) (ty := tyX3 0) B hW (by decide) hf0 rfl iX3 tyX3 tyX3_ok nmX3 (by decide) q185 rfl rfl hnm rfl (tyX3_ok 0 (by decide)) rfl rfl (Nat.le_of_ble_eq_true rfl) dX3_init_6 (fun H locs hW => ?_)
  have hW : i_W D sz 19 (j3_18_1 sz C v f) s.heap H _ := hW
  refine lv_aload_n hx hb dX3_init_9 rfl (lv_at hl 0 rfl) ?_
  refine lv_bipush (v := 8) hx hb dX3_init_10 (by decide) ?_
  refine i_newQ (t := 4) (N := 8) B hW rfl B.2.2.2.2.2.2.2.1.2.2 q142 (by decide) (by decide) (Nat.le_of_ble_eq_true rfl) (Nat.le_of_ble_eq_true rfl) (Nat.le_of_ble_eq_true rfl) dX3_init_12 (fun H hW => ?_)
  have hW : i_W D sz 20 (j3_18_2 sz C v f) s.heap H _ := hW
  refine i_putF (q := 18) (ci := 3) (k := 1) (C0 := RX3) (T := TX3) (N := 6) (ty := tyX3 1) B hW (by decide) rfl rfl iX3 tyX3 tyX3_ok nmX3 (by decide) q186 rfl rfl hnm rfl (tyX3_ok 1 (by decide)) rfl rfl (Nat.le_of_ble_eq_true rfl) dX3_init_15 (fun H locs hW => ?_)
  have hW : i_W D sz 20 (j3_18_3 sz C v f) s.heap H _ := hW
  refine lv_iconst (v := 0) hx hb dX3_init_18 (by decide) ?_
  refine lv_istore_n (lv' := [(2, .int (0)), (0, .ref (sz + 18)), (1, .ref v)]) hx hb dX3_init_19 rfl hl (by decide) rfl (fun ls hl => ?_)
  refine lv_iload_n hx hb dX3_init_20 rfl (lv_at hl 0 rfl) ?_
  refine lv_bipush (v := 8) hx hb dX3_init_21 (by decide) ?_
  refine lv_icmp_ge (tgt := 45) hx hb dX3_init_23 (by decide) (fun c1 => absurd c1 (by decide)) (fun c1 => ?_)
  refine lv_aload_n hx hb dX3_init_26 rfl (lv_at hl 1 rfl) ?_
  refine i_get (q := 18) (ci := 3) (k := 1) (C0 := RX3) (T := TX3) (N := 6) B hW (by decide) rfl rfl iX3 (by decide) q186 rfl rfl dX3_init_27 ?_
  refine lv_iload_n hx hb dX3_init_30 rfl (lv_at hl 0 rfl) ?_
  refine i_new (ci := 8) (fs := [.int 0, .int 0, .int 0, .int 0, .int 0, .int 0]) (C0 := RX8) (T := TX8) (N := 6) B hW iX8 tyX8 tyX8_ok q142 q144 q74 rfl dfX8 (Nat.le_of_ble_eq_true rfl) (Nat.le_of_ble_eq_true rfl) dX3_init_31 (fun H hW => ?_)
  have hW : i_W D sz 21 (j3_18_4 sz C v f) s.heap H _ := hW
  refine lv_dup hx hb dX3_init_34 rfl ?_
  refine i_cN (As := []) (rest := [.ref (sz + 20), .int (0), .ref (sz + 19)]) B hW (c_X8_init l D C sz 20 21 (j3_18_4 sz C v f)) isc_X8 q145 ⟨(Nat.le_of_ble_eq_true rfl), (Nat.le_of_ble_eq_true rfl)⟩ ⟨(Nat.le_of_ble_eq_true rfl), (Nat.le_of_ble_eq_true rfl)⟩ rfl hl.1 rfl (Nat.le_of_ble_eq_true rfl) dX3_init_35 (fun H locs hW => ?_)
  refine i_astq (t := 4) (q := 19) (qk := 20) (ci := 8) (E := "WhisperSeats$Visitor") (r := (RX8, TX8, 6)) B hW rfl (by decide) rfl (by decide) rfl rfl (Or.inl rfl) (z_ixd (by decide)) dX3_init_38 (fun H locs hW => ?_)
  have hW : i_W D sz 21 (j3_18_5 sz C v f) s.heap H _ := hW
  refine lv_iinc (v := 1) (lv' := [(2, .int (1)), (0, .ref (sz + 18)), (1, .ref v)]) hx hb dX3_init_39 hl (k := 0) rfl (by decide) (by decide) rfl (fun ls hl => ?_)
  refine lv_goto (tgt := 20) hx hb dX3_init_42 (by decide) ?_
  refine lv_iload_n hx hb dX3_init_20 rfl (lv_at hl 0 rfl) ?_
  refine lv_bipush (v := 8) hx hb dX3_init_21 (by decide) ?_
  refine lv_icmp_ge (tgt := 45) hx hb dX3_init_23 (by decide) (fun c1 => absurd c1 (by decide)) (fun c1 => ?_)
  refine lv_aload_n hx hb dX3_init_26 rfl (lv_at hl 1 rfl) ?_
  refine i_get (q := 18) (ci := 3) (k := 1) (C0 := RX3) (T := TX3) (N := 6) B hW (by decide) rfl rfl iX3 (by decide) q186 rfl rfl dX3_init_27 ?_
  refine lv_iload_n hx hb dX3_init_30 rfl (lv_at hl 0 rfl) ?_
  refine i_new (ci := 8) (fs := [.int 0, .int 0, .int 0, .int 0, .int 0, .int 0]) (C0 := RX8) (T := TX8) (N := 6) B hW iX8 tyX8 tyX8_ok q142 q144 q74 rfl dfX8 (Nat.le_of_ble_eq_true rfl) (Nat.le_of_ble_eq_true rfl) dX3_init_31 (fun H hW => ?_)
  have hW : i_W D sz 22 (j3_18_6 sz C v f) s.heap H _ := hW
  refine lv_dup hx hb dX3_init_34 rfl ?_
  refine i_cN (As := []) (rest := [.ref (sz + 21), .int (1), .ref (sz + 19)]) B hW (c_X8_init l D C sz 21 22 (j3_18_6 sz C v f)) isc_X8 q145 ⟨(Nat.le_of_ble_eq_true rfl), (Nat.le_of_ble_eq_true rfl)⟩ ⟨(Nat.le_of_ble_eq_true rfl), (Nat.le_of_ble_eq_true rfl)⟩ rfl hl.1 rfl (Nat.le_of_ble_eq_true rfl) dX3_init_35 (fun H locs hW => ?_)
  refine i_astq (t := 4) (q := 19) (qk := 21) (ci := 8) (E := "WhisperSeats$Visitor") (r := (RX8, TX8, 6)) B hW rfl (by decide) rfl (by decide) rfl rfl (Or.inl rfl) (z_ixd (by decide)) dX3_init_38 (fun H locs hW => ?_)
  have hW : i_W D sz 22 (j3_18_7 sz C v f) s.heap H _ := hW
  refine lv_iinc (v := 2) (lv' := [(2, .int (2)), (0, .ref (sz + 18)), (1, .ref v)]) hx hb dX3_init_39 hl (k := 0) rfl (by decide) (by decide) rfl (fun ls hl => ?_)
  refine lv_goto (tgt := 20) hx hb dX3_init_42 (by decide) ?_
  refine lv_iload_n hx hb dX3_init_20 rfl (lv_at hl 0 rfl) ?_
  refine lv_bipush (v := 8) hx hb dX3_init_21 (by decide) ?_
  refine lv_icmp_ge (tgt := 45) hx hb dX3_init_23 (by decide) (fun c1 => absurd c1 (by decide)) (fun c1 => ?_)
  refine lv_aload_n hx hb dX3_init_26 rfl (lv_at hl 1 rfl) ?_
  refine i_get (q := 18) (ci := 3) (k := 1) (C0 := RX3) (T := TX3) (N := 6) B hW (by decide) rfl rfl iX3 (by decide) q186 rfl rfl dX3_init_27 ?_
  refine lv_iload_n hx hb dX3_init_30 rfl (lv_at hl 0 rfl) ?_
  refine i_new (ci := 8) (fs := [.int 0, .int 0, .int 0, .int 0, .int 0, .int 0]) (C0 := RX8) (T := TX8) (N := 6) B hW iX8 tyX8 tyX8_ok q142 q144 q74 rfl dfX8 (Nat.le_of_ble_eq_true rfl) (Nat.le_of_ble_eq_true rfl) dX3_init_31 (fun H hW => ?_)
  have hW : i_W D sz 23 (j3_18_8 sz C v f) s.heap H _ := hW
  refine lv_dup hx hb dX3_init_34 rfl ?_
  refine i_cN (As := []) (rest := [.ref (sz + 22), .int (2), .ref (sz + 19)]) B hW (c_X8_init l D C sz 22 23 (j3_18_8 sz C v f)) isc_X8 q145 ⟨(Nat.le_of_ble_eq_true rfl), (Nat.le_of_ble_eq_true rfl)⟩ ⟨(Nat.le_of_ble_eq_true rfl), (Nat.le_of_ble_eq_true rfl)⟩ rfl hl.1 rfl (Nat.le_of_ble_eq_true rfl) dX3_init_35 (fun H locs hW => ?_)
  refine i_astq (t := 4) (q := 19) (qk := 22) (ci := 8) (E := "WhisperSeats$Visitor") (r := (RX8, TX8, 6)) B hW rfl (by decide) rfl (by decide) rfl rfl (Or.inl rfl) (z_ixd (by decide)) dX3_init_38 (fun H locs hW => ?_)
  have hW : i_W D sz 23 (j3_18_9 sz C v f) s.heap H _ := hW
  refine lv_iinc (v := 3) (lv' := [(2, .int (3)), (0, .ref (sz + 18)), (1, .ref v)]) hx hb dX3_init_39 hl (k := 0) rfl (by decide) (by decide) rfl (fun ls hl => ?_)
  refine lv_goto (tgt := 20) hx hb dX3_init_42 (by decide) ?_
  refine lv_iload_n hx hb dX3_init_20 rfl (lv_at hl 0 rfl) ?_
  refine lv_bipush (v := 8) hx hb dX3_init_21 (by decide) ?_
  refine lv_icmp_ge (tgt := 45) hx hb dX3_init_23 (by decide) (fun c1 => absurd c1 (by decide)) (fun c1 => ?_)
  refine lv_aload_n hx hb dX3_init_26 rfl (lv_at hl 1 rfl) ?_
  refine i_get (q := 18) (ci := 3) (k := 1) (C0 := RX3) (T := TX3) (N := 6) B hW (by decide) rfl rfl iX3 (by decide) q186 rfl rfl dX3_init_27 ?_
  refine lv_iload_n hx hb dX3_init_30 rfl (lv_at hl 0 rfl) ?_
  refine i_new (ci := 8) (fs := [.int 0, .int 0, .int 0, .int 0, .int 0, .int 0]) (C0 := RX8) (T := TX8) (N := 6) B hW iX8 tyX8 tyX8_ok q142 q144 q74 rfl dfX8 (Nat.le_of_ble_eq_true rfl) (Nat.le_of_ble_eq_true rfl) dX3_init_31 (fun H hW => ?_)
  have hW : i_W D sz 24 (j3_18_10 sz C v f) s.heap H _ := hW
  refine lv_dup hx hb dX3_init_34 rfl ?_
  refine i_cN (As := []) (rest := [.ref (sz + 23), .int (3), .ref (sz + 19)]) B hW (c_X8_init l D C sz 23 24 (j3_18_10 sz C v f)) isc_X8 q145 ⟨(Nat.le_of_ble_eq_true rfl), (Nat.le_of_ble_eq_true rfl)⟩ ⟨(Nat.le_of_ble_eq_true rfl), (Nat.le_of_ble_eq_true rfl)⟩ rfl hl.1 rfl (Nat.le_of_ble_eq_true rfl) dX3_init_35 (fun H locs hW => ?_)
  refine i_astq (t := 4) (q := 19) (qk := 23) (ci := 8) (E := "WhisperSeats$Visitor") (r := (RX8, TX8, 6)) B hW rfl (by decide) rfl (by decide) rfl rfl (Or.inl rfl) (z_ixd (by decide)) dX3_init_38 (fun H locs hW => ?_)
  have hW : i_W D sz 24 (j3_18_11 sz C v f) s.heap H _ := hW
  refine lv_iinc (v := 4) (lv' := [(2, .int (4)), (0, .ref (sz + 18)), (1, .ref v)]) hx hb dX3_init_39 hl (k := 0) rfl (by decide) (by decide) rfl (fun ls hl => ?_)
  refine lv_goto (tgt := 20) hx hb dX3_init_42 (by decide) ?_
  refine lv_iload_n hx hb dX3_init_20 rfl (lv_at hl 0 rfl) ?_
  refine lv_bipush (v := 8) hx hb dX3_init_21 (by decide) ?_
  refine lv_icmp_ge (tgt := 45) hx hb dX3_init_23 (by decide) (fun c1 => absurd c1 (by decide)) (fun c1 => ?_)
  refine lv_aload_n hx hb dX3_init_26 rfl (lv_at hl 1 rfl) ?_
  refine i_get (q := 18) (ci := 3) (k := 1) (C0 := RX3) (T := TX3) (N := 6) B hW (by decide) rfl rfl iX3 (by decide) q186 rfl rfl dX3_init_27 ?_
  refine lv_iload_n hx hb dX3_init_30 rfl (lv_at hl 0 rfl) ?_
  refine i_new (ci := 8) (fs := [.int 0, .int 0, .int 0, .int 0, .int 0, .int 0]) (C0 := RX8) (T := TX8) (N := 6) B hW iX8 tyX8 tyX8_ok q142 q144 q74 rfl dfX8 (Nat.le_of_ble_eq_true rfl) (Nat.le_of_ble_eq_true rfl) dX3_init_31 (fun H hW => ?_)
  have hW : i_W D sz 25 (j3_18_12 sz C v f) s.heap H _ := hW
  refine lv_dup hx hb dX3_init_34 rfl ?_
  refine i_cN (As := []) (rest := [.ref (sz + 24), .int (4), .ref (sz + 19)]) B hW (c_X8_init l D C sz 24 25 (j3_18_12 sz C v f)) isc_X8 q145 ⟨(Nat.le_of_ble_eq_true rfl), (Nat.le_of_ble_eq_true rfl)⟩ ⟨(Nat.le_of_ble_eq_true rfl), (Nat.le_of_ble_eq_true rfl)⟩ rfl hl.1 rfl (Nat.le_of_ble_eq_true rfl) dX3_init_35 (fun H locs hW => ?_)
  refine i_astq (t := 4) (q := 19) (qk := 24) (ci := 8) (E := "WhisperSeats$Visitor") (r := (RX8, TX8, 6)) B hW rfl (by decide) rfl (by decide) rfl rfl (Or.inl rfl) (z_ixd (by decide)) dX3_init_38 (fun H locs hW => ?_)
  have hW : i_W D sz 25 (j3_18_13 sz C v f) s.heap H _ := hW
  refine lv_iinc (v := 5) (lv' := [(2, .int (5)), (0, .ref (sz + 18)), (1, .ref v)]) hx hb dX3_init_39 hl (k := 0) rfl (by decide) (by decide) rfl (fun ls hl => ?_)
  refine lv_goto (tgt := 20) hx hb dX3_init_42 (by decide) ?_
  refine lv_iload_n hx hb dX3_init_20 rfl (lv_at hl 0 rfl) ?_
  refine lv_bipush (v := 8) hx hb dX3_init_21 (by decide) ?_
  refine lv_icmp_ge (tgt := 45) hx hb dX3_init_23 (by decide) (fun c1 => absurd c1 (by decide)) (fun c1 => ?_)
  refine lv_aload_n hx hb dX3_init_26 rfl (lv_at hl 1 rfl) ?_
  refine i_get (q := 18) (ci := 3) (k := 1) (C0 := RX3) (T := TX3) (N := 6) B hW (by decide) rfl rfl iX3 (by decide) q186 rfl rfl dX3_init_27 ?_
  refine lv_iload_n hx hb dX3_init_30 rfl (lv_at hl 0 rfl) ?_
  refine i_new (ci := 8) (fs := [.int 0, .int 0, .int 0, .int 0, .int 0, .int 0]) (C0 := RX8) (T := TX8) (N := 6) B hW iX8 tyX8 tyX8_ok q142 q144 q74 rfl dfX8 (Nat.le_of_ble_eq_true rfl) (Nat.le_of_ble_eq_true rfl) dX3_init_31 (fun H hW => ?_)
  have hW : i_W D sz 26 (j3_18_14 sz C v f) s.heap H _ := hW
  refine lv_dup hx hb dX3_init_34 rfl ?_
  refine i_cN (As := []) (rest := [.ref (sz + 25), .int (5), .ref (sz + 19)]) B hW (c_X8_init l D C sz 25 26 (j3_18_14 sz C v f)) isc_X8 q145 ⟨(Nat.le_of_ble_eq_true rfl), (Nat.le_of_ble_eq_true rfl)⟩ ⟨(Nat.le_of_ble_eq_true rfl), (Nat.le_of_ble_eq_true rfl)⟩ rfl hl.1 rfl (Nat.le_of_ble_eq_true rfl) dX3_init_35 (fun H locs hW => ?_)
  refine i_astq (t := 4) (q := 19) (qk := 25) (ci := 8) (E := "WhisperSeats$Visitor") (r := (RX8, TX8, 6)) B hW rfl (by decide) rfl (by decide) rfl rfl (Or.inl rfl) (z_ixd (by decide)) dX3_init_38 (fun H locs hW => ?_)
  have hW : i_W D sz 26 (j3_18_15 sz C v f) s.heap H _ := hW
  refine lv_iinc (v := 6) (lv' := [(2, .int (6)), (0, .ref (sz + 18)), (1, .ref v)]) hx hb dX3_init_39 hl (k := 0) rfl (by decide) (by decide) rfl (fun ls hl => ?_)
  refine lv_goto (tgt := 20) hx hb dX3_init_42 (by decide) ?_
  refine lv_iload_n hx hb dX3_init_20 rfl (lv_at hl 0 rfl) ?_
  refine lv_bipush (v := 8) hx hb dX3_init_21 (by decide) ?_
  refine lv_icmp_ge (tgt := 45) hx hb dX3_init_23 (by decide) (fun c1 => absurd c1 (by decide)) (fun c1 => ?_)
  refine lv_aload_n hx hb dX3_init_26 rfl (lv_at hl 1 rfl) ?_
  refine i_get (q := 18) (ci := 3) (k := 1) (C0 := RX3) (T := TX3) (N := 6) B hW (by decide) rfl rfl iX3 (by decide) q186 rfl rfl dX3_init_27 ?_
  refine lv_iload_n hx hb dX3_init_30 rfl (lv_at hl 0 rfl) ?_
  refine i_new (ci := 8) (fs := [.int 0, .int 0, .int 0, .int 0, .int 0, .int 0]) (C0 := RX8) (T := TX8) (N := 6) B hW iX8 tyX8 tyX8_ok q142 q144 q74 rfl dfX8 (Nat.le_of_ble_eq_true rfl) (Nat.le_of_ble_eq_true rfl) dX3_init_31 (fun H hW => ?_)
  have hW : i_W D sz 27 (j3_18_16 sz C v f) s.heap H _ := hW
  refine lv_dup hx hb dX3_init_34 rfl ?_
  refine i_cN (As := []) (rest := [.ref (sz + 26), .int (6), .ref (sz + 19)]) B hW (c_X8_init l D C sz 26 27 (j3_18_16 sz C v f)) isc_X8 q145 ⟨(Nat.le_of_ble_eq_true rfl), (Nat.le_of_ble_eq_true rfl)⟩ ⟨(Nat.le_of_ble_eq_true rfl), (Nat.le_of_ble_eq_true rfl)⟩ rfl hl.1 rfl (Nat.le_of_ble_eq_true rfl) dX3_init_35 (fun H locs hW => ?_)
  refine i_astq (t := 4) (q := 19) (qk := 26) (ci := 8) (E := "WhisperSeats$Visitor") (r := (RX8, TX8, 6)) B hW rfl (by decide) rfl (by decide) rfl rfl (Or.inl rfl) (z_ixd (by decide)) dX3_init_38 (fun H locs hW => ?_)
  have hW : i_W D sz 27 (j3_18_17 sz C v f) s.heap H _ := hW
  refine lv_iinc (v := 7) (lv' := [(2, .int (7)), (0, .ref (sz + 18)), (1, .ref v)]) hx hb dX3_init_39 hl (k := 0) rfl (by decide) (by decide) rfl (fun ls hl => ?_)
  refine lv_goto (tgt := 20) hx hb dX3_init_42 (by decide) ?_
  refine lv_iload_n hx hb dX3_init_20 rfl (lv_at hl 0 rfl) ?_
  refine lv_bipush (v := 8) hx hb dX3_init_21 (by decide) ?_
  refine lv_icmp_ge (tgt := 45) hx hb dX3_init_23 (by decide) (fun c1 => absurd c1 (by decide)) (fun c1 => ?_)
  refine lv_aload_n hx hb dX3_init_26 rfl (lv_at hl 1 rfl) ?_
  refine i_get (q := 18) (ci := 3) (k := 1) (C0 := RX3) (T := TX3) (N := 6) B hW (by decide) rfl rfl iX3 (by decide) q186 rfl rfl dX3_init_27 ?_
  refine lv_iload_n hx hb dX3_init_30 rfl (lv_at hl 0 rfl) ?_
  refine i_new (ci := 8) (fs := [.int 0, .int 0, .int 0, .int 0, .int 0, .int 0]) (C0 := RX8) (T := TX8) (N := 6) B hW iX8 tyX8 tyX8_ok q142 q144 q74 rfl dfX8 (Nat.le_of_ble_eq_true rfl) (Nat.le_of_ble_eq_true rfl) dX3_init_31 (fun H hW => ?_)
  have hW : i_W D sz 28 (j3_18_18 sz C v f) s.heap H _ := hW
  refine lv_dup hx hb dX3_init_34 rfl ?_
  refine i_cN (As := []) (rest := [.ref (sz + 27), .int (7), .ref (sz + 19)]) B hW (c_X8_init l D C sz 27 28 (j3_18_18 sz C v f)) isc_X8 q145 ⟨(Nat.le_of_ble_eq_true rfl), (Nat.le_of_ble_eq_true rfl)⟩ ⟨(Nat.le_of_ble_eq_true rfl), (Nat.le_of_ble_eq_true rfl)⟩ rfl hl.1 rfl (Nat.le_of_ble_eq_true rfl) dX3_init_35 (fun H locs hW => ?_)
  refine i_astq (t := 4) (q := 19) (qk := 27) (ci := 8) (E := "WhisperSeats$Visitor") (r := (RX8, TX8, 6)) B hW rfl (by decide) rfl (by decide) rfl rfl (Or.inl rfl) (z_ixd (by decide)) dX3_init_38 (fun H locs hW => ?_)
  have hW : i_W D sz 28 (j3_18_19 sz C v f) s.heap H _ := hW
  refine lv_iinc (v := 8) (lv' := [(2, .int (8)), (0, .ref (sz + 18)), (1, .ref v)]) hx hb dX3_init_39 hl (k := 0) rfl (by decide) (by decide) rfl (fun ls hl => ?_)
  refine lv_goto (tgt := 20) hx hb dX3_init_42 (by decide) ?_
  refine lv_iload_n hx hb dX3_init_20 rfl (lv_at hl 0 rfl) ?_
  refine lv_bipush (v := 8) hx hb dX3_init_21 (by decide) ?_
  refine lv_icmp_ge (tgt := 45) hx hb dX3_init_23 (by decide) (fun c1 => ?_) (fun c1 => absurd (by decide) c1)
  refine lv_aload_n hx hb dX3_init_45 rfl (lv_at hl 1 rfl) ?_
  refine lv_iconst (v := 0) hx hb dX3_init_46 (by decide) ?_
  refine i_put (q := 18) (ci := 3) (k := 2) (C0 := RX3) (T := TX3) (N := 6) (ty := tyX3 2) B hW (by decide) rfl rfl iX3 tyX3 tyX3_ok nmX3 (by decide) q187 rfl rfl (tyX3_ok 2 (by decide)) rfl rfl (Nat.le_of_ble_eq_true rfl) dX3_init_47 (fun H locs hW => ?_)
  have hW : i_W D sz 28 (j3_18_20 sz C v f) s.heap H _ := hW
  refine lv_aload_n hx hb dX3_init_50 rfl (lv_at hl 1 rfl) ?_
  refine lv_iconst (v := 0) hx hb dX3_init_51 (by decide) ?_
  refine i_put (q := 18) (ci := 3) (k := 3) (C0 := RX3) (T := TX3) (N := 6) (ty := tyX3 3) B hW (by decide) rfl rfl iX3 tyX3 tyX3_ok nmX3 (by decide) q189 rfl rfl (tyX3_ok 3 (by decide)) rfl rfl (Nat.le_of_ble_eq_true rfl) dX3_init_52 (fun H locs hW => ?_)
  have hW : i_W D sz 28 (j3_18_21 sz C v f) s.heap H _ := hW
  refine lv_aload_n hx hb dX3_init_55 rfl (lv_at hl 1 rfl) ?_
  refine lv_iconst (v := 0) hx hb dX3_init_56 (by decide) ?_
  refine i_put (q := 18) (ci := 3) (k := 4) (C0 := RX3) (T := TX3) (N := 6) (ty := tyX3 4) B hW (by decide) rfl rfl iX3 tyX3 tyX3_ok nmX3 (by decide) q192 rfl rfl (tyX3_ok 4 (by decide)) rfl rfl (Nat.le_of_ble_eq_true rfl) dX3_init_57 (fun H locs hW => ?_)
  have hW : i_W D sz 28 (j3_18_22 sz C v f) s.heap H _ := hW
  refine lv_aload_n hx hb dX3_init_60 rfl (lv_at hl 1 rfl) ?_
  refine lv_iconst (v := -1) hx hb dX3_init_61 (by decide) ?_
  refine i_put (q := 18) (ci := 3) (k := 5) (C0 := RX3) (T := TX3) (N := 6) (ty := tyX3 5) B hW (by decide) rfl rfl iX3 tyX3 tyX3_ok nmX3 (by decide) q194 rfl rfl (tyX3_ok 5 (by decide)) rfl rfl (Nat.le_of_ble_eq_true rfl) dX3_init_62 (fun H locs hW => ?_)
  have hW : i_W D sz 28 (j3_18_23 sz C v f) s.heap H _ := hW
  refine W.widen (k := 9) (n := 56) (Nat.le_of_ble_eq_true rfl) (Nat.le_of_ble_eq_true rfl) ?_
  exact i_rv B hr hlk hW dX3_init_65
def j3_28_0 (sz : Nat) (C : Nat → ClassId) (v : Nat) (f : Nat → va_E) : Nat → va_E := f
def j3_28_1 (sz : Nat) (C : Nat → ClassId) (v : Nat) (f : Nat → va_E) : Nat → va_E := va_up (j3_28_0 sz C v f) 28 (.inr (3, [.ref v, .null, .int 0, .int 0, .int 0, .int 0]))
def j3_28_2 (sz : Nat) (C : Nat → ClassId) (v : Nat) (f : Nat → va_E) : Nat → va_E := va_up (j3_28_1 sz C v f) 29 (.inl (C 4, 8, .inr (.inr (.inr (.inr (fun _ => none))))))
def j3_28_3 (sz : Nat) (C : Nat → ClassId) (v : Nat) (f : Nat → va_E) : Nat → va_E := va_up (j3_28_2 sz C v f) 28 (.inr (3, [.ref v, .ref (sz + 29), .int 0, .int 0, .int 0, .int 0]))
def j3_28_4 (sz : Nat) (C : Nat → ClassId) (v : Nat) (f : Nat → va_E) : Nat → va_E := va_up (j3_28_3 sz C v f) 30 (.inr (8, [.int 0, .int 0, .int 0, .int 0, .int 0, .int 0]))
def j3_28_5 (sz : Nat) (C : Nat → ClassId) (v : Nat) (f : Nat → va_E) : Nat → va_E := va_up (j3_28_4 sz C v f) 29 (.inl (C 4, 8, .inr (.inr (.inr (.inr (va_up (fun _ => none) 0 (some (sz + 30))))))))
def j3_28_6 (sz : Nat) (C : Nat → ClassId) (v : Nat) (f : Nat → va_E) : Nat → va_E := va_up (j3_28_5 sz C v f) 31 (.inr (8, [.int 0, .int 0, .int 0, .int 0, .int 0, .int 0]))
def j3_28_7 (sz : Nat) (C : Nat → ClassId) (v : Nat) (f : Nat → va_E) : Nat → va_E := va_up (j3_28_6 sz C v f) 29 (.inl (C 4, 8, .inr (.inr (.inr (.inr (va_up (va_up (fun _ => none) 0 (some (sz + 30))) 1 (some (sz + 31))))))))
def j3_28_8 (sz : Nat) (C : Nat → ClassId) (v : Nat) (f : Nat → va_E) : Nat → va_E := va_up (j3_28_7 sz C v f) 32 (.inr (8, [.int 0, .int 0, .int 0, .int 0, .int 0, .int 0]))
def j3_28_9 (sz : Nat) (C : Nat → ClassId) (v : Nat) (f : Nat → va_E) : Nat → va_E := va_up (j3_28_8 sz C v f) 29 (.inl (C 4, 8, .inr (.inr (.inr (.inr (va_up (va_up (va_up (fun _ => none) 0 (some (sz + 30))) 1 (some (sz + 31))) 2 (some (sz + 32))))))))
def j3_28_10 (sz : Nat) (C : Nat → ClassId) (v : Nat) (f : Nat → va_E) : Nat → va_E := va_up (j3_28_9 sz C v f) 33 (.inr (8, [.int 0, .int 0, .int 0, .int 0, .int 0, .int 0]))
def j3_28_11 (sz : Nat) (C : Nat → ClassId) (v : Nat) (f : Nat → va_E) : Nat → va_E := va_up (j3_28_10 sz C v f) 29 (.inl (C 4, 8, .inr (.inr (.inr (.inr (va_up (va_up (va_up (va_up (fun _ => none) 0 (some (sz + 30))) 1 (some (sz + 31))) 2 (some (sz + 32))) 3 (some (sz + 33))))))))
def j3_28_12 (sz : Nat) (C : Nat → ClassId) (v : Nat) (f : Nat → va_E) : Nat → va_E := va_up (j3_28_11 sz C v f) 34 (.inr (8, [.int 0, .int 0, .int 0, .int 0, .int 0, .int 0]))
def j3_28_13 (sz : Nat) (C : Nat → ClassId) (v : Nat) (f : Nat → va_E) : Nat → va_E := va_up (j3_28_12 sz C v f) 29 (.inl (C 4, 8, .inr (.inr (.inr (.inr (va_up (va_up (va_up (va_up (va_up (fun _ => none) 0 (some (sz + 30))) 1 (some (sz + 31))) 2 (some (sz + 32))) 3 (some (sz + 33))) 4 (some (sz + 34))))))))
def j3_28_14 (sz : Nat) (C : Nat → ClassId) (v : Nat) (f : Nat → va_E) : Nat → va_E := va_up (j3_28_13 sz C v f) 35 (.inr (8, [.int 0, .int 0, .int 0, .int 0, .int 0, .int 0]))
def j3_28_15 (sz : Nat) (C : Nat → ClassId) (v : Nat) (f : Nat → va_E) : Nat → va_E := va_up (j3_28_14 sz C v f) 29 (.inl (C 4, 8, .inr (.inr (.inr (.inr (va_up (va_up (va_up (va_up (va_up (va_up (fun _ => none) 0 (some (sz + 30))) 1 (some (sz + 31))) 2 (some (sz + 32))) 3 (some (sz + 33))) 4 (some (sz + 34))) 5 (some (sz + 35))))))))
def j3_28_16 (sz : Nat) (C : Nat → ClassId) (v : Nat) (f : Nat → va_E) : Nat → va_E := va_up (j3_28_15 sz C v f) 36 (.inr (8, [.int 0, .int 0, .int 0, .int 0, .int 0, .int 0]))
def j3_28_17 (sz : Nat) (C : Nat → ClassId) (v : Nat) (f : Nat → va_E) : Nat → va_E := va_up (j3_28_16 sz C v f) 29 (.inl (C 4, 8, .inr (.inr (.inr (.inr (va_up (va_up (va_up (va_up (va_up (va_up (va_up (fun _ => none) 0 (some (sz + 30))) 1 (some (sz + 31))) 2 (some (sz + 32))) 3 (some (sz + 33))) 4 (some (sz + 34))) 5 (some (sz + 35))) 6 (some (sz + 36))))))))
def j3_28_18 (sz : Nat) (C : Nat → ClassId) (v : Nat) (f : Nat → va_E) : Nat → va_E := va_up (j3_28_17 sz C v f) 37 (.inr (8, [.int 0, .int 0, .int 0, .int 0, .int 0, .int 0]))
def j3_28_19 (sz : Nat) (C : Nat → ClassId) (v : Nat) (f : Nat → va_E) : Nat → va_E := va_up (j3_28_18 sz C v f) 29 (.inl (C 4, 8, .inr (.inr (.inr (.inr (va_up (va_up (va_up (va_up (va_up (va_up (va_up (va_up (fun _ => none) 0 (some (sz + 30))) 1 (some (sz + 31))) 2 (some (sz + 32))) 3 (some (sz + 33))) 4 (some (sz + 34))) 5 (some (sz + 35))) 6 (some (sz + 36))) 7 (some (sz + 37))))))))
def j3_28_20 (sz : Nat) (C : Nat → ClassId) (v : Nat) (f : Nat → va_E) : Nat → va_E := va_up (j3_28_19 sz C v f) 28 (.inr (3, [.ref v, .ref (sz + 29), .int (0), .int 0, .int 0, .int 0]))
def j3_28_21 (sz : Nat) (C : Nat → ClassId) (v : Nat) (f : Nat → va_E) : Nat → va_E := va_up (j3_28_20 sz C v f) 28 (.inr (3, [.ref v, .ref (sz + 29), .int (0), .int (0), .int 0, .int 0]))
def j3_28_22 (sz : Nat) (C : Nat → ClassId) (v : Nat) (f : Nat → va_E) : Nat → va_E := va_up (j3_28_21 sz C v f) 28 (.inr (3, [.ref v, .ref (sz + 29), .int (0), .int (0), .int (0), .int 0]))
def j3_28_23 (sz : Nat) (C : Nat → ClassId) (v : Nat) (f : Nat → va_E) : Nat → va_E := va_up (j3_28_22 sz C v f) 28 (.inr (3, [.ref v, .ref (sz + 29), .int (0), .int (0), .int (0), .int (-1)]))
set_option maxHeartbeats 4000000 in
set_option maxRecDepth 100000 in
theorem c_X3_init_28 (l : Launch) (D : va_G) (C : Nat → ClassId) (sz : Nat) (v : Nat) (f : Nat → va_E) (hf0 : f 28 = .inr (3, [.null, .null, .int 0, .int 0, .int 0, .int 0])) : i_Fn l D C sz yX3_init cX3_init 3 2 40 9 56 [.ref (sz + 28), .ref v] 29 f 38 (j3_28_23 sz C v f) := by
  refine i_Fn.of (by decide) rfl (Nat.le_of_ble_eq_true rfl) ?_
  intro p e s m below meth c ls B hr hlk hnm hW hl
  have B : i_B D C p s m _ c cX3_init 3 RX3 := B
  have hl : lv_has ls 3 [(0, .ref (sz + 28)), (1, .ref v)] := hl
  have hx := B.1
  have hb := B.2.1
  have hml := B.2.2.1
  have ho := B.2.2.2.1
  have hw := B.2.2.2.2.1
  have hW : i_W D sz 29 (j3_28_0 sz C v f) s.heap s.heap [] := hW
  refine lv_aload_n hx hb dX3_init_0 rfl (lv_at hl 0 rfl) ?_
  refine W.objInit hx hb ho (hw _ q141) (hw _ q91) (hw _ qobj_code) rfl (by rw [hml]; exact hl.1) rfl dX3_init_1 (Nat.le_of_ble_eq_true rfl) (Nat.le_of_ble_eq_true rfl) ?_
  refine W.eq (g2 := F0 m 4 ls []) rfl ?_
  refine lv_aload_n hx hb dX3_init_4 rfl (lv_at hl 0 rfl) ?_
  refine lv_aload_n hx hb dX3_init_5 rfl (lv_at hl 1 rfl) ?_
  refine i_putF (q := 28) (ci := 3) (k := 0) (C0 := RX3) (T := TX3) (N := 6) (ty := tyX3 0) B hW (by decide) hf0 rfl iX3 tyX3 tyX3_ok nmX3 (by decide) q185 rfl rfl hnm rfl (tyX3_ok 0 (by decide)) rfl rfl (Nat.le_of_ble_eq_true rfl) dX3_init_6 (fun H locs hW => ?_)
  have hW : i_W D sz 29 (j3_28_1 sz C v f) s.heap H _ := hW
  refine lv_aload_n hx hb dX3_init_9 rfl (lv_at hl 0 rfl) ?_
  refine lv_bipush (v := 8) hx hb dX3_init_10 (by decide) ?_
  refine i_newQ (t := 4) (N := 8) B hW rfl B.2.2.2.2.2.2.2.1.2.2 q142 (by decide) (by decide) (Nat.le_of_ble_eq_true rfl) (Nat.le_of_ble_eq_true rfl) (Nat.le_of_ble_eq_true rfl) dX3_init_12 (fun H hW => ?_)
  have hW : i_W D sz 30 (j3_28_2 sz C v f) s.heap H _ := hW
  refine i_putF (q := 28) (ci := 3) (k := 1) (C0 := RX3) (T := TX3) (N := 6) (ty := tyX3 1) B hW (by decide) rfl rfl iX3 tyX3 tyX3_ok nmX3 (by decide) q186 rfl rfl hnm rfl (tyX3_ok 1 (by decide)) rfl rfl (Nat.le_of_ble_eq_true rfl) dX3_init_15 (fun H locs hW => ?_)
  have hW : i_W D sz 30 (j3_28_3 sz C v f) s.heap H _ := hW
  refine lv_iconst (v := 0) hx hb dX3_init_18 (by decide) ?_
  refine lv_istore_n (lv' := [(2, .int (0)), (0, .ref (sz + 28)), (1, .ref v)]) hx hb dX3_init_19 rfl hl (by decide) rfl (fun ls hl => ?_)
  refine lv_iload_n hx hb dX3_init_20 rfl (lv_at hl 0 rfl) ?_
  refine lv_bipush (v := 8) hx hb dX3_init_21 (by decide) ?_
  refine lv_icmp_ge (tgt := 45) hx hb dX3_init_23 (by decide) (fun c1 => absurd c1 (by decide)) (fun c1 => ?_)
  refine lv_aload_n hx hb dX3_init_26 rfl (lv_at hl 1 rfl) ?_
  refine i_get (q := 28) (ci := 3) (k := 1) (C0 := RX3) (T := TX3) (N := 6) B hW (by decide) rfl rfl iX3 (by decide) q186 rfl rfl dX3_init_27 ?_
  refine lv_iload_n hx hb dX3_init_30 rfl (lv_at hl 0 rfl) ?_
  refine i_new (ci := 8) (fs := [.int 0, .int 0, .int 0, .int 0, .int 0, .int 0]) (C0 := RX8) (T := TX8) (N := 6) B hW iX8 tyX8 tyX8_ok q142 q144 q74 rfl dfX8 (Nat.le_of_ble_eq_true rfl) (Nat.le_of_ble_eq_true rfl) dX3_init_31 (fun H hW => ?_)
  have hW : i_W D sz 31 (j3_28_4 sz C v f) s.heap H _ := hW
  refine lv_dup hx hb dX3_init_34 rfl ?_
  refine i_cN (As := []) (rest := [.ref (sz + 30), .int (0), .ref (sz + 29)]) B hW (c_X8_init l D C sz 30 31 (j3_28_4 sz C v f)) isc_X8 q145 ⟨(Nat.le_of_ble_eq_true rfl), (Nat.le_of_ble_eq_true rfl)⟩ ⟨(Nat.le_of_ble_eq_true rfl), (Nat.le_of_ble_eq_true rfl)⟩ rfl hl.1 rfl (Nat.le_of_ble_eq_true rfl) dX3_init_35 (fun H locs hW => ?_)
  refine i_astq (t := 4) (q := 29) (qk := 30) (ci := 8) (E := "WhisperSeats$Visitor") (r := (RX8, TX8, 6)) B hW rfl (by decide) rfl (by decide) rfl rfl (Or.inl rfl) (z_ixd (by decide)) dX3_init_38 (fun H locs hW => ?_)
  have hW : i_W D sz 31 (j3_28_5 sz C v f) s.heap H _ := hW
  refine lv_iinc (v := 1) (lv' := [(2, .int (1)), (0, .ref (sz + 28)), (1, .ref v)]) hx hb dX3_init_39 hl (k := 0) rfl (by decide) (by decide) rfl (fun ls hl => ?_)
  refine lv_goto (tgt := 20) hx hb dX3_init_42 (by decide) ?_
  refine lv_iload_n hx hb dX3_init_20 rfl (lv_at hl 0 rfl) ?_
  refine lv_bipush (v := 8) hx hb dX3_init_21 (by decide) ?_
  refine lv_icmp_ge (tgt := 45) hx hb dX3_init_23 (by decide) (fun c1 => absurd c1 (by decide)) (fun c1 => ?_)
  refine lv_aload_n hx hb dX3_init_26 rfl (lv_at hl 1 rfl) ?_
  refine i_get (q := 28) (ci := 3) (k := 1) (C0 := RX3) (T := TX3) (N := 6) B hW (by decide) rfl rfl iX3 (by decide) q186 rfl rfl dX3_init_27 ?_
  refine lv_iload_n hx hb dX3_init_30 rfl (lv_at hl 0 rfl) ?_
  refine i_new (ci := 8) (fs := [.int 0, .int 0, .int 0, .int 0, .int 0, .int 0]) (C0 := RX8) (T := TX8) (N := 6) B hW iX8 tyX8 tyX8_ok q142 q144 q74 rfl dfX8 (Nat.le_of_ble_eq_true rfl) (Nat.le_of_ble_eq_true rfl) dX3_init_31 (fun H hW => ?_)
  have hW : i_W D sz 32 (j3_28_6 sz C v f) s.heap H _ := hW
  refine lv_dup hx hb dX3_init_34 rfl ?_
  refine i_cN (As := []) (rest := [.ref (sz + 31), .int (1), .ref (sz + 29)]) B hW (c_X8_init l D C sz 31 32 (j3_28_6 sz C v f)) isc_X8 q145 ⟨(Nat.le_of_ble_eq_true rfl), (Nat.le_of_ble_eq_true rfl)⟩ ⟨(Nat.le_of_ble_eq_true rfl), (Nat.le_of_ble_eq_true rfl)⟩ rfl hl.1 rfl (Nat.le_of_ble_eq_true rfl) dX3_init_35 (fun H locs hW => ?_)
  refine i_astq (t := 4) (q := 29) (qk := 31) (ci := 8) (E := "WhisperSeats$Visitor") (r := (RX8, TX8, 6)) B hW rfl (by decide) rfl (by decide) rfl rfl (Or.inl rfl) (z_ixd (by decide)) dX3_init_38 (fun H locs hW => ?_)
  have hW : i_W D sz 32 (j3_28_7 sz C v f) s.heap H _ := hW
  refine lv_iinc (v := 2) (lv' := [(2, .int (2)), (0, .ref (sz + 28)), (1, .ref v)]) hx hb dX3_init_39 hl (k := 0) rfl (by decide) (by decide) rfl (fun ls hl => ?_)
  refine lv_goto (tgt := 20) hx hb dX3_init_42 (by decide) ?_
  refine lv_iload_n hx hb dX3_init_20 rfl (lv_at hl 0 rfl) ?_
  refine lv_bipush (v := 8) hx hb dX3_init_21 (by decide) ?_
  refine lv_icmp_ge (tgt := 45) hx hb dX3_init_23 (by decide) (fun c1 => absurd c1 (by decide)) (fun c1 => ?_)
  refine lv_aload_n hx hb dX3_init_26 rfl (lv_at hl 1 rfl) ?_
  refine i_get (q := 28) (ci := 3) (k := 1) (C0 := RX3) (T := TX3) (N := 6) B hW (by decide) rfl rfl iX3 (by decide) q186 rfl rfl dX3_init_27 ?_
  refine lv_iload_n hx hb dX3_init_30 rfl (lv_at hl 0 rfl) ?_
  refine i_new (ci := 8) (fs := [.int 0, .int 0, .int 0, .int 0, .int 0, .int 0]) (C0 := RX8) (T := TX8) (N := 6) B hW iX8 tyX8 tyX8_ok q142 q144 q74 rfl dfX8 (Nat.le_of_ble_eq_true rfl) (Nat.le_of_ble_eq_true rfl) dX3_init_31 (fun H hW => ?_)
  have hW : i_W D sz 33 (j3_28_8 sz C v f) s.heap H _ := hW
  refine lv_dup hx hb dX3_init_34 rfl ?_
  refine i_cN (As := []) (rest := [.ref (sz + 32), .int (2), .ref (sz + 29)]) B hW (c_X8_init l D C sz 32 33 (j3_28_8 sz C v f)) isc_X8 q145 ⟨(Nat.le_of_ble_eq_true rfl), (Nat.le_of_ble_eq_true rfl)⟩ ⟨(Nat.le_of_ble_eq_true rfl), (Nat.le_of_ble_eq_true rfl)⟩ rfl hl.1 rfl (Nat.le_of_ble_eq_true rfl) dX3_init_35 (fun H locs hW => ?_)
  refine i_astq (t := 4) (q := 29) (qk := 32) (ci := 8) (E := "WhisperSeats$Visitor") (r := (RX8, TX8, 6)) B hW rfl (by decide) rfl (by decide) rfl rfl (Or.inl rfl) (z_ixd (by decide)) dX3_init_38 (fun H locs hW => ?_)
  have hW : i_W D sz 33 (j3_28_9 sz C v f) s.heap H _ := hW
  refine lv_iinc (v := 3) (lv' := [(2, .int (3)), (0, .ref (sz + 28)), (1, .ref v)]) hx hb dX3_init_39 hl (k := 0) rfl (by decide) (by decide) rfl (fun ls hl => ?_)
  refine lv_goto (tgt := 20) hx hb dX3_init_42 (by decide) ?_
  refine lv_iload_n hx hb dX3_init_20 rfl (lv_at hl 0 rfl) ?_
  refine lv_bipush (v := 8) hx hb dX3_init_21 (by decide) ?_
  refine lv_icmp_ge (tgt := 45) hx hb dX3_init_23 (by decide) (fun c1 => absurd c1 (by decide)) (fun c1 => ?_)
  refine lv_aload_n hx hb dX3_init_26 rfl (lv_at hl 1 rfl) ?_
  refine i_get (q := 28) (ci := 3) (k := 1) (C0 := RX3) (T := TX3) (N := 6) B hW (by decide) rfl rfl iX3 (by decide) q186 rfl rfl dX3_init_27 ?_
  refine lv_iload_n hx hb dX3_init_30 rfl (lv_at hl 0 rfl) ?_
  refine i_new (ci := 8) (fs := [.int 0, .int 0, .int 0, .int 0, .int 0, .int 0]) (C0 := RX8) (T := TX8) (N := 6) B hW iX8 tyX8 tyX8_ok q142 q144 q74 rfl dfX8 (Nat.le_of_ble_eq_true rfl) (Nat.le_of_ble_eq_true rfl) dX3_init_31 (fun H hW => ?_)
  have hW : i_W D sz 34 (j3_28_10 sz C v f) s.heap H _ := hW
  refine lv_dup hx hb dX3_init_34 rfl ?_
  refine i_cN (As := []) (rest := [.ref (sz + 33), .int (3), .ref (sz + 29)]) B hW (c_X8_init l D C sz 33 34 (j3_28_10 sz C v f)) isc_X8 q145 ⟨(Nat.le_of_ble_eq_true rfl), (Nat.le_of_ble_eq_true rfl)⟩ ⟨(Nat.le_of_ble_eq_true rfl), (Nat.le_of_ble_eq_true rfl)⟩ rfl hl.1 rfl (Nat.le_of_ble_eq_true rfl) dX3_init_35 (fun H locs hW => ?_)
  refine i_astq (t := 4) (q := 29) (qk := 33) (ci := 8) (E := "WhisperSeats$Visitor") (r := (RX8, TX8, 6)) B hW rfl (by decide) rfl (by decide) rfl rfl (Or.inl rfl) (z_ixd (by decide)) dX3_init_38 (fun H locs hW => ?_)
  have hW : i_W D sz 34 (j3_28_11 sz C v f) s.heap H _ := hW
  refine lv_iinc (v := 4) (lv' := [(2, .int (4)), (0, .ref (sz + 28)), (1, .ref v)]) hx hb dX3_init_39 hl (k := 0) rfl (by decide) (by decide) rfl (fun ls hl => ?_)
  refine lv_goto (tgt := 20) hx hb dX3_init_42 (by decide) ?_
  refine lv_iload_n hx hb dX3_init_20 rfl (lv_at hl 0 rfl) ?_
  refine lv_bipush (v := 8) hx hb dX3_init_21 (by decide) ?_
  refine lv_icmp_ge (tgt := 45) hx hb dX3_init_23 (by decide) (fun c1 => absurd c1 (by decide)) (fun c1 => ?_)
  refine lv_aload_n hx hb dX3_init_26 rfl (lv_at hl 1 rfl) ?_
  refine i_get (q := 28) (ci := 3) (k := 1) (C0 := RX3) (T := TX3) (N := 6) B hW (by decide) rfl rfl iX3 (by decide) q186 rfl rfl dX3_init_27 ?_
  refine lv_iload_n hx hb dX3_init_30 rfl (lv_at hl 0 rfl) ?_
  refine i_new (ci := 8) (fs := [.int 0, .int 0, .int 0, .int 0, .int 0, .int 0]) (C0 := RX8) (T := TX8) (N := 6) B hW iX8 tyX8 tyX8_ok q142 q144 q74 rfl dfX8 (Nat.le_of_ble_eq_true rfl) (Nat.le_of_ble_eq_true rfl) dX3_init_31 (fun H hW => ?_)
  have hW : i_W D sz 35 (j3_28_12 sz C v f) s.heap H _ := hW
  refine lv_dup hx hb dX3_init_34 rfl ?_
  refine i_cN (As := []) (rest := [.ref (sz + 34), .int (4), .ref (sz + 29)]) B hW (c_X8_init l D C sz 34 35 (j3_28_12 sz C v f)) isc_X8 q145 ⟨(Nat.le_of_ble_eq_true rfl), (Nat.le_of_ble_eq_true rfl)⟩ ⟨(Nat.le_of_ble_eq_true rfl), (Nat.le_of_ble_eq_true rfl)⟩ rfl hl.1 rfl (Nat.le_of_ble_eq_true rfl) dX3_init_35 (fun H locs hW => ?_)
  refine i_astq (t := 4) (q := 29) (qk := 34) (ci := 8) (E := "WhisperSeats$Visitor") (r := (RX8, TX8, 6)) B hW rfl (by decide) rfl (by decide) rfl rfl (Or.inl rfl) (z_ixd (by decide)) dX3_init_38 (fun H locs hW => ?_)
  have hW : i_W D sz 35 (j3_28_13 sz C v f) s.heap H _ := hW
  refine lv_iinc (v := 5) (lv' := [(2, .int (5)), (0, .ref (sz + 28)), (1, .ref v)]) hx hb dX3_init_39 hl (k := 0) rfl (by decide) (by decide) rfl (fun ls hl => ?_)
  refine lv_goto (tgt := 20) hx hb dX3_init_42 (by decide) ?_
  refine lv_iload_n hx hb dX3_init_20 rfl (lv_at hl 0 rfl) ?_
  refine lv_bipush (v := 8) hx hb dX3_init_21 (by decide) ?_
  refine lv_icmp_ge (tgt := 45) hx hb dX3_init_23 (by decide) (fun c1 => absurd c1 (by decide)) (fun c1 => ?_)
  refine lv_aload_n hx hb dX3_init_26 rfl (lv_at hl 1 rfl) ?_
  refine i_get (q := 28) (ci := 3) (k := 1) (C0 := RX3) (T := TX3) (N := 6) B hW (by decide) rfl rfl iX3 (by decide) q186 rfl rfl dX3_init_27 ?_
  refine lv_iload_n hx hb dX3_init_30 rfl (lv_at hl 0 rfl) ?_
  refine i_new (ci := 8) (fs := [.int 0, .int 0, .int 0, .int 0, .int 0, .int 0]) (C0 := RX8) (T := TX8) (N := 6) B hW iX8 tyX8 tyX8_ok q142 q144 q74 rfl dfX8 (Nat.le_of_ble_eq_true rfl) (Nat.le_of_ble_eq_true rfl) dX3_init_31 (fun H hW => ?_)
  have hW : i_W D sz 36 (j3_28_14 sz C v f) s.heap H _ := hW
  refine lv_dup hx hb dX3_init_34 rfl ?_
  refine i_cN (As := []) (rest := [.ref (sz + 35), .int (5), .ref (sz + 29)]) B hW (c_X8_init l D C sz 35 36 (j3_28_14 sz C v f)) isc_X8 q145 ⟨(Nat.le_of_ble_eq_true rfl), (Nat.le_of_ble_eq_true rfl)⟩ ⟨(Nat.le_of_ble_eq_true rfl), (Nat.le_of_ble_eq_true rfl)⟩ rfl hl.1 rfl (Nat.le_of_ble_eq_true rfl) dX3_init_35 (fun H locs hW => ?_)
  refine i_astq (t := 4) (q := 29) (qk := 35) (ci := 8) (E := "WhisperSeats$Visitor") (r := (RX8, TX8, 6)) B hW rfl (by decide) rfl (by decide) rfl rfl (Or.inl rfl) (z_ixd (by decide)) dX3_init_38 (fun H locs hW => ?_)
  have hW : i_W D sz 36 (j3_28_15 sz C v f) s.heap H _ := hW
  refine lv_iinc (v := 6) (lv' := [(2, .int (6)), (0, .ref (sz + 28)), (1, .ref v)]) hx hb dX3_init_39 hl (k := 0) rfl (by decide) (by decide) rfl (fun ls hl => ?_)
  refine lv_goto (tgt := 20) hx hb dX3_init_42 (by decide) ?_
  refine lv_iload_n hx hb dX3_init_20 rfl (lv_at hl 0 rfl) ?_
  refine lv_bipush (v := 8) hx hb dX3_init_21 (by decide) ?_
  refine lv_icmp_ge (tgt := 45) hx hb dX3_init_23 (by decide) (fun c1 => absurd c1 (by decide)) (fun c1 => ?_)
  refine lv_aload_n hx hb dX3_init_26 rfl (lv_at hl 1 rfl) ?_
  refine i_get (q := 28) (ci := 3) (k := 1) (C0 := RX3) (T := TX3) (N := 6) B hW (by decide) rfl rfl iX3 (by decide) q186 rfl rfl dX3_init_27 ?_
  refine lv_iload_n hx hb dX3_init_30 rfl (lv_at hl 0 rfl) ?_
  refine i_new (ci := 8) (fs := [.int 0, .int 0, .int 0, .int 0, .int 0, .int 0]) (C0 := RX8) (T := TX8) (N := 6) B hW iX8 tyX8 tyX8_ok q142 q144 q74 rfl dfX8 (Nat.le_of_ble_eq_true rfl) (Nat.le_of_ble_eq_true rfl) dX3_init_31 (fun H hW => ?_)
  have hW : i_W D sz 37 (j3_28_16 sz C v f) s.heap H _ := hW
  refine lv_dup hx hb dX3_init_34 rfl ?_
  refine i_cN (As := []) (rest := [.ref (sz + 36), .int (6), .ref (sz + 29)]) B hW (c_X8_init l D C sz 36 37 (j3_28_16 sz C v f)) isc_X8 q145 ⟨(Nat.le_of_ble_eq_true rfl), (Nat.le_of_ble_eq_true rfl)⟩ ⟨(Nat.le_of_ble_eq_true rfl), (Nat.le_of_ble_eq_true rfl)⟩ rfl hl.1 rfl (Nat.le_of_ble_eq_true rfl) dX3_init_35 (fun H locs hW => ?_)
  refine i_astq (t := 4) (q := 29) (qk := 36) (ci := 8) (E := "WhisperSeats$Visitor") (r := (RX8, TX8, 6)) B hW rfl (by decide) rfl (by decide) rfl rfl (Or.inl rfl) (z_ixd (by decide)) dX3_init_38 (fun H locs hW => ?_)
  have hW : i_W D sz 37 (j3_28_17 sz C v f) s.heap H _ := hW
  refine lv_iinc (v := 7) (lv' := [(2, .int (7)), (0, .ref (sz + 28)), (1, .ref v)]) hx hb dX3_init_39 hl (k := 0) rfl (by decide) (by decide) rfl (fun ls hl => ?_)
  refine lv_goto (tgt := 20) hx hb dX3_init_42 (by decide) ?_
  refine lv_iload_n hx hb dX3_init_20 rfl (lv_at hl 0 rfl) ?_
  refine lv_bipush (v := 8) hx hb dX3_init_21 (by decide) ?_
  refine lv_icmp_ge (tgt := 45) hx hb dX3_init_23 (by decide) (fun c1 => absurd c1 (by decide)) (fun c1 => ?_)
  refine lv_aload_n hx hb dX3_init_26 rfl (lv_at hl 1 rfl) ?_
  refine i_get (q := 28) (ci := 3) (k := 1) (C0 := RX3) (T := TX3) (N := 6) B hW (by decide) rfl rfl iX3 (by decide) q186 rfl rfl dX3_init_27 ?_
  refine lv_iload_n hx hb dX3_init_30 rfl (lv_at hl 0 rfl) ?_
  refine i_new (ci := 8) (fs := [.int 0, .int 0, .int 0, .int 0, .int 0, .int 0]) (C0 := RX8) (T := TX8) (N := 6) B hW iX8 tyX8 tyX8_ok q142 q144 q74 rfl dfX8 (Nat.le_of_ble_eq_true rfl) (Nat.le_of_ble_eq_true rfl) dX3_init_31 (fun H hW => ?_)
  have hW : i_W D sz 38 (j3_28_18 sz C v f) s.heap H _ := hW
  refine lv_dup hx hb dX3_init_34 rfl ?_
  refine i_cN (As := []) (rest := [.ref (sz + 37), .int (7), .ref (sz + 29)]) B hW (c_X8_init l D C sz 37 38 (j3_28_18 sz C v f)) isc_X8 q145 ⟨(Nat.le_of_ble_eq_true rfl), (Nat.le_of_ble_eq_true rfl)⟩ ⟨(Nat.le_of_ble_eq_true rfl), (Nat.le_of_ble_eq_true rfl)⟩ rfl hl.1 rfl (Nat.le_of_ble_eq_true rfl) dX3_init_35 (fun H locs hW => ?_)
  refine i_astq (t := 4) (q := 29) (qk := 37) (ci := 8) (E := "WhisperSeats$Visitor") (r := (RX8, TX8, 6)) B hW rfl (by decide) rfl (by decide) rfl rfl (Or.inl rfl) (z_ixd (by decide)) dX3_init_38 (fun H locs hW => ?_)
  have hW : i_W D sz 38 (j3_28_19 sz C v f) s.heap H _ := hW
  refine lv_iinc (v := 8) (lv' := [(2, .int (8)), (0, .ref (sz + 28)), (1, .ref v)]) hx hb dX3_init_39 hl (k := 0) rfl (by decide) (by decide) rfl (fun ls hl => ?_)
  refine lv_goto (tgt := 20) hx hb dX3_init_42 (by decide) ?_
  refine lv_iload_n hx hb dX3_init_20 rfl (lv_at hl 0 rfl) ?_
  refine lv_bipush (v := 8) hx hb dX3_init_21 (by decide) ?_
  refine lv_icmp_ge (tgt := 45) hx hb dX3_init_23 (by decide) (fun c1 => ?_) (fun c1 => absurd (by decide) c1)
  refine lv_aload_n hx hb dX3_init_45 rfl (lv_at hl 1 rfl) ?_
  refine lv_iconst (v := 0) hx hb dX3_init_46 (by decide) ?_
  refine i_put (q := 28) (ci := 3) (k := 2) (C0 := RX3) (T := TX3) (N := 6) (ty := tyX3 2) B hW (by decide) rfl rfl iX3 tyX3 tyX3_ok nmX3 (by decide) q187 rfl rfl (tyX3_ok 2 (by decide)) rfl rfl (Nat.le_of_ble_eq_true rfl) dX3_init_47 (fun H locs hW => ?_)
  have hW : i_W D sz 38 (j3_28_20 sz C v f) s.heap H _ := hW
  refine lv_aload_n hx hb dX3_init_50 rfl (lv_at hl 1 rfl) ?_
  refine lv_iconst (v := 0) hx hb dX3_init_51 (by decide) ?_
  refine i_put (q := 28) (ci := 3) (k := 3) (C0 := RX3) (T := TX3) (N := 6) (ty := tyX3 3) B hW (by decide) rfl rfl iX3 tyX3 tyX3_ok nmX3 (by decide) q189 rfl rfl (tyX3_ok 3 (by decide)) rfl rfl (Nat.le_of_ble_eq_true rfl) dX3_init_52 (fun H locs hW => ?_)
  have hW : i_W D sz 38 (j3_28_21 sz C v f) s.heap H _ := hW
  refine lv_aload_n hx hb dX3_init_55 rfl (lv_at hl 1 rfl) ?_
  refine lv_iconst (v := 0) hx hb dX3_init_56 (by decide) ?_
  refine i_put (q := 28) (ci := 3) (k := 4) (C0 := RX3) (T := TX3) (N := 6) (ty := tyX3 4) B hW (by decide) rfl rfl iX3 tyX3 tyX3_ok nmX3 (by decide) q192 rfl rfl (tyX3_ok 4 (by decide)) rfl rfl (Nat.le_of_ble_eq_true rfl) dX3_init_57 (fun H locs hW => ?_)
  have hW : i_W D sz 38 (j3_28_22 sz C v f) s.heap H _ := hW
  refine lv_aload_n hx hb dX3_init_60 rfl (lv_at hl 1 rfl) ?_
  refine lv_iconst (v := -1) hx hb dX3_init_61 (by decide) ?_
  refine i_put (q := 28) (ci := 3) (k := 5) (C0 := RX3) (T := TX3) (N := 6) (ty := tyX3 5) B hW (by decide) rfl rfl iX3 tyX3 tyX3_ok nmX3 (by decide) q194 rfl rfl (tyX3_ok 5 (by decide)) rfl rfl (Nat.le_of_ble_eq_true rfl) dX3_init_62 (fun H locs hW => ?_)
  have hW : i_W D sz 38 (j3_28_23 sz C v f) s.heap H _ := hW
  refine W.widen (k := 9) (n := 56) (Nat.le_of_ble_eq_true rfl) (Nat.le_of_ble_eq_true rfl) ?_
  exact i_rv B hr hlk hW dX3_init_65
def j7_38_0 (sz : Nat) (C : Nat → ClassId) (f : Nat → va_E) : Nat → va_E := f
def j7_38_1 (sz : Nat) (C : Nat → ClassId) (f : Nat → va_E) : Nat → va_E := va_up (j7_38_0 sz C f) 39 (.inl (C 0, 120, .inl (fun _ => 0)))
def j7_38_2 (sz : Nat) (C : Nat → ClassId) (f : Nat → va_E) : Nat → va_E := va_up (j7_38_1 sz C f) 38 (.inr (7, [.ref (sz + 39), .int 0, .int 0, .int 0, .int 0, .int 0]))
set_option maxHeartbeats 4000000 in
set_option maxRecDepth 100000 in
theorem c_X7_init_38 (l : Launch) (D : va_G) (C : Nat → ClassId) (sz : Nat) (f : Nat → va_E) (hf0 : f 38 = .inr (7, [.null, .int 0, .int 0, .int 0, .int 0, .int 0])) : i_Fn l D C sz yX7_init cX7_init 1 1 40 1 120 [.ref (sz + 38)] 39 f 40 (j7_38_2 sz C f) := by
  refine i_Fn.of (by decide) rfl (Nat.le_of_ble_eq_true rfl) ?_
  intro p e s m below meth c ls B hr hlk hnm hW hl
  have B : i_B D C p s m _ c cX7_init 1 RX7 := B
  have hl : lv_has ls 1 [(0, .ref (sz + 38))] := hl
  have hx := B.1
  have hb := B.2.1
  have hml := B.2.2.1
  have ho := B.2.2.2.1
  have hw := B.2.2.2.2.1
  have hW : i_W D sz 39 (j7_38_0 sz C f) s.heap s.heap [] := hW
  refine lv_aload_n hx hb dX7_init_0 rfl (lv_at hl 0 rfl) ?_
  refine W.objInit hx hb ho (hw _ q214) (hw _ q91) (hw _ qobj_code) rfl (by rw [hml]; exact hl.1) rfl dX7_init_1 (Nat.le_of_ble_eq_true rfl) (Nat.le_of_ble_eq_true rfl) ?_
  refine W.eq (g2 := F0 m 4 ls []) rfl ?_
  refine lv_aload_n hx hb dX7_init_4 rfl (lv_at hl 0 rfl) ?_
  refine lv_bipush (v := 120) hx hb dX7_init_5 (by decide) ?_
  refine i_newI (N := 120) B hW (by decide) (by decide) (Nat.le_of_ble_eq_true rfl) (Nat.le_of_ble_eq_true rfl) (Nat.le_of_ble_eq_true rfl) dX7_init_7 (fun H hW => ?_)
  have hW : i_W D sz 40 (j7_38_1 sz C f) s.heap H _ := hW
  refine i_putF (q := 38) (ci := 7) (k := 0) (C0 := RX7) (T := TX7) (N := 6) (ty := tyX7 0) B hW (by decide) hf0 rfl iX7 tyX7 tyX7_ok nmX7 (by decide) q215 rfl rfl hnm rfl (tyX7_ok 0 (by decide)) rfl rfl (Nat.le_of_ble_eq_true rfl) dX7_init_9 (fun H locs hW => ?_)
  have hW : i_W D sz 40 (j7_38_2 sz C f) s.heap H _ := hW
  refine W.widen (k := 1) (n := 120) (Nat.le_of_ble_eq_true rfl) (Nat.le_of_ble_eq_true rfl) ?_
  exact i_rv B hr hlk hW dX7_init_12
def j5_41_0 (sz : Nat) (C : Nat → ClassId) (f : Nat → va_E) : Nat → va_E := f
def j5_41_1 (sz : Nat) (C : Nat → ClassId) (f : Nat → va_E) : Nat → va_E := va_up (j5_41_0 sz C f) 42 (.inl (C 1, 40, .inr (.inl (fun _ => 0))))
def j5_41_2 (sz : Nat) (C : Nat → ClassId) (f : Nat → va_E) : Nat → va_E := va_up (j5_41_1 sz C f) 41 (.inr (5, [.ref (sz + 42), .int 0, .int 0]))
set_option maxHeartbeats 4000000 in
set_option maxRecDepth 100000 in
theorem c_X5_init_41 (l : Launch) (D : va_G) (C : Nat → ClassId) (sz : Nat) (f : Nat → va_E) (hf0 : f 41 = .inr (5, [.null, .int 0, .int 0])) : i_Fn l D C sz yX5_init cX5_init 1 1 40 1 40 [.ref (sz + 41)] 42 f 43 (j5_41_2 sz C f) := by
  refine i_Fn.of (by decide) rfl (Nat.le_of_ble_eq_true rfl) ?_
  intro p e s m below meth c ls B hr hlk hnm hW hl
  have B : i_B D C p s m _ c cX5_init 1 RX5 := B
  have hl : lv_has ls 1 [(0, .ref (sz + 41))] := hl
  have hx := B.1
  have hb := B.2.1
  have hml := B.2.2.1
  have ho := B.2.2.2.1
  have hw := B.2.2.2.2.1
  have hW : i_W D sz 42 (j5_41_0 sz C f) s.heap s.heap [] := hW
  refine lv_aload_n hx hb dX5_init_0 rfl (lv_at hl 0 rfl) ?_
  refine W.objInit hx hb ho (hw _ q242) (hw _ q91) (hw _ qobj_code) rfl (by rw [hml]; exact hl.1) rfl dX5_init_1 (Nat.le_of_ble_eq_true rfl) (Nat.le_of_ble_eq_true rfl) ?_
  refine W.eq (g2 := F0 m 4 ls []) rfl ?_
  refine lv_aload_n hx hb dX5_init_4 rfl (lv_at hl 0 rfl) ?_
  refine lv_bipush (v := 40) hx hb dX5_init_5 (by decide) ?_
  refine i_newL (N := 40) B hW (by decide) (by decide) (Nat.le_of_ble_eq_true rfl) (Nat.le_of_ble_eq_true rfl) (Nat.le_of_ble_eq_true rfl) dX5_init_7 (fun H hW => ?_)
  have hW : i_W D sz 43 (j5_41_1 sz C f) s.heap H _ := hW
  refine i_putF (q := 41) (ci := 5) (k := 0) (C0 := RX5) (T := TX5) (N := 3) (ty := tyX5 0) B hW (by decide) hf0 rfl iX5 tyX5 tyX5_ok nmX5 (by decide) q243 rfl rfl hnm rfl (tyX5_ok 0 (by decide)) rfl rfl (Nat.le_of_ble_eq_true rfl) dX5_init_9 (fun H locs hW => ?_)
  have hW : i_W D sz 43 (j5_41_2 sz C f) s.heap H _ := hW
  refine W.widen (k := 1) (n := 40) (Nat.le_of_ble_eq_true rfl) (Nat.le_of_ble_eq_true rfl) ?_
  exact i_rv B hr hlk hW dX5_init_12
def j5_43_0 (sz : Nat) (C : Nat → ClassId) (f : Nat → va_E) : Nat → va_E := f
def j5_43_1 (sz : Nat) (C : Nat → ClassId) (f : Nat → va_E) : Nat → va_E := va_up (j5_43_0 sz C f) 44 (.inl (C 1, 40, .inr (.inl (fun _ => 0))))
def j5_43_2 (sz : Nat) (C : Nat → ClassId) (f : Nat → va_E) : Nat → va_E := va_up (j5_43_1 sz C f) 43 (.inr (5, [.ref (sz + 44), .int 0, .int 0]))
set_option maxHeartbeats 4000000 in
set_option maxRecDepth 100000 in
theorem c_X5_init_43 (l : Launch) (D : va_G) (C : Nat → ClassId) (sz : Nat) (f : Nat → va_E) (hf0 : f 43 = .inr (5, [.null, .int 0, .int 0])) : i_Fn l D C sz yX5_init cX5_init 1 1 40 1 40 [.ref (sz + 43)] 44 f 45 (j5_43_2 sz C f) := by
  refine i_Fn.of (by decide) rfl (Nat.le_of_ble_eq_true rfl) ?_
  intro p e s m below meth c ls B hr hlk hnm hW hl
  have B : i_B D C p s m _ c cX5_init 1 RX5 := B
  have hl : lv_has ls 1 [(0, .ref (sz + 43))] := hl
  have hx := B.1
  have hb := B.2.1
  have hml := B.2.2.1
  have ho := B.2.2.2.1
  have hw := B.2.2.2.2.1
  have hW : i_W D sz 44 (j5_43_0 sz C f) s.heap s.heap [] := hW
  refine lv_aload_n hx hb dX5_init_0 rfl (lv_at hl 0 rfl) ?_
  refine W.objInit hx hb ho (hw _ q242) (hw _ q91) (hw _ qobj_code) rfl (by rw [hml]; exact hl.1) rfl dX5_init_1 (Nat.le_of_ble_eq_true rfl) (Nat.le_of_ble_eq_true rfl) ?_
  refine W.eq (g2 := F0 m 4 ls []) rfl ?_
  refine lv_aload_n hx hb dX5_init_4 rfl (lv_at hl 0 rfl) ?_
  refine lv_bipush (v := 40) hx hb dX5_init_5 (by decide) ?_
  refine i_newL (N := 40) B hW (by decide) (by decide) (Nat.le_of_ble_eq_true rfl) (Nat.le_of_ble_eq_true rfl) (Nat.le_of_ble_eq_true rfl) dX5_init_7 (fun H hW => ?_)
  have hW : i_W D sz 45 (j5_43_1 sz C f) s.heap H _ := hW
  refine i_putF (q := 43) (ci := 5) (k := 0) (C0 := RX5) (T := TX5) (N := 3) (ty := tyX5 0) B hW (by decide) hf0 rfl iX5 tyX5 tyX5_ok nmX5 (by decide) q243 rfl rfl hnm rfl (tyX5_ok 0 (by decide)) rfl rfl (Nat.le_of_ble_eq_true rfl) dX5_init_9 (fun H locs hW => ?_)
  have hW : i_W D sz 45 (j5_43_2 sz C f) s.heap H _ := hW
  refine W.widen (k := 1) (n := 40) (Nat.le_of_ble_eq_true rfl) (Nat.le_of_ble_eq_true rfl) ?_
  exact i_rv B hr hlk hW dX5_init_12
def j5_45_0 (sz : Nat) (C : Nat → ClassId) (f : Nat → va_E) : Nat → va_E := f
def j5_45_1 (sz : Nat) (C : Nat → ClassId) (f : Nat → va_E) : Nat → va_E := va_up (j5_45_0 sz C f) 46 (.inl (C 1, 40, .inr (.inl (fun _ => 0))))
def j5_45_2 (sz : Nat) (C : Nat → ClassId) (f : Nat → va_E) : Nat → va_E := va_up (j5_45_1 sz C f) 45 (.inr (5, [.ref (sz + 46), .int 0, .int 0]))
set_option maxHeartbeats 4000000 in
set_option maxRecDepth 100000 in
theorem c_X5_init_45 (l : Launch) (D : va_G) (C : Nat → ClassId) (sz : Nat) (f : Nat → va_E) (hf0 : f 45 = .inr (5, [.null, .int 0, .int 0])) : i_Fn l D C sz yX5_init cX5_init 1 1 40 1 40 [.ref (sz + 45)] 46 f 47 (j5_45_2 sz C f) := by
  refine i_Fn.of (by decide) rfl (Nat.le_of_ble_eq_true rfl) ?_
  intro p e s m below meth c ls B hr hlk hnm hW hl
  have B : i_B D C p s m _ c cX5_init 1 RX5 := B
  have hl : lv_has ls 1 [(0, .ref (sz + 45))] := hl
  have hx := B.1
  have hb := B.2.1
  have hml := B.2.2.1
  have ho := B.2.2.2.1
  have hw := B.2.2.2.2.1
  have hW : i_W D sz 46 (j5_45_0 sz C f) s.heap s.heap [] := hW
  refine lv_aload_n hx hb dX5_init_0 rfl (lv_at hl 0 rfl) ?_
  refine W.objInit hx hb ho (hw _ q242) (hw _ q91) (hw _ qobj_code) rfl (by rw [hml]; exact hl.1) rfl dX5_init_1 (Nat.le_of_ble_eq_true rfl) (Nat.le_of_ble_eq_true rfl) ?_
  refine W.eq (g2 := F0 m 4 ls []) rfl ?_
  refine lv_aload_n hx hb dX5_init_4 rfl (lv_at hl 0 rfl) ?_
  refine lv_bipush (v := 40) hx hb dX5_init_5 (by decide) ?_
  refine i_newL (N := 40) B hW (by decide) (by decide) (Nat.le_of_ble_eq_true rfl) (Nat.le_of_ble_eq_true rfl) (Nat.le_of_ble_eq_true rfl) dX5_init_7 (fun H hW => ?_)
  have hW : i_W D sz 47 (j5_45_1 sz C f) s.heap H _ := hW
  refine i_putF (q := 45) (ci := 5) (k := 0) (C0 := RX5) (T := TX5) (N := 3) (ty := tyX5 0) B hW (by decide) hf0 rfl iX5 tyX5 tyX5_ok nmX5 (by decide) q243 rfl rfl hnm rfl (tyX5_ok 0 (by decide)) rfl rfl (Nat.le_of_ble_eq_true rfl) dX5_init_9 (fun H locs hW => ?_)
  have hW : i_W D sz 47 (j5_45_2 sz C f) s.heap H _ := hW
  refine W.widen (k := 1) (n := 40) (Nat.le_of_ble_eq_true rfl) (Nat.le_of_ble_eq_true rfl) ?_
  exact i_rv B hr hlk hW dX5_init_12
def j5_47_0 (sz : Nat) (C : Nat → ClassId) (f : Nat → va_E) : Nat → va_E := f
def j5_47_1 (sz : Nat) (C : Nat → ClassId) (f : Nat → va_E) : Nat → va_E := va_up (j5_47_0 sz C f) 48 (.inl (C 1, 40, .inr (.inl (fun _ => 0))))
def j5_47_2 (sz : Nat) (C : Nat → ClassId) (f : Nat → va_E) : Nat → va_E := va_up (j5_47_1 sz C f) 47 (.inr (5, [.ref (sz + 48), .int 0, .int 0]))
set_option maxHeartbeats 4000000 in
set_option maxRecDepth 100000 in
theorem c_X5_init_47 (l : Launch) (D : va_G) (C : Nat → ClassId) (sz : Nat) (f : Nat → va_E) (hf0 : f 47 = .inr (5, [.null, .int 0, .int 0])) : i_Fn l D C sz yX5_init cX5_init 1 1 40 1 40 [.ref (sz + 47)] 48 f 49 (j5_47_2 sz C f) := by
  refine i_Fn.of (by decide) rfl (Nat.le_of_ble_eq_true rfl) ?_
  intro p e s m below meth c ls B hr hlk hnm hW hl
  have B : i_B D C p s m _ c cX5_init 1 RX5 := B
  have hl : lv_has ls 1 [(0, .ref (sz + 47))] := hl
  have hx := B.1
  have hb := B.2.1
  have hml := B.2.2.1
  have ho := B.2.2.2.1
  have hw := B.2.2.2.2.1
  have hW : i_W D sz 48 (j5_47_0 sz C f) s.heap s.heap [] := hW
  refine lv_aload_n hx hb dX5_init_0 rfl (lv_at hl 0 rfl) ?_
  refine W.objInit hx hb ho (hw _ q242) (hw _ q91) (hw _ qobj_code) rfl (by rw [hml]; exact hl.1) rfl dX5_init_1 (Nat.le_of_ble_eq_true rfl) (Nat.le_of_ble_eq_true rfl) ?_
  refine W.eq (g2 := F0 m 4 ls []) rfl ?_
  refine lv_aload_n hx hb dX5_init_4 rfl (lv_at hl 0 rfl) ?_
  refine lv_bipush (v := 40) hx hb dX5_init_5 (by decide) ?_
  refine i_newL (N := 40) B hW (by decide) (by decide) (Nat.le_of_ble_eq_true rfl) (Nat.le_of_ble_eq_true rfl) (Nat.le_of_ble_eq_true rfl) dX5_init_7 (fun H hW => ?_)
  have hW : i_W D sz 49 (j5_47_1 sz C f) s.heap H _ := hW
  refine i_putF (q := 47) (ci := 5) (k := 0) (C0 := RX5) (T := TX5) (N := 3) (ty := tyX5 0) B hW (by decide) hf0 rfl iX5 tyX5 tyX5_ok nmX5 (by decide) q243 rfl rfl hnm rfl (tyX5_ok 0 (by decide)) rfl rfl (Nat.le_of_ble_eq_true rfl) dX5_init_9 (fun H locs hW => ?_)
  have hW : i_W D sz 49 (j5_47_2 sz C f) s.heap H _ := hW
  refine W.widen (k := 1) (n := 40) (Nat.le_of_ble_eq_true rfl) (Nat.le_of_ble_eq_true rfl) ?_
  exact i_rv B hr hlk hW dX5_init_12
def j10_0_0 (sz : Nat) (C : Nat → ClassId) (f : Nat → va_E) : Nat → va_E := f
def j10_0_1 (sz : Nat) (C : Nat → ClassId) (f : Nat → va_E) : Nat → va_E := va_up (j10_0_0 sz C f) 1 (.inl (C 2, 6, .inr (.inr (.inr (.inr (fun _ => none))))))
def j10_0_2 (sz : Nat) (C : Nat → ClassId) (f : Nat → va_E) : Nat → va_E := va_up (j10_0_1 sz C f) 2 (.inr (4, []))
def j10_0_3 (sz : Nat) (C : Nat → ClassId) (f : Nat → va_E) : Nat → va_E := va_up (j10_0_2 sz C f) 1 (.inl (C 2, 6, .inr (.inr (.inr (.inr (va_up (fun _ => none) 0 (some (sz + 2))))))))
def j10_0_4 (sz : Nat) (C : Nat → ClassId) (f : Nat → va_E) : Nat → va_E := va_up (j10_0_3 sz C f) 3 (.inr (0, []))
def j10_0_5 (sz : Nat) (C : Nat → ClassId) (f : Nat → va_E) : Nat → va_E := va_up (j10_0_4 sz C f) 1 (.inl (C 2, 6, .inr (.inr (.inr (.inr (va_up (va_up (fun _ => none) 0 (some (sz + 2))) 1 (some (sz + 3))))))))
def j10_0_6 (sz : Nat) (C : Nat → ClassId) (f : Nat → va_E) : Nat → va_E := va_up (j10_0_5 sz C f) 4 (.inr (1, []))
def j10_0_7 (sz : Nat) (C : Nat → ClassId) (f : Nat → va_E) : Nat → va_E := va_up (j10_0_6 sz C f) 1 (.inl (C 2, 6, .inr (.inr (.inr (.inr (va_up (va_up (va_up (fun _ => none) 0 (some (sz + 2))) 1 (some (sz + 3))) 2 (some (sz + 4))))))))
def j10_0_8 (sz : Nat) (C : Nat → ClassId) (f : Nat → va_E) : Nat → va_E := va_up (j10_0_7 sz C f) 5 (.inr (9, []))
def j10_0_9 (sz : Nat) (C : Nat → ClassId) (f : Nat → va_E) : Nat → va_E := va_up (j10_0_8 sz C f) 1 (.inl (C 2, 6, .inr (.inr (.inr (.inr (va_up (va_up (va_up (va_up (fun _ => none) 0 (some (sz + 2))) 1 (some (sz + 3))) 2 (some (sz + 4))) 3 (some (sz + 5))))))))
def j10_0_10 (sz : Nat) (C : Nat → ClassId) (f : Nat → va_E) : Nat → va_E := va_up (j10_0_9 sz C f) 6 (.inr (2, []))
def j10_0_11 (sz : Nat) (C : Nat → ClassId) (f : Nat → va_E) : Nat → va_E := va_up (j10_0_10 sz C f) 1 (.inl (C 2, 6, .inr (.inr (.inr (.inr (va_up (va_up (va_up (va_up (va_up (fun _ => none) 0 (some (sz + 2))) 1 (some (sz + 3))) 2 (some (sz + 4))) 3 (some (sz + 5))) 4 (some (sz + 6))))))))
def j10_0_12 (sz : Nat) (C : Nat → ClassId) (f : Nat → va_E) : Nat → va_E := va_up (j10_0_11 sz C f) 7 (.inr (6, []))
def j10_0_13 (sz : Nat) (C : Nat → ClassId) (f : Nat → va_E) : Nat → va_E := va_up (j10_0_12 sz C f) 1 (.inl (C 2, 6, .inr (.inr (.inr (.inr (va_up (va_up (va_up (va_up (va_up (va_up (fun _ => none) 0 (some (sz + 2))) 1 (some (sz + 3))) 2 (some (sz + 4))) 3 (some (sz + 5))) 4 (some (sz + 6))) 5 (some (sz + 7))))))))
def j10_0_14 (sz : Nat) (C : Nat → ClassId) (f : Nat → va_E) : Nat → va_E := va_up (j10_0_13 sz C f) 8 (.inr (3, [.null, .null, .int 0, .int 0, .int 0, .int 0]))
def j10_0_15 (sz : Nat) (C : Nat → ClassId) (f : Nat → va_E) : Nat → va_E := j3_8_23 sz C (sz + 1) (j10_0_14 sz C f)
def j10_0_16 (sz : Nat) (C : Nat → ClassId) (f : Nat → va_E) : Nat → va_E := va_up (j10_0_15 sz C f) 0 (.inr (10, [.ref (sz + 8), .null, .null, .int 0, .null, .null, .null, .null]))
def j10_0_17 (sz : Nat) (C : Nat → ClassId) (f : Nat → va_E) : Nat → va_E := va_up (j10_0_16 sz C f) 18 (.inr (3, [.null, .null, .int 0, .int 0, .int 0, .int 0]))
def j10_0_18 (sz : Nat) (C : Nat → ClassId) (f : Nat → va_E) : Nat → va_E := j3_18_23 sz C (sz + 1) (j10_0_17 sz C f)
def j10_0_19 (sz : Nat) (C : Nat → ClassId) (f : Nat → va_E) : Nat → va_E := va_up (j10_0_18 sz C f) 0 (.inr (10, [.ref (sz + 8), .ref (sz + 18), .null, .int 0, .null, .null, .null, .null]))
def j10_0_20 (sz : Nat) (C : Nat → ClassId) (f : Nat → va_E) : Nat → va_E := va_up (j10_0_19 sz C f) 28 (.inr (3, [.null, .null, .int 0, .int 0, .int 0, .int 0]))
def j10_0_21 (sz : Nat) (C : Nat → ClassId) (f : Nat → va_E) : Nat → va_E := j3_28_23 sz C (sz + 1) (j10_0_20 sz C f)
def j10_0_22 (sz : Nat) (C : Nat → ClassId) (f : Nat → va_E) : Nat → va_E := va_up (j10_0_21 sz C f) 0 (.inr (10, [.ref (sz + 8), .ref (sz + 18), .ref (sz + 28), .int 0, .null, .null, .null, .null]))
def j10_0_23 (sz : Nat) (C : Nat → ClassId) (f : Nat → va_E) : Nat → va_E := va_up (j10_0_22 sz C f) 0 (.inr (10, [.ref (sz + 8), .ref (sz + 18), .ref (sz + 28), .int (0), .null, .null, .null, .null]))
def j10_0_24 (sz : Nat) (C : Nat → ClassId) (f : Nat → va_E) : Nat → va_E := va_up (j10_0_23 sz C f) 38 (.inr (7, [.null, .int 0, .int 0, .int 0, .int 0, .int 0]))
def j10_0_25 (sz : Nat) (C : Nat → ClassId) (f : Nat → va_E) : Nat → va_E := j7_38_2 sz C (j10_0_24 sz C f)
def j10_0_26 (sz : Nat) (C : Nat → ClassId) (f : Nat → va_E) : Nat → va_E := va_up (j10_0_25 sz C f) 0 (.inr (10, [.ref (sz + 8), .ref (sz + 18), .ref (sz + 28), .int (0), .ref (sz + 38), .null, .null, .null]))
def j10_0_27 (sz : Nat) (C : Nat → ClassId) (f : Nat → va_E) : Nat → va_E := va_up (j10_0_26 sz C f) 40 (.inl (C 3, 4, .inr (.inr (.inr (.inr (fun _ => none))))))
def j10_0_28 (sz : Nat) (C : Nat → ClassId) (f : Nat → va_E) : Nat → va_E := va_up (j10_0_27 sz C f) 0 (.inr (10, [.ref (sz + 8), .ref (sz + 18), .ref (sz + 28), .int (0), .ref (sz + 38), .ref (sz + 40), .null, .null]))
def j10_0_29 (sz : Nat) (C : Nat → ClassId) (f : Nat → va_E) : Nat → va_E := va_up (j10_0_28 sz C f) 41 (.inr (5, [.null, .int 0, .int 0]))
def j10_0_30 (sz : Nat) (C : Nat → ClassId) (f : Nat → va_E) : Nat → va_E := j5_41_2 sz C (j10_0_29 sz C f)
def j10_0_31 (sz : Nat) (C : Nat → ClassId) (f : Nat → va_E) : Nat → va_E := va_up (j10_0_30 sz C f) 40 (.inl (C 3, 4, .inr (.inr (.inr (.inr (va_up (fun _ => none) 0 (some (sz + 41))))))))
def j10_0_32 (sz : Nat) (C : Nat → ClassId) (f : Nat → va_E) : Nat → va_E := va_up (j10_0_31 sz C f) 43 (.inr (5, [.null, .int 0, .int 0]))
def j10_0_33 (sz : Nat) (C : Nat → ClassId) (f : Nat → va_E) : Nat → va_E := j5_43_2 sz C (j10_0_32 sz C f)
def j10_0_34 (sz : Nat) (C : Nat → ClassId) (f : Nat → va_E) : Nat → va_E := va_up (j10_0_33 sz C f) 40 (.inl (C 3, 4, .inr (.inr (.inr (.inr (va_up (va_up (fun _ => none) 0 (some (sz + 41))) 1 (some (sz + 43))))))))
def j10_0_35 (sz : Nat) (C : Nat → ClassId) (f : Nat → va_E) : Nat → va_E := va_up (j10_0_34 sz C f) 45 (.inr (5, [.null, .int 0, .int 0]))
def j10_0_36 (sz : Nat) (C : Nat → ClassId) (f : Nat → va_E) : Nat → va_E := j5_45_2 sz C (j10_0_35 sz C f)
def j10_0_37 (sz : Nat) (C : Nat → ClassId) (f : Nat → va_E) : Nat → va_E := va_up (j10_0_36 sz C f) 40 (.inl (C 3, 4, .inr (.inr (.inr (.inr (va_up (va_up (va_up (fun _ => none) 0 (some (sz + 41))) 1 (some (sz + 43))) 2 (some (sz + 45))))))))
def j10_0_38 (sz : Nat) (C : Nat → ClassId) (f : Nat → va_E) : Nat → va_E := va_up (j10_0_37 sz C f) 47 (.inr (5, [.null, .int 0, .int 0]))
def j10_0_39 (sz : Nat) (C : Nat → ClassId) (f : Nat → va_E) : Nat → va_E := j5_47_2 sz C (j10_0_38 sz C f)
def j10_0_40 (sz : Nat) (C : Nat → ClassId) (f : Nat → va_E) : Nat → va_E := va_up (j10_0_39 sz C f) 40 (.inl (C 3, 4, .inr (.inr (.inr (.inr (va_up (va_up (va_up (va_up (fun _ => none) 0 (some (sz + 41))) 1 (some (sz + 43))) 2 (some (sz + 45))) 3 (some (sz + 47))))))))
def j10_0_41 (sz : Nat) (C : Nat → ClassId) (f : Nat → va_E) : Nat → va_E := va_up (j10_0_40 sz C f) 49 (.inl (C 0, 7, .inl (fun _ => 0)))
def j10_0_42 (sz : Nat) (C : Nat → ClassId) (f : Nat → va_E) : Nat → va_E := va_up (j10_0_41 sz C f) 0 (.inr (10, [.ref (sz + 8), .ref (sz + 18), .ref (sz + 28), .int (0), .ref (sz + 38), .ref (sz + 40), .ref (sz + 49), .null]))
def j10_0_43 (sz : Nat) (C : Nat → ClassId) (f : Nat → va_E) : Nat → va_E := va_up (j10_0_42 sz C f) 50 (.inl (C 0, 10, .inl (fun _ => 0)))
def j10_0_44 (sz : Nat) (C : Nat → ClassId) (f : Nat → va_E) : Nat → va_E := va_up (j10_0_43 sz C f) 0 (.inr (10, [.ref (sz + 8), .ref (sz + 18), .ref (sz + 28), .int (0), .ref (sz + 38), .ref (sz + 40), .ref (sz + 49), .ref (sz + 50)]))
set_option maxHeartbeats 4000000 in
set_option maxRecDepth 100000 in
theorem c_X10_init_0 (l : Launch) (D : va_G) (C : Nat → ClassId) (sz : Nat) (f : Nat → va_E) (hf0 : f 0 = .inr (10, [.null, .null, .null, .int 0, .null, .null, .null, .null])) : i_Fn l D C sz yX10_init cX10_init 3 4 80 50 511 [.ref (sz + 0)] 1 f 51 (j10_0_44 sz C f) := by
  refine i_Fn.of (by decide) rfl (Nat.le_of_ble_eq_true rfl) ?_
  intro p e s m below meth c ls B hr hlk hnm hW hl
  have B : i_B D C p s m _ c cX10_init 3 RX10 := B
  have hl : lv_has ls 3 [(0, .ref (sz + 0))] := hl
  have hx := B.1
  have hb := B.2.1
  have hml := B.2.2.1
  have ho := B.2.2.2.1
  have hw := B.2.2.2.2.1
  have hW : i_W D sz 1 (j10_0_0 sz C f) s.heap s.heap [] := hW
  refine lv_aload_n hx hb dX10_init_0 rfl (lv_at hl 0 rfl) ?_
  refine W.objInit hx hb ho (hw _ q90) (hw _ q91) (hw _ qobj_code) rfl (by rw [hml]; exact hl.1) rfl dX10_init_1 (Nat.le_of_ble_eq_true rfl) (Nat.le_of_ble_eq_true rfl) ?_
  refine W.eq (g2 := F0 m 4 ls []) rfl ?_
  refine lv_bipush (v := 6) hx hb dX10_init_4 (by decide) ?_
  refine i_newQ (t := 2) (N := 6) B hW rfl B.2.2.2.2.2.2.2.1.1 q93 (by decide) (by decide) (Nat.le_of_ble_eq_true rfl) (Nat.le_of_ble_eq_true rfl) (Nat.le_of_ble_eq_true rfl) dX10_init_6 (fun H hW => ?_)
  have hW : i_W D sz 2 (j10_0_1 sz C f) s.heap H _ := hW
  refine lv_dup hx hb dX10_init_9 rfl ?_
  refine lv_iconst (v := 0) hx hb dX10_init_10 (by decide) ?_
  refine i_new (ci := 4) (fs := []) (C0 := RX4) (T := TX4) (N := 0) B hW iX4 tyX4 tyX4_ok q93 q95 q67 rfl dfX4 (Nat.le_of_ble_eq_true rfl) (Nat.le_of_ble_eq_true rfl) dX10_init_11 (fun H hW => ?_)
  have hW : i_W D sz 3 (j10_0_2 sz C f) s.heap H _ := hW
  refine lv_dup hx hb dX10_init_14 rfl ?_
  refine i_cN (As := []) (rest := [.ref (sz + 2), .int (0), .ref (sz + 1), .ref (sz + 1)]) B hW (c_X4_init l D C sz 2 3 (j10_0_2 sz C f)) isc_X4 q96 ⟨(Nat.le_of_ble_eq_true rfl), (Nat.le_of_ble_eq_true rfl)⟩ ⟨(Nat.le_of_ble_eq_true rfl), (Nat.le_of_ble_eq_true rfl)⟩ rfl hl.1 rfl (Nat.le_of_ble_eq_true rfl) dX10_init_15 (fun H locs hW => ?_)
  refine i_astq (t := 2) (q := 1) (qk := 2) (ci := 4) (E := "WhisperSeats$Person") (r := (RX4, TX4, 0)) B hW rfl (by decide) rfl (by decide) rfl rfl (Or.inl rfl) (z_ixd (by decide)) dX10_init_18 (fun H locs hW => ?_)
  have hW : i_W D sz 3 (j10_0_3 sz C f) s.heap H _ := hW
  refine lv_dup hx hb dX10_init_19 rfl ?_
  refine lv_iconst (v := 1) hx hb dX10_init_20 (by decide) ?_
  refine i_new (ci := 0) (fs := []) (C0 := RX0) (T := TX0) (N := 0) B hW iX0 tyX0 tyX0_ok q101 q102 q68 rfl dfX0 (Nat.le_of_ble_eq_true rfl) (Nat.le_of_ble_eq_true rfl) dX10_init_21 (fun H hW => ?_)
  have hW : i_W D sz 4 (j10_0_4 sz C f) s.heap H _ := hW
  refine lv_dup hx hb dX10_init_24 rfl ?_
  refine i_cN (As := []) (rest := [.ref (sz + 3), .int (1), .ref (sz + 1), .ref (sz + 1)]) B hW (c_X0_init l D C sz 3 4 (j10_0_4 sz C f)) isc_X0 q103 ⟨(Nat.le_of_ble_eq_true rfl), (Nat.le_of_ble_eq_true rfl)⟩ ⟨(Nat.le_of_ble_eq_true rfl), (Nat.le_of_ble_eq_true rfl)⟩ rfl hl.1 rfl (Nat.le_of_ble_eq_true rfl) dX10_init_25 (fun H locs hW => ?_)
  refine i_astq (t := 2) (q := 1) (qk := 3) (ci := 0) (E := "WhisperSeats$Person") (r := (RX0, TX0, 0)) B hW rfl (by decide) rfl (by decide) rfl rfl (Or.inr B.2.2.2.2.2.2.2.2.1) (z_ixd (by decide)) dX10_init_28 (fun H locs hW => ?_)
  have hW : i_W D sz 4 (j10_0_5 sz C f) s.heap H _ := hW
  refine lv_dup hx hb dX10_init_29 rfl ?_
  refine lv_iconst (v := 2) hx hb dX10_init_30 (by decide) ?_
  refine i_new (ci := 1) (fs := []) (C0 := RX1) (T := TX1) (N := 0) B hW iX1 tyX1 tyX1_ok q108 q109 q69 rfl dfX1 (Nat.le_of_ble_eq_true rfl) (Nat.le_of_ble_eq_true rfl) dX10_init_31 (fun H hW => ?_)
  have hW : i_W D sz 5 (j10_0_6 sz C f) s.heap H _ := hW
  refine lv_dup hx hb dX10_init_34 rfl ?_
  refine i_cN (As := []) (rest := [.ref (sz + 4), .int (2), .ref (sz + 1), .ref (sz + 1)]) B hW (c_X1_init l D C sz 4 5 (j10_0_6 sz C f)) isc_X1 q110 ⟨(Nat.le_of_ble_eq_true rfl), (Nat.le_of_ble_eq_true rfl)⟩ ⟨(Nat.le_of_ble_eq_true rfl), (Nat.le_of_ble_eq_true rfl)⟩ rfl hl.1 rfl (Nat.le_of_ble_eq_true rfl) dX10_init_35 (fun H locs hW => ?_)
  refine i_astq (t := 2) (q := 1) (qk := 4) (ci := 1) (E := "WhisperSeats$Person") (r := (RX1, TX1, 0)) B hW rfl (by decide) rfl (by decide) rfl rfl (Or.inr B.2.2.2.2.2.2.2.2.2.1) (z_ixd (by decide)) dX10_init_38 (fun H locs hW => ?_)
  have hW : i_W D sz 5 (j10_0_7 sz C f) s.heap H _ := hW
  refine lv_dup hx hb dX10_init_39 rfl ?_
  refine lv_iconst (v := 3) hx hb dX10_init_40 (by decide) ?_
  refine i_new (ci := 9) (fs := []) (C0 := RX9) (T := TX9) (N := 0) B hW iX9 tyX9 tyX9_ok q115 q116 q70 rfl dfX9 (Nat.le_of_ble_eq_true rfl) (Nat.le_of_ble_eq_true rfl) dX10_init_41 (fun H hW => ?_)
  have hW : i_W D sz 6 (j10_0_8 sz C f) s.heap H _ := hW
  refine lv_dup hx hb dX10_init_44 rfl ?_
  refine i_cN (As := []) (rest := [.ref (sz + 5), .int (3), .ref (sz + 1), .ref (sz + 1)]) B hW (c_X9_init l D C sz 5 6 (j10_0_8 sz C f)) isc_X9 q117 ⟨(Nat.le_of_ble_eq_true rfl), (Nat.le_of_ble_eq_true rfl)⟩ ⟨(Nat.le_of_ble_eq_true rfl), (Nat.le_of_ble_eq_true rfl)⟩ rfl hl.1 rfl (Nat.le_of_ble_eq_true rfl) dX10_init_45 (fun H locs hW => ?_)
  refine i_astq (t := 2) (q := 1) (qk := 5) (ci := 9) (E := "WhisperSeats$Person") (r := (RX9, TX9, 0)) B hW rfl (by decide) rfl (by decide) rfl rfl (Or.inr B.2.2.2.2.2.2.2.2.2.2.2.2) (z_ixd (by decide)) dX10_init_48 (fun H locs hW => ?_)
  have hW : i_W D sz 6 (j10_0_9 sz C f) s.heap H _ := hW
  refine lv_dup hx hb dX10_init_49 rfl ?_
  refine lv_iconst (v := 4) hx hb dX10_init_50 (by decide) ?_
  refine i_new (ci := 2) (fs := []) (C0 := RX2) (T := TX2) (N := 0) B hW iX2 tyX2 tyX2_ok q122 q123 q71 rfl dfX2 (Nat.le_of_ble_eq_true rfl) (Nat.le_of_ble_eq_true rfl) dX10_init_51 (fun H hW => ?_)
  have hW : i_W D sz 7 (j10_0_10 sz C f) s.heap H _ := hW
  refine lv_dup hx hb dX10_init_54 rfl ?_
  refine i_cN (As := []) (rest := [.ref (sz + 6), .int (4), .ref (sz + 1), .ref (sz + 1)]) B hW (c_X2_init l D C sz 6 7 (j10_0_10 sz C f)) isc_X2 q124 ⟨(Nat.le_of_ble_eq_true rfl), (Nat.le_of_ble_eq_true rfl)⟩ ⟨(Nat.le_of_ble_eq_true rfl), (Nat.le_of_ble_eq_true rfl)⟩ rfl hl.1 rfl (Nat.le_of_ble_eq_true rfl) dX10_init_55 (fun H locs hW => ?_)
  refine i_astq (t := 2) (q := 1) (qk := 6) (ci := 2) (E := "WhisperSeats$Person") (r := (RX2, TX2, 0)) B hW rfl (by decide) rfl (by decide) rfl rfl (Or.inr B.2.2.2.2.2.2.2.2.2.2.1) (z_ixd (by decide)) dX10_init_58 (fun H locs hW => ?_)
  have hW : i_W D sz 7 (j10_0_11 sz C f) s.heap H _ := hW
  refine lv_dup hx hb dX10_init_59 rfl ?_
  refine lv_iconst (v := 5) hx hb dX10_init_60 (by decide) ?_
  refine i_new (ci := 6) (fs := []) (C0 := RX6) (T := TX6) (N := 0) B hW iX6 tyX6 tyX6_ok q129 q130 q72 rfl dfX6 (Nat.le_of_ble_eq_true rfl) (Nat.le_of_ble_eq_true rfl) dX10_init_61 (fun H hW => ?_)
  have hW : i_W D sz 8 (j10_0_12 sz C f) s.heap H _ := hW
  refine lv_dup hx hb dX10_init_64 rfl ?_
  refine i_cN (As := []) (rest := [.ref (sz + 7), .int (5), .ref (sz + 1), .ref (sz + 1)]) B hW (c_X6_init l D C sz 7 8 (j10_0_12 sz C f)) isc_X6 q131 ⟨(Nat.le_of_ble_eq_true rfl), (Nat.le_of_ble_eq_true rfl)⟩ ⟨(Nat.le_of_ble_eq_true rfl), (Nat.le_of_ble_eq_true rfl)⟩ rfl hl.1 rfl (Nat.le_of_ble_eq_true rfl) dX10_init_65 (fun H locs hW => ?_)
  refine i_astq (t := 2) (q := 1) (qk := 7) (ci := 6) (E := "WhisperSeats$Person") (r := (RX6, TX6, 0)) B hW rfl (by decide) rfl (by decide) rfl rfl (Or.inr B.2.2.2.2.2.2.2.2.2.2.2.1) (z_ixd (by decide)) dX10_init_68 (fun H locs hW => ?_)
  have hW : i_W D sz 8 (j10_0_13 sz C f) s.heap H _ := hW
  refine lv_astore_n (lv' := [(1, .ref (sz + 1)), (0, .ref (sz + 0))]) hx hb dX10_init_69 rfl hl (by decide) rfl (fun ls hl => ?_)
  refine lv_aload_n hx hb dX10_init_70 rfl (lv_at hl 1 rfl) ?_
  refine i_new (ci := 3) (fs := [.null, .null, .int 0, .int 0, .int 0, .int 0]) (C0 := RX3) (T := TX3) (N := 6) B hW iX3 tyX3 tyX3_ok q136 q137 q73 rfl dfX3 (Nat.le_of_ble_eq_true rfl) (Nat.le_of_ble_eq_true rfl) dX10_init_71 (fun H hW => ?_)
  have hW : i_W D sz 9 (j10_0_14 sz C f) s.heap H _ := hW
  refine lv_dup hx hb dX10_init_74 rfl ?_
  refine lv_aload_n hx hb dX10_init_75 rfl (lv_at hl 0 rfl) ?_
  refine i_c (As := [.ref (sz + 1)]) (rest := [.ref (sz + 8), .ref (sz + 0)]) B hW (c_X3_init_8 l D C sz (sz + 1) (j10_0_14 sz C f) rfl) isc_X3 q138 ⟨(Nat.le_of_ble_eq_true rfl), (Nat.le_of_ble_eq_true rfl)⟩ ⟨(Nat.le_of_ble_eq_true rfl), (Nat.le_of_ble_eq_true rfl)⟩ rfl hl.1 rfl (Nat.le_of_ble_eq_true rfl) dX10_init_76 (fun H locs hW => ?_)
  have hW : i_W D sz 18 (j10_0_15 sz C f) s.heap H _ := hW
  refine i_putF (q := 0) (ci := 10) (k := 0) (C0 := RX10) (T := TX10) (N := 8) (ty := tyX10 0) B hW (by decide) hf0 rfl iX10 tyX10 tyX10_ok nmX10 (by decide) q257 rfl rfl hnm rfl (tyX10_ok 0 (by decide)) rfl rfl (Nat.le_of_ble_eq_true rfl) dX10_init_79 (fun H locs hW => ?_)
  have hW : i_W D sz 18 (j10_0_16 sz C f) s.heap H _ := hW
  refine lv_aload_n hx hb dX10_init_82 rfl (lv_at hl 1 rfl) ?_
  refine i_new (ci := 3) (fs := [.null, .null, .int 0, .int 0, .int 0, .int 0]) (C0 := RX3) (T := TX3) (N := 6) B hW iX3 tyX3 tyX3_ok q136 q137 q73 rfl dfX3 (Nat.le_of_ble_eq_true rfl) (Nat.le_of_ble_eq_true rfl) dX10_init_83 (fun H hW => ?_)
  have hW : i_W D sz 19 (j10_0_17 sz C f) s.heap H _ := hW
  refine lv_dup hx hb dX10_init_86 rfl ?_
  refine lv_aload_n hx hb dX10_init_87 rfl (lv_at hl 0 rfl) ?_
  refine i_c (As := [.ref (sz + 1)]) (rest := [.ref (sz + 18), .ref (sz + 0)]) B hW (c_X3_init_18 l D C sz (sz + 1) (j10_0_17 sz C f) rfl) isc_X3 q138 ⟨(Nat.le_of_ble_eq_true rfl), (Nat.le_of_ble_eq_true rfl)⟩ ⟨(Nat.le_of_ble_eq_true rfl), (Nat.le_of_ble_eq_true rfl)⟩ rfl hl.1 rfl (Nat.le_of_ble_eq_true rfl) dX10_init_88 (fun H locs hW => ?_)
  have hW : i_W D sz 28 (j10_0_18 sz C f) s.heap H _ := hW
  refine i_putF (q := 0) (ci := 10) (k := 1) (C0 := RX10) (T := TX10) (N := 8) (ty := tyX10 1) B hW (by decide) rfl rfl iX10 tyX10 tyX10_ok nmX10 (by decide) q258 rfl rfl hnm rfl (tyX10_ok 1 (by decide)) rfl rfl (Nat.le_of_ble_eq_true rfl) dX10_init_91 (fun H locs hW => ?_)
  have hW : i_W D sz 28 (j10_0_19 sz C f) s.heap H _ := hW
  refine lv_aload_n hx hb dX10_init_94 rfl (lv_at hl 1 rfl) ?_
  refine i_new (ci := 3) (fs := [.null, .null, .int 0, .int 0, .int 0, .int 0]) (C0 := RX3) (T := TX3) (N := 6) B hW iX3 tyX3 tyX3_ok q136 q137 q73 rfl dfX3 (Nat.le_of_ble_eq_true rfl) (Nat.le_of_ble_eq_true rfl) dX10_init_95 (fun H hW => ?_)
  have hW : i_W D sz 29 (j10_0_20 sz C f) s.heap H _ := hW
  refine lv_dup hx hb dX10_init_98 rfl ?_
  refine lv_aload_n hx hb dX10_init_99 rfl (lv_at hl 0 rfl) ?_
  refine i_c (As := [.ref (sz + 1)]) (rest := [.ref (sz + 28), .ref (sz + 0)]) B hW (c_X3_init_28 l D C sz (sz + 1) (j10_0_20 sz C f) rfl) isc_X3 q138 ⟨(Nat.le_of_ble_eq_true rfl), (Nat.le_of_ble_eq_true rfl)⟩ ⟨(Nat.le_of_ble_eq_true rfl), (Nat.le_of_ble_eq_true rfl)⟩ rfl hl.1 rfl (Nat.le_of_ble_eq_true rfl) dX10_init_100 (fun H locs hW => ?_)
  have hW : i_W D sz 38 (j10_0_21 sz C f) s.heap H _ := hW
  refine i_putF (q := 0) (ci := 10) (k := 2) (C0 := RX10) (T := TX10) (N := 8) (ty := tyX10 2) B hW (by decide) rfl rfl iX10 tyX10 tyX10_ok nmX10 (by decide) q259 rfl rfl hnm rfl (tyX10_ok 2 (by decide)) rfl rfl (Nat.le_of_ble_eq_true rfl) dX10_init_103 (fun H locs hW => ?_)
  have hW : i_W D sz 38 (j10_0_22 sz C f) s.heap H _ := hW
  refine lv_aload_n hx hb dX10_init_106 rfl (lv_at hl 1 rfl) ?_
  refine lv_iconst (v := 0) hx hb dX10_init_107 (by decide) ?_
  refine i_put (q := 0) (ci := 10) (k := 3) (C0 := RX10) (T := TX10) (N := 8) (ty := tyX10 3) B hW (by decide) rfl rfl iX10 tyX10 tyX10_ok nmX10 (by decide) q260 rfl rfl (tyX10_ok 3 (by decide)) rfl rfl (Nat.le_of_ble_eq_true rfl) dX10_init_108 (fun H locs hW => ?_)
  have hW : i_W D sz 38 (j10_0_23 sz C f) s.heap H _ := hW
  refine lv_aload_n hx hb dX10_init_111 rfl (lv_at hl 1 rfl) ?_
  refine i_new (ci := 7) (fs := [.null, .int 0, .int 0, .int 0, .int 0, .int 0]) (C0 := RX7) (T := TX7) (N := 6) B hW iX7 tyX7 tyX7_ok q209 q210 q75 rfl dfX7 (Nat.le_of_ble_eq_true rfl) (Nat.le_of_ble_eq_true rfl) dX10_init_112 (fun H hW => ?_)
  have hW : i_W D sz 39 (j10_0_24 sz C f) s.heap H _ := hW
  refine lv_dup hx hb dX10_init_115 rfl ?_
  refine i_cN (As := []) (rest := [.ref (sz + 38), .ref (sz + 0)]) B hW (c_X7_init_38 l D C sz (j10_0_24 sz C f) rfl) isc_X7 q211 ⟨(Nat.le_of_ble_eq_true rfl), (Nat.le_of_ble_eq_true rfl)⟩ ⟨(Nat.le_of_ble_eq_true rfl), (Nat.le_of_ble_eq_true rfl)⟩ rfl hl.1 rfl (Nat.le_of_ble_eq_true rfl) dX10_init_116 (fun H locs hW => ?_)
  have hW : i_W D sz 40 (j10_0_25 sz C f) s.heap H _ := hW
  refine i_putF (q := 0) (ci := 10) (k := 4) (C0 := RX10) (T := TX10) (N := 8) (ty := tyX10 4) B hW (by decide) rfl rfl iX10 tyX10 tyX10_ok nmX10 (by decide) q261 rfl rfl hnm rfl (tyX10_ok 4 (by decide)) rfl rfl (Nat.le_of_ble_eq_true rfl) dX10_init_119 (fun H locs hW => ?_)
  have hW : i_W D sz 40 (j10_0_26 sz C f) s.heap H _ := hW
  refine lv_aload_n hx hb dX10_init_122 rfl (lv_at hl 1 rfl) ?_
  refine lv_iconst (v := 4) hx hb dX10_init_123 (by decide) ?_
  refine i_newQ (t := 3) (N := 4) B hW rfl B.2.2.2.2.2.2.2.1.2.1 q236 (by decide) (by decide) (Nat.le_of_ble_eq_true rfl) (Nat.le_of_ble_eq_true rfl) (Nat.le_of_ble_eq_true rfl) dX10_init_124 (fun H hW => ?_)
  have hW : i_W D sz 41 (j10_0_27 sz C f) s.heap H _ := hW
  refine i_putF (q := 0) (ci := 10) (k := 5) (C0 := RX10) (T := TX10) (N := 8) (ty := tyX10 5) B hW (by decide) rfl rfl iX10 tyX10 tyX10_ok nmX10 (by decide) q262 rfl rfl hnm rfl (tyX10_ok 5 (by decide)) rfl rfl (Nat.le_of_ble_eq_true rfl) dX10_init_127 (fun H locs hW => ?_)
  have hW : i_W D sz 41 (j10_0_28 sz C f) s.heap H _ := hW
  refine lv_iconst (v := 0) hx hb dX10_init_130 (by decide) ?_
  refine lv_istore_n (lv' := [(2, .int (0)), (1, .ref (sz + 1)), (0, .ref (sz + 0))]) hx hb dX10_init_131 rfl hl (by decide) rfl (fun ls hl => ?_)
  refine lv_iload_n hx hb dX10_init_132 rfl (lv_at hl 0 rfl) ?_
  refine lv_iconst (v := 4) hx hb dX10_init_133 (by decide) ?_
  refine lv_icmp_ge (tgt := 156) hx hb dX10_init_134 (by decide) (fun c1 => absurd c1 (by decide)) (fun c1 => ?_)
  refine lv_aload_n hx hb dX10_init_137 rfl (lv_at hl 2 rfl) ?_
  refine i_get (q := 0) (ci := 10) (k := 5) (C0 := RX10) (T := TX10) (N := 8) B hW (by decide) rfl rfl iX10 (by decide) q262 rfl rfl dX10_init_138 ?_
  refine lv_iload_n hx hb dX10_init_141 rfl (lv_at hl 0 rfl) ?_
  refine i_new (ci := 5) (fs := [.null, .int 0, .int 0]) (C0 := RX5) (T := TX5) (N := 3) B hW iX5 tyX5 tyX5_ok q236 q238 q76 rfl dfX5 (Nat.le_of_ble_eq_true rfl) (Nat.le_of_ble_eq_true rfl) dX10_init_142 (fun H hW => ?_)
  have hW : i_W D sz 42 (j10_0_29 sz C f) s.heap H _ := hW
  refine lv_dup hx hb dX10_init_145 rfl ?_
  refine i_cN (As := []) (rest := [.ref (sz + 41), .int (0), .ref (sz + 40)]) B hW (c_X5_init_41 l D C sz (j10_0_29 sz C f) rfl) isc_X5 q239 ⟨(Nat.le_of_ble_eq_true rfl), (Nat.le_of_ble_eq_true rfl)⟩ ⟨(Nat.le_of_ble_eq_true rfl), (Nat.le_of_ble_eq_true rfl)⟩ rfl hl.1 rfl (Nat.le_of_ble_eq_true rfl) dX10_init_146 (fun H locs hW => ?_)
  have hW : i_W D sz 43 (j10_0_30 sz C f) s.heap H _ := hW
  refine i_astq (t := 3) (q := 40) (qk := 41) (ci := 5) (E := "WhisperSeats$Sheet") (r := (RX5, TX5, 3)) B hW rfl (by decide) rfl (by decide) rfl rfl (Or.inl rfl) (z_ixd (by decide)) dX10_init_149 (fun H locs hW => ?_)
  have hW : i_W D sz 43 (j10_0_31 sz C f) s.heap H _ := hW
  refine lv_iinc (v := 1) (lv' := [(2, .int (1)), (1, .ref (sz + 1)), (0, .ref (sz + 0))]) hx hb dX10_init_150 hl (k := 0) rfl (by decide) (by decide) rfl (fun ls hl => ?_)
  refine lv_goto (tgt := 132) hx hb dX10_init_153 (by decide) ?_
  refine lv_iload_n hx hb dX10_init_132 rfl (lv_at hl 0 rfl) ?_
  refine lv_iconst (v := 4) hx hb dX10_init_133 (by decide) ?_
  refine lv_icmp_ge (tgt := 156) hx hb dX10_init_134 (by decide) (fun c1 => absurd c1 (by decide)) (fun c1 => ?_)
  refine lv_aload_n hx hb dX10_init_137 rfl (lv_at hl 2 rfl) ?_
  refine i_get (q := 0) (ci := 10) (k := 5) (C0 := RX10) (T := TX10) (N := 8) B hW (by decide) rfl rfl iX10 (by decide) q262 rfl rfl dX10_init_138 ?_
  refine lv_iload_n hx hb dX10_init_141 rfl (lv_at hl 0 rfl) ?_
  refine i_new (ci := 5) (fs := [.null, .int 0, .int 0]) (C0 := RX5) (T := TX5) (N := 3) B hW iX5 tyX5 tyX5_ok q236 q238 q76 rfl dfX5 (Nat.le_of_ble_eq_true rfl) (Nat.le_of_ble_eq_true rfl) dX10_init_142 (fun H hW => ?_)
  have hW : i_W D sz 44 (j10_0_32 sz C f) s.heap H _ := hW
  refine lv_dup hx hb dX10_init_145 rfl ?_
  refine i_cN (As := []) (rest := [.ref (sz + 43), .int (1), .ref (sz + 40)]) B hW (c_X5_init_43 l D C sz (j10_0_32 sz C f) rfl) isc_X5 q239 ⟨(Nat.le_of_ble_eq_true rfl), (Nat.le_of_ble_eq_true rfl)⟩ ⟨(Nat.le_of_ble_eq_true rfl), (Nat.le_of_ble_eq_true rfl)⟩ rfl hl.1 rfl (Nat.le_of_ble_eq_true rfl) dX10_init_146 (fun H locs hW => ?_)
  have hW : i_W D sz 45 (j10_0_33 sz C f) s.heap H _ := hW
  refine i_astq (t := 3) (q := 40) (qk := 43) (ci := 5) (E := "WhisperSeats$Sheet") (r := (RX5, TX5, 3)) B hW rfl (by decide) rfl (by decide) rfl rfl (Or.inl rfl) (z_ixd (by decide)) dX10_init_149 (fun H locs hW => ?_)
  have hW : i_W D sz 45 (j10_0_34 sz C f) s.heap H _ := hW
  refine lv_iinc (v := 2) (lv' := [(2, .int (2)), (1, .ref (sz + 1)), (0, .ref (sz + 0))]) hx hb dX10_init_150 hl (k := 0) rfl (by decide) (by decide) rfl (fun ls hl => ?_)
  refine lv_goto (tgt := 132) hx hb dX10_init_153 (by decide) ?_
  refine lv_iload_n hx hb dX10_init_132 rfl (lv_at hl 0 rfl) ?_
  refine lv_iconst (v := 4) hx hb dX10_init_133 (by decide) ?_
  refine lv_icmp_ge (tgt := 156) hx hb dX10_init_134 (by decide) (fun c1 => absurd c1 (by decide)) (fun c1 => ?_)
  refine lv_aload_n hx hb dX10_init_137 rfl (lv_at hl 2 rfl) ?_
  refine i_get (q := 0) (ci := 10) (k := 5) (C0 := RX10) (T := TX10) (N := 8) B hW (by decide) rfl rfl iX10 (by decide) q262 rfl rfl dX10_init_138 ?_
  refine lv_iload_n hx hb dX10_init_141 rfl (lv_at hl 0 rfl) ?_
  refine i_new (ci := 5) (fs := [.null, .int 0, .int 0]) (C0 := RX5) (T := TX5) (N := 3) B hW iX5 tyX5 tyX5_ok q236 q238 q76 rfl dfX5 (Nat.le_of_ble_eq_true rfl) (Nat.le_of_ble_eq_true rfl) dX10_init_142 (fun H hW => ?_)
  have hW : i_W D sz 46 (j10_0_35 sz C f) s.heap H _ := hW
  refine lv_dup hx hb dX10_init_145 rfl ?_
  refine i_cN (As := []) (rest := [.ref (sz + 45), .int (2), .ref (sz + 40)]) B hW (c_X5_init_45 l D C sz (j10_0_35 sz C f) rfl) isc_X5 q239 ⟨(Nat.le_of_ble_eq_true rfl), (Nat.le_of_ble_eq_true rfl)⟩ ⟨(Nat.le_of_ble_eq_true rfl), (Nat.le_of_ble_eq_true rfl)⟩ rfl hl.1 rfl (Nat.le_of_ble_eq_true rfl) dX10_init_146 (fun H locs hW => ?_)
  have hW : i_W D sz 47 (j10_0_36 sz C f) s.heap H _ := hW
  refine i_astq (t := 3) (q := 40) (qk := 45) (ci := 5) (E := "WhisperSeats$Sheet") (r := (RX5, TX5, 3)) B hW rfl (by decide) rfl (by decide) rfl rfl (Or.inl rfl) (z_ixd (by decide)) dX10_init_149 (fun H locs hW => ?_)
  have hW : i_W D sz 47 (j10_0_37 sz C f) s.heap H _ := hW
  refine lv_iinc (v := 3) (lv' := [(2, .int (3)), (1, .ref (sz + 1)), (0, .ref (sz + 0))]) hx hb dX10_init_150 hl (k := 0) rfl (by decide) (by decide) rfl (fun ls hl => ?_)
  refine lv_goto (tgt := 132) hx hb dX10_init_153 (by decide) ?_
  refine lv_iload_n hx hb dX10_init_132 rfl (lv_at hl 0 rfl) ?_
  refine lv_iconst (v := 4) hx hb dX10_init_133 (by decide) ?_
  refine lv_icmp_ge (tgt := 156) hx hb dX10_init_134 (by decide) (fun c1 => absurd c1 (by decide)) (fun c1 => ?_)
  refine lv_aload_n hx hb dX10_init_137 rfl (lv_at hl 2 rfl) ?_
  refine i_get (q := 0) (ci := 10) (k := 5) (C0 := RX10) (T := TX10) (N := 8) B hW (by decide) rfl rfl iX10 (by decide) q262 rfl rfl dX10_init_138 ?_
  refine lv_iload_n hx hb dX10_init_141 rfl (lv_at hl 0 rfl) ?_
  refine i_new (ci := 5) (fs := [.null, .int 0, .int 0]) (C0 := RX5) (T := TX5) (N := 3) B hW iX5 tyX5 tyX5_ok q236 q238 q76 rfl dfX5 (Nat.le_of_ble_eq_true rfl) (Nat.le_of_ble_eq_true rfl) dX10_init_142 (fun H hW => ?_)
  have hW : i_W D sz 48 (j10_0_38 sz C f) s.heap H _ := hW
  refine lv_dup hx hb dX10_init_145 rfl ?_
  refine i_cN (As := []) (rest := [.ref (sz + 47), .int (3), .ref (sz + 40)]) B hW (c_X5_init_47 l D C sz (j10_0_38 sz C f) rfl) isc_X5 q239 ⟨(Nat.le_of_ble_eq_true rfl), (Nat.le_of_ble_eq_true rfl)⟩ ⟨(Nat.le_of_ble_eq_true rfl), (Nat.le_of_ble_eq_true rfl)⟩ rfl hl.1 rfl (Nat.le_of_ble_eq_true rfl) dX10_init_146 (fun H locs hW => ?_)
  have hW : i_W D sz 49 (j10_0_39 sz C f) s.heap H _ := hW
  refine i_astq (t := 3) (q := 40) (qk := 47) (ci := 5) (E := "WhisperSeats$Sheet") (r := (RX5, TX5, 3)) B hW rfl (by decide) rfl (by decide) rfl rfl (Or.inl rfl) (z_ixd (by decide)) dX10_init_149 (fun H locs hW => ?_)
  have hW : i_W D sz 49 (j10_0_40 sz C f) s.heap H _ := hW
  refine lv_iinc (v := 4) (lv' := [(2, .int (4)), (1, .ref (sz + 1)), (0, .ref (sz + 0))]) hx hb dX10_init_150 hl (k := 0) rfl (by decide) (by decide) rfl (fun ls hl => ?_)
  refine lv_goto (tgt := 132) hx hb dX10_init_153 (by decide) ?_
  refine lv_iload_n hx hb dX10_init_132 rfl (lv_at hl 0 rfl) ?_
  refine lv_iconst (v := 4) hx hb dX10_init_133 (by decide) ?_
  refine lv_icmp_ge (tgt := 156) hx hb dX10_init_134 (by decide) (fun c1 => ?_) (fun c1 => absurd (by decide) c1)
  refine lv_aload_n hx hb dX10_init_156 rfl (lv_at hl 2 rfl) ?_
  refine lv_bipush (v := 7) hx hb dX10_init_157 (by decide) ?_
  refine i_newI (N := 7) B hW (by decide) (by decide) (Nat.le_of_ble_eq_true rfl) (Nat.le_of_ble_eq_true rfl) (Nat.le_of_ble_eq_true rfl) dX10_init_159 (fun H hW => ?_)
  have hW : i_W D sz 50 (j10_0_41 sz C f) s.heap H _ := hW
  refine i_putF (q := 0) (ci := 10) (k := 6) (C0 := RX10) (T := TX10) (N := 8) (ty := tyX10 6) B hW (by decide) rfl rfl iX10 tyX10 tyX10_ok nmX10 (by decide) q263 rfl rfl hnm rfl (tyX10_ok 6 (by decide)) rfl rfl (Nat.le_of_ble_eq_true rfl) dX10_init_161 (fun H locs hW => ?_)
  have hW : i_W D sz 50 (j10_0_42 sz C f) s.heap H _ := hW
  refine lv_aload_n hx hb dX10_init_164 rfl (lv_at hl 2 rfl) ?_
  refine lv_bipush (v := 10) hx hb dX10_init_165 (by decide) ?_
  refine i_newI (N := 10) B hW (by decide) (by decide) (Nat.le_of_ble_eq_true rfl) (Nat.le_of_ble_eq_true rfl) (Nat.le_of_ble_eq_true rfl) dX10_init_167 (fun H hW => ?_)
  have hW : i_W D sz 51 (j10_0_43 sz C f) s.heap H _ := hW
  refine i_putF (q := 0) (ci := 10) (k := 7) (C0 := RX10) (T := TX10) (N := 8) (ty := tyX10 7) B hW (by decide) rfl rfl iX10 tyX10 tyX10_ok nmX10 (by decide) q264 rfl rfl hnm rfl (tyX10_ok 7 (by decide)) rfl rfl (Nat.le_of_ble_eq_true rfl) dX10_init_169 (fun H locs hW => ?_)
  have hW : i_W D sz 51 (j10_0_44 sz C f) s.heap H _ := hW
  refine W.widen (k := 50) (n := 511) (Nat.le_of_ble_eq_true rfl) (Nat.le_of_ble_eq_true rfl) ?_
  exact i_rv B hr hlk hW dX10_init_172
def j11_51_0 (sz : Nat) (C : Nat → ClassId) (f : Nat → va_E) : Nat → va_E := f
def j11_51_1 (sz : Nat) (C : Nat → ClassId) (f : Nat → va_E) : Nat → va_E := va_up (j11_51_0 sz C f) 52 (.inl (C 0, 52, .inl (fun _ => 0)))
def j11_51_2 (sz : Nat) (C : Nat → ClassId) (f : Nat → va_E) : Nat → va_E := va_up (j11_51_1 sz C f) 51 (.inr (11, [.ref (sz + 52), .null, .null, .null, .int 0, .null, .null, .int 0, .null, .null, .null, .int 0, .int 0, .int 0, .int 0, .int 0]))
def j11_51_3 (sz : Nat) (C : Nat → ClassId) (f : Nat → va_E) : Nat → va_E := va_up (j11_51_2 sz C f) 53 (.inl (C 0, 52, .inl (fun _ => 0)))
def j11_51_4 (sz : Nat) (C : Nat → ClassId) (f : Nat → va_E) : Nat → va_E := va_up (j11_51_3 sz C f) 51 (.inr (11, [.ref (sz + 52), .ref (sz + 53), .null, .null, .int 0, .null, .null, .int 0, .null, .null, .null, .int 0, .int 0, .int 0, .int 0, .int 0]))
def j11_51_5 (sz : Nat) (C : Nat → ClassId) (f : Nat → va_E) : Nat → va_E := va_up (j11_51_4 sz C f) 54 (.inl (C 0, 52, .inl (fun _ => 0)))
def j11_51_6 (sz : Nat) (C : Nat → ClassId) (f : Nat → va_E) : Nat → va_E := va_up (j11_51_5 sz C f) 51 (.inr (11, [.ref (sz + 52), .ref (sz + 53), .ref (sz + 54), .null, .int 0, .null, .null, .int 0, .null, .null, .null, .int 0, .int 0, .int 0, .int 0, .int 0]))
def j11_51_7 (sz : Nat) (C : Nat → ClassId) (f : Nat → va_E) : Nat → va_E := va_up (j11_51_6 sz C f) 55 (.inl (C 0, 52, .inl (fun _ => 0)))
def j11_51_8 (sz : Nat) (C : Nat → ClassId) (f : Nat → va_E) : Nat → va_E := va_up (j11_51_7 sz C f) 51 (.inr (11, [.ref (sz + 52), .ref (sz + 53), .ref (sz + 54), .ref (sz + 55), .int 0, .null, .null, .int 0, .null, .null, .null, .int 0, .int 0, .int 0, .int 0, .int 0]))
def j11_51_9 (sz : Nat) (C : Nat → ClassId) (f : Nat → va_E) : Nat → va_E := va_up (j11_51_8 sz C f) 56 (.inl (C 0, 8, .inl (fun _ => 0)))
def j11_51_10 (sz : Nat) (C : Nat → ClassId) (f : Nat → va_E) : Nat → va_E := va_up (j11_51_9 sz C f) 51 (.inr (11, [.ref (sz + 52), .ref (sz + 53), .ref (sz + 54), .ref (sz + 55), .int 0, .ref (sz + 56), .null, .int 0, .null, .null, .null, .int 0, .int 0, .int 0, .int 0, .int 0]))
def j11_51_11 (sz : Nat) (C : Nat → ClassId) (f : Nat → va_E) : Nat → va_E := va_up (j11_51_10 sz C f) 57 (.inl (C 0, 120, .inl (fun _ => 0)))
def j11_51_12 (sz : Nat) (C : Nat → ClassId) (f : Nat → va_E) : Nat → va_E := va_up (j11_51_11 sz C f) 51 (.inr (11, [.ref (sz + 52), .ref (sz + 53), .ref (sz + 54), .ref (sz + 55), .int 0, .ref (sz + 56), .ref (sz + 57), .int 0, .null, .null, .null, .int 0, .int 0, .int 0, .int 0, .int 0]))
def j11_51_13 (sz : Nat) (C : Nat → ClassId) (f : Nat → va_E) : Nat → va_E := va_up (j11_51_12 sz C f) 58 (.inl (C 0, 4, .inl (fun _ => 0)))
def j11_51_14 (sz : Nat) (C : Nat → ClassId) (f : Nat → va_E) : Nat → va_E := va_up (j11_51_13 sz C f) 58 (.inl (C 0, 4, .inl (upd (fun _ => 0) 0 (-1))))
def j11_51_15 (sz : Nat) (C : Nat → ClassId) (f : Nat → va_E) : Nat → va_E := va_up (j11_51_14 sz C f) 58 (.inl (C 0, 4, .inl (upd (upd (fun _ => 0) 0 (-1)) 1 (-1))))
def j11_51_16 (sz : Nat) (C : Nat → ClassId) (f : Nat → va_E) : Nat → va_E := va_up (j11_51_15 sz C f) 58 (.inl (C 0, 4, .inl (upd (upd (upd (fun _ => 0) 0 (-1)) 1 (-1)) 2 (-1))))
def j11_51_17 (sz : Nat) (C : Nat → ClassId) (f : Nat → va_E) : Nat → va_E := va_up (j11_51_16 sz C f) 58 (.inl (C 0, 4, .inl (upd (upd (upd (upd (fun _ => 0) 0 (-1)) 1 (-1)) 2 (-1)) 3 (-1))))
def j11_51_18 (sz : Nat) (C : Nat → ClassId) (f : Nat → va_E) : Nat → va_E := va_up (j11_51_17 sz C f) 51 (.inr (11, [.ref (sz + 52), .ref (sz + 53), .ref (sz + 54), .ref (sz + 55), .int 0, .ref (sz + 56), .ref (sz + 57), .int 0, .ref (sz + 58), .null, .null, .int 0, .int 0, .int 0, .int 0, .int 0]))
def j11_51_19 (sz : Nat) (C : Nat → ClassId) (f : Nat → va_E) : Nat → va_E := va_up (j11_51_18 sz C f) 59 (.inl (C 0, 4, .inl (fun _ => 0)))
def j11_51_20 (sz : Nat) (C : Nat → ClassId) (f : Nat → va_E) : Nat → va_E := va_up (j11_51_19 sz C f) 51 (.inr (11, [.ref (sz + 52), .ref (sz + 53), .ref (sz + 54), .ref (sz + 55), .int 0, .ref (sz + 56), .ref (sz + 57), .int 0, .ref (sz + 58), .ref (sz + 59), .null, .int 0, .int 0, .int 0, .int 0, .int 0]))
def j11_51_21 (sz : Nat) (C : Nat → ClassId) (f : Nat → va_E) : Nat → va_E := va_up (j11_51_20 sz C f) 60 (.inl (C 1, 160, .inr (.inl (fun _ => 0))))
def j11_51_22 (sz : Nat) (C : Nat → ClassId) (f : Nat → va_E) : Nat → va_E := va_up (j11_51_21 sz C f) 51 (.inr (11, [.ref (sz + 52), .ref (sz + 53), .ref (sz + 54), .ref (sz + 55), .int 0, .ref (sz + 56), .ref (sz + 57), .int 0, .ref (sz + 58), .ref (sz + 59), .ref (sz + 60), .int 0, .int 0, .int 0, .int 0, .int 0]))
def j11_51_23 (sz : Nat) (C : Nat → ClassId) (f : Nat → va_E) : Nat → va_E := va_up (j11_51_22 sz C f) 52 (.inl (C 0, 52, .inl (upd (fun _ => 0) 3 (-1))))
set_option maxHeartbeats 4000000 in
set_option maxRecDepth 100000 in
theorem c_X11_init_51 (l : Launch) (D : va_G) (C : Nat → ClassId) (sz : Nat) (f : Nat → va_E) (hf0 : f 51 = .inr (11, [.null, .null, .null, .null, .int 0, .null, .null, .int 0, .null, .null, .null, .int 0, .int 0, .int 0, .int 0, .int 0])) : i_Fn l D C sz yX11_init cX11_init 1 1 40 9 504 [.ref (sz + 51)] 52 f 61 (j11_51_23 sz C f) := by
  refine i_Fn.of (by decide) rfl (Nat.le_of_ble_eq_true rfl) ?_
  intro p e s m below meth c ls B hr hlk hnm hW hl
  have B : i_B D C p s m _ c cX11_init 1 RX11 := B
  have hl : lv_has ls 1 [(0, .ref (sz + 51))] := hl
  have hx := B.1
  have hb := B.2.1
  have hml := B.2.2.1
  have ho := B.2.2.2.1
  have hw := B.2.2.2.2.1
  have hW : i_W D sz 52 (j11_51_0 sz C f) s.heap s.heap [] := hW
  refine lv_aload_n hx hb dX11_init_0 rfl (lv_at hl 0 rfl) ?_
  refine W.objInit hx hb ho (hw _ q854) (hw _ q91) (hw _ qobj_code) rfl (by rw [hml]; exact hl.1) rfl dX11_init_1 (Nat.le_of_ble_eq_true rfl) (Nat.le_of_ble_eq_true rfl) ?_
  refine W.eq (g2 := F0 m 4 ls []) rfl ?_
  refine lv_aload_n hx hb dX11_init_4 rfl (lv_at hl 0 rfl) ?_
  refine lv_bipush (v := 52) hx hb dX11_init_5 (by decide) ?_
  refine i_newI (N := 52) B hW (by decide) (by decide) (Nat.le_of_ble_eq_true rfl) (Nat.le_of_ble_eq_true rfl) (Nat.le_of_ble_eq_true rfl) dX11_init_7 (fun H hW => ?_)
  have hW : i_W D sz 53 (j11_51_1 sz C f) s.heap H _ := hW
  refine i_putF (q := 51) (ci := 11) (k := 0) (C0 := RX11) (T := TX11) (N := 16) (ty := tyX11 0) B hW (by decide) hf0 rfl iX11 tyX11 tyX11_ok nmX11 (by decide) q855 rfl rfl hnm rfl (tyX11_ok 0 (by decide)) rfl rfl (Nat.le_of_ble_eq_true rfl) dX11_init_9 (fun H locs hW => ?_)
  have hW : i_W D sz 53 (j11_51_2 sz C f) s.heap H _ := hW
  refine lv_aload_n hx hb dX11_init_12 rfl (lv_at hl 0 rfl) ?_
  refine lv_bipush (v := 52) hx hb dX11_init_13 (by decide) ?_
  refine i_newI (N := 52) B hW (by decide) (by decide) (Nat.le_of_ble_eq_true rfl) (Nat.le_of_ble_eq_true rfl) (Nat.le_of_ble_eq_true rfl) dX11_init_15 (fun H hW => ?_)
  have hW : i_W D sz 54 (j11_51_3 sz C f) s.heap H _ := hW
  refine i_putF (q := 51) (ci := 11) (k := 1) (C0 := RX11) (T := TX11) (N := 16) (ty := tyX11 1) B hW (by decide) rfl rfl iX11 tyX11 tyX11_ok nmX11 (by decide) q856 rfl rfl hnm rfl (tyX11_ok 1 (by decide)) rfl rfl (Nat.le_of_ble_eq_true rfl) dX11_init_17 (fun H locs hW => ?_)
  have hW : i_W D sz 54 (j11_51_4 sz C f) s.heap H _ := hW
  refine lv_aload_n hx hb dX11_init_20 rfl (lv_at hl 0 rfl) ?_
  refine lv_bipush (v := 52) hx hb dX11_init_21 (by decide) ?_
  refine i_newI (N := 52) B hW (by decide) (by decide) (Nat.le_of_ble_eq_true rfl) (Nat.le_of_ble_eq_true rfl) (Nat.le_of_ble_eq_true rfl) dX11_init_23 (fun H hW => ?_)
  have hW : i_W D sz 55 (j11_51_5 sz C f) s.heap H _ := hW
  refine i_putF (q := 51) (ci := 11) (k := 2) (C0 := RX11) (T := TX11) (N := 16) (ty := tyX11 2) B hW (by decide) rfl rfl iX11 tyX11 tyX11_ok nmX11 (by decide) q857 rfl rfl hnm rfl (tyX11_ok 2 (by decide)) rfl rfl (Nat.le_of_ble_eq_true rfl) dX11_init_25 (fun H locs hW => ?_)
  have hW : i_W D sz 55 (j11_51_6 sz C f) s.heap H _ := hW
  refine lv_aload_n hx hb dX11_init_28 rfl (lv_at hl 0 rfl) ?_
  refine lv_bipush (v := 52) hx hb dX11_init_29 (by decide) ?_
  refine i_newI (N := 52) B hW (by decide) (by decide) (Nat.le_of_ble_eq_true rfl) (Nat.le_of_ble_eq_true rfl) (Nat.le_of_ble_eq_true rfl) dX11_init_31 (fun H hW => ?_)
  have hW : i_W D sz 56 (j11_51_7 sz C f) s.heap H _ := hW
  refine i_putF (q := 51) (ci := 11) (k := 3) (C0 := RX11) (T := TX11) (N := 16) (ty := tyX11 3) B hW (by decide) rfl rfl iX11 tyX11 tyX11_ok nmX11 (by decide) q858 rfl rfl hnm rfl (tyX11_ok 3 (by decide)) rfl rfl (Nat.le_of_ble_eq_true rfl) dX11_init_33 (fun H locs hW => ?_)
  have hW : i_W D sz 56 (j11_51_8 sz C f) s.heap H _ := hW
  refine lv_aload_n hx hb dX11_init_36 rfl (lv_at hl 0 rfl) ?_
  refine lv_bipush (v := 8) hx hb dX11_init_37 (by decide) ?_
  refine i_newI (N := 8) B hW (by decide) (by decide) (Nat.le_of_ble_eq_true rfl) (Nat.le_of_ble_eq_true rfl) (Nat.le_of_ble_eq_true rfl) dX11_init_39 (fun H hW => ?_)
  have hW : i_W D sz 57 (j11_51_9 sz C f) s.heap H _ := hW
  refine i_putF (q := 51) (ci := 11) (k := 5) (C0 := RX11) (T := TX11) (N := 16) (ty := tyX11 5) B hW (by decide) rfl rfl iX11 tyX11 tyX11_ok nmX11 (by decide) q860 rfl rfl hnm rfl (tyX11_ok 5 (by decide)) rfl rfl (Nat.le_of_ble_eq_true rfl) dX11_init_41 (fun H locs hW => ?_)
  have hW : i_W D sz 57 (j11_51_10 sz C f) s.heap H _ := hW
  refine lv_aload_n hx hb dX11_init_44 rfl (lv_at hl 0 rfl) ?_
  refine lv_bipush (v := 120) hx hb dX11_init_45 (by decide) ?_
  refine i_newI (N := 120) B hW (by decide) (by decide) (Nat.le_of_ble_eq_true rfl) (Nat.le_of_ble_eq_true rfl) (Nat.le_of_ble_eq_true rfl) dX11_init_47 (fun H hW => ?_)
  have hW : i_W D sz 58 (j11_51_11 sz C f) s.heap H _ := hW
  refine i_putF (q := 51) (ci := 11) (k := 6) (C0 := RX11) (T := TX11) (N := 16) (ty := tyX11 6) B hW (by decide) rfl rfl iX11 tyX11 tyX11_ok nmX11 (by decide) q861 rfl rfl hnm rfl (tyX11_ok 6 (by decide)) rfl rfl (Nat.le_of_ble_eq_true rfl) dX11_init_49 (fun H locs hW => ?_)
  have hW : i_W D sz 58 (j11_51_12 sz C f) s.heap H _ := hW
  refine lv_aload_n hx hb dX11_init_52 rfl (lv_at hl 0 rfl) ?_
  refine lv_iconst (v := 4) hx hb dX11_init_53 (by decide) ?_
  refine i_newI (N := 4) B hW (by decide) (by decide) (Nat.le_of_ble_eq_true rfl) (Nat.le_of_ble_eq_true rfl) (Nat.le_of_ble_eq_true rfl) dX11_init_54 (fun H hW => ?_)
  have hW : i_W D sz 59 (j11_51_13 sz C f) s.heap H _ := hW
  refine lv_dup hx hb dX11_init_56 rfl ?_
  refine lv_iconst (v := 0) hx hb dX11_init_57 (by decide) ?_
  refine lv_iconst (v := -1) hx hb dX11_init_58 (by decide) ?_
  refine i_ast (q := 58) B hW (by decide) rfl (z_ixd (by decide)) dX11_init_59 (fun H locs hW => ?_)
  have hW : i_W D sz 59 (j11_51_14 sz C f) s.heap H _ := hW
  refine lv_dup hx hb dX11_init_60 rfl ?_
  refine lv_iconst (v := 1) hx hb dX11_init_61 (by decide) ?_
  refine lv_iconst (v := -1) hx hb dX11_init_62 (by decide) ?_
  refine i_ast (q := 58) B hW (by decide) rfl (z_ixd (by decide)) dX11_init_63 (fun H locs hW => ?_)
  have hW : i_W D sz 59 (j11_51_15 sz C f) s.heap H _ := hW
  refine lv_dup hx hb dX11_init_64 rfl ?_
  refine lv_iconst (v := 2) hx hb dX11_init_65 (by decide) ?_
  refine lv_iconst (v := -1) hx hb dX11_init_66 (by decide) ?_
  refine i_ast (q := 58) B hW (by decide) rfl (z_ixd (by decide)) dX11_init_67 (fun H locs hW => ?_)
  have hW : i_W D sz 59 (j11_51_16 sz C f) s.heap H _ := hW
  refine lv_dup hx hb dX11_init_68 rfl ?_
  refine lv_iconst (v := 3) hx hb dX11_init_69 (by decide) ?_
  refine lv_iconst (v := -1) hx hb dX11_init_70 (by decide) ?_
  refine i_ast (q := 58) B hW (by decide) rfl (z_ixd (by decide)) dX11_init_71 (fun H locs hW => ?_)
  have hW : i_W D sz 59 (j11_51_17 sz C f) s.heap H _ := hW
  refine i_putF (q := 51) (ci := 11) (k := 8) (C0 := RX11) (T := TX11) (N := 16) (ty := tyX11 8) B hW (by decide) rfl rfl iX11 tyX11 tyX11_ok nmX11 (by decide) q863 rfl rfl hnm rfl (tyX11_ok 8 (by decide)) rfl rfl (Nat.le_of_ble_eq_true rfl) dX11_init_72 (fun H locs hW => ?_)
  have hW : i_W D sz 59 (j11_51_18 sz C f) s.heap H _ := hW
  refine lv_aload_n hx hb dX11_init_75 rfl (lv_at hl 0 rfl) ?_
  refine lv_iconst (v := 4) hx hb dX11_init_76 (by decide) ?_
  refine i_newI (N := 4) B hW (by decide) (by decide) (Nat.le_of_ble_eq_true rfl) (Nat.le_of_ble_eq_true rfl) (Nat.le_of_ble_eq_true rfl) dX11_init_77 (fun H hW => ?_)
  have hW : i_W D sz 60 (j11_51_19 sz C f) s.heap H _ := hW
  refine i_putF (q := 51) (ci := 11) (k := 9) (C0 := RX11) (T := TX11) (N := 16) (ty := tyX11 9) B hW (by decide) rfl rfl iX11 tyX11 tyX11_ok nmX11 (by decide) q864 rfl rfl hnm rfl (tyX11_ok 9 (by decide)) rfl rfl (Nat.le_of_ble_eq_true rfl) dX11_init_79 (fun H locs hW => ?_)
  have hW : i_W D sz 60 (j11_51_20 sz C f) s.heap H _ := hW
  refine lv_aload_n hx hb dX11_init_82 rfl (lv_at hl 0 rfl) ?_
  refine lv_sipush (v := 160) hx hb dX11_init_83 (by decide) ?_
  refine i_newL (N := 160) B hW (by decide) (by decide) (Nat.le_of_ble_eq_true rfl) (Nat.le_of_ble_eq_true rfl) (Nat.le_of_ble_eq_true rfl) dX11_init_86 (fun H hW => ?_)
  have hW : i_W D sz 61 (j11_51_21 sz C f) s.heap H _ := hW
  refine i_putF (q := 51) (ci := 11) (k := 10) (C0 := RX11) (T := TX11) (N := 16) (ty := tyX11 10) B hW (by decide) rfl rfl iX11 tyX11 tyX11_ok nmX11 (by decide) q865 rfl rfl hnm rfl (tyX11_ok 10 (by decide)) rfl rfl (Nat.le_of_ble_eq_true rfl) dX11_init_88 (fun H locs hW => ?_)
  have hW : i_W D sz 61 (j11_51_22 sz C f) s.heap H _ := hW
  refine lv_aload_n hx hb dX11_init_91 rfl (lv_at hl 0 rfl) ?_
  refine i_get (q := 51) (ci := 11) (k := 0) (C0 := RX11) (T := TX11) (N := 16) B hW (by decide) rfl rfl iX11 (by decide) q855 rfl rfl dX11_init_92 ?_
  refine lv_iconst (v := 3) hx hb dX11_init_95 (by decide) ?_
  refine lv_iconst (v := -1) hx hb dX11_init_96 (by decide) ?_
  refine i_ast (q := 52) B hW (by decide) rfl (z_ixd (by decide)) dX11_init_97 (fun H locs hW => ?_)
  have hW : i_W D sz 61 (j11_51_23 sz C f) s.heap H _ := hW
  refine W.widen (k := 9) (n := 504) (Nat.le_of_ble_eq_true rfl) (Nat.le_of_ble_eq_true rfl) ?_
  exact i_rv B hr hlk hW dX11_init_98
