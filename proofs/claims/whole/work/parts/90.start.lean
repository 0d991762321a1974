def g_si : List Nat := [103, 105, 107, 109, 111, 113, 79, 85, 53, 59]
def g_st (i : Nat) : Term := Term.string RX7 (g_si.getD i 0)
def g_fl : List Cond := flatC (Jvm.Cond.and given_1 narrow_1)
theorem g_s1 : ∀ i, i < 10 → Cond.exactly (g_st i) "java/lang/String" ∈ g_fl := by decide +kernel
theorem g_s2 : ∀ i, i < 10 → Cond.eq (.field (g_st i) "java/lang/String" "coder" "B") (.int 0) ∈ g_fl := by decide +kernel
theorem g_s3 : ∀ i, i < 10 → Cond.arrayOf (.field (g_st i) "java/lang/String" "value" "[B") .byte ∈ g_fl := by decide +kernel
theorem g_s4 : ∀ i, i < 10 → Cond.eq (.length (.field (g_st i) "java/lang/String" "value" "[B")) (.int (Int32.ofNat (z_sl.getD i 0))) ∈ g_fl := by decide +kernel
theorem g_s5 : ∀ i, i < 10 → ∀ j, j < z_sl.getD i 0 → Cond.eq (.elem (.field (g_st i) "java/lang/String" "value" "[B") (.int (Int32.ofNat j))) (.int ((z_sb.getD i []).getD j 0)) ∈ g_fl := by decide +kernel
theorem g_s6 : ∀ i, i < 10 → ∀ j, j < 10 → i ≠ j → Cond.not (Cond.eq (g_st i) (g_st j)) ∈ g_fl ∨ Cond.not (Cond.eq (g_st j) (g_st i)) ∈ g_fl := by decide +kernel
theorem g_s7 : ∀ j, j < 6 → Cond.eq (.elem (.static "WhisperSeats" "ABOVE" "[I") (.int (Int32.ofNat j))) (.int (z_ab.getD j 0)) ∈ g_fl := by decide +kernel
theorem g_lt10 : ∀ i, i < 10 → z_sl.getD i 0 < 2 ^ 31 := fun i _ => z_slb i
theorem g_ex {s : State} {args : Array Value} {D : va_G} {C : Nat → ClassId} (hts : ∀ w ∈ lw_tbl, w.before args s = true) (hgv : (Jvm.Cond.and given_1 narrow_1).before args s = true) : ∃ (sK sV : Nat → Nat) (t : Nat), z_Ex (g_0 D C s.heap.size sK sV t) s s.heap := by
  have hs := flat_of_before _ hgv
  have hA : ∀ a : Nat, a < s.heap.size → ¬ (fun q => q ∈ (List.range 61).map (fun k => s.heap.size + k)) a := by
    intro a ha h
    obtain ⟨k, -, e⟩ := List.mem_map.mp h
    have e : s.heap.size + k = a := e
    omega
  obtain ⟨sK, sV, h1, h2⟩ := vk_Sof (args := args) (s := s) (N := 10) (tm := g_st) (len := z_sl) (byt := z_sb) g_lt10 (fun i hi => hs _ (g_s1 i hi)) (fun i hi => hs _ (g_s2 i hi)) (fun i hi => hs _ (g_s3 i hi)) (fun i hi => hs _ (g_s4 i hi)) (fun i hi j hj => hs _ (g_s5 i hi j hj)) (fun i j hi hj hij => (g_s6 i hi j hj hij).imp (hs _) (hs _)) hA
  obtain ⟨t, ht, hT⟩ := va_Tof (args := args) (s := s) (tm := .static "WhisperSeats" "ABOVE" "[I") (ty := .int) (N := 6) (f := fun j => .int (z_ab.getD j 0)) (A := fun q => q ∈ (List.range 61).map (fun k => s.heap.size + k)) (by decide) (hs _ (by decide +kernel)) (va_eqt (hs _ (show Cond.eq (.length (.static "WhisperSeats" "ABOVE" "[I")) (.int 6) ∈ g_fl by decide +kernel))) (fun j hj => va_eqt (hs _ (g_s7 j hj))) hA
  refine ⟨sK, sV, t, h1, ⟨vk_R.of (hts _ (List.mem_of_getElem? (i := 680) (by decide +kernel))) (h2 0 (by decide)), vk_R.of (hts _ (List.mem_of_getElem? (i := 681) (by decide +kernel))) (h2 1 (by decide)), vk_R.of (hts _ (List.mem_of_getElem? (i := 682) (by decide +kernel))) (h2 2 (by decide)), vk_R.of (hts _ (List.mem_of_getElem? (i := 683) (by decide +kernel))) (h2 3 (by decide)), vk_R.of (hts _ (List.mem_of_getElem? (i := 684) (by decide +kernel))) (h2 4 (by decide)), vk_R.of (hts _ (List.mem_of_getElem? (i := 685) (by decide +kernel))) (h2 5 (by decide)), vk_R.of (hts _ (List.mem_of_getElem? (i := 745) (by decide +kernel))) (h2 6 (by decide)), vk_R.of (hts _ (List.mem_of_getElem? (i := 754) (by decide +kernel))) (h2 7 (by decide)), vk_R.of (hts _ (List.mem_of_getElem? (i := 761) (by decide +kernel))) (h2 8 (by decide)), vk_R.of (hts _ (List.mem_of_getElem? (i := 766) (by decide +kernel))) (h2 9 (by decide))⟩, ?_, ?_, hT, ?_⟩
  · exact va_Zof (hts _ (List.mem_of_getElem? (i := 699) (by decide +kernel))) (hts _ (List.mem_of_getElem? (i := 80) (by decide +kernel))) (va_eqi (hs _ (show Cond.eq (.static "java/lang/String" "COMPACT_STRINGS" "Z") (.int 1) ∈ g_fl by decide +kernel))) hA
  · exact va_Zref (hts _ (List.mem_of_getElem? (i := 446) (by decide +kernel))) (hts _ (List.mem_of_getElem? (i := 66) (by decide +kernel))) ht hA
  · exact va_Zqof (hts _ (List.mem_of_getElem? (i := 715) (by decide +kernel))) (hts _ (List.mem_of_getElem? (i := 82) (by decide +kernel))) (hs _ (show Cond.isRef (.static "jdk/internal/util/Preconditions" "SIOOBE_FORMATTER" "Ljava/util/function/BiFunction;") ∈ g_fl by decide +kernel)) hA
theorem g_kn {s : State} {args : Array Value} (hw : ∀ w ∈ BIG, w.before args s = true) : ∃ (dC : Nat → ClassId) (dI : Nat → Nat → Nat), ∀ (k : Nat) (q : vw_C), vwCl[k]? = some q → u_Kn s q.1 q.2.1 q.2.2 (dC k) (dI k) := by
  obtain ⟨c0, i0, h0⟩ := u_known (C := RX0) (T := TX0) (N := 0) (n := 0) hw iX0 (hw _ q102)
  obtain ⟨c1, i1, h1⟩ := u_known (C := RX1) (T := TX1) (N := 0) (n := 0) hw iX1 (hw _ q109)
  obtain ⟨c2, i2, h2⟩ := u_known (C := RX2) (T := TX2) (N := 0) (n := 0) hw iX2 (hw _ q123)
  obtain ⟨c3, i3, h3⟩ := u_known (C := RX3) (T := TX3) (N := 6) (n := 6) hw iX3 (hw _ q137)
  obtain ⟨c4, i4, h4⟩ := u_known (C := RX4) (T := TX4) (N := 0) (n := 0) hw iX4 (hw _ q95)
  obtain ⟨c5, i5, h5⟩ := u_known (C := RX5) (T := TX5) (N := 3) (n := 3) hw iX5 (hw _ q238)
  obtain ⟨c6, i6, h6⟩ := u_known (C := RX6) (T := TX6) (N := 0) (n := 0) hw iX6 (hw _ q130)
  obtain ⟨c7, i7, h7⟩ := u_known (C := RX7) (T := TX7) (N := 6) (n := 6) hw iX7 (hw _ q210)
  obtain ⟨c8, i8, h8⟩ := u_known (C := RX8) (T := TX8) (N := 6) (n := 6) hw iX8 (hw _ q144)
  obtain ⟨c9, i9, h9⟩ := u_known (C := RX9) (T := TX9) (N := 0) (n := 0) hw iX9 (hw _ q116)
  obtain ⟨c10, i10, h10⟩ := u_known (C := RX10) (T := TX10) (N := 8) (n := 8) hw iX10 (hw _ q86)
  obtain ⟨c11, i11, h11⟩ := u_known (C := RX11) (T := TX11) (N := 16) (n := 16) hw iX11 (hw _ q850)
  refine ⟨fun k => match k with | 0 => c0 | 1 => c1 | 2 => c2 | 3 => c3 | 4 => c4 | 5 => c5 | 6 => c6 | 7 => c7 | 8 => c8 | 9 => c9 | 10 => c10 | _ => c11, fun k => match k with | 0 => i0 | 1 => i1 | 2 => i2 | 3 => i3 | 4 => i4 | 5 => i5 | 6 => i6 | 7 => i7 | 8 => i8 | 9 => i9 | 10 => i10 | _ => i11, ?_⟩
  intro k q hq
  match k, hq with
  | 0, hq => cases hq; exact h0
  | 1, hq => cases hq; exact h1
  | 2, hq => cases hq; exact h2
  | 3, hq => cases hq; exact h3
  | 4, hq => cases hq; exact h4
  | 5, hq => cases hq; exact h5
  | 6, hq => cases hq; exact h6
  | 7, hq => cases hq; exact h7
  | 8, hq => cases hq; exact h8
  | 9, hq => cases hq; exact h9
  | 10, hq => cases hq; exact h10
  | 11, hq => cases hq; exact h11
  | k + 12, hq => simp [vwCl] at hq
theorem g_ac {s : State} {args : Array Value} {ty : FieldType} (h : (Cond.arrayClass ty).before args s = true) (hp : ∀ C, ty ≠ .object C) : ∃ cA, ArrOfT s cA ty ∧ va_RA s cA ty := by
  obtain ⟨cA, kA, comp, h1, h2, h3⟩ := Cond.arrayClass_spec (args := args) (first := s) (o := none) (s := s) (idx := []) h
  refine ⟨cA, fun n z => ⟨fun k h => (by cases h), kA, h2, comp, h3⟩, ?_⟩
  cases ty with
  | object C => exact absurd rfl (hp C)
  | _ => exact h1
theorem g_ao {s : State} {args : Array Value} {C : String} (h : (Cond.arrayOver (.object C)).before args s = true) : ∃ cA, ArrOfT s cA (.object C) ∧ va_RA s cA (.object C) := by
  obtain ⟨comp, cA, kA, h1, h2, h3, h4, h5⟩ := Cond.arrayOver_spec (args := args) (first := s) (o := none) (s := s) (idx := []) h
  exact ⟨cA, fun n z => ⟨fun k h => (by cases h), kA, h3, comp, h4⟩, kA, comp, h3, h4, h1, h5⟩
theorem g_ki {s : State} {args : Array Value} (hts : ∀ w ∈ lw_tbl, w.before args s = true) : ∃ (D : va_G) (C : Nat → ClassId), i_K D C s := by
  have hw : ∀ w ∈ BIG, w.before args s = true := fun w h => hts w (List.mem_filter.mp h).1
  obtain ⟨dC, dI, hK⟩ := g_kn hw
  obtain ⟨c0, a0⟩ := g_ac (hw _ qac_int) (fun C h => by cases h)
  obtain ⟨c1, a1⟩ := g_ac (hw _ qac_long) (fun C h => by cases h)
  have o2 := hts (Cond.arrayOver (.object "WhisperSeats$Person")) (List.mem_of_getElem? (i := 94) (by decide +kernel))
  have o3 := hts (Cond.arrayOver (.object "WhisperSeats$Sheet")) (List.mem_of_getElem? (i := 237) (by decide +kernel))
  have o4 := hts (Cond.arrayOver (.object "WhisperSeats$Visitor")) (List.mem_of_getElem? (i := 143) (by decide +kernel))
  obtain ⟨c2, a2⟩ := g_ao o2
  obtain ⟨c3, a3⟩ := g_ao o3
  obtain ⟨c4, a4⟩ := g_ao o4
  refine ⟨(dC, dI), fun k => match k with | 0 => c0 | 1 => c1 | 2 => c2 | 3 => c3 | _ => c4, ⟨hK, ?_⟩, ?_, ⟨va_AO.of o2, va_AO.of o3, va_AO.of o4⟩, ?_⟩
  · intro k q hk
    match k, hk with
    | 0, hk => cases hk; exact a0
    | 1, hk => cases hk; exact a1
    | 2, hk => cases hk; exact a2
    | 3, hk => cases hk; exact a3
    | 4, hk => cases hk; exact a4
    | k + 5, hk => simp [i_T] at hk
  · intro w hm
    have h1 := hts w (List.mem_filter.mp hm).1
    have h2 := (List.mem_filter.mp hm).2
    cases w with
    | fieldLinkNest _ _ _ _ _ _ => exact va_Nw.of rfl h1
    | methodLinkNest _ _ _ _ => exact va_Nw.of rfl h1
    | _ => cases h2
  · exact ⟨va_Nw.of rfl (hts _ (List.mem_of_getElem? (i := 1272) (by decide +kernel))), va_Nw.of rfl (hts _ (List.mem_of_getElem? (i := 1273) (by decide +kernel))), va_Nw.of rfl (hts _ (List.mem_of_getElem? (i := 1275) (by decide +kernel))), va_Nw.of rfl (hts _ (List.mem_of_getElem? (i := 1276) (by decide +kernel))), va_Nw.of rfl (hts _ (List.mem_of_getElem? (i := 1274) (by decide +kernel)))⟩
set_option maxHeartbeats 4000000 in
set_option maxRecDepth 100000 in
theorem whole_start {p : Program} {e : Env} {s : State} {m : MethodId} {below : List Frame} {meth : Method} {c : Code} (l : Launch) (hflags : l.flags = flags0) {b L : Nat} {xs : Nat → Int32} (hL : L ≤ 3072) (C0 : lw_At p s m meth c b L xs) : W p l e room_1 s m #[Value.ref b] below meth c s.heap [] 0 0 (lw_Z below #[Value.ref b] s) (entryFrame m ([Value.ref b] : List Value).toArray 4) := by
  obtain ⟨hx, hb, hr, hml, hown, hts, hX, hbl, hlocks, hgv⟩ := id C0
  have hw : ∀ w ∈ BIG, w.before #[Value.ref b] s = true := fun w h => hts w (List.mem_filter.mp h).1
  obtain ⟨D, C, hKi⟩ := g_ki hts
  obtain ⟨sK, sV, t, hEx⟩ := g_ex (D := D) (C := C) hts hgv
  have B : i_B D C p s m #[Value.ref b] c cL_law 4 RL := ⟨hx, hb, hml, hown, hw, hKi⟩
  have hl := lv_entry ([.ref b]) (n := 4) (Nat.le_of_ble_eq_true rfl)
  rw [lg_entry_eq]
  generalize (lg_sl ([.ref b]) ++ List.replicate (4 - (lg_sl ([.ref b])).length) Slot.unset).toArray = ls at hl ⊢
  have hl : lv_has ls 4 [(0, .ref b)] := hl
  have hW : i_W D s.heap.size 0 (fun _ => .inr (0, [])) s.heap s.heap [] := ⟨rfl, fun k q h => by simp [i_ws] at h, va_S.rf⟩
  refine i_new (ci := 10) (fs := [.null, .null, .null, .int 0, .null, .null, .null, .null]) (C0 := RX10) (T := TX10) (N := 8) B hW iX10 tyX10 tyX10_ok q85 q86 q66 rfl dfX10 (Nat.le_of_ble_eq_true rfl) (Nat.le_of_ble_eq_true rfl) dL_law_0 (fun H hW => ?_)
  refine lv_dup hx hb dL_law_3 rfl ?_
  refine i_c (As := []) (rest := [.ref (s.heap.size + 0)]) B hW (c_X10_init_0 l D C s.heap.size _ rfl) isc_X10 q87 ⟨Nat.le_of_ble_eq_true rfl, Nat.le_of_ble_eq_true rfl⟩ ⟨Nat.le_of_ble_eq_true rfl, Nat.le_of_ble_eq_true rfl⟩ rfl hl.1 rfl (Nat.le_of_ble_eq_true rfl) dL_law_4 (fun H locs hW => ?_)
  refine lv_astore_n (lv' := [(1, .ref (s.heap.size + 0)), (0, .ref b)]) hx hb dL_law_7 rfl hl (by decide) rfl (fun ls hl => ?_)
  refine i_new (ci := 11) (fs := [.null, .null, .null, .null, .int 0, .null, .null, .int 0, .null, .null, .null, .int 0, .int 0, .int 0, .int 0, .int 0]) (C0 := RX11) (T := TX11) (N := 16) B hW iX11 tyX11 tyX11_ok q849 q850 q77 rfl dfX11 (Nat.le_of_ble_eq_true rfl) (Nat.le_of_ble_eq_true rfl) dL_law_8 (fun H hW => ?_)
  refine lv_dup hx hb dL_law_11 rfl ?_
  refine i_c (As := []) (rest := [.ref (s.heap.size + 51)]) B hW (c_X11_init_51 l D C s.heap.size _ rfl) isc_X11 q851 ⟨Nat.le_of_ble_eq_true rfl, Nat.le_of_ble_eq_true rfl⟩ ⟨Nat.le_of_ble_eq_true rfl, Nat.le_of_ble_eq_true rfl⟩ rfl hl.1 rfl (Nat.le_of_ble_eq_true rfl) dL_law_12 (fun H locs hW => ?_)
  refine lv_astore_n (lv' := [(2, .ref (s.heap.size + 51)), (1, .ref (s.heap.size + 0)), (0, .ref b)]) hx hb dL_law_15 rfl hl (by decide) rfl (fun ls hl => ?_)
  refine lv_iconst (v := 0) hx hb dL_law_16 (by decide) ?_
  refine lv_istore_n (lv' := [(3, .int 0), (2, .ref (s.heap.size + 51)), (1, .ref (s.heap.size + 0)), (0, .ref b)]) hx hb dL_law_17 rfl hl (by decide) rfl (fun ls hl => ?_)
  refine va_forget (fun q hq => hW.2.2.2.2 q hq) ?_
  have hW2 : z_Wd (g_0 D C s.heap.size sK sV t) (g_M s.heap.size) s.heap H [] := g_wd hW rfl
  have hB : z_Bd (g_0 D C s.heap.size sK sV t) p s m #[Value.ref b] meth c cL_law 4 ret RL := ⟨hx, hb, hml, hown, hw, ⟨hKi.1, hKi.2.1, hEx⟩, g_gk, hr, hlocks⟩
  have hlo : ∀ q, z_A (g_0 D C s.heap.size sK sV t) q → s.heap.size ≤ q := by
    intro q hq
    obtain ⟨k, -, e⟩ := List.mem_map.mp (show q ∈ (List.range 61).map (fun k => s.heap.size + k) from hq)
    have e : s.heap.size + k = q := e
    omega
  exact w_L_law_P18 hB hX hbl (fun h => absurd (hlo b h) (Nat.not_le.mpr hbl)) hlo (nc := 0 + 1 + 50 + 1 + 9) (ns := 0 + 8 + 511 + 16 + 504) (Nat.le_of_ble_eq_true rfl) (Nat.le_of_ble_eq_true rfl) 1000 (g_M s.heap.size) (s.heap.size + 0) (s.heap.size + 51) 0 (law_pure g_ok hL) (g_is.mpr (by decide)) (g_is.mpr (by decide)) H [] ls hW2 (lv_sub hl [3, 2, 1, 0] rfl)
