section
variable {Γ : Zg} {p : Program} {l : Launch} {e : Env} {s : State} {m : MethodId} {args : Array Value} {below : List Frame} {meth : Method} {c : Code}
set_option maxHeartbeats 4000000 in
set_option maxRecDepth 100000 in
theorem f_X11_may (l : Launch) {Γ : Zg} {M : Zm} {l0 : Nat} {l1 : Int32} {l2 : Int32} {l3 : Int32} {r : Int32} (hf : X11_may Γ M l0 l1 l2 l3 = some r) (h0 : z_Is Γ 11 l0) : z_Fn l Γ yX11_may cX11_may 4 (some .boolean) 1 25 [.ref l0, .int l1, .int l2, .int l3] M (some (.int r)) M := by
  refine z_Fn.of (by decide) (Nat.le_of_ble_eq_true rfl) ?_
  intro p e s m below meth c ls B hW hl
  have B : z_Bd Γ p s m _ meth c cX11_may 4 (some .boolean) RX11 := B
  have hl : lv_has ls 4 [(0, .ref l0), (1, .int l1), (2, .int l2), (3, .int l3)] := hl
  rw [X11_may] at hf
  have hx := B.1
  have hb := B.2.1
  have hml := B.2.2.1
  have ho := B.2.2.2.1
  have hw := B.2.2.2.2.1
  have hE := B.2.2.2.2.2.1.2.2
  have hg := B.2.2.2.2.2.2.1
  refine lv_iload_n hx hb dX11_may_0 rfl (lv_at hl 2 rfl) ?_
  by_cases c1 : l2 = (1 : Int32)
  · have hf := z_it c1 hf
    refine lv_tableIn (off := 35) (tgt := 36) hx hb dX11_may_1 (by rw [c1]; decide) (by rw [c1]; decide) (by rw [c1]; decide) (by decide) ?_
    refine lv_iload_n hx hb dX11_may_36 rfl (lv_at hl 3 rfl) ?_
    refine lv_i2l hx hb dX11_may_37 rfl ?_
    refine lv_lconst (v := 0) hx hb dX11_may_38 (by decide) ?_
    refine lv_ldc2 hx hb ho (hw _ q908) dX11_may_39 ?_
    refine z_cS (As := [.long l3.toInt64, .long (0 : Int64), .long (1023 : Int64)]) (rest := []) B hW (f_X11_isIn l) sc_X11_isIn ⟨q909, q910⟩ ⟨Nat.le_of_ble_eq_true rfl, Nat.le_of_ble_eq_true rfl⟩ ⟨Nat.zero_le _, Nat.zero_le _⟩ rfl hl.1 rfl (Nat.le_of_ble_eq_true rfl) dX11_may_42 (fun H locs hW => ?_)
    obtain ⟨g4, hf⟩ := z_gp hf
    have hf := Option.some.inj hf
    subst hf
    exact z_rz B hW g4 dX11_may_45
  · have hf := z_if c1 hf
    by_cases c5 : l2 = (2 : Int32)
    · have hf := z_it c5 hf
      refine lv_tableIn (off := 45) (tgt := 46) hx hb dX11_may_1 (by rw [c5]; decide) (by rw [c5]; decide) (by rw [c5]; decide) (by decide) ?_
      refine lv_iload_n hx hb dX11_may_46 rfl (lv_at hl 3 rfl) ?_
      refine lv_i2l hx hb dX11_may_47 rfl ?_
      refine lv_lconst (v := 0) hx hb dX11_may_48 (by decide) ?_
      refine lv_ldc2 hx hb ho (hw _ q908) dX11_may_49 ?_
      refine z_cS (As := [.long l3.toInt64, .long (0 : Int64), .long (1023 : Int64)]) (rest := []) B hW (f_X11_isIn l) sc_X11_isIn ⟨q909, q910⟩ ⟨Nat.le_of_ble_eq_true rfl, Nat.le_of_ble_eq_true rfl⟩ ⟨Nat.zero_le _, Nat.zero_le _⟩ rfl hl.1 rfl (Nat.le_of_ble_eq_true rfl) dX11_may_52 (fun H locs hW => ?_)
      refine lv_if_eq (tgt := 75) hx hb dX11_may_55 (by decide) (fun c8 => ?_) (fun c8 => ?_)
      · have hf := z_it c8 hf
        refine lv_iconst (v := 0) hx hb dX11_may_75 (by decide) ?_
        have hf := Option.some.inj hf
        subst hf
        exact z_rz B hW (Or.inl rfl) dX11_may_76
      · have hf := z_if c8 hf
        refine lv_iload_n hx hb dX11_may_58 rfl (lv_at hl 3 rfl) ?_
        refine lv_aload_n hx hb dX11_may_59 rfl (lv_at hl 0 rfl) ?_
        refine lv_iload_n hx hb dX11_may_60 rfl (lv_at hl 1 rfl) ?_
        refine lv_iconst (v := 1) hx hb dX11_may_61 (by decide) ?_
        obtain ⟨r9, e10, hf⟩ := z_bd hf
        refine z_cV (As := [.int l1, .int (1 : Int32)]) (rest := [.int l3]) B hW (f_X11_its l e10 h0) sc_X11_its sv_X11_58 h0 ⟨Nat.le_of_ble_eq_true rfl, Nat.le_of_ble_eq_true rfl⟩ ⟨Nat.zero_le _, Nat.zero_le _⟩ rfl hl.1 rfl (Nat.le_of_ble_eq_true rfl) dX11_may_62 (fun H locs hW => ?_)
        refine lv_iconst (v := -1) hx hb dX11_may_65 (by decide) ?_
        refine lv_ixor hx hb dX11_may_66 ?_
        refine lv_iand hx hb dX11_may_67 ?_
        refine lv_if_ne (tgt := 75) hx hb dX11_may_68 (by decide) (fun c11 => ?_) (fun c11 => ?_)
        · have hf := z_if c11 hf
          refine lv_iconst (v := 0) hx hb dX11_may_75 (by decide) ?_
          have hf := Option.some.inj hf
          subst hf
          exact z_rz B hW (Or.inl rfl) dX11_may_76
        · have hf := z_it c11 hf
          refine lv_iconst (v := 1) hx hb dX11_may_71 (by decide) ?_
          refine lv_goto (tgt := 76) hx hb dX11_may_72 (by decide) ?_
          have hf := Option.some.inj hf
          subst hf
          exact z_rz B hW (Or.inr rfl) dX11_may_76
    · have hf := z_if c5 hf
      by_cases c12 : l2 = (3 : Int32)
      · have hf := z_it c12 hf
        refine lv_tableIn (off := 86) (tgt := 87) hx hb dX11_may_1 (by rw [c12]; decide) (by rw [c12]; decide) (by rw [c12]; decide) (by decide) ?_
        refine lv_iconst (v := 0) hx hb dX11_may_87 (by decide) ?_
        have hf := Option.some.inj hf
        subst hf
        exact z_rz B hW (Or.inl rfl) dX11_may_88
      · have hf := z_if c12 hf
        by_cases c13 : l2 = (4 : Int32)
        · have hf := z_it c13 hf
          refine lv_tableIn (off := 86) (tgt := 87) hx hb dX11_may_1 (by rw [c13]; decide) (by rw [c13]; decide) (by rw [c13]; decide) (by decide) ?_
          refine lv_iconst (v := 0) hx hb dX11_may_87 (by decide) ?_
          have hf := Option.some.inj hf
          subst hf
          exact z_rz B hW (Or.inl rfl) dX11_may_88
        · have hf := z_if c13 hf
          by_cases c14 : l2 = (5 : Int32)
          · have hf := z_it c14 hf
            refine lv_tableIn (off := 76) (tgt := 77) hx hb dX11_may_1 (by rw [c14]; decide) (by rw [c14]; decide) (by rw [c14]; decide) (by decide) ?_
            refine lv_iload_n hx hb dX11_may_77 rfl (lv_at hl 3 rfl) ?_
            refine lv_i2l hx hb dX11_may_78 rfl ?_
            refine lv_lconst (v := 0) hx hb dX11_may_79 (by decide) ?_
            refine lv_ldc2 hx hb ho (hw _ q983) dX11_may_80 ?_
            refine z_cS (As := [.long l3.toInt64, .long (0 : Int64), .long (9999 : Int64)]) (rest := []) B hW (f_X11_isIn l) sc_X11_isIn ⟨q909, q910⟩ ⟨Nat.le_of_ble_eq_true rfl, Nat.le_of_ble_eq_true rfl⟩ ⟨Nat.zero_le _, Nat.zero_le _⟩ rfl hl.1 rfl (Nat.le_of_ble_eq_true rfl) dX11_may_83 (fun H locs hW => ?_)
            obtain ⟨g17, hf⟩ := z_gp hf
            have hf := Option.some.inj hf
            subst hf
            exact z_rz B hW g17 dX11_may_86
          · have hf := z_if c14 hf
            have hsw : l2.toInt < 1 ∨ 5 < l2.toInt := by
              have ec1 := z_nei 1 (by decide) c1
              have ec5 := z_nei 2 (by decide) c5
              have ec12 := z_nei 3 (by decide) c12
              have ec13 := z_nei 4 (by decide) c13
              have ec14 := z_nei 5 (by decide) c14
              omega
            refine lv_tableOut (tgt := 87) hx hb dX11_may_1 hsw (by decide) ?_
            refine lv_iconst (v := 0) hx hb dX11_may_87 (by decide) ?_
            have hf := Option.some.inj hf
            subst hf
            exact z_rz B hW (Or.inl rfl) dX11_may_88
set_option maxHeartbeats 4000000 in
set_option maxRecDepth 100000 in
theorem f_X11_knowsNow (l : Launch) {Γ : Zg} {M : Zm} {l0 : Nat} {l1 : Int32} {l2 : Int32} {r : Int32} {M' : Zm} (hf : X11_knowsNow Γ M l0 l1 l2 = some (r, M')) (h0 : z_Is Γ 11 l0) : z_Fn l Γ yX11_knowsNow cX11_knowsNow 3 (some .int) 1 23 [.ref l0, .int l1, .int l2] M (some (.int r)) M' := by
  refine z_Fn.of (by decide) (Nat.le_of_ble_eq_true rfl) ?_
  intro p e s m below meth c ls B hW hl
  have B : z_Bd Γ p s m _ meth c cX11_knowsNow 3 (some .int) RX11 := B
  have hl : lv_has ls 3 [(0, .ref l0), (1, .int l1), (2, .int l2)] := hl
  rw [X11_knowsNow] at hf
  have hx := B.1
  have hb := B.2.1
  have hml := B.2.2.1
  have ho := B.2.2.2.1
  have hw := B.2.2.2.2.1
  have hE := B.2.2.2.2.2.1.2.2
  have hg := B.2.2.2.2.2.2.1
  refine lv_aload_n hx hb dX11_knowsNow_0 rfl (lv_at hl 0 rfl) ?_
  refine z_get_11_0 B hW h0 q855 dX11_knowsNow_1 ?_
  refine lv_iload_n hx hb dX11_knowsNow_4 rfl (lv_at hl 1 rfl) ?_
  refine lv_iconst (v := 2) hx hb dX11_knowsNow_5 (by decide) ?_
  refine z_cS (As := [.int l1, .int (2 : Int32)]) (rest := [.ref (z_r Γ l0 0)]) B hW (f_X11_at l) sc_X11_at ⟨q942, q943⟩ ⟨Nat.le_of_ble_eq_true rfl, Nat.le_of_ble_eq_true rfl⟩ ⟨Nat.zero_le _, Nat.zero_le _⟩ rfl hl.1 rfl (Nat.le_of_ble_eq_true rfl) dX11_knowsNow_6 (fun H locs hW => ?_)
  refine lv_dup2_11 hx hb dX11_knowsNow_9 rfl rfl ?_
  obtain ⟨g3, hf⟩ := z_gd hf
  refine z_ia B hW (z_g11_0 hg h0) g3 dX11_knowsNow_10 ?_
  refine lv_iload_n hx hb dX11_knowsNow_11 rfl (lv_at hl 2 rfl) ?_
  refine lv_iand hx hb dX11_knowsNow_12 ?_
  obtain ⟨g4, hf⟩ := z_gd hf
  refine z_is B hW (z_g11_0 hg h0) g4 dX11_knowsNow_13 (fun H locs hW => ?_)
  obtain ⟨M5, e6, hf⟩ := z_le hf
  have hW := z_wde e6 hW
  refine lv_aload_n hx hb dX11_knowsNow_14 rfl (lv_at hl 0 rfl) ?_
  refine lv_iload_n hx hb dX11_knowsNow_15 rfl (lv_at hl 1 rfl) ?_
  refine lv_iconst (v := 1) hx hb dX11_knowsNow_16 (by decide) ?_
  refine z_cS (As := [.int l1, .int (1 : Int32)]) (rest := [.ref l0]) B hW (f_X11_at l) sc_X11_at ⟨q942, q943⟩ ⟨Nat.le_of_ble_eq_true rfl, Nat.le_of_ble_eq_true rfl⟩ ⟨Nat.zero_le _, Nat.zero_le _⟩ rfl hl.1 rfl (Nat.le_of_ble_eq_true rfl) dX11_knowsNow_17 (fun H locs hW => ?_)
  refine lv_iload_n hx hb dX11_knowsNow_20 rfl (lv_at hl 2 rfl) ?_
  obtain ⟨r9, M10, e11, hf⟩ := z_bpe hf
  refine z_cV (As := [.int (X11_at l1 (1 : Int32)), .int l2]) (rest := []) B hW (f_X11_becomes l e11 h0) sc_X11_becomes sv_X11_50 h0 ⟨Nat.le_of_ble_eq_true rfl, Nat.le_of_ble_eq_true rfl⟩ ⟨Nat.zero_le _, Nat.zero_le _⟩ rfl hl.1 rfl (Nat.le_of_ble_eq_true rfl) dX11_knowsNow_21 (fun H locs hW => ?_)
  obtain ⟨e1, e2⟩ := z_s2 hf
  subst e1
  subst e2
  exact z_ri B hW dX11_knowsNow_24
set_option maxHeartbeats 4000000 in
set_option maxRecDepth 100000 in
theorem f_X11_set (l : Launch) {Γ : Zg} {M : Zm} {l0 : Nat} {l1 : Int32} {l2 : Int32} {l3 : Int32} {r : Int32} {M' : Zm} (hf : X11_set Γ M l0 l1 l2 l3 = some (r, M')) (h0 : z_Is Γ 11 l0) : z_Fn l Γ yX11_set cX11_set 4 (some .int) 2 48 [.ref l0, .int l1, .int l2, .int l3] M (some (.int r)) M' := by
  refine z_Fn.of (by decide) (Nat.le_of_ble_eq_true rfl) ?_
  intro p e s m below meth c ls B hW hl
  have B : z_Bd Γ p s m _ meth c cX11_set 4 (some .int) RX11 := B
  have hl : lv_has ls 4 [(0, .ref l0), (1, .int l1), (2, .int l2), (3, .int l3)] := hl
  rw [X11_set] at hf
  have hx := B.1
  have hb := B.2.1
  have hml := B.2.2.1
  have ho := B.2.2.2.1
  have hw := B.2.2.2.2.1
  have hE := B.2.2.2.2.2.1.2.2
  have hg := B.2.2.2.2.2.2.1
  refine lv_aload_n hx hb dX11_set_0 rfl (lv_at hl 0 rfl) ?_
  refine lv_iload_n hx hb dX11_set_1 rfl (lv_at hl 1 rfl) ?_
  refine z_cV (As := [.int l1]) (rest := []) B hW (f_X11_isOne l h0) sc_X11_isOne sv_X11_83 h0 ⟨Nat.le_of_ble_eq_true rfl, Nat.le_of_ble_eq_true rfl⟩ ⟨Nat.zero_le _, Nat.zero_le _⟩ rfl hl.1 rfl (Nat.le_of_ble_eq_true rfl) dX11_set_2 (fun H locs hW => ?_)
  refine lv_if_eq (tgt := 18) hx hb dX11_set_5 (by decide) (fun c3 => ?_) (fun c3 => ?_)
  · have hf := z_it c3 hf
    refine lv_aload_n hx hb dX11_set_18 rfl (lv_at hl 0 rfl) ?_
    refine lv_ldc hx hb ho (hw _ q916) dX11_set_19 ?_
    obtain ⟨r4, M5, e6, hf⟩ := z_bpe hf
    refine z_cV (As := [.int (-1000000001 : Int32)]) (rest := []) B hW (f_X11_finds l e6 h0) sc_X11_finds sv_X11_40 h0 ⟨Nat.le_of_ble_eq_true rfl, Nat.le_of_ble_eq_true rfl⟩ ⟨Nat.zero_le _, Nat.zero_le _⟩ rfl hl.1 rfl (Nat.le_of_ble_eq_true rfl) dX11_set_21 (fun H locs hW => ?_)
    obtain ⟨e1, e2⟩ := z_s2 hf
    subst e1
    subst e2
    exact z_ri B hW dX11_set_24
  · have hf := z_if c3 hf
    refine lv_aload_n hx hb dX11_set_8 rfl (lv_at hl 0 rfl) ?_
    refine lv_iload_n hx hb dX11_set_9 rfl (lv_at hl 1 rfl) ?_
    refine lv_iload_n hx hb dX11_set_10 rfl (lv_at hl 2 rfl) ?_
    refine lv_iload_n hx hb dX11_set_11 rfl (lv_at hl 3 rfl) ?_
    obtain ⟨r7, e8, hf⟩ := z_bd hf
    refine z_cV (As := [.int l1, .int l2, .int l3]) (rest := []) B hW (f_X11_may l e8 h0) sc_X11_may sv_X11_96 h0 ⟨Nat.le_of_ble_eq_true rfl, Nat.le_of_ble_eq_true rfl⟩ ⟨Nat.zero_le _, Nat.zero_le _⟩ rfl hl.1 rfl (Nat.le_of_ble_eq_true rfl) dX11_set_12 (fun H locs hW => ?_)
    refine lv_if_ne (tgt := 25) hx hb dX11_set_15 (by decide) (fun c9 => ?_) (fun c9 => ?_)
    · have hf := z_if c9 hf
      refine lv_iload_n hx hb dX11_set_25 rfl (lv_at hl 2 rfl) ?_
      refine lv_iconst (v := 1) hx hb dX11_set_26 (by decide) ?_
      refine lv_icmp_ne (tgt := 39) hx hb dX11_set_27 (by decide) (fun c10 => ?_) (fun c10 => ?_)
      · have hf := z_if c10 hf
        refine lv_aload_n hx hb dX11_set_39 rfl (lv_at hl 0 rfl) ?_
        refine lv_iload_n hx hb dX11_set_40 rfl (lv_at hl 1 rfl) ?_
        refine lv_iload_n hx hb dX11_set_41 rfl (lv_at hl 2 rfl) ?_
        refine z_cS (As := [.int l1, .int l2]) (rest := [.ref l0]) B hW (f_X11_at l) sc_X11_at ⟨q942, q943⟩ ⟨Nat.le_of_ble_eq_true rfl, Nat.le_of_ble_eq_true rfl⟩ ⟨Nat.zero_le _, Nat.zero_le _⟩ rfl hl.1 rfl (Nat.le_of_ble_eq_true rfl) dX11_set_42 (fun H locs hW => ?_)
        refine lv_iload_n hx hb dX11_set_45 rfl (lv_at hl 3 rfl) ?_
        obtain ⟨r13, M14, e15, hf⟩ := z_bpe hf
        refine z_cV (As := [.int (X11_at l1 l2), .int l3]) (rest := []) B hW (f_X11_becomes l e15 h0) sc_X11_becomes sv_X11_50 h0 ⟨Nat.le_of_ble_eq_true rfl, Nat.le_of_ble_eq_true rfl⟩ ⟨Nat.zero_le _, Nat.zero_le _⟩ rfl hl.1 rfl (Nat.le_of_ble_eq_true rfl) dX11_set_46 (fun H locs hW => ?_)
        obtain ⟨e1, e2⟩ := z_s2 hf
        subst e1
        subst e2
        exact z_ri B hW dX11_set_49
      · have hf := z_it c10 hf
        refine lv_aload_n hx hb dX11_set_30 rfl (lv_at hl 0 rfl) ?_
        refine lv_iload_n hx hb dX11_set_31 rfl (lv_at hl 1 rfl) ?_
        refine lv_iload_n hx hb dX11_set_32 rfl (lv_at hl 3 rfl) ?_
        obtain ⟨r16, M17, e18, hf⟩ := z_bpe hf
        refine z_cV (As := [.int l1, .int l3]) (rest := []) B hW (f_X11_knowsNow l e18 h0) sc_X11_knowsNow sv_X11_100 h0 ⟨Nat.le_of_ble_eq_true rfl, Nat.le_of_ble_eq_true rfl⟩ ⟨Nat.zero_le _, Nat.zero_le _⟩ rfl hl.1 rfl (Nat.le_of_ble_eq_true rfl) dX11_set_33 (fun H locs hW => ?_)
        refine lv_goto (tgt := 49) hx hb dX11_set_36 (by decide) ?_
        obtain ⟨e1, e2⟩ := z_s2 hf
        subst e1
        subst e2
        exact z_ri B hW dX11_set_49
    · have hf := z_it c9 hf
      refine lv_aload_n hx hb dX11_set_18 rfl (lv_at hl 0 rfl) ?_
      refine lv_ldc hx hb ho (hw _ q916) dX11_set_19 ?_
      obtain ⟨r19, M20, e21, hf⟩ := z_bpe hf
      refine z_cV (As := [.int (-1000000001 : Int32)]) (rest := []) B hW (f_X11_finds l e21 h0) sc_X11_finds sv_X11_40 h0 ⟨Nat.le_of_ble_eq_true rfl, Nat.le_of_ble_eq_true rfl⟩ ⟨Nat.zero_le _, Nat.zero_le _⟩ rfl hl.1 rfl (Nat.le_of_ble_eq_true rfl) dX11_set_21 (fun H locs hW => ?_)
      obtain ⟨e1, e2⟩ := z_s2 hf
      subst e1
      subst e2
      exact z_ri B hW dX11_set_24
set_option maxHeartbeats 4000000 in
set_option maxRecDepth 100000 in
theorem f_X11_turn (l : Launch) {Γ : Zg} {M : Zm} {l0 : Nat} {l1 : Int32} {l2 : Int32} {r : Int32} {M' : Zm} (hf : X11_turn Γ M l0 l1 l2 = some (r, M')) (h0 : z_Is Γ 11 l0) : z_Fn l Γ yX11_turn cX11_turn 3 (some .int) 1 25 [.ref l0, .int l1, .int l2] M (some (.int r)) M' := by
  refine z_Fn.of (by decide) (Nat.le_of_ble_eq_true rfl) ?_
  intro p e s m below meth c ls B hW hl
  have B : z_Bd Γ p s m _ meth c cX11_turn 3 (some .int) RX11 := B
  have hl : lv_has ls 3 [(0, .ref l0), (1, .int l1), (2, .int l2)] := hl
  rw [X11_turn] at hf
  have hx := B.1
  have hb := B.2.1
  have hml := B.2.2.1
  have ho := B.2.2.2.1
  have hw := B.2.2.2.2.1
  have hE := B.2.2.2.2.2.1.2.2
  have hg := B.2.2.2.2.2.2.1
  refine lv_aload_n hx hb dX11_turn_0 rfl (lv_at hl 0 rfl) ?_
  refine lv_iload_n hx hb dX11_turn_1 rfl (lv_at hl 1 rfl) ?_
  refine z_cV (As := [.int l1]) (rest := []) B hW (f_X11_isOne l h0) sc_X11_isOne sv_X11_83 h0 ⟨Nat.le_of_ble_eq_true rfl, Nat.le_of_ble_eq_true rfl⟩ ⟨Nat.zero_le _, Nat.zero_le _⟩ rfl hl.1 rfl (Nat.le_of_ble_eq_true rfl) dX11_turn_2 (fun H locs hW => ?_)
  refine lv_if_eq (tgt := 33) hx hb dX11_turn_5 (by decide) (fun c3 => ?_) (fun c3 => ?_)
  · have hf := z_it c3 hf
    refine lv_aload_n hx hb dX11_turn_33 rfl (lv_at hl 0 rfl) ?_
    refine lv_ldc hx hb ho (hw _ q916) dX11_turn_34 ?_
    obtain ⟨r4, M5, e6, hf⟩ := z_bpe hf
    refine z_cV (As := [.int (-1000000001 : Int32)]) (rest := []) B hW (f_X11_finds l e6 h0) sc_X11_finds sv_X11_40 h0 ⟨Nat.le_of_ble_eq_true rfl, Nat.le_of_ble_eq_true rfl⟩ ⟨Nat.zero_le _, Nat.zero_le _⟩ rfl hl.1 rfl (Nat.le_of_ble_eq_true rfl) dX11_turn_36 (fun H locs hW => ?_)
    obtain ⟨e1, e2⟩ := z_s2 hf
    subst e1
    subst e2
    exact z_ri B hW dX11_turn_39
  · have hf := z_if c3 hf
    refine lv_iload_n hx hb dX11_turn_8 rfl (lv_at hl 2 rfl) ?_
    refine lv_i2l hx hb dX11_turn_9 rfl ?_
    refine lv_lconst (v := 0) hx hb dX11_turn_10 (by decide) ?_
    refine lv_ldc2 hx hb ho (hw _ q936) dX11_turn_11 ?_
    refine z_cS (As := [.long l2.toInt64, .long (0 : Int64), .long (5 : Int64)]) (rest := []) B hW (f_X11_isIn l) sc_X11_isIn ⟨q909, q910⟩ ⟨Nat.le_of_ble_eq_true rfl, Nat.le_of_ble_eq_true rfl⟩ ⟨Nat.zero_le _, Nat.zero_le _⟩ rfl hl.1 rfl (Nat.le_of_ble_eq_true rfl) dX11_turn_14 (fun H locs hW => ?_)
    refine lv_if_eq (tgt := 33) hx hb dX11_turn_17 (by decide) (fun c9 => ?_) (fun c9 => ?_)
    · have hf := z_it c9 hf
      refine lv_aload_n hx hb dX11_turn_33 rfl (lv_at hl 0 rfl) ?_
      refine lv_ldc hx hb ho (hw _ q916) dX11_turn_34 ?_
      obtain ⟨r10, M11, e12, hf⟩ := z_bpe hf
      refine z_cV (As := [.int (-1000000001 : Int32)]) (rest := []) B hW (f_X11_finds l e12 h0) sc_X11_finds sv_X11_40 h0 ⟨Nat.le_of_ble_eq_true rfl, Nat.le_of_ble_eq_true rfl⟩ ⟨Nat.zero_le _, Nat.zero_le _⟩ rfl hl.1 rfl (Nat.le_of_ble_eq_true rfl) dX11_turn_36 (fun H locs hW => ?_)
      obtain ⟨e1, e2⟩ := z_s2 hf
      subst e1
      subst e2
      exact z_ri B hW dX11_turn_39
    · have hf := z_if c9 hf
      refine lv_aload_n hx hb dX11_turn_20 rfl (lv_at hl 0 rfl) ?_
      refine lv_iload_n hx hb dX11_turn_21 rfl (lv_at hl 1 rfl) ?_
      refine lv_iconst (v := 0) hx hb dX11_turn_22 (by decide) ?_
      refine z_cS (As := [.int l1, .int (0 : Int32)]) (rest := [.ref l0]) B hW (f_X11_at l) sc_X11_at ⟨q942, q943⟩ ⟨Nat.le_of_ble_eq_true rfl, Nat.le_of_ble_eq_true rfl⟩ ⟨Nat.zero_le _, Nat.zero_le _⟩ rfl hl.1 rfl (Nat.le_of_ble_eq_true rfl) dX11_turn_23 (fun H locs hW => ?_)
      refine lv_iload_n hx hb dX11_turn_26 rfl (lv_at hl 2 rfl) ?_
      obtain ⟨r15, M16, e17, hf⟩ := z_bpe hf
      refine z_cV (As := [.int (X11_at l1 (0 : Int32)), .int l2]) (rest := []) B hW (f_X11_becomes l e17 h0) sc_X11_becomes sv_X11_50 h0 ⟨Nat.le_of_ble_eq_true rfl, Nat.le_of_ble_eq_true rfl⟩ ⟨Nat.zero_le _, Nat.zero_le _⟩ rfl hl.1 rfl (Nat.le_of_ble_eq_true rfl) dX11_turn_27 (fun H locs hW => ?_)
      refine lv_goto (tgt := 39) hx hb dX11_turn_30 (by decide) ?_
      obtain ⟨e1, e2⟩ := z_s2 hf
      subst e1
      subst e2
      exact z_ri B hW dX11_turn_39
set_option maxHeartbeats 4000000 in
set_option maxRecDepth 100000 in
theorem w_X11_isUnder_P19 (B : z_Bd Γ p s m args meth c cX11_isUnder 2 (some .boolean) RX11) : ∀ (M : Zm) (l0 : Int32) (l1 : Int32) (r : Int32), X11_isUnder_P19 l0 l1 = r → ∀ (H : Heap) (locs : List Loc) (ls : Array Slot), z_Wd Γ M s.heap H locs → lv_has ls 2 [(0, .int l0), (1, .int l1)] → W p l e (z_rm 0 0) s m args below meth c H locs 0 0 (z_Q Γ below args s (some (.int r)) M) (F0 m 19 ls []) := by
  have hx := B.1
  have hb := B.2.1
  have hml := B.2.2.1
  have ho := B.2.2.2.1
  have hw := B.2.2.2.2.1
  have hE := B.2.2.2.2.2.1.2.2
  have hg := B.2.2.2.2.2.2.1
  intro M l0 l1 r hf  H locs ls hW hl
  rw [X11_isUnder_P19] at hf
  refine lv_iload_n hx hb dX11_isUnder_19 rfl (lv_at hl 1 rfl) ?_
  refine lv_iconst (v := 3) hx hb dX11_isUnder_20 (by decide) ?_
  refine lv_icmp_ne (tgt := 33) hx hb dX11_isUnder_21 (by decide) (fun c5 => ?_) (fun c5 => ?_)
  · have hf := z_if c5 hf
    refine lv_iconst (v := 0) hx hb dX11_isUnder_33 (by decide) ?_
    subst hf
    exact z_rz B hW (Or.inl rfl) dX11_isUnder_34
  · have hf := z_it c5 hf
    refine lv_iload_n hx hb dX11_isUnder_24 rfl (lv_at hl 0 rfl) ?_
    refine lv_iconst (v := 5) hx hb dX11_isUnder_25 (by decide) ?_
    refine lv_icmp_ne (tgt := 33) hx hb dX11_isUnder_26 (by decide) (fun c6 => ?_) (fun c6 => ?_)
    · have hf := z_if c6 hf
      refine lv_iconst (v := 0) hx hb dX11_isUnder_33 (by decide) ?_
      subst hf
      exact z_rz B hW (Or.inl rfl) dX11_isUnder_34
    · have hf := z_it c6 hf
      refine lv_iconst (v := 1) hx hb dX11_isUnder_29 (by decide) ?_
      refine lv_goto (tgt := 34) hx hb dX11_isUnder_30 (by decide) ?_
      subst hf
      exact z_rz B hW (Or.inr rfl) dX11_isUnder_34
set_option maxHeartbeats 4000000 in
set_option maxRecDepth 100000 in
theorem f_X11_isUnder (l : Launch) {Γ : Zg} {M : Zm} {l0 : Int32} {l1 : Int32}  : z_Fn l Γ yX11_isUnder cX11_isUnder 2 (some .boolean) 0 0 [.int l0, .int l1] M (some (.int (X11_isUnder l0 l1))) M := by
  generalize hf : X11_isUnder l0 l1 = r
  refine z_Fn.of (by decide) (Nat.le_of_ble_eq_true rfl) ?_
  intro p e s m below meth c ls B hW hl
  have B : z_Bd Γ p s m _ meth c cX11_isUnder 2 (some .boolean) RX11 := B
  have hl : lv_has ls 2 [(0, .int l0), (1, .int l1)] := hl
  rw [X11_isUnder] at hf
  have hx := B.1
  have hb := B.2.1
  have hml := B.2.2.1
  have ho := B.2.2.2.1
  have hw := B.2.2.2.2.1
  have hE := B.2.2.2.2.2.1.2.2
  have hg := B.2.2.2.2.2.2.1
  refine lv_iload_n hx hb dX11_isUnder_0 rfl (lv_at hl 1 rfl) ?_
  refine lv_if_eq (tgt := 29) hx hb dX11_isUnder_1 (by decide) (fun c1 => ?_) (fun c1 => ?_)
  · have hf := z_it c1 hf
    refine lv_iconst (v := 1) hx hb dX11_isUnder_29 (by decide) ?_
    refine lv_goto (tgt := 34) hx hb dX11_isUnder_30 (by decide) ?_
    subst hf
    exact z_rz B hW (Or.inr rfl) dX11_isUnder_34
  · have hf := z_if c1 hf
    refine lv_iload_n hx hb dX11_isUnder_4 rfl (lv_at hl 0 rfl) ?_
    refine lv_iload_n hx hb dX11_isUnder_5 rfl (lv_at hl 1 rfl) ?_
    refine lv_icmp_eq (tgt := 29) hx hb dX11_isUnder_6 (by decide) (fun c2 => ?_) (fun c2 => ?_)
    · have hf := z_it c2 hf
      refine lv_iconst (v := 1) hx hb dX11_isUnder_29 (by decide) ?_
      refine lv_goto (tgt := 34) hx hb dX11_isUnder_30 (by decide) ?_
      subst hf
      exact z_rz B hW (Or.inr rfl) dX11_isUnder_34
    · have hf := z_if c2 hf
      refine lv_iload_n hx hb dX11_isUnder_9 rfl (lv_at hl 1 rfl) ?_
      refine lv_iconst (v := 1) hx hb dX11_isUnder_10 (by decide) ?_
      refine lv_icmp_ne (tgt := 19) hx hb dX11_isUnder_11 (by decide) (fun c3 => ?_) (fun c3 => ?_)
      · have hf := z_if c3 hf
        exact w_X11_isUnder_P19 B M l0 l1 _ hf  _ _ _ hW (lv_sub hl [0, 1] rfl)
      · have hf := z_it c3 hf
        refine lv_iload_n hx hb dX11_isUnder_14 rfl (lv_at hl 0 rfl) ?_
        refine lv_iconst (v := 4) hx hb dX11_isUnder_15 (by decide) ?_
        refine lv_icmp_eq (tgt := 29) hx hb dX11_isUnder_16 (by decide) (fun c4 => ?_) (fun c4 => ?_)
        · have hf := z_it c4 hf
          refine lv_iconst (v := 1) hx hb dX11_isUnder_29 (by decide) ?_
          refine lv_goto (tgt := 34) hx hb dX11_isUnder_30 (by decide) ?_
          subst hf
          exact z_rz B hW (Or.inr rfl) dX11_isUnder_34
        · have hf := z_if c4 hf
          exact w_X11_isUnder_P19 B M l0 l1 _ hf  _ _ _ hW (lv_sub hl [0, 1] rfl)
set_option maxHeartbeats 4000000 in
set_option maxRecDepth 100000 in
theorem f_X11_as (l : Launch) {Γ : Zg} {M : Zm} {l0 : Nat} {l1 : Int32} {l2 : Int32} {r : Int32} {M' : Zm} (hf : X11_as Γ M l0 l1 l2 = some (r, M')) (h0 : z_Is Γ 11 l0) : z_Fn l Γ yX11_as cX11_as 3 (some .int) 1 25 [.ref l0, .int l1, .int l2] M (some (.int r)) M' := by
  refine z_Fn.of (by decide) (Nat.le_of_ble_eq_true rfl) ?_
  intro p e s m below meth c ls B hW hl
  have B : z_Bd Γ p s m _ meth c cX11_as 3 (some .int) RX11 := B
  have hl : lv_has ls 3 [(0, .ref l0), (1, .int l1), (2, .int l2)] := hl
  rw [X11_as] at hf
  have hx := B.1
  have hb := B.2.1
  have hml := B.2.2.1
  have ho := B.2.2.2.1
  have hw := B.2.2.2.2.1
  have hE := B.2.2.2.2.2.1.2.2
  have hg := B.2.2.2.2.2.2.1
  refine lv_aload_n hx hb dX11_as_0 rfl (lv_at hl 0 rfl) ?_
  refine lv_iload_n hx hb dX11_as_1 rfl (lv_at hl 1 rfl) ?_
  refine z_cV (As := [.int l1]) (rest := []) B hW (f_X11_isOne l h0) sc_X11_isOne sv_X11_83 h0 ⟨Nat.le_of_ble_eq_true rfl, Nat.le_of_ble_eq_true rfl⟩ ⟨Nat.zero_le _, Nat.zero_le _⟩ rfl hl.1 rfl (Nat.le_of_ble_eq_true rfl) dX11_as_2 (fun H locs hW => ?_)
  refine lv_if_eq (tgt := 20) hx hb dX11_as_5 (by decide) (fun c3 => ?_) (fun c3 => ?_)
  · have hf := z_it c3 hf
    refine lv_aload_n hx hb dX11_as_20 rfl (lv_at hl 0 rfl) ?_
    refine lv_ldc hx hb ho (hw _ q916) dX11_as_21 ?_
    obtain ⟨r4, M5, e6, hf⟩ := z_bpe hf
    refine z_cV (As := [.int (-1000000001 : Int32)]) (rest := []) B hW (f_X11_finds l e6 h0) sc_X11_finds sv_X11_40 h0 ⟨Nat.le_of_ble_eq_true rfl, Nat.le_of_ble_eq_true rfl⟩ ⟨Nat.zero_le _, Nat.zero_le _⟩ rfl hl.1 rfl (Nat.le_of_ble_eq_true rfl) dX11_as_23 (fun H locs hW => ?_)
    obtain ⟨e1, e2⟩ := z_s2 hf
    subst e1
    subst e2
    exact z_ri B hW dX11_as_26
  · have hf := z_if c3 hf
    refine lv_iload_n hx hb dX11_as_8 rfl (lv_at hl 2 rfl) ?_
    refine lv_i2l hx hb dX11_as_9 rfl ?_
    refine lv_lconst (v := 0) hx hb dX11_as_10 (by decide) ?_
    refine lv_ldc2 hx hb ho (hw _ q936) dX11_as_11 ?_
    refine z_cS (As := [.long l2.toInt64, .long (0 : Int64), .long (5 : Int64)]) (rest := []) B hW (f_X11_isIn l) sc_X11_isIn ⟨q909, q910⟩ ⟨Nat.le_of_ble_eq_true rfl, Nat.le_of_ble_eq_true rfl⟩ ⟨Nat.zero_le _, Nat.zero_le _⟩ rfl hl.1 rfl (Nat.le_of_ble_eq_true rfl) dX11_as_14 (fun H locs hW => ?_)
    refine lv_if_ne (tgt := 27) hx hb dX11_as_17 (by decide) (fun c9 => ?_) (fun c9 => ?_)
    · have hf := z_if c9 hf
      refine lv_aload_n hx hb dX11_as_27 rfl (lv_at hl 0 rfl) ?_
      refine lv_iload_n hx hb dX11_as_28 rfl (lv_at hl 1 rfl) ?_
      refine lv_iconst (v := 0) hx hb dX11_as_29 (by decide) ?_
      obtain ⟨r10, e11, hf⟩ := z_bd hf
      refine z_cV (As := [.int l1, .int (0 : Int32)]) (rest := []) B hW (f_X11_its l e11 h0) sc_X11_its sv_X11_58 h0 ⟨Nat.le_of_ble_eq_true rfl, Nat.le_of_ble_eq_true rfl⟩ ⟨Nat.zero_le _, Nat.zero_le _⟩ rfl hl.1 rfl (Nat.le_of_ble_eq_true rfl) dX11_as_30 (fun H locs hW => ?_)
      refine lv_iload_n hx hb dX11_as_33 rfl (lv_at hl 2 rfl) ?_
      refine z_cS (As := [.int r10, .int l2]) (rest := []) B hW (f_X11_isUnder l) sc_X11_isUnder ⟨q996, q997⟩ ⟨Nat.le_of_ble_eq_true rfl, Nat.le_of_ble_eq_true rfl⟩ ⟨Nat.zero_le _, Nat.zero_le _⟩ rfl hl.1 rfl (Nat.le_of_ble_eq_true rfl) dX11_as_34 (fun H locs hW => ?_)
      refine lv_if_eq (tgt := 49) hx hb dX11_as_37 (by decide) (fun c14 => ?_) (fun c14 => ?_)
      · have hf := z_it c14 hf
        refine lv_aload_n hx hb dX11_as_49 rfl (lv_at hl 0 rfl) ?_
        refine lv_ldc hx hb ho (hw _ q999) dX11_as_50 ?_
        obtain ⟨r15, M16, e17, hf⟩ := z_bpe hf
        refine z_cV (As := [.int (-1000000003 : Int32)]) (rest := []) B hW (f_X11_finds l e17 h0) sc_X11_finds sv_X11_40 h0 ⟨Nat.le_of_ble_eq_true rfl, Nat.le_of_ble_eq_true rfl⟩ ⟨Nat.zero_le _, Nat.zero_le _⟩ rfl hl.1 rfl (Nat.le_of_ble_eq_true rfl) dX11_as_52 (fun H locs hW => ?_)
        obtain ⟨e1, e2⟩ := z_s2 hf
        subst e1
        subst e2
        exact z_ri B hW dX11_as_55
      · have hf := z_if c14 hf
        refine lv_aload_n hx hb dX11_as_40 rfl (lv_at hl 0 rfl) ?_
        refine lv_iload_n hx hb dX11_as_41 rfl (lv_at hl 1 rfl) ?_
        refine lv_iconst (v := 5) hx hb dX11_as_42 (by decide) ?_
        obtain ⟨r18, e19, hf⟩ := z_bd hf
        refine z_cV (As := [.int l1, .int (5 : Int32)]) (rest := []) B hW (f_X11_its l e19 h0) sc_X11_its sv_X11_58 h0 ⟨Nat.le_of_ble_eq_true rfl, Nat.le_of_ble_eq_true rfl⟩ ⟨Nat.zero_le _, Nat.zero_le _⟩ rfl hl.1 rfl (Nat.le_of_ble_eq_true rfl) dX11_as_43 (fun H locs hW => ?_)
        refine lv_goto (tgt := 55) hx hb dX11_as_46 (by decide) ?_
        obtain ⟨e1, e2⟩ := z_s2 hf
        subst e1
        subst e2
        exact z_ri B hW dX11_as_55
    · have hf := z_it c9 hf
      refine lv_aload_n hx hb dX11_as_20 rfl (lv_at hl 0 rfl) ?_
      refine lv_ldc hx hb ho (hw _ q916) dX11_as_21 ?_
      obtain ⟨r20, M21, e22, hf⟩ := z_bpe hf
      refine z_cV (As := [.int (-1000000001 : Int32)]) (rest := []) B hW (f_X11_finds l e22 h0) sc_X11_finds sv_X11_40 h0 ⟨Nat.le_of_ble_eq_true rfl, Nat.le_of_ble_eq_true rfl⟩ ⟨Nat.zero_le _, Nat.zero_le _⟩ rfl hl.1 rfl (Nat.le_of_ble_eq_true rfl) dX11_as_23 (fun H locs hW => ?_)
      obtain ⟨e1, e2⟩ := z_s2 hf
      subst e1
      subst e2
      exact z_ri B hW dX11_as_26
set_option maxHeartbeats 4000000 in
set_option maxRecDepth 100000 in
theorem w_X11_sitter_P4 (B : z_Bd Γ p s m args meth c cX11_sitter 4 (some .int) RX11) : ∀ (n : Nat) (M : Zm) (l0 : Nat) (l1 : Int32) (l2 : Int32) (l3 : Int32) (r : Int32), X11_sitter_P4 Γ n M l0 l1 l2 l3 = some r → z_Is Γ 11 l0 → ∀ (H : Heap) (locs : List Loc) (ls : Array Slot), z_Wd Γ M s.heap H locs → lv_has ls 4 [(0, .ref l0), (1, .int l1), (2, .int l2), (3, .int l3)] → W p l e (z_rm 1 22) s m args below meth c H locs 0 0 (z_Q Γ below args s (some (.int r)) M) (F0 m 4 ls []) := by
  have hx := B.1
  have hb := B.2.1
  have hml := B.2.2.1
  have ho := B.2.2.2.1
  have hw := B.2.2.2.2.1
  have hE := B.2.2.2.2.2.1.2.2
  have hg := B.2.2.2.2.2.2.1
  intro n
  induction n with
  | zero =>
    intro M l0 l1 l2 l3 r hf h0 H locs ls hW hl
    cases hf
  | succ n ih =>
    intro M l0 l1 l2 l3 r hf h0 H locs ls hW hl
    rw [X11_sitter_P4] at hf
    refine lv_iload_n hx hb dX11_sitter_4 rfl (lv_at hl 3 rfl) ?_
    refine lv_aload_n hx hb dX11_sitter_5 rfl (lv_at hl 0 rfl) ?_
    refine z_get_11_0 B hW h0 q855 dX11_sitter_6 ?_
    refine lv_iconst (v := 0) hx hb dX11_sitter_9 (by decide) ?_
    refine z_ia B hW (z_g11_0 hg h0) (z_ixd (by decide)) dX11_sitter_10 ?_
    refine lv_icmp_ge (tgt := 36) hx hb dX11_sitter_11 (by decide) (fun c1 => ?_) (fun c1 => ?_)
    · have hf := z_it c1 hf
      refine lv_iload_n hx hb dX11_sitter_36 rfl (lv_at hl 2 rfl) ?_
      have hf := Option.some.inj hf
      subst hf
      exact z_ri B hW dX11_sitter_37
    · have hf := z_if c1 hf
      refine lv_aload_n hx hb dX11_sitter_14 rfl (lv_at hl 0 rfl) ?_
      refine lv_iload_n hx hb dX11_sitter_15 rfl (lv_at hl 3 rfl) ?_
      refine lv_iconst (v := 3) hx hb dX11_sitter_16 (by decide) ?_
      obtain ⟨r2, e3, hf⟩ := z_bd hf
      refine z_cV (As := [.int l3, .int (3 : Int32)]) (rest := []) B hW (f_X11_its l e3 h0) sc_X11_its sv_X11_58 h0 ⟨Nat.le_of_ble_eq_true rfl, Nat.le_of_ble_eq_true rfl⟩ ⟨Nat.zero_le _, Nat.zero_le _⟩ rfl hl.1 rfl (Nat.le_of_ble_eq_true rfl) dX11_sitter_17 (fun H locs hW => ?_)
      refine lv_iload_n hx hb dX11_sitter_20 rfl (lv_at hl 1 rfl) ?_
      refine lv_icmp_ne (tgt := 28) hx hb dX11_sitter_21 (by decide) (fun c4 => ?_) (fun c4 => ?_)
      · have hf := z_if c4 hf
        refine lv_iload_n hx hb dX11_sitter_28 rfl (lv_at hl 2 rfl) ?_
        refine lv_istore_n (lv' := [(2, .int l2), (0, .ref l0), (1, .int l1), (3, .int l3)]) hx hb dX11_sitter_29 rfl hl (by decide) rfl (fun ls hl => ?_)
        refine lv_iinc (v := l3 + (1 : Int32)) (lv' := [(3, .int (l3 + (1 : Int32))), (2, .int l2), (0, .ref l0), (1, .int l1)]) hx hb dX11_sitter_30 hl (k := 3) rfl rfl (by decide) rfl (fun ls hl => ?_)
        refine lv_goto (tgt := 4) hx hb dX11_sitter_33 (by decide) ?_
        exact ih M l0 l1 l2 (l3 + (1 : Int32)) _ hf h0 _ _ _ hW (lv_sub hl [2, 3, 1, 0] rfl)
      · have hf := z_it c4 hf
        refine lv_iload_n hx hb dX11_sitter_24 rfl (lv_at hl 3 rfl) ?_
        refine lv_goto (tgt := 29) hx hb dX11_sitter_25 (by decide) ?_
        refine lv_istore_n (lv' := [(2, .int l3), (0, .ref l0), (1, .int l1), (3, .int l3)]) hx hb dX11_sitter_29 rfl hl (by decide) rfl (fun ls hl => ?_)
        refine lv_iinc (v := l3 + (1 : Int32)) (lv' := [(3, .int (l3 + (1 : Int32))), (2, .int l3), (0, .ref l0), (1, .int l1)]) hx hb dX11_sitter_30 hl (k := 3) rfl rfl (by decide) rfl (fun ls hl => ?_)
        refine lv_goto (tgt := 4) hx hb dX11_sitter_33 (by decide) ?_
        exact ih M l0 l1 l3 (l3 + (1 : Int32)) _ hf h0 _ _ _ hW (lv_sub hl [2, 3, 1, 0] rfl)
set_option maxHeartbeats 4000000 in
set_option maxRecDepth 100000 in
theorem f_X11_sitter (l : Launch) {Γ : Zg} {M : Zm} {l0 : Nat} {l1 : Int32} {r : Int32} (hf : X11_sitter Γ M l0 l1 = some r) (h0 : z_Is Γ 11 l0) : z_Fn l Γ yX11_sitter cX11_sitter 4 (some .int) 1 22 [.ref l0, .int l1] M (some (.int r)) M := by
  refine z_Fn.of (by decide) (Nat.le_of_ble_eq_true rfl) ?_
  intro p e s m below meth c ls B hW hl
  have B : z_Bd Γ p s m _ meth c cX11_sitter 4 (some .int) RX11 := B
  have hl : lv_has ls 4 [(0, .ref l0), (1, .int l1)] := hl
  rw [X11_sitter] at hf
  have hx := B.1
  have hb := B.2.1
  have hml := B.2.2.1
  have ho := B.2.2.2.1
  have hw := B.2.2.2.2.1
  have hE := B.2.2.2.2.2.1.2.2
  have hg := B.2.2.2.2.2.2.1
  refine lv_iconst (v := -1) hx hb dX11_sitter_0 (by decide) ?_
  refine lv_istore_n (lv' := [(2, .int (-1 : Int32)), (0, .ref l0), (1, .int l1)]) hx hb dX11_sitter_1 rfl hl (by decide) rfl (fun ls hl => ?_)
  refine lv_iconst (v := 0) hx hb dX11_sitter_2 (by decide) ?_
  refine lv_istore_n (lv' := [(3, .int (0 : Int32)), (2, .int (-1 : Int32)), (0, .ref l0), (1, .int l1)]) hx hb dX11_sitter_3 rfl hl (by decide) rfl (fun ls hl => ?_)
  exact w_X11_sitter_P4 B 1000 M l0 l1 (-1 : Int32) (0 : Int32) _ hf h0 _ _ _ hW (lv_sub hl [2, 3, 1, 0] rfl)
set_option maxHeartbeats 4000000 in
set_option maxRecDepth 100000 in
theorem w_X11_sit_P55 (B : z_Bd Γ p s m args meth c cX11_sit 3 (some .int) RX11) : ∀ (M : Zm) (l0 : Nat) (l1 : Int32) (l2 : Int32) (r : Int32) (M' : Zm), X11_sit_P55 Γ M l0 l1 l2 = some (r, M') → z_Is Γ 11 l0 → ∀ (H : Heap) (locs : List Loc) (ls : Array Slot), z_Wd Γ M s.heap H locs → lv_has ls 3 [(0, .ref l0), (1, .int l1), (2, .int l2)] → W p l e (z_rm 2 45) s m args below meth c H locs 0 0 (z_Q Γ below args s (some (.int r)) M') (F0 m 55 ls []) := by
  have hx := B.1
  have hb := B.2.1
  have hml := B.2.2.1
  have ho := B.2.2.2.1
  have hw := B.2.2.2.2.1
  have hE := B.2.2.2.2.2.1.2.2
  have hg := B.2.2.2.2.2.2.1
  intro M l0 l1 l2 r M' hf h0 H locs ls hW hl
  rw [X11_sit_P55] at hf
  refine lv_aload_n hx hb dX11_sit_55 rfl (lv_at hl 0 rfl) ?_
  refine z_get_11_0 B hW h0 q855 dX11_sit_56 ?_
  refine lv_iload_n hx hb dX11_sit_59 rfl (lv_at hl 1 rfl) ?_
  refine lv_iconst (v := 4) hx hb dX11_sit_60 (by decide) ?_
  refine z_cS (As := [.int l1, .int (4 : Int32)]) (rest := [.ref (z_r Γ l0 0)]) B hW (f_X11_at l) sc_X11_at ⟨q942, q943⟩ ⟨Nat.le_of_ble_eq_true rfl, Nat.le_of_ble_eq_true rfl⟩ ⟨Nat.zero_le _, Nat.zero_le _⟩ rfl hl.1 rfl (Nat.le_of_ble_eq_true rfl) dX11_sit_61 (fun H locs hW => ?_)
  refine lv_iconst (v := 0) hx hb dX11_sit_64 (by decide) ?_
  obtain ⟨g25, hf⟩ := z_gd hf
  refine z_is B hW (z_g11_0 hg h0) g25 dX11_sit_65 (fun H locs hW => ?_)
  obtain ⟨M26, e27, hf⟩ := z_le hf
  have hW := z_wde e27 hW
  refine lv_aload_n hx hb dX11_sit_66 rfl (lv_at hl 0 rfl) ?_
  refine lv_iload_n hx hb dX11_sit_67 rfl (lv_at hl 1 rfl) ?_
  refine lv_iconst (v := 3) hx hb dX11_sit_68 (by decide) ?_
  refine z_cS (As := [.int l1, .int (3 : Int32)]) (rest := [.ref l0]) B hW (f_X11_at l) sc_X11_at ⟨q942, q943⟩ ⟨Nat.le_of_ble_eq_true rfl, Nat.le_of_ble_eq_true rfl⟩ ⟨Nat.zero_le _, Nat.zero_le _⟩ rfl hl.1 rfl (Nat.le_of_ble_eq_true rfl) dX11_sit_69 (fun H locs hW => ?_)
  refine lv_iload_n hx hb dX11_sit_72 rfl (lv_at hl 2 rfl) ?_
  obtain ⟨r30, M31, e32, hf⟩ := z_bpe hf
  refine z_cV (As := [.int (X11_at l1 (3 : Int32)), .int l2]) (rest := []) B hW (f_X11_becomes l e32 h0) sc_X11_becomes sv_X11_50 h0 ⟨Nat.le_of_ble_eq_true rfl, Nat.le_of_ble_eq_true rfl⟩ ⟨Nat.zero_le _, Nat.zero_le _⟩ rfl hl.1 rfl (Nat.le_of_ble_eq_true rfl) dX11_sit_73 (fun H locs hW => ?_)
  obtain ⟨e1, e2⟩ := z_s2 hf
  subst e1
  subst e2
  exact z_ri B hW dX11_sit_76
set_option maxHeartbeats 4000000 in
set_option maxRecDepth 100000 in
theorem f_X11_sit (l : Launch) {Γ : Zg} {M : Zm} {l0 : Nat} {l1 : Int32} {l2 : Int32} {r : Int32} {M' : Zm} (hf : X11_sit Γ M l0 l1 l2 = some (r, M')) (h0 : z_Is Γ 11 l0) : z_Fn l Γ yX11_sit cX11_sit 3 (some .int) 2 45 [.ref l0, .int l1, .int l2] M (some (.int r)) M' := by
  refine z_Fn.of (by decide) (Nat.le_of_ble_eq_true rfl) ?_
  intro p e s m below meth c ls B hW hl
  have B : z_Bd Γ p s m _ meth c cX11_sit 3 (some .int) RX11 := B
  have hl : lv_has ls 3 [(0, .ref l0), (1, .int l1), (2, .int l2)] := hl
  rw [X11_sit] at hf
  have hx := B.1
  have hb := B.2.1
  have hml := B.2.2.1
  have ho := B.2.2.2.1
  have hw := B.2.2.2.2.1
  have hE := B.2.2.2.2.2.1.2.2
  have hg := B.2.2.2.2.2.2.1
  refine lv_aload_n hx hb dX11_sit_0 rfl (lv_at hl 0 rfl) ?_
  refine lv_iload_n hx hb dX11_sit_1 rfl (lv_at hl 1 rfl) ?_
  refine z_cV (As := [.int l1]) (rest := []) B hW (f_X11_isOne l h0) sc_X11_isOne sv_X11_83 h0 ⟨Nat.le_of_ble_eq_true rfl, Nat.le_of_ble_eq_true rfl⟩ ⟨Nat.zero_le _, Nat.zero_le _⟩ rfl hl.1 rfl (Nat.le_of_ble_eq_true rfl) dX11_sit_2 (fun H locs hW => ?_)
  refine lv_if_eq (tgt := 20) hx hb dX11_sit_5 (by decide) (fun c3 => ?_) (fun c3 => ?_)
  · have hf := z_it c3 hf
    refine lv_aload_n hx hb dX11_sit_20 rfl (lv_at hl 0 rfl) ?_
    refine lv_ldc hx hb ho (hw _ q916) dX11_sit_21 ?_
    obtain ⟨r4, M5, e6, hf⟩ := z_bpe hf
    refine z_cV (As := [.int (-1000000001 : Int32)]) (rest := []) B hW (f_X11_finds l e6 h0) sc_X11_finds sv_X11_40 h0 ⟨Nat.le_of_ble_eq_true rfl, Nat.le_of_ble_eq_true rfl⟩ ⟨Nat.zero_le _, Nat.zero_le _⟩ rfl hl.1 rfl (Nat.le_of_ble_eq_true rfl) dX11_sit_23 (fun H locs hW => ?_)
    obtain ⟨e1, e2⟩ := z_s2 hf
    subst e1
    subst e2
    exact z_ri B hW dX11_sit_26
  · have hf := z_if c3 hf
    refine lv_iload_n hx hb dX11_sit_8 rfl (lv_at hl 2 rfl) ?_
    refine lv_i2l hx hb dX11_sit_9 rfl ?_
    refine lv_ldc2 hx hb ho (hw _ q1004) dX11_sit_10 ?_
    refine lv_lconst (v := 1) hx hb dX11_sit_13 (by decide) ?_
    refine z_cS (As := [.long l2.toInt64, .long (-1 : Int64), .long (1 : Int64)]) (rest := []) B hW (f_X11_isIn l) sc_X11_isIn ⟨q909, q910⟩ ⟨Nat.le_of_ble_eq_true rfl, Nat.le_of_ble_eq_true rfl⟩ ⟨Nat.zero_le _, Nat.zero_le _⟩ rfl hl.1 rfl (Nat.le_of_ble_eq_true rfl) dX11_sit_14 (fun H locs hW => ?_)
    refine lv_if_ne (tgt := 27) hx hb dX11_sit_17 (by decide) (fun c9 => ?_) (fun c9 => ?_)
    · have hf := z_if c9 hf
      refine lv_iload_n hx hb dX11_sit_27 rfl (lv_at hl 2 rfl) ?_
      refine lv_if_lt (tgt := 55) hx hb dX11_sit_28 (by decide) (fun c10 => ?_) (fun c10 => ?_)
      · have hf := z_it c10 hf
        exact w_X11_sit_P55 B M l0 l1 l2 _ _ hf h0 _ _ _ hW (lv_sub hl [0, 1, 2] rfl)
      · have hf := z_if c10 hf
        refine lv_aload_n hx hb dX11_sit_31 rfl (lv_at hl 0 rfl) ?_
        refine lv_iload_n hx hb dX11_sit_32 rfl (lv_at hl 2 rfl) ?_
        obtain ⟨r11, e12, hf⟩ := z_bd hf
        refine z_cV (As := [.int l2]) (rest := []) B hW (f_X11_sitter l e12 h0) sc_X11_sitter sv_X11_110 h0 ⟨Nat.le_of_ble_eq_true rfl, Nat.le_of_ble_eq_true rfl⟩ ⟨Nat.zero_le _, Nat.zero_le _⟩ rfl hl.1 rfl (Nat.le_of_ble_eq_true rfl) dX11_sit_33 (fun H locs hW => ?_)
        refine lv_if_lt (tgt := 55) hx hb dX11_sit_36 (by decide) (fun c13 => ?_) (fun c13 => ?_)
        · have hf := z_it c13 hf
          exact w_X11_sit_P55 B M l0 l1 l2 _ _ hf h0 _ _ _ hW (lv_sub hl [0, 1, 2] rfl)
        · have hf := z_if c13 hf
          refine lv_aload_n hx hb dX11_sit_39 rfl (lv_at hl 0 rfl) ?_
          refine lv_iload_n hx hb dX11_sit_40 rfl (lv_at hl 2 rfl) ?_
          obtain ⟨r14, e15, hf⟩ := z_bd hf
          refine z_cV (As := [.int l2]) (rest := []) B hW (f_X11_sitter l e15 h0) sc_X11_sitter sv_X11_110 h0 ⟨Nat.le_of_ble_eq_true rfl, Nat.le_of_ble_eq_true rfl⟩ ⟨Nat.zero_le _, Nat.zero_le _⟩ rfl hl.1 rfl (Nat.le_of_ble_eq_true rfl) dX11_sit_41 (fun H locs hW => ?_)
          refine lv_iload_n hx hb dX11_sit_44 rfl (lv_at hl 1 rfl) ?_
          refine lv_icmp_eq (tgt := 55) hx hb dX11_sit_45 (by decide) (fun c16 => ?_) (fun c16 => ?_)
          · have hf := z_it c16 hf
            exact w_X11_sit_P55 B M l0 l1 l2 _ _ hf h0 _ _ _ hW (lv_sub hl [0, 1, 2] rfl)
          · have hf := z_if c16 hf
            refine lv_aload_n hx hb dX11_sit_48 rfl (lv_at hl 0 rfl) ?_
            refine lv_ldc hx hb ho (hw _ q1009) dX11_sit_49 ?_
            obtain ⟨r17, M18, e19, hf⟩ := z_bpe hf
            refine z_cV (As := [.int (-1000000005 : Int32)]) (rest := []) B hW (f_X11_finds l e19 h0) sc_X11_finds sv_X11_40 h0 ⟨Nat.le_of_ble_eq_true rfl, Nat.le_of_ble_eq_true rfl⟩ ⟨Nat.zero_le _, Nat.zero_le _⟩ rfl hl.1 rfl (Nat.le_of_ble_eq_true rfl) dX11_sit_51 (fun H locs hW => ?_)
            obtain ⟨e1, e2⟩ := z_s2 hf
            subst e1
            subst e2
            exact z_ri B hW dX11_sit_54
    · have hf := z_it c9 hf
      refine lv_aload_n hx hb dX11_sit_20 rfl (lv_at hl 0 rfl) ?_
      refine lv_ldc hx hb ho (hw _ q916) dX11_sit_21 ?_
      obtain ⟨r20, M21, e22, hf⟩ := z_bpe hf
      refine z_cV (As := [.int (-1000000001 : Int32)]) (rest := []) B hW (f_X11_finds l e22 h0) sc_X11_finds sv_X11_40 h0 ⟨Nat.le_of_ble_eq_true rfl, Nat.le_of_ble_eq_true rfl⟩ ⟨Nat.zero_le _, Nat.zero_le _⟩ rfl hl.1 rfl (Nat.le_of_ble_eq_true rfl) dX11_sit_23 (fun H locs hW => ?_)
      obtain ⟨e1, e2⟩ := z_s2 hf
      subst e1
      subst e2
      exact z_ri B hW dX11_sit_26
set_option maxHeartbeats 4000000 in
set_option maxRecDepth 100000 in
theorem f_X11_trusts (l : Launch) {Γ : Zg} {M : Zm} {l0 : Nat} {l1 : Int32} {l2 : Int32} {r : Int32} {M' : Zm} (hf : X11_trusts Γ M l0 l1 l2 = some (r, M')) (h0 : z_Is Γ 11 l0) : z_Fn l Γ yX11_trusts cX11_trusts 3 (some .int) 2 46 [.ref l0, .int l1, .int l2] M (some (.int r)) M' := by
  refine z_Fn.of (by decide) (Nat.le_of_ble_eq_true rfl) ?_
  intro p e s m below meth c ls B hW hl
  have B : z_Bd Γ p s m _ meth c cX11_trusts 3 (some .int) RX11 := B
  have hl : lv_has ls 3 [(0, .ref l0), (1, .int l1), (2, .int l2)] := hl
  rw [X11_trusts] at hf
  have hx := B.1
  have hb := B.2.1
  have hml := B.2.2.1
  have ho := B.2.2.2.1
  have hw := B.2.2.2.2.1
  have hE := B.2.2.2.2.2.1.2.2
  have hg := B.2.2.2.2.2.2.1
  refine lv_aload_n hx hb dX11_trusts_0 rfl (lv_at hl 0 rfl) ?_
  refine lv_iload_n hx hb dX11_trusts_1 rfl (lv_at hl 1 rfl) ?_
  refine z_cV (As := [.int l1]) (rest := []) B hW (f_X11_isOne l h0) sc_X11_isOne sv_X11_83 h0 ⟨Nat.le_of_ble_eq_true rfl, Nat.le_of_ble_eq_true rfl⟩ ⟨Nat.zero_le _, Nat.zero_le _⟩ rfl hl.1 rfl (Nat.le_of_ble_eq_true rfl) dX11_trusts_2 (fun H locs hW => ?_)
  refine lv_if_eq (tgt := 15) hx hb dX11_trusts_5 (by decide) (fun c3 => ?_) (fun c3 => ?_)
  · have hf := z_it c3 hf
    refine lv_aload_n hx hb dX11_trusts_15 rfl (lv_at hl 0 rfl) ?_
    refine lv_ldc hx hb ho (hw _ q916) dX11_trusts_16 ?_
    obtain ⟨r4, M5, e6, hf⟩ := z_bpe hf
    refine z_cV (As := [.int (-1000000001 : Int32)]) (rest := []) B hW (f_X11_finds l e6 h0) sc_X11_finds sv_X11_40 h0 ⟨Nat.le_of_ble_eq_true rfl, Nat.le_of_ble_eq_true rfl⟩ ⟨Nat.zero_le _, Nat.zero_le _⟩ rfl hl.1 rfl (Nat.le_of_ble_eq_true rfl) dX11_trusts_18 (fun H locs hW => ?_)
    obtain ⟨e1, e2⟩ := z_s2 hf
    subst e1
    subst e2
    exact z_ri B hW dX11_trusts_21
  · have hf := z_if c3 hf
    refine lv_iload_n hx hb dX11_trusts_8 rfl (lv_at hl 2 rfl) ?_
    refine z_cS (As := [.int l2]) (rest := []) B hW (f_X11_isSecret l) sc_X11_isSecret ⟨q925, q926⟩ ⟨Nat.le_of_ble_eq_true rfl, Nat.le_of_ble_eq_true rfl⟩ ⟨Nat.zero_le _, Nat.zero_le _⟩ rfl hl.1 rfl (Nat.le_of_ble_eq_true rfl) dX11_trusts_9 (fun H locs hW => ?_)
    refine lv_if_ne (tgt := 22) hx hb dX11_trusts_12 (by decide) (fun c9 => ?_) (fun c9 => ?_)
    · have hf := z_if c9 hf
      refine lv_aload_n hx hb dX11_trusts_22 rfl (lv_at hl 0 rfl) ?_
      refine lv_iload_n hx hb dX11_trusts_23 rfl (lv_at hl 1 rfl) ?_
      refine lv_iload_n hx hb dX11_trusts_24 rfl (lv_at hl 2 rfl) ?_
      obtain ⟨r10, e11, hf⟩ := z_bd hf
      refine z_cV (As := [.int l1, .int l2]) (rest := []) B hW (f_X11_isTrusted l e11 h0) sc_X11_isTrusted sv_X11_114 h0 ⟨Nat.le_of_ble_eq_true rfl, Nat.le_of_ble_eq_true rfl⟩ ⟨Nat.zero_le _, Nat.zero_le _⟩ rfl hl.1 rfl (Nat.le_of_ble_eq_true rfl) dX11_trusts_25 (fun H locs hW => ?_)
      refine lv_if_eq (tgt := 35) hx hb dX11_trusts_28 (by decide) (fun c12 => ?_) (fun c12 => ?_)
      · have hf := z_it c12 hf
        refine lv_iconst (v := 0) hx hb dX11_trusts_35 (by decide) ?_
        obtain ⟨e1, e2⟩ := z_s2 hf
        subst e1
        subst e2
        exact z_ri B hW dX11_trusts_36
      · have hf := z_if c12 hf
        refine lv_iconst (v := 1) hx hb dX11_trusts_31 (by decide) ?_
        refine lv_goto (tgt := 36) hx hb dX11_trusts_32 (by decide) ?_
        obtain ⟨e1, e2⟩ := z_s2 hf
        subst e1
        subst e2
        exact z_ri B hW dX11_trusts_36
    · have hf := z_it c9 hf
      refine lv_aload_n hx hb dX11_trusts_15 rfl (lv_at hl 0 rfl) ?_
      refine lv_ldc hx hb ho (hw _ q916) dX11_trusts_16 ?_
      obtain ⟨r13, M14, e15, hf⟩ := z_bpe hf
      refine z_cV (As := [.int (-1000000001 : Int32)]) (rest := []) B hW (f_X11_finds l e15 h0) sc_X11_finds sv_X11_40 h0 ⟨Nat.le_of_ble_eq_true rfl, Nat.le_of_ble_eq_true rfl⟩ ⟨Nat.zero_le _, Nat.zero_le _⟩ rfl hl.1 rfl (Nat.le_of_ble_eq_true rfl) dX11_trusts_18 (fun H locs hW => ?_)
      obtain ⟨e1, e2⟩ := z_s2 hf
      subst e1
      subst e2
      exact z_ri B hW dX11_trusts_21
set_option maxHeartbeats 4000000 in
set_option maxRecDepth 100000 in
theorem f_X11_isMonday (l : Launch) {Γ : Zg} {M : Zm} {l0 : Nat} (h0 : z_Is Γ 11 l0) : z_Fn l Γ yX11_isMonday cX11_isMonday 1 (some .boolean) 0 0 [.ref l0] M (some (.int (X11_isMonday Γ M l0))) M := by
  generalize hf : X11_isMonday Γ M l0 = r
  refine z_Fn.of (by decide) (Nat.le_of_ble_eq_true rfl) ?_
  intro p e s m below meth c ls B hW hl
  have B : z_Bd Γ p s m _ meth c cX11_isMonday 1 (some .boolean) RX11 := B
  have hl : lv_has ls 1 [(0, .ref l0)] := hl
  rw [X11_isMonday] at hf
  have hx := B.1
  have hb := B.2.1
  have hml := B.2.2.1
  have ho := B.2.2.2.1
  have hw := B.2.2.2.2.1
  have hE := B.2.2.2.2.2.1.2.2
  have hg := B.2.2.2.2.2.2.1
  refine lv_aload_n hx hb dX11_isMonday_0 rfl (lv_at hl 0 rfl) ?_
  refine z_get_11_0 B hW h0 q855 dX11_isMonday_1 ?_
  refine lv_iconst (v := 1) hx hb dX11_isMonday_4 (by decide) ?_
  refine z_ia B hW (z_g11_0 hg h0) (z_ixd (by decide)) dX11_isMonday_5 ?_
  refine lv_bipush (v := 24) hx hb dX11_isMonday_6 (by decide) ?_
  refine lv_idiv hx hb dX11_isMonday_8 (by decide) ?_
  refine lv_bipush (v := 7) hx hb dX11_isMonday_9 (by decide) ?_
  refine lv_irem hx hb dX11_isMonday_11 (by decide) ?_
  refine lv_if_ne (tgt := 19) hx hb dX11_isMonday_12 (by decide) (fun c1 => ?_) (fun c1 => ?_)
  · have hf := z_if c1 hf
    refine lv_iconst (v := 0) hx hb dX11_isMonday_19 (by decide) ?_
    subst hf
    exact z_rz B hW (Or.inl rfl) dX11_isMonday_20
  · have hf := z_it c1 hf
    refine lv_iconst (v := 1) hx hb dX11_isMonday_15 (by decide) ?_
    refine lv_goto (tgt := 20) hx hb dX11_isMonday_16 (by decide) ?_
    subst hf
    exact z_rz B hW (Or.inr rfl) dX11_isMonday_20
set_option maxHeartbeats 4000000 in
set_option maxRecDepth 100000 in
theorem w_X11_hears_P66 (B : z_Bd Γ p s m args meth c cX11_hears 5 none RX11) : ∀ (M : Zm) (l0 : Nat) (l1 : Int32) (l3 : Int32) (l4 : Int32) (s0 : Nat) (s1 : Int32) (s2 : Int32) (M' : Zm), X11_hears_P66 Γ M l0 l1 l3 l4 s0 s1 s2 = some M' → z_Is Γ 11 l0 → z_Ia Γ 12 52 s0 → ∀ (H : Heap) (locs : List Loc) (ls : Array Slot), z_Wd Γ M s.heap H locs → lv_has ls 5 [(0, .ref l0), (1, .int l1), (3, .int l3), (4, .int l4)] → W p l e (z_rm 2 46) s m args below meth c H locs 0 0 (z_Q Γ below args s none M') (F0 m 66 ls [.int s2, .int s1, .ref s0]) := by
  have hx := B.1
  have hb := B.2.1
  have hml := B.2.2.1
  have ho := B.2.2.2.1
  have hw := B.2.2.2.2.1
  have hE := B.2.2.2.2.2.1.2.2
  have hg := B.2.2.2.2.2.2.1
  intro M l0 l1 l3 l4 s0 s1 s2 M' hf h0 hs0 H locs ls hW hl
  rw [X11_hears_P66] at hf
  obtain ⟨g17, hf⟩ := z_gd hf
  refine z_is B hW hs0 g17 dX11_hears_66 (fun H locs hW => ?_)
  obtain ⟨M18, e19, hf⟩ := z_le hf
  have hW := z_wde e19 hW
  refine lv_aload_n hx hb dX11_hears_67 rfl (lv_at hl 0 rfl) ?_
  refine z_get_11_0 B hW h0 q855 dX11_hears_68 ?_
  refine lv_iload_n hx hb dX11_hears_71 rfl (lv_at hl 1 rfl) ?_
  refine lv_iconst (v := 2) hx hb dX11_hears_72 (by decide) ?_
  refine z_cS (As := [.int l1, .int (2 : Int32)]) (rest := [.ref (z_r Γ l0 0)]) B hW (f_X11_at l) sc_X11_at ⟨q942, q943⟩ ⟨Nat.le_of_ble_eq_true rfl, Nat.le_of_ble_eq_true rfl⟩ ⟨Nat.zero_le _, Nat.zero_le _⟩ rfl hl.1 rfl (Nat.le_of_ble_eq_true rfl) dX11_hears_73 (fun H locs hW => ?_)
  refine lv_iload hx hb dX11_hears_76 (lv_at hl 3 rfl) ?_
  refine lv_if_eq (tgt := 92) hx hb dX11_hears_78 (by decide) (fun c22 => ?_) (fun c22 => ?_)
  · have hf := z_it c22 hf
    refine lv_aload_n hx hb dX11_hears_92 rfl (lv_at hl 0 rfl) ?_
    refine lv_iload_n hx hb dX11_hears_93 rfl (lv_at hl 1 rfl) ?_
    refine lv_iconst (v := 2) hx hb dX11_hears_94 (by decide) ?_
    obtain ⟨r23, e24, hf⟩ := z_bd hf
    refine z_cV (As := [.int l1, .int (2 : Int32)]) (rest := [.int (X11_at l1 (2 : Int32)), .ref (z_r Γ l0 0)]) B hW (f_X11_its l e24 h0) sc_X11_its sv_X11_58 h0 ⟨Nat.le_of_ble_eq_true rfl, Nat.le_of_ble_eq_true rfl⟩ ⟨Nat.zero_le _, Nat.zero_le _⟩ rfl hl.1 rfl (Nat.le_of_ble_eq_true rfl) dX11_hears_95 (fun H locs hW => ?_)
    refine lv_iload_n hx hb dX11_hears_98 rfl (lv_at hl 2 rfl) ?_
    refine lv_iconst (v := -1) hx hb dX11_hears_99 (by decide) ?_
    refine lv_ixor hx hb dX11_hears_100 ?_
    refine lv_iand hx hb dX11_hears_101 ?_
    obtain ⟨g25, hf⟩ := z_gd hf
    refine z_is B hW (z_g11_0 hg h0) g25 dX11_hears_102 (fun H locs hW => ?_)
    obtain ⟨M26, e27, hf⟩ := z_le hf
    have hW := z_wde e27 hW
    have hf := Option.some.inj hf
    subst hf
    exact z_rv B hW dX11_hears_103
  · have hf := z_if c22 hf
    refine lv_aload_n hx hb dX11_hears_81 rfl (lv_at hl 0 rfl) ?_
    refine lv_iload_n hx hb dX11_hears_82 rfl (lv_at hl 1 rfl) ?_
    refine lv_iconst (v := 2) hx hb dX11_hears_83 (by decide) ?_
    obtain ⟨r28, e29, hf⟩ := z_bd hf
    refine z_cV (As := [.int l1, .int (2 : Int32)]) (rest := [.int (X11_at l1 (2 : Int32)), .ref (z_r Γ l0 0)]) B hW (f_X11_its l e29 h0) sc_X11_its sv_X11_58 h0 ⟨Nat.le_of_ble_eq_true rfl, Nat.le_of_ble_eq_true rfl⟩ ⟨Nat.zero_le _, Nat.zero_le _⟩ rfl hl.1 rfl (Nat.le_of_ble_eq_true rfl) dX11_hears_84 (fun H locs hW => ?_)
    refine lv_iload_n hx hb dX11_hears_87 rfl (lv_at hl 2 rfl) ?_
    refine lv_ior hx hb dX11_hears_88 ?_
    refine lv_goto (tgt := 102) hx hb dX11_hears_89 (by decide) ?_
    obtain ⟨g30, hf⟩ := z_gd hf
    refine z_is B hW (z_g11_0 hg h0) g30 dX11_hears_102 (fun H locs hW => ?_)
    obtain ⟨M31, e32, hf⟩ := z_le hf
    have hW := z_wde e32 hW
    have hf := Option.some.inj hf
    subst hf
    exact z_rv B hW dX11_hears_103
set_option maxHeartbeats 4000000 in
set_option maxRecDepth 100000 in
theorem f_X11_hears (l : Launch) {Γ : Zg} {M : Zm} {l0 : Nat} {l1 : Int32} {l2 : Int32} {M' : Zm} (hf : X11_hears Γ M l0 l1 l2 = some M') (h0 : z_Is Γ 11 l0) : z_Fn l Γ yX11_hears cX11_hears 5 none 2 46 [.ref l0, .int l1, .int l2] M none M' := by
  refine z_Fn.of (by decide) (Nat.le_of_ble_eq_true rfl) ?_
  intro p e s m below meth c ls B hW hl
  have B : z_Bd Γ p s m _ meth c cX11_hears 5 none RX11 := B
  have hl : lv_has ls 5 [(0, .ref l0), (1, .int l1), (2, .int l2)] := hl
  rw [X11_hears] at hf
  have hx := B.1
  have hb := B.2.1
  have hml := B.2.2.1
  have ho := B.2.2.2.1
  have hw := B.2.2.2.2.1
  have hE := B.2.2.2.2.2.1.2.2
  have hg := B.2.2.2.2.2.2.1
  refine lv_iload_n hx hb dX11_hears_0 rfl (lv_at hl 2 rfl) ?_
  refine lv_if_ge (tgt := 5) hx hb dX11_hears_1 (by decide) (fun c1 => ?_) (fun c1 => ?_)
  · have hf := z_it c1 hf
    refine lv_iconst (v := 1) hx hb dX11_hears_5 (by decide) ?_
    refine lv_iload_n hx hb dX11_hears_6 rfl (lv_at hl 2 rfl) ?_
    refine lv_ishl hx hb dX11_hears_7 ?_
    refine lv_istore_n (lv' := [(3, .int ((1 : Int32) <<< (l2 &&& 31))), (0, .ref l0), (1, .int l1), (2, .int l2)]) hx hb dX11_hears_8 rfl hl (by decide) rfl (fun ls hl => ?_)
    refine lv_aload_n hx hb dX11_hears_9 rfl (lv_at hl 1 rfl) ?_
    refine lv_iload_n hx hb dX11_hears_10 rfl (lv_at hl 2 rfl) ?_
    refine lv_iload_n hx hb dX11_hears_11 rfl (lv_at hl 3 rfl) ?_
    obtain ⟨r2, e3, hf⟩ := z_bd hf
    refine z_cV (As := [.int l1, .int l2]) (rest := []) B hW (f_X11_isTrusted l e3 h0) sc_X11_isTrusted sv_X11_114 h0 ⟨Nat.le_of_ble_eq_true rfl, Nat.le_of_ble_eq_true rfl⟩ ⟨Nat.zero_le _, Nat.zero_le _⟩ rfl hl.1 rfl (Nat.le_of_ble_eq_true rfl) dX11_hears_12 (fun H locs hW => ?_)
    refine lv_istore (lv' := [(4, .int r2), (3, .int ((1 : Int32) <<< (l2 &&& 31))), (0, .ref l0), (1, .int l1), (2, .int l2)]) hx hb dX11_hears_15 hl (by decide) rfl (fun ls hl => ?_)
    refine lv_aload_n hx hb dX11_hears_17 rfl (lv_at hl 2 rfl) ?_
    refine z_get_11_0 B hW h0 q855 dX11_hears_18 ?_
    refine lv_iload_n hx hb dX11_hears_21 rfl (lv_at hl 3 rfl) ?_
    refine lv_iconst (v := 1) hx hb dX11_hears_22 (by decide) ?_
    refine z_cS (As := [.int l1, .int (1 : Int32)]) (rest := [.ref (z_r Γ l0 0)]) B hW (f_X11_at l) sc_X11_at ⟨q942, q943⟩ ⟨Nat.le_of_ble_eq_true rfl, Nat.le_of_ble_eq_true rfl⟩ ⟨Nat.zero_le _, Nat.zero_le _⟩ rfl hl.1 rfl (Nat.le_of_ble_eq_true rfl) dX11_hears_23 (fun H locs hW => ?_)
    refine lv_dup2_11 hx hb dX11_hears_26 rfl rfl ?_
    obtain ⟨g6, hf⟩ := z_gd hf
    refine z_ia B hW (z_g11_0 hg h0) g6 dX11_hears_27 ?_
    refine lv_iload_n hx hb dX11_hears_28 rfl (lv_at hl 1 rfl) ?_
    refine lv_ior hx hb dX11_hears_29 ?_
    obtain ⟨g7, hf⟩ := z_gd hf
    refine z_is B hW (z_g11_0 hg h0) g7 dX11_hears_30 (fun H locs hW => ?_)
    obtain ⟨M8, e9, hf⟩ := z_le hf
    have hW := z_wde e9 hW
    refine lv_aload_n hx hb dX11_hears_31 rfl (lv_at hl 2 rfl) ?_
    refine z_get_11_0 B hW h0 q855 dX11_hears_32 ?_
    refine lv_iload_n hx hb dX11_hears_35 rfl (lv_at hl 3 rfl) ?_
    refine lv_iconst (v := 5) hx hb dX11_hears_36 (by decide) ?_
    refine z_cS (As := [.int l1, .int (5 : Int32)]) (rest := [.ref (z_r Γ l0 0)]) B hW (f_X11_at l) sc_X11_at ⟨q942, q943⟩ ⟨Nat.le_of_ble_eq_true rfl, Nat.le_of_ble_eq_true rfl⟩ ⟨Nat.zero_le _, Nat.zero_le _⟩ rfl hl.1 rfl (Nat.le_of_ble_eq_true rfl) dX11_hears_37 (fun H locs hW => ?_)
    refine lv_aload_n hx hb dX11_hears_40 rfl (lv_at hl 2 rfl) ?_
    refine lv_iload_n hx hb dX11_hears_41 rfl (lv_at hl 3 rfl) ?_
    refine lv_iconst (v := 5) hx hb dX11_hears_42 (by decide) ?_
    obtain ⟨r12, e13, hf⟩ := z_bd hf
    refine z_cV (As := [.int l1, .int (5 : Int32)]) (rest := [.int (X11_at l1 (5 : Int32)), .ref (z_r Γ l0 0)]) B hW (f_X11_its l e13 h0) sc_X11_its sv_X11_58 h0 ⟨Nat.le_of_ble_eq_true rfl, Nat.le_of_ble_eq_true rfl⟩ ⟨Nat.zero_le _, Nat.zero_le _⟩ rfl hl.1 rfl (Nat.le_of_ble_eq_true rfl) dX11_hears_43 (fun H locs hW => ?_)
    refine lv_sipush (v := 9999) hx hb dX11_hears_46 (by decide) ?_
    refine lv_icmp_ge (tgt := 63) hx hb dX11_hears_49 (by decide) (fun c14 => ?_) (fun c14 => ?_)
    · have hf := z_it c14 hf
      refine lv_sipush (v := 9999) hx hb dX11_hears_63 (by decide) ?_
      exact w_X11_hears_P66 B M8 l0 l1 ((1 : Int32) <<< (l2 &&& 31)) r2 (z_r Γ l0 0) (X11_at l1 (5 : Int32)) (9999 : Int32) _ hf h0 (z_g11_0 hg h0) _ _ _ hW (lv_sub hl [2, 3, 1, 0] rfl)
    · have hf := z_if c14 hf
      refine lv_aload_n hx hb dX11_hears_52 rfl (lv_at hl 2 rfl) ?_
      refine lv_iload_n hx hb dX11_hears_53 rfl (lv_at hl 3 rfl) ?_
      refine lv_iconst (v := 5) hx hb dX11_hears_54 (by decide) ?_
      obtain ⟨r15, e16, hf⟩ := z_bd hf
      refine z_cV (As := [.int l1, .int (5 : Int32)]) (rest := [.int (X11_at l1 (5 : Int32)), .ref (z_r Γ l0 0)]) B hW (f_X11_its l e16 h0) sc_X11_its sv_X11_58 h0 ⟨Nat.le_of_ble_eq_true rfl, Nat.le_of_ble_eq_true rfl⟩ ⟨Nat.zero_le _, Nat.zero_le _⟩ rfl hl.1 rfl (Nat.le_of_ble_eq_true rfl) dX11_hears_55 (fun H locs hW => ?_)
      refine lv_iconst (v := 1) hx hb dX11_hears_58 (by decide) ?_
      refine lv_iadd hx hb dX11_hears_59 ?_
      refine lv_goto (tgt := 66) hx hb dX11_hears_60 (by decide) ?_
      exact w_X11_hears_P66 B M8 l0 l1 ((1 : Int32) <<< (l2 &&& 31)) r2 (z_r Γ l0 0) (X11_at l1 (5 : Int32)) (r15 + (1 : Int32)) _ hf h0 (z_g11_0 hg h0) _ _ _ hW (lv_sub hl [2, 3, 1, 0] rfl)
  · have hf := z_if c1 hf
    have hf := Option.some.inj hf
    subst hf
    exact z_rv B hW dX11_hears_4
set_option maxHeartbeats 4000000 in
set_option maxRecDepth 100000 in
theorem f_X11_hearsItself (l : Launch) {Γ : Zg} {M : Zm} {l0 : Nat} {l1 : Int32} {l2 : Int32} {M' : Zm} (hf : X11_hearsItself Γ M l0 l1 l2 = some M') (h0 : z_Is Γ 11 l0) : z_Fn l Γ yX11_hearsItself cX11_hearsItself 3 none 1 22 [.ref l0, .int l1, .int l2] M none M' := by
  refine z_Fn.of (by decide) (Nat.le_of_ble_eq_true rfl) ?_
  intro p e s m below meth c ls B hW hl
  have B : z_Bd Γ p s m _ meth c cX11_hearsItself 3 none RX11 := B
  have hl : lv_has ls 3 [(0, .ref l0), (1, .int l1), (2, .int l2)] := hl
  rw [X11_hearsItself] at hf
  have hx := B.1
  have hb := B.2.1
  have hml := B.2.2.1
  have ho := B.2.2.2.1
  have hw := B.2.2.2.2.1
  have hE := B.2.2.2.2.2.1.2.2
  have hg := B.2.2.2.2.2.2.1
  refine lv_aload_n hx hb dX11_hearsItself_0 rfl (lv_at hl 0 rfl) ?_
  refine z_get_11_0 B hW h0 q855 dX11_hearsItself_1 ?_
  refine lv_iload_n hx hb dX11_hearsItself_4 rfl (lv_at hl 1 rfl) ?_
  refine lv_iconst (v := 2) hx hb dX11_hearsItself_5 (by decide) ?_
  refine z_cS (As := [.int l1, .int (2 : Int32)]) (rest := [.ref (z_r Γ l0 0)]) B hW (f_X11_at l) sc_X11_at ⟨q942, q943⟩ ⟨Nat.le_of_ble_eq_true rfl, Nat.le_of_ble_eq_true rfl⟩ ⟨Nat.zero_le _, Nat.zero_le _⟩ rfl hl.1 rfl (Nat.le_of_ble_eq_true rfl) dX11_hearsItself_6 (fun H locs hW => ?_)
  refine lv_dup2_11 hx hb dX11_hearsItself_9 rfl rfl ?_
  obtain ⟨g3, hf⟩ := z_gd hf
  refine z_ia B hW (z_g11_0 hg h0) g3 dX11_hearsItself_10 ?_
  refine lv_iload_n hx hb dX11_hearsItself_11 rfl (lv_at hl 2 rfl) ?_
  refine lv_if_ge (tgt := 19) hx hb dX11_hearsItself_12 (by decide) (fun c4 => ?_) (fun c4 => ?_)
  · have hf := z_it c4 hf
    refine lv_aload_n hx hb dX11_hearsItself_19 rfl (lv_at hl 0 rfl) ?_
    refine lv_iload_n hx hb dX11_hearsItself_20 rfl (lv_at hl 1 rfl) ?_
    refine lv_iconst (v := 1) hx hb dX11_hearsItself_21 (by decide) ?_
    obtain ⟨r5, e6, hf⟩ := z_bd hf
    refine z_cV (As := [.int l1, .int (1 : Int32)]) (rest := [.int (M.1 (z_r Γ l0 0) ((X11_at l1 (2 : Int32)).toNatClampNeg)), .int (X11_at l1 (2 : Int32)), .ref (z_r Γ l0 0)]) B hW (f_X11_its l e6 h0) sc_X11_its sv_X11_58 h0 ⟨Nat.le_of_ble_eq_true rfl, Nat.le_of_ble_eq_true rfl⟩ ⟨Nat.zero_le _, Nat.zero_le _⟩ rfl hl.1 rfl (Nat.le_of_ble_eq_true rfl) dX11_hearsItself_22 (fun H locs hW => ?_)
    refine lv_iconst (v := 1) hx hb dX11_hearsItself_25 (by decide) ?_
    refine lv_iload_n hx hb dX11_hearsItself_26 rfl (lv_at hl 2 rfl) ?_
    refine lv_ishl hx hb dX11_hearsItself_27 ?_
    refine lv_iand hx hb dX11_hearsItself_28 ?_
    refine lv_ior hx hb dX11_hearsItself_29 ?_
    obtain ⟨g7, hf⟩ := z_gd hf
    refine z_is B hW (z_g11_0 hg h0) g7 dX11_hearsItself_30 (fun H locs hW => ?_)
    obtain ⟨M8, e9, hf⟩ := z_le hf
    have hW := z_wde e9 hW
    have hf := Option.some.inj hf
    subst hf
    exact z_rv B hW dX11_hearsItself_31
  · have hf := z_if c4 hf
    refine lv_iconst (v := 0) hx hb dX11_hearsItself_15 (by decide) ?_
    refine lv_goto (tgt := 29) hx hb dX11_hearsItself_16 (by decide) ?_
    refine lv_ior hx hb dX11_hearsItself_29 ?_
    obtain ⟨g10, hf⟩ := z_gd hf
    refine z_is B hW (z_g11_0 hg h0) g10 dX11_hearsItself_30 (fun H locs hW => ?_)
    obtain ⟨M11, e12, hf⟩ := z_le hf
    have hW := z_wde e12 hW
    have hf := Option.some.inj hf
    subst hf
    exact z_rv B hW dX11_hearsItself_31
set_option maxHeartbeats 4000000 in
set_option maxRecDepth 100000 in
theorem w_X11_nextIn_P2 (B : z_Bd Γ p s m args meth c cX11_nextIn 4 (some .int) RX11) : ∀ (n : Nat) (M : Zm) (l0 : Nat) (l1 : Int32) (l2 : Int32) (r : Int32), X11_nextIn_P2 Γ n M l0 l1 l2 = some r → z_Is Γ 11 l0 → ∀ (H : Heap) (locs : List Loc) (ls : Array Slot), z_Wd Γ M s.heap H locs → lv_has ls 4 [(0, .ref l0), (1, .int l1), (2, .int l2)] → W p l e (z_rm 1 22) s m args below meth c H locs 0 0 (z_Q Γ below args s (some (.int r)) M) (F0 m 2 ls []) := by
  have hx := B.1
  have hb := B.2.1
  have hml := B.2.2.1
  have ho := B.2.2.2.1
  have hw := B.2.2.2.2.1
  have hE := B.2.2.2.2.2.1.2.2
  have hg := B.2.2.2.2.2.2.1
  intro n
  induction n with
  | zero =>
    intro M l0 l1 l2 r hf h0 H locs ls hW hl
    cases hf
  | succ n ih =>
    intro M l0 l1 l2 r hf h0 H locs ls hW hl
    rw [X11_nextIn_P2] at hf
    refine lv_iload_n hx hb dX11_nextIn_2 rfl (lv_at hl 2 rfl) ?_
    refine lv_aload_n hx hb dX11_nextIn_3 rfl (lv_at hl 0 rfl) ?_
    refine z_get_11_0 B hW h0 q855 dX11_nextIn_4 ?_
    refine lv_iconst (v := 0) hx hb dX11_nextIn_7 (by decide) ?_
    refine z_ia B hW (z_g11_0 hg h0) (z_ixd (by decide)) dX11_nextIn_8 ?_
    refine lv_icmp_gt (tgt := 53) hx hb dX11_nextIn_9 (by decide) (fun c1 => ?_) (fun c1 => ?_)
    · have hf := z_it c1 hf
      refine lv_iconst (v := -1) hx hb dX11_nextIn_53 (by decide) ?_
      have hf := Option.some.inj hf
      subst hf
      exact z_ri B hW dX11_nextIn_54
    · have hf := z_if c1 hf
      refine lv_aload_n hx hb dX11_nextIn_12 rfl (lv_at hl 0 rfl) ?_
      refine z_get_11_0 B hW h0 q855 dX11_nextIn_13 ?_
      refine lv_iconst (v := 3) hx hb dX11_nextIn_16 (by decide) ?_
      refine z_ia B hW (z_g11_0 hg h0) (z_ixd (by decide)) dX11_nextIn_17 ?_
      refine lv_iload_n hx hb dX11_nextIn_18 rfl (lv_at hl 2 rfl) ?_
      refine lv_iadd hx hb dX11_nextIn_19 ?_
      refine lv_aload_n hx hb dX11_nextIn_20 rfl (lv_at hl 0 rfl) ?_
      refine z_get_11_0 B hW h0 q855 dX11_nextIn_21 ?_
      refine lv_iconst (v := 0) hx hb dX11_nextIn_24 (by decide) ?_
      refine z_ia B hW (z_g11_0 hg h0) (z_ixd (by decide)) dX11_nextIn_25 ?_
      obtain ⟨g2, hf⟩ := z_gp hf
      refine lv_irem hx hb dX11_nextIn_26 g2 ?_
      refine lv_istore_n (lv' := [(3, .int (((M.1 (z_r Γ l0 0) 3) + l2) - ((M.1 (z_r Γ l0 0) 3) + l2) / (M.1 (z_r Γ l0 0) 0) * (M.1 (z_r Γ l0 0) 0))), (0, .ref l0), (1, .int l1), (2, .int l2)]) hx hb dX11_nextIn_27 rfl hl (by decide) rfl (fun ls hl => ?_)
      refine lv_aload_n hx hb dX11_nextIn_28 rfl (lv_at hl 1 rfl) ?_
      refine lv_iload_n hx hb dX11_nextIn_29 rfl (lv_at hl 0 rfl) ?_
      refine lv_iconst (v := 3) hx hb dX11_nextIn_30 (by decide) ?_
      obtain ⟨r3, e4, hf⟩ := z_bd hf
      refine z_cV (As := [.int (((M.1 (z_r Γ l0 0) 3) + l2) - ((M.1 (z_r Γ l0 0) 3) + l2) / (M.1 (z_r Γ l0 0) 0) * (M.1 (z_r Γ l0 0) 0)), .int (3 : Int32)]) (rest := []) B hW (f_X11_its l e4 h0) sc_X11_its sv_X11_58 h0 ⟨Nat.le_of_ble_eq_true rfl, Nat.le_of_ble_eq_true rfl⟩ ⟨Nat.zero_le _, Nat.zero_le _⟩ rfl hl.1 rfl (Nat.le_of_ble_eq_true rfl) dX11_nextIn_31 (fun H locs hW => ?_)
      refine lv_if_ge (tgt := 47) hx hb dX11_nextIn_34 (by decide) (fun c5 => ?_) (fun c5 => ?_)
      · have hf := z_it c5 hf
        refine lv_iinc (v := l2 + (1 : Int32)) (lv' := [(2, .int (l2 + (1 : Int32))), (3, .int (((M.1 (z_r Γ l0 0) 3) + l2) - ((M.1 (z_r Γ l0 0) 3) + l2) / (M.1 (z_r Γ l0 0) 0) * (M.1 (z_r Γ l0 0) 0))), (0, .ref l0), (1, .int l1)]) hx hb dX11_nextIn_47 hl (k := 3) rfl rfl (by decide) rfl (fun ls hl => ?_)
        refine lv_goto (tgt := 2) hx hb dX11_nextIn_50 (by decide) ?_
        exact ih M l0 l1 (l2 + (1 : Int32)) _ hf h0 _ _ _ hW (lv_sub hl [2, 3, 0] rfl)
      · have hf := z_if c5 hf
        refine lv_iload_n hx hb dX11_nextIn_37 rfl (lv_at hl 2 rfl) ?_
        refine lv_iload_n hx hb dX11_nextIn_38 rfl (lv_at hl 0 rfl) ?_
        refine lv_ishr hx hb dX11_nextIn_39 ?_
        refine lv_iconst (v := 1) hx hb dX11_nextIn_40 (by decide) ?_
        refine lv_iand hx hb dX11_nextIn_41 ?_
        refine lv_if_ne (tgt := 47) hx hb dX11_nextIn_42 (by decide) (fun c6 => ?_) (fun c6 => ?_)
        · have hf := z_if c6 hf
          refine lv_iinc (v := l2 + (1 : Int32)) (lv' := [(2, .int (l2 + (1 : Int32))), (3, .int (((M.1 (z_r Γ l0 0) 3) + l2) - ((M.1 (z_r Γ l0 0) 3) + l2) / (M.1 (z_r Γ l0 0) 0) * (M.1 (z_r Γ l0 0) 0))), (0, .ref l0), (1, .int l1)]) hx hb dX11_nextIn_47 hl (k := 3) rfl rfl (by decide) rfl (fun ls hl => ?_)
          refine lv_goto (tgt := 2) hx hb dX11_nextIn_50 (by decide) ?_
          exact ih M l0 l1 (l2 + (1 : Int32)) _ hf h0 _ _ _ hW (lv_sub hl [2, 3, 0] rfl)
        · have hf := z_it c6 hf
          refine lv_iload_n hx hb dX11_nextIn_45 rfl (lv_at hl 0 rfl) ?_
          have hf := Option.some.inj hf
          subst hf
          exact z_ri B hW dX11_nextIn_46
set_option maxHeartbeats 4000000 in
set_option maxRecDepth 100000 in
theorem f_X11_nextIn (l : Launch) {Γ : Zg} {M : Zm} {l0 : Nat} {l1 : Int32} {r : Int32} (hf : X11_nextIn Γ M l0 l1 = some r) (h0 : z_Is Γ 11 l0) : z_Fn l Γ yX11_nextIn cX11_nextIn 4 (some .int) 1 22 [.ref l0, .int l1] M (some (.int r)) M := by
  refine z_Fn.of (by decide) (Nat.le_of_ble_eq_true rfl) ?_
  intro p e s m below meth c ls B hW hl
  have B : z_Bd Γ p s m _ meth c cX11_nextIn 4 (some .int) RX11 := B
  have hl : lv_has ls 4 [(0, .ref l0), (1, .int l1)] := hl
  rw [X11_nextIn] at hf
  have hx := B.1
  have hb := B.2.1
  have hml := B.2.2.1
  have ho := B.2.2.2.1
  have hw := B.2.2.2.2.1
  have hE := B.2.2.2.2.2.1.2.2
  have hg := B.2.2.2.2.2.2.1
  refine lv_iconst (v := 1) hx hb dX11_nextIn_0 (by decide) ?_
  refine lv_istore_n (lv' := [(2, .int (1 : Int32)), (0, .ref l0), (1, .int l1)]) hx hb dX11_nextIn_1 rfl hl (by decide) rfl (fun ls hl => ?_)
  exact w_X11_nextIn_P2 B 1000 M l0 l1 (1 : Int32) _ hf h0 _ _ _ hW (lv_sub hl [1, 2, 0] rfl)
set_option maxHeartbeats 4000000 in
set_option maxRecDepth 100000 in
theorem w_X11_goesOn_P166 (B : z_Bd Γ p s m args meth c cX11_goesOn 6 none RX11) : ∀ (n : Nat) (M : Zm) (l0 : Nat) (l3 : Int32) (l4 : Int32) (M' : Zm), X11_goesOn_P166 Γ n M l0 l3 l4 = some M' → z_Is Γ 11 l0 → ∀ (H : Heap) (locs : List Loc) (ls : Array Slot), z_Wd Γ M s.heap H locs → lv_has ls 6 [(0, .ref l0), (3, .int l3), (4, .int l4)] → W p l e (z_rm 3 70) s m args below meth c H locs 0 0 (z_Q Γ below args s none M') (F0 m 166 ls []) := by
  have hx := B.1
  have hb := B.2.1
  have hml := B.2.2.1
  have ho := B.2.2.2.1
  have hw := B.2.2.2.2.1
  have hE := B.2.2.2.2.2.1.2.2
  have hg := B.2.2.2.2.2.2.1
  intro n
  induction n with
  | zero =>
    intro M l0 l3 l4 M' hf h0 H locs ls hW hl
    cases hf
  | succ n ih =>
    intro M l0 l3 l4 M' hf h0 H locs ls hW hl
    rw [X11_goesOn_P166] at hf
    refine lv_iload hx hb dX11_goesOn_166 (lv_at hl 2 rfl) ?_
    refine lv_iconst (v := 2) hx hb dX11_goesOn_168 (by decide) ?_
    refine lv_icmp_ge (tgt := 236) hx hb dX11_goesOn_169 (by decide) (fun c51 => ?_) (fun c51 => ?_)
    · have hf := z_it c51 hf
      refine lv_aload_n hx hb dX11_goesOn_236 rfl (lv_at hl 0 rfl) ?_
      refine z_get_11_0 B hW h0 q855 dX11_goesOn_237 ?_
      refine lv_iconst (v := 1) hx hb dX11_goesOn_240 (by decide) ?_
      refine lv_dup2_11 hx hb dX11_goesOn_241 rfl rfl ?_
      refine z_ia B hW (z_g11_0 hg h0) (z_ixd (by decide)) dX11_goesOn_242 ?_
      refine lv_iconst (v := 1) hx hb dX11_goesOn_243 (by decide) ?_
      refine lv_iadd hx hb dX11_goesOn_244 ?_
      refine z_is B hW (z_g11_0 hg h0) (z_ixd (by decide)) dX11_goesOn_245 (fun H locs hW => ?_)
      obtain ⟨M52, e53, hf⟩ := z_le hf
      have hW := z_wde e53 hW
      have hf := Option.some.inj hf
      subst hf
      exact z_rv B hW dX11_goesOn_246
    · have hf := z_if c51 hf
      refine lv_aload_n hx hb dX11_goesOn_172 rfl (lv_at hl 0 rfl) ?_
      refine lv_iload hx hb dX11_goesOn_173 (lv_at hl 2 rfl) ?_
      obtain ⟨r54, e55, hf⟩ := z_bd hf
      refine z_cV (As := [.int l4]) (rest := []) B hW (f_X11_sitter l e55 h0) sc_X11_sitter sv_X11_110 h0 ⟨Nat.le_of_ble_eq_true rfl, Nat.le_of_ble_eq_true rfl⟩ ⟨Nat.zero_le _, Nat.zero_le _⟩ rfl hl.1 rfl (Nat.le_of_ble_eq_true rfl) dX11_goesOn_175 (fun H locs hW => ?_)
      refine lv_if_ge (tgt := 189) hx hb dX11_goesOn_178 (by decide) (fun c56 => ?_) (fun c56 => ?_)
      · have hf := z_it c56 hf
        refine lv_iconst (v := -1) hx hb dX11_goesOn_189 (by decide) ?_
        refine lv_istore (lv' := [(5, .int (-1 : Int32)), (0, .ref l0), (3, .int l3), (4, .int l4)]) hx hb dX11_goesOn_190 hl (by decide) rfl (fun ls hl => ?_)
        refine lv_iload hx hb dX11_goesOn_192 (lv_at hl 0 rfl) ?_
        refine lv_if_lt (tgt := 230) hx hb dX11_goesOn_194 (by decide) (fun c57 => ?_) (fun c57 => ?_)
        · have hf := z_it c57 hf
          refine lv_iinc (v := l4 + (1 : Int32)) (lv' := [(4, .int (l4 + (1 : Int32))), (5, .int (-1 : Int32)), (0, .ref l0), (3, .int l3)]) hx hb dX11_goesOn_230 hl (k := 3) rfl rfl (by decide) rfl (fun ls hl => ?_)
          refine lv_goto (tgt := 166) hx hb dX11_goesOn_233 (by decide) ?_
          exact ih M l0 l3 (l4 + (1 : Int32)) _ hf h0 _ _ _ hW (lv_sub hl [2, 3, 0] rfl)
        · have hf := z_if c57 hf
          refine lv_aload_n hx hb dX11_goesOn_197 rfl (lv_at hl 1 rfl) ?_
          refine z_get_11_0 B hW h0 q855 dX11_goesOn_198 ?_
          refine lv_iload hx hb dX11_goesOn_201 (lv_at hl 0 rfl) ?_
          refine lv_iconst (v := 3) hx hb dX11_goesOn_203 (by decide) ?_
          refine z_cS (As := [.int (-1 : Int32), .int (3 : Int32)]) (rest := [.ref (z_r Γ l0 0)]) B hW (f_X11_at l) sc_X11_at ⟨q942, q943⟩ ⟨Nat.le_of_ble_eq_true rfl, Nat.le_of_ble_eq_true rfl⟩ ⟨Nat.zero_le _, Nat.zero_le _⟩ rfl hl.1 rfl (Nat.le_of_ble_eq_true rfl) dX11_goesOn_204 (fun H locs hW => ?_)
          refine lv_iload hx hb dX11_goesOn_207 (lv_at hl 3 rfl) ?_
          obtain ⟨g60, hf⟩ := z_gd hf
          refine z_is B hW (z_g11_0 hg h0) g60 dX11_goesOn_209 (fun H locs hW => ?_)
          obtain ⟨M61, e62, hf⟩ := z_le hf
          have hW := z_wde e62 hW
          refine lv_aload_n hx hb dX11_goesOn_210 rfl (lv_at hl 1 rfl) ?_
          refine z_get_11_0 B hW h0 q855 dX11_goesOn_211 ?_
          refine lv_iload hx hb dX11_goesOn_214 (lv_at hl 0 rfl) ?_
          refine lv_iconst (v := 4) hx hb dX11_goesOn_216 (by decide) ?_
          refine z_cS (As := [.int (-1 : Int32), .int (4 : Int32)]) (rest := [.ref (z_r Γ l0 0)]) B hW (f_X11_at l) sc_X11_at ⟨q942, q943⟩ ⟨Nat.le_of_ble_eq_true rfl, Nat.le_of_ble_eq_true rfl⟩ ⟨Nat.zero_le _, Nat.zero_le _⟩ rfl hl.1 rfl (Nat.le_of_ble_eq_true rfl) dX11_goesOn_217 (fun H locs hW => ?_)
          refine lv_iconst (v := 0) hx hb dX11_goesOn_220 (by decide) ?_
          obtain ⟨g65, hf⟩ := z_gd hf
          refine z_is B hW (z_g11_0 hg h0) g65 dX11_goesOn_221 (fun H locs hW => ?_)
          obtain ⟨M66, e67, hf⟩ := z_le hf
          have hW := z_wde e67 hW
          refine lv_aload_n hx hb dX11_goesOn_222 rfl (lv_at hl 1 rfl) ?_
          refine z_get_11_0 B hW h0 q855 dX11_goesOn_223 ?_
          refine lv_iconst (v := 3) hx hb dX11_goesOn_226 (by decide) ?_
          refine lv_iload hx hb dX11_goesOn_227 (lv_at hl 0 rfl) ?_
          refine z_is B hW (z_g11_0 hg h0) (z_ixd (by decide)) dX11_goesOn_229 (fun H locs hW => ?_)
          obtain ⟨M68, e69, hf⟩ := z_le hf
          have hW := z_wde e69 hW
          refine lv_iinc (v := l4 + (1 : Int32)) (lv' := [(4, .int (l4 + (1 : Int32))), (5, .int (-1 : Int32)), (0, .ref l0), (3, .int l3)]) hx hb dX11_goesOn_230 hl (k := 3) rfl rfl (by decide) rfl (fun ls hl => ?_)
          refine lv_goto (tgt := 166) hx hb dX11_goesOn_233 (by decide) ?_
          exact ih M68 l0 l3 (l4 + (1 : Int32)) _ hf h0 _ _ _ hW (lv_sub hl [2, 3, 0] rfl)
      · have hf := z_if c56 hf
        refine lv_aload_n hx hb dX11_goesOn_181 rfl (lv_at hl 0 rfl) ?_
        refine lv_iload_n hx hb dX11_goesOn_182 rfl (lv_at hl 1 rfl) ?_
        obtain ⟨r70, e71, hf⟩ := z_bd hf
        refine z_cV (As := [.int l3]) (rest := []) B hW (f_X11_nextIn l e71 h0) sc_X11_nextIn sv_X11_128 h0 ⟨Nat.le_of_ble_eq_true rfl, Nat.le_of_ble_eq_true rfl⟩ ⟨Nat.zero_le _, Nat.zero_le _⟩ rfl hl.1 rfl (Nat.le_of_ble_eq_true rfl) dX11_goesOn_183 (fun H locs hW => ?_)
        refine lv_goto (tgt := 190) hx hb dX11_goesOn_186 (by decide) ?_
        refine lv_istore (lv' := [(5, .int r70), (0, .ref l0), (3, .int l3), (4, .int l4)]) hx hb dX11_goesOn_190 hl (by decide) rfl (fun ls hl => ?_)
        refine lv_iload hx hb dX11_goesOn_192 (lv_at hl 0 rfl) ?_
        refine lv_if_lt (tgt := 230) hx hb dX11_goesOn_194 (by decide) (fun c72 => ?_) (fun c72 => ?_)
        · have hf := z_it c72 hf
          refine lv_iinc (v := l4 + (1 : Int32)) (lv' := [(4, .int (l4 + (1 : Int32))), (5, .int r70), (0, .ref l0), (3, .int l3)]) hx hb dX11_goesOn_230 hl (k := 3) rfl rfl (by decide) rfl (fun ls hl => ?_)
          refine lv_goto (tgt := 166) hx hb dX11_goesOn_233 (by decide) ?_
          exact ih M l0 l3 (l4 + (1 : Int32)) _ hf h0 _ _ _ hW (lv_sub hl [2, 3, 0] rfl)
        · have hf := z_if c72 hf
          refine lv_aload_n hx hb dX11_goesOn_197 rfl (lv_at hl 1 rfl) ?_
          refine z_get_11_0 B hW h0 q855 dX11_goesOn_198 ?_
          refine lv_iload hx hb dX11_goesOn_201 (lv_at hl 0 rfl) ?_
          refine lv_iconst (v := 3) hx hb dX11_goesOn_203 (by decide) ?_
          refine z_cS (As := [.int r70, .int (3 : Int32)]) (rest := [.ref (z_r Γ l0 0)]) B hW (f_X11_at l) sc_X11_at ⟨q942, q943⟩ ⟨Nat.le_of_ble_eq_true rfl, Nat.le_of_ble_eq_true rfl⟩ ⟨Nat.zero_le _, Nat.zero_le _⟩ rfl hl.1 rfl (Nat.le_of_ble_eq_true rfl) dX11_goesOn_204 (fun H locs hW => ?_)
          refine lv_iload hx hb dX11_goesOn_207 (lv_at hl 3 rfl) ?_
          obtain ⟨g75, hf⟩ := z_gd hf
          refine z_is B hW (z_g11_0 hg h0) g75 dX11_goesOn_209 (fun H locs hW => ?_)
          obtain ⟨M76, e77, hf⟩ := z_le hf
          have hW := z_wde e77 hW
          refine lv_aload_n hx hb dX11_goesOn_210 rfl (lv_at hl 1 rfl) ?_
          refine z_get_11_0 B hW h0 q855 dX11_goesOn_211 ?_
          refine lv_iload hx hb dX11_goesOn_214 (lv_at hl 0 rfl) ?_
          refine lv_iconst (v := 4) hx hb dX11_goesOn_216 (by decide) ?_
          refine z_cS (As := [.int r70, .int (4 : Int32)]) (rest := [.ref (z_r Γ l0 0)]) B hW (f_X11_at l) sc_X11_at ⟨q942, q943⟩ ⟨Nat.le_of_ble_eq_true rfl, Nat.le_of_ble_eq_true rfl⟩ ⟨Nat.zero_le _, Nat.zero_le _⟩ rfl hl.1 rfl (Nat.le_of_ble_eq_true rfl) dX11_goesOn_217 (fun H locs hW => ?_)
          refine lv_iconst (v := 0) hx hb dX11_goesOn_220 (by decide) ?_
          obtain ⟨g80, hf⟩ := z_gd hf
          refine z_is B hW (z_g11_0 hg h0) g80 dX11_goesOn_221 (fun H locs hW => ?_)
          obtain ⟨M81, e82, hf⟩ := z_le hf
          have hW := z_wde e82 hW
          refine lv_aload_n hx hb dX11_goesOn_222 rfl (lv_at hl 1 rfl) ?_
          refine z_get_11_0 B hW h0 q855 dX11_goesOn_223 ?_
          refine lv_iconst (v := 3) hx hb dX11_goesOn_226 (by decide) ?_
          refine lv_iload hx hb dX11_goesOn_227 (lv_at hl 0 rfl) ?_
          refine z_is B hW (z_g11_0 hg h0) (z_ixd (by decide)) dX11_goesOn_229 (fun H locs hW => ?_)
          obtain ⟨M83, e84, hf⟩ := z_le hf
          have hW := z_wde e84 hW
          refine lv_iinc (v := l4 + (1 : Int32)) (lv' := [(4, .int (l4 + (1 : Int32))), (5, .int r70), (0, .ref l0), (3, .int l3)]) hx hb dX11_goesOn_230 hl (k := 3) rfl rfl (by decide) rfl (fun ls hl => ?_)
          refine lv_goto (tgt := 166) hx hb dX11_goesOn_233 (by decide) ?_
          exact ih M83 l0 l3 (l4 + (1 : Int32)) _ hf h0 _ _ _ hW (lv_sub hl [2, 3, 0] rfl)
set_option maxHeartbeats 4000000 in
set_option maxRecDepth 100000 in
theorem w_X11_goesOn_P74 (B : z_Bd Γ p s m args meth c cX11_goesOn 6 none RX11) : ∀ (n : Nat) (M : Zm) (l0 : Nat) (l3 : Int32) (l4 : Int32) (M' : Zm), X11_goesOn_P74 Γ n M l0 l3 l4 = some M' → z_Is Γ 11 l0 → ∀ (H : Heap) (locs : List Loc) (ls : Array Slot), z_Wd Γ M s.heap H locs → lv_has ls 6 [(0, .ref l0), (3, .int l3), (4, .int l4)] → W p l e (z_rm 3 70) s m args below meth c H locs 0 0 (z_Q Γ below args s none M') (F0 m 74 ls []) := by
  have hx := B.1
  have hb := B.2.1
  have hml := B.2.2.1
  have ho := B.2.2.2.1
  have hw := B.2.2.2.2.1
  have hE := B.2.2.2.2.2.1.2.2
  have hg := B.2.2.2.2.2.2.1
  intro n
  induction n with
  | zero =>
    intro M l0 l3 l4 M' hf h0 H locs ls hW hl
    cases hf
  | succ n ih =>
    intro M l0 l3 l4 M' hf h0 H locs ls hW hl
    rw [X11_goesOn_P74] at hf
    refine lv_iload hx hb dX11_goesOn_74 (lv_at hl 2 rfl) ?_
    refine lv_aload_n hx hb dX11_goesOn_76 rfl (lv_at hl 0 rfl) ?_
    refine z_get_11_0 B hW h0 q855 dX11_goesOn_77 ?_
    refine lv_iconst (v := 0) hx hb dX11_goesOn_80 (by decide) ?_
    refine z_ia B hW (z_g11_0 hg h0) (z_ixd (by decide)) dX11_goesOn_81 ?_
    refine lv_icmp_ge (tgt := 163) hx hb dX11_goesOn_82 (by decide) (fun c26 => ?_) (fun c26 => ?_)
    · have hf := z_it c26 hf
      refine lv_iconst (v := 0) hx hb dX11_goesOn_163 (by decide) ?_
      refine lv_istore (lv' := [(4, .int (0 : Int32)), (0, .ref l0), (3, .int l3)]) hx hb dX11_goesOn_164 hl (by decide) rfl (fun ls hl => ?_)
      exact w_X11_goesOn_P166 B 1000 M l0 l3 (0 : Int32) _ hf h0 _ _ _ hW (lv_sub hl [1, 2, 0] rfl)
    · have hf := z_if c26 hf
      refine lv_aload_n hx hb dX11_goesOn_85 rfl (lv_at hl 0 rfl) ?_
      refine lv_iload hx hb dX11_goesOn_86 (lv_at hl 2 rfl) ?_
      refine lv_iconst (v := 3) hx hb dX11_goesOn_88 (by decide) ?_
      obtain ⟨r27, e28, hf⟩ := z_bd hf
      refine z_cV (As := [.int l4, .int (3 : Int32)]) (rest := []) B hW (f_X11_its l e28 h0) sc_X11_its sv_X11_58 h0 ⟨Nat.le_of_ble_eq_true rfl, Nat.le_of_ble_eq_true rfl⟩ ⟨Nat.zero_le _, Nat.zero_le _⟩ rfl hl.1 rfl (Nat.le_of_ble_eq_true rfl) dX11_goesOn_89 (fun H locs hW => ?_)
      refine lv_if_lt (tgt := 157) hx hb dX11_goesOn_92 (by decide) (fun c29 => ?_) (fun c29 => ?_)
      · have hf := z_it c29 hf
        refine lv_iinc (v := l4 + (1 : Int32)) (lv' := [(4, .int (l4 + (1 : Int32))), (0, .ref l0), (3, .int l3)]) hx hb dX11_goesOn_157 hl (k := 2) rfl rfl (by decide) rfl (fun ls hl => ?_)
        refine lv_goto (tgt := 74) hx hb dX11_goesOn_160 (by decide) ?_
        exact ih M l0 l3 (l4 + (1 : Int32)) _ hf h0 _ _ _ hW (lv_sub hl [1, 2, 0] rfl)
      · have hf := z_if c29 hf
        refine lv_aload_n hx hb dX11_goesOn_95 rfl (lv_at hl 0 rfl) ?_
        refine z_get_11_0 B hW h0 q855 dX11_goesOn_96 ?_
        refine lv_iload hx hb dX11_goesOn_99 (lv_at hl 2 rfl) ?_
        refine lv_iconst (v := 4) hx hb dX11_goesOn_101 (by decide) ?_
        refine z_cS (As := [.int l4, .int (4 : Int32)]) (rest := [.ref (z_r Γ l0 0)]) B hW (f_X11_at l) sc_X11_at ⟨q942, q943⟩ ⟨Nat.le_of_ble_eq_true rfl, Nat.le_of_ble_eq_true rfl⟩ ⟨Nat.zero_le _, Nat.zero_le _⟩ rfl hl.1 rfl (Nat.le_of_ble_eq_true rfl) dX11_goesOn_102 (fun H locs hW => ?_)
        refine lv_dup2_11 hx hb dX11_goesOn_105 rfl rfl ?_
        obtain ⟨g32, hf⟩ := z_gd hf
        refine z_ia B hW (z_g11_0 hg h0) g32 dX11_goesOn_106 ?_
        refine lv_iconst (v := 1) hx hb dX11_goesOn_107 (by decide) ?_
        refine lv_iadd hx hb dX11_goesOn_108 ?_
        obtain ⟨g33, hf⟩ := z_gd hf
        refine z_is B hW (z_g11_0 hg h0) g33 dX11_goesOn_109 (fun H locs hW => ?_)
        obtain ⟨M34, e35, hf⟩ := z_le hf
        have hW := z_wde e35 hW
        refine lv_aload_n hx hb dX11_goesOn_110 rfl (lv_at hl 0 rfl) ?_
        refine lv_iload hx hb dX11_goesOn_111 (lv_at hl 2 rfl) ?_
        refine lv_iconst (v := 4) hx hb dX11_goesOn_113 (by decide) ?_
        obtain ⟨r36, e37, hf⟩ := z_bd hf
        refine z_cV (As := [.int l4, .int (4 : Int32)]) (rest := []) B hW (f_X11_its l e37 h0) sc_X11_its sv_X11_58 h0 ⟨Nat.le_of_ble_eq_true rfl, Nat.le_of_ble_eq_true rfl⟩ ⟨Nat.zero_le _, Nat.zero_le _⟩ rfl hl.1 rfl (Nat.le_of_ble_eq_true rfl) dX11_goesOn_114 (fun H locs hW => ?_)
        refine lv_aload_n hx hb dX11_goesOn_117 rfl (lv_at hl 0 rfl) ?_
        refine lv_iload hx hb dX11_goesOn_118 (lv_at hl 2 rfl) ?_
        obtain ⟨r38, e39, hf⟩ := z_bd hf
        refine z_cV (As := [.int l4]) (rest := [.int r36]) B hW (f_X11_stays l e39 h0) sc_X11_stays sv_X11_91 h0 ⟨Nat.le_of_ble_eq_true rfl, Nat.le_of_ble_eq_true rfl⟩ ⟨Nat.zero_le _, Nat.zero_le _⟩ rfl hl.1 rfl (Nat.le_of_ble_eq_true rfl) dX11_goesOn_120 (fun H locs hW => ?_)
        refine lv_icmp_lt (tgt := 157) hx hb dX11_goesOn_123 (by decide) (fun c40 => ?_) (fun c40 => ?_)
        · have hf := z_it c40 hf
          refine lv_iinc (v := l4 + (1 : Int32)) (lv' := [(4, .int (l4 + (1 : Int32))), (0, .ref l0), (3, .int l3)]) hx hb dX11_goesOn_157 hl (k := 2) rfl rfl (by decide) rfl (fun ls hl => ?_)
          refine lv_goto (tgt := 74) hx hb dX11_goesOn_160 (by decide) ?_
          exact ih M34 l0 l3 (l4 + (1 : Int32)) _ hf h0 _ _ _ hW (lv_sub hl [1, 2, 0] rfl)
        · have hf := z_if c40 hf
          refine lv_aload_n hx hb dX11_goesOn_126 rfl (lv_at hl 0 rfl) ?_
          refine z_get_11_0 B hW h0 q855 dX11_goesOn_127 ?_
          refine lv_iload hx hb dX11_goesOn_130 (lv_at hl 2 rfl) ?_
          refine lv_iconst (v := 3) hx hb dX11_goesOn_132 (by decide) ?_
          refine z_cS (As := [.int l4, .int (3 : Int32)]) (rest := [.ref (z_r Γ l0 0)]) B hW (f_X11_at l) sc_X11_at ⟨q942, q943⟩ ⟨Nat.le_of_ble_eq_true rfl, Nat.le_of_ble_eq_true rfl⟩ ⟨Nat.zero_le _, Nat.zero_le _⟩ rfl hl.1 rfl (Nat.le_of_ble_eq_true rfl) dX11_goesOn_133 (fun H locs hW => ?_)
          refine lv_iconst (v := -1) hx hb dX11_goesOn_136 (by decide) ?_
          obtain ⟨g43, hf⟩ := z_gd hf
          refine z_is B hW (z_g11_0 hg h0) g43 dX11_goesOn_137 (fun H locs hW => ?_)
          obtain ⟨M44, e45, hf⟩ := z_le hf
          have hW := z_wde e45 hW
          refine lv_aload_n hx hb dX11_goesOn_138 rfl (lv_at hl 0 rfl) ?_
          refine z_get_11_0 B hW h0 q855 dX11_goesOn_139 ?_
          refine lv_iload hx hb dX11_goesOn_142 (lv_at hl 2 rfl) ?_
          refine lv_iconst (v := 4) hx hb dX11_goesOn_144 (by decide) ?_
          refine z_cS (As := [.int l4, .int (4 : Int32)]) (rest := [.ref (z_r Γ l0 0)]) B hW (f_X11_at l) sc_X11_at ⟨q942, q943⟩ ⟨Nat.le_of_ble_eq_true rfl, Nat.le_of_ble_eq_true rfl⟩ ⟨Nat.zero_le _, Nat.zero_le _⟩ rfl hl.1 rfl (Nat.le_of_ble_eq_true rfl) dX11_goesOn_145 (fun H locs hW => ?_)
          refine lv_iconst (v := 0) hx hb dX11_goesOn_148 (by decide) ?_
          obtain ⟨g48, hf⟩ := z_gd hf
          refine z_is B hW (z_g11_0 hg h0) g48 dX11_goesOn_149 (fun H locs hW => ?_)
          obtain ⟨M49, e50, hf⟩ := z_le hf
          have hW := z_wde e50 hW
          refine lv_iload_n hx hb dX11_goesOn_150 rfl (lv_at hl 1 rfl) ?_
          refine lv_iconst (v := 1) hx hb dX11_goesOn_151 (by decide) ?_
          refine lv_iload hx hb dX11_goesOn_152 (lv_at hl 2 rfl) ?_
          refine lv_ishl hx hb dX11_goesOn_154 ?_
          refine lv_ior hx hb dX11_goesOn_155 ?_
          refine lv_istore_n (lv' := [(3, .int (l3 ||| ((1 : Int32) <<< (l4 &&& 31)))), (0, .ref l0), (4, .int l4)]) hx hb dX11_goesOn_156 rfl hl (by decide) rfl (fun ls hl => ?_)
          refine lv_iinc (v := l4 + (1 : Int32)) (lv' := [(4, .int (l4 + (1 : Int32))), (3, .int (l3 ||| ((1 : Int32) <<< (l4 &&& 31)))), (0, .ref l0)]) hx hb dX11_goesOn_157 hl (k := 2) rfl rfl (by decide) rfl (fun ls hl => ?_)
          refine lv_goto (tgt := 74) hx hb dX11_goesOn_160 (by decide) ?_
          exact ih M49 l0 (l3 ||| ((1 : Int32) <<< (l4 &&& 31))) (l4 + (1 : Int32)) _ hf h0 _ _ _ hW (lv_sub hl [2, 1, 0] rfl)
set_option maxHeartbeats 4000000 in
set_option maxRecDepth 100000 in
theorem f_X11_goesOn (l : Launch) {Γ : Zg} {M : Zm} {l0 : Nat} {M' : Zm} (hf : X11_goesOn Γ M l0 = some M') (h0 : z_Is Γ 11 l0) : z_Fn l Γ yX11_goesOn cX11_goesOn 6 none 3 70 [.ref l0] M none M' := by
  refine z_Fn.of (by decide) (Nat.le_of_ble_eq_true rfl) ?_
  intro p e s m below meth c ls B hW hl
  have B : z_Bd Γ p s m _ meth c cX11_goesOn 6 none RX11 := B
  have hl : lv_has ls 6 [(0, .ref l0)] := hl
  rw [X11_goesOn] at hf
  have hx := B.1
  have hb := B.2.1
  have hml := B.2.2.1
  have ho := B.2.2.2.1
  have hw := B.2.2.2.2.1
  have hE := B.2.2.2.2.2.1.2.2
  have hg := B.2.2.2.2.2.2.1
  refine lv_aload_n hx hb dX11_goesOn_0 rfl (lv_at hl 0 rfl) ?_
  refine lv_iconst (v := 0) hx hb dX11_goesOn_1 (by decide) ?_
  obtain ⟨r1, e2, hf⟩ := z_bd hf
  refine z_cV (As := [.int (0 : Int32)]) (rest := []) B hW (f_X11_sitter l e2 h0) sc_X11_sitter sv_X11_110 h0 ⟨Nat.le_of_ble_eq_true rfl, Nat.le_of_ble_eq_true rfl⟩ ⟨Nat.zero_le _, Nat.zero_le _⟩ rfl hl.1 rfl (Nat.le_of_ble_eq_true rfl) dX11_goesOn_2 (fun H locs hW => ?_)
  refine lv_istore_n (lv' := [(1, .int r1), (0, .ref l0)]) hx hb dX11_goesOn_5 rfl hl (by decide) rfl (fun ls hl => ?_)
  refine lv_aload_n hx hb dX11_goesOn_6 rfl (lv_at hl 1 rfl) ?_
  refine lv_iconst (v := 1) hx hb dX11_goesOn_7 (by decide) ?_
  obtain ⟨r3, e4, hf⟩ := z_bd hf
  refine z_cV (As := [.int (1 : Int32)]) (rest := []) B hW (f_X11_sitter l e4 h0) sc_X11_sitter sv_X11_110 h0 ⟨Nat.le_of_ble_eq_true rfl, Nat.le_of_ble_eq_true rfl⟩ ⟨Nat.zero_le _, Nat.zero_le _⟩ rfl hl.1 rfl (Nat.le_of_ble_eq_true rfl) dX11_goesOn_8 (fun H locs hW => ?_)
  refine lv_istore_n (lv' := [(2, .int r3), (1, .int r1), (0, .ref l0)]) hx hb dX11_goesOn_11 rfl hl (by decide) rfl (fun ls hl => ?_)
  refine lv_iload_n hx hb dX11_goesOn_12 rfl (lv_at hl 1 rfl) ?_
  refine lv_if_lt (tgt := 69) hx hb dX11_goesOn_13 (by decide) (fun c5 => ?_) (fun c5 => ?_)
  · have hf := z_it c5 hf
    refine lv_iconst (v := 0) hx hb dX11_goesOn_69 (by decide) ?_
    refine lv_istore_n (lv' := [(3, .int (0 : Int32)), (2, .int r3), (1, .int r1), (0, .ref l0)]) hx hb dX11_goesOn_70 rfl hl (by decide) rfl (fun ls hl => ?_)
    refine lv_iconst (v := 0) hx hb dX11_goesOn_71 (by decide) ?_
    refine lv_istore (lv' := [(4, .int (0 : Int32)), (3, .int (0 : Int32)), (2, .int r3), (1, .int r1), (0, .ref l0)]) hx hb dX11_goesOn_72 hl (by decide) rfl (fun ls hl => ?_)
    exact w_X11_goesOn_P74 B 1000 M l0 (0 : Int32) (0 : Int32) _ hf h0 _ _ _ hW (lv_sub hl [4, 1, 0] rfl)
  · have hf := z_if c5 hf
    refine lv_iload_n hx hb dX11_goesOn_16 rfl (lv_at hl 0 rfl) ?_
    refine lv_if_lt (tgt := 69) hx hb dX11_goesOn_17 (by decide) (fun c6 => ?_) (fun c6 => ?_)
    · have hf := z_it c6 hf
      refine lv_iconst (v := 0) hx hb dX11_goesOn_69 (by decide) ?_
      refine lv_istore_n (lv' := [(3, .int (0 : Int32)), (2, .int r3), (1, .int r1), (0, .ref l0)]) hx hb dX11_goesOn_70 rfl hl (by decide) rfl (fun ls hl => ?_)
      refine lv_iconst (v := 0) hx hb dX11_goesOn_71 (by decide) ?_
      refine lv_istore (lv' := [(4, .int (0 : Int32)), (3, .int (0 : Int32)), (2, .int r3), (1, .int r1), (0, .ref l0)]) hx hb dX11_goesOn_72 hl (by decide) rfl (fun ls hl => ?_)
      exact w_X11_goesOn_P74 B 1000 M l0 (0 : Int32) (0 : Int32) _ hf h0 _ _ _ hW (lv_sub hl [4, 1, 0] rfl)
    · have hf := z_if c6 hf
      refine lv_aload_n hx hb dX11_goesOn_20 rfl (lv_at hl 2 rfl) ?_
      refine lv_iload_n hx hb dX11_goesOn_21 rfl (lv_at hl 1 rfl) ?_
      obtain ⟨r7, e8, hf⟩ := z_bd hf
      refine z_cV (As := [.int r1]) (rest := []) B hW (f_X11_says l e8 h0) sc_X11_says sv_X11_88 h0 ⟨Nat.le_of_ble_eq_true rfl, Nat.le_of_ble_eq_true rfl⟩ ⟨Nat.zero_le _, Nat.zero_le _⟩ rfl hl.1 rfl (Nat.le_of_ble_eq_true rfl) dX11_goesOn_22 (fun H locs hW => ?_)
      refine lv_istore_n (lv' := [(3, .int r7), (2, .int r3), (1, .int r1), (0, .ref l0)]) hx hb dX11_goesOn_25 rfl hl (by decide) rfl (fun ls hl => ?_)
      refine lv_aload_n hx hb dX11_goesOn_26 rfl (lv_at hl 3 rfl) ?_
      refine lv_iload_n hx hb dX11_goesOn_27 rfl (lv_at hl 1 rfl) ?_
      obtain ⟨r9, e10, hf⟩ := z_bd hf
      refine z_cV (As := [.int r3]) (rest := []) B hW (f_X11_says l e10 h0) sc_X11_says sv_X11_88 h0 ⟨Nat.le_of_ble_eq_true rfl, Nat.le_of_ble_eq_true rfl⟩ ⟨Nat.zero_le _, Nat.zero_le _⟩ rfl hl.1 rfl (Nat.le_of_ble_eq_true rfl) dX11_goesOn_28 (fun H locs hW => ?_)
      refine lv_istore (lv' := [(4, .int r9), (3, .int r7), (2, .int r3), (1, .int r1), (0, .ref l0)]) hx hb dX11_goesOn_31 hl (by decide) rfl (fun ls hl => ?_)
      refine lv_aload_n hx hb dX11_goesOn_33 rfl (lv_at hl 4 rfl) ?_
      refine z_cV (As := []) (rest := []) B hW (f_X11_isMonday l h0) sc_X11_isMonday sv_X11_117 h0 ⟨Nat.le_of_ble_eq_true rfl, Nat.le_of_ble_eq_true rfl⟩ ⟨Nat.zero_le _, Nat.zero_le _⟩ rfl hl.1 rfl (Nat.le_of_ble_eq_true rfl) dX11_goesOn_34 (fun H locs hW => ?_)
      refine lv_if_eq (tgt := 56) hx hb dX11_goesOn_37 (by decide) (fun c13 => ?_) (fun c13 => ?_)
      · have hf := z_it c13 hf
        refine lv_aload_n hx hb dX11_goesOn_56 rfl (lv_at hl 4 rfl) ?_
        refine lv_iload_n hx hb dX11_goesOn_57 rfl (lv_at hl 3 rfl) ?_
        refine lv_iload hx hb dX11_goesOn_58 (lv_at hl 0 rfl) ?_
        obtain ⟨M15, e16, hf⟩ := z_bd hf
        refine z_cV (As := [.int r1, .int r9]) (rest := []) B hW (f_X11_hears l e16 h0) sc_X11_hears sv_X11_125 h0 ⟨Nat.le_of_ble_eq_true rfl, Nat.le_of_ble_eq_true rfl⟩ ⟨Nat.zero_le _, Nat.zero_le _⟩ rfl hl.1 rfl (Nat.le_of_ble_eq_true rfl) dX11_goesOn_60 (fun H locs hW => ?_)
        refine lv_aload_n hx hb dX11_goesOn_63 rfl (lv_at hl 4 rfl) ?_
        refine lv_iload_n hx hb dX11_goesOn_64 rfl (lv_at hl 2 rfl) ?_
        refine lv_iload_n hx hb dX11_goesOn_65 rfl (lv_at hl 1 rfl) ?_
        obtain ⟨M18, e19, hf⟩ := z_bd hf
        refine z_cV (As := [.int r3, .int r7]) (rest := []) B hW (f_X11_hears l e19 h0) sc_X11_hears sv_X11_125 h0 ⟨Nat.le_of_ble_eq_true rfl, Nat.le_of_ble_eq_true rfl⟩ ⟨Nat.zero_le _, Nat.zero_le _⟩ rfl hl.1 rfl (Nat.le_of_ble_eq_true rfl) dX11_goesOn_66 (fun H locs hW => ?_)
        refine lv_iconst (v := 0) hx hb dX11_goesOn_69 (by decide) ?_
        refine lv_istore_n (lv' := [(3, .int (0 : Int32)), (4, .int r9), (2, .int r3), (1, .int r1), (0, .ref l0)]) hx hb dX11_goesOn_70 rfl hl (by decide) rfl (fun ls hl => ?_)
        refine lv_iconst (v := 0) hx hb dX11_goesOn_71 (by decide) ?_
        refine lv_istore (lv' := [(4, .int (0 : Int32)), (3, .int (0 : Int32)), (2, .int r3), (1, .int r1), (0, .ref l0)]) hx hb dX11_goesOn_72 hl (by decide) rfl (fun ls hl => ?_)
        exact w_X11_goesOn_P74 B 1000 M18 l0 (0 : Int32) (0 : Int32) _ hf h0 _ _ _ hW (lv_sub hl [4, 1, 0] rfl)
      · have hf := z_if c13 hf
        refine lv_aload_n hx hb dX11_goesOn_40 rfl (lv_at hl 4 rfl) ?_
        refine lv_iload_n hx hb dX11_goesOn_41 rfl (lv_at hl 3 rfl) ?_
        refine lv_iload_n hx hb dX11_goesOn_42 rfl (lv_at hl 1 rfl) ?_
        obtain ⟨M21, e22, hf⟩ := z_bd hf
        refine z_cV (As := [.int r1, .int r7]) (rest := []) B hW (f_X11_hearsItself l e22 h0) sc_X11_hearsItself sv_X11_121 h0 ⟨Nat.le_of_ble_eq_true rfl, Nat.le_of_ble_eq_true rfl⟩ ⟨Nat.zero_le _, Nat.zero_le _⟩ rfl hl.1 rfl (Nat.le_of_ble_eq_true rfl) dX11_goesOn_43 (fun H locs hW => ?_)
        refine lv_aload_n hx hb dX11_goesOn_46 rfl (lv_at hl 4 rfl) ?_
        refine lv_iload_n hx hb dX11_goesOn_47 rfl (lv_at hl 2 rfl) ?_
        refine lv_iload hx hb dX11_goesOn_48 (lv_at hl 0 rfl) ?_
        obtain ⟨M24, e25, hf⟩ := z_bd hf
        refine z_cV (As := [.int r3, .int r9]) (rest := []) B hW (f_X11_hearsItself l e25 h0) sc_X11_hearsItself sv_X11_121 h0 ⟨Nat.le_of_ble_eq_true rfl, Nat.le_of_ble_eq_true rfl⟩ ⟨Nat.zero_le _, Nat.zero_le _⟩ rfl hl.1 rfl (Nat.le_of_ble_eq_true rfl) dX11_goesOn_50 (fun H locs hW => ?_)
        refine lv_goto (tgt := 69) hx hb dX11_goesOn_53 (by decide) ?_
        refine lv_iconst (v := 0) hx hb dX11_goesOn_69 (by decide) ?_
        refine lv_istore_n (lv' := [(3, .int (0 : Int32)), (4, .int r9), (2, .int r3), (1, .int r1), (0, .ref l0)]) hx hb dX11_goesOn_70 rfl hl (by decide) rfl (fun ls hl => ?_)
        refine lv_iconst (v := 0) hx hb dX11_goesOn_71 (by decide) ?_
        refine lv_istore (lv' := [(4, .int (0 : Int32)), (3, .int (0 : Int32)), (2, .int r3), (1, .int r1), (0, .ref l0)]) hx hb dX11_goesOn_72 hl (by decide) rfl (fun ls hl => ?_)
        exact w_X11_goesOn_P74 B 1000 M24 l0 (0 : Int32) (0 : Int32) _ hf h0 _ _ _ hW (lv_sub hl [4, 1, 0] rfl)
set_option maxHeartbeats 4000000 in
set_option maxRecDepth 100000 in
theorem w_X11_goes_P2 (B : z_Bd Γ p s m args meth c cX11_goes 3 none RX11) : ∀ (n : Nat) (M : Zm) (l0 : Nat) (l1 : Int32) (l2 : Int32) (M' : Zm), X11_goes_P2 Γ n M l0 l1 l2 = some M' → z_Is Γ 11 l0 → ∀ (H : Heap) (locs : List Loc) (ls : Array Slot), z_Wd Γ M s.heap H locs → lv_has ls 3 [(0, .ref l0), (1, .int l1), (2, .int l2)] → W p l e (z_rm 4 95) s m args below meth c H locs 0 0 (z_Q Γ below args s none M') (F0 m 2 ls []) := by
  have hx := B.1
  have hb := B.2.1
  have hml := B.2.2.1
  have ho := B.2.2.2.1
  have hw := B.2.2.2.2.1
  have hE := B.2.2.2.2.2.1.2.2
  have hg := B.2.2.2.2.2.2.1
  intro n
  induction n with
  | zero =>
    intro M l0 l1 l2 M' hf h0 H locs ls hW hl
    cases hf
  | succ n ih =>
    intro M l0 l1 l2 M' hf h0 H locs ls hW hl
    rw [X11_goes_P2] at hf
    refine lv_iload_n hx hb dX11_goes_2 rfl (lv_at hl 2 rfl) ?_
    refine lv_iload_n hx hb dX11_goes_3 rfl (lv_at hl 1 rfl) ?_
    refine lv_icmp_ge (tgt := 17) hx hb dX11_goes_4 (by decide) (fun c1 => ?_) (fun c1 => ?_)
    · have hf := z_it c1 hf
      have hf := Option.some.inj hf
      subst hf
      exact z_rv B hW dX11_goes_17
    · have hf := z_if c1 hf
      refine lv_aload_n hx hb dX11_goes_7 rfl (lv_at hl 0 rfl) ?_
      obtain ⟨M3, e4, hf⟩ := z_bd hf
      refine z_cV (As := []) (rest := []) B hW (f_X11_goesOn l e4 h0) sc_X11_goesOn sv_X11_131 h0 ⟨Nat.le_of_ble_eq_true rfl, Nat.le_of_ble_eq_true rfl⟩ ⟨Nat.zero_le _, Nat.zero_le _⟩ rfl hl.1 rfl (Nat.le_of_ble_eq_true rfl) dX11_goes_8 (fun H locs hW => ?_)
      refine lv_iinc (v := l2 + (1 : Int32)) (lv' := [(2, .int (l2 + (1 : Int32))), (0, .ref l0), (1, .int l1)]) hx hb dX11_goes_11 hl (k := 2) rfl rfl (by decide) rfl (fun ls hl => ?_)
      refine lv_goto (tgt := 2) hx hb dX11_goes_14 (by decide) ?_
      exact ih M3 l0 l1 (l2 + (1 : Int32)) _ hf h0 _ _ _ hW (lv_sub hl [1, 2, 0] rfl)
set_option maxHeartbeats 4000000 in
set_option maxRecDepth 100000 in
theorem f_X11_goes (l : Launch) {Γ : Zg} {M : Zm} {l0 : Nat} {l1 : Int32} {M' : Zm} (hf : X11_goes Γ M l0 l1 = some M') (h0 : z_Is Γ 11 l0) : z_Fn l Γ yX11_goes cX11_goes 3 none 4 95 [.ref l0, .int l1] M none M' := by
  refine z_Fn.of (by decide) (Nat.le_of_ble_eq_true rfl) ?_
  intro p e s m below meth c ls B hW hl
  have B : z_Bd Γ p s m _ meth c cX11_goes 3 none RX11 := B
  have hl : lv_has ls 3 [(0, .ref l0), (1, .int l1)] := hl
  rw [X11_goes] at hf
  have hx := B.1
  have hb := B.2.1
  have hml := B.2.2.1
  have ho := B.2.2.2.1
  have hw := B.2.2.2.2.1
  have hE := B.2.2.2.2.2.1.2.2
  have hg := B.2.2.2.2.2.2.1
  refine lv_iconst (v := 0) hx hb dX11_goes_0 (by decide) ?_
  refine lv_istore_n (lv' := [(2, .int (0 : Int32)), (0, .ref l0), (1, .int l1)]) hx hb dX11_goes_1 rfl hl (by decide) rfl (fun ls hl => ?_)
  exact w_X11_goes_P2 B 1000 M l0 l1 (0 : Int32) _ hf h0 _ _ _ hW (lv_sub hl [1, 2, 0] rfl)
set_option maxHeartbeats 4000000 in
set_option maxRecDepth 100000 in
theorem w_X11_heardOfAll_P4 (B : z_Bd Γ p s m args meth c cX11_heardOfAll 3 (some .int) RX11) : ∀ (n : Nat) (M : Zm) (l0 : Nat) (l1 : Int32) (l2 : Int32) (r : Int32), X11_heardOfAll_P4 Γ n M l0 l1 l2 = some r → z_Is Γ 11 l0 → ∀ (H : Heap) (locs : List Loc) (ls : Array Slot), z_Wd Γ M s.heap H locs → lv_has ls 3 [(0, .ref l0), (1, .int l1), (2, .int l2)] → W p l e (z_rm 1 22) s m args below meth c H locs 0 0 (z_Q Γ below args s (some (.int r)) M) (F0 m 4 ls []) := by
  have hx := B.1
  have hb := B.2.1
  have hml := B.2.2.1
  have ho := B.2.2.2.1
  have hw := B.2.2.2.2.1
  have hE := B.2.2.2.2.2.1.2.2
  have hg := B.2.2.2.2.2.2.1
  intro n
  induction n with
  | zero =>
    intro M l0 l1 l2 r hf h0 H locs ls hW hl
    cases hf
  | succ n ih =>
    intro M l0 l1 l2 r hf h0 H locs ls hW hl
    rw [X11_heardOfAll_P4] at hf
    refine lv_iload_n hx hb dX11_heardOfAll_4 rfl (lv_at hl 2 rfl) ?_
    refine lv_aload_n hx hb dX11_heardOfAll_5 rfl (lv_at hl 0 rfl) ?_
    refine z_get_11_0 B hW h0 q855 dX11_heardOfAll_6 ?_
    refine lv_iconst (v := 0) hx hb dX11_heardOfAll_9 (by decide) ?_
    refine z_ia B hW (z_g11_0 hg h0) (z_ixd (by decide)) dX11_heardOfAll_10 ?_
    refine lv_icmp_ge (tgt := 29) hx hb dX11_heardOfAll_11 (by decide) (fun c1 => ?_) (fun c1 => ?_)
    · have hf := z_it c1 hf
      refine lv_iload_n hx hb dX11_heardOfAll_29 rfl (lv_at hl 1 rfl) ?_
      have hf := Option.some.inj hf
      subst hf
      exact z_ri B hW dX11_heardOfAll_30
    · have hf := z_if c1 hf
      refine lv_iload_n hx hb dX11_heardOfAll_14 rfl (lv_at hl 1 rfl) ?_
      refine lv_aload_n hx hb dX11_heardOfAll_15 rfl (lv_at hl 0 rfl) ?_
      refine lv_iload_n hx hb dX11_heardOfAll_16 rfl (lv_at hl 2 rfl) ?_
      refine lv_iconst (v := 5) hx hb dX11_heardOfAll_17 (by decide) ?_
      obtain ⟨r2, e3, hf⟩ := z_bd hf
      refine z_cV (As := [.int l2, .int (5 : Int32)]) (rest := [.int l1]) B hW (f_X11_its l e3 h0) sc_X11_its sv_X11_58 h0 ⟨Nat.le_of_ble_eq_true rfl, Nat.le_of_ble_eq_true rfl⟩ ⟨Nat.zero_le _, Nat.zero_le _⟩ rfl hl.1 rfl (Nat.le_of_ble_eq_true rfl) dX11_heardOfAll_18 (fun H locs hW => ?_)
      refine lv_iadd hx hb dX11_heardOfAll_21 ?_
      refine lv_istore_n (lv' := [(1, .int (l1 + r2)), (0, .ref l0), (2, .int l2)]) hx hb dX11_heardOfAll_22 rfl hl (by decide) rfl (fun ls hl => ?_)
      refine lv_iinc (v := l2 + (1 : Int32)) (lv' := [(2, .int (l2 + (1 : Int32))), (1, .int (l1 + r2)), (0, .ref l0)]) hx hb dX11_heardOfAll_23 hl (k := 2) rfl rfl (by decide) rfl (fun ls hl => ?_)
      refine lv_goto (tgt := 4) hx hb dX11_heardOfAll_26 (by decide) ?_
      exact ih M l0 (l1 + r2) (l2 + (1 : Int32)) _ hf h0 _ _ _ hW (lv_sub hl [2, 1, 0] rfl)
set_option maxHeartbeats 4000000 in
set_option maxRecDepth 100000 in
theorem f_X11_heardOfAll (l : Launch) {Γ : Zg} {M : Zm} {l0 : Nat} {r : Int32} (hf : X11_heardOfAll Γ M l0 = some r) (h0 : z_Is Γ 11 l0) : z_Fn l Γ yX11_heardOfAll cX11_heardOfAll 3 (some .int) 1 22 [.ref l0] M (some (.int r)) M := by
  refine z_Fn.of (by decide) (Nat.le_of_ble_eq_true rfl) ?_
  intro p e s m below meth c ls B hW hl
  have B : z_Bd Γ p s m _ meth c cX11_heardOfAll 3 (some .int) RX11 := B
  have hl : lv_has ls 3 [(0, .ref l0)] := hl
  rw [X11_heardOfAll] at hf
  have hx := B.1
  have hb := B.2.1
  have hml := B.2.2.1
  have ho := B.2.2.2.1
  have hw := B.2.2.2.2.1
  have hE := B.2.2.2.2.2.1.2.2
  have hg := B.2.2.2.2.2.2.1
  refine lv_iconst (v := 0) hx hb dX11_heardOfAll_0 (by decide) ?_
  refine lv_istore_n (lv' := [(1, .int (0 : Int32)), (0, .ref l0)]) hx hb dX11_heardOfAll_1 rfl hl (by decide) rfl (fun ls hl => ?_)
  refine lv_iconst (v := 0) hx hb dX11_heardOfAll_2 (by decide) ?_
  refine lv_istore_n (lv' := [(2, .int (0 : Int32)), (1, .int (0 : Int32)), (0, .ref l0)]) hx hb dX11_heardOfAll_3 rfl hl (by decide) rfl (fun ls hl => ?_)
  exact w_X11_heardOfAll_P4 B 1000 M l0 (0 : Int32) (0 : Int32) _ hf h0 _ _ _ hW (lv_sub hl [2, 1, 0] rfl)
set_option maxHeartbeats 4000000 in
set_option maxRecDepth 100000 in
theorem w_X11_believed_P4 (B : z_Bd Γ p s m args meth c cX11_believed 3 (some .int) RX11) : ∀ (n : Nat) (M : Zm) (l0 : Nat) (l1 : Int32) (l2 : Int32) (r : Int32), X11_believed_P4 Γ n M l0 l1 l2 = some r → z_Is Γ 11 l0 → ∀ (H : Heap) (locs : List Loc) (ls : Array Slot), z_Wd Γ M s.heap H locs → lv_has ls 3 [(0, .ref l0), (1, .int l1), (2, .int l2)] → W p l e (z_rm 1 22) s m args below meth c H locs 0 0 (z_Q Γ below args s (some (.int r)) M) (F0 m 4 ls []) := by
  have hx := B.1
  have hb := B.2.1
  have hml := B.2.2.1
  have ho := B.2.2.2.1
  have hw := B.2.2.2.2.1
  have hE := B.2.2.2.2.2.1.2.2
  have hg := B.2.2.2.2.2.2.1
  intro n
  induction n with
  | zero =>
    intro M l0 l1 l2 r hf h0 H locs ls hW hl
    cases hf
  | succ n ih =>
    intro M l0 l1 l2 r hf h0 H locs ls hW hl
    rw [X11_believed_P4] at hf
    refine lv_iload_n hx hb dX11_believed_4 rfl (lv_at hl 2 rfl) ?_
    refine lv_aload_n hx hb dX11_believed_5 rfl (lv_at hl 0 rfl) ?_
    refine z_get_11_0 B hW h0 q855 dX11_believed_6 ?_
    refine lv_iconst (v := 0) hx hb dX11_believed_9 (by decide) ?_
    refine z_ia B hW (z_g11_0 hg h0) (z_ixd (by decide)) dX11_believed_10 ?_
    refine lv_icmp_ge (tgt := 32) hx hb dX11_believed_11 (by decide) (fun c1 => ?_) (fun c1 => ?_)
    · have hf := z_it c1 hf
      refine lv_iload_n hx hb dX11_believed_32 rfl (lv_at hl 1 rfl) ?_
      have hf := Option.some.inj hf
      subst hf
      exact z_ri B hW dX11_believed_33
    · have hf := z_if c1 hf
      refine lv_iload_n hx hb dX11_believed_14 rfl (lv_at hl 1 rfl) ?_
      refine lv_aload_n hx hb dX11_believed_15 rfl (lv_at hl 0 rfl) ?_
      refine lv_iload_n hx hb dX11_believed_16 rfl (lv_at hl 2 rfl) ?_
      refine lv_iconst (v := 2) hx hb dX11_believed_17 (by decide) ?_
      obtain ⟨r2, e3, hf⟩ := z_bd hf
      refine z_cV (As := [.int l2, .int (2 : Int32)]) (rest := [.int l1]) B hW (f_X11_its l e3 h0) sc_X11_its sv_X11_58 h0 ⟨Nat.le_of_ble_eq_true rfl, Nat.le_of_ble_eq_true rfl⟩ ⟨Nat.zero_le _, Nat.zero_le _⟩ rfl hl.1 rfl (Nat.le_of_ble_eq_true rfl) dX11_believed_18 (fun H locs hW => ?_)
      obtain ⟨r4, e5, hf⟩ := z_bd hf
      refine z_cS (As := [.int r2]) (rest := [.int l1]) B hW (f_X11_many l e5) sc_X11_many ⟨q972, q973⟩ ⟨Nat.le_of_ble_eq_true rfl, Nat.le_of_ble_eq_true rfl⟩ ⟨Nat.zero_le _, Nat.zero_le _⟩ rfl hl.1 rfl (Nat.le_of_ble_eq_true rfl) dX11_believed_21 (fun H locs hW => ?_)
      refine lv_iadd hx hb dX11_believed_24 ?_
      refine lv_istore_n (lv' := [(1, .int (l1 + r4)), (0, .ref l0), (2, .int l2)]) hx hb dX11_believed_25 rfl hl (by decide) rfl (fun ls hl => ?_)
      refine lv_iinc (v := l2 + (1 : Int32)) (lv' := [(2, .int (l2 + (1 : Int32))), (1, .int (l1 + r4)), (0, .ref l0)]) hx hb dX11_believed_26 hl (k := 2) rfl rfl (by decide) rfl (fun ls hl => ?_)
      refine lv_goto (tgt := 4) hx hb dX11_believed_29 (by decide) ?_
      exact ih M l0 (l1 + r4) (l2 + (1 : Int32)) _ hf h0 _ _ _ hW (lv_sub hl [2, 1, 0] rfl)
set_option maxHeartbeats 4000000 in
set_option maxRecDepth 100000 in
theorem f_X11_believed (l : Launch) {Γ : Zg} {M : Zm} {l0 : Nat} {r : Int32} (hf : X11_believed Γ M l0 = some r) (h0 : z_Is Γ 11 l0) : z_Fn l Γ yX11_believed cX11_believed 3 (some .int) 1 22 [.ref l0] M (some (.int r)) M := by
  refine z_Fn.of (by decide) (Nat.le_of_ble_eq_true rfl) ?_
  intro p e s m below meth c ls B hW hl
  have B : z_Bd Γ p s m _ meth c cX11_believed 3 (some .int) RX11 := B
  have hl : lv_has ls 3 [(0, .ref l0)] := hl
  rw [X11_believed] at hf
  have hx := B.1
  have hb := B.2.1
  have hml := B.2.2.1
  have ho := B.2.2.2.1
  have hw := B.2.2.2.2.1
  have hE := B.2.2.2.2.2.1.2.2
  have hg := B.2.2.2.2.2.2.1
  refine lv_iconst (v := 0) hx hb dX11_believed_0 (by decide) ?_
  refine lv_istore_n (lv' := [(1, .int (0 : Int32)), (0, .ref l0)]) hx hb dX11_believed_1 rfl hl (by decide) rfl (fun ls hl => ?_)
  refine lv_iconst (v := 0) hx hb dX11_believed_2 (by decide) ?_
  refine lv_istore_n (lv' := [(2, .int (0 : Int32)), (1, .int (0 : Int32)), (0, .ref l0)]) hx hb dX11_believed_3 rfl hl (by decide) rfl (fun ls hl => ?_)
  exact w_X11_believed_P4 B 1000 M l0 (0 : Int32) (0 : Int32) _ hf h0 _ _ _ hW (lv_sub hl [2, 1, 0] rfl)
set_option maxHeartbeats 4000000 in
set_option maxRecDepth 100000 in
theorem f_X11_hours (l : Launch) {Γ : Zg} {M : Zm} {l0 : Nat} {l1 : Int32} {r : Int32} {M' : Zm} (hf : X11_hours Γ M l0 l1 = some (r, M')) (h0 : z_Is Γ 11 l0) : z_Fn l Γ yX11_hours cX11_hours 2 (some .int) 5 117 [.ref l0, .int l1] M (some (.int r)) M' := by
  refine z_Fn.of (by decide) (Nat.le_of_ble_eq_true rfl) ?_
  intro p e s m below meth c ls B hW hl
  have B : z_Bd Γ p s m _ meth c cX11_hours 2 (some .int) RX11 := B
  have hl : lv_has ls 2 [(0, .ref l0), (1, .int l1)] := hl
  rw [X11_hours] at hf
  have hx := B.1
  have hb := B.2.1
  have hml := B.2.2.1
  have ho := B.2.2.2.1
  have hw := B.2.2.2.2.1
  have hE := B.2.2.2.2.2.1.2.2
  have hg := B.2.2.2.2.2.2.1
  refine lv_iload_n hx hb dX11_hours_0 rfl (lv_at hl 1 rfl) ?_
  refine lv_i2l hx hb dX11_hours_1 rfl ?_
  refine lv_lconst (v := 1) hx hb dX11_hours_2 (by decide) ?_
  refine lv_ldc2 hx hb ho (hw _ q1022) dX11_hours_3 ?_
  refine z_cS (As := [.long l1.toInt64, .long (1 : Int64), .long (100 : Int64)]) (rest := []) B hW (f_X11_isIn l) sc_X11_isIn ⟨q909, q910⟩ ⟨Nat.le_of_ble_eq_true rfl, Nat.le_of_ble_eq_true rfl⟩ ⟨Nat.zero_le _, Nat.zero_le _⟩ rfl hl.1 rfl (Nat.le_of_ble_eq_true rfl) dX11_hours_6 (fun H locs hW => ?_)
  refine lv_if_ne (tgt := 19) hx hb dX11_hours_9 (by decide) (fun c3 => ?_) (fun c3 => ?_)
  · have hf := z_if c3 hf
    refine lv_aload_n hx hb dX11_hours_19 rfl (lv_at hl 0 rfl) ?_
    refine z_get_11_0 B hW h0 q855 dX11_hours_20 ?_
    refine lv_iconst (v := 1) hx hb dX11_hours_23 (by decide) ?_
    refine z_ia B hW (z_g11_0 hg h0) (z_ixd (by decide)) dX11_hours_24 ?_
    refine lv_iload_n hx hb dX11_hours_25 rfl (lv_at hl 1 rfl) ?_
    refine lv_iadd hx hb dX11_hours_26 ?_
    refine lv_ldc hx hb ho (hw _ q1023) dX11_hours_27 ?_
    refine lv_icmp_le (tgt := 39) hx hb dX11_hours_29 (by decide) (fun c4 => ?_) (fun c4 => ?_)
    · have hf := z_it c4 hf
      refine lv_aload_n hx hb dX11_hours_39 rfl (lv_at hl 0 rfl) ?_
      refine lv_iload_n hx hb dX11_hours_40 rfl (lv_at hl 1 rfl) ?_
      obtain ⟨M6, e7, hf⟩ := z_bd hf
      refine z_cV (As := [.int l1]) (rest := []) B hW (f_X11_goes l e7 h0) sc_X11_goes sv_X11_137 h0 ⟨Nat.le_of_ble_eq_true rfl, Nat.le_of_ble_eq_true rfl⟩ ⟨Nat.zero_le _, Nat.zero_le _⟩ rfl hl.1 rfl (Nat.le_of_ble_eq_true rfl) dX11_hours_41 (fun H locs hW => ?_)
      refine lv_aload_n hx hb dX11_hours_44 rfl (lv_at hl 0 rfl) ?_
      obtain ⟨r8, e9, hf⟩ := z_bd hf
      refine z_cV (As := []) (rest := []) B hW (f_X11_heardOfAll l e9 h0) sc_X11_heardOfAll sv_X11_140 h0 ⟨Nat.le_of_ble_eq_true rfl, Nat.le_of_ble_eq_true rfl⟩ ⟨Nat.zero_le _, Nat.zero_le _⟩ rfl hl.1 rfl (Nat.le_of_ble_eq_true rfl) dX11_hours_45 (fun H locs hW => ?_)
      obtain ⟨e1, e2⟩ := z_s2 hf
      subst e1
      subst e2
      exact z_ri B hW dX11_hours_48
    · have hf := z_if c4 hf
      refine lv_aload_n hx hb dX11_hours_32 rfl (lv_at hl 0 rfl) ?_
      refine lv_ldc hx hb ho (hw _ q1009) dX11_hours_33 ?_
      obtain ⟨r10, M11, e12, hf⟩ := z_bpe hf
      refine z_cV (As := [.int (-1000000005 : Int32)]) (rest := []) B hW (f_X11_finds l e12 h0) sc_X11_finds sv_X11_40 h0 ⟨Nat.le_of_ble_eq_true rfl, Nat.le_of_ble_eq_true rfl⟩ ⟨Nat.zero_le _, Nat.zero_le _⟩ rfl hl.1 rfl (Nat.le_of_ble_eq_true rfl) dX11_hours_35 (fun H locs hW => ?_)
      obtain ⟨e1, e2⟩ := z_s2 hf
      subst e1
      subst e2
      exact z_ri B hW dX11_hours_38
  · have hf := z_it c3 hf
    refine lv_aload_n hx hb dX11_hours_12 rfl (lv_at hl 0 rfl) ?_
    refine lv_ldc hx hb ho (hw _ q916) dX11_hours_13 ?_
    obtain ⟨r13, M14, e15, hf⟩ := z_bpe hf
    refine z_cV (As := [.int (-1000000001 : Int32)]) (rest := []) B hW (f_X11_finds l e15 h0) sc_X11_finds sv_X11_40 h0 ⟨Nat.le_of_ble_eq_true rfl, Nat.le_of_ble_eq_true rfl⟩ ⟨Nat.zero_le _, Nat.zero_le _⟩ rfl hl.1 rfl (Nat.le_of_ble_eq_true rfl) dX11_hours_15 (fun H locs hW => ?_)
    obtain ⟨e1, e2⟩ := z_s2 hf
    subst e1
    subst e2
    exact z_ri B hW dX11_hours_18
set_option maxHeartbeats 4000000 in
set_option maxRecDepth 100000 in
theorem w_X11_outNow_P19 (B : z_Bd Γ p s m args meth c cX11_outNow 3 (some .int) RX11) : ∀ (n : Nat) (M : Zm) (l0 : Nat) (l1 : Int32) (l2 : Int32) (r : Int32), X11_outNow_P19 Γ n M l0 l1 l2 = some r → z_Is Γ 11 l0 → ∀ (H : Heap) (locs : List Loc) (ls : Array Slot), z_Wd Γ M s.heap H locs → lv_has ls 3 [(0, .ref l0), (1, .int l1), (2, .int l2)] → W p l e (z_rm 1 22) s m args below meth c H locs 0 0 (z_Q Γ below args s (some (.int r)) M) (F0 m 19 ls []) := by
  have hx := B.1
  have hb := B.2.1
  have hml := B.2.2.1
  have ho := B.2.2.2.1
  have hw := B.2.2.2.2.1
  have hE := B.2.2.2.2.2.1.2.2
  have hg := B.2.2.2.2.2.2.1
  intro n
  induction n with
  | zero =>
    intro M l0 l1 l2 r hf h0 H locs ls hW hl
    cases hf
  | succ n ih =>
    intro M l0 l1 l2 r hf h0 H locs ls hW hl
    rw [X11_outNow_P19] at hf
    refine lv_iload_n hx hb dX11_outNow_19 rfl (lv_at hl 2 rfl) ?_
    refine lv_aload_n hx hb dX11_outNow_20 rfl (lv_at hl 0 rfl) ?_
    refine z_get_11_0 B hW h0 q855 dX11_outNow_21 ?_
    refine lv_iconst (v := 0) hx hb dX11_outNow_24 (by decide) ?_
    refine z_ia B hW (z_g11_0 hg h0) (z_ixd (by decide)) dX11_outNow_25 ?_
    refine lv_icmp_ge (tgt := 44) hx hb dX11_outNow_26 (by decide) (fun c2 => ?_) (fun c2 => ?_)
    · have hf := z_it c2 hf
      refine lv_iload_n hx hb dX11_outNow_44 rfl (lv_at hl 1 rfl) ?_
      have hf := Option.some.inj hf
      subst hf
      exact z_ri B hW dX11_outNow_45
    · have hf := z_if c2 hf
      refine lv_iload_n hx hb dX11_outNow_29 rfl (lv_at hl 1 rfl) ?_
      refine lv_aload_n hx hb dX11_outNow_30 rfl (lv_at hl 0 rfl) ?_
      refine lv_iload_n hx hb dX11_outNow_31 rfl (lv_at hl 2 rfl) ?_
      refine lv_iconst (v := 1) hx hb dX11_outNow_32 (by decide) ?_
      obtain ⟨r3, e4, hf⟩ := z_bd hf
      refine z_cV (As := [.int l2, .int (1 : Int32)]) (rest := [.int l1]) B hW (f_X11_its l e4 h0) sc_X11_its sv_X11_58 h0 ⟨Nat.le_of_ble_eq_true rfl, Nat.le_of_ble_eq_true rfl⟩ ⟨Nat.zero_le _, Nat.zero_le _⟩ rfl hl.1 rfl (Nat.le_of_ble_eq_true rfl) dX11_outNow_33 (fun H locs hW => ?_)
      refine lv_iand hx hb dX11_outNow_36 ?_
      refine lv_istore_n (lv' := [(1, .int (l1 &&& r3)), (0, .ref l0), (2, .int l2)]) hx hb dX11_outNow_37 rfl hl (by decide) rfl (fun ls hl => ?_)
      refine lv_iinc (v := l2 + (1 : Int32)) (lv' := [(2, .int (l2 + (1 : Int32))), (1, .int (l1 &&& r3)), (0, .ref l0)]) hx hb dX11_outNow_38 hl (k := 2) rfl rfl (by decide) rfl (fun ls hl => ?_)
      refine lv_goto (tgt := 19) hx hb dX11_outNow_41 (by decide) ?_
      exact ih M l0 (l1 &&& r3) (l2 + (1 : Int32)) _ hf h0 _ _ _ hW (lv_sub hl [2, 1, 0] rfl)
set_option maxHeartbeats 4000000 in
set_option maxRecDepth 100000 in
theorem f_X11_outNow (l : Launch) {Γ : Zg} {M : Zm} {l0 : Nat} {r : Int32} (hf : X11_outNow Γ M l0 = some r) (h0 : z_Is Γ 11 l0) : z_Fn l Γ yX11_outNow cX11_outNow 3 (some .int) 1 22 [.ref l0] M (some (.int r)) M := by
  refine z_Fn.of (by decide) (Nat.le_of_ble_eq_true rfl) ?_
  intro p e s m below meth c ls B hW hl
  have B : z_Bd Γ p s m _ meth c cX11_outNow 3 (some .int) RX11 := B
  have hl : lv_has ls 3 [(0, .ref l0)] := hl
  rw [X11_outNow] at hf
  have hx := B.1
  have hb := B.2.1
  have hml := B.2.2.1
  have ho := B.2.2.2.1
  have hw := B.2.2.2.2.1
  have hE := B.2.2.2.2.2.1.2.2
  have hg := B.2.2.2.2.2.2.1
  refine lv_aload_n hx hb dX11_outNow_0 rfl (lv_at hl 0 rfl) ?_
  refine z_get_11_0 B hW h0 q855 dX11_outNow_1 ?_
  refine lv_iconst (v := 0) hx hb dX11_outNow_4 (by decide) ?_
  refine z_ia B hW (z_g11_0 hg h0) (z_ixd (by decide)) dX11_outNow_5 ?_
  refine lv_if_ne (tgt := 13) hx hb dX11_outNow_6 (by decide) (fun c1 => ?_) (fun c1 => ?_)
  · have hf := z_if c1 hf
    refine lv_sipush (v := 1023) hx hb dX11_outNow_13 (by decide) ?_
    refine lv_istore_n (lv' := [(1, .int (1023 : Int32)), (0, .ref l0)]) hx hb dX11_outNow_16 rfl hl (by decide) rfl (fun ls hl => ?_)
    refine lv_iconst (v := 0) hx hb dX11_outNow_17 (by decide) ?_
    refine lv_istore_n (lv' := [(2, .int (0 : Int32)), (1, .int (1023 : Int32)), (0, .ref l0)]) hx hb dX11_outNow_18 rfl hl (by decide) rfl (fun ls hl => ?_)
    exact w_X11_outNow_P19 B 1000 M l0 (1023 : Int32) (0 : Int32) _ hf h0 _ _ _ hW (lv_sub hl [2, 1, 0] rfl)
  · have hf := z_it c1 hf
    refine lv_iconst (v := 0) hx hb dX11_outNow_9 (by decide) ?_
    refine lv_goto (tgt := 16) hx hb dX11_outNow_10 (by decide) ?_
    refine lv_istore_n (lv' := [(1, .int (0 : Int32)), (0, .ref l0)]) hx hb dX11_outNow_16 rfl hl (by decide) rfl (fun ls hl => ?_)
    refine lv_iconst (v := 0) hx hb dX11_outNow_17 (by decide) ?_
    refine lv_istore_n (lv' := [(2, .int (0 : Int32)), (1, .int (0 : Int32)), (0, .ref l0)]) hx hb dX11_outNow_18 rfl hl (by decide) rfl (fun ls hl => ?_)
    exact w_X11_outNow_P19 B 1000 M l0 (0 : Int32) (0 : Int32) _ hf h0 _ _ _ hW (lv_sub hl [2, 1, 0] rfl)
set_option maxHeartbeats 4000000 in
set_option maxRecDepth 100000 in
theorem f_X11_now (l : Launch) {Γ : Zg} {M : Zm} {l0 : Nat} {l1 : Int32} {r : Int32} {M' : Zm} (hf : X11_now Γ M l0 l1 = some (r, M')) (h0 : z_Is Γ 11 l0) : z_Fn l Γ yX11_now cX11_now 2 (some .int) 2 45 [.ref l0, .int l1] M (some (.int r)) M' := by
  refine z_Fn.of (by decide) (Nat.le_of_ble_eq_true rfl) ?_
  intro p e s m below meth c ls B hW hl
  have B : z_Bd Γ p s m _ meth c cX11_now 2 (some .int) RX11 := B
  have hl : lv_has ls 2 [(0, .ref l0), (1, .int l1)] := hl
  rw [X11_now] at hf
  have hx := B.1
  have hb := B.2.1
  have hml := B.2.2.1
  have ho := B.2.2.2.1
  have hw := B.2.2.2.2.1
  have hE := B.2.2.2.2.2.1.2.2
  have hg := B.2.2.2.2.2.2.1
  refine lv_iload_n hx hb dX11_now_0 rfl (lv_at hl 1 rfl) ?_
  by_cases c1 : l1 = (0 : Int32)
  · have hf := z_it c1 hf
    refine lv_tableIn (off := 47) (tgt := 48) hx hb dX11_now_1 (by rw [c1]; decide) (by rw [c1]; decide) (by rw [c1]; decide) (by decide) ?_
    refine lv_aload_n hx hb dX11_now_48 rfl (lv_at hl 0 rfl) ?_
    refine z_get_11_0 B hW h0 q855 dX11_now_49 ?_
    refine lv_iconst (v := 1) hx hb dX11_now_52 (by decide) ?_
    refine z_ia B hW (z_g11_0 hg h0) (z_ixd (by decide)) dX11_now_53 ?_
    obtain ⟨e1, e2⟩ := z_s2 hf
    subst e1
    subst e2
    exact z_ri B hW dX11_now_54
  · have hf := z_if c1 hf
    by_cases c2 : l1 = (1 : Int32)
    · have hf := z_it c2 hf
      refine lv_tableIn (off := 54) (tgt := 55) hx hb dX11_now_1 (by rw [c2]; decide) (by rw [c2]; decide) (by rw [c2]; decide) (by decide) ?_
      refine lv_aload_n hx hb dX11_now_55 rfl (lv_at hl 0 rfl) ?_
      refine z_get_11_0 B hW h0 q855 dX11_now_56 ?_
      refine lv_iconst (v := 1) hx hb dX11_now_59 (by decide) ?_
      refine z_ia B hW (z_g11_0 hg h0) (z_ixd (by decide)) dX11_now_60 ?_
      refine lv_bipush (v := 24) hx hb dX11_now_61 (by decide) ?_
      refine lv_irem hx hb dX11_now_63 (by decide) ?_
      obtain ⟨e1, e2⟩ := z_s2 hf
      subst e1
      subst e2
      exact z_ri B hW dX11_now_64
    · have hf := z_if c2 hf
      by_cases c3 : l1 = (2 : Int32)
      · have hf := z_it c3 hf
        refine lv_tableIn (off := 64) (tgt := 65) hx hb dX11_now_1 (by rw [c3]; decide) (by rw [c3]; decide) (by rw [c3]; decide) (by decide) ?_
        refine lv_aload_n hx hb dX11_now_65 rfl (lv_at hl 0 rfl) ?_
        refine z_cV (As := []) (rest := []) B hW (f_X11_isMonday l h0) sc_X11_isMonday sv_X11_117 h0 ⟨Nat.le_of_ble_eq_true rfl, Nat.le_of_ble_eq_true rfl⟩ ⟨Nat.zero_le _, Nat.zero_le _⟩ rfl hl.1 rfl (Nat.le_of_ble_eq_true rfl) dX11_now_66 (fun H locs hW => ?_)
        refine lv_if_eq (tgt := 76) hx hb dX11_now_69 (by decide) (fun c6 => ?_) (fun c6 => ?_)
        · have hf := z_it c6 hf
          refine lv_iconst (v := 0) hx hb dX11_now_76 (by decide) ?_
          obtain ⟨e1, e2⟩ := z_s2 hf
          subst e1
          subst e2
          exact z_ri B hW dX11_now_77
        · have hf := z_if c6 hf
          refine lv_iconst (v := 1) hx hb dX11_now_72 (by decide) ?_
          refine lv_goto (tgt := 77) hx hb dX11_now_73 (by decide) ?_
          obtain ⟨e1, e2⟩ := z_s2 hf
          subst e1
          subst e2
          exact z_ri B hW dX11_now_77
      · have hf := z_if c3 hf
        by_cases c7 : l1 = (3 : Int32)
        · have hf := z_it c7 hf
          refine lv_tableIn (off := 77) (tgt := 78) hx hb dX11_now_1 (by rw [c7]; decide) (by rw [c7]; decide) (by rw [c7]; decide) (by decide) ?_
          refine lv_aload_n hx hb dX11_now_78 rfl (lv_at hl 0 rfl) ?_
          refine lv_iconst (v := 0) hx hb dX11_now_79 (by decide) ?_
          obtain ⟨r8, e9, hf⟩ := z_bd hf
          refine z_cV (As := [.int (0 : Int32)]) (rest := []) B hW (f_X11_sitter l e9 h0) sc_X11_sitter sv_X11_110 h0 ⟨Nat.le_of_ble_eq_true rfl, Nat.le_of_ble_eq_true rfl⟩ ⟨Nat.zero_le _, Nat.zero_le _⟩ rfl hl.1 rfl (Nat.le_of_ble_eq_true rfl) dX11_now_80 (fun H locs hW => ?_)
          obtain ⟨e1, e2⟩ := z_s2 hf
          subst e1
          subst e2
          exact z_ri B hW dX11_now_83
        · have hf := z_if c7 hf
          by_cases c10 : l1 = (4 : Int32)
          · have hf := z_it c10 hf
            refine lv_tableIn (off := 83) (tgt := 84) hx hb dX11_now_1 (by rw [c10]; decide) (by rw [c10]; decide) (by rw [c10]; decide) (by decide) ?_
            refine lv_aload_n hx hb dX11_now_84 rfl (lv_at hl 0 rfl) ?_
            refine lv_iconst (v := 1) hx hb dX11_now_85 (by decide) ?_
            obtain ⟨r11, e12, hf⟩ := z_bd hf
            refine z_cV (As := [.int (1 : Int32)]) (rest := []) B hW (f_X11_sitter l e12 h0) sc_X11_sitter sv_X11_110 h0 ⟨Nat.le_of_ble_eq_true rfl, Nat.le_of_ble_eq_true rfl⟩ ⟨Nat.zero_le _, Nat.zero_le _⟩ rfl hl.1 rfl (Nat.le_of_ble_eq_true rfl) dX11_now_86 (fun H locs hW => ?_)
            obtain ⟨e1, e2⟩ := z_s2 hf
            subst e1
            subst e2
            exact z_ri B hW dX11_now_89
          · have hf := z_if c10 hf
            by_cases c13 : l1 = (5 : Int32)
            · have hf := z_it c13 hf
              refine lv_tableIn (off := 89) (tgt := 90) hx hb dX11_now_1 (by rw [c13]; decide) (by rw [c13]; decide) (by rw [c13]; decide) (by decide) ?_
              refine lv_aload_n hx hb dX11_now_90 rfl (lv_at hl 0 rfl) ?_
              obtain ⟨r14, e15, hf⟩ := z_bd hf
              refine z_cV (As := []) (rest := []) B hW (f_X11_outNow l e15 h0) sc_X11_outNow sv_X11_144 h0 ⟨Nat.le_of_ble_eq_true rfl, Nat.le_of_ble_eq_true rfl⟩ ⟨Nat.zero_le _, Nat.zero_le _⟩ rfl hl.1 rfl (Nat.le_of_ble_eq_true rfl) dX11_now_91 (fun H locs hW => ?_)
              obtain ⟨e1, e2⟩ := z_s2 hf
              subst e1
              subst e2
              exact z_ri B hW dX11_now_94
            · have hf := z_if c13 hf
              by_cases c16 : l1 = (6 : Int32)
              · have hf := z_it c16 hf
                refine lv_tableIn (off := 94) (tgt := 95) hx hb dX11_now_1 (by rw [c16]; decide) (by rw [c16]; decide) (by rw [c16]; decide) (by decide) ?_
                refine lv_aload_n hx hb dX11_now_95 rfl (lv_at hl 0 rfl) ?_
                refine z_get_11_0 B hW h0 q855 dX11_now_96 ?_
                refine lv_iconst (v := 2) hx hb dX11_now_99 (by decide) ?_
                refine z_ia B hW (z_g11_0 hg h0) (z_ixd (by decide)) dX11_now_100 ?_
                obtain ⟨e1, e2⟩ := z_s2 hf
                subst e1
                subst e2
                exact z_ri B hW dX11_now_101
              · have hf := z_if c16 hf
                by_cases c17 : l1 = (7 : Int32)
                · have hf := z_it c17 hf
                  refine lv_tableIn (off := 101) (tgt := 102) hx hb dX11_now_1 (by rw [c17]; decide) (by rw [c17]; decide) (by rw [c17]; decide) (by decide) ?_
                  refine lv_aload_n hx hb dX11_now_102 rfl (lv_at hl 0 rfl) ?_
                  refine z_get_11_0 B hW h0 q855 dX11_now_103 ?_
                  refine lv_iconst (v := 3) hx hb dX11_now_106 (by decide) ?_
                  refine z_ia B hW (z_g11_0 hg h0) (z_ixd (by decide)) dX11_now_107 ?_
                  obtain ⟨e1, e2⟩ := z_s2 hf
                  subst e1
                  subst e2
                  exact z_ri B hW dX11_now_108
                · have hf := z_if c17 hf
                  have hsw : l1.toInt < 0 ∨ 7 < l1.toInt := by
                    have ec1 := z_nei 0 (by decide) c1
                    have ec2 := z_nei 1 (by decide) c2
                    have ec3 := z_nei 2 (by decide) c3
                    have ec7 := z_nei 3 (by decide) c7
                    have ec10 := z_nei 4 (by decide) c10
                    have ec13 := z_nei 5 (by decide) c13
                    have ec16 := z_nei 6 (by decide) c16
                    have ec17 := z_nei 7 (by decide) c17
                    omega
                  refine lv_tableOut (tgt := 109) hx hb dX11_now_1 hsw (by decide) ?_
                  refine lv_aload_n hx hb dX11_now_109 rfl (lv_at hl 0 rfl) ?_
                  refine lv_ldc hx hb ho (hw _ q916) dX11_now_110 ?_
                  obtain ⟨r18, M19, e20, hf⟩ := z_bpe hf
                  refine z_cV (As := [.int (-1000000001 : Int32)]) (rest := []) B hW (f_X11_finds l e20 h0) sc_X11_finds sv_X11_40 h0 ⟨Nat.le_of_ble_eq_true rfl, Nat.le_of_ble_eq_true rfl⟩ ⟨Nat.zero_le _, Nat.zero_le _⟩ rfl hl.1 rfl (Nat.le_of_ble_eq_true rfl) dX11_now_112 (fun H locs hW => ?_)
                  obtain ⟨e1, e2⟩ := z_s2 hf
                  subst e1
                  subst e2
                  exact z_ri B hW dX11_now_115
set_option maxHeartbeats 4000000 in
set_option maxRecDepth 100000 in
theorem f_X11_on (l : Launch) {Γ : Zg} {M : Zm} {l0 : Nat} {l1 : Int32} {l2 : Int32} {l3 : Int32} {r : Int32} {M' : Zm} (hf : X11_on Γ M l0 l1 l2 l3 = some (r, M')) (h0 : z_Is Γ 11 l0) : z_Fn l Γ yX11_on cX11_on 5 (some .int) 5 117 [.ref l0, .int l1, .int l2, .int l3] M (some (.int r)) M' := by
  refine z_Fn.of (by decide) (Nat.le_of_ble_eq_true rfl) ?_
  intro p e s m below meth c ls B hW hl
  have B : z_Bd Γ p s m _ meth c cX11_on 5 (some .int) RX11 := B
  have hl : lv_has ls 5 [(0, .ref l0), (1, .int l1), (2, .int l2), (3, .int l3)] := hl
  rw [X11_on] at hf
  have hx := B.1
  have hb := B.2.1
  have hml := B.2.2.1
  have ho := B.2.2.2.1
  have hw := B.2.2.2.2.1
  have hE := B.2.2.2.2.2.1.2.2
  have hg := B.2.2.2.2.2.2.1
  refine lv_aload_n hx hb dX11_on_0 rfl (lv_at hl 0 rfl) ?_
  refine lv_iload_n hx hb dX11_on_1 rfl (lv_at hl 1 rfl) ?_
  refine z_cV (As := [.int l1]) (rest := []) B hW (f_X11_isOne l h0) sc_X11_isOne sv_X11_83 h0 ⟨Nat.le_of_ble_eq_true rfl, Nat.le_of_ble_eq_true rfl⟩ ⟨Nat.zero_le _, Nat.zero_le _⟩ rfl hl.1 rfl (Nat.le_of_ble_eq_true rfl) dX11_on_2 (fun H locs hW => ?_)
  refine lv_if_eq (tgt := 32) hx hb dX11_on_5 (by decide) (fun c3 => ?_) (fun c3 => ?_)
  · have hf := z_it c3 hf
    refine lv_aload_n hx hb dX11_on_32 rfl (lv_at hl 0 rfl) ?_
    refine lv_ldc hx hb ho (hw _ q916) dX11_on_33 ?_
    obtain ⟨r4, M5, e6, hf⟩ := z_bpe hf
    refine z_cV (As := [.int (-1000000001 : Int32)]) (rest := []) B hW (f_X11_finds l e6 h0) sc_X11_finds sv_X11_40 h0 ⟨Nat.le_of_ble_eq_true rfl, Nat.le_of_ble_eq_true rfl⟩ ⟨Nat.zero_le _, Nat.zero_le _⟩ rfl hl.1 rfl (Nat.le_of_ble_eq_true rfl) dX11_on_35 (fun H locs hW => ?_)
    obtain ⟨e1, e2⟩ := z_s2 hf
    subst e1
    subst e2
    exact z_ri B hW dX11_on_38
  · have hf := z_if c3 hf
    refine lv_iload_n hx hb dX11_on_8 rfl (lv_at hl 2 rfl) ?_
    refine lv_i2l hx hb dX11_on_9 rfl ?_
    refine lv_lconst (v := 0) hx hb dX11_on_10 (by decide) ?_
    refine lv_ldc2 hx hb ho (hw _ q1064) dX11_on_11 ?_
    refine z_cS (As := [.long l2.toInt64, .long (0 : Int64), .long (200 : Int64)]) (rest := []) B hW (f_X11_isIn l) sc_X11_isIn ⟨q909, q910⟩ ⟨Nat.le_of_ble_eq_true rfl, Nat.le_of_ble_eq_true rfl⟩ ⟨Nat.zero_le _, Nat.zero_le _⟩ rfl hl.1 rfl (Nat.le_of_ble_eq_true rfl) dX11_on_14 (fun H locs hW => ?_)
    refine lv_if_eq (tgt := 32) hx hb dX11_on_17 (by decide) (fun c9 => ?_) (fun c9 => ?_)
    · have hf := z_it c9 hf
      refine lv_aload_n hx hb dX11_on_32 rfl (lv_at hl 0 rfl) ?_
      refine lv_ldc hx hb ho (hw _ q916) dX11_on_33 ?_
      obtain ⟨r10, M11, e12, hf⟩ := z_bpe hf
      refine z_cV (As := [.int (-1000000001 : Int32)]) (rest := []) B hW (f_X11_finds l e12 h0) sc_X11_finds sv_X11_40 h0 ⟨Nat.le_of_ble_eq_true rfl, Nat.le_of_ble_eq_true rfl⟩ ⟨Nat.zero_le _, Nat.zero_le _⟩ rfl hl.1 rfl (Nat.le_of_ble_eq_true rfl) dX11_on_35 (fun H locs hW => ?_)
      obtain ⟨e1, e2⟩ := z_s2 hf
      subst e1
      subst e2
      exact z_ri B hW dX11_on_38
    · have hf := z_if c9 hf
      refine lv_iload_n hx hb dX11_on_20 rfl (lv_at hl 3 rfl) ?_
      refine lv_i2l hx hb dX11_on_21 rfl ?_
      refine lv_lconst (v := 0) hx hb dX11_on_22 (by decide) ?_
      refine lv_ldc2 hx hb ho (hw _ q1065) dX11_on_23 ?_
      refine z_cS (As := [.long l3.toInt64, .long (0 : Int64), .long (2 : Int64)]) (rest := []) B hW (f_X11_isIn l) sc_X11_isIn ⟨q909, q910⟩ ⟨Nat.le_of_ble_eq_true rfl, Nat.le_of_ble_eq_true rfl⟩ ⟨Nat.zero_le _, Nat.zero_le _⟩ rfl hl.1 rfl (Nat.le_of_ble_eq_true rfl) dX11_on_26 (fun H locs hW => ?_)
      refine lv_if_ne (tgt := 39) hx hb dX11_on_29 (by decide) (fun c15 => ?_) (fun c15 => ?_)
      · have hf := z_if c15 hf
        refine lv_aload_n hx hb dX11_on_39 rfl (lv_at hl 0 rfl) ?_
        refine z_get_11_0 B hW h0 q855 dX11_on_40 ?_
        refine lv_aload_n hx hb dX11_on_43 rfl (lv_at hl 0 rfl) ?_
        refine z_get_11_3 B hW h0 q858 dX11_on_44 ?_
        obtain ⟨M17, e18, hf⟩ := z_bd hf
        refine z_cS (As := [.ref (z_r Γ l0 0), .ref (z_r Γ l0 3)]) (rest := []) B hW (f_X11_copyRow l e18 (z_g11_0 hg h0) (z_g11_3 hg h0)) sc_X11_copyRow ⟨q1066, q1067⟩ ⟨Nat.le_of_ble_eq_true rfl, Nat.le_of_ble_eq_true rfl⟩ ⟨Nat.zero_le _, Nat.zero_le _⟩ rfl hl.1 rfl (Nat.le_of_ble_eq_true rfl) dX11_on_47 (fun H locs hW => ?_)
        refine lv_aload_n hx hb dX11_on_50 rfl (lv_at hl 0 rfl) ?_
        refine lv_iload_n hx hb dX11_on_51 rfl (lv_at hl 2 rfl) ?_
        obtain ⟨M20, e21, hf⟩ := z_bd hf
        refine z_cV (As := [.int l2]) (rest := []) B hW (f_X11_goes l e21 h0) sc_X11_goes sv_X11_137 h0 ⟨Nat.le_of_ble_eq_true rfl, Nat.le_of_ble_eq_true rfl⟩ ⟨Nat.zero_le _, Nat.zero_le _⟩ rfl hl.1 rfl (Nat.le_of_ble_eq_true rfl) dX11_on_52 (fun H locs hW => ?_)
        refine lv_aload_n hx hb dX11_on_55 rfl (lv_at hl 0 rfl) ?_
        refine lv_iload_n hx hb dX11_on_56 rfl (lv_at hl 1 rfl) ?_
        refine lv_iconst (v := 1) hx hb dX11_on_57 (by decide) ?_
        refine lv_iload_n hx hb dX11_on_58 rfl (lv_at hl 3 rfl) ?_
        refine lv_iadd hx hb dX11_on_59 ?_
        obtain ⟨r22, e23, hf⟩ := z_bd hf
        refine z_cV (As := [.int l1, .int ((1 : Int32) + l3)]) (rest := []) B hW (f_X11_its l e23 h0) sc_X11_its sv_X11_58 h0 ⟨Nat.le_of_ble_eq_true rfl, Nat.le_of_ble_eq_true rfl⟩ ⟨Nat.zero_le _, Nat.zero_le _⟩ rfl hl.1 rfl (Nat.le_of_ble_eq_true rfl) dX11_on_60 (fun H locs hW => ?_)
        refine lv_istore (lv' := [(4, .int r22), (0, .ref l0), (1, .int l1), (2, .int l2), (3, .int l3)]) hx hb dX11_on_63 hl (by decide) rfl (fun ls hl => ?_)
        refine lv_aload_n hx hb dX11_on_65 rfl (lv_at hl 1 rfl) ?_
        refine z_get_11_3 B hW h0 q858 dX11_on_66 ?_
        refine lv_aload_n hx hb dX11_on_69 rfl (lv_at hl 1 rfl) ?_
        refine z_get_11_0 B hW h0 q855 dX11_on_70 ?_
        obtain ⟨M25, e26, hf⟩ := z_bd hf
        refine z_cS (As := [.ref (z_r Γ l0 3), .ref (z_r Γ l0 0)]) (rest := []) B hW (f_X11_copyRow l e26 (z_g11_3 hg h0) (z_g11_0 hg h0)) sc_X11_copyRow ⟨q1066, q1067⟩ ⟨Nat.le_of_ble_eq_true rfl, Nat.le_of_ble_eq_true rfl⟩ ⟨Nat.zero_le _, Nat.zero_le _⟩ rfl hl.1 rfl (Nat.le_of_ble_eq_true rfl) dX11_on_73 (fun H locs hW => ?_)
        refine lv_iload hx hb dX11_on_76 (lv_at hl 0 rfl) ?_
        obtain ⟨e1, e2⟩ := z_s2 hf
        subst e1
        subst e2
        exact z_ri B hW dX11_on_78
      · have hf := z_it c15 hf
        refine lv_aload_n hx hb dX11_on_32 rfl (lv_at hl 0 rfl) ?_
        refine lv_ldc hx hb ho (hw _ q916) dX11_on_33 ?_
        obtain ⟨r27, M28, e29, hf⟩ := z_bpe hf
        refine z_cV (As := [.int (-1000000001 : Int32)]) (rest := []) B hW (f_X11_finds l e29 h0) sc_X11_finds sv_X11_40 h0 ⟨Nat.le_of_ble_eq_true rfl, Nat.le_of_ble_eq_true rfl⟩ ⟨Nat.zero_le _, Nat.zero_le _⟩ rfl hl.1 rfl (Nat.le_of_ble_eq_true rfl) dX11_on_35 (fun H locs hW => ?_)
        obtain ⟨e1, e2⟩ := z_s2 hf
        subst e1
        subst e2
        exact z_ri B hW dX11_on_38
set_option maxHeartbeats 4000000 in
set_option maxRecDepth 100000 in
theorem w_X11_knows_P65 (B : z_Bd Γ p s m args meth c cX11_knows 4 (some .int) RX11) : ∀ (M : Zm) (l0 : Nat) (l3 : Int32) (r : Int32) (M' : Zm), X11_knows_P65 Γ M l0 l3 = some (r, M') → z_Is Γ 11 l0 → ∀ (H : Heap) (locs : List Loc) (ls : Array Slot), z_Wd Γ M s.heap H locs → lv_has ls 4 [(0, .ref l0), (3, .int l3)] → W p l e (z_rm 4 95) s m args below meth c H locs 0 0 (z_Q Γ below args s (some (.int r)) M') (F0 m 65 ls []) := by
  have hx := B.1
  have hb := B.2.1
  have hml := B.2.2.1
  have ho := B.2.2.2.1
  have hw := B.2.2.2.2.1
  have hE := B.2.2.2.2.2.1.2.2
  have hg := B.2.2.2.2.2.2.1
  intro M l0 l3 r M' hf h0 H locs ls hW hl
  rw [X11_knows_P65] at hf
  refine lv_aload_n hx hb dX11_knows_65 rfl (lv_at hl 0 rfl) ?_
  refine z_get_11_3 B hW h0 q858 dX11_knows_66 ?_
  refine lv_aload_n hx hb dX11_knows_69 rfl (lv_at hl 0 rfl) ?_
  refine z_get_11_0 B hW h0 q855 dX11_knows_70 ?_
  obtain ⟨M24, e25, hf⟩ := z_bd hf
  refine z_cS (As := [.ref (z_r Γ l0 3), .ref (z_r Γ l0 0)]) (rest := []) B hW (f_X11_copyRow l e25 (z_g11_3 hg h0) (z_g11_0 hg h0)) sc_X11_copyRow ⟨q1066, q1067⟩ ⟨Nat.le_of_ble_eq_true rfl, Nat.le_of_ble_eq_true rfl⟩ ⟨Nat.zero_le _, Nat.zero_le _⟩ rfl hl.1 rfl (Nat.le_of_ble_eq_true rfl) dX11_knows_73 (fun H locs hW => ?_)
  refine lv_iload_n hx hb dX11_knows_76 rfl (lv_at hl 1 rfl) ?_
  refine lv_sipush (v := 200) hx hb dX11_knows_77 (by decide) ?_
  refine lv_icmp_gt (tgt := 87) hx hb dX11_knows_80 (by decide) (fun c26 => ?_) (fun c26 => ?_)
  · have hf := z_it c26 hf
    refine lv_aload_n hx hb dX11_knows_87 rfl (lv_at hl 0 rfl) ?_
    refine lv_ldc hx hb ho (hw _ q1073) dX11_knows_88 ?_
    obtain ⟨r27, M28, e29, hf⟩ := z_bpe hf
    refine z_cV (As := [.int (-1000000004 : Int32)]) (rest := []) B hW (f_X11_finds l e29 h0) sc_X11_finds sv_X11_40 h0 ⟨Nat.le_of_ble_eq_true rfl, Nat.le_of_ble_eq_true rfl⟩ ⟨Nat.zero_le _, Nat.zero_le _⟩ rfl hl.1 rfl (Nat.le_of_ble_eq_true rfl) dX11_knows_90 (fun H locs hW => ?_)
    obtain ⟨e1, e2⟩ := z_s2 hf
    subst e1
    subst e2
    exact z_ri B hW dX11_knows_93
  · have hf := z_if c26 hf
    refine lv_iload_n hx hb dX11_knows_83 rfl (lv_at hl 1 rfl) ?_
    refine lv_goto (tgt := 93) hx hb dX11_knows_84 (by decide) ?_
    obtain ⟨e1, e2⟩ := z_s2 hf
    subst e1
    subst e2
    exact z_ri B hW dX11_knows_93
set_option maxHeartbeats 4000000 in
set_option maxRecDepth 100000 in
theorem w_X11_knows_P35 (B : z_Bd Γ p s m args meth c cX11_knows 4 (some .int) RX11) : ∀ (n : Nat) (M : Zm) (l0 : Nat) (l1 : Int32) (l2 : Int32) (l3 : Int32) (r : Int32) (M' : Zm), X11_knows_P35 Γ n M l0 l1 l2 l3 = some (r, M') → z_Is Γ 11 l0 → ∀ (H : Heap) (locs : List Loc) (ls : Array Slot), z_Wd Γ M s.heap H locs → lv_has ls 4 [(0, .ref l0), (1, .int l1), (2, .int l2), (3, .int l3)] → W p l e (z_rm 4 95) s m args below meth c H locs 0 0 (z_Q Γ below args s (some (.int r)) M') (F0 m 35 ls []) := by
  have hx := B.1
  have hb := B.2.1
  have hml := B.2.2.1
  have ho := B.2.2.2.1
  have hw := B.2.2.2.2.1
  have hE := B.2.2.2.2.2.1.2.2
  have hg := B.2.2.2.2.2.2.1
  intro n
  induction n with
  | zero =>
    intro M l0 l1 l2 l3 r M' hf h0 H locs ls hW hl
    cases hf
  | succ n ih =>
    intro M l0 l1 l2 l3 r M' hf h0 H locs ls hW hl
    rw [X11_knows_P35] at hf
    refine lv_iload_n hx hb dX11_knows_35 rfl (lv_at hl 3 rfl) ?_
    refine lv_sipush (v := 200) hx hb dX11_knows_36 (by decide) ?_
    refine lv_icmp_gt (tgt := 65) hx hb dX11_knows_39 (by decide) (fun c16 => ?_) (fun c16 => ?_)
    · have hf := z_it c16 hf
      exact w_X11_knows_P65 B M l0 l3 _ _ hf h0 _ _ _ hW (lv_sub hl [0, 3] rfl)
    · have hf := z_if c16 hf
      refine lv_aload_n hx hb dX11_knows_42 rfl (lv_at hl 0 rfl) ?_
      refine lv_iload_n hx hb dX11_knows_43 rfl (lv_at hl 1 rfl) ?_
      refine lv_iconst (v := 1) hx hb dX11_knows_44 (by decide) ?_
      obtain ⟨r17, e18, hf⟩ := z_bd hf
      refine z_cV (As := [.int l1, .int (1 : Int32)]) (rest := []) B hW (f_X11_its l e18 h0) sc_X11_its sv_X11_58 h0 ⟨Nat.le_of_ble_eq_true rfl, Nat.le_of_ble_eq_true rfl⟩ ⟨Nat.zero_le _, Nat.zero_le _⟩ rfl hl.1 rfl (Nat.le_of_ble_eq_true rfl) dX11_knows_45 (fun H locs hW => ?_)
      refine lv_iload_n hx hb dX11_knows_48 rfl (lv_at hl 2 rfl) ?_
      refine lv_ishr hx hb dX11_knows_49 ?_
      refine lv_iconst (v := 1) hx hb dX11_knows_50 (by decide) ?_
      refine lv_iand hx hb dX11_knows_51 ?_
      refine lv_if_ne (tgt := 65) hx hb dX11_knows_52 (by decide) (fun c19 => ?_) (fun c19 => ?_)
      · have hf := z_if c19 hf
        exact w_X11_knows_P65 B M l0 l3 _ _ hf h0 _ _ _ hW (lv_sub hl [0, 3] rfl)
      · have hf := z_it c19 hf
        refine lv_aload_n hx hb dX11_knows_55 rfl (lv_at hl 0 rfl) ?_
        obtain ⟨M21, e22, hf⟩ := z_bd hf
        refine z_cV (As := []) (rest := []) B hW (f_X11_goesOn l e22 h0) sc_X11_goesOn sv_X11_131 h0 ⟨Nat.le_of_ble_eq_true rfl, Nat.le_of_ble_eq_true rfl⟩ ⟨Nat.zero_le _, Nat.zero_le _⟩ rfl hl.1 rfl (Nat.le_of_ble_eq_true rfl) dX11_knows_56 (fun H locs hW => ?_)
        refine lv_iinc (v := l3 + (1 : Int32)) (lv' := [(3, .int (l3 + (1 : Int32))), (0, .ref l0), (1, .int l1), (2, .int l2)]) hx hb dX11_knows_59 hl (k := 3) rfl rfl (by decide) rfl (fun ls hl => ?_)
        refine lv_goto (tgt := 35) hx hb dX11_knows_62 (by decide) ?_
        exact ih M21 l0 l1 l2 (l3 + (1 : Int32)) _ _ hf h0 _ _ _ hW (lv_sub hl [1, 2, 3, 0] rfl)
set_option maxHeartbeats 4000000 in
set_option maxRecDepth 100000 in
theorem f_X11_knows (l : Launch) {Γ : Zg} {M : Zm} {l0 : Nat} {l1 : Int32} {l2 : Int32} {r : Int32} {M' : Zm} (hf : X11_knows Γ M l0 l1 l2 = some (r, M')) (h0 : z_Is Γ 11 l0) : z_Fn l Γ yX11_knows cX11_knows 4 (some .int) 4 95 [.ref l0, .int l1, .int l2] M (some (.int r)) M' := by
  refine z_Fn.of (by decide) (Nat.le_of_ble_eq_true rfl) ?_
  intro p e s m below meth c ls B hW hl
  have B : z_Bd Γ p s m _ meth c cX11_knows 4 (some .int) RX11 := B
  have hl : lv_has ls 4 [(0, .ref l0), (1, .int l1), (2, .int l2)] := hl
  rw [X11_knows] at hf
  have hx := B.1
  have hb := B.2.1
  have hml := B.2.2.1
  have ho := B.2.2.2.1
  have hw := B.2.2.2.2.1
  have hE := B.2.2.2.2.2.1.2.2
  have hg := B.2.2.2.2.2.2.1
  refine lv_aload_n hx hb dX11_knows_0 rfl (lv_at hl 0 rfl) ?_
  refine lv_iload_n hx hb dX11_knows_1 rfl (lv_at hl 1 rfl) ?_
  refine z_cV (As := [.int l1]) (rest := []) B hW (f_X11_isOne l h0) sc_X11_isOne sv_X11_83 h0 ⟨Nat.le_of_ble_eq_true rfl, Nat.le_of_ble_eq_true rfl⟩ ⟨Nat.zero_le _, Nat.zero_le _⟩ rfl hl.1 rfl (Nat.le_of_ble_eq_true rfl) dX11_knows_2 (fun H locs hW => ?_)
  refine lv_if_eq (tgt := 15) hx hb dX11_knows_5 (by decide) (fun c3 => ?_) (fun c3 => ?_)
  · have hf := z_it c3 hf
    refine lv_aload_n hx hb dX11_knows_15 rfl (lv_at hl 0 rfl) ?_
    refine lv_ldc hx hb ho (hw _ q916) dX11_knows_16 ?_
    obtain ⟨r4, M5, e6, hf⟩ := z_bpe hf
    refine z_cV (As := [.int (-1000000001 : Int32)]) (rest := []) B hW (f_X11_finds l e6 h0) sc_X11_finds sv_X11_40 h0 ⟨Nat.le_of_ble_eq_true rfl, Nat.le_of_ble_eq_true rfl⟩ ⟨Nat.zero_le _, Nat.zero_le _⟩ rfl hl.1 rfl (Nat.le_of_ble_eq_true rfl) dX11_knows_18 (fun H locs hW => ?_)
    obtain ⟨e1, e2⟩ := z_s2 hf
    subst e1
    subst e2
    exact z_ri B hW dX11_knows_21
  · have hf := z_if c3 hf
    refine lv_iload_n hx hb dX11_knows_8 rfl (lv_at hl 2 rfl) ?_
    refine z_cS (As := [.int l2]) (rest := []) B hW (f_X11_isSecret l) sc_X11_isSecret ⟨q925, q926⟩ ⟨Nat.le_of_ble_eq_true rfl, Nat.le_of_ble_eq_true rfl⟩ ⟨Nat.zero_le _, Nat.zero_le _⟩ rfl hl.1 rfl (Nat.le_of_ble_eq_true rfl) dX11_knows_9 (fun H locs hW => ?_)
    refine lv_if_ne (tgt := 22) hx hb dX11_knows_12 (by decide) (fun c9 => ?_) (fun c9 => ?_)
    · have hf := z_if c9 hf
      refine lv_aload_n hx hb dX11_knows_22 rfl (lv_at hl 0 rfl) ?_
      refine z_get_11_0 B hW h0 q855 dX11_knows_23 ?_
      refine lv_aload_n hx hb dX11_knows_26 rfl (lv_at hl 0 rfl) ?_
      refine z_get_11_3 B hW h0 q858 dX11_knows_27 ?_
      obtain ⟨M11, e12, hf⟩ := z_bd hf
      refine z_cS (As := [.ref (z_r Γ l0 0), .ref (z_r Γ l0 3)]) (rest := []) B hW (f_X11_copyRow l e12 (z_g11_0 hg h0) (z_g11_3 hg h0)) sc_X11_copyRow ⟨q1066, q1067⟩ ⟨Nat.le_of_ble_eq_true rfl, Nat.le_of_ble_eq_true rfl⟩ ⟨Nat.zero_le _, Nat.zero_le _⟩ rfl hl.1 rfl (Nat.le_of_ble_eq_true rfl) dX11_knows_30 (fun H locs hW => ?_)
      refine lv_iconst (v := 0) hx hb dX11_knows_33 (by decide) ?_
      refine lv_istore_n (lv' := [(3, .int (0 : Int32)), (0, .ref l0), (1, .int l1), (2, .int l2)]) hx hb dX11_knows_34 rfl hl (by decide) rfl (fun ls hl => ?_)
      exact w_X11_knows_P35 B 1000 M11 l0 l1 l2 (0 : Int32) _ _ hf h0 _ _ _ hW (lv_sub hl [1, 2, 3, 0] rfl)
    · have hf := z_it c9 hf
      refine lv_aload_n hx hb dX11_knows_15 rfl (lv_at hl 0 rfl) ?_
      refine lv_ldc hx hb ho (hw _ q916) dX11_knows_16 ?_
      obtain ⟨r13, M14, e15, hf⟩ := z_bpe hf
      refine z_cV (As := [.int (-1000000001 : Int32)]) (rest := []) B hW (f_X11_finds l e15 h0) sc_X11_finds sv_X11_40 h0 ⟨Nat.le_of_ble_eq_true rfl, Nat.le_of_ble_eq_true rfl⟩ ⟨Nat.zero_le _, Nat.zero_le _⟩ rfl hl.1 rfl (Nat.le_of_ble_eq_true rfl) dX11_knows_18 (fun H locs hW => ?_)
      obtain ⟨e1, e2⟩ := z_s2 hf
      subst e1
      subst e2
      exact z_ri B hW dX11_knows_21
set_option maxHeartbeats 4000000 in
set_option maxRecDepth 100000 in
theorem w_X11_out_P55 (B : z_Bd Γ p s m args meth c cX11_out 3 (some .int) RX11) : ∀ (M : Zm) (l0 : Nat) (l2 : Int32) (r : Int32) (M' : Zm), X11_out_P55 Γ M l0 l2 = some (r, M') → z_Is Γ 11 l0 → ∀ (H : Heap) (locs : List Loc) (ls : Array Slot), z_Wd Γ M s.heap H locs → lv_has ls 3 [(0, .ref l0), (2, .int l2)] → W p l e (z_rm 4 95) s m args below meth c H locs 0 0 (z_Q Γ below args s (some (.int r)) M') (F0 m 55 ls []) := by
  have hx := B.1
  have hb := B.2.1
  have hml := B.2.2.1
  have ho := B.2.2.2.1
  have hw := B.2.2.2.2.1
  have hE := B.2.2.2.2.2.1.2.2
  have hg := B.2.2.2.2.2.2.1
  intro M l0 l2 r M' hf h0 H locs ls hW hl
  rw [X11_out_P55] at hf
  refine lv_aload_n hx hb dX11_out_55 rfl (lv_at hl 0 rfl) ?_
  refine z_get_11_3 B hW h0 q858 dX11_out_56 ?_
  refine lv_aload_n hx hb dX11_out_59 rfl (lv_at hl 0 rfl) ?_
  refine z_get_11_0 B hW h0 q855 dX11_out_60 ?_
  obtain ⟨M18, e19, hf⟩ := z_bd hf
  refine z_cS (As := [.ref (z_r Γ l0 3), .ref (z_r Γ l0 0)]) (rest := []) B hW (f_X11_copyRow l e19 (z_g11_3 hg h0) (z_g11_0 hg h0)) sc_X11_copyRow ⟨q1066, q1067⟩ ⟨Nat.le_of_ble_eq_true rfl, Nat.le_of_ble_eq_true rfl⟩ ⟨Nat.zero_le _, Nat.zero_le _⟩ rfl hl.1 rfl (Nat.le_of_ble_eq_true rfl) dX11_out_63 (fun H locs hW => ?_)
  refine lv_iload_n hx hb dX11_out_66 rfl (lv_at hl 1 rfl) ?_
  refine lv_sipush (v := 200) hx hb dX11_out_67 (by decide) ?_
  refine lv_icmp_gt (tgt := 77) hx hb dX11_out_70 (by decide) (fun c20 => ?_) (fun c20 => ?_)
  · have hf := z_it c20 hf
    refine lv_aload_n hx hb dX11_out_77 rfl (lv_at hl 0 rfl) ?_
    refine lv_ldc hx hb ho (hw _ q1073) dX11_out_78 ?_
    obtain ⟨r21, M22, e23, hf⟩ := z_bpe hf
    refine z_cV (As := [.int (-1000000004 : Int32)]) (rest := []) B hW (f_X11_finds l e23 h0) sc_X11_finds sv_X11_40 h0 ⟨Nat.le_of_ble_eq_true rfl, Nat.le_of_ble_eq_true rfl⟩ ⟨Nat.zero_le _, Nat.zero_le _⟩ rfl hl.1 rfl (Nat.le_of_ble_eq_true rfl) dX11_out_80 (fun H locs hW => ?_)
    obtain ⟨e1, e2⟩ := z_s2 hf
    subst e1
    subst e2
    exact z_ri B hW dX11_out_83
  · have hf := z_if c20 hf
    refine lv_iload_n hx hb dX11_out_73 rfl (lv_at hl 1 rfl) ?_
    refine lv_goto (tgt := 83) hx hb dX11_out_74 (by decide) ?_
    obtain ⟨e1, e2⟩ := z_s2 hf
    subst e1
    subst e2
    exact z_ri B hW dX11_out_83
set_option maxHeartbeats 4000000 in
set_option maxRecDepth 100000 in
theorem w_X11_out_P27 (B : z_Bd Γ p s m args meth c cX11_out 3 (some .int) RX11) : ∀ (n : Nat) (M : Zm) (l0 : Nat) (l1 : Int32) (l2 : Int32) (r : Int32) (M' : Zm), X11_out_P27 Γ n M l0 l1 l2 = some (r, M') → z_Is Γ 11 l0 → ∀ (H : Heap) (locs : List Loc) (ls : Array Slot), z_Wd Γ M s.heap H locs → lv_has ls 3 [(0, .ref l0), (1, .int l1), (2, .int l2)] → W p l e (z_rm 4 95) s m args below meth c H locs 0 0 (z_Q Γ below args s (some (.int r)) M') (F0 m 27 ls []) := by
  have hx := B.1
  have hb := B.2.1
  have hml := B.2.2.1
  have ho := B.2.2.2.1
  have hw := B.2.2.2.2.1
  have hE := B.2.2.2.2.2.1.2.2
  have hg := B.2.2.2.2.2.2.1
  intro n
  induction n with
  | zero =>
    intro M l0 l1 l2 r M' hf h0 H locs ls hW hl
    cases hf
  | succ n ih =>
    intro M l0 l1 l2 r M' hf h0 H locs ls hW hl
    rw [X11_out_P27] at hf
    refine lv_iload_n hx hb dX11_out_27 rfl (lv_at hl 2 rfl) ?_
    refine lv_sipush (v := 200) hx hb dX11_out_28 (by decide) ?_
    refine lv_icmp_gt (tgt := 55) hx hb dX11_out_31 (by decide) (fun c10 => ?_) (fun c10 => ?_)
    · have hf := z_it c10 hf
      exact w_X11_out_P55 B M l0 l2 _ _ hf h0 _ _ _ hW (lv_sub hl [0, 2] rfl)
    · have hf := z_if c10 hf
      refine lv_aload_n hx hb dX11_out_34 rfl (lv_at hl 0 rfl) ?_
      obtain ⟨r11, e12, hf⟩ := z_bd hf
      refine z_cV (As := []) (rest := []) B hW (f_X11_outNow l e12 h0) sc_X11_outNow sv_X11_144 h0 ⟨Nat.le_of_ble_eq_true rfl, Nat.le_of_ble_eq_true rfl⟩ ⟨Nat.zero_le _, Nat.zero_le _⟩ rfl hl.1 rfl (Nat.le_of_ble_eq_true rfl) dX11_out_35 (fun H locs hW => ?_)
      refine lv_iload_n hx hb dX11_out_38 rfl (lv_at hl 1 rfl) ?_
      refine lv_ishr hx hb dX11_out_39 ?_
      refine lv_iconst (v := 1) hx hb dX11_out_40 (by decide) ?_
      refine lv_iand hx hb dX11_out_41 ?_
      refine lv_if_ne (tgt := 55) hx hb dX11_out_42 (by decide) (fun c13 => ?_) (fun c13 => ?_)
      · have hf := z_if c13 hf
        exact w_X11_out_P55 B M l0 l2 _ _ hf h0 _ _ _ hW (lv_sub hl [0, 2] rfl)
      · have hf := z_it c13 hf
        refine lv_aload_n hx hb dX11_out_45 rfl (lv_at hl 0 rfl) ?_
        obtain ⟨M15, e16, hf⟩ := z_bd hf
        refine z_cV (As := []) (rest := []) B hW (f_X11_goesOn l e16 h0) sc_X11_goesOn sv_X11_131 h0 ⟨Nat.le_of_ble_eq_true rfl, Nat.le_of_ble_eq_true rfl⟩ ⟨Nat.zero_le _, Nat.zero_le _⟩ rfl hl.1 rfl (Nat.le_of_ble_eq_true rfl) dX11_out_46 (fun H locs hW => ?_)
        refine lv_iinc (v := l2 + (1 : Int32)) (lv' := [(2, .int (l2 + (1 : Int32))), (0, .ref l0), (1, .int l1)]) hx hb dX11_out_49 hl (k := 2) rfl rfl (by decide) rfl (fun ls hl => ?_)
        refine lv_goto (tgt := 27) hx hb dX11_out_52 (by decide) ?_
        exact ih M15 l0 l1 (l2 + (1 : Int32)) _ _ hf h0 _ _ _ hW (lv_sub hl [1, 2, 0] rfl)
set_option maxHeartbeats 4000000 in
set_option maxRecDepth 100000 in
theorem f_X11_out (l : Launch) {Γ : Zg} {M : Zm} {l0 : Nat} {l1 : Int32} {r : Int32} {M' : Zm} (hf : X11_out Γ M l0 l1 = some (r, M')) (h0 : z_Is Γ 11 l0) : z_Fn l Γ yX11_out cX11_out 3 (some .int) 4 95 [.ref l0, .int l1] M (some (.int r)) M' := by
  refine z_Fn.of (by decide) (Nat.le_of_ble_eq_true rfl) ?_
  intro p e s m below meth c ls B hW hl
  have B : z_Bd Γ p s m _ meth c cX11_out 3 (some .int) RX11 := B
  have hl : lv_has ls 3 [(0, .ref l0), (1, .int l1)] := hl
  rw [X11_out] at hf
  have hx := B.1
  have hb := B.2.1
  have hml := B.2.2.1
  have ho := B.2.2.2.1
  have hw := B.2.2.2.2.1
  have hE := B.2.2.2.2.2.1.2.2
  have hg := B.2.2.2.2.2.2.1
  refine lv_iload_n hx hb dX11_out_0 rfl (lv_at hl 1 rfl) ?_
  refine z_cS (As := [.int l1]) (rest := []) B hW (f_X11_isSecret l) sc_X11_isSecret ⟨q925, q926⟩ ⟨Nat.le_of_ble_eq_true rfl, Nat.le_of_ble_eq_true rfl⟩ ⟨Nat.zero_le _, Nat.zero_le _⟩ rfl hl.1 rfl (Nat.le_of_ble_eq_true rfl) dX11_out_1 (fun H locs hW => ?_)
  refine lv_if_ne (tgt := 14) hx hb dX11_out_4 (by decide) (fun c3 => ?_) (fun c3 => ?_)
  · have hf := z_if c3 hf
    refine lv_aload_n hx hb dX11_out_14 rfl (lv_at hl 0 rfl) ?_
    refine z_get_11_0 B hW h0 q855 dX11_out_15 ?_
    refine lv_aload_n hx hb dX11_out_18 rfl (lv_at hl 0 rfl) ?_
    refine z_get_11_3 B hW h0 q858 dX11_out_19 ?_
    obtain ⟨M5, e6, hf⟩ := z_bd hf
    refine z_cS (As := [.ref (z_r Γ l0 0), .ref (z_r Γ l0 3)]) (rest := []) B hW (f_X11_copyRow l e6 (z_g11_0 hg h0) (z_g11_3 hg h0)) sc_X11_copyRow ⟨q1066, q1067⟩ ⟨Nat.le_of_ble_eq_true rfl, Nat.le_of_ble_eq_true rfl⟩ ⟨Nat.zero_le _, Nat.zero_le _⟩ rfl hl.1 rfl (Nat.le_of_ble_eq_true rfl) dX11_out_22 (fun H locs hW => ?_)
    refine lv_iconst (v := 0) hx hb dX11_out_25 (by decide) ?_
    refine lv_istore_n (lv' := [(2, .int (0 : Int32)), (0, .ref l0), (1, .int l1)]) hx hb dX11_out_26 rfl hl (by decide) rfl (fun ls hl => ?_)
    exact w_X11_out_P27 B 1000 M5 l0 l1 (0 : Int32) _ _ hf h0 _ _ _ hW (lv_sub hl [1, 2, 0] rfl)
  · have hf := z_it c3 hf
    refine lv_aload_n hx hb dX11_out_7 rfl (lv_at hl 0 rfl) ?_
    refine lv_ldc hx hb ho (hw _ q916) dX11_out_8 ?_
    obtain ⟨r7, M8, e9, hf⟩ := z_bpe hf
    refine z_cV (As := [.int (-1000000001 : Int32)]) (rest := []) B hW (f_X11_finds l e9 h0) sc_X11_finds sv_X11_40 h0 ⟨Nat.le_of_ble_eq_true rfl, Nat.le_of_ble_eq_true rfl⟩ ⟨Nat.zero_le _, Nat.zero_le _⟩ rfl hl.1 rfl (Nat.le_of_ble_eq_true rfl) dX11_out_10 (fun H locs hW => ?_)
    obtain ⟨e1, e2⟩ := z_s2 hf
    subst e1
    subst e2
    exact z_ri B hW dX11_out_13
set_option maxHeartbeats 4000000 in
set_option maxRecDepth 100000 in
theorem w_X11_meet_P76 (B : z_Bd Γ p s m args meth c cX11_meet 4 (some .int) RX11) : ∀ (M : Zm) (l0 : Nat) (l3 : Int32) (r : Int32) (M' : Zm), X11_meet_P76 Γ M l0 l3 = some (r, M') → z_Is Γ 11 l0 → ∀ (H : Heap) (locs : List Loc) (ls : Array Slot), z_Wd Γ M s.heap H locs → lv_has ls 4 [(0, .ref l0), (3, .int l3)] → W p l e (z_rm 4 95) s m args below meth c H locs 0 0 (z_Q Γ below args s (some (.int r)) M') (F0 m 76 ls []) := by
  have hx := B.1
  have hb := B.2.1
  have hml := B.2.2.1
  have ho := B.2.2.2.1
  have hw := B.2.2.2.2.1
  have hE := B.2.2.2.2.2.1.2.2
  have hg := B.2.2.2.2.2.2.1
  intro M l0 l3 r M' hf h0 H locs ls hW hl
  rw [X11_meet_P76] at hf
  refine lv_aload_n hx hb dX11_meet_76 rfl (lv_at hl 0 rfl) ?_
  refine z_get_11_3 B hW h0 q858 dX11_meet_77 ?_
  refine lv_aload_n hx hb dX11_meet_80 rfl (lv_at hl 0 rfl) ?_
  refine z_get_11_0 B hW h0 q855 dX11_meet_81 ?_
  obtain ⟨M34, e35, hf⟩ := z_bd hf
  refine z_cS (As := [.ref (z_r Γ l0 3), .ref (z_r Γ l0 0)]) (rest := []) B hW (f_X11_copyRow l e35 (z_g11_3 hg h0) (z_g11_0 hg h0)) sc_X11_copyRow ⟨q1066, q1067⟩ ⟨Nat.le_of_ble_eq_true rfl, Nat.le_of_ble_eq_true rfl⟩ ⟨Nat.zero_le _, Nat.zero_le _⟩ rfl hl.1 rfl (Nat.le_of_ble_eq_true rfl) dX11_meet_84 (fun H locs hW => ?_)
  refine lv_iload_n hx hb dX11_meet_87 rfl (lv_at hl 1 rfl) ?_
  refine lv_sipush (v := 200) hx hb dX11_meet_88 (by decide) ?_
  refine lv_icmp_gt (tgt := 98) hx hb dX11_meet_91 (by decide) (fun c36 => ?_) (fun c36 => ?_)
  · have hf := z_it c36 hf
    refine lv_aload_n hx hb dX11_meet_98 rfl (lv_at hl 0 rfl) ?_
    refine lv_ldc hx hb ho (hw _ q1073) dX11_meet_99 ?_
    obtain ⟨r37, M38, e39, hf⟩ := z_bpe hf
    refine z_cV (As := [.int (-1000000004 : Int32)]) (rest := []) B hW (f_X11_finds l e39 h0) sc_X11_finds sv_X11_40 h0 ⟨Nat.le_of_ble_eq_true rfl, Nat.le_of_ble_eq_true rfl⟩ ⟨Nat.zero_le _, Nat.zero_le _⟩ rfl hl.1 rfl (Nat.le_of_ble_eq_true rfl) dX11_meet_101 (fun H locs hW => ?_)
    obtain ⟨e1, e2⟩ := z_s2 hf
    subst e1
    subst e2
    exact z_ri B hW dX11_meet_104
  · have hf := z_if c36 hf
    refine lv_iload_n hx hb dX11_meet_94 rfl (lv_at hl 1 rfl) ?_
    refine lv_goto (tgt := 104) hx hb dX11_meet_95 (by decide) ?_
    obtain ⟨e1, e2⟩ := z_s2 hf
    subst e1
    subst e2
    exact z_ri B hW dX11_meet_104
set_option maxHeartbeats 4000000 in
set_option maxRecDepth 100000 in
theorem w_X11_meet_P41 (B : z_Bd Γ p s m args meth c cX11_meet 4 (some .int) RX11) : ∀ (n : Nat) (M : Zm) (l0 : Nat) (l1 : Int32) (l2 : Int32) (l3 : Int32) (r : Int32) (M' : Zm), X11_meet_P41 Γ n M l0 l1 l2 l3 = some (r, M') → z_Is Γ 11 l0 → ∀ (H : Heap) (locs : List Loc) (ls : Array Slot), z_Wd Γ M s.heap H locs → lv_has ls 4 [(0, .ref l0), (1, .int l1), (2, .int l2), (3, .int l3)] → W p l e (z_rm 4 95) s m args below meth c H locs 0 0 (z_Q Γ below args s (some (.int r)) M') (F0 m 41 ls []) := by
  have hx := B.1
  have hb := B.2.1
  have hml := B.2.2.1
  have ho := B.2.2.2.1
  have hw := B.2.2.2.2.1
  have hE := B.2.2.2.2.2.1.2.2
  have hg := B.2.2.2.2.2.2.1
  intro n
  induction n with
  | zero =>
    intro M l0 l1 l2 l3 r M' hf h0 H locs ls hW hl
    cases hf
  | succ n ih =>
    intro M l0 l1 l2 l3 r M' hf h0 H locs ls hW hl
    rw [X11_meet_P41] at hf
    refine lv_iload_n hx hb dX11_meet_41 rfl (lv_at hl 3 rfl) ?_
    refine lv_sipush (v := 200) hx hb dX11_meet_42 (by decide) ?_
    refine lv_icmp_gt (tgt := 76) hx hb dX11_meet_45 (by decide) (fun c20 => ?_) (fun c20 => ?_)
    · have hf := z_it c20 hf
      exact w_X11_meet_P76 B M l0 l3 _ _ hf h0 _ _ _ hW (lv_sub hl [0, 3] rfl)
    · have hf := z_if c20 hf
      refine lv_aload_n hx hb dX11_meet_48 rfl (lv_at hl 0 rfl) ?_
      refine lv_iload_n hx hb dX11_meet_49 rfl (lv_at hl 1 rfl) ?_
      refine lv_iconst (v := 3) hx hb dX11_meet_50 (by decide) ?_
      obtain ⟨r21, e22, hf⟩ := z_bd hf
      refine z_cV (As := [.int l1, .int (3 : Int32)]) (rest := []) B hW (f_X11_its l e22 h0) sc_X11_its sv_X11_58 h0 ⟨Nat.le_of_ble_eq_true rfl, Nat.le_of_ble_eq_true rfl⟩ ⟨Nat.zero_le _, Nat.zero_le _⟩ rfl hl.1 rfl (Nat.le_of_ble_eq_true rfl) dX11_meet_51 (fun H locs hW => ?_)
      refine lv_if_lt (tgt := 66) hx hb dX11_meet_54 (by decide) (fun c23 => ?_) (fun c23 => ?_)
      · have hf := z_it c23 hf
        refine lv_aload_n hx hb dX11_meet_66 rfl (lv_at hl 0 rfl) ?_
        obtain ⟨M25, e26, hf⟩ := z_bd hf
        refine z_cV (As := []) (rest := []) B hW (f_X11_goesOn l e26 h0) sc_X11_goesOn sv_X11_131 h0 ⟨Nat.le_of_ble_eq_true rfl, Nat.le_of_ble_eq_true rfl⟩ ⟨Nat.zero_le _, Nat.zero_le _⟩ rfl hl.1 rfl (Nat.le_of_ble_eq_true rfl) dX11_meet_67 (fun H locs hW => ?_)
        refine lv_iinc (v := l3 + (1 : Int32)) (lv' := [(3, .int (l3 + (1 : Int32))), (0, .ref l0), (1, .int l1), (2, .int l2)]) hx hb dX11_meet_70 hl (k := 3) rfl rfl (by decide) rfl (fun ls hl => ?_)
        refine lv_goto (tgt := 41) hx hb dX11_meet_73 (by decide) ?_
        exact ih M25 l0 l1 l2 (l3 + (1 : Int32)) _ _ hf h0 _ _ _ hW (lv_sub hl [1, 2, 3, 0] rfl)
      · have hf := z_if c23 hf
        refine lv_aload_n hx hb dX11_meet_57 rfl (lv_at hl 0 rfl) ?_
        refine lv_iload_n hx hb dX11_meet_58 rfl (lv_at hl 2 rfl) ?_
        refine lv_iconst (v := 3) hx hb dX11_meet_59 (by decide) ?_
        obtain ⟨r27, e28, hf⟩ := z_bd hf
        refine z_cV (As := [.int l2, .int (3 : Int32)]) (rest := []) B hW (f_X11_its l e28 h0) sc_X11_its sv_X11_58 h0 ⟨Nat.le_of_ble_eq_true rfl, Nat.le_of_ble_eq_true rfl⟩ ⟨Nat.zero_le _, Nat.zero_le _⟩ rfl hl.1 rfl (Nat.le_of_ble_eq_true rfl) dX11_meet_60 (fun H locs hW => ?_)
        refine lv_if_ge (tgt := 76) hx hb dX11_meet_63 (by decide) (fun c29 => ?_) (fun c29 => ?_)
        · have hf := z_it c29 hf
          exact w_X11_meet_P76 B M l0 l3 _ _ hf h0 _ _ _ hW (lv_sub hl [0, 3] rfl)
        · have hf := z_if c29 hf
          refine lv_aload_n hx hb dX11_meet_66 rfl (lv_at hl 0 rfl) ?_
          obtain ⟨M31, e32, hf⟩ := z_bd hf
          refine z_cV (As := []) (rest := []) B hW (f_X11_goesOn l e32 h0) sc_X11_goesOn sv_X11_131 h0 ⟨Nat.le_of_ble_eq_true rfl, Nat.le_of_ble_eq_true rfl⟩ ⟨Nat.zero_le _, Nat.zero_le _⟩ rfl hl.1 rfl (Nat.le_of_ble_eq_true rfl) dX11_meet_67 (fun H locs hW => ?_)
          refine lv_iinc (v := l3 + (1 : Int32)) (lv' := [(3, .int (l3 + (1 : Int32))), (0, .ref l0), (1, .int l1), (2, .int l2)]) hx hb dX11_meet_70 hl (k := 3) rfl rfl (by decide) rfl (fun ls hl => ?_)
          refine lv_goto (tgt := 41) hx hb dX11_meet_73 (by decide) ?_
          exact ih M31 l0 l1 l2 (l3 + (1 : Int32)) _ _ hf h0 _ _ _ hW (lv_sub hl [1, 2, 3, 0] rfl)
set_option maxHeartbeats 4000000 in
set_option maxRecDepth 100000 in
theorem f_X11_meet (l : Launch) {Γ : Zg} {M : Zm} {l0 : Nat} {l1 : Int32} {l2 : Int32} {r : Int32} {M' : Zm} (hf : X11_meet Γ M l0 l1 l2 = some (r, M')) (h0 : z_Is Γ 11 l0) : z_Fn l Γ yX11_meet cX11_meet 4 (some .int) 4 95 [.ref l0, .int l1, .int l2] M (some (.int r)) M' := by
  refine z_Fn.of (by decide) (Nat.le_of_ble_eq_true rfl) ?_
  intro p e s m below meth c ls B hW hl
  have B : z_Bd Γ p s m _ meth c cX11_meet 4 (some .int) RX11 := B
  have hl : lv_has ls 4 [(0, .ref l0), (1, .int l1), (2, .int l2)] := hl
  rw [X11_meet] at hf
  have hx := B.1
  have hb := B.2.1
  have hml := B.2.2.1
  have ho := B.2.2.2.1
  have hw := B.2.2.2.2.1
  have hE := B.2.2.2.2.2.1.2.2
  have hg := B.2.2.2.2.2.2.1
  refine lv_aload_n hx hb dX11_meet_0 rfl (lv_at hl 0 rfl) ?_
  refine lv_iload_n hx hb dX11_meet_1 rfl (lv_at hl 1 rfl) ?_
  refine z_cV (As := [.int l1]) (rest := []) B hW (f_X11_isOne l h0) sc_X11_isOne sv_X11_83 h0 ⟨Nat.le_of_ble_eq_true rfl, Nat.le_of_ble_eq_true rfl⟩ ⟨Nat.zero_le _, Nat.zero_le _⟩ rfl hl.1 rfl (Nat.le_of_ble_eq_true rfl) dX11_meet_2 (fun H locs hW => ?_)
  refine lv_if_eq (tgt := 21) hx hb dX11_meet_5 (by decide) (fun c3 => ?_) (fun c3 => ?_)
  · have hf := z_it c3 hf
    refine lv_aload_n hx hb dX11_meet_21 rfl (lv_at hl 0 rfl) ?_
    refine lv_ldc hx hb ho (hw _ q916) dX11_meet_22 ?_
    obtain ⟨r4, M5, e6, hf⟩ := z_bpe hf
    refine z_cV (As := [.int (-1000000001 : Int32)]) (rest := []) B hW (f_X11_finds l e6 h0) sc_X11_finds sv_X11_40 h0 ⟨Nat.le_of_ble_eq_true rfl, Nat.le_of_ble_eq_true rfl⟩ ⟨Nat.zero_le _, Nat.zero_le _⟩ rfl hl.1 rfl (Nat.le_of_ble_eq_true rfl) dX11_meet_24 (fun H locs hW => ?_)
    obtain ⟨e1, e2⟩ := z_s2 hf
    subst e1
    subst e2
    exact z_ri B hW dX11_meet_27
  · have hf := z_if c3 hf
    refine lv_aload_n hx hb dX11_meet_8 rfl (lv_at hl 0 rfl) ?_
    refine lv_iload_n hx hb dX11_meet_9 rfl (lv_at hl 2 rfl) ?_
    refine z_cV (As := [.int l2]) (rest := []) B hW (f_X11_isOne l h0) sc_X11_isOne sv_X11_83 h0 ⟨Nat.le_of_ble_eq_true rfl, Nat.le_of_ble_eq_true rfl⟩ ⟨Nat.zero_le _, Nat.zero_le _⟩ rfl hl.1 rfl (Nat.le_of_ble_eq_true rfl) dX11_meet_10 (fun H locs hW => ?_)
    refine lv_if_eq (tgt := 21) hx hb dX11_meet_13 (by decide) (fun c9 => ?_) (fun c9 => ?_)
    · have hf := z_it c9 hf
      refine lv_aload_n hx hb dX11_meet_21 rfl (lv_at hl 0 rfl) ?_
      refine lv_ldc hx hb ho (hw _ q916) dX11_meet_22 ?_
      obtain ⟨r10, M11, e12, hf⟩ := z_bpe hf
      refine z_cV (As := [.int (-1000000001 : Int32)]) (rest := []) B hW (f_X11_finds l e12 h0) sc_X11_finds sv_X11_40 h0 ⟨Nat.le_of_ble_eq_true rfl, Nat.le_of_ble_eq_true rfl⟩ ⟨Nat.zero_le _, Nat.zero_le _⟩ rfl hl.1 rfl (Nat.le_of_ble_eq_true rfl) dX11_meet_24 (fun H locs hW => ?_)
      obtain ⟨e1, e2⟩ := z_s2 hf
      subst e1
      subst e2
      exact z_ri B hW dX11_meet_27
    · have hf := z_if c9 hf
      refine lv_iload_n hx hb dX11_meet_16 rfl (lv_at hl 1 rfl) ?_
      refine lv_iload_n hx hb dX11_meet_17 rfl (lv_at hl 2 rfl) ?_
      refine lv_icmp_ne (tgt := 28) hx hb dX11_meet_18 (by decide) (fun c13 => ?_) (fun c13 => ?_)
      · have hf := z_if c13 hf
        refine lv_aload_n hx hb dX11_meet_28 rfl (lv_at hl 0 rfl) ?_
        refine z_get_11_0 B hW h0 q855 dX11_meet_29 ?_
        refine lv_aload_n hx hb dX11_meet_32 rfl (lv_at hl 0 rfl) ?_
        refine z_get_11_3 B hW h0 q858 dX11_meet_33 ?_
        obtain ⟨M15, e16, hf⟩ := z_bd hf
        refine z_cS (As := [.ref (z_r Γ l0 0), .ref (z_r Γ l0 3)]) (rest := []) B hW (f_X11_copyRow l e16 (z_g11_0 hg h0) (z_g11_3 hg h0)) sc_X11_copyRow ⟨q1066, q1067⟩ ⟨Nat.le_of_ble_eq_true rfl, Nat.le_of_ble_eq_true rfl⟩ ⟨Nat.zero_le _, Nat.zero_le _⟩ rfl hl.1 rfl (Nat.le_of_ble_eq_true rfl) dX11_meet_36 (fun H locs hW => ?_)
        refine lv_iconst (v := 0) hx hb dX11_meet_39 (by decide) ?_
        refine lv_istore_n (lv' := [(3, .int (0 : Int32)), (0, .ref l0), (1, .int l1), (2, .int l2)]) hx hb dX11_meet_40 rfl hl (by decide) rfl (fun ls hl => ?_)
        exact w_X11_meet_P41 B 1000 M15 l0 l1 l2 (0 : Int32) _ _ hf h0 _ _ _ hW (lv_sub hl [1, 2, 3, 0] rfl)
      · have hf := z_it c13 hf
        refine lv_aload_n hx hb dX11_meet_21 rfl (lv_at hl 0 rfl) ?_
        refine lv_ldc hx hb ho (hw _ q916) dX11_meet_22 ?_
        obtain ⟨r17, M18, e19, hf⟩ := z_bpe hf
        refine z_cV (As := [.int (-1000000001 : Int32)]) (rest := []) B hW (f_X11_finds l e19 h0) sc_X11_finds sv_X11_40 h0 ⟨Nat.le_of_ble_eq_true rfl, Nat.le_of_ble_eq_true rfl⟩ ⟨Nat.zero_le _, Nat.zero_le _⟩ rfl hl.1 rfl (Nat.le_of_ble_eq_true rfl) dX11_meet_24 (fun H locs hW => ?_)
        obtain ⟨e1, e2⟩ := z_s2 hf
        subst e1
        subst e2
        exact z_ri B hW dX11_meet_27
set_option maxHeartbeats 4000000 in
set_option maxRecDepth 100000 in
theorem w_X11_kind_P46 (B : z_Bd Γ p s m args meth c cX11_kind 7 (some .int) RX11) : ∀ (n : Nat) (M : Zm) (l0 : Nat) (l1 : Int32) (l2 : Int32) (l3 : Int32) (l4 : Int32) (l5 : Int32) (r : Int32) (M' : Zm), X11_kind_P46 Γ n M l0 l1 l2 l3 l4 l5 = some (r, M') → z_Is Γ 11 l0 → ∀ (H : Heap) (locs : List Loc) (ls : Array Slot), z_Wd Γ M s.heap H locs → lv_has ls 7 [(0, .ref l0), (1, .int l1), (2, .int l2), (3, .int l3), (4, .int l4), (5, .int l5)] → W p l e (z_rm 5 117) s m args below meth c H locs 0 0 (z_Q Γ below args s (some (.int r)) M') (F0 m 46 ls []) := by
  have hx := B.1
  have hb := B.2.1
  have hml := B.2.2.1
  have ho := B.2.2.2.1
  have hw := B.2.2.2.2.1
  have hE := B.2.2.2.2.2.1.2.2
  have hg := B.2.2.2.2.2.2.1
  intro n
  induction n with
  | zero =>
    intro M l0 l1 l2 l3 l4 l5 r M' hf h0 H locs ls hW hl
    cases hf
  | succ n ih =>
    intro M l0 l1 l2 l3 l4 l5 r M' hf h0 H locs ls hW hl
    rw [X11_kind_P46] at hf
    refine lv_iload hx hb dX11_kind_46 (lv_at hl 5 rfl) ?_
    refine lv_iconst (v := 5) hx hb dX11_kind_48 (by decide) ?_
    refine lv_icmp_gt (tgt := 127) hx hb dX11_kind_49 (by decide) (fun c16 => ?_) (fun c16 => ?_)
    · have hf := z_it c16 hf
      refine lv_iload_n hx hb dX11_kind_127 rfl (lv_at hl 3 rfl) ?_
      obtain ⟨e1, e2⟩ := z_s2 hf
      subst e1
      subst e2
      exact z_ri B hW dX11_kind_128
    · have hf := z_if c16 hf
      refine lv_aload_n hx hb dX11_kind_52 rfl (lv_at hl 0 rfl) ?_
      refine z_get_11_0 B hW h0 q855 dX11_kind_53 ?_
      refine lv_iload_n hx hb dX11_kind_56 rfl (lv_at hl 1 rfl) ?_
      refine lv_iconst (v := 0) hx hb dX11_kind_57 (by decide) ?_
      refine z_cS (As := [.int l1, .int (0 : Int32)]) (rest := [.ref (z_r Γ l0 0)]) B hW (f_X11_at l) sc_X11_at ⟨q942, q943⟩ ⟨Nat.le_of_ble_eq_true rfl, Nat.le_of_ble_eq_true rfl⟩ ⟨Nat.zero_le _, Nat.zero_le _⟩ rfl hl.1 rfl (Nat.le_of_ble_eq_true rfl) dX11_kind_58 (fun H locs hW => ?_)
      refine lv_iload hx hb dX11_kind_61 (lv_at hl 5 rfl) ?_
      obtain ⟨g19, hf⟩ := z_gd hf
      refine z_is B hW (z_g11_0 hg h0) g19 dX11_kind_63 (fun H locs hW => ?_)
      obtain ⟨M20, e21, hf⟩ := z_le hf
      have hW := z_wde e21 hW
      refine lv_aload_n hx hb dX11_kind_64 rfl (lv_at hl 0 rfl) ?_
      refine lv_iload_n hx hb dX11_kind_65 rfl (lv_at hl 2 rfl) ?_
      obtain ⟨M23, e24, hf⟩ := z_bd hf
      refine z_cV (As := [.int l2]) (rest := []) B hW (f_X11_goes l e24 h0) sc_X11_goes sv_X11_137 h0 ⟨Nat.le_of_ble_eq_true rfl, Nat.le_of_ble_eq_true rfl⟩ ⟨Nat.zero_le _, Nat.zero_le _⟩ rfl hl.1 rfl (Nat.le_of_ble_eq_true rfl) dX11_kind_66 (fun H locs hW => ?_)
      refine lv_aload_n hx hb dX11_kind_69 rfl (lv_at hl 0 rfl) ?_
      refine lv_iload_n hx hb dX11_kind_70 rfl (lv_at hl 1 rfl) ?_
      refine lv_iconst (v := 1) hx hb dX11_kind_71 (by decide) ?_
      obtain ⟨r25, e26, hf⟩ := z_bd hf
      refine z_cV (As := [.int l1, .int (1 : Int32)]) (rest := []) B hW (f_X11_its l e26 h0) sc_X11_its sv_X11_58 h0 ⟨Nat.le_of_ble_eq_true rfl, Nat.le_of_ble_eq_true rfl⟩ ⟨Nat.zero_le _, Nat.zero_le _⟩ rfl hl.1 rfl (Nat.le_of_ble_eq_true rfl) dX11_kind_72 (fun H locs hW => ?_)
      obtain ⟨r27, e28, hf⟩ := z_bd hf
      refine z_cS (As := [.int r25]) (rest := []) B hW (f_X11_many l e28) sc_X11_many ⟨q972, q973⟩ ⟨Nat.le_of_ble_eq_true rfl, Nat.le_of_ble_eq_true rfl⟩ ⟨Nat.zero_le _, Nat.zero_le _⟩ rfl hl.1 rfl (Nat.le_of_ble_eq_true rfl) dX11_kind_75 (fun H locs hW => ?_)
      refine lv_istore (lv' := [(6, .int r27), (0, .ref l0), (1, .int l1), (2, .int l2), (3, .int l3), (4, .int l4), (5, .int l5)]) hx hb dX11_kind_78 hl (by decide) rfl (fun ls hl => ?_)
      refine lv_aload_n hx hb dX11_kind_80 rfl (lv_at hl 1 rfl) ?_
      refine z_get_11_3 B hW h0 q858 dX11_kind_81 ?_
      refine lv_aload_n hx hb dX11_kind_84 rfl (lv_at hl 1 rfl) ?_
      refine z_get_11_0 B hW h0 q855 dX11_kind_85 ?_
      obtain ⟨M30, e31, hf⟩ := z_bd hf
      refine z_cS (As := [.ref (z_r Γ l0 3), .ref (z_r Γ l0 0)]) (rest := []) B hW (f_X11_copyRow l e31 (z_g11_3 hg h0) (z_g11_0 hg h0)) sc_X11_copyRow ⟨q1066, q1067⟩ ⟨Nat.le_of_ble_eq_true rfl, Nat.le_of_ble_eq_true rfl⟩ ⟨Nat.zero_le _, Nat.zero_le _⟩ rfl hl.1 rfl (Nat.le_of_ble_eq_true rfl) dX11_kind_88 (fun H locs hW => ?_)
      refine lv_iload hx hb dX11_kind_91 (lv_at hl 0 rfl) ?_
      refine lv_iload hx hb dX11_kind_93 (lv_at hl 5 rfl) ?_
      refine lv_icmp_le (tgt := 103) hx hb dX11_kind_95 (by decide) (fun c32 => ?_) (fun c32 => ?_)
      · have hf := z_it c32 hf
        refine lv_iload_n hx hb dX11_kind_103 rfl (lv_at hl 4 rfl) ?_
        refine lv_istore_n (lv' := [(3, .int l3), (6, .int r27), (0, .ref l0), (1, .int l1), (2, .int l2), (4, .int l4), (5, .int l5)]) hx hb dX11_kind_104 rfl hl (by decide) rfl (fun ls hl => ?_)
        refine lv_iload hx hb dX11_kind_105 (lv_at hl 1 rfl) ?_
        refine lv_iload hx hb dX11_kind_107 (lv_at hl 5 rfl) ?_
        refine lv_icmp_le (tgt := 117) hx hb dX11_kind_109 (by decide) (fun c33 => ?_) (fun c33 => ?_)
        · have hf := z_it c33 hf
          refine lv_iload hx hb dX11_kind_117 (lv_at hl 5 rfl) ?_
          refine lv_istore (lv' := [(4, .int l4), (3, .int l3), (6, .int r27), (0, .ref l0), (1, .int l1), (2, .int l2), (5, .int l5)]) hx hb dX11_kind_119 hl (by decide) rfl (fun ls hl => ?_)
          refine lv_iinc (v := l5 + (1 : Int32)) (lv' := [(5, .int (l5 + (1 : Int32))), (4, .int l4), (3, .int l3), (6, .int r27), (0, .ref l0), (1, .int l1), (2, .int l2)]) hx hb dX11_kind_121 hl (k := 6) rfl rfl (by decide) rfl (fun ls hl => ?_)
          refine lv_goto (tgt := 46) hx hb dX11_kind_124 (by decide) ?_
          exact ih M30 l0 l1 l2 l3 l4 (l5 + (1 : Int32)) _ _ hf h0 _ _ _ hW (lv_sub hl [4, 5, 6, 2, 1, 0] rfl)
        · have hf := z_if c33 hf
          refine lv_iload hx hb dX11_kind_112 (lv_at hl 1 rfl) ?_
          refine lv_goto (tgt := 119) hx hb dX11_kind_114 (by decide) ?_
          refine lv_istore (lv' := [(4, .int r27), (3, .int l3), (6, .int r27), (0, .ref l0), (1, .int l1), (2, .int l2), (5, .int l5)]) hx hb dX11_kind_119 hl (by decide) rfl (fun ls hl => ?_)
          refine lv_iinc (v := l5 + (1 : Int32)) (lv' := [(5, .int (l5 + (1 : Int32))), (4, .int r27), (3, .int l3), (6, .int r27), (0, .ref l0), (1, .int l1), (2, .int l2)]) hx hb dX11_kind_121 hl (k := 6) rfl rfl (by decide) rfl (fun ls hl => ?_)
          refine lv_goto (tgt := 46) hx hb dX11_kind_124 (by decide) ?_
          exact ih M30 l0 l1 l2 l3 r27 (l5 + (1 : Int32)) _ _ hf h0 _ _ _ hW (lv_sub hl [4, 5, 6, 2, 1, 0] rfl)
      · have hf := z_if c32 hf
        refine lv_iload hx hb dX11_kind_98 (lv_at hl 6 rfl) ?_
        refine lv_goto (tgt := 104) hx hb dX11_kind_100 (by decide) ?_
        refine lv_istore_n (lv' := [(3, .int l5), (6, .int r27), (0, .ref l0), (1, .int l1), (2, .int l2), (4, .int l4), (5, .int l5)]) hx hb dX11_kind_104 rfl hl (by decide) rfl (fun ls hl => ?_)
        refine lv_iload hx hb dX11_kind_105 (lv_at hl 1 rfl) ?_
        refine lv_iload hx hb dX11_kind_107 (lv_at hl 5 rfl) ?_
        refine lv_icmp_le (tgt := 117) hx hb dX11_kind_109 (by decide) (fun c34 => ?_) (fun c34 => ?_)
        · have hf := z_it c34 hf
          refine lv_iload hx hb dX11_kind_117 (lv_at hl 5 rfl) ?_
          refine lv_istore (lv' := [(4, .int l4), (3, .int l5), (6, .int r27), (0, .ref l0), (1, .int l1), (2, .int l2), (5, .int l5)]) hx hb dX11_kind_119 hl (by decide) rfl (fun ls hl => ?_)
          refine lv_iinc (v := l5 + (1 : Int32)) (lv' := [(5, .int (l5 + (1 : Int32))), (4, .int l4), (3, .int l5), (6, .int r27), (0, .ref l0), (1, .int l1), (2, .int l2)]) hx hb dX11_kind_121 hl (k := 6) rfl rfl (by decide) rfl (fun ls hl => ?_)
          refine lv_goto (tgt := 46) hx hb dX11_kind_124 (by decide) ?_
          exact ih M30 l0 l1 l2 l5 l4 (l5 + (1 : Int32)) _ _ hf h0 _ _ _ hW (lv_sub hl [4, 5, 6, 2, 1, 0] rfl)
        · have hf := z_if c34 hf
          refine lv_iload hx hb dX11_kind_112 (lv_at hl 1 rfl) ?_
          refine lv_goto (tgt := 119) hx hb dX11_kind_114 (by decide) ?_
          refine lv_istore (lv' := [(4, .int r27), (3, .int l5), (6, .int r27), (0, .ref l0), (1, .int l1), (2, .int l2), (5, .int l5)]) hx hb dX11_kind_119 hl (by decide) rfl (fun ls hl => ?_)
          refine lv_iinc (v := l5 + (1 : Int32)) (lv' := [(5, .int (l5 + (1 : Int32))), (4, .int r27), (3, .int l5), (6, .int r27), (0, .ref l0), (1, .int l1), (2, .int l2)]) hx hb dX11_kind_121 hl (k := 6) rfl rfl (by decide) rfl (fun ls hl => ?_)
          refine lv_goto (tgt := 46) hx hb dX11_kind_124 (by decide) ?_
          exact ih M30 l0 l1 l2 l5 r27 (l5 + (1 : Int32)) _ _ hf h0 _ _ _ hW (lv_sub hl [4, 5, 6, 2, 1, 0] rfl)
set_option maxHeartbeats 4000000 in
set_option maxRecDepth 100000 in
theorem f_X11_kind (l : Launch) {Γ : Zg} {M : Zm} {l0 : Nat} {l1 : Int32} {l2 : Int32} {r : Int32} {M' : Zm} (hf : X11_kind Γ M l0 l1 l2 = some (r, M')) (h0 : z_Is Γ 11 l0) : z_Fn l Γ yX11_kind cX11_kind 7 (some .int) 5 117 [.ref l0, .int l1, .int l2] M (some (.int r)) M' := by
  refine z_Fn.of (by decide) (Nat.le_of_ble_eq_true rfl) ?_
  intro p e s m below meth c ls B hW hl
  have B : z_Bd Γ p s m _ meth c cX11_kind 7 (some .int) RX11 := B
  have hl : lv_has ls 7 [(0, .ref l0), (1, .int l1), (2, .int l2)] := hl
  rw [X11_kind] at hf
  have hx := B.1
  have hb := B.2.1
  have hml := B.2.2.1
  have ho := B.2.2.2.1
  have hw := B.2.2.2.2.1
  have hE := B.2.2.2.2.2.1.2.2
  have hg := B.2.2.2.2.2.2.1
  refine lv_aload_n hx hb dX11_kind_0 rfl (lv_at hl 0 rfl) ?_
  refine lv_iload_n hx hb dX11_kind_1 rfl (lv_at hl 1 rfl) ?_
  refine z_cV (As := [.int l1]) (rest := []) B hW (f_X11_isOne l h0) sc_X11_isOne sv_X11_83 h0 ⟨Nat.le_of_ble_eq_true rfl, Nat.le_of_ble_eq_true rfl⟩ ⟨Nat.zero_le _, Nat.zero_le _⟩ rfl hl.1 rfl (Nat.le_of_ble_eq_true rfl) dX11_kind_2 (fun H locs hW => ?_)
  refine lv_if_eq (tgt := 20) hx hb dX11_kind_5 (by decide) (fun c3 => ?_) (fun c3 => ?_)
  · have hf := z_it c3 hf
    refine lv_aload_n hx hb dX11_kind_20 rfl (lv_at hl 0 rfl) ?_
    refine lv_ldc hx hb ho (hw _ q916) dX11_kind_21 ?_
    obtain ⟨r4, M5, e6, hf⟩ := z_bpe hf
    refine z_cV (As := [.int (-1000000001 : Int32)]) (rest := []) B hW (f_X11_finds l e6 h0) sc_X11_finds sv_X11_40 h0 ⟨Nat.le_of_ble_eq_true rfl, Nat.le_of_ble_eq_true rfl⟩ ⟨Nat.zero_le _, Nat.zero_le _⟩ rfl hl.1 rfl (Nat.le_of_ble_eq_true rfl) dX11_kind_23 (fun H locs hW => ?_)
    obtain ⟨e1, e2⟩ := z_s2 hf
    subst e1
    subst e2
    exact z_ri B hW dX11_kind_26
  · have hf := z_if c3 hf
    refine lv_iload_n hx hb dX11_kind_8 rfl (lv_at hl 2 rfl) ?_
    refine lv_i2l hx hb dX11_kind_9 rfl ?_
    refine lv_lconst (v := 1) hx hb dX11_kind_10 (by decide) ?_
    refine lv_ldc2 hx hb ho (hw _ q1022) dX11_kind_11 ?_
    refine z_cS (As := [.long l2.toInt64, .long (1 : Int64), .long (100 : Int64)]) (rest := []) B hW (f_X11_isIn l) sc_X11_isIn ⟨q909, q910⟩ ⟨Nat.le_of_ble_eq_true rfl, Nat.le_of_ble_eq_true rfl⟩ ⟨Nat.zero_le _, Nat.zero_le _⟩ rfl hl.1 rfl (Nat.le_of_ble_eq_true rfl) dX11_kind_14 (fun H locs hW => ?_)
    refine lv_if_ne (tgt := 27) hx hb dX11_kind_17 (by decide) (fun c9 => ?_) (fun c9 => ?_)
    · have hf := z_if c9 hf
      refine lv_aload_n hx hb dX11_kind_27 rfl (lv_at hl 0 rfl) ?_
      refine z_get_11_0 B hW h0 q855 dX11_kind_28 ?_
      refine lv_aload_n hx hb dX11_kind_31 rfl (lv_at hl 0 rfl) ?_
      refine z_get_11_3 B hW h0 q858 dX11_kind_32 ?_
      obtain ⟨M11, e12, hf⟩ := z_bd hf
      refine z_cS (As := [.ref (z_r Γ l0 0), .ref (z_r Γ l0 3)]) (rest := []) B hW (f_X11_copyRow l e12 (z_g11_0 hg h0) (z_g11_3 hg h0)) sc_X11_copyRow ⟨q1066, q1067⟩ ⟨Nat.le_of_ble_eq_true rfl, Nat.le_of_ble_eq_true rfl⟩ ⟨Nat.zero_le _, Nat.zero_le _⟩ rfl hl.1 rfl (Nat.le_of_ble_eq_true rfl) dX11_kind_35 (fun H locs hW => ?_)
      refine lv_iconst (v := 0) hx hb dX11_kind_38 (by decide) ?_
      refine lv_istore_n (lv' := [(3, .int (0 : Int32)), (0, .ref l0), (1, .int l1), (2, .int l2)]) hx hb dX11_kind_39 rfl hl (by decide) rfl (fun ls hl => ?_)
      refine lv_iconst (v := -1) hx hb dX11_kind_40 (by decide) ?_
      refine lv_istore (lv' := [(4, .int (-1 : Int32)), (3, .int (0 : Int32)), (0, .ref l0), (1, .int l1), (2, .int l2)]) hx hb dX11_kind_41 hl (by decide) rfl (fun ls hl => ?_)
      refine lv_iconst (v := 0) hx hb dX11_kind_43 (by decide) ?_
      refine lv_istore (lv' := [(5, .int (0 : Int32)), (4, .int (-1 : Int32)), (3, .int (0 : Int32)), (0, .ref l0), (1, .int l1), (2, .int l2)]) hx hb dX11_kind_44 hl (by decide) rfl (fun ls hl => ?_)
      exact w_X11_kind_P46 B 1000 M11 l0 l1 l2 (0 : Int32) (-1 : Int32) (0 : Int32) _ _ hf h0 _ _ _ hW (lv_sub hl [3, 4, 5, 2, 1, 0] rfl)
    · have hf := z_it c9 hf
      refine lv_aload_n hx hb dX11_kind_20 rfl (lv_at hl 0 rfl) ?_
      refine lv_ldc hx hb ho (hw _ q916) dX11_kind_21 ?_
      obtain ⟨r13, M14, e15, hf⟩ := z_bpe hf
      refine z_cV (As := [.int (-1000000001 : Int32)]) (rest := []) B hW (f_X11_finds l e15 h0) sc_X11_finds sv_X11_40 h0 ⟨Nat.le_of_ble_eq_true rfl, Nat.le_of_ble_eq_true rfl⟩ ⟨Nat.zero_le _, Nat.zero_le _⟩ rfl hl.1 rfl (Nat.le_of_ble_eq_true rfl) dX11_kind_23 (fun H locs hW => ?_)
      obtain ⟨e1, e2⟩ := z_s2 hf
      subst e1
      subst e2
      exact z_ri B hW dX11_kind_26
set_option maxHeartbeats 4000000 in
set_option maxRecDepth 100000 in
theorem f_X11_isAsked (l : Launch) {Γ : Zg} {M : Zm} {l0 : Nat} {l1 : Int32} {l2 : Int32} (h0 : z_Is Γ 11 l0) : z_Fn l Γ yX11_isAsked cX11_isAsked 3 (some .boolean) 1 25 [.ref l0, .int l1, .int l2] M (some (.int (X11_isAsked Γ M l0 l1 l2))) M := by
  generalize hf : X11_isAsked Γ M l0 l1 l2 = r
  refine z_Fn.of (by decide) (Nat.le_of_ble_eq_true rfl) ?_
  intro p e s m below meth c ls B hW hl
  have B : z_Bd Γ p s m _ meth c cX11_isAsked 3 (some .boolean) RX11 := B
  have hl : lv_has ls 3 [(0, .ref l0), (1, .int l1), (2, .int l2)] := hl
  rw [X11_isAsked] at hf
  have hx := B.1
  have hb := B.2.1
  have hml := B.2.2.1
  have ho := B.2.2.2.1
  have hw := B.2.2.2.2.1
  have hE := B.2.2.2.2.2.1.2.2
  have hg := B.2.2.2.2.2.2.1
  refine lv_aload_n hx hb dX11_isAsked_0 rfl (lv_at hl 0 rfl) ?_
  refine lv_iload_n hx hb dX11_isAsked_1 rfl (lv_at hl 1 rfl) ?_
  refine z_cV (As := [.int l1]) (rest := []) B hW (f_X11_isOne l h0) sc_X11_isOne sv_X11_83 h0 ⟨Nat.le_of_ble_eq_true rfl, Nat.le_of_ble_eq_true rfl⟩ ⟨Nat.zero_le _, Nat.zero_le _⟩ rfl hl.1 rfl (Nat.le_of_ble_eq_true rfl) dX11_isAsked_2 (fun H locs hW => ?_)
  refine lv_if_eq (tgt := 24) hx hb dX11_isAsked_5 (by decide) (fun c3 => ?_) (fun c3 => ?_)
  · have hf := z_it c3 hf
    refine lv_iconst (v := 0) hx hb dX11_isAsked_24 (by decide) ?_
    subst hf
    exact z_rz B hW (Or.inl rfl) dX11_isAsked_25
  · have hf := z_if c3 hf
    refine lv_iload_n hx hb dX11_isAsked_8 rfl (lv_at hl 2 rfl) ?_
    refine lv_i2l hx hb dX11_isAsked_9 rfl ?_
    refine lv_lconst (v := 1) hx hb dX11_isAsked_10 (by decide) ?_
    refine lv_ldc2 hx hb ho (hw _ q1094) dX11_isAsked_11 ?_
    refine z_cS (As := [.long l2.toInt64, .long (1 : Int64), .long (60 : Int64)]) (rest := []) B hW (f_X11_isIn l) sc_X11_isIn ⟨q909, q910⟩ ⟨Nat.le_of_ble_eq_true rfl, Nat.le_of_ble_eq_true rfl⟩ ⟨Nat.zero_le _, Nat.zero_le _⟩ rfl hl.1 rfl (Nat.le_of_ble_eq_true rfl) dX11_isAsked_14 (fun H locs hW => ?_)
    refine lv_if_eq (tgt := 24) hx hb dX11_isAsked_17 (by decide) (fun c6 => ?_) (fun c6 => ?_)
    · have hf := z_it c6 hf
      refine lv_iconst (v := 0) hx hb dX11_isAsked_24 (by decide) ?_
      subst hf
      exact z_rz B hW (Or.inl rfl) dX11_isAsked_25
    · have hf := z_if c6 hf
      refine lv_iconst (v := 1) hx hb dX11_isAsked_20 (by decide) ?_
      refine lv_goto (tgt := 25) hx hb dX11_isAsked_21 (by decide) ?_
      subst hf
      exact z_rz B hW (Or.inr rfl) dX11_isAsked_25
set_option maxHeartbeats 4000000 in
set_option maxRecDepth 100000 in
theorem w_X11_forget_P35 (B : z_Bd Γ p s m args meth c cX11_forget 8 (some .int) RX11) : ∀ (n : Nat) (M : Zm) (l0 : Nat) (l1 : Int32) (l2 : Int32) (l3 : Int32) (l4 : Int32) (l5 : Int32) (r : Int32) (M' : Zm), X11_forget_P35 Γ n M l0 l1 l2 l3 l4 l5 = some (r, M') → z_Is Γ 11 l0 → ∀ (H : Heap) (locs : List Loc) (ls : Array Slot), z_Wd Γ M s.heap H locs → lv_has ls 8 [(0, .ref l0), (1, .int l1), (2, .int l2), (3, .int l3), (4, .int l4), (5, .int l5)] → W p l e (z_rm 5 117) s m args below meth c H locs 0 0 (z_Q Γ below args s (some (.int r)) M') (F0 m 35 ls []) := by
  have hx := B.1
  have hb := B.2.1
  have hml := B.2.2.1
  have ho := B.2.2.2.1
  have hw := B.2.2.2.2.1
  have hE := B.2.2.2.2.2.1.2.2
  have hg := B.2.2.2.2.2.2.1
  intro n
  induction n with
  | zero =>
    intro M l0 l1 l2 l3 l4 l5 r M' hf h0 H locs ls hW hl
    cases hf
  | succ n ih =>
    intro M l0 l1 l2 l3 l4 l5 r M' hf h0 H locs ls hW hl
    rw [X11_forget_P35] at hf
    refine lv_iload hx hb dX11_forget_35 (lv_at hl 5 rfl) ?_
    refine lv_bipush (v := 10) hx hb dX11_forget_37 (by decide) ?_
    refine lv_icmp_ge (tgt := 135) hx hb dX11_forget_39 (by decide) (fun c10 => ?_) (fun c10 => ?_)
    · have hf := z_it c10 hf
      refine lv_aload_n hx hb dX11_forget_135 rfl (lv_at hl 0 rfl) ?_
      refine lv_iload_n hx hb dX11_forget_136 rfl (lv_at hl 3 rfl) ?_
      obtain ⟨r11, M12, e13, hf⟩ := z_bpe hf
      refine z_cV (As := [.int l3]) (rest := []) B hW (f_X11_orNone l e13 h0) sc_X11_orNone sv_X11_160 h0 ⟨Nat.le_of_ble_eq_true rfl, Nat.le_of_ble_eq_true rfl⟩ ⟨Nat.zero_le _, Nat.zero_le _⟩ rfl hl.1 rfl (Nat.le_of_ble_eq_true rfl) dX11_forget_137 (fun H locs hW => ?_)
      obtain ⟨e1, e2⟩ := z_s2 hf
      subst e1
      subst e2
      exact z_ri B hW dX11_forget_140
    · have hf := z_if c10 hf
      refine lv_aload_n hx hb dX11_forget_42 rfl (lv_at hl 0 rfl) ?_
      refine lv_iload_n hx hb dX11_forget_43 rfl (lv_at hl 1 rfl) ?_
      refine lv_iconst (v := 1) hx hb dX11_forget_44 (by decide) ?_
      obtain ⟨r14, e15, hf⟩ := z_bd hf
      refine z_cV (As := [.int l1, .int (1 : Int32)]) (rest := []) B hW (f_X11_its l e15 h0) sc_X11_its sv_X11_58 h0 ⟨Nat.le_of_ble_eq_true rfl, Nat.le_of_ble_eq_true rfl⟩ ⟨Nat.zero_le _, Nat.zero_le _⟩ rfl hl.1 rfl (Nat.le_of_ble_eq_true rfl) dX11_forget_45 (fun H locs hW => ?_)
      refine lv_iload hx hb dX11_forget_48 (lv_at hl 5 rfl) ?_
      refine lv_ishr hx hb dX11_forget_50 ?_
      refine lv_iconst (v := 1) hx hb dX11_forget_51 (by decide) ?_
      refine lv_iand hx hb dX11_forget_52 ?_
      refine lv_iconst (v := 1) hx hb dX11_forget_53 (by decide) ?_
      refine lv_icmp_ne (tgt := 129) hx hb dX11_forget_54 (by decide) (fun c16 => ?_) (fun c16 => ?_)
      · have hf := z_if c16 hf
        refine lv_iinc (v := l5 + (1 : Int32)) (lv' := [(5, .int (l5 + (1 : Int32))), (0, .ref l0), (1, .int l1), (2, .int l2), (3, .int l3), (4, .int l4)]) hx hb dX11_forget_129 hl (k := 5) rfl rfl (by decide) rfl (fun ls hl => ?_)
        refine lv_goto (tgt := 35) hx hb dX11_forget_132 (by decide) ?_
        exact ih M l0 l1 l2 l3 l4 (l5 + (1 : Int32)) _ _ hf h0 _ _ _ hW (lv_sub hl [1, 2, 3, 4, 5, 0] rfl)
      · have hf := z_it c16 hf
        refine lv_aload_n hx hb dX11_forget_57 rfl (lv_at hl 0 rfl) ?_
        refine lv_iload_n hx hb dX11_forget_58 rfl (lv_at hl 1 rfl) ?_
        refine lv_aload_n hx hb dX11_forget_59 rfl (lv_at hl 0 rfl) ?_
        refine lv_iload_n hx hb dX11_forget_60 rfl (lv_at hl 1 rfl) ?_
        refine lv_iconst (v := 1) hx hb dX11_forget_61 (by decide) ?_
        obtain ⟨r17, e18, hf⟩ := z_bd hf
        refine z_cV (As := [.int l1, .int (1 : Int32)]) (rest := [.int l1, .ref l0]) B hW (f_X11_its l e18 h0) sc_X11_its sv_X11_58 h0 ⟨Nat.le_of_ble_eq_true rfl, Nat.le_of_ble_eq_true rfl⟩ ⟨Nat.zero_le _, Nat.zero_le _⟩ rfl hl.1 rfl (Nat.le_of_ble_eq_true rfl) dX11_forget_62 (fun H locs hW => ?_)
        refine lv_iconst (v := 1) hx hb dX11_forget_65 (by decide) ?_
        refine lv_iload hx hb dX11_forget_66 (lv_at hl 5 rfl) ?_
        refine lv_ishl hx hb dX11_forget_68 ?_
        refine lv_iconst (v := -1) hx hb dX11_forget_69 (by decide) ?_
        refine lv_ixor hx hb dX11_forget_70 ?_
        refine lv_iand hx hb dX11_forget_71 ?_
        obtain ⟨r19, M20, e21, hf⟩ := z_bpe hf
        refine z_cV (As := [.int l1, .int (r17 &&& (((1 : Int32) <<< (l5 &&& 31)) ^^^ (-1 : Int32)))]) (rest := []) B hW (f_X11_knowsNow l e21 h0) sc_X11_knowsNow sv_X11_100 h0 ⟨Nat.le_of_ble_eq_true rfl, Nat.le_of_ble_eq_true rfl⟩ ⟨Nat.zero_le _, Nat.zero_le _⟩ rfl hl.1 rfl (Nat.le_of_ble_eq_true rfl) dX11_forget_72 (fun H locs hW => ?_)
        refine lv_istore (lv' := [(6, .int r19), (0, .ref l0), (1, .int l1), (2, .int l2), (3, .int l3), (4, .int l4), (5, .int l5)]) hx hb dX11_forget_75 hl (by decide) rfl (fun ls hl => ?_)
        refine lv_aload_n hx hb dX11_forget_77 rfl (lv_at hl 1 rfl) ?_
        refine lv_iload_n hx hb dX11_forget_78 rfl (lv_at hl 3 rfl) ?_
        obtain ⟨M23, e24, hf⟩ := z_bd hf
        refine z_cV (As := [.int l2]) (rest := []) B hW (f_X11_goes l e24 h0) sc_X11_goes sv_X11_137 h0 ⟨Nat.le_of_ble_eq_true rfl, Nat.le_of_ble_eq_true rfl⟩ ⟨Nat.zero_le _, Nat.zero_le _⟩ rfl hl.1 rfl (Nat.le_of_ble_eq_true rfl) dX11_forget_79 (fun H locs hW => ?_)
        refine lv_aload_n hx hb dX11_forget_82 rfl (lv_at hl 1 rfl) ?_
        obtain ⟨r25, e26, hf⟩ := z_bd hf
        refine z_cV (As := []) (rest := []) B hW (f_X11_heardOfAll l e26 h0) sc_X11_heardOfAll sv_X11_140 h0 ⟨Nat.le_of_ble_eq_true rfl, Nat.le_of_ble_eq_true rfl⟩ ⟨Nat.zero_le _, Nat.zero_le _⟩ rfl hl.1 rfl (Nat.le_of_ble_eq_true rfl) dX11_forget_83 (fun H locs hW => ?_)
        refine lv_istore (lv' := [(7, .int r25), (6, .int r19), (0, .ref l0), (1, .int l1), (2, .int l2), (3, .int l3), (4, .int l4), (5, .int l5)]) hx hb dX11_forget_86 hl (by decide) rfl (fun ls hl => ?_)
        refine lv_aload_n hx hb dX11_forget_88 rfl (lv_at hl 2 rfl) ?_
        refine z_get_11_3 B hW h0 q858 dX11_forget_89 ?_
        refine lv_aload_n hx hb dX11_forget_92 rfl (lv_at hl 2 rfl) ?_
        refine z_get_11_0 B hW h0 q855 dX11_forget_93 ?_
        obtain ⟨M28, e29, hf⟩ := z_bd hf
        refine z_cS (As := [.ref (z_r Γ l0 3), .ref (z_r Γ l0 0)]) (rest := []) B hW (f_X11_copyRow l e29 (z_g11_3 hg h0) (z_g11_0 hg h0)) sc_X11_copyRow ⟨q1066, q1067⟩ ⟨Nat.le_of_ble_eq_true rfl, Nat.le_of_ble_eq_true rfl⟩ ⟨Nat.zero_le _, Nat.zero_le _⟩ rfl hl.1 rfl (Nat.le_of_ble_eq_true rfl) dX11_forget_96 (fun H locs hW => ?_)
        refine lv_iload hx hb dX11_forget_99 (lv_at hl 0 rfl) ?_
        refine lv_iload hx hb dX11_forget_101 (lv_at hl 6 rfl) ?_
        refine lv_icmp_le (tgt := 111) hx hb dX11_forget_103 (by decide) (fun c30 => ?_) (fun c30 => ?_)
        · have hf := z_it c30 hf
          refine lv_iload_n hx hb dX11_forget_111 rfl (lv_at hl 5 rfl) ?_
          refine lv_istore_n (lv' := [(3, .int l3), (7, .int r25), (6, .int r19), (0, .ref l0), (1, .int l1), (2, .int l2), (4, .int l4), (5, .int l5)]) hx hb dX11_forget_112 rfl hl (by decide) rfl (fun ls hl => ?_)
          refine lv_iload hx hb dX11_forget_113 (lv_at hl 1 rfl) ?_
          refine lv_iload hx hb dX11_forget_115 (lv_at hl 6 rfl) ?_
          refine lv_icmp_le (tgt := 125) hx hb dX11_forget_117 (by decide) (fun c31 => ?_) (fun c31 => ?_)
          · have hf := z_it c31 hf
            refine lv_iload hx hb dX11_forget_125 (lv_at hl 6 rfl) ?_
            refine lv_istore (lv' := [(4, .int l4), (3, .int l3), (7, .int r25), (6, .int r19), (0, .ref l0), (1, .int l1), (2, .int l2), (5, .int l5)]) hx hb dX11_forget_127 hl (by decide) rfl (fun ls hl => ?_)
            refine lv_iinc (v := l5 + (1 : Int32)) (lv' := [(5, .int (l5 + (1 : Int32))), (4, .int l4), (3, .int l3), (7, .int r25), (6, .int r19), (0, .ref l0), (1, .int l1), (2, .int l2)]) hx hb dX11_forget_129 hl (k := 7) rfl rfl (by decide) rfl (fun ls hl => ?_)
            refine lv_goto (tgt := 35) hx hb dX11_forget_132 (by decide) ?_
            exact ih M28 l0 l1 l2 l3 l4 (l5 + (1 : Int32)) _ _ hf h0 _ _ _ hW (lv_sub hl [5, 6, 7, 2, 1, 0] rfl)
          · have hf := z_if c31 hf
            refine lv_iload hx hb dX11_forget_120 (lv_at hl 1 rfl) ?_
            refine lv_goto (tgt := 127) hx hb dX11_forget_122 (by decide) ?_
            refine lv_istore (lv' := [(4, .int r25), (3, .int l3), (7, .int r25), (6, .int r19), (0, .ref l0), (1, .int l1), (2, .int l2), (5, .int l5)]) hx hb dX11_forget_127 hl (by decide) rfl (fun ls hl => ?_)
            refine lv_iinc (v := l5 + (1 : Int32)) (lv' := [(5, .int (l5 + (1 : Int32))), (4, .int r25), (3, .int l3), (7, .int r25), (6, .int r19), (0, .ref l0), (1, .int l1), (2, .int l2)]) hx hb dX11_forget_129 hl (k := 7) rfl rfl (by decide) rfl (fun ls hl => ?_)
            refine lv_goto (tgt := 35) hx hb dX11_forget_132 (by decide) ?_
            exact ih M28 l0 l1 l2 l3 r25 (l5 + (1 : Int32)) _ _ hf h0 _ _ _ hW (lv_sub hl [5, 6, 7, 2, 1, 0] rfl)
        · have hf := z_if c30 hf
          refine lv_iload hx hb dX11_forget_106 (lv_at hl 7 rfl) ?_
          refine lv_goto (tgt := 112) hx hb dX11_forget_108 (by decide) ?_
          refine lv_istore_n (lv' := [(3, .int l5), (7, .int r25), (6, .int r19), (0, .ref l0), (1, .int l1), (2, .int l2), (4, .int l4), (5, .int l5)]) hx hb dX11_forget_112 rfl hl (by decide) rfl (fun ls hl => ?_)
          refine lv_iload hx hb dX11_forget_113 (lv_at hl 1 rfl) ?_
          refine lv_iload hx hb dX11_forget_115 (lv_at hl 6 rfl) ?_
          refine lv_icmp_le (tgt := 125) hx hb dX11_forget_117 (by decide) (fun c32 => ?_) (fun c32 => ?_)
          · have hf := z_it c32 hf
            refine lv_iload hx hb dX11_forget_125 (lv_at hl 6 rfl) ?_
            refine lv_istore (lv' := [(4, .int l4), (3, .int l5), (7, .int r25), (6, .int r19), (0, .ref l0), (1, .int l1), (2, .int l2), (5, .int l5)]) hx hb dX11_forget_127 hl (by decide) rfl (fun ls hl => ?_)
            refine lv_iinc (v := l5 + (1 : Int32)) (lv' := [(5, .int (l5 + (1 : Int32))), (4, .int l4), (3, .int l5), (7, .int r25), (6, .int r19), (0, .ref l0), (1, .int l1), (2, .int l2)]) hx hb dX11_forget_129 hl (k := 7) rfl rfl (by decide) rfl (fun ls hl => ?_)
            refine lv_goto (tgt := 35) hx hb dX11_forget_132 (by decide) ?_
            exact ih M28 l0 l1 l2 l5 l4 (l5 + (1 : Int32)) _ _ hf h0 _ _ _ hW (lv_sub hl [5, 6, 7, 2, 1, 0] rfl)
          · have hf := z_if c32 hf
            refine lv_iload hx hb dX11_forget_120 (lv_at hl 1 rfl) ?_
            refine lv_goto (tgt := 127) hx hb dX11_forget_122 (by decide) ?_
            refine lv_istore (lv' := [(4, .int r25), (3, .int l5), (7, .int r25), (6, .int r19), (0, .ref l0), (1, .int l1), (2, .int l2), (5, .int l5)]) hx hb dX11_forget_127 hl (by decide) rfl (fun ls hl => ?_)
            refine lv_iinc (v := l5 + (1 : Int32)) (lv' := [(5, .int (l5 + (1 : Int32))), (4, .int r25), (3, .int l5), (7, .int r25), (6, .int r19), (0, .ref l0), (1, .int l1), (2, .int l2)]) hx hb dX11_forget_129 hl (k := 7) rfl rfl (by decide) rfl (fun ls hl => ?_)
            refine lv_goto (tgt := 35) hx hb dX11_forget_132 (by decide) ?_
            exact ih M28 l0 l1 l2 l5 r25 (l5 + (1 : Int32)) _ _ hf h0 _ _ _ hW (lv_sub hl [5, 6, 7, 2, 1, 0] rfl)
set_option maxHeartbeats 4000000 in
set_option maxRecDepth 100000 in
theorem f_X11_forget (l : Launch) {Γ : Zg} {M : Zm} {l0 : Nat} {l1 : Int32} {l2 : Int32} {r : Int32} {M' : Zm} (hf : X11_forget Γ M l0 l1 l2 = some (r, M')) (h0 : z_Is Γ 11 l0) : z_Fn l Γ yX11_forget cX11_forget 8 (some .int) 5 117 [.ref l0, .int l1, .int l2] M (some (.int r)) M' := by
  refine z_Fn.of (by decide) (Nat.le_of_ble_eq_true rfl) ?_
  intro p e s m below meth c ls B hW hl
  have B : z_Bd Γ p s m _ meth c cX11_forget 8 (some .int) RX11 := B
  have hl : lv_has ls 8 [(0, .ref l0), (1, .int l1), (2, .int l2)] := hl
  rw [X11_forget] at hf
  have hx := B.1
  have hb := B.2.1
  have hml := B.2.2.1
  have ho := B.2.2.2.1
  have hw := B.2.2.2.2.1
  have hE := B.2.2.2.2.2.1.2.2
  have hg := B.2.2.2.2.2.2.1
  refine lv_aload_n hx hb dX11_forget_0 rfl (lv_at hl 0 rfl) ?_
  refine lv_iload_n hx hb dX11_forget_1 rfl (lv_at hl 1 rfl) ?_
  refine lv_iload_n hx hb dX11_forget_2 rfl (lv_at hl 2 rfl) ?_
  refine z_cV (As := [.int l1, .int l2]) (rest := []) B hW (f_X11_isAsked l h0) sc_X11_isAsked sv_X11_157 h0 ⟨Nat.le_of_ble_eq_true rfl, Nat.le_of_ble_eq_true rfl⟩ ⟨Nat.zero_le _, Nat.zero_le _⟩ rfl hl.1 rfl (Nat.le_of_ble_eq_true rfl) dX11_forget_3 (fun H locs hW => ?_)
  refine lv_if_ne (tgt := 16) hx hb dX11_forget_6 (by decide) (fun c3 => ?_) (fun c3 => ?_)
  · have hf := z_if c3 hf
    refine lv_aload_n hx hb dX11_forget_16 rfl (lv_at hl 0 rfl) ?_
    refine z_get_11_0 B hW h0 q855 dX11_forget_17 ?_
    refine lv_aload_n hx hb dX11_forget_20 rfl (lv_at hl 0 rfl) ?_
    refine z_get_11_3 B hW h0 q858 dX11_forget_21 ?_
    obtain ⟨M5, e6, hf⟩ := z_bd hf
    refine z_cS (As := [.ref (z_r Γ l0 0), .ref (z_r Γ l0 3)]) (rest := []) B hW (f_X11_copyRow l e6 (z_g11_0 hg h0) (z_g11_3 hg h0)) sc_X11_copyRow ⟨q1066, q1067⟩ ⟨Nat.le_of_ble_eq_true rfl, Nat.le_of_ble_eq_true rfl⟩ ⟨Nat.zero_le _, Nat.zero_le _⟩ rfl hl.1 rfl (Nat.le_of_ble_eq_true rfl) dX11_forget_24 (fun H locs hW => ?_)
    refine lv_iconst (v := -1) hx hb dX11_forget_27 (by decide) ?_
    refine lv_istore_n (lv' := [(3, .int (-1 : Int32)), (0, .ref l0), (1, .int l1), (2, .int l2)]) hx hb dX11_forget_28 rfl hl (by decide) rfl (fun ls hl => ?_)
    refine lv_iconst (v := -1) hx hb dX11_forget_29 (by decide) ?_
    refine lv_istore (lv' := [(4, .int (-1 : Int32)), (3, .int (-1 : Int32)), (0, .ref l0), (1, .int l1), (2, .int l2)]) hx hb dX11_forget_30 hl (by decide) rfl (fun ls hl => ?_)
    refine lv_iconst (v := 0) hx hb dX11_forget_32 (by decide) ?_
    refine lv_istore (lv' := [(5, .int (0 : Int32)), (4, .int (-1 : Int32)), (3, .int (-1 : Int32)), (0, .ref l0), (1, .int l1), (2, .int l2)]) hx hb dX11_forget_33 hl (by decide) rfl (fun ls hl => ?_)
    exact w_X11_forget_P35 B 1000 M5 l0 l1 l2 (-1 : Int32) (-1 : Int32) (0 : Int32) _ _ hf h0 _ _ _ hW (lv_sub hl [3, 4, 5, 2, 1, 0] rfl)
  · have hf := z_it c3 hf
    refine lv_aload_n hx hb dX11_forget_9 rfl (lv_at hl 0 rfl) ?_
    refine lv_ldc hx hb ho (hw _ q916) dX11_forget_10 ?_
    obtain ⟨r7, M8, e9, hf⟩ := z_bpe hf
    refine z_cV (As := [.int (-1000000001 : Int32)]) (rest := []) B hW (f_X11_finds l e9 h0) sc_X11_finds sv_X11_40 h0 ⟨Nat.le_of_ble_eq_true rfl, Nat.le_of_ble_eq_true rfl⟩ ⟨Nat.zero_le _, Nat.zero_le _⟩ rfl hl.1 rfl (Nat.le_of_ble_eq_true rfl) dX11_forget_12 (fun H locs hW => ?_)
    obtain ⟨e1, e2⟩ := z_s2 hf
    subst e1
    subst e2
    exact z_ri B hW dX11_forget_15
set_option maxHeartbeats 4000000 in
set_option maxRecDepth 100000 in
theorem w_X11_howManyKnow_P4 (B : z_Bd Γ p s m args meth c cX11_howManyKnow 4 (some .int) RX11) : ∀ (n : Nat) (M : Zm) (l0 : Nat) (l1 : Int32) (l2 : Int32) (l3 : Int32) (r : Int32), X11_howManyKnow_P4 Γ n M l0 l1 l2 l3 = some r → z_Is Γ 11 l0 → ∀ (H : Heap) (locs : List Loc) (ls : Array Slot), z_Wd Γ M s.heap H locs → lv_has ls 4 [(0, .ref l0), (1, .int l1), (2, .int l2), (3, .int l3)] → W p l e (z_rm 1 22) s m args below meth c H locs 0 0 (z_Q Γ below args s (some (.int r)) M) (F0 m 4 ls []) := by
  have hx := B.1
  have hb := B.2.1
  have hml := B.2.2.1
  have ho := B.2.2.2.1
  have hw := B.2.2.2.2.1
  have hE := B.2.2.2.2.2.1.2.2
  have hg := B.2.2.2.2.2.2.1
  intro n
  induction n with
  | zero =>
    intro M l0 l1 l2 l3 r hf h0 H locs ls hW hl
    cases hf
  | succ n ih =>
    intro M l0 l1 l2 l3 r hf h0 H locs ls hW hl
    rw [X11_howManyKnow_P4] at hf
    refine lv_iload_n hx hb dX11_howManyKnow_4 rfl (lv_at hl 3 rfl) ?_
    refine lv_aload_n hx hb dX11_howManyKnow_5 rfl (lv_at hl 0 rfl) ?_
    refine z_get_11_0 B hW h0 q855 dX11_howManyKnow_6 ?_
    refine lv_iconst (v := 0) hx hb dX11_howManyKnow_9 (by decide) ?_
    refine z_ia B hW (z_g11_0 hg h0) (z_ixd (by decide)) dX11_howManyKnow_10 ?_
    refine lv_icmp_ge (tgt := 33) hx hb dX11_howManyKnow_11 (by decide) (fun c1 => ?_) (fun c1 => ?_)
    · have hf := z_it c1 hf
      refine lv_iload_n hx hb dX11_howManyKnow_33 rfl (lv_at hl 2 rfl) ?_
      have hf := Option.some.inj hf
      subst hf
      exact z_ri B hW dX11_howManyKnow_34
    · have hf := z_if c1 hf
      refine lv_iload_n hx hb dX11_howManyKnow_14 rfl (lv_at hl 2 rfl) ?_
      refine lv_aload_n hx hb dX11_howManyKnow_15 rfl (lv_at hl 0 rfl) ?_
      refine lv_iload_n hx hb dX11_howManyKnow_16 rfl (lv_at hl 3 rfl) ?_
      refine lv_iconst (v := 1) hx hb dX11_howManyKnow_17 (by decide) ?_
      obtain ⟨r2, e3, hf⟩ := z_bd hf
      refine z_cV (As := [.int l3, .int (1 : Int32)]) (rest := [.int l2]) B hW (f_X11_its l e3 h0) sc_X11_its sv_X11_58 h0 ⟨Nat.le_of_ble_eq_true rfl, Nat.le_of_ble_eq_true rfl⟩ ⟨Nat.zero_le _, Nat.zero_le _⟩ rfl hl.1 rfl (Nat.le_of_ble_eq_true rfl) dX11_howManyKnow_18 (fun H locs hW => ?_)
      refine lv_iload_n hx hb dX11_howManyKnow_21 rfl (lv_at hl 1 rfl) ?_
      refine lv_ishr hx hb dX11_howManyKnow_22 ?_
      refine lv_iconst (v := 1) hx hb dX11_howManyKnow_23 (by decide) ?_
      refine lv_iand hx hb dX11_howManyKnow_24 ?_
      refine lv_iadd hx hb dX11_howManyKnow_25 ?_
      refine lv_istore_n (lv' := [(2, .int (l2 + ((r2 >>> (l1 &&& 31)) &&& (1 : Int32)))), (0, .ref l0), (1, .int l1), (3, .int l3)]) hx hb dX11_howManyKnow_26 rfl hl (by decide) rfl (fun ls hl => ?_)
      refine lv_iinc (v := l3 + (1 : Int32)) (lv' := [(3, .int (l3 + (1 : Int32))), (2, .int (l2 + ((r2 >>> (l1 &&& 31)) &&& (1 : Int32)))), (0, .ref l0), (1, .int l1)]) hx hb dX11_howManyKnow_27 hl (k := 3) rfl rfl (by decide) rfl (fun ls hl => ?_)
      refine lv_goto (tgt := 4) hx hb dX11_howManyKnow_30 (by decide) ?_
      exact ih M l0 l1 (l2 + ((r2 >>> (l1 &&& 31)) &&& (1 : Int32))) (l3 + (1 : Int32)) _ hf h0 _ _ _ hW (lv_sub hl [2, 3, 1, 0] rfl)
set_option maxHeartbeats 4000000 in
set_option maxRecDepth 100000 in
theorem f_X11_howManyKnow (l : Launch) {Γ : Zg} {M : Zm} {l0 : Nat} {l1 : Int32} {r : Int32} (hf : X11_howManyKnow Γ M l0 l1 = some r) (h0 : z_Is Γ 11 l0) : z_Fn l Γ yX11_howManyKnow cX11_howManyKnow 4 (some .int) 1 22 [.ref l0, .int l1] M (some (.int r)) M := by
  refine z_Fn.of (by decide) (Nat.le_of_ble_eq_true rfl) ?_
  intro p e s m below meth c ls B hW hl
  have B : z_Bd Γ p s m _ meth c cX11_howManyKnow 4 (some .int) RX11 := B
  have hl : lv_has ls 4 [(0, .ref l0), (1, .int l1)] := hl
  rw [X11_howManyKnow] at hf
  have hx := B.1
  have hb := B.2.1
  have hml := B.2.2.1
  have ho := B.2.2.2.1
  have hw := B.2.2.2.2.1
  have hE := B.2.2.2.2.2.1.2.2
  have hg := B.2.2.2.2.2.2.1
  refine lv_iconst (v := 0) hx hb dX11_howManyKnow_0 (by decide) ?_
  refine lv_istore_n (lv' := [(2, .int (0 : Int32)), (0, .ref l0), (1, .int l1)]) hx hb dX11_howManyKnow_1 rfl hl (by decide) rfl (fun ls hl => ?_)
  refine lv_iconst (v := 0) hx hb dX11_howManyKnow_2 (by decide) ?_
  refine lv_istore_n (lv' := [(3, .int (0 : Int32)), (2, .int (0 : Int32)), (0, .ref l0), (1, .int l1)]) hx hb dX11_howManyKnow_3 rfl hl (by decide) rfl (fun ls hl => ?_)
  exact w_X11_howManyKnow_P4 B 1000 M l0 l1 (0 : Int32) (0 : Int32) _ hf h0 _ _ _ hW (lv_sub hl [2, 3, 1, 0] rfl)
set_option maxHeartbeats 4000000 in
set_option maxRecDepth 100000 in
theorem w_X11_confide_P35 (B : z_Bd Γ p s m args meth c cX11_confide 7 (some .int) RX11) : ∀ (n : Nat) (M : Zm) (l0 : Nat) (l1 : Int32) (l2 : Int32) (l3 : Int32) (l4 : Int32) (l5 : Int32) (r : Int32) (M' : Zm), X11_confide_P35 Γ n M l0 l1 l2 l3 l4 l5 = some (r, M') → z_Is Γ 11 l0 → ∀ (H : Heap) (locs : List Loc) (ls : Array Slot), z_Wd Γ M s.heap H locs → lv_has ls 7 [(0, .ref l0), (1, .int l1), (2, .int l2), (3, .int l3), (4, .int l4), (5, .int l5)] → W p l e (z_rm 5 117) s m args below meth c H locs 0 0 (z_Q Γ below args s (some (.int r)) M') (F0 m 35 ls []) := by
  have hx := B.1
  have hb := B.2.1
  have hml := B.2.2.1
  have ho := B.2.2.2.1
  have hw := B.2.2.2.2.1
  have hE := B.2.2.2.2.2.1.2.2
  have hg := B.2.2.2.2.2.2.1
  intro n
  induction n with
  | zero =>
    intro M l0 l1 l2 l3 l4 l5 r M' hf h0 H locs ls hW hl
    cases hf
  | succ n ih =>
    intro M l0 l1 l2 l3 l4 l5 r M' hf h0 H locs ls hW hl
    rw [X11_confide_P35] at hf
    refine lv_iload hx hb dX11_confide_35 (lv_at hl 5 rfl) ?_
    refine lv_bipush (v := 10) hx hb dX11_confide_37 (by decide) ?_
    refine lv_icmp_ge (tgt := 150) hx hb dX11_confide_39 (by decide) (fun c10 => ?_) (fun c10 => ?_)
    · have hf := z_it c10 hf
      refine lv_aload_n hx hb dX11_confide_150 rfl (lv_at hl 0 rfl) ?_
      refine lv_iload_n hx hb dX11_confide_151 rfl (lv_at hl 3 rfl) ?_
      obtain ⟨r11, M12, e13, hf⟩ := z_bpe hf
      refine z_cV (As := [.int l3]) (rest := []) B hW (f_X11_orNone l e13 h0) sc_X11_orNone sv_X11_160 h0 ⟨Nat.le_of_ble_eq_true rfl, Nat.le_of_ble_eq_true rfl⟩ ⟨Nat.zero_le _, Nat.zero_le _⟩ rfl hl.1 rfl (Nat.le_of_ble_eq_true rfl) dX11_confide_152 (fun H locs hW => ?_)
      obtain ⟨e1, e2⟩ := z_s2 hf
      subst e1
      subst e2
      exact z_ri B hW dX11_confide_155
    · have hf := z_if c10 hf
      refine lv_aload_n hx hb dX11_confide_42 rfl (lv_at hl 0 rfl) ?_
      refine lv_iload_n hx hb dX11_confide_43 rfl (lv_at hl 1 rfl) ?_
      refine lv_iconst (v := 1) hx hb dX11_confide_44 (by decide) ?_
      obtain ⟨r14, e15, hf⟩ := z_bd hf
      refine z_cV (As := [.int l1, .int (1 : Int32)]) (rest := []) B hW (f_X11_its l e15 h0) sc_X11_its sv_X11_58 h0 ⟨Nat.le_of_ble_eq_true rfl, Nat.le_of_ble_eq_true rfl⟩ ⟨Nat.zero_le _, Nat.zero_le _⟩ rfl hl.1 rfl (Nat.le_of_ble_eq_true rfl) dX11_confide_45 (fun H locs hW => ?_)
      refine lv_iload hx hb dX11_confide_48 (lv_at hl 5 rfl) ?_
      refine lv_ishr hx hb dX11_confide_50 ?_
      refine lv_iconst (v := 1) hx hb dX11_confide_51 (by decide) ?_
      refine lv_iand hx hb dX11_confide_52 ?_
      refine lv_if_ne (tgt := 144) hx hb dX11_confide_53 (by decide) (fun c16 => ?_) (fun c16 => ?_)
      · have hf := z_if c16 hf
        refine lv_iinc (v := l5 + (1 : Int32)) (lv' := [(5, .int (l5 + (1 : Int32))), (0, .ref l0), (1, .int l1), (2, .int l2), (3, .int l3), (4, .int l4)]) hx hb dX11_confide_144 hl (k := 5) rfl rfl (by decide) rfl (fun ls hl => ?_)
        refine lv_goto (tgt := 35) hx hb dX11_confide_147 (by decide) ?_
        exact ih M l0 l1 l2 l3 l4 (l5 + (1 : Int32)) _ _ hf h0 _ _ _ hW (lv_sub hl [1, 2, 3, 4, 5, 0] rfl)
      · have hf := z_it c16 hf
        refine lv_aload_n hx hb dX11_confide_56 rfl (lv_at hl 0 rfl) ?_
        refine z_get_11_0 B hW h0 q855 dX11_confide_57 ?_
        refine lv_iload_n hx hb dX11_confide_60 rfl (lv_at hl 1 rfl) ?_
        refine lv_iconst (v := 1) hx hb dX11_confide_61 (by decide) ?_
        refine z_cS (As := [.int l1, .int (1 : Int32)]) (rest := [.ref (z_r Γ l0 0)]) B hW (f_X11_at l) sc_X11_at ⟨q942, q943⟩ ⟨Nat.le_of_ble_eq_true rfl, Nat.le_of_ble_eq_true rfl⟩ ⟨Nat.zero_le _, Nat.zero_le _⟩ rfl hl.1 rfl (Nat.le_of_ble_eq_true rfl) dX11_confide_62 (fun H locs hW => ?_)
        refine lv_dup2_11 hx hb dX11_confide_65 rfl rfl ?_
        obtain ⟨g19, hf⟩ := z_gd hf
        refine z_ia B hW (z_g11_0 hg h0) g19 dX11_confide_66 ?_
        refine lv_iconst (v := 1) hx hb dX11_confide_67 (by decide) ?_
        refine lv_iload hx hb dX11_confide_68 (lv_at hl 5 rfl) ?_
        refine lv_ishl hx hb dX11_confide_70 ?_
        refine lv_ior hx hb dX11_confide_71 ?_
        obtain ⟨g20, hf⟩ := z_gd hf
        refine z_is B hW (z_g11_0 hg h0) g20 dX11_confide_72 (fun H locs hW => ?_)
        obtain ⟨M21, e22, hf⟩ := z_le hf
        have hW := z_wde e22 hW
        refine lv_aload_n hx hb dX11_confide_73 rfl (lv_at hl 0 rfl) ?_
        refine z_get_11_0 B hW h0 q855 dX11_confide_74 ?_
        refine lv_iload_n hx hb dX11_confide_77 rfl (lv_at hl 1 rfl) ?_
        refine lv_iconst (v := 2) hx hb dX11_confide_78 (by decide) ?_
        refine z_cS (As := [.int l1, .int (2 : Int32)]) (rest := [.ref (z_r Γ l0 0)]) B hW (f_X11_at l) sc_X11_at ⟨q942, q943⟩ ⟨Nat.le_of_ble_eq_true rfl, Nat.le_of_ble_eq_true rfl⟩ ⟨Nat.zero_le _, Nat.zero_le _⟩ rfl hl.1 rfl (Nat.le_of_ble_eq_true rfl) dX11_confide_79 (fun H locs hW => ?_)
        refine lv_dup2_11 hx hb dX11_confide_82 rfl rfl ?_
        obtain ⟨g25, hf⟩ := z_gd hf
        refine z_ia B hW (z_g11_0 hg h0) g25 dX11_confide_83 ?_
        refine lv_iconst (v := 1) hx hb dX11_confide_84 (by decide) ?_
        refine lv_iload hx hb dX11_confide_85 (lv_at hl 5 rfl) ?_
        refine lv_ishl hx hb dX11_confide_87 ?_
        refine lv_ior hx hb dX11_confide_88 ?_
        obtain ⟨g26, hf⟩ := z_gd hf
        refine z_is B hW (z_g11_0 hg h0) g26 dX11_confide_89 (fun H locs hW => ?_)
        obtain ⟨M27, e28, hf⟩ := z_le hf
        have hW := z_wde e28 hW
        refine lv_aload_n hx hb dX11_confide_90 rfl (lv_at hl 0 rfl) ?_
        refine lv_iload_n hx hb dX11_confide_91 rfl (lv_at hl 2 rfl) ?_
        obtain ⟨M30, e31, hf⟩ := z_bd hf
        refine z_cV (As := [.int l2]) (rest := []) B hW (f_X11_goes l e31 h0) sc_X11_goes sv_X11_137 h0 ⟨Nat.le_of_ble_eq_true rfl, Nat.le_of_ble_eq_true rfl⟩ ⟨Nat.zero_le _, Nat.zero_le _⟩ rfl hl.1 rfl (Nat.le_of_ble_eq_true rfl) dX11_confide_92 (fun H locs hW => ?_)
        refine lv_aload_n hx hb dX11_confide_95 rfl (lv_at hl 0 rfl) ?_
        refine lv_iload hx hb dX11_confide_96 (lv_at hl 5 rfl) ?_
        obtain ⟨r32, e33, hf⟩ := z_bd hf
        refine z_cV (As := [.int l5]) (rest := []) B hW (f_X11_howManyKnow l e33 h0) sc_X11_howManyKnow sv_X11_163 h0 ⟨Nat.le_of_ble_eq_true rfl, Nat.le_of_ble_eq_true rfl⟩ ⟨Nat.zero_le _, Nat.zero_le _⟩ rfl hl.1 rfl (Nat.le_of_ble_eq_true rfl) dX11_confide_98 (fun H locs hW => ?_)
        refine lv_istore (lv' := [(6, .int r32), (0, .ref l0), (1, .int l1), (2, .int l2), (3, .int l3), (4, .int l4), (5, .int l5)]) hx hb dX11_confide_101 hl (by decide) rfl (fun ls hl => ?_)
        refine lv_aload_n hx hb dX11_confide_103 rfl (lv_at hl 1 rfl) ?_
        refine z_get_11_3 B hW h0 q858 dX11_confide_104 ?_
        refine lv_aload_n hx hb dX11_confide_107 rfl (lv_at hl 1 rfl) ?_
        refine z_get_11_0 B hW h0 q855 dX11_confide_108 ?_
        obtain ⟨M35, e36, hf⟩ := z_bd hf
        refine z_cS (As := [.ref (z_r Γ l0 3), .ref (z_r Γ l0 0)]) (rest := []) B hW (f_X11_copyRow l e36 (z_g11_3 hg h0) (z_g11_0 hg h0)) sc_X11_copyRow ⟨q1066, q1067⟩ ⟨Nat.le_of_ble_eq_true rfl, Nat.le_of_ble_eq_true rfl⟩ ⟨Nat.zero_le _, Nat.zero_le _⟩ rfl hl.1 rfl (Nat.le_of_ble_eq_true rfl) dX11_confide_111 (fun H locs hW => ?_)
        refine lv_iload hx hb dX11_confide_114 (lv_at hl 0 rfl) ?_
        refine lv_iload hx hb dX11_confide_116 (lv_at hl 5 rfl) ?_
        refine lv_icmp_le (tgt := 126) hx hb dX11_confide_118 (by decide) (fun c37 => ?_) (fun c37 => ?_)
        · have hf := z_it c37 hf
          refine lv_iload_n hx hb dX11_confide_126 rfl (lv_at hl 4 rfl) ?_
          refine lv_istore_n (lv' := [(3, .int l3), (6, .int r32), (0, .ref l0), (1, .int l1), (2, .int l2), (4, .int l4), (5, .int l5)]) hx hb dX11_confide_127 rfl hl (by decide) rfl (fun ls hl => ?_)
          refine lv_iload hx hb dX11_confide_128 (lv_at hl 1 rfl) ?_
          refine lv_iload hx hb dX11_confide_130 (lv_at hl 5 rfl) ?_
          refine lv_icmp_le (tgt := 140) hx hb dX11_confide_132 (by decide) (fun c38 => ?_) (fun c38 => ?_)
          · have hf := z_it c38 hf
            refine lv_iload hx hb dX11_confide_140 (lv_at hl 5 rfl) ?_
            refine lv_istore (lv' := [(4, .int l4), (3, .int l3), (6, .int r32), (0, .ref l0), (1, .int l1), (2, .int l2), (5, .int l5)]) hx hb dX11_confide_142 hl (by decide) rfl (fun ls hl => ?_)
            refine lv_iinc (v := l5 + (1 : Int32)) (lv' := [(5, .int (l5 + (1 : Int32))), (4, .int l4), (3, .int l3), (6, .int r32), (0, .ref l0), (1, .int l1), (2, .int l2)]) hx hb dX11_confide_144 hl (k := 6) rfl rfl (by decide) rfl (fun ls hl => ?_)
            refine lv_goto (tgt := 35) hx hb dX11_confide_147 (by decide) ?_
            exact ih M35 l0 l1 l2 l3 l4 (l5 + (1 : Int32)) _ _ hf h0 _ _ _ hW (lv_sub hl [4, 5, 6, 2, 1, 0] rfl)
          · have hf := z_if c38 hf
            refine lv_iload hx hb dX11_confide_135 (lv_at hl 1 rfl) ?_
            refine lv_goto (tgt := 142) hx hb dX11_confide_137 (by decide) ?_
            refine lv_istore (lv' := [(4, .int r32), (3, .int l3), (6, .int r32), (0, .ref l0), (1, .int l1), (2, .int l2), (5, .int l5)]) hx hb dX11_confide_142 hl (by decide) rfl (fun ls hl => ?_)
            refine lv_iinc (v := l5 + (1 : Int32)) (lv' := [(5, .int (l5 + (1 : Int32))), (4, .int r32), (3, .int l3), (6, .int r32), (0, .ref l0), (1, .int l1), (2, .int l2)]) hx hb dX11_confide_144 hl (k := 6) rfl rfl (by decide) rfl (fun ls hl => ?_)
            refine lv_goto (tgt := 35) hx hb dX11_confide_147 (by decide) ?_
            exact ih M35 l0 l1 l2 l3 r32 (l5 + (1 : Int32)) _ _ hf h0 _ _ _ hW (lv_sub hl [4, 5, 6, 2, 1, 0] rfl)
        · have hf := z_if c37 hf
          refine lv_iload hx hb dX11_confide_121 (lv_at hl 6 rfl) ?_
          refine lv_goto (tgt := 127) hx hb dX11_confide_123 (by decide) ?_
          refine lv_istore_n (lv' := [(3, .int l5), (6, .int r32), (0, .ref l0), (1, .int l1), (2, .int l2), (4, .int l4), (5, .int l5)]) hx hb dX11_confide_127 rfl hl (by decide) rfl (fun ls hl => ?_)
          refine lv_iload hx hb dX11_confide_128 (lv_at hl 1 rfl) ?_
          refine lv_iload hx hb dX11_confide_130 (lv_at hl 5 rfl) ?_
          refine lv_icmp_le (tgt := 140) hx hb dX11_confide_132 (by decide) (fun c39 => ?_) (fun c39 => ?_)
          · have hf := z_it c39 hf
            refine lv_iload hx hb dX11_confide_140 (lv_at hl 5 rfl) ?_
            refine lv_istore (lv' := [(4, .int l4), (3, .int l5), (6, .int r32), (0, .ref l0), (1, .int l1), (2, .int l2), (5, .int l5)]) hx hb dX11_confide_142 hl (by decide) rfl (fun ls hl => ?_)
            refine lv_iinc (v := l5 + (1 : Int32)) (lv' := [(5, .int (l5 + (1 : Int32))), (4, .int l4), (3, .int l5), (6, .int r32), (0, .ref l0), (1, .int l1), (2, .int l2)]) hx hb dX11_confide_144 hl (k := 6) rfl rfl (by decide) rfl (fun ls hl => ?_)
            refine lv_goto (tgt := 35) hx hb dX11_confide_147 (by decide) ?_
            exact ih M35 l0 l1 l2 l5 l4 (l5 + (1 : Int32)) _ _ hf h0 _ _ _ hW (lv_sub hl [4, 5, 6, 2, 1, 0] rfl)
          · have hf := z_if c39 hf
            refine lv_iload hx hb dX11_confide_135 (lv_at hl 1 rfl) ?_
            refine lv_goto (tgt := 142) hx hb dX11_confide_137 (by decide) ?_
            refine lv_istore (lv' := [(4, .int r32), (3, .int l5), (6, .int r32), (0, .ref l0), (1, .int l1), (2, .int l2), (5, .int l5)]) hx hb dX11_confide_142 hl (by decide) rfl (fun ls hl => ?_)
            refine lv_iinc (v := l5 + (1 : Int32)) (lv' := [(5, .int (l5 + (1 : Int32))), (4, .int r32), (3, .int l5), (6, .int r32), (0, .ref l0), (1, .int l1), (2, .int l2)]) hx hb dX11_confide_144 hl (k := 6) rfl rfl (by decide) rfl (fun ls hl => ?_)
            refine lv_goto (tgt := 35) hx hb dX11_confide_147 (by decide) ?_
            exact ih M35 l0 l1 l2 l5 r32 (l5 + (1 : Int32)) _ _ hf h0 _ _ _ hW (lv_sub hl [4, 5, 6, 2, 1, 0] rfl)
set_option maxHeartbeats 4000000 in
set_option maxRecDepth 100000 in
theorem f_X11_confide (l : Launch) {Γ : Zg} {M : Zm} {l0 : Nat} {l1 : Int32} {l2 : Int32} {r : Int32} {M' : Zm} (hf : X11_confide Γ M l0 l1 l2 = some (r, M')) (h0 : z_Is Γ 11 l0) : z_Fn l Γ yX11_confide cX11_confide 7 (some .int) 5 117 [.ref l0, .int l1, .int l2] M (some (.int r)) M' := by
  refine z_Fn.of (by decide) (Nat.le_of_ble_eq_true rfl) ?_
  intro p e s m below meth c ls B hW hl
  have B : z_Bd Γ p s m _ meth c cX11_confide 7 (some .int) RX11 := B
  have hl : lv_has ls 7 [(0, .ref l0), (1, .int l1), (2, .int l2)] := hl
  rw [X11_confide] at hf
  have hx := B.1
  have hb := B.2.1
  have hml := B.2.2.1
  have ho := B.2.2.2.1
  have hw := B.2.2.2.2.1
  have hE := B.2.2.2.2.2.1.2.2
  have hg := B.2.2.2.2.2.2.1
  refine lv_aload_n hx hb dX11_confide_0 rfl (lv_at hl 0 rfl) ?_
  refine lv_iload_n hx hb dX11_confide_1 rfl (lv_at hl 1 rfl) ?_
  refine lv_iload_n hx hb dX11_confide_2 rfl (lv_at hl 2 rfl) ?_
  refine z_cV (As := [.int l1, .int l2]) (rest := []) B hW (f_X11_isAsked l h0) sc_X11_isAsked sv_X11_157 h0 ⟨Nat.le_of_ble_eq_true rfl, Nat.le_of_ble_eq_true rfl⟩ ⟨Nat.zero_le _, Nat.zero_le _⟩ rfl hl.1 rfl (Nat.le_of_ble_eq_true rfl) dX11_confide_3 (fun H locs hW => ?_)
  refine lv_if_ne (tgt := 16) hx hb dX11_confide_6 (by decide) (fun c3 => ?_) (fun c3 => ?_)
  · have hf := z_if c3 hf
    refine lv_aload_n hx hb dX11_confide_16 rfl (lv_at hl 0 rfl) ?_
    refine z_get_11_0 B hW h0 q855 dX11_confide_17 ?_
    refine lv_aload_n hx hb dX11_confide_20 rfl (lv_at hl 0 rfl) ?_
    refine z_get_11_3 B hW h0 q858 dX11_confide_21 ?_
    obtain ⟨M5, e6, hf⟩ := z_bd hf
    refine z_cS (As := [.ref (z_r Γ l0 0), .ref (z_r Γ l0 3)]) (rest := []) B hW (f_X11_copyRow l e6 (z_g11_0 hg h0) (z_g11_3 hg h0)) sc_X11_copyRow ⟨q1066, q1067⟩ ⟨Nat.le_of_ble_eq_true rfl, Nat.le_of_ble_eq_true rfl⟩ ⟨Nat.zero_le _, Nat.zero_le _⟩ rfl hl.1 rfl (Nat.le_of_ble_eq_true rfl) dX11_confide_24 (fun H locs hW => ?_)
    refine lv_iconst (v := -1) hx hb dX11_confide_27 (by decide) ?_
    refine lv_istore_n (lv' := [(3, .int (-1 : Int32)), (0, .ref l0), (1, .int l1), (2, .int l2)]) hx hb dX11_confide_28 rfl hl (by decide) rfl (fun ls hl => ?_)
    refine lv_iconst (v := -1) hx hb dX11_confide_29 (by decide) ?_
    refine lv_istore (lv' := [(4, .int (-1 : Int32)), (3, .int (-1 : Int32)), (0, .ref l0), (1, .int l1), (2, .int l2)]) hx hb dX11_confide_30 hl (by decide) rfl (fun ls hl => ?_)
    refine lv_iconst (v := 0) hx hb dX11_confide_32 (by decide) ?_
    refine lv_istore (lv' := [(5, .int (0 : Int32)), (4, .int (-1 : Int32)), (3, .int (-1 : Int32)), (0, .ref l0), (1, .int l1), (2, .int l2)]) hx hb dX11_confide_33 hl (by decide) rfl (fun ls hl => ?_)
    exact w_X11_confide_P35 B 1000 M5 l0 l1 l2 (-1 : Int32) (-1 : Int32) (0 : Int32) _ _ hf h0 _ _ _ hW (lv_sub hl [3, 4, 5, 2, 1, 0] rfl)
  · have hf := z_it c3 hf
    refine lv_aload_n hx hb dX11_confide_9 rfl (lv_at hl 0 rfl) ?_
    refine lv_ldc hx hb ho (hw _ q916) dX11_confide_10 ?_
    obtain ⟨r7, M8, e9, hf⟩ := z_bpe hf
    refine z_cV (As := [.int (-1000000001 : Int32)]) (rest := []) B hW (f_X11_finds l e9 h0) sc_X11_finds sv_X11_40 h0 ⟨Nat.le_of_ble_eq_true rfl, Nat.le_of_ble_eq_true rfl⟩ ⟨Nat.zero_le _, Nat.zero_le _⟩ rfl hl.1 rfl (Nat.le_of_ble_eq_true rfl) dX11_confide_12 (fun H locs hW => ?_)
    obtain ⟨e1, e2⟩ := z_s2 hf
    subst e1
    subst e2
    exact z_ri B hW dX11_confide_15
set_option maxHeartbeats 4000000 in
set_option maxRecDepth 100000 in
theorem w_X11_enough_P78 (B : z_Bd Γ p s m args meth c cX11_enough 4 (some .int) RX11) : ∀ (M : Zm) (l0 : Nat) (l3 : Int32) (r : Int32) (M' : Zm), X11_enough_P78 Γ M l0 l3 = some (r, M') → z_Is Γ 11 l0 → ∀ (H : Heap) (locs : List Loc) (ls : Array Slot), z_Wd Γ M s.heap H locs → lv_has ls 4 [(0, .ref l0), (3, .int l3)] → W p l e (z_rm 4 95) s m args below meth c H locs 0 0 (z_Q Γ below args s (some (.int r)) M') (F0 m 78 ls []) := by
  have hx := B.1
  have hb := B.2.1
  have hml := B.2.2.1
  have ho := B.2.2.2.1
  have hw := B.2.2.2.2.1
  have hE := B.2.2.2.2.2.1.2.2
  have hg := B.2.2.2.2.2.2.1
  intro M l0 l3 r M' hf h0 H locs ls hW hl
  rw [X11_enough_P78] at hf
  refine lv_aload_n hx hb dX11_enough_78 rfl (lv_at hl 0 rfl) ?_
  refine z_get_11_3 B hW h0 q858 dX11_enough_79 ?_
  refine lv_aload_n hx hb dX11_enough_82 rfl (lv_at hl 0 rfl) ?_
  refine z_get_11_0 B hW h0 q855 dX11_enough_83 ?_
  obtain ⟨M27, e28, hf⟩ := z_bd hf
  refine z_cS (As := [.ref (z_r Γ l0 3), .ref (z_r Γ l0 0)]) (rest := []) B hW (f_X11_copyRow l e28 (z_g11_3 hg h0) (z_g11_0 hg h0)) sc_X11_copyRow ⟨q1066, q1067⟩ ⟨Nat.le_of_ble_eq_true rfl, Nat.le_of_ble_eq_true rfl⟩ ⟨Nat.zero_le _, Nat.zero_le _⟩ rfl hl.1 rfl (Nat.le_of_ble_eq_true rfl) dX11_enough_86 (fun H locs hW => ?_)
  refine lv_iload_n hx hb dX11_enough_89 rfl (lv_at hl 1 rfl) ?_
  refine lv_sipush (v := 200) hx hb dX11_enough_90 (by decide) ?_
  refine lv_icmp_gt (tgt := 100) hx hb dX11_enough_93 (by decide) (fun c29 => ?_) (fun c29 => ?_)
  · have hf := z_it c29 hf
    refine lv_aload_n hx hb dX11_enough_100 rfl (lv_at hl 0 rfl) ?_
    refine lv_ldc hx hb ho (hw _ q1073) dX11_enough_101 ?_
    obtain ⟨r30, M31, e32, hf⟩ := z_bpe hf
    refine z_cV (As := [.int (-1000000004 : Int32)]) (rest := []) B hW (f_X11_finds l e32 h0) sc_X11_finds sv_X11_40 h0 ⟨Nat.le_of_ble_eq_true rfl, Nat.le_of_ble_eq_true rfl⟩ ⟨Nat.zero_le _, Nat.zero_le _⟩ rfl hl.1 rfl (Nat.le_of_ble_eq_true rfl) dX11_enough_103 (fun H locs hW => ?_)
    obtain ⟨e1, e2⟩ := z_s2 hf
    subst e1
    subst e2
    exact z_ri B hW dX11_enough_106
  · have hf := z_if c29 hf
    refine lv_iload_n hx hb dX11_enough_96 rfl (lv_at hl 1 rfl) ?_
    refine lv_goto (tgt := 106) hx hb dX11_enough_97 (by decide) ?_
    obtain ⟨e1, e2⟩ := z_s2 hf
    subst e1
    subst e2
    exact z_ri B hW dX11_enough_106
set_option maxHeartbeats 4000000 in
set_option maxRecDepth 100000 in
theorem w_X11_enough_P40 (B : z_Bd Γ p s m args meth c cX11_enough 4 (some .int) RX11) : ∀ (n : Nat) (M : Zm) (l0 : Nat) (l1 : Int32) (l2 : Int32) (l3 : Int32) (r : Int32) (M' : Zm), X11_enough_P40 Γ n M l0 l1 l2 l3 = some (r, M') → z_Is Γ 11 l0 → ∀ (H : Heap) (locs : List Loc) (ls : Array Slot), z_Wd Γ M s.heap H locs → lv_has ls 4 [(0, .ref l0), (1, .int l1), (2, .int l2), (3, .int l3)] → W p l e (z_rm 4 95) s m args below meth c H locs 0 0 (z_Q Γ below args s (some (.int r)) M') (F0 m 40 ls []) := by
  have hx := B.1
  have hb := B.2.1
  have hml := B.2.2.1
  have ho := B.2.2.2.1
  have hw := B.2.2.2.2.1
  have hE := B.2.2.2.2.2.1.2.2
  have hg := B.2.2.2.2.2.2.1
  intro n
  induction n with
  | zero =>
    intro M l0 l1 l2 l3 r M' hf h0 H locs ls hW hl
    cases hf
  | succ n ih =>
    intro M l0 l1 l2 l3 r M' hf h0 H locs ls hW hl
    rw [X11_enough_P40] at hf
    refine lv_iload_n hx hb dX11_enough_40 rfl (lv_at hl 3 rfl) ?_
    refine lv_sipush (v := 200) hx hb dX11_enough_41 (by decide) ?_
    refine lv_icmp_gt (tgt := 78) hx hb dX11_enough_44 (by decide) (fun c16 => ?_) (fun c16 => ?_)
    · have hf := z_it c16 hf
      exact w_X11_enough_P78 B M l0 l3 _ _ hf h0 _ _ _ hW (lv_sub hl [0, 3] rfl)
    · have hf := z_if c16 hf
      refine lv_aload_n hx hb dX11_enough_47 rfl (lv_at hl 0 rfl) ?_
      refine lv_iload_n hx hb dX11_enough_48 rfl (lv_at hl 1 rfl) ?_
      refine lv_iconst (v := 5) hx hb dX11_enough_49 (by decide) ?_
      obtain ⟨r17, e18, hf⟩ := z_bd hf
      refine z_cV (As := [.int l1, .int (5 : Int32)]) (rest := []) B hW (f_X11_its l e18 h0) sc_X11_its sv_X11_58 h0 ⟨Nat.le_of_ble_eq_true rfl, Nat.le_of_ble_eq_true rfl⟩ ⟨Nat.zero_le _, Nat.zero_le _⟩ rfl hl.1 rfl (Nat.le_of_ble_eq_true rfl) dX11_enough_50 (fun H locs hW => ?_)
      refine lv_aload_n hx hb dX11_enough_53 rfl (lv_at hl 0 rfl) ?_
      refine z_get_11_3 B hW h0 q858 dX11_enough_54 ?_
      refine lv_iload_n hx hb dX11_enough_57 rfl (lv_at hl 1 rfl) ?_
      refine lv_iconst (v := 5) hx hb dX11_enough_58 (by decide) ?_
      refine z_cS (As := [.int l1, .int (5 : Int32)]) (rest := [.ref (z_r Γ l0 3), .int r17]) B hW (f_X11_at l) sc_X11_at ⟨q942, q943⟩ ⟨Nat.le_of_ble_eq_true rfl, Nat.le_of_ble_eq_true rfl⟩ ⟨Nat.zero_le _, Nat.zero_le _⟩ rfl hl.1 rfl (Nat.le_of_ble_eq_true rfl) dX11_enough_59 (fun H locs hW => ?_)
      obtain ⟨g21, hf⟩ := z_gd hf
      refine z_ia B hW (z_g11_3 hg h0) g21 dX11_enough_62 ?_
      refine lv_isub hx hb dX11_enough_63 ?_
      refine lv_iload_n hx hb dX11_enough_64 rfl (lv_at hl 2 rfl) ?_
      refine lv_icmp_ge (tgt := 78) hx hb dX11_enough_65 (by decide) (fun c22 => ?_) (fun c22 => ?_)
      · have hf := z_it c22 hf
        exact w_X11_enough_P78 B M l0 l3 _ _ hf h0 _ _ _ hW (lv_sub hl [0, 3] rfl)
      · have hf := z_if c22 hf
        refine lv_aload_n hx hb dX11_enough_68 rfl (lv_at hl 0 rfl) ?_
        obtain ⟨M24, e25, hf⟩ := z_bd hf
        refine z_cV (As := []) (rest := []) B hW (f_X11_goesOn l e25 h0) sc_X11_goesOn sv_X11_131 h0 ⟨Nat.le_of_ble_eq_true rfl, Nat.le_of_ble_eq_true rfl⟩ ⟨Nat.zero_le _, Nat.zero_le _⟩ rfl hl.1 rfl (Nat.le_of_ble_eq_true rfl) dX11_enough_69 (fun H locs hW => ?_)
        refine lv_iinc (v := l3 + (1 : Int32)) (lv' := [(3, .int (l3 + (1 : Int32))), (0, .ref l0), (1, .int l1), (2, .int l2)]) hx hb dX11_enough_72 hl (k := 3) rfl rfl (by decide) rfl (fun ls hl => ?_)
        refine lv_goto (tgt := 40) hx hb dX11_enough_75 (by decide) ?_
        exact ih M24 l0 l1 l2 (l3 + (1 : Int32)) _ _ hf h0 _ _ _ hW (lv_sub hl [1, 2, 3, 0] rfl)
set_option maxHeartbeats 4000000 in
set_option maxRecDepth 100000 in
theorem f_X11_enough (l : Launch) {Γ : Zg} {M : Zm} {l0 : Nat} {l1 : Int32} {l2 : Int32} {r : Int32} {M' : Zm} (hf : X11_enough Γ M l0 l1 l2 = some (r, M')) (h0 : z_Is Γ 11 l0) : z_Fn l Γ yX11_enough cX11_enough 4 (some .int) 4 95 [.ref l0, .int l1, .int l2] M (some (.int r)) M' := by
  refine z_Fn.of (by decide) (Nat.le_of_ble_eq_true rfl) ?_
  intro p e s m below meth c ls B hW hl
  have B : z_Bd Γ p s m _ meth c cX11_enough 4 (some .int) RX11 := B
  have hl : lv_has ls 4 [(0, .ref l0), (1, .int l1), (2, .int l2)] := hl
  rw [X11_enough] at hf
  have hx := B.1
  have hb := B.2.1
  have hml := B.2.2.1
  have ho := B.2.2.2.1
  have hw := B.2.2.2.2.1
  have hE := B.2.2.2.2.2.1.2.2
  have hg := B.2.2.2.2.2.2.1
  refine lv_aload_n hx hb dX11_enough_0 rfl (lv_at hl 0 rfl) ?_
  refine lv_iload_n hx hb dX11_enough_1 rfl (lv_at hl 1 rfl) ?_
  refine z_cV (As := [.int l1]) (rest := []) B hW (f_X11_isOne l h0) sc_X11_isOne sv_X11_83 h0 ⟨Nat.le_of_ble_eq_true rfl, Nat.le_of_ble_eq_true rfl⟩ ⟨Nat.zero_le _, Nat.zero_le _⟩ rfl hl.1 rfl (Nat.le_of_ble_eq_true rfl) dX11_enough_2 (fun H locs hW => ?_)
  refine lv_if_eq (tgt := 20) hx hb dX11_enough_5 (by decide) (fun c3 => ?_) (fun c3 => ?_)
  · have hf := z_it c3 hf
    refine lv_aload_n hx hb dX11_enough_20 rfl (lv_at hl 0 rfl) ?_
    refine lv_ldc hx hb ho (hw _ q916) dX11_enough_21 ?_
    obtain ⟨r4, M5, e6, hf⟩ := z_bpe hf
    refine z_cV (As := [.int (-1000000001 : Int32)]) (rest := []) B hW (f_X11_finds l e6 h0) sc_X11_finds sv_X11_40 h0 ⟨Nat.le_of_ble_eq_true rfl, Nat.le_of_ble_eq_true rfl⟩ ⟨Nat.zero_le _, Nat.zero_le _⟩ rfl hl.1 rfl (Nat.le_of_ble_eq_true rfl) dX11_enough_23 (fun H locs hW => ?_)
    obtain ⟨e1, e2⟩ := z_s2 hf
    subst e1
    subst e2
    exact z_ri B hW dX11_enough_26
  · have hf := z_if c3 hf
    refine lv_iload_n hx hb dX11_enough_8 rfl (lv_at hl 2 rfl) ?_
    refine lv_i2l hx hb dX11_enough_9 rfl ?_
    refine lv_lconst (v := 1) hx hb dX11_enough_10 (by decide) ?_
    refine lv_ldc2 hx hb ho (hw _ q1111) dX11_enough_11 ?_
    refine z_cS (As := [.long l2.toInt64, .long (1 : Int64), .long (99 : Int64)]) (rest := []) B hW (f_X11_isIn l) sc_X11_isIn ⟨q909, q910⟩ ⟨Nat.le_of_ble_eq_true rfl, Nat.le_of_ble_eq_true rfl⟩ ⟨Nat.zero_le _, Nat.zero_le _⟩ rfl hl.1 rfl (Nat.le_of_ble_eq_true rfl) dX11_enough_14 (fun H locs hW => ?_)
    refine lv_if_ne (tgt := 27) hx hb dX11_enough_17 (by decide) (fun c9 => ?_) (fun c9 => ?_)
    · have hf := z_if c9 hf
      refine lv_aload_n hx hb dX11_enough_27 rfl (lv_at hl 0 rfl) ?_
      refine z_get_11_0 B hW h0 q855 dX11_enough_28 ?_
      refine lv_aload_n hx hb dX11_enough_31 rfl (lv_at hl 0 rfl) ?_
      refine z_get_11_3 B hW h0 q858 dX11_enough_32 ?_
      obtain ⟨M11, e12, hf⟩ := z_bd hf
      refine z_cS (As := [.ref (z_r Γ l0 0), .ref (z_r Γ l0 3)]) (rest := []) B hW (f_X11_copyRow l e12 (z_g11_0 hg h0) (z_g11_3 hg h0)) sc_X11_copyRow ⟨q1066, q1067⟩ ⟨Nat.le_of_ble_eq_true rfl, Nat.le_of_ble_eq_true rfl⟩ ⟨Nat.zero_le _, Nat.zero_le _⟩ rfl hl.1 rfl (Nat.le_of_ble_eq_true rfl) dX11_enough_35 (fun H locs hW => ?_)
      refine lv_iconst (v := 0) hx hb dX11_enough_38 (by decide) ?_
      refine lv_istore_n (lv' := [(3, .int (0 : Int32)), (0, .ref l0), (1, .int l1), (2, .int l2)]) hx hb dX11_enough_39 rfl hl (by decide) rfl (fun ls hl => ?_)
      exact w_X11_enough_P40 B 1000 M11 l0 l1 l2 (0 : Int32) _ _ hf h0 _ _ _ hW (lv_sub hl [1, 2, 3, 0] rfl)
    · have hf := z_it c9 hf
      refine lv_aload_n hx hb dX11_enough_20 rfl (lv_at hl 0 rfl) ?_
      refine lv_ldc hx hb ho (hw _ q916) dX11_enough_21 ?_
      obtain ⟨r13, M14, e15, hf⟩ := z_bpe hf
      refine z_cV (As := [.int (-1000000001 : Int32)]) (rest := []) B hW (f_X11_finds l e15 h0) sc_X11_finds sv_X11_40 h0 ⟨Nat.le_of_ble_eq_true rfl, Nat.le_of_ble_eq_true rfl⟩ ⟨Nat.zero_le _, Nat.zero_le _⟩ rfl hl.1 rfl (Nat.le_of_ble_eq_true rfl) dX11_enough_23 (fun H locs hW => ?_)
      obtain ⟨e1, e2⟩ := z_s2 hf
      subst e1
      subst e2
      exact z_ri B hW dX11_enough_26
set_option maxHeartbeats 4000000 in
set_option maxRecDepth 100000 in
theorem w_X11_doubt_P37 (B : z_Bd Γ p s m args meth c cX11_doubt 6 (some .int) RX11) : ∀ (n : Nat) (M : Zm) (l0 : Nat) (l1 : Int32) (l2 : Int32) (l3 : Int32) (l4 : Int32) (r : Int32) (M' : Zm), X11_doubt_P37 Γ n M l0 l1 l2 l3 l4 = some (r, M') → z_Is Γ 11 l0 → ∀ (H : Heap) (locs : List Loc) (ls : Array Slot), z_Wd Γ M s.heap H locs → lv_has ls 6 [(0, .ref l0), (1, .int l1), (2, .int l2), (3, .int l3), (4, .int l4)] → W p l e (z_rm 5 117) s m args below meth c H locs 0 0 (z_Q Γ below args s (some (.int r)) M') (F0 m 37 ls []) := by
  have hx := B.1
  have hb := B.2.1
  have hml := B.2.2.1
  have ho := B.2.2.2.1
  have hw := B.2.2.2.2.1
  have hE := B.2.2.2.2.2.1.2.2
  have hg := B.2.2.2.2.2.2.1
  intro n
  induction n with
  | zero =>
    intro M l0 l1 l2 l3 l4 r M' hf h0 H locs ls hW hl
    cases hf
  | succ n ih =>
    intro M l0 l1 l2 l3 l4 r M' hf h0 H locs ls hW hl
    rw [X11_doubt_P37] at hf
    refine lv_iload hx hb dX11_doubt_37 (lv_at hl 4 rfl) ?_
    refine lv_bipush (v := 10) hx hb dX11_doubt_39 (by decide) ?_
    refine lv_icmp_ge (tgt := 111) hx hb dX11_doubt_41 (by decide) (fun c10 => ?_) (fun c10 => ?_)
    · have hf := z_it c10 hf
      refine lv_iload_n hx hb dX11_doubt_111 rfl (lv_at hl 2 rfl) ?_
      obtain ⟨e1, e2⟩ := z_s2 hf
      subst e1
      subst e2
      exact z_ri B hW dX11_doubt_112
    · have hf := z_if c10 hf
      refine lv_aload_n hx hb dX11_doubt_44 rfl (lv_at hl 0 rfl) ?_
      refine z_get_11_0 B hW h0 q855 dX11_doubt_45 ?_
      refine lv_iconst (v := 2) hx hb dX11_doubt_48 (by decide) ?_
      refine lv_dup2_11 hx hb dX11_doubt_49 rfl rfl ?_
      refine z_ia B hW (z_g11_0 hg h0) (z_ixd (by decide)) dX11_doubt_50 ?_
      refine lv_iconst (v := 1) hx hb dX11_doubt_51 (by decide) ?_
      refine lv_iload hx hb dX11_doubt_52 (lv_at hl 4 rfl) ?_
      refine lv_ishl hx hb dX11_doubt_54 ?_
      refine lv_ixor hx hb dX11_doubt_55 ?_
      refine z_is B hW (z_g11_0 hg h0) (z_ixd (by decide)) dX11_doubt_56 (fun H locs hW => ?_)
      obtain ⟨M11, e12, hf⟩ := z_le hf
      have hW := z_wde e12 hW
      refine lv_aload_n hx hb dX11_doubt_57 rfl (lv_at hl 0 rfl) ?_
      refine lv_iload_n hx hb dX11_doubt_58 rfl (lv_at hl 1 rfl) ?_
      obtain ⟨M14, e15, hf⟩ := z_bd hf
      refine z_cV (As := [.int l1]) (rest := []) B hW (f_X11_goes l e15 h0) sc_X11_goes sv_X11_137 h0 ⟨Nat.le_of_ble_eq_true rfl, Nat.le_of_ble_eq_true rfl⟩ ⟨Nat.zero_le _, Nat.zero_le _⟩ rfl hl.1 rfl (Nat.le_of_ble_eq_true rfl) dX11_doubt_59 (fun H locs hW => ?_)
      refine lv_aload_n hx hb dX11_doubt_62 rfl (lv_at hl 0 rfl) ?_
      obtain ⟨r16, e17, hf⟩ := z_bd hf
      refine z_cV (As := []) (rest := []) B hW (f_X11_believed l e17 h0) sc_X11_believed sv_X11_168 h0 ⟨Nat.le_of_ble_eq_true rfl, Nat.le_of_ble_eq_true rfl⟩ ⟨Nat.zero_le _, Nat.zero_le _⟩ rfl hl.1 rfl (Nat.le_of_ble_eq_true rfl) dX11_doubt_63 (fun H locs hW => ?_)
      refine lv_istore (lv' := [(5, .int r16), (0, .ref l0), (1, .int l1), (2, .int l2), (3, .int l3), (4, .int l4)]) hx hb dX11_doubt_66 hl (by decide) rfl (fun ls hl => ?_)
      refine lv_aload_n hx hb dX11_doubt_68 rfl (lv_at hl 1 rfl) ?_
      refine z_get_11_3 B hW h0 q858 dX11_doubt_69 ?_
      refine lv_aload_n hx hb dX11_doubt_72 rfl (lv_at hl 1 rfl) ?_
      refine z_get_11_0 B hW h0 q855 dX11_doubt_73 ?_
      obtain ⟨M19, e20, hf⟩ := z_bd hf
      refine z_cS (As := [.ref (z_r Γ l0 3), .ref (z_r Γ l0 0)]) (rest := []) B hW (f_X11_copyRow l e20 (z_g11_3 hg h0) (z_g11_0 hg h0)) sc_X11_copyRow ⟨q1066, q1067⟩ ⟨Nat.le_of_ble_eq_true rfl, Nat.le_of_ble_eq_true rfl⟩ ⟨Nat.zero_le _, Nat.zero_le _⟩ rfl hl.1 rfl (Nat.le_of_ble_eq_true rfl) dX11_doubt_76 (fun H locs hW => ?_)
      refine lv_iload hx hb dX11_doubt_79 (lv_at hl 0 rfl) ?_
      refine lv_iload_n hx hb dX11_doubt_81 rfl (lv_at hl 4 rfl) ?_
      refine lv_icmp_le (tgt := 90) hx hb dX11_doubt_82 (by decide) (fun c21 => ?_) (fun c21 => ?_)
      · have hf := z_it c21 hf
        refine lv_iload_n hx hb dX11_doubt_90 rfl (lv_at hl 3 rfl) ?_
        refine lv_istore_n (lv' := [(2, .int l2), (5, .int r16), (0, .ref l0), (1, .int l1), (3, .int l3), (4, .int l4)]) hx hb dX11_doubt_91 rfl hl (by decide) rfl (fun ls hl => ?_)
        refine lv_iload hx hb dX11_doubt_92 (lv_at hl 1 rfl) ?_
        refine lv_iload_n hx hb dX11_doubt_94 rfl (lv_at hl 4 rfl) ?_
        refine lv_icmp_le (tgt := 103) hx hb dX11_doubt_95 (by decide) (fun c22 => ?_) (fun c22 => ?_)
        · have hf := z_it c22 hf
          refine lv_iload_n hx hb dX11_doubt_103 rfl (lv_at hl 4 rfl) ?_
          refine lv_istore_n (lv' := [(3, .int l3), (2, .int l2), (5, .int r16), (0, .ref l0), (1, .int l1), (4, .int l4)]) hx hb dX11_doubt_104 rfl hl (by decide) rfl (fun ls hl => ?_)
          refine lv_iinc (v := l4 + (1 : Int32)) (lv' := [(4, .int (l4 + (1 : Int32))), (3, .int l3), (2, .int l2), (5, .int r16), (0, .ref l0), (1, .int l1)]) hx hb dX11_doubt_105 hl (k := 5) rfl rfl (by decide) rfl (fun ls hl => ?_)
          refine lv_goto (tgt := 37) hx hb dX11_doubt_108 (by decide) ?_
          exact ih M19 l0 l1 l2 l3 (l4 + (1 : Int32)) _ _ hf h0 _ _ _ hW (lv_sub hl [4, 5, 2, 1, 0] rfl)
        · have hf := z_if c22 hf
          refine lv_iload hx hb dX11_doubt_98 (lv_at hl 1 rfl) ?_
          refine lv_goto (tgt := 104) hx hb dX11_doubt_100 (by decide) ?_
          refine lv_istore_n (lv' := [(3, .int r16), (2, .int l2), (5, .int r16), (0, .ref l0), (1, .int l1), (4, .int l4)]) hx hb dX11_doubt_104 rfl hl (by decide) rfl (fun ls hl => ?_)
          refine lv_iinc (v := l4 + (1 : Int32)) (lv' := [(4, .int (l4 + (1 : Int32))), (3, .int r16), (2, .int l2), (5, .int r16), (0, .ref l0), (1, .int l1)]) hx hb dX11_doubt_105 hl (k := 5) rfl rfl (by decide) rfl (fun ls hl => ?_)
          refine lv_goto (tgt := 37) hx hb dX11_doubt_108 (by decide) ?_
          exact ih M19 l0 l1 l2 r16 (l4 + (1 : Int32)) _ _ hf h0 _ _ _ hW (lv_sub hl [4, 5, 2, 1, 0] rfl)
      · have hf := z_if c21 hf
        refine lv_iload hx hb dX11_doubt_85 (lv_at hl 5 rfl) ?_
        refine lv_goto (tgt := 91) hx hb dX11_doubt_87 (by decide) ?_
        refine lv_istore_n (lv' := [(2, .int l4), (5, .int r16), (0, .ref l0), (1, .int l1), (3, .int l3), (4, .int l4)]) hx hb dX11_doubt_91 rfl hl (by decide) rfl (fun ls hl => ?_)
        refine lv_iload hx hb dX11_doubt_92 (lv_at hl 1 rfl) ?_
        refine lv_iload_n hx hb dX11_doubt_94 rfl (lv_at hl 4 rfl) ?_
        refine lv_icmp_le (tgt := 103) hx hb dX11_doubt_95 (by decide) (fun c23 => ?_) (fun c23 => ?_)
        · have hf := z_it c23 hf
          refine lv_iload_n hx hb dX11_doubt_103 rfl (lv_at hl 4 rfl) ?_
          refine lv_istore_n (lv' := [(3, .int l3), (2, .int l4), (5, .int r16), (0, .ref l0), (1, .int l1), (4, .int l4)]) hx hb dX11_doubt_104 rfl hl (by decide) rfl (fun ls hl => ?_)
          refine lv_iinc (v := l4 + (1 : Int32)) (lv' := [(4, .int (l4 + (1 : Int32))), (3, .int l3), (2, .int l4), (5, .int r16), (0, .ref l0), (1, .int l1)]) hx hb dX11_doubt_105 hl (k := 5) rfl rfl (by decide) rfl (fun ls hl => ?_)
          refine lv_goto (tgt := 37) hx hb dX11_doubt_108 (by decide) ?_
          exact ih M19 l0 l1 l4 l3 (l4 + (1 : Int32)) _ _ hf h0 _ _ _ hW (lv_sub hl [4, 5, 2, 1, 0] rfl)
        · have hf := z_if c23 hf
          refine lv_iload hx hb dX11_doubt_98 (lv_at hl 1 rfl) ?_
          refine lv_goto (tgt := 104) hx hb dX11_doubt_100 (by decide) ?_
          refine lv_istore_n (lv' := [(3, .int r16), (2, .int l4), (5, .int r16), (0, .ref l0), (1, .int l1), (4, .int l4)]) hx hb dX11_doubt_104 rfl hl (by decide) rfl (fun ls hl => ?_)
          refine lv_iinc (v := l4 + (1 : Int32)) (lv' := [(4, .int (l4 + (1 : Int32))), (3, .int r16), (2, .int l4), (5, .int r16), (0, .ref l0), (1, .int l1)]) hx hb dX11_doubt_105 hl (k := 5) rfl rfl (by decide) rfl (fun ls hl => ?_)
          refine lv_goto (tgt := 37) hx hb dX11_doubt_108 (by decide) ?_
          exact ih M19 l0 l1 l4 r16 (l4 + (1 : Int32)) _ _ hf h0 _ _ _ hW (lv_sub hl [4, 5, 2, 1, 0] rfl)
set_option maxHeartbeats 4000000 in
set_option maxRecDepth 100000 in
theorem f_X11_doubt (l : Launch) {Γ : Zg} {M : Zm} {l0 : Nat} {l1 : Int32} {r : Int32} {M' : Zm} (hf : X11_doubt Γ M l0 l1 = some (r, M')) (h0 : z_Is Γ 11 l0) : z_Fn l Γ yX11_doubt cX11_doubt 6 (some .int) 5 117 [.ref l0, .int l1] M (some (.int r)) M' := by
  refine z_Fn.of (by decide) (Nat.le_of_ble_eq_true rfl) ?_
  intro p e s m below meth c ls B hW hl
  have B : z_Bd Γ p s m _ meth c cX11_doubt 6 (some .int) RX11 := B
  have hl : lv_has ls 6 [(0, .ref l0), (1, .int l1)] := hl
  rw [X11_doubt] at hf
  have hx := B.1
  have hb := B.2.1
  have hml := B.2.2.1
  have ho := B.2.2.2.1
  have hw := B.2.2.2.2.1
  have hE := B.2.2.2.2.2.1.2.2
  have hg := B.2.2.2.2.2.2.1
  refine lv_iload_n hx hb dX11_doubt_0 rfl (lv_at hl 1 rfl) ?_
  refine lv_i2l hx hb dX11_doubt_1 rfl ?_
  refine lv_lconst (v := 1) hx hb dX11_doubt_2 (by decide) ?_
  refine lv_ldc2 hx hb ho (hw _ q1094) dX11_doubt_3 ?_
  refine z_cS (As := [.long l1.toInt64, .long (1 : Int64), .long (60 : Int64)]) (rest := []) B hW (f_X11_isIn l) sc_X11_isIn ⟨q909, q910⟩ ⟨Nat.le_of_ble_eq_true rfl, Nat.le_of_ble_eq_true rfl⟩ ⟨Nat.zero_le _, Nat.zero_le _⟩ rfl hl.1 rfl (Nat.le_of_ble_eq_true rfl) dX11_doubt_6 (fun H locs hW => ?_)
  refine lv_if_ne (tgt := 19) hx hb dX11_doubt_9 (by decide) (fun c3 => ?_) (fun c3 => ?_)
  · have hf := z_if c3 hf
    refine lv_aload_n hx hb dX11_doubt_19 rfl (lv_at hl 0 rfl) ?_
    refine z_get_11_0 B hW h0 q855 dX11_doubt_20 ?_
    refine lv_aload_n hx hb dX11_doubt_23 rfl (lv_at hl 0 rfl) ?_
    refine z_get_11_3 B hW h0 q858 dX11_doubt_24 ?_
    obtain ⟨M5, e6, hf⟩ := z_bd hf
    refine z_cS (As := [.ref (z_r Γ l0 0), .ref (z_r Γ l0 3)]) (rest := []) B hW (f_X11_copyRow l e6 (z_g11_0 hg h0) (z_g11_3 hg h0)) sc_X11_copyRow ⟨q1066, q1067⟩ ⟨Nat.le_of_ble_eq_true rfl, Nat.le_of_ble_eq_true rfl⟩ ⟨Nat.zero_le _, Nat.zero_le _⟩ rfl hl.1 rfl (Nat.le_of_ble_eq_true rfl) dX11_doubt_27 (fun H locs hW => ?_)
    refine lv_iconst (v := 0) hx hb dX11_doubt_30 (by decide) ?_
    refine lv_istore_n (lv' := [(2, .int (0 : Int32)), (0, .ref l0), (1, .int l1)]) hx hb dX11_doubt_31 rfl hl (by decide) rfl (fun ls hl => ?_)
    refine lv_iconst (v := -1) hx hb dX11_doubt_32 (by decide) ?_
    refine lv_istore_n (lv' := [(3, .int (-1 : Int32)), (2, .int (0 : Int32)), (0, .ref l0), (1, .int l1)]) hx hb dX11_doubt_33 rfl hl (by decide) rfl (fun ls hl => ?_)
    refine lv_iconst (v := 0) hx hb dX11_doubt_34 (by decide) ?_
    refine lv_istore (lv' := [(4, .int (0 : Int32)), (3, .int (-1 : Int32)), (2, .int (0 : Int32)), (0, .ref l0), (1, .int l1)]) hx hb dX11_doubt_35 hl (by decide) rfl (fun ls hl => ?_)
    exact w_X11_doubt_P37 B 1000 M5 l0 l1 (0 : Int32) (-1 : Int32) (0 : Int32) _ _ hf h0 _ _ _ hW (lv_sub hl [3, 4, 2, 1, 0] rfl)
  · have hf := z_it c3 hf
    refine lv_aload_n hx hb dX11_doubt_12 rfl (lv_at hl 0 rfl) ?_
    refine lv_ldc hx hb ho (hw _ q916) dX11_doubt_13 ?_
    obtain ⟨r7, M8, e9, hf⟩ := z_bpe hf
    refine z_cV (As := [.int (-1000000001 : Int32)]) (rest := []) B hW (f_X11_finds l e9 h0) sc_X11_finds sv_X11_40 h0 ⟨Nat.le_of_ble_eq_true rfl, Nat.le_of_ble_eq_true rfl⟩ ⟨Nat.zero_le _, Nat.zero_le _⟩ rfl hl.1 rfl (Nat.le_of_ble_eq_true rfl) dX11_doubt_15 (fun H locs hW => ?_)
    obtain ⟨e1, e2⟩ := z_s2 hf
    subst e1
    subst e2
    exact z_ri B hW dX11_doubt_18
set_option maxHeartbeats 4000000 in
set_option maxRecDepth 100000 in
theorem w_X11_wisest_P39 (B : z_Bd Γ p s m args meth c cX11_wisest 4 (some .int) RX11) : ∀ (n : Nat) (M : Zm) (l0 : Nat) (l2 : Int32) (l3 : Int32) (r : Int32) (M' : Zm), X11_wisest_P39 Γ n M l0 l2 l3 = some (r, M') → z_Is Γ 11 l0 → ∀ (H : Heap) (locs : List Loc) (ls : Array Slot), z_Wd Γ M s.heap H locs → lv_has ls 4 [(0, .ref l0), (2, .int l2), (3, .int l3)] → W p l e (z_rm 5 117) s m args below meth c H locs 0 0 (z_Q Γ below args s (some (.int r)) M') (F0 m 39 ls []) := by
  have hx := B.1
  have hb := B.2.1
  have hml := B.2.2.1
  have ho := B.2.2.2.1
  have hw := B.2.2.2.2.1
  have hE := B.2.2.2.2.2.1.2.2
  have hg := B.2.2.2.2.2.2.1
  intro n
  induction n with
  | zero =>
    intro M l0 l2 l3 r M' hf h0 H locs ls hW hl
    cases hf
  | succ n ih =>
    intro M l0 l2 l3 r M' hf h0 H locs ls hW hl
    rw [X11_wisest_P39] at hf
    refine lv_iload_n hx hb dX11_wisest_39 rfl (lv_at hl 2 rfl) ?_
    refine lv_aload_n hx hb dX11_wisest_40 rfl (lv_at hl 0 rfl) ?_
    refine z_get_11_0 B hW h0 q855 dX11_wisest_41 ?_
    refine lv_iconst (v := 0) hx hb dX11_wisest_44 (by decide) ?_
    refine z_ia B hW (z_g11_0 hg h0) (z_ixd (by decide)) dX11_wisest_45 ?_
    refine lv_icmp_ge (tgt := 86) hx hb dX11_wisest_46 (by decide) (fun c13 => ?_) (fun c13 => ?_)
    · have hf := z_it c13 hf
      refine lv_aload_n hx hb dX11_wisest_86 rfl (lv_at hl 0 rfl) ?_
      refine z_get_11_3 B hW h0 q858 dX11_wisest_87 ?_
      refine lv_aload_n hx hb dX11_wisest_90 rfl (lv_at hl 0 rfl) ?_
      refine z_get_11_0 B hW h0 q855 dX11_wisest_91 ?_
      obtain ⟨M15, e16, hf⟩ := z_bd hf
      refine z_cS (As := [.ref (z_r Γ l0 3), .ref (z_r Γ l0 0)]) (rest := []) B hW (f_X11_copyRow l e16 (z_g11_3 hg h0) (z_g11_0 hg h0)) sc_X11_copyRow ⟨q1066, q1067⟩ ⟨Nat.le_of_ble_eq_true rfl, Nat.le_of_ble_eq_true rfl⟩ ⟨Nat.zero_le _, Nat.zero_le _⟩ rfl hl.1 rfl (Nat.le_of_ble_eq_true rfl) dX11_wisest_94 (fun H locs hW => ?_)
      refine lv_aload_n hx hb dX11_wisest_97 rfl (lv_at hl 0 rfl) ?_
      refine lv_iload_n hx hb dX11_wisest_98 rfl (lv_at hl 1 rfl) ?_
      obtain ⟨r17, M18, e19, hf⟩ := z_bpe hf
      refine z_cV (As := [.int l2]) (rest := []) B hW (f_X11_orNone l e19 h0) sc_X11_orNone sv_X11_160 h0 ⟨Nat.le_of_ble_eq_true rfl, Nat.le_of_ble_eq_true rfl⟩ ⟨Nat.zero_le _, Nat.zero_le _⟩ rfl hl.1 rfl (Nat.le_of_ble_eq_true rfl) dX11_wisest_99 (fun H locs hW => ?_)
      obtain ⟨e1, e2⟩ := z_s2 hf
      subst e1
      subst e2
      exact z_ri B hW dX11_wisest_102
    · have hf := z_if c13 hf
      refine lv_iload_n hx hb dX11_wisest_49 rfl (lv_at hl 1 rfl) ?_
      refine lv_if_lt (tgt := 74) hx hb dX11_wisest_50 (by decide) (fun c20 => ?_) (fun c20 => ?_)
      · have hf := z_it c20 hf
        refine lv_iload_n hx hb dX11_wisest_74 rfl (lv_at hl 2 rfl) ?_
        refine lv_goto (tgt := 79) hx hb dX11_wisest_75 (by decide) ?_
        refine lv_istore_n (lv' := [(2, .int l3), (0, .ref l0), (3, .int l3)]) hx hb dX11_wisest_79 rfl hl (by decide) rfl (fun ls hl => ?_)
        refine lv_iinc (v := l3 + (1 : Int32)) (lv' := [(3, .int (l3 + (1 : Int32))), (2, .int l3), (0, .ref l0)]) hx hb dX11_wisest_80 hl (k := 2) rfl rfl (by decide) rfl (fun ls hl => ?_)
        refine lv_goto (tgt := 39) hx hb dX11_wisest_83 (by decide) ?_
        exact ih M l0 l3 (l3 + (1 : Int32)) _ _ hf h0 _ _ _ hW (lv_sub hl [2, 1, 0] rfl)
      · have hf := z_if c20 hf
        refine lv_aload_n hx hb dX11_wisest_53 rfl (lv_at hl 0 rfl) ?_
        refine lv_iload_n hx hb dX11_wisest_54 rfl (lv_at hl 2 rfl) ?_
        refine lv_iconst (v := 1) hx hb dX11_wisest_55 (by decide) ?_
        obtain ⟨r21, e22, hf⟩ := z_bd hf
        refine z_cV (As := [.int l3, .int (1 : Int32)]) (rest := []) B hW (f_X11_its l e22 h0) sc_X11_its sv_X11_58 h0 ⟨Nat.le_of_ble_eq_true rfl, Nat.le_of_ble_eq_true rfl⟩ ⟨Nat.zero_le _, Nat.zero_le _⟩ rfl hl.1 rfl (Nat.le_of_ble_eq_true rfl) dX11_wisest_56 (fun H locs hW => ?_)
        obtain ⟨r23, e24, hf⟩ := z_bd hf
        refine z_cS (As := [.int r21]) (rest := []) B hW (f_X11_many l e24) sc_X11_many ⟨q972, q973⟩ ⟨Nat.le_of_ble_eq_true rfl, Nat.le_of_ble_eq_true rfl⟩ ⟨Nat.zero_le _, Nat.zero_le _⟩ rfl hl.1 rfl (Nat.le_of_ble_eq_true rfl) dX11_wisest_59 (fun H locs hW => ?_)
        refine lv_aload_n hx hb dX11_wisest_62 rfl (lv_at hl 0 rfl) ?_
        refine lv_iload_n hx hb dX11_wisest_63 rfl (lv_at hl 1 rfl) ?_
        refine lv_iconst (v := 1) hx hb dX11_wisest_64 (by decide) ?_
        obtain ⟨r25, e26, hf⟩ := z_bd hf
        refine z_cV (As := [.int l2, .int (1 : Int32)]) (rest := [.int r23]) B hW (f_X11_its l e26 h0) sc_X11_its sv_X11_58 h0 ⟨Nat.le_of_ble_eq_true rfl, Nat.le_of_ble_eq_true rfl⟩ ⟨Nat.zero_le _, Nat.zero_le _⟩ rfl hl.1 rfl (Nat.le_of_ble_eq_true rfl) dX11_wisest_65 (fun H locs hW => ?_)
        obtain ⟨r27, e28, hf⟩ := z_bd hf
        refine z_cS (As := [.int r25]) (rest := [.int r23]) B hW (f_X11_many l e28) sc_X11_many ⟨q972, q973⟩ ⟨Nat.le_of_ble_eq_true rfl, Nat.le_of_ble_eq_true rfl⟩ ⟨Nat.zero_le _, Nat.zero_le _⟩ rfl hl.1 rfl (Nat.le_of_ble_eq_true rfl) dX11_wisest_68 (fun H locs hW => ?_)
        refine lv_icmp_le (tgt := 78) hx hb dX11_wisest_71 (by decide) (fun c29 => ?_) (fun c29 => ?_)
        · have hf := z_it c29 hf
          refine lv_iload_n hx hb dX11_wisest_78 rfl (lv_at hl 1 rfl) ?_
          refine lv_istore_n (lv' := [(2, .int l2), (0, .ref l0), (3, .int l3)]) hx hb dX11_wisest_79 rfl hl (by decide) rfl (fun ls hl => ?_)
          refine lv_iinc (v := l3 + (1 : Int32)) (lv' := [(3, .int (l3 + (1 : Int32))), (2, .int l2), (0, .ref l0)]) hx hb dX11_wisest_80 hl (k := 2) rfl rfl (by decide) rfl (fun ls hl => ?_)
          refine lv_goto (tgt := 39) hx hb dX11_wisest_83 (by decide) ?_
          exact ih M l0 l2 (l3 + (1 : Int32)) _ _ hf h0 _ _ _ hW (lv_sub hl [2, 1, 0] rfl)
        · have hf := z_if c29 hf
          refine lv_iload_n hx hb dX11_wisest_74 rfl (lv_at hl 2 rfl) ?_
          refine lv_goto (tgt := 79) hx hb dX11_wisest_75 (by decide) ?_
          refine lv_istore_n (lv' := [(2, .int l3), (0, .ref l0), (3, .int l3)]) hx hb dX11_wisest_79 rfl hl (by decide) rfl (fun ls hl => ?_)
          refine lv_iinc (v := l3 + (1 : Int32)) (lv' := [(3, .int (l3 + (1 : Int32))), (2, .int l3), (0, .ref l0)]) hx hb dX11_wisest_80 hl (k := 2) rfl rfl (by decide) rfl (fun ls hl => ?_)
          refine lv_goto (tgt := 39) hx hb dX11_wisest_83 (by decide) ?_
          exact ih M l0 l3 (l3 + (1 : Int32)) _ _ hf h0 _ _ _ hW (lv_sub hl [2, 1, 0] rfl)
set_option maxHeartbeats 4000000 in
set_option maxRecDepth 100000 in
theorem f_X11_wisest (l : Launch) {Γ : Zg} {M : Zm} {l0 : Nat} {l1 : Int32} {r : Int32} {M' : Zm} (hf : X11_wisest Γ M l0 l1 = some (r, M')) (h0 : z_Is Γ 11 l0) : z_Fn l Γ yX11_wisest cX11_wisest 4 (some .int) 5 117 [.ref l0, .int l1] M (some (.int r)) M' := by
  refine z_Fn.of (by decide) (Nat.le_of_ble_eq_true rfl) ?_
  intro p e s m below meth c ls B hW hl
  have B : z_Bd Γ p s m _ meth c cX11_wisest 4 (some .int) RX11 := B
  have hl : lv_has ls 4 [(0, .ref l0), (1, .int l1)] := hl
  rw [X11_wisest] at hf
  have hx := B.1
  have hb := B.2.1
  have hml := B.2.2.1
  have ho := B.2.2.2.1
  have hw := B.2.2.2.2.1
  have hE := B.2.2.2.2.2.1.2.2
  have hg := B.2.2.2.2.2.2.1
  refine lv_iload_n hx hb dX11_wisest_0 rfl (lv_at hl 1 rfl) ?_
  refine lv_i2l hx hb dX11_wisest_1 rfl ?_
  refine lv_lconst (v := 0) hx hb dX11_wisest_2 (by decide) ?_
  refine lv_ldc2 hx hb ho (hw _ q1064) dX11_wisest_3 ?_
  refine z_cS (As := [.long l1.toInt64, .long (0 : Int64), .long (200 : Int64)]) (rest := []) B hW (f_X11_isIn l) sc_X11_isIn ⟨q909, q910⟩ ⟨Nat.le_of_ble_eq_true rfl, Nat.le_of_ble_eq_true rfl⟩ ⟨Nat.zero_le _, Nat.zero_le _⟩ rfl hl.1 rfl (Nat.le_of_ble_eq_true rfl) dX11_wisest_6 (fun H locs hW => ?_)
  refine lv_if_ne (tgt := 19) hx hb dX11_wisest_9 (by decide) (fun c3 => ?_) (fun c3 => ?_)
  · have hf := z_if c3 hf
    refine lv_aload_n hx hb dX11_wisest_19 rfl (lv_at hl 0 rfl) ?_
    refine z_get_11_0 B hW h0 q855 dX11_wisest_20 ?_
    refine lv_aload_n hx hb dX11_wisest_23 rfl (lv_at hl 0 rfl) ?_
    refine z_get_11_3 B hW h0 q858 dX11_wisest_24 ?_
    obtain ⟨M5, e6, hf⟩ := z_bd hf
    refine z_cS (As := [.ref (z_r Γ l0 0), .ref (z_r Γ l0 3)]) (rest := []) B hW (f_X11_copyRow l e6 (z_g11_0 hg h0) (z_g11_3 hg h0)) sc_X11_copyRow ⟨q1066, q1067⟩ ⟨Nat.le_of_ble_eq_true rfl, Nat.le_of_ble_eq_true rfl⟩ ⟨Nat.zero_le _, Nat.zero_le _⟩ rfl hl.1 rfl (Nat.le_of_ble_eq_true rfl) dX11_wisest_27 (fun H locs hW => ?_)
    refine lv_aload_n hx hb dX11_wisest_30 rfl (lv_at hl 0 rfl) ?_
    refine lv_iload_n hx hb dX11_wisest_31 rfl (lv_at hl 1 rfl) ?_
    obtain ⟨M8, e9, hf⟩ := z_bd hf
    refine z_cV (As := [.int l1]) (rest := []) B hW (f_X11_goes l e9 h0) sc_X11_goes sv_X11_137 h0 ⟨Nat.le_of_ble_eq_true rfl, Nat.le_of_ble_eq_true rfl⟩ ⟨Nat.zero_le _, Nat.zero_le _⟩ rfl hl.1 rfl (Nat.le_of_ble_eq_true rfl) dX11_wisest_32 (fun H locs hW => ?_)
    refine lv_iconst (v := -1) hx hb dX11_wisest_35 (by decide) ?_
    refine lv_istore_n (lv' := [(2, .int (-1 : Int32)), (0, .ref l0), (1, .int l1)]) hx hb dX11_wisest_36 rfl hl (by decide) rfl (fun ls hl => ?_)
    refine lv_iconst (v := 0) hx hb dX11_wisest_37 (by decide) ?_
    refine lv_istore_n (lv' := [(3, .int (0 : Int32)), (2, .int (-1 : Int32)), (0, .ref l0), (1, .int l1)]) hx hb dX11_wisest_38 rfl hl (by decide) rfl (fun ls hl => ?_)
    exact w_X11_wisest_P39 B 1000 M8 l0 (-1 : Int32) (0 : Int32) _ _ hf h0 _ _ _ hW (lv_sub hl [2, 1, 0] rfl)
  · have hf := z_it c3 hf
    refine lv_aload_n hx hb dX11_wisest_12 rfl (lv_at hl 0 rfl) ?_
    refine lv_ldc hx hb ho (hw _ q916) dX11_wisest_13 ?_
    obtain ⟨r10, M11, e12, hf⟩ := z_bpe hf
    refine z_cV (As := [.int (-1000000001 : Int32)]) (rest := []) B hW (f_X11_finds l e12 h0) sc_X11_finds sv_X11_40 h0 ⟨Nat.le_of_ble_eq_true rfl, Nat.le_of_ble_eq_true rfl⟩ ⟨Nat.zero_le _, Nat.zero_le _⟩ rfl hl.1 rfl (Nat.le_of_ble_eq_true rfl) dX11_wisest_15 (fun H locs hW => ?_)
    obtain ⟨e1, e2⟩ := z_s2 hf
    subst e1
    subst e2
    exact z_ri B hW dX11_wisest_18
set_option maxHeartbeats 4000000 in
set_option maxRecDepth 100000 in
theorem w_X11_feed_P41 (B : z_Bd Γ p s m args meth c cX11_feed 4 (some .int) RX11) : ∀ (n : Nat) (M : Zm) (l0 : Nat) (l1 : Int32) (l3 : Int32) (r : Int32) (M' : Zm), X11_feed_P41 Γ n M l0 l1 l3 = some (r, M') → z_Is Γ 11 l0 → ∀ (H : Heap) (locs : List Loc) (ls : Array Slot), z_Wd Γ M s.heap H locs → lv_has ls 4 [(0, .ref l0), (1, .int l1), (3, .int l3)] → W p l e (z_rm 1 25) s m args below meth c H locs 0 0 (z_Q Γ below args s (some (.int r)) M') (F0 m 41 ls []) := by
  have hx := B.1
  have hb := B.2.1
  have hml := B.2.2.1
  have ho := B.2.2.2.1
  have hw := B.2.2.2.2.1
  have hE := B.2.2.2.2.2.1.2.2
  have hg := B.2.2.2.2.2.2.1
  intro n
  induction n with
  | zero =>
    intro M l0 l1 l3 r M' hf h0 H locs ls hW hl
    cases hf
  | succ n ih =>
    intro M l0 l1 l3 r M' hf h0 H locs ls hW hl
    rw [X11_feed_P41] at hf
    refine lv_iload_n hx hb dX11_feed_41 rfl (lv_at hl 2 rfl) ?_
    refine lv_if_lt (tgt := 80) hx hb dX11_feed_42 (by decide) (fun c11 => ?_) (fun c11 => ?_)
    · have hf := z_it c11 hf
      refine lv_aload_n hx hb dX11_feed_80 rfl (lv_at hl 0 rfl) ?_
      refine z_get_11_7 B hW h0 q862 dX11_feed_81 ?_
      obtain ⟨e1, e2⟩ := z_s2 hf
      subst e1
      subst e2
      exact z_ri B hW dX11_feed_84
    · have hf := z_if c11 hf
      refine lv_aload_n hx hb dX11_feed_45 rfl (lv_at hl 0 rfl) ?_
      refine z_get_11_6 B hW h0 q861 dX11_feed_46 ?_
      refine lv_aload_n hx hb dX11_feed_49 rfl (lv_at hl 0 rfl) ?_
      refine z_get_11_7 B hW h0 q862 dX11_feed_50 ?_
      refine lv_iload_n hx hb dX11_feed_53 rfl (lv_at hl 1 rfl) ?_
      refine lv_bipush (v := 8) hx hb dX11_feed_54 (by decide) ?_
      refine lv_iload_n hx hb dX11_feed_56 rfl (lv_at hl 2 rfl) ?_
      refine lv_imul hx hb dX11_feed_57 ?_
      refine lv_ishr hx hb dX11_feed_58 ?_
      refine lv_sipush (v := 255) hx hb dX11_feed_59 (by decide) ?_
      refine lv_iand hx hb dX11_feed_62 ?_
      obtain ⟨g12, hf⟩ := z_gd hf
      refine z_is B hW (z_g11_6 hg h0) g12 dX11_feed_63 (fun H locs hW => ?_)
      obtain ⟨M13, e14, hf⟩ := z_le hf
      have hW := z_wde e14 hW
      refine lv_aload_n hx hb dX11_feed_64 rfl (lv_at hl 0 rfl) ?_
      refine lv_dup hx hb dX11_feed_65 rfl ?_
      refine z_get_11_7 B hW h0 q862 dX11_feed_66 ?_
      refine lv_iconst (v := 1) hx hb dX11_feed_69 (by decide) ?_
      refine lv_iadd hx hb dX11_feed_70 ?_
      refine z_put_11_7 B hW h0 q862 dX11_feed_71 (fun H locs hW => ?_)
      obtain ⟨M15, e16, hf⟩ := z_le hf
      have hW := z_wde e16 hW
      refine lv_iinc (v := l3 + (-1 : Int32)) (lv' := [(3, .int (l3 + (-1 : Int32))), (0, .ref l0), (1, .int l1)]) hx hb dX11_feed_74 hl (k := 2) rfl rfl (by decide) rfl (fun ls hl => ?_)
      refine lv_goto (tgt := 41) hx hb dX11_feed_77 (by decide) ?_
      exact ih M15 l0 l1 (l3 + (-1 : Int32)) _ _ hf h0 _ _ _ hW (lv_sub hl [1, 2, 0] rfl)
set_option maxHeartbeats 4000000 in
set_option maxRecDepth 100000 in
theorem f_X11_feed (l : Launch) {Γ : Zg} {M : Zm} {l0 : Nat} {l1 : Int32} {l2 : Int32} {r : Int32} {M' : Zm} (hf : X11_feed Γ M l0 l1 l2 = some (r, M')) (h0 : z_Is Γ 11 l0) : z_Fn l Γ yX11_feed cX11_feed 4 (some .int) 1 25 [.ref l0, .int l1, .int l2] M (some (.int r)) M' := by
  refine z_Fn.of (by decide) (Nat.le_of_ble_eq_true rfl) ?_
  intro p e s m below meth c ls B hW hl
  have B : z_Bd Γ p s m _ meth c cX11_feed 4 (some .int) RX11 := B
  have hl : lv_has ls 4 [(0, .ref l0), (1, .int l1), (2, .int l2)] := hl
  rw [X11_feed] at hf
  have hx := B.1
  have hb := B.2.1
  have hml := B.2.2.1
  have ho := B.2.2.2.1
  have hw := B.2.2.2.2.1
  have hE := B.2.2.2.2.2.1.2.2
  have hg := B.2.2.2.2.2.2.1
  refine lv_iload_n hx hb dX11_feed_0 rfl (lv_at hl 2 rfl) ?_
  refine lv_i2l hx hb dX11_feed_1 rfl ?_
  refine lv_lconst (v := 1) hx hb dX11_feed_2 (by decide) ?_
  refine lv_ldc2 hx hb ho (hw _ q1128) dX11_feed_3 ?_
  refine z_cS (As := [.long l2.toInt64, .long (1 : Int64), .long (4 : Int64)]) (rest := []) B hW (f_X11_isIn l) sc_X11_isIn ⟨q909, q910⟩ ⟨Nat.le_of_ble_eq_true rfl, Nat.le_of_ble_eq_true rfl⟩ ⟨Nat.zero_le _, Nat.zero_le _⟩ rfl hl.1 rfl (Nat.le_of_ble_eq_true rfl) dX11_feed_6 (fun H locs hW => ?_)
  refine lv_if_ne (tgt := 19) hx hb dX11_feed_9 (by decide) (fun c3 => ?_) (fun c3 => ?_)
  · have hf := z_if c3 hf
    refine lv_aload_n hx hb dX11_feed_19 rfl (lv_at hl 0 rfl) ?_
    refine z_get_11_7 B hW h0 q862 dX11_feed_20 ?_
    refine lv_iload_n hx hb dX11_feed_23 rfl (lv_at hl 2 rfl) ?_
    refine lv_iadd hx hb dX11_feed_24 ?_
    refine lv_bipush (v := 120) hx hb dX11_feed_25 (by decide) ?_
    refine lv_icmp_le (tgt := 37) hx hb dX11_feed_27 (by decide) (fun c4 => ?_) (fun c4 => ?_)
    · have hf := z_it c4 hf
      refine lv_iload_n hx hb dX11_feed_37 rfl (lv_at hl 2 rfl) ?_
      refine lv_iconst (v := 1) hx hb dX11_feed_38 (by decide) ?_
      refine lv_isub hx hb dX11_feed_39 ?_
      refine lv_istore_n (lv' := [(3, .int (l2 - (1 : Int32))), (0, .ref l0), (1, .int l1), (2, .int l2)]) hx hb dX11_feed_40 rfl hl (by decide) rfl (fun ls hl => ?_)
      exact w_X11_feed_P41 B 1000 M l0 l1 (l2 - (1 : Int32)) _ _ hf h0 _ _ _ hW (lv_sub hl [1, 2, 0] rfl)
    · have hf := z_if c4 hf
      refine lv_aload_n hx hb dX11_feed_30 rfl (lv_at hl 0 rfl) ?_
      refine lv_ldc hx hb ho (hw _ q937) dX11_feed_31 ?_
      obtain ⟨r5, M6, e7, hf⟩ := z_bpe hf
      refine z_cV (As := [.int (-1000000002 : Int32)]) (rest := []) B hW (f_X11_finds l e7 h0) sc_X11_finds sv_X11_40 h0 ⟨Nat.le_of_ble_eq_true rfl, Nat.le_of_ble_eq_true rfl⟩ ⟨Nat.zero_le _, Nat.zero_le _⟩ rfl hl.1 rfl (Nat.le_of_ble_eq_true rfl) dX11_feed_33 (fun H locs hW => ?_)
      obtain ⟨e1, e2⟩ := z_s2 hf
      subst e1
      subst e2
      exact z_ri B hW dX11_feed_36
  · have hf := z_it c3 hf
    refine lv_aload_n hx hb dX11_feed_12 rfl (lv_at hl 0 rfl) ?_
    refine lv_ldc hx hb ho (hw _ q916) dX11_feed_13 ?_
    obtain ⟨r8, M9, e10, hf⟩ := z_bpe hf
    refine z_cV (As := [.int (-1000000001 : Int32)]) (rest := []) B hW (f_X11_finds l e10 h0) sc_X11_finds sv_X11_40 h0 ⟨Nat.le_of_ble_eq_true rfl, Nat.le_of_ble_eq_true rfl⟩ ⟨Nat.zero_le _, Nat.zero_le _⟩ rfl hl.1 rfl (Nat.le_of_ble_eq_true rfl) dX11_feed_15 (fun H locs hW => ?_)
    obtain ⟨e1, e2⟩ := z_s2 hf
    subst e1
    subst e2
    exact z_ri B hW dX11_feed_18
set_option maxHeartbeats 4000000 in
set_option maxRecDepth 100000 in
theorem f_X11_wipe (l : Launch) {Γ : Zg} {M : Zm} {l0 : Nat} {r : Int32} {M' : Zm} (hf : X11_wipe M l0 = (r, M')) (h0 : z_Is Γ 11 l0) : z_Fn l Γ yX11_wipe cX11_wipe 2 (some .int) 0 0 [.ref l0] M (some (.int r)) M' := by
  refine z_Fn.of (by decide) (Nat.le_of_ble_eq_true rfl) ?_
  intro p e s m below meth c ls B hW hl
  have B : z_Bd Γ p s m _ meth c cX11_wipe 2 (some .int) RX11 := B
  have hl : lv_has ls 2 [(0, .ref l0)] := hl
  rw [X11_wipe] at hf
  have hx := B.1
  have hb := B.2.1
  have hml := B.2.2.1
  have ho := B.2.2.2.1
  have hw := B.2.2.2.2.1
  have hE := B.2.2.2.2.2.1.2.2
  have hg := B.2.2.2.2.2.2.1
  refine lv_aload_n hx hb dX11_wipe_0 rfl (lv_at hl 0 rfl) ?_
  refine z_get_11_7 B hW h0 q862 dX11_wipe_1 ?_
  refine lv_istore_n (lv' := [(1, .int (M.1 l0 7)), (0, .ref l0)]) hx hb dX11_wipe_4 rfl hl (by decide) rfl (fun ls hl => ?_)
  refine lv_aload_n hx hb dX11_wipe_5 rfl (lv_at hl 1 rfl) ?_
  refine lv_iconst (v := 0) hx hb dX11_wipe_6 (by decide) ?_
  refine z_put_11_7 B hW h0 q862 dX11_wipe_7 (fun H locs hW => ?_)
  obtain ⟨M1, e2, hf⟩ := z_le hf
  have hW := z_wde e2 hW
  refine lv_iload_n hx hb dX11_wipe_10 rfl (lv_at hl 0 rfl) ?_
  obtain ⟨e1, e2⟩ := Prod.mk.inj hf
  subst e1
  subst e2
  exact z_ri B hW dX11_wipe_11
set_option maxHeartbeats 4000000 in
set_option maxRecDepth 100000 in
theorem f_X11_isLetter (l : Launch) {Γ : Zg} {M : Zm} {l0 : Int32}  : z_Fn l Γ yX11_isLetter cX11_isLetter 1 (some .boolean) 0 0 [.int l0] M (some (.int (X11_isLetter l0))) M := by
  generalize hf : X11_isLetter l0 = r
  refine z_Fn.of (by decide) (Nat.le_of_ble_eq_true rfl) ?_
  intro p e s m below meth c ls B hW hl
  have B : z_Bd Γ p s m _ meth c cX11_isLetter 1 (some .boolean) RX11 := B
  have hl : lv_has ls 1 [(0, .int l0)] := hl
  rw [X11_isLetter] at hf
  have hx := B.1
  have hb := B.2.1
  have hml := B.2.2.1
  have ho := B.2.2.2.1
  have hw := B.2.2.2.2.1
  have hE := B.2.2.2.2.2.1.2.2
  have hg := B.2.2.2.2.2.2.1
  refine lv_iload_n hx hb dX11_isLetter_0 rfl (lv_at hl 0 rfl) ?_
  refine lv_bipush (v := 97) hx hb dX11_isLetter_1 (by decide) ?_
  refine lv_icmp_lt (tgt := 16) hx hb dX11_isLetter_3 (by decide) (fun c1 => ?_) (fun c1 => ?_)
  · have hf := z_it c1 hf
    refine lv_iconst (v := 0) hx hb dX11_isLetter_16 (by decide) ?_
    subst hf
    exact z_rz B hW (Or.inl rfl) dX11_isLetter_17
  · have hf := z_if c1 hf
    refine lv_iload_n hx hb dX11_isLetter_6 rfl (lv_at hl 0 rfl) ?_
    refine lv_bipush (v := 122) hx hb dX11_isLetter_7 (by decide) ?_
    refine lv_icmp_gt (tgt := 16) hx hb dX11_isLetter_9 (by decide) (fun c2 => ?_) (fun c2 => ?_)
    · have hf := z_it c2 hf
      refine lv_iconst (v := 0) hx hb dX11_isLetter_16 (by decide) ?_
      subst hf
      exact z_rz B hW (Or.inl rfl) dX11_isLetter_17
    · have hf := z_if c2 hf
      refine lv_iconst (v := 1) hx hb dX11_isLetter_12 (by decide) ?_
      refine lv_goto (tgt := 17) hx hb dX11_isLetter_13 (by decide) ?_
      subst hf
      exact z_rz B hW (Or.inr rfl) dX11_isLetter_17
set_option maxHeartbeats 4000000 in
set_option maxRecDepth 100000 in
theorem f_X11_isDigit (l : Launch) {Γ : Zg} {M : Zm} {l0 : Int32}  : z_Fn l Γ yX11_isDigit cX11_isDigit 1 (some .boolean) 0 0 [.int l0] M (some (.int (X11_isDigit l0))) M := by
  generalize hf : X11_isDigit l0 = r
  refine z_Fn.of (by decide) (Nat.le_of_ble_eq_true rfl) ?_
  intro p e s m below meth c ls B hW hl
  have B : z_Bd Γ p s m _ meth c cX11_isDigit 1 (some .boolean) RX11 := B
  have hl : lv_has ls 1 [(0, .int l0)] := hl
  rw [X11_isDigit] at hf
  have hx := B.1
  have hb := B.2.1
  have hml := B.2.2.1
  have ho := B.2.2.2.1
  have hw := B.2.2.2.2.1
  have hE := B.2.2.2.2.2.1.2.2
  have hg := B.2.2.2.2.2.2.1
  refine lv_iload_n hx hb dX11_isDigit_0 rfl (lv_at hl 0 rfl) ?_
  refine lv_bipush (v := 48) hx hb dX11_isDigit_1 (by decide) ?_
  refine lv_icmp_lt (tgt := 16) hx hb dX11_isDigit_3 (by decide) (fun c1 => ?_) (fun c1 => ?_)
  · have hf := z_it c1 hf
    refine lv_iconst (v := 0) hx hb dX11_isDigit_16 (by decide) ?_
    subst hf
    exact z_rz B hW (Or.inl rfl) dX11_isDigit_17
  · have hf := z_if c1 hf
    refine lv_iload_n hx hb dX11_isDigit_6 rfl (lv_at hl 0 rfl) ?_
    refine lv_bipush (v := 57) hx hb dX11_isDigit_7 (by decide) ?_
    refine lv_icmp_gt (tgt := 16) hx hb dX11_isDigit_9 (by decide) (fun c2 => ?_) (fun c2 => ?_)
    · have hf := z_it c2 hf
      refine lv_iconst (v := 0) hx hb dX11_isDigit_16 (by decide) ?_
      subst hf
      exact z_rz B hW (Or.inl rfl) dX11_isDigit_17
    · have hf := z_if c2 hf
      refine lv_iconst (v := 1) hx hb dX11_isDigit_12 (by decide) ?_
      refine lv_goto (tgt := 17) hx hb dX11_isDigit_13 (by decide) ?_
      subst hf
      exact z_rz B hW (Or.inr rfl) dX11_isDigit_17
set_option maxHeartbeats 4000000 in
set_option maxRecDepth 100000 in
theorem f_X11_byteAt (l : Launch) {Γ : Zg} {M : Zm} {l0 : Nat} {l1 : Int32} {r : Int32} (hf : X11_byteAt Γ M l0 l1 = some r) (h0 : z_Is Γ 11 l0) : z_Fn l Γ yX11_byteAt cX11_byteAt 2 (some .int) 0 0 [.ref l0, .int l1] M (some (.int r)) M := by
  refine z_Fn.of (by decide) (Nat.le_of_ble_eq_true rfl) ?_
  intro p e s m below meth c ls B hW hl
  have B : z_Bd Γ p s m _ meth c cX11_byteAt 2 (some .int) RX11 := B
  have hl : lv_has ls 2 [(0, .ref l0), (1, .int l1)] := hl
  rw [X11_byteAt] at hf
  have hx := B.1
  have hb := B.2.1
  have hml := B.2.2.1
  have ho := B.2.2.2.1
  have hw := B.2.2.2.2.1
  have hE := B.2.2.2.2.2.1.2.2
  have hg := B.2.2.2.2.2.2.1
  refine lv_iload_n hx hb dX11_byteAt_0 rfl (lv_at hl 1 rfl) ?_
  refine lv_aload_n hx hb dX11_byteAt_1 rfl (lv_at hl 0 rfl) ?_
  refine z_get_11_7 B hW h0 q862 dX11_byteAt_2 ?_
  refine lv_icmp_ge (tgt := 17) hx hb dX11_byteAt_5 (by decide) (fun c1 => ?_) (fun c1 => ?_)
  · have hf := z_it c1 hf
    refine lv_iconst (v := -1) hx hb dX11_byteAt_17 (by decide) ?_
    have hf := Option.some.inj hf
    subst hf
    exact z_ri B hW dX11_byteAt_18
  · have hf := z_if c1 hf
    refine lv_aload_n hx hb dX11_byteAt_8 rfl (lv_at hl 0 rfl) ?_
    refine z_get_11_6 B hW h0 q861 dX11_byteAt_9 ?_
    refine lv_iload_n hx hb dX11_byteAt_12 rfl (lv_at hl 1 rfl) ?_
    obtain ⟨g2, hf⟩ := z_gd hf
    refine z_ia B hW (z_g11_6 hg h0) g2 dX11_byteAt_13 ?_
    refine lv_goto (tgt := 18) hx hb dX11_byteAt_14 (by decide) ?_
    have hf := Option.some.inj hf
    subst hf
    exact z_ri B hW dX11_byteAt_18
set_option maxHeartbeats 4000000 in
set_option maxRecDepth 100000 in
theorem w_X11_nextToken_P211 (B : z_Bd Γ p s m args meth c cX11_nextToken 2 none RX11) : ∀ (M : Zm) (l0 : Nat) (M' : Zm), X11_nextToken_P211 Γ M l0 = some M' → z_Is Γ 11 l0 → ∀ (H : Heap) (locs : List Loc) (ls : Array Slot), z_Wd Γ M s.heap H locs → lv_has ls 2 [(0, .ref l0)] → W p l e (z_rm 1 21) s m args below meth c H locs 0 0 (z_Q Γ below args s none M') (F0 m 211 ls []) := by
  have hx := B.1
  have hb := B.2.1
  have hml := B.2.2.1
  have ho := B.2.2.2.1
  have hw := B.2.2.2.2.1
  have hE := B.2.2.2.2.2.1.2.2
  have hg := B.2.2.2.2.2.2.1
  intro M l0 M' hf h0 H locs ls hW hl
  rw [X11_nextToken_P211] at hf
  refine lv_aload_n hx hb dX11_nextToken_211 rfl (lv_at hl 0 rfl) ?_
  refine lv_dup hx hb dX11_nextToken_212 rfl ?_
  refine z_get_11_13 B hW h0 q868 dX11_nextToken_213 ?_
  refine lv_aload_n hx hb dX11_nextToken_216 rfl (lv_at hl 0 rfl) ?_
  refine z_get_11_11 B hW h0 q866 dX11_nextToken_217 ?_
  refine lv_iconst (v := 2) hx hb dX11_nextToken_220 (by decide) ?_
  refine lv_icmp_le (tgt := 228) hx hb dX11_nextToken_221 (by decide) (fun c65 => ?_) (fun c65 => ?_)
  · have hf := z_it c65 hf
    refine lv_iconst (v := 0) hx hb dX11_nextToken_228 (by decide) ?_
    refine lv_iadd hx hb dX11_nextToken_229 ?_
    refine z_put_11_13 B hW h0 q868 dX11_nextToken_230 (fun H locs hW => ?_)
    obtain ⟨M66, e67, hf⟩ := z_le hf
    have hW := z_wde e67 hW
    have hf := Option.some.inj hf
    subst hf
    exact z_rv B hW dX11_nextToken_233
  · have hf := z_if c65 hf
    refine lv_iconst (v := 1) hx hb dX11_nextToken_224 (by decide) ?_
    refine lv_goto (tgt := 229) hx hb dX11_nextToken_225 (by decide) ?_
    refine lv_iadd hx hb dX11_nextToken_229 ?_
    refine z_put_11_13 B hW h0 q868 dX11_nextToken_230 (fun H locs hW => ?_)
    obtain ⟨M68, e69, hf⟩ := z_le hf
    have hW := z_wde e69 hW
    have hf := Option.some.inj hf
    subst hf
    exact z_rv B hW dX11_nextToken_233
set_option maxHeartbeats 4000000 in
set_option maxRecDepth 100000 in
theorem w_X11_nextToken_P136 (B : z_Bd Γ p s m args meth c cX11_nextToken 2 none RX11) : ∀ (n : Nat) (M : Zm) (l0 : Nat) (M' : Zm), X11_nextToken_P136 Γ n M l0 = some M' → z_Is Γ 11 l0 → ∀ (H : Heap) (locs : List Loc) (ls : Array Slot), z_Wd Γ M s.heap H locs → lv_has ls 2 [(0, .ref l0)] → W p l e (z_rm 1 21) s m args below meth c H locs 0 0 (z_Q Γ below args s none M') (F0 m 136 ls []) := by
  have hx := B.1
  have hb := B.2.1
  have hml := B.2.2.1
  have ho := B.2.2.2.1
  have hw := B.2.2.2.2.1
  have hE := B.2.2.2.2.2.1.2.2
  have hg := B.2.2.2.2.2.2.1
  intro n
  induction n with
  | zero =>
    intro M l0 M' hf h0 H locs ls hW hl
    cases hf
  | succ n ih =>
    intro M l0 M' hf h0 H locs ls hW hl
    rw [X11_nextToken_P136] at hf
    refine lv_aload_n hx hb dX11_nextToken_136 rfl (lv_at hl 0 rfl) ?_
    refine z_get_11_11 B hW h0 q866 dX11_nextToken_137 ?_
    refine lv_iconst (v := 2) hx hb dX11_nextToken_140 (by decide) ?_
    refine lv_icmp_ne (tgt := 211) hx hb dX11_nextToken_141 (by decide) (fun c48 => ?_) (fun c48 => ?_)
    · have hf := z_if c48 hf
      exact w_X11_nextToken_P211 B M l0 _ hf h0 _ _ _ hW (lv_sub hl [0] rfl)
    · have hf := z_it c48 hf
      refine lv_aload_n hx hb dX11_nextToken_144 rfl (lv_at hl 0 rfl) ?_
      refine lv_aload_n hx hb dX11_nextToken_145 rfl (lv_at hl 0 rfl) ?_
      refine z_get_11_13 B hW h0 q868 dX11_nextToken_146 ?_
      obtain ⟨r49, e50, hf⟩ := z_bd hf
      refine z_cV (As := [.int (M.1 l0 13)]) (rest := []) B hW (f_X11_byteAt l e50 h0) sc_X11_byteAt sv_X11_183 h0 ⟨Nat.le_of_ble_eq_true rfl, Nat.le_of_ble_eq_true rfl⟩ ⟨Nat.zero_le _, Nat.zero_le _⟩ rfl hl.1 rfl (Nat.le_of_ble_eq_true rfl) dX11_nextToken_149 (fun H locs hW => ?_)
      refine z_cS (As := [.int r49]) (rest := []) B hW (f_X11_isDigit l) sc_X11_isDigit ⟨q1148, q1149⟩ ⟨Nat.le_of_ble_eq_true rfl, Nat.le_of_ble_eq_true rfl⟩ ⟨Nat.zero_le _, Nat.zero_le _⟩ rfl hl.1 rfl (Nat.le_of_ble_eq_true rfl) dX11_nextToken_152 (fun H locs hW => ?_)
      refine lv_if_eq (tgt := 211) hx hb dX11_nextToken_155 (by decide) (fun c53 => ?_) (fun c53 => ?_)
      · have hf := z_it c53 hf
        exact w_X11_nextToken_P211 B M l0 _ hf h0 _ _ _ hW (lv_sub hl [0] rfl)
      · have hf := z_if c53 hf
        refine lv_aload_n hx hb dX11_nextToken_158 rfl (lv_at hl 0 rfl) ?_
        refine lv_aload_n hx hb dX11_nextToken_159 rfl (lv_at hl 0 rfl) ?_
        refine z_get_11_14 B hW h0 q869 dX11_nextToken_160 ?_
        refine lv_sipush (v := 999) hx hb dX11_nextToken_163 (by decide) ?_
        refine lv_icmp_le (tgt := 176) hx hb dX11_nextToken_166 (by decide) (fun c54 => ?_) (fun c54 => ?_)
        · have hf := z_it c54 hf
          refine lv_bipush (v := 10) hx hb dX11_nextToken_176 (by decide) ?_
          refine lv_aload_n hx hb dX11_nextToken_178 rfl (lv_at hl 0 rfl) ?_
          refine z_get_11_14 B hW h0 q869 dX11_nextToken_179 ?_
          refine lv_imul hx hb dX11_nextToken_182 ?_
          refine lv_aload_n hx hb dX11_nextToken_183 rfl (lv_at hl 0 rfl) ?_
          refine lv_aload_n hx hb dX11_nextToken_184 rfl (lv_at hl 0 rfl) ?_
          refine z_get_11_13 B hW h0 q868 dX11_nextToken_185 ?_
          obtain ⟨r55, e56, hf⟩ := z_bd hf
          refine z_cV (As := [.int (M.1 l0 13)]) (rest := [.int ((10 : Int32) * (M.1 l0 14)), .ref l0]) B hW (f_X11_byteAt l e56 h0) sc_X11_byteAt sv_X11_183 h0 ⟨Nat.le_of_ble_eq_true rfl, Nat.le_of_ble_eq_true rfl⟩ ⟨Nat.zero_le _, Nat.zero_le _⟩ rfl hl.1 rfl (Nat.le_of_ble_eq_true rfl) dX11_nextToken_188 (fun H locs hW => ?_)
          refine lv_iadd hx hb dX11_nextToken_191 ?_
          refine lv_bipush (v := 48) hx hb dX11_nextToken_192 (by decide) ?_
          refine lv_isub hx hb dX11_nextToken_194 ?_
          refine z_put_11_14 B hW h0 q869 dX11_nextToken_195 (fun H locs hW => ?_)
          obtain ⟨M57, e58, hf⟩ := z_le hf
          have hW := z_wde e58 hW
          refine lv_aload_n hx hb dX11_nextToken_198 rfl (lv_at hl 0 rfl) ?_
          refine lv_dup hx hb dX11_nextToken_199 rfl ?_
          refine z_get_11_13 B hW h0 q868 dX11_nextToken_200 ?_
          refine lv_iconst (v := 1) hx hb dX11_nextToken_203 (by decide) ?_
          refine lv_iadd hx hb dX11_nextToken_204 ?_
          refine z_put_11_13 B hW h0 q868 dX11_nextToken_205 (fun H locs hW => ?_)
          obtain ⟨M59, e60, hf⟩ := z_le hf
          have hW := z_wde e60 hW
          refine lv_goto (tgt := 136) hx hb dX11_nextToken_208 (by decide) ?_
          exact ih M59 l0 _ hf h0 _ _ _ hW (lv_sub hl [0] rfl)
        · have hf := z_if c54 hf
          refine lv_aload_n hx hb dX11_nextToken_169 rfl (lv_at hl 0 rfl) ?_
          refine z_get_11_14 B hW h0 q869 dX11_nextToken_170 ?_
          refine lv_goto (tgt := 195) hx hb dX11_nextToken_173 (by decide) ?_
          refine z_put_11_14 B hW h0 q869 dX11_nextToken_195 (fun H locs hW => ?_)
          obtain ⟨M61, e62, hf⟩ := z_le hf
          have hW := z_wde e62 hW
          refine lv_aload_n hx hb dX11_nextToken_198 rfl (lv_at hl 0 rfl) ?_
          refine lv_dup hx hb dX11_nextToken_199 rfl ?_
          refine z_get_11_13 B hW h0 q868 dX11_nextToken_200 ?_
          refine lv_iconst (v := 1) hx hb dX11_nextToken_203 (by decide) ?_
          refine lv_iadd hx hb dX11_nextToken_204 ?_
          refine z_put_11_13 B hW h0 q868 dX11_nextToken_205 (fun H locs hW => ?_)
          obtain ⟨M63, e64, hf⟩ := z_le hf
          have hW := z_wde e64 hW
          refine lv_goto (tgt := 136) hx hb dX11_nextToken_208 (by decide) ?_
          exact ih M63 l0 _ hf h0 _ _ _ hW (lv_sub hl [0] rfl)
set_option maxHeartbeats 4000000 in
set_option maxRecDepth 100000 in
theorem w_X11_nextToken_P101 (B : z_Bd Γ p s m args meth c cX11_nextToken 2 none RX11) : ∀ (n : Nat) (M : Zm) (l0 : Nat) (M' : Zm), X11_nextToken_P101 Γ n M l0 = some M' → z_Is Γ 11 l0 → ∀ (H : Heap) (locs : List Loc) (ls : Array Slot), z_Wd Γ M s.heap H locs → lv_has ls 2 [(0, .ref l0)] → W p l e (z_rm 1 21) s m args below meth c H locs 0 0 (z_Q Γ below args s none M') (F0 m 101 ls []) := by
  have hx := B.1
  have hb := B.2.1
  have hml := B.2.2.1
  have ho := B.2.2.2.1
  have hw := B.2.2.2.2.1
  have hE := B.2.2.2.2.2.1.2.2
  have hg := B.2.2.2.2.2.2.1
  intro n
  induction n with
  | zero =>
    intro M l0 M' hf h0 H locs ls hW hl
    cases hf
  | succ n ih =>
    intro M l0 M' hf h0 H locs ls hW hl
    rw [X11_nextToken_P101] at hf
    refine lv_aload_n hx hb dX11_nextToken_101 rfl (lv_at hl 0 rfl) ?_
    refine z_get_11_11 B hW h0 q866 dX11_nextToken_102 ?_
    refine lv_iconst (v := 1) hx hb dX11_nextToken_105 (by decide) ?_
    refine lv_icmp_ne (tgt := 136) hx hb dX11_nextToken_106 (by decide) (fun c40 => ?_) (fun c40 => ?_)
    · have hf := z_if c40 hf
      exact w_X11_nextToken_P136 B 1000 M l0 _ hf h0 _ _ _ hW (lv_sub hl [0] rfl)
    · have hf := z_it c40 hf
      refine lv_aload_n hx hb dX11_nextToken_109 rfl (lv_at hl 0 rfl) ?_
      refine lv_aload_n hx hb dX11_nextToken_110 rfl (lv_at hl 0 rfl) ?_
      refine z_get_11_13 B hW h0 q868 dX11_nextToken_111 ?_
      obtain ⟨r41, e42, hf⟩ := z_bd hf
      refine z_cV (As := [.int (M.1 l0 13)]) (rest := []) B hW (f_X11_byteAt l e42 h0) sc_X11_byteAt sv_X11_183 h0 ⟨Nat.le_of_ble_eq_true rfl, Nat.le_of_ble_eq_true rfl⟩ ⟨Nat.zero_le _, Nat.zero_le _⟩ rfl hl.1 rfl (Nat.le_of_ble_eq_true rfl) dX11_nextToken_114 (fun H locs hW => ?_)
      refine z_cS (As := [.int r41]) (rest := []) B hW (f_X11_isLetter l) sc_X11_isLetter ⟨q1145, q1146⟩ ⟨Nat.le_of_ble_eq_true rfl, Nat.le_of_ble_eq_true rfl⟩ ⟨Nat.zero_le _, Nat.zero_le _⟩ rfl hl.1 rfl (Nat.le_of_ble_eq_true rfl) dX11_nextToken_117 (fun H locs hW => ?_)
      refine lv_if_eq (tgt := 136) hx hb dX11_nextToken_120 (by decide) (fun c45 => ?_) (fun c45 => ?_)
      · have hf := z_it c45 hf
        exact w_X11_nextToken_P136 B 1000 M l0 _ hf h0 _ _ _ hW (lv_sub hl [0] rfl)
      · have hf := z_if c45 hf
        refine lv_aload_n hx hb dX11_nextToken_123 rfl (lv_at hl 0 rfl) ?_
        refine lv_dup hx hb dX11_nextToken_124 rfl ?_
        refine z_get_11_13 B hW h0 q868 dX11_nextToken_125 ?_
        refine lv_iconst (v := 1) hx hb dX11_nextToken_128 (by decide) ?_
        refine lv_iadd hx hb dX11_nextToken_129 ?_
        refine z_put_11_13 B hW h0 q868 dX11_nextToken_130 (fun H locs hW => ?_)
        obtain ⟨M46, e47, hf⟩ := z_le hf
        have hW := z_wde e47 hW
        refine lv_goto (tgt := 101) hx hb dX11_nextToken_133 (by decide) ?_
        exact ih M46 l0 _ hf h0 _ _ _ hW (lv_sub hl [0] rfl)
set_option maxHeartbeats 4000000 in
set_option maxRecDepth 100000 in
theorem w_X11_nextToken_P8 (B : z_Bd Γ p s m args meth c cX11_nextToken 2 none RX11) : ∀ (n : Nat) (M : Zm) (l0 : Nat) (M' : Zm), X11_nextToken_P8 Γ n M l0 = some M' → z_Is Γ 11 l0 → ∀ (H : Heap) (locs : List Loc) (ls : Array Slot), z_Wd Γ M s.heap H locs → lv_has ls 2 [(0, .ref l0)] → W p l e (z_rm 1 21) s m args below meth c H locs 0 0 (z_Q Γ below args s none M') (F0 m 8 ls []) := by
  have hx := B.1
  have hb := B.2.1
  have hml := B.2.2.1
  have ho := B.2.2.2.1
  have hw := B.2.2.2.2.1
  have hE := B.2.2.2.2.2.1.2.2
  have hg := B.2.2.2.2.2.2.1
  intro n
  induction n with
  | zero =>
    intro M l0 M' hf h0 H locs ls hW hl
    cases hf
  | succ n ih =>
    intro M l0 M' hf h0 H locs ls hW hl
    rw [X11_nextToken_P8] at hf
    refine lv_aload_n hx hb dX11_nextToken_8 rfl (lv_at hl 0 rfl) ?_
    refine lv_aload_n hx hb dX11_nextToken_9 rfl (lv_at hl 0 rfl) ?_
    refine z_get_11_12 B hW h0 q867 dX11_nextToken_10 ?_
    obtain ⟨r3, e4, hf⟩ := z_bd hf
    refine z_cV (As := [.int (M.1 l0 12)]) (rest := []) B hW (f_X11_byteAt l e4 h0) sc_X11_byteAt sv_X11_183 h0 ⟨Nat.le_of_ble_eq_true rfl, Nat.le_of_ble_eq_true rfl⟩ ⟨Nat.zero_le _, Nat.zero_le _⟩ rfl hl.1 rfl (Nat.le_of_ble_eq_true rfl) dX11_nextToken_13 (fun H locs hW => ?_)
    refine lv_bipush (v := 32) hx hb dX11_nextToken_16 (by decide) ?_
    refine lv_icmp_ne (tgt := 34) hx hb dX11_nextToken_18 (by decide) (fun c5 => ?_) (fun c5 => ?_)
    · have hf := z_if c5 hf
      refine lv_aload_n hx hb dX11_nextToken_34 rfl (lv_at hl 0 rfl) ?_
      refine lv_aload_n hx hb dX11_nextToken_35 rfl (lv_at hl 0 rfl) ?_
      refine z_get_11_12 B hW h0 q867 dX11_nextToken_36 ?_
      refine z_put_11_13 B hW h0 q868 dX11_nextToken_39 (fun H locs hW => ?_)
      obtain ⟨M6, e7, hf⟩ := z_le hf
      have hW := z_wde e7 hW
      refine lv_aload_n hx hb dX11_nextToken_42 rfl (lv_at hl 0 rfl) ?_
      refine lv_aload_n hx hb dX11_nextToken_43 rfl (lv_at hl 0 rfl) ?_
      refine z_get_11_12 B hW h0 q867 dX11_nextToken_44 ?_
      obtain ⟨r8, e9, hf⟩ := z_bd hf
      refine z_cV (As := [.int (M6.1 l0 12)]) (rest := []) B hW (f_X11_byteAt l e9 h0) sc_X11_byteAt sv_X11_183 h0 ⟨Nat.le_of_ble_eq_true rfl, Nat.le_of_ble_eq_true rfl⟩ ⟨Nat.zero_le _, Nat.zero_le _⟩ rfl hl.1 rfl (Nat.le_of_ble_eq_true rfl) dX11_nextToken_47 (fun H locs hW => ?_)
      refine lv_istore_n (lv' := [(1, .int r8), (0, .ref l0)]) hx hb dX11_nextToken_50 rfl hl (by decide) rfl (fun ls hl => ?_)
      refine lv_aload_n hx hb dX11_nextToken_51 rfl (lv_at hl 1 rfl) ?_
      refine lv_iload_n hx hb dX11_nextToken_52 rfl (lv_at hl 0 rfl) ?_
      refine lv_if_ge (tgt := 60) hx hb dX11_nextToken_53 (by decide) (fun c10 => ?_) (fun c10 => ?_)
      · have hf := z_it c10 hf
        refine lv_iload_n hx hb dX11_nextToken_60 rfl (lv_at hl 0 rfl) ?_
        refine z_cS (As := [.int r8]) (rest := [.ref l0]) B hW (f_X11_isLetter l) sc_X11_isLetter ⟨q1145, q1146⟩ ⟨Nat.le_of_ble_eq_true rfl, Nat.le_of_ble_eq_true rfl⟩ ⟨Nat.zero_le _, Nat.zero_le _⟩ rfl hl.1 rfl (Nat.le_of_ble_eq_true rfl) dX11_nextToken_61 (fun H locs hW => ?_)
        refine lv_if_eq (tgt := 71) hx hb dX11_nextToken_64 (by decide) (fun c13 => ?_) (fun c13 => ?_)
        · have hf := z_it c13 hf
          refine lv_iload_n hx hb dX11_nextToken_71 rfl (lv_at hl 0 rfl) ?_
          refine z_cS (As := [.int r8]) (rest := [.ref l0]) B hW (f_X11_isDigit l) sc_X11_isDigit ⟨q1148, q1149⟩ ⟨Nat.le_of_ble_eq_true rfl, Nat.le_of_ble_eq_true rfl⟩ ⟨Nat.zero_le _, Nat.zero_le _⟩ rfl hl.1 rfl (Nat.le_of_ble_eq_true rfl) dX11_nextToken_72 (fun H locs hW => ?_)
          refine lv_if_eq (tgt := 82) hx hb dX11_nextToken_75 (by decide) (fun c16 => ?_) (fun c16 => ?_)
          · have hf := z_it c16 hf
            refine lv_iload_n hx hb dX11_nextToken_82 rfl (lv_at hl 0 rfl) ?_
            refine lv_bipush (v := 59) hx hb dX11_nextToken_83 (by decide) ?_
            refine lv_icmp_ne (tgt := 92) hx hb dX11_nextToken_85 (by decide) (fun c17 => ?_) (fun c17 => ?_)
            · have hf := z_if c17 hf
              refine lv_iconst (v := 4) hx hb dX11_nextToken_92 (by decide) ?_
              refine z_put_11_11 B hW h0 q866 dX11_nextToken_93 (fun H locs hW => ?_)
              obtain ⟨M18, e19, hf⟩ := z_le hf
              have hW := z_wde e19 hW
              refine lv_aload_n hx hb dX11_nextToken_96 rfl (lv_at hl 1 rfl) ?_
              refine lv_iconst (v := 0) hx hb dX11_nextToken_97 (by decide) ?_
              refine z_put_11_14 B hW h0 q869 dX11_nextToken_98 (fun H locs hW => ?_)
              obtain ⟨M20, e21, hf⟩ := z_le hf
              have hW := z_wde e21 hW
              exact w_X11_nextToken_P101 B 1000 M20 l0 _ hf h0 _ _ _ hW (lv_sub hl [1] rfl)
            · have hf := z_it c17 hf
              refine lv_iconst (v := 3) hx hb dX11_nextToken_88 (by decide) ?_
              refine lv_goto (tgt := 93) hx hb dX11_nextToken_89 (by decide) ?_
              refine z_put_11_11 B hW h0 q866 dX11_nextToken_93 (fun H locs hW => ?_)
              obtain ⟨M22, e23, hf⟩ := z_le hf
              have hW := z_wde e23 hW
              refine lv_aload_n hx hb dX11_nextToken_96 rfl (lv_at hl 1 rfl) ?_
              refine lv_iconst (v := 0) hx hb dX11_nextToken_97 (by decide) ?_
              refine z_put_11_14 B hW h0 q869 dX11_nextToken_98 (fun H locs hW => ?_)
              obtain ⟨M24, e25, hf⟩ := z_le hf
              have hW := z_wde e25 hW
              exact w_X11_nextToken_P101 B 1000 M24 l0 _ hf h0 _ _ _ hW (lv_sub hl [1] rfl)
          · have hf := z_if c16 hf
            refine lv_iconst (v := 2) hx hb dX11_nextToken_78 (by decide) ?_
            refine lv_goto (tgt := 93) hx hb dX11_nextToken_79 (by decide) ?_
            refine z_put_11_11 B hW h0 q866 dX11_nextToken_93 (fun H locs hW => ?_)
            obtain ⟨M26, e27, hf⟩ := z_le hf
            have hW := z_wde e27 hW
            refine lv_aload_n hx hb dX11_nextToken_96 rfl (lv_at hl 1 rfl) ?_
            refine lv_iconst (v := 0) hx hb dX11_nextToken_97 (by decide) ?_
            refine z_put_11_14 B hW h0 q869 dX11_nextToken_98 (fun H locs hW => ?_)
            obtain ⟨M28, e29, hf⟩ := z_le hf
            have hW := z_wde e29 hW
            exact w_X11_nextToken_P101 B 1000 M28 l0 _ hf h0 _ _ _ hW (lv_sub hl [1] rfl)
        · have hf := z_if c13 hf
          refine lv_iconst (v := 1) hx hb dX11_nextToken_67 (by decide) ?_
          refine lv_goto (tgt := 93) hx hb dX11_nextToken_68 (by decide) ?_
          refine z_put_11_11 B hW h0 q866 dX11_nextToken_93 (fun H locs hW => ?_)
          obtain ⟨M30, e31, hf⟩ := z_le hf
          have hW := z_wde e31 hW
          refine lv_aload_n hx hb dX11_nextToken_96 rfl (lv_at hl 1 rfl) ?_
          refine lv_iconst (v := 0) hx hb dX11_nextToken_97 (by decide) ?_
          refine z_put_11_14 B hW h0 q869 dX11_nextToken_98 (fun H locs hW => ?_)
          obtain ⟨M32, e33, hf⟩ := z_le hf
          have hW := z_wde e33 hW
          exact w_X11_nextToken_P101 B 1000 M32 l0 _ hf h0 _ _ _ hW (lv_sub hl [1] rfl)
      · have hf := z_if c10 hf
        refine lv_iconst (v := 0) hx hb dX11_nextToken_56 (by decide) ?_
        refine lv_goto (tgt := 93) hx hb dX11_nextToken_57 (by decide) ?_
        refine z_put_11_11 B hW h0 q866 dX11_nextToken_93 (fun H locs hW => ?_)
        obtain ⟨M34, e35, hf⟩ := z_le hf
        have hW := z_wde e35 hW
        refine lv_aload_n hx hb dX11_nextToken_96 rfl (lv_at hl 1 rfl) ?_
        refine lv_iconst (v := 0) hx hb dX11_nextToken_97 (by decide) ?_
        refine z_put_11_14 B hW h0 q869 dX11_nextToken_98 (fun H locs hW => ?_)
        obtain ⟨M36, e37, hf⟩ := z_le hf
        have hW := z_wde e37 hW
        exact w_X11_nextToken_P101 B 1000 M36 l0 _ hf h0 _ _ _ hW (lv_sub hl [1] rfl)
    · have hf := z_it c5 hf
      refine lv_aload_n hx hb dX11_nextToken_21 rfl (lv_at hl 0 rfl) ?_
      refine lv_dup hx hb dX11_nextToken_22 rfl ?_
      refine z_get_11_12 B hW h0 q867 dX11_nextToken_23 ?_
      refine lv_iconst (v := 1) hx hb dX11_nextToken_26 (by decide) ?_
      refine lv_iadd hx hb dX11_nextToken_27 ?_
      refine z_put_11_12 B hW h0 q867 dX11_nextToken_28 (fun H locs hW => ?_)
      obtain ⟨M38, e39, hf⟩ := z_le hf
      have hW := z_wde e39 hW
      refine lv_goto (tgt := 8) hx hb dX11_nextToken_31 (by decide) ?_
      exact ih M38 l0 _ hf h0 _ _ _ hW (lv_sub hl [0] rfl)
set_option maxHeartbeats 4000000 in
set_option maxRecDepth 100000 in
theorem f_X11_nextToken (l : Launch) {Γ : Zg} {M : Zm} {l0 : Nat} {M' : Zm} (hf : X11_nextToken Γ M l0 = some M') (h0 : z_Is Γ 11 l0) : z_Fn l Γ yX11_nextToken cX11_nextToken 2 none 1 21 [.ref l0] M none M' := by
  refine z_Fn.of (by decide) (Nat.le_of_ble_eq_true rfl) ?_
  intro p e s m below meth c ls B hW hl
  have B : z_Bd Γ p s m _ meth c cX11_nextToken 2 none RX11 := B
  have hl : lv_has ls 2 [(0, .ref l0)] := hl
  rw [X11_nextToken] at hf
  have hx := B.1
  have hb := B.2.1
  have hml := B.2.2.1
  have ho := B.2.2.2.1
  have hw := B.2.2.2.2.1
  have hE := B.2.2.2.2.2.1.2.2
  have hg := B.2.2.2.2.2.2.1
  refine lv_aload_n hx hb dX11_nextToken_0 rfl (lv_at hl 0 rfl) ?_
  refine lv_aload_n hx hb dX11_nextToken_1 rfl (lv_at hl 0 rfl) ?_
  refine z_get_11_13 B hW h0 q868 dX11_nextToken_2 ?_
  refine z_put_11_12 B hW h0 q867 dX11_nextToken_5 (fun H locs hW => ?_)
  obtain ⟨M1, e2, hf⟩ := z_le hf
  have hW := z_wde e2 hW
  exact w_X11_nextToken_P8 B 1000 M1 l0 _ hf h0 _ _ _ hW (lv_sub hl [0] rfl)
set_option maxHeartbeats 4000000 in
set_option maxRecDepth 100000 in
theorem f_X11_has3 (l : Launch) {Γ : Zg} {M : Zm} {l0 : Nat} {l1 : Int32} {l2 : Int32} {l3 : Int32} {l4 : Int32} {r : Int32} (hf : X11_has3 Γ M l0 l1 l2 l3 l4 = some r) (h0 : z_Is Γ 11 l0) : z_Fn l Γ yX11_has3 cX11_has3 5 (some .boolean) 1 21 [.ref l0, .int l1, .int l2, .int l3, .int l4] M (some (.int r)) M := by
  refine z_Fn.of (by decide) (Nat.le_of_ble_eq_true rfl) ?_
  intro p e s m below meth c ls B hW hl
  have B : z_Bd Γ p s m _ meth c cX11_has3 5 (some .boolean) RX11 := B
  have hl : lv_has ls 5 [(0, .ref l0), (1, .int l1), (2, .int l2), (3, .int l3), (4, .int l4)] := hl
  rw [X11_has3] at hf
  have hx := B.1
  have hb := B.2.1
  have hml := B.2.2.1
  have ho := B.2.2.2.1
  have hw := B.2.2.2.2.1
  have hE := B.2.2.2.2.2.1.2.2
  have hg := B.2.2.2.2.2.2.1
  refine lv_aload_n hx hb dX11_has3_0 rfl (lv_at hl 0 rfl) ?_
  refine lv_aload_n hx hb dX11_has3_1 rfl (lv_at hl 0 rfl) ?_
  refine z_get_11_12 B hW h0 q867 dX11_has3_2 ?_
  refine lv_iload_n hx hb dX11_has3_5 rfl (lv_at hl 1 rfl) ?_
  refine lv_iadd hx hb dX11_has3_6 ?_
  obtain ⟨r1, e2, hf⟩ := z_bd hf
  refine z_cV (As := [.int ((M.1 l0 12) + l1)]) (rest := []) B hW (f_X11_byteAt l e2 h0) sc_X11_byteAt sv_X11_183 h0 ⟨Nat.le_of_ble_eq_true rfl, Nat.le_of_ble_eq_true rfl⟩ ⟨Nat.zero_le _, Nat.zero_le _⟩ rfl hl.1 rfl (Nat.le_of_ble_eq_true rfl) dX11_has3_7 (fun H locs hW => ?_)
  refine lv_iload_n hx hb dX11_has3_10 rfl (lv_at hl 2 rfl) ?_
  refine lv_icmp_ne (tgt := 51) hx hb dX11_has3_11 (by decide) (fun c3 => ?_) (fun c3 => ?_)
  · have hf := z_if c3 hf
    refine lv_iconst (v := 0) hx hb dX11_has3_51 (by decide) ?_
    have hf := Option.some.inj hf
    subst hf
    exact z_rz B hW (Or.inl rfl) dX11_has3_52
  · have hf := z_it c3 hf
    refine lv_aload_n hx hb dX11_has3_14 rfl (lv_at hl 0 rfl) ?_
    refine lv_aload_n hx hb dX11_has3_15 rfl (lv_at hl 0 rfl) ?_
    refine z_get_11_12 B hW h0 q867 dX11_has3_16 ?_
    refine lv_iload_n hx hb dX11_has3_19 rfl (lv_at hl 1 rfl) ?_
    refine lv_iadd hx hb dX11_has3_20 ?_
    refine lv_iconst (v := 1) hx hb dX11_has3_21 (by decide) ?_
    refine lv_iadd hx hb dX11_has3_22 ?_
    obtain ⟨r4, e5, hf⟩ := z_bd hf
    refine z_cV (As := [.int (((M.1 l0 12) + l1) + (1 : Int32))]) (rest := []) B hW (f_X11_byteAt l e5 h0) sc_X11_byteAt sv_X11_183 h0 ⟨Nat.le_of_ble_eq_true rfl, Nat.le_of_ble_eq_true rfl⟩ ⟨Nat.zero_le _, Nat.zero_le _⟩ rfl hl.1 rfl (Nat.le_of_ble_eq_true rfl) dX11_has3_23 (fun H locs hW => ?_)
    refine lv_iload_n hx hb dX11_has3_26 rfl (lv_at hl 3 rfl) ?_
    refine lv_icmp_ne (tgt := 51) hx hb dX11_has3_27 (by decide) (fun c6 => ?_) (fun c6 => ?_)
    · have hf := z_if c6 hf
      refine lv_iconst (v := 0) hx hb dX11_has3_51 (by decide) ?_
      have hf := Option.some.inj hf
      subst hf
      exact z_rz B hW (Or.inl rfl) dX11_has3_52
    · have hf := z_it c6 hf
      refine lv_aload_n hx hb dX11_has3_30 rfl (lv_at hl 0 rfl) ?_
      refine lv_aload_n hx hb dX11_has3_31 rfl (lv_at hl 0 rfl) ?_
      refine z_get_11_12 B hW h0 q867 dX11_has3_32 ?_
      refine lv_iload_n hx hb dX11_has3_35 rfl (lv_at hl 1 rfl) ?_
      refine lv_iadd hx hb dX11_has3_36 ?_
      refine lv_iconst (v := 2) hx hb dX11_has3_37 (by decide) ?_
      refine lv_iadd hx hb dX11_has3_38 ?_
      obtain ⟨r7, e8, hf⟩ := z_bd hf
      refine z_cV (As := [.int (((M.1 l0 12) + l1) + (2 : Int32))]) (rest := []) B hW (f_X11_byteAt l e8 h0) sc_X11_byteAt sv_X11_183 h0 ⟨Nat.le_of_ble_eq_true rfl, Nat.le_of_ble_eq_true rfl⟩ ⟨Nat.zero_le _, Nat.zero_le _⟩ rfl hl.1 rfl (Nat.le_of_ble_eq_true rfl) dX11_has3_39 (fun H locs hW => ?_)
      refine lv_iload hx hb dX11_has3_42 (lv_at hl 4 rfl) ?_
      refine lv_icmp_ne (tgt := 51) hx hb dX11_has3_44 (by decide) (fun c9 => ?_) (fun c9 => ?_)
      · have hf := z_if c9 hf
        refine lv_iconst (v := 0) hx hb dX11_has3_51 (by decide) ?_
        have hf := Option.some.inj hf
        subst hf
        exact z_rz B hW (Or.inl rfl) dX11_has3_52
      · have hf := z_it c9 hf
        refine lv_iconst (v := 1) hx hb dX11_has3_47 (by decide) ?_
        refine lv_goto (tgt := 52) hx hb dX11_has3_48 (by decide) ?_
        have hf := Option.some.inj hf
        subst hf
        exact z_rz B hW (Or.inr rfl) dX11_has3_52
set_option maxHeartbeats 4000000 in
set_option maxRecDepth 100000 in
theorem f_X11_isWord (l : Launch) {Γ : Zg} {M : Zm} {l0 : Nat} {l1 : Int32} (h0 : z_Is Γ 11 l0) : z_Fn l Γ yX11_isWord cX11_isWord 2 (some .boolean) 0 0 [.ref l0, .int l1] M (some (.int (X11_isWord M l0 l1))) M := by
  generalize hf : X11_isWord M l0 l1 = r
  refine z_Fn.of (by decide) (Nat.le_of_ble_eq_true rfl) ?_
  intro p e s m below meth c ls B hW hl
  have B : z_Bd Γ p s m _ meth c cX11_isWord 2 (some .boolean) RX11 := B
  have hl : lv_has ls 2 [(0, .ref l0), (1, .int l1)] := hl
  rw [X11_isWord] at hf
  have hx := B.1
  have hb := B.2.1
  have hml := B.2.2.1
  have ho := B.2.2.2.1
  have hw := B.2.2.2.2.1
  have hE := B.2.2.2.2.2.1.2.2
  have hg := B.2.2.2.2.2.2.1
  refine lv_aload_n hx hb dX11_isWord_0 rfl (lv_at hl 0 rfl) ?_
  refine z_get_11_11 B hW h0 q866 dX11_isWord_1 ?_
  refine lv_iconst (v := 1) hx hb dX11_isWord_4 (by decide) ?_
  refine lv_icmp_ne (tgt := 25) hx hb dX11_isWord_5 (by decide) (fun c1 => ?_) (fun c1 => ?_)
  · have hf := z_if c1 hf
    refine lv_iconst (v := 0) hx hb dX11_isWord_25 (by decide) ?_
    subst hf
    exact z_rz B hW (Or.inl rfl) dX11_isWord_26
  · have hf := z_it c1 hf
    refine lv_aload_n hx hb dX11_isWord_8 rfl (lv_at hl 0 rfl) ?_
    refine z_get_11_13 B hW h0 q868 dX11_isWord_9 ?_
    refine lv_aload_n hx hb dX11_isWord_12 rfl (lv_at hl 0 rfl) ?_
    refine z_get_11_12 B hW h0 q867 dX11_isWord_13 ?_
    refine lv_isub hx hb dX11_isWord_16 ?_
    refine lv_iload_n hx hb dX11_isWord_17 rfl (lv_at hl 1 rfl) ?_
    refine lv_icmp_ne (tgt := 25) hx hb dX11_isWord_18 (by decide) (fun c2 => ?_) (fun c2 => ?_)
    · have hf := z_if c2 hf
      refine lv_iconst (v := 0) hx hb dX11_isWord_25 (by decide) ?_
      subst hf
      exact z_rz B hW (Or.inl rfl) dX11_isWord_26
    · have hf := z_it c2 hf
      refine lv_iconst (v := 1) hx hb dX11_isWord_21 (by decide) ?_
      refine lv_goto (tgt := 26) hx hb dX11_isWord_22 (by decide) ?_
      subst hf
      exact z_rz B hW (Or.inr rfl) dX11_isWord_26
set_option maxHeartbeats 4000000 in
set_option maxRecDepth 100000 in
theorem f_X11_fails (l : Launch) {Γ : Zg} {M : Zm} {l0 : Nat} {r : Int32} {M' : Zm} (hf : X11_fails M l0 = (r, M')) (h0 : z_Is Γ 11 l0) : z_Fn l Γ yX11_fails cX11_fails 1 (some .boolean) 0 0 [.ref l0] M (some (.int r)) M' := by
  refine z_Fn.of (by decide) (Nat.le_of_ble_eq_true rfl) ?_
  intro p e s m below meth c ls B hW hl
  have B : z_Bd Γ p s m _ meth c cX11_fails 1 (some .boolean) RX11 := B
  have hl : lv_has ls 1 [(0, .ref l0)] := hl
  rw [X11_fails] at hf
  have hx := B.1
  have hb := B.2.1
  have hml := B.2.2.1
  have ho := B.2.2.2.1
  have hw := B.2.2.2.2.1
  have hE := B.2.2.2.2.2.1.2.2
  have hg := B.2.2.2.2.2.2.1
  refine lv_aload_n hx hb dX11_fails_0 rfl (lv_at hl 0 rfl) ?_
  refine lv_aload_n hx hb dX11_fails_1 rfl (lv_at hl 0 rfl) ?_
  refine z_get_11_12 B hW h0 q867 dX11_fails_2 ?_
  refine z_put_11_15 B hW h0 q870 dX11_fails_5 (fun H locs hW => ?_)
  obtain ⟨M1, e2, hf⟩ := z_le hf
  have hW := z_wde e2 hW
  refine lv_iconst (v := 0) hx hb dX11_fails_8 (by decide) ?_
  obtain ⟨e1, e2⟩ := Prod.mk.inj hf
  subst e1
  subst e2
  exact z_rz B hW (Or.inl rfl) dX11_fails_9
set_option maxHeartbeats 4000000 in
set_option maxRecDepth 100000 in
theorem f_X11_isFour (l : Launch) {Γ : Zg} {M : Zm} {l0 : Nat} {l1 : Int32} {l2 : Int32} {l3 : Int32} {l4 : Int32} {r : Int32} (hf : X11_isFour Γ M l0 l1 l2 l3 l4 = some r) (h0 : z_Is Γ 11 l0) : z_Fn l Γ yX11_isFour cX11_isFour 5 (some .boolean) 2 45 [.ref l0, .int l1, .int l2, .int l3, .int l4] M (some (.int r)) M := by
  refine z_Fn.of (by decide) (Nat.le_of_ble_eq_true rfl) ?_
  intro p e s m below meth c ls B hW hl
  have B : z_Bd Γ p s m _ meth c cX11_isFour 5 (some .boolean) RX11 := B
  have hl : lv_has ls 5 [(0, .ref l0), (1, .int l1), (2, .int l2), (3, .int l3), (4, .int l4)] := hl
  rw [X11_isFour] at hf
  have hx := B.1
  have hb := B.2.1
  have hml := B.2.2.1
  have ho := B.2.2.2.1
  have hw := B.2.2.2.2.1
  have hE := B.2.2.2.2.2.1.2.2
  have hg := B.2.2.2.2.2.2.1
  refine lv_aload_n hx hb dX11_isFour_0 rfl (lv_at hl 0 rfl) ?_
  refine lv_iconst (v := 4) hx hb dX11_isFour_1 (by decide) ?_
  refine z_cV (As := [.int (4 : Int32)]) (rest := []) B hW (f_X11_isWord l h0) sc_X11_isWord sv_X11_201 h0 ⟨Nat.le_of_ble_eq_true rfl, Nat.le_of_ble_eq_true rfl⟩ ⟨Nat.zero_le _, Nat.zero_le _⟩ rfl hl.1 rfl (Nat.le_of_ble_eq_true rfl) dX11_isFour_2 (fun H locs hW => ?_)
  refine lv_if_eq (tgt := 35) hx hb dX11_isFour_5 (by decide) (fun c3 => ?_) (fun c3 => ?_)
  · have hf := z_it c3 hf
    refine lv_iconst (v := 0) hx hb dX11_isFour_35 (by decide) ?_
    have hf := Option.some.inj hf
    subst hf
    exact z_rz B hW (Or.inl rfl) dX11_isFour_36
  · have hf := z_if c3 hf
    refine lv_aload_n hx hb dX11_isFour_8 rfl (lv_at hl 0 rfl) ?_
    refine lv_iconst (v := 0) hx hb dX11_isFour_9 (by decide) ?_
    refine lv_iload_n hx hb dX11_isFour_10 rfl (lv_at hl 1 rfl) ?_
    refine lv_iload_n hx hb dX11_isFour_11 rfl (lv_at hl 2 rfl) ?_
    refine lv_iload_n hx hb dX11_isFour_12 rfl (lv_at hl 3 rfl) ?_
    obtain ⟨r4, e5, hf⟩ := z_bd hf
    refine z_cV (As := [.int (0 : Int32), .int l1, .int l2, .int l3]) (rest := []) B hW (f_X11_has3 l e5 h0) sc_X11_has3 sv_X11_204 h0 ⟨Nat.le_of_ble_eq_true rfl, Nat.le_of_ble_eq_true rfl⟩ ⟨Nat.zero_le _, Nat.zero_le _⟩ rfl hl.1 rfl (Nat.le_of_ble_eq_true rfl) dX11_isFour_13 (fun H locs hW => ?_)
    refine lv_if_eq (tgt := 35) hx hb dX11_isFour_16 (by decide) (fun c6 => ?_) (fun c6 => ?_)
    · have hf := z_it c6 hf
      refine lv_iconst (v := 0) hx hb dX11_isFour_35 (by decide) ?_
      have hf := Option.some.inj hf
      subst hf
      exact z_rz B hW (Or.inl rfl) dX11_isFour_36
    · have hf := z_if c6 hf
      refine lv_aload_n hx hb dX11_isFour_19 rfl (lv_at hl 0 rfl) ?_
      refine lv_iconst (v := 1) hx hb dX11_isFour_20 (by decide) ?_
      refine lv_iload_n hx hb dX11_isFour_21 rfl (lv_at hl 2 rfl) ?_
      refine lv_iload_n hx hb dX11_isFour_22 rfl (lv_at hl 3 rfl) ?_
      refine lv_iload hx hb dX11_isFour_23 (lv_at hl 4 rfl) ?_
      obtain ⟨r7, e8, hf⟩ := z_bd hf
      refine z_cV (As := [.int (1 : Int32), .int l2, .int l3, .int l4]) (rest := []) B hW (f_X11_has3 l e8 h0) sc_X11_has3 sv_X11_204 h0 ⟨Nat.le_of_ble_eq_true rfl, Nat.le_of_ble_eq_true rfl⟩ ⟨Nat.zero_le _, Nat.zero_le _⟩ rfl hl.1 rfl (Nat.le_of_ble_eq_true rfl) dX11_isFour_25 (fun H locs hW => ?_)
      refine lv_if_eq (tgt := 35) hx hb dX11_isFour_28 (by decide) (fun c9 => ?_) (fun c9 => ?_)
      · have hf := z_it c9 hf
        refine lv_iconst (v := 0) hx hb dX11_isFour_35 (by decide) ?_
        have hf := Option.some.inj hf
        subst hf
        exact z_rz B hW (Or.inl rfl) dX11_isFour_36
      · have hf := z_if c9 hf
        refine lv_iconst (v := 1) hx hb dX11_isFour_31 (by decide) ?_
        refine lv_goto (tgt := 36) hx hb dX11_isFour_32 (by decide) ?_
        have hf := Option.some.inj hf
        subst hf
        exact z_rz B hW (Or.inr rfl) dX11_isFour_36
set_option maxHeartbeats 4000000 in
set_option maxRecDepth 100000 in
theorem f_X11_isFive (l : Launch) {Γ : Zg} {M : Zm} {l0 : Nat} {l1 : Int32} {l2 : Int32} {l3 : Int32} {l4 : Int32} {l5 : Int32} {r : Int32} (hf : X11_isFive Γ M l0 l1 l2 l3 l4 l5 = some r) (h0 : z_Is Γ 11 l0) : z_Fn l Γ yX11_isFive cX11_isFive 6 (some .boolean) 2 45 [.ref l0, .int l1, .int l2, .int l3, .int l4, .int l5] M (some (.int r)) M := by
  refine z_Fn.of (by decide) (Nat.le_of_ble_eq_true rfl) ?_
  intro p e s m below meth c ls B hW hl
  have B : z_Bd Γ p s m _ meth c cX11_isFive 6 (some .boolean) RX11 := B
  have hl : lv_has ls 6 [(0, .ref l0), (1, .int l1), (2, .int l2), (3, .int l3), (4, .int l4), (5, .int l5)] := hl
  rw [X11_isFive] at hf
  have hx := B.1
  have hb := B.2.1
  have hml := B.2.2.1
  have ho := B.2.2.2.1
  have hw := B.2.2.2.2.1
  have hE := B.2.2.2.2.2.1.2.2
  have hg := B.2.2.2.2.2.2.1
  refine lv_aload_n hx hb dX11_isFive_0 rfl (lv_at hl 0 rfl) ?_
  refine lv_iconst (v := 5) hx hb dX11_isFive_1 (by decide) ?_
  refine z_cV (As := [.int (5 : Int32)]) (rest := []) B hW (f_X11_isWord l h0) sc_X11_isWord sv_X11_201 h0 ⟨Nat.le_of_ble_eq_true rfl, Nat.le_of_ble_eq_true rfl⟩ ⟨Nat.zero_le _, Nat.zero_le _⟩ rfl hl.1 rfl (Nat.le_of_ble_eq_true rfl) dX11_isFive_2 (fun H locs hW => ?_)
  refine lv_if_eq (tgt := 36) hx hb dX11_isFive_5 (by decide) (fun c3 => ?_) (fun c3 => ?_)
  · have hf := z_it c3 hf
    refine lv_iconst (v := 0) hx hb dX11_isFive_36 (by decide) ?_
    have hf := Option.some.inj hf
    subst hf
    exact z_rz B hW (Or.inl rfl) dX11_isFive_37
  · have hf := z_if c3 hf
    refine lv_aload_n hx hb dX11_isFive_8 rfl (lv_at hl 0 rfl) ?_
    refine lv_iconst (v := 0) hx hb dX11_isFive_9 (by decide) ?_
    refine lv_iload_n hx hb dX11_isFive_10 rfl (lv_at hl 1 rfl) ?_
    refine lv_iload_n hx hb dX11_isFive_11 rfl (lv_at hl 2 rfl) ?_
    refine lv_iload_n hx hb dX11_isFive_12 rfl (lv_at hl 3 rfl) ?_
    obtain ⟨r4, e5, hf⟩ := z_bd hf
    refine z_cV (As := [.int (0 : Int32), .int l1, .int l2, .int l3]) (rest := []) B hW (f_X11_has3 l e5 h0) sc_X11_has3 sv_X11_204 h0 ⟨Nat.le_of_ble_eq_true rfl, Nat.le_of_ble_eq_true rfl⟩ ⟨Nat.zero_le _, Nat.zero_le _⟩ rfl hl.1 rfl (Nat.le_of_ble_eq_true rfl) dX11_isFive_13 (fun H locs hW => ?_)
    refine lv_if_eq (tgt := 36) hx hb dX11_isFive_16 (by decide) (fun c6 => ?_) (fun c6 => ?_)
    · have hf := z_it c6 hf
      refine lv_iconst (v := 0) hx hb dX11_isFive_36 (by decide) ?_
      have hf := Option.some.inj hf
      subst hf
      exact z_rz B hW (Or.inl rfl) dX11_isFive_37
    · have hf := z_if c6 hf
      refine lv_aload_n hx hb dX11_isFive_19 rfl (lv_at hl 0 rfl) ?_
      refine lv_iconst (v := 2) hx hb dX11_isFive_20 (by decide) ?_
      refine lv_iload_n hx hb dX11_isFive_21 rfl (lv_at hl 3 rfl) ?_
      refine lv_iload hx hb dX11_isFive_22 (lv_at hl 4 rfl) ?_
      refine lv_iload hx hb dX11_isFive_24 (lv_at hl 5 rfl) ?_
      obtain ⟨r7, e8, hf⟩ := z_bd hf
      refine z_cV (As := [.int (2 : Int32), .int l3, .int l4, .int l5]) (rest := []) B hW (f_X11_has3 l e8 h0) sc_X11_has3 sv_X11_204 h0 ⟨Nat.le_of_ble_eq_true rfl, Nat.le_of_ble_eq_true rfl⟩ ⟨Nat.zero_le _, Nat.zero_le _⟩ rfl hl.1 rfl (Nat.le_of_ble_eq_true rfl) dX11_isFive_26 (fun H locs hW => ?_)
      refine lv_if_eq (tgt := 36) hx hb dX11_isFive_29 (by decide) (fun c9 => ?_) (fun c9 => ?_)
      · have hf := z_it c9 hf
        refine lv_iconst (v := 0) hx hb dX11_isFive_36 (by decide) ?_
        have hf := Option.some.inj hf
        subst hf
        exact z_rz B hW (Or.inl rfl) dX11_isFive_37
      · have hf := z_if c9 hf
        refine lv_iconst (v := 1) hx hb dX11_isFive_32 (by decide) ?_
        refine lv_goto (tgt := 37) hx hb dX11_isFive_33 (by decide) ?_
        have hf := Option.some.inj hf
        subst hf
        exact z_rz B hW (Or.inr rfl) dX11_isFive_37
set_option maxHeartbeats 4000000 in
set_option maxRecDepth 100000 in
theorem f_X11_isSix (l : Launch) {Γ : Zg} {M : Zm} {l0 : Nat} {l1 : Int32} {l2 : Int32} {l3 : Int32} {l4 : Int32} {l5 : Int32} {l6 : Int32} {r : Int32} (hf : X11_isSix Γ M l0 l1 l2 l3 l4 l5 l6 = some r) (h0 : z_Is Γ 11 l0) : z_Fn l Γ yX11_isSix cX11_isSix 7 (some .boolean) 2 45 [.ref l0, .int l1, .int l2, .int l3, .int l4, .int l5, .int l6] M (some (.int r)) M := by
  refine z_Fn.of (by decide) (Nat.le_of_ble_eq_true rfl) ?_
  intro p e s m below meth c ls B hW hl
  have B : z_Bd Γ p s m _ meth c cX11_isSix 7 (some .boolean) RX11 := B
  have hl : lv_has ls 7 [(0, .ref l0), (1, .int l1), (2, .int l2), (3, .int l3), (4, .int l4), (5, .int l5), (6, .int l6)] := hl
  rw [X11_isSix] at hf
  have hx := B.1
  have hb := B.2.1
  have hml := B.2.2.1
  have ho := B.2.2.2.1
  have hw := B.2.2.2.2.1
  have hE := B.2.2.2.2.2.1.2.2
  have hg := B.2.2.2.2.2.2.1
  refine lv_aload_n hx hb dX11_isSix_0 rfl (lv_at hl 0 rfl) ?_
  refine lv_bipush (v := 6) hx hb dX11_isSix_1 (by decide) ?_
  refine z_cV (As := [.int (6 : Int32)]) (rest := []) B hW (f_X11_isWord l h0) sc_X11_isWord sv_X11_201 h0 ⟨Nat.le_of_ble_eq_true rfl, Nat.le_of_ble_eq_true rfl⟩ ⟨Nat.zero_le _, Nat.zero_le _⟩ rfl hl.1 rfl (Nat.le_of_ble_eq_true rfl) dX11_isSix_3 (fun H locs hW => ?_)
  refine lv_if_eq (tgt := 38) hx hb dX11_isSix_6 (by decide) (fun c3 => ?_) (fun c3 => ?_)
  · have hf := z_it c3 hf
    refine lv_iconst (v := 0) hx hb dX11_isSix_38 (by decide) ?_
    have hf := Option.some.inj hf
    subst hf
    exact z_rz B hW (Or.inl rfl) dX11_isSix_39
  · have hf := z_if c3 hf
    refine lv_aload_n hx hb dX11_isSix_9 rfl (lv_at hl 0 rfl) ?_
    refine lv_iconst (v := 0) hx hb dX11_isSix_10 (by decide) ?_
    refine lv_iload_n hx hb dX11_isSix_11 rfl (lv_at hl 1 rfl) ?_
    refine lv_iload_n hx hb dX11_isSix_12 rfl (lv_at hl 2 rfl) ?_
    refine lv_iload_n hx hb dX11_isSix_13 rfl (lv_at hl 3 rfl) ?_
    obtain ⟨r4, e5, hf⟩ := z_bd hf
    refine z_cV (As := [.int (0 : Int32), .int l1, .int l2, .int l3]) (rest := []) B hW (f_X11_has3 l e5 h0) sc_X11_has3 sv_X11_204 h0 ⟨Nat.le_of_ble_eq_true rfl, Nat.le_of_ble_eq_true rfl⟩ ⟨Nat.zero_le _, Nat.zero_le _⟩ rfl hl.1 rfl (Nat.le_of_ble_eq_true rfl) dX11_isSix_14 (fun H locs hW => ?_)
    refine lv_if_eq (tgt := 38) hx hb dX11_isSix_17 (by decide) (fun c6 => ?_) (fun c6 => ?_)
    · have hf := z_it c6 hf
      refine lv_iconst (v := 0) hx hb dX11_isSix_38 (by decide) ?_
      have hf := Option.some.inj hf
      subst hf
      exact z_rz B hW (Or.inl rfl) dX11_isSix_39
    · have hf := z_if c6 hf
      refine lv_aload_n hx hb dX11_isSix_20 rfl (lv_at hl 0 rfl) ?_
      refine lv_iconst (v := 3) hx hb dX11_isSix_21 (by decide) ?_
      refine lv_iload hx hb dX11_isSix_22 (lv_at hl 4 rfl) ?_
      refine lv_iload hx hb dX11_isSix_24 (lv_at hl 5 rfl) ?_
      refine lv_iload hx hb dX11_isSix_26 (lv_at hl 6 rfl) ?_
      obtain ⟨r7, e8, hf⟩ := z_bd hf
      refine z_cV (As := [.int (3 : Int32), .int l4, .int l5, .int l6]) (rest := []) B hW (f_X11_has3 l e8 h0) sc_X11_has3 sv_X11_204 h0 ⟨Nat.le_of_ble_eq_true rfl, Nat.le_of_ble_eq_true rfl⟩ ⟨Nat.zero_le _, Nat.zero_le _⟩ rfl hl.1 rfl (Nat.le_of_ble_eq_true rfl) dX11_isSix_28 (fun H locs hW => ?_)
      refine lv_if_eq (tgt := 38) hx hb dX11_isSix_31 (by decide) (fun c9 => ?_) (fun c9 => ?_)
      · have hf := z_it c9 hf
        refine lv_iconst (v := 0) hx hb dX11_isSix_38 (by decide) ?_
        have hf := Option.some.inj hf
        subst hf
        exact z_rz B hW (Or.inl rfl) dX11_isSix_39
      · have hf := z_if c9 hf
        refine lv_iconst (v := 1) hx hb dX11_isSix_34 (by decide) ?_
        refine lv_goto (tgt := 39) hx hb dX11_isSix_35 (by decide) ?_
        have hf := Option.some.inj hf
        subst hf
        exact z_rz B hW (Or.inr rfl) dX11_isSix_39
set_option maxHeartbeats 4000000 in
set_option maxRecDepth 100000 in
theorem w_X11_kindHere_P93 (B : z_Bd Γ p s m args meth c cX11_kindHere 1 (some .int) RX11) : ∀ (M : Zm) (l0 : Nat) (r : Int32), X11_kindHere_P93 Γ M l0 = some r → z_Is Γ 11 l0 → ∀ (H : Heap) (locs : List Loc) (ls : Array Slot), z_Wd Γ M s.heap H locs → lv_has ls 1 [(0, .ref l0)] → W p l e (z_rm 3 71) s m args below meth c H locs 0 0 (z_Q Γ below args s (some (.int r)) M) (F0 m 93 ls []) := by
  have hx := B.1
  have hb := B.2.1
  have hml := B.2.2.1
  have ho := B.2.2.2.1
  have hw := B.2.2.2.2.1
  have hE := B.2.2.2.2.2.1.2.2
  have hg := B.2.2.2.2.2.2.1
  intro M l0 r hf h0 H locs ls hW hl
  rw [X11_kindHere_P93] at hf
  refine lv_aload_n hx hb dX11_kindHere_93 rfl (lv_at hl 0 rfl) ?_
  refine lv_bipush (v := 119) hx hb dX11_kindHere_94 (by decide) ?_
  refine lv_bipush (v := 105) hx hb dX11_kindHere_96 (by decide) ?_
  refine lv_bipush (v := 102) hx hb dX11_kindHere_98 (by decide) ?_
  refine lv_bipush (v := 101) hx hb dX11_kindHere_100 (by decide) ?_
  obtain ⟨r19, e20, hf⟩ := z_bd hf
  refine z_cV (As := [.int (119 : Int32), .int (105 : Int32), .int (102 : Int32), .int (101 : Int32)]) (rest := []) B hW (f_X11_isFour l e20 h0) sc_X11_isFour sv_X11_216 h0 ⟨Nat.le_of_ble_eq_true rfl, Nat.le_of_ble_eq_true rfl⟩ ⟨Nat.zero_le _, Nat.zero_le _⟩ rfl hl.1 rfl (Nat.le_of_ble_eq_true rfl) dX11_kindHere_102 (fun H locs hW => ?_)
  refine lv_if_eq (tgt := 110) hx hb dX11_kindHere_105 (by decide) (fun c21 => ?_) (fun c21 => ?_)
  · have hf := z_it c21 hf
    refine lv_aload_n hx hb dX11_kindHere_110 rfl (lv_at hl 0 rfl) ?_
    refine lv_bipush (v := 108) hx hb dX11_kindHere_111 (by decide) ?_
    refine lv_bipush (v := 111) hx hb dX11_kindHere_113 (by decide) ?_
    refine lv_bipush (v := 118) hx hb dX11_kindHere_115 (by decide) ?_
    refine lv_bipush (v := 101) hx hb dX11_kindHere_117 (by decide) ?_
    refine lv_bipush (v := 114) hx hb dX11_kindHere_119 (by decide) ?_
    obtain ⟨r22, e23, hf⟩ := z_bd hf
    refine z_cV (As := [.int (108 : Int32), .int (111 : Int32), .int (118 : Int32), .int (101 : Int32), .int (114 : Int32)]) (rest := []) B hW (f_X11_isFive l e23 h0) sc_X11_isFive sv_X11_212 h0 ⟨Nat.le_of_ble_eq_true rfl, Nat.le_of_ble_eq_true rfl⟩ ⟨Nat.zero_le _, Nat.zero_le _⟩ rfl hl.1 rfl (Nat.le_of_ble_eq_true rfl) dX11_kindHere_121 (fun H locs hW => ?_)
    refine lv_if_eq (tgt := 129) hx hb dX11_kindHere_124 (by decide) (fun c24 => ?_) (fun c24 => ?_)
    · have hf := z_it c24 hf
      refine lv_aload_n hx hb dX11_kindHere_129 rfl (lv_at hl 0 rfl) ?_
      refine lv_iconst (v := 3) hx hb dX11_kindHere_130 (by decide) ?_
      refine z_cV (As := [.int (3 : Int32)]) (rest := []) B hW (f_X11_isWord l h0) sc_X11_isWord sv_X11_201 h0 ⟨Nat.le_of_ble_eq_true rfl, Nat.le_of_ble_eq_true rfl⟩ ⟨Nat.zero_le _, Nat.zero_le _⟩ rfl hl.1 rfl (Nat.le_of_ble_eq_true rfl) dX11_kindHere_131 (fun H locs hW => ?_)
      refine lv_if_eq (tgt := 155) hx hb dX11_kindHere_134 (by decide) (fun c27 => ?_) (fun c27 => ?_)
      · have hf := z_it c27 hf
        refine lv_iconst (v := -1) hx hb dX11_kindHere_155 (by decide) ?_
        have hf := Option.some.inj hf
        subst hf
        exact z_ri B hW dX11_kindHere_156
      · have hf := z_if c27 hf
        refine lv_aload_n hx hb dX11_kindHere_137 rfl (lv_at hl 0 rfl) ?_
        refine lv_iconst (v := 0) hx hb dX11_kindHere_138 (by decide) ?_
        refine lv_bipush (v := 115) hx hb dX11_kindHere_139 (by decide) ?_
        refine lv_bipush (v := 112) hx hb dX11_kindHere_141 (by decide) ?_
        refine lv_bipush (v := 121) hx hb dX11_kindHere_143 (by decide) ?_
        obtain ⟨r28, e29, hf⟩ := z_bd hf
        refine z_cV (As := [.int (0 : Int32), .int (115 : Int32), .int (112 : Int32), .int (121 : Int32)]) (rest := []) B hW (f_X11_has3 l e29 h0) sc_X11_has3 sv_X11_204 h0 ⟨Nat.le_of_ble_eq_true rfl, Nat.le_of_ble_eq_true rfl⟩ ⟨Nat.zero_le _, Nat.zero_le _⟩ rfl hl.1 rfl (Nat.le_of_ble_eq_true rfl) dX11_kindHere_145 (fun H locs hW => ?_)
        refine lv_if_eq (tgt := 155) hx hb dX11_kindHere_148 (by decide) (fun c30 => ?_) (fun c30 => ?_)
        · have hf := z_it c30 hf
          refine lv_iconst (v := -1) hx hb dX11_kindHere_155 (by decide) ?_
          have hf := Option.some.inj hf
          subst hf
          exact z_ri B hW dX11_kindHere_156
        · have hf := z_if c30 hf
          refine lv_iconst (v := 5) hx hb dX11_kindHere_151 (by decide) ?_
          refine lv_goto (tgt := 156) hx hb dX11_kindHere_152 (by decide) ?_
          have hf := Option.some.inj hf
          subst hf
          exact z_ri B hW dX11_kindHere_156
    · have hf := z_if c24 hf
      refine lv_iconst (v := 4) hx hb dX11_kindHere_127 (by decide) ?_
      have hf := Option.some.inj hf
      subst hf
      exact z_ri B hW dX11_kindHere_128
  · have hf := z_if c21 hf
    refine lv_iconst (v := 3) hx hb dX11_kindHere_108 (by decide) ?_
    have hf := Option.some.inj hf
    subst hf
    exact z_ri B hW dX11_kindHere_109
set_option maxHeartbeats 4000000 in
set_option maxRecDepth 100000 in
theorem f_X11_kindHere (l : Launch) {Γ : Zg} {M : Zm} {l0 : Nat} {r : Int32} (hf : X11_kindHere Γ M l0 = some r) (h0 : z_Is Γ 11 l0) : z_Fn l Γ yX11_kindHere cX11_kindHere 1 (some .int) 3 71 [.ref l0] M (some (.int r)) M := by
  refine z_Fn.of (by decide) (Nat.le_of_ble_eq_true rfl) ?_
  intro p e s m below meth c ls B hW hl
  have B : z_Bd Γ p s m _ meth c cX11_kindHere 1 (some .int) RX11 := B
  have hl : lv_has ls 1 [(0, .ref l0)] := hl
  rw [X11_kindHere] at hf
  have hx := B.1
  have hb := B.2.1
  have hml := B.2.2.1
  have ho := B.2.2.2.1
  have hw := B.2.2.2.2.1
  have hE := B.2.2.2.2.2.1.2.2
  have hg := B.2.2.2.2.2.2.1
  refine lv_aload_n hx hb dX11_kindHere_0 rfl (lv_at hl 0 rfl) ?_
  refine lv_bipush (v := 112) hx hb dX11_kindHere_1 (by decide) ?_
  refine lv_bipush (v := 101) hx hb dX11_kindHere_3 (by decide) ?_
  refine lv_bipush (v := 114) hx hb dX11_kindHere_5 (by decide) ?_
  refine lv_bipush (v := 115) hx hb dX11_kindHere_7 (by decide) ?_
  refine lv_bipush (v := 111) hx hb dX11_kindHere_9 (by decide) ?_
  refine lv_bipush (v := 110) hx hb dX11_kindHere_11 (by decide) ?_
  obtain ⟨r1, e2, hf⟩ := z_bd hf
  refine z_cV (As := [.int (112 : Int32), .int (101 : Int32), .int (114 : Int32), .int (115 : Int32), .int (111 : Int32), .int (110 : Int32)]) (rest := []) B hW (f_X11_isSix l e2 h0) sc_X11_isSix sv_X11_208 h0 ⟨Nat.le_of_ble_eq_true rfl, Nat.le_of_ble_eq_true rfl⟩ ⟨Nat.zero_le _, Nat.zero_le _⟩ rfl hl.1 rfl (Nat.le_of_ble_eq_true rfl) dX11_kindHere_13 (fun H locs hW => ?_)
  refine lv_if_eq (tgt := 21) hx hb dX11_kindHere_16 (by decide) (fun c3 => ?_) (fun c3 => ?_)
  · have hf := z_it c3 hf
    refine lv_aload_n hx hb dX11_kindHere_21 rfl (lv_at hl 0 rfl) ?_
    refine lv_bipush (v := 97) hx hb dX11_kindHere_22 (by decide) ?_
    refine lv_bipush (v := 99) hx hb dX11_kindHere_24 (by decide) ?_
    refine lv_bipush (v := 116) hx hb dX11_kindHere_26 (by decide) ?_
    refine lv_bipush (v := 111) hx hb dX11_kindHere_28 (by decide) ?_
    refine lv_bipush (v := 114) hx hb dX11_kindHere_30 (by decide) ?_
    obtain ⟨r4, e5, hf⟩ := z_bd hf
    refine z_cV (As := [.int (97 : Int32), .int (99 : Int32), .int (116 : Int32), .int (111 : Int32), .int (114 : Int32)]) (rest := []) B hW (f_X11_isFive l e5 h0) sc_X11_isFive sv_X11_212 h0 ⟨Nat.le_of_ble_eq_true rfl, Nat.le_of_ble_eq_true rfl⟩ ⟨Nat.zero_le _, Nat.zero_le _⟩ rfl hl.1 rfl (Nat.le_of_ble_eq_true rfl) dX11_kindHere_32 (fun H locs hW => ?_)
    refine lv_if_eq (tgt := 40) hx hb dX11_kindHere_35 (by decide) (fun c6 => ?_) (fun c6 => ?_)
    · have hf := z_it c6 hf
      refine lv_aload_n hx hb dX11_kindHere_40 rfl (lv_at hl 0 rfl) ?_
      refine lv_bipush (v := 7) hx hb dX11_kindHere_41 (by decide) ?_
      refine z_cV (As := [.int (7 : Int32)]) (rest := []) B hW (f_X11_isWord l h0) sc_X11_isWord sv_X11_201 h0 ⟨Nat.le_of_ble_eq_true rfl, Nat.le_of_ble_eq_true rfl⟩ ⟨Nat.zero_le _, Nat.zero_le _⟩ rfl hl.1 rfl (Nat.le_of_ble_eq_true rfl) dX11_kindHere_43 (fun H locs hW => ?_)
      refine lv_if_eq (tgt := 93) hx hb dX11_kindHere_46 (by decide) (fun c9 => ?_) (fun c9 => ?_)
      · have hf := z_it c9 hf
        exact w_X11_kindHere_P93 B M l0 _ hf h0 _ _ _ hW (lv_sub hl [0] rfl)
      · have hf := z_if c9 hf
        refine lv_aload_n hx hb dX11_kindHere_49 rfl (lv_at hl 0 rfl) ?_
        refine lv_iconst (v := 0) hx hb dX11_kindHere_50 (by decide) ?_
        refine lv_bipush (v := 103) hx hb dX11_kindHere_51 (by decide) ?_
        refine lv_bipush (v := 101) hx hb dX11_kindHere_53 (by decide) ?_
        refine lv_bipush (v := 110) hx hb dX11_kindHere_55 (by decide) ?_
        obtain ⟨r10, e11, hf⟩ := z_bd hf
        refine z_cV (As := [.int (0 : Int32), .int (103 : Int32), .int (101 : Int32), .int (110 : Int32)]) (rest := []) B hW (f_X11_has3 l e11 h0) sc_X11_has3 sv_X11_204 h0 ⟨Nat.le_of_ble_eq_true rfl, Nat.le_of_ble_eq_true rfl⟩ ⟨Nat.zero_le _, Nat.zero_le _⟩ rfl hl.1 rfl (Nat.le_of_ble_eq_true rfl) dX11_kindHere_57 (fun H locs hW => ?_)
        refine lv_if_eq (tgt := 93) hx hb dX11_kindHere_60 (by decide) (fun c12 => ?_) (fun c12 => ?_)
        · have hf := z_it c12 hf
          exact w_X11_kindHere_P93 B M l0 _ hf h0 _ _ _ hW (lv_sub hl [0] rfl)
        · have hf := z_if c12 hf
          refine lv_aload_n hx hb dX11_kindHere_63 rfl (lv_at hl 0 rfl) ?_
          refine lv_iconst (v := 3) hx hb dX11_kindHere_64 (by decide) ?_
          refine lv_bipush (v := 101) hx hb dX11_kindHere_65 (by decide) ?_
          refine lv_bipush (v := 114) hx hb dX11_kindHere_67 (by decide) ?_
          refine lv_bipush (v := 97) hx hb dX11_kindHere_69 (by decide) ?_
          obtain ⟨r13, e14, hf⟩ := z_bd hf
          refine z_cV (As := [.int (3 : Int32), .int (101 : Int32), .int (114 : Int32), .int (97 : Int32)]) (rest := []) B hW (f_X11_has3 l e14 h0) sc_X11_has3 sv_X11_204 h0 ⟨Nat.le_of_ble_eq_true rfl, Nat.le_of_ble_eq_true rfl⟩ ⟨Nat.zero_le _, Nat.zero_le _⟩ rfl hl.1 rfl (Nat.le_of_ble_eq_true rfl) dX11_kindHere_71 (fun H locs hW => ?_)
          refine lv_if_eq (tgt := 93) hx hb dX11_kindHere_74 (by decide) (fun c15 => ?_) (fun c15 => ?_)
          · have hf := z_it c15 hf
            exact w_X11_kindHere_P93 B M l0 _ hf h0 _ _ _ hW (lv_sub hl [0] rfl)
          · have hf := z_if c15 hf
            refine lv_aload_n hx hb dX11_kindHere_77 rfl (lv_at hl 0 rfl) ?_
            refine lv_iconst (v := 4) hx hb dX11_kindHere_78 (by decide) ?_
            refine lv_bipush (v := 114) hx hb dX11_kindHere_79 (by decide) ?_
            refine lv_bipush (v := 97) hx hb dX11_kindHere_81 (by decide) ?_
            refine lv_bipush (v := 108) hx hb dX11_kindHere_83 (by decide) ?_
            obtain ⟨r16, e17, hf⟩ := z_bd hf
            refine z_cV (As := [.int (4 : Int32), .int (114 : Int32), .int (97 : Int32), .int (108 : Int32)]) (rest := []) B hW (f_X11_has3 l e17 h0) sc_X11_has3 sv_X11_204 h0 ⟨Nat.le_of_ble_eq_true rfl, Nat.le_of_ble_eq_true rfl⟩ ⟨Nat.zero_le _, Nat.zero_le _⟩ rfl hl.1 rfl (Nat.le_of_ble_eq_true rfl) dX11_kindHere_85 (fun H locs hW => ?_)
            refine lv_if_eq (tgt := 93) hx hb dX11_kindHere_88 (by decide) (fun c18 => ?_) (fun c18 => ?_)
            · have hf := z_it c18 hf
              exact w_X11_kindHere_P93 B M l0 _ hf h0 _ _ _ hW (lv_sub hl [0] rfl)
            · have hf := z_if c18 hf
              refine lv_iconst (v := 2) hx hb dX11_kindHere_91 (by decide) ?_
              have hf := Option.some.inj hf
              subst hf
              exact z_ri B hW dX11_kindHere_92
    · have hf := z_if c6 hf
      refine lv_iconst (v := 1) hx hb dX11_kindHere_38 (by decide) ?_
      have hf := Option.some.inj hf
      subst hf
      exact z_ri B hW dX11_kindHere_39
  · have hf := z_if c3 hf
    refine lv_iconst (v := 0) hx hb dX11_kindHere_19 (by decide) ?_
    have hf := Option.some.inj hf
    subst hf
    exact z_ri B hW dX11_kindHere_20
set_option maxHeartbeats 4000000 in
set_option maxRecDepth 100000 in
theorem f_X11_isNumber (l : Launch) {Γ : Zg} {M : Zm} {l0 : Nat} {l1 : Int32} {l2 : Int32} {r : Int32} {M' : Zm} (hf : X11_isNumber M l0 l1 l2 = (r, M')) (h0 : z_Is Γ 11 l0) : z_Fn l Γ yX11_isNumber cX11_isNumber 3 (some .boolean) 1 25 [.ref l0, .int l1, .int l2] M (some (.int r)) M' := by
  refine z_Fn.of (by decide) (Nat.le_of_ble_eq_true rfl) ?_
  intro p e s m below meth c ls B hW hl
  have B : z_Bd Γ p s m _ meth c cX11_isNumber 3 (some .boolean) RX11 := B
  have hl : lv_has ls 3 [(0, .ref l0), (1, .int l1), (2, .int l2)] := hl
  rw [X11_isNumber] at hf
  have hx := B.1
  have hb := B.2.1
  have hml := B.2.2.1
  have ho := B.2.2.2.1
  have hw := B.2.2.2.2.1
  have hE := B.2.2.2.2.2.1.2.2
  have hg := B.2.2.2.2.2.2.1
  refine lv_aload_n hx hb dX11_isNumber_0 rfl (lv_at hl 0 rfl) ?_
  refine z_get_11_11 B hW h0 q866 dX11_isNumber_1 ?_
  refine lv_iconst (v := 2) hx hb dX11_isNumber_4 (by decide) ?_
  refine lv_icmp_ne (tgt := 23) hx hb dX11_isNumber_5 (by decide) (fun c1 => ?_) (fun c1 => ?_)
  · have hf := z_if c1 hf
    refine lv_aload_n hx hb dX11_isNumber_23 rfl (lv_at hl 0 rfl) ?_
    obtain ⟨r2, M3, e4, hf⟩ := z_lpe hf
    refine z_cV (As := []) (rest := []) B hW (f_X11_fails l e4 h0) sc_X11_fails sv_X11_219 h0 ⟨Nat.le_of_ble_eq_true rfl, Nat.le_of_ble_eq_true rfl⟩ ⟨Nat.zero_le _, Nat.zero_le _⟩ rfl hl.1 rfl (Nat.le_of_ble_eq_true rfl) dX11_isNumber_24 (fun H locs hW => ?_)
    refine lv_if_eq (tgt := 34) hx hb dX11_isNumber_27 (by decide) (fun c5 => ?_) (fun c5 => ?_)
    · have hf := z_it c5 hf
      refine lv_iconst (v := 0) hx hb dX11_isNumber_34 (by decide) ?_
      obtain ⟨e1, e2⟩ := Prod.mk.inj hf
      subst e1
      subst e2
      exact z_rz B hW (Or.inl rfl) dX11_isNumber_35
    · have hf := z_if c5 hf
      refine lv_iconst (v := 1) hx hb dX11_isNumber_30 (by decide) ?_
      refine lv_goto (tgt := 35) hx hb dX11_isNumber_31 (by decide) ?_
      obtain ⟨e1, e2⟩ := Prod.mk.inj hf
      subst e1
      subst e2
      exact z_rz B hW (Or.inr rfl) dX11_isNumber_35
  · have hf := z_it c1 hf
    refine lv_aload_n hx hb dX11_isNumber_8 rfl (lv_at hl 0 rfl) ?_
    refine z_get_11_14 B hW h0 q869 dX11_isNumber_9 ?_
    refine lv_i2l hx hb dX11_isNumber_12 rfl ?_
    refine lv_iload_n hx hb dX11_isNumber_13 rfl (lv_at hl 1 rfl) ?_
    refine lv_i2l hx hb dX11_isNumber_14 rfl ?_
    refine lv_iload_n hx hb dX11_isNumber_15 rfl (lv_at hl 2 rfl) ?_
    refine lv_i2l hx hb dX11_isNumber_16 rfl ?_
    refine z_cS (As := [.long ((M.1 l0 14).toInt64), .long l1.toInt64, .long l2.toInt64]) (rest := []) B hW (f_X11_isIn l) sc_X11_isIn ⟨q909, q910⟩ ⟨Nat.le_of_ble_eq_true rfl, Nat.le_of_ble_eq_true rfl⟩ ⟨Nat.zero_le _, Nat.zero_le _⟩ rfl hl.1 rfl (Nat.le_of_ble_eq_true rfl) dX11_isNumber_17 (fun H locs hW => ?_)
    refine lv_if_ne (tgt := 30) hx hb dX11_isNumber_20 (by decide) (fun c8 => ?_) (fun c8 => ?_)
    · have hf := z_if c8 hf
      refine lv_iconst (v := 1) hx hb dX11_isNumber_30 (by decide) ?_
      refine lv_goto (tgt := 35) hx hb dX11_isNumber_31 (by decide) ?_
      obtain ⟨e1, e2⟩ := Prod.mk.inj hf
      subst e1
      subst e2
      exact z_rz B hW (Or.inr rfl) dX11_isNumber_35
    · have hf := z_it c8 hf
      refine lv_aload_n hx hb dX11_isNumber_23 rfl (lv_at hl 0 rfl) ?_
      obtain ⟨r9, M10, e11, hf⟩ := z_lpe hf
      refine z_cV (As := []) (rest := []) B hW (f_X11_fails l e11 h0) sc_X11_fails sv_X11_219 h0 ⟨Nat.le_of_ble_eq_true rfl, Nat.le_of_ble_eq_true rfl⟩ ⟨Nat.zero_le _, Nat.zero_le _⟩ rfl hl.1 rfl (Nat.le_of_ble_eq_true rfl) dX11_isNumber_24 (fun H locs hW => ?_)
      refine lv_if_eq (tgt := 34) hx hb dX11_isNumber_27 (by decide) (fun c12 => ?_) (fun c12 => ?_)
      · have hf := z_it c12 hf
        refine lv_iconst (v := 0) hx hb dX11_isNumber_34 (by decide) ?_
        obtain ⟨e1, e2⟩ := Prod.mk.inj hf
        subst e1
        subst e2
        exact z_rz B hW (Or.inl rfl) dX11_isNumber_35
      · have hf := z_if c12 hf
        refine lv_iconst (v := 1) hx hb dX11_isNumber_30 (by decide) ?_
        refine lv_goto (tgt := 35) hx hb dX11_isNumber_31 (by decide) ?_
        obtain ⟨e1, e2⟩ := Prod.mk.inj hf
        subst e1
        subst e2
        exact z_rz B hW (Or.inr rfl) dX11_isNumber_35
set_option maxHeartbeats 4000000 in
set_option maxRecDepth 100000 in
theorem w_X11_knowsHere_P6 (B : z_Bd Γ p s m args meth c cX11_knowsHere 3 (some .boolean) RX11) : ∀ (n : Nat) (M : Zm) (l0 : Nat) (l1 : Int32) (l2 : Int32) (r : Int32) (M' : Zm), X11_knowsHere_P6 Γ n M l0 l1 l2 = some (r, M') → z_Is Γ 11 l0 → ∀ (H : Heap) (locs : List Loc) (ls : Array Slot), z_Wd Γ M s.heap H locs → lv_has ls 3 [(0, .ref l0), (1, .int l1), (2, .int l2)] → W p l e (z_rm 2 47) s m args below meth c H locs 0 0 (z_Q Γ below args s (some (.int r)) M') (F0 m 6 ls []) := by
  have hx := B.1
  have hb := B.2.1
  have hml := B.2.2.1
  have ho := B.2.2.2.1
  have hw := B.2.2.2.2.1
  have hE := B.2.2.2.2.2.1.2.2
  have hg := B.2.2.2.2.2.2.1
  intro n
  induction n with
  | zero =>
    intro M l0 l1 l2 r M' hf h0 H locs ls hW hl
    cases hf
  | succ n ih =>
    intro M l0 l1 l2 r M' hf h0 H locs ls hW hl
    rw [X11_knowsHere_P6] at hf
    refine lv_iload_n hx hb dX11_knowsHere_6 rfl (lv_at hl 2 rfl) ?_
    refine lv_if_eq (tgt := 18) hx hb dX11_knowsHere_7 (by decide) (fun c4 => ?_) (fun c4 => ?_)
    · have hf := z_it c4 hf
      refine lv_iload_n hx hb dX11_knowsHere_18 rfl (lv_at hl 2 rfl) ?_
      refine lv_iconst (v := 4) hx hb dX11_knowsHere_19 (by decide) ?_
      refine lv_icmp_eq (tgt := 33) hx hb dX11_knowsHere_20 (by decide) (fun c5 => ?_) (fun c5 => ?_)
      · have hf := z_it c5 hf
        refine lv_aload_n hx hb dX11_knowsHere_33 rfl (lv_at hl 0 rfl) ?_
        obtain ⟨r6, M7, e8, hf⟩ := z_lpe hf
        refine z_cV (As := []) (rest := []) B hW (f_X11_fails l e8 h0) sc_X11_fails sv_X11_219 h0 ⟨Nat.le_of_ble_eq_true rfl, Nat.le_of_ble_eq_true rfl⟩ ⟨Nat.zero_le _, Nat.zero_le _⟩ rfl hl.1 rfl (Nat.le_of_ble_eq_true rfl) dX11_knowsHere_34 (fun H locs hW => ?_)
        obtain ⟨g9, hf⟩ := z_gp hf
        obtain ⟨e1, e2⟩ := z_s2 hf
        subst e1
        subst e2
        exact z_rz B hW g9 dX11_knowsHere_37
      · have hf := z_if c5 hf
        refine lv_aload_n hx hb dX11_knowsHere_23 rfl (lv_at hl 0 rfl) ?_
        refine lv_iconst (v := 0) hx hb dX11_knowsHere_24 (by decide) ?_
        refine lv_bipush (v := 9) hx hb dX11_knowsHere_25 (by decide) ?_
        obtain ⟨r10, M11, e12, hf⟩ := z_lpe hf
        refine z_cV (As := [.int (0 : Int32), .int (9 : Int32)]) (rest := []) B hW (f_X11_isNumber l e12 h0) sc_X11_isNumber sv_X11_225 h0 ⟨Nat.le_of_ble_eq_true rfl, Nat.le_of_ble_eq_true rfl⟩ ⟨Nat.zero_le _, Nat.zero_le _⟩ rfl hl.1 rfl (Nat.le_of_ble_eq_true rfl) dX11_knowsHere_27 (fun H locs hW => ?_)
        refine lv_if_ne (tgt := 38) hx hb dX11_knowsHere_30 (by decide) (fun c13 => ?_) (fun c13 => ?_)
        · have hf := z_if c13 hf
          refine lv_aload_n hx hb dX11_knowsHere_38 rfl (lv_at hl 0 rfl) ?_
          refine z_get_11_0 B hW h0 q855 dX11_knowsHere_39 ?_
          refine lv_iload_n hx hb dX11_knowsHere_42 rfl (lv_at hl 1 rfl) ?_
          refine lv_iconst (v := 1) hx hb dX11_knowsHere_43 (by decide) ?_
          refine z_cS (As := [.int l1, .int (1 : Int32)]) (rest := [.ref (z_r Γ l0 0)]) B hW (f_X11_at l) sc_X11_at ⟨q942, q943⟩ ⟨Nat.le_of_ble_eq_true rfl, Nat.le_of_ble_eq_true rfl⟩ ⟨Nat.zero_le _, Nat.zero_le _⟩ rfl hl.1 rfl (Nat.le_of_ble_eq_true rfl) dX11_knowsHere_44 (fun H locs hW => ?_)
          refine lv_dup2_11 hx hb dX11_knowsHere_47 rfl rfl ?_
          obtain ⟨g16, hf⟩ := z_gd hf
          refine z_ia B hW (z_g11_0 hg h0) g16 dX11_knowsHere_48 ?_
          refine lv_iconst (v := 1) hx hb dX11_knowsHere_49 (by decide) ?_
          refine lv_aload_n hx hb dX11_knowsHere_50 rfl (lv_at hl 0 rfl) ?_
          refine z_get_11_14 B hW h0 q869 dX11_knowsHere_51 ?_
          refine lv_ishl hx hb dX11_knowsHere_54 ?_
          refine lv_ior hx hb dX11_knowsHere_55 ?_
          obtain ⟨g17, hf⟩ := z_gd hf
          refine z_is B hW (z_g11_0 hg h0) g17 dX11_knowsHere_56 (fun H locs hW => ?_)
          obtain ⟨M18, e19, hf⟩ := z_le hf
          have hW := z_wde e19 hW
          refine lv_aload_n hx hb dX11_knowsHere_57 rfl (lv_at hl 0 rfl) ?_
          obtain ⟨M21, e22, hf⟩ := z_bd hf
          refine z_cV (As := []) (rest := []) B hW (f_X11_nextToken l e22 h0) sc_X11_nextToken sv_X11_222 h0 ⟨Nat.le_of_ble_eq_true rfl, Nat.le_of_ble_eq_true rfl⟩ ⟨Nat.zero_le _, Nat.zero_le _⟩ rfl hl.1 rfl (Nat.le_of_ble_eq_true rfl) dX11_knowsHere_58 (fun H locs hW => ?_)
          refine lv_iinc (v := l2 + (1 : Int32)) (lv' := [(2, .int (l2 + (1 : Int32))), (0, .ref l0), (1, .int l1)]) hx hb dX11_knowsHere_61 hl (k := 2) rfl rfl (by decide) rfl (fun ls hl => ?_)
          refine lv_goto (tgt := 6) hx hb dX11_knowsHere_64 (by decide) ?_
          exact ih M21 l0 l1 (l2 + (1 : Int32)) _ _ hf h0 _ _ _ hW (lv_sub hl [1, 2, 0] rfl)
        · have hf := z_it c13 hf
          refine lv_aload_n hx hb dX11_knowsHere_33 rfl (lv_at hl 0 rfl) ?_
          obtain ⟨r23, M24, e25, hf⟩ := z_lpe hf
          refine z_cV (As := []) (rest := []) B hW (f_X11_fails l e25 h0) sc_X11_fails sv_X11_219 h0 ⟨Nat.le_of_ble_eq_true rfl, Nat.le_of_ble_eq_true rfl⟩ ⟨Nat.zero_le _, Nat.zero_le _⟩ rfl hl.1 rfl (Nat.le_of_ble_eq_true rfl) dX11_knowsHere_34 (fun H locs hW => ?_)
          obtain ⟨g26, hf⟩ := z_gp hf
          obtain ⟨e1, e2⟩ := z_s2 hf
          subst e1
          subst e2
          exact z_rz B hW g26 dX11_knowsHere_37
    · have hf := z_if c4 hf
      refine lv_aload_n hx hb dX11_knowsHere_10 rfl (lv_at hl 0 rfl) ?_
      refine z_get_11_11 B hW h0 q866 dX11_knowsHere_11 ?_
      refine lv_iconst (v := 2) hx hb dX11_knowsHere_14 (by decide) ?_
      refine lv_icmp_ne (tgt := 67) hx hb dX11_knowsHere_15 (by decide) (fun c27 => ?_) (fun c27 => ?_)
      · have hf := z_if c27 hf
        refine lv_iconst (v := 1) hx hb dX11_knowsHere_67 (by decide) ?_
        obtain ⟨e1, e2⟩ := z_s2 hf
        subst e1
        subst e2
        exact z_rz B hW (Or.inr rfl) dX11_knowsHere_68
      · have hf := z_it c27 hf
        refine lv_iload_n hx hb dX11_knowsHere_18 rfl (lv_at hl 2 rfl) ?_
        refine lv_iconst (v := 4) hx hb dX11_knowsHere_19 (by decide) ?_
        refine lv_icmp_eq (tgt := 33) hx hb dX11_knowsHere_20 (by decide) (fun c28 => ?_) (fun c28 => ?_)
        · have hf := z_it c28 hf
          refine lv_aload_n hx hb dX11_knowsHere_33 rfl (lv_at hl 0 rfl) ?_
          obtain ⟨r29, M30, e31, hf⟩ := z_lpe hf
          refine z_cV (As := []) (rest := []) B hW (f_X11_fails l e31 h0) sc_X11_fails sv_X11_219 h0 ⟨Nat.le_of_ble_eq_true rfl, Nat.le_of_ble_eq_true rfl⟩ ⟨Nat.zero_le _, Nat.zero_le _⟩ rfl hl.1 rfl (Nat.le_of_ble_eq_true rfl) dX11_knowsHere_34 (fun H locs hW => ?_)
          obtain ⟨g32, hf⟩ := z_gp hf
          obtain ⟨e1, e2⟩ := z_s2 hf
          subst e1
          subst e2
          exact z_rz B hW g32 dX11_knowsHere_37
        · have hf := z_if c28 hf
          refine lv_aload_n hx hb dX11_knowsHere_23 rfl (lv_at hl 0 rfl) ?_
          refine lv_iconst (v := 0) hx hb dX11_knowsHere_24 (by decide) ?_
          refine lv_bipush (v := 9) hx hb dX11_knowsHere_25 (by decide) ?_
          obtain ⟨r33, M34, e35, hf⟩ := z_lpe hf
          refine z_cV (As := [.int (0 : Int32), .int (9 : Int32)]) (rest := []) B hW (f_X11_isNumber l e35 h0) sc_X11_isNumber sv_X11_225 h0 ⟨Nat.le_of_ble_eq_true rfl, Nat.le_of_ble_eq_true rfl⟩ ⟨Nat.zero_le _, Nat.zero_le _⟩ rfl hl.1 rfl (Nat.le_of_ble_eq_true rfl) dX11_knowsHere_27 (fun H locs hW => ?_)
          refine lv_if_ne (tgt := 38) hx hb dX11_knowsHere_30 (by decide) (fun c36 => ?_) (fun c36 => ?_)
          · have hf := z_if c36 hf
            refine lv_aload_n hx hb dX11_knowsHere_38 rfl (lv_at hl 0 rfl) ?_
            refine z_get_11_0 B hW h0 q855 dX11_knowsHere_39 ?_
            refine lv_iload_n hx hb dX11_knowsHere_42 rfl (lv_at hl 1 rfl) ?_
            refine lv_iconst (v := 1) hx hb dX11_knowsHere_43 (by decide) ?_
            refine z_cS (As := [.int l1, .int (1 : Int32)]) (rest := [.ref (z_r Γ l0 0)]) B hW (f_X11_at l) sc_X11_at ⟨q942, q943⟩ ⟨Nat.le_of_ble_eq_true rfl, Nat.le_of_ble_eq_true rfl⟩ ⟨Nat.zero_le _, Nat.zero_le _⟩ rfl hl.1 rfl (Nat.le_of_ble_eq_true rfl) dX11_knowsHere_44 (fun H locs hW => ?_)
            refine lv_dup2_11 hx hb dX11_knowsHere_47 rfl rfl ?_
            obtain ⟨g39, hf⟩ := z_gd hf
            refine z_ia B hW (z_g11_0 hg h0) g39 dX11_knowsHere_48 ?_
            refine lv_iconst (v := 1) hx hb dX11_knowsHere_49 (by decide) ?_
            refine lv_aload_n hx hb dX11_knowsHere_50 rfl (lv_at hl 0 rfl) ?_
            refine z_get_11_14 B hW h0 q869 dX11_knowsHere_51 ?_
            refine lv_ishl hx hb dX11_knowsHere_54 ?_
            refine lv_ior hx hb dX11_knowsHere_55 ?_
            obtain ⟨g40, hf⟩ := z_gd hf
            refine z_is B hW (z_g11_0 hg h0) g40 dX11_knowsHere_56 (fun H locs hW => ?_)
            obtain ⟨M41, e42, hf⟩ := z_le hf
            have hW := z_wde e42 hW
            refine lv_aload_n hx hb dX11_knowsHere_57 rfl (lv_at hl 0 rfl) ?_
            obtain ⟨M44, e45, hf⟩ := z_bd hf
            refine z_cV (As := []) (rest := []) B hW (f_X11_nextToken l e45 h0) sc_X11_nextToken sv_X11_222 h0 ⟨Nat.le_of_ble_eq_true rfl, Nat.le_of_ble_eq_true rfl⟩ ⟨Nat.zero_le _, Nat.zero_le _⟩ rfl hl.1 rfl (Nat.le_of_ble_eq_true rfl) dX11_knowsHere_58 (fun H locs hW => ?_)
            refine lv_iinc (v := l2 + (1 : Int32)) (lv' := [(2, .int (l2 + (1 : Int32))), (0, .ref l0), (1, .int l1)]) hx hb dX11_knowsHere_61 hl (k := 2) rfl rfl (by decide) rfl (fun ls hl => ?_)
            refine lv_goto (tgt := 6) hx hb dX11_knowsHere_64 (by decide) ?_
            exact ih M44 l0 l1 (l2 + (1 : Int32)) _ _ hf h0 _ _ _ hW (lv_sub hl [1, 2, 0] rfl)
          · have hf := z_it c36 hf
            refine lv_aload_n hx hb dX11_knowsHere_33 rfl (lv_at hl 0 rfl) ?_
            obtain ⟨r46, M47, e48, hf⟩ := z_lpe hf
            refine z_cV (As := []) (rest := []) B hW (f_X11_fails l e48 h0) sc_X11_fails sv_X11_219 h0 ⟨Nat.le_of_ble_eq_true rfl, Nat.le_of_ble_eq_true rfl⟩ ⟨Nat.zero_le _, Nat.zero_le _⟩ rfl hl.1 rfl (Nat.le_of_ble_eq_true rfl) dX11_knowsHere_34 (fun H locs hW => ?_)
            obtain ⟨g49, hf⟩ := z_gp hf
            obtain ⟨e1, e2⟩ := z_s2 hf
            subst e1
            subst e2
            exact z_rz B hW g49 dX11_knowsHere_37
set_option maxHeartbeats 4000000 in
set_option maxRecDepth 100000 in
theorem f_X11_knowsHere (l : Launch) {Γ : Zg} {M : Zm} {l0 : Nat} {l1 : Int32} {r : Int32} {M' : Zm} (hf : X11_knowsHere Γ M l0 l1 = some (r, M')) (h0 : z_Is Γ 11 l0) : z_Fn l Γ yX11_knowsHere cX11_knowsHere 3 (some .boolean) 2 47 [.ref l0, .int l1] M (some (.int r)) M' := by
  refine z_Fn.of (by decide) (Nat.le_of_ble_eq_true rfl) ?_
  intro p e s m below meth c ls B hW hl
  have B : z_Bd Γ p s m _ meth c cX11_knowsHere 3 (some .boolean) RX11 := B
  have hl : lv_has ls 3 [(0, .ref l0), (1, .int l1)] := hl
  rw [X11_knowsHere] at hf
  have hx := B.1
  have hb := B.2.1
  have hml := B.2.2.1
  have ho := B.2.2.2.1
  have hw := B.2.2.2.2.1
  have hE := B.2.2.2.2.2.1.2.2
  have hg := B.2.2.2.2.2.2.1
  refine lv_iconst (v := 0) hx hb dX11_knowsHere_0 (by decide) ?_
  refine lv_istore_n (lv' := [(2, .int (0 : Int32)), (0, .ref l0), (1, .int l1)]) hx hb dX11_knowsHere_1 rfl hl (by decide) rfl (fun ls hl => ?_)
  refine lv_aload_n hx hb dX11_knowsHere_2 rfl (lv_at hl 1 rfl) ?_
  obtain ⟨M2, e3, hf⟩ := z_bd hf
  refine z_cV (As := []) (rest := []) B hW (f_X11_nextToken l e3 h0) sc_X11_nextToken sv_X11_222 h0 ⟨Nat.le_of_ble_eq_true rfl, Nat.le_of_ble_eq_true rfl⟩ ⟨Nat.zero_le _, Nat.zero_le _⟩ rfl hl.1 rfl (Nat.le_of_ble_eq_true rfl) dX11_knowsHere_3 (fun H locs hW => ?_)
  exact w_X11_knowsHere_P6 B 1000 M2 l0 l1 (0 : Int32) _ _ hf h0 _ _ _ hW (lv_sub hl [1, 2, 0] rfl)
set_option maxHeartbeats 4000000 in
set_option maxRecDepth 100000 in
theorem w_X11_personHere_P61 (B : z_Bd Γ p s m args meth c cX11_personHere 3 (some .boolean) RX11) : ∀ (M : Zm) (l0 : Nat) (l2 : Int32) (r : Int32) (M' : Zm), X11_personHere_P61 Γ M l0 l2 = some (r, M') → z_Is Γ 11 l0 → ∀ (H : Heap) (locs : List Loc) (ls : Array Slot), z_Wd Γ M s.heap H locs → lv_has ls 3 [(0, .ref l0), (2, .int l2)] → W p l e (z_rm 3 70) s m args below meth c H locs 0 0 (z_Q Γ below args s (some (.int r)) M') (F0 m 61 ls []) := by
  have hx := B.1
  have hb := B.2.1
  have hml := B.2.2.1
  have ho := B.2.2.2.1
  have hw := B.2.2.2.2.1
  have hE := B.2.2.2.2.2.1.2.2
  have hg := B.2.2.2.2.2.2.1
  intro M l0 l2 r M' hf h0 H locs ls hW hl
  rw [X11_personHere_P61] at hf
  refine lv_aload_n hx hb dX11_personHere_61 rfl (lv_at hl 0 rfl) ?_
  refine lv_iconst (v := 2) hx hb dX11_personHere_62 (by decide) ?_
  refine z_cV (As := [.int (2 : Int32)]) (rest := []) B hW (f_X11_isWord l h0) sc_X11_isWord sv_X11_201 h0 ⟨Nat.le_of_ble_eq_true rfl, Nat.le_of_ble_eq_true rfl⟩ ⟨Nat.zero_le _, Nat.zero_le _⟩ rfl hl.1 rfl (Nat.le_of_ble_eq_true rfl) dX11_personHere_63 (fun H locs hW => ?_)
  refine lv_if_eq (tgt := 144) hx hb dX11_personHere_66 (by decide) (fun c21 => ?_) (fun c21 => ?_)
  · have hf := z_it c21 hf
    refine lv_iconst (v := 1) hx hb dX11_personHere_144 (by decide) ?_
    obtain ⟨e1, e2⟩ := z_s2 hf
    subst e1
    subst e2
    exact z_rz B hW (Or.inr rfl) dX11_personHere_145
  · have hf := z_if c21 hf
    refine lv_aload_n hx hb dX11_personHere_69 rfl (lv_at hl 0 rfl) ?_
    refine lv_aload_n hx hb dX11_personHere_70 rfl (lv_at hl 0 rfl) ?_
    refine z_get_11_12 B hW h0 q867 dX11_personHere_71 ?_
    obtain ⟨r22, e23, hf⟩ := z_bd hf
    refine z_cV (As := [.int (M.1 l0 12)]) (rest := []) B hW (f_X11_byteAt l e23 h0) sc_X11_byteAt sv_X11_183 h0 ⟨Nat.le_of_ble_eq_true rfl, Nat.le_of_ble_eq_true rfl⟩ ⟨Nat.zero_le _, Nat.zero_le _⟩ rfl hl.1 rfl (Nat.le_of_ble_eq_true rfl) dX11_personHere_74 (fun H locs hW => ?_)
    refine lv_bipush (v := 111) hx hb dX11_personHere_77 (by decide) ?_
    refine lv_icmp_ne (tgt := 144) hx hb dX11_personHere_79 (by decide) (fun c24 => ?_) (fun c24 => ?_)
    · have hf := z_if c24 hf
      refine lv_iconst (v := 1) hx hb dX11_personHere_144 (by decide) ?_
      obtain ⟨e1, e2⟩ := z_s2 hf
      subst e1
      subst e2
      exact z_rz B hW (Or.inr rfl) dX11_personHere_145
    · have hf := z_it c24 hf
      refine lv_aload_n hx hb dX11_personHere_82 rfl (lv_at hl 0 rfl) ?_
      refine lv_aload_n hx hb dX11_personHere_83 rfl (lv_at hl 0 rfl) ?_
      refine z_get_11_12 B hW h0 q867 dX11_personHere_84 ?_
      refine lv_iconst (v := 1) hx hb dX11_personHere_87 (by decide) ?_
      refine lv_iadd hx hb dX11_personHere_88 ?_
      obtain ⟨r25, e26, hf⟩ := z_bd hf
      refine z_cV (As := [.int ((M.1 l0 12) + (1 : Int32))]) (rest := []) B hW (f_X11_byteAt l e26 h0) sc_X11_byteAt sv_X11_183 h0 ⟨Nat.le_of_ble_eq_true rfl, Nat.le_of_ble_eq_true rfl⟩ ⟨Nat.zero_le _, Nat.zero_le _⟩ rfl hl.1 rfl (Nat.le_of_ble_eq_true rfl) dX11_personHere_89 (fun H locs hW => ?_)
      refine lv_bipush (v := 110) hx hb dX11_personHere_92 (by decide) ?_
      refine lv_icmp_ne (tgt := 144) hx hb dX11_personHere_94 (by decide) (fun c27 => ?_) (fun c27 => ?_)
      · have hf := z_if c27 hf
        refine lv_iconst (v := 1) hx hb dX11_personHere_144 (by decide) ?_
        obtain ⟨e1, e2⟩ := z_s2 hf
        subst e1
        subst e2
        exact z_rz B hW (Or.inr rfl) dX11_personHere_145
      · have hf := z_it c27 hf
        refine lv_aload_n hx hb dX11_personHere_97 rfl (lv_at hl 0 rfl) ?_
        obtain ⟨M29, e30, hf⟩ := z_bd hf
        refine z_cV (As := []) (rest := []) B hW (f_X11_nextToken l e30 h0) sc_X11_nextToken sv_X11_222 h0 ⟨Nat.le_of_ble_eq_true rfl, Nat.le_of_ble_eq_true rfl⟩ ⟨Nat.zero_le _, Nat.zero_le _⟩ rfl hl.1 rfl (Nat.le_of_ble_eq_true rfl) dX11_personHere_98 (fun H locs hW => ?_)
        refine lv_aload_n hx hb dX11_personHere_101 rfl (lv_at hl 0 rfl) ?_
        refine lv_iconst (v := 0) hx hb dX11_personHere_102 (by decide) ?_
        refine lv_iconst (v := 1) hx hb dX11_personHere_103 (by decide) ?_
        obtain ⟨r31, M32, e33, hf⟩ := z_lpe hf
        refine z_cV (As := [.int (0 : Int32), .int (1 : Int32)]) (rest := []) B hW (f_X11_isNumber l e33 h0) sc_X11_isNumber sv_X11_225 h0 ⟨Nat.le_of_ble_eq_true rfl, Nat.le_of_ble_eq_true rfl⟩ ⟨Nat.zero_le _, Nat.zero_le _⟩ rfl hl.1 rfl (Nat.le_of_ble_eq_true rfl) dX11_personHere_104 (fun H locs hW => ?_)
        refine lv_if_eq (tgt := 121) hx hb dX11_personHere_107 (by decide) (fun c34 => ?_) (fun c34 => ?_)
        · have hf := z_it c34 hf
          refine lv_aload_n hx hb dX11_personHere_121 rfl (lv_at hl 0 rfl) ?_
          obtain ⟨r35, M36, e37, hf⟩ := z_lpe hf
          refine z_cV (As := []) (rest := []) B hW (f_X11_fails l e37 h0) sc_X11_fails sv_X11_219 h0 ⟨Nat.le_of_ble_eq_true rfl, Nat.le_of_ble_eq_true rfl⟩ ⟨Nat.zero_le _, Nat.zero_le _⟩ rfl hl.1 rfl (Nat.le_of_ble_eq_true rfl) dX11_personHere_122 (fun H locs hW => ?_)
          obtain ⟨g38, hf⟩ := z_gp hf
          obtain ⟨e1, e2⟩ := z_s2 hf
          subst e1
          subst e2
          exact z_rz B hW g38 dX11_personHere_125
        · have hf := z_if c34 hf
          refine lv_aload_n hx hb dX11_personHere_110 rfl (lv_at hl 0 rfl) ?_
          refine lv_aload_n hx hb dX11_personHere_111 rfl (lv_at hl 0 rfl) ?_
          refine z_get_11_14 B hW h0 q869 dX11_personHere_112 ?_
          obtain ⟨r39, e40, hf⟩ := z_bd hf
          refine z_cV (As := [.int (M32.1 l0 14)]) (rest := []) B hW (f_X11_sitter l e40 h0) sc_X11_sitter sv_X11_110 h0 ⟨Nat.le_of_ble_eq_true rfl, Nat.le_of_ble_eq_true rfl⟩ ⟨Nat.zero_le _, Nat.zero_le _⟩ rfl hl.1 rfl (Nat.le_of_ble_eq_true rfl) dX11_personHere_115 (fun H locs hW => ?_)
          refine lv_if_lt (tgt := 126) hx hb dX11_personHere_118 (by decide) (fun c41 => ?_) (fun c41 => ?_)
          · have hf := z_it c41 hf
            refine lv_aload_n hx hb dX11_personHere_126 rfl (lv_at hl 0 rfl) ?_
            refine z_get_11_0 B hW h0 q855 dX11_personHere_127 ?_
            refine lv_iload_n hx hb dX11_personHere_130 rfl (lv_at hl 1 rfl) ?_
            refine lv_iconst (v := 3) hx hb dX11_personHere_131 (by decide) ?_
            refine z_cS (As := [.int l2, .int (3 : Int32)]) (rest := [.ref (z_r Γ l0 0)]) B hW (f_X11_at l) sc_X11_at ⟨q942, q943⟩ ⟨Nat.le_of_ble_eq_true rfl, Nat.le_of_ble_eq_true rfl⟩ ⟨Nat.zero_le _, Nat.zero_le _⟩ rfl hl.1 rfl (Nat.le_of_ble_eq_true rfl) dX11_personHere_132 (fun H locs hW => ?_)
            refine lv_aload_n hx hb dX11_personHere_135 rfl (lv_at hl 0 rfl) ?_
            refine z_get_11_14 B hW h0 q869 dX11_personHere_136 ?_
            obtain ⟨g44, hf⟩ := z_gd hf
            refine z_is B hW (z_g11_0 hg h0) g44 dX11_personHere_139 (fun H locs hW => ?_)
            obtain ⟨M45, e46, hf⟩ := z_le hf
            have hW := z_wde e46 hW
            refine lv_aload_n hx hb dX11_personHere_140 rfl (lv_at hl 0 rfl) ?_
            obtain ⟨M48, e49, hf⟩ := z_bd hf
            refine z_cV (As := []) (rest := []) B hW (f_X11_nextToken l e49 h0) sc_X11_nextToken sv_X11_222 h0 ⟨Nat.le_of_ble_eq_true rfl, Nat.le_of_ble_eq_true rfl⟩ ⟨Nat.zero_le _, Nat.zero_le _⟩ rfl hl.1 rfl (Nat.le_of_ble_eq_true rfl) dX11_personHere_141 (fun H locs hW => ?_)
            refine lv_iconst (v := 1) hx hb dX11_personHere_144 (by decide) ?_
            obtain ⟨e1, e2⟩ := z_s2 hf
            subst e1
            subst e2
            exact z_rz B hW (Or.inr rfl) dX11_personHere_145
          · have hf := z_if c41 hf
            refine lv_aload_n hx hb dX11_personHere_121 rfl (lv_at hl 0 rfl) ?_
            obtain ⟨r50, M51, e52, hf⟩ := z_lpe hf
            refine z_cV (As := []) (rest := []) B hW (f_X11_fails l e52 h0) sc_X11_fails sv_X11_219 h0 ⟨Nat.le_of_ble_eq_true rfl, Nat.le_of_ble_eq_true rfl⟩ ⟨Nat.zero_le _, Nat.zero_le _⟩ rfl hl.1 rfl (Nat.le_of_ble_eq_true rfl) dX11_personHere_122 (fun H locs hW => ?_)
            obtain ⟨g53, hf⟩ := z_gp hf
            obtain ⟨e1, e2⟩ := z_s2 hf
            subst e1
            subst e2
            exact z_rz B hW g53 dX11_personHere_125
set_option maxHeartbeats 4000000 in
set_option maxRecDepth 100000 in
theorem f_X11_personHere (l : Launch) {Γ : Zg} {M : Zm} {l0 : Nat} {l1 : Int32} {r : Int32} {M' : Zm} (hf : X11_personHere Γ M l0 l1 = some (r, M')) (h0 : z_Is Γ 11 l0) : z_Fn l Γ yX11_personHere cX11_personHere 3 (some .boolean) 3 70 [.ref l0, .int l1] M (some (.int r)) M' := by
  refine z_Fn.of (by decide) (Nat.le_of_ble_eq_true rfl) ?_
  intro p e s m below meth c ls B hW hl
  have B : z_Bd Γ p s m _ meth c cX11_personHere 3 (some .boolean) RX11 := B
  have hl : lv_has ls 3 [(0, .ref l0), (1, .int l1)] := hl
  rw [X11_personHere] at hf
  have hx := B.1
  have hb := B.2.1
  have hml := B.2.2.1
  have ho := B.2.2.2.1
  have hw := B.2.2.2.2.1
  have hE := B.2.2.2.2.2.1.2.2
  have hg := B.2.2.2.2.2.2.1
  refine lv_aload_n hx hb dX11_personHere_0 rfl (lv_at hl 0 rfl) ?_
  refine z_get_11_0 B hW h0 q855 dX11_personHere_1 ?_
  refine lv_iconst (v := 0) hx hb dX11_personHere_4 (by decide) ?_
  refine z_ia B hW (z_g11_0 hg h0) (z_ixd (by decide)) dX11_personHere_5 ?_
  refine lv_bipush (v := 8) hx hb dX11_personHere_6 (by decide) ?_
  refine lv_icmp_ne (tgt := 16) hx hb dX11_personHere_8 (by decide) (fun c1 => ?_) (fun c1 => ?_)
  · have hf := z_if c1 hf
    refine lv_aload_n hx hb dX11_personHere_16 rfl (lv_at hl 0 rfl) ?_
    refine lv_iload_n hx hb dX11_personHere_17 rfl (lv_at hl 1 rfl) ?_
    obtain ⟨M3, e4, hf⟩ := z_bd hf
    refine z_cV (As := [.int l1]) (rest := []) B hW (f_X11_comes l e4 h0) sc_X11_comes sv_X11_67 h0 ⟨Nat.le_of_ble_eq_true rfl, Nat.le_of_ble_eq_true rfl⟩ ⟨Nat.zero_le _, Nat.zero_le _⟩ rfl hl.1 rfl (Nat.le_of_ble_eq_true rfl) dX11_personHere_18 (fun H locs hW => ?_)
    refine lv_aload_n hx hb dX11_personHere_21 rfl (lv_at hl 0 rfl) ?_
    refine z_get_11_0 B hW h0 q855 dX11_personHere_22 ?_
    refine lv_iconst (v := 0) hx hb dX11_personHere_25 (by decide) ?_
    refine z_ia B hW (z_g11_0 hg h0) (z_ixd (by decide)) dX11_personHere_26 ?_
    refine lv_iconst (v := 1) hx hb dX11_personHere_27 (by decide) ?_
    refine lv_isub hx hb dX11_personHere_28 ?_
    refine lv_istore_n (lv' := [(2, .int ((M3.1 (z_r Γ l0 0) 0) - (1 : Int32))), (0, .ref l0), (1, .int l1)]) hx hb dX11_personHere_29 rfl hl (by decide) rfl (fun ls hl => ?_)
    refine lv_aload_n hx hb dX11_personHere_30 rfl (lv_at hl 1 rfl) ?_
    obtain ⟨M6, e7, hf⟩ := z_bd hf
    refine z_cV (As := []) (rest := []) B hW (f_X11_nextToken l e7 h0) sc_X11_nextToken sv_X11_222 h0 ⟨Nat.le_of_ble_eq_true rfl, Nat.le_of_ble_eq_true rfl⟩ ⟨Nat.zero_le _, Nat.zero_le _⟩ rfl hl.1 rfl (Nat.le_of_ble_eq_true rfl) dX11_personHere_31 (fun H locs hW => ?_)
    refine lv_aload_n hx hb dX11_personHere_34 rfl (lv_at hl 1 rfl) ?_
    refine lv_bipush (v := 107) hx hb dX11_personHere_35 (by decide) ?_
    refine lv_bipush (v := 110) hx hb dX11_personHere_37 (by decide) ?_
    refine lv_bipush (v := 111) hx hb dX11_personHere_39 (by decide) ?_
    refine lv_bipush (v := 119) hx hb dX11_personHere_41 (by decide) ?_
    refine lv_bipush (v := 115) hx hb dX11_personHere_43 (by decide) ?_
    obtain ⟨r8, e9, hf⟩ := z_bd hf
    refine z_cV (As := [.int (107 : Int32), .int (110 : Int32), .int (111 : Int32), .int (119 : Int32), .int (115 : Int32)]) (rest := []) B hW (f_X11_isFive l e9 h0) sc_X11_isFive sv_X11_212 h0 ⟨Nat.le_of_ble_eq_true rfl, Nat.le_of_ble_eq_true rfl⟩ ⟨Nat.zero_le _, Nat.zero_le _⟩ rfl hl.1 rfl (Nat.le_of_ble_eq_true rfl) dX11_personHere_45 (fun H locs hW => ?_)
    refine lv_if_eq (tgt := 61) hx hb dX11_personHere_48 (by decide) (fun c10 => ?_) (fun c10 => ?_)
    · have hf := z_it c10 hf
      exact w_X11_personHere_P61 B M6 l0 ((M3.1 (z_r Γ l0 0) 0) - (1 : Int32)) _ _ hf h0 _ _ _ hW (lv_sub hl [1, 0] rfl)
    · have hf := z_if c10 hf
      refine lv_aload_n hx hb dX11_personHere_51 rfl (lv_at hl 1 rfl) ?_
      refine lv_iload_n hx hb dX11_personHere_52 rfl (lv_at hl 0 rfl) ?_
      obtain ⟨r11, M12, e13, hf⟩ := z_bpe hf
      refine z_cV (As := [.int ((M3.1 (z_r Γ l0 0) 0) - (1 : Int32))]) (rest := []) B hW (f_X11_knowsHere l e13 h0) sc_X11_knowsHere sv_X11_228 h0 ⟨Nat.le_of_ble_eq_true rfl, Nat.le_of_ble_eq_true rfl⟩ ⟨Nat.zero_le _, Nat.zero_le _⟩ rfl hl.1 rfl (Nat.le_of_ble_eq_true rfl) dX11_personHere_53 (fun H locs hW => ?_)
      refine lv_if_ne (tgt := 61) hx hb dX11_personHere_56 (by decide) (fun c14 => ?_) (fun c14 => ?_)
      · have hf := z_if c14 hf
        exact w_X11_personHere_P61 B M12 l0 ((M3.1 (z_r Γ l0 0) 0) - (1 : Int32)) _ _ hf h0 _ _ _ hW (lv_sub hl [1, 0] rfl)
      · have hf := z_it c14 hf
        refine lv_iconst (v := 0) hx hb dX11_personHere_59 (by decide) ?_
        obtain ⟨e1, e2⟩ := z_s2 hf
        subst e1
        subst e2
        exact z_rz B hW (Or.inl rfl) dX11_personHere_60
  · have hf := z_it c1 hf
    refine lv_aload_n hx hb dX11_personHere_11 rfl (lv_at hl 0 rfl) ?_
    obtain ⟨r15, M16, e17, hf⟩ := z_lpe hf
    refine z_cV (As := []) (rest := []) B hW (f_X11_fails l e17 h0) sc_X11_fails sv_X11_219 h0 ⟨Nat.le_of_ble_eq_true rfl, Nat.le_of_ble_eq_true rfl⟩ ⟨Nat.zero_le _, Nat.zero_le _⟩ rfl hl.1 rfl (Nat.le_of_ble_eq_true rfl) dX11_personHere_12 (fun H locs hW => ?_)
    obtain ⟨g18, hf⟩ := z_gp hf
    obtain ⟨e1, e2⟩ := z_s2 hf
    subst e1
    subst e2
    exact z_rz B hW g18 dX11_personHere_15
set_option maxHeartbeats 4000000 in
set_option maxRecDepth 100000 in
theorem f_X11_secretHere (l : Launch) {Γ : Zg} {M : Zm} {l0 : Nat} {l1 : Int32} {r : Int32} {M' : Zm} (hf : X11_secretHere Γ M l0 l1 = some (r, M')) (h0 : z_Is Γ 11 l0) : z_Fn l Γ yX11_secretHere cX11_secretHere 2 (some .boolean) 2 47 [.ref l0, .int l1] M (some (.int r)) M' := by
  refine z_Fn.of (by decide) (Nat.le_of_ble_eq_true rfl) ?_
  intro p e s m below meth c ls B hW hl
  have B : z_Bd Γ p s m _ meth c cX11_secretHere 2 (some .boolean) RX11 := B
  have hl : lv_has ls 2 [(0, .ref l0), (1, .int l1)] := hl
  rw [X11_secretHere] at hf
  have hx := B.1
  have hb := B.2.1
  have hml := B.2.2.1
  have ho := B.2.2.2.1
  have hw := B.2.2.2.2.1
  have hE := B.2.2.2.2.2.1.2.2
  have hg := B.2.2.2.2.2.2.1
  refine lv_aload_n hx hb dX11_secretHere_0 rfl (lv_at hl 0 rfl) ?_
  obtain ⟨M2, e3, hf⟩ := z_bd hf
  refine z_cV (As := []) (rest := []) B hW (f_X11_nextToken l e3 h0) sc_X11_nextToken sv_X11_222 h0 ⟨Nat.le_of_ble_eq_true rfl, Nat.le_of_ble_eq_true rfl⟩ ⟨Nat.zero_le _, Nat.zero_le _⟩ rfl hl.1 rfl (Nat.le_of_ble_eq_true rfl) dX11_secretHere_1 (fun H locs hW => ?_)
  refine lv_aload_n hx hb dX11_secretHere_4 rfl (lv_at hl 0 rfl) ?_
  refine lv_iconst (v := 0) hx hb dX11_secretHere_5 (by decide) ?_
  refine lv_bipush (v := 9) hx hb dX11_secretHere_6 (by decide) ?_
  obtain ⟨r4, M5, e6, hf⟩ := z_lpe hf
  refine z_cV (As := [.int (0 : Int32), .int (9 : Int32)]) (rest := []) B hW (f_X11_isNumber l e6 h0) sc_X11_isNumber sv_X11_225 h0 ⟨Nat.le_of_ble_eq_true rfl, Nat.le_of_ble_eq_true rfl⟩ ⟨Nat.zero_le _, Nat.zero_le _⟩ rfl hl.1 rfl (Nat.le_of_ble_eq_true rfl) dX11_secretHere_8 (fun H locs hW => ?_)
  refine lv_if_ne (tgt := 16) hx hb dX11_secretHere_11 (by decide) (fun c7 => ?_) (fun c7 => ?_)
  · have hf := z_if c7 hf
    refine lv_aload_n hx hb dX11_secretHere_16 rfl (lv_at hl 0 rfl) ?_
    refine z_get_11_0 B hW h0 q855 dX11_secretHere_17 ?_
    refine lv_iconst (v := 2) hx hb dX11_secretHere_20 (by decide) ?_
    refine lv_iload_n hx hb dX11_secretHere_21 rfl (lv_at hl 1 rfl) ?_
    refine lv_if_eq (tgt := 41) hx hb dX11_secretHere_22 (by decide) (fun c8 => ?_) (fun c8 => ?_)
    · have hf := z_it c8 hf
      refine lv_aload_n hx hb dX11_secretHere_41 rfl (lv_at hl 0 rfl) ?_
      refine z_get_11_0 B hW h0 q855 dX11_secretHere_42 ?_
      refine lv_iconst (v := 2) hx hb dX11_secretHere_45 (by decide) ?_
      refine z_ia B hW (z_g11_0 hg h0) (z_ixd (by decide)) dX11_secretHere_46 ?_
      refine lv_iconst (v := 1) hx hb dX11_secretHere_47 (by decide) ?_
      refine lv_aload_n hx hb dX11_secretHere_48 rfl (lv_at hl 0 rfl) ?_
      refine z_get_11_14 B hW h0 q869 dX11_secretHere_49 ?_
      refine lv_ishl hx hb dX11_secretHere_52 ?_
      refine lv_iconst (v := -1) hx hb dX11_secretHere_53 (by decide) ?_
      refine lv_ixor hx hb dX11_secretHere_54 ?_
      refine lv_iand hx hb dX11_secretHere_55 ?_
      refine z_is B hW (z_g11_0 hg h0) (z_ixd (by decide)) dX11_secretHere_56 (fun H locs hW => ?_)
      obtain ⟨M9, e10, hf⟩ := z_le hf
      have hW := z_wde e10 hW
      refine lv_aload_n hx hb dX11_secretHere_57 rfl (lv_at hl 0 rfl) ?_
      obtain ⟨M12, e13, hf⟩ := z_bd hf
      refine z_cV (As := []) (rest := []) B hW (f_X11_nextToken l e13 h0) sc_X11_nextToken sv_X11_222 h0 ⟨Nat.le_of_ble_eq_true rfl, Nat.le_of_ble_eq_true rfl⟩ ⟨Nat.zero_le _, Nat.zero_le _⟩ rfl hl.1 rfl (Nat.le_of_ble_eq_true rfl) dX11_secretHere_58 (fun H locs hW => ?_)
      refine lv_iconst (v := 1) hx hb dX11_secretHere_61 (by decide) ?_
      obtain ⟨e1, e2⟩ := z_s2 hf
      subst e1
      subst e2
      exact z_rz B hW (Or.inr rfl) dX11_secretHere_62
    · have hf := z_if c8 hf
      refine lv_aload_n hx hb dX11_secretHere_25 rfl (lv_at hl 0 rfl) ?_
      refine z_get_11_0 B hW h0 q855 dX11_secretHere_26 ?_
      refine lv_iconst (v := 2) hx hb dX11_secretHere_29 (by decide) ?_
      refine z_ia B hW (z_g11_0 hg h0) (z_ixd (by decide)) dX11_secretHere_30 ?_
      refine lv_iconst (v := 1) hx hb dX11_secretHere_31 (by decide) ?_
      refine lv_aload_n hx hb dX11_secretHere_32 rfl (lv_at hl 0 rfl) ?_
      refine z_get_11_14 B hW h0 q869 dX11_secretHere_33 ?_
      refine lv_ishl hx hb dX11_secretHere_36 ?_
      refine lv_ior hx hb dX11_secretHere_37 ?_
      refine lv_goto (tgt := 56) hx hb dX11_secretHere_38 (by decide) ?_
      refine z_is B hW (z_g11_0 hg h0) (z_ixd (by decide)) dX11_secretHere_56 (fun H locs hW => ?_)
      obtain ⟨M14, e15, hf⟩ := z_le hf
      have hW := z_wde e15 hW
      refine lv_aload_n hx hb dX11_secretHere_57 rfl (lv_at hl 0 rfl) ?_
      obtain ⟨M17, e18, hf⟩ := z_bd hf
      refine z_cV (As := []) (rest := []) B hW (f_X11_nextToken l e18 h0) sc_X11_nextToken sv_X11_222 h0 ⟨Nat.le_of_ble_eq_true rfl, Nat.le_of_ble_eq_true rfl⟩ ⟨Nat.zero_le _, Nat.zero_le _⟩ rfl hl.1 rfl (Nat.le_of_ble_eq_true rfl) dX11_secretHere_58 (fun H locs hW => ?_)
      refine lv_iconst (v := 1) hx hb dX11_secretHere_61 (by decide) ?_
      obtain ⟨e1, e2⟩ := z_s2 hf
      subst e1
      subst e2
      exact z_rz B hW (Or.inr rfl) dX11_secretHere_62
  · have hf := z_it c7 hf
    refine lv_iconst (v := 0) hx hb dX11_secretHere_14 (by decide) ?_
    obtain ⟨e1, e2⟩ := z_s2 hf
    subst e1
    subst e2
    exact z_rz B hW (Or.inl rfl) dX11_secretHere_15
set_option maxHeartbeats 4000000 in
set_option maxRecDepth 100000 in
theorem f_X11_itemHere (l : Launch) {Γ : Zg} {M : Zm} {l0 : Nat} {r : Int32} {M' : Zm} (hf : X11_itemHere Γ M l0 = some (r, M')) (h0 : z_Is Γ 11 l0) : z_Fn l Γ yX11_itemHere cX11_itemHere 3 (some .boolean) 4 92 [.ref l0] M (some (.int r)) M' := by
  refine z_Fn.of (by decide) (Nat.le_of_ble_eq_true rfl) ?_
  intro p e s m below meth c ls B hW hl
  have B : z_Bd Γ p s m _ meth c cX11_itemHere 3 (some .boolean) RX11 := B
  have hl : lv_has ls 3 [(0, .ref l0)] := hl
  rw [X11_itemHere] at hf
  have hx := B.1
  have hb := B.2.1
  have hml := B.2.2.1
  have ho := B.2.2.2.1
  have hw := B.2.2.2.2.1
  have hE := B.2.2.2.2.2.1.2.2
  have hg := B.2.2.2.2.2.2.1
  refine lv_aload_n hx hb dX11_itemHere_0 rfl (lv_at hl 0 rfl) ?_
  obtain ⟨r1, e2, hf⟩ := z_bd hf
  refine z_cV (As := []) (rest := []) B hW (f_X11_kindHere l e2 h0) sc_X11_kindHere sv_X11_231 h0 ⟨Nat.le_of_ble_eq_true rfl, Nat.le_of_ble_eq_true rfl⟩ ⟨Nat.zero_le _, Nat.zero_le _⟩ rfl hl.1 rfl (Nat.le_of_ble_eq_true rfl) dX11_itemHere_1 (fun H locs hW => ?_)
  refine lv_istore_n (lv' := [(1, .int r1), (0, .ref l0)]) hx hb dX11_itemHere_4 rfl hl (by decide) rfl (fun ls hl => ?_)
  refine lv_iload_n hx hb dX11_itemHere_5 rfl (lv_at hl 0 rfl) ?_
  refine lv_if_lt (tgt := 15) hx hb dX11_itemHere_6 (by decide) (fun c3 => ?_) (fun c3 => ?_)
  · have hf := z_it c3 hf
    refine lv_aload_n hx hb dX11_itemHere_15 rfl (lv_at hl 1 rfl) ?_
    refine lv_bipush (v := 115) hx hb dX11_itemHere_16 (by decide) ?_
    refine lv_bipush (v := 104) hx hb dX11_itemHere_18 (by decide) ?_
    refine lv_bipush (v := 97) hx hb dX11_itemHere_20 (by decide) ?_
    refine lv_bipush (v := 109) hx hb dX11_itemHere_22 (by decide) ?_
    obtain ⟨r4, e5, hf⟩ := z_bd hf
    refine z_cV (As := [.int (115 : Int32), .int (104 : Int32), .int (97 : Int32), .int (109 : Int32)]) (rest := []) B hW (f_X11_isFour l e5 h0) sc_X11_isFour sv_X11_216 h0 ⟨Nat.le_of_ble_eq_true rfl, Nat.le_of_ble_eq_true rfl⟩ ⟨Nat.zero_le _, Nat.zero_le _⟩ rfl hl.1 rfl (Nat.le_of_ble_eq_true rfl) dX11_itemHere_24 (fun H locs hW => ?_)
    refine lv_istore_n (lv' := [(2, .int r4), (1, .int r1), (0, .ref l0)]) hx hb dX11_itemHere_27 rfl hl (by decide) rfl (fun ls hl => ?_)
    refine lv_iload_n hx hb dX11_itemHere_28 rfl (lv_at hl 0 rfl) ?_
    refine lv_if_ne (tgt := 47) hx hb dX11_itemHere_29 (by decide) (fun c6 => ?_) (fun c6 => ?_)
    · have hf := z_if c6 hf
      refine lv_aload_n hx hb dX11_itemHere_47 rfl (lv_at hl 2 rfl) ?_
      refine lv_iload_n hx hb dX11_itemHere_48 rfl (lv_at hl 0 rfl) ?_
      obtain ⟨r7, M8, e9, hf⟩ := z_bpe hf
      refine z_cV (As := [.int r4]) (rest := []) B hW (f_X11_secretHere l e9 h0) sc_X11_secretHere sv_X11_237 h0 ⟨Nat.le_of_ble_eq_true rfl, Nat.le_of_ble_eq_true rfl⟩ ⟨Nat.zero_le _, Nat.zero_le _⟩ rfl hl.1 rfl (Nat.le_of_ble_eq_true rfl) dX11_itemHere_49 (fun H locs hW => ?_)
      refine lv_goto (tgt := 59) hx hb dX11_itemHere_52 (by decide) ?_
      obtain ⟨g10, hf⟩ := z_gp hf
      obtain ⟨e1, e2⟩ := z_s2 hf
      subst e1
      subst e2
      exact z_rz B hW g10 dX11_itemHere_59
    · have hf := z_it c6 hf
      refine lv_aload_n hx hb dX11_itemHere_32 rfl (lv_at hl 2 rfl) ?_
      refine lv_bipush (v := 116) hx hb dX11_itemHere_33 (by decide) ?_
      refine lv_bipush (v := 114) hx hb dX11_itemHere_35 (by decide) ?_
      refine lv_bipush (v := 117) hx hb dX11_itemHere_37 (by decide) ?_
      refine lv_bipush (v := 101) hx hb dX11_itemHere_39 (by decide) ?_
      obtain ⟨r11, e12, hf⟩ := z_bd hf
      refine z_cV (As := [.int (116 : Int32), .int (114 : Int32), .int (117 : Int32), .int (101 : Int32)]) (rest := []) B hW (f_X11_isFour l e12 h0) sc_X11_isFour sv_X11_216 h0 ⟨Nat.le_of_ble_eq_true rfl, Nat.le_of_ble_eq_true rfl⟩ ⟨Nat.zero_le _, Nat.zero_le _⟩ rfl hl.1 rfl (Nat.le_of_ble_eq_true rfl) dX11_itemHere_41 (fun H locs hW => ?_)
      refine lv_if_eq (tgt := 55) hx hb dX11_itemHere_44 (by decide) (fun c13 => ?_) (fun c13 => ?_)
      · have hf := z_it c13 hf
        refine lv_aload_n hx hb dX11_itemHere_55 rfl (lv_at hl 2 rfl) ?_
        obtain ⟨r14, M15, e16, hf⟩ := z_lpe hf
        refine z_cV (As := []) (rest := []) B hW (f_X11_fails l e16 h0) sc_X11_fails sv_X11_219 h0 ⟨Nat.le_of_ble_eq_true rfl, Nat.le_of_ble_eq_true rfl⟩ ⟨Nat.zero_le _, Nat.zero_le _⟩ rfl hl.1 rfl (Nat.le_of_ble_eq_true rfl) dX11_itemHere_56 (fun H locs hW => ?_)
        obtain ⟨g17, hf⟩ := z_gp hf
        obtain ⟨e1, e2⟩ := z_s2 hf
        subst e1
        subst e2
        exact z_rz B hW g17 dX11_itemHere_59
      · have hf := z_if c13 hf
        refine lv_aload_n hx hb dX11_itemHere_47 rfl (lv_at hl 2 rfl) ?_
        refine lv_iload_n hx hb dX11_itemHere_48 rfl (lv_at hl 0 rfl) ?_
        obtain ⟨r18, M19, e20, hf⟩ := z_bpe hf
        refine z_cV (As := [.int r4]) (rest := []) B hW (f_X11_secretHere l e20 h0) sc_X11_secretHere sv_X11_237 h0 ⟨Nat.le_of_ble_eq_true rfl, Nat.le_of_ble_eq_true rfl⟩ ⟨Nat.zero_le _, Nat.zero_le _⟩ rfl hl.1 rfl (Nat.le_of_ble_eq_true rfl) dX11_itemHere_49 (fun H locs hW => ?_)
        refine lv_goto (tgt := 59) hx hb dX11_itemHere_52 (by decide) ?_
        obtain ⟨g21, hf⟩ := z_gp hf
        obtain ⟨e1, e2⟩ := z_s2 hf
        subst e1
        subst e2
        exact z_rz B hW g21 dX11_itemHere_59
  · have hf := z_if c3 hf
    refine lv_aload_n hx hb dX11_itemHere_9 rfl (lv_at hl 1 rfl) ?_
    refine lv_iload_n hx hb dX11_itemHere_10 rfl (lv_at hl 0 rfl) ?_
    obtain ⟨r22, M23, e24, hf⟩ := z_bpe hf
    refine z_cV (As := [.int r1]) (rest := []) B hW (f_X11_personHere l e24 h0) sc_X11_personHere sv_X11_234 h0 ⟨Nat.le_of_ble_eq_true rfl, Nat.le_of_ble_eq_true rfl⟩ ⟨Nat.zero_le _, Nat.zero_le _⟩ rfl hl.1 rfl (Nat.le_of_ble_eq_true rfl) dX11_itemHere_11 (fun H locs hW => ?_)
    obtain ⟨g25, hf⟩ := z_gp hf
    obtain ⟨e1, e2⟩ := z_s2 hf
    subst e1
    subst e2
    exact z_rz B hW g25 dX11_itemHere_14
set_option maxHeartbeats 4000000 in
set_option maxRecDepth 100000 in
theorem w_X11_park_P98 (B : z_Bd Γ p s m args meth c cX11_park 3 (some .int) RX11) : ∀ (M : Zm) (l0 : Nat) (l1 : Int32) (l2 : Int32) (r : Int32) (M' : Zm), X11_park_P98 Γ M l0 l1 l2 = some (r, M') → z_Is Γ 11 l0 → ∀ (H : Heap) (locs : List Loc) (ls : Array Slot), z_Wd Γ M s.heap H locs → lv_has ls 3 [(0, .ref l0), (1, .int l1), (2, .int l2)] → W p l e (z_rm 5 114) s m args below meth c H locs 0 0 (z_Q Γ below args s (some (.int r)) M') (F0 m 98 ls []) := by
  have hx := B.1
  have hb := B.2.1
  have hml := B.2.2.1
  have ho := B.2.2.2.1
  have hw := B.2.2.2.2.1
  have hE := B.2.2.2.2.2.1.2.2
  have hg := B.2.2.2.2.2.2.1
  intro M l0 l1 l2 r M' hf h0 H locs ls hW hl
  rw [X11_park_P98] at hf
  refine lv_iload_n hx hb dX11_park_98 rfl (lv_at hl 2 rfl) ?_
  refine lv_if_eq (tgt := 106) hx hb dX11_park_99 (by decide) (fun c32 => ?_) (fun c32 => ?_)
  · have hf := z_it c32 hf
    refine lv_iconst (v := -1) hx hb dX11_park_106 (by decide) ?_
    refine lv_aload_n hx hb dX11_park_107 rfl (lv_at hl 0 rfl) ?_
    refine z_get_11_15 B hW h0 q870 dX11_park_108 ?_
    refine lv_isub hx hb dX11_park_111 ?_
    obtain ⟨e1, e2⟩ := z_s2 hf
    subst e1
    subst e2
    exact z_ri B hW dX11_park_112
  · have hf := z_if c32 hf
    refine lv_iload_n hx hb dX11_park_102 rfl (lv_at hl 1 rfl) ?_
    refine lv_goto (tgt := 112) hx hb dX11_park_103 (by decide) ?_
    obtain ⟨e1, e2⟩ := z_s2 hf
    subst e1
    subst e2
    exact z_ri B hW dX11_park_112
set_option maxHeartbeats 4000000 in
set_option maxRecDepth 100000 in
theorem w_X11_park_P77 (B : z_Bd Γ p s m args meth c cX11_park 3 (some .int) RX11) : ∀ (M : Zm) (l0 : Nat) (l1 : Int32) (s0 : Int32) (r : Int32) (M' : Zm), X11_park_P77 Γ M l0 l1 s0 = some (r, M') → z_Is Γ 11 l0 → ∀ (H : Heap) (locs : List Loc) (ls : Array Slot), z_Wd Γ M s.heap H locs → lv_has ls 3 [(0, .ref l0), (1, .int l1)] → W p l e (z_rm 5 114) s m args below meth c H locs 0 0 (z_Q Γ below args s (some (.int r)) M') (F0 m 77 ls [.int s0]) := by
  have hx := B.1
  have hb := B.2.1
  have hml := B.2.2.1
  have ho := B.2.2.2.1
  have hw := B.2.2.2.2.1
  have hE := B.2.2.2.2.2.1.2.2
  have hg := B.2.2.2.2.2.2.1
  intro M l0 l1 s0 r M' hf h0 H locs ls hW hl
  rw [X11_park_P77] at hf
  refine lv_istore_n (lv' := [(2, .int s0), (0, .ref l0), (1, .int l1)]) hx hb dX11_park_77 rfl hl (by decide) rfl (fun ls hl => ?_)
  refine lv_aload_n hx hb dX11_park_78 rfl (lv_at hl 1 rfl) ?_
  refine lv_iconst (v := 0) hx hb dX11_park_79 (by decide) ?_
  refine z_put_11_7 B hW h0 q862 dX11_park_80 (fun H locs hW => ?_)
  obtain ⟨M26, e27, hf⟩ := z_le hf
  have hW := z_wde e27 hW
  refine lv_iload_n hx hb dX11_park_83 rfl (lv_at hl 0 rfl) ?_
  refine lv_if_ne (tgt := 98) hx hb dX11_park_84 (by decide) (fun c28 => ?_) (fun c28 => ?_)
  · have hf := z_if c28 hf
    exact w_X11_park_P98 B M26 l0 l1 s0 _ _ hf h0 _ _ _ hW (lv_sub hl [1, 2, 0] rfl)
  · have hf := z_it c28 hf
    refine lv_aload_n hx hb dX11_park_87 rfl (lv_at hl 1 rfl) ?_
    refine z_get_11_2 B hW h0 q857 dX11_park_88 ?_
    refine lv_aload_n hx hb dX11_park_91 rfl (lv_at hl 1 rfl) ?_
    refine z_get_11_0 B hW h0 q855 dX11_park_92 ?_
    obtain ⟨M30, e31, hf⟩ := z_bd hf
    refine z_cS (As := [.ref (z_r Γ l0 2), .ref (z_r Γ l0 0)]) (rest := []) B hW (f_X11_copyRow l e31 (z_g11_2 hg h0) (z_g11_0 hg h0)) sc_X11_copyRow ⟨q1066, q1067⟩ ⟨Nat.le_of_ble_eq_true rfl, Nat.le_of_ble_eq_true rfl⟩ ⟨Nat.zero_le _, Nat.zero_le _⟩ rfl hl.1 rfl (Nat.le_of_ble_eq_true rfl) dX11_park_95 (fun H locs hW => ?_)
    exact w_X11_park_P98 B M30 l0 l1 s0 _ _ hf h0 _ _ _ hW (lv_sub hl [1, 2, 0] rfl)
set_option maxHeartbeats 4000000 in
set_option maxRecDepth 100000 in
theorem w_X11_park_P54 (B : z_Bd Γ p s m args meth c cX11_park 3 (some .int) RX11) : ∀ (M : Zm) (l0 : Nat) (l1 : Int32) (l2 : Int32) (r : Int32) (M' : Zm), X11_park_P54 Γ M l0 l1 l2 = some (r, M') → z_Is Γ 11 l0 → ∀ (H : Heap) (locs : List Loc) (ls : Array Slot), z_Wd Γ M s.heap H locs → lv_has ls 3 [(0, .ref l0), (1, .int l1), (2, .int l2)] → W p l e (z_rm 5 114) s m args below meth c H locs 0 0 (z_Q Γ below args s (some (.int r)) M') (F0 m 54 ls []) := by
  have hx := B.1
  have hb := B.2.1
  have hml := B.2.2.1
  have ho := B.2.2.2.1
  have hw := B.2.2.2.2.1
  have hE := B.2.2.2.2.2.1.2.2
  have hg := B.2.2.2.2.2.2.1
  intro M l0 l1 l2 r M' hf h0 H locs ls hW hl
  rw [X11_park_P54] at hf
  refine lv_iload_n hx hb dX11_park_54 rfl (lv_at hl 2 rfl) ?_
  refine lv_if_eq (tgt := 76) hx hb dX11_park_55 (by decide) (fun c20 => ?_) (fun c20 => ?_)
  · have hf := z_it c20 hf
    refine lv_iconst (v := 0) hx hb dX11_park_76 (by decide) ?_
    exact w_X11_park_P77 B M l0 l1 (0 : Int32) _ _ hf h0 _ _ _ hW (lv_sub hl [0, 1] rfl)
  · have hf := z_if c20 hf
    refine lv_aload_n hx hb dX11_park_58 rfl (lv_at hl 0 rfl) ?_
    refine z_get_11_11 B hW h0 q866 dX11_park_59 ?_
    refine lv_if_eq (tgt := 72) hx hb dX11_park_62 (by decide) (fun c21 => ?_) (fun c21 => ?_)
    · have hf := z_it c21 hf
      refine lv_iconst (v := 1) hx hb dX11_park_72 (by decide) ?_
      refine lv_goto (tgt := 77) hx hb dX11_park_73 (by decide) ?_
      exact w_X11_park_P77 B M l0 l1 (1 : Int32) _ _ hf h0 _ _ _ hW (lv_sub hl [0, 1] rfl)
    · have hf := z_if c21 hf
      refine lv_aload_n hx hb dX11_park_65 rfl (lv_at hl 0 rfl) ?_
      obtain ⟨r22, M23, e24, hf⟩ := z_lpe hf
      refine z_cV (As := []) (rest := []) B hW (f_X11_fails l e24 h0) sc_X11_fails sv_X11_219 h0 ⟨Nat.le_of_ble_eq_true rfl, Nat.le_of_ble_eq_true rfl⟩ ⟨Nat.zero_le _, Nat.zero_le _⟩ rfl hl.1 rfl (Nat.le_of_ble_eq_true rfl) dX11_park_66 (fun H locs hW => ?_)
      refine lv_if_eq (tgt := 76) hx hb dX11_park_69 (by decide) (fun c25 => ?_) (fun c25 => ?_)
      · have hf := z_it c25 hf
        refine lv_iconst (v := 0) hx hb dX11_park_76 (by decide) ?_
        exact w_X11_park_P77 B M23 l0 l1 (0 : Int32) _ _ hf h0 _ _ _ hW (lv_sub hl [0, 1] rfl)
      · have hf := z_if c25 hf
        refine lv_iconst (v := 1) hx hb dX11_park_72 (by decide) ?_
        refine lv_goto (tgt := 77) hx hb dX11_park_73 (by decide) ?_
        exact w_X11_park_P77 B M23 l0 l1 (1 : Int32) _ _ hf h0 _ _ _ hW (lv_sub hl [0, 1] rfl)
set_option maxHeartbeats 4000000 in
set_option maxRecDepth 100000 in
theorem w_X11_park_P27 (B : z_Bd Γ p s m args meth c cX11_park 3 (some .int) RX11) : ∀ (n : Nat) (M : Zm) (l0 : Nat) (l1 : Int32) (l2 : Int32) (r : Int32) (M' : Zm), X11_park_P27 Γ n M l0 l1 l2 = some (r, M') → z_Is Γ 11 l0 → ∀ (H : Heap) (locs : List Loc) (ls : Array Slot), z_Wd Γ M s.heap H locs → lv_has ls 3 [(0, .ref l0), (1, .int l1), (2, .int l2)] → W p l e (z_rm 5 114) s m args below meth c H locs 0 0 (z_Q Γ below args s (some (.int r)) M') (F0 m 27 ls []) := by
  have hx := B.1
  have hb := B.2.1
  have hml := B.2.2.1
  have ho := B.2.2.2.1
  have hw := B.2.2.2.2.1
  have hE := B.2.2.2.2.2.1.2.2
  have hg := B.2.2.2.2.2.2.1
  intro n
  induction n with
  | zero =>
    intro M l0 l1 l2 r M' hf h0 H locs ls hW hl
    cases hf
  | succ n ih =>
    intro M l0 l1 l2 r M' hf h0 H locs ls hW hl
    rw [X11_park_P27] at hf
    refine lv_iload_n hx hb dX11_park_27 rfl (lv_at hl 2 rfl) ?_
    refine lv_if_eq (tgt := 54) hx hb dX11_park_28 (by decide) (fun c12 => ?_) (fun c12 => ?_)
    · have hf := z_it c12 hf
      exact w_X11_park_P54 B M l0 l1 l2 _ _ hf h0 _ _ _ hW (lv_sub hl [0, 1, 2] rfl)
    · have hf := z_if c12 hf
      refine lv_aload_n hx hb dX11_park_31 rfl (lv_at hl 0 rfl) ?_
      refine z_get_11_11 B hW h0 q866 dX11_park_32 ?_
      refine lv_iconst (v := 3) hx hb dX11_park_35 (by decide) ?_
      refine lv_icmp_ne (tgt := 54) hx hb dX11_park_36 (by decide) (fun c13 => ?_) (fun c13 => ?_)
      · have hf := z_if c13 hf
        exact w_X11_park_P54 B M l0 l1 l2 _ _ hf h0 _ _ _ hW (lv_sub hl [0, 1, 2] rfl)
      · have hf := z_it c13 hf
        refine lv_aload_n hx hb dX11_park_39 rfl (lv_at hl 0 rfl) ?_
        obtain ⟨M15, e16, hf⟩ := z_bd hf
        refine z_cV (As := []) (rest := []) B hW (f_X11_nextToken l e16 h0) sc_X11_nextToken sv_X11_222 h0 ⟨Nat.le_of_ble_eq_true rfl, Nat.le_of_ble_eq_true rfl⟩ ⟨Nat.zero_le _, Nat.zero_le _⟩ rfl hl.1 rfl (Nat.le_of_ble_eq_true rfl) dX11_park_40 (fun H locs hW => ?_)
        refine lv_aload_n hx hb dX11_park_43 rfl (lv_at hl 0 rfl) ?_
        obtain ⟨r17, M18, e19, hf⟩ := z_bpe hf
        refine z_cV (As := []) (rest := []) B hW (f_X11_itemHere l e19 h0) sc_X11_itemHere sv_X11_241 h0 ⟨Nat.le_of_ble_eq_true rfl, Nat.le_of_ble_eq_true rfl⟩ ⟨Nat.zero_le _, Nat.zero_le _⟩ rfl hl.1 rfl (Nat.le_of_ble_eq_true rfl) dX11_park_44 (fun H locs hW => ?_)
        refine lv_istore_n (lv' := [(2, .int r17), (0, .ref l0), (1, .int l1)]) hx hb dX11_park_47 rfl hl (by decide) rfl (fun ls hl => ?_)
        refine lv_iinc (v := l1 + (1 : Int32)) (lv' := [(1, .int (l1 + (1 : Int32))), (2, .int r17), (0, .ref l0)]) hx hb dX11_park_48 hl (k := 2) rfl rfl (by decide) rfl (fun ls hl => ?_)
        refine lv_goto (tgt := 27) hx hb dX11_park_51 (by decide) ?_
        exact ih M18 l0 (l1 + (1 : Int32)) r17 _ _ hf h0 _ _ _ hW (lv_sub hl [2, 0, 1] rfl)
set_option maxHeartbeats 4000000 in
set_option maxRecDepth 100000 in
theorem f_X11_park (l : Launch) {Γ : Zg} {M : Zm} {l0 : Nat} {r : Int32} {M' : Zm} (hf : X11_park Γ M l0 = some (r, M')) (h0 : z_Is Γ 11 l0) : z_Fn l Γ yX11_park cX11_park 3 (some .int) 5 114 [.ref l0] M (some (.int r)) M' := by
  refine z_Fn.of (by decide) (Nat.le_of_ble_eq_true rfl) ?_
  intro p e s m below meth c ls B hW hl
  have B : z_Bd Γ p s m _ meth c cX11_park 3 (some .int) RX11 := B
  have hl : lv_has ls 3 [(0, .ref l0)] := hl
  rw [X11_park] at hf
  have hx := B.1
  have hb := B.2.1
  have hml := B.2.2.1
  have ho := B.2.2.2.1
  have hw := B.2.2.2.2.1
  have hE := B.2.2.2.2.2.1.2.2
  have hg := B.2.2.2.2.2.2.1
  refine lv_aload_n hx hb dX11_park_0 rfl (lv_at hl 0 rfl) ?_
  refine z_get_11_0 B hW h0 q855 dX11_park_1 ?_
  refine lv_aload_n hx hb dX11_park_4 rfl (lv_at hl 0 rfl) ?_
  refine z_get_11_2 B hW h0 q857 dX11_park_5 ?_
  obtain ⟨M2, e3, hf⟩ := z_bd hf
  refine z_cS (As := [.ref (z_r Γ l0 0), .ref (z_r Γ l0 2)]) (rest := []) B hW (f_X11_copyRow l e3 (z_g11_0 hg h0) (z_g11_2 hg h0)) sc_X11_copyRow ⟨q1066, q1067⟩ ⟨Nat.le_of_ble_eq_true rfl, Nat.le_of_ble_eq_true rfl⟩ ⟨Nat.zero_le _, Nat.zero_le _⟩ rfl hl.1 rfl (Nat.le_of_ble_eq_true rfl) dX11_park_8 (fun H locs hW => ?_)
  refine lv_aload_n hx hb dX11_park_11 rfl (lv_at hl 0 rfl) ?_
  refine lv_iconst (v := 0) hx hb dX11_park_12 (by decide) ?_
  refine z_put_11_13 B hW h0 q868 dX11_park_13 (fun H locs hW => ?_)
  obtain ⟨M4, e5, hf⟩ := z_le hf
  have hW := z_wde e5 hW
  refine lv_aload_n hx hb dX11_park_16 rfl (lv_at hl 0 rfl) ?_
  obtain ⟨M7, e8, hf⟩ := z_bd hf
  refine z_cV (As := []) (rest := []) B hW (f_X11_nextToken l e8 h0) sc_X11_nextToken sv_X11_222 h0 ⟨Nat.le_of_ble_eq_true rfl, Nat.le_of_ble_eq_true rfl⟩ ⟨Nat.zero_le _, Nat.zero_le _⟩ rfl hl.1 rfl (Nat.le_of_ble_eq_true rfl) dX11_park_17 (fun H locs hW => ?_)
  refine lv_iconst (v := 1) hx hb dX11_park_20 (by decide) ?_
  refine lv_istore_n (lv' := [(1, .int (1 : Int32)), (0, .ref l0)]) hx hb dX11_park_21 rfl hl (by decide) rfl (fun ls hl => ?_)
  refine lv_aload_n hx hb dX11_park_22 rfl (lv_at hl 1 rfl) ?_
  obtain ⟨r9, M10, e11, hf⟩ := z_bpe hf
  refine z_cV (As := []) (rest := []) B hW (f_X11_itemHere l e11 h0) sc_X11_itemHere sv_X11_241 h0 ⟨Nat.le_of_ble_eq_true rfl, Nat.le_of_ble_eq_true rfl⟩ ⟨Nat.zero_le _, Nat.zero_le _⟩ rfl hl.1 rfl (Nat.le_of_ble_eq_true rfl) dX11_park_23 (fun H locs hW => ?_)
  refine lv_istore_n (lv' := [(2, .int r9), (1, .int (1 : Int32)), (0, .ref l0)]) hx hb dX11_park_26 rfl hl (by decide) rfl (fun ls hl => ?_)
  exact w_X11_park_P27 B 1000 M10 l0 (1 : Int32) r9 _ _ hf h0 _ _ _ hW (lv_sub hl [2, 1, 0] rfl)
set_option maxHeartbeats 4000000 in
set_option maxRecDepth 100000 in
theorem f_X11_isSheet (l : Launch) {Γ : Zg} {M : Zm} {l0 : Int32}  : z_Fn l Γ yX11_isSheet cX11_isSheet 1 (some .boolean) 0 0 [.int l0] M (some (.int (X11_isSheet l0))) M := by
  generalize hf : X11_isSheet l0 = r
  refine z_Fn.of (by decide) (Nat.le_of_ble_eq_true rfl) ?_
  intro p e s m below meth c ls B hW hl
  have B : z_Bd Γ p s m _ meth c cX11_isSheet 1 (some .boolean) RX11 := B
  have hl : lv_has ls 1 [(0, .int l0)] := hl
  rw [X11_isSheet] at hf
  have hx := B.1
  have hb := B.2.1
  have hml := B.2.2.1
  have ho := B.2.2.2.1
  have hw := B.2.2.2.2.1
  have hE := B.2.2.2.2.2.1.2.2
  have hg := B.2.2.2.2.2.2.1
  refine lv_iload_n hx hb dX11_isSheet_0 rfl (lv_at hl 0 rfl) ?_
  refine lv_if_lt (tgt := 13) hx hb dX11_isSheet_1 (by decide) (fun c1 => ?_) (fun c1 => ?_)
  · have hf := z_it c1 hf
    refine lv_iconst (v := 0) hx hb dX11_isSheet_13 (by decide) ?_
    subst hf
    exact z_rz B hW (Or.inl rfl) dX11_isSheet_14
  · have hf := z_if c1 hf
    refine lv_iload_n hx hb dX11_isSheet_4 rfl (lv_at hl 0 rfl) ?_
    refine lv_iconst (v := 4) hx hb dX11_isSheet_5 (by decide) ?_
    refine lv_icmp_ge (tgt := 13) hx hb dX11_isSheet_6 (by decide) (fun c2 => ?_) (fun c2 => ?_)
    · have hf := z_it c2 hf
      refine lv_iconst (v := 0) hx hb dX11_isSheet_13 (by decide) ?_
      subst hf
      exact z_rz B hW (Or.inl rfl) dX11_isSheet_14
    · have hf := z_if c2 hf
      refine lv_iconst (v := 1) hx hb dX11_isSheet_9 (by decide) ?_
      refine lv_goto (tgt := 14) hx hb dX11_isSheet_10 (by decide) ?_
      subst hf
      exact z_rz B hW (Or.inr rfl) dX11_isSheet_14
set_option maxHeartbeats 4000000 in
set_option maxRecDepth 100000 in
theorem f_X11_narrow (l : Launch) {Γ : Zg} {M : Zm} {l0 : Int32} {l1 : Int64}  : z_Fn l Γ yX11_narrow cX11_narrow 3 (some .long) 0 0 [.int l0, .long l1] M (some (.long (X11_narrow l0 l1))) M := by
  generalize hf : X11_narrow l0 l1 = r
  refine z_Fn.of (by decide) (Nat.le_of_ble_eq_true rfl) ?_
  intro p e s m below meth c ls B hW hl
  have B : z_Bd Γ p s m _ meth c cX11_narrow 3 (some .long) RX11 := B
  have hl : lv_has ls 3 [(0, .int l0), (1, .long l1)] := hl
  rw [X11_narrow] at hf
  have hx := B.1
  have hb := B.2.1
  have hml := B.2.2.1
  have ho := B.2.2.2.1
  have hw := B.2.2.2.2.1
  have hE := B.2.2.2.2.2.1.2.2
  have hg := B.2.2.2.2.2.2.1
  refine lv_iload_n hx hb dX11_narrow_0 rfl (lv_at hl 0 rfl) ?_
  refine lv_bipush (v := 8) hx hb dX11_narrow_1 (by decide) ?_
  refine lv_icmp_ne (tgt := 13) hx hb dX11_narrow_3 (by decide) (fun c1 => ?_) (fun c1 => ?_)
  · have hf := z_if c1 hf
    refine lv_iload_n hx hb dX11_narrow_13 rfl (lv_at hl 0 rfl) ?_
    refine lv_bipush (v := 16) hx hb dX11_narrow_14 (by decide) ?_
    refine lv_icmp_ne (tgt := 26) hx hb dX11_narrow_16 (by decide) (fun c2 => ?_) (fun c2 => ?_)
    · have hf := z_if c2 hf
      refine lv_lload_n hx hb dX11_narrow_26 rfl (lv_at hl 1 rfl) ?_
      subst hf
      exact z_rl B hW dX11_narrow_27
    · have hf := z_it c2 hf
      refine lv_lload_n hx hb dX11_narrow_19 rfl (lv_at hl 1 rfl) ?_
      refine lv_l2i hx hb dX11_narrow_20 rfl ?_
      refine lv_i2s hx hb dX11_narrow_21 rfl ?_
      refine lv_i2l hx hb dX11_narrow_22 rfl ?_
      refine lv_goto (tgt := 27) hx hb dX11_narrow_23 (by decide) ?_
      subst hf
      exact z_rl B hW dX11_narrow_27
  · have hf := z_it c1 hf
    refine lv_lload_n hx hb dX11_narrow_6 rfl (lv_at hl 1 rfl) ?_
    refine lv_l2i hx hb dX11_narrow_7 rfl ?_
    refine lv_i2b hx hb dX11_narrow_8 rfl ?_
    refine lv_i2l hx hb dX11_narrow_9 rfl ?_
    refine lv_goto (tgt := 27) hx hb dX11_narrow_10 (by decide) ?_
    subst hf
    exact z_rl B hW dX11_narrow_27
set_option maxHeartbeats 4000000 in
set_option maxRecDepth 100000 in
theorem w_X11_sheet_P93 (B : z_Bd Γ p s m args meth c cX11_sheet 5 (some .int) RX11) : ∀ (n : Nat) (M : Zm) (l0 : Nat) (l1 : Int32) (l4 : Int32) (r : Int32) (M' : Zm), X11_sheet_P93 Γ n M l0 l1 l4 = some (r, M') → z_Is Γ 11 l0 → ∀ (H : Heap) (locs : List Loc) (ls : Array Slot), z_Wd Γ M s.heap H locs → lv_has ls 5 [(0, .ref l0), (1, .int l1), (4, .int l4)] → W p l e (z_rm 1 21) s m args below meth c H locs 0 0 (z_Q Γ below args s (some (.int r)) M') (F0 m 93 ls []) := by
  have hx := B.1
  have hb := B.2.1
  have hml := B.2.2.1
  have ho := B.2.2.2.1
  have hw := B.2.2.2.2.1
  have hE := B.2.2.2.2.2.1.2.2
  have hg := B.2.2.2.2.2.2.1
  intro n
  induction n with
  | zero =>
    intro M l0 l1 l4 r M' hf h0 H locs ls hW hl
    cases hf
  | succ n ih =>
    intro M l0 l1 l4 r M' hf h0 H locs ls hW hl
    rw [X11_sheet_P93] at hf
    refine lv_iload hx hb dX11_sheet_93 (lv_at hl 2 rfl) ?_
    refine lv_bipush (v := 40) hx hb dX11_sheet_95 (by decide) ?_
    refine lv_icmp_ge (tgt := 119) hx hb dX11_sheet_97 (by decide) (fun c33 => ?_) (fun c33 => ?_)
    · have hf := z_it c33 hf
      refine lv_aload_n hx hb dX11_sheet_119 rfl (lv_at hl 0 rfl) ?_
      refine z_get_11_9 B hW h0 q864 dX11_sheet_120 ?_
      refine lv_iload_n hx hb dX11_sheet_123 rfl (lv_at hl 1 rfl) ?_
      obtain ⟨g34, hf⟩ := z_gd hf
      refine z_ia B hW (z_g11_9 hg h0) g34 dX11_sheet_124 ?_
      obtain ⟨e1, e2⟩ := z_s2 hf
      subst e1
      subst e2
      exact z_ri B hW dX11_sheet_125
    · have hf := z_if c33 hf
      refine lv_aload_n hx hb dX11_sheet_100 rfl (lv_at hl 0 rfl) ?_
      refine z_get_11_10 B hW h0 q865 dX11_sheet_101 ?_
      refine lv_bipush (v := 40) hx hb dX11_sheet_104 (by decide) ?_
      refine lv_iload_n hx hb dX11_sheet_106 rfl (lv_at hl 1 rfl) ?_
      refine lv_imul hx hb dX11_sheet_107 ?_
      refine lv_iload hx hb dX11_sheet_108 (lv_at hl 2 rfl) ?_
      refine lv_iadd hx hb dX11_sheet_110 ?_
      refine lv_lconst (v := 0) hx hb dX11_sheet_111 (by decide) ?_
      obtain ⟨g35, hf⟩ := z_gd hf
      refine z_ls B hW (z_g11_10 hg h0) g35 dX11_sheet_112 (fun H locs hW => ?_)
      obtain ⟨M36, e37, hf⟩ := z_le hf
      have hW := z_wde e37 hW
      refine lv_iinc (v := l4 + (1 : Int32)) (lv' := [(4, .int (l4 + (1 : Int32))), (0, .ref l0), (1, .int l1)]) hx hb dX11_sheet_113 hl (k := 2) rfl rfl (by decide) rfl (fun ls hl => ?_)
      refine lv_goto (tgt := 93) hx hb dX11_sheet_116 (by decide) ?_
      exact ih M36 l0 l1 (l4 + (1 : Int32)) _ _ hf h0 _ _ _ hW (lv_sub hl [1, 2, 0] rfl)
set_option maxHeartbeats 4000000 in
set_option maxRecDepth 100000 in
theorem w_X11_sheet_P74 (B : z_Bd Γ p s m args meth c cX11_sheet 5 (some .int) RX11) : ∀ (M : Zm) (l0 : Nat) (l1 : Int32) (l2 : Int32) (l3 : Int32) (s0 : Nat) (s1 : Int32) (s2 : Int32) (r : Int32) (M' : Zm), X11_sheet_P74 Γ M l0 l1 l2 l3 s0 s1 s2 = some (r, M') → z_Is Γ 11 l0 → z_Ia Γ 12 4 s0 → ∀ (H : Heap) (locs : List Loc) (ls : Array Slot), z_Wd Γ M s.heap H locs → lv_has ls 5 [(0, .ref l0), (1, .int l1), (2, .int l2), (3, .int l3)] → W p l e (z_rm 1 21) s m args below meth c H locs 0 0 (z_Q Γ below args s (some (.int r)) M') (F0 m 74 ls [.int s2, .int s1, .ref s0]) := by
  have hx := B.1
  have hb := B.2.1
  have hml := B.2.2.1
  have ho := B.2.2.2.1
  have hw := B.2.2.2.2.1
  have hE := B.2.2.2.2.2.1.2.2
  have hg := B.2.2.2.2.2.2.1
  intro M l0 l1 l2 l3 s0 s1 s2 r M' hf h0 hs0 H locs ls hW hl
  rw [X11_sheet_P74] at hf
  obtain ⟨g23, hf⟩ := z_gd hf
  refine z_is B hW hs0 g23 dX11_sheet_74 (fun H locs hW => ?_)
  obtain ⟨M24, e25, hf⟩ := z_le hf
  have hW := z_wde e25 hW
  refine lv_aload_n hx hb dX11_sheet_75 rfl (lv_at hl 0 rfl) ?_
  refine z_get_11_9 B hW h0 q864 dX11_sheet_76 ?_
  refine lv_iload_n hx hb dX11_sheet_79 rfl (lv_at hl 1 rfl) ?_
  refine lv_iload_n hx hb dX11_sheet_80 rfl (lv_at hl 2 rfl) ?_
  refine lv_if_ne (tgt := 88) hx hb dX11_sheet_81 (by decide) (fun c26 => ?_) (fun c26 => ?_)
  · have hf := z_if c26 hf
    refine lv_iload_n hx hb dX11_sheet_88 rfl (lv_at hl 3 rfl) ?_
    obtain ⟨g27, hf⟩ := z_gd hf
    refine z_is B hW (z_g11_9 hg h0) g27 dX11_sheet_89 (fun H locs hW => ?_)
    obtain ⟨M28, e29, hf⟩ := z_le hf
    have hW := z_wde e29 hW
    refine lv_iconst (v := 0) hx hb dX11_sheet_90 (by decide) ?_
    refine lv_istore (lv' := [(4, .int (0 : Int32)), (0, .ref l0), (1, .int l1), (2, .int l2), (3, .int l3)]) hx hb dX11_sheet_91 hl (by decide) rfl (fun ls hl => ?_)
    exact w_X11_sheet_P93 B 1000 M28 l0 l1 (0 : Int32) _ _ hf h0 _ _ _ hW (lv_sub hl [1, 2, 0] rfl)
  · have hf := z_it c26 hf
    refine lv_iconst (v := 0) hx hb dX11_sheet_84 (by decide) ?_
    refine lv_goto (tgt := 89) hx hb dX11_sheet_85 (by decide) ?_
    obtain ⟨g30, hf⟩ := z_gd hf
    refine z_is B hW (z_g11_9 hg h0) g30 dX11_sheet_89 (fun H locs hW => ?_)
    obtain ⟨M31, e32, hf⟩ := z_le hf
    have hW := z_wde e32 hW
    refine lv_iconst (v := 0) hx hb dX11_sheet_90 (by decide) ?_
    refine lv_istore (lv' := [(4, .int (0 : Int32)), (0, .ref l0), (1, .int l1), (2, .int l2), (3, .int l3)]) hx hb dX11_sheet_91 hl (by decide) rfl (fun ls hl => ?_)
    exact w_X11_sheet_P93 B 1000 M31 l0 l1 (0 : Int32) _ _ hf h0 _ _ _ hW (lv_sub hl [1, 2, 0] rfl)
set_option maxHeartbeats 4000000 in
set_option maxRecDepth 100000 in
theorem w_X11_sheet_P36 (B : z_Bd Γ p s m args meth c cX11_sheet 5 (some .int) RX11) : ∀ (M : Zm) (l0 : Nat) (l1 : Int32) (l2 : Int32) (l3 : Int32) (r : Int32) (M' : Zm), X11_sheet_P36 Γ M l0 l1 l2 l3 = some (r, M') → z_Is Γ 11 l0 → ∀ (H : Heap) (locs : List Loc) (ls : Array Slot), z_Wd Γ M s.heap H locs → lv_has ls 5 [(0, .ref l0), (1, .int l1), (2, .int l2), (3, .int l3)] → W p l e (z_rm 1 21) s m args below meth c H locs 0 0 (z_Q Γ below args s (some (.int r)) M') (F0 m 36 ls []) := by
  have hx := B.1
  have hb := B.2.1
  have hml := B.2.2.1
  have ho := B.2.2.2.1
  have hw := B.2.2.2.2.1
  have hE := B.2.2.2.2.2.1.2.2
  have hg := B.2.2.2.2.2.2.1
  intro M l0 l1 l2 l3 r M' hf h0 H locs ls hW hl
  rw [X11_sheet_P36] at hf
  refine lv_iload_n hx hb dX11_sheet_36 rfl (lv_at hl 3 rfl) ?_
  refine lv_if_ge (tgt := 47) hx hb dX11_sheet_37 (by decide) (fun c14 => ?_) (fun c14 => ?_)
  · have hf := z_it c14 hf
    refine lv_iload_n hx hb dX11_sheet_47 rfl (lv_at hl 3 rfl) ?_
    refine lv_bipush (v := 40) hx hb dX11_sheet_48 (by decide) ?_
    refine lv_icmp_le (tgt := 60) hx hb dX11_sheet_50 (by decide) (fun c15 => ?_) (fun c15 => ?_)
    · have hf := z_it c15 hf
      refine lv_aload_n hx hb dX11_sheet_60 rfl (lv_at hl 0 rfl) ?_
      refine z_get_11_8 B hW h0 q863 dX11_sheet_61 ?_
      refine lv_iload_n hx hb dX11_sheet_64 rfl (lv_at hl 1 rfl) ?_
      refine lv_iload_n hx hb dX11_sheet_65 rfl (lv_at hl 2 rfl) ?_
      refine lv_if_ne (tgt := 73) hx hb dX11_sheet_66 (by decide) (fun c16 => ?_) (fun c16 => ?_)
      · have hf := z_if c16 hf
        refine lv_iload_n hx hb dX11_sheet_73 rfl (lv_at hl 2 rfl) ?_
        exact w_X11_sheet_P74 B M l0 l1 l2 l3 (z_r Γ l0 8) l1 l2 _ _ hf h0 (z_g11_8 hg h0) _ _ _ hW (lv_sub hl [0, 1, 2, 3] rfl)
      · have hf := z_it c16 hf
        refine lv_iconst (v := -1) hx hb dX11_sheet_69 (by decide) ?_
        refine lv_goto (tgt := 74) hx hb dX11_sheet_70 (by decide) ?_
        exact w_X11_sheet_P74 B M l0 l1 l2 l3 (z_r Γ l0 8) l1 (-1 : Int32) _ _ hf h0 (z_g11_8 hg h0) _ _ _ hW (lv_sub hl [0, 1, 2, 3] rfl)
    · have hf := z_if c15 hf
      refine lv_aload_n hx hb dX11_sheet_53 rfl (lv_at hl 0 rfl) ?_
      refine lv_ldc hx hb ho (hw _ q916) dX11_sheet_54 ?_
      obtain ⟨r17, M18, e19, hf⟩ := z_bpe hf
      refine z_cV (As := [.int (-1000000001 : Int32)]) (rest := []) B hW (f_X11_finds l e19 h0) sc_X11_finds sv_X11_40 h0 ⟨Nat.le_of_ble_eq_true rfl, Nat.le_of_ble_eq_true rfl⟩ ⟨Nat.zero_le _, Nat.zero_le _⟩ rfl hl.1 rfl (Nat.le_of_ble_eq_true rfl) dX11_sheet_56 (fun H locs hW => ?_)
      obtain ⟨e1, e2⟩ := z_s2 hf
      subst e1
      subst e2
      exact z_ri B hW dX11_sheet_59
  · have hf := z_if c14 hf
    refine lv_aload_n hx hb dX11_sheet_40 rfl (lv_at hl 0 rfl) ?_
    refine lv_ldc hx hb ho (hw _ q1206) dX11_sheet_41 ?_
    obtain ⟨r20, M21, e22, hf⟩ := z_bpe hf
    refine z_cV (As := [.int (-1000000007 : Int32)]) (rest := []) B hW (f_X11_finds l e22 h0) sc_X11_finds sv_X11_40 h0 ⟨Nat.le_of_ble_eq_true rfl, Nat.le_of_ble_eq_true rfl⟩ ⟨Nat.zero_le _, Nat.zero_le _⟩ rfl hl.1 rfl (Nat.le_of_ble_eq_true rfl) dX11_sheet_43 (fun H locs hW => ?_)
    obtain ⟨e1, e2⟩ := z_s2 hf
    subst e1
    subst e2
    exact z_ri B hW dX11_sheet_46
set_option maxHeartbeats 4000000 in
set_option maxRecDepth 100000 in
theorem f_X11_sheet (l : Launch) {Γ : Zg} {M : Zm} {l0 : Nat} {l1 : Int32} {l2 : Int32} {l3 : Int32} {r : Int32} {M' : Zm} (hf : X11_sheet Γ M l0 l1 l2 l3 = some (r, M')) (h0 : z_Is Γ 11 l0) : z_Fn l Γ yX11_sheet cX11_sheet 5 (some .int) 1 21 [.ref l0, .int l1, .int l2, .int l3] M (some (.int r)) M' := by
  refine z_Fn.of (by decide) (Nat.le_of_ble_eq_true rfl) ?_
  intro p e s m below meth c ls B hW hl
  have B : z_Bd Γ p s m _ meth c cX11_sheet 5 (some .int) RX11 := B
  have hl : lv_has ls 5 [(0, .ref l0), (1, .int l1), (2, .int l2), (3, .int l3)] := hl
  rw [X11_sheet] at hf
  have hx := B.1
  have hb := B.2.1
  have hml := B.2.2.1
  have ho := B.2.2.2.1
  have hw := B.2.2.2.2.1
  have hE := B.2.2.2.2.2.1.2.2
  have hg := B.2.2.2.2.2.2.1
  refine lv_iload_n hx hb dX11_sheet_0 rfl (lv_at hl 1 rfl) ?_
  refine z_cS (As := [.int l1]) (rest := []) B hW (f_X11_isSheet l) sc_X11_isSheet ⟨q1203, q1204⟩ ⟨Nat.le_of_ble_eq_true rfl, Nat.le_of_ble_eq_true rfl⟩ ⟨Nat.zero_le _, Nat.zero_le _⟩ rfl hl.1 rfl (Nat.le_of_ble_eq_true rfl) dX11_sheet_1 (fun H locs hW => ?_)
  refine lv_if_eq (tgt := 29) hx hb dX11_sheet_4 (by decide) (fun c3 => ?_) (fun c3 => ?_)
  · have hf := z_it c3 hf
    refine lv_aload_n hx hb dX11_sheet_29 rfl (lv_at hl 0 rfl) ?_
    refine lv_ldc hx hb ho (hw _ q916) dX11_sheet_30 ?_
    obtain ⟨r4, M5, e6, hf⟩ := z_bpe hf
    refine z_cV (As := [.int (-1000000001 : Int32)]) (rest := []) B hW (f_X11_finds l e6 h0) sc_X11_finds sv_X11_40 h0 ⟨Nat.le_of_ble_eq_true rfl, Nat.le_of_ble_eq_true rfl⟩ ⟨Nat.zero_le _, Nat.zero_le _⟩ rfl hl.1 rfl (Nat.le_of_ble_eq_true rfl) dX11_sheet_32 (fun H locs hW => ?_)
    obtain ⟨e1, e2⟩ := z_s2 hf
    subst e1
    subst e2
    exact z_ri B hW dX11_sheet_35
  · have hf := z_if c3 hf
    refine lv_iload_n hx hb dX11_sheet_7 rfl (lv_at hl 2 rfl) ?_
    refine lv_if_eq (tgt := 36) hx hb dX11_sheet_8 (by decide) (fun c7 => ?_) (fun c7 => ?_)
    · have hf := z_it c7 hf
      exact w_X11_sheet_P36 B M l0 l1 l2 l3 _ _ hf h0 _ _ _ hW (lv_sub hl [0, 1, 2, 3] rfl)
    · have hf := z_if c7 hf
      refine lv_iload_n hx hb dX11_sheet_11 rfl (lv_at hl 2 rfl) ?_
      refine lv_bipush (v := 8) hx hb dX11_sheet_12 (by decide) ?_
      refine lv_icmp_eq (tgt := 36) hx hb dX11_sheet_14 (by decide) (fun c8 => ?_) (fun c8 => ?_)
      · have hf := z_it c8 hf
        exact w_X11_sheet_P36 B M l0 l1 l2 l3 _ _ hf h0 _ _ _ hW (lv_sub hl [0, 1, 2, 3] rfl)
      · have hf := z_if c8 hf
        refine lv_iload_n hx hb dX11_sheet_17 rfl (lv_at hl 2 rfl) ?_
        refine lv_bipush (v := 16) hx hb dX11_sheet_18 (by decide) ?_
        refine lv_icmp_eq (tgt := 36) hx hb dX11_sheet_20 (by decide) (fun c9 => ?_) (fun c9 => ?_)
        · have hf := z_it c9 hf
          exact w_X11_sheet_P36 B M l0 l1 l2 l3 _ _ hf h0 _ _ _ hW (lv_sub hl [0, 1, 2, 3] rfl)
        · have hf := z_if c9 hf
          refine lv_iload_n hx hb dX11_sheet_23 rfl (lv_at hl 2 rfl) ?_
          refine lv_bipush (v := 64) hx hb dX11_sheet_24 (by decide) ?_
          refine lv_icmp_eq (tgt := 36) hx hb dX11_sheet_26 (by decide) (fun c10 => ?_) (fun c10 => ?_)
          · have hf := z_it c10 hf
            exact w_X11_sheet_P36 B M l0 l1 l2 l3 _ _ hf h0 _ _ _ hW (lv_sub hl [0, 1, 2, 3] rfl)
          · have hf := z_if c10 hf
            refine lv_aload_n hx hb dX11_sheet_29 rfl (lv_at hl 0 rfl) ?_
            refine lv_ldc hx hb ho (hw _ q916) dX11_sheet_30 ?_
            obtain ⟨r11, M12, e13, hf⟩ := z_bpe hf
            refine z_cV (As := [.int (-1000000001 : Int32)]) (rest := []) B hW (f_X11_finds l e13 h0) sc_X11_finds sv_X11_40 h0 ⟨Nat.le_of_ble_eq_true rfl, Nat.le_of_ble_eq_true rfl⟩ ⟨Nat.zero_le _, Nat.zero_le _⟩ rfl hl.1 rfl (Nat.le_of_ble_eq_true rfl) dX11_sheet_32 (fun H locs hW => ?_)
            obtain ⟨e1, e2⟩ := z_s2 hf
            subst e1
            subst e2
            exact z_ri B hW dX11_sheet_35
set_option maxHeartbeats 4000000 in
set_option maxRecDepth 100000 in
theorem f_X11_write (l : Launch) {Γ : Zg} {M : Zm} {l0 : Nat} {l1 : Int32} {l2 : Int32} {l3 : Int64} {r : Int64} {M' : Zm} (hf : X11_write Γ M l0 l1 l2 l3 = some (r, M')) (h0 : z_Is Γ 11 l0) : z_Fn l Γ yX11_write cX11_write 7 (some .long) 1 25 [.ref l0, .int l1, .int l2, .long l3] M (some (.long r)) M' := by
  refine z_Fn.of (by decide) (Nat.le_of_ble_eq_true rfl) ?_
  intro p e s m below meth c ls B hW hl
  have B : z_Bd Γ p s m _ meth c cX11_write 7 (some .long) RX11 := B
  have hl : lv_has ls 7 [(0, .ref l0), (1, .int l1), (2, .int l2), (3, .long l3)] := hl
  rw [X11_write] at hf
  have hx := B.1
  have hb := B.2.1
  have hml := B.2.2.1
  have ho := B.2.2.2.1
  have hw := B.2.2.2.2.1
  have hE := B.2.2.2.2.2.1.2.2
  have hg := B.2.2.2.2.2.2.1
  refine lv_iload_n hx hb dX11_write_0 rfl (lv_at hl 1 rfl) ?_
  refine z_cS (As := [.int l1]) (rest := []) B hW (f_X11_isSheet l) sc_X11_isSheet ⟨q1203, q1204⟩ ⟨Nat.le_of_ble_eq_true rfl, Nat.le_of_ble_eq_true rfl⟩ ⟨Nat.zero_le _, Nat.zero_le _⟩ rfl hl.1 rfl (Nat.le_of_ble_eq_true rfl) dX11_write_1 (fun H locs hW => ?_)
  refine lv_if_ne (tgt := 15) hx hb dX11_write_4 (by decide) (fun c3 => ?_) (fun c3 => ?_)
  · have hf := z_if c3 hf
    refine lv_aload_n hx hb dX11_write_15 rfl (lv_at hl 0 rfl) ?_
    refine z_get_11_8 B hW h0 q863 dX11_write_16 ?_
    refine lv_iload_n hx hb dX11_write_19 rfl (lv_at hl 1 rfl) ?_
    obtain ⟨g4, hf⟩ := z_gd hf
    refine z_ia B hW (z_g11_8 hg h0) g4 dX11_write_20 ?_
    refine lv_if_ge (tgt := 32) hx hb dX11_write_21 (by decide) (fun c5 => ?_) (fun c5 => ?_)
    · have hf := z_it c5 hf
      refine lv_iload_n hx hb dX11_write_32 rfl (lv_at hl 2 rfl) ?_
      refine lv_i2l hx hb dX11_write_33 rfl ?_
      refine lv_lconst (v := 0) hx hb dX11_write_34 (by decide) ?_
      refine lv_aload_n hx hb dX11_write_35 rfl (lv_at hl 0 rfl) ?_
      refine z_get_11_9 B hW h0 q864 dX11_write_36 ?_
      refine lv_iload_n hx hb dX11_write_39 rfl (lv_at hl 1 rfl) ?_
      obtain ⟨g6, hf⟩ := z_gd hf
      refine z_ia B hW (z_g11_9 hg h0) g6 dX11_write_40 ?_
      refine lv_iconst (v := 1) hx hb dX11_write_41 (by decide) ?_
      refine lv_isub hx hb dX11_write_42 ?_
      refine lv_i2l hx hb dX11_write_43 rfl ?_
      refine z_cS (As := [.long l2.toInt64, .long (0 : Int64), .long (((M.1 (z_r Γ l0 9) l1.toNatClampNeg) - (1 : Int32)).toInt64)]) (rest := []) B hW (f_X11_isIn l) sc_X11_isIn ⟨q909, q910⟩ ⟨Nat.le_of_ble_eq_true rfl, Nat.le_of_ble_eq_true rfl⟩ ⟨Nat.zero_le _, Nat.zero_le _⟩ rfl hl.1 rfl (Nat.le_of_ble_eq_true rfl) dX11_write_44 (fun H locs hW => ?_)
      refine lv_if_ne (tgt := 58) hx hb dX11_write_47 (by decide) (fun c9 => ?_) (fun c9 => ?_)
      · have hf := z_if c9 hf
        refine lv_aload_n hx hb dX11_write_58 rfl (lv_at hl 0 rfl) ?_
        refine z_get_11_10 B hW h0 q865 dX11_write_59 ?_
        refine lv_bipush (v := 40) hx hb dX11_write_62 (by decide) ?_
        refine lv_iload_n hx hb dX11_write_64 rfl (lv_at hl 1 rfl) ?_
        refine lv_imul hx hb dX11_write_65 ?_
        refine lv_iload_n hx hb dX11_write_66 rfl (lv_at hl 2 rfl) ?_
        refine lv_iadd hx hb dX11_write_67 ?_
        obtain ⟨g10, hf⟩ := z_gd hf
        refine z_la B hW (z_g11_10 hg h0) g10 dX11_write_68 ?_
        refine lv_lstore (lv' := [(5, .long (M.2 (z_r Γ l0 10) ((((40 : Int32) * l1) + l2).toNatClampNeg))), (0, .ref l0), (1, .int l1), (2, .int l2), (3, .long l3)]) hx hb dX11_write_69 hl (by decide) rfl (fun ls hl => ?_)
        refine lv_aload_n hx hb dX11_write_71 rfl (lv_at hl 1 rfl) ?_
        refine z_get_11_10 B hW h0 q865 dX11_write_72 ?_
        refine lv_bipush (v := 40) hx hb dX11_write_75 (by decide) ?_
        refine lv_iload_n hx hb dX11_write_77 rfl (lv_at hl 2 rfl) ?_
        refine lv_imul hx hb dX11_write_78 ?_
        refine lv_iload_n hx hb dX11_write_79 rfl (lv_at hl 3 rfl) ?_
        refine lv_iadd hx hb dX11_write_80 ?_
        refine lv_aload_n hx hb dX11_write_81 rfl (lv_at hl 1 rfl) ?_
        refine z_get_11_8 B hW h0 q863 dX11_write_82 ?_
        refine lv_iload_n hx hb dX11_write_85 rfl (lv_at hl 2 rfl) ?_
        obtain ⟨g11, hf⟩ := z_gd hf
        refine z_ia B hW (z_g11_8 hg h0) g11 dX11_write_86 ?_
        refine lv_lload_n hx hb dX11_write_87 rfl (lv_at hl 4 rfl) ?_
        refine z_cS (As := [.int (M.1 (z_r Γ l0 8) l1.toNatClampNeg), .long l3]) (rest := [.int (((40 : Int32) * l1) + l2), .ref (z_r Γ l0 10)]) B hW (f_X11_narrow l) sc_X11_narrow ⟨q1212, q1213⟩ ⟨Nat.le_of_ble_eq_true rfl, Nat.le_of_ble_eq_true rfl⟩ ⟨Nat.zero_le _, Nat.zero_le _⟩ rfl hl.1 rfl (Nat.le_of_ble_eq_true rfl) dX11_write_88 (fun H locs hW => ?_)
        obtain ⟨g14, hf⟩ := z_gd hf
        refine z_ls B hW (z_g11_10 hg h0) g14 dX11_write_91 (fun H locs hW => ?_)
        obtain ⟨M15, e16, hf⟩ := z_le hf
        have hW := z_wde e16 hW
        refine lv_lload hx hb dX11_write_92 (lv_at hl 0 rfl) ?_
        obtain ⟨e1, e2⟩ := z_s2 hf
        subst e1
        subst e2
        exact z_rl B hW dX11_write_94
      · have hf := z_it c9 hf
        refine lv_aload_n hx hb dX11_write_50 rfl (lv_at hl 0 rfl) ?_
        refine lv_ldc hx hb ho (hw _ q916) dX11_write_51 ?_
        obtain ⟨r17, M18, e19, hf⟩ := z_bpe hf
        refine z_cV (As := [.int (-1000000001 : Int32)]) (rest := []) B hW (f_X11_finds l e19 h0) sc_X11_finds sv_X11_40 h0 ⟨Nat.le_of_ble_eq_true rfl, Nat.le_of_ble_eq_true rfl⟩ ⟨Nat.zero_le _, Nat.zero_le _⟩ rfl hl.1 rfl (Nat.le_of_ble_eq_true rfl) dX11_write_53 (fun H locs hW => ?_)
        refine lv_i2l hx hb dX11_write_56 rfl ?_
        obtain ⟨e1, e2⟩ := z_s2 hf
        subst e1
        subst e2
        exact z_rl B hW dX11_write_57
    · have hf := z_if c5 hf
      refine lv_aload_n hx hb dX11_write_24 rfl (lv_at hl 0 rfl) ?_
      refine lv_ldc hx hb ho (hw _ q1211) dX11_write_25 ?_
      obtain ⟨r20, M21, e22, hf⟩ := z_bpe hf
      refine z_cV (As := [.int (-1000000006 : Int32)]) (rest := []) B hW (f_X11_finds l e22 h0) sc_X11_finds sv_X11_40 h0 ⟨Nat.le_of_ble_eq_true rfl, Nat.le_of_ble_eq_true rfl⟩ ⟨Nat.zero_le _, Nat.zero_le _⟩ rfl hl.1 rfl (Nat.le_of_ble_eq_true rfl) dX11_write_27 (fun H locs hW => ?_)
      refine lv_i2l hx hb dX11_write_30 rfl ?_
      obtain ⟨e1, e2⟩ := z_s2 hf
      subst e1
      subst e2
      exact z_rl B hW dX11_write_31
  · have hf := z_it c3 hf
    refine lv_aload_n hx hb dX11_write_7 rfl (lv_at hl 0 rfl) ?_
    refine lv_ldc hx hb ho (hw _ q916) dX11_write_8 ?_
    obtain ⟨r23, M24, e25, hf⟩ := z_bpe hf
    refine z_cV (As := [.int (-1000000001 : Int32)]) (rest := []) B hW (f_X11_finds l e25 h0) sc_X11_finds sv_X11_40 h0 ⟨Nat.le_of_ble_eq_true rfl, Nat.le_of_ble_eq_true rfl⟩ ⟨Nat.zero_le _, Nat.zero_le _⟩ rfl hl.1 rfl (Nat.le_of_ble_eq_true rfl) dX11_write_10 (fun H locs hW => ?_)
    refine lv_i2l hx hb dX11_write_13 rfl ?_
    obtain ⟨e1, e2⟩ := z_s2 hf
    subst e1
    subst e2
    exact z_rl B hW dX11_write_14
set_option maxHeartbeats 4000000 in
set_option maxRecDepth 100000 in
theorem w_X11_copy_P136 (B : z_Bd Γ p s m args meth c cX11_copy 10 (some .int) RX11) : ∀ (n : Nat) (M : Zm) (l0 : Nat) (l5 : Int32) (l6 : Int32) (l7 : Int32) (l8 : Int32) (r : Int32) (M' : Zm), X11_copy_P136 Γ n M l0 l5 l6 l7 l8 = some (r, M') → z_Is Γ 11 l0 → ∀ (H : Heap) (locs : List Loc) (ls : Array Slot), z_Wd Γ M s.heap H locs → lv_has ls 10 [(0, .ref l0), (5, .int l5), (6, .int l6), (7, .int l7), (8, .int l8)] → W p l e (z_rm 1 21) s m args below meth c H locs 0 0 (z_Q Γ below args s (some (.int r)) M') (F0 m 136 ls []) := by
  have hx := B.1
  have hb := B.2.1
  have hml := B.2.2.1
  have ho := B.2.2.2.1
  have hw := B.2.2.2.2.1
  have hE := B.2.2.2.2.2.1.2.2
  have hg := B.2.2.2.2.2.2.1
  intro n
  induction n with
  | zero =>
    intro M l0 l5 l6 l7 l8 r M' hf h0 H locs ls hW hl
    cases hf
  | succ n ih =>
    intro M l0 l5 l6 l7 l8 r M' hf h0 H locs ls hW hl
    rw [X11_copy_P136] at hf
    refine lv_iload hx hb dX11_copy_136 (lv_at hl 4 rfl) ?_
    refine lv_iload hx hb dX11_copy_138 (lv_at hl 1 rfl) ?_
    refine lv_icmp_ge (tgt := 190) hx hb dX11_copy_140 (by decide) (fun c51 => ?_) (fun c51 => ?_)
    · have hf := z_it c51 hf
      refine lv_iload hx hb dX11_copy_190 (lv_at hl 1 rfl) ?_
      obtain ⟨e1, e2⟩ := z_s2 hf
      subst e1
      subst e2
      exact z_ri B hW dX11_copy_192
    · have hf := z_if c51 hf
      refine lv_iload hx hb dX11_copy_143 (lv_at hl 2 rfl) ?_
      refine lv_iload hx hb dX11_copy_145 (lv_at hl 3 rfl) ?_
      refine lv_icmp_ge (tgt := 160) hx hb dX11_copy_147 (by decide) (fun c52 => ?_) (fun c52 => ?_)
      · have hf := z_it c52 hf
        refine lv_iload hx hb dX11_copy_160 (lv_at hl 4 rfl) ?_
        refine lv_istore (lv' := [(9, .int l8), (0, .ref l0), (5, .int l5), (6, .int l6), (7, .int l7), (8, .int l8)]) hx hb dX11_copy_162 hl (by decide) rfl (fun ls hl => ?_)
        refine lv_aload_n hx hb dX11_copy_164 rfl (lv_at hl 1 rfl) ?_
        refine z_get_11_10 B hW h0 q865 dX11_copy_165 ?_
        refine lv_iload hx hb dX11_copy_168 (lv_at hl 4 rfl) ?_
        refine lv_iload hx hb dX11_copy_170 (lv_at hl 0 rfl) ?_
        refine lv_iadd hx hb dX11_copy_172 ?_
        refine lv_aload_n hx hb dX11_copy_173 rfl (lv_at hl 1 rfl) ?_
        refine z_get_11_10 B hW h0 q865 dX11_copy_174 ?_
        refine lv_iload hx hb dX11_copy_177 (lv_at hl 3 rfl) ?_
        refine lv_iload hx hb dX11_copy_179 (lv_at hl 0 rfl) ?_
        refine lv_iadd hx hb dX11_copy_181 ?_
        obtain ⟨g53, hf⟩ := z_gd hf
        refine z_la B hW (z_g11_10 hg h0) g53 dX11_copy_182 ?_
        obtain ⟨g54, hf⟩ := z_gd hf
        refine z_ls B hW (z_g11_10 hg h0) g54 dX11_copy_183 (fun H locs hW => ?_)
        obtain ⟨M55, e56, hf⟩ := z_le hf
        have hW := z_wde e56 hW
        refine lv_iinc (v := l8 + (1 : Int32)) (lv' := [(8, .int (l8 + (1 : Int32))), (9, .int l8), (0, .ref l0), (5, .int l5), (6, .int l6), (7, .int l7)]) hx hb dX11_copy_184 hl (k := 5) rfl rfl (by decide) rfl (fun ls hl => ?_)
        refine lv_goto (tgt := 136) hx hb dX11_copy_187 (by decide) ?_
        exact ih M55 l0 l5 l6 l7 (l8 + (1 : Int32)) _ _ hf h0 _ _ _ hW (lv_sub hl [2, 3, 4, 5, 0] rfl)
      · have hf := z_if c52 hf
        refine lv_iload hx hb dX11_copy_150 (lv_at hl 1 rfl) ?_
        refine lv_iconst (v := 1) hx hb dX11_copy_152 (by decide) ?_
        refine lv_isub hx hb dX11_copy_153 ?_
        refine lv_iload hx hb dX11_copy_154 (lv_at hl 4 rfl) ?_
        refine lv_isub hx hb dX11_copy_156 ?_
        refine lv_goto (tgt := 162) hx hb dX11_copy_157 (by decide) ?_
        refine lv_istore (lv' := [(9, .int ((l5 - (1 : Int32)) - l8)), (0, .ref l0), (5, .int l5), (6, .int l6), (7, .int l7), (8, .int l8)]) hx hb dX11_copy_162 hl (by decide) rfl (fun ls hl => ?_)
        refine lv_aload_n hx hb dX11_copy_164 rfl (lv_at hl 1 rfl) ?_
        refine z_get_11_10 B hW h0 q865 dX11_copy_165 ?_
        refine lv_iload hx hb dX11_copy_168 (lv_at hl 4 rfl) ?_
        refine lv_iload hx hb dX11_copy_170 (lv_at hl 0 rfl) ?_
        refine lv_iadd hx hb dX11_copy_172 ?_
        refine lv_aload_n hx hb dX11_copy_173 rfl (lv_at hl 1 rfl) ?_
        refine z_get_11_10 B hW h0 q865 dX11_copy_174 ?_
        refine lv_iload hx hb dX11_copy_177 (lv_at hl 3 rfl) ?_
        refine lv_iload hx hb dX11_copy_179 (lv_at hl 0 rfl) ?_
        refine lv_iadd hx hb dX11_copy_181 ?_
        obtain ⟨g57, hf⟩ := z_gd hf
        refine z_la B hW (z_g11_10 hg h0) g57 dX11_copy_182 ?_
        obtain ⟨g58, hf⟩ := z_gd hf
        refine z_ls B hW (z_g11_10 hg h0) g58 dX11_copy_183 (fun H locs hW => ?_)
        obtain ⟨M59, e60, hf⟩ := z_le hf
        have hW := z_wde e60 hW
        refine lv_iinc (v := l8 + (1 : Int32)) (lv' := [(8, .int (l8 + (1 : Int32))), (9, .int ((l5 - (1 : Int32)) - l8)), (0, .ref l0), (5, .int l5), (6, .int l6), (7, .int l7)]) hx hb dX11_copy_184 hl (k := 5) rfl rfl (by decide) rfl (fun ls hl => ?_)
        refine lv_goto (tgt := 136) hx hb dX11_copy_187 (by decide) ?_
        exact ih M59 l0 l5 l6 l7 (l8 + (1 : Int32)) _ _ hf h0 _ _ _ hW (lv_sub hl [2, 3, 4, 5, 0] rfl)
set_option maxHeartbeats 4000000 in
set_option maxRecDepth 100000 in
theorem f_X11_copy (l : Launch) {Γ : Zg} {M : Zm} {l0 : Nat} {l1 : Int32} {l2 : Int32} {l3 : Int32} {l4 : Int32} {l5 : Int32} {r : Int32} {M' : Zm} (hf : X11_copy Γ M l0 l1 l2 l3 l4 l5 = some (r, M')) (h0 : z_Is Γ 11 l0) : z_Fn l Γ yX11_copy cX11_copy 10 (some .int) 1 21 [.ref l0, .int l1, .int l2, .int l3, .int l4, .int l5] M (some (.int r)) M' := by
  refine z_Fn.of (by decide) (Nat.le_of_ble_eq_true rfl) ?_
  intro p e s m below meth c ls B hW hl
  have B : z_Bd Γ p s m _ meth c cX11_copy 10 (some .int) RX11 := B
  have hl : lv_has ls 10 [(0, .ref l0), (1, .int l1), (2, .int l2), (3, .int l3), (4, .int l4), (5, .int l5)] := hl
  rw [X11_copy] at hf
  have hx := B.1
  have hb := B.2.1
  have hml := B.2.2.1
  have ho := B.2.2.2.1
  have hw := B.2.2.2.2.1
  have hE := B.2.2.2.2.2.1.2.2
  have hg := B.2.2.2.2.2.2.1
  refine lv_iload_n hx hb dX11_copy_0 rfl (lv_at hl 1 rfl) ?_
  refine z_cS (As := [.int l1]) (rest := []) B hW (f_X11_isSheet l) sc_X11_isSheet ⟨q1203, q1204⟩ ⟨Nat.le_of_ble_eq_true rfl, Nat.le_of_ble_eq_true rfl⟩ ⟨Nat.zero_le _, Nat.zero_le _⟩ rfl hl.1 rfl (Nat.le_of_ble_eq_true rfl) dX11_copy_1 (fun H locs hW => ?_)
  refine lv_if_eq (tgt := 14) hx hb dX11_copy_4 (by decide) (fun c3 => ?_) (fun c3 => ?_)
  · have hf := z_it c3 hf
    refine lv_aload_n hx hb dX11_copy_14 rfl (lv_at hl 0 rfl) ?_
    refine lv_ldc hx hb ho (hw _ q916) dX11_copy_15 ?_
    obtain ⟨r4, M5, e6, hf⟩ := z_bpe hf
    refine z_cV (As := [.int (-1000000001 : Int32)]) (rest := []) B hW (f_X11_finds l e6 h0) sc_X11_finds sv_X11_40 h0 ⟨Nat.le_of_ble_eq_true rfl, Nat.le_of_ble_eq_true rfl⟩ ⟨Nat.zero_le _, Nat.zero_le _⟩ rfl hl.1 rfl (Nat.le_of_ble_eq_true rfl) dX11_copy_17 (fun H locs hW => ?_)
    obtain ⟨e1, e2⟩ := z_s2 hf
    subst e1
    subst e2
    exact z_ri B hW dX11_copy_20
  · have hf := z_if c3 hf
    refine lv_iload_n hx hb dX11_copy_7 rfl (lv_at hl 3 rfl) ?_
    refine z_cS (As := [.int l3]) (rest := []) B hW (f_X11_isSheet l) sc_X11_isSheet ⟨q1203, q1204⟩ ⟨Nat.le_of_ble_eq_true rfl, Nat.le_of_ble_eq_true rfl⟩ ⟨Nat.zero_le _, Nat.zero_le _⟩ rfl hl.1 rfl (Nat.le_of_ble_eq_true rfl) dX11_copy_8 (fun H locs hW => ?_)
    refine lv_if_ne (tgt := 21) hx hb dX11_copy_11 (by decide) (fun c9 => ?_) (fun c9 => ?_)
    · have hf := z_if c9 hf
      refine lv_aload_n hx hb dX11_copy_21 rfl (lv_at hl 0 rfl) ?_
      refine z_get_11_8 B hW h0 q863 dX11_copy_22 ?_
      refine lv_iload_n hx hb dX11_copy_25 rfl (lv_at hl 1 rfl) ?_
      obtain ⟨g10, hf⟩ := z_gd hf
      refine z_ia B hW (z_g11_8 hg h0) g10 dX11_copy_26 ?_
      refine lv_if_lt (tgt := 39) hx hb dX11_copy_27 (by decide) (fun c11 => ?_) (fun c11 => ?_)
      · have hf := z_it c11 hf
        refine lv_aload_n hx hb dX11_copy_39 rfl (lv_at hl 0 rfl) ?_
        refine lv_ldc hx hb ho (hw _ q1211) dX11_copy_40 ?_
        obtain ⟨r12, M13, e14, hf⟩ := z_bpe hf
        refine z_cV (As := [.int (-1000000006 : Int32)]) (rest := []) B hW (f_X11_finds l e14 h0) sc_X11_finds sv_X11_40 h0 ⟨Nat.le_of_ble_eq_true rfl, Nat.le_of_ble_eq_true rfl⟩ ⟨Nat.zero_le _, Nat.zero_le _⟩ rfl hl.1 rfl (Nat.le_of_ble_eq_true rfl) dX11_copy_42 (fun H locs hW => ?_)
        obtain ⟨e1, e2⟩ := z_s2 hf
        subst e1
        subst e2
        exact z_ri B hW dX11_copy_45
      · have hf := z_if c11 hf
        refine lv_aload_n hx hb dX11_copy_30 rfl (lv_at hl 0 rfl) ?_
        refine z_get_11_8 B hW h0 q863 dX11_copy_31 ?_
        refine lv_iload_n hx hb dX11_copy_34 rfl (lv_at hl 3 rfl) ?_
        obtain ⟨g15, hf⟩ := z_gd hf
        refine z_ia B hW (z_g11_8 hg h0) g15 dX11_copy_35 ?_
        refine lv_if_ge (tgt := 46) hx hb dX11_copy_36 (by decide) (fun c16 => ?_) (fun c16 => ?_)
        · have hf := z_it c16 hf
          refine lv_aload_n hx hb dX11_copy_46 rfl (lv_at hl 0 rfl) ?_
          refine z_get_11_8 B hW h0 q863 dX11_copy_47 ?_
          refine lv_iload_n hx hb dX11_copy_50 rfl (lv_at hl 1 rfl) ?_
          obtain ⟨g17, hf⟩ := z_gd hf
          refine z_ia B hW (z_g11_8 hg h0) g17 dX11_copy_51 ?_
          refine lv_aload_n hx hb dX11_copy_52 rfl (lv_at hl 0 rfl) ?_
          refine z_get_11_8 B hW h0 q863 dX11_copy_53 ?_
          refine lv_iload_n hx hb dX11_copy_56 rfl (lv_at hl 3 rfl) ?_
          obtain ⟨g18, hf⟩ := z_gd hf
          refine z_ia B hW (z_g11_8 hg h0) g18 dX11_copy_57 ?_
          refine lv_icmp_eq (tgt := 68) hx hb dX11_copy_58 (by decide) (fun c19 => ?_) (fun c19 => ?_)
          · have hf := z_it c19 hf
            refine lv_iload_n hx hb dX11_copy_68 rfl (lv_at hl 2 rfl) ?_
            refine lv_if_lt (tgt := 109) hx hb dX11_copy_69 (by decide) (fun c20 => ?_) (fun c20 => ?_)
            · have hf := z_it c20 hf
              refine lv_aload_n hx hb dX11_copy_109 rfl (lv_at hl 0 rfl) ?_
              refine lv_ldc hx hb ho (hw _ q916) dX11_copy_110 ?_
              obtain ⟨r21, M22, e23, hf⟩ := z_bpe hf
              refine z_cV (As := [.int (-1000000001 : Int32)]) (rest := []) B hW (f_X11_finds l e23 h0) sc_X11_finds sv_X11_40 h0 ⟨Nat.le_of_ble_eq_true rfl, Nat.le_of_ble_eq_true rfl⟩ ⟨Nat.zero_le _, Nat.zero_le _⟩ rfl hl.1 rfl (Nat.le_of_ble_eq_true rfl) dX11_copy_112 (fun H locs hW => ?_)
              obtain ⟨e1, e2⟩ := z_s2 hf
              subst e1
              subst e2
              exact z_ri B hW dX11_copy_115
            · have hf := z_if c20 hf
              refine lv_iload hx hb dX11_copy_72 (lv_at hl 4 rfl) ?_
              refine lv_if_lt (tgt := 109) hx hb dX11_copy_74 (by decide) (fun c24 => ?_) (fun c24 => ?_)
              · have hf := z_it c24 hf
                refine lv_aload_n hx hb dX11_copy_109 rfl (lv_at hl 0 rfl) ?_
                refine lv_ldc hx hb ho (hw _ q916) dX11_copy_110 ?_
                obtain ⟨r25, M26, e27, hf⟩ := z_bpe hf
                refine z_cV (As := [.int (-1000000001 : Int32)]) (rest := []) B hW (f_X11_finds l e27 h0) sc_X11_finds sv_X11_40 h0 ⟨Nat.le_of_ble_eq_true rfl, Nat.le_of_ble_eq_true rfl⟩ ⟨Nat.zero_le _, Nat.zero_le _⟩ rfl hl.1 rfl (Nat.le_of_ble_eq_true rfl) dX11_copy_112 (fun H locs hW => ?_)
                obtain ⟨e1, e2⟩ := z_s2 hf
                subst e1
                subst e2
                exact z_ri B hW dX11_copy_115
              · have hf := z_if c24 hf
                refine lv_iload hx hb dX11_copy_77 (lv_at hl 5 rfl) ?_
                refine lv_if_lt (tgt := 109) hx hb dX11_copy_79 (by decide) (fun c28 => ?_) (fun c28 => ?_)
                · have hf := z_it c28 hf
                  refine lv_aload_n hx hb dX11_copy_109 rfl (lv_at hl 0 rfl) ?_
                  refine lv_ldc hx hb ho (hw _ q916) dX11_copy_110 ?_
                  obtain ⟨r29, M30, e31, hf⟩ := z_bpe hf
                  refine z_cV (As := [.int (-1000000001 : Int32)]) (rest := []) B hW (f_X11_finds l e31 h0) sc_X11_finds sv_X11_40 h0 ⟨Nat.le_of_ble_eq_true rfl, Nat.le_of_ble_eq_true rfl⟩ ⟨Nat.zero_le _, Nat.zero_le _⟩ rfl hl.1 rfl (Nat.le_of_ble_eq_true rfl) dX11_copy_112 (fun H locs hW => ?_)
                  obtain ⟨e1, e2⟩ := z_s2 hf
                  subst e1
                  subst e2
                  exact z_ri B hW dX11_copy_115
                · have hf := z_if c28 hf
                  refine lv_iload hx hb dX11_copy_82 (lv_at hl 5 rfl) ?_
                  refine lv_aload_n hx hb dX11_copy_84 rfl (lv_at hl 0 rfl) ?_
                  refine z_get_11_9 B hW h0 q864 dX11_copy_85 ?_
                  refine lv_iload_n hx hb dX11_copy_88 rfl (lv_at hl 1 rfl) ?_
                  obtain ⟨g32, hf⟩ := z_gd hf
                  refine z_ia B hW (z_g11_9 hg h0) g32 dX11_copy_89 ?_
                  refine lv_iload_n hx hb dX11_copy_90 rfl (lv_at hl 2 rfl) ?_
                  refine lv_isub hx hb dX11_copy_91 ?_
                  refine lv_icmp_gt (tgt := 109) hx hb dX11_copy_92 (by decide) (fun c33 => ?_) (fun c33 => ?_)
                  · have hf := z_it c33 hf
                    refine lv_aload_n hx hb dX11_copy_109 rfl (lv_at hl 0 rfl) ?_
                    refine lv_ldc hx hb ho (hw _ q916) dX11_copy_110 ?_
                    obtain ⟨r34, M35, e36, hf⟩ := z_bpe hf
                    refine z_cV (As := [.int (-1000000001 : Int32)]) (rest := []) B hW (f_X11_finds l e36 h0) sc_X11_finds sv_X11_40 h0 ⟨Nat.le_of_ble_eq_true rfl, Nat.le_of_ble_eq_true rfl⟩ ⟨Nat.zero_le _, Nat.zero_le _⟩ rfl hl.1 rfl (Nat.le_of_ble_eq_true rfl) dX11_copy_112 (fun H locs hW => ?_)
                    obtain ⟨e1, e2⟩ := z_s2 hf
                    subst e1
                    subst e2
                    exact z_ri B hW dX11_copy_115
                  · have hf := z_if c33 hf
                    refine lv_iload hx hb dX11_copy_95 (lv_at hl 5 rfl) ?_
                    refine lv_aload_n hx hb dX11_copy_97 rfl (lv_at hl 0 rfl) ?_
                    refine z_get_11_9 B hW h0 q864 dX11_copy_98 ?_
                    refine lv_iload_n hx hb dX11_copy_101 rfl (lv_at hl 3 rfl) ?_
                    obtain ⟨g37, hf⟩ := z_gd hf
                    refine z_ia B hW (z_g11_9 hg h0) g37 dX11_copy_102 ?_
                    refine lv_iload hx hb dX11_copy_103 (lv_at hl 4 rfl) ?_
                    refine lv_isub hx hb dX11_copy_105 ?_
                    refine lv_icmp_le (tgt := 116) hx hb dX11_copy_106 (by decide) (fun c38 => ?_) (fun c38 => ?_)
                    · have hf := z_it c38 hf
                      refine lv_bipush (v := 40) hx hb dX11_copy_116 (by decide) ?_
                      refine lv_iload_n hx hb dX11_copy_118 rfl (lv_at hl 1 rfl) ?_
                      refine lv_imul hx hb dX11_copy_119 ?_
                      refine lv_iload_n hx hb dX11_copy_120 rfl (lv_at hl 2 rfl) ?_
                      refine lv_iadd hx hb dX11_copy_121 ?_
                      refine lv_istore (lv' := [(6, .int (((40 : Int32) * l1) + l2)), (0, .ref l0), (1, .int l1), (2, .int l2), (3, .int l3), (4, .int l4), (5, .int l5)]) hx hb dX11_copy_122 hl (by decide) rfl (fun ls hl => ?_)
                      refine lv_bipush (v := 40) hx hb dX11_copy_124 (by decide) ?_
                      refine lv_iload_n hx hb dX11_copy_126 rfl (lv_at hl 4 rfl) ?_
                      refine lv_imul hx hb dX11_copy_127 ?_
                      refine lv_iload hx hb dX11_copy_128 (lv_at hl 5 rfl) ?_
                      refine lv_iadd hx hb dX11_copy_130 ?_
                      refine lv_istore (lv' := [(7, .int (((40 : Int32) * l3) + l4)), (6, .int (((40 : Int32) * l1) + l2)), (0, .ref l0), (1, .int l1), (2, .int l2), (3, .int l3), (4, .int l4), (5, .int l5)]) hx hb dX11_copy_131 hl (by decide) rfl (fun ls hl => ?_)
                      refine lv_iconst (v := 0) hx hb dX11_copy_133 (by decide) ?_
                      refine lv_istore (lv' := [(8, .int (0 : Int32)), (7, .int (((40 : Int32) * l3) + l4)), (6, .int (((40 : Int32) * l1) + l2)), (0, .ref l0), (1, .int l1), (2, .int l2), (3, .int l3), (4, .int l4), (5, .int l5)]) hx hb dX11_copy_134 hl (by decide) rfl (fun ls hl => ?_)
                      exact w_X11_copy_P136 B 1000 M l0 l5 (((40 : Int32) * l1) + l2) (((40 : Int32) * l3) + l4) (0 : Int32) _ _ hf h0 _ _ _ hW (lv_sub hl [3, 8, 2, 1, 0] rfl)
                    · have hf := z_if c38 hf
                      refine lv_aload_n hx hb dX11_copy_109 rfl (lv_at hl 0 rfl) ?_
                      refine lv_ldc hx hb ho (hw _ q916) dX11_copy_110 ?_
                      obtain ⟨r39, M40, e41, hf⟩ := z_bpe hf
                      refine z_cV (As := [.int (-1000000001 : Int32)]) (rest := []) B hW (f_X11_finds l e41 h0) sc_X11_finds sv_X11_40 h0 ⟨Nat.le_of_ble_eq_true rfl, Nat.le_of_ble_eq_true rfl⟩ ⟨Nat.zero_le _, Nat.zero_le _⟩ rfl hl.1 rfl (Nat.le_of_ble_eq_true rfl) dX11_copy_112 (fun H locs hW => ?_)
                      obtain ⟨e1, e2⟩ := z_s2 hf
                      subst e1
                      subst e2
                      exact z_ri B hW dX11_copy_115
          · have hf := z_if c19 hf
            refine lv_aload_n hx hb dX11_copy_61 rfl (lv_at hl 0 rfl) ?_
            refine lv_ldc hx hb ho (hw _ q999) dX11_copy_62 ?_
            obtain ⟨r42, M43, e44, hf⟩ := z_bpe hf
            refine z_cV (As := [.int (-1000000003 : Int32)]) (rest := []) B hW (f_X11_finds l e44 h0) sc_X11_finds sv_X11_40 h0 ⟨Nat.le_of_ble_eq_true rfl, Nat.le_of_ble_eq_true rfl⟩ ⟨Nat.zero_le _, Nat.zero_le _⟩ rfl hl.1 rfl (Nat.le_of_ble_eq_true rfl) dX11_copy_64 (fun H locs hW => ?_)
            obtain ⟨e1, e2⟩ := z_s2 hf
            subst e1
            subst e2
            exact z_ri B hW dX11_copy_67
        · have hf := z_if c16 hf
          refine lv_aload_n hx hb dX11_copy_39 rfl (lv_at hl 0 rfl) ?_
          refine lv_ldc hx hb ho (hw _ q1211) dX11_copy_40 ?_
          obtain ⟨r45, M46, e47, hf⟩ := z_bpe hf
          refine z_cV (As := [.int (-1000000006 : Int32)]) (rest := []) B hW (f_X11_finds l e47 h0) sc_X11_finds sv_X11_40 h0 ⟨Nat.le_of_ble_eq_true rfl, Nat.le_of_ble_eq_true rfl⟩ ⟨Nat.zero_le _, Nat.zero_le _⟩ rfl hl.1 rfl (Nat.le_of_ble_eq_true rfl) dX11_copy_42 (fun H locs hW => ?_)
          obtain ⟨e1, e2⟩ := z_s2 hf
          subst e1
          subst e2
          exact z_ri B hW dX11_copy_45
    · have hf := z_it c9 hf
      refine lv_aload_n hx hb dX11_copy_14 rfl (lv_at hl 0 rfl) ?_
      refine lv_ldc hx hb ho (hw _ q916) dX11_copy_15 ?_
      obtain ⟨r48, M49, e50, hf⟩ := z_bpe hf
      refine z_cV (As := [.int (-1000000001 : Int32)]) (rest := []) B hW (f_X11_finds l e50 h0) sc_X11_finds sv_X11_40 h0 ⟨Nat.le_of_ble_eq_true rfl, Nat.le_of_ble_eq_true rfl⟩ ⟨Nat.zero_le _, Nat.zero_le _⟩ rfl hl.1 rfl (Nat.le_of_ble_eq_true rfl) dX11_copy_17 (fun H locs hW => ?_)
      obtain ⟨e1, e2⟩ := z_s2 hf
      subst e1
      subst e2
      exact z_ri B hW dX11_copy_20
set_option maxHeartbeats 4000000 in
set_option maxRecDepth 100000 in
theorem f_X11_wants (l : Launch) {Γ : Zg} {M : Zm} {l0 : Nat} {l1 : Int32} {r : Int32} (hf : X11_wants Γ M l0 l1 = some r) (h0 : z_Is Γ 11 l0) : z_Fn l Γ yX11_wants cX11_wants 2 (some .int) 1 20 [.ref l0, .int l1] M (some (.int r)) M := by
  refine z_Fn.of (by decide) (Nat.le_of_ble_eq_true rfl) ?_
  intro p e s m below meth c ls B hW hl
  have B : z_Bd Γ p s m _ meth c cX11_wants 2 (some .int) RX11 := B
  have hl : lv_has ls 2 [(0, .ref l0), (1, .int l1)] := hl
  rw [X11_wants] at hf
  have hx := B.1
  have hb := B.2.1
  have hml := B.2.2.1
  have ho := B.2.2.2.1
  have hw := B.2.2.2.2.1
  have hE := B.2.2.2.2.2.1.2.2
  have hg := B.2.2.2.2.2.2.1
  refine lv_iload_n hx hb dX11_wants_0 rfl (lv_at hl 1 rfl) ?_
  refine z_cS (As := [.int l1]) (rest := []) B hW (f_X11_isSheet l) sc_X11_isSheet ⟨q1203, q1204⟩ ⟨Nat.le_of_ble_eq_true rfl, Nat.le_of_ble_eq_true rfl⟩ ⟨Nat.zero_le _, Nat.zero_le _⟩ rfl hl.1 rfl (Nat.le_of_ble_eq_true rfl) dX11_wants_1 (fun H locs hW => ?_)
  refine lv_if_ne (tgt := 12) hx hb dX11_wants_4 (by decide) (fun c3 => ?_) (fun c3 => ?_)
  · have hf := z_if c3 hf
    refine lv_aload_n hx hb dX11_wants_12 rfl (lv_at hl 0 rfl) ?_
    refine z_get_11_8 B hW h0 q863 dX11_wants_13 ?_
    refine lv_iload_n hx hb dX11_wants_16 rfl (lv_at hl 1 rfl) ?_
    obtain ⟨g4, hf⟩ := z_gd hf
    refine z_ia B hW (z_g11_8 hg h0) g4 dX11_wants_17 ?_
    refine lv_if_ge (tgt := 26) hx hb dX11_wants_18 (by decide) (fun c5 => ?_) (fun c5 => ?_)
    · have hf := z_it c5 hf
      refine lv_iconst (v := 0) hx hb dX11_wants_26 (by decide) ?_
      have hf := Option.some.inj hf
      subst hf
      exact z_ri B hW dX11_wants_27
    · have hf := z_if c5 hf
      refine lv_ldc hx hb ho (hw _ q1211) dX11_wants_21 ?_
      refine lv_goto (tgt := 27) hx hb dX11_wants_23 (by decide) ?_
      have hf := Option.some.inj hf
      subst hf
      exact z_ri B hW dX11_wants_27
  · have hf := z_it c3 hf
    refine lv_ldc hx hb ho (hw _ q916) dX11_wants_7 ?_
    refine lv_goto (tgt := 27) hx hb dX11_wants_9 (by decide) ?_
    have hf := Option.some.inj hf
    subst hf
    exact z_ri B hW dX11_wants_27
set_option maxHeartbeats 4000000 in
set_option maxRecDepth 100000 in
theorem w_X11_lays_P22 (B : z_Bd Γ p s m args meth c cX11_lays 7 (some .int) RX11) : ∀ (n : Nat) (M : Zm) (l0 : Nat) (l1 : Int32) (l2 : Int32) (l3 : Int32) (r : Int32) (M' : Zm), X11_lays_P22 Γ n M l0 l1 l2 l3 = some (r, M') → z_Is Γ 11 l0 → ∀ (H : Heap) (locs : List Loc) (ls : Array Slot), z_Wd Γ M s.heap H locs → lv_has ls 7 [(0, .ref l0), (1, .int l1), (2, .int l2), (3, .int l3)] → W p l e (z_rm 2 45) s m args below meth c H locs 0 0 (z_Q Γ below args s (some (.int r)) M') (F0 m 22 ls []) := by
  have hx := B.1
  have hb := B.2.1
  have hml := B.2.2.1
  have ho := B.2.2.2.1
  have hw := B.2.2.2.2.1
  have hE := B.2.2.2.2.2.1.2.2
  have hg := B.2.2.2.2.2.2.1
  intro n
  induction n with
  | zero =>
    intro M l0 l1 l2 l3 r M' hf h0 H locs ls hW hl
    cases hf
  | succ n ih =>
    intro M l0 l1 l2 l3 r M' hf h0 H locs ls hW hl
    rw [X11_lays_P22] at hf
    refine lv_iload_n hx hb dX11_lays_22 rfl (lv_at hl 3 rfl) ?_
    refine lv_aload_n hx hb dX11_lays_23 rfl (lv_at hl 0 rfl) ?_
    refine z_get_11_9 B hW h0 q864 dX11_lays_24 ?_
    refine lv_iload_n hx hb dX11_lays_27 rfl (lv_at hl 1 rfl) ?_
    obtain ⟨g9, hf⟩ := z_gd hf
    refine z_ia B hW (z_g11_9 hg h0) g9 dX11_lays_28 ?_
    refine lv_icmp_ge (tgt := 86) hx hb dX11_lays_29 (by decide) (fun c10 => ?_) (fun c10 => ?_)
    · have hf := z_it c10 hf
      refine lv_iload_n hx hb dX11_lays_86 rfl (lv_at hl 2 rfl) ?_
      obtain ⟨e1, e2⟩ := z_s2 hf
      subst e1
      subst e2
      exact z_ri B hW dX11_lays_87
    · have hf := z_if c10 hf
      refine lv_iload_n hx hb dX11_lays_32 rfl (lv_at hl 3 rfl) ?_
      refine lv_aload_n hx hb dX11_lays_33 rfl (lv_at hl 0 rfl) ?_
      refine z_get_11_0 B hW h0 q855 dX11_lays_34 ?_
      refine lv_iconst (v := 0) hx hb dX11_lays_37 (by decide) ?_
      refine z_ia B hW (z_g11_0 hg h0) (z_ixd (by decide)) dX11_lays_38 ?_
      refine lv_icmp_ge (tgt := 86) hx hb dX11_lays_39 (by decide) (fun c11 => ?_) (fun c11 => ?_)
      · have hf := z_it c11 hf
        refine lv_iload_n hx hb dX11_lays_86 rfl (lv_at hl 2 rfl) ?_
        obtain ⟨e1, e2⟩ := z_s2 hf
        subst e1
        subst e2
        exact z_ri B hW dX11_lays_87
      · have hf := z_if c11 hf
        refine lv_aload_n hx hb dX11_lays_42 rfl (lv_at hl 0 rfl) ?_
        refine z_get_11_10 B hW h0 q865 dX11_lays_43 ?_
        refine lv_bipush (v := 40) hx hb dX11_lays_46 (by decide) ?_
        refine lv_iload_n hx hb dX11_lays_48 rfl (lv_at hl 1 rfl) ?_
        refine lv_imul hx hb dX11_lays_49 ?_
        refine lv_iload_n hx hb dX11_lays_50 rfl (lv_at hl 3 rfl) ?_
        refine lv_iadd hx hb dX11_lays_51 ?_
        obtain ⟨g12, hf⟩ := z_gd hf
        refine z_la B hW (z_g11_10 hg h0) g12 dX11_lays_52 ?_
        refine lv_lstore (lv' := [(4, .long (M.2 (z_r Γ l0 10) ((((40 : Int32) * l1) + l3).toNatClampNeg))), (0, .ref l0), (1, .int l1), (2, .int l2), (3, .int l3)]) hx hb dX11_lays_53 hl (by decide) rfl (fun ls hl => ?_)
        refine lv_lload hx hb dX11_lays_55 (lv_at hl 0 rfl) ?_
        refine lv_lconst (v := 0) hx hb dX11_lays_57 (by decide) ?_
        refine lv_ldc2 hx hb ho (hw _ q908) dX11_lays_58 ?_
        refine z_cS (As := [.long (M.2 (z_r Γ l0 10) ((((40 : Int32) * l1) + l3).toNatClampNeg)), .long (0 : Int64), .long (1023 : Int64)]) (rest := []) B hW (f_X11_isIn l) sc_X11_isIn ⟨q909, q910⟩ ⟨Nat.le_of_ble_eq_true rfl, Nat.le_of_ble_eq_true rfl⟩ ⟨Nat.zero_le _, Nat.zero_le _⟩ rfl hl.1 rfl (Nat.le_of_ble_eq_true rfl) dX11_lays_61 (fun H locs hW => ?_)
        refine lv_if_eq (tgt := 80) hx hb dX11_lays_64 (by decide) (fun c15 => ?_) (fun c15 => ?_)
        · have hf := z_it c15 hf
          refine lv_iinc (v := l3 + (1 : Int32)) (lv' := [(3, .int (l3 + (1 : Int32))), (4, .long (M.2 (z_r Γ l0 10) ((((40 : Int32) * l1) + l3).toNatClampNeg))), (0, .ref l0), (1, .int l1), (2, .int l2)]) hx hb dX11_lays_80 hl (k := 4) rfl rfl (by decide) rfl (fun ls hl => ?_)
          refine lv_goto (tgt := 22) hx hb dX11_lays_83 (by decide) ?_
          exact ih M l0 l1 l2 (l3 + (1 : Int32)) _ _ hf h0 _ _ _ hW (lv_sub hl [2, 3, 4, 0] rfl)
        · have hf := z_if c15 hf
          refine lv_aload_n hx hb dX11_lays_67 rfl (lv_at hl 1 rfl) ?_
          refine lv_iload_n hx hb dX11_lays_68 rfl (lv_at hl 4 rfl) ?_
          refine lv_lload hx hb dX11_lays_69 (lv_at hl 0 rfl) ?_
          refine lv_l2i hx hb dX11_lays_71 rfl ?_
          obtain ⟨r16, M17, e18, hf⟩ := z_bpe hf
          refine z_cV (As := [.int l3, .int ((M.2 (z_r Γ l0 10) ((((40 : Int32) * l1) + l3).toNatClampNeg)).toInt32)]) (rest := []) B hW (f_X11_knowsNow l e18 h0) sc_X11_knowsNow sv_X11_100 h0 ⟨Nat.le_of_ble_eq_true rfl, Nat.le_of_ble_eq_true rfl⟩ ⟨Nat.zero_le _, Nat.zero_le _⟩ rfl hl.1 rfl (Nat.le_of_ble_eq_true rfl) dX11_lays_72 (fun H locs hW => ?_)
          refine lv_istore (lv' := [(6, .int r16), (4, .long (M.2 (z_r Γ l0 10) ((((40 : Int32) * l1) + l3).toNatClampNeg))), (0, .ref l0), (1, .int l1), (2, .int l2), (3, .int l3)]) hx hb dX11_lays_75 hl (by decide) rfl (fun ls hl => ?_)
          refine lv_iinc (v := l2 + (1 : Int32)) (lv' := [(2, .int (l2 + (1 : Int32))), (6, .int r16), (4, .long (M.2 (z_r Γ l0 10) ((((40 : Int32) * l1) + l3).toNatClampNeg))), (0, .ref l0), (1, .int l1), (3, .int l3)]) hx hb dX11_lays_77 hl (k := 4) rfl rfl (by decide) rfl (fun ls hl => ?_)
          refine lv_iinc (v := l3 + (1 : Int32)) (lv' := [(3, .int (l3 + (1 : Int32))), (2, .int (l2 + (1 : Int32))), (6, .int r16), (4, .long (M.2 (z_r Γ l0 10) ((((40 : Int32) * l1) + l3).toNatClampNeg))), (0, .ref l0), (1, .int l1)]) hx hb dX11_lays_80 hl (k := 5) rfl rfl (by decide) rfl (fun ls hl => ?_)
          refine lv_goto (tgt := 22) hx hb dX11_lays_83 (by decide) ?_
          exact ih M17 l0 l1 (l2 + (1 : Int32)) (l3 + (1 : Int32)) _ _ hf h0 _ _ _ hW (lv_sub hl [4, 5, 1, 0] rfl)
set_option maxHeartbeats 4000000 in
set_option maxRecDepth 100000 in
theorem f_X11_lays (l : Launch) {Γ : Zg} {M : Zm} {l0 : Nat} {l1 : Int32} {r : Int32} {M' : Zm} (hf : X11_lays Γ M l0 l1 = some (r, M')) (h0 : z_Is Γ 11 l0) : z_Fn l Γ yX11_lays cX11_lays 7 (some .int) 2 45 [.ref l0, .int l1] M (some (.int r)) M' := by
  refine z_Fn.of (by decide) (Nat.le_of_ble_eq_true rfl) ?_
  intro p e s m below meth c ls B hW hl
  have B : z_Bd Γ p s m _ meth c cX11_lays 7 (some .int) RX11 := B
  have hl : lv_has ls 7 [(0, .ref l0), (1, .int l1)] := hl
  rw [X11_lays] at hf
  have hx := B.1
  have hb := B.2.1
  have hml := B.2.2.1
  have ho := B.2.2.2.1
  have hw := B.2.2.2.2.1
  have hE := B.2.2.2.2.2.1.2.2
  have hg := B.2.2.2.2.2.2.1
  refine lv_aload_n hx hb dX11_lays_0 rfl (lv_at hl 0 rfl) ?_
  refine lv_iload_n hx hb dX11_lays_1 rfl (lv_at hl 1 rfl) ?_
  obtain ⟨r1, e2, hf⟩ := z_bd hf
  refine z_cV (As := [.int l1]) (rest := []) B hW (f_X11_wants l e2 h0) sc_X11_wants sv_X11_253 h0 ⟨Nat.le_of_ble_eq_true rfl, Nat.le_of_ble_eq_true rfl⟩ ⟨Nat.zero_le _, Nat.zero_le _⟩ rfl hl.1 rfl (Nat.le_of_ble_eq_true rfl) dX11_lays_2 (fun H locs hW => ?_)
  refine lv_if_eq (tgt := 18) hx hb dX11_lays_5 (by decide) (fun c3 => ?_) (fun c3 => ?_)
  · have hf := z_it c3 hf
    refine lv_iconst (v := 0) hx hb dX11_lays_18 (by decide) ?_
    refine lv_istore_n (lv' := [(2, .int (0 : Int32)), (0, .ref l0), (1, .int l1)]) hx hb dX11_lays_19 rfl hl (by decide) rfl (fun ls hl => ?_)
    refine lv_iconst (v := 0) hx hb dX11_lays_20 (by decide) ?_
    refine lv_istore_n (lv' := [(3, .int (0 : Int32)), (2, .int (0 : Int32)), (0, .ref l0), (1, .int l1)]) hx hb dX11_lays_21 rfl hl (by decide) rfl (fun ls hl => ?_)
    exact w_X11_lays_P22 B 1000 M l0 l1 (0 : Int32) (0 : Int32) _ _ hf h0 _ _ _ hW (lv_sub hl [2, 3, 1, 0] rfl)
  · have hf := z_if c3 hf
    refine lv_aload_n hx hb dX11_lays_8 rfl (lv_at hl 0 rfl) ?_
    refine lv_aload_n hx hb dX11_lays_9 rfl (lv_at hl 0 rfl) ?_
    refine lv_iload_n hx hb dX11_lays_10 rfl (lv_at hl 1 rfl) ?_
    obtain ⟨r4, e5, hf⟩ := z_bd hf
    refine z_cV (As := [.int l1]) (rest := [.ref l0]) B hW (f_X11_wants l e5 h0) sc_X11_wants sv_X11_253 h0 ⟨Nat.le_of_ble_eq_true rfl, Nat.le_of_ble_eq_true rfl⟩ ⟨Nat.zero_le _, Nat.zero_le _⟩ rfl hl.1 rfl (Nat.le_of_ble_eq_true rfl) dX11_lays_11 (fun H locs hW => ?_)
    obtain ⟨r6, M7, e8, hf⟩ := z_bpe hf
    refine z_cV (As := [.int r4]) (rest := []) B hW (f_X11_finds l e8 h0) sc_X11_finds sv_X11_40 h0 ⟨Nat.le_of_ble_eq_true rfl, Nat.le_of_ble_eq_true rfl⟩ ⟨Nat.zero_le _, Nat.zero_le _⟩ rfl hl.1 rfl (Nat.le_of_ble_eq_true rfl) dX11_lays_14 (fun H locs hW => ?_)
    obtain ⟨e1, e2⟩ := z_s2 hf
    subst e1
    subst e2
    exact z_ri B hW dX11_lays_17
set_option maxHeartbeats 4000000 in
set_option maxRecDepth 100000 in
theorem w_X11_book_P55 (B : z_Bd Γ p s m args meth c cX11_book 5 (some .int) RX11) : ∀ (n : Nat) (M : Zm) (l0 : Nat) (l1 : Int32) (l2 : Int32) (l4 : Int32) (r : Int32) (M' : Zm), X11_book_P55 Γ n M l0 l1 l2 l4 = some (r, M') → z_Is Γ 11 l0 → ∀ (H : Heap) (locs : List Loc) (ls : Array Slot), z_Wd Γ M s.heap H locs → lv_has ls 5 [(0, .ref l0), (1, .int l1), (2, .int l2), (4, .int l4)] → W p l e (z_rm 4 95) s m args below meth c H locs 0 0 (z_Q Γ below args s (some (.int r)) M') (F0 m 55 ls []) := by
  have hx := B.1
  have hb := B.2.1
  have hml := B.2.2.1
  have ho := B.2.2.2.1
  have hw := B.2.2.2.2.1
  have hE := B.2.2.2.2.2.1.2.2
  have hg := B.2.2.2.2.2.2.1
  intro n
  induction n with
  | zero =>
    intro M l0 l1 l2 l4 r M' hf h0 H locs ls hW hl
    cases hf
  | succ n ih =>
    intro M l0 l1 l2 l4 r M' hf h0 H locs ls hW hl
    rw [X11_book_P55] at hf
    refine lv_iload hx hb dX11_book_55 (lv_at hl 3 rfl) ?_
    refine lv_aload_n hx hb dX11_book_57 rfl (lv_at hl 0 rfl) ?_
    refine z_get_11_9 B hW h0 q864 dX11_book_58 ?_
    refine lv_iload_n hx hb dX11_book_61 rfl (lv_at hl 1 rfl) ?_
    obtain ⟨g16, hf⟩ := z_gd hf
    refine z_ia B hW (z_g11_9 hg h0) g16 dX11_book_62 ?_
    refine lv_icmp_ge (tgt := 104) hx hb dX11_book_63 (by decide) (fun c17 => ?_) (fun c17 => ?_)
    · have hf := z_it c17 hf
      refine lv_aload_n hx hb dX11_book_104 rfl (lv_at hl 0 rfl) ?_
      refine z_get_11_3 B hW h0 q858 dX11_book_105 ?_
      refine lv_aload_n hx hb dX11_book_108 rfl (lv_at hl 0 rfl) ?_
      refine z_get_11_0 B hW h0 q855 dX11_book_109 ?_
      obtain ⟨M19, e20, hf⟩ := z_bd hf
      refine z_cS (As := [.ref (z_r Γ l0 3), .ref (z_r Γ l0 0)]) (rest := []) B hW (f_X11_copyRow l e20 (z_g11_3 hg h0) (z_g11_0 hg h0)) sc_X11_copyRow ⟨q1066, q1067⟩ ⟨Nat.le_of_ble_eq_true rfl, Nat.le_of_ble_eq_true rfl⟩ ⟨Nat.zero_le _, Nat.zero_le _⟩ rfl hl.1 rfl (Nat.le_of_ble_eq_true rfl) dX11_book_112 (fun H locs hW => ?_)
      refine lv_aload_n hx hb dX11_book_115 rfl (lv_at hl 0 rfl) ?_
      refine z_get_11_9 B hW h0 q864 dX11_book_116 ?_
      refine lv_iload_n hx hb dX11_book_119 rfl (lv_at hl 1 rfl) ?_
      obtain ⟨g21, hf⟩ := z_gd hf
      refine z_ia B hW (z_g11_9 hg h0) g21 dX11_book_120 ?_
      obtain ⟨e1, e2⟩ := z_s2 hf
      subst e1
      subst e2
      exact z_ri B hW dX11_book_121
    · have hf := z_if c17 hf
      refine lv_aload_n hx hb dX11_book_66 rfl (lv_at hl 0 rfl) ?_
      refine z_get_11_10 B hW h0 q865 dX11_book_67 ?_
      refine lv_bipush (v := 40) hx hb dX11_book_70 (by decide) ?_
      refine lv_iload_n hx hb dX11_book_72 rfl (lv_at hl 1 rfl) ?_
      refine lv_imul hx hb dX11_book_73 ?_
      refine lv_iload hx hb dX11_book_74 (lv_at hl 3 rfl) ?_
      refine lv_iadd hx hb dX11_book_76 ?_
      refine lv_aload_n hx hb dX11_book_77 rfl (lv_at hl 0 rfl) ?_
      refine z_get_11_8 B hW h0 q863 dX11_book_78 ?_
      refine lv_iload_n hx hb dX11_book_81 rfl (lv_at hl 1 rfl) ?_
      obtain ⟨g22, hf⟩ := z_gd hf
      refine z_ia B hW (z_g11_8 hg h0) g22 dX11_book_82 ?_
      refine lv_aload_n hx hb dX11_book_83 rfl (lv_at hl 0 rfl) ?_
      refine lv_iload_n hx hb dX11_book_84 rfl (lv_at hl 2 rfl) ?_
      refine lv_iconst (v := 1) hx hb dX11_book_85 (by decide) ?_
      obtain ⟨r23, e24, hf⟩ := z_bd hf
      refine z_cV (As := [.int l2, .int (1 : Int32)]) (rest := [.int (M.1 (z_r Γ l0 8) l1.toNatClampNeg), .int (((40 : Int32) * l1) + l4), .ref (z_r Γ l0 10)]) B hW (f_X11_its l e24 h0) sc_X11_its sv_X11_58 h0 ⟨Nat.le_of_ble_eq_true rfl, Nat.le_of_ble_eq_true rfl⟩ ⟨Nat.zero_le _, Nat.zero_le _⟩ rfl hl.1 rfl (Nat.le_of_ble_eq_true rfl) dX11_book_86 (fun H locs hW => ?_)
      refine lv_i2l hx hb dX11_book_89 rfl ?_
      refine z_cS (As := [.int (M.1 (z_r Γ l0 8) l1.toNatClampNeg), .long r23.toInt64]) (rest := [.int (((40 : Int32) * l1) + l4), .ref (z_r Γ l0 10)]) B hW (f_X11_narrow l) sc_X11_narrow ⟨q1212, q1213⟩ ⟨Nat.le_of_ble_eq_true rfl, Nat.le_of_ble_eq_true rfl⟩ ⟨Nat.zero_le _, Nat.zero_le _⟩ rfl hl.1 rfl (Nat.le_of_ble_eq_true rfl) dX11_book_90 (fun H locs hW => ?_)
      obtain ⟨g27, hf⟩ := z_gd hf
      refine z_ls B hW (z_g11_10 hg h0) g27 dX11_book_93 (fun H locs hW => ?_)
      obtain ⟨M28, e29, hf⟩ := z_le hf
      have hW := z_wde e29 hW
      refine lv_aload_n hx hb dX11_book_94 rfl (lv_at hl 0 rfl) ?_
      obtain ⟨M31, e32, hf⟩ := z_bd hf
      refine z_cV (As := []) (rest := []) B hW (f_X11_goesOn l e32 h0) sc_X11_goesOn sv_X11_131 h0 ⟨Nat.le_of_ble_eq_true rfl, Nat.le_of_ble_eq_true rfl⟩ ⟨Nat.zero_le _, Nat.zero_le _⟩ rfl hl.1 rfl (Nat.le_of_ble_eq_true rfl) dX11_book_95 (fun H locs hW => ?_)
      refine lv_iinc (v := l4 + (1 : Int32)) (lv' := [(4, .int (l4 + (1 : Int32))), (0, .ref l0), (1, .int l1), (2, .int l2)]) hx hb dX11_book_98 hl (k := 3) rfl rfl (by decide) rfl (fun ls hl => ?_)
      refine lv_goto (tgt := 55) hx hb dX11_book_101 (by decide) ?_
      exact ih M31 l0 l1 l2 (l4 + (1 : Int32)) _ _ hf h0 _ _ _ hW (lv_sub hl [1, 2, 3, 0] rfl)
set_option maxHeartbeats 4000000 in
set_option maxRecDepth 100000 in
theorem w_X11_book_P30 (B : z_Bd Γ p s m args meth c cX11_book 5 (some .int) RX11) : ∀ (M : Zm) (l0 : Nat) (l1 : Int32) (l2 : Int32) (s0 : Int32) (r : Int32) (M' : Zm), X11_book_P30 Γ M l0 l1 l2 s0 = some (r, M') → z_Is Γ 11 l0 → ∀ (H : Heap) (locs : List Loc) (ls : Array Slot), z_Wd Γ M s.heap H locs → lv_has ls 5 [(0, .ref l0), (1, .int l1), (2, .int l2)] → W p l e (z_rm 4 95) s m args below meth c H locs 0 0 (z_Q Γ below args s (some (.int r)) M') (F0 m 30 ls [.int s0]) := by
  have hx := B.1
  have hb := B.2.1
  have hml := B.2.2.1
  have ho := B.2.2.2.1
  have hw := B.2.2.2.2.1
  have hE := B.2.2.2.2.2.1.2.2
  have hg := B.2.2.2.2.2.2.1
  intro M l0 l1 l2 s0 r M' hf h0 H locs ls hW hl
  rw [X11_book_P30] at hf
  refine lv_istore_n (lv' := [(3, .int s0), (0, .ref l0), (1, .int l1), (2, .int l2)]) hx hb dX11_book_30 rfl hl (by decide) rfl (fun ls hl => ?_)
  refine lv_iload_n hx hb dX11_book_31 rfl (lv_at hl 0 rfl) ?_
  refine lv_if_eq (tgt := 41) hx hb dX11_book_32 (by decide) (fun c9 => ?_) (fun c9 => ?_)
  · have hf := z_it c9 hf
    refine lv_aload_n hx hb dX11_book_41 rfl (lv_at hl 1 rfl) ?_
    refine z_get_11_0 B hW h0 q855 dX11_book_42 ?_
    refine lv_aload_n hx hb dX11_book_45 rfl (lv_at hl 1 rfl) ?_
    refine z_get_11_3 B hW h0 q858 dX11_book_46 ?_
    obtain ⟨M11, e12, hf⟩ := z_bd hf
    refine z_cS (As := [.ref (z_r Γ l0 0), .ref (z_r Γ l0 3)]) (rest := []) B hW (f_X11_copyRow l e12 (z_g11_0 hg h0) (z_g11_3 hg h0)) sc_X11_copyRow ⟨q1066, q1067⟩ ⟨Nat.le_of_ble_eq_true rfl, Nat.le_of_ble_eq_true rfl⟩ ⟨Nat.zero_le _, Nat.zero_le _⟩ rfl hl.1 rfl (Nat.le_of_ble_eq_true rfl) dX11_book_49 (fun H locs hW => ?_)
    refine lv_iconst (v := 0) hx hb dX11_book_52 (by decide) ?_
    refine lv_istore (lv' := [(4, .int (0 : Int32)), (3, .int s0), (0, .ref l0), (1, .int l1), (2, .int l2)]) hx hb dX11_book_53 hl (by decide) rfl (fun ls hl => ?_)
    exact w_X11_book_P55 B 1000 M11 l0 l1 l2 (0 : Int32) _ _ hf h0 _ _ _ hW (lv_sub hl [2, 3, 4, 0] rfl)
  · have hf := z_if c9 hf
    refine lv_aload_n hx hb dX11_book_35 rfl (lv_at hl 1 rfl) ?_
    refine lv_iload_n hx hb dX11_book_36 rfl (lv_at hl 0 rfl) ?_
    obtain ⟨r13, M14, e15, hf⟩ := z_bpe hf
    refine z_cV (As := [.int s0]) (rest := []) B hW (f_X11_finds l e15 h0) sc_X11_finds sv_X11_40 h0 ⟨Nat.le_of_ble_eq_true rfl, Nat.le_of_ble_eq_true rfl⟩ ⟨Nat.zero_le _, Nat.zero_le _⟩ rfl hl.1 rfl (Nat.le_of_ble_eq_true rfl) dX11_book_37 (fun H locs hW => ?_)
    obtain ⟨e1, e2⟩ := z_s2 hf
    subst e1
    subst e2
    exact z_ri B hW dX11_book_40
set_option maxHeartbeats 4000000 in
set_option maxRecDepth 100000 in
theorem f_X11_book (l : Launch) {Γ : Zg} {M : Zm} {l0 : Nat} {l1 : Int32} {l2 : Int32} {r : Int32} {M' : Zm} (hf : X11_book Γ M l0 l1 l2 = some (r, M')) (h0 : z_Is Γ 11 l0) : z_Fn l Γ yX11_book cX11_book 5 (some .int) 4 95 [.ref l0, .int l1, .int l2] M (some (.int r)) M' := by
  refine z_Fn.of (by decide) (Nat.le_of_ble_eq_true rfl) ?_
  intro p e s m below meth c ls B hW hl
  have B : z_Bd Γ p s m _ meth c cX11_book 5 (some .int) RX11 := B
  have hl : lv_has ls 5 [(0, .ref l0), (1, .int l1), (2, .int l2)] := hl
  rw [X11_book] at hf
  have hx := B.1
  have hb := B.2.1
  have hml := B.2.2.1
  have ho := B.2.2.2.1
  have hw := B.2.2.2.2.1
  have hE := B.2.2.2.2.2.1.2.2
  have hg := B.2.2.2.2.2.2.1
  refine lv_aload_n hx hb dX11_book_0 rfl (lv_at hl 0 rfl) ?_
  refine lv_iload_n hx hb dX11_book_1 rfl (lv_at hl 1 rfl) ?_
  obtain ⟨r1, e2, hf⟩ := z_bd hf
  refine z_cV (As := [.int l1]) (rest := []) B hW (f_X11_wants l e2 h0) sc_X11_wants sv_X11_253 h0 ⟨Nat.le_of_ble_eq_true rfl, Nat.le_of_ble_eq_true rfl⟩ ⟨Nat.zero_le _, Nat.zero_le _⟩ rfl hl.1 rfl (Nat.le_of_ble_eq_true rfl) dX11_book_2 (fun H locs hW => ?_)
  refine lv_if_eq (tgt := 16) hx hb dX11_book_5 (by decide) (fun c3 => ?_) (fun c3 => ?_)
  · have hf := z_it c3 hf
    refine lv_aload_n hx hb dX11_book_16 rfl (lv_at hl 0 rfl) ?_
    refine lv_iload_n hx hb dX11_book_17 rfl (lv_at hl 2 rfl) ?_
    refine z_cV (As := [.int l2]) (rest := []) B hW (f_X11_isOne l h0) sc_X11_isOne sv_X11_83 h0 ⟨Nat.le_of_ble_eq_true rfl, Nat.le_of_ble_eq_true rfl⟩ ⟨Nat.zero_le _, Nat.zero_le _⟩ rfl hl.1 rfl (Nat.le_of_ble_eq_true rfl) dX11_book_18 (fun H locs hW => ?_)
    refine lv_if_eq (tgt := 28) hx hb dX11_book_21 (by decide) (fun c6 => ?_) (fun c6 => ?_)
    · have hf := z_it c6 hf
      refine lv_ldc hx hb ho (hw _ q916) dX11_book_28 ?_
      exact w_X11_book_P30 B M l0 l1 l2 (-1000000001 : Int32) _ _ hf h0 _ _ _ hW (lv_sub hl [0, 1, 2] rfl)
    · have hf := z_if c6 hf
      refine lv_iconst (v := 0) hx hb dX11_book_24 (by decide) ?_
      refine lv_goto (tgt := 30) hx hb dX11_book_25 (by decide) ?_
      exact w_X11_book_P30 B M l0 l1 l2 (0 : Int32) _ _ hf h0 _ _ _ hW (lv_sub hl [0, 1, 2] rfl)
  · have hf := z_if c3 hf
    refine lv_aload_n hx hb dX11_book_8 rfl (lv_at hl 0 rfl) ?_
    refine lv_iload_n hx hb dX11_book_9 rfl (lv_at hl 1 rfl) ?_
    obtain ⟨r7, e8, hf⟩ := z_bd hf
    refine z_cV (As := [.int l1]) (rest := []) B hW (f_X11_wants l e8 h0) sc_X11_wants sv_X11_253 h0 ⟨Nat.le_of_ble_eq_true rfl, Nat.le_of_ble_eq_true rfl⟩ ⟨Nat.zero_le _, Nat.zero_le _⟩ rfl hl.1 rfl (Nat.le_of_ble_eq_true rfl) dX11_book_10 (fun H locs hW => ?_)
    refine lv_goto (tgt := 30) hx hb dX11_book_13 (by decide) ?_
    exact w_X11_book_P30 B M l0 l1 l2 r7 _ _ hf h0 _ _ _ hW (lv_sub hl [0, 1, 2] rfl)
set_option maxHeartbeats 4000000 in
set_option maxRecDepth 100000 in
theorem w_X11_isSo_P5 (B : z_Bd Γ p s m args meth c cX11_isSo 5 (some .boolean) RX11) : ∀ (n : Nat) (M : Zm) (l0 : Nat) (l1 : Int32) (l2 : Int32) (l3 : Int32) (l4 : Int32) (r : Int32) (M' : Zm), X11_isSo_P5 Γ n M l0 l1 l2 l3 l4 = some (r, M') → z_Is Γ 11 l0 → ∀ (H : Heap) (locs : List Loc) (ls : Array Slot), z_Wd Γ M s.heap H locs → lv_has ls 5 [(0, .ref l0), (1, .int l1), (2, .int l2), (3, .int l3), (4, .int l4)] → W p l e (z_rm 4 95) s m args below meth c H locs 0 0 (z_Q Γ below args s (some (.int r)) M') (F0 m 5 ls []) := by
  have hx := B.1
  have hb := B.2.1
  have hml := B.2.2.1
  have ho := B.2.2.2.1
  have hw := B.2.2.2.2.1
  have hE := B.2.2.2.2.2.1.2.2
  have hg := B.2.2.2.2.2.2.1
  intro n
  induction n with
  | zero =>
    intro M l0 l1 l2 l3 l4 r M' hf h0 H locs ls hW hl
    cases hf
  | succ n ih =>
    intro M l0 l1 l2 l3 l4 r M' hf h0 H locs ls hW hl
    rw [X11_isSo_P5] at hf
    refine lv_iload hx hb dX11_isSo_5 (lv_at hl 4 rfl) ?_
    refine lv_aload_n hx hb dX11_isSo_7 rfl (lv_at hl 0 rfl) ?_
    refine z_get_11_9 B hW h0 q864 dX11_isSo_8 ?_
    refine lv_iload_n hx hb dX11_isSo_11 rfl (lv_at hl 1 rfl) ?_
    obtain ⟨g1, hf⟩ := z_gd hf
    refine z_ia B hW (z_g11_9 hg h0) g1 dX11_isSo_12 ?_
    refine lv_icmp_ge (tgt := 59) hx hb dX11_isSo_13 (by decide) (fun c2 => ?_) (fun c2 => ?_)
    · have hf := z_it c2 hf
      refine lv_iload_n hx hb dX11_isSo_59 rfl (lv_at hl 3 rfl) ?_
      obtain ⟨g3, hf⟩ := z_gp hf
      obtain ⟨e1, e2⟩ := z_s2 hf
      subst e1
      subst e2
      exact z_rz B hW g3 dX11_isSo_60
    · have hf := z_if c2 hf
      refine lv_iload_n hx hb dX11_isSo_16 rfl (lv_at hl 3 rfl) ?_
      refine lv_if_eq (tgt := 59) hx hb dX11_isSo_17 (by decide) (fun c4 => ?_) (fun c4 => ?_)
      · have hf := z_it c4 hf
        refine lv_iload_n hx hb dX11_isSo_59 rfl (lv_at hl 3 rfl) ?_
        obtain ⟨g5, hf⟩ := z_gp hf
        obtain ⟨e1, e2⟩ := z_s2 hf
        subst e1
        subst e2
        exact z_rz B hW g5 dX11_isSo_60
      · have hf := z_if c4 hf
        refine lv_aload_n hx hb dX11_isSo_20 rfl (lv_at hl 0 rfl) ?_
        refine z_get_11_10 B hW h0 q865 dX11_isSo_21 ?_
        refine lv_bipush (v := 40) hx hb dX11_isSo_24 (by decide) ?_
        refine lv_iload_n hx hb dX11_isSo_26 rfl (lv_at hl 1 rfl) ?_
        refine lv_imul hx hb dX11_isSo_27 ?_
        refine lv_iload hx hb dX11_isSo_28 (lv_at hl 4 rfl) ?_
        refine lv_iadd hx hb dX11_isSo_30 ?_
        obtain ⟨g6, hf⟩ := z_gd hf
        refine z_la B hW (z_g11_10 hg h0) g6 dX11_isSo_31 ?_
        refine lv_aload_n hx hb dX11_isSo_32 rfl (lv_at hl 0 rfl) ?_
        refine lv_iload_n hx hb dX11_isSo_33 rfl (lv_at hl 2 rfl) ?_
        refine lv_iconst (v := 1) hx hb dX11_isSo_34 (by decide) ?_
        obtain ⟨r7, e8, hf⟩ := z_bd hf
        refine z_cV (As := [.int l2, .int (1 : Int32)]) (rest := [.long (M.2 (z_r Γ l0 10) ((((40 : Int32) * l1) + l4).toNatClampNeg))]) B hW (f_X11_its l e8 h0) sc_X11_its sv_X11_58 h0 ⟨Nat.le_of_ble_eq_true rfl, Nat.le_of_ble_eq_true rfl⟩ ⟨Nat.zero_le _, Nat.zero_le _⟩ rfl hl.1 rfl (Nat.le_of_ble_eq_true rfl) dX11_isSo_35 (fun H locs hW => ?_)
        refine lv_i2l hx hb dX11_isSo_38 rfl ?_
        refine W.lcmp hx hb dX11_isSo_39 ?_
        refine lv_if_ne (tgt := 47) hx hb dX11_isSo_40 (by decide) (fun c9 => ?_) (fun c9 => ?_)
        · have hf := z_if c9 hf
          refine lv_iconst (v := 0) hx hb dX11_isSo_47 (by decide) ?_
          refine lv_istore_n (lv' := [(3, .int (0 : Int32)), (0, .ref l0), (1, .int l1), (2, .int l2), (4, .int l4)]) hx hb dX11_isSo_48 rfl hl (by decide) rfl (fun ls hl => ?_)
          refine lv_aload_n hx hb dX11_isSo_49 rfl (lv_at hl 1 rfl) ?_
          obtain ⟨M11, e12, hf⟩ := z_bd hf
          refine z_cV (As := []) (rest := []) B hW (f_X11_goesOn l e12 h0) sc_X11_goesOn sv_X11_131 h0 ⟨Nat.le_of_ble_eq_true rfl, Nat.le_of_ble_eq_true rfl⟩ ⟨Nat.zero_le _, Nat.zero_le _⟩ rfl hl.1 rfl (Nat.le_of_ble_eq_true rfl) dX11_isSo_50 (fun H locs hW => ?_)
          refine lv_iinc (v := l4 + (1 : Int32)) (lv' := [(4, .int (l4 + (1 : Int32))), (3, .int (0 : Int32)), (0, .ref l0), (1, .int l1), (2, .int l2)]) hx hb dX11_isSo_53 hl (k := 4) rfl rfl (by decide) rfl (fun ls hl => ?_)
          refine lv_goto (tgt := 5) hx hb dX11_isSo_56 (by decide) ?_
          exact ih M11 l0 l1 l2 (0 : Int32) (l4 + (1 : Int32)) _ _ hf h0 _ _ _ hW (lv_sub hl [2, 3, 4, 1, 0] rfl)
        · have hf := z_it c9 hf
          refine lv_iconst (v := 1) hx hb dX11_isSo_43 (by decide) ?_
          refine lv_goto (tgt := 48) hx hb dX11_isSo_44 (by decide) ?_
          refine lv_istore_n (lv' := [(3, .int (1 : Int32)), (0, .ref l0), (1, .int l1), (2, .int l2), (4, .int l4)]) hx hb dX11_isSo_48 rfl hl (by decide) rfl (fun ls hl => ?_)
          refine lv_aload_n hx hb dX11_isSo_49 rfl (lv_at hl 1 rfl) ?_
          obtain ⟨M14, e15, hf⟩ := z_bd hf
          refine z_cV (As := []) (rest := []) B hW (f_X11_goesOn l e15 h0) sc_X11_goesOn sv_X11_131 h0 ⟨Nat.le_of_ble_eq_true rfl, Nat.le_of_ble_eq_true rfl⟩ ⟨Nat.zero_le _, Nat.zero_le _⟩ rfl hl.1 rfl (Nat.le_of_ble_eq_true rfl) dX11_isSo_50 (fun H locs hW => ?_)
          refine lv_iinc (v := l4 + (1 : Int32)) (lv' := [(4, .int (l4 + (1 : Int32))), (3, .int (1 : Int32)), (0, .ref l0), (1, .int l1), (2, .int l2)]) hx hb dX11_isSo_53 hl (k := 4) rfl rfl (by decide) rfl (fun ls hl => ?_)
          refine lv_goto (tgt := 5) hx hb dX11_isSo_56 (by decide) ?_
          exact ih M14 l0 l1 l2 (1 : Int32) (l4 + (1 : Int32)) _ _ hf h0 _ _ _ hW (lv_sub hl [2, 3, 4, 1, 0] rfl)
set_option maxHeartbeats 4000000 in
set_option maxRecDepth 100000 in
theorem f_X11_isSo (l : Launch) {Γ : Zg} {M : Zm} {l0 : Nat} {l1 : Int32} {l2 : Int32} {r : Int32} {M' : Zm} (hf : X11_isSo Γ M l0 l1 l2 = some (r, M')) (h0 : z_Is Γ 11 l0) : z_Fn l Γ yX11_isSo cX11_isSo 5 (some .boolean) 4 95 [.ref l0, .int l1, .int l2] M (some (.int r)) M' := by
  refine z_Fn.of (by decide) (Nat.le_of_ble_eq_true rfl) ?_
  intro p e s m below meth c ls B hW hl
  have B : z_Bd Γ p s m _ meth c cX11_isSo 5 (some .boolean) RX11 := B
  have hl : lv_has ls 5 [(0, .ref l0), (1, .int l1), (2, .int l2)] := hl
  rw [X11_isSo] at hf
  have hx := B.1
  have hb := B.2.1
  have hml := B.2.2.1
  have ho := B.2.2.2.1
  have hw := B.2.2.2.2.1
  have hE := B.2.2.2.2.2.1.2.2
  have hg := B.2.2.2.2.2.2.1
  refine lv_iconst (v := 1) hx hb dX11_isSo_0 (by decide) ?_
  refine lv_istore_n (lv' := [(3, .int (1 : Int32)), (0, .ref l0), (1, .int l1), (2, .int l2)]) hx hb dX11_isSo_1 rfl hl (by decide) rfl (fun ls hl => ?_)
  refine lv_iconst (v := 0) hx hb dX11_isSo_2 (by decide) ?_
  refine lv_istore (lv' := [(4, .int (0 : Int32)), (3, .int (1 : Int32)), (0, .ref l0), (1, .int l1), (2, .int l2)]) hx hb dX11_isSo_3 hl (by decide) rfl (fun ls hl => ?_)
  exact w_X11_isSo_P5 B 1000 M l0 l1 l2 (1 : Int32) (0 : Int32) _ _ hf h0 _ _ _ hW (lv_sub hl [2, 3, 4, 1, 0] rfl)
set_option maxHeartbeats 4000000 in
set_option maxRecDepth 100000 in
theorem w_X11_read_P74 (B : z_Bd Γ p s m args meth c cX11_read 7 (some .int) RX11) : ∀ (n : Nat) (M : Zm) (l0 : Nat) (l1 : Int32) (l2 : Int32) (l3 : Int32) (l5 : Int32) (l6 : Int32) (r : Int32) (M' : Zm), X11_read_P74 Γ n M l0 l1 l2 l3 l5 l6 = some (r, M') → z_Is Γ 11 l0 → ∀ (H : Heap) (locs : List Loc) (ls : Array Slot), z_Wd Γ M s.heap H locs → lv_has ls 7 [(0, .ref l0), (1, .int l1), (2, .int l2), (3, .int l3), (5, .int l5), (6, .int l6)] → W p l e (z_rm 5 119) s m args below meth c H locs 0 0 (z_Q Γ below args s (some (.int r)) M') (F0 m 74 ls []) := by
  have hx := B.1
  have hb := B.2.1
  have hml := B.2.2.1
  have ho := B.2.2.2.1
  have hw := B.2.2.2.2.1
  have hE := B.2.2.2.2.2.1.2.2
  have hg := B.2.2.2.2.2.2.1
  intro n
  induction n with
  | zero =>
    intro M l0 l1 l2 l3 l5 l6 r M' hf h0 H locs ls hW hl
    cases hf
  | succ n ih =>
    intro M l0 l1 l2 l3 l5 l6 r M' hf h0 H locs ls hW hl
    rw [X11_read_P74] at hf
    refine lv_iload hx hb dX11_read_74 (lv_at hl 5 rfl) ?_
    refine lv_bipush (v := 36) hx hb dX11_read_76 (by decide) ?_
    refine lv_icmp_ge (tgt := 147) hx hb dX11_read_78 (by decide) (fun c20 => ?_) (fun c20 => ?_)
    · have hf := z_it c20 hf
      refine lv_iload hx hb dX11_read_147 (lv_at hl 4 rfl) ?_
      obtain ⟨e1, e2⟩ := z_s2 hf
      subst e1
      subst e2
      exact z_ri B hW dX11_read_149
    · have hf := z_if c20 hf
      refine lv_aload_n hx hb dX11_read_81 rfl (lv_at hl 0 rfl) ?_
      refine z_get_11_0 B hW h0 q855 dX11_read_82 ?_
      refine lv_iload_n hx hb dX11_read_85 rfl (lv_at hl 2 rfl) ?_
      refine lv_iconst (v := 0) hx hb dX11_read_86 (by decide) ?_
      refine z_cS (As := [.int l2, .int (0 : Int32)]) (rest := [.ref (z_r Γ l0 0)]) B hW (f_X11_at l) sc_X11_at ⟨q942, q943⟩ ⟨Nat.le_of_ble_eq_true rfl, Nat.le_of_ble_eq_true rfl⟩ ⟨Nat.zero_le _, Nat.zero_le _⟩ rfl hl.1 rfl (Nat.le_of_ble_eq_true rfl) dX11_read_87 (fun H locs hW => ?_)
      refine lv_iload hx hb dX11_read_90 (lv_at hl 5 rfl) ?_
      refine lv_bipush (v := 6) hx hb dX11_read_92 (by decide) ?_
      refine lv_idiv hx hb dX11_read_94 (by decide) ?_
      obtain ⟨g23, hf⟩ := z_gd hf
      refine z_is B hW (z_g11_0 hg h0) g23 dX11_read_95 (fun H locs hW => ?_)
      obtain ⟨M24, e25, hf⟩ := z_le hf
      have hW := z_wde e25 hW
      refine lv_aload_n hx hb dX11_read_96 rfl (lv_at hl 0 rfl) ?_
      refine z_get_11_0 B hW h0 q855 dX11_read_97 ?_
      refine lv_iload_n hx hb dX11_read_100 rfl (lv_at hl 3 rfl) ?_
      refine lv_iconst (v := 0) hx hb dX11_read_101 (by decide) ?_
      refine z_cS (As := [.int l3, .int (0 : Int32)]) (rest := [.ref (z_r Γ l0 0)]) B hW (f_X11_at l) sc_X11_at ⟨q942, q943⟩ ⟨Nat.le_of_ble_eq_true rfl, Nat.le_of_ble_eq_true rfl⟩ ⟨Nat.zero_le _, Nat.zero_le _⟩ rfl hl.1 rfl (Nat.le_of_ble_eq_true rfl) dX11_read_102 (fun H locs hW => ?_)
      refine lv_iload hx hb dX11_read_105 (lv_at hl 5 rfl) ?_
      refine lv_bipush (v := 6) hx hb dX11_read_107 (by decide) ?_
      refine lv_irem hx hb dX11_read_109 (by decide) ?_
      obtain ⟨g28, hf⟩ := z_gd hf
      refine z_is B hW (z_g11_0 hg h0) g28 dX11_read_110 (fun H locs hW => ?_)
      obtain ⟨M29, e30, hf⟩ := z_le hf
      have hW := z_wde e30 hW
      refine lv_iload hx hb dX11_read_111 (lv_at hl 4 rfl) ?_
      refine lv_aload_n hx hb dX11_read_113 rfl (lv_at hl 0 rfl) ?_
      refine lv_iload_n hx hb dX11_read_114 rfl (lv_at hl 1 rfl) ?_
      refine lv_iload_n hx hb dX11_read_115 rfl (lv_at hl 2 rfl) ?_
      obtain ⟨r31, M32, e33, hf⟩ := z_bpe hf
      refine z_cV (As := [.int l1, .int l2]) (rest := [.int l5]) B hW (f_X11_isSo l e33 h0) sc_X11_isSo sv_X11_256 h0 ⟨Nat.le_of_ble_eq_true rfl, Nat.le_of_ble_eq_true rfl⟩ ⟨Nat.zero_le _, Nat.zero_le _⟩ rfl hl.1 rfl (Nat.le_of_ble_eq_true rfl) dX11_read_116 (fun H locs hW => ?_)
      refine lv_if_eq (tgt := 126) hx hb dX11_read_119 (by decide) (fun c34 => ?_) (fun c34 => ?_)
      · have hf := z_it c34 hf
        refine lv_iconst (v := 0) hx hb dX11_read_126 (by decide) ?_
        refine lv_iadd hx hb dX11_read_127 ?_
        refine lv_istore (lv' := [(5, .int (l5 + (0 : Int32))), (0, .ref l0), (1, .int l1), (2, .int l2), (3, .int l3), (6, .int l6)]) hx hb dX11_read_128 hl (by decide) rfl (fun ls hl => ?_)
        refine lv_aload_n hx hb dX11_read_130 rfl (lv_at hl 1 rfl) ?_
        refine z_get_11_3 B hW h0 q858 dX11_read_131 ?_
        refine lv_aload_n hx hb dX11_read_134 rfl (lv_at hl 1 rfl) ?_
        refine z_get_11_0 B hW h0 q855 dX11_read_135 ?_
        obtain ⟨M36, e37, hf⟩ := z_bd hf
        refine z_cS (As := [.ref (z_r Γ l0 3), .ref (z_r Γ l0 0)]) (rest := []) B hW (f_X11_copyRow l e37 (z_g11_3 hg h0) (z_g11_0 hg h0)) sc_X11_copyRow ⟨q1066, q1067⟩ ⟨Nat.le_of_ble_eq_true rfl, Nat.le_of_ble_eq_true rfl⟩ ⟨Nat.zero_le _, Nat.zero_le _⟩ rfl hl.1 rfl (Nat.le_of_ble_eq_true rfl) dX11_read_138 (fun H locs hW => ?_)
        refine lv_iinc (v := l6 + (1 : Int32)) (lv' := [(6, .int (l6 + (1 : Int32))), (5, .int (l5 + (0 : Int32))), (0, .ref l0), (1, .int l1), (2, .int l2), (3, .int l3)]) hx hb dX11_read_141 hl (k := 5) rfl rfl (by decide) rfl (fun ls hl => ?_)
        refine lv_goto (tgt := 74) hx hb dX11_read_144 (by decide) ?_
        exact ih M36 l0 l1 l2 l3 (l5 + (0 : Int32)) (l6 + (1 : Int32)) _ _ hf h0 _ _ _ hW (lv_sub hl [2, 3, 4, 5, 1, 0] rfl)
      · have hf := z_if c34 hf
        refine lv_iconst (v := 1) hx hb dX11_read_122 (by decide) ?_
        refine lv_goto (tgt := 127) hx hb dX11_read_123 (by decide) ?_
        refine lv_iadd hx hb dX11_read_127 ?_
        refine lv_istore (lv' := [(5, .int (l5 + (1 : Int32))), (0, .ref l0), (1, .int l1), (2, .int l2), (3, .int l3), (6, .int l6)]) hx hb dX11_read_128 hl (by decide) rfl (fun ls hl => ?_)
        refine lv_aload_n hx hb dX11_read_130 rfl (lv_at hl 1 rfl) ?_
        refine z_get_11_3 B hW h0 q858 dX11_read_131 ?_
        refine lv_aload_n hx hb dX11_read_134 rfl (lv_at hl 1 rfl) ?_
        refine z_get_11_0 B hW h0 q855 dX11_read_135 ?_
        obtain ⟨M39, e40, hf⟩ := z_bd hf
        refine z_cS (As := [.ref (z_r Γ l0 3), .ref (z_r Γ l0 0)]) (rest := []) B hW (f_X11_copyRow l e40 (z_g11_3 hg h0) (z_g11_0 hg h0)) sc_X11_copyRow ⟨q1066, q1067⟩ ⟨Nat.le_of_ble_eq_true rfl, Nat.le_of_ble_eq_true rfl⟩ ⟨Nat.zero_le _, Nat.zero_le _⟩ rfl hl.1 rfl (Nat.le_of_ble_eq_true rfl) dX11_read_138 (fun H locs hW => ?_)
        refine lv_iinc (v := l6 + (1 : Int32)) (lv' := [(6, .int (l6 + (1 : Int32))), (5, .int (l5 + (1 : Int32))), (0, .ref l0), (1, .int l1), (2, .int l2), (3, .int l3)]) hx hb dX11_read_141 hl (k := 5) rfl rfl (by decide) rfl (fun ls hl => ?_)
        refine lv_goto (tgt := 74) hx hb dX11_read_144 (by decide) ?_
        exact ih M39 l0 l1 l2 l3 (l5 + (1 : Int32)) (l6 + (1 : Int32)) _ _ hf h0 _ _ _ hW (lv_sub hl [2, 3, 4, 5, 1, 0] rfl)
set_option maxHeartbeats 4000000 in
set_option maxRecDepth 100000 in
theorem w_X11_read_P43 (B : z_Bd Γ p s m args meth c cX11_read 7 (some .int) RX11) : ∀ (M : Zm) (l0 : Nat) (l1 : Int32) (l2 : Int32) (l3 : Int32) (s0 : Int32) (r : Int32) (M' : Zm), X11_read_P43 Γ M l0 l1 l2 l3 s0 = some (r, M') → z_Is Γ 11 l0 → ∀ (H : Heap) (locs : List Loc) (ls : Array Slot), z_Wd Γ M s.heap H locs → lv_has ls 7 [(0, .ref l0), (1, .int l1), (2, .int l2), (3, .int l3)] → W p l e (z_rm 5 119) s m args below meth c H locs 0 0 (z_Q Γ below args s (some (.int r)) M') (F0 m 43 ls [.int s0]) := by
  have hx := B.1
  have hb := B.2.1
  have hml := B.2.2.1
  have ho := B.2.2.2.1
  have hw := B.2.2.2.2.1
  have hE := B.2.2.2.2.2.1.2.2
  have hg := B.2.2.2.2.2.2.1
  intro M l0 l1 l2 l3 s0 r M' hf h0 H locs ls hW hl
  rw [X11_read_P43] at hf
  refine lv_istore (lv' := [(4, .int s0), (0, .ref l0), (1, .int l1), (2, .int l2), (3, .int l3)]) hx hb dX11_read_43 hl (by decide) rfl (fun ls hl => ?_)
  refine lv_iload hx hb dX11_read_45 (lv_at hl 0 rfl) ?_
  refine lv_if_eq (tgt := 57) hx hb dX11_read_47 (by decide) (fun c13 => ?_) (fun c13 => ?_)
  · have hf := z_it c13 hf
    refine lv_aload_n hx hb dX11_read_57 rfl (lv_at hl 1 rfl) ?_
    refine z_get_11_0 B hW h0 q855 dX11_read_58 ?_
    refine lv_aload_n hx hb dX11_read_61 rfl (lv_at hl 1 rfl) ?_
    refine z_get_11_3 B hW h0 q858 dX11_read_62 ?_
    obtain ⟨M15, e16, hf⟩ := z_bd hf
    refine z_cS (As := [.ref (z_r Γ l0 0), .ref (z_r Γ l0 3)]) (rest := []) B hW (f_X11_copyRow l e16 (z_g11_0 hg h0) (z_g11_3 hg h0)) sc_X11_copyRow ⟨q1066, q1067⟩ ⟨Nat.le_of_ble_eq_true rfl, Nat.le_of_ble_eq_true rfl⟩ ⟨Nat.zero_le _, Nat.zero_le _⟩ rfl hl.1 rfl (Nat.le_of_ble_eq_true rfl) dX11_read_65 (fun H locs hW => ?_)
    refine lv_iconst (v := 0) hx hb dX11_read_68 (by decide) ?_
    refine lv_istore (lv' := [(5, .int (0 : Int32)), (4, .int s0), (0, .ref l0), (1, .int l1), (2, .int l2), (3, .int l3)]) hx hb dX11_read_69 hl (by decide) rfl (fun ls hl => ?_)
    refine lv_iconst (v := 0) hx hb dX11_read_71 (by decide) ?_
    refine lv_istore (lv' := [(6, .int (0 : Int32)), (5, .int (0 : Int32)), (4, .int s0), (0, .ref l0), (1, .int l1), (2, .int l2), (3, .int l3)]) hx hb dX11_read_72 hl (by decide) rfl (fun ls hl => ?_)
    exact w_X11_read_P74 B 1000 M15 l0 l1 l2 l3 (0 : Int32) (0 : Int32) _ _ hf h0 _ _ _ hW (lv_sub hl [3, 4, 5, 6, 1, 0] rfl)
  · have hf := z_if c13 hf
    refine lv_aload_n hx hb dX11_read_50 rfl (lv_at hl 1 rfl) ?_
    refine lv_iload hx hb dX11_read_51 (lv_at hl 0 rfl) ?_
    obtain ⟨r17, M18, e19, hf⟩ := z_bpe hf
    refine z_cV (As := [.int s0]) (rest := []) B hW (f_X11_finds l e19 h0) sc_X11_finds sv_X11_40 h0 ⟨Nat.le_of_ble_eq_true rfl, Nat.le_of_ble_eq_true rfl⟩ ⟨Nat.zero_le _, Nat.zero_le _⟩ rfl hl.1 rfl (Nat.le_of_ble_eq_true rfl) dX11_read_53 (fun H locs hW => ?_)
    obtain ⟨e1, e2⟩ := z_s2 hf
    subst e1
    subst e2
    exact z_ri B hW dX11_read_56
set_option maxHeartbeats 4000000 in
set_option maxRecDepth 100000 in
theorem f_X11_read (l : Launch) {Γ : Zg} {M : Zm} {l0 : Nat} {l1 : Int32} {l2 : Int32} {l3 : Int32} {r : Int32} {M' : Zm} (hf : X11_read Γ M l0 l1 l2 l3 = some (r, M')) (h0 : z_Is Γ 11 l0) : z_Fn l Γ yX11_read cX11_read 7 (some .int) 5 119 [.ref l0, .int l1, .int l2, .int l3] M (some (.int r)) M' := by
  refine z_Fn.of (by decide) (Nat.le_of_ble_eq_true rfl) ?_
  intro p e s m below meth c ls B hW hl
  have B : z_Bd Γ p s m _ meth c cX11_read 7 (some .int) RX11 := B
  have hl : lv_has ls 7 [(0, .ref l0), (1, .int l1), (2, .int l2), (3, .int l3)] := hl
  rw [X11_read] at hf
  have hx := B.1
  have hb := B.2.1
  have hml := B.2.2.1
  have ho := B.2.2.2.1
  have hw := B.2.2.2.2.1
  have hE := B.2.2.2.2.2.1.2.2
  have hg := B.2.2.2.2.2.2.1
  refine lv_aload_n hx hb dX11_read_0 rfl (lv_at hl 0 rfl) ?_
  refine lv_iload_n hx hb dX11_read_1 rfl (lv_at hl 1 rfl) ?_
  obtain ⟨r1, e2, hf⟩ := z_bd hf
  refine z_cV (As := [.int l1]) (rest := []) B hW (f_X11_wants l e2 h0) sc_X11_wants sv_X11_253 h0 ⟨Nat.le_of_ble_eq_true rfl, Nat.le_of_ble_eq_true rfl⟩ ⟨Nat.zero_le _, Nat.zero_le _⟩ rfl hl.1 rfl (Nat.le_of_ble_eq_true rfl) dX11_read_2 (fun H locs hW => ?_)
  refine lv_if_eq (tgt := 16) hx hb dX11_read_5 (by decide) (fun c3 => ?_) (fun c3 => ?_)
  · have hf := z_it c3 hf
    refine lv_aload_n hx hb dX11_read_16 rfl (lv_at hl 0 rfl) ?_
    refine lv_iload_n hx hb dX11_read_17 rfl (lv_at hl 2 rfl) ?_
    refine z_cV (As := [.int l2]) (rest := []) B hW (f_X11_isOne l h0) sc_X11_isOne sv_X11_83 h0 ⟨Nat.le_of_ble_eq_true rfl, Nat.le_of_ble_eq_true rfl⟩ ⟨Nat.zero_le _, Nat.zero_le _⟩ rfl hl.1 rfl (Nat.le_of_ble_eq_true rfl) dX11_read_18 (fun H locs hW => ?_)
    refine lv_if_eq (tgt := 41) hx hb dX11_read_21 (by decide) (fun c6 => ?_) (fun c6 => ?_)
    · have hf := z_it c6 hf
      refine lv_ldc hx hb ho (hw _ q916) dX11_read_41 ?_
      exact w_X11_read_P43 B M l0 l1 l2 l3 (-1000000001 : Int32) _ _ hf h0 _ _ _ hW (lv_sub hl [0, 1, 2, 3] rfl)
    · have hf := z_if c6 hf
      refine lv_aload_n hx hb dX11_read_24 rfl (lv_at hl 0 rfl) ?_
      refine lv_iload_n hx hb dX11_read_25 rfl (lv_at hl 3 rfl) ?_
      refine z_cV (As := [.int l3]) (rest := []) B hW (f_X11_isOne l h0) sc_X11_isOne sv_X11_83 h0 ⟨Nat.le_of_ble_eq_true rfl, Nat.le_of_ble_eq_true rfl⟩ ⟨Nat.zero_le _, Nat.zero_le _⟩ rfl hl.1 rfl (Nat.le_of_ble_eq_true rfl) dX11_read_26 (fun H locs hW => ?_)
      refine lv_if_eq (tgt := 41) hx hb dX11_read_29 (by decide) (fun c9 => ?_) (fun c9 => ?_)
      · have hf := z_it c9 hf
        refine lv_ldc hx hb ho (hw _ q916) dX11_read_41 ?_
        exact w_X11_read_P43 B M l0 l1 l2 l3 (-1000000001 : Int32) _ _ hf h0 _ _ _ hW (lv_sub hl [0, 1, 2, 3] rfl)
      · have hf := z_if c9 hf
        refine lv_iload_n hx hb dX11_read_32 rfl (lv_at hl 2 rfl) ?_
        refine lv_iload_n hx hb dX11_read_33 rfl (lv_at hl 3 rfl) ?_
        refine lv_icmp_eq (tgt := 41) hx hb dX11_read_34 (by decide) (fun c10 => ?_) (fun c10 => ?_)
        · have hf := z_it c10 hf
          refine lv_ldc hx hb ho (hw _ q916) dX11_read_41 ?_
          exact w_X11_read_P43 B M l0 l1 l2 l3 (-1000000001 : Int32) _ _ hf h0 _ _ _ hW (lv_sub hl [0, 1, 2, 3] rfl)
        · have hf := z_if c10 hf
          refine lv_iconst (v := 0) hx hb dX11_read_37 (by decide) ?_
          refine lv_goto (tgt := 43) hx hb dX11_read_38 (by decide) ?_
          exact w_X11_read_P43 B M l0 l1 l2 l3 (0 : Int32) _ _ hf h0 _ _ _ hW (lv_sub hl [0, 1, 2, 3] rfl)
  · have hf := z_if c3 hf
    refine lv_aload_n hx hb dX11_read_8 rfl (lv_at hl 0 rfl) ?_
    refine lv_iload_n hx hb dX11_read_9 rfl (lv_at hl 1 rfl) ?_
    obtain ⟨r11, e12, hf⟩ := z_bd hf
    refine z_cV (As := [.int l1]) (rest := []) B hW (f_X11_wants l e12 h0) sc_X11_wants sv_X11_253 h0 ⟨Nat.le_of_ble_eq_true rfl, Nat.le_of_ble_eq_true rfl⟩ ⟨Nat.zero_le _, Nat.zero_le _⟩ rfl hl.1 rfl (Nat.le_of_ble_eq_true rfl) dX11_read_10 (fun H locs hW => ?_)
    refine lv_goto (tgt := 43) hx hb dX11_read_13 (by decide) ?_
    exact w_X11_read_P43 B M l0 l1 l2 l3 r11 _ _ hf h0 _ _ _ hW (lv_sub hl [0, 1, 2, 3] rfl)
set_option maxHeartbeats 4000000 in
set_option maxRecDepth 100000 in
theorem f_X11_image (l : Launch) {Γ : Zg} {M : Zm} {l0 : Nat} {r : Int32} {M' : Zm} (hf : X11_image Γ M l0 = some (r, M')) (h0 : z_Is Γ 11 l0) : z_Fn l Γ yX11_image cX11_image 1 (some .int) 1 22 [.ref l0] M (some (.int r)) M' := by
  refine z_Fn.of (by decide) (Nat.le_of_ble_eq_true rfl) ?_
  intro p e s m below meth c ls B hW hl
  have B : z_Bd Γ p s m _ meth c cX11_image 1 (some .int) RX11 := B
  have hl : lv_has ls 1 [(0, .ref l0)] := hl
  rw [X11_image] at hf
  have hx := B.1
  have hb := B.2.1
  have hml := B.2.2.1
  have ho := B.2.2.2.1
  have hw := B.2.2.2.2.1
  have hE := B.2.2.2.2.2.1.2.2
  have hg := B.2.2.2.2.2.2.1
  refine lv_aload_n hx hb dX11_image_0 rfl (lv_at hl 0 rfl) ?_
  refine z_get_11_0 B hW h0 q855 dX11_image_1 ?_
  refine lv_aload_n hx hb dX11_image_4 rfl (lv_at hl 0 rfl) ?_
  refine z_get_11_1 B hW h0 q856 dX11_image_5 ?_
  obtain ⟨M2, e3, hf⟩ := z_bd hf
  refine z_cS (As := [.ref (z_r Γ l0 0), .ref (z_r Γ l0 1)]) (rest := []) B hW (f_X11_copyRow l e3 (z_g11_0 hg h0) (z_g11_1 hg h0)) sc_X11_copyRow ⟨q1066, q1067⟩ ⟨Nat.le_of_ble_eq_true rfl, Nat.le_of_ble_eq_true rfl⟩ ⟨Nat.zero_le _, Nat.zero_le _⟩ rfl hl.1 rfl (Nat.le_of_ble_eq_true rfl) dX11_image_8 (fun H locs hW => ?_)
  refine lv_aload_n hx hb dX11_image_11 rfl (lv_at hl 0 rfl) ?_
  refine lv_iconst (v := 1) hx hb dX11_image_12 (by decide) ?_
  refine z_put_11_4 B hW h0 (Or.inr rfl) q859 dX11_image_13 (fun H locs hW => ?_)
  obtain ⟨M4, e5, hf⟩ := z_le hf
  have hW := z_wde e5 hW
  refine lv_iconst (v := 1) hx hb dX11_image_16 (by decide) ?_
  obtain ⟨e1, e2⟩ := z_s2 hf
  subst e1
  subst e2
  exact z_ri B hW dX11_image_17
set_option maxHeartbeats 4000000 in
set_option maxRecDepth 100000 in
theorem f_X11_undo (l : Launch) {Γ : Zg} {M : Zm} {l0 : Nat} {r : Int32} {M' : Zm} (hf : X11_undo Γ M l0 = some (r, M')) (h0 : z_Is Γ 11 l0) : z_Fn l Γ yX11_undo cX11_undo 1 (some .int) 1 22 [.ref l0] M (some (.int r)) M' := by
  refine z_Fn.of (by decide) (Nat.le_of_ble_eq_true rfl) ?_
  intro p e s m below meth c ls B hW hl
  have B : z_Bd Γ p s m _ meth c cX11_undo 1 (some .int) RX11 := B
  have hl : lv_has ls 1 [(0, .ref l0)] := hl
  rw [X11_undo] at hf
  have hx := B.1
  have hb := B.2.1
  have hml := B.2.2.1
  have ho := B.2.2.2.1
  have hw := B.2.2.2.2.1
  have hE := B.2.2.2.2.2.1.2.2
  have hg := B.2.2.2.2.2.2.1
  refine lv_aload_n hx hb dX11_undo_0 rfl (lv_at hl 0 rfl) ?_
  refine z_get_11_4 B hW h0 q859 dX11_undo_1 ?_
  refine lv_if_ne (tgt := 14) hx hb dX11_undo_4 (by decide) (fun c1 => ?_) (fun c1 => ?_)
  · have hf := z_if c1 hf
    refine lv_aload_n hx hb dX11_undo_14 rfl (lv_at hl 0 rfl) ?_
    refine z_get_11_1 B hW h0 q856 dX11_undo_15 ?_
    refine lv_aload_n hx hb dX11_undo_18 rfl (lv_at hl 0 rfl) ?_
    refine z_get_11_0 B hW h0 q855 dX11_undo_19 ?_
    obtain ⟨M3, e4, hf⟩ := z_bd hf
    refine z_cS (As := [.ref (z_r Γ l0 1), .ref (z_r Γ l0 0)]) (rest := []) B hW (f_X11_copyRow l e4 (z_g11_1 hg h0) (z_g11_0 hg h0)) sc_X11_copyRow ⟨q1066, q1067⟩ ⟨Nat.le_of_ble_eq_true rfl, Nat.le_of_ble_eq_true rfl⟩ ⟨Nat.zero_le _, Nat.zero_le _⟩ rfl hl.1 rfl (Nat.le_of_ble_eq_true rfl) dX11_undo_22 (fun H locs hW => ?_)
    refine lv_aload_n hx hb dX11_undo_25 rfl (lv_at hl 0 rfl) ?_
    refine z_get_11_0 B hW h0 q855 dX11_undo_26 ?_
    refine lv_iconst (v := 0) hx hb dX11_undo_29 (by decide) ?_
    refine z_ia B hW (z_g11_0 hg h0) (z_ixd (by decide)) dX11_undo_30 ?_
    obtain ⟨e1, e2⟩ := z_s2 hf
    subst e1
    subst e2
    exact z_ri B hW dX11_undo_31
  · have hf := z_it c1 hf
    refine lv_aload_n hx hb dX11_undo_7 rfl (lv_at hl 0 rfl) ?_
    refine lv_ldc hx hb ho (hw _ q1073) dX11_undo_8 ?_
    obtain ⟨r5, M6, e7, hf⟩ := z_bpe hf
    refine z_cV (As := [.int (-1000000004 : Int32)]) (rest := []) B hW (f_X11_finds l e7 h0) sc_X11_finds sv_X11_40 h0 ⟨Nat.le_of_ble_eq_true rfl, Nat.le_of_ble_eq_true rfl⟩ ⟨Nat.zero_le _, Nat.zero_le _⟩ rfl hl.1 rfl (Nat.le_of_ble_eq_true rfl) dX11_undo_10 (fun H locs hW => ?_)
    obtain ⟨e1, e2⟩ := z_s2 hf
    subst e1
    subst e2
    exact z_ri B hW dX11_undo_13
set_option maxHeartbeats 4000000 in
set_option maxRecDepth 100000 in
theorem f_X11_tear (l : Launch) {Γ : Zg} {M : Zm} {l0 : Nat} {r : Int32} {M' : Zm} (hf : X11_tear M l0 = (r, M')) (h0 : z_Is Γ 11 l0) : z_Fn l Γ yX11_tear cX11_tear 2 (some .int) 0 0 [.ref l0] M (some (.int r)) M' := by
  refine z_Fn.of (by decide) (Nat.le_of_ble_eq_true rfl) ?_
  intro p e s m below meth c ls B hW hl
  have B : z_Bd Γ p s m _ meth c cX11_tear 2 (some .int) RX11 := B
  have hl : lv_has ls 2 [(0, .ref l0)] := hl
  rw [X11_tear] at hf
  have hx := B.1
  have hb := B.2.1
  have hml := B.2.2.1
  have ho := B.2.2.2.1
  have hw := B.2.2.2.2.1
  have hE := B.2.2.2.2.2.1.2.2
  have hg := B.2.2.2.2.2.2.1
  refine lv_aload_n hx hb dX11_tear_0 rfl (lv_at hl 0 rfl) ?_
  refine z_get_11_4 B hW h0 q859 dX11_tear_1 ?_
  refine lv_istore_n (lv' := [(1, .int (M.1 l0 4)), (0, .ref l0)]) hx hb dX11_tear_4 rfl hl (by decide) rfl (fun ls hl => ?_)
  refine lv_aload_n hx hb dX11_tear_5 rfl (lv_at hl 1 rfl) ?_
  refine lv_iconst (v := 0) hx hb dX11_tear_6 (by decide) ?_
  refine z_put_11_4 B hW h0 (Or.inl rfl) q859 dX11_tear_7 (fun H locs hW => ?_)
  obtain ⟨M1, e2, hf⟩ := z_le hf
  have hW := z_wde e2 hW
  refine lv_iload_n hx hb dX11_tear_10 rfl (lv_at hl 0 rfl) ?_
  refine lv_if_eq (tgt := 18) hx hb dX11_tear_11 (by decide) (fun c3 => ?_) (fun c3 => ?_)
  · have hf := z_it c3 hf
    refine lv_iconst (v := 0) hx hb dX11_tear_18 (by decide) ?_
    obtain ⟨e1, e2⟩ := Prod.mk.inj hf
    subst e1
    subst e2
    exact z_ri B hW dX11_tear_19
  · have hf := z_if c3 hf
    refine lv_iconst (v := 1) hx hb dX11_tear_14 (by decide) ?_
    refine lv_goto (tgt := 19) hx hb dX11_tear_15 (by decide) ?_
    obtain ⟨e1, e2⟩ := Prod.mk.inj hf
    subst e1
    subst e2
    exact z_ri B hW dX11_tear_19
set_option maxHeartbeats 4000000 in
set_option maxRecDepth 100000 in
theorem f_X11_count (l : Launch) {Γ : Zg} {M : Zm} {l0 : Nat} {l1 : Int32} {r : Int32} {M' : Zm} (hf : X11_count Γ M l0 l1 = some (r, M')) (h0 : z_Is Γ 11 l0) : z_Fn l Γ yX11_count cX11_count 2 (some .int) 2 44 [.ref l0, .int l1] M (some (.int r)) M' := by
  refine z_Fn.of (by decide) (Nat.le_of_ble_eq_true rfl) ?_
  intro p e s m below meth c ls B hW hl
  have B : z_Bd Γ p s m _ meth c cX11_count 2 (some .int) RX11 := B
  have hl : lv_has ls 2 [(0, .ref l0), (1, .int l1)] := hl
  rw [X11_count] at hf
  have hx := B.1
  have hb := B.2.1
  have hml := B.2.2.1
  have ho := B.2.2.2.1
  have hw := B.2.2.2.2.1
  have hE := B.2.2.2.2.2.1.2.2
  have hg := B.2.2.2.2.2.2.1
  refine lv_iload_n hx hb dX11_count_0 rfl (lv_at hl 1 rfl) ?_
  by_cases c1 : l1 = (0 : Int32)
  · have hf := z_it c1 hf
    refine lv_tableIn (off := 31) (tgt := 32) hx hb dX11_count_1 (by rw [c1]; decide) (by rw [c1]; decide) (by rw [c1]; decide) (by decide) ?_
    refine lv_aload_n hx hb dX11_count_32 rfl (lv_at hl 0 rfl) ?_
    refine z_get_11_0 B hW h0 q855 dX11_count_33 ?_
    refine lv_iconst (v := 0) hx hb dX11_count_36 (by decide) ?_
    refine z_ia B hW (z_g11_0 hg h0) (z_ixd (by decide)) dX11_count_37 ?_
    obtain ⟨e1, e2⟩ := z_s2 hf
    subst e1
    subst e2
    exact z_ri B hW dX11_count_38
  · have hf := z_if c1 hf
    by_cases c2 : l1 = (1 : Int32)
    · have hf := z_it c2 hf
      refine lv_tableIn (off := 38) (tgt := 39) hx hb dX11_count_1 (by rw [c2]; decide) (by rw [c2]; decide) (by rw [c2]; decide) (by decide) ?_
      refine lv_aload_n hx hb dX11_count_39 rfl (lv_at hl 0 rfl) ?_
      refine z_get_11_7 B hW h0 q862 dX11_count_40 ?_
      obtain ⟨e1, e2⟩ := z_s2 hf
      subst e1
      subst e2
      exact z_ri B hW dX11_count_43
    · have hf := z_if c2 hf
      by_cases c3 : l1 = (2 : Int32)
      · have hf := z_it c3 hf
        refine lv_tableIn (off := 43) (tgt := 44) hx hb dX11_count_1 (by rw [c3]; decide) (by rw [c3]; decide) (by rw [c3]; decide) (by decide) ?_
        refine lv_aload_n hx hb dX11_count_44 rfl (lv_at hl 0 rfl) ?_
        obtain ⟨r4, e5, hf⟩ := z_bd hf
        refine z_cV (As := []) (rest := []) B hW (f_X11_heardOfAll l e5 h0) sc_X11_heardOfAll sv_X11_140 h0 ⟨Nat.le_of_ble_eq_true rfl, Nat.le_of_ble_eq_true rfl⟩ ⟨Nat.zero_le _, Nat.zero_le _⟩ rfl hl.1 rfl (Nat.le_of_ble_eq_true rfl) dX11_count_45 (fun H locs hW => ?_)
        obtain ⟨e1, e2⟩ := z_s2 hf
        subst e1
        subst e2
        exact z_ri B hW dX11_count_48
      · have hf := z_if c3 hf
        by_cases c6 : l1 = (3 : Int32)
        · have hf := z_it c6 hf
          refine lv_tableIn (off := 48) (tgt := 49) hx hb dX11_count_1 (by rw [c6]; decide) (by rw [c6]; decide) (by rw [c6]; decide) (by decide) ?_
          refine lv_aload_n hx hb dX11_count_49 rfl (lv_at hl 0 rfl) ?_
          obtain ⟨r7, e8, hf⟩ := z_bd hf
          refine z_cV (As := []) (rest := []) B hW (f_X11_believed l e8 h0) sc_X11_believed sv_X11_168 h0 ⟨Nat.le_of_ble_eq_true rfl, Nat.le_of_ble_eq_true rfl⟩ ⟨Nat.zero_le _, Nat.zero_le _⟩ rfl hl.1 rfl (Nat.le_of_ble_eq_true rfl) dX11_count_50 (fun H locs hW => ?_)
          obtain ⟨e1, e2⟩ := z_s2 hf
          subst e1
          subst e2
          exact z_ri B hW dX11_count_53
        · have hf := z_if c6 hf
          have hsw : l1.toInt < 0 ∨ 3 < l1.toInt := by
            have ec1 := z_nei 0 (by decide) c1
            have ec2 := z_nei 1 (by decide) c2
            have ec3 := z_nei 2 (by decide) c3
            have ec6 := z_nei 3 (by decide) c6
            omega
          refine lv_tableOut (tgt := 54) hx hb dX11_count_1 hsw (by decide) ?_
          refine lv_aload_n hx hb dX11_count_54 rfl (lv_at hl 0 rfl) ?_
          refine lv_ldc hx hb ho (hw _ q916) dX11_count_55 ?_
          obtain ⟨r9, M10, e11, hf⟩ := z_bpe hf
          refine z_cV (As := [.int (-1000000001 : Int32)]) (rest := []) B hW (f_X11_finds l e11 h0) sc_X11_finds sv_X11_40 h0 ⟨Nat.le_of_ble_eq_true rfl, Nat.le_of_ble_eq_true rfl⟩ ⟨Nat.zero_le _, Nat.zero_le _⟩ rfl hl.1 rfl (Nat.le_of_ble_eq_true rfl) dX11_count_57 (fun H locs hW => ?_)
          obtain ⟨e1, e2⟩ := z_s2 hf
          subst e1
          subst e2
          exact z_ri B hW dX11_count_60
set_option maxHeartbeats 4000000 in
set_option maxRecDepth 100000 in
theorem f_X11_status (l : Launch) {Γ : Zg} {M : Zm} {l0 : Nat} {l1 : Int32} {r : Int32} {M' : Zm} (hf : X11_status Γ M l0 l1 = some (r, M')) (h0 : z_Is Γ 11 l0) : z_Fn l Γ yX11_status cX11_status 2 (some .int) 1 25 [.ref l0, .int l1] M (some (.int r)) M' := by
  refine z_Fn.of (by decide) (Nat.le_of_ble_eq_true rfl) ?_
  intro p e s m below meth c ls B hW hl
  have B : z_Bd Γ p s m _ meth c cX11_status 2 (some .int) RX11 := B
  have hl : lv_has ls 2 [(0, .ref l0), (1, .int l1)] := hl
  rw [X11_status] at hf
  have hx := B.1
  have hb := B.2.1
  have hml := B.2.2.1
  have ho := B.2.2.2.1
  have hw := B.2.2.2.2.1
  have hE := B.2.2.2.2.2.1.2.2
  have hg := B.2.2.2.2.2.2.1
  refine lv_iload_n hx hb dX11_status_0 rfl (lv_at hl 1 rfl) ?_
  refine lv_i2l hx hb dX11_status_1 rfl ?_
  refine lv_ldc2 hx hb ho (hw _ q1004) dX11_status_2 ?_
  refine lv_ldc2 hx hb ho (hw _ q1259) dX11_status_5 ?_
  refine z_cS (As := [.long l1.toInt64, .long (-1 : Int64), .long (6 : Int64)]) (rest := []) B hW (f_X11_isIn l) sc_X11_isIn ⟨q909, q910⟩ ⟨Nat.le_of_ble_eq_true rfl, Nat.le_of_ble_eq_true rfl⟩ ⟨Nat.zero_le _, Nat.zero_le _⟩ rfl hl.1 rfl (Nat.le_of_ble_eq_true rfl) dX11_status_8 (fun H locs hW => ?_)
  refine lv_if_eq (tgt := 25) hx hb dX11_status_11 (by decide) (fun c3 => ?_) (fun c3 => ?_)
  · have hf := z_it c3 hf
    refine lv_aload_n hx hb dX11_status_25 rfl (lv_at hl 0 rfl) ?_
    refine lv_ldc hx hb ho (hw _ q916) dX11_status_26 ?_
    obtain ⟨r4, M5, e6, hf⟩ := z_bpe hf
    refine z_cV (As := [.int (-1000000001 : Int32)]) (rest := []) B hW (f_X11_finds l e6 h0) sc_X11_finds sv_X11_40 h0 ⟨Nat.le_of_ble_eq_true rfl, Nat.le_of_ble_eq_true rfl⟩ ⟨Nat.zero_le _, Nat.zero_le _⟩ rfl hl.1 rfl (Nat.le_of_ble_eq_true rfl) dX11_status_28 (fun H locs hW => ?_)
    obtain ⟨e1, e2⟩ := z_s2 hf
    subst e1
    subst e2
    exact z_ri B hW dX11_status_31
  · have hf := z_if c3 hf
    refine lv_aload_n hx hb dX11_status_14 rfl (lv_at hl 0 rfl) ?_
    refine z_get_11_5 B hW h0 q860 dX11_status_15 ?_
    refine lv_iload_n hx hb dX11_status_18 rfl (lv_at hl 1 rfl) ?_
    refine lv_iconst (v := 1) hx hb dX11_status_19 (by decide) ?_
    refine lv_iadd hx hb dX11_status_20 ?_
    obtain ⟨g7, hf⟩ := z_gd hf
    refine z_ia B hW (z_g11_5 hg h0) g7 dX11_status_21 ?_
    refine lv_goto (tgt := 31) hx hb dX11_status_22 (by decide) ?_
    obtain ⟨e1, e2⟩ := z_s2 hf
    subst e1
    subst e2
    exact z_ri B hW dX11_status_31
end
