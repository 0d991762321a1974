section
variable {Γ : Zg} {p : Program} {l : Launch} {e : Env} {s : State} {m : MethodId} {args : Array Value} {below : List Frame} {meth : Method} {c : Code}
set_option maxHeartbeats 4000000 in
set_option maxRecDepth 100000 in
theorem w_X10_sit_P63 (B : z_Bd Γ p s m args meth c cX10_sit 6 (some .int) RX10) : ∀ (M : Zm) (l0 : Nat) (l1 : Int32) (l2 : Int32) (r : Int32) (M' : Zm), X10_sit_P63 Γ M l0 l1 l2 = some (r, M') → z_Is Γ 10 l0 → ∀ (H : Heap) (locs : List Loc) (ls : Array Slot), z_Wd Γ M s.heap H locs → lv_has ls 6 [(0, .ref l0), (1, .int l1), (2, .int l2)] → W p l e (z_rm 1 22) s m args below meth c H locs 0 0 (z_Q Γ below args s (some (.int r)) M') (F0 m 63 ls []) := by
  have hx := B.1
  have hb := B.2.1
  have hml := B.2.2.1
  have ho := B.2.2.2.1
  have hw := B.2.2.2.2.1
  have hE := B.2.2.2.2.2.1.2.2
  have hg := B.2.2.2.2.2.2.1
  intro M l0 l1 l2 r M' hf h0 H locs ls hW hl
  rw [X10_sit_P63] at hf
  refine lv_aload_n hx hb dX10_sit_63 rfl (lv_at hl 0 rfl) ?_
  refine z_get_10_0 B hW h0 q257 dX10_sit_64 ?_
  refine lv_iload_n hx hb dX10_sit_67 rfl (lv_at hl 1 rfl) ?_
  obtain ⟨r23, e24, hf⟩ := z_bd hf
  refine z_cV (As := [.int l1]) (rest := []) B hW (f_X3_visitor l e24 (z_g10_0 hg h0)) sc_X3_visitor sv_X10_86 (z_g10_0 hg h0) ⟨Nat.le_of_ble_eq_true rfl, Nat.le_of_ble_eq_true rfl⟩ ⟨Nat.zero_le _, Nat.zero_le _⟩ rfl hl.1 rfl (Nat.le_of_ble_eq_true rfl) dX10_sit_68 (fun H locs hW => ?_)
  refine lv_astore (lv' := [(4, .ref r23), (0, .ref l0), (1, .int l1), (2, .int l2)]) hx hb dX10_sit_71 hl (by decide) rfl (fun ls hl => ?_)
  refine lv_aload hx hb dX10_sit_73 (lv_at hl 0 rfl) ?_
  refine z_getN_8_3 B hW (h_X3_visitor hg e24 (z_g10_0 hg h0)) q164 dX10_sit_75 ?_
  refine lv_istore (lv' := [(5, .int (M.1 r23 3)), (4, .ref r23), (0, .ref l0), (1, .int l1), (2, .int l2)]) hx hb dX10_sit_78 hl (by decide) rfl (fun ls hl => ?_)
  refine lv_aload hx hb dX10_sit_80 (lv_at hl 1 rfl) ?_
  refine lv_iload_n hx hb dX10_sit_82 rfl (lv_at hl 4 rfl) ?_
  obtain ⟨M26, e27, hf⟩ := z_le hf
  refine z_cV (As := [.int l2]) (rest := []) B hW (f_X8_settle l e27 (h_X3_visitor hg e24 (z_g10_0 hg h0))) sc_X8_settle sv_X10_148 (h_X3_visitor hg e24 (z_g10_0 hg h0)) ⟨Nat.le_of_ble_eq_true rfl, Nat.le_of_ble_eq_true rfl⟩ ⟨Nat.zero_le _, Nat.zero_le _⟩ rfl hl.1 rfl (Nat.le_of_ble_eq_true rfl) dX10_sit_83 (fun H locs hW => ?_)
  refine lv_iload hx hb dX10_sit_86 (lv_at hl 0 rfl) ?_
  obtain ⟨e1, e2⟩ := z_s2 hf
  subst e1
  subst e2
  exact z_ri B hW dX10_sit_88
set_option maxHeartbeats 4000000 in
set_option maxRecDepth 100000 in
theorem w_X10_sit_P45 (B : z_Bd Γ p s m args meth c cX10_sit 6 (some .int) RX10) : ∀ (M : Zm) (l0 : Nat) (l1 : Int32) (l2 : Int32) (s0 : Int32) (r : Int32) (M' : Zm), X10_sit_P45 Γ M l0 l1 l2 s0 = some (r, M') → z_Is Γ 10 l0 → ∀ (H : Heap) (locs : List Loc) (ls : Array Slot), z_Wd Γ M s.heap H locs → lv_has ls 6 [(0, .ref l0), (1, .int l1), (2, .int l2)] → W p l e (z_rm 1 22) s m args below meth c H locs 0 0 (z_Q Γ below args s (some (.int r)) M') (F0 m 45 ls [.int s0]) := by
  have hx := B.1
  have hb := B.2.1
  have hml := B.2.2.1
  have ho := B.2.2.2.1
  have hw := B.2.2.2.2.1
  have hE := B.2.2.2.2.2.1.2.2
  have hg := B.2.2.2.2.2.2.1
  intro M l0 l1 l2 s0 r M' hf h0 H locs ls hW hl
  rw [X10_sit_P45] at hf
  refine lv_istore_n (lv' := [(3, .int s0), (0, .ref l0), (1, .int l1), (2, .int l2)]) hx hb dX10_sit_45 rfl hl (by decide) rfl (fun ls hl => ?_)
  refine lv_iload_n hx hb dX10_sit_46 rfl (lv_at hl 0 rfl) ?_
  refine lv_iconst (v := -1) hx hb dX10_sit_47 (by decide) ?_
  refine lv_icmp_eq (tgt := 63) hx hb dX10_sit_48 (by decide) (fun c18 => ?_) (fun c18 => ?_)
  · have hf := z_it c18 hf
    exact w_X10_sit_P63 B M l0 l1 l2 _ _ hf h0 _ _ _ hW (lv_sub hl [1, 2, 3] rfl)
  · have hf := z_if c18 hf
    refine lv_iload_n hx hb dX10_sit_51 rfl (lv_at hl 0 rfl) ?_
    refine lv_iload_n hx hb dX10_sit_52 rfl (lv_at hl 2 rfl) ?_
    refine lv_icmp_eq (tgt := 63) hx hb dX10_sit_53 (by decide) (fun c19 => ?_) (fun c19 => ?_)
    · have hf := z_it c19 hf
      exact w_X10_sit_P63 B M l0 l1 l2 _ _ hf h0 _ _ _ hW (lv_sub hl [1, 2, 3] rfl)
    · have hf := z_if c19 hf
      refine lv_aload_n hx hb dX10_sit_56 rfl (lv_at hl 1 rfl) ?_
      refine lv_ldc hx hb ho (hw _ q456) dX10_sit_57 ?_
      obtain ⟨r20, M21, e22, hf⟩ := z_bpe hf
      refine z_cV (As := [.int (-1000000005 : Int32)]) (rest := []) B hW (f_X10_finding l e22 h0) sc_X10_finding sv_X10_72 h0 ⟨Nat.le_of_ble_eq_true rfl, Nat.le_of_ble_eq_true rfl⟩ ⟨Nat.zero_le _, Nat.zero_le _⟩ rfl hl.1 rfl (Nat.le_of_ble_eq_true rfl) dX10_sit_59 (fun H locs hW => ?_)
      obtain ⟨e1, e2⟩ := z_s2 hf
      subst e1
      subst e2
      exact z_ri B hW dX10_sit_62
set_option maxHeartbeats 4000000 in
set_option maxRecDepth 100000 in
theorem f_X10_sit (l : Launch) {Γ : Zg} {M : Zm} {l0 : Nat} {l1 : Int32} {l2 : Int32} {r : Int32} {M' : Zm} (hf : X10_sit Γ M l0 l1 l2 = some (r, M')) (h0 : z_Is Γ 10 l0) : z_Fn l Γ yX10_sit cX10_sit 6 (some .int) 1 22 [.ref l0, .int l1, .int l2] M (some (.int r)) M' := by
  refine z_Fn.of (by decide) (Nat.le_of_ble_eq_true rfl) ?_
  intro p e s m below meth c ls B hW hl
  have B : z_Bd Γ p s m _ meth c cX10_sit 6 (some .int) RX10 := B
  have hl : lv_has ls 6 [(0, .ref l0), (1, .int l1), (2, .int l2)] := hl
  rw [X10_sit] at hf
  have hx := B.1
  have hb := B.2.1
  have hml := B.2.2.1
  have ho := B.2.2.2.1
  have hw := B.2.2.2.2.1
  have hE := B.2.2.2.2.2.1.2.2
  have hg := B.2.2.2.2.2.2.1
  refine lv_aload_n hx hb dX10_sit_0 rfl (lv_at hl 0 rfl) ?_
  refine z_get_10_0 B hW h0 q257 dX10_sit_1 ?_
  refine lv_iload_n hx hb dX10_sit_4 rfl (lv_at hl 1 rfl) ?_
  refine z_cV (As := [.int l1]) (rest := []) B hW (f_X3_has l (z_g10_0 hg h0)) sc_X3_has sv_X10_109 (z_g10_0 hg h0) ⟨Nat.le_of_ble_eq_true rfl, Nat.le_of_ble_eq_true rfl⟩ ⟨Nat.zero_le _, Nat.zero_le _⟩ rfl hl.1 rfl (Nat.le_of_ble_eq_true rfl) dX10_sit_5 (fun H locs hW => ?_)
  refine lv_if_eq (tgt := 21) hx hb dX10_sit_8 (by decide) (fun c3 => ?_) (fun c3 => ?_)
  · have hf := z_it c3 hf
    refine lv_aload_n hx hb dX10_sit_21 rfl (lv_at hl 0 rfl) ?_
    refine lv_ldc hx hb ho (hw _ q289) dX10_sit_22 ?_
    obtain ⟨r4, M5, e6, hf⟩ := z_bpe hf
    refine z_cV (As := [.int (-1000000001 : Int32)]) (rest := []) B hW (f_X10_finding l e6 h0) sc_X10_finding sv_X10_72 h0 ⟨Nat.le_of_ble_eq_true rfl, Nat.le_of_ble_eq_true rfl⟩ ⟨Nat.zero_le _, Nat.zero_le _⟩ rfl hl.1 rfl (Nat.le_of_ble_eq_true rfl) dX10_sit_24 (fun H locs hW => ?_)
    obtain ⟨e1, e2⟩ := z_s2 hf
    subst e1
    subst e2
    exact z_ri B hW dX10_sit_27
  · have hf := z_if c3 hf
    refine lv_iload_n hx hb dX10_sit_11 rfl (lv_at hl 2 rfl) ?_
    refine lv_iconst (v := -1) hx hb dX10_sit_12 (by decide) ?_
    refine lv_icmp_lt (tgt := 21) hx hb dX10_sit_13 (by decide) (fun c7 => ?_) (fun c7 => ?_)
    · have hf := z_it c7 hf
      refine lv_aload_n hx hb dX10_sit_21 rfl (lv_at hl 0 rfl) ?_
      refine lv_ldc hx hb ho (hw _ q289) dX10_sit_22 ?_
      obtain ⟨r8, M9, e10, hf⟩ := z_bpe hf
      refine z_cV (As := [.int (-1000000001 : Int32)]) (rest := []) B hW (f_X10_finding l e10 h0) sc_X10_finding sv_X10_72 h0 ⟨Nat.le_of_ble_eq_true rfl, Nat.le_of_ble_eq_true rfl⟩ ⟨Nat.zero_le _, Nat.zero_le _⟩ rfl hl.1 rfl (Nat.le_of_ble_eq_true rfl) dX10_sit_24 (fun H locs hW => ?_)
      obtain ⟨e1, e2⟩ := z_s2 hf
      subst e1
      subst e2
      exact z_ri B hW dX10_sit_27
    · have hf := z_if c7 hf
      refine lv_iload_n hx hb dX10_sit_16 rfl (lv_at hl 2 rfl) ?_
      refine lv_iconst (v := 2) hx hb dX10_sit_17 (by decide) ?_
      refine lv_icmp_lt (tgt := 28) hx hb dX10_sit_18 (by decide) (fun c11 => ?_) (fun c11 => ?_)
      · have hf := z_it c11 hf
        refine lv_iload_n hx hb dX10_sit_28 rfl (lv_at hl 2 rfl) ?_
        refine lv_iconst (v := -1) hx hb dX10_sit_29 (by decide) ?_
        refine lv_icmp_ne (tgt := 37) hx hb dX10_sit_30 (by decide) (fun c12 => ?_) (fun c12 => ?_)
        · have hf := z_if c12 hf
          refine lv_aload_n hx hb dX10_sit_37 rfl (lv_at hl 0 rfl) ?_
          refine z_get_10_0 B hW h0 q257 dX10_sit_38 ?_
          refine lv_iload_n hx hb dX10_sit_41 rfl (lv_at hl 2 rfl) ?_
          obtain ⟨r13, e14, hf⟩ := z_bd hf
          refine z_cV (As := [.int l2]) (rest := []) B hW (f_X3_holder l e14 (z_g10_0 hg h0)) sc_X3_holder sv_X10_144 (z_g10_0 hg h0) ⟨Nat.le_of_ble_eq_true rfl, Nat.le_of_ble_eq_true rfl⟩ ⟨Nat.zero_le _, Nat.zero_le _⟩ rfl hl.1 rfl (Nat.le_of_ble_eq_true rfl) dX10_sit_42 (fun H locs hW => ?_)
          exact w_X10_sit_P45 B M l0 l1 l2 r13 _ _ hf h0 _ _ _ hW (lv_sub hl [0, 1, 2] rfl)
        · have hf := z_it c12 hf
          refine lv_iconst (v := -1) hx hb dX10_sit_33 (by decide) ?_
          refine lv_goto (tgt := 45) hx hb dX10_sit_34 (by decide) ?_
          exact w_X10_sit_P45 B M l0 l1 l2 (-1 : Int32) _ _ hf h0 _ _ _ hW (lv_sub hl [0, 1, 2] rfl)
      · have hf := z_if c11 hf
        refine lv_aload_n hx hb dX10_sit_21 rfl (lv_at hl 0 rfl) ?_
        refine lv_ldc hx hb ho (hw _ q289) dX10_sit_22 ?_
        obtain ⟨r15, M16, e17, hf⟩ := z_bpe hf
        refine z_cV (As := [.int (-1000000001 : Int32)]) (rest := []) B hW (f_X10_finding l e17 h0) sc_X10_finding sv_X10_72 h0 ⟨Nat.le_of_ble_eq_true rfl, Nat.le_of_ble_eq_true rfl⟩ ⟨Nat.zero_le _, Nat.zero_le _⟩ rfl hl.1 rfl (Nat.le_of_ble_eq_true rfl) dX10_sit_24 (fun H locs hW => ?_)
        obtain ⟨e1, e2⟩ := z_s2 hf
        subst e1
        subst e2
        exact z_ri B hW dX10_sit_27
set_option maxHeartbeats 4000000 in
set_option maxRecDepth 100000 in
theorem f_X10_trusts (l : Launch) {Γ : Zg} {M : Zm} {l0 : Nat} {l1 : Int32} {l2 : Int32} {r : Int32} {M' : Zm} (hf : X10_trusts Γ M l0 l1 l2 = some (r, M')) (h0 : z_Is Γ 10 l0) : z_Fn l Γ yX10_trusts cX10_trusts 3 (some .int) 4 89 [.ref l0, .int l1, .int l2] M (some (.int r)) M' := by
  refine z_Fn.of (by decide) (Nat.le_of_ble_eq_true rfl) ?_
  intro p e s m below meth c ls B hW hl
  have B : z_Bd Γ p s m _ meth c cX10_trusts 3 (some .int) RX10 := B
  have hl : lv_has ls 3 [(0, .ref l0), (1, .int l1), (2, .int l2)] := hl
  rw [X10_trusts] at hf
  have hx := B.1
  have hb := B.2.1
  have hml := B.2.2.1
  have ho := B.2.2.2.1
  have hw := B.2.2.2.2.1
  have hE := B.2.2.2.2.2.1.2.2
  have hg := B.2.2.2.2.2.2.1
  refine lv_aload_n hx hb dX10_trusts_0 rfl (lv_at hl 0 rfl) ?_
  refine z_get_10_0 B hW h0 q257 dX10_trusts_1 ?_
  refine lv_iload_n hx hb dX10_trusts_4 rfl (lv_at hl 1 rfl) ?_
  refine z_cV (As := [.int l1]) (rest := []) B hW (f_X3_has l (z_g10_0 hg h0)) sc_X3_has sv_X10_109 (z_g10_0 hg h0) ⟨Nat.le_of_ble_eq_true rfl, Nat.le_of_ble_eq_true rfl⟩ ⟨Nat.zero_le _, Nat.zero_le _⟩ rfl hl.1 rfl (Nat.le_of_ble_eq_true rfl) dX10_trusts_5 (fun H locs hW => ?_)
  refine lv_if_eq (tgt := 18) hx hb dX10_trusts_8 (by decide) (fun c3 => ?_) (fun c3 => ?_)
  · have hf := z_it c3 hf
    refine lv_aload_n hx hb dX10_trusts_18 rfl (lv_at hl 0 rfl) ?_
    refine lv_ldc hx hb ho (hw _ q289) dX10_trusts_19 ?_
    obtain ⟨r4, M5, e6, hf⟩ := z_bpe hf
    refine z_cV (As := [.int (-1000000001 : Int32)]) (rest := []) B hW (f_X10_finding l e6 h0) sc_X10_finding sv_X10_72 h0 ⟨Nat.le_of_ble_eq_true rfl, Nat.le_of_ble_eq_true rfl⟩ ⟨Nat.zero_le _, Nat.zero_le _⟩ rfl hl.1 rfl (Nat.le_of_ble_eq_true rfl) dX10_trusts_21 (fun H locs hW => ?_)
    obtain ⟨e1, e2⟩ := z_s2 hf
    subst e1
    subst e2
    exact z_ri B hW dX10_trusts_24
  · have hf := z_if c3 hf
    refine lv_iload_n hx hb dX10_trusts_11 rfl (lv_at hl 2 rfl) ?_
    refine z_cS (As := [.int l2]) (rest := []) B hW (f_X10_isSecret l) sc_X10_isSecret ⟨q298, q299⟩ ⟨Nat.le_of_ble_eq_true rfl, Nat.le_of_ble_eq_true rfl⟩ ⟨Nat.zero_le _, Nat.zero_le _⟩ rfl hl.1 rfl (Nat.le_of_ble_eq_true rfl) dX10_trusts_12 (fun H locs hW => ?_)
    refine lv_if_ne (tgt := 25) hx hb dX10_trusts_15 (by decide) (fun c9 => ?_) (fun c9 => ?_)
    · have hf := z_if c9 hf
      refine lv_aload_n hx hb dX10_trusts_25 rfl (lv_at hl 0 rfl) ?_
      refine z_get_10_0 B hW h0 q257 dX10_trusts_26 ?_
      refine lv_iload_n hx hb dX10_trusts_29 rfl (lv_at hl 1 rfl) ?_
      refine lv_iload_n hx hb dX10_trusts_30 rfl (lv_at hl 2 rfl) ?_
      obtain ⟨r10, e11, hf⟩ := z_bd hf
      refine z_cV (As := [.int l1, .int l2]) (rest := []) B hW (f_X3_isTrusted l e11 (z_g10_0 hg h0)) sc_X3_isTrusted sv_X10_152 (z_g10_0 hg h0) ⟨Nat.le_of_ble_eq_true rfl, Nat.le_of_ble_eq_true rfl⟩ ⟨Nat.zero_le _, Nat.zero_le _⟩ rfl hl.1 rfl (Nat.le_of_ble_eq_true rfl) dX10_trusts_31 (fun H locs hW => ?_)
      refine lv_if_eq (tgt := 41) hx hb dX10_trusts_34 (by decide) (fun c12 => ?_) (fun c12 => ?_)
      · have hf := z_it c12 hf
        refine lv_iconst (v := 0) hx hb dX10_trusts_41 (by decide) ?_
        obtain ⟨e1, e2⟩ := z_s2 hf
        subst e1
        subst e2
        exact z_ri B hW dX10_trusts_42
      · have hf := z_if c12 hf
        refine lv_iconst (v := 1) hx hb dX10_trusts_37 (by decide) ?_
        refine lv_goto (tgt := 42) hx hb dX10_trusts_38 (by decide) ?_
        obtain ⟨e1, e2⟩ := z_s2 hf
        subst e1
        subst e2
        exact z_ri B hW dX10_trusts_42
    · have hf := z_it c9 hf
      refine lv_aload_n hx hb dX10_trusts_18 rfl (lv_at hl 0 rfl) ?_
      refine lv_ldc hx hb ho (hw _ q289) dX10_trusts_19 ?_
      obtain ⟨r13, M14, e15, hf⟩ := z_bpe hf
      refine z_cV (As := [.int (-1000000001 : Int32)]) (rest := []) B hW (f_X10_finding l e15 h0) sc_X10_finding sv_X10_72 h0 ⟨Nat.le_of_ble_eq_true rfl, Nat.le_of_ble_eq_true rfl⟩ ⟨Nat.zero_le _, Nat.zero_le _⟩ rfl hl.1 rfl (Nat.le_of_ble_eq_true rfl) dX10_trusts_21 (fun H locs hW => ?_)
      obtain ⟨e1, e2⟩ := z_s2 hf
      subst e1
      subst e2
      exact z_ri B hW dX10_trusts_24
set_option maxHeartbeats 4000000 in
set_option maxRecDepth 100000 in
theorem f_X10_hours (l : Launch) {Γ : Zg} {M : Zm} {l0 : Nat} {l1 : Int32} {r : Int32} {M' : Zm} (hf : X10_hours Γ M l0 l1 = some (r, M')) (h0 : z_Is Γ 10 l0) : z_Fn l Γ yX10_hours cX10_hours 2 (some .int) 6 139 [.ref l0, .int l1] M (some (.int r)) M' := by
  refine z_Fn.of (by decide) (Nat.le_of_ble_eq_true rfl) ?_
  intro p e s m below meth c ls B hW hl
  have B : z_Bd Γ p s m _ meth c cX10_hours 2 (some .int) RX10 := B
  have hl : lv_has ls 2 [(0, .ref l0), (1, .int l1)] := hl
  rw [X10_hours] at hf
  have hx := B.1
  have hb := B.2.1
  have hml := B.2.2.1
  have ho := B.2.2.2.1
  have hw := B.2.2.2.2.1
  have hE := B.2.2.2.2.2.1.2.2
  have hg := B.2.2.2.2.2.2.1
  refine lv_iload_n hx hb dX10_hours_0 rfl (lv_at hl 1 rfl) ?_
  refine lv_iconst (v := 1) hx hb dX10_hours_1 (by decide) ?_
  refine lv_icmp_lt (tgt := 11) hx hb dX10_hours_2 (by decide) (fun c1 => ?_) (fun c1 => ?_)
  · have hf := z_it c1 hf
    refine lv_aload_n hx hb dX10_hours_11 rfl (lv_at hl 0 rfl) ?_
    refine lv_ldc hx hb ho (hw _ q289) dX10_hours_12 ?_
    obtain ⟨r2, M3, e4, hf⟩ := z_bpe hf
    refine z_cV (As := [.int (-1000000001 : Int32)]) (rest := []) B hW (f_X10_finding l e4 h0) sc_X10_finding sv_X10_72 h0 ⟨Nat.le_of_ble_eq_true rfl, Nat.le_of_ble_eq_true rfl⟩ ⟨Nat.zero_le _, Nat.zero_le _⟩ rfl hl.1 rfl (Nat.le_of_ble_eq_true rfl) dX10_hours_14 (fun H locs hW => ?_)
    obtain ⟨e1, e2⟩ := z_s2 hf
    subst e1
    subst e2
    exact z_ri B hW dX10_hours_17
  · have hf := z_if c1 hf
    refine lv_iload_n hx hb dX10_hours_5 rfl (lv_at hl 1 rfl) ?_
    refine lv_bipush (v := 100) hx hb dX10_hours_6 (by decide) ?_
    refine lv_icmp_le (tgt := 18) hx hb dX10_hours_8 (by decide) (fun c5 => ?_) (fun c5 => ?_)
    · have hf := z_it c5 hf
      refine lv_aload_n hx hb dX10_hours_18 rfl (lv_at hl 0 rfl) ?_
      refine z_get_10_0 B hW h0 q257 dX10_hours_19 ?_
      refine z_getN_3_4 B hW (z_g10_0 hg h0) q193 dX10_hours_22 ?_
      refine lv_ldc hx hb ho (hw _ q492) dX10_hours_25 ?_
      refine lv_iload_n hx hb dX10_hours_27 rfl (lv_at hl 1 rfl) ?_
      refine lv_isub hx hb dX10_hours_28 ?_
      refine lv_icmp_le (tgt := 39) hx hb dX10_hours_29 (by decide) (fun c6 => ?_) (fun c6 => ?_)
      · have hf := z_it c6 hf
        refine lv_aload_n hx hb dX10_hours_39 rfl (lv_at hl 0 rfl) ?_
        refine z_get_10_0 B hW h0 q257 dX10_hours_40 ?_
        refine lv_iload_n hx hb dX10_hours_43 rfl (lv_at hl 1 rfl) ?_
        obtain ⟨M8, e9, hf⟩ := z_bd hf
        refine z_cV (As := [.int l1]) (rest := []) B hW (f_X3_letHoursGo l e9 (z_g10_0 hg h0)) sc_X3_letHoursGo sv_X10_159 (z_g10_0 hg h0) ⟨Nat.le_of_ble_eq_true rfl, Nat.le_of_ble_eq_true rfl⟩ ⟨Nat.zero_le _, Nat.zero_le _⟩ rfl hl.1 rfl (Nat.le_of_ble_eq_true rfl) dX10_hours_44 (fun H locs hW => ?_)
        refine lv_aload_n hx hb dX10_hours_47 rfl (lv_at hl 0 rfl) ?_
        refine z_get_10_0 B hW h0 q257 dX10_hours_48 ?_
        obtain ⟨r10, e11, hf⟩ := z_bd hf
        refine z_cV (As := []) (rest := []) B hW (f_X3_heardByAll l e11 (z_g10_0 hg h0)) sc_X3_heardByAll sv_X10_162 (z_g10_0 hg h0) ⟨Nat.le_of_ble_eq_true rfl, Nat.le_of_ble_eq_true rfl⟩ ⟨Nat.zero_le _, Nat.zero_le _⟩ rfl hl.1 rfl (Nat.le_of_ble_eq_true rfl) dX10_hours_51 (fun H locs hW => ?_)
        obtain ⟨e1, e2⟩ := z_s2 hf
        subst e1
        subst e2
        exact z_ri B hW dX10_hours_54
      · have hf := z_if c6 hf
        refine lv_aload_n hx hb dX10_hours_32 rfl (lv_at hl 0 rfl) ?_
        refine lv_ldc hx hb ho (hw _ q456) dX10_hours_33 ?_
        obtain ⟨r12, M13, e14, hf⟩ := z_bpe hf
        refine z_cV (As := [.int (-1000000005 : Int32)]) (rest := []) B hW (f_X10_finding l e14 h0) sc_X10_finding sv_X10_72 h0 ⟨Nat.le_of_ble_eq_true rfl, Nat.le_of_ble_eq_true rfl⟩ ⟨Nat.zero_le _, Nat.zero_le _⟩ rfl hl.1 rfl (Nat.le_of_ble_eq_true rfl) dX10_hours_35 (fun H locs hW => ?_)
        obtain ⟨e1, e2⟩ := z_s2 hf
        subst e1
        subst e2
        exact z_ri B hW dX10_hours_38
    · have hf := z_if c5 hf
      refine lv_aload_n hx hb dX10_hours_11 rfl (lv_at hl 0 rfl) ?_
      refine lv_ldc hx hb ho (hw _ q289) dX10_hours_12 ?_
      obtain ⟨r15, M16, e17, hf⟩ := z_bpe hf
      refine z_cV (As := [.int (-1000000001 : Int32)]) (rest := []) B hW (f_X10_finding l e17 h0) sc_X10_finding sv_X10_72 h0 ⟨Nat.le_of_ble_eq_true rfl, Nat.le_of_ble_eq_true rfl⟩ ⟨Nat.zero_le _, Nat.zero_le _⟩ rfl hl.1 rfl (Nat.le_of_ble_eq_true rfl) dX10_hours_14 (fun H locs hW => ?_)
      obtain ⟨e1, e2⟩ := z_s2 hf
      subst e1
      subst e2
      exact z_ri B hW dX10_hours_17
set_option maxHeartbeats 4000000 in
set_option maxRecDepth 100000 in
theorem f_X10_now (l : Launch) {Γ : Zg} {M : Zm} {l0 : Nat} {l1 : Int32} {r : Int32} {M' : Zm} (hf : X10_now Γ M l0 l1 = some (r, M')) (h0 : z_Is Γ 10 l0) : z_Fn l Γ yX10_now cX10_now 2 (some .int) 1 22 [.ref l0, .int l1] M (some (.int r)) M' := by
  refine z_Fn.of (by decide) (Nat.le_of_ble_eq_true rfl) ?_
  intro p e s m below meth c ls B hW hl
  have B : z_Bd Γ p s m _ meth c cX10_now 2 (some .int) RX10 := B
  have hl : lv_has ls 2 [(0, .ref l0), (1, .int l1)] := hl
  rw [X10_now] at hf
  have hx := B.1
  have hb := B.2.1
  have hml := B.2.2.1
  have ho := B.2.2.2.1
  have hw := B.2.2.2.2.1
  have hE := B.2.2.2.2.2.1.2.2
  have hg := B.2.2.2.2.2.2.1
  refine lv_iload_n hx hb dX10_now_0 rfl (lv_at hl 1 rfl) ?_
  by_cases c1 : l1 = (0 : Int32)
  · have hf := z_it c1 hf
    refine lv_tableIn (off := 47) (tgt := 48) hx hb dX10_now_1 (by rw [c1]; decide) (by rw [c1]; decide) (by rw [c1]; decide) (by decide) ?_
    refine lv_aload_n hx hb dX10_now_48 rfl (lv_at hl 0 rfl) ?_
    refine z_get_10_0 B hW h0 q257 dX10_now_49 ?_
    refine z_getN_3_4 B hW (z_g10_0 hg h0) q193 dX10_now_52 ?_
    obtain ⟨e1, e2⟩ := z_s2 hf
    subst e1
    subst e2
    exact z_ri B hW dX10_now_55
  · have hf := z_if c1 hf
    by_cases c2 : l1 = (1 : Int32)
    · have hf := z_it c2 hf
      refine lv_tableIn (off := 55) (tgt := 56) hx hb dX10_now_1 (by rw [c2]; decide) (by rw [c2]; decide) (by rw [c2]; decide) (by decide) ?_
      refine lv_aload_n hx hb dX10_now_56 rfl (lv_at hl 0 rfl) ?_
      refine z_get_10_0 B hW h0 q257 dX10_now_57 ?_
      refine z_cV (As := []) (rest := []) B hW (f_X3_hourOfDay l (z_g10_0 hg h0)) sc_X3_hourOfDay sv_X10_166 (z_g10_0 hg h0) ⟨Nat.le_of_ble_eq_true rfl, Nat.le_of_ble_eq_true rfl⟩ ⟨Nat.zero_le _, Nat.zero_le _⟩ rfl hl.1 rfl (Nat.le_of_ble_eq_true rfl) dX10_now_60 (fun H locs hW => ?_)
      obtain ⟨e1, e2⟩ := z_s2 hf
      subst e1
      subst e2
      exact z_ri B hW dX10_now_63
    · have hf := z_if c2 hf
      by_cases c5 : l1 = (2 : Int32)
      · have hf := z_it c5 hf
        refine lv_tableIn (off := 63) (tgt := 64) hx hb dX10_now_1 (by rw [c5]; decide) (by rw [c5]; decide) (by rw [c5]; decide) (by decide) ?_
        refine lv_aload_n hx hb dX10_now_64 rfl (lv_at hl 0 rfl) ?_
        refine z_get_10_0 B hW h0 q257 dX10_now_65 ?_
        refine z_cV (As := []) (rest := []) B hW (f_X3_isMonday l (z_g10_0 hg h0)) sc_X3_isMonday sv_X10_169 (z_g10_0 hg h0) ⟨Nat.le_of_ble_eq_true rfl, Nat.le_of_ble_eq_true rfl⟩ ⟨Nat.zero_le _, Nat.zero_le _⟩ rfl hl.1 rfl (Nat.le_of_ble_eq_true rfl) dX10_now_68 (fun H locs hW => ?_)
        refine lv_if_eq (tgt := 78) hx hb dX10_now_71 (by decide) (fun c8 => ?_) (fun c8 => ?_)
        · have hf := z_it c8 hf
          refine lv_iconst (v := 0) hx hb dX10_now_78 (by decide) ?_
          obtain ⟨e1, e2⟩ := z_s2 hf
          subst e1
          subst e2
          exact z_ri B hW dX10_now_79
        · have hf := z_if c8 hf
          refine lv_iconst (v := 1) hx hb dX10_now_74 (by decide) ?_
          refine lv_goto (tgt := 79) hx hb dX10_now_75 (by decide) ?_
          obtain ⟨e1, e2⟩ := z_s2 hf
          subst e1
          subst e2
          exact z_ri B hW dX10_now_79
      · have hf := z_if c5 hf
        by_cases c9 : l1 = (3 : Int32)
        · have hf := z_it c9 hf
          refine lv_tableIn (off := 79) (tgt := 80) hx hb dX10_now_1 (by rw [c9]; decide) (by rw [c9]; decide) (by rw [c9]; decide) (by decide) ?_
          refine lv_aload_n hx hb dX10_now_80 rfl (lv_at hl 0 rfl) ?_
          refine z_get_10_0 B hW h0 q257 dX10_now_81 ?_
          refine lv_iconst (v := 0) hx hb dX10_now_84 (by decide) ?_
          obtain ⟨r10, e11, hf⟩ := z_bd hf
          refine z_cV (As := [.int (0 : Int32)]) (rest := []) B hW (f_X3_holder l e11 (z_g10_0 hg h0)) sc_X3_holder sv_X10_144 (z_g10_0 hg h0) ⟨Nat.le_of_ble_eq_true rfl, Nat.le_of_ble_eq_true rfl⟩ ⟨Nat.zero_le _, Nat.zero_le _⟩ rfl hl.1 rfl (Nat.le_of_ble_eq_true rfl) dX10_now_85 (fun H locs hW => ?_)
          obtain ⟨e1, e2⟩ := z_s2 hf
          subst e1
          subst e2
          exact z_ri B hW dX10_now_88
        · have hf := z_if c9 hf
          by_cases c12 : l1 = (4 : Int32)
          · have hf := z_it c12 hf
            refine lv_tableIn (off := 88) (tgt := 89) hx hb dX10_now_1 (by rw [c12]; decide) (by rw [c12]; decide) (by rw [c12]; decide) (by decide) ?_
            refine lv_aload_n hx hb dX10_now_89 rfl (lv_at hl 0 rfl) ?_
            refine z_get_10_0 B hW h0 q257 dX10_now_90 ?_
            refine lv_iconst (v := 1) hx hb dX10_now_93 (by decide) ?_
            obtain ⟨r13, e14, hf⟩ := z_bd hf
            refine z_cV (As := [.int (1 : Int32)]) (rest := []) B hW (f_X3_holder l e14 (z_g10_0 hg h0)) sc_X3_holder sv_X10_144 (z_g10_0 hg h0) ⟨Nat.le_of_ble_eq_true rfl, Nat.le_of_ble_eq_true rfl⟩ ⟨Nat.zero_le _, Nat.zero_le _⟩ rfl hl.1 rfl (Nat.le_of_ble_eq_true rfl) dX10_now_94 (fun H locs hW => ?_)
            obtain ⟨e1, e2⟩ := z_s2 hf
            subst e1
            subst e2
            exact z_ri B hW dX10_now_97
          · have hf := z_if c12 hf
            by_cases c15 : l1 = (5 : Int32)
            · have hf := z_it c15 hf
              refine lv_tableIn (off := 97) (tgt := 98) hx hb dX10_now_1 (by rw [c15]; decide) (by rw [c15]; decide) (by rw [c15]; decide) (by decide) ?_
              refine lv_aload_n hx hb dX10_now_98 rfl (lv_at hl 0 rfl) ?_
              refine z_get_10_0 B hW h0 q257 dX10_now_99 ?_
              obtain ⟨r16, e17, hf⟩ := z_bd hf
              refine z_cV (As := []) (rest := []) B hW (f_X3_knownToAll l e17 (z_g10_0 hg h0)) sc_X3_knownToAll sv_X10_172 (z_g10_0 hg h0) ⟨Nat.le_of_ble_eq_true rfl, Nat.le_of_ble_eq_true rfl⟩ ⟨Nat.zero_le _, Nat.zero_le _⟩ rfl hl.1 rfl (Nat.le_of_ble_eq_true rfl) dX10_now_102 (fun H locs hW => ?_)
              obtain ⟨e1, e2⟩ := z_s2 hf
              subst e1
              subst e2
              exact z_ri B hW dX10_now_105
            · have hf := z_if c15 hf
              by_cases c18 : l1 = (6 : Int32)
              · have hf := z_it c18 hf
                refine lv_tableIn (off := 105) (tgt := 106) hx hb dX10_now_1 (by rw [c18]; decide) (by rw [c18]; decide) (by rw [c18]; decide) (by decide) ?_
                refine lv_aload_n hx hb dX10_now_106 rfl (lv_at hl 0 rfl) ?_
                refine z_get_10_0 B hW h0 q257 dX10_now_107 ?_
                refine z_getN_3_3 B hW (z_g10_0 hg h0) q190 dX10_now_110 ?_
                obtain ⟨e1, e2⟩ := z_s2 hf
                subst e1
                subst e2
                exact z_ri B hW dX10_now_113
              · have hf := z_if c18 hf
                by_cases c19 : l1 = (7 : Int32)
                · have hf := z_it c19 hf
                  refine lv_tableIn (off := 113) (tgt := 114) hx hb dX10_now_1 (by rw [c19]; decide) (by rw [c19]; decide) (by rw [c19]; decide) (by decide) ?_
                  refine lv_aload_n hx hb dX10_now_114 rfl (lv_at hl 0 rfl) ?_
                  refine z_get_10_0 B hW h0 q257 dX10_now_115 ?_
                  refine z_getN_3_5 B hW (z_g10_0 hg h0) q195 dX10_now_118 ?_
                  obtain ⟨e1, e2⟩ := z_s2 hf
                  subst e1
                  subst e2
                  exact z_ri B hW dX10_now_121
                · have hf := z_if c19 hf
                  have hsw : l1.toInt < 0 ∨ 7 < l1.toInt := by
                    have ec1 := z_nei 0 (by decide) c1
                    have ec2 := z_nei 1 (by decide) c2
                    have ec5 := z_nei 2 (by decide) c5
                    have ec9 := z_nei 3 (by decide) c9
                    have ec12 := z_nei 4 (by decide) c12
                    have ec15 := z_nei 5 (by decide) c15
                    have ec18 := z_nei 6 (by decide) c18
                    have ec19 := z_nei 7 (by decide) c19
                    omega
                  refine lv_tableOut (tgt := 122) hx hb dX10_now_1 hsw (by decide) ?_
                  refine lv_aload_n hx hb dX10_now_122 rfl (lv_at hl 0 rfl) ?_
                  refine lv_ldc hx hb ho (hw _ q289) dX10_now_123 ?_
                  obtain ⟨r20, M21, e22, hf⟩ := z_bpe hf
                  refine z_cV (As := [.int (-1000000001 : Int32)]) (rest := []) B hW (f_X10_finding l e22 h0) sc_X10_finding sv_X10_72 h0 ⟨Nat.le_of_ble_eq_true rfl, Nat.le_of_ble_eq_true rfl⟩ ⟨Nat.zero_le _, Nat.zero_le _⟩ rfl hl.1 rfl (Nat.le_of_ble_eq_true rfl) dX10_now_125 (fun H locs hW => ?_)
                  obtain ⟨e1, e2⟩ := z_s2 hf
                  subst e1
                  subst e2
                  exact z_ri B hW dX10_now_128
set_option maxHeartbeats 4000000 in
set_option maxRecDepth 100000 in
theorem f_X10_on (l : Launch) {Γ : Zg} {M : Zm} {l0 : Nat} {l1 : Int32} {l2 : Int32} {l3 : Int32} {r : Int32} {M' : Zm} (hf : X10_on Γ M l0 l1 l2 l3 = some (r, M')) (h0 : z_Is Γ 10 l0) : z_Fn l Γ yX10_on cX10_on 5 (some .int) 6 139 [.ref l0, .int l1, .int l2, .int l3] M (some (.int r)) M' := by
  refine z_Fn.of (by decide) (Nat.le_of_ble_eq_true rfl) ?_
  intro p e s m below meth c ls B hW hl
  have B : z_Bd Γ p s m _ meth c cX10_on 5 (some .int) RX10 := B
  have hl : lv_has ls 5 [(0, .ref l0), (1, .int l1), (2, .int l2), (3, .int l3)] := hl
  rw [X10_on] at hf
  have hx := B.1
  have hb := B.2.1
  have hml := B.2.2.1
  have ho := B.2.2.2.1
  have hw := B.2.2.2.2.1
  have hE := B.2.2.2.2.2.1.2.2
  have hg := B.2.2.2.2.2.2.1
  refine lv_aload_n hx hb dX10_on_0 rfl (lv_at hl 0 rfl) ?_
  refine z_get_10_0 B hW h0 q257 dX10_on_1 ?_
  refine lv_iload_n hx hb dX10_on_4 rfl (lv_at hl 1 rfl) ?_
  refine z_cV (As := [.int l1]) (rest := []) B hW (f_X3_has l (z_g10_0 hg h0)) sc_X3_has sv_X10_109 (z_g10_0 hg h0) ⟨Nat.le_of_ble_eq_true rfl, Nat.le_of_ble_eq_true rfl⟩ ⟨Nat.zero_le _, Nat.zero_le _⟩ rfl hl.1 rfl (Nat.le_of_ble_eq_true rfl) dX10_on_5 (fun H locs hW => ?_)
  refine lv_if_eq (tgt := 31) hx hb dX10_on_8 (by decide) (fun c3 => ?_) (fun c3 => ?_)
  · have hf := z_it c3 hf
    refine lv_aload_n hx hb dX10_on_31 rfl (lv_at hl 0 rfl) ?_
    refine lv_ldc hx hb ho (hw _ q289) dX10_on_32 ?_
    obtain ⟨r4, M5, e6, hf⟩ := z_bpe hf
    refine z_cV (As := [.int (-1000000001 : Int32)]) (rest := []) B hW (f_X10_finding l e6 h0) sc_X10_finding sv_X10_72 h0 ⟨Nat.le_of_ble_eq_true rfl, Nat.le_of_ble_eq_true rfl⟩ ⟨Nat.zero_le _, Nat.zero_le _⟩ rfl hl.1 rfl (Nat.le_of_ble_eq_true rfl) dX10_on_34 (fun H locs hW => ?_)
    obtain ⟨e1, e2⟩ := z_s2 hf
    subst e1
    subst e2
    exact z_ri B hW dX10_on_37
  · have hf := z_if c3 hf
    refine lv_iload_n hx hb dX10_on_11 rfl (lv_at hl 2 rfl) ?_
    refine lv_if_lt (tgt := 31) hx hb dX10_on_12 (by decide) (fun c7 => ?_) (fun c7 => ?_)
    · have hf := z_it c7 hf
      refine lv_aload_n hx hb dX10_on_31 rfl (lv_at hl 0 rfl) ?_
      refine lv_ldc hx hb ho (hw _ q289) dX10_on_32 ?_
      obtain ⟨r8, M9, e10, hf⟩ := z_bpe hf
      refine z_cV (As := [.int (-1000000001 : Int32)]) (rest := []) B hW (f_X10_finding l e10 h0) sc_X10_finding sv_X10_72 h0 ⟨Nat.le_of_ble_eq_true rfl, Nat.le_of_ble_eq_true rfl⟩ ⟨Nat.zero_le _, Nat.zero_le _⟩ rfl hl.1 rfl (Nat.le_of_ble_eq_true rfl) dX10_on_34 (fun H locs hW => ?_)
      obtain ⟨e1, e2⟩ := z_s2 hf
      subst e1
      subst e2
      exact z_ri B hW dX10_on_37
    · have hf := z_if c7 hf
      refine lv_iload_n hx hb dX10_on_15 rfl (lv_at hl 2 rfl) ?_
      refine lv_sipush (v := 200) hx hb dX10_on_16 (by decide) ?_
      refine lv_icmp_gt (tgt := 31) hx hb dX10_on_19 (by decide) (fun c11 => ?_) (fun c11 => ?_)
      · have hf := z_it c11 hf
        refine lv_aload_n hx hb dX10_on_31 rfl (lv_at hl 0 rfl) ?_
        refine lv_ldc hx hb ho (hw _ q289) dX10_on_32 ?_
        obtain ⟨r12, M13, e14, hf⟩ := z_bpe hf
        refine z_cV (As := [.int (-1000000001 : Int32)]) (rest := []) B hW (f_X10_finding l e14 h0) sc_X10_finding sv_X10_72 h0 ⟨Nat.le_of_ble_eq_true rfl, Nat.le_of_ble_eq_true rfl⟩ ⟨Nat.zero_le _, Nat.zero_le _⟩ rfl hl.1 rfl (Nat.le_of_ble_eq_true rfl) dX10_on_34 (fun H locs hW => ?_)
        obtain ⟨e1, e2⟩ := z_s2 hf
        subst e1
        subst e2
        exact z_ri B hW dX10_on_37
      · have hf := z_if c11 hf
        refine lv_iload_n hx hb dX10_on_22 rfl (lv_at hl 3 rfl) ?_
        refine lv_if_lt (tgt := 31) hx hb dX10_on_23 (by decide) (fun c15 => ?_) (fun c15 => ?_)
        · have hf := z_it c15 hf
          refine lv_aload_n hx hb dX10_on_31 rfl (lv_at hl 0 rfl) ?_
          refine lv_ldc hx hb ho (hw _ q289) dX10_on_32 ?_
          obtain ⟨r16, M17, e18, hf⟩ := z_bpe hf
          refine z_cV (As := [.int (-1000000001 : Int32)]) (rest := []) B hW (f_X10_finding l e18 h0) sc_X10_finding sv_X10_72 h0 ⟨Nat.le_of_ble_eq_true rfl, Nat.le_of_ble_eq_true rfl⟩ ⟨Nat.zero_le _, Nat.zero_le _⟩ rfl hl.1 rfl (Nat.le_of_ble_eq_true rfl) dX10_on_34 (fun H locs hW => ?_)
          obtain ⟨e1, e2⟩ := z_s2 hf
          subst e1
          subst e2
          exact z_ri B hW dX10_on_37
        · have hf := z_if c15 hf
          refine lv_iload_n hx hb dX10_on_26 rfl (lv_at hl 3 rfl) ?_
          refine lv_iconst (v := 2) hx hb dX10_on_27 (by decide) ?_
          refine lv_icmp_le (tgt := 38) hx hb dX10_on_28 (by decide) (fun c19 => ?_) (fun c19 => ?_)
          · have hf := z_it c19 hf
            refine lv_aload_n hx hb dX10_on_38 rfl (lv_at hl 0 rfl) ?_
            refine z_get_10_1 B hW h0 q258 dX10_on_39 ?_
            refine lv_aload_n hx hb dX10_on_42 rfl (lv_at hl 0 rfl) ?_
            refine z_get_10_0 B hW h0 q257 dX10_on_43 ?_
            obtain ⟨M21, e22, hf⟩ := z_bd hf
            refine z_cV (As := [.ref (z_r Γ l0 0)]) (rest := []) B hW (f_X3_become l e22 (z_g10_1 hg h0) (z_g10_0 hg h0)) sc_X3_become sv_X10_178 (z_g10_1 hg h0) ⟨Nat.le_of_ble_eq_true rfl, Nat.le_of_ble_eq_true rfl⟩ ⟨Nat.zero_le _, Nat.zero_le _⟩ rfl hl.1 rfl (Nat.le_of_ble_eq_true rfl) dX10_on_46 (fun H locs hW => ?_)
            refine lv_aload_n hx hb dX10_on_49 rfl (lv_at hl 0 rfl) ?_
            refine z_get_10_1 B hW h0 q258 dX10_on_50 ?_
            refine lv_iload_n hx hb dX10_on_53 rfl (lv_at hl 2 rfl) ?_
            obtain ⟨M24, e25, hf⟩ := z_bd hf
            refine z_cV (As := [.int l2]) (rest := []) B hW (f_X3_letHoursGo l e25 (z_g10_1 hg h0)) sc_X3_letHoursGo sv_X10_159 (z_g10_1 hg h0) ⟨Nat.le_of_ble_eq_true rfl, Nat.le_of_ble_eq_true rfl⟩ ⟨Nat.zero_le _, Nat.zero_le _⟩ rfl hl.1 rfl (Nat.le_of_ble_eq_true rfl) dX10_on_54 (fun H locs hW => ?_)
            refine lv_aload_n hx hb dX10_on_57 rfl (lv_at hl 0 rfl) ?_
            refine z_get_10_1 B hW h0 q258 dX10_on_58 ?_
            refine lv_iload_n hx hb dX10_on_61 rfl (lv_at hl 1 rfl) ?_
            obtain ⟨r26, e27, hf⟩ := z_bd hf
            refine z_cV (As := [.int l1]) (rest := []) B hW (f_X3_visitor l e27 (z_g10_1 hg h0)) sc_X3_visitor sv_X10_86 (z_g10_1 hg h0) ⟨Nat.le_of_ble_eq_true rfl, Nat.le_of_ble_eq_true rfl⟩ ⟨Nat.zero_le _, Nat.zero_le _⟩ rfl hl.1 rfl (Nat.le_of_ble_eq_true rfl) dX10_on_62 (fun H locs hW => ?_)
            refine lv_astore (lv' := [(4, .ref r26), (0, .ref l0), (1, .int l1), (2, .int l2), (3, .int l3)]) hx hb dX10_on_65 hl (by decide) rfl (fun ls hl => ?_)
            refine lv_iload_n hx hb dX10_on_67 rfl (lv_at hl 4 rfl) ?_
            refine lv_if_ne (tgt := 77) hx hb dX10_on_68 (by decide) (fun c28 => ?_) (fun c28 => ?_)
            · have hf := z_if c28 hf
              refine lv_iload_n hx hb dX10_on_77 rfl (lv_at hl 4 rfl) ?_
              refine lv_iconst (v := 1) hx hb dX10_on_78 (by decide) ?_
              refine lv_icmp_ne (tgt := 90) hx hb dX10_on_79 (by decide) (fun c29 => ?_) (fun c29 => ?_)
              · have hf := z_if c29 hf
                refine lv_aload hx hb dX10_on_90 (lv_at hl 0 rfl) ?_
                refine z_getN_8_3 B hW (h_X3_visitor hg e27 (z_g10_1 hg h0)) q164 dX10_on_92 ?_
                obtain ⟨e1, e2⟩ := z_s2 hf
                subst e1
                subst e2
                exact z_ri B hW dX10_on_95
              · have hf := z_it c29 hf
                refine lv_aload hx hb dX10_on_82 (lv_at hl 0 rfl) ?_
                refine z_getN_8_2 B hW (h_X3_visitor hg e27 (z_g10_1 hg h0)) q161 dX10_on_84 ?_
                refine lv_goto (tgt := 95) hx hb dX10_on_87 (by decide) ?_
                obtain ⟨e1, e2⟩ := z_s2 hf
                subst e1
                subst e2
                exact z_ri B hW dX10_on_95
            · have hf := z_it c28 hf
              refine lv_aload hx hb dX10_on_71 (lv_at hl 0 rfl) ?_
              refine z_getN_8_1 B hW (h_X3_visitor hg e27 (z_g10_1 hg h0)) q156 dX10_on_73 ?_
              obtain ⟨e1, e2⟩ := z_s2 hf
              subst e1
              subst e2
              exact z_ri B hW dX10_on_76
          · have hf := z_if c19 hf
            refine lv_aload_n hx hb dX10_on_31 rfl (lv_at hl 0 rfl) ?_
            refine lv_ldc hx hb ho (hw _ q289) dX10_on_32 ?_
            obtain ⟨r30, M31, e32, hf⟩ := z_bpe hf
            refine z_cV (As := [.int (-1000000001 : Int32)]) (rest := []) B hW (f_X10_finding l e32 h0) sc_X10_finding sv_X10_72 h0 ⟨Nat.le_of_ble_eq_true rfl, Nat.le_of_ble_eq_true rfl⟩ ⟨Nat.zero_le _, Nat.zero_le _⟩ rfl hl.1 rfl (Nat.le_of_ble_eq_true rfl) dX10_on_34 (fun H locs hW => ?_)
            obtain ⟨e1, e2⟩ := z_s2 hf
            subst e1
            subst e2
            exact z_ri B hW dX10_on_37
set_option maxHeartbeats 4000000 in
set_option maxRecDepth 100000 in
theorem f_X10_isSoAhead (l : Launch) {Γ : Zg} {M : Zm} {l0 : Nat} {l1 : Int32} {l2 : Int32} {l3 : Int32} {r : Int32} (hf : X10_isSoAhead Γ M l0 l1 l2 l3 = some r) (h0 : z_Is Γ 10 l0) : z_Fn l Γ yX10_isSoAhead cX10_isSoAhead 4 (some .boolean) 1 22 [.ref l0, .int l1, .int l2, .int l3] M (some (.int r)) M := by
  refine z_Fn.of (by decide) (Nat.le_of_ble_eq_true rfl) ?_
  intro p e s m below meth c ls B hW hl
  have B : z_Bd Γ p s m _ meth c cX10_isSoAhead 4 (some .boolean) RX10 := B
  have hl : lv_has ls 4 [(0, .ref l0), (1, .int l1), (2, .int l2), (3, .int l3)] := hl
  rw [X10_isSoAhead] at hf
  have hx := B.1
  have hb := B.2.1
  have hml := B.2.2.1
  have ho := B.2.2.2.1
  have hw := B.2.2.2.2.1
  have hE := B.2.2.2.2.2.1.2.2
  have hg := B.2.2.2.2.2.2.1
  refine lv_iload_n hx hb dX10_isSoAhead_0 rfl (lv_at hl 1 rfl) ?_
  by_cases c1 : l1 = (0 : Int32)
  · have hf := z_it c1 hf
    refine lv_tableIn (off := 27) (tgt := 28) hx hb dX10_isSoAhead_1 (by rw [c1]; decide) (by rw [c1]; decide) (by rw [c1]; decide) (by decide) ?_
    refine lv_aload_n hx hb dX10_isSoAhead_28 rfl (lv_at hl 0 rfl) ?_
    refine z_get_10_1 B hW h0 q258 dX10_isSoAhead_29 ?_
    refine lv_iload_n hx hb dX10_isSoAhead_32 rfl (lv_at hl 2 rfl) ?_
    obtain ⟨r2, e3, hf⟩ := z_bd hf
    refine z_cV (As := [.int l2]) (rest := []) B hW (f_X3_visitor l e3 (z_g10_1 hg h0)) sc_X3_visitor sv_X10_86 (z_g10_1 hg h0) ⟨Nat.le_of_ble_eq_true rfl, Nat.le_of_ble_eq_true rfl⟩ ⟨Nat.zero_le _, Nat.zero_le _⟩ rfl hl.1 rfl (Nat.le_of_ble_eq_true rfl) dX10_isSoAhead_33 (fun H locs hW => ?_)
    refine z_getN_8_1 B hW (h_X3_visitor hg e3 (z_g10_1 hg h0)) q156 dX10_isSoAhead_36 ?_
    refine lv_iload_n hx hb dX10_isSoAhead_39 rfl (lv_at hl 3 rfl) ?_
    refine z_cS (As := [.int (M.1 r2 1), .int l3]) (rest := []) B hW (f_X10_holds l) sc_X10_holds ⟨q355, q356⟩ ⟨Nat.le_of_ble_eq_true rfl, Nat.le_of_ble_eq_true rfl⟩ ⟨Nat.zero_le _, Nat.zero_le _⟩ rfl hl.1 rfl (Nat.le_of_ble_eq_true rfl) dX10_isSoAhead_40 (fun H locs hW => ?_)
    obtain ⟨g6, hf⟩ := z_gp hf
    have hf := Option.some.inj hf
    subst hf
    exact z_rz B hW g6 dX10_isSoAhead_43
  · have hf := z_if c1 hf
    by_cases c7 : l1 = (1 : Int32)
    · have hf := z_it c7 hf
      refine lv_tableIn (off := 43) (tgt := 44) hx hb dX10_isSoAhead_1 (by rw [c7]; decide) (by rw [c7]; decide) (by rw [c7]; decide) (by decide) ?_
      refine lv_aload_n hx hb dX10_isSoAhead_44 rfl (lv_at hl 0 rfl) ?_
      refine z_get_10_1 B hW h0 q258 dX10_isSoAhead_45 ?_
      obtain ⟨r8, e9, hf⟩ := z_bd hf
      refine z_cV (As := []) (rest := []) B hW (f_X3_knownToAll l e9 (z_g10_1 hg h0)) sc_X3_knownToAll sv_X10_172 (z_g10_1 hg h0) ⟨Nat.le_of_ble_eq_true rfl, Nat.le_of_ble_eq_true rfl⟩ ⟨Nat.zero_le _, Nat.zero_le _⟩ rfl hl.1 rfl (Nat.le_of_ble_eq_true rfl) dX10_isSoAhead_48 (fun H locs hW => ?_)
      refine lv_iload_n hx hb dX10_isSoAhead_51 rfl (lv_at hl 3 rfl) ?_
      refine z_cS (As := [.int r8, .int l3]) (rest := []) B hW (f_X10_holds l) sc_X10_holds ⟨q355, q356⟩ ⟨Nat.le_of_ble_eq_true rfl, Nat.le_of_ble_eq_true rfl⟩ ⟨Nat.zero_le _, Nat.zero_le _⟩ rfl hl.1 rfl (Nat.le_of_ble_eq_true rfl) dX10_isSoAhead_52 (fun H locs hW => ?_)
      obtain ⟨g12, hf⟩ := z_gp hf
      have hf := Option.some.inj hf
      subst hf
      exact z_rz B hW g12 dX10_isSoAhead_55
    · have hf := z_if c7 hf
      by_cases c13 : l1 = (2 : Int32)
      · have hf := z_it c13 hf
        refine lv_tableIn (off := 55) (tgt := 56) hx hb dX10_isSoAhead_1 (by rw [c13]; decide) (by rw [c13]; decide) (by rw [c13]; decide) (by decide) ?_
        refine lv_aload_n hx hb dX10_isSoAhead_56 rfl (lv_at hl 0 rfl) ?_
        refine z_get_10_1 B hW h0 q258 dX10_isSoAhead_57 ?_
        refine lv_iload_n hx hb dX10_isSoAhead_60 rfl (lv_at hl 2 rfl) ?_
        obtain ⟨r14, e15, hf⟩ := z_bd hf
        refine z_cV (As := [.int l2]) (rest := []) B hW (f_X3_visitor l e15 (z_g10_1 hg h0)) sc_X3_visitor sv_X10_86 (z_g10_1 hg h0) ⟨Nat.le_of_ble_eq_true rfl, Nat.le_of_ble_eq_true rfl⟩ ⟨Nat.zero_le _, Nat.zero_le _⟩ rfl hl.1 rfl (Nat.le_of_ble_eq_true rfl) dX10_isSoAhead_61 (fun H locs hW => ?_)
        refine z_getN_8_3 B hW (h_X3_visitor hg e15 (z_g10_1 hg h0)) q164 dX10_isSoAhead_64 ?_
        refine lv_iconst (v := -1) hx hb dX10_isSoAhead_67 (by decide) ?_
        refine lv_icmp_eq (tgt := 90) hx hb dX10_isSoAhead_68 (by decide) (fun c16 => ?_) (fun c16 => ?_)
        · have hf := z_it c16 hf
          refine lv_iconst (v := 0) hx hb dX10_isSoAhead_90 (by decide) ?_
          have hf := Option.some.inj hf
          subst hf
          exact z_rz B hW (Or.inl rfl) dX10_isSoAhead_91
        · have hf := z_if c16 hf
          refine lv_aload_n hx hb dX10_isSoAhead_71 rfl (lv_at hl 0 rfl) ?_
          refine z_get_10_1 B hW h0 q258 dX10_isSoAhead_72 ?_
          refine lv_iload_n hx hb dX10_isSoAhead_75 rfl (lv_at hl 3 rfl) ?_
          obtain ⟨r17, e18, hf⟩ := z_bd hf
          refine z_cV (As := [.int l3]) (rest := []) B hW (f_X3_visitor l e18 (z_g10_1 hg h0)) sc_X3_visitor sv_X10_86 (z_g10_1 hg h0) ⟨Nat.le_of_ble_eq_true rfl, Nat.le_of_ble_eq_true rfl⟩ ⟨Nat.zero_le _, Nat.zero_le _⟩ rfl hl.1 rfl (Nat.le_of_ble_eq_true rfl) dX10_isSoAhead_76 (fun H locs hW => ?_)
          refine z_getN_8_3 B hW (h_X3_visitor hg e18 (z_g10_1 hg h0)) q164 dX10_isSoAhead_79 ?_
          refine lv_iconst (v := -1) hx hb dX10_isSoAhead_82 (by decide) ?_
          refine lv_icmp_eq (tgt := 90) hx hb dX10_isSoAhead_83 (by decide) (fun c19 => ?_) (fun c19 => ?_)
          · have hf := z_it c19 hf
            refine lv_iconst (v := 0) hx hb dX10_isSoAhead_90 (by decide) ?_
            have hf := Option.some.inj hf
            subst hf
            exact z_rz B hW (Or.inl rfl) dX10_isSoAhead_91
          · have hf := z_if c19 hf
            refine lv_iconst (v := 1) hx hb dX10_isSoAhead_86 (by decide) ?_
            refine lv_goto (tgt := 91) hx hb dX10_isSoAhead_87 (by decide) ?_
            have hf := Option.some.inj hf
            subst hf
            exact z_rz B hW (Or.inr rfl) dX10_isSoAhead_91
      · have hf := z_if c13 hf
        have hsw : l1.toInt < 0 ∨ 2 < l1.toInt := by
          have ec1 := z_nei 0 (by decide) c1
          have ec7 := z_nei 1 (by decide) c7
          have ec13 := z_nei 2 (by decide) c13
          omega
        refine lv_tableOut (tgt := 92) hx hb dX10_isSoAhead_1 hsw (by decide) ?_
        refine lv_aload_n hx hb dX10_isSoAhead_92 rfl (lv_at hl 0 rfl) ?_
        refine z_get_10_1 B hW h0 q258 dX10_isSoAhead_93 ?_
        refine lv_iload_n hx hb dX10_isSoAhead_96 rfl (lv_at hl 2 rfl) ?_
        obtain ⟨r20, e21, hf⟩ := z_bd hf
        refine z_cV (As := [.int l2]) (rest := []) B hW (f_X3_visitor l e21 (z_g10_1 hg h0)) sc_X3_visitor sv_X10_86 (z_g10_1 hg h0) ⟨Nat.le_of_ble_eq_true rfl, Nat.le_of_ble_eq_true rfl⟩ ⟨Nat.zero_le _, Nat.zero_le _⟩ rfl hl.1 rfl (Nat.le_of_ble_eq_true rfl) dX10_isSoAhead_97 (fun H locs hW => ?_)
        refine z_getN_8_5 B hW (h_X3_visitor hg e21 (z_g10_1 hg h0)) q170 dX10_isSoAhead_100 ?_
        refine lv_iload_n hx hb dX10_isSoAhead_103 rfl (lv_at hl 3 rfl) ?_
        refine lv_icmp_lt (tgt := 111) hx hb dX10_isSoAhead_104 (by decide) (fun c22 => ?_) (fun c22 => ?_)
        · have hf := z_it c22 hf
          refine lv_iconst (v := 0) hx hb dX10_isSoAhead_111 (by decide) ?_
          have hf := Option.some.inj hf
          subst hf
          exact z_rz B hW (Or.inl rfl) dX10_isSoAhead_112
        · have hf := z_if c22 hf
          refine lv_iconst (v := 1) hx hb dX10_isSoAhead_107 (by decide) ?_
          refine lv_goto (tgt := 112) hx hb dX10_isSoAhead_108 (by decide) ?_
          have hf := Option.some.inj hf
          subst hf
          exact z_rz B hW (Or.inr rfl) dX10_isSoAhead_112
set_option maxHeartbeats 4000000 in
set_option maxRecDepth 100000 in
theorem w_X10_firstHour_P14 (B : z_Bd Γ p s m args meth c cX10_firstHour 5 (some .int) RX10) : ∀ (n : Nat) (M : Zm) (l0 : Nat) (l1 : Int32) (l2 : Int32) (l3 : Int32) (l4 : Int32) (r : Int32) (M' : Zm), X10_firstHour_P14 Γ n M l0 l1 l2 l3 l4 = some (r, M') → z_Is Γ 10 l0 → ∀ (H : Heap) (locs : List Loc) (ls : Array Slot), z_Wd Γ M s.heap H locs → lv_has ls 5 [(0, .ref l0), (1, .int l1), (2, .int l2), (3, .int l3), (4, .int l4)] → W p l e (z_rm 6 139) s m args below meth c H locs 0 0 (z_Q Γ below args s (some (.int r)) M') (F0 m 14 ls []) := by
  have hx := B.1
  have hb := B.2.1
  have hml := B.2.2.1
  have ho := B.2.2.2.1
  have hw := B.2.2.2.2.1
  have hE := B.2.2.2.2.2.1.2.2
  have hg := B.2.2.2.2.2.2.1
  intro n
  induction n with
  | zero =>
    intro M l0 l1 l2 l3 l4 r M' hf h0 H locs ls hW hl
    cases hf
  | succ n ih =>
    intro M l0 l1 l2 l3 l4 r M' hf h0 H locs ls hW hl
    rw [X10_firstHour_P14] at hf
    refine lv_iload hx hb dX10_firstHour_14 (lv_at hl 4 rfl) ?_
    refine lv_sipush (v := 200) hx hb dX10_firstHour_16 (by decide) ?_
    refine lv_icmp_gt (tgt := 49) hx hb dX10_firstHour_19 (by decide) (fun c4 => ?_) (fun c4 => ?_)
    · have hf := z_it c4 hf
      refine lv_aload_n hx hb dX10_firstHour_49 rfl (lv_at hl 0 rfl) ?_
      refine lv_ldc hx hb ho (hw _ q568) dX10_firstHour_50 ?_
      obtain ⟨r5, M6, e7, hf⟩ := z_bpe hf
      refine z_cV (As := [.int (-1000000004 : Int32)]) (rest := []) B hW (f_X10_finding l e7 h0) sc_X10_finding sv_X10_72 h0 ⟨Nat.le_of_ble_eq_true rfl, Nat.le_of_ble_eq_true rfl⟩ ⟨Nat.zero_le _, Nat.zero_le _⟩ rfl hl.1 rfl (Nat.le_of_ble_eq_true rfl) dX10_firstHour_52 (fun H locs hW => ?_)
      obtain ⟨e1, e2⟩ := z_s2 hf
      subst e1
      subst e2
      exact z_ri B hW dX10_firstHour_55
    · have hf := z_if c4 hf
      refine lv_aload_n hx hb dX10_firstHour_22 rfl (lv_at hl 0 rfl) ?_
      refine lv_iload_n hx hb dX10_firstHour_23 rfl (lv_at hl 1 rfl) ?_
      refine lv_iload_n hx hb dX10_firstHour_24 rfl (lv_at hl 2 rfl) ?_
      refine lv_iload_n hx hb dX10_firstHour_25 rfl (lv_at hl 3 rfl) ?_
      obtain ⟨r8, e9, hf⟩ := z_bd hf
      refine z_cV (As := [.int l1, .int l2, .int l3]) (rest := []) B hW (f_X10_isSoAhead l e9 h0) sc_X10_isSoAhead sv_X10_269 h0 ⟨Nat.le_of_ble_eq_true rfl, Nat.le_of_ble_eq_true rfl⟩ ⟨Nat.zero_le _, Nat.zero_le _⟩ rfl hl.1 rfl (Nat.le_of_ble_eq_true rfl) dX10_firstHour_26 (fun H locs hW => ?_)
      refine lv_if_eq (tgt := 35) hx hb dX10_firstHour_29 (by decide) (fun c10 => ?_) (fun c10 => ?_)
      · have hf := z_it c10 hf
        refine lv_aload_n hx hb dX10_firstHour_35 rfl (lv_at hl 0 rfl) ?_
        refine z_get_10_1 B hW h0 q258 dX10_firstHour_36 ?_
        refine lv_iconst (v := 1) hx hb dX10_firstHour_39 (by decide) ?_
        obtain ⟨M12, e13, hf⟩ := z_bd hf
        refine z_cV (As := [.int (1 : Int32)]) (rest := []) B hW (f_X3_letHoursGo l e13 (z_g10_1 hg h0)) sc_X3_letHoursGo sv_X10_159 (z_g10_1 hg h0) ⟨Nat.le_of_ble_eq_true rfl, Nat.le_of_ble_eq_true rfl⟩ ⟨Nat.zero_le _, Nat.zero_le _⟩ rfl hl.1 rfl (Nat.le_of_ble_eq_true rfl) dX10_firstHour_40 (fun H locs hW => ?_)
        refine lv_iinc (v := l4 + (1 : Int32)) (lv' := [(4, .int (l4 + (1 : Int32))), (0, .ref l0), (1, .int l1), (2, .int l2), (3, .int l3)]) hx hb dX10_firstHour_43 hl (k := 4) rfl rfl (by decide) rfl (fun ls hl => ?_)
        refine lv_goto (tgt := 14) hx hb dX10_firstHour_46 (by decide) ?_
        exact ih M12 l0 l1 l2 l3 (l4 + (1 : Int32)) _ _ hf h0 _ _ _ hW (lv_sub hl [1, 2, 3, 4, 0] rfl)
      · have hf := z_if c10 hf
        refine lv_iload hx hb dX10_firstHour_32 (lv_at hl 4 rfl) ?_
        obtain ⟨e1, e2⟩ := z_s2 hf
        subst e1
        subst e2
        exact z_ri B hW dX10_firstHour_34
set_option maxHeartbeats 4000000 in
set_option maxRecDepth 100000 in
theorem f_X10_firstHour (l : Launch) {Γ : Zg} {M : Zm} {l0 : Nat} {l1 : Int32} {l2 : Int32} {l3 : Int32} {r : Int32} {M' : Zm} (hf : X10_firstHour Γ M l0 l1 l2 l3 = some (r, M')) (h0 : z_Is Γ 10 l0) : z_Fn l Γ yX10_firstHour cX10_firstHour 5 (some .int) 6 139 [.ref l0, .int l1, .int l2, .int l3] M (some (.int r)) M' := by
  refine z_Fn.of (by decide) (Nat.le_of_ble_eq_true rfl) ?_
  intro p e s m below meth c ls B hW hl
  have B : z_Bd Γ p s m _ meth c cX10_firstHour 5 (some .int) RX10 := B
  have hl : lv_has ls 5 [(0, .ref l0), (1, .int l1), (2, .int l2), (3, .int l3)] := hl
  rw [X10_firstHour] at hf
  have hx := B.1
  have hb := B.2.1
  have hml := B.2.2.1
  have ho := B.2.2.2.1
  have hw := B.2.2.2.2.1
  have hE := B.2.2.2.2.2.1.2.2
  have hg := B.2.2.2.2.2.2.1
  refine lv_aload_n hx hb dX10_firstHour_0 rfl (lv_at hl 0 rfl) ?_
  refine z_get_10_1 B hW h0 q258 dX10_firstHour_1 ?_
  refine lv_aload_n hx hb dX10_firstHour_4 rfl (lv_at hl 0 rfl) ?_
  refine z_get_10_0 B hW h0 q257 dX10_firstHour_5 ?_
  obtain ⟨M2, e3, hf⟩ := z_bd hf
  refine z_cV (As := [.ref (z_r Γ l0 0)]) (rest := []) B hW (f_X3_become l e3 (z_g10_1 hg h0) (z_g10_0 hg h0)) sc_X3_become sv_X10_178 (z_g10_1 hg h0) ⟨Nat.le_of_ble_eq_true rfl, Nat.le_of_ble_eq_true rfl⟩ ⟨Nat.zero_le _, Nat.zero_le _⟩ rfl hl.1 rfl (Nat.le_of_ble_eq_true rfl) dX10_firstHour_8 (fun H locs hW => ?_)
  refine lv_iconst (v := 0) hx hb dX10_firstHour_11 (by decide) ?_
  refine lv_istore (lv' := [(4, .int (0 : Int32)), (0, .ref l0), (1, .int l1), (2, .int l2), (3, .int l3)]) hx hb dX10_firstHour_12 hl (by decide) rfl (fun ls hl => ?_)
  exact w_X10_firstHour_P14 B 1000 M2 l0 l1 l2 l3 (0 : Int32) _ _ hf h0 _ _ _ hW (lv_sub hl [1, 2, 3, 4, 0] rfl)
set_option maxHeartbeats 4000000 in
set_option maxRecDepth 100000 in
theorem f_X10_knows (l : Launch) {Γ : Zg} {M : Zm} {l0 : Nat} {l1 : Int32} {l2 : Int32} {r : Int32} {M' : Zm} (hf : X10_knows Γ M l0 l1 l2 = some (r, M')) (h0 : z_Is Γ 10 l0) : z_Fn l Γ yX10_knows cX10_knows 3 (some .int) 7 163 [.ref l0, .int l1, .int l2] M (some (.int r)) M' := by
  refine z_Fn.of (by decide) (Nat.le_of_ble_eq_true rfl) ?_
  intro p e s m below meth c ls B hW hl
  have B : z_Bd Γ p s m _ meth c cX10_knows 3 (some .int) RX10 := B
  have hl : lv_has ls 3 [(0, .ref l0), (1, .int l1), (2, .int l2)] := hl
  rw [X10_knows] at hf
  have hx := B.1
  have hb := B.2.1
  have hml := B.2.2.1
  have ho := B.2.2.2.1
  have hw := B.2.2.2.2.1
  have hE := B.2.2.2.2.2.1.2.2
  have hg := B.2.2.2.2.2.2.1
  refine lv_aload_n hx hb dX10_knows_0 rfl (lv_at hl 0 rfl) ?_
  refine z_get_10_0 B hW h0 q257 dX10_knows_1 ?_
  refine lv_iload_n hx hb dX10_knows_4 rfl (lv_at hl 1 rfl) ?_
  refine z_cV (As := [.int l1]) (rest := []) B hW (f_X3_has l (z_g10_0 hg h0)) sc_X3_has sv_X10_109 (z_g10_0 hg h0) ⟨Nat.le_of_ble_eq_true rfl, Nat.le_of_ble_eq_true rfl⟩ ⟨Nat.zero_le _, Nat.zero_le _⟩ rfl hl.1 rfl (Nat.le_of_ble_eq_true rfl) dX10_knows_5 (fun H locs hW => ?_)
  refine lv_if_eq (tgt := 18) hx hb dX10_knows_8 (by decide) (fun c3 => ?_) (fun c3 => ?_)
  · have hf := z_it c3 hf
    refine lv_aload_n hx hb dX10_knows_18 rfl (lv_at hl 0 rfl) ?_
    refine lv_ldc hx hb ho (hw _ q289) dX10_knows_19 ?_
    obtain ⟨r4, M5, e6, hf⟩ := z_bpe hf
    refine z_cV (As := [.int (-1000000001 : Int32)]) (rest := []) B hW (f_X10_finding l e6 h0) sc_X10_finding sv_X10_72 h0 ⟨Nat.le_of_ble_eq_true rfl, Nat.le_of_ble_eq_true rfl⟩ ⟨Nat.zero_le _, Nat.zero_le _⟩ rfl hl.1 rfl (Nat.le_of_ble_eq_true rfl) dX10_knows_21 (fun H locs hW => ?_)
    obtain ⟨e1, e2⟩ := z_s2 hf
    subst e1
    subst e2
    exact z_ri B hW dX10_knows_24
  · have hf := z_if c3 hf
    refine lv_iload_n hx hb dX10_knows_11 rfl (lv_at hl 2 rfl) ?_
    refine z_cS (As := [.int l2]) (rest := []) B hW (f_X10_isSecret l) sc_X10_isSecret ⟨q298, q299⟩ ⟨Nat.le_of_ble_eq_true rfl, Nat.le_of_ble_eq_true rfl⟩ ⟨Nat.zero_le _, Nat.zero_le _⟩ rfl hl.1 rfl (Nat.le_of_ble_eq_true rfl) dX10_knows_12 (fun H locs hW => ?_)
    refine lv_if_ne (tgt := 25) hx hb dX10_knows_15 (by decide) (fun c9 => ?_) (fun c9 => ?_)
    · have hf := z_if c9 hf
      refine lv_aload_n hx hb dX10_knows_25 rfl (lv_at hl 0 rfl) ?_
      refine lv_iconst (v := 0) hx hb dX10_knows_26 (by decide) ?_
      refine lv_iload_n hx hb dX10_knows_27 rfl (lv_at hl 1 rfl) ?_
      refine lv_iload_n hx hb dX10_knows_28 rfl (lv_at hl 2 rfl) ?_
      obtain ⟨r10, M11, e12, hf⟩ := z_bpe hf
      refine z_cV (As := [.int (0 : Int32), .int l1, .int l2]) (rest := []) B hW (f_X10_firstHour l e12 h0) sc_X10_firstHour sv_X10_182 h0 ⟨Nat.le_of_ble_eq_true rfl, Nat.le_of_ble_eq_true rfl⟩ ⟨Nat.zero_le _, Nat.zero_le _⟩ rfl hl.1 rfl (Nat.le_of_ble_eq_true rfl) dX10_knows_29 (fun H locs hW => ?_)
      obtain ⟨e1, e2⟩ := z_s2 hf
      subst e1
      subst e2
      exact z_ri B hW dX10_knows_32
    · have hf := z_it c9 hf
      refine lv_aload_n hx hb dX10_knows_18 rfl (lv_at hl 0 rfl) ?_
      refine lv_ldc hx hb ho (hw _ q289) dX10_knows_19 ?_
      obtain ⟨r13, M14, e15, hf⟩ := z_bpe hf
      refine z_cV (As := [.int (-1000000001 : Int32)]) (rest := []) B hW (f_X10_finding l e15 h0) sc_X10_finding sv_X10_72 h0 ⟨Nat.le_of_ble_eq_true rfl, Nat.le_of_ble_eq_true rfl⟩ ⟨Nat.zero_le _, Nat.zero_le _⟩ rfl hl.1 rfl (Nat.le_of_ble_eq_true rfl) dX10_knows_21 (fun H locs hW => ?_)
      obtain ⟨e1, e2⟩ := z_s2 hf
      subst e1
      subst e2
      exact z_ri B hW dX10_knows_24
set_option maxHeartbeats 4000000 in
set_option maxRecDepth 100000 in
theorem f_X10_out (l : Launch) {Γ : Zg} {M : Zm} {l0 : Nat} {l1 : Int32} {r : Int32} {M' : Zm} (hf : X10_out Γ M l0 l1 = some (r, M')) (h0 : z_Is Γ 10 l0) : z_Fn l Γ yX10_out cX10_out 2 (some .int) 7 163 [.ref l0, .int l1] M (some (.int r)) M' := by
  refine z_Fn.of (by decide) (Nat.le_of_ble_eq_true rfl) ?_
  intro p e s m below meth c ls B hW hl
  have B : z_Bd Γ p s m _ meth c cX10_out 2 (some .int) RX10 := B
  have hl : lv_has ls 2 [(0, .ref l0), (1, .int l1)] := hl
  rw [X10_out] at hf
  have hx := B.1
  have hb := B.2.1
  have hml := B.2.2.1
  have ho := B.2.2.2.1
  have hw := B.2.2.2.2.1
  have hE := B.2.2.2.2.2.1.2.2
  have hg := B.2.2.2.2.2.2.1
  refine lv_iload_n hx hb dX10_out_0 rfl (lv_at hl 1 rfl) ?_
  refine z_cS (As := [.int l1]) (rest := []) B hW (f_X10_isSecret l) sc_X10_isSecret ⟨q298, q299⟩ ⟨Nat.le_of_ble_eq_true rfl, Nat.le_of_ble_eq_true rfl⟩ ⟨Nat.zero_le _, Nat.zero_le _⟩ rfl hl.1 rfl (Nat.le_of_ble_eq_true rfl) dX10_out_1 (fun H locs hW => ?_)
  refine lv_if_ne (tgt := 14) hx hb dX10_out_4 (by decide) (fun c3 => ?_) (fun c3 => ?_)
  · have hf := z_if c3 hf
    refine lv_aload_n hx hb dX10_out_14 rfl (lv_at hl 0 rfl) ?_
    refine lv_iconst (v := 1) hx hb dX10_out_15 (by decide) ?_
    refine lv_iconst (v := -1) hx hb dX10_out_16 (by decide) ?_
    refine lv_iload_n hx hb dX10_out_17 rfl (lv_at hl 1 rfl) ?_
    obtain ⟨r4, M5, e6, hf⟩ := z_bpe hf
    refine z_cV (As := [.int (1 : Int32), .int (-1 : Int32), .int l1]) (rest := []) B hW (f_X10_firstHour l e6 h0) sc_X10_firstHour sv_X10_182 h0 ⟨Nat.le_of_ble_eq_true rfl, Nat.le_of_ble_eq_true rfl⟩ ⟨Nat.zero_le _, Nat.zero_le _⟩ rfl hl.1 rfl (Nat.le_of_ble_eq_true rfl) dX10_out_18 (fun H locs hW => ?_)
    obtain ⟨e1, e2⟩ := z_s2 hf
    subst e1
    subst e2
    exact z_ri B hW dX10_out_21
  · have hf := z_it c3 hf
    refine lv_aload_n hx hb dX10_out_7 rfl (lv_at hl 0 rfl) ?_
    refine lv_ldc hx hb ho (hw _ q289) dX10_out_8 ?_
    obtain ⟨r7, M8, e9, hf⟩ := z_bpe hf
    refine z_cV (As := [.int (-1000000001 : Int32)]) (rest := []) B hW (f_X10_finding l e9 h0) sc_X10_finding sv_X10_72 h0 ⟨Nat.le_of_ble_eq_true rfl, Nat.le_of_ble_eq_true rfl⟩ ⟨Nat.zero_le _, Nat.zero_le _⟩ rfl hl.1 rfl (Nat.le_of_ble_eq_true rfl) dX10_out_10 (fun H locs hW => ?_)
    obtain ⟨e1, e2⟩ := z_s2 hf
    subst e1
    subst e2
    exact z_ri B hW dX10_out_13
set_option maxHeartbeats 4000000 in
set_option maxRecDepth 100000 in
theorem f_X10_areTwo (l : Launch) {Γ : Zg} {M : Zm} {l0 : Nat} {l1 : Int32} {l2 : Int32} (h0 : z_Is Γ 10 l0) : z_Fn l Γ yX10_areTwo cX10_areTwo 3 (some .boolean) 1 21 [.ref l0, .int l1, .int l2] M (some (.int (X10_areTwo Γ M l0 l1 l2))) M := by
  generalize hf : X10_areTwo Γ M l0 l1 l2 = r
  refine z_Fn.of (by decide) (Nat.le_of_ble_eq_true rfl) ?_
  intro p e s m below meth c ls B hW hl
  have B : z_Bd Γ p s m _ meth c cX10_areTwo 3 (some .boolean) RX10 := B
  have hl : lv_has ls 3 [(0, .ref l0), (1, .int l1), (2, .int l2)] := hl
  rw [X10_areTwo] at hf
  have hx := B.1
  have hb := B.2.1
  have hml := B.2.2.1
  have ho := B.2.2.2.1
  have hw := B.2.2.2.2.1
  have hE := B.2.2.2.2.2.1.2.2
  have hg := B.2.2.2.2.2.2.1
  refine lv_aload_n hx hb dX10_areTwo_0 rfl (lv_at hl 0 rfl) ?_
  refine z_get_10_0 B hW h0 q257 dX10_areTwo_1 ?_
  refine lv_iload_n hx hb dX10_areTwo_4 rfl (lv_at hl 1 rfl) ?_
  refine z_cV (As := [.int l1]) (rest := []) B hW (f_X3_has l (z_g10_0 hg h0)) sc_X3_has sv_X10_109 (z_g10_0 hg h0) ⟨Nat.le_of_ble_eq_true rfl, Nat.le_of_ble_eq_true rfl⟩ ⟨Nat.zero_le _, Nat.zero_le _⟩ rfl hl.1 rfl (Nat.le_of_ble_eq_true rfl) dX10_areTwo_5 (fun H locs hW => ?_)
  refine lv_if_eq (tgt := 31) hx hb dX10_areTwo_8 (by decide) (fun c3 => ?_) (fun c3 => ?_)
  · have hf := z_it c3 hf
    refine lv_iconst (v := 0) hx hb dX10_areTwo_31 (by decide) ?_
    subst hf
    exact z_rz B hW (Or.inl rfl) dX10_areTwo_32
  · have hf := z_if c3 hf
    refine lv_aload_n hx hb dX10_areTwo_11 rfl (lv_at hl 0 rfl) ?_
    refine z_get_10_0 B hW h0 q257 dX10_areTwo_12 ?_
    refine lv_iload_n hx hb dX10_areTwo_15 rfl (lv_at hl 2 rfl) ?_
    refine z_cV (As := [.int l2]) (rest := []) B hW (f_X3_has l (z_g10_0 hg h0)) sc_X3_has sv_X10_109 (z_g10_0 hg h0) ⟨Nat.le_of_ble_eq_true rfl, Nat.le_of_ble_eq_true rfl⟩ ⟨Nat.zero_le _, Nat.zero_le _⟩ rfl hl.1 rfl (Nat.le_of_ble_eq_true rfl) dX10_areTwo_16 (fun H locs hW => ?_)
    refine lv_if_eq (tgt := 31) hx hb dX10_areTwo_19 (by decide) (fun c6 => ?_) (fun c6 => ?_)
    · have hf := z_it c6 hf
      refine lv_iconst (v := 0) hx hb dX10_areTwo_31 (by decide) ?_
      subst hf
      exact z_rz B hW (Or.inl rfl) dX10_areTwo_32
    · have hf := z_if c6 hf
      refine lv_iload_n hx hb dX10_areTwo_22 rfl (lv_at hl 1 rfl) ?_
      refine lv_iload_n hx hb dX10_areTwo_23 rfl (lv_at hl 2 rfl) ?_
      refine lv_icmp_eq (tgt := 31) hx hb dX10_areTwo_24 (by decide) (fun c7 => ?_) (fun c7 => ?_)
      · have hf := z_it c7 hf
        refine lv_iconst (v := 0) hx hb dX10_areTwo_31 (by decide) ?_
        subst hf
        exact z_rz B hW (Or.inl rfl) dX10_areTwo_32
      · have hf := z_if c7 hf
        refine lv_iconst (v := 1) hx hb dX10_areTwo_27 (by decide) ?_
        refine lv_goto (tgt := 32) hx hb dX10_areTwo_28 (by decide) ?_
        subst hf
        exact z_rz B hW (Or.inr rfl) dX10_areTwo_32
set_option maxHeartbeats 4000000 in
set_option maxRecDepth 100000 in
theorem f_X10_meet (l : Launch) {Γ : Zg} {M : Zm} {l0 : Nat} {l1 : Int32} {l2 : Int32} {r : Int32} {M' : Zm} (hf : X10_meet Γ M l0 l1 l2 = some (r, M')) (h0 : z_Is Γ 10 l0) : z_Fn l Γ yX10_meet cX10_meet 3 (some .int) 7 163 [.ref l0, .int l1, .int l2] M (some (.int r)) M' := by
  refine z_Fn.of (by decide) (Nat.le_of_ble_eq_true rfl) ?_
  intro p e s m below meth c ls B hW hl
  have B : z_Bd Γ p s m _ meth c cX10_meet 3 (some .int) RX10 := B
  have hl : lv_has ls 3 [(0, .ref l0), (1, .int l1), (2, .int l2)] := hl
  rw [X10_meet] at hf
  have hx := B.1
  have hb := B.2.1
  have hml := B.2.2.1
  have ho := B.2.2.2.1
  have hw := B.2.2.2.2.1
  have hE := B.2.2.2.2.2.1.2.2
  have hg := B.2.2.2.2.2.2.1
  refine lv_aload_n hx hb dX10_meet_0 rfl (lv_at hl 0 rfl) ?_
  refine lv_iload_n hx hb dX10_meet_1 rfl (lv_at hl 1 rfl) ?_
  refine lv_iload_n hx hb dX10_meet_2 rfl (lv_at hl 2 rfl) ?_
  refine z_cV (As := [.int l1, .int l2]) (rest := []) B hW (f_X10_areTwo l h0) sc_X10_areTwo sv_X10_186 h0 ⟨Nat.le_of_ble_eq_true rfl, Nat.le_of_ble_eq_true rfl⟩ ⟨Nat.zero_le _, Nat.zero_le _⟩ rfl hl.1 rfl (Nat.le_of_ble_eq_true rfl) dX10_meet_3 (fun H locs hW => ?_)
  refine lv_if_ne (tgt := 16) hx hb dX10_meet_6 (by decide) (fun c3 => ?_) (fun c3 => ?_)
  · have hf := z_if c3 hf
    refine lv_aload_n hx hb dX10_meet_16 rfl (lv_at hl 0 rfl) ?_
    refine lv_iconst (v := 2) hx hb dX10_meet_17 (by decide) ?_
    refine lv_iload_n hx hb dX10_meet_18 rfl (lv_at hl 1 rfl) ?_
    refine lv_iload_n hx hb dX10_meet_19 rfl (lv_at hl 2 rfl) ?_
    obtain ⟨r4, M5, e6, hf⟩ := z_bpe hf
    refine z_cV (As := [.int (2 : Int32), .int l1, .int l2]) (rest := []) B hW (f_X10_firstHour l e6 h0) sc_X10_firstHour sv_X10_182 h0 ⟨Nat.le_of_ble_eq_true rfl, Nat.le_of_ble_eq_true rfl⟩ ⟨Nat.zero_le _, Nat.zero_le _⟩ rfl hl.1 rfl (Nat.le_of_ble_eq_true rfl) dX10_meet_20 (fun H locs hW => ?_)
    obtain ⟨e1, e2⟩ := z_s2 hf
    subst e1
    subst e2
    exact z_ri B hW dX10_meet_23
  · have hf := z_it c3 hf
    refine lv_aload_n hx hb dX10_meet_9 rfl (lv_at hl 0 rfl) ?_
    refine lv_ldc hx hb ho (hw _ q289) dX10_meet_10 ?_
    obtain ⟨r7, M8, e9, hf⟩ := z_bpe hf
    refine z_cV (As := [.int (-1000000001 : Int32)]) (rest := []) B hW (f_X10_finding l e9 h0) sc_X10_finding sv_X10_72 h0 ⟨Nat.le_of_ble_eq_true rfl, Nat.le_of_ble_eq_true rfl⟩ ⟨Nat.zero_le _, Nat.zero_le _⟩ rfl hl.1 rfl (Nat.le_of_ble_eq_true rfl) dX10_meet_12 (fun H locs hW => ?_)
    obtain ⟨e1, e2⟩ := z_s2 hf
    subst e1
    subst e2
    exact z_ri B hW dX10_meet_15
set_option maxHeartbeats 4000000 in
set_option maxRecDepth 100000 in
theorem f_X10_learntAs (l : Launch) {Γ : Zg} {M : Zm} {l0 : Nat} {l1 : Int32} {l2 : Int32} {l3 : Int32} {r : Int32} {M' : Zm} (hf : X10_learntAs Γ M l0 l1 l2 l3 = some (r, M')) (h0 : z_Is Γ 10 l0) : z_Fn l Γ yX10_learntAs cX10_learntAs 5 (some .int) 6 139 [.ref l0, .int l1, .int l2, .int l3] M (some (.int r)) M' := by
  refine z_Fn.of (by decide) (Nat.le_of_ble_eq_true rfl) ?_
  intro p e s m below meth c ls B hW hl
  have B : z_Bd Γ p s m _ meth c cX10_learntAs 5 (some .int) RX10 := B
  have hl : lv_has ls 5 [(0, .ref l0), (1, .int l1), (2, .int l2), (3, .int l3)] := hl
  rw [X10_learntAs] at hf
  have hx := B.1
  have hb := B.2.1
  have hml := B.2.2.1
  have ho := B.2.2.2.1
  have hw := B.2.2.2.2.1
  have hE := B.2.2.2.2.2.1.2.2
  have hg := B.2.2.2.2.2.2.1
  refine lv_aload_n hx hb dX10_learntAs_0 rfl (lv_at hl 0 rfl) ?_
  refine z_get_10_1 B hW h0 q258 dX10_learntAs_1 ?_
  refine lv_aload_n hx hb dX10_learntAs_4 rfl (lv_at hl 0 rfl) ?_
  refine z_get_10_0 B hW h0 q257 dX10_learntAs_5 ?_
  obtain ⟨M2, e3, hf⟩ := z_bd hf
  refine z_cV (As := [.ref (z_r Γ l0 0)]) (rest := []) B hW (f_X3_become l e3 (z_g10_1 hg h0) (z_g10_0 hg h0)) sc_X3_become sv_X10_178 (z_g10_1 hg h0) ⟨Nat.le_of_ble_eq_true rfl, Nat.le_of_ble_eq_true rfl⟩ ⟨Nat.zero_le _, Nat.zero_le _⟩ rfl hl.1 rfl (Nat.le_of_ble_eq_true rfl) dX10_learntAs_8 (fun H locs hW => ?_)
  refine lv_aload_n hx hb dX10_learntAs_11 rfl (lv_at hl 0 rfl) ?_
  refine z_get_10_1 B hW h0 q258 dX10_learntAs_12 ?_
  refine lv_iload_n hx hb dX10_learntAs_15 rfl (lv_at hl 1 rfl) ?_
  obtain ⟨r4, e5, hf⟩ := z_bd hf
  refine z_cV (As := [.int l1]) (rest := []) B hW (f_X3_visitor l e5 (z_g10_1 hg h0)) sc_X3_visitor sv_X10_86 (z_g10_1 hg h0) ⟨Nat.le_of_ble_eq_true rfl, Nat.le_of_ble_eq_true rfl⟩ ⟨Nat.zero_le _, Nat.zero_le _⟩ rfl hl.1 rfl (Nat.le_of_ble_eq_true rfl) dX10_learntAs_16 (fun H locs hW => ?_)
  refine lv_astore (lv' := [(4, .ref r4), (0, .ref l0), (1, .int l1), (2, .int l2), (3, .int l3)]) hx hb dX10_learntAs_19 hl (by decide) rfl (fun ls hl => ?_)
  refine lv_aload hx hb dX10_learntAs_21 (lv_at hl 0 rfl) ?_
  refine lv_iload_n hx hb dX10_learntAs_23 rfl (lv_at hl 3 rfl) ?_
  refine z_putN_8_0 B hW (h_X3_visitor hg e5 (z_g10_1 hg h0)) q150 dX10_learntAs_24 (fun H locs hW => ?_)
  obtain ⟨M6, e7, hf⟩ := z_le hf
  have hW := z_wde e7 hW
  refine lv_aload_n hx hb dX10_learntAs_27 rfl (lv_at hl 1 rfl) ?_
  refine z_get_10_1 B hW h0 q258 dX10_learntAs_28 ?_
  refine lv_iload_n hx hb dX10_learntAs_31 rfl (lv_at hl 4 rfl) ?_
  obtain ⟨M9, e10, hf⟩ := z_bd hf
  refine z_cV (As := [.int l3]) (rest := []) B hW (f_X3_letHoursGo l e10 (z_g10_1 hg h0)) sc_X3_letHoursGo sv_X10_159 (z_g10_1 hg h0) ⟨Nat.le_of_ble_eq_true rfl, Nat.le_of_ble_eq_true rfl⟩ ⟨Nat.zero_le _, Nat.zero_le _⟩ rfl hl.1 rfl (Nat.le_of_ble_eq_true rfl) dX10_learntAs_32 (fun H locs hW => ?_)
  refine lv_aload hx hb dX10_learntAs_35 (lv_at hl 0 rfl) ?_
  refine z_getN_8_1 B hW (h_X3_visitor hg e5 (z_g10_1 hg h0)) q156 dX10_learntAs_37 ?_
  refine z_cS (As := [.int (M9.1 r4 1)]) (rest := []) B hW (f_J6_bitCount_0f7a4 l) sc_J6_bitCount_0f7a4 ⟨q589, q407⟩ ⟨Nat.le_of_ble_eq_true rfl, Nat.le_of_ble_eq_true rfl⟩ ⟨Nat.zero_le _, Nat.zero_le _⟩ rfl hl.1 rfl (Nat.le_of_ble_eq_true rfl) dX10_learntAs_40 (fun H locs hW => ?_)
  obtain ⟨e1, e2⟩ := z_s2 hf
  subst e1
  subst e2
  exact z_ri B hW dX10_learntAs_43
set_option maxHeartbeats 4000000 in
set_option maxRecDepth 100000 in
theorem w_X10_leastOfBest_P4 (B : z_Bd Γ p s m args meth c cX10_leastOfBest 4 (some .int) RX10) : ∀ (n : Nat) (M : Zm) (l0 : Nat) (l1 : Int32) (l2 : Int32) (l3 : Int32) (r : Int32), X10_leastOfBest_P4 Γ n M l0 l1 l2 l3 = some r → z_Is Γ 10 l0 → ∀ (H : Heap) (locs : List Loc) (ls : Array Slot), z_Wd Γ M s.heap H locs → lv_has ls 4 [(0, .ref l0), (1, .int l1), (2, .int l2), (3, .int l3)] → W p l e (z_rm 0 0) s m args below meth c H locs 0 0 (z_Q Γ below args s (some (.int r)) M) (F0 m 4 ls []) := by
  have hx := B.1
  have hb := B.2.1
  have hml := B.2.2.1
  have ho := B.2.2.2.1
  have hw := B.2.2.2.2.1
  have hE := B.2.2.2.2.2.1.2.2
  have hg := B.2.2.2.2.2.2.1
  intro n
  induction n with
  | zero =>
    intro M l0 l1 l2 l3 r hf h0 H locs ls hW hl
    cases hf
  | succ n ih =>
    intro M l0 l1 l2 l3 r hf h0 H locs ls hW hl
    rw [X10_leastOfBest_P4] at hf
    refine lv_iload_n hx hb dX10_leastOfBest_4 rfl (lv_at hl 3 rfl) ?_
    refine lv_iload_n hx hb dX10_leastOfBest_5 rfl (lv_at hl 1 rfl) ?_
    refine lv_icmp_ge (tgt := 38) hx hb dX10_leastOfBest_6 (by decide) (fun c1 => ?_) (fun c1 => ?_)
    · have hf := z_it c1 hf
      refine lv_iload_n hx hb dX10_leastOfBest_38 rfl (lv_at hl 2 rfl) ?_
      have hf := Option.some.inj hf
      subst hf
      exact z_ri B hW dX10_leastOfBest_39
    · have hf := z_if c1 hf
      refine lv_iload_n hx hb dX10_leastOfBest_9 rfl (lv_at hl 3 rfl) ?_
      refine lv_bipush (v := 10) hx hb dX10_leastOfBest_10 (by decide) ?_
      refine lv_icmp_ge (tgt := 38) hx hb dX10_leastOfBest_12 (by decide) (fun c2 => ?_) (fun c2 => ?_)
      · have hf := z_it c2 hf
        refine lv_iload_n hx hb dX10_leastOfBest_38 rfl (lv_at hl 2 rfl) ?_
        have hf := Option.some.inj hf
        subst hf
        exact z_ri B hW dX10_leastOfBest_39
      · have hf := z_if c2 hf
        refine lv_aload_n hx hb dX10_leastOfBest_15 rfl (lv_at hl 0 rfl) ?_
        refine z_get_10_7 B hW h0 q264 dX10_leastOfBest_16 ?_
        refine lv_iload_n hx hb dX10_leastOfBest_19 rfl (lv_at hl 3 rfl) ?_
        obtain ⟨g3, hf⟩ := z_gd hf
        refine z_ia B hW (z_g10_7 hg h0) g3 dX10_leastOfBest_20 ?_
        refine lv_aload_n hx hb dX10_leastOfBest_21 rfl (lv_at hl 0 rfl) ?_
        refine z_get_10_7 B hW h0 q264 dX10_leastOfBest_22 ?_
        refine lv_iload_n hx hb dX10_leastOfBest_25 rfl (lv_at hl 2 rfl) ?_
        obtain ⟨g4, hf⟩ := z_gd hf
        refine z_ia B hW (z_g10_7 hg h0) g4 dX10_leastOfBest_26 ?_
        refine lv_icmp_le (tgt := 32) hx hb dX10_leastOfBest_27 (by decide) (fun c5 => ?_) (fun c5 => ?_)
        · have hf := z_it c5 hf
          refine lv_iinc (v := l3 + (1 : Int32)) (lv' := [(3, .int (l3 + (1 : Int32))), (0, .ref l0), (1, .int l1), (2, .int l2)]) hx hb dX10_leastOfBest_32 hl (k := 3) rfl rfl (by decide) rfl (fun ls hl => ?_)
          refine lv_goto (tgt := 4) hx hb dX10_leastOfBest_35 (by decide) ?_
          exact ih M l0 l1 l2 (l3 + (1 : Int32)) _ hf h0 _ _ _ hW (lv_sub hl [1, 2, 3, 0] rfl)
        · have hf := z_if c5 hf
          refine lv_iload_n hx hb dX10_leastOfBest_30 rfl (lv_at hl 3 rfl) ?_
          refine lv_istore_n (lv' := [(2, .int l3), (0, .ref l0), (1, .int l1), (3, .int l3)]) hx hb dX10_leastOfBest_31 rfl hl (by decide) rfl (fun ls hl => ?_)
          refine lv_iinc (v := l3 + (1 : Int32)) (lv' := [(3, .int (l3 + (1 : Int32))), (2, .int l3), (0, .ref l0), (1, .int l1)]) hx hb dX10_leastOfBest_32 hl (k := 3) rfl rfl (by decide) rfl (fun ls hl => ?_)
          refine lv_goto (tgt := 4) hx hb dX10_leastOfBest_35 (by decide) ?_
          exact ih M l0 l1 l3 (l3 + (1 : Int32)) _ hf h0 _ _ _ hW (lv_sub hl [2, 3, 1, 0] rfl)
set_option maxHeartbeats 4000000 in
set_option maxRecDepth 100000 in
theorem f_X10_leastOfBest (l : Launch) {Γ : Zg} {M : Zm} {l0 : Nat} {l1 : Int32} {r : Int32} (hf : X10_leastOfBest Γ M l0 l1 = some r) (h0 : z_Is Γ 10 l0) : z_Fn l Γ yX10_leastOfBest cX10_leastOfBest 4 (some .int) 0 0 [.ref l0, .int l1] M (some (.int r)) M := by
  refine z_Fn.of (by decide) (Nat.le_of_ble_eq_true rfl) ?_
  intro p e s m below meth c ls B hW hl
  have B : z_Bd Γ p s m _ meth c cX10_leastOfBest 4 (some .int) RX10 := B
  have hl : lv_has ls 4 [(0, .ref l0), (1, .int l1)] := hl
  rw [X10_leastOfBest] at hf
  have hx := B.1
  have hb := B.2.1
  have hml := B.2.2.1
  have ho := B.2.2.2.1
  have hw := B.2.2.2.2.1
  have hE := B.2.2.2.2.2.1.2.2
  have hg := B.2.2.2.2.2.2.1
  refine lv_iconst (v := 0) hx hb dX10_leastOfBest_0 (by decide) ?_
  refine lv_istore_n (lv' := [(2, .int (0 : Int32)), (0, .ref l0), (1, .int l1)]) hx hb dX10_leastOfBest_1 rfl hl (by decide) rfl (fun ls hl => ?_)
  refine lv_iconst (v := 1) hx hb dX10_leastOfBest_2 (by decide) ?_
  refine lv_istore_n (lv' := [(3, .int (1 : Int32)), (2, .int (0 : Int32)), (0, .ref l0), (1, .int l1)]) hx hb dX10_leastOfBest_3 rfl hl (by decide) rfl (fun ls hl => ?_)
  exact w_X10_leastOfBest_P4 B 1000 M l0 l1 (0 : Int32) (1 : Int32) _ hf h0 _ _ _ hW (lv_sub hl [2, 3, 1, 0] rfl)
set_option maxHeartbeats 4000000 in
set_option maxRecDepth 100000 in
theorem w_X10_kind_P31 (B : z_Bd Γ p s m args meth c cX10_kind 4 (some .int) RX10) : ∀ (n : Nat) (M : Zm) (l0 : Nat) (l1 : Int32) (l2 : Int32) (l3 : Int32) (r : Int32) (M' : Zm), X10_kind_P31 Γ n M l0 l1 l2 l3 = some (r, M') → z_Is Γ 10 l0 → ∀ (H : Heap) (locs : List Loc) (ls : Array Slot), z_Wd Γ M s.heap H locs → lv_has ls 4 [(0, .ref l0), (1, .int l1), (2, .int l2), (3, .int l3)] → W p l e (z_rm 7 163) s m args below meth c H locs 0 0 (z_Q Γ below args s (some (.int r)) M') (F0 m 31 ls []) := by
  have hx := B.1
  have hb := B.2.1
  have hml := B.2.2.1
  have ho := B.2.2.2.1
  have hw := B.2.2.2.2.1
  have hE := B.2.2.2.2.2.1.2.2
  have hg := B.2.2.2.2.2.2.1
  intro n
  induction n with
  | zero =>
    intro M l0 l1 l2 l3 r M' hf h0 H locs ls hW hl
    cases hf
  | succ n ih =>
    intro M l0 l1 l2 l3 r M' hf h0 H locs ls hW hl
    rw [X10_kind_P31] at hf
    refine lv_iload_n hx hb dX10_kind_31 rfl (lv_at hl 3 rfl) ?_
    refine lv_bipush (v := 6) hx hb dX10_kind_32 (by decide) ?_
    refine lv_icmp_ge (tgt := 56) hx hb dX10_kind_34 (by decide) (fun c15 => ?_) (fun c15 => ?_)
    · have hf := z_it c15 hf
      refine lv_aload_n hx hb dX10_kind_56 rfl (lv_at hl 0 rfl) ?_
      refine lv_bipush (v := 6) hx hb dX10_kind_57 (by decide) ?_
      obtain ⟨r16, e17, hf⟩ := z_bd hf
      refine z_cV (As := [.int (6 : Int32)]) (rest := []) B hW (f_X10_leastOfBest l e17 h0) sc_X10_leastOfBest sv_X10_192 h0 ⟨Nat.le_of_ble_eq_true rfl, Nat.le_of_ble_eq_true rfl⟩ ⟨Nat.zero_le _, Nat.zero_le _⟩ rfl hl.1 rfl (Nat.le_of_ble_eq_true rfl) dX10_kind_59 (fun H locs hW => ?_)
      obtain ⟨e1, e2⟩ := z_s2 hf
      subst e1
      subst e2
      exact z_ri B hW dX10_kind_62
    · have hf := z_if c15 hf
      refine lv_aload_n hx hb dX10_kind_37 rfl (lv_at hl 0 rfl) ?_
      refine z_get_10_7 B hW h0 q264 dX10_kind_38 ?_
      refine lv_iload_n hx hb dX10_kind_41 rfl (lv_at hl 3 rfl) ?_
      refine lv_aload_n hx hb dX10_kind_42 rfl (lv_at hl 0 rfl) ?_
      refine lv_iload_n hx hb dX10_kind_43 rfl (lv_at hl 1 rfl) ?_
      refine lv_iload_n hx hb dX10_kind_44 rfl (lv_at hl 3 rfl) ?_
      refine lv_iload_n hx hb dX10_kind_45 rfl (lv_at hl 2 rfl) ?_
      obtain ⟨r18, M19, e20, hf⟩ := z_bpe hf
      refine z_cV (As := [.int l1, .int l3, .int l2]) (rest := [.int l3, .ref (z_r Γ l0 7)]) B hW (f_X10_learntAs l e20 h0) sc_X10_learntAs sv_X10_189 h0 ⟨Nat.le_of_ble_eq_true rfl, Nat.le_of_ble_eq_true rfl⟩ ⟨Nat.zero_le _, Nat.zero_le _⟩ rfl hl.1 rfl (Nat.le_of_ble_eq_true rfl) dX10_kind_46 (fun H locs hW => ?_)
      obtain ⟨g21, hf⟩ := z_gd hf
      refine z_is B hW (z_g10_7 hg h0) g21 dX10_kind_49 (fun H locs hW => ?_)
      obtain ⟨M22, e23, hf⟩ := z_le hf
      have hW := z_wde e23 hW
      refine lv_iinc (v := l3 + (1 : Int32)) (lv' := [(3, .int (l3 + (1 : Int32))), (0, .ref l0), (1, .int l1), (2, .int l2)]) hx hb dX10_kind_50 hl (k := 3) rfl rfl (by decide) rfl (fun ls hl => ?_)
      refine lv_goto (tgt := 31) hx hb dX10_kind_53 (by decide) ?_
      exact ih M22 l0 l1 l2 (l3 + (1 : Int32)) _ _ hf h0 _ _ _ hW (lv_sub hl [1, 2, 3, 0] rfl)
set_option maxHeartbeats 4000000 in
set_option maxRecDepth 100000 in
theorem f_X10_kind (l : Launch) {Γ : Zg} {M : Zm} {l0 : Nat} {l1 : Int32} {l2 : Int32} {r : Int32} {M' : Zm} (hf : X10_kind Γ M l0 l1 l2 = some (r, M')) (h0 : z_Is Γ 10 l0) : z_Fn l Γ yX10_kind cX10_kind 4 (some .int) 7 163 [.ref l0, .int l1, .int l2] M (some (.int r)) M' := by
  refine z_Fn.of (by decide) (Nat.le_of_ble_eq_true rfl) ?_
  intro p e s m below meth c ls B hW hl
  have B : z_Bd Γ p s m _ meth c cX10_kind 4 (some .int) RX10 := B
  have hl : lv_has ls 4 [(0, .ref l0), (1, .int l1), (2, .int l2)] := hl
  rw [X10_kind] at hf
  have hx := B.1
  have hb := B.2.1
  have hml := B.2.2.1
  have ho := B.2.2.2.1
  have hw := B.2.2.2.2.1
  have hE := B.2.2.2.2.2.1.2.2
  have hg := B.2.2.2.2.2.2.1
  refine lv_aload_n hx hb dX10_kind_0 rfl (lv_at hl 0 rfl) ?_
  refine z_get_10_0 B hW h0 q257 dX10_kind_1 ?_
  refine lv_iload_n hx hb dX10_kind_4 rfl (lv_at hl 1 rfl) ?_
  refine z_cV (As := [.int l1]) (rest := []) B hW (f_X3_has l (z_g10_0 hg h0)) sc_X3_has sv_X10_109 (z_g10_0 hg h0) ⟨Nat.le_of_ble_eq_true rfl, Nat.le_of_ble_eq_true rfl⟩ ⟨Nat.zero_le _, Nat.zero_le _⟩ rfl hl.1 rfl (Nat.le_of_ble_eq_true rfl) dX10_kind_5 (fun H locs hW => ?_)
  refine lv_if_eq (tgt := 22) hx hb dX10_kind_8 (by decide) (fun c3 => ?_) (fun c3 => ?_)
  · have hf := z_it c3 hf
    refine lv_aload_n hx hb dX10_kind_22 rfl (lv_at hl 0 rfl) ?_
    refine lv_ldc hx hb ho (hw _ q289) dX10_kind_23 ?_
    obtain ⟨r4, M5, e6, hf⟩ := z_bpe hf
    refine z_cV (As := [.int (-1000000001 : Int32)]) (rest := []) B hW (f_X10_finding l e6 h0) sc_X10_finding sv_X10_72 h0 ⟨Nat.le_of_ble_eq_true rfl, Nat.le_of_ble_eq_true rfl⟩ ⟨Nat.zero_le _, Nat.zero_le _⟩ rfl hl.1 rfl (Nat.le_of_ble_eq_true rfl) dX10_kind_25 (fun H locs hW => ?_)
    obtain ⟨e1, e2⟩ := z_s2 hf
    subst e1
    subst e2
    exact z_ri B hW dX10_kind_28
  · have hf := z_if c3 hf
    refine lv_iload_n hx hb dX10_kind_11 rfl (lv_at hl 2 rfl) ?_
    refine lv_iconst (v := 1) hx hb dX10_kind_12 (by decide) ?_
    refine lv_icmp_lt (tgt := 22) hx hb dX10_kind_13 (by decide) (fun c7 => ?_) (fun c7 => ?_)
    · have hf := z_it c7 hf
      refine lv_aload_n hx hb dX10_kind_22 rfl (lv_at hl 0 rfl) ?_
      refine lv_ldc hx hb ho (hw _ q289) dX10_kind_23 ?_
      obtain ⟨r8, M9, e10, hf⟩ := z_bpe hf
      refine z_cV (As := [.int (-1000000001 : Int32)]) (rest := []) B hW (f_X10_finding l e10 h0) sc_X10_finding sv_X10_72 h0 ⟨Nat.le_of_ble_eq_true rfl, Nat.le_of_ble_eq_true rfl⟩ ⟨Nat.zero_le _, Nat.zero_le _⟩ rfl hl.1 rfl (Nat.le_of_ble_eq_true rfl) dX10_kind_25 (fun H locs hW => ?_)
      obtain ⟨e1, e2⟩ := z_s2 hf
      subst e1
      subst e2
      exact z_ri B hW dX10_kind_28
    · have hf := z_if c7 hf
      refine lv_iload_n hx hb dX10_kind_16 rfl (lv_at hl 2 rfl) ?_
      refine lv_bipush (v := 100) hx hb dX10_kind_17 (by decide) ?_
      refine lv_icmp_le (tgt := 29) hx hb dX10_kind_19 (by decide) (fun c11 => ?_) (fun c11 => ?_)
      · have hf := z_it c11 hf
        refine lv_iconst (v := 0) hx hb dX10_kind_29 (by decide) ?_
        refine lv_istore_n (lv' := [(3, .int (0 : Int32)), (0, .ref l0), (1, .int l1), (2, .int l2)]) hx hb dX10_kind_30 rfl hl (by decide) rfl (fun ls hl => ?_)
        exact w_X10_kind_P31 B 1000 M l0 l1 l2 (0 : Int32) _ _ hf h0 _ _ _ hW (lv_sub hl [1, 2, 3, 0] rfl)
      · have hf := z_if c11 hf
        refine lv_aload_n hx hb dX10_kind_22 rfl (lv_at hl 0 rfl) ?_
        refine lv_ldc hx hb ho (hw _ q289) dX10_kind_23 ?_
        obtain ⟨r12, M13, e14, hf⟩ := z_bpe hf
        refine z_cV (As := [.int (-1000000001 : Int32)]) (rest := []) B hW (f_X10_finding l e14 h0) sc_X10_finding sv_X10_72 h0 ⟨Nat.le_of_ble_eq_true rfl, Nat.le_of_ble_eq_true rfl⟩ ⟨Nat.zero_le _, Nat.zero_le _⟩ rfl hl.1 rfl (Nat.le_of_ble_eq_true rfl) dX10_kind_25 (fun H locs hW => ?_)
        obtain ⟨e1, e2⟩ := z_s2 hf
        subst e1
        subst e2
        exact z_ri B hW dX10_kind_28
set_option maxHeartbeats 4000000 in
set_option maxRecDepth 100000 in
theorem f_X10_heardWithout (l : Launch) {Γ : Zg} {M : Zm} {l0 : Nat} {l1 : Int32} {l2 : Int32} {l3 : Int32} {r : Int32} {M' : Zm} (hf : X10_heardWithout Γ M l0 l1 l2 l3 = some (r, M')) (h0 : z_Is Γ 10 l0) : z_Fn l Γ yX10_heardWithout cX10_heardWithout 5 (some .int) 6 139 [.ref l0, .int l1, .int l2, .int l3] M (some (.int r)) M' := by
  refine z_Fn.of (by decide) (Nat.le_of_ble_eq_true rfl) ?_
  intro p e s m below meth c ls B hW hl
  have B : z_Bd Γ p s m _ meth c cX10_heardWithout 5 (some .int) RX10 := B
  have hl : lv_has ls 5 [(0, .ref l0), (1, .int l1), (2, .int l2), (3, .int l3)] := hl
  rw [X10_heardWithout] at hf
  have hx := B.1
  have hb := B.2.1
  have hml := B.2.2.1
  have ho := B.2.2.2.1
  have hw := B.2.2.2.2.1
  have hE := B.2.2.2.2.2.1.2.2
  have hg := B.2.2.2.2.2.2.1
  refine lv_aload_n hx hb dX10_heardWithout_0 rfl (lv_at hl 0 rfl) ?_
  refine z_get_10_1 B hW h0 q258 dX10_heardWithout_1 ?_
  refine lv_aload_n hx hb dX10_heardWithout_4 rfl (lv_at hl 0 rfl) ?_
  refine z_get_10_0 B hW h0 q257 dX10_heardWithout_5 ?_
  obtain ⟨M2, e3, hf⟩ := z_bd hf
  refine z_cV (As := [.ref (z_r Γ l0 0)]) (rest := []) B hW (f_X3_become l e3 (z_g10_1 hg h0) (z_g10_0 hg h0)) sc_X3_become sv_X10_178 (z_g10_1 hg h0) ⟨Nat.le_of_ble_eq_true rfl, Nat.le_of_ble_eq_true rfl⟩ ⟨Nat.zero_le _, Nat.zero_le _⟩ rfl hl.1 rfl (Nat.le_of_ble_eq_true rfl) dX10_heardWithout_8 (fun H locs hW => ?_)
  refine lv_aload_n hx hb dX10_heardWithout_11 rfl (lv_at hl 0 rfl) ?_
  refine z_get_10_1 B hW h0 q258 dX10_heardWithout_12 ?_
  refine lv_iload_n hx hb dX10_heardWithout_15 rfl (lv_at hl 1 rfl) ?_
  obtain ⟨r4, e5, hf⟩ := z_bd hf
  refine z_cV (As := [.int l1]) (rest := []) B hW (f_X3_visitor l e5 (z_g10_1 hg h0)) sc_X3_visitor sv_X10_86 (z_g10_1 hg h0) ⟨Nat.le_of_ble_eq_true rfl, Nat.le_of_ble_eq_true rfl⟩ ⟨Nat.zero_le _, Nat.zero_le _⟩ rfl hl.1 rfl (Nat.le_of_ble_eq_true rfl) dX10_heardWithout_16 (fun H locs hW => ?_)
  refine lv_astore (lv' := [(4, .ref r4), (0, .ref l0), (1, .int l1), (2, .int l2), (3, .int l3)]) hx hb dX10_heardWithout_19 hl (by decide) rfl (fun ls hl => ?_)
  refine lv_aload hx hb dX10_heardWithout_21 (lv_at hl 0 rfl) ?_
  refine lv_aload hx hb dX10_heardWithout_23 (lv_at hl 0 rfl) ?_
  refine z_getN_8_1 B hW (h_X3_visitor hg e5 (z_g10_1 hg h0)) q156 dX10_heardWithout_25 ?_
  refine lv_iconst (v := 1) hx hb dX10_heardWithout_28 (by decide) ?_
  refine lv_iload_n hx hb dX10_heardWithout_29 rfl (lv_at hl 3 rfl) ?_
  refine lv_ishl hx hb dX10_heardWithout_30 ?_
  refine lv_iconst (v := -1) hx hb dX10_heardWithout_31 (by decide) ?_
  refine lv_ixor hx hb dX10_heardWithout_32 ?_
  refine lv_iand hx hb dX10_heardWithout_33 ?_
  obtain ⟨r6, M7, e8, hf⟩ := z_lpe hf
  refine z_cV (As := [.int ((M2.1 r4 1) &&& (((1 : Int32) <<< (l2 &&& 31)) ^^^ (-1 : Int32)))]) (rest := []) B hW (f_X8_learnJust l e8 (h_X3_visitor hg e5 (z_g10_1 hg h0))) sc_X8_learnJust sv_X10_130 (h_X3_visitor hg e5 (z_g10_1 hg h0)) ⟨Nat.le_of_ble_eq_true rfl, Nat.le_of_ble_eq_true rfl⟩ ⟨Nat.zero_le _, Nat.zero_le _⟩ rfl hl.1 rfl (Nat.le_of_ble_eq_true rfl) dX10_heardWithout_34 (fun H locs hW => ?_)
  refine lv_pop hx hb dX10_heardWithout_37 rfl ?_
  refine lv_aload_n hx hb dX10_heardWithout_38 rfl (lv_at hl 1 rfl) ?_
  refine z_get_10_1 B hW h0 q258 dX10_heardWithout_39 ?_
  refine lv_iload_n hx hb dX10_heardWithout_42 rfl (lv_at hl 4 rfl) ?_
  obtain ⟨M10, e11, hf⟩ := z_bd hf
  refine z_cV (As := [.int l3]) (rest := []) B hW (f_X3_letHoursGo l e11 (z_g10_1 hg h0)) sc_X3_letHoursGo sv_X10_159 (z_g10_1 hg h0) ⟨Nat.le_of_ble_eq_true rfl, Nat.le_of_ble_eq_true rfl⟩ ⟨Nat.zero_le _, Nat.zero_le _⟩ rfl hl.1 rfl (Nat.le_of_ble_eq_true rfl) dX10_heardWithout_43 (fun H locs hW => ?_)
  refine lv_aload_n hx hb dX10_heardWithout_46 rfl (lv_at hl 1 rfl) ?_
  refine z_get_10_1 B hW h0 q258 dX10_heardWithout_47 ?_
  obtain ⟨r12, e13, hf⟩ := z_bd hf
  refine z_cV (As := []) (rest := []) B hW (f_X3_heardByAll l e13 (z_g10_1 hg h0)) sc_X3_heardByAll sv_X10_162 (z_g10_1 hg h0) ⟨Nat.le_of_ble_eq_true rfl, Nat.le_of_ble_eq_true rfl⟩ ⟨Nat.zero_le _, Nat.zero_le _⟩ rfl hl.1 rfl (Nat.le_of_ble_eq_true rfl) dX10_heardWithout_50 (fun H locs hW => ?_)
  obtain ⟨e1, e2⟩ := z_s2 hf
  subst e1
  subst e2
  exact z_ri B hW dX10_heardWithout_53
set_option maxHeartbeats 4000000 in
set_option maxRecDepth 100000 in
theorem w_X10_forget_P55 (B : z_Bd Γ p s m args meth c cX10_forget 5 (some .int) RX10) : ∀ (n : Nat) (M : Zm) (l0 : Nat) (l1 : Int32) (l2 : Int32) (l3 : Int32) (l4 : Int32) (r : Int32) (M' : Zm), X10_forget_P55 Γ n M l0 l1 l2 l3 l4 = some (r, M') → z_Is Γ 10 l0 → ∀ (H : Heap) (locs : List Loc) (ls : Array Slot), z_Wd Γ M s.heap H locs → lv_has ls 5 [(0, .ref l0), (1, .int l1), (2, .int l2), (3, .int l3), (4, .int l4)] → W p l e (z_rm 7 163) s m args below meth c H locs 0 0 (z_Q Γ below args s (some (.int r)) M') (F0 m 55 ls []) := by
  have hx := B.1
  have hb := B.2.1
  have hml := B.2.2.1
  have ho := B.2.2.2.1
  have hw := B.2.2.2.2.1
  have hE := B.2.2.2.2.2.1.2.2
  have hg := B.2.2.2.2.2.2.1
  intro n
  induction n with
  | zero =>
    intro M l0 l1 l2 l3 l4 r M' hf h0 H locs ls hW hl
    cases hf
  | succ n ih =>
    intro M l0 l1 l2 l3 l4 r M' hf h0 H locs ls hW hl
    rw [X10_forget_P55] at hf
    refine lv_iload hx hb dX10_forget_55 (lv_at hl 4 rfl) ?_
    refine lv_bipush (v := 10) hx hb dX10_forget_57 (by decide) ?_
    refine lv_icmp_ge (tgt := 96) hx hb dX10_forget_59 (by decide) (fun c21 => ?_) (fun c21 => ?_)
    · have hf := z_it c21 hf
      refine lv_aload_n hx hb dX10_forget_96 rfl (lv_at hl 0 rfl) ?_
      refine lv_bipush (v := 10) hx hb dX10_forget_97 (by decide) ?_
      obtain ⟨r22, e23, hf⟩ := z_bd hf
      refine z_cV (As := [.int (10 : Int32)]) (rest := []) B hW (f_X10_leastOfBest l e23 h0) sc_X10_leastOfBest sv_X10_192 h0 ⟨Nat.le_of_ble_eq_true rfl, Nat.le_of_ble_eq_true rfl⟩ ⟨Nat.zero_le _, Nat.zero_le _⟩ rfl hl.1 rfl (Nat.le_of_ble_eq_true rfl) dX10_forget_99 (fun H locs hW => ?_)
      obtain ⟨e1, e2⟩ := z_s2 hf
      subst e1
      subst e2
      exact z_ri B hW dX10_forget_102
    · have hf := z_if c21 hf
      refine lv_aload_n hx hb dX10_forget_62 rfl (lv_at hl 0 rfl) ?_
      refine z_get_10_7 B hW h0 q264 dX10_forget_63 ?_
      refine lv_iload hx hb dX10_forget_66 (lv_at hl 4 rfl) ?_
      refine lv_iload_n hx hb dX10_forget_68 rfl (lv_at hl 3 rfl) ?_
      refine lv_iload hx hb dX10_forget_69 (lv_at hl 4 rfl) ?_
      refine z_cS (As := [.int l3, .int l4]) (rest := [.int l4, .ref (z_r Γ l0 7)]) B hW (f_X10_holds l) sc_X10_holds ⟨q355, q356⟩ ⟨Nat.le_of_ble_eq_true rfl, Nat.le_of_ble_eq_true rfl⟩ ⟨Nat.zero_le _, Nat.zero_le _⟩ rfl hl.1 rfl (Nat.le_of_ble_eq_true rfl) dX10_forget_71 (fun H locs hW => ?_)
      refine lv_if_eq (tgt := 88) hx hb dX10_forget_74 (by decide) (fun c26 => ?_) (fun c26 => ?_)
      · have hf := z_it c26 hf
        refine lv_iconst (v := -1) hx hb dX10_forget_88 (by decide) ?_
        obtain ⟨g27, hf⟩ := z_gd hf
        refine z_is B hW (z_g10_7 hg h0) g27 dX10_forget_89 (fun H locs hW => ?_)
        obtain ⟨M28, e29, hf⟩ := z_le hf
        have hW := z_wde e29 hW
        refine lv_iinc (v := l4 + (1 : Int32)) (lv' := [(4, .int (l4 + (1 : Int32))), (0, .ref l0), (1, .int l1), (2, .int l2), (3, .int l3)]) hx hb dX10_forget_90 hl (k := 4) rfl rfl (by decide) rfl (fun ls hl => ?_)
        refine lv_goto (tgt := 55) hx hb dX10_forget_93 (by decide) ?_
        exact ih M28 l0 l1 l2 l3 (l4 + (1 : Int32)) _ _ hf h0 _ _ _ hW (lv_sub hl [1, 2, 3, 4, 0] rfl)
      · have hf := z_if c26 hf
        refine lv_aload_n hx hb dX10_forget_77 rfl (lv_at hl 0 rfl) ?_
        refine lv_iload_n hx hb dX10_forget_78 rfl (lv_at hl 1 rfl) ?_
        refine lv_iload hx hb dX10_forget_79 (lv_at hl 4 rfl) ?_
        refine lv_iload_n hx hb dX10_forget_81 rfl (lv_at hl 2 rfl) ?_
        obtain ⟨r30, M31, e32, hf⟩ := z_bpe hf
        refine z_cV (As := [.int l1, .int l4, .int l2]) (rest := [.int l4, .ref (z_r Γ l0 7)]) B hW (f_X10_heardWithout l e32 h0) sc_X10_heardWithout sv_X10_199 h0 ⟨Nat.le_of_ble_eq_true rfl, Nat.le_of_ble_eq_true rfl⟩ ⟨Nat.zero_le _, Nat.zero_le _⟩ rfl hl.1 rfl (Nat.le_of_ble_eq_true rfl) dX10_forget_82 (fun H locs hW => ?_)
        refine lv_goto (tgt := 89) hx hb dX10_forget_85 (by decide) ?_
        obtain ⟨g33, hf⟩ := z_gd hf
        refine z_is B hW (z_g10_7 hg h0) g33 dX10_forget_89 (fun H locs hW => ?_)
        obtain ⟨M34, e35, hf⟩ := z_le hf
        have hW := z_wde e35 hW
        refine lv_iinc (v := l4 + (1 : Int32)) (lv' := [(4, .int (l4 + (1 : Int32))), (0, .ref l0), (1, .int l1), (2, .int l2), (3, .int l3)]) hx hb dX10_forget_90 hl (k := 4) rfl rfl (by decide) rfl (fun ls hl => ?_)
        refine lv_goto (tgt := 55) hx hb dX10_forget_93 (by decide) ?_
        exact ih M34 l0 l1 l2 l3 (l4 + (1 : Int32)) _ _ hf h0 _ _ _ hW (lv_sub hl [1, 2, 3, 4, 0] rfl)
set_option maxHeartbeats 4000000 in
set_option maxRecDepth 100000 in
theorem f_X10_forget (l : Launch) {Γ : Zg} {M : Zm} {l0 : Nat} {l1 : Int32} {l2 : Int32} {r : Int32} {M' : Zm} (hf : X10_forget Γ M l0 l1 l2 = some (r, M')) (h0 : z_Is Γ 10 l0) : z_Fn l Γ yX10_forget cX10_forget 5 (some .int) 7 163 [.ref l0, .int l1, .int l2] M (some (.int r)) M' := by
  refine z_Fn.of (by decide) (Nat.le_of_ble_eq_true rfl) ?_
  intro p e s m below meth c ls B hW hl
  have B : z_Bd Γ p s m _ meth c cX10_forget 5 (some .int) RX10 := B
  have hl : lv_has ls 5 [(0, .ref l0), (1, .int l1), (2, .int l2)] := hl
  rw [X10_forget] at hf
  have hx := B.1
  have hb := B.2.1
  have hml := B.2.2.1
  have ho := B.2.2.2.1
  have hw := B.2.2.2.2.1
  have hE := B.2.2.2.2.2.1.2.2
  have hg := B.2.2.2.2.2.2.1
  refine lv_aload_n hx hb dX10_forget_0 rfl (lv_at hl 0 rfl) ?_
  refine z_get_10_0 B hW h0 q257 dX10_forget_1 ?_
  refine lv_iload_n hx hb dX10_forget_4 rfl (lv_at hl 1 rfl) ?_
  refine z_cV (As := [.int l1]) (rest := []) B hW (f_X3_has l (z_g10_0 hg h0)) sc_X3_has sv_X10_109 (z_g10_0 hg h0) ⟨Nat.le_of_ble_eq_true rfl, Nat.le_of_ble_eq_true rfl⟩ ⟨Nat.zero_le _, Nat.zero_le _⟩ rfl hl.1 rfl (Nat.le_of_ble_eq_true rfl) dX10_forget_5 (fun H locs hW => ?_)
  refine lv_if_eq (tgt := 22) hx hb dX10_forget_8 (by decide) (fun c3 => ?_) (fun c3 => ?_)
  · have hf := z_it c3 hf
    refine lv_aload_n hx hb dX10_forget_22 rfl (lv_at hl 0 rfl) ?_
    refine lv_ldc hx hb ho (hw _ q289) dX10_forget_23 ?_
    obtain ⟨r4, M5, e6, hf⟩ := z_bpe hf
    refine z_cV (As := [.int (-1000000001 : Int32)]) (rest := []) B hW (f_X10_finding l e6 h0) sc_X10_finding sv_X10_72 h0 ⟨Nat.le_of_ble_eq_true rfl, Nat.le_of_ble_eq_true rfl⟩ ⟨Nat.zero_le _, Nat.zero_le _⟩ rfl hl.1 rfl (Nat.le_of_ble_eq_true rfl) dX10_forget_25 (fun H locs hW => ?_)
    obtain ⟨e1, e2⟩ := z_s2 hf
    subst e1
    subst e2
    exact z_ri B hW dX10_forget_28
  · have hf := z_if c3 hf
    refine lv_iload_n hx hb dX10_forget_11 rfl (lv_at hl 2 rfl) ?_
    refine lv_iconst (v := 1) hx hb dX10_forget_12 (by decide) ?_
    refine lv_icmp_lt (tgt := 22) hx hb dX10_forget_13 (by decide) (fun c7 => ?_) (fun c7 => ?_)
    · have hf := z_it c7 hf
      refine lv_aload_n hx hb dX10_forget_22 rfl (lv_at hl 0 rfl) ?_
      refine lv_ldc hx hb ho (hw _ q289) dX10_forget_23 ?_
      obtain ⟨r8, M9, e10, hf⟩ := z_bpe hf
      refine z_cV (As := [.int (-1000000001 : Int32)]) (rest := []) B hW (f_X10_finding l e10 h0) sc_X10_finding sv_X10_72 h0 ⟨Nat.le_of_ble_eq_true rfl, Nat.le_of_ble_eq_true rfl⟩ ⟨Nat.zero_le _, Nat.zero_le _⟩ rfl hl.1 rfl (Nat.le_of_ble_eq_true rfl) dX10_forget_25 (fun H locs hW => ?_)
      obtain ⟨e1, e2⟩ := z_s2 hf
      subst e1
      subst e2
      exact z_ri B hW dX10_forget_28
    · have hf := z_if c7 hf
      refine lv_iload_n hx hb dX10_forget_16 rfl (lv_at hl 2 rfl) ?_
      refine lv_bipush (v := 60) hx hb dX10_forget_17 (by decide) ?_
      refine lv_icmp_le (tgt := 29) hx hb dX10_forget_19 (by decide) (fun c11 => ?_) (fun c11 => ?_)
      · have hf := z_it c11 hf
        refine lv_aload_n hx hb dX10_forget_29 rfl (lv_at hl 0 rfl) ?_
        refine z_get_10_0 B hW h0 q257 dX10_forget_30 ?_
        refine lv_iload_n hx hb dX10_forget_33 rfl (lv_at hl 1 rfl) ?_
        obtain ⟨r12, e13, hf⟩ := z_bd hf
        refine z_cV (As := [.int l1]) (rest := []) B hW (f_X3_visitor l e13 (z_g10_0 hg h0)) sc_X3_visitor sv_X10_86 (z_g10_0 hg h0) ⟨Nat.le_of_ble_eq_true rfl, Nat.le_of_ble_eq_true rfl⟩ ⟨Nat.zero_le _, Nat.zero_le _⟩ rfl hl.1 rfl (Nat.le_of_ble_eq_true rfl) dX10_forget_34 (fun H locs hW => ?_)
        refine z_getN_8_1 B hW (h_X3_visitor hg e13 (z_g10_0 hg h0)) q156 dX10_forget_37 ?_
        refine lv_istore_n (lv' := [(3, .int (M.1 r12 1)), (0, .ref l0), (1, .int l1), (2, .int l2)]) hx hb dX10_forget_40 rfl hl (by decide) rfl (fun ls hl => ?_)
        refine lv_iload_n hx hb dX10_forget_41 rfl (lv_at hl 0 rfl) ?_
        refine lv_if_ne (tgt := 52) hx hb dX10_forget_42 (by decide) (fun c14 => ?_) (fun c14 => ?_)
        · have hf := z_if c14 hf
          refine lv_iconst (v := 0) hx hb dX10_forget_52 (by decide) ?_
          refine lv_istore (lv' := [(4, .int (0 : Int32)), (3, .int (M.1 r12 1)), (0, .ref l0), (1, .int l1), (2, .int l2)]) hx hb dX10_forget_53 hl (by decide) rfl (fun ls hl => ?_)
          exact w_X10_forget_P55 B 1000 M l0 l1 l2 (M.1 r12 1) (0 : Int32) _ _ hf h0 _ _ _ hW (lv_sub hl [2, 3, 4, 1, 0] rfl)
        · have hf := z_it c14 hf
          refine lv_aload_n hx hb dX10_forget_45 rfl (lv_at hl 1 rfl) ?_
          refine lv_ldc hx hb ho (hw _ q568) dX10_forget_46 ?_
          obtain ⟨r15, M16, e17, hf⟩ := z_bpe hf
          refine z_cV (As := [.int (-1000000004 : Int32)]) (rest := []) B hW (f_X10_finding l e17 h0) sc_X10_finding sv_X10_72 h0 ⟨Nat.le_of_ble_eq_true rfl, Nat.le_of_ble_eq_true rfl⟩ ⟨Nat.zero_le _, Nat.zero_le _⟩ rfl hl.1 rfl (Nat.le_of_ble_eq_true rfl) dX10_forget_48 (fun H locs hW => ?_)
          obtain ⟨e1, e2⟩ := z_s2 hf
          subst e1
          subst e2
          exact z_ri B hW dX10_forget_51
      · have hf := z_if c11 hf
        refine lv_aload_n hx hb dX10_forget_22 rfl (lv_at hl 0 rfl) ?_
        refine lv_ldc hx hb ho (hw _ q289) dX10_forget_23 ?_
        obtain ⟨r18, M19, e20, hf⟩ := z_bpe hf
        refine z_cV (As := [.int (-1000000001 : Int32)]) (rest := []) B hW (f_X10_finding l e20 h0) sc_X10_finding sv_X10_72 h0 ⟨Nat.le_of_ble_eq_true rfl, Nat.le_of_ble_eq_true rfl⟩ ⟨Nat.zero_le _, Nat.zero_le _⟩ rfl hl.1 rfl (Nat.le_of_ble_eq_true rfl) dX10_forget_25 (fun H locs hW => ?_)
        obtain ⟨e1, e2⟩ := z_s2 hf
        subst e1
        subst e2
        exact z_ri B hW dX10_forget_28
set_option maxHeartbeats 4000000 in
set_option maxRecDepth 100000 in
theorem f_X10_spreadFrom (l : Launch) {Γ : Zg} {M : Zm} {l0 : Nat} {l1 : Int32} {l2 : Int32} {l3 : Int32} {r : Int32} {M' : Zm} (hf : X10_spreadFrom Γ M l0 l1 l2 l3 = some (r, M')) (h0 : z_Is Γ 10 l0) : z_Fn l Γ yX10_spreadFrom cX10_spreadFrom 5 (some .int) 6 139 [.ref l0, .int l1, .int l2, .int l3] M (some (.int r)) M' := by
  refine z_Fn.of (by decide) (Nat.le_of_ble_eq_true rfl) ?_
  intro p e s m below meth c ls B hW hl
  have B : z_Bd Γ p s m _ meth c cX10_spreadFrom 5 (some .int) RX10 := B
  have hl : lv_has ls 5 [(0, .ref l0), (1, .int l1), (2, .int l2), (3, .int l3)] := hl
  rw [X10_spreadFrom] at hf
  have hx := B.1
  have hb := B.2.1
  have hml := B.2.2.1
  have ho := B.2.2.2.1
  have hw := B.2.2.2.2.1
  have hE := B.2.2.2.2.2.1.2.2
  have hg := B.2.2.2.2.2.2.1
  refine lv_aload_n hx hb dX10_spreadFrom_0 rfl (lv_at hl 0 rfl) ?_
  refine z_get_10_1 B hW h0 q258 dX10_spreadFrom_1 ?_
  refine lv_aload_n hx hb dX10_spreadFrom_4 rfl (lv_at hl 0 rfl) ?_
  refine z_get_10_0 B hW h0 q257 dX10_spreadFrom_5 ?_
  obtain ⟨M2, e3, hf⟩ := z_bd hf
  refine z_cV (As := [.ref (z_r Γ l0 0)]) (rest := []) B hW (f_X3_become l e3 (z_g10_1 hg h0) (z_g10_0 hg h0)) sc_X3_become sv_X10_178 (z_g10_1 hg h0) ⟨Nat.le_of_ble_eq_true rfl, Nat.le_of_ble_eq_true rfl⟩ ⟨Nat.zero_le _, Nat.zero_le _⟩ rfl hl.1 rfl (Nat.le_of_ble_eq_true rfl) dX10_spreadFrom_8 (fun H locs hW => ?_)
  refine lv_aload_n hx hb dX10_spreadFrom_11 rfl (lv_at hl 0 rfl) ?_
  refine z_get_10_1 B hW h0 q258 dX10_spreadFrom_12 ?_
  refine lv_iload_n hx hb dX10_spreadFrom_15 rfl (lv_at hl 1 rfl) ?_
  obtain ⟨r4, e5, hf⟩ := z_bd hf
  refine z_cV (As := [.int l1]) (rest := []) B hW (f_X3_visitor l e5 (z_g10_1 hg h0)) sc_X3_visitor sv_X10_86 (z_g10_1 hg h0) ⟨Nat.le_of_ble_eq_true rfl, Nat.le_of_ble_eq_true rfl⟩ ⟨Nat.zero_le _, Nat.zero_le _⟩ rfl hl.1 rfl (Nat.le_of_ble_eq_true rfl) dX10_spreadFrom_16 (fun H locs hW => ?_)
  refine lv_astore (lv' := [(4, .ref r4), (0, .ref l0), (1, .int l1), (2, .int l2), (3, .int l3)]) hx hb dX10_spreadFrom_19 hl (by decide) rfl (fun ls hl => ?_)
  refine lv_aload hx hb dX10_spreadFrom_21 (lv_at hl 0 rfl) ?_
  refine lv_dup hx hb dX10_spreadFrom_23 rfl ?_
  refine z_getN_8_1 B hW (h_X3_visitor hg e5 (z_g10_1 hg h0)) q156 dX10_spreadFrom_24 ?_
  refine lv_iconst (v := 1) hx hb dX10_spreadFrom_27 (by decide) ?_
  refine lv_iload_n hx hb dX10_spreadFrom_28 rfl (lv_at hl 3 rfl) ?_
  refine lv_ishl hx hb dX10_spreadFrom_29 ?_
  refine lv_ior hx hb dX10_spreadFrom_30 ?_
  refine z_putN_8_1 B hW (h_X3_visitor hg e5 (z_g10_1 hg h0)) q156 dX10_spreadFrom_31 (fun H locs hW => ?_)
  obtain ⟨M6, e7, hf⟩ := z_le hf
  have hW := z_wde e7 hW
  refine lv_aload hx hb dX10_spreadFrom_34 (lv_at hl 0 rfl) ?_
  refine lv_dup hx hb dX10_spreadFrom_36 rfl ?_
  refine z_getN_8_2 B hW (h_X3_visitor hg e5 (z_g10_1 hg h0)) q161 dX10_spreadFrom_37 ?_
  refine lv_iconst (v := 1) hx hb dX10_spreadFrom_40 (by decide) ?_
  refine lv_iload_n hx hb dX10_spreadFrom_41 rfl (lv_at hl 3 rfl) ?_
  refine lv_ishl hx hb dX10_spreadFrom_42 ?_
  refine lv_ior hx hb dX10_spreadFrom_43 ?_
  refine z_putN_8_2 B hW (h_X3_visitor hg e5 (z_g10_1 hg h0)) q161 dX10_spreadFrom_44 (fun H locs hW => ?_)
  obtain ⟨M8, e9, hf⟩ := z_le hf
  have hW := z_wde e9 hW
  refine lv_aload_n hx hb dX10_spreadFrom_47 rfl (lv_at hl 1 rfl) ?_
  refine z_get_10_1 B hW h0 q258 dX10_spreadFrom_48 ?_
  refine lv_iload_n hx hb dX10_spreadFrom_51 rfl (lv_at hl 4 rfl) ?_
  obtain ⟨M11, e12, hf⟩ := z_bd hf
  refine z_cV (As := [.int l3]) (rest := []) B hW (f_X3_letHoursGo l e12 (z_g10_1 hg h0)) sc_X3_letHoursGo sv_X10_159 (z_g10_1 hg h0) ⟨Nat.le_of_ble_eq_true rfl, Nat.le_of_ble_eq_true rfl⟩ ⟨Nat.zero_le _, Nat.zero_le _⟩ rfl hl.1 rfl (Nat.le_of_ble_eq_true rfl) dX10_spreadFrom_52 (fun H locs hW => ?_)
  refine lv_aload_n hx hb dX10_spreadFrom_55 rfl (lv_at hl 1 rfl) ?_
  refine z_get_10_1 B hW h0 q258 dX10_spreadFrom_56 ?_
  refine lv_iload_n hx hb dX10_spreadFrom_59 rfl (lv_at hl 3 rfl) ?_
  obtain ⟨r13, e14, hf⟩ := z_bd hf
  refine z_cV (As := [.int l2]) (rest := []) B hW (f_X3_knownTo l e14 (z_g10_1 hg h0)) sc_X3_knownTo sv_X10_273 (z_g10_1 hg h0) ⟨Nat.le_of_ble_eq_true rfl, Nat.le_of_ble_eq_true rfl⟩ ⟨Nat.zero_le _, Nat.zero_le _⟩ rfl hl.1 rfl (Nat.le_of_ble_eq_true rfl) dX10_spreadFrom_60 (fun H locs hW => ?_)
  obtain ⟨e1, e2⟩ := z_s2 hf
  subst e1
  subst e2
  exact z_ri B hW dX10_spreadFrom_63
set_option maxHeartbeats 4000000 in
set_option maxRecDepth 100000 in
theorem w_X10_confide_P58 (B : z_Bd Γ p s m args meth c cX10_confide 5 (some .int) RX10) : ∀ (n : Nat) (M : Zm) (l0 : Nat) (l1 : Int32) (l2 : Int32) (l3 : Int32) (l4 : Int32) (r : Int32) (M' : Zm), X10_confide_P58 Γ n M l0 l1 l2 l3 l4 = some (r, M') → z_Is Γ 10 l0 → ∀ (H : Heap) (locs : List Loc) (ls : Array Slot), z_Wd Γ M s.heap H locs → lv_has ls 5 [(0, .ref l0), (1, .int l1), (2, .int l2), (3, .int l3), (4, .int l4)] → W p l e (z_rm 7 163) s m args below meth c H locs 0 0 (z_Q Γ below args s (some (.int r)) M') (F0 m 58 ls []) := by
  have hx := B.1
  have hb := B.2.1
  have hml := B.2.2.1
  have ho := B.2.2.2.1
  have hw := B.2.2.2.2.1
  have hE := B.2.2.2.2.2.1.2.2
  have hg := B.2.2.2.2.2.2.1
  intro n
  induction n with
  | zero =>
    intro M l0 l1 l2 l3 l4 r M' hf h0 H locs ls hW hl
    cases hf
  | succ n ih =>
    intro M l0 l1 l2 l3 l4 r M' hf h0 H locs ls hW hl
    rw [X10_confide_P58] at hf
    refine lv_iload hx hb dX10_confide_58 (lv_at hl 4 rfl) ?_
    refine lv_bipush (v := 10) hx hb dX10_confide_60 (by decide) ?_
    refine lv_icmp_ge (tgt := 99) hx hb dX10_confide_62 (by decide) (fun c21 => ?_) (fun c21 => ?_)
    · have hf := z_it c21 hf
      refine lv_aload_n hx hb dX10_confide_99 rfl (lv_at hl 0 rfl) ?_
      refine lv_bipush (v := 10) hx hb dX10_confide_100 (by decide) ?_
      obtain ⟨r22, e23, hf⟩ := z_bd hf
      refine z_cV (As := [.int (10 : Int32)]) (rest := []) B hW (f_X10_leastOfBest l e23 h0) sc_X10_leastOfBest sv_X10_192 h0 ⟨Nat.le_of_ble_eq_true rfl, Nat.le_of_ble_eq_true rfl⟩ ⟨Nat.zero_le _, Nat.zero_le _⟩ rfl hl.1 rfl (Nat.le_of_ble_eq_true rfl) dX10_confide_102 (fun H locs hW => ?_)
      obtain ⟨e1, e2⟩ := z_s2 hf
      subst e1
      subst e2
      exact z_ri B hW dX10_confide_105
    · have hf := z_if c21 hf
      refine lv_aload_n hx hb dX10_confide_65 rfl (lv_at hl 0 rfl) ?_
      refine z_get_10_7 B hW h0 q264 dX10_confide_66 ?_
      refine lv_iload hx hb dX10_confide_69 (lv_at hl 4 rfl) ?_
      refine lv_iload_n hx hb dX10_confide_71 rfl (lv_at hl 3 rfl) ?_
      refine lv_iload hx hb dX10_confide_72 (lv_at hl 4 rfl) ?_
      refine z_cS (As := [.int l3, .int l4]) (rest := [.int l4, .ref (z_r Γ l0 7)]) B hW (f_X10_holds l) sc_X10_holds ⟨q355, q356⟩ ⟨Nat.le_of_ble_eq_true rfl, Nat.le_of_ble_eq_true rfl⟩ ⟨Nat.zero_le _, Nat.zero_le _⟩ rfl hl.1 rfl (Nat.le_of_ble_eq_true rfl) dX10_confide_74 (fun H locs hW => ?_)
      refine lv_if_eq (tgt := 84) hx hb dX10_confide_77 (by decide) (fun c26 => ?_) (fun c26 => ?_)
      · have hf := z_it c26 hf
        refine lv_aload_n hx hb dX10_confide_84 rfl (lv_at hl 0 rfl) ?_
        refine lv_iload_n hx hb dX10_confide_85 rfl (lv_at hl 1 rfl) ?_
        refine lv_iload hx hb dX10_confide_86 (lv_at hl 4 rfl) ?_
        refine lv_iload_n hx hb dX10_confide_88 rfl (lv_at hl 2 rfl) ?_
        obtain ⟨r27, M28, e29, hf⟩ := z_bpe hf
        refine z_cV (As := [.int l1, .int l4, .int l2]) (rest := [.int l4, .ref (z_r Γ l0 7)]) B hW (f_X10_spreadFrom l e29 h0) sc_X10_spreadFrom sv_X10_202 h0 ⟨Nat.le_of_ble_eq_true rfl, Nat.le_of_ble_eq_true rfl⟩ ⟨Nat.zero_le _, Nat.zero_le _⟩ rfl hl.1 rfl (Nat.le_of_ble_eq_true rfl) dX10_confide_89 (fun H locs hW => ?_)
        obtain ⟨g30, hf⟩ := z_gd hf
        refine z_is B hW (z_g10_7 hg h0) g30 dX10_confide_92 (fun H locs hW => ?_)
        obtain ⟨M31, e32, hf⟩ := z_le hf
        have hW := z_wde e32 hW
        refine lv_iinc (v := l4 + (1 : Int32)) (lv' := [(4, .int (l4 + (1 : Int32))), (0, .ref l0), (1, .int l1), (2, .int l2), (3, .int l3)]) hx hb dX10_confide_93 hl (k := 4) rfl rfl (by decide) rfl (fun ls hl => ?_)
        refine lv_goto (tgt := 58) hx hb dX10_confide_96 (by decide) ?_
        exact ih M31 l0 l1 l2 l3 (l4 + (1 : Int32)) _ _ hf h0 _ _ _ hW (lv_sub hl [1, 2, 3, 4, 0] rfl)
      · have hf := z_if c26 hf
        refine lv_iconst (v := -1) hx hb dX10_confide_80 (by decide) ?_
        refine lv_goto (tgt := 92) hx hb dX10_confide_81 (by decide) ?_
        obtain ⟨g33, hf⟩ := z_gd hf
        refine z_is B hW (z_g10_7 hg h0) g33 dX10_confide_92 (fun H locs hW => ?_)
        obtain ⟨M34, e35, hf⟩ := z_le hf
        have hW := z_wde e35 hW
        refine lv_iinc (v := l4 + (1 : Int32)) (lv' := [(4, .int (l4 + (1 : Int32))), (0, .ref l0), (1, .int l1), (2, .int l2), (3, .int l3)]) hx hb dX10_confide_93 hl (k := 4) rfl rfl (by decide) rfl (fun ls hl => ?_)
        refine lv_goto (tgt := 58) hx hb dX10_confide_96 (by decide) ?_
        exact ih M34 l0 l1 l2 l3 (l4 + (1 : Int32)) _ _ hf h0 _ _ _ hW (lv_sub hl [1, 2, 3, 4, 0] rfl)
set_option maxHeartbeats 4000000 in
set_option maxRecDepth 100000 in
theorem f_X10_confide (l : Launch) {Γ : Zg} {M : Zm} {l0 : Nat} {l1 : Int32} {l2 : Int32} {r : Int32} {M' : Zm} (hf : X10_confide Γ M l0 l1 l2 = some (r, M')) (h0 : z_Is Γ 10 l0) : z_Fn l Γ yX10_confide cX10_confide 5 (some .int) 7 163 [.ref l0, .int l1, .int l2] M (some (.int r)) M' := by
  refine z_Fn.of (by decide) (Nat.le_of_ble_eq_true rfl) ?_
  intro p e s m below meth c ls B hW hl
  have B : z_Bd Γ p s m _ meth c cX10_confide 5 (some .int) RX10 := B
  have hl : lv_has ls 5 [(0, .ref l0), (1, .int l1), (2, .int l2)] := hl
  rw [X10_confide] at hf
  have hx := B.1
  have hb := B.2.1
  have hml := B.2.2.1
  have ho := B.2.2.2.1
  have hw := B.2.2.2.2.1
  have hE := B.2.2.2.2.2.1.2.2
  have hg := B.2.2.2.2.2.2.1
  refine lv_aload_n hx hb dX10_confide_0 rfl (lv_at hl 0 rfl) ?_
  refine z_get_10_0 B hW h0 q257 dX10_confide_1 ?_
  refine lv_iload_n hx hb dX10_confide_4 rfl (lv_at hl 1 rfl) ?_
  refine z_cV (As := [.int l1]) (rest := []) B hW (f_X3_has l (z_g10_0 hg h0)) sc_X3_has sv_X10_109 (z_g10_0 hg h0) ⟨Nat.le_of_ble_eq_true rfl, Nat.le_of_ble_eq_true rfl⟩ ⟨Nat.zero_le _, Nat.zero_le _⟩ rfl hl.1 rfl (Nat.le_of_ble_eq_true rfl) dX10_confide_5 (fun H locs hW => ?_)
  refine lv_if_eq (tgt := 22) hx hb dX10_confide_8 (by decide) (fun c3 => ?_) (fun c3 => ?_)
  · have hf := z_it c3 hf
    refine lv_aload_n hx hb dX10_confide_22 rfl (lv_at hl 0 rfl) ?_
    refine lv_ldc hx hb ho (hw _ q289) dX10_confide_23 ?_
    obtain ⟨r4, M5, e6, hf⟩ := z_bpe hf
    refine z_cV (As := [.int (-1000000001 : Int32)]) (rest := []) B hW (f_X10_finding l e6 h0) sc_X10_finding sv_X10_72 h0 ⟨Nat.le_of_ble_eq_true rfl, Nat.le_of_ble_eq_true rfl⟩ ⟨Nat.zero_le _, Nat.zero_le _⟩ rfl hl.1 rfl (Nat.le_of_ble_eq_true rfl) dX10_confide_25 (fun H locs hW => ?_)
    obtain ⟨e1, e2⟩ := z_s2 hf
    subst e1
    subst e2
    exact z_ri B hW dX10_confide_28
  · have hf := z_if c3 hf
    refine lv_iload_n hx hb dX10_confide_11 rfl (lv_at hl 2 rfl) ?_
    refine lv_iconst (v := 1) hx hb dX10_confide_12 (by decide) ?_
    refine lv_icmp_lt (tgt := 22) hx hb dX10_confide_13 (by decide) (fun c7 => ?_) (fun c7 => ?_)
    · have hf := z_it c7 hf
      refine lv_aload_n hx hb dX10_confide_22 rfl (lv_at hl 0 rfl) ?_
      refine lv_ldc hx hb ho (hw _ q289) dX10_confide_23 ?_
      obtain ⟨r8, M9, e10, hf⟩ := z_bpe hf
      refine z_cV (As := [.int (-1000000001 : Int32)]) (rest := []) B hW (f_X10_finding l e10 h0) sc_X10_finding sv_X10_72 h0 ⟨Nat.le_of_ble_eq_true rfl, Nat.le_of_ble_eq_true rfl⟩ ⟨Nat.zero_le _, Nat.zero_le _⟩ rfl hl.1 rfl (Nat.le_of_ble_eq_true rfl) dX10_confide_25 (fun H locs hW => ?_)
      obtain ⟨e1, e2⟩ := z_s2 hf
      subst e1
      subst e2
      exact z_ri B hW dX10_confide_28
    · have hf := z_if c7 hf
      refine lv_iload_n hx hb dX10_confide_16 rfl (lv_at hl 2 rfl) ?_
      refine lv_bipush (v := 60) hx hb dX10_confide_17 (by decide) ?_
      refine lv_icmp_le (tgt := 29) hx hb dX10_confide_19 (by decide) (fun c11 => ?_) (fun c11 => ?_)
      · have hf := z_it c11 hf
        refine lv_aload_n hx hb dX10_confide_29 rfl (lv_at hl 0 rfl) ?_
        refine z_get_10_0 B hW h0 q257 dX10_confide_30 ?_
        refine lv_iload_n hx hb dX10_confide_33 rfl (lv_at hl 1 rfl) ?_
        obtain ⟨r12, e13, hf⟩ := z_bd hf
        refine z_cV (As := [.int l1]) (rest := []) B hW (f_X3_visitor l e13 (z_g10_0 hg h0)) sc_X3_visitor sv_X10_86 (z_g10_0 hg h0) ⟨Nat.le_of_ble_eq_true rfl, Nat.le_of_ble_eq_true rfl⟩ ⟨Nat.zero_le _, Nat.zero_le _⟩ rfl hl.1 rfl (Nat.le_of_ble_eq_true rfl) dX10_confide_34 (fun H locs hW => ?_)
        refine z_getN_8_1 B hW (h_X3_visitor hg e13 (z_g10_0 hg h0)) q156 dX10_confide_37 ?_
        refine lv_istore_n (lv' := [(3, .int (M.1 r12 1)), (0, .ref l0), (1, .int l1), (2, .int l2)]) hx hb dX10_confide_40 rfl hl (by decide) rfl (fun ls hl => ?_)
        refine lv_iload_n hx hb dX10_confide_41 rfl (lv_at hl 0 rfl) ?_
        refine lv_sipush (v := 1023) hx hb dX10_confide_42 (by decide) ?_
        refine lv_icmp_ne (tgt := 55) hx hb dX10_confide_45 (by decide) (fun c14 => ?_) (fun c14 => ?_)
        · have hf := z_if c14 hf
          refine lv_iconst (v := 0) hx hb dX10_confide_55 (by decide) ?_
          refine lv_istore (lv' := [(4, .int (0 : Int32)), (3, .int (M.1 r12 1)), (0, .ref l0), (1, .int l1), (2, .int l2)]) hx hb dX10_confide_56 hl (by decide) rfl (fun ls hl => ?_)
          exact w_X10_confide_P58 B 1000 M l0 l1 l2 (M.1 r12 1) (0 : Int32) _ _ hf h0 _ _ _ hW (lv_sub hl [2, 3, 4, 1, 0] rfl)
        · have hf := z_it c14 hf
          refine lv_aload_n hx hb dX10_confide_48 rfl (lv_at hl 1 rfl) ?_
          refine lv_ldc hx hb ho (hw _ q568) dX10_confide_49 ?_
          obtain ⟨r15, M16, e17, hf⟩ := z_bpe hf
          refine z_cV (As := [.int (-1000000004 : Int32)]) (rest := []) B hW (f_X10_finding l e17 h0) sc_X10_finding sv_X10_72 h0 ⟨Nat.le_of_ble_eq_true rfl, Nat.le_of_ble_eq_true rfl⟩ ⟨Nat.zero_le _, Nat.zero_le _⟩ rfl hl.1 rfl (Nat.le_of_ble_eq_true rfl) dX10_confide_51 (fun H locs hW => ?_)
          obtain ⟨e1, e2⟩ := z_s2 hf
          subst e1
          subst e2
          exact z_ri B hW dX10_confide_54
      · have hf := z_if c11 hf
        refine lv_aload_n hx hb dX10_confide_22 rfl (lv_at hl 0 rfl) ?_
        refine lv_ldc hx hb ho (hw _ q289) dX10_confide_23 ?_
        obtain ⟨r18, M19, e20, hf⟩ := z_bpe hf
        refine z_cV (As := [.int (-1000000001 : Int32)]) (rest := []) B hW (f_X10_finding l e20 h0) sc_X10_finding sv_X10_72 h0 ⟨Nat.le_of_ble_eq_true rfl, Nat.le_of_ble_eq_true rfl⟩ ⟨Nat.zero_le _, Nat.zero_le _⟩ rfl hl.1 rfl (Nat.le_of_ble_eq_true rfl) dX10_confide_25 (fun H locs hW => ?_)
        obtain ⟨e1, e2⟩ := z_s2 hf
        subst e1
        subst e2
        exact z_ri B hW dX10_confide_28
set_option maxHeartbeats 4000000 in
set_option maxRecDepth 100000 in
theorem f_X10_enough (l : Launch) {Γ : Zg} {M : Zm} {l0 : Nat} {l1 : Int32} {l2 : Int32} {r : Int32} {M' : Zm} (hf : X10_enough Γ M l0 l1 l2 = some (r, M')) (h0 : z_Is Γ 10 l0) : z_Fn l Γ yX10_enough cX10_enough 3 (some .int) 7 163 [.ref l0, .int l1, .int l2] M (some (.int r)) M' := by
  refine z_Fn.of (by decide) (Nat.le_of_ble_eq_true rfl) ?_
  intro p e s m below meth c ls B hW hl
  have B : z_Bd Γ p s m _ meth c cX10_enough 3 (some .int) RX10 := B
  have hl : lv_has ls 3 [(0, .ref l0), (1, .int l1), (2, .int l2)] := hl
  rw [X10_enough] at hf
  have hx := B.1
  have hb := B.2.1
  have hml := B.2.2.1
  have ho := B.2.2.2.1
  have hw := B.2.2.2.2.1
  have hE := B.2.2.2.2.2.1.2.2
  have hg := B.2.2.2.2.2.2.1
  refine lv_aload_n hx hb dX10_enough_0 rfl (lv_at hl 0 rfl) ?_
  refine z_get_10_0 B hW h0 q257 dX10_enough_1 ?_
  refine lv_iload_n hx hb dX10_enough_4 rfl (lv_at hl 1 rfl) ?_
  refine z_cV (As := [.int l1]) (rest := []) B hW (f_X3_has l (z_g10_0 hg h0)) sc_X3_has sv_X10_109 (z_g10_0 hg h0) ⟨Nat.le_of_ble_eq_true rfl, Nat.le_of_ble_eq_true rfl⟩ ⟨Nat.zero_le _, Nat.zero_le _⟩ rfl hl.1 rfl (Nat.le_of_ble_eq_true rfl) dX10_enough_5 (fun H locs hW => ?_)
  refine lv_if_eq (tgt := 22) hx hb dX10_enough_8 (by decide) (fun c3 => ?_) (fun c3 => ?_)
  · have hf := z_it c3 hf
    refine lv_aload_n hx hb dX10_enough_22 rfl (lv_at hl 0 rfl) ?_
    refine lv_ldc hx hb ho (hw _ q289) dX10_enough_23 ?_
    obtain ⟨r4, M5, e6, hf⟩ := z_bpe hf
    refine z_cV (As := [.int (-1000000001 : Int32)]) (rest := []) B hW (f_X10_finding l e6 h0) sc_X10_finding sv_X10_72 h0 ⟨Nat.le_of_ble_eq_true rfl, Nat.le_of_ble_eq_true rfl⟩ ⟨Nat.zero_le _, Nat.zero_le _⟩ rfl hl.1 rfl (Nat.le_of_ble_eq_true rfl) dX10_enough_25 (fun H locs hW => ?_)
    obtain ⟨e1, e2⟩ := z_s2 hf
    subst e1
    subst e2
    exact z_ri B hW dX10_enough_28
  · have hf := z_if c3 hf
    refine lv_iload_n hx hb dX10_enough_11 rfl (lv_at hl 2 rfl) ?_
    refine lv_iconst (v := 1) hx hb dX10_enough_12 (by decide) ?_
    refine lv_icmp_lt (tgt := 22) hx hb dX10_enough_13 (by decide) (fun c7 => ?_) (fun c7 => ?_)
    · have hf := z_it c7 hf
      refine lv_aload_n hx hb dX10_enough_22 rfl (lv_at hl 0 rfl) ?_
      refine lv_ldc hx hb ho (hw _ q289) dX10_enough_23 ?_
      obtain ⟨r8, M9, e10, hf⟩ := z_bpe hf
      refine z_cV (As := [.int (-1000000001 : Int32)]) (rest := []) B hW (f_X10_finding l e10 h0) sc_X10_finding sv_X10_72 h0 ⟨Nat.le_of_ble_eq_true rfl, Nat.le_of_ble_eq_true rfl⟩ ⟨Nat.zero_le _, Nat.zero_le _⟩ rfl hl.1 rfl (Nat.le_of_ble_eq_true rfl) dX10_enough_25 (fun H locs hW => ?_)
      obtain ⟨e1, e2⟩ := z_s2 hf
      subst e1
      subst e2
      exact z_ri B hW dX10_enough_28
    · have hf := z_if c7 hf
      refine lv_iload_n hx hb dX10_enough_16 rfl (lv_at hl 2 rfl) ?_
      refine lv_bipush (v := 99) hx hb dX10_enough_17 (by decide) ?_
      refine lv_icmp_le (tgt := 29) hx hb dX10_enough_19 (by decide) (fun c11 => ?_) (fun c11 => ?_)
      · have hf := z_it c11 hf
        refine lv_aload_n hx hb dX10_enough_29 rfl (lv_at hl 0 rfl) ?_
        refine lv_iconst (v := 3) hx hb dX10_enough_30 (by decide) ?_
        refine lv_iload_n hx hb dX10_enough_31 rfl (lv_at hl 1 rfl) ?_
        refine lv_aload_n hx hb dX10_enough_32 rfl (lv_at hl 0 rfl) ?_
        refine z_get_10_0 B hW h0 q257 dX10_enough_33 ?_
        refine lv_iload_n hx hb dX10_enough_36 rfl (lv_at hl 1 rfl) ?_
        obtain ⟨r12, e13, hf⟩ := z_bd hf
        refine z_cV (As := [.int l1]) (rest := [.int l1, .int (3 : Int32), .ref l0]) B hW (f_X3_visitor l e13 (z_g10_0 hg h0)) sc_X3_visitor sv_X10_86 (z_g10_0 hg h0) ⟨Nat.le_of_ble_eq_true rfl, Nat.le_of_ble_eq_true rfl⟩ ⟨Nat.zero_le _, Nat.zero_le _⟩ rfl hl.1 rfl (Nat.le_of_ble_eq_true rfl) dX10_enough_37 (fun H locs hW => ?_)
        refine z_getN_8_5 B hW (h_X3_visitor hg e13 (z_g10_0 hg h0)) q170 dX10_enough_40 ?_
        refine lv_iload_n hx hb dX10_enough_43 rfl (lv_at hl 2 rfl) ?_
        refine lv_iadd hx hb dX10_enough_44 ?_
        obtain ⟨r14, M15, e16, hf⟩ := z_bpe hf
        refine z_cV (As := [.int (3 : Int32), .int l1, .int ((M.1 r12 5) + l2)]) (rest := []) B hW (f_X10_firstHour l e16 h0) sc_X10_firstHour sv_X10_182 h0 ⟨Nat.le_of_ble_eq_true rfl, Nat.le_of_ble_eq_true rfl⟩ ⟨Nat.zero_le _, Nat.zero_le _⟩ rfl hl.1 rfl (Nat.le_of_ble_eq_true rfl) dX10_enough_45 (fun H locs hW => ?_)
        obtain ⟨e1, e2⟩ := z_s2 hf
        subst e1
        subst e2
        exact z_ri B hW dX10_enough_48
      · have hf := z_if c11 hf
        refine lv_aload_n hx hb dX10_enough_22 rfl (lv_at hl 0 rfl) ?_
        refine lv_ldc hx hb ho (hw _ q289) dX10_enough_23 ?_
        obtain ⟨r17, M18, e19, hf⟩ := z_bpe hf
        refine z_cV (As := [.int (-1000000001 : Int32)]) (rest := []) B hW (f_X10_finding l e19 h0) sc_X10_finding sv_X10_72 h0 ⟨Nat.le_of_ble_eq_true rfl, Nat.le_of_ble_eq_true rfl⟩ ⟨Nat.zero_le _, Nat.zero_le _⟩ rfl hl.1 rfl (Nat.le_of_ble_eq_true rfl) dX10_enough_25 (fun H locs hW => ?_)
        obtain ⟨e1, e2⟩ := z_s2 hf
        subst e1
        subst e2
        exact z_ri B hW dX10_enough_28
set_option maxHeartbeats 4000000 in
set_option maxRecDepth 100000 in
theorem f_X10_believedIfTurned (l : Launch) {Γ : Zg} {M : Zm} {l0 : Nat} {l1 : Int32} {l2 : Int32} {r : Int32} {M' : Zm} (hf : X10_believedIfTurned Γ M l0 l1 l2 = some (r, M')) (h0 : z_Is Γ 10 l0) : z_Fn l Γ yX10_believedIfTurned cX10_believedIfTurned 3 (some .int) 6 139 [.ref l0, .int l1, .int l2] M (some (.int r)) M' := by
  refine z_Fn.of (by decide) (Nat.le_of_ble_eq_true rfl) ?_
  intro p e s m below meth c ls B hW hl
  have B : z_Bd Γ p s m _ meth c cX10_believedIfTurned 3 (some .int) RX10 := B
  have hl : lv_has ls 3 [(0, .ref l0), (1, .int l1), (2, .int l2)] := hl
  rw [X10_believedIfTurned] at hf
  have hx := B.1
  have hb := B.2.1
  have hml := B.2.2.1
  have ho := B.2.2.2.1
  have hw := B.2.2.2.2.1
  have hE := B.2.2.2.2.2.1.2.2
  have hg := B.2.2.2.2.2.2.1
  refine lv_aload_n hx hb dX10_believedIfTurned_0 rfl (lv_at hl 0 rfl) ?_
  refine z_get_10_1 B hW h0 q258 dX10_believedIfTurned_1 ?_
  refine lv_aload_n hx hb dX10_believedIfTurned_4 rfl (lv_at hl 0 rfl) ?_
  refine z_get_10_0 B hW h0 q257 dX10_believedIfTurned_5 ?_
  obtain ⟨M2, e3, hf⟩ := z_bd hf
  refine z_cV (As := [.ref (z_r Γ l0 0)]) (rest := []) B hW (f_X3_become l e3 (z_g10_1 hg h0) (z_g10_0 hg h0)) sc_X3_become sv_X10_178 (z_g10_1 hg h0) ⟨Nat.le_of_ble_eq_true rfl, Nat.le_of_ble_eq_true rfl⟩ ⟨Nat.zero_le _, Nat.zero_le _⟩ rfl hl.1 rfl (Nat.le_of_ble_eq_true rfl) dX10_believedIfTurned_8 (fun H locs hW => ?_)
  refine lv_aload_n hx hb dX10_believedIfTurned_11 rfl (lv_at hl 0 rfl) ?_
  refine z_get_10_1 B hW h0 q258 dX10_believedIfTurned_12 ?_
  refine lv_dup hx hb dX10_believedIfTurned_15 rfl ?_
  refine z_getN_3_3 B hW (z_g10_1 hg h0) q190 dX10_believedIfTurned_16 ?_
  refine lv_iconst (v := 1) hx hb dX10_believedIfTurned_19 (by decide) ?_
  refine lv_iload_n hx hb dX10_believedIfTurned_20 rfl (lv_at hl 1 rfl) ?_
  refine lv_ishl hx hb dX10_believedIfTurned_21 ?_
  refine lv_ixor hx hb dX10_believedIfTurned_22 ?_
  refine z_putN_3_3 B hW (z_g10_1 hg h0) q190 dX10_believedIfTurned_23 (fun H locs hW => ?_)
  obtain ⟨M4, e5, hf⟩ := z_le hf
  have hW := z_wde e5 hW
  refine lv_aload_n hx hb dX10_believedIfTurned_26 rfl (lv_at hl 0 rfl) ?_
  refine z_get_10_1 B hW h0 q258 dX10_believedIfTurned_27 ?_
  refine lv_iload_n hx hb dX10_believedIfTurned_30 rfl (lv_at hl 2 rfl) ?_
  obtain ⟨M7, e8, hf⟩ := z_bd hf
  refine z_cV (As := [.int l2]) (rest := []) B hW (f_X3_letHoursGo l e8 (z_g10_1 hg h0)) sc_X3_letHoursGo sv_X10_159 (z_g10_1 hg h0) ⟨Nat.le_of_ble_eq_true rfl, Nat.le_of_ble_eq_true rfl⟩ ⟨Nat.zero_le _, Nat.zero_le _⟩ rfl hl.1 rfl (Nat.le_of_ble_eq_true rfl) dX10_believedIfTurned_31 (fun H locs hW => ?_)
  refine lv_aload_n hx hb dX10_believedIfTurned_34 rfl (lv_at hl 0 rfl) ?_
  refine z_get_10_1 B hW h0 q258 dX10_believedIfTurned_35 ?_
  obtain ⟨r9, e10, hf⟩ := z_bd hf
  refine z_cV (As := []) (rest := []) B hW (f_X3_believedByAll l e10 (z_g10_1 hg h0)) sc_X3_believedByAll sv_X10_266 (z_g10_1 hg h0) ⟨Nat.le_of_ble_eq_true rfl, Nat.le_of_ble_eq_true rfl⟩ ⟨Nat.zero_le _, Nat.zero_le _⟩ rfl hl.1 rfl (Nat.le_of_ble_eq_true rfl) dX10_believedIfTurned_38 (fun H locs hW => ?_)
  obtain ⟨e1, e2⟩ := z_s2 hf
  subst e1
  subst e2
  exact z_ri B hW dX10_believedIfTurned_41
set_option maxHeartbeats 4000000 in
set_option maxRecDepth 100000 in
theorem w_X10_doubt_P20 (B : z_Bd Γ p s m args meth c cX10_doubt 3 (some .int) RX10) : ∀ (n : Nat) (M : Zm) (l0 : Nat) (l1 : Int32) (l2 : Int32) (r : Int32) (M' : Zm), X10_doubt_P20 Γ n M l0 l1 l2 = some (r, M') → z_Is Γ 10 l0 → ∀ (H : Heap) (locs : List Loc) (ls : Array Slot), z_Wd Γ M s.heap H locs → lv_has ls 3 [(0, .ref l0), (1, .int l1), (2, .int l2)] → W p l e (z_rm 7 161) s m args below meth c H locs 0 0 (z_Q Γ below args s (some (.int r)) M') (F0 m 20 ls []) := by
  have hx := B.1
  have hb := B.2.1
  have hml := B.2.2.1
  have ho := B.2.2.2.1
  have hw := B.2.2.2.2.1
  have hE := B.2.2.2.2.2.1.2.2
  have hg := B.2.2.2.2.2.2.1
  intro n
  induction n with
  | zero =>
    intro M l0 l1 l2 r M' hf h0 H locs ls hW hl
    cases hf
  | succ n ih =>
    intro M l0 l1 l2 r M' hf h0 H locs ls hW hl
    rw [X10_doubt_P20] at hf
    refine lv_iload_n hx hb dX10_doubt_20 rfl (lv_at hl 2 rfl) ?_
    refine lv_bipush (v := 10) hx hb dX10_doubt_21 (by decide) ?_
    refine lv_icmp_ge (tgt := 44) hx hb dX10_doubt_23 (by decide) (fun c9 => ?_) (fun c9 => ?_)
    · have hf := z_it c9 hf
      refine lv_aload_n hx hb dX10_doubt_44 rfl (lv_at hl 0 rfl) ?_
      refine lv_bipush (v := 10) hx hb dX10_doubt_45 (by decide) ?_
      obtain ⟨r10, e11, hf⟩ := z_bd hf
      refine z_cV (As := [.int (10 : Int32)]) (rest := []) B hW (f_X10_leastOfBest l e11 h0) sc_X10_leastOfBest sv_X10_192 h0 ⟨Nat.le_of_ble_eq_true rfl, Nat.le_of_ble_eq_true rfl⟩ ⟨Nat.zero_le _, Nat.zero_le _⟩ rfl hl.1 rfl (Nat.le_of_ble_eq_true rfl) dX10_doubt_47 (fun H locs hW => ?_)
      obtain ⟨e1, e2⟩ := z_s2 hf
      subst e1
      subst e2
      exact z_ri B hW dX10_doubt_50
    · have hf := z_if c9 hf
      refine lv_aload_n hx hb dX10_doubt_26 rfl (lv_at hl 0 rfl) ?_
      refine z_get_10_7 B hW h0 q264 dX10_doubt_27 ?_
      refine lv_iload_n hx hb dX10_doubt_30 rfl (lv_at hl 2 rfl) ?_
      refine lv_aload_n hx hb dX10_doubt_31 rfl (lv_at hl 0 rfl) ?_
      refine lv_iload_n hx hb dX10_doubt_32 rfl (lv_at hl 2 rfl) ?_
      refine lv_iload_n hx hb dX10_doubt_33 rfl (lv_at hl 1 rfl) ?_
      obtain ⟨r12, M13, e14, hf⟩ := z_bpe hf
      refine z_cV (As := [.int l2, .int l1]) (rest := [.int l2, .ref (z_r Γ l0 7)]) B hW (f_X10_believedIfTurned l e14 h0) sc_X10_believedIfTurned sv_X10_205 h0 ⟨Nat.le_of_ble_eq_true rfl, Nat.le_of_ble_eq_true rfl⟩ ⟨Nat.zero_le _, Nat.zero_le _⟩ rfl hl.1 rfl (Nat.le_of_ble_eq_true rfl) dX10_doubt_34 (fun H locs hW => ?_)
      obtain ⟨g15, hf⟩ := z_gd hf
      refine z_is B hW (z_g10_7 hg h0) g15 dX10_doubt_37 (fun H locs hW => ?_)
      obtain ⟨M16, e17, hf⟩ := z_le hf
      have hW := z_wde e17 hW
      refine lv_iinc (v := l2 + (1 : Int32)) (lv' := [(2, .int (l2 + (1 : Int32))), (0, .ref l0), (1, .int l1)]) hx hb dX10_doubt_38 hl (k := 2) rfl rfl (by decide) rfl (fun ls hl => ?_)
      refine lv_goto (tgt := 20) hx hb dX10_doubt_41 (by decide) ?_
      exact ih M16 l0 l1 (l2 + (1 : Int32)) _ _ hf h0 _ _ _ hW (lv_sub hl [1, 2, 0] rfl)
set_option maxHeartbeats 4000000 in
set_option maxRecDepth 100000 in
theorem f_X10_doubt (l : Launch) {Γ : Zg} {M : Zm} {l0 : Nat} {l1 : Int32} {r : Int32} {M' : Zm} (hf : X10_doubt Γ M l0 l1 = some (r, M')) (h0 : z_Is Γ 10 l0) : z_Fn l Γ yX10_doubt cX10_doubt 3 (some .int) 7 161 [.ref l0, .int l1] M (some (.int r)) M' := by
  refine z_Fn.of (by decide) (Nat.le_of_ble_eq_true rfl) ?_
  intro p e s m below meth c ls B hW hl
  have B : z_Bd Γ p s m _ meth c cX10_doubt 3 (some .int) RX10 := B
  have hl : lv_has ls 3 [(0, .ref l0), (1, .int l1)] := hl
  rw [X10_doubt] at hf
  have hx := B.1
  have hb := B.2.1
  have hml := B.2.2.1
  have ho := B.2.2.2.1
  have hw := B.2.2.2.2.1
  have hE := B.2.2.2.2.2.1.2.2
  have hg := B.2.2.2.2.2.2.1
  refine lv_iload_n hx hb dX10_doubt_0 rfl (lv_at hl 1 rfl) ?_
  refine lv_iconst (v := 1) hx hb dX10_doubt_1 (by decide) ?_
  refine lv_icmp_lt (tgt := 11) hx hb dX10_doubt_2 (by decide) (fun c1 => ?_) (fun c1 => ?_)
  · have hf := z_it c1 hf
    refine lv_aload_n hx hb dX10_doubt_11 rfl (lv_at hl 0 rfl) ?_
    refine lv_ldc hx hb ho (hw _ q289) dX10_doubt_12 ?_
    obtain ⟨r2, M3, e4, hf⟩ := z_bpe hf
    refine z_cV (As := [.int (-1000000001 : Int32)]) (rest := []) B hW (f_X10_finding l e4 h0) sc_X10_finding sv_X10_72 h0 ⟨Nat.le_of_ble_eq_true rfl, Nat.le_of_ble_eq_true rfl⟩ ⟨Nat.zero_le _, Nat.zero_le _⟩ rfl hl.1 rfl (Nat.le_of_ble_eq_true rfl) dX10_doubt_14 (fun H locs hW => ?_)
    obtain ⟨e1, e2⟩ := z_s2 hf
    subst e1
    subst e2
    exact z_ri B hW dX10_doubt_17
  · have hf := z_if c1 hf
    refine lv_iload_n hx hb dX10_doubt_5 rfl (lv_at hl 1 rfl) ?_
    refine lv_bipush (v := 60) hx hb dX10_doubt_6 (by decide) ?_
    refine lv_icmp_le (tgt := 18) hx hb dX10_doubt_8 (by decide) (fun c5 => ?_) (fun c5 => ?_)
    · have hf := z_it c5 hf
      refine lv_iconst (v := 0) hx hb dX10_doubt_18 (by decide) ?_
      refine lv_istore_n (lv' := [(2, .int (0 : Int32)), (0, .ref l0), (1, .int l1)]) hx hb dX10_doubt_19 rfl hl (by decide) rfl (fun ls hl => ?_)
      exact w_X10_doubt_P20 B 1000 M l0 l1 (0 : Int32) _ _ hf h0 _ _ _ hW (lv_sub hl [1, 2, 0] rfl)
    · have hf := z_if c5 hf
      refine lv_aload_n hx hb dX10_doubt_11 rfl (lv_at hl 0 rfl) ?_
      refine lv_ldc hx hb ho (hw _ q289) dX10_doubt_12 ?_
      obtain ⟨r6, M7, e8, hf⟩ := z_bpe hf
      refine z_cV (As := [.int (-1000000001 : Int32)]) (rest := []) B hW (f_X10_finding l e8 h0) sc_X10_finding sv_X10_72 h0 ⟨Nat.le_of_ble_eq_true rfl, Nat.le_of_ble_eq_true rfl⟩ ⟨Nat.zero_le _, Nat.zero_le _⟩ rfl hl.1 rfl (Nat.le_of_ble_eq_true rfl) dX10_doubt_14 (fun H locs hW => ?_)
      obtain ⟨e1, e2⟩ := z_s2 hf
      subst e1
      subst e2
      exact z_ri B hW dX10_doubt_17
set_option maxHeartbeats 4000000 in
set_option maxRecDepth 100000 in
theorem w_X10_wisest_P56 (B : z_Bd Γ p s m args meth c cX10_wisest 3 (some .int) RX10) : ∀ (n : Nat) (M : Zm) (l0 : Nat) (l2 : Int32) (r : Int32) (M' : Zm), X10_wisest_P56 Γ n M l0 l2 = some (r, M') → z_Is Γ 10 l0 → ∀ (H : Heap) (locs : List Loc) (ls : Array Slot), z_Wd Γ M s.heap H locs → lv_has ls 3 [(0, .ref l0), (2, .int l2)] → W p l e (z_rm 6 139) s m args below meth c H locs 0 0 (z_Q Γ below args s (some (.int r)) M') (F0 m 56 ls []) := by
  have hx := B.1
  have hb := B.2.1
  have hml := B.2.2.1
  have ho := B.2.2.2.1
  have hw := B.2.2.2.2.1
  have hE := B.2.2.2.2.2.1.2.2
  have hg := B.2.2.2.2.2.2.1
  intro n
  induction n with
  | zero =>
    intro M l0 l2 r M' hf h0 H locs ls hW hl
    cases hf
  | succ n ih =>
    intro M l0 l2 r M' hf h0 H locs ls hW hl
    rw [X10_wisest_P56] at hf
    refine lv_iload_n hx hb dX10_wisest_56 rfl (lv_at hl 1 rfl) ?_
    refine lv_aload_n hx hb dX10_wisest_57 rfl (lv_at hl 0 rfl) ?_
    refine z_get_10_1 B hW h0 q258 dX10_wisest_58 ?_
    refine z_getN_3_2 B hW (z_g10_1 hg h0) q188 dX10_wisest_61 ?_
    refine lv_icmp_ge (tgt := 93) hx hb dX10_wisest_64 (by decide) (fun c19 => ?_) (fun c19 => ?_)
    · have hf := z_it c19 hf
      refine lv_aload_n hx hb dX10_wisest_93 rfl (lv_at hl 0 rfl) ?_
      refine lv_aload_n hx hb dX10_wisest_94 rfl (lv_at hl 0 rfl) ?_
      refine z_get_10_1 B hW h0 q258 dX10_wisest_95 ?_
      refine z_getN_3_2 B hW (z_g10_1 hg h0) q188 dX10_wisest_98 ?_
      obtain ⟨r20, e21, hf⟩ := z_bd hf
      refine z_cV (As := [.int (M.1 (z_r Γ l0 1) 2)]) (rest := []) B hW (f_X10_leastOfBest l e21 h0) sc_X10_leastOfBest sv_X10_192 h0 ⟨Nat.le_of_ble_eq_true rfl, Nat.le_of_ble_eq_true rfl⟩ ⟨Nat.zero_le _, Nat.zero_le _⟩ rfl hl.1 rfl (Nat.le_of_ble_eq_true rfl) dX10_wisest_101 (fun H locs hW => ?_)
      obtain ⟨e1, e2⟩ := z_s2 hf
      subst e1
      subst e2
      exact z_ri B hW dX10_wisest_104
    · have hf := z_if c19 hf
      refine lv_aload_n hx hb dX10_wisest_67 rfl (lv_at hl 0 rfl) ?_
      refine z_get_10_7 B hW h0 q264 dX10_wisest_68 ?_
      refine lv_iload_n hx hb dX10_wisest_71 rfl (lv_at hl 1 rfl) ?_
      refine lv_aload_n hx hb dX10_wisest_72 rfl (lv_at hl 0 rfl) ?_
      refine z_get_10_1 B hW h0 q258 dX10_wisest_73 ?_
      refine lv_iload_n hx hb dX10_wisest_76 rfl (lv_at hl 1 rfl) ?_
      obtain ⟨r22, e23, hf⟩ := z_bd hf
      refine z_cV (As := [.int l2]) (rest := [.int l2, .ref (z_r Γ l0 7)]) B hW (f_X3_visitor l e23 (z_g10_1 hg h0)) sc_X3_visitor sv_X10_86 (z_g10_1 hg h0) ⟨Nat.le_of_ble_eq_true rfl, Nat.le_of_ble_eq_true rfl⟩ ⟨Nat.zero_le _, Nat.zero_le _⟩ rfl hl.1 rfl (Nat.le_of_ble_eq_true rfl) dX10_wisest_77 (fun H locs hW => ?_)
      refine z_getN_8_1 B hW (h_X3_visitor hg e23 (z_g10_1 hg h0)) q156 dX10_wisest_80 ?_
      refine z_cS (As := [.int (M.1 r22 1)]) (rest := [.int l2, .ref (z_r Γ l0 7)]) B hW (f_J6_bitCount_0f7a4 l) sc_J6_bitCount_0f7a4 ⟨q589, q407⟩ ⟨Nat.le_of_ble_eq_true rfl, Nat.le_of_ble_eq_true rfl⟩ ⟨Nat.zero_le _, Nat.zero_le _⟩ rfl hl.1 rfl (Nat.le_of_ble_eq_true rfl) dX10_wisest_83 (fun H locs hW => ?_)
      obtain ⟨g26, hf⟩ := z_gd hf
      refine z_is B hW (z_g10_7 hg h0) g26 dX10_wisest_86 (fun H locs hW => ?_)
      obtain ⟨M27, e28, hf⟩ := z_le hf
      have hW := z_wde e28 hW
      refine lv_iinc (v := l2 + (1 : Int32)) (lv' := [(2, .int (l2 + (1 : Int32))), (0, .ref l0)]) hx hb dX10_wisest_87 hl (k := 1) rfl rfl (by decide) rfl (fun ls hl => ?_)
      refine lv_goto (tgt := 56) hx hb dX10_wisest_90 (by decide) ?_
      exact ih M27 l0 (l2 + (1 : Int32)) _ _ hf h0 _ _ _ hW (lv_sub hl [1, 0] rfl)
set_option maxHeartbeats 4000000 in
set_option maxRecDepth 100000 in
theorem f_X10_wisest (l : Launch) {Γ : Zg} {M : Zm} {l0 : Nat} {l1 : Int32} {r : Int32} {M' : Zm} (hf : X10_wisest Γ M l0 l1 = some (r, M')) (h0 : z_Is Γ 10 l0) : z_Fn l Γ yX10_wisest cX10_wisest 3 (some .int) 6 139 [.ref l0, .int l1] M (some (.int r)) M' := by
  refine z_Fn.of (by decide) (Nat.le_of_ble_eq_true rfl) ?_
  intro p e s m below meth c ls B hW hl
  have B : z_Bd Γ p s m _ meth c cX10_wisest 3 (some .int) RX10 := B
  have hl : lv_has ls 3 [(0, .ref l0), (1, .int l1)] := hl
  rw [X10_wisest] at hf
  have hx := B.1
  have hb := B.2.1
  have hml := B.2.2.1
  have ho := B.2.2.2.1
  have hw := B.2.2.2.2.1
  have hE := B.2.2.2.2.2.1.2.2
  have hg := B.2.2.2.2.2.2.1
  refine lv_iload_n hx hb dX10_wisest_0 rfl (lv_at hl 1 rfl) ?_
  refine lv_if_lt (tgt := 11) hx hb dX10_wisest_1 (by decide) (fun c1 => ?_) (fun c1 => ?_)
  · have hf := z_it c1 hf
    refine lv_aload_n hx hb dX10_wisest_11 rfl (lv_at hl 0 rfl) ?_
    refine lv_ldc hx hb ho (hw _ q289) dX10_wisest_12 ?_
    obtain ⟨r2, M3, e4, hf⟩ := z_bpe hf
    refine z_cV (As := [.int (-1000000001 : Int32)]) (rest := []) B hW (f_X10_finding l e4 h0) sc_X10_finding sv_X10_72 h0 ⟨Nat.le_of_ble_eq_true rfl, Nat.le_of_ble_eq_true rfl⟩ ⟨Nat.zero_le _, Nat.zero_le _⟩ rfl hl.1 rfl (Nat.le_of_ble_eq_true rfl) dX10_wisest_14 (fun H locs hW => ?_)
    obtain ⟨e1, e2⟩ := z_s2 hf
    subst e1
    subst e2
    exact z_ri B hW dX10_wisest_17
  · have hf := z_if c1 hf
    refine lv_iload_n hx hb dX10_wisest_4 rfl (lv_at hl 1 rfl) ?_
    refine lv_sipush (v := 200) hx hb dX10_wisest_5 (by decide) ?_
    refine lv_icmp_le (tgt := 18) hx hb dX10_wisest_8 (by decide) (fun c5 => ?_) (fun c5 => ?_)
    · have hf := z_it c5 hf
      refine lv_aload_n hx hb dX10_wisest_18 rfl (lv_at hl 0 rfl) ?_
      refine z_get_10_0 B hW h0 q257 dX10_wisest_19 ?_
      refine z_getN_3_2 B hW (z_g10_0 hg h0) q188 dX10_wisest_22 ?_
      refine lv_if_ne (tgt := 35) hx hb dX10_wisest_25 (by decide) (fun c6 => ?_) (fun c6 => ?_)
      · have hf := z_if c6 hf
        refine lv_aload_n hx hb dX10_wisest_35 rfl (lv_at hl 0 rfl) ?_
        refine z_get_10_1 B hW h0 q258 dX10_wisest_36 ?_
        refine lv_aload_n hx hb dX10_wisest_39 rfl (lv_at hl 0 rfl) ?_
        refine z_get_10_0 B hW h0 q257 dX10_wisest_40 ?_
        obtain ⟨M8, e9, hf⟩ := z_bd hf
        refine z_cV (As := [.ref (z_r Γ l0 0)]) (rest := []) B hW (f_X3_become l e9 (z_g10_1 hg h0) (z_g10_0 hg h0)) sc_X3_become sv_X10_178 (z_g10_1 hg h0) ⟨Nat.le_of_ble_eq_true rfl, Nat.le_of_ble_eq_true rfl⟩ ⟨Nat.zero_le _, Nat.zero_le _⟩ rfl hl.1 rfl (Nat.le_of_ble_eq_true rfl) dX10_wisest_43 (fun H locs hW => ?_)
        refine lv_aload_n hx hb dX10_wisest_46 rfl (lv_at hl 0 rfl) ?_
        refine z_get_10_1 B hW h0 q258 dX10_wisest_47 ?_
        refine lv_iload_n hx hb dX10_wisest_50 rfl (lv_at hl 1 rfl) ?_
        obtain ⟨M11, e12, hf⟩ := z_bd hf
        refine z_cV (As := [.int l1]) (rest := []) B hW (f_X3_letHoursGo l e12 (z_g10_1 hg h0)) sc_X3_letHoursGo sv_X10_159 (z_g10_1 hg h0) ⟨Nat.le_of_ble_eq_true rfl, Nat.le_of_ble_eq_true rfl⟩ ⟨Nat.zero_le _, Nat.zero_le _⟩ rfl hl.1 rfl (Nat.le_of_ble_eq_true rfl) dX10_wisest_51 (fun H locs hW => ?_)
        refine lv_iconst (v := 0) hx hb dX10_wisest_54 (by decide) ?_
        refine lv_istore_n (lv' := [(2, .int (0 : Int32)), (0, .ref l0), (1, .int l1)]) hx hb dX10_wisest_55 rfl hl (by decide) rfl (fun ls hl => ?_)
        exact w_X10_wisest_P56 B 1000 M11 l0 (0 : Int32) _ _ hf h0 _ _ _ hW (lv_sub hl [1, 0] rfl)
      · have hf := z_it c6 hf
        refine lv_aload_n hx hb dX10_wisest_28 rfl (lv_at hl 0 rfl) ?_
        refine lv_ldc hx hb ho (hw _ q568) dX10_wisest_29 ?_
        obtain ⟨r13, M14, e15, hf⟩ := z_bpe hf
        refine z_cV (As := [.int (-1000000004 : Int32)]) (rest := []) B hW (f_X10_finding l e15 h0) sc_X10_finding sv_X10_72 h0 ⟨Nat.le_of_ble_eq_true rfl, Nat.le_of_ble_eq_true rfl⟩ ⟨Nat.zero_le _, Nat.zero_le _⟩ rfl hl.1 rfl (Nat.le_of_ble_eq_true rfl) dX10_wisest_31 (fun H locs hW => ?_)
        obtain ⟨e1, e2⟩ := z_s2 hf
        subst e1
        subst e2
        exact z_ri B hW dX10_wisest_34
    · have hf := z_if c5 hf
      refine lv_aload_n hx hb dX10_wisest_11 rfl (lv_at hl 0 rfl) ?_
      refine lv_ldc hx hb ho (hw _ q289) dX10_wisest_12 ?_
      obtain ⟨r16, M17, e18, hf⟩ := z_bpe hf
      refine z_cV (As := [.int (-1000000001 : Int32)]) (rest := []) B hW (f_X10_finding l e18 h0) sc_X10_finding sv_X10_72 h0 ⟨Nat.le_of_ble_eq_true rfl, Nat.le_of_ble_eq_true rfl⟩ ⟨Nat.zero_le _, Nat.zero_le _⟩ rfl hl.1 rfl (Nat.le_of_ble_eq_true rfl) dX10_wisest_14 (fun H locs hW => ?_)
      obtain ⟨e1, e2⟩ := z_s2 hf
      subst e1
      subst e2
      exact z_ri B hW dX10_wisest_17
set_option maxHeartbeats 4000000 in
set_option maxRecDepth 100000 in
theorem w_X10_feed_P42 (B : z_Bd Γ p s m args meth c cX10_feed 4 (some .int) RX10) : ∀ (n : Nat) (M : Zm) (l0 : Nat) (l1 : Int32) (l3 : Int32) (r : Int32) (M' : Zm), X10_feed_P42 Γ n M l0 l1 l3 = some (r, M') → z_Is Γ 10 l0 → ∀ (H : Heap) (locs : List Loc) (ls : Array Slot), z_Wd Γ M s.heap H locs → lv_has ls 4 [(0, .ref l0), (1, .int l1), (3, .int l3)] → W p l e (z_rm 1 22) s m args below meth c H locs 0 0 (z_Q Γ below args s (some (.int r)) M') (F0 m 42 ls []) := by
  have hx := B.1
  have hb := B.2.1
  have hml := B.2.2.1
  have ho := B.2.2.2.1
  have hw := B.2.2.2.2.1
  have hE := B.2.2.2.2.2.1.2.2
  have hg := B.2.2.2.2.2.2.1
  intro n
  induction n with
  | zero =>
    intro M l0 l1 l3 r M' hf h0 H locs ls hW hl
    cases hf
  | succ n ih =>
    intro M l0 l1 l3 r M' hf h0 H locs ls hW hl
    rw [X10_feed_P42] at hf
    refine lv_iload_n hx hb dX10_feed_42 rfl (lv_at hl 2 rfl) ?_
    refine lv_if_lt (tgt := 69) hx hb dX10_feed_43 (by decide) (fun c13 => ?_) (fun c13 => ?_)
    · have hf := z_it c13 hf
      refine lv_aload_n hx hb dX10_feed_69 rfl (lv_at hl 0 rfl) ?_
      refine z_get_10_4 B hW h0 q261 dX10_feed_70 ?_
      refine z_getN_7_1 B hW (z_g10_4 hg h0) q217 dX10_feed_73 ?_
      obtain ⟨e1, e2⟩ := z_s2 hf
      subst e1
      subst e2
      exact z_ri B hW dX10_feed_76
    · have hf := z_if c13 hf
      refine lv_aload_n hx hb dX10_feed_46 rfl (lv_at hl 0 rfl) ?_
      refine z_get_10_4 B hW h0 q261 dX10_feed_47 ?_
      refine lv_iload_n hx hb dX10_feed_50 rfl (lv_at hl 1 rfl) ?_
      refine lv_bipush (v := 8) hx hb dX10_feed_51 (by decide) ?_
      refine lv_iload_n hx hb dX10_feed_53 rfl (lv_at hl 2 rfl) ?_
      refine lv_imul hx hb dX10_feed_54 ?_
      refine lv_ishr hx hb dX10_feed_55 ?_
      refine lv_sipush (v := 255) hx hb dX10_feed_56 (by decide) ?_
      refine lv_iand hx hb dX10_feed_59 ?_
      obtain ⟨M15, e16, hf⟩ := z_bd hf
      refine z_cV (As := [.int ((l1 >>> (((8 : Int32) * l3) &&& 31)) &&& (255 : Int32))]) (rest := []) B hW (f_X7_append l e16 (z_g10_4 hg h0)) sc_X7_append sv_X10_217 (z_g10_4 hg h0) ⟨Nat.le_of_ble_eq_true rfl, Nat.le_of_ble_eq_true rfl⟩ ⟨Nat.zero_le _, Nat.zero_le _⟩ rfl hl.1 rfl (Nat.le_of_ble_eq_true rfl) dX10_feed_60 (fun H locs hW => ?_)
      refine lv_iinc (v := l3 + (-1 : Int32)) (lv' := [(3, .int (l3 + (-1 : Int32))), (0, .ref l0), (1, .int l1)]) hx hb dX10_feed_63 hl (k := 2) rfl rfl (by decide) rfl (fun ls hl => ?_)
      refine lv_goto (tgt := 42) hx hb dX10_feed_66 (by decide) ?_
      exact ih M15 l0 l1 (l3 + (-1 : Int32)) _ _ hf h0 _ _ _ hW (lv_sub hl [1, 2, 0] rfl)
set_option maxHeartbeats 4000000 in
set_option maxRecDepth 100000 in
theorem f_X10_feed (l : Launch) {Γ : Zg} {M : Zm} {l0 : Nat} {l1 : Int32} {l2 : Int32} {r : Int32} {M' : Zm} (hf : X10_feed Γ M l0 l1 l2 = some (r, M')) (h0 : z_Is Γ 10 l0) : z_Fn l Γ yX10_feed cX10_feed 4 (some .int) 1 22 [.ref l0, .int l1, .int l2] M (some (.int r)) M' := by
  refine z_Fn.of (by decide) (Nat.le_of_ble_eq_true rfl) ?_
  intro p e s m below meth c ls B hW hl
  have B : z_Bd Γ p s m _ meth c cX10_feed 4 (some .int) RX10 := B
  have hl : lv_has ls 4 [(0, .ref l0), (1, .int l1), (2, .int l2)] := hl
  rw [X10_feed] at hf
  have hx := B.1
  have hb := B.2.1
  have hml := B.2.2.1
  have ho := B.2.2.2.1
  have hw := B.2.2.2.2.1
  have hE := B.2.2.2.2.2.1.2.2
  have hg := B.2.2.2.2.2.2.1
  refine lv_iload_n hx hb dX10_feed_0 rfl (lv_at hl 2 rfl) ?_
  refine lv_iconst (v := 1) hx hb dX10_feed_1 (by decide) ?_
  refine lv_icmp_lt (tgt := 10) hx hb dX10_feed_2 (by decide) (fun c1 => ?_) (fun c1 => ?_)
  · have hf := z_it c1 hf
    refine lv_aload_n hx hb dX10_feed_10 rfl (lv_at hl 0 rfl) ?_
    refine lv_ldc hx hb ho (hw _ q289) dX10_feed_11 ?_
    obtain ⟨r2, M3, e4, hf⟩ := z_bpe hf
    refine z_cV (As := [.int (-1000000001 : Int32)]) (rest := []) B hW (f_X10_finding l e4 h0) sc_X10_finding sv_X10_72 h0 ⟨Nat.le_of_ble_eq_true rfl, Nat.le_of_ble_eq_true rfl⟩ ⟨Nat.zero_le _, Nat.zero_le _⟩ rfl hl.1 rfl (Nat.le_of_ble_eq_true rfl) dX10_feed_13 (fun H locs hW => ?_)
    obtain ⟨e1, e2⟩ := z_s2 hf
    subst e1
    subst e2
    exact z_ri B hW dX10_feed_16
  · have hf := z_if c1 hf
    refine lv_iload_n hx hb dX10_feed_5 rfl (lv_at hl 2 rfl) ?_
    refine lv_iconst (v := 4) hx hb dX10_feed_6 (by decide) ?_
    refine lv_icmp_le (tgt := 17) hx hb dX10_feed_7 (by decide) (fun c5 => ?_) (fun c5 => ?_)
    · have hf := z_it c5 hf
      refine lv_iload_n hx hb dX10_feed_17 rfl (lv_at hl 2 rfl) ?_
      refine lv_bipush (v := 120) hx hb dX10_feed_18 (by decide) ?_
      refine lv_aload_n hx hb dX10_feed_20 rfl (lv_at hl 0 rfl) ?_
      refine z_get_10_4 B hW h0 q261 dX10_feed_21 ?_
      refine z_getN_7_1 B hW (z_g10_4 hg h0) q217 dX10_feed_24 ?_
      refine lv_isub hx hb dX10_feed_27 ?_
      refine lv_icmp_le (tgt := 38) hx hb dX10_feed_28 (by decide) (fun c6 => ?_) (fun c6 => ?_)
      · have hf := z_it c6 hf
        refine lv_iload_n hx hb dX10_feed_38 rfl (lv_at hl 2 rfl) ?_
        refine lv_iconst (v := 1) hx hb dX10_feed_39 (by decide) ?_
        refine lv_isub hx hb dX10_feed_40 ?_
        refine lv_istore_n (lv' := [(3, .int (l2 - (1 : Int32))), (0, .ref l0), (1, .int l1), (2, .int l2)]) hx hb dX10_feed_41 rfl hl (by decide) rfl (fun ls hl => ?_)
        exact w_X10_feed_P42 B 1000 M l0 l1 (l2 - (1 : Int32)) _ _ hf h0 _ _ _ hW (lv_sub hl [1, 2, 0] rfl)
      · have hf := z_if c6 hf
        refine lv_aload_n hx hb dX10_feed_31 rfl (lv_at hl 0 rfl) ?_
        refine lv_ldc hx hb ho (hw _ q316) dX10_feed_32 ?_
        obtain ⟨r7, M8, e9, hf⟩ := z_bpe hf
        refine z_cV (As := [.int (-1000000002 : Int32)]) (rest := []) B hW (f_X10_finding l e9 h0) sc_X10_finding sv_X10_72 h0 ⟨Nat.le_of_ble_eq_true rfl, Nat.le_of_ble_eq_true rfl⟩ ⟨Nat.zero_le _, Nat.zero_le _⟩ rfl hl.1 rfl (Nat.le_of_ble_eq_true rfl) dX10_feed_34 (fun H locs hW => ?_)
        obtain ⟨e1, e2⟩ := z_s2 hf
        subst e1
        subst e2
        exact z_ri B hW dX10_feed_37
    · have hf := z_if c5 hf
      refine lv_aload_n hx hb dX10_feed_10 rfl (lv_at hl 0 rfl) ?_
      refine lv_ldc hx hb ho (hw _ q289) dX10_feed_11 ?_
      obtain ⟨r10, M11, e12, hf⟩ := z_bpe hf
      refine z_cV (As := [.int (-1000000001 : Int32)]) (rest := []) B hW (f_X10_finding l e12 h0) sc_X10_finding sv_X10_72 h0 ⟨Nat.le_of_ble_eq_true rfl, Nat.le_of_ble_eq_true rfl⟩ ⟨Nat.zero_le _, Nat.zero_le _⟩ rfl hl.1 rfl (Nat.le_of_ble_eq_true rfl) dX10_feed_13 (fun H locs hW => ?_)
      obtain ⟨e1, e2⟩ := z_s2 hf
      subst e1
      subst e2
      exact z_ri B hW dX10_feed_16
set_option maxHeartbeats 4000000 in
set_option maxRecDepth 100000 in
theorem f_X10_wipe (l : Launch) {Γ : Zg} {M : Zm} {l0 : Nat} {r : Int32} {M' : Zm} (hf : X10_wipe Γ M l0 = (r, M')) (h0 : z_Is Γ 10 l0) : z_Fn l Γ yX10_wipe cX10_wipe 2 (some .int) 0 0 [.ref l0] M (some (.int r)) M' := by
  refine z_Fn.of (by decide) (Nat.le_of_ble_eq_true rfl) ?_
  intro p e s m below meth c ls B hW hl
  have B : z_Bd Γ p s m _ meth c cX10_wipe 2 (some .int) RX10 := B
  have hl : lv_has ls 2 [(0, .ref l0)] := hl
  rw [X10_wipe] at hf
  have hx := B.1
  have hb := B.2.1
  have hml := B.2.2.1
  have ho := B.2.2.2.1
  have hw := B.2.2.2.2.1
  have hE := B.2.2.2.2.2.1.2.2
  have hg := B.2.2.2.2.2.2.1
  refine lv_aload_n hx hb dX10_wipe_0 rfl (lv_at hl 0 rfl) ?_
  refine z_get_10_4 B hW h0 q261 dX10_wipe_1 ?_
  refine z_getN_7_1 B hW (z_g10_4 hg h0) q217 dX10_wipe_4 ?_
  refine lv_istore_n (lv' := [(1, .int (M.1 (z_r Γ l0 4) 1)), (0, .ref l0)]) hx hb dX10_wipe_7 rfl hl (by decide) rfl (fun ls hl => ?_)
  refine lv_aload_n hx hb dX10_wipe_8 rfl (lv_at hl 1 rfl) ?_
  refine z_get_10_4 B hW h0 q261 dX10_wipe_9 ?_
  refine lv_iconst (v := 0) hx hb dX10_wipe_12 (by decide) ?_
  refine z_putN_7_1 B hW (z_g10_4 hg h0) q217 dX10_wipe_13 (fun H locs hW => ?_)
  obtain ⟨M1, e2, hf⟩ := z_le hf
  have hW := z_wde e2 hW
  refine lv_iload_n hx hb dX10_wipe_16 rfl (lv_at hl 0 rfl) ?_
  obtain ⟨e1, e2⟩ := Prod.mk.inj hf
  subst e1
  subst e2
  exact z_ri B hW dX10_wipe_17
set_option maxHeartbeats 4000000 in
set_option maxRecDepth 100000 in
theorem f_X10_park (l : Launch) {Γ : Zg} {M : Zm} {l0 : Nat} {r : Int32} {M' : Zm} (hf : X10_park Γ M l0 = some (r, M')) (h0 : z_Is Γ 10 l0) : z_Fn l Γ yX10_park cX10_park 2 (some .int) 9 220 [.ref l0] M (some (.int r)) M' := by
  refine z_Fn.of (by decide) (Nat.le_of_ble_eq_true rfl) ?_
  intro p e s m below meth c ls B hW hl
  have B : z_Bd Γ p s m _ meth c cX10_park 2 (some .int) RX10 := B
  have hl : lv_has ls 2 [(0, .ref l0)] := hl
  rw [X10_park] at hf
  have hx := B.1
  have hb := B.2.1
  have hml := B.2.2.1
  have ho := B.2.2.2.1
  have hw := B.2.2.2.2.1
  have hE := B.2.2.2.2.2.1.2.2
  have hg := B.2.2.2.2.2.2.1
  refine lv_aload_n hx hb dX10_park_0 rfl (lv_at hl 0 rfl) ?_
  refine z_get_10_1 B hW h0 q258 dX10_park_1 ?_
  refine lv_aload_n hx hb dX10_park_4 rfl (lv_at hl 0 rfl) ?_
  refine z_get_10_0 B hW h0 q257 dX10_park_5 ?_
  obtain ⟨M2, e3, hf⟩ := z_bd hf
  refine z_cV (As := [.ref (z_r Γ l0 0)]) (rest := []) B hW (f_X3_become l e3 (z_g10_1 hg h0) (z_g10_0 hg h0)) sc_X3_become sv_X10_178 (z_g10_1 hg h0) ⟨Nat.le_of_ble_eq_true rfl, Nat.le_of_ble_eq_true rfl⟩ ⟨Nat.zero_le _, Nat.zero_le _⟩ rfl hl.1 rfl (Nat.le_of_ble_eq_true rfl) dX10_park_8 (fun H locs hW => ?_)
  refine lv_aload_n hx hb dX10_park_11 rfl (lv_at hl 0 rfl) ?_
  refine z_get_10_4 B hW h0 q261 dX10_park_12 ?_
  refine lv_aload_n hx hb dX10_park_15 rfl (lv_at hl 0 rfl) ?_
  refine z_get_10_1 B hW h0 q258 dX10_park_16 ?_
  obtain ⟨r4, M5, e6, hf⟩ := z_bpe hf
  refine z_cV (As := [.ref (z_r Γ l0 1)]) (rest := []) B hW (f_X7_tellTo l e6 (z_g10_4 hg h0) (z_g10_1 hg h0)) sc_X7_tellTo sv_X10_220 (z_g10_4 hg h0) ⟨Nat.le_of_ble_eq_true rfl, Nat.le_of_ble_eq_true rfl⟩ ⟨Nat.zero_le _, Nat.zero_le _⟩ rfl hl.1 rfl (Nat.le_of_ble_eq_true rfl) dX10_park_19 (fun H locs hW => ?_)
  refine lv_istore_n (lv' := [(1, .int r4), (0, .ref l0)]) hx hb dX10_park_22 rfl hl (by decide) rfl (fun ls hl => ?_)
  refine lv_iload_n hx hb dX10_park_23 rfl (lv_at hl 0 rfl) ?_
  refine lv_if_le (tgt := 38) hx hb dX10_park_24 (by decide) (fun c7 => ?_) (fun c7 => ?_)
  · have hf := z_it c7 hf
    refine lv_aload_n hx hb dX10_park_38 rfl (lv_at hl 1 rfl) ?_
    refine z_get_10_4 B hW h0 q261 dX10_park_39 ?_
    refine lv_iconst (v := 0) hx hb dX10_park_42 (by decide) ?_
    refine z_putN_7_1 B hW (z_g10_4 hg h0) q217 dX10_park_43 (fun H locs hW => ?_)
    obtain ⟨M8, e9, hf⟩ := z_le hf
    have hW := z_wde e9 hW
    refine lv_iload_n hx hb dX10_park_46 rfl (lv_at hl 0 rfl) ?_
    obtain ⟨e1, e2⟩ := z_s2 hf
    subst e1
    subst e2
    exact z_ri B hW dX10_park_47
  · have hf := z_if c7 hf
    refine lv_aload_n hx hb dX10_park_27 rfl (lv_at hl 1 rfl) ?_
    refine z_get_10_0 B hW h0 q257 dX10_park_28 ?_
    refine lv_aload_n hx hb dX10_park_31 rfl (lv_at hl 1 rfl) ?_
    refine z_get_10_1 B hW h0 q258 dX10_park_32 ?_
    obtain ⟨M11, e12, hf⟩ := z_bd hf
    refine z_cV (As := [.ref (z_r Γ l0 1)]) (rest := []) B hW (f_X3_become l e12 (z_g10_0 hg h0) (z_g10_1 hg h0)) sc_X3_become sv_X10_178 (z_g10_0 hg h0) ⟨Nat.le_of_ble_eq_true rfl, Nat.le_of_ble_eq_true rfl⟩ ⟨Nat.zero_le _, Nat.zero_le _⟩ rfl hl.1 rfl (Nat.le_of_ble_eq_true rfl) dX10_park_35 (fun H locs hW => ?_)
    refine lv_aload_n hx hb dX10_park_38 rfl (lv_at hl 1 rfl) ?_
    refine z_get_10_4 B hW h0 q261 dX10_park_39 ?_
    refine lv_iconst (v := 0) hx hb dX10_park_42 (by decide) ?_
    refine z_putN_7_1 B hW (z_g10_4 hg h0) q217 dX10_park_43 (fun H locs hW => ?_)
    obtain ⟨M13, e14, hf⟩ := z_le hf
    have hW := z_wde e14 hW
    refine lv_iload_n hx hb dX10_park_46 rfl (lv_at hl 0 rfl) ?_
    obtain ⟨e1, e2⟩ := z_s2 hf
    subst e1
    subst e2
    exact z_ri B hW dX10_park_47
set_option maxHeartbeats 4000000 in
set_option maxRecDepth 100000 in
theorem f_X10_isSheet (l : Launch) {Γ : Zg} {M : Zm} {l0 : Int32}  : z_Fn l Γ yX10_isSheet cX10_isSheet 1 (some .boolean) 0 0 [.int l0] M (some (.int (X10_isSheet l0))) M := by
  generalize hf : X10_isSheet l0 = r
  refine z_Fn.of (by decide) (Nat.le_of_ble_eq_true rfl) ?_
  intro p e s m below meth c ls B hW hl
  have B : z_Bd Γ p s m _ meth c cX10_isSheet 1 (some .boolean) RX10 := B
  have hl : lv_has ls 1 [(0, .int l0)] := hl
  rw [X10_isSheet] at hf
  have hx := B.1
  have hb := B.2.1
  have hml := B.2.2.1
  have ho := B.2.2.2.1
  have hw := B.2.2.2.2.1
  have hE := B.2.2.2.2.2.1.2.2
  have hg := B.2.2.2.2.2.2.1
  refine lv_iload_n hx hb dX10_isSheet_0 rfl (lv_at hl 0 rfl) ?_
  refine lv_if_lt (tgt := 13) hx hb dX10_isSheet_1 (by decide) (fun c1 => ?_) (fun c1 => ?_)
  · have hf := z_it c1 hf
    refine lv_iconst (v := 0) hx hb dX10_isSheet_13 (by decide) ?_
    subst hf
    exact z_rz B hW (Or.inl rfl) dX10_isSheet_14
  · have hf := z_if c1 hf
    refine lv_iload_n hx hb dX10_isSheet_4 rfl (lv_at hl 0 rfl) ?_
    refine lv_iconst (v := 4) hx hb dX10_isSheet_5 (by decide) ?_
    refine lv_icmp_ge (tgt := 13) hx hb dX10_isSheet_6 (by decide) (fun c2 => ?_) (fun c2 => ?_)
    · have hf := z_it c2 hf
      refine lv_iconst (v := 0) hx hb dX10_isSheet_13 (by decide) ?_
      subst hf
      exact z_rz B hW (Or.inl rfl) dX10_isSheet_14
    · have hf := z_if c2 hf
      refine lv_iconst (v := 1) hx hb dX10_isSheet_9 (by decide) ?_
      refine lv_goto (tgt := 14) hx hb dX10_isSheet_10 (by decide) ?_
      subst hf
      exact z_rz B hW (Or.inr rfl) dX10_isSheet_14
set_option maxHeartbeats 4000000 in
set_option maxRecDepth 100000 in
theorem w_X10_sheet_P69 (B : z_Bd Γ p s m args meth c cX10_sheet 5 (some .int) RX10) : ∀ (M : Zm) (l0 : Nat) (l1 : Int32) (l2 : Int32) (s0 : Int32) (r : Int32) (M' : Zm), X10_sheet_P69 Γ M l0 l1 l2 s0 = some (r, M') → z_Is Γ 10 l0 → ∀ (H : Heap) (locs : List Loc) (ls : Array Slot), z_Wd Γ M s.heap H locs → lv_has ls 5 [(0, .ref l0), (1, .int l1), (2, .int l2)] → W p l e (z_rm 1 23) s m args below meth c H locs 0 0 (z_Q Γ below args s (some (.int r)) M') (F0 m 69 ls [.int s0]) := by
  have hx := B.1
  have hb := B.2.1
  have hml := B.2.2.1
  have ho := B.2.2.2.1
  have hw := B.2.2.2.2.1
  have hE := B.2.2.2.2.2.1.2.2
  have hg := B.2.2.2.2.2.2.1
  intro M l0 l1 l2 s0 r M' hf h0 H locs ls hW hl
  rw [X10_sheet_P69] at hf
  refine lv_istore (lv' := [(4, .int s0), (0, .ref l0), (1, .int l1), (2, .int l2)]) hx hb dX10_sheet_69 hl (by decide) rfl (fun ls hl => ?_)
  refine lv_aload_n hx hb dX10_sheet_71 rfl (lv_at hl 1 rfl) ?_
  refine z_get_10_5 B hW h0 q262 dX10_sheet_72 ?_
  refine lv_iload_n hx hb dX10_sheet_75 rfl (lv_at hl 2 rfl) ?_
  obtain ⟨g23, hf⟩ := z_gd hf
  refine z_aa15 B hW (z_g10_5 hg h0) g23 dX10_sheet_76 ?_
  refine lv_iload_n hx hb dX10_sheet_77 rfl (lv_at hl 3 rfl) ?_
  refine lv_iload hx hb dX10_sheet_78 (lv_at hl 0 rfl) ?_
  obtain ⟨M25, e26, hf⟩ := z_bd hf
  refine z_cV (As := [.int l2, .int s0]) (rest := []) B hW (f_X5_renew l e26 (z_g15 hg (z_g10_5 hg h0) g23)) sc_X5_renew sv_X10_228 (z_g15 hg (z_g10_5 hg h0) g23) ⟨Nat.le_of_ble_eq_true rfl, Nat.le_of_ble_eq_true rfl⟩ ⟨Nat.zero_le _, Nat.zero_le _⟩ rfl hl.1 rfl (Nat.le_of_ble_eq_true rfl) dX10_sheet_80 (fun H locs hW => ?_)
  refine lv_iload hx hb dX10_sheet_83 (lv_at hl 0 rfl) ?_
  obtain ⟨e1, e2⟩ := z_s2 hf
  subst e1
  subst e2
  exact z_ri B hW dX10_sheet_85
set_option maxHeartbeats 4000000 in
set_option maxRecDepth 100000 in
theorem w_X10_sheet_P36 (B : z_Bd Γ p s m args meth c cX10_sheet 5 (some .int) RX10) : ∀ (M : Zm) (l0 : Nat) (l1 : Int32) (l2 : Int32) (l3 : Int32) (r : Int32) (M' : Zm), X10_sheet_P36 Γ M l0 l1 l2 l3 = some (r, M') → z_Is Γ 10 l0 → ∀ (H : Heap) (locs : List Loc) (ls : Array Slot), z_Wd Γ M s.heap H locs → lv_has ls 5 [(0, .ref l0), (1, .int l1), (2, .int l2), (3, .int l3)] → W p l e (z_rm 1 23) s m args below meth c H locs 0 0 (z_Q Γ below args s (some (.int r)) M') (F0 m 36 ls []) := by
  have hx := B.1
  have hb := B.2.1
  have hml := B.2.2.1
  have ho := B.2.2.2.1
  have hw := B.2.2.2.2.1
  have hE := B.2.2.2.2.2.1.2.2
  have hg := B.2.2.2.2.2.2.1
  intro M l0 l1 l2 l3 r M' hf h0 H locs ls hW hl
  rw [X10_sheet_P36] at hf
  refine lv_iload_n hx hb dX10_sheet_36 rfl (lv_at hl 3 rfl) ?_
  refine lv_if_ge (tgt := 47) hx hb dX10_sheet_37 (by decide) (fun c14 => ?_) (fun c14 => ?_)
  · have hf := z_it c14 hf
    refine lv_iload_n hx hb dX10_sheet_47 rfl (lv_at hl 3 rfl) ?_
    refine lv_bipush (v := 40) hx hb dX10_sheet_48 (by decide) ?_
    refine lv_icmp_le (tgt := 60) hx hb dX10_sheet_50 (by decide) (fun c15 => ?_) (fun c15 => ?_)
    · have hf := z_it c15 hf
      refine lv_iload_n hx hb dX10_sheet_60 rfl (lv_at hl 2 rfl) ?_
      refine lv_if_ne (tgt := 68) hx hb dX10_sheet_61 (by decide) (fun c16 => ?_) (fun c16 => ?_)
      · have hf := z_if c16 hf
        refine lv_iload_n hx hb dX10_sheet_68 rfl (lv_at hl 3 rfl) ?_
        exact w_X10_sheet_P69 B M l0 l1 l2 l3 _ _ hf h0 _ _ _ hW (lv_sub hl [0, 1, 2] rfl)
      · have hf := z_it c16 hf
        refine lv_iconst (v := 0) hx hb dX10_sheet_64 (by decide) ?_
        refine lv_goto (tgt := 69) hx hb dX10_sheet_65 (by decide) ?_
        exact w_X10_sheet_P69 B M l0 l1 l2 (0 : Int32) _ _ hf h0 _ _ _ hW (lv_sub hl [0, 1, 2] rfl)
    · have hf := z_if c15 hf
      refine lv_aload_n hx hb dX10_sheet_53 rfl (lv_at hl 0 rfl) ?_
      refine lv_ldc hx hb ho (hw _ q289) dX10_sheet_54 ?_
      obtain ⟨r17, M18, e19, hf⟩ := z_bpe hf
      refine z_cV (As := [.int (-1000000001 : Int32)]) (rest := []) B hW (f_X10_finding l e19 h0) sc_X10_finding sv_X10_72 h0 ⟨Nat.le_of_ble_eq_true rfl, Nat.le_of_ble_eq_true rfl⟩ ⟨Nat.zero_le _, Nat.zero_le _⟩ rfl hl.1 rfl (Nat.le_of_ble_eq_true rfl) dX10_sheet_56 (fun H locs hW => ?_)
      obtain ⟨e1, e2⟩ := z_s2 hf
      subst e1
      subst e2
      exact z_ri B hW dX10_sheet_59
  · have hf := z_if c14 hf
    refine lv_aload_n hx hb dX10_sheet_40 rfl (lv_at hl 0 rfl) ?_
    refine lv_ldc hx hb ho (hw _ q775) dX10_sheet_41 ?_
    obtain ⟨r20, M21, e22, hf⟩ := z_bpe hf
    refine z_cV (As := [.int (-1000000007 : Int32)]) (rest := []) B hW (f_X10_finding l e22 h0) sc_X10_finding sv_X10_72 h0 ⟨Nat.le_of_ble_eq_true rfl, Nat.le_of_ble_eq_true rfl⟩ ⟨Nat.zero_le _, Nat.zero_le _⟩ rfl hl.1 rfl (Nat.le_of_ble_eq_true rfl) dX10_sheet_43 (fun H locs hW => ?_)
    obtain ⟨e1, e2⟩ := z_s2 hf
    subst e1
    subst e2
    exact z_ri B hW dX10_sheet_46
set_option maxHeartbeats 4000000 in
set_option maxRecDepth 100000 in
theorem f_X10_sheet (l : Launch) {Γ : Zg} {M : Zm} {l0 : Nat} {l1 : Int32} {l2 : Int32} {l3 : Int32} {r : Int32} {M' : Zm} (hf : X10_sheet Γ M l0 l1 l2 l3 = some (r, M')) (h0 : z_Is Γ 10 l0) : z_Fn l Γ yX10_sheet cX10_sheet 5 (some .int) 1 23 [.ref l0, .int l1, .int l2, .int l3] M (some (.int r)) M' := by
  refine z_Fn.of (by decide) (Nat.le_of_ble_eq_true rfl) ?_
  intro p e s m below meth c ls B hW hl
  have B : z_Bd Γ p s m _ meth c cX10_sheet 5 (some .int) RX10 := B
  have hl : lv_has ls 5 [(0, .ref l0), (1, .int l1), (2, .int l2), (3, .int l3)] := hl
  rw [X10_sheet] at hf
  have hx := B.1
  have hb := B.2.1
  have hml := B.2.2.1
  have ho := B.2.2.2.1
  have hw := B.2.2.2.2.1
  have hE := B.2.2.2.2.2.1.2.2
  have hg := B.2.2.2.2.2.2.1
  refine lv_iload_n hx hb dX10_sheet_0 rfl (lv_at hl 1 rfl) ?_
  refine z_cS (As := [.int l1]) (rest := []) B hW (f_X10_isSheet l) sc_X10_isSheet ⟨q772, q773⟩ ⟨Nat.le_of_ble_eq_true rfl, Nat.le_of_ble_eq_true rfl⟩ ⟨Nat.zero_le _, Nat.zero_le _⟩ rfl hl.1 rfl (Nat.le_of_ble_eq_true rfl) dX10_sheet_1 (fun H locs hW => ?_)
  refine lv_if_eq (tgt := 29) hx hb dX10_sheet_4 (by decide) (fun c3 => ?_) (fun c3 => ?_)
  · have hf := z_it c3 hf
    refine lv_aload_n hx hb dX10_sheet_29 rfl (lv_at hl 0 rfl) ?_
    refine lv_ldc hx hb ho (hw _ q289) dX10_sheet_30 ?_
    obtain ⟨r4, M5, e6, hf⟩ := z_bpe hf
    refine z_cV (As := [.int (-1000000001 : Int32)]) (rest := []) B hW (f_X10_finding l e6 h0) sc_X10_finding sv_X10_72 h0 ⟨Nat.le_of_ble_eq_true rfl, Nat.le_of_ble_eq_true rfl⟩ ⟨Nat.zero_le _, Nat.zero_le _⟩ rfl hl.1 rfl (Nat.le_of_ble_eq_true rfl) dX10_sheet_32 (fun H locs hW => ?_)
    obtain ⟨e1, e2⟩ := z_s2 hf
    subst e1
    subst e2
    exact z_ri B hW dX10_sheet_35
  · have hf := z_if c3 hf
    refine lv_iload_n hx hb dX10_sheet_7 rfl (lv_at hl 2 rfl) ?_
    refine lv_if_eq (tgt := 36) hx hb dX10_sheet_8 (by decide) (fun c7 => ?_) (fun c7 => ?_)
    · have hf := z_it c7 hf
      exact w_X10_sheet_P36 B M l0 l1 l2 l3 _ _ hf h0 _ _ _ hW (lv_sub hl [0, 1, 2, 3] rfl)
    · have hf := z_if c7 hf
      refine lv_iload_n hx hb dX10_sheet_11 rfl (lv_at hl 2 rfl) ?_
      refine lv_bipush (v := 8) hx hb dX10_sheet_12 (by decide) ?_
      refine lv_icmp_eq (tgt := 36) hx hb dX10_sheet_14 (by decide) (fun c8 => ?_) (fun c8 => ?_)
      · have hf := z_it c8 hf
        exact w_X10_sheet_P36 B M l0 l1 l2 l3 _ _ hf h0 _ _ _ hW (lv_sub hl [0, 1, 2, 3] rfl)
      · have hf := z_if c8 hf
        refine lv_iload_n hx hb dX10_sheet_17 rfl (lv_at hl 2 rfl) ?_
        refine lv_bipush (v := 16) hx hb dX10_sheet_18 (by decide) ?_
        refine lv_icmp_eq (tgt := 36) hx hb dX10_sheet_20 (by decide) (fun c9 => ?_) (fun c9 => ?_)
        · have hf := z_it c9 hf
          exact w_X10_sheet_P36 B M l0 l1 l2 l3 _ _ hf h0 _ _ _ hW (lv_sub hl [0, 1, 2, 3] rfl)
        · have hf := z_if c9 hf
          refine lv_iload_n hx hb dX10_sheet_23 rfl (lv_at hl 2 rfl) ?_
          refine lv_bipush (v := 64) hx hb dX10_sheet_24 (by decide) ?_
          refine lv_icmp_eq (tgt := 36) hx hb dX10_sheet_26 (by decide) (fun c10 => ?_) (fun c10 => ?_)
          · have hf := z_it c10 hf
            exact w_X10_sheet_P36 B M l0 l1 l2 l3 _ _ hf h0 _ _ _ hW (lv_sub hl [0, 1, 2, 3] rfl)
          · have hf := z_if c10 hf
            refine lv_aload_n hx hb dX10_sheet_29 rfl (lv_at hl 0 rfl) ?_
            refine lv_ldc hx hb ho (hw _ q289) dX10_sheet_30 ?_
            obtain ⟨r11, M12, e13, hf⟩ := z_bpe hf
            refine z_cV (As := [.int (-1000000001 : Int32)]) (rest := []) B hW (f_X10_finding l e13 h0) sc_X10_finding sv_X10_72 h0 ⟨Nat.le_of_ble_eq_true rfl, Nat.le_of_ble_eq_true rfl⟩ ⟨Nat.zero_le _, Nat.zero_le _⟩ rfl hl.1 rfl (Nat.le_of_ble_eq_true rfl) dX10_sheet_32 (fun H locs hW => ?_)
            obtain ⟨e1, e2⟩ := z_s2 hf
            subst e1
            subst e2
            exact z_ri B hW dX10_sheet_35
set_option maxHeartbeats 4000000 in
set_option maxRecDepth 100000 in
theorem f_X10_faultOfSheet (l : Launch) {Γ : Zg} {M : Zm} {l0 : Nat} {l1 : Int32} {r : Int32} (hf : X10_faultOfSheet Γ M l0 l1 = some r) (h0 : z_Is Γ 10 l0) : z_Fn l Γ yX10_faultOfSheet cX10_faultOfSheet 2 (some .int) 1 20 [.ref l0, .int l1] M (some (.int r)) M := by
  refine z_Fn.of (by decide) (Nat.le_of_ble_eq_true rfl) ?_
  intro p e s m below meth c ls B hW hl
  have B : z_Bd Γ p s m _ meth c cX10_faultOfSheet 2 (some .int) RX10 := B
  have hl : lv_has ls 2 [(0, .ref l0), (1, .int l1)] := hl
  rw [X10_faultOfSheet] at hf
  have hx := B.1
  have hb := B.2.1
  have hml := B.2.2.1
  have ho := B.2.2.2.1
  have hw := B.2.2.2.2.1
  have hE := B.2.2.2.2.2.1.2.2
  have hg := B.2.2.2.2.2.2.1
  refine lv_iload_n hx hb dX10_faultOfSheet_0 rfl (lv_at hl 1 rfl) ?_
  refine z_cS (As := [.int l1]) (rest := []) B hW (f_X10_isSheet l) sc_X10_isSheet ⟨q772, q773⟩ ⟨Nat.le_of_ble_eq_true rfl, Nat.le_of_ble_eq_true rfl⟩ ⟨Nat.zero_le _, Nat.zero_le _⟩ rfl hl.1 rfl (Nat.le_of_ble_eq_true rfl) dX10_faultOfSheet_1 (fun H locs hW => ?_)
  refine lv_if_ne (tgt := 10) hx hb dX10_faultOfSheet_4 (by decide) (fun c3 => ?_) (fun c3 => ?_)
  · have hf := z_if c3 hf
    refine lv_aload_n hx hb dX10_faultOfSheet_10 rfl (lv_at hl 0 rfl) ?_
    refine z_get_10_5 B hW h0 q262 dX10_faultOfSheet_11 ?_
    refine lv_iload_n hx hb dX10_faultOfSheet_14 rfl (lv_at hl 1 rfl) ?_
    obtain ⟨g4, hf⟩ := z_gd hf
    refine z_aa15 B hW (z_g10_5 hg h0) g4 dX10_faultOfSheet_15 ?_
    refine z_cV (As := []) (rest := []) B hW (f_X5_isMissing l (z_g15 hg (z_g10_5 hg h0) g4)) sc_X5_isMissing sv_X10_240 (z_g15 hg (z_g10_5 hg h0) g4) ⟨Nat.le_of_ble_eq_true rfl, Nat.le_of_ble_eq_true rfl⟩ ⟨Nat.zero_le _, Nat.zero_le _⟩ rfl hl.1 rfl (Nat.le_of_ble_eq_true rfl) dX10_faultOfSheet_16 (fun H locs hW => ?_)
    refine lv_if_eq (tgt := 27) hx hb dX10_faultOfSheet_19 (by decide) (fun c7 => ?_) (fun c7 => ?_)
    · have hf := z_it c7 hf
      refine lv_iconst (v := 0) hx hb dX10_faultOfSheet_27 (by decide) ?_
      have hf := Option.some.inj hf
      subst hf
      exact z_ri B hW dX10_faultOfSheet_28
    · have hf := z_if c7 hf
      refine lv_ldc hx hb ho (hw _ q792) dX10_faultOfSheet_22 ?_
      refine lv_goto (tgt := 28) hx hb dX10_faultOfSheet_24 (by decide) ?_
      have hf := Option.some.inj hf
      subst hf
      exact z_ri B hW dX10_faultOfSheet_28
  · have hf := z_it c3 hf
    refine lv_ldc hx hb ho (hw _ q289) dX10_faultOfSheet_7 ?_
    have hf := Option.some.inj hf
    subst hf
    exact z_ri B hW dX10_faultOfSheet_9
set_option maxHeartbeats 4000000 in
set_option maxRecDepth 100000 in
theorem f_X10_write (l : Launch) {Γ : Zg} {M : Zm} {l0 : Nat} {l1 : Int32} {l2 : Int32} {l3 : Int64} {r : Int64} {M' : Zm} (hf : X10_write Γ M l0 l1 l2 l3 = some (r, M')) (h0 : z_Is Γ 10 l0) : z_Fn l Γ yX10_write cX10_write 6 (some .long) 2 47 [.ref l0, .int l1, .int l2, .long l3] M (some (.long r)) M' := by
  refine z_Fn.of (by decide) (Nat.le_of_ble_eq_true rfl) ?_
  intro p e s m below meth c ls B hW hl
  have B : z_Bd Γ p s m _ meth c cX10_write 6 (some .long) RX10 := B
  have hl : lv_has ls 6 [(0, .ref l0), (1, .int l1), (2, .int l2), (3, .long l3)] := hl
  rw [X10_write] at hf
  have hx := B.1
  have hb := B.2.1
  have hml := B.2.2.1
  have ho := B.2.2.2.1
  have hw := B.2.2.2.2.1
  have hE := B.2.2.2.2.2.1.2.2
  have hg := B.2.2.2.2.2.2.1
  refine lv_aload_n hx hb dX10_write_0 rfl (lv_at hl 0 rfl) ?_
  refine lv_iload_n hx hb dX10_write_1 rfl (lv_at hl 1 rfl) ?_
  obtain ⟨r1, e2, hf⟩ := z_bd hf
  refine z_cV (As := [.int l1]) (rest := []) B hW (f_X10_faultOfSheet l e2 h0) sc_X10_faultOfSheet sv_X10_232 h0 ⟨Nat.le_of_ble_eq_true rfl, Nat.le_of_ble_eq_true rfl⟩ ⟨Nat.zero_le _, Nat.zero_le _⟩ rfl hl.1 rfl (Nat.le_of_ble_eq_true rfl) dX10_write_2 (fun H locs hW => ?_)
  refine lv_istore (lv' := [(5, .int r1), (0, .ref l0), (1, .int l1), (2, .int l2), (3, .long l3)]) hx hb dX10_write_5 hl (by decide) rfl (fun ls hl => ?_)
  refine lv_iload hx hb dX10_write_7 (lv_at hl 0 rfl) ?_
  refine lv_if_eq (tgt := 20) hx hb dX10_write_9 (by decide) (fun c3 => ?_) (fun c3 => ?_)
  · have hf := z_it c3 hf
    refine lv_iload_n hx hb dX10_write_20 rfl (lv_at hl 3 rfl) ?_
    refine lv_if_lt (tgt := 37) hx hb dX10_write_21 (by decide) (fun c4 => ?_) (fun c4 => ?_)
    · have hf := z_it c4 hf
      refine lv_aload_n hx hb dX10_write_37 rfl (lv_at hl 1 rfl) ?_
      refine lv_ldc hx hb ho (hw _ q289) dX10_write_38 ?_
      obtain ⟨r5, M6, e7, hf⟩ := z_bpe hf
      refine z_cV (As := [.int (-1000000001 : Int32)]) (rest := []) B hW (f_X10_finding l e7 h0) sc_X10_finding sv_X10_72 h0 ⟨Nat.le_of_ble_eq_true rfl, Nat.le_of_ble_eq_true rfl⟩ ⟨Nat.zero_le _, Nat.zero_le _⟩ rfl hl.1 rfl (Nat.le_of_ble_eq_true rfl) dX10_write_40 (fun H locs hW => ?_)
      refine lv_i2l hx hb dX10_write_43 rfl ?_
      obtain ⟨e1, e2⟩ := z_s2 hf
      subst e1
      subst e2
      exact z_rl B hW dX10_write_44
    · have hf := z_if c4 hf
      refine lv_iload_n hx hb dX10_write_24 rfl (lv_at hl 3 rfl) ?_
      refine lv_aload_n hx hb dX10_write_25 rfl (lv_at hl 1 rfl) ?_
      refine z_get_10_5 B hW h0 q262 dX10_write_26 ?_
      refine lv_iload_n hx hb dX10_write_29 rfl (lv_at hl 2 rfl) ?_
      obtain ⟨g8, hf⟩ := z_gd hf
      refine z_aa15 B hW (z_g10_5 hg h0) g8 dX10_write_30 ?_
      refine z_getN_5_2 B hW (z_g15 hg (z_g10_5 hg h0) g8) q248 dX10_write_31 ?_
      refine lv_icmp_lt (tgt := 45) hx hb dX10_write_34 (by decide) (fun c9 => ?_) (fun c9 => ?_)
      · have hf := z_it c9 hf
        refine lv_aload_n hx hb dX10_write_45 rfl (lv_at hl 1 rfl) ?_
        refine z_get_10_5 B hW h0 q262 dX10_write_46 ?_
        refine lv_iload_n hx hb dX10_write_49 rfl (lv_at hl 2 rfl) ?_
        obtain ⟨g10, hf⟩ := z_gd hf
        refine z_aa15 B hW (z_g10_5 hg h0) g10 dX10_write_50 ?_
        refine lv_iload_n hx hb dX10_write_51 rfl (lv_at hl 3 rfl) ?_
        refine lv_lload_n hx hb dX10_write_52 rfl (lv_at hl 4 rfl) ?_
        obtain ⟨r11, M12, e13, hf⟩ := z_bpe hf
        refine z_cV (As := [.int l2, .long l3]) (rest := []) B hW (f_X5_put l e13 (z_g15 hg (z_g10_5 hg h0) g10)) sc_X5_put sv_X10_236 (z_g15 hg (z_g10_5 hg h0) g10) ⟨Nat.le_of_ble_eq_true rfl, Nat.le_of_ble_eq_true rfl⟩ ⟨Nat.zero_le _, Nat.zero_le _⟩ rfl hl.1 rfl (Nat.le_of_ble_eq_true rfl) dX10_write_53 (fun H locs hW => ?_)
        obtain ⟨e1, e2⟩ := z_s2 hf
        subst e1
        subst e2
        exact z_rl B hW dX10_write_56
      · have hf := z_if c9 hf
        refine lv_aload_n hx hb dX10_write_37 rfl (lv_at hl 1 rfl) ?_
        refine lv_ldc hx hb ho (hw _ q289) dX10_write_38 ?_
        obtain ⟨r14, M15, e16, hf⟩ := z_bpe hf
        refine z_cV (As := [.int (-1000000001 : Int32)]) (rest := []) B hW (f_X10_finding l e16 h0) sc_X10_finding sv_X10_72 h0 ⟨Nat.le_of_ble_eq_true rfl, Nat.le_of_ble_eq_true rfl⟩ ⟨Nat.zero_le _, Nat.zero_le _⟩ rfl hl.1 rfl (Nat.le_of_ble_eq_true rfl) dX10_write_40 (fun H locs hW => ?_)
        refine lv_i2l hx hb dX10_write_43 rfl ?_
        obtain ⟨e1, e2⟩ := z_s2 hf
        subst e1
        subst e2
        exact z_rl B hW dX10_write_44
  · have hf := z_if c3 hf
    refine lv_aload_n hx hb dX10_write_12 rfl (lv_at hl 1 rfl) ?_
    refine lv_iload hx hb dX10_write_13 (lv_at hl 0 rfl) ?_
    obtain ⟨r17, M18, e19, hf⟩ := z_bpe hf
    refine z_cV (As := [.int r1]) (rest := []) B hW (f_X10_finding l e19 h0) sc_X10_finding sv_X10_72 h0 ⟨Nat.le_of_ble_eq_true rfl, Nat.le_of_ble_eq_true rfl⟩ ⟨Nat.zero_le _, Nat.zero_le _⟩ rfl hl.1 rfl (Nat.le_of_ble_eq_true rfl) dX10_write_15 (fun H locs hW => ?_)
    refine lv_i2l hx hb dX10_write_18 rfl ?_
    obtain ⟨e1, e2⟩ := z_s2 hf
    subst e1
    subst e2
    exact z_rl B hW dX10_write_19
set_option maxHeartbeats 4000000 in
set_option maxRecDepth 100000 in
theorem f_X10_copy (l : Launch) {Γ : Zg} {M : Zm} {l0 : Nat} {l1 : Int32} {l2 : Int32} {l3 : Int32} {l4 : Int32} {l5 : Int32} {r : Int32} {M' : Zm} (hf : X10_copy Γ M l0 l1 l2 l3 l4 l5 = some (r, M')) (h0 : z_Is Γ 10 l0) : z_Fn l Γ yX10_copy cX10_copy 8 (some .int) 1 40 [.ref l0, .int l1, .int l2, .int l3, .int l4, .int l5] M (some (.int r)) M' := by
  refine z_Fn.of (by decide) (Nat.le_of_ble_eq_true rfl) ?_
  intro p e s m below meth c ls B hW hl
  have B : z_Bd Γ p s m _ meth c cX10_copy 8 (some .int) RX10 := B
  have hl : lv_has ls 8 [(0, .ref l0), (1, .int l1), (2, .int l2), (3, .int l3), (4, .int l4), (5, .int l5)] := hl
  rw [X10_copy] at hf
  have hx := B.1
  have hb := B.2.1
  have hml := B.2.2.1
  have ho := B.2.2.2.1
  have hw := B.2.2.2.2.1
  have hE := B.2.2.2.2.2.1.2.2
  have hg := B.2.2.2.2.2.2.1
  refine lv_iload_n hx hb dX10_copy_0 rfl (lv_at hl 1 rfl) ?_
  refine z_cS (As := [.int l1]) (rest := []) B hW (f_X10_isSheet l) sc_X10_isSheet ⟨q772, q773⟩ ⟨Nat.le_of_ble_eq_true rfl, Nat.le_of_ble_eq_true rfl⟩ ⟨Nat.zero_le _, Nat.zero_le _⟩ rfl hl.1 rfl (Nat.le_of_ble_eq_true rfl) dX10_copy_1 (fun H locs hW => ?_)
  refine lv_if_eq (tgt := 14) hx hb dX10_copy_4 (by decide) (fun c3 => ?_) (fun c3 => ?_)
  · have hf := z_it c3 hf
    refine lv_aload_n hx hb dX10_copy_14 rfl (lv_at hl 0 rfl) ?_
    refine lv_ldc hx hb ho (hw _ q289) dX10_copy_15 ?_
    obtain ⟨r4, M5, e6, hf⟩ := z_bpe hf
    refine z_cV (As := [.int (-1000000001 : Int32)]) (rest := []) B hW (f_X10_finding l e6 h0) sc_X10_finding sv_X10_72 h0 ⟨Nat.le_of_ble_eq_true rfl, Nat.le_of_ble_eq_true rfl⟩ ⟨Nat.zero_le _, Nat.zero_le _⟩ rfl hl.1 rfl (Nat.le_of_ble_eq_true rfl) dX10_copy_17 (fun H locs hW => ?_)
    obtain ⟨e1, e2⟩ := z_s2 hf
    subst e1
    subst e2
    exact z_ri B hW dX10_copy_20
  · have hf := z_if c3 hf
    refine lv_iload_n hx hb dX10_copy_7 rfl (lv_at hl 3 rfl) ?_
    refine z_cS (As := [.int l3]) (rest := []) B hW (f_X10_isSheet l) sc_X10_isSheet ⟨q772, q773⟩ ⟨Nat.le_of_ble_eq_true rfl, Nat.le_of_ble_eq_true rfl⟩ ⟨Nat.zero_le _, Nat.zero_le _⟩ rfl hl.1 rfl (Nat.le_of_ble_eq_true rfl) dX10_copy_8 (fun H locs hW => ?_)
    refine lv_if_ne (tgt := 21) hx hb dX10_copy_11 (by decide) (fun c9 => ?_) (fun c9 => ?_)
    · have hf := z_if c9 hf
      refine lv_aload_n hx hb dX10_copy_21 rfl (lv_at hl 0 rfl) ?_
      refine z_get_10_5 B hW h0 q262 dX10_copy_22 ?_
      refine lv_iload_n hx hb dX10_copy_25 rfl (lv_at hl 1 rfl) ?_
      obtain ⟨g10, hf⟩ := z_gd hf
      refine z_aa15 B hW (z_g10_5 hg h0) g10 dX10_copy_26 ?_
      refine lv_astore (lv' := [(6, .ref (z_r Γ (z_r Γ l0 5) l1.toNatClampNeg)), (0, .ref l0), (1, .int l1), (2, .int l2), (3, .int l3), (4, .int l4), (5, .int l5)]) hx hb dX10_copy_27 hl (by decide) rfl (fun ls hl => ?_)
      refine lv_aload_n hx hb dX10_copy_29 rfl (lv_at hl 1 rfl) ?_
      refine z_get_10_5 B hW h0 q262 dX10_copy_30 ?_
      refine lv_iload_n hx hb dX10_copy_33 rfl (lv_at hl 4 rfl) ?_
      obtain ⟨g11, hf⟩ := z_gd hf
      refine z_aa15 B hW (z_g10_5 hg h0) g11 dX10_copy_34 ?_
      refine lv_astore (lv' := [(7, .ref (z_r Γ (z_r Γ l0 5) l3.toNatClampNeg)), (6, .ref (z_r Γ (z_r Γ l0 5) l1.toNatClampNeg)), (0, .ref l0), (1, .int l1), (2, .int l2), (3, .int l3), (4, .int l4), (5, .int l5)]) hx hb dX10_copy_35 hl (by decide) rfl (fun ls hl => ?_)
      refine lv_aload hx hb dX10_copy_37 (lv_at hl 1 rfl) ?_
      refine z_cV (As := []) (rest := []) B hW (f_X5_isMissing l (z_g15 hg (z_g10_5 hg h0) g10)) sc_X5_isMissing sv_X10_240 (z_g15 hg (z_g10_5 hg h0) g10) ⟨Nat.le_of_ble_eq_true rfl, Nat.le_of_ble_eq_true rfl⟩ ⟨Nat.zero_le _, Nat.zero_le _⟩ rfl hl.1 rfl (Nat.le_of_ble_eq_true rfl) dX10_copy_39 (fun H locs hW => ?_)
      refine lv_if_ne (tgt := 53) hx hb dX10_copy_42 (by decide) (fun c14 => ?_) (fun c14 => ?_)
      · have hf := z_if c14 hf
        refine lv_aload_n hx hb dX10_copy_53 rfl (lv_at hl 2 rfl) ?_
        refine lv_ldc hx hb ho (hw _ q792) dX10_copy_54 ?_
        obtain ⟨r15, M16, e17, hf⟩ := z_bpe hf
        refine z_cV (As := [.int (-1000000006 : Int32)]) (rest := []) B hW (f_X10_finding l e17 h0) sc_X10_finding sv_X10_72 h0 ⟨Nat.le_of_ble_eq_true rfl, Nat.le_of_ble_eq_true rfl⟩ ⟨Nat.zero_le _, Nat.zero_le _⟩ rfl hl.1 rfl (Nat.le_of_ble_eq_true rfl) dX10_copy_56 (fun H locs hW => ?_)
        obtain ⟨e1, e2⟩ := z_s2 hf
        subst e1
        subst e2
        exact z_ri B hW dX10_copy_59
      · have hf := z_it c14 hf
        refine lv_aload hx hb dX10_copy_45 (lv_at hl 0 rfl) ?_
        refine z_cV (As := []) (rest := []) B hW (f_X5_isMissing l (z_g15 hg (z_g10_5 hg h0) g11)) sc_X5_isMissing sv_X10_240 (z_g15 hg (z_g10_5 hg h0) g11) ⟨Nat.le_of_ble_eq_true rfl, Nat.le_of_ble_eq_true rfl⟩ ⟨Nat.zero_le _, Nat.zero_le _⟩ rfl hl.1 rfl (Nat.le_of_ble_eq_true rfl) dX10_copy_47 (fun H locs hW => ?_)
        refine lv_if_eq (tgt := 60) hx hb dX10_copy_50 (by decide) (fun c20 => ?_) (fun c20 => ?_)
        · have hf := z_it c20 hf
          refine lv_aload hx hb dX10_copy_60 (lv_at hl 1 rfl) ?_
          refine z_getN_5_1 B hW (z_g15 hg (z_g10_5 hg h0) g10) q246 dX10_copy_62 ?_
          refine lv_aload hx hb dX10_copy_65 (lv_at hl 0 rfl) ?_
          refine z_getN_5_1 B hW (z_g15 hg (z_g10_5 hg h0) g11) q246 dX10_copy_67 ?_
          refine lv_icmp_eq (tgt := 80) hx hb dX10_copy_70 (by decide) (fun c21 => ?_) (fun c21 => ?_)
          · have hf := z_it c21 hf
            refine lv_aload hx hb dX10_copy_80 (lv_at hl 1 rfl) ?_
            refine lv_iload_n hx hb dX10_copy_82 rfl (lv_at hl 4 rfl) ?_
            refine lv_iload hx hb dX10_copy_83 (lv_at hl 7 rfl) ?_
            refine z_cV (As := [.int l2, .int l5]) (rest := []) B hW (f_X5_hasSpan l (z_g15 hg (z_g10_5 hg h0) g10)) sc_X5_hasSpan sv_X10_247 (z_g15 hg (z_g10_5 hg h0) g10) ⟨Nat.le_of_ble_eq_true rfl, Nat.le_of_ble_eq_true rfl⟩ ⟨Nat.zero_le _, Nat.zero_le _⟩ rfl hl.1 rfl (Nat.le_of_ble_eq_true rfl) dX10_copy_85 (fun H locs hW => ?_)
            refine lv_if_eq (tgt := 103) hx hb dX10_copy_88 (by decide) (fun c24 => ?_) (fun c24 => ?_)
            · have hf := z_it c24 hf
              refine lv_aload_n hx hb dX10_copy_103 rfl (lv_at hl 2 rfl) ?_
              refine lv_ldc hx hb ho (hw _ q289) dX10_copy_104 ?_
              obtain ⟨r25, M26, e27, hf⟩ := z_bpe hf
              refine z_cV (As := [.int (-1000000001 : Int32)]) (rest := []) B hW (f_X10_finding l e27 h0) sc_X10_finding sv_X10_72 h0 ⟨Nat.le_of_ble_eq_true rfl, Nat.le_of_ble_eq_true rfl⟩ ⟨Nat.zero_le _, Nat.zero_le _⟩ rfl hl.1 rfl (Nat.le_of_ble_eq_true rfl) dX10_copy_106 (fun H locs hW => ?_)
              obtain ⟨e1, e2⟩ := z_s2 hf
              subst e1
              subst e2
              exact z_ri B hW dX10_copy_109
            · have hf := z_if c24 hf
              refine lv_aload hx hb dX10_copy_91 (lv_at hl 0 rfl) ?_
              refine lv_iload hx hb dX10_copy_93 (lv_at hl 6 rfl) ?_
              refine lv_iload hx hb dX10_copy_95 (lv_at hl 7 rfl) ?_
              refine z_cV (As := [.int l4, .int l5]) (rest := []) B hW (f_X5_hasSpan l (z_g15 hg (z_g10_5 hg h0) g11)) sc_X5_hasSpan sv_X10_247 (z_g15 hg (z_g10_5 hg h0) g11) ⟨Nat.le_of_ble_eq_true rfl, Nat.le_of_ble_eq_true rfl⟩ ⟨Nat.zero_le _, Nat.zero_le _⟩ rfl hl.1 rfl (Nat.le_of_ble_eq_true rfl) dX10_copy_97 (fun H locs hW => ?_)
              refine lv_if_ne (tgt := 110) hx hb dX10_copy_100 (by decide) (fun c30 => ?_) (fun c30 => ?_)
              · have hf := z_if c30 hf
                refine lv_aload hx hb dX10_copy_110 (lv_at hl 1 rfl) ?_
                refine z_getN_5_0 B hW (z_g15 hg (z_g10_5 hg h0) g10) q244 dX10_copy_112 ?_
                refine lv_iload_n hx hb dX10_copy_115 rfl (lv_at hl 4 rfl) ?_
                refine lv_aload hx hb dX10_copy_116 (lv_at hl 0 rfl) ?_
                refine z_getN_5_0 B hW (z_g15 hg (z_g10_5 hg h0) g11) q244 dX10_copy_118 ?_
                refine lv_iload hx hb dX10_copy_121 (lv_at hl 6 rfl) ?_
                refine lv_iload hx hb dX10_copy_123 (lv_at hl 7 rfl) ?_
                obtain ⟨g31, hf⟩ := z_gp hf
                obtain ⟨g32, hf⟩ := z_gp hf
                obtain ⟨g33, hf⟩ := z_gp hf
                obtain ⟨g34, hf⟩ := z_gp hf
                obtain ⟨g35, hf⟩ := z_gp hf
                refine z_acp B hW hl.1 (z_g5_0 hg (z_g15 hg (z_g10_5 hg h0) g10)) (z_g5_0 hg (z_g15 hg (z_g10_5 hg h0) g11)) (hw _ q809) (z_anat B) (hw _ q810) (hw _ q84) g31 g32 g33 g34 g35 (Nat.le_of_ble_eq_true rfl) (Nat.le_of_ble_eq_true rfl) dX10_copy_125 (fun H locs hW => ?_)
                obtain ⟨M36, e37, hf⟩ := z_le hf
                have hW := z_wde e37 hW
                refine lv_iload hx hb dX10_copy_128 (lv_at hl 7 rfl) ?_
                obtain ⟨e1, e2⟩ := z_s2 hf
                subst e1
                subst e2
                exact z_ri B hW dX10_copy_130
              · have hf := z_it c30 hf
                refine lv_aload_n hx hb dX10_copy_103 rfl (lv_at hl 2 rfl) ?_
                refine lv_ldc hx hb ho (hw _ q289) dX10_copy_104 ?_
                obtain ⟨r38, M39, e40, hf⟩ := z_bpe hf
                refine z_cV (As := [.int (-1000000001 : Int32)]) (rest := []) B hW (f_X10_finding l e40 h0) sc_X10_finding sv_X10_72 h0 ⟨Nat.le_of_ble_eq_true rfl, Nat.le_of_ble_eq_true rfl⟩ ⟨Nat.zero_le _, Nat.zero_le _⟩ rfl hl.1 rfl (Nat.le_of_ble_eq_true rfl) dX10_copy_106 (fun H locs hW => ?_)
                obtain ⟨e1, e2⟩ := z_s2 hf
                subst e1
                subst e2
                exact z_ri B hW dX10_copy_109
          · have hf := z_if c21 hf
            refine lv_aload_n hx hb dX10_copy_73 rfl (lv_at hl 2 rfl) ?_
            refine lv_ldc hx hb ho (hw _ q447) dX10_copy_74 ?_
            obtain ⟨r41, M42, e43, hf⟩ := z_bpe hf
            refine z_cV (As := [.int (-1000000003 : Int32)]) (rest := []) B hW (f_X10_finding l e43 h0) sc_X10_finding sv_X10_72 h0 ⟨Nat.le_of_ble_eq_true rfl, Nat.le_of_ble_eq_true rfl⟩ ⟨Nat.zero_le _, Nat.zero_le _⟩ rfl hl.1 rfl (Nat.le_of_ble_eq_true rfl) dX10_copy_76 (fun H locs hW => ?_)
            obtain ⟨e1, e2⟩ := z_s2 hf
            subst e1
            subst e2
            exact z_ri B hW dX10_copy_79
        · have hf := z_if c20 hf
          refine lv_aload_n hx hb dX10_copy_53 rfl (lv_at hl 2 rfl) ?_
          refine lv_ldc hx hb ho (hw _ q792) dX10_copy_54 ?_
          obtain ⟨r44, M45, e46, hf⟩ := z_bpe hf
          refine z_cV (As := [.int (-1000000006 : Int32)]) (rest := []) B hW (f_X10_finding l e46 h0) sc_X10_finding sv_X10_72 h0 ⟨Nat.le_of_ble_eq_true rfl, Nat.le_of_ble_eq_true rfl⟩ ⟨Nat.zero_le _, Nat.zero_le _⟩ rfl hl.1 rfl (Nat.le_of_ble_eq_true rfl) dX10_copy_56 (fun H locs hW => ?_)
          obtain ⟨e1, e2⟩ := z_s2 hf
          subst e1
          subst e2
          exact z_ri B hW dX10_copy_59
    · have hf := z_it c9 hf
      refine lv_aload_n hx hb dX10_copy_14 rfl (lv_at hl 0 rfl) ?_
      refine lv_ldc hx hb ho (hw _ q289) dX10_copy_15 ?_
      obtain ⟨r47, M48, e49, hf⟩ := z_bpe hf
      refine z_cV (As := [.int (-1000000001 : Int32)]) (rest := []) B hW (f_X10_finding l e49 h0) sc_X10_finding sv_X10_72 h0 ⟨Nat.le_of_ble_eq_true rfl, Nat.le_of_ble_eq_true rfl⟩ ⟨Nat.zero_le _, Nat.zero_le _⟩ rfl hl.1 rfl (Nat.le_of_ble_eq_true rfl) dX10_copy_17 (fun H locs hW => ?_)
      obtain ⟨e1, e2⟩ := z_s2 hf
      subst e1
      subst e2
      exact z_ri B hW dX10_copy_20
set_option maxHeartbeats 4000000 in
set_option maxRecDepth 100000 in
theorem w_X10_lays_P29 (B : z_Bd Γ p s m args meth c cX10_lays 8 (some .int) RX10) : ∀ (n : Nat) (M : Zm) (l0 : Nat) (l3 : Nat) (l4 : Int32) (l5 : Int32) (r : Int32) (M' : Zm), X10_lays_P29 Γ n M l0 l3 l4 l5 = some (r, M') → z_Is Γ 10 l0 → z_Is Γ 5 l3 → ∀ (H : Heap) (locs : List Loc) (ls : Array Slot), z_Wd Γ M s.heap H locs → lv_has ls 8 [(0, .ref l0), (3, .ref l3), (4, .int l4), (5, .int l5)] → W p l e (z_rm 2 41) s m args below meth c H locs 0 0 (z_Q Γ below args s (some (.int r)) M') (F0 m 29 ls []) := by
  have hx := B.1
  have hb := B.2.1
  have hml := B.2.2.1
  have ho := B.2.2.2.1
  have hw := B.2.2.2.2.1
  have hE := B.2.2.2.2.2.1.2.2
  have hg := B.2.2.2.2.2.2.1
  intro n
  induction n with
  | zero =>
    intro M l0 l3 l4 l5 r M' hf h0 h3 H locs ls hW hl
    cases hf
  | succ n ih =>
    intro M l0 l3 l4 l5 r M' hf h0 h3 H locs ls hW hl
    rw [X10_lays_P29] at hf
    refine lv_iload hx hb dX10_lays_29 (lv_at hl 3 rfl) ?_
    refine lv_aload_n hx hb dX10_lays_31 rfl (lv_at hl 1 rfl) ?_
    refine z_getN_5_2 B hW h3 q248 dX10_lays_32 ?_
    refine lv_icmp_ge (tgt := 100) hx hb dX10_lays_35 (by decide) (fun c8 => ?_) (fun c8 => ?_)
    · have hf := z_it c8 hf
      refine lv_iload hx hb dX10_lays_100 (lv_at hl 2 rfl) ?_
      obtain ⟨e1, e2⟩ := z_s2 hf
      subst e1
      subst e2
      exact z_ri B hW dX10_lays_102
    · have hf := z_if c8 hf
      refine lv_iload hx hb dX10_lays_38 (lv_at hl 3 rfl) ?_
      refine lv_aload_n hx hb dX10_lays_40 rfl (lv_at hl 0 rfl) ?_
      refine z_get_10_0 B hW h0 q257 dX10_lays_41 ?_
      refine z_getN_3_2 B hW (z_g10_0 hg h0) q188 dX10_lays_44 ?_
      refine lv_icmp_ge (tgt := 100) hx hb dX10_lays_47 (by decide) (fun c9 => ?_) (fun c9 => ?_)
      · have hf := z_it c9 hf
        refine lv_iload hx hb dX10_lays_100 (lv_at hl 2 rfl) ?_
        obtain ⟨e1, e2⟩ := z_s2 hf
        subst e1
        subst e2
        exact z_ri B hW dX10_lays_102
      · have hf := z_if c9 hf
        refine lv_aload_n hx hb dX10_lays_50 rfl (lv_at hl 1 rfl) ?_
        refine z_getN_5_0 B hW h3 q244 dX10_lays_51 ?_
        refine lv_iload hx hb dX10_lays_54 (lv_at hl 3 rfl) ?_
        obtain ⟨g10, hf⟩ := z_gd hf
        refine z_la B hW (z_g5_0 hg h3) g10 dX10_lays_56 ?_
        refine lv_lstore (lv' := [(6, .long (M.2 (z_r Γ l3 0) l5.toNatClampNeg)), (0, .ref l0), (3, .ref l3), (4, .int l4), (5, .int l5)]) hx hb dX10_lays_57 hl (by decide) rfl (fun ls hl => ?_)
        refine lv_lload hx hb dX10_lays_59 (lv_at hl 0 rfl) ?_
        refine lv_lconst (v := 0) hx hb dX10_lays_61 (by decide) ?_
        refine W.lcmp hx hb dX10_lays_62 ?_
        refine lv_if_lt (tgt := 94) hx hb dX10_lays_63 (by decide) (fun c11 => ?_) (fun c11 => ?_)
        · have hf := z_it c11 hf
          refine lv_iinc (v := l5 + (1 : Int32)) (lv' := [(5, .int (l5 + (1 : Int32))), (6, .long (M.2 (z_r Γ l3 0) l5.toNatClampNeg)), (0, .ref l0), (3, .ref l3), (4, .int l4)]) hx hb dX10_lays_94 hl (k := 4) rfl rfl (by decide) rfl (fun ls hl => ?_)
          refine lv_goto (tgt := 29) hx hb dX10_lays_97 (by decide) ?_
          exact ih M l0 l3 l4 (l5 + (1 : Int32)) _ _ hf h0 h3 _ _ _ hW (lv_sub hl [2, 3, 4, 0] rfl)
        · have hf := z_if c11 hf
          refine lv_lload hx hb dX10_lays_66 (lv_at hl 0 rfl) ?_
          refine lv_ldc2 hx hb ho (hw _ q816) dX10_lays_68 ?_
          refine W.lcmp hx hb dX10_lays_71 ?_
          refine lv_if_gt (tgt := 94) hx hb dX10_lays_72 (by decide) (fun c12 => ?_) (fun c12 => ?_)
          · have hf := z_it c12 hf
            refine lv_iinc (v := l5 + (1 : Int32)) (lv' := [(5, .int (l5 + (1 : Int32))), (6, .long (M.2 (z_r Γ l3 0) l5.toNatClampNeg)), (0, .ref l0), (3, .ref l3), (4, .int l4)]) hx hb dX10_lays_94 hl (k := 4) rfl rfl (by decide) rfl (fun ls hl => ?_)
            refine lv_goto (tgt := 29) hx hb dX10_lays_97 (by decide) ?_
            exact ih M l0 l3 l4 (l5 + (1 : Int32)) _ _ hf h0 h3 _ _ _ hW (lv_sub hl [2, 3, 4, 0] rfl)
          · have hf := z_if c12 hf
            refine lv_aload_n hx hb dX10_lays_75 rfl (lv_at hl 1 rfl) ?_
            refine z_get_10_0 B hW h0 q257 dX10_lays_76 ?_
            refine lv_iload hx hb dX10_lays_79 (lv_at hl 4 rfl) ?_
            obtain ⟨r13, e14, hf⟩ := z_bd hf
            refine z_cV (As := [.int l5]) (rest := []) B hW (f_X3_visitor l e14 (z_g10_0 hg h0)) sc_X3_visitor sv_X10_86 (z_g10_0 hg h0) ⟨Nat.le_of_ble_eq_true rfl, Nat.le_of_ble_eq_true rfl⟩ ⟨Nat.zero_le _, Nat.zero_le _⟩ rfl hl.1 rfl (Nat.le_of_ble_eq_true rfl) dX10_lays_81 (fun H locs hW => ?_)
            refine lv_lload hx hb dX10_lays_84 (lv_at hl 0 rfl) ?_
            refine lv_l2i hx hb dX10_lays_86 rfl ?_
            obtain ⟨r15, M16, e17, hf⟩ := z_lpe hf
            refine z_cV (As := [.int ((M.2 (z_r Γ l3 0) l5.toNatClampNeg).toInt32)]) (rest := []) B hW (f_X8_learnJust l e17 (h_X3_visitor hg e14 (z_g10_0 hg h0))) sc_X8_learnJust sv_X10_130 (h_X3_visitor hg e14 (z_g10_0 hg h0)) ⟨Nat.le_of_ble_eq_true rfl, Nat.le_of_ble_eq_true rfl⟩ ⟨Nat.zero_le _, Nat.zero_le _⟩ rfl hl.1 rfl (Nat.le_of_ble_eq_true rfl) dX10_lays_87 (fun H locs hW => ?_)
            refine lv_pop hx hb dX10_lays_90 rfl ?_
            refine lv_iinc (v := l4 + (1 : Int32)) (lv' := [(4, .int (l4 + (1 : Int32))), (6, .long (M.2 (z_r Γ l3 0) l5.toNatClampNeg)), (0, .ref l0), (3, .ref l3), (5, .int l5)]) hx hb dX10_lays_91 hl (k := 3) rfl rfl (by decide) rfl (fun ls hl => ?_)
            refine lv_iinc (v := l5 + (1 : Int32)) (lv' := [(5, .int (l5 + (1 : Int32))), (4, .int (l4 + (1 : Int32))), (6, .long (M.2 (z_r Γ l3 0) l5.toNatClampNeg)), (0, .ref l0), (3, .ref l3)]) hx hb dX10_lays_94 hl (k := 4) rfl rfl (by decide) rfl (fun ls hl => ?_)
            refine lv_goto (tgt := 29) hx hb dX10_lays_97 (by decide) ?_
            exact ih M16 l0 l3 (l4 + (1 : Int32)) (l5 + (1 : Int32)) _ _ hf h0 h3 _ _ _ hW (lv_sub hl [3, 4, 1, 0] rfl)
set_option maxHeartbeats 4000000 in
set_option maxRecDepth 100000 in
theorem f_X10_lays (l : Launch) {Γ : Zg} {M : Zm} {l0 : Nat} {l1 : Int32} {r : Int32} {M' : Zm} (hf : X10_lays Γ M l0 l1 = some (r, M')) (h0 : z_Is Γ 10 l0) : z_Fn l Γ yX10_lays cX10_lays 8 (some .int) 2 41 [.ref l0, .int l1] M (some (.int r)) M' := by
  refine z_Fn.of (by decide) (Nat.le_of_ble_eq_true rfl) ?_
  intro p e s m below meth c ls B hW hl
  have B : z_Bd Γ p s m _ meth c cX10_lays 8 (some .int) RX10 := B
  have hl : lv_has ls 8 [(0, .ref l0), (1, .int l1)] := hl
  rw [X10_lays] at hf
  have hx := B.1
  have hb := B.2.1
  have hml := B.2.2.1
  have ho := B.2.2.2.1
  have hw := B.2.2.2.2.1
  have hE := B.2.2.2.2.2.1.2.2
  have hg := B.2.2.2.2.2.2.1
  refine lv_aload_n hx hb dX10_lays_0 rfl (lv_at hl 0 rfl) ?_
  refine lv_iload_n hx hb dX10_lays_1 rfl (lv_at hl 1 rfl) ?_
  obtain ⟨r1, e2, hf⟩ := z_bd hf
  refine z_cV (As := [.int l1]) (rest := []) B hW (f_X10_faultOfSheet l e2 h0) sc_X10_faultOfSheet sv_X10_232 h0 ⟨Nat.le_of_ble_eq_true rfl, Nat.le_of_ble_eq_true rfl⟩ ⟨Nat.zero_le _, Nat.zero_le _⟩ rfl hl.1 rfl (Nat.le_of_ble_eq_true rfl) dX10_lays_2 (fun H locs hW => ?_)
  refine lv_istore_n (lv' := [(2, .int r1), (0, .ref l0), (1, .int l1)]) hx hb dX10_lays_5 rfl hl (by decide) rfl (fun ls hl => ?_)
  refine lv_iload_n hx hb dX10_lays_6 rfl (lv_at hl 0 rfl) ?_
  refine lv_if_eq (tgt := 16) hx hb dX10_lays_7 (by decide) (fun c3 => ?_) (fun c3 => ?_)
  · have hf := z_it c3 hf
    refine lv_aload_n hx hb dX10_lays_16 rfl (lv_at hl 1 rfl) ?_
    refine z_get_10_5 B hW h0 q262 dX10_lays_17 ?_
    refine lv_iload_n hx hb dX10_lays_20 rfl (lv_at hl 2 rfl) ?_
    obtain ⟨g4, hf⟩ := z_gd hf
    refine z_aa15 B hW (z_g10_5 hg h0) g4 dX10_lays_21 ?_
    refine lv_astore_n (lv' := [(3, .ref (z_r Γ (z_r Γ l0 5) l1.toNatClampNeg)), (2, .int r1), (0, .ref l0), (1, .int l1)]) hx hb dX10_lays_22 rfl hl (by decide) rfl (fun ls hl => ?_)
    refine lv_iconst (v := 0) hx hb dX10_lays_23 (by decide) ?_
    refine lv_istore (lv' := [(4, .int (0 : Int32)), (3, .ref (z_r Γ (z_r Γ l0 5) l1.toNatClampNeg)), (2, .int r1), (0, .ref l0), (1, .int l1)]) hx hb dX10_lays_24 hl (by decide) rfl (fun ls hl => ?_)
    refine lv_iconst (v := 0) hx hb dX10_lays_26 (by decide) ?_
    refine lv_istore (lv' := [(5, .int (0 : Int32)), (4, .int (0 : Int32)), (3, .ref (z_r Γ (z_r Γ l0 5) l1.toNatClampNeg)), (2, .int r1), (0, .ref l0), (1, .int l1)]) hx hb dX10_lays_27 hl (by decide) rfl (fun ls hl => ?_)
    exact w_X10_lays_P29 B 1000 M l0 (z_r Γ (z_r Γ l0 5) l1.toNatClampNeg) (0 : Int32) (0 : Int32) _ _ hf h0 (z_g15 hg (z_g10_5 hg h0) g4) _ _ _ hW (lv_sub hl [4, 2, 1, 0] rfl)
  · have hf := z_if c3 hf
    refine lv_aload_n hx hb dX10_lays_10 rfl (lv_at hl 1 rfl) ?_
    refine lv_iload_n hx hb dX10_lays_11 rfl (lv_at hl 0 rfl) ?_
    obtain ⟨r5, M6, e7, hf⟩ := z_bpe hf
    refine z_cV (As := [.int r1]) (rest := []) B hW (f_X10_finding l e7 h0) sc_X10_finding sv_X10_72 h0 ⟨Nat.le_of_ble_eq_true rfl, Nat.le_of_ble_eq_true rfl⟩ ⟨Nat.zero_le _, Nat.zero_le _⟩ rfl hl.1 rfl (Nat.le_of_ble_eq_true rfl) dX10_lays_12 (fun H locs hW => ?_)
    obtain ⟨e1, e2⟩ := z_s2 hf
    subst e1
    subst e2
    exact z_ri B hW dX10_lays_15
set_option maxHeartbeats 4000000 in
set_option maxRecDepth 100000 in
theorem w_X10_book_P56 (B : z_Bd Γ p s m args meth c cX10_book 6 (some .int) RX10) : ∀ (n : Nat) (M : Zm) (l0 : Nat) (l2 : Int32) (l4 : Nat) (l5 : Int32) (r : Int32) (M' : Zm), X10_book_P56 Γ n M l0 l2 l4 l5 = some (r, M') → z_Is Γ 10 l0 → z_Is Γ 5 l4 → ∀ (H : Heap) (locs : List Loc) (ls : Array Slot), z_Wd Γ M s.heap H locs → lv_has ls 6 [(0, .ref l0), (2, .int l2), (4, .ref l4), (5, .int l5)] → W p l e (z_rm 6 139) s m args below meth c H locs 0 0 (z_Q Γ below args s (some (.int r)) M') (F0 m 56 ls []) := by
  have hx := B.1
  have hb := B.2.1
  have hml := B.2.2.1
  have ho := B.2.2.2.1
  have hw := B.2.2.2.2.1
  have hE := B.2.2.2.2.2.1.2.2
  have hg := B.2.2.2.2.2.2.1
  intro n
  induction n with
  | zero =>
    intro M l0 l2 l4 l5 r M' hf h0 h4 H locs ls hW hl
    cases hf
  | succ n ih =>
    intro M l0 l2 l4 l5 r M' hf h0 h4 H locs ls hW hl
    rw [X10_book_P56] at hf
    refine lv_iload hx hb dX10_book_56 (lv_at hl 3 rfl) ?_
    refine lv_aload hx hb dX10_book_58 (lv_at hl 2 rfl) ?_
    refine z_getN_5_2 B hW h4 q248 dX10_book_60 ?_
    refine lv_icmp_ge (tgt := 100) hx hb dX10_book_63 (by decide) (fun c17 => ?_) (fun c17 => ?_)
    · have hf := z_it c17 hf
      refine lv_aload hx hb dX10_book_100 (lv_at hl 2 rfl) ?_
      refine z_getN_5_2 B hW h4 q248 dX10_book_102 ?_
      obtain ⟨e1, e2⟩ := z_s2 hf
      subst e1
      subst e2
      exact z_ri B hW dX10_book_105
    · have hf := z_if c17 hf
      refine lv_aload hx hb dX10_book_66 (lv_at hl 2 rfl) ?_
      refine lv_iload hx hb dX10_book_68 (lv_at hl 3 rfl) ?_
      refine lv_aload_n hx hb dX10_book_70 rfl (lv_at hl 0 rfl) ?_
      refine z_get_10_1 B hW h0 q258 dX10_book_71 ?_
      refine lv_iload_n hx hb dX10_book_74 rfl (lv_at hl 1 rfl) ?_
      obtain ⟨r18, e19, hf⟩ := z_bd hf
      refine z_cV (As := [.int l2]) (rest := [.int l5, .ref l4]) B hW (f_X3_visitor l e19 (z_g10_1 hg h0)) sc_X3_visitor sv_X10_86 (z_g10_1 hg h0) ⟨Nat.le_of_ble_eq_true rfl, Nat.le_of_ble_eq_true rfl⟩ ⟨Nat.zero_le _, Nat.zero_le _⟩ rfl hl.1 rfl (Nat.le_of_ble_eq_true rfl) dX10_book_75 (fun H locs hW => ?_)
      refine z_getN_8_1 B hW (h_X3_visitor hg e19 (z_g10_1 hg h0)) q156 dX10_book_78 ?_
      refine lv_i2l hx hb dX10_book_81 rfl ?_
      obtain ⟨r20, M21, e22, hf⟩ := z_bpe hf
      refine z_cV (As := [.int l5, .long ((M.1 r18 1).toInt64)]) (rest := []) B hW (f_X5_put l e22 h4) sc_X5_put sv_X10_236 h4 ⟨Nat.le_of_ble_eq_true rfl, Nat.le_of_ble_eq_true rfl⟩ ⟨Nat.zero_le _, Nat.zero_le _⟩ rfl hl.1 rfl (Nat.le_of_ble_eq_true rfl) dX10_book_82 (fun H locs hW => ?_)
      refine lv_pop2_2 hx hb dX10_book_85 rfl ?_
      refine lv_aload_n hx hb dX10_book_86 rfl (lv_at hl 0 rfl) ?_
      refine z_get_10_1 B hW h0 q258 dX10_book_87 ?_
      refine lv_iconst (v := 1) hx hb dX10_book_90 (by decide) ?_
      obtain ⟨M24, e25, hf⟩ := z_bd hf
      refine z_cV (As := [.int (1 : Int32)]) (rest := []) B hW (f_X3_letHoursGo l e25 (z_g10_1 hg h0)) sc_X3_letHoursGo sv_X10_159 (z_g10_1 hg h0) ⟨Nat.le_of_ble_eq_true rfl, Nat.le_of_ble_eq_true rfl⟩ ⟨Nat.zero_le _, Nat.zero_le _⟩ rfl hl.1 rfl (Nat.le_of_ble_eq_true rfl) dX10_book_91 (fun H locs hW => ?_)
      refine lv_iinc (v := l5 + (1 : Int32)) (lv' := [(5, .int (l5 + (1 : Int32))), (0, .ref l0), (2, .int l2), (4, .ref l4)]) hx hb dX10_book_94 hl (k := 3) rfl rfl (by decide) rfl (fun ls hl => ?_)
      refine lv_goto (tgt := 56) hx hb dX10_book_97 (by decide) ?_
      exact ih M24 l0 l2 l4 (l5 + (1 : Int32)) _ _ hf h0 h4 _ _ _ hW (lv_sub hl [1, 2, 3, 0] rfl)
set_option maxHeartbeats 4000000 in
set_option maxRecDepth 100000 in
theorem f_X10_book (l : Launch) {Γ : Zg} {M : Zm} {l0 : Nat} {l1 : Int32} {l2 : Int32} {r : Int32} {M' : Zm} (hf : X10_book Γ M l0 l1 l2 = some (r, M')) (h0 : z_Is Γ 10 l0) : z_Fn l Γ yX10_book cX10_book 6 (some .int) 6 139 [.ref l0, .int l1, .int l2] M (some (.int r)) M' := by
  refine z_Fn.of (by decide) (Nat.le_of_ble_eq_true rfl) ?_
  intro p e s m below meth c ls B hW hl
  have B : z_Bd Γ p s m _ meth c cX10_book 6 (some .int) RX10 := B
  have hl : lv_has ls 6 [(0, .ref l0), (1, .int l1), (2, .int l2)] := hl
  rw [X10_book] at hf
  have hx := B.1
  have hb := B.2.1
  have hml := B.2.2.1
  have ho := B.2.2.2.1
  have hw := B.2.2.2.2.1
  have hE := B.2.2.2.2.2.1.2.2
  have hg := B.2.2.2.2.2.2.1
  refine lv_aload_n hx hb dX10_book_0 rfl (lv_at hl 0 rfl) ?_
  refine lv_iload_n hx hb dX10_book_1 rfl (lv_at hl 1 rfl) ?_
  obtain ⟨r1, e2, hf⟩ := z_bd hf
  refine z_cV (As := [.int l1]) (rest := []) B hW (f_X10_faultOfSheet l e2 h0) sc_X10_faultOfSheet sv_X10_232 h0 ⟨Nat.le_of_ble_eq_true rfl, Nat.le_of_ble_eq_true rfl⟩ ⟨Nat.zero_le _, Nat.zero_le _⟩ rfl hl.1 rfl (Nat.le_of_ble_eq_true rfl) dX10_book_2 (fun H locs hW => ?_)
  refine lv_istore_n (lv' := [(3, .int r1), (0, .ref l0), (1, .int l1), (2, .int l2)]) hx hb dX10_book_5 rfl hl (by decide) rfl (fun ls hl => ?_)
  refine lv_iload_n hx hb dX10_book_6 rfl (lv_at hl 0 rfl) ?_
  refine lv_if_eq (tgt := 16) hx hb dX10_book_7 (by decide) (fun c3 => ?_) (fun c3 => ?_)
  · have hf := z_it c3 hf
    refine lv_aload_n hx hb dX10_book_16 rfl (lv_at hl 1 rfl) ?_
    refine z_get_10_0 B hW h0 q257 dX10_book_17 ?_
    refine lv_iload_n hx hb dX10_book_20 rfl (lv_at hl 3 rfl) ?_
    refine z_cV (As := [.int l2]) (rest := []) B hW (f_X3_has l (z_g10_0 hg h0)) sc_X3_has sv_X10_109 (z_g10_0 hg h0) ⟨Nat.le_of_ble_eq_true rfl, Nat.le_of_ble_eq_true rfl⟩ ⟨Nat.zero_le _, Nat.zero_le _⟩ rfl hl.1 rfl (Nat.le_of_ble_eq_true rfl) dX10_book_21 (fun H locs hW => ?_)
    refine lv_if_ne (tgt := 34) hx hb dX10_book_24 (by decide) (fun c6 => ?_) (fun c6 => ?_)
    · have hf := z_if c6 hf
      refine lv_aload_n hx hb dX10_book_34 rfl (lv_at hl 1 rfl) ?_
      refine z_get_10_5 B hW h0 q262 dX10_book_35 ?_
      refine lv_iload_n hx hb dX10_book_38 rfl (lv_at hl 2 rfl) ?_
      obtain ⟨g7, hf⟩ := z_gd hf
      refine z_aa15 B hW (z_g10_5 hg h0) g7 dX10_book_39 ?_
      refine lv_astore (lv' := [(4, .ref (z_r Γ (z_r Γ l0 5) l1.toNatClampNeg)), (3, .int r1), (0, .ref l0), (1, .int l1), (2, .int l2)]) hx hb dX10_book_40 hl (by decide) rfl (fun ls hl => ?_)
      refine lv_aload_n hx hb dX10_book_42 rfl (lv_at hl 2 rfl) ?_
      refine z_get_10_1 B hW h0 q258 dX10_book_43 ?_
      refine lv_aload_n hx hb dX10_book_46 rfl (lv_at hl 2 rfl) ?_
      refine z_get_10_0 B hW h0 q257 dX10_book_47 ?_
      obtain ⟨M9, e10, hf⟩ := z_bd hf
      refine z_cV (As := [.ref (z_r Γ l0 0)]) (rest := []) B hW (f_X3_become l e10 (z_g10_1 hg h0) (z_g10_0 hg h0)) sc_X3_become sv_X10_178 (z_g10_1 hg h0) ⟨Nat.le_of_ble_eq_true rfl, Nat.le_of_ble_eq_true rfl⟩ ⟨Nat.zero_le _, Nat.zero_le _⟩ rfl hl.1 rfl (Nat.le_of_ble_eq_true rfl) dX10_book_50 (fun H locs hW => ?_)
      refine lv_iconst (v := 0) hx hb dX10_book_53 (by decide) ?_
      refine lv_istore (lv' := [(5, .int (0 : Int32)), (4, .ref (z_r Γ (z_r Γ l0 5) l1.toNatClampNeg)), (3, .int r1), (0, .ref l0), (1, .int l1), (2, .int l2)]) hx hb dX10_book_54 hl (by decide) rfl (fun ls hl => ?_)
      exact w_X10_book_P56 B 1000 M9 l0 l2 (z_r Γ (z_r Γ l0 5) l1.toNatClampNeg) (0 : Int32) _ _ hf h0 (z_g15 hg (z_g10_5 hg h0) g7) _ _ _ hW (lv_sub hl [3, 5, 1, 0] rfl)
    · have hf := z_it c6 hf
      refine lv_aload_n hx hb dX10_book_27 rfl (lv_at hl 1 rfl) ?_
      refine lv_ldc hx hb ho (hw _ q289) dX10_book_28 ?_
      obtain ⟨r11, M12, e13, hf⟩ := z_bpe hf
      refine z_cV (As := [.int (-1000000001 : Int32)]) (rest := []) B hW (f_X10_finding l e13 h0) sc_X10_finding sv_X10_72 h0 ⟨Nat.le_of_ble_eq_true rfl, Nat.le_of_ble_eq_true rfl⟩ ⟨Nat.zero_le _, Nat.zero_le _⟩ rfl hl.1 rfl (Nat.le_of_ble_eq_true rfl) dX10_book_30 (fun H locs hW => ?_)
      obtain ⟨e1, e2⟩ := z_s2 hf
      subst e1
      subst e2
      exact z_ri B hW dX10_book_33
  · have hf := z_if c3 hf
    refine lv_aload_n hx hb dX10_book_10 rfl (lv_at hl 1 rfl) ?_
    refine lv_iload_n hx hb dX10_book_11 rfl (lv_at hl 0 rfl) ?_
    obtain ⟨r14, M15, e16, hf⟩ := z_bpe hf
    refine z_cV (As := [.int r1]) (rest := []) B hW (f_X10_finding l e16 h0) sc_X10_finding sv_X10_72 h0 ⟨Nat.le_of_ble_eq_true rfl, Nat.le_of_ble_eq_true rfl⟩ ⟨Nat.zero_le _, Nat.zero_le _⟩ rfl hl.1 rfl (Nat.le_of_ble_eq_true rfl) dX10_book_12 (fun H locs hW => ?_)
    obtain ⟨e1, e2⟩ := z_s2 hf
    subst e1
    subst e2
    exact z_ri B hW dX10_book_15
set_option maxHeartbeats 4000000 in
set_option maxRecDepth 100000 in
theorem w_X10_goesAsTold_P2 (B : z_Bd Γ p s m args meth c cX10_goesAsTold 4 (some .boolean) RX10) : ∀ (n : Nat) (M : Zm) (l0 : Nat) (l1 : Nat) (l2 : Int32) (l3 : Int32) (r : Int32) (M' : Zm), X10_goesAsTold_P2 Γ n M l0 l1 l2 l3 = some (r, M') → z_Is Γ 10 l0 → z_Is Γ 5 l1 → ∀ (H : Heap) (locs : List Loc) (ls : Array Slot), z_Wd Γ M s.heap H locs → lv_has ls 4 [(0, .ref l0), (1, .ref l1), (2, .int l2), (3, .int l3)] → W p l e (z_rm 6 139) s m args below meth c H locs 0 0 (z_Q Γ below args s (some (.int r)) M') (F0 m 2 ls []) := by
  have hx := B.1
  have hb := B.2.1
  have hml := B.2.2.1
  have ho := B.2.2.2.1
  have hw := B.2.2.2.2.1
  have hE := B.2.2.2.2.2.1.2.2
  have hg := B.2.2.2.2.2.2.1
  intro n
  induction n with
  | zero =>
    intro M l0 l1 l2 l3 r M' hf h0 h1 H locs ls hW hl
    cases hf
  | succ n ih =>
    intro M l0 l1 l2 l3 r M' hf h0 h1 H locs ls hW hl
    rw [X10_goesAsTold_P2] at hf
    refine lv_iload_n hx hb dX10_goesAsTold_2 rfl (lv_at hl 3 rfl) ?_
    refine lv_aload_n hx hb dX10_goesAsTold_3 rfl (lv_at hl 1 rfl) ?_
    refine z_getN_5_2 B hW h1 q248 dX10_goesAsTold_4 ?_
    refine lv_icmp_ge (tgt := 48) hx hb dX10_goesAsTold_7 (by decide) (fun c1 => ?_) (fun c1 => ?_)
    · have hf := z_it c1 hf
      refine lv_iconst (v := 1) hx hb dX10_goesAsTold_48 (by decide) ?_
      obtain ⟨e1, e2⟩ := z_s2 hf
      subst e1
      subst e2
      exact z_rz B hW (Or.inr rfl) dX10_goesAsTold_49
    · have hf := z_if c1 hf
      refine lv_aload_n hx hb dX10_goesAsTold_10 rfl (lv_at hl 1 rfl) ?_
      refine z_getN_5_0 B hW h1 q244 dX10_goesAsTold_11 ?_
      refine lv_iload_n hx hb dX10_goesAsTold_14 rfl (lv_at hl 3 rfl) ?_
      obtain ⟨g2, hf⟩ := z_gd hf
      refine z_la B hW (z_g5_0 hg h1) g2 dX10_goesAsTold_15 ?_
      refine lv_aload_n hx hb dX10_goesAsTold_16 rfl (lv_at hl 0 rfl) ?_
      refine z_get_10_1 B hW h0 q258 dX10_goesAsTold_17 ?_
      refine lv_iload_n hx hb dX10_goesAsTold_20 rfl (lv_at hl 2 rfl) ?_
      obtain ⟨r3, e4, hf⟩ := z_bd hf
      refine z_cV (As := [.int l2]) (rest := [.long (M.2 (z_r Γ l1 0) l3.toNatClampNeg)]) B hW (f_X3_visitor l e4 (z_g10_1 hg h0)) sc_X3_visitor sv_X10_86 (z_g10_1 hg h0) ⟨Nat.le_of_ble_eq_true rfl, Nat.le_of_ble_eq_true rfl⟩ ⟨Nat.zero_le _, Nat.zero_le _⟩ rfl hl.1 rfl (Nat.le_of_ble_eq_true rfl) dX10_goesAsTold_21 (fun H locs hW => ?_)
      refine z_getN_8_1 B hW (h_X3_visitor hg e4 (z_g10_1 hg h0)) q156 dX10_goesAsTold_24 ?_
      refine lv_i2l hx hb dX10_goesAsTold_27 rfl ?_
      refine W.lcmp hx hb dX10_goesAsTold_28 ?_
      refine lv_if_eq (tgt := 34) hx hb dX10_goesAsTold_29 (by decide) (fun c5 => ?_) (fun c5 => ?_)
      · have hf := z_it c5 hf
        refine lv_aload_n hx hb dX10_goesAsTold_34 rfl (lv_at hl 0 rfl) ?_
        refine z_get_10_1 B hW h0 q258 dX10_goesAsTold_35 ?_
        refine lv_iconst (v := 1) hx hb dX10_goesAsTold_38 (by decide) ?_
        obtain ⟨M7, e8, hf⟩ := z_bd hf
        refine z_cV (As := [.int (1 : Int32)]) (rest := []) B hW (f_X3_letHoursGo l e8 (z_g10_1 hg h0)) sc_X3_letHoursGo sv_X10_159 (z_g10_1 hg h0) ⟨Nat.le_of_ble_eq_true rfl, Nat.le_of_ble_eq_true rfl⟩ ⟨Nat.zero_le _, Nat.zero_le _⟩ rfl hl.1 rfl (Nat.le_of_ble_eq_true rfl) dX10_goesAsTold_39 (fun H locs hW => ?_)
        refine lv_iinc (v := l3 + (1 : Int32)) (lv' := [(3, .int (l3 + (1 : Int32))), (0, .ref l0), (1, .ref l1), (2, .int l2)]) hx hb dX10_goesAsTold_42 hl (k := 3) rfl rfl (by decide) rfl (fun ls hl => ?_)
        refine lv_goto (tgt := 2) hx hb dX10_goesAsTold_45 (by decide) ?_
        exact ih M7 l0 l1 l2 (l3 + (1 : Int32)) _ _ hf h0 h1 _ _ _ hW (lv_sub hl [1, 2, 3, 0] rfl)
      · have hf := z_if c5 hf
        refine lv_iconst (v := 0) hx hb dX10_goesAsTold_32 (by decide) ?_
        obtain ⟨e1, e2⟩ := z_s2 hf
        subst e1
        subst e2
        exact z_rz B hW (Or.inl rfl) dX10_goesAsTold_33
set_option maxHeartbeats 4000000 in
set_option maxRecDepth 100000 in
theorem f_X10_goesAsTold (l : Launch) {Γ : Zg} {M : Zm} {l0 : Nat} {l1 : Nat} {l2 : Int32} {r : Int32} {M' : Zm} (hf : X10_goesAsTold Γ M l0 l1 l2 = some (r, M')) (h0 : z_Is Γ 10 l0) (h1 : z_Is Γ 5 l1) : z_Fn l Γ yX10_goesAsTold cX10_goesAsTold 4 (some .boolean) 6 139 [.ref l0, .ref l1, .int l2] M (some (.int r)) M' := by
  refine z_Fn.of (by decide) (Nat.le_of_ble_eq_true rfl) ?_
  intro p e s m below meth c ls B hW hl
  have B : z_Bd Γ p s m _ meth c cX10_goesAsTold 4 (some .boolean) RX10 := B
  have hl : lv_has ls 4 [(0, .ref l0), (1, .ref l1), (2, .int l2)] := hl
  rw [X10_goesAsTold] at hf
  have hx := B.1
  have hb := B.2.1
  have hml := B.2.2.1
  have ho := B.2.2.2.1
  have hw := B.2.2.2.2.1
  have hE := B.2.2.2.2.2.1.2.2
  have hg := B.2.2.2.2.2.2.1
  refine lv_iconst (v := 0) hx hb dX10_goesAsTold_0 (by decide) ?_
  refine lv_istore_n (lv' := [(3, .int (0 : Int32)), (0, .ref l0), (1, .ref l1), (2, .int l2)]) hx hb dX10_goesAsTold_1 rfl hl (by decide) rfl (fun ls hl => ?_)
  exact w_X10_goesAsTold_P2 B 1000 M l0 l1 l2 (0 : Int32) _ _ hf h0 h1 _ _ _ hW (lv_sub hl [1, 2, 3, 0] rfl)
set_option maxHeartbeats 4000000 in
set_option maxRecDepth 100000 in
theorem w_X10_read_P41 (B : z_Bd Γ p s m args meth c cX10_read 7 (some .int) RX10) : ∀ (n : Nat) (M : Zm) (l0 : Nat) (l1 : Int32) (l2 : Int32) (l3 : Int32) (l5 : Int32) (l6 : Int32) (r : Int32) (M' : Zm), X10_read_P41 Γ n M l0 l1 l2 l3 l5 l6 = some (r, M') → z_Is Γ 10 l0 → ∀ (H : Heap) (locs : List Loc) (ls : Array Slot), z_Wd Γ M s.heap H locs → lv_has ls 7 [(0, .ref l0), (1, .int l1), (2, .int l2), (3, .int l3), (5, .int l5), (6, .int l6)] → W p l e (z_rm 7 162) s m args below meth c H locs 0 0 (z_Q Γ below args s (some (.int r)) M') (F0 m 41 ls []) := by
  have hx := B.1
  have hb := B.2.1
  have hml := B.2.2.1
  have ho := B.2.2.2.1
  have hw := B.2.2.2.2.1
  have hE := B.2.2.2.2.2.1.2.2
  have hg := B.2.2.2.2.2.2.1
  intro n
  induction n with
  | zero =>
    intro M l0 l1 l2 l3 l5 l6 r M' hf h0 H locs ls hW hl
    cases hf
  | succ n ih =>
    intro M l0 l1 l2 l3 l5 l6 r M' hf h0 H locs ls hW hl
    rw [X10_read_P41] at hf
    refine lv_iload hx hb dX10_read_41 (lv_at hl 5 rfl) ?_
    refine lv_bipush (v := 36) hx hb dX10_read_43 (by decide) ?_
    refine lv_icmp_ge (tgt := 114) hx hb dX10_read_45 (by decide) (fun c13 => ?_) (fun c13 => ?_)
    · have hf := z_it c13 hf
      refine lv_iload hx hb dX10_read_114 (lv_at hl 4 rfl) ?_
      obtain ⟨e1, e2⟩ := z_s2 hf
      subst e1
      subst e2
      exact z_ri B hW dX10_read_116
    · have hf := z_if c13 hf
      refine lv_aload_n hx hb dX10_read_48 rfl (lv_at hl 0 rfl) ?_
      refine z_get_10_1 B hW h0 q258 dX10_read_49 ?_
      refine lv_aload_n hx hb dX10_read_52 rfl (lv_at hl 0 rfl) ?_
      refine z_get_10_0 B hW h0 q257 dX10_read_53 ?_
      obtain ⟨M15, e16, hf⟩ := z_bd hf
      refine z_cV (As := [.ref (z_r Γ l0 0)]) (rest := []) B hW (f_X3_become l e16 (z_g10_1 hg h0) (z_g10_0 hg h0)) sc_X3_become sv_X10_178 (z_g10_1 hg h0) ⟨Nat.le_of_ble_eq_true rfl, Nat.le_of_ble_eq_true rfl⟩ ⟨Nat.zero_le _, Nat.zero_le _⟩ rfl hl.1 rfl (Nat.le_of_ble_eq_true rfl) dX10_read_56 (fun H locs hW => ?_)
      refine lv_aload_n hx hb dX10_read_59 rfl (lv_at hl 0 rfl) ?_
      refine z_get_10_1 B hW h0 q258 dX10_read_60 ?_
      refine lv_iload_n hx hb dX10_read_63 rfl (lv_at hl 2 rfl) ?_
      obtain ⟨r17, e18, hf⟩ := z_bd hf
      refine z_cV (As := [.int l2]) (rest := []) B hW (f_X3_visitor l e18 (z_g10_1 hg h0)) sc_X3_visitor sv_X10_86 (z_g10_1 hg h0) ⟨Nat.le_of_ble_eq_true rfl, Nat.le_of_ble_eq_true rfl⟩ ⟨Nat.zero_le _, Nat.zero_le _⟩ rfl hl.1 rfl (Nat.le_of_ble_eq_true rfl) dX10_read_64 (fun H locs hW => ?_)
      refine lv_iload hx hb dX10_read_67 (lv_at hl 5 rfl) ?_
      refine lv_bipush (v := 6) hx hb dX10_read_69 (by decide) ?_
      refine lv_idiv hx hb dX10_read_71 (by decide) ?_
      refine z_putN_8_0 B hW (h_X3_visitor hg e18 (z_g10_1 hg h0)) q150 dX10_read_72 (fun H locs hW => ?_)
      obtain ⟨M19, e20, hf⟩ := z_le hf
      have hW := z_wde e20 hW
      refine lv_aload_n hx hb dX10_read_75 rfl (lv_at hl 0 rfl) ?_
      refine z_get_10_1 B hW h0 q258 dX10_read_76 ?_
      refine lv_iload_n hx hb dX10_read_79 rfl (lv_at hl 3 rfl) ?_
      obtain ⟨r21, e22, hf⟩ := z_bd hf
      refine z_cV (As := [.int l3]) (rest := []) B hW (f_X3_visitor l e22 (z_g10_1 hg h0)) sc_X3_visitor sv_X10_86 (z_g10_1 hg h0) ⟨Nat.le_of_ble_eq_true rfl, Nat.le_of_ble_eq_true rfl⟩ ⟨Nat.zero_le _, Nat.zero_le _⟩ rfl hl.1 rfl (Nat.le_of_ble_eq_true rfl) dX10_read_80 (fun H locs hW => ?_)
      refine lv_iload hx hb dX10_read_83 (lv_at hl 5 rfl) ?_
      refine lv_bipush (v := 6) hx hb dX10_read_85 (by decide) ?_
      refine lv_irem hx hb dX10_read_87 (by decide) ?_
      refine z_putN_8_0 B hW (h_X3_visitor hg e22 (z_g10_1 hg h0)) q150 dX10_read_88 (fun H locs hW => ?_)
      obtain ⟨M23, e24, hf⟩ := z_le hf
      have hW := z_wde e24 hW
      refine lv_aload_n hx hb dX10_read_91 rfl (lv_at hl 0 rfl) ?_
      refine lv_aload_n hx hb dX10_read_92 rfl (lv_at hl 0 rfl) ?_
      refine z_get_10_5 B hW h0 q262 dX10_read_93 ?_
      refine lv_iload_n hx hb dX10_read_96 rfl (lv_at hl 1 rfl) ?_
      obtain ⟨g25, hf⟩ := z_gd hf
      refine z_aa15 B hW (z_g10_5 hg h0) g25 dX10_read_97 ?_
      refine lv_iload_n hx hb dX10_read_98 rfl (lv_at hl 2 rfl) ?_
      obtain ⟨r26, M27, e28, hf⟩ := z_bpe hf
      refine z_cV (As := [.ref (z_r Γ (z_r Γ l0 5) l1.toNatClampNeg), .int l2]) (rest := []) B hW (f_X10_goesAsTold l e28 h0 (z_g15 hg (z_g10_5 hg h0) g25)) sc_X10_goesAsTold sv_X10_262 h0 ⟨Nat.le_of_ble_eq_true rfl, Nat.le_of_ble_eq_true rfl⟩ ⟨Nat.zero_le _, Nat.zero_le _⟩ rfl hl.1 rfl (Nat.le_of_ble_eq_true rfl) dX10_read_99 (fun H locs hW => ?_)
      refine lv_if_eq (tgt := 108) hx hb dX10_read_102 (by decide) (fun c29 => ?_) (fun c29 => ?_)
      · have hf := z_it c29 hf
        refine lv_iinc (v := l6 + (1 : Int32)) (lv' := [(6, .int (l6 + (1 : Int32))), (0, .ref l0), (1, .int l1), (2, .int l2), (3, .int l3), (5, .int l5)]) hx hb dX10_read_108 hl (k := 5) rfl rfl (by decide) rfl (fun ls hl => ?_)
        refine lv_goto (tgt := 41) hx hb dX10_read_111 (by decide) ?_
        exact ih M27 l0 l1 l2 l3 l5 (l6 + (1 : Int32)) _ _ hf h0 _ _ _ hW (lv_sub hl [1, 2, 3, 4, 5, 0] rfl)
      · have hf := z_if c29 hf
        refine lv_iinc (v := l5 + (1 : Int32)) (lv' := [(5, .int (l5 + (1 : Int32))), (0, .ref l0), (1, .int l1), (2, .int l2), (3, .int l3), (6, .int l6)]) hx hb dX10_read_105 hl (k := 4) rfl rfl (by decide) rfl (fun ls hl => ?_)
        refine lv_iinc (v := l6 + (1 : Int32)) (lv' := [(6, .int (l6 + (1 : Int32))), (5, .int (l5 + (1 : Int32))), (0, .ref l0), (1, .int l1), (2, .int l2), (3, .int l3)]) hx hb dX10_read_108 hl (k := 5) rfl rfl (by decide) rfl (fun ls hl => ?_)
        refine lv_goto (tgt := 41) hx hb dX10_read_111 (by decide) ?_
        exact ih M27 l0 l1 l2 l3 (l5 + (1 : Int32)) (l6 + (1 : Int32)) _ _ hf h0 _ _ _ hW (lv_sub hl [2, 3, 4, 5, 1, 0] rfl)
set_option maxHeartbeats 4000000 in
set_option maxRecDepth 100000 in
theorem f_X10_read (l : Launch) {Γ : Zg} {M : Zm} {l0 : Nat} {l1 : Int32} {l2 : Int32} {l3 : Int32} {r : Int32} {M' : Zm} (hf : X10_read Γ M l0 l1 l2 l3 = some (r, M')) (h0 : z_Is Γ 10 l0) : z_Fn l Γ yX10_read cX10_read 7 (some .int) 7 162 [.ref l0, .int l1, .int l2, .int l3] M (some (.int r)) M' := by
  refine z_Fn.of (by decide) (Nat.le_of_ble_eq_true rfl) ?_
  intro p e s m below meth c ls B hW hl
  have B : z_Bd Γ p s m _ meth c cX10_read 7 (some .int) RX10 := B
  have hl : lv_has ls 7 [(0, .ref l0), (1, .int l1), (2, .int l2), (3, .int l3)] := hl
  rw [X10_read] at hf
  have hx := B.1
  have hb := B.2.1
  have hml := B.2.2.1
  have ho := B.2.2.2.1
  have hw := B.2.2.2.2.1
  have hE := B.2.2.2.2.2.1.2.2
  have hg := B.2.2.2.2.2.2.1
  refine lv_aload_n hx hb dX10_read_0 rfl (lv_at hl 0 rfl) ?_
  refine lv_iload_n hx hb dX10_read_1 rfl (lv_at hl 1 rfl) ?_
  obtain ⟨r1, e2, hf⟩ := z_bd hf
  refine z_cV (As := [.int l1]) (rest := []) B hW (f_X10_faultOfSheet l e2 h0) sc_X10_faultOfSheet sv_X10_232 h0 ⟨Nat.le_of_ble_eq_true rfl, Nat.le_of_ble_eq_true rfl⟩ ⟨Nat.zero_le _, Nat.zero_le _⟩ rfl hl.1 rfl (Nat.le_of_ble_eq_true rfl) dX10_read_2 (fun H locs hW => ?_)
  refine lv_istore (lv' := [(4, .int r1), (0, .ref l0), (1, .int l1), (2, .int l2), (3, .int l3)]) hx hb dX10_read_5 hl (by decide) rfl (fun ls hl => ?_)
  refine lv_iload hx hb dX10_read_7 (lv_at hl 0 rfl) ?_
  refine lv_if_eq (tgt := 19) hx hb dX10_read_9 (by decide) (fun c3 => ?_) (fun c3 => ?_)
  · have hf := z_it c3 hf
    refine lv_aload_n hx hb dX10_read_19 rfl (lv_at hl 1 rfl) ?_
    refine lv_iload_n hx hb dX10_read_20 rfl (lv_at hl 3 rfl) ?_
    refine lv_iload_n hx hb dX10_read_21 rfl (lv_at hl 4 rfl) ?_
    refine z_cV (As := [.int l2, .int l3]) (rest := []) B hW (f_X10_areTwo l h0) sc_X10_areTwo sv_X10_186 h0 ⟨Nat.le_of_ble_eq_true rfl, Nat.le_of_ble_eq_true rfl⟩ ⟨Nat.zero_le _, Nat.zero_le _⟩ rfl hl.1 rfl (Nat.le_of_ble_eq_true rfl) dX10_read_22 (fun H locs hW => ?_)
    refine lv_if_ne (tgt := 35) hx hb dX10_read_25 (by decide) (fun c6 => ?_) (fun c6 => ?_)
    · have hf := z_if c6 hf
      refine lv_iconst (v := 0) hx hb dX10_read_35 (by decide) ?_
      refine lv_istore (lv' := [(5, .int (0 : Int32)), (4, .int r1), (0, .ref l0), (1, .int l1), (2, .int l2), (3, .int l3)]) hx hb dX10_read_36 hl (by decide) rfl (fun ls hl => ?_)
      refine lv_iconst (v := 0) hx hb dX10_read_38 (by decide) ?_
      refine lv_istore (lv' := [(6, .int (0 : Int32)), (5, .int (0 : Int32)), (4, .int r1), (0, .ref l0), (1, .int l1), (2, .int l2), (3, .int l3)]) hx hb dX10_read_39 hl (by decide) rfl (fun ls hl => ?_)
      exact w_X10_read_P41 B 1000 M l0 l1 l2 l3 (0 : Int32) (0 : Int32) _ _ hf h0 _ _ _ hW (lv_sub hl [3, 4, 5, 6, 1, 0] rfl)
    · have hf := z_it c6 hf
      refine lv_aload_n hx hb dX10_read_28 rfl (lv_at hl 1 rfl) ?_
      refine lv_ldc hx hb ho (hw _ q289) dX10_read_29 ?_
      obtain ⟨r7, M8, e9, hf⟩ := z_bpe hf
      refine z_cV (As := [.int (-1000000001 : Int32)]) (rest := []) B hW (f_X10_finding l e9 h0) sc_X10_finding sv_X10_72 h0 ⟨Nat.le_of_ble_eq_true rfl, Nat.le_of_ble_eq_true rfl⟩ ⟨Nat.zero_le _, Nat.zero_le _⟩ rfl hl.1 rfl (Nat.le_of_ble_eq_true rfl) dX10_read_31 (fun H locs hW => ?_)
      obtain ⟨e1, e2⟩ := z_s2 hf
      subst e1
      subst e2
      exact z_ri B hW dX10_read_34
  · have hf := z_if c3 hf
    refine lv_aload_n hx hb dX10_read_12 rfl (lv_at hl 1 rfl) ?_
    refine lv_iload hx hb dX10_read_13 (lv_at hl 0 rfl) ?_
    obtain ⟨r10, M11, e12, hf⟩ := z_bpe hf
    refine z_cV (As := [.int r1]) (rest := []) B hW (f_X10_finding l e12 h0) sc_X10_finding sv_X10_72 h0 ⟨Nat.le_of_ble_eq_true rfl, Nat.le_of_ble_eq_true rfl⟩ ⟨Nat.zero_le _, Nat.zero_le _⟩ rfl hl.1 rfl (Nat.le_of_ble_eq_true rfl) dX10_read_15 (fun H locs hW => ?_)
    obtain ⟨e1, e2⟩ := z_s2 hf
    subst e1
    subst e2
    exact z_ri B hW dX10_read_18
set_option maxHeartbeats 4000000 in
set_option maxRecDepth 100000 in
theorem f_X10_image (l : Launch) {Γ : Zg} {M : Zm} {l0 : Nat} {r : Int32} {M' : Zm} (hf : X10_image Γ M l0 = some (r, M')) (h0 : z_Is Γ 10 l0) : z_Fn l Γ yX10_image cX10_image 1 (some .int) 2 43 [.ref l0] M (some (.int r)) M' := by
  refine z_Fn.of (by decide) (Nat.le_of_ble_eq_true rfl) ?_
  intro p e s m below meth c ls B hW hl
  have B : z_Bd Γ p s m _ meth c cX10_image 1 (some .int) RX10 := B
  have hl : lv_has ls 1 [(0, .ref l0)] := hl
  rw [X10_image] at hf
  have hx := B.1
  have hb := B.2.1
  have hml := B.2.2.1
  have ho := B.2.2.2.1
  have hw := B.2.2.2.2.1
  have hE := B.2.2.2.2.2.1.2.2
  have hg := B.2.2.2.2.2.2.1
  refine lv_aload_n hx hb dX10_image_0 rfl (lv_at hl 0 rfl) ?_
  refine z_get_10_2 B hW h0 q259 dX10_image_1 ?_
  refine lv_aload_n hx hb dX10_image_4 rfl (lv_at hl 0 rfl) ?_
  refine z_get_10_0 B hW h0 q257 dX10_image_5 ?_
  obtain ⟨M2, e3, hf⟩ := z_bd hf
  refine z_cV (As := [.ref (z_r Γ l0 0)]) (rest := []) B hW (f_X3_become l e3 (z_g10_2 hg h0) (z_g10_0 hg h0)) sc_X3_become sv_X10_178 (z_g10_2 hg h0) ⟨Nat.le_of_ble_eq_true rfl, Nat.le_of_ble_eq_true rfl⟩ ⟨Nat.zero_le _, Nat.zero_le _⟩ rfl hl.1 rfl (Nat.le_of_ble_eq_true rfl) dX10_image_8 (fun H locs hW => ?_)
  refine lv_aload_n hx hb dX10_image_11 rfl (lv_at hl 0 rfl) ?_
  refine lv_iconst (v := 1) hx hb dX10_image_12 (by decide) ?_
  refine z_put_10_3 B hW h0 (Or.inr rfl) q260 dX10_image_13 (fun H locs hW => ?_)
  obtain ⟨M4, e5, hf⟩ := z_le hf
  have hW := z_wde e5 hW
  refine lv_iconst (v := 1) hx hb dX10_image_16 (by decide) ?_
  obtain ⟨e1, e2⟩ := z_s2 hf
  subst e1
  subst e2
  exact z_ri B hW dX10_image_17
set_option maxHeartbeats 4000000 in
set_option maxRecDepth 100000 in
theorem f_X10_undo (l : Launch) {Γ : Zg} {M : Zm} {l0 : Nat} {r : Int32} {M' : Zm} (hf : X10_undo Γ M l0 = some (r, M')) (h0 : z_Is Γ 10 l0) : z_Fn l Γ yX10_undo cX10_undo 1 (some .int) 2 43 [.ref l0] M (some (.int r)) M' := by
  refine z_Fn.of (by decide) (Nat.le_of_ble_eq_true rfl) ?_
  intro p e s m below meth c ls B hW hl
  have B : z_Bd Γ p s m _ meth c cX10_undo 1 (some .int) RX10 := B
  have hl : lv_has ls 1 [(0, .ref l0)] := hl
  rw [X10_undo] at hf
  have hx := B.1
  have hb := B.2.1
  have hml := B.2.2.1
  have ho := B.2.2.2.1
  have hw := B.2.2.2.2.1
  have hE := B.2.2.2.2.2.1.2.2
  have hg := B.2.2.2.2.2.2.1
  refine lv_aload_n hx hb dX10_undo_0 rfl (lv_at hl 0 rfl) ?_
  refine z_get_10_3 B hW h0 q260 dX10_undo_1 ?_
  refine lv_if_ne (tgt := 14) hx hb dX10_undo_4 (by decide) (fun c1 => ?_) (fun c1 => ?_)
  · have hf := z_if c1 hf
    refine lv_aload_n hx hb dX10_undo_14 rfl (lv_at hl 0 rfl) ?_
    refine z_get_10_0 B hW h0 q257 dX10_undo_15 ?_
    refine lv_aload_n hx hb dX10_undo_18 rfl (lv_at hl 0 rfl) ?_
    refine z_get_10_2 B hW h0 q259 dX10_undo_19 ?_
    obtain ⟨M3, e4, hf⟩ := z_bd hf
    refine z_cV (As := [.ref (z_r Γ l0 2)]) (rest := []) B hW (f_X3_become l e4 (z_g10_0 hg h0) (z_g10_2 hg h0)) sc_X3_become sv_X10_178 (z_g10_0 hg h0) ⟨Nat.le_of_ble_eq_true rfl, Nat.le_of_ble_eq_true rfl⟩ ⟨Nat.zero_le _, Nat.zero_le _⟩ rfl hl.1 rfl (Nat.le_of_ble_eq_true rfl) dX10_undo_22 (fun H locs hW => ?_)
    refine lv_aload_n hx hb dX10_undo_25 rfl (lv_at hl 0 rfl) ?_
    refine z_get_10_0 B hW h0 q257 dX10_undo_26 ?_
    refine z_getN_3_2 B hW (z_g10_0 hg h0) q188 dX10_undo_29 ?_
    obtain ⟨e1, e2⟩ := z_s2 hf
    subst e1
    subst e2
    exact z_ri B hW dX10_undo_32
  · have hf := z_it c1 hf
    refine lv_aload_n hx hb dX10_undo_7 rfl (lv_at hl 0 rfl) ?_
    refine lv_ldc hx hb ho (hw _ q568) dX10_undo_8 ?_
    obtain ⟨r5, M6, e7, hf⟩ := z_bpe hf
    refine z_cV (As := [.int (-1000000004 : Int32)]) (rest := []) B hW (f_X10_finding l e7 h0) sc_X10_finding sv_X10_72 h0 ⟨Nat.le_of_ble_eq_true rfl, Nat.le_of_ble_eq_true rfl⟩ ⟨Nat.zero_le _, Nat.zero_le _⟩ rfl hl.1 rfl (Nat.le_of_ble_eq_true rfl) dX10_undo_10 (fun H locs hW => ?_)
    obtain ⟨e1, e2⟩ := z_s2 hf
    subst e1
    subst e2
    exact z_ri B hW dX10_undo_13
set_option maxHeartbeats 4000000 in
set_option maxRecDepth 100000 in
theorem f_X10_tear (l : Launch) {Γ : Zg} {M : Zm} {l0 : Nat} {r : Int32} {M' : Zm} (hf : X10_tear M l0 = (r, M')) (h0 : z_Is Γ 10 l0) : z_Fn l Γ yX10_tear cX10_tear 2 (some .int) 0 0 [.ref l0] M (some (.int r)) M' := by
  refine z_Fn.of (by decide) (Nat.le_of_ble_eq_true rfl) ?_
  intro p e s m below meth c ls B hW hl
  have B : z_Bd Γ p s m _ meth c cX10_tear 2 (some .int) RX10 := B
  have hl : lv_has ls 2 [(0, .ref l0)] := hl
  rw [X10_tear] at hf
  have hx := B.1
  have hb := B.2.1
  have hml := B.2.2.1
  have ho := B.2.2.2.1
  have hw := B.2.2.2.2.1
  have hE := B.2.2.2.2.2.1.2.2
  have hg := B.2.2.2.2.2.2.1
  refine lv_aload_n hx hb dX10_tear_0 rfl (lv_at hl 0 rfl) ?_
  refine z_get_10_3 B hW h0 q260 dX10_tear_1 ?_
  refine lv_if_eq (tgt := 11) hx hb dX10_tear_4 (by decide) (fun c1 => ?_) (fun c1 => ?_)
  · have hf := z_it c1 hf
    refine lv_iconst (v := 0) hx hb dX10_tear_11 (by decide) ?_
    refine lv_istore_n (lv' := [(1, .int (0 : Int32)), (0, .ref l0)]) hx hb dX10_tear_12 rfl hl (by decide) rfl (fun ls hl => ?_)
    refine lv_aload_n hx hb dX10_tear_13 rfl (lv_at hl 1 rfl) ?_
    refine lv_iconst (v := 0) hx hb dX10_tear_14 (by decide) ?_
    refine z_put_10_3 B hW h0 (Or.inl rfl) q260 dX10_tear_15 (fun H locs hW => ?_)
    obtain ⟨M2, e3, hf⟩ := z_le hf
    have hW := z_wde e3 hW
    refine lv_iload_n hx hb dX10_tear_18 rfl (lv_at hl 0 rfl) ?_
    obtain ⟨e1, e2⟩ := Prod.mk.inj hf
    subst e1
    subst e2
    exact z_ri B hW dX10_tear_19
  · have hf := z_if c1 hf
    refine lv_iconst (v := 1) hx hb dX10_tear_7 (by decide) ?_
    refine lv_goto (tgt := 12) hx hb dX10_tear_8 (by decide) ?_
    refine lv_istore_n (lv' := [(1, .int (1 : Int32)), (0, .ref l0)]) hx hb dX10_tear_12 rfl hl (by decide) rfl (fun ls hl => ?_)
    refine lv_aload_n hx hb dX10_tear_13 rfl (lv_at hl 1 rfl) ?_
    refine lv_iconst (v := 0) hx hb dX10_tear_14 (by decide) ?_
    refine z_put_10_3 B hW h0 (Or.inl rfl) q260 dX10_tear_15 (fun H locs hW => ?_)
    obtain ⟨M4, e5, hf⟩ := z_le hf
    have hW := z_wde e5 hW
    refine lv_iload_n hx hb dX10_tear_18 rfl (lv_at hl 0 rfl) ?_
    obtain ⟨e1, e2⟩ := Prod.mk.inj hf
    subst e1
    subst e2
    exact z_ri B hW dX10_tear_19
set_option maxHeartbeats 4000000 in
set_option maxRecDepth 100000 in
theorem f_X10_count (l : Launch) {Γ : Zg} {M : Zm} {l0 : Nat} {l1 : Int32} {r : Int32} {M' : Zm} (hf : X10_count Γ M l0 l1 = some (r, M')) (h0 : z_Is Γ 10 l0) : z_Fn l Γ yX10_count cX10_count 2 (some .int) 2 42 [.ref l0, .int l1] M (some (.int r)) M' := by
  refine z_Fn.of (by decide) (Nat.le_of_ble_eq_true rfl) ?_
  intro p e s m below meth c ls B hW hl
  have B : z_Bd Γ p s m _ meth c cX10_count 2 (some .int) RX10 := B
  have hl : lv_has ls 2 [(0, .ref l0), (1, .int l1)] := hl
  rw [X10_count] at hf
  have hx := B.1
  have hb := B.2.1
  have hml := B.2.2.1
  have ho := B.2.2.2.1
  have hw := B.2.2.2.2.1
  have hE := B.2.2.2.2.2.1.2.2
  have hg := B.2.2.2.2.2.2.1
  refine lv_iload_n hx hb dX10_count_0 rfl (lv_at hl 1 rfl) ?_
  by_cases c1 : l1 = (0 : Int32)
  · have hf := z_it c1 hf
    refine lv_tableIn (off := 31) (tgt := 32) hx hb dX10_count_1 (by rw [c1]; decide) (by rw [c1]; decide) (by rw [c1]; decide) (by decide) ?_
    refine lv_aload_n hx hb dX10_count_32 rfl (lv_at hl 0 rfl) ?_
    refine z_get_10_0 B hW h0 q257 dX10_count_33 ?_
    refine z_getN_3_2 B hW (z_g10_0 hg h0) q188 dX10_count_36 ?_
    obtain ⟨e1, e2⟩ := z_s2 hf
    subst e1
    subst e2
    exact z_ri B hW dX10_count_39
  · have hf := z_if c1 hf
    by_cases c2 : l1 = (1 : Int32)
    · have hf := z_it c2 hf
      refine lv_tableIn (off := 39) (tgt := 40) hx hb dX10_count_1 (by rw [c2]; decide) (by rw [c2]; decide) (by rw [c2]; decide) (by decide) ?_
      refine lv_aload_n hx hb dX10_count_40 rfl (lv_at hl 0 rfl) ?_
      refine z_get_10_4 B hW h0 q261 dX10_count_41 ?_
      refine z_getN_7_1 B hW (z_g10_4 hg h0) q217 dX10_count_44 ?_
      obtain ⟨e1, e2⟩ := z_s2 hf
      subst e1
      subst e2
      exact z_ri B hW dX10_count_47
    · have hf := z_if c2 hf
      by_cases c3 : l1 = (2 : Int32)
      · have hf := z_it c3 hf
        refine lv_tableIn (off := 47) (tgt := 48) hx hb dX10_count_1 (by rw [c3]; decide) (by rw [c3]; decide) (by rw [c3]; decide) (by decide) ?_
        refine lv_aload_n hx hb dX10_count_48 rfl (lv_at hl 0 rfl) ?_
        refine z_get_10_0 B hW h0 q257 dX10_count_49 ?_
        obtain ⟨r4, e5, hf⟩ := z_bd hf
        refine z_cV (As := []) (rest := []) B hW (f_X3_heardByAll l e5 (z_g10_0 hg h0)) sc_X3_heardByAll sv_X10_162 (z_g10_0 hg h0) ⟨Nat.le_of_ble_eq_true rfl, Nat.le_of_ble_eq_true rfl⟩ ⟨Nat.zero_le _, Nat.zero_le _⟩ rfl hl.1 rfl (Nat.le_of_ble_eq_true rfl) dX10_count_52 (fun H locs hW => ?_)
        obtain ⟨e1, e2⟩ := z_s2 hf
        subst e1
        subst e2
        exact z_ri B hW dX10_count_55
      · have hf := z_if c3 hf
        by_cases c6 : l1 = (3 : Int32)
        · have hf := z_it c6 hf
          refine lv_tableIn (off := 55) (tgt := 56) hx hb dX10_count_1 (by rw [c6]; decide) (by rw [c6]; decide) (by rw [c6]; decide) (by decide) ?_
          refine lv_aload_n hx hb dX10_count_56 rfl (lv_at hl 0 rfl) ?_
          refine z_get_10_0 B hW h0 q257 dX10_count_57 ?_
          obtain ⟨r7, e8, hf⟩ := z_bd hf
          refine z_cV (As := []) (rest := []) B hW (f_X3_believedByAll l e8 (z_g10_0 hg h0)) sc_X3_believedByAll sv_X10_266 (z_g10_0 hg h0) ⟨Nat.le_of_ble_eq_true rfl, Nat.le_of_ble_eq_true rfl⟩ ⟨Nat.zero_le _, Nat.zero_le _⟩ rfl hl.1 rfl (Nat.le_of_ble_eq_true rfl) dX10_count_60 (fun H locs hW => ?_)
          obtain ⟨e1, e2⟩ := z_s2 hf
          subst e1
          subst e2
          exact z_ri B hW dX10_count_63
        · have hf := z_if c6 hf
          have hsw : l1.toInt < 0 ∨ 3 < l1.toInt := by
            have ec1 := z_nei 0 (by decide) c1
            have ec2 := z_nei 1 (by decide) c2
            have ec3 := z_nei 2 (by decide) c3
            have ec6 := z_nei 3 (by decide) c6
            omega
          refine lv_tableOut (tgt := 64) hx hb dX10_count_1 hsw (by decide) ?_
          refine lv_aload_n hx hb dX10_count_64 rfl (lv_at hl 0 rfl) ?_
          refine lv_ldc hx hb ho (hw _ q289) dX10_count_65 ?_
          obtain ⟨r9, M10, e11, hf⟩ := z_bpe hf
          refine z_cV (As := [.int (-1000000001 : Int32)]) (rest := []) B hW (f_X10_finding l e11 h0) sc_X10_finding sv_X10_72 h0 ⟨Nat.le_of_ble_eq_true rfl, Nat.le_of_ble_eq_true rfl⟩ ⟨Nat.zero_le _, Nat.zero_le _⟩ rfl hl.1 rfl (Nat.le_of_ble_eq_true rfl) dX10_count_67 (fun H locs hW => ?_)
          obtain ⟨e1, e2⟩ := z_s2 hf
          subst e1
          subst e2
          exact z_ri B hW dX10_count_70
set_option maxHeartbeats 4000000 in
set_option maxRecDepth 100000 in
theorem w_X10_status_P33 (B : z_Bd Γ p s m args meth c cX10_status 4 (some .int) RX10) : ∀ (n : Nat) (M : Zm) (l0 : Nat) (l2 : Int32) (l3 : Int32) (r : Int32) (M' : Zm), X10_status_P33 Γ n M l0 l2 l3 = some (r, M') → z_Is Γ 10 l0 → ∀ (H : Heap) (locs : List Loc) (ls : Array Slot), z_Wd Γ M s.heap H locs → lv_has ls 4 [(0, .ref l0), (2, .int l2), (3, .int l3)] → W p l e (z_rm 1 22) s m args below meth c H locs 0 0 (z_Q Γ below args s (some (.int r)) M') (F0 m 33 ls []) := by
  have hx := B.1
  have hb := B.2.1
  have hml := B.2.2.1
  have ho := B.2.2.2.1
  have hw := B.2.2.2.2.1
  have hE := B.2.2.2.2.2.1.2.2
  have hg := B.2.2.2.2.2.2.1
  intro n
  induction n with
  | zero =>
    intro M l0 l2 l3 r M' hf h0 H locs ls hW hl
    cases hf
  | succ n ih =>
    intro M l0 l2 l3 r M' hf h0 H locs ls hW hl
    rw [X10_status_P33] at hf
    refine lv_iload_n hx hb dX10_status_33 rfl (lv_at hl 2 rfl) ?_
    refine lv_bipush (v := 7) hx hb dX10_status_34 (by decide) ?_
    refine lv_icmp_ge (tgt := 54) hx hb dX10_status_36 (by decide) (fun c11 => ?_) (fun c11 => ?_)
    · have hf := z_it c11 hf
      refine lv_iload_n hx hb dX10_status_54 rfl (lv_at hl 1 rfl) ?_
      obtain ⟨e1, e2⟩ := z_s2 hf
      subst e1
      subst e2
      exact z_ri B hW dX10_status_55
    · have hf := z_if c11 hf
      refine lv_iload_n hx hb dX10_status_39 rfl (lv_at hl 1 rfl) ?_
      refine lv_aload_n hx hb dX10_status_40 rfl (lv_at hl 0 rfl) ?_
      refine z_get_10_6 B hW h0 q263 dX10_status_41 ?_
      refine lv_iload_n hx hb dX10_status_44 rfl (lv_at hl 2 rfl) ?_
      obtain ⟨g12, hf⟩ := z_gd hf
      refine z_ia B hW (z_g10_6 hg h0) g12 dX10_status_45 ?_
      refine lv_iadd hx hb dX10_status_46 ?_
      refine lv_istore_n (lv' := [(2, .int (l2 + (M.1 (z_r Γ l0 6) l3.toNatClampNeg))), (0, .ref l0), (3, .int l3)]) hx hb dX10_status_47 rfl hl (by decide) rfl (fun ls hl => ?_)
      refine lv_iinc (v := l3 + (1 : Int32)) (lv' := [(3, .int (l3 + (1 : Int32))), (2, .int (l2 + (M.1 (z_r Γ l0 6) l3.toNatClampNeg))), (0, .ref l0)]) hx hb dX10_status_48 hl (k := 2) rfl rfl (by decide) rfl (fun ls hl => ?_)
      refine lv_goto (tgt := 33) hx hb dX10_status_51 (by decide) ?_
      exact ih M l0 (l2 + (M.1 (z_r Γ l0 6) l3.toNatClampNeg)) (l3 + (1 : Int32)) _ _ hf h0 _ _ _ hW (lv_sub hl [2, 1, 0] rfl)
set_option maxHeartbeats 4000000 in
set_option maxRecDepth 100000 in
theorem f_X10_status (l : Launch) {Γ : Zg} {M : Zm} {l0 : Nat} {l1 : Int32} {r : Int32} {M' : Zm} (hf : X10_status Γ M l0 l1 = some (r, M')) (h0 : z_Is Γ 10 l0) : z_Fn l Γ yX10_status cX10_status 4 (some .int) 1 22 [.ref l0, .int l1] M (some (.int r)) M' := by
  refine z_Fn.of (by decide) (Nat.le_of_ble_eq_true rfl) ?_
  intro p e s m below meth c ls B hW hl
  have B : z_Bd Γ p s m _ meth c cX10_status 4 (some .int) RX10 := B
  have hl : lv_has ls 4 [(0, .ref l0), (1, .int l1)] := hl
  rw [X10_status] at hf
  have hx := B.1
  have hb := B.2.1
  have hml := B.2.2.1
  have ho := B.2.2.2.1
  have hw := B.2.2.2.2.1
  have hE := B.2.2.2.2.2.1.2.2
  have hg := B.2.2.2.2.2.2.1
  refine lv_iload_n hx hb dX10_status_0 rfl (lv_at hl 1 rfl) ?_
  refine lv_iconst (v := -1) hx hb dX10_status_1 (by decide) ?_
  refine lv_icmp_lt (tgt := 11) hx hb dX10_status_2 (by decide) (fun c1 => ?_) (fun c1 => ?_)
  · have hf := z_it c1 hf
    refine lv_aload_n hx hb dX10_status_11 rfl (lv_at hl 0 rfl) ?_
    refine lv_ldc hx hb ho (hw _ q289) dX10_status_12 ?_
    obtain ⟨r2, M3, e4, hf⟩ := z_bpe hf
    refine z_cV (As := [.int (-1000000001 : Int32)]) (rest := []) B hW (f_X10_finding l e4 h0) sc_X10_finding sv_X10_72 h0 ⟨Nat.le_of_ble_eq_true rfl, Nat.le_of_ble_eq_true rfl⟩ ⟨Nat.zero_le _, Nat.zero_le _⟩ rfl hl.1 rfl (Nat.le_of_ble_eq_true rfl) dX10_status_14 (fun H locs hW => ?_)
    obtain ⟨e1, e2⟩ := z_s2 hf
    subst e1
    subst e2
    exact z_ri B hW dX10_status_17
  · have hf := z_if c1 hf
    refine lv_iload_n hx hb dX10_status_5 rfl (lv_at hl 1 rfl) ?_
    refine lv_bipush (v := 7) hx hb dX10_status_6 (by decide) ?_
    refine lv_icmp_lt (tgt := 18) hx hb dX10_status_8 (by decide) (fun c5 => ?_) (fun c5 => ?_)
    · have hf := z_it c5 hf
      refine lv_iload_n hx hb dX10_status_18 rfl (lv_at hl 1 rfl) ?_
      refine lv_if_lt (tgt := 29) hx hb dX10_status_19 (by decide) (fun c6 => ?_) (fun c6 => ?_)
      · have hf := z_it c6 hf
        refine lv_iconst (v := 0) hx hb dX10_status_29 (by decide) ?_
        refine lv_istore_n (lv' := [(2, .int (0 : Int32)), (0, .ref l0), (1, .int l1)]) hx hb dX10_status_30 rfl hl (by decide) rfl (fun ls hl => ?_)
        refine lv_iconst (v := 0) hx hb dX10_status_31 (by decide) ?_
        refine lv_istore_n (lv' := [(3, .int (0 : Int32)), (2, .int (0 : Int32)), (0, .ref l0), (1, .int l1)]) hx hb dX10_status_32 rfl hl (by decide) rfl (fun ls hl => ?_)
        exact w_X10_status_P33 B 1000 M l0 (0 : Int32) (0 : Int32) _ _ hf h0 _ _ _ hW (lv_sub hl [2, 1, 0] rfl)
      · have hf := z_if c6 hf
        refine lv_aload_n hx hb dX10_status_22 rfl (lv_at hl 0 rfl) ?_
        refine z_get_10_6 B hW h0 q263 dX10_status_23 ?_
        refine lv_iload_n hx hb dX10_status_26 rfl (lv_at hl 1 rfl) ?_
        obtain ⟨g7, hf⟩ := z_gd hf
        refine z_ia B hW (z_g10_6 hg h0) g7 dX10_status_27 ?_
        obtain ⟨e1, e2⟩ := z_s2 hf
        subst e1
        subst e2
        exact z_ri B hW dX10_status_28
    · have hf := z_if c5 hf
      refine lv_aload_n hx hb dX10_status_11 rfl (lv_at hl 0 rfl) ?_
      refine lv_ldc hx hb ho (hw _ q289) dX10_status_12 ?_
      obtain ⟨r8, M9, e10, hf⟩ := z_bpe hf
      refine z_cV (As := [.int (-1000000001 : Int32)]) (rest := []) B hW (f_X10_finding l e10 h0) sc_X10_finding sv_X10_72 h0 ⟨Nat.le_of_ble_eq_true rfl, Nat.le_of_ble_eq_true rfl⟩ ⟨Nat.zero_le _, Nat.zero_le _⟩ rfl hl.1 rfl (Nat.le_of_ble_eq_true rfl) dX10_status_14 (fun H locs hW => ?_)
      obtain ⟨e1, e2⟩ := z_s2 hf
      subst e1
      subst e2
      exact z_ri B hW dX10_status_17
set_option maxHeartbeats 4000000 in
set_option maxRecDepth 100000 in
theorem f_X11_isIn (l : Launch) {Γ : Zg} {M : Zm} {l0 : Int64} {l2 : Int64} {l4 : Int64}  : z_Fn l Γ yX11_isIn cX11_isIn 6 (some .boolean) 0 0 [.long l0, .long l2, .long l4] M (some (.int (X11_isIn l0 l2 l4))) M := by
  generalize hf : X11_isIn l0 l2 l4 = r
  refine z_Fn.of (by decide) (Nat.le_of_ble_eq_true rfl) ?_
  intro p e s m below meth c ls B hW hl
  have B : z_Bd Γ p s m _ meth c cX11_isIn 6 (some .boolean) RX11 := B
  have hl : lv_has ls 6 [(0, .long l0), (2, .long l2), (4, .long l4)] := hl
  rw [X11_isIn] at hf
  have hx := B.1
  have hb := B.2.1
  have hml := B.2.2.1
  have ho := B.2.2.2.1
  have hw := B.2.2.2.2.1
  have hE := B.2.2.2.2.2.1.2.2
  have hg := B.2.2.2.2.2.2.1
  refine lv_lload_n hx hb dX11_isIn_0 rfl (lv_at hl 0 rfl) ?_
  refine lv_lload_n hx hb dX11_isIn_1 rfl (lv_at hl 1 rfl) ?_
  refine W.lcmp hx hb dX11_isIn_2 ?_
  refine lv_if_lt (tgt := 17) hx hb dX11_isIn_3 (by decide) (fun c1 => ?_) (fun c1 => ?_)
  · have hf := z_it c1 hf
    refine lv_iconst (v := 0) hx hb dX11_isIn_17 (by decide) ?_
    subst hf
    exact z_rz B hW (Or.inl rfl) dX11_isIn_18
  · have hf := z_if c1 hf
    refine lv_lload_n hx hb dX11_isIn_6 rfl (lv_at hl 0 rfl) ?_
    refine lv_lload hx hb dX11_isIn_7 (lv_at hl 2 rfl) ?_
    refine W.lcmp hx hb dX11_isIn_9 ?_
    refine lv_if_gt (tgt := 17) hx hb dX11_isIn_10 (by decide) (fun c2 => ?_) (fun c2 => ?_)
    · have hf := z_it c2 hf
      refine lv_iconst (v := 0) hx hb dX11_isIn_17 (by decide) ?_
      subst hf
      exact z_rz B hW (Or.inl rfl) dX11_isIn_18
    · have hf := z_if c2 hf
      refine lv_iconst (v := 1) hx hb dX11_isIn_13 (by decide) ?_
      refine lv_goto (tgt := 18) hx hb dX11_isIn_14 (by decide) ?_
      subst hf
      exact z_rz B hW (Or.inr rfl) dX11_isIn_18
set_option maxHeartbeats 4000000 in
set_option maxRecDepth 100000 in
theorem f_X11_finds (l : Launch) {Γ : Zg} {M : Zm} {l0 : Nat} {l1 : Int32} {r : Int32} {M' : Zm} (hf : X11_finds Γ M l0 l1 = some (r, M')) (h0 : z_Is Γ 11 l0) : z_Fn l Γ yX11_finds cX11_finds 2 (some .int) 0 0 [.ref l0, .int l1] M (some (.int r)) M' := by
  refine z_Fn.of (by decide) (Nat.le_of_ble_eq_true rfl) ?_
  intro p e s m below meth c ls B hW hl
  have B : z_Bd Γ p s m _ meth c cX11_finds 2 (some .int) RX11 := B
  have hl : lv_has ls 2 [(0, .ref l0), (1, .int l1)] := hl
  rw [X11_finds] at hf
  have hx := B.1
  have hb := B.2.1
  have hml := B.2.2.1
  have ho := B.2.2.2.1
  have hw := B.2.2.2.2.1
  have hE := B.2.2.2.2.2.1.2.2
  have hg := B.2.2.2.2.2.2.1
  refine lv_aload_n hx hb dX11_finds_0 rfl (lv_at hl 0 rfl) ?_
  refine z_get_11_5 B hW h0 q860 dX11_finds_1 ?_
  refine lv_iconst (v := 0) hx hb dX11_finds_4 (by decide) ?_
  refine lv_dup2_11 hx hb dX11_finds_5 rfl rfl ?_
  refine z_ia B hW (z_g11_5 hg h0) (z_ixd (by decide)) dX11_finds_6 ?_
  refine lv_iconst (v := 1) hx hb dX11_finds_7 (by decide) ?_
  refine lv_iadd hx hb dX11_finds_8 ?_
  refine z_is B hW (z_g11_5 hg h0) (z_ixd (by decide)) dX11_finds_9 (fun H locs hW => ?_)
  obtain ⟨M1, e2, hf⟩ := z_le hf
  have hW := z_wde e2 hW
  refine lv_aload_n hx hb dX11_finds_10 rfl (lv_at hl 0 rfl) ?_
  refine z_get_11_5 B hW h0 q860 dX11_finds_11 ?_
  refine lv_ldc hx hb ho (hw _ q916) dX11_finds_14 ?_
  refine lv_iload_n hx hb dX11_finds_16 rfl (lv_at hl 1 rfl) ?_
  refine lv_isub hx hb dX11_finds_17 ?_
  refine lv_iconst (v := 1) hx hb dX11_finds_18 (by decide) ?_
  refine lv_iadd hx hb dX11_finds_19 ?_
  refine lv_dup2_11 hx hb dX11_finds_20 rfl rfl ?_
  obtain ⟨g3, hf⟩ := z_gd hf
  refine z_ia B hW (z_g11_5 hg h0) g3 dX11_finds_21 ?_
  refine lv_iconst (v := 1) hx hb dX11_finds_22 (by decide) ?_
  refine lv_iadd hx hb dX11_finds_23 ?_
  obtain ⟨g4, hf⟩ := z_gd hf
  refine z_is B hW (z_g11_5 hg h0) g4 dX11_finds_24 (fun H locs hW => ?_)
  obtain ⟨M5, e6, hf⟩ := z_le hf
  have hW := z_wde e6 hW
  refine lv_iload_n hx hb dX11_finds_25 rfl (lv_at hl 1 rfl) ?_
  obtain ⟨e1, e2⟩ := z_s2 hf
  subst e1
  subst e2
  exact z_ri B hW dX11_finds_26
set_option maxHeartbeats 4000000 in
set_option maxRecDepth 100000 in
theorem f_X11_becomes (l : Launch) {Γ : Zg} {M : Zm} {l0 : Nat} {l1 : Int32} {l2 : Int32} {r : Int32} {M' : Zm} (hf : X11_becomes Γ M l0 l1 l2 = some (r, M')) (h0 : z_Is Γ 11 l0) : z_Fn l Γ yX11_becomes cX11_becomes 4 (some .int) 0 0 [.ref l0, .int l1, .int l2] M (some (.int r)) M' := by
  refine z_Fn.of (by decide) (Nat.le_of_ble_eq_true rfl) ?_
  intro p e s m below meth c ls B hW hl
  have B : z_Bd Γ p s m _ meth c cX11_becomes 4 (some .int) RX11 := B
  have hl : lv_has ls 4 [(0, .ref l0), (1, .int l1), (2, .int l2)] := hl
  rw [X11_becomes] at hf
  have hx := B.1
  have hb := B.2.1
  have hml := B.2.2.1
  have ho := B.2.2.2.1
  have hw := B.2.2.2.2.1
  have hE := B.2.2.2.2.2.1.2.2
  have hg := B.2.2.2.2.2.2.1
  refine lv_aload_n hx hb dX11_becomes_0 rfl (lv_at hl 0 rfl) ?_
  refine z_get_11_0 B hW h0 q855 dX11_becomes_1 ?_
  refine lv_iload_n hx hb dX11_becomes_4 rfl (lv_at hl 1 rfl) ?_
  obtain ⟨g1, hf⟩ := z_gd hf
  refine z_ia B hW (z_g11_0 hg h0) g1 dX11_becomes_5 ?_
  refine lv_istore_n (lv' := [(3, .int (M.1 (z_r Γ l0 0) l1.toNatClampNeg)), (0, .ref l0), (1, .int l1), (2, .int l2)]) hx hb dX11_becomes_6 rfl hl (by decide) rfl (fun ls hl => ?_)
  refine lv_aload_n hx hb dX11_becomes_7 rfl (lv_at hl 1 rfl) ?_
  refine z_get_11_0 B hW h0 q855 dX11_becomes_8 ?_
  refine lv_iload_n hx hb dX11_becomes_11 rfl (lv_at hl 2 rfl) ?_
  refine lv_iload_n hx hb dX11_becomes_12 rfl (lv_at hl 3 rfl) ?_
  obtain ⟨g2, hf⟩ := z_gd hf
  refine z_is B hW (z_g11_0 hg h0) g2 dX11_becomes_13 (fun H locs hW => ?_)
  obtain ⟨M3, e4, hf⟩ := z_le hf
  have hW := z_wde e4 hW
  refine lv_iload_n hx hb dX11_becomes_14 rfl (lv_at hl 0 rfl) ?_
  obtain ⟨e1, e2⟩ := z_s2 hf
  subst e1
  subst e2
  exact z_ri B hW dX11_becomes_15
set_option maxHeartbeats 4000000 in
set_option maxRecDepth 100000 in
theorem w_X11_copyRow_P2 (B : z_Bd Γ p s m args meth c cX11_copyRow 3 none RX11) : ∀ (n : Nat) (M : Zm) (l0 : Nat) (l1 : Nat) (l2 : Int32) (M' : Zm), X11_copyRow_P2 n M l0 l1 l2 = some M' → z_Ia Γ 12 52 l0 → z_Ia Γ 12 52 l1 → ∀ (H : Heap) (locs : List Loc) (ls : Array Slot), z_Wd Γ M s.heap H locs → lv_has ls 3 [(0, .ref l0), (1, .ref l1), (2, .int l2)] → W p l e (z_rm 0 0) s m args below meth c H locs 0 0 (z_Q Γ below args s none M') (F0 m 2 ls []) := by
  have hx := B.1
  have hb := B.2.1
  have hml := B.2.2.1
  have ho := B.2.2.2.1
  have hw := B.2.2.2.2.1
  have hE := B.2.2.2.2.2.1.2.2
  have hg := B.2.2.2.2.2.2.1
  intro n
  induction n with
  | zero =>
    intro M l0 l1 l2 M' hf h0 h1 H locs ls hW hl
    cases hf
  | succ n ih =>
    intro M l0 l1 l2 M' hf h0 h1 H locs ls hW hl
    rw [X11_copyRow_P2] at hf
    refine lv_iload_n hx hb dX11_copyRow_2 rfl (lv_at hl 2 rfl) ?_
    refine lv_bipush (v := 52) hx hb dX11_copyRow_3 (by decide) ?_
    refine lv_icmp_ge (tgt := 20) hx hb dX11_copyRow_5 (by decide) (fun c1 => ?_) (fun c1 => ?_)
    · have hf := z_it c1 hf
      have hf := Option.some.inj hf
      subst hf
      exact z_rv B hW dX11_copyRow_20
    · have hf := z_if c1 hf
      refine lv_aload_n hx hb dX11_copyRow_8 rfl (lv_at hl 1 rfl) ?_
      refine lv_iload_n hx hb dX11_copyRow_9 rfl (lv_at hl 2 rfl) ?_
      refine lv_aload_n hx hb dX11_copyRow_10 rfl (lv_at hl 0 rfl) ?_
      refine lv_iload_n hx hb dX11_copyRow_11 rfl (lv_at hl 2 rfl) ?_
      obtain ⟨g2, hf⟩ := z_gd hf
      refine z_ia B hW h0 g2 dX11_copyRow_12 ?_
      obtain ⟨g3, hf⟩ := z_gd hf
      refine z_is B hW h1 g3 dX11_copyRow_13 (fun H locs hW => ?_)
      obtain ⟨M4, e5, hf⟩ := z_le hf
      have hW := z_wde e5 hW
      refine lv_iinc (v := l2 + (1 : Int32)) (lv' := [(2, .int (l2 + (1 : Int32))), (0, .ref l0), (1, .ref l1)]) hx hb dX11_copyRow_14 hl (k := 2) rfl rfl (by decide) rfl (fun ls hl => ?_)
      refine lv_goto (tgt := 2) hx hb dX11_copyRow_17 (by decide) ?_
      exact ih M4 l0 l1 (l2 + (1 : Int32)) _ hf h0 h1 _ _ _ hW (lv_sub hl [1, 2, 0] rfl)
set_option maxHeartbeats 4000000 in
set_option maxRecDepth 100000 in
theorem f_X11_copyRow (l : Launch) {Γ : Zg} {M : Zm} {l0 : Nat} {l1 : Nat} {M' : Zm} (hf : X11_copyRow M l0 l1 = some M') (h0 : z_Ia Γ 12 52 l0) (h1 : z_Ia Γ 12 52 l1) : z_Fn l Γ yX11_copyRow cX11_copyRow 3 none 0 0 [.ref l0, .ref l1] M none M' := by
  refine z_Fn.of (by decide) (Nat.le_of_ble_eq_true rfl) ?_
  intro p e s m below meth c ls B hW hl
  have B : z_Bd Γ p s m _ meth c cX11_copyRow 3 none RX11 := B
  have hl : lv_has ls 3 [(0, .ref l0), (1, .ref l1)] := hl
  rw [X11_copyRow] at hf
  have hx := B.1
  have hb := B.2.1
  have hml := B.2.2.1
  have ho := B.2.2.2.1
  have hw := B.2.2.2.2.1
  have hE := B.2.2.2.2.2.1.2.2
  have hg := B.2.2.2.2.2.2.1
  refine lv_iconst (v := 0) hx hb dX11_copyRow_0 (by decide) ?_
  refine lv_istore_n (lv' := [(2, .int (0 : Int32)), (0, .ref l0), (1, .ref l1)]) hx hb dX11_copyRow_1 rfl hl (by decide) rfl (fun ls hl => ?_)
  exact w_X11_copyRow_P2 B 1000 M l0 l1 (0 : Int32) _ hf h0 h1 _ _ _ hW (lv_sub hl [1, 2, 0] rfl)
set_option maxHeartbeats 4000000 in
set_option maxRecDepth 100000 in
theorem f_X11_isSecret (l : Launch) {Γ : Zg} {M : Zm} {l0 : Int32}  : z_Fn l Γ yX11_isSecret cX11_isSecret 1 (some .boolean) 0 0 [.int l0] M (some (.int (X11_isSecret l0))) M := by
  generalize hf : X11_isSecret l0 = r
  refine z_Fn.of (by decide) (Nat.le_of_ble_eq_true rfl) ?_
  intro p e s m below meth c ls B hW hl
  have B : z_Bd Γ p s m _ meth c cX11_isSecret 1 (some .boolean) RX11 := B
  have hl : lv_has ls 1 [(0, .int l0)] := hl
  rw [X11_isSecret] at hf
  have hx := B.1
  have hb := B.2.1
  have hml := B.2.2.1
  have ho := B.2.2.2.1
  have hw := B.2.2.2.2.1
  have hE := B.2.2.2.2.2.1.2.2
  have hg := B.2.2.2.2.2.2.1
  refine lv_iload_n hx hb dX11_isSecret_0 rfl (lv_at hl 0 rfl) ?_
  refine lv_if_lt (tgt := 14) hx hb dX11_isSecret_1 (by decide) (fun c1 => ?_) (fun c1 => ?_)
  · have hf := z_it c1 hf
    refine lv_iconst (v := 0) hx hb dX11_isSecret_14 (by decide) ?_
    subst hf
    exact z_rz B hW (Or.inl rfl) dX11_isSecret_15
  · have hf := z_if c1 hf
    refine lv_iload_n hx hb dX11_isSecret_4 rfl (lv_at hl 0 rfl) ?_
    refine lv_bipush (v := 10) hx hb dX11_isSecret_5 (by decide) ?_
    refine lv_icmp_ge (tgt := 14) hx hb dX11_isSecret_7 (by decide) (fun c2 => ?_) (fun c2 => ?_)
    · have hf := z_it c2 hf
      refine lv_iconst (v := 0) hx hb dX11_isSecret_14 (by decide) ?_
      subst hf
      exact z_rz B hW (Or.inl rfl) dX11_isSecret_15
    · have hf := z_if c2 hf
      refine lv_iconst (v := 1) hx hb dX11_isSecret_10 (by decide) ?_
      refine lv_goto (tgt := 15) hx hb dX11_isSecret_11 (by decide) ?_
      subst hf
      exact z_rz B hW (Or.inr rfl) dX11_isSecret_15
set_option maxHeartbeats 4000000 in
set_option maxRecDepth 100000 in
theorem f_X11_isOne (l : Launch) {Γ : Zg} {M : Zm} {l0 : Nat} {l1 : Int32} (h0 : z_Is Γ 11 l0) : z_Fn l Γ yX11_isOne cX11_isOne 2 (some .boolean) 0 0 [.ref l0, .int l1] M (some (.int (X11_isOne Γ M l0 l1))) M := by
  generalize hf : X11_isOne Γ M l0 l1 = r
  refine z_Fn.of (by decide) (Nat.le_of_ble_eq_true rfl) ?_
  intro p e s m below meth c ls B hW hl
  have B : z_Bd Γ p s m _ meth c cX11_isOne 2 (some .boolean) RX11 := B
  have hl : lv_has ls 2 [(0, .ref l0), (1, .int l1)] := hl
  rw [X11_isOne] at hf
  have hx := B.1
  have hb := B.2.1
  have hml := B.2.2.1
  have ho := B.2.2.2.1
  have hw := B.2.2.2.2.1
  have hE := B.2.2.2.2.2.1.2.2
  have hg := B.2.2.2.2.2.2.1
  refine lv_iload_n hx hb dX11_isOne_0 rfl (lv_at hl 1 rfl) ?_
  refine lv_if_lt (tgt := 18) hx hb dX11_isOne_1 (by decide) (fun c1 => ?_) (fun c1 => ?_)
  · have hf := z_it c1 hf
    refine lv_iconst (v := 0) hx hb dX11_isOne_18 (by decide) ?_
    subst hf
    exact z_rz B hW (Or.inl rfl) dX11_isOne_19
  · have hf := z_if c1 hf
    refine lv_iload_n hx hb dX11_isOne_4 rfl (lv_at hl 1 rfl) ?_
    refine lv_aload_n hx hb dX11_isOne_5 rfl (lv_at hl 0 rfl) ?_
    refine z_get_11_0 B hW h0 q855 dX11_isOne_6 ?_
    refine lv_iconst (v := 0) hx hb dX11_isOne_9 (by decide) ?_
    refine z_ia B hW (z_g11_0 hg h0) (z_ixd (by decide)) dX11_isOne_10 ?_
    refine lv_icmp_ge (tgt := 18) hx hb dX11_isOne_11 (by decide) (fun c2 => ?_) (fun c2 => ?_)
    · have hf := z_it c2 hf
      refine lv_iconst (v := 0) hx hb dX11_isOne_18 (by decide) ?_
      subst hf
      exact z_rz B hW (Or.inl rfl) dX11_isOne_19
    · have hf := z_if c2 hf
      refine lv_iconst (v := 1) hx hb dX11_isOne_14 (by decide) ?_
      refine lv_goto (tgt := 19) hx hb dX11_isOne_15 (by decide) ?_
      subst hf
      exact z_rz B hW (Or.inr rfl) dX11_isOne_19
set_option maxHeartbeats 4000000 in
set_option maxRecDepth 100000 in
theorem f_X11_at (l : Launch) {Γ : Zg} {M : Zm} {l0 : Int32} {l1 : Int32}  : z_Fn l Γ yX11_at cX11_at 2 (some .int) 0 0 [.int l0, .int l1] M (some (.int (X11_at l0 l1))) M := by
  generalize hf : X11_at l0 l1 = r
  refine z_Fn.of (by decide) (Nat.le_of_ble_eq_true rfl) ?_
  intro p e s m below meth c ls B hW hl
  have B : z_Bd Γ p s m _ meth c cX11_at 2 (some .int) RX11 := B
  have hl : lv_has ls 2 [(0, .int l0), (1, .int l1)] := hl
  rw [X11_at] at hf
  have hx := B.1
  have hb := B.2.1
  have hml := B.2.2.1
  have ho := B.2.2.2.1
  have hw := B.2.2.2.2.1
  have hE := B.2.2.2.2.2.1.2.2
  have hg := B.2.2.2.2.2.2.1
  refine lv_iconst (v := 4) hx hb dX11_at_0 (by decide) ?_
  refine lv_bipush (v := 6) hx hb dX11_at_1 (by decide) ?_
  refine lv_iload_n hx hb dX11_at_3 rfl (lv_at hl 0 rfl) ?_
  refine lv_imul hx hb dX11_at_4 ?_
  refine lv_iadd hx hb dX11_at_5 ?_
  refine lv_iload_n hx hb dX11_at_6 rfl (lv_at hl 1 rfl) ?_
  refine lv_iadd hx hb dX11_at_7 ?_
  subst hf
  exact z_ri B hW dX11_at_8
set_option maxHeartbeats 4000000 in
set_option maxRecDepth 100000 in
theorem f_X11_its (l : Launch) {Γ : Zg} {M : Zm} {l0 : Nat} {l1 : Int32} {l2 : Int32} {r : Int32} (hf : X11_its Γ M l0 l1 l2 = some r) (h0 : z_Is Γ 11 l0) : z_Fn l Γ yX11_its cX11_its 3 (some .int) 0 0 [.ref l0, .int l1, .int l2] M (some (.int r)) M := by
  refine z_Fn.of (by decide) (Nat.le_of_ble_eq_true rfl) ?_
  intro p e s m below meth c ls B hW hl
  have B : z_Bd Γ p s m _ meth c cX11_its 3 (some .int) RX11 := B
  have hl : lv_has ls 3 [(0, .ref l0), (1, .int l1), (2, .int l2)] := hl
  rw [X11_its] at hf
  have hx := B.1
  have hb := B.2.1
  have hml := B.2.2.1
  have ho := B.2.2.2.1
  have hw := B.2.2.2.2.1
  have hE := B.2.2.2.2.2.1.2.2
  have hg := B.2.2.2.2.2.2.1
  refine lv_aload_n hx hb dX11_its_0 rfl (lv_at hl 0 rfl) ?_
  refine z_get_11_0 B hW h0 q855 dX11_its_1 ?_
  refine lv_iconst (v := 4) hx hb dX11_its_4 (by decide) ?_
  refine lv_bipush (v := 6) hx hb dX11_its_5 (by decide) ?_
  refine lv_iload_n hx hb dX11_its_7 rfl (lv_at hl 1 rfl) ?_
  refine lv_imul hx hb dX11_its_8 ?_
  refine lv_iadd hx hb dX11_its_9 ?_
  refine lv_iload_n hx hb dX11_its_10 rfl (lv_at hl 2 rfl) ?_
  refine lv_iadd hx hb dX11_its_11 ?_
  obtain ⟨g1, hf⟩ := z_gd hf
  refine z_ia B hW (z_g11_0 hg h0) g1 dX11_its_12 ?_
  have hf := Option.some.inj hf
  subst hf
  exact z_ri B hW dX11_its_13
set_option maxHeartbeats 4000000 in
set_option maxRecDepth 100000 in
theorem w_X11_many_P4 (B : z_Bd Γ p s m args meth c cX11_many 3 (some .int) RX11) : ∀ (n : Nat) (M : Zm) (l1 : Int32) (l2 : Int32) (r : Int32), X11_many_P4 n l1 l2 = some r → ∀ (H : Heap) (locs : List Loc) (ls : Array Slot), z_Wd Γ M s.heap H locs → lv_has ls 3 [(1, .int l1), (2, .int l2)] → W p l e (z_rm 0 0) s m args below meth c H locs 0 0 (z_Q Γ below args s (some (.int r)) M) (F0 m 4 ls []) := by
  have hx := B.1
  have hb := B.2.1
  have hml := B.2.2.1
  have ho := B.2.2.2.1
  have hw := B.2.2.2.2.1
  have hE := B.2.2.2.2.2.1.2.2
  have hg := B.2.2.2.2.2.2.1
  intro n
  induction n with
  | zero =>
    intro M l1 l2 r hf  H locs ls hW hl
    cases hf
  | succ n ih =>
    intro M l1 l2 r hf  H locs ls hW hl
    rw [X11_many_P4] at hf
    refine lv_iload_n hx hb dX11_many_4 rfl (lv_at hl 1 rfl) ?_
    refine lv_if_eq (tgt := 20) hx hb dX11_many_5 (by decide) (fun c1 => ?_) (fun c1 => ?_)
    · have hf := z_it c1 hf
      refine lv_iload_n hx hb dX11_many_20 rfl (lv_at hl 0 rfl) ?_
      have hf := Option.some.inj hf
      subst hf
      exact z_ri B hW dX11_many_21
    · have hf := z_if c1 hf
      refine lv_iinc (v := l1 + (1 : Int32)) (lv' := [(1, .int (l1 + (1 : Int32))), (2, .int l2)]) hx hb dX11_many_8 hl (k := 0) rfl rfl (by decide) rfl (fun ls hl => ?_)
      refine lv_iload_n hx hb dX11_many_11 rfl (lv_at hl 1 rfl) ?_
      refine lv_iload_n hx hb dX11_many_12 rfl (lv_at hl 1 rfl) ?_
      refine lv_iconst (v := 1) hx hb dX11_many_13 (by decide) ?_
      refine lv_isub hx hb dX11_many_14 ?_
      refine lv_iand hx hb dX11_many_15 ?_
      refine lv_istore_n (lv' := [(2, .int (l2 &&& (l2 - (1 : Int32)))), (1, .int (l1 + (1 : Int32)))]) hx hb dX11_many_16 rfl hl (by decide) rfl (fun ls hl => ?_)
      refine lv_goto (tgt := 4) hx hb dX11_many_17 (by decide) ?_
      exact ih M (l1 + (1 : Int32)) (l2 &&& (l2 - (1 : Int32))) _ hf  _ _ _ hW (lv_sub hl [1, 0] rfl)
set_option maxHeartbeats 4000000 in
set_option maxRecDepth 100000 in
theorem f_X11_many (l : Launch) {Γ : Zg} {M : Zm} {l0 : Int32} {r : Int32} (hf : X11_many l0 = some r)  : z_Fn l Γ yX11_many cX11_many 3 (some .int) 0 0 [.int l0] M (some (.int r)) M := by
  refine z_Fn.of (by decide) (Nat.le_of_ble_eq_true rfl) ?_
  intro p e s m below meth c ls B hW hl
  have B : z_Bd Γ p s m _ meth c cX11_many 3 (some .int) RX11 := B
  have hl : lv_has ls 3 [(0, .int l0)] := hl
  rw [X11_many] at hf
  have hx := B.1
  have hb := B.2.1
  have hml := B.2.2.1
  have ho := B.2.2.2.1
  have hw := B.2.2.2.2.1
  have hE := B.2.2.2.2.2.1.2.2
  have hg := B.2.2.2.2.2.2.1
  refine lv_iconst (v := 0) hx hb dX11_many_0 (by decide) ?_
  refine lv_istore_n (lv' := [(1, .int (0 : Int32)), (0, .int l0)]) hx hb dX11_many_1 rfl hl (by decide) rfl (fun ls hl => ?_)
  refine lv_iload_n hx hb dX11_many_2 rfl (lv_at hl 1 rfl) ?_
  refine lv_istore_n (lv' := [(2, .int l0), (1, .int (0 : Int32)), (0, .int l0)]) hx hb dX11_many_3 rfl hl (by decide) rfl (fun ls hl => ?_)
  exact w_X11_many_P4 B 1000 M (0 : Int32) l0 _ hf  _ _ _ hW (lv_sub hl [1, 0] rfl)
set_option maxHeartbeats 4000000 in
set_option maxRecDepth 100000 in
theorem f_X11_orNone (l : Launch) {Γ : Zg} {M : Zm} {l0 : Nat} {l1 : Int32} {r : Int32} {M' : Zm} (hf : X11_orNone Γ M l0 l1 = some (r, M')) (h0 : z_Is Γ 11 l0) : z_Fn l Γ yX11_orNone cX11_orNone 2 (some .int) 1 21 [.ref l0, .int l1] M (some (.int r)) M' := by
  refine z_Fn.of (by decide) (Nat.le_of_ble_eq_true rfl) ?_
  intro p e s m below meth c ls B hW hl
  have B : z_Bd Γ p s m _ meth c cX11_orNone 2 (some .int) RX11 := B
  have hl : lv_has ls 2 [(0, .ref l0), (1, .int l1)] := hl
  rw [X11_orNone] at hf
  have hx := B.1
  have hb := B.2.1
  have hml := B.2.2.1
  have ho := B.2.2.2.1
  have hw := B.2.2.2.2.1
  have hE := B.2.2.2.2.2.1.2.2
  have hg := B.2.2.2.2.2.2.1
  refine lv_iload_n hx hb dX11_orNone_0 rfl (lv_at hl 1 rfl) ?_
  refine lv_if_ge (tgt := 13) hx hb dX11_orNone_1 (by decide) (fun c1 => ?_) (fun c1 => ?_)
  · have hf := z_it c1 hf
    refine lv_iload_n hx hb dX11_orNone_13 rfl (lv_at hl 1 rfl) ?_
    obtain ⟨e1, e2⟩ := z_s2 hf
    subst e1
    subst e2
    exact z_ri B hW dX11_orNone_14
  · have hf := z_if c1 hf
    refine lv_aload_n hx hb dX11_orNone_4 rfl (lv_at hl 0 rfl) ?_
    refine lv_ldc hx hb ho (hw _ q1073) dX11_orNone_5 ?_
    obtain ⟨r2, M3, e4, hf⟩ := z_bpe hf
    refine z_cV (As := [.int (-1000000004 : Int32)]) (rest := []) B hW (f_X11_finds l e4 h0) sc_X11_finds sv_X11_40 h0 ⟨Nat.le_of_ble_eq_true rfl, Nat.le_of_ble_eq_true rfl⟩ ⟨Nat.zero_le _, Nat.zero_le _⟩ rfl hl.1 rfl (Nat.le_of_ble_eq_true rfl) dX11_orNone_7 (fun H locs hW => ?_)
    refine lv_goto (tgt := 14) hx hb dX11_orNone_10 (by decide) ?_
    obtain ⟨e1, e2⟩ := z_s2 hf
    subst e1
    subst e2
    exact z_ri B hW dX11_orNone_14
set_option maxHeartbeats 4000000 in
set_option maxRecDepth 100000 in
theorem w_X11_first_P2 (B : z_Bd Γ p s m args meth c cX11_first 2 (some .int) RX11) : ∀ (n : Nat) (M : Zm) (l0 : Int32) (l1 : Int32) (r : Int32), X11_first_P2 n l0 l1 = some r → ∀ (H : Heap) (locs : List Loc) (ls : Array Slot), z_Wd Γ M s.heap H locs → lv_has ls 2 [(0, .int l0), (1, .int l1)] → W p l e (z_rm 0 0) s m args below meth c H locs 0 0 (z_Q Γ below args s (some (.int r)) M) (F0 m 2 ls []) := by
  have hx := B.1
  have hb := B.2.1
  have hml := B.2.2.1
  have ho := B.2.2.2.1
  have hw := B.2.2.2.2.1
  have hE := B.2.2.2.2.2.1.2.2
  have hg := B.2.2.2.2.2.2.1
  intro n
  induction n with
  | zero =>
    intro M l0 l1 r hf  H locs ls hW hl
    cases hf
  | succ n ih =>
    intro M l0 l1 r hf  H locs ls hW hl
    rw [X11_first_P2] at hf
    refine lv_iload_n hx hb dX11_first_2 rfl (lv_at hl 1 rfl) ?_
    refine lv_bipush (v := 10) hx hb dX11_first_3 (by decide) ?_
    refine lv_icmp_ge (tgt := 22) hx hb dX11_first_5 (by decide) (fun c1 => ?_) (fun c1 => ?_)
    · have hf := z_it c1 hf
      refine lv_iload_n hx hb dX11_first_22 rfl (lv_at hl 1 rfl) ?_
      refine lv_bipush (v := 10) hx hb dX11_first_23 (by decide) ?_
      refine lv_icmp_ge (tgt := 32) hx hb dX11_first_25 (by decide) (fun c2 => ?_) (fun c2 => ?_)
      · have hf := z_it c2 hf
        refine lv_iconst (v := -1) hx hb dX11_first_32 (by decide) ?_
        have hf := Option.some.inj hf
        subst hf
        exact z_ri B hW dX11_first_33
      · have hf := z_if c2 hf
        refine lv_iload_n hx hb dX11_first_28 rfl (lv_at hl 1 rfl) ?_
        refine lv_goto (tgt := 33) hx hb dX11_first_29 (by decide) ?_
        have hf := Option.some.inj hf
        subst hf
        exact z_ri B hW dX11_first_33
    · have hf := z_if c1 hf
      refine lv_iload_n hx hb dX11_first_8 rfl (lv_at hl 0 rfl) ?_
      refine lv_iload_n hx hb dX11_first_9 rfl (lv_at hl 1 rfl) ?_
      refine lv_ishr hx hb dX11_first_10 ?_
      refine lv_iconst (v := 1) hx hb dX11_first_11 (by decide) ?_
      refine lv_iand hx hb dX11_first_12 ?_
      refine lv_if_ne (tgt := 22) hx hb dX11_first_13 (by decide) (fun c3 => ?_) (fun c3 => ?_)
      · have hf := z_if c3 hf
        refine lv_iload_n hx hb dX11_first_22 rfl (lv_at hl 1 rfl) ?_
        refine lv_bipush (v := 10) hx hb dX11_first_23 (by decide) ?_
        refine lv_icmp_ge (tgt := 32) hx hb dX11_first_25 (by decide) (fun c4 => ?_) (fun c4 => ?_)
        · have hf := z_it c4 hf
          refine lv_iconst (v := -1) hx hb dX11_first_32 (by decide) ?_
          have hf := Option.some.inj hf
          subst hf
          exact z_ri B hW dX11_first_33
        · have hf := z_if c4 hf
          refine lv_iload_n hx hb dX11_first_28 rfl (lv_at hl 1 rfl) ?_
          refine lv_goto (tgt := 33) hx hb dX11_first_29 (by decide) ?_
          have hf := Option.some.inj hf
          subst hf
          exact z_ri B hW dX11_first_33
      · have hf := z_it c3 hf
        refine lv_iinc (v := l1 + (1 : Int32)) (lv' := [(1, .int (l1 + (1 : Int32))), (0, .int l0)]) hx hb dX11_first_16 hl (k := 1) rfl rfl (by decide) rfl (fun ls hl => ?_)
        refine lv_goto (tgt := 2) hx hb dX11_first_19 (by decide) ?_
        exact ih M l0 (l1 + (1 : Int32)) _ hf  _ _ _ hW (lv_sub hl [1, 0] rfl)
set_option maxHeartbeats 4000000 in
set_option maxRecDepth 100000 in
theorem f_X11_first (l : Launch) {Γ : Zg} {M : Zm} {l0 : Int32} {r : Int32} (hf : X11_first l0 = some r)  : z_Fn l Γ yX11_first cX11_first 2 (some .int) 0 0 [.int l0] M (some (.int r)) M := by
  refine z_Fn.of (by decide) (Nat.le_of_ble_eq_true rfl) ?_
  intro p e s m below meth c ls B hW hl
  have B : z_Bd Γ p s m _ meth c cX11_first 2 (some .int) RX11 := B
  have hl : lv_has ls 2 [(0, .int l0)] := hl
  rw [X11_first] at hf
  have hx := B.1
  have hb := B.2.1
  have hml := B.2.2.1
  have ho := B.2.2.2.1
  have hw := B.2.2.2.2.1
  have hE := B.2.2.2.2.2.1.2.2
  have hg := B.2.2.2.2.2.2.1
  refine lv_iconst (v := 0) hx hb dX11_first_0 (by decide) ?_
  refine lv_istore_n (lv' := [(1, .int (0 : Int32)), (0, .int l0)]) hx hb dX11_first_1 rfl hl (by decide) rfl (fun ls hl => ?_)
  exact w_X11_first_P2 B 1000 M l0 (0 : Int32) _ hf  _ _ _ hW (lv_sub hl [1, 0] rfl)
set_option maxHeartbeats 4000000 in
set_option maxRecDepth 100000 in
theorem w_X11_last_P3 (B : z_Bd Γ p s m args meth c cX11_last 2 (some .int) RX11) : ∀ (n : Nat) (M : Zm) (l0 : Int32) (l1 : Int32) (r : Int32), X11_last_P3 n l0 l1 = some r → ∀ (H : Heap) (locs : List Loc) (ls : Array Slot), z_Wd Γ M s.heap H locs → lv_has ls 2 [(0, .int l0), (1, .int l1)] → W p l e (z_rm 0 0) s m args below meth c H locs 0 0 (z_Q Γ below args s (some (.int r)) M) (F0 m 3 ls []) := by
  have hx := B.1
  have hb := B.2.1
  have hml := B.2.2.1
  have ho := B.2.2.2.1
  have hw := B.2.2.2.2.1
  have hE := B.2.2.2.2.2.1.2.2
  have hg := B.2.2.2.2.2.2.1
  intro n
  induction n with
  | zero =>
    intro M l0 l1 r hf  H locs ls hW hl
    cases hf
  | succ n ih =>
    intro M l0 l1 r hf  H locs ls hW hl
    rw [X11_last_P3] at hf
    refine lv_iload_n hx hb dX11_last_3 rfl (lv_at hl 1 rfl) ?_
    refine lv_if_lt (tgt := 21) hx hb dX11_last_4 (by decide) (fun c1 => ?_) (fun c1 => ?_)
    · have hf := z_it c1 hf
      refine lv_iload_n hx hb dX11_last_21 rfl (lv_at hl 1 rfl) ?_
      have hf := Option.some.inj hf
      subst hf
      exact z_ri B hW dX11_last_22
    · have hf := z_if c1 hf
      refine lv_iload_n hx hb dX11_last_7 rfl (lv_at hl 0 rfl) ?_
      refine lv_iload_n hx hb dX11_last_8 rfl (lv_at hl 1 rfl) ?_
      refine lv_ishr hx hb dX11_last_9 ?_
      refine lv_iconst (v := 1) hx hb dX11_last_10 (by decide) ?_
      refine lv_iand hx hb dX11_last_11 ?_
      refine lv_if_ne (tgt := 21) hx hb dX11_last_12 (by decide) (fun c2 => ?_) (fun c2 => ?_)
      · have hf := z_if c2 hf
        refine lv_iload_n hx hb dX11_last_21 rfl (lv_at hl 1 rfl) ?_
        have hf := Option.some.inj hf
        subst hf
        exact z_ri B hW dX11_last_22
      · have hf := z_it c2 hf
        refine lv_iinc (v := l1 + (-1 : Int32)) (lv' := [(1, .int (l1 + (-1 : Int32))), (0, .int l0)]) hx hb dX11_last_15 hl (k := 1) rfl rfl (by decide) rfl (fun ls hl => ?_)
        refine lv_goto (tgt := 3) hx hb dX11_last_18 (by decide) ?_
        exact ih M l0 (l1 + (-1 : Int32)) _ hf  _ _ _ hW (lv_sub hl [1, 0] rfl)
set_option maxHeartbeats 4000000 in
set_option maxRecDepth 100000 in
theorem f_X11_last (l : Launch) {Γ : Zg} {M : Zm} {l0 : Int32} {r : Int32} (hf : X11_last l0 = some r)  : z_Fn l Γ yX11_last cX11_last 2 (some .int) 0 0 [.int l0] M (some (.int r)) M := by
  refine z_Fn.of (by decide) (Nat.le_of_ble_eq_true rfl) ?_
  intro p e s m below meth c ls B hW hl
  have B : z_Bd Γ p s m _ meth c cX11_last 2 (some .int) RX11 := B
  have hl : lv_has ls 2 [(0, .int l0)] := hl
  rw [X11_last] at hf
  have hx := B.1
  have hb := B.2.1
  have hml := B.2.2.1
  have ho := B.2.2.2.1
  have hw := B.2.2.2.2.1
  have hE := B.2.2.2.2.2.1.2.2
  have hg := B.2.2.2.2.2.2.1
  refine lv_bipush (v := 9) hx hb dX11_last_0 (by decide) ?_
  refine lv_istore_n (lv' := [(1, .int (9 : Int32)), (0, .int l0)]) hx hb dX11_last_2 rfl hl (by decide) rfl (fun ls hl => ?_)
  exact w_X11_last_P3 B 1000 M l0 (9 : Int32) _ hf  _ _ _ hW (lv_sub hl [1, 0] rfl)
set_option maxHeartbeats 4000000 in
set_option maxRecDepth 100000 in
theorem f_X11_sham (l : Launch) {Γ : Zg} {M : Zm} {l0 : Nat} {l1 : Int32} {r : Int32} {M' : Zm} (hf : X11_sham Γ M l0 l1 = some (r, M')) (h0 : z_Is Γ 11 l0) : z_Fn l Γ yX11_sham cX11_sham 2 (some .int) 1 25 [.ref l0, .int l1] M (some (.int r)) M' := by
  refine z_Fn.of (by decide) (Nat.le_of_ble_eq_true rfl) ?_
  intro p e s m below meth c ls B hW hl
  have B : z_Bd Γ p s m _ meth c cX11_sham 2 (some .int) RX11 := B
  have hl : lv_has ls 2 [(0, .ref l0), (1, .int l1)] := hl
  rw [X11_sham] at hf
  have hx := B.1
  have hb := B.2.1
  have hml := B.2.2.1
  have ho := B.2.2.2.1
  have hw := B.2.2.2.2.1
  have hE := B.2.2.2.2.2.1.2.2
  have hg := B.2.2.2.2.2.2.1
  refine lv_iload_n hx hb dX11_sham_0 rfl (lv_at hl 1 rfl) ?_
  refine lv_i2l hx hb dX11_sham_1 rfl ?_
  refine lv_lconst (v := 0) hx hb dX11_sham_2 (by decide) ?_
  refine lv_ldc2 hx hb ho (hw _ q908) dX11_sham_3 ?_
  refine z_cS (As := [.long l1.toInt64, .long (0 : Int64), .long (1023 : Int64)]) (rest := []) B hW (f_X11_isIn l) sc_X11_isIn ⟨q909, q910⟩ ⟨Nat.le_of_ble_eq_true rfl, Nat.le_of_ble_eq_true rfl⟩ ⟨Nat.zero_le _, Nat.zero_le _⟩ rfl hl.1 rfl (Nat.le_of_ble_eq_true rfl) dX11_sham_6 (fun H locs hW => ?_)
  refine lv_if_eq (tgt := 21) hx hb dX11_sham_9 (by decide) (fun c3 => ?_) (fun c3 => ?_)
  · have hf := z_it c3 hf
    refine lv_aload_n hx hb dX11_sham_21 rfl (lv_at hl 0 rfl) ?_
    refine lv_ldc hx hb ho (hw _ q916) dX11_sham_22 ?_
    obtain ⟨r4, M5, e6, hf⟩ := z_bpe hf
    refine z_cV (As := [.int (-1000000001 : Int32)]) (rest := []) B hW (f_X11_finds l e6 h0) sc_X11_finds sv_X11_40 h0 ⟨Nat.le_of_ble_eq_true rfl, Nat.le_of_ble_eq_true rfl⟩ ⟨Nat.zero_le _, Nat.zero_le _⟩ rfl hl.1 rfl (Nat.le_of_ble_eq_true rfl) dX11_sham_24 (fun H locs hW => ?_)
    obtain ⟨e1, e2⟩ := z_s2 hf
    subst e1
    subst e2
    exact z_ri B hW dX11_sham_27
  · have hf := z_if c3 hf
    refine lv_aload_n hx hb dX11_sham_12 rfl (lv_at hl 0 rfl) ?_
    refine lv_iconst (v := 2) hx hb dX11_sham_13 (by decide) ?_
    refine lv_iload_n hx hb dX11_sham_14 rfl (lv_at hl 1 rfl) ?_
    obtain ⟨r7, M8, e9, hf⟩ := z_bpe hf
    refine z_cV (As := [.int (2 : Int32), .int l1]) (rest := []) B hW (f_X11_becomes l e9 h0) sc_X11_becomes sv_X11_50 h0 ⟨Nat.le_of_ble_eq_true rfl, Nat.le_of_ble_eq_true rfl⟩ ⟨Nat.zero_le _, Nat.zero_le _⟩ rfl hl.1 rfl (Nat.le_of_ble_eq_true rfl) dX11_sham_15 (fun H locs hW => ?_)
    refine lv_goto (tgt := 27) hx hb dX11_sham_18 (by decide) ?_
    obtain ⟨e1, e2⟩ := z_s2 hf
    subst e1
    subst e2
    exact z_ri B hW dX11_sham_27
set_option maxHeartbeats 4000000 in
set_option maxRecDepth 100000 in
theorem w_X11_who_P29 (B : z_Bd Γ p s m args meth c cX11_who 5 (some .int) RX11) : ∀ (n : Nat) (M : Zm) (l0 : Nat) (l1 : Int32) (l2 : Int32) (l3 : Int32) (l4 : Int32) (r : Int32) (M' : Zm), X11_who_P29 Γ n M l0 l1 l2 l3 l4 = some (r, M') → z_Is Γ 11 l0 → ∀ (H : Heap) (locs : List Loc) (ls : Array Slot), z_Wd Γ M s.heap H locs → lv_has ls 5 [(0, .ref l0), (1, .int l1), (2, .int l2), (3, .int l3), (4, .int l4)] → W p l e (z_rm 1 25) s m args below meth c H locs 0 0 (z_Q Γ below args s (some (.int r)) M') (F0 m 29 ls []) := by
  have hx := B.1
  have hb := B.2.1
  have hml := B.2.2.1
  have ho := B.2.2.2.1
  have hw := B.2.2.2.2.1
  have hE := B.2.2.2.2.2.1.2.2
  have hg := B.2.2.2.2.2.2.1
  intro n
  induction n with
  | zero =>
    intro M l0 l1 l2 l3 l4 r M' hf h0 H locs ls hW hl
    cases hf
  | succ n ih =>
    intro M l0 l1 l2 l3 l4 r M' hf h0 H locs ls hW hl
    rw [X11_who_P29] at hf
    refine lv_iload hx hb dX11_who_29 (lv_at hl 4 rfl) ?_
    refine lv_aload_n hx hb dX11_who_31 rfl (lv_at hl 0 rfl) ?_
    refine z_get_11_0 B hW h0 q855 dX11_who_32 ?_
    refine lv_iconst (v := 0) hx hb dX11_who_35 (by decide) ?_
    refine z_ia B hW (z_g11_0 hg h0) (z_ixd (by decide)) dX11_who_36 ?_
    refine lv_icmp_ge (tgt := 71) hx hb dX11_who_37 (by decide) (fun c13 => ?_) (fun c13 => ?_)
    · have hf := z_it c13 hf
      refine lv_iload_n hx hb dX11_who_71 rfl (lv_at hl 3 rfl) ?_
      obtain ⟨e1, e2⟩ := z_s2 hf
      subst e1
      subst e2
      exact z_ri B hW dX11_who_72
    · have hf := z_if c13 hf
      refine lv_iload_n hx hb dX11_who_40 rfl (lv_at hl 3 rfl) ?_
      refine lv_aload_n hx hb dX11_who_41 rfl (lv_at hl 0 rfl) ?_
      refine lv_iload hx hb dX11_who_42 (lv_at hl 4 rfl) ?_
      refine lv_iload_n hx hb dX11_who_44 rfl (lv_at hl 2 rfl) ?_
      refine lv_if_ne (tgt := 52) hx hb dX11_who_45 (by decide) (fun c14 => ?_) (fun c14 => ?_)
      · have hf := z_if c14 hf
        refine lv_iconst (v := 2) hx hb dX11_who_52 (by decide) ?_
        obtain ⟨r15, e16, hf⟩ := z_bd hf
        refine z_cV (As := [.int l4, .int (2 : Int32)]) (rest := [.int l3]) B hW (f_X11_its l e16 h0) sc_X11_its sv_X11_58 h0 ⟨Nat.le_of_ble_eq_true rfl, Nat.le_of_ble_eq_true rfl⟩ ⟨Nat.zero_le _, Nat.zero_le _⟩ rfl hl.1 rfl (Nat.le_of_ble_eq_true rfl) dX11_who_53 (fun H locs hW => ?_)
        refine lv_iload_n hx hb dX11_who_56 rfl (lv_at hl 1 rfl) ?_
        refine lv_ishr hx hb dX11_who_57 ?_
        refine lv_iconst (v := 1) hx hb dX11_who_58 (by decide) ?_
        refine lv_iand hx hb dX11_who_59 ?_
        refine lv_iload hx hb dX11_who_60 (lv_at hl 4 rfl) ?_
        refine lv_ishl hx hb dX11_who_62 ?_
        refine lv_ior hx hb dX11_who_63 ?_
        refine lv_istore_n (lv' := [(3, .int (l3 ||| (((r15 >>> (l1 &&& 31)) &&& (1 : Int32)) <<< (l4 &&& 31)))), (0, .ref l0), (1, .int l1), (2, .int l2), (4, .int l4)]) hx hb dX11_who_64 rfl hl (by decide) rfl (fun ls hl => ?_)
        refine lv_iinc (v := l4 + (1 : Int32)) (lv' := [(4, .int (l4 + (1 : Int32))), (3, .int (l3 ||| (((r15 >>> (l1 &&& 31)) &&& (1 : Int32)) <<< (l4 &&& 31)))), (0, .ref l0), (1, .int l1), (2, .int l2)]) hx hb dX11_who_65 hl (k := 4) rfl rfl (by decide) rfl (fun ls hl => ?_)
        refine lv_goto (tgt := 29) hx hb dX11_who_68 (by decide) ?_
        exact ih M l0 l1 l2 (l3 ||| (((r15 >>> (l1 &&& 31)) &&& (1 : Int32)) <<< (l4 &&& 31))) (l4 + (1 : Int32)) _ _ hf h0 _ _ _ hW (lv_sub hl [2, 3, 4, 1, 0] rfl)
      · have hf := z_it c14 hf
        refine lv_iconst (v := 1) hx hb dX11_who_48 (by decide) ?_
        refine lv_goto (tgt := 53) hx hb dX11_who_49 (by decide) ?_
        obtain ⟨r17, e18, hf⟩ := z_bd hf
        refine z_cV (As := [.int l4, .int (1 : Int32)]) (rest := [.int l3]) B hW (f_X11_its l e18 h0) sc_X11_its sv_X11_58 h0 ⟨Nat.le_of_ble_eq_true rfl, Nat.le_of_ble_eq_true rfl⟩ ⟨Nat.zero_le _, Nat.zero_le _⟩ rfl hl.1 rfl (Nat.le_of_ble_eq_true rfl) dX11_who_53 (fun H locs hW => ?_)
        refine lv_iload_n hx hb dX11_who_56 rfl (lv_at hl 1 rfl) ?_
        refine lv_ishr hx hb dX11_who_57 ?_
        refine lv_iconst (v := 1) hx hb dX11_who_58 (by decide) ?_
        refine lv_iand hx hb dX11_who_59 ?_
        refine lv_iload hx hb dX11_who_60 (lv_at hl 4 rfl) ?_
        refine lv_ishl hx hb dX11_who_62 ?_
        refine lv_ior hx hb dX11_who_63 ?_
        refine lv_istore_n (lv' := [(3, .int (l3 ||| (((r17 >>> (l1 &&& 31)) &&& (1 : Int32)) <<< (l4 &&& 31)))), (0, .ref l0), (1, .int l1), (2, .int l2), (4, .int l4)]) hx hb dX11_who_64 rfl hl (by decide) rfl (fun ls hl => ?_)
        refine lv_iinc (v := l4 + (1 : Int32)) (lv' := [(4, .int (l4 + (1 : Int32))), (3, .int (l3 ||| (((r17 >>> (l1 &&& 31)) &&& (1 : Int32)) <<< (l4 &&& 31)))), (0, .ref l0), (1, .int l1), (2, .int l2)]) hx hb dX11_who_65 hl (k := 4) rfl rfl (by decide) rfl (fun ls hl => ?_)
        refine lv_goto (tgt := 29) hx hb dX11_who_68 (by decide) ?_
        exact ih M l0 l1 l2 (l3 ||| (((r17 >>> (l1 &&& 31)) &&& (1 : Int32)) <<< (l4 &&& 31))) (l4 + (1 : Int32)) _ _ hf h0 _ _ _ hW (lv_sub hl [2, 3, 4, 1, 0] rfl)
set_option maxHeartbeats 4000000 in
set_option maxRecDepth 100000 in
theorem f_X11_who (l : Launch) {Γ : Zg} {M : Zm} {l0 : Nat} {l1 : Int32} {l2 : Int32} {r : Int32} {M' : Zm} (hf : X11_who Γ M l0 l1 l2 = some (r, M')) (h0 : z_Is Γ 11 l0) : z_Fn l Γ yX11_who cX11_who 5 (some .int) 1 25 [.ref l0, .int l1, .int l2] M (some (.int r)) M' := by
  refine z_Fn.of (by decide) (Nat.le_of_ble_eq_true rfl) ?_
  intro p e s m below meth c ls B hW hl
  have B : z_Bd Γ p s m _ meth c cX11_who 5 (some .int) RX11 := B
  have hl : lv_has ls 5 [(0, .ref l0), (1, .int l1), (2, .int l2)] := hl
  rw [X11_who] at hf
  have hx := B.1
  have hb := B.2.1
  have hml := B.2.2.1
  have ho := B.2.2.2.1
  have hw := B.2.2.2.2.1
  have hE := B.2.2.2.2.2.1.2.2
  have hg := B.2.2.2.2.2.2.1
  refine lv_iload_n hx hb dX11_who_0 rfl (lv_at hl 1 rfl) ?_
  refine z_cS (As := [.int l1]) (rest := []) B hW (f_X11_isSecret l) sc_X11_isSecret ⟨q925, q926⟩ ⟨Nat.le_of_ble_eq_true rfl, Nat.le_of_ble_eq_true rfl⟩ ⟨Nat.zero_le _, Nat.zero_le _⟩ rfl hl.1 rfl (Nat.le_of_ble_eq_true rfl) dX11_who_1 (fun H locs hW => ?_)
  refine lv_if_eq (tgt := 17) hx hb dX11_who_4 (by decide) (fun c3 => ?_) (fun c3 => ?_)
  · have hf := z_it c3 hf
    refine lv_aload_n hx hb dX11_who_17 rfl (lv_at hl 0 rfl) ?_
    refine lv_ldc hx hb ho (hw _ q916) dX11_who_18 ?_
    obtain ⟨r4, M5, e6, hf⟩ := z_bpe hf
    refine z_cV (As := [.int (-1000000001 : Int32)]) (rest := []) B hW (f_X11_finds l e6 h0) sc_X11_finds sv_X11_40 h0 ⟨Nat.le_of_ble_eq_true rfl, Nat.le_of_ble_eq_true rfl⟩ ⟨Nat.zero_le _, Nat.zero_le _⟩ rfl hl.1 rfl (Nat.le_of_ble_eq_true rfl) dX11_who_20 (fun H locs hW => ?_)
    obtain ⟨e1, e2⟩ := z_s2 hf
    subst e1
    subst e2
    exact z_ri B hW dX11_who_23
  · have hf := z_if c3 hf
    refine lv_iload_n hx hb dX11_who_7 rfl (lv_at hl 2 rfl) ?_
    refine lv_i2l hx hb dX11_who_8 rfl ?_
    refine lv_lconst (v := 0) hx hb dX11_who_9 (by decide) ?_
    refine lv_lconst (v := 1) hx hb dX11_who_10 (by decide) ?_
    refine z_cS (As := [.long l2.toInt64, .long (0 : Int64), .long (1 : Int64)]) (rest := []) B hW (f_X11_isIn l) sc_X11_isIn ⟨q909, q910⟩ ⟨Nat.le_of_ble_eq_true rfl, Nat.le_of_ble_eq_true rfl⟩ ⟨Nat.zero_le _, Nat.zero_le _⟩ rfl hl.1 rfl (Nat.le_of_ble_eq_true rfl) dX11_who_11 (fun H locs hW => ?_)
    refine lv_if_ne (tgt := 24) hx hb dX11_who_14 (by decide) (fun c9 => ?_) (fun c9 => ?_)
    · have hf := z_if c9 hf
      refine lv_iconst (v := 0) hx hb dX11_who_24 (by decide) ?_
      refine lv_istore_n (lv' := [(3, .int (0 : Int32)), (0, .ref l0), (1, .int l1), (2, .int l2)]) hx hb dX11_who_25 rfl hl (by decide) rfl (fun ls hl => ?_)
      refine lv_iconst (v := 0) hx hb dX11_who_26 (by decide) ?_
      refine lv_istore (lv' := [(4, .int (0 : Int32)), (3, .int (0 : Int32)), (0, .ref l0), (1, .int l1), (2, .int l2)]) hx hb dX11_who_27 hl (by decide) rfl (fun ls hl => ?_)
      exact w_X11_who_P29 B 1000 M l0 l1 l2 (0 : Int32) (0 : Int32) _ _ hf h0 _ _ _ hW (lv_sub hl [2, 3, 4, 1, 0] rfl)
    · have hf := z_it c9 hf
      refine lv_aload_n hx hb dX11_who_17 rfl (lv_at hl 0 rfl) ?_
      refine lv_ldc hx hb ho (hw _ q916) dX11_who_18 ?_
      obtain ⟨r10, M11, e12, hf⟩ := z_bpe hf
      refine z_cV (As := [.int (-1000000001 : Int32)]) (rest := []) B hW (f_X11_finds l e12 h0) sc_X11_finds sv_X11_40 h0 ⟨Nat.le_of_ble_eq_true rfl, Nat.le_of_ble_eq_true rfl⟩ ⟨Nat.zero_le _, Nat.zero_le _⟩ rfl hl.1 rfl (Nat.le_of_ble_eq_true rfl) dX11_who_20 (fun H locs hW => ?_)
      obtain ⟨e1, e2⟩ := z_s2 hf
      subst e1
      subst e2
      exact z_ri B hW dX11_who_23
set_option maxHeartbeats 4000000 in
set_option maxRecDepth 100000 in
theorem f_X11_comes (l : Launch) {Γ : Zg} {M : Zm} {l0 : Nat} {l1 : Int32} {M' : Zm} (hf : X11_comes Γ M l0 l1 = some M') (h0 : z_Is Γ 11 l0) : z_Fn l Γ yX11_comes cX11_comes 3 none 1 21 [.ref l0, .int l1] M none M' := by
  refine z_Fn.of (by decide) (Nat.le_of_ble_eq_true rfl) ?_
  intro p e s m below meth c ls B hW hl
  have B : z_Bd Γ p s m _ meth c cX11_comes 3 none RX11 := B
  have hl : lv_has ls 3 [(0, .ref l0), (1, .int l1)] := hl
  rw [X11_comes] at hf
  have hx := B.1
  have hb := B.2.1
  have hml := B.2.2.1
  have ho := B.2.2.2.1
  have hw := B.2.2.2.2.1
  have hE := B.2.2.2.2.2.1.2.2
  have hg := B.2.2.2.2.2.2.1
  refine lv_aload_n hx hb dX11_comes_0 rfl (lv_at hl 0 rfl) ?_
  refine z_get_11_0 B hW h0 q855 dX11_comes_1 ?_
  refine lv_iconst (v := 0) hx hb dX11_comes_4 (by decide) ?_
  refine z_ia B hW (z_g11_0 hg h0) (z_ixd (by decide)) dX11_comes_5 ?_
  refine lv_istore_n (lv' := [(2, .int (M.1 (z_r Γ l0 0) 0)), (0, .ref l0), (1, .int l1)]) hx hb dX11_comes_6 rfl hl (by decide) rfl (fun ls hl => ?_)
  refine lv_aload_n hx hb dX11_comes_7 rfl (lv_at hl 1 rfl) ?_
  refine z_get_11_0 B hW h0 q855 dX11_comes_8 ?_
  refine lv_iload_n hx hb dX11_comes_11 rfl (lv_at hl 0 rfl) ?_
  refine lv_iconst (v := 0) hx hb dX11_comes_12 (by decide) ?_
  refine z_cS (As := [.int (M.1 (z_r Γ l0 0) 0), .int (0 : Int32)]) (rest := [.ref (z_r Γ l0 0)]) B hW (f_X11_at l) sc_X11_at ⟨q942, q943⟩ ⟨Nat.le_of_ble_eq_true rfl, Nat.le_of_ble_eq_true rfl⟩ ⟨Nat.zero_le _, Nat.zero_le _⟩ rfl hl.1 rfl (Nat.le_of_ble_eq_true rfl) dX11_comes_13 (fun H locs hW => ?_)
  refine lv_iload_n hx hb dX11_comes_16 rfl (lv_at hl 2 rfl) ?_
  obtain ⟨g3, hf⟩ := z_gd hf
  refine z_is B hW (z_g11_0 hg h0) g3 dX11_comes_17 (fun H locs hW => ?_)
  obtain ⟨M4, e5, hf⟩ := z_le hf
  have hW := z_wde e5 hW
  refine lv_aload_n hx hb dX11_comes_18 rfl (lv_at hl 1 rfl) ?_
  refine z_get_11_0 B hW h0 q855 dX11_comes_19 ?_
  refine lv_iload_n hx hb dX11_comes_22 rfl (lv_at hl 0 rfl) ?_
  refine lv_iconst (v := 1) hx hb dX11_comes_23 (by decide) ?_
  refine z_cS (As := [.int (M.1 (z_r Γ l0 0) 0), .int (1 : Int32)]) (rest := [.ref (z_r Γ l0 0)]) B hW (f_X11_at l) sc_X11_at ⟨q942, q943⟩ ⟨Nat.le_of_ble_eq_true rfl, Nat.le_of_ble_eq_true rfl⟩ ⟨Nat.zero_le _, Nat.zero_le _⟩ rfl hl.1 rfl (Nat.le_of_ble_eq_true rfl) dX11_comes_24 (fun H locs hW => ?_)
  refine lv_iconst (v := 0) hx hb dX11_comes_27 (by decide) ?_
  obtain ⟨g8, hf⟩ := z_gd hf
  refine z_is B hW (z_g11_0 hg h0) g8 dX11_comes_28 (fun H locs hW => ?_)
  obtain ⟨M9, e10, hf⟩ := z_le hf
  have hW := z_wde e10 hW
  refine lv_aload_n hx hb dX11_comes_29 rfl (lv_at hl 1 rfl) ?_
  refine z_get_11_0 B hW h0 q855 dX11_comes_30 ?_
  refine lv_iload_n hx hb dX11_comes_33 rfl (lv_at hl 0 rfl) ?_
  refine lv_iconst (v := 2) hx hb dX11_comes_34 (by decide) ?_
  refine z_cS (As := [.int (M.1 (z_r Γ l0 0) 0), .int (2 : Int32)]) (rest := [.ref (z_r Γ l0 0)]) B hW (f_X11_at l) sc_X11_at ⟨q942, q943⟩ ⟨Nat.le_of_ble_eq_true rfl, Nat.le_of_ble_eq_true rfl⟩ ⟨Nat.zero_le _, Nat.zero_le _⟩ rfl hl.1 rfl (Nat.le_of_ble_eq_true rfl) dX11_comes_35 (fun H locs hW => ?_)
  refine lv_iconst (v := 0) hx hb dX11_comes_38 (by decide) ?_
  obtain ⟨g13, hf⟩ := z_gd hf
  refine z_is B hW (z_g11_0 hg h0) g13 dX11_comes_39 (fun H locs hW => ?_)
  obtain ⟨M14, e15, hf⟩ := z_le hf
  have hW := z_wde e15 hW
  refine lv_aload_n hx hb dX11_comes_40 rfl (lv_at hl 1 rfl) ?_
  refine z_get_11_0 B hW h0 q855 dX11_comes_41 ?_
  refine lv_iload_n hx hb dX11_comes_44 rfl (lv_at hl 0 rfl) ?_
  refine lv_iconst (v := 3) hx hb dX11_comes_45 (by decide) ?_
  refine z_cS (As := [.int (M.1 (z_r Γ l0 0) 0), .int (3 : Int32)]) (rest := [.ref (z_r Γ l0 0)]) B hW (f_X11_at l) sc_X11_at ⟨q942, q943⟩ ⟨Nat.le_of_ble_eq_true rfl, Nat.le_of_ble_eq_true rfl⟩ ⟨Nat.zero_le _, Nat.zero_le _⟩ rfl hl.1 rfl (Nat.le_of_ble_eq_true rfl) dX11_comes_46 (fun H locs hW => ?_)
  refine lv_iconst (v := -1) hx hb dX11_comes_49 (by decide) ?_
  obtain ⟨g18, hf⟩ := z_gd hf
  refine z_is B hW (z_g11_0 hg h0) g18 dX11_comes_50 (fun H locs hW => ?_)
  obtain ⟨M19, e20, hf⟩ := z_le hf
  have hW := z_wde e20 hW
  refine lv_aload_n hx hb dX11_comes_51 rfl (lv_at hl 1 rfl) ?_
  refine z_get_11_0 B hW h0 q855 dX11_comes_52 ?_
  refine lv_iload_n hx hb dX11_comes_55 rfl (lv_at hl 0 rfl) ?_
  refine lv_iconst (v := 4) hx hb dX11_comes_56 (by decide) ?_
  refine z_cS (As := [.int (M.1 (z_r Γ l0 0) 0), .int (4 : Int32)]) (rest := [.ref (z_r Γ l0 0)]) B hW (f_X11_at l) sc_X11_at ⟨q942, q943⟩ ⟨Nat.le_of_ble_eq_true rfl, Nat.le_of_ble_eq_true rfl⟩ ⟨Nat.zero_le _, Nat.zero_le _⟩ rfl hl.1 rfl (Nat.le_of_ble_eq_true rfl) dX11_comes_57 (fun H locs hW => ?_)
  refine lv_iconst (v := 0) hx hb dX11_comes_60 (by decide) ?_
  obtain ⟨g23, hf⟩ := z_gd hf
  refine z_is B hW (z_g11_0 hg h0) g23 dX11_comes_61 (fun H locs hW => ?_)
  obtain ⟨M24, e25, hf⟩ := z_le hf
  have hW := z_wde e25 hW
  refine lv_aload_n hx hb dX11_comes_62 rfl (lv_at hl 1 rfl) ?_
  refine z_get_11_0 B hW h0 q855 dX11_comes_63 ?_
  refine lv_iload_n hx hb dX11_comes_66 rfl (lv_at hl 0 rfl) ?_
  refine lv_iconst (v := 5) hx hb dX11_comes_67 (by decide) ?_
  refine z_cS (As := [.int (M.1 (z_r Γ l0 0) 0), .int (5 : Int32)]) (rest := [.ref (z_r Γ l0 0)]) B hW (f_X11_at l) sc_X11_at ⟨q942, q943⟩ ⟨Nat.le_of_ble_eq_true rfl, Nat.le_of_ble_eq_true rfl⟩ ⟨Nat.zero_le _, Nat.zero_le _⟩ rfl hl.1 rfl (Nat.le_of_ble_eq_true rfl) dX11_comes_68 (fun H locs hW => ?_)
  refine lv_iconst (v := 0) hx hb dX11_comes_71 (by decide) ?_
  obtain ⟨g28, hf⟩ := z_gd hf
  refine z_is B hW (z_g11_0 hg h0) g28 dX11_comes_72 (fun H locs hW => ?_)
  obtain ⟨M29, e30, hf⟩ := z_le hf
  have hW := z_wde e30 hW
  refine lv_aload_n hx hb dX11_comes_73 rfl (lv_at hl 1 rfl) ?_
  refine z_get_11_0 B hW h0 q855 dX11_comes_74 ?_
  refine lv_iconst (v := 0) hx hb dX11_comes_77 (by decide) ?_
  refine lv_dup2_11 hx hb dX11_comes_78 rfl rfl ?_
  refine z_ia B hW (z_g11_0 hg h0) (z_ixd (by decide)) dX11_comes_79 ?_
  refine lv_iconst (v := 1) hx hb dX11_comes_80 (by decide) ?_
  refine lv_iadd hx hb dX11_comes_81 ?_
  refine z_is B hW (z_g11_0 hg h0) (z_ixd (by decide)) dX11_comes_82 (fun H locs hW => ?_)
  obtain ⟨M31, e32, hf⟩ := z_le hf
  have hW := z_wde e32 hW
  have hf := Option.some.inj hf
  subst hf
  exact z_rv B hW dX11_comes_83
set_option maxHeartbeats 4000000 in
set_option maxRecDepth 100000 in
theorem f_X11_person (l : Launch) {Γ : Zg} {M : Zm} {l0 : Nat} {l1 : Int32} {r : Int32} {M' : Zm} (hf : X11_person Γ M l0 l1 = some (r, M')) (h0 : z_Is Γ 11 l0) : z_Fn l Γ yX11_person cX11_person 2 (some .int) 2 43 [.ref l0, .int l1] M (some (.int r)) M' := by
  refine z_Fn.of (by decide) (Nat.le_of_ble_eq_true rfl) ?_
  intro p e s m below meth c ls B hW hl
  have B : z_Bd Γ p s m _ meth c cX11_person 2 (some .int) RX11 := B
  have hl : lv_has ls 2 [(0, .ref l0), (1, .int l1)] := hl
  rw [X11_person] at hf
  have hx := B.1
  have hb := B.2.1
  have hml := B.2.2.1
  have ho := B.2.2.2.1
  have hw := B.2.2.2.2.1
  have hE := B.2.2.2.2.2.1.2.2
  have hg := B.2.2.2.2.2.2.1
  refine lv_iload_n hx hb dX11_person_0 rfl (lv_at hl 1 rfl) ?_
  refine lv_i2l hx hb dX11_person_1 rfl ?_
  refine lv_lconst (v := 0) hx hb dX11_person_2 (by decide) ?_
  refine lv_ldc2 hx hb ho (hw _ q936) dX11_person_3 ?_
  refine z_cS (As := [.long l1.toInt64, .long (0 : Int64), .long (5 : Int64)]) (rest := []) B hW (f_X11_isIn l) sc_X11_isIn ⟨q909, q910⟩ ⟨Nat.le_of_ble_eq_true rfl, Nat.le_of_ble_eq_true rfl⟩ ⟨Nat.zero_le _, Nat.zero_le _⟩ rfl hl.1 rfl (Nat.le_of_ble_eq_true rfl) dX11_person_6 (fun H locs hW => ?_)
  refine lv_if_ne (tgt := 19) hx hb dX11_person_9 (by decide) (fun c3 => ?_) (fun c3 => ?_)
  · have hf := z_if c3 hf
    refine lv_aload_n hx hb dX11_person_19 rfl (lv_at hl 0 rfl) ?_
    refine z_get_11_0 B hW h0 q855 dX11_person_20 ?_
    refine lv_iconst (v := 0) hx hb dX11_person_23 (by decide) ?_
    refine z_ia B hW (z_g11_0 hg h0) (z_ixd (by decide)) dX11_person_24 ?_
    refine lv_bipush (v := 8) hx hb dX11_person_25 (by decide) ?_
    refine lv_icmp_ne (tgt := 37) hx hb dX11_person_27 (by decide) (fun c4 => ?_) (fun c4 => ?_)
    · have hf := z_if c4 hf
      refine lv_aload_n hx hb dX11_person_37 rfl (lv_at hl 0 rfl) ?_
      refine lv_iload_n hx hb dX11_person_38 rfl (lv_at hl 1 rfl) ?_
      obtain ⟨M6, e7, hf⟩ := z_bd hf
      refine z_cV (As := [.int l1]) (rest := []) B hW (f_X11_comes l e7 h0) sc_X11_comes sv_X11_67 h0 ⟨Nat.le_of_ble_eq_true rfl, Nat.le_of_ble_eq_true rfl⟩ ⟨Nat.zero_le _, Nat.zero_le _⟩ rfl hl.1 rfl (Nat.le_of_ble_eq_true rfl) dX11_person_39 (fun H locs hW => ?_)
      refine lv_aload_n hx hb dX11_person_42 rfl (lv_at hl 0 rfl) ?_
      refine z_get_11_0 B hW h0 q855 dX11_person_43 ?_
      refine lv_iconst (v := 0) hx hb dX11_person_46 (by decide) ?_
      refine z_ia B hW (z_g11_0 hg h0) (z_ixd (by decide)) dX11_person_47 ?_
      refine lv_iconst (v := 1) hx hb dX11_person_48 (by decide) ?_
      refine lv_isub hx hb dX11_person_49 ?_
      obtain ⟨e1, e2⟩ := z_s2 hf
      subst e1
      subst e2
      exact z_ri B hW dX11_person_50
    · have hf := z_it c4 hf
      refine lv_aload_n hx hb dX11_person_30 rfl (lv_at hl 0 rfl) ?_
      refine lv_ldc hx hb ho (hw _ q937) dX11_person_31 ?_
      obtain ⟨r8, M9, e10, hf⟩ := z_bpe hf
      refine z_cV (As := [.int (-1000000002 : Int32)]) (rest := []) B hW (f_X11_finds l e10 h0) sc_X11_finds sv_X11_40 h0 ⟨Nat.le_of_ble_eq_true rfl, Nat.le_of_ble_eq_true rfl⟩ ⟨Nat.zero_le _, Nat.zero_le _⟩ rfl hl.1 rfl (Nat.le_of_ble_eq_true rfl) dX11_person_33 (fun H locs hW => ?_)
      obtain ⟨e1, e2⟩ := z_s2 hf
      subst e1
      subst e2
      exact z_ri B hW dX11_person_36
  · have hf := z_it c3 hf
    refine lv_aload_n hx hb dX11_person_12 rfl (lv_at hl 0 rfl) ?_
    refine lv_ldc hx hb ho (hw _ q916) dX11_person_13 ?_
    obtain ⟨r11, M12, e13, hf⟩ := z_bpe hf
    refine z_cV (As := [.int (-1000000001 : Int32)]) (rest := []) B hW (f_X11_finds l e13 h0) sc_X11_finds sv_X11_40 h0 ⟨Nat.le_of_ble_eq_true rfl, Nat.le_of_ble_eq_true rfl⟩ ⟨Nat.zero_le _, Nat.zero_le _⟩ rfl hl.1 rfl (Nat.le_of_ble_eq_true rfl) dX11_person_15 (fun H locs hW => ?_)
    obtain ⟨e1, e2⟩ := z_s2 hf
    subst e1
    subst e2
    exact z_ri B hW dX11_person_18
set_option maxHeartbeats 4000000 in
set_option maxRecDepth 100000 in
theorem f_X11_saysPlain (l : Launch) {Γ : Zg} {M : Zm} {l0 : Nat} {l1 : Int32} {r : Int32} (hf : X11_saysPlain Γ M l0 l1 = some r) (h0 : z_Is Γ 11 l0) : z_Fn l Γ yX11_saysPlain cX11_saysPlain 2 (some .int) 1 22 [.ref l0, .int l1] M (some (.int r)) M := by
  refine z_Fn.of (by decide) (Nat.le_of_ble_eq_true rfl) ?_
  intro p e s m below meth c ls B hW hl
  have B : z_Bd Γ p s m _ meth c cX11_saysPlain 2 (some .int) RX11 := B
  have hl : lv_has ls 2 [(0, .ref l0), (1, .int l1)] := hl
  rw [X11_saysPlain] at hf
  have hx := B.1
  have hb := B.2.1
  have hml := B.2.2.1
  have ho := B.2.2.2.1
  have hw := B.2.2.2.2.1
  have hE := B.2.2.2.2.2.1.2.2
  have hg := B.2.2.2.2.2.2.1
  refine lv_aload_n hx hb dX11_saysPlain_0 rfl (lv_at hl 0 rfl) ?_
  refine lv_iload_n hx hb dX11_saysPlain_1 rfl (lv_at hl 1 rfl) ?_
  refine lv_iconst (v := 2) hx hb dX11_saysPlain_2 (by decide) ?_
  obtain ⟨r1, e2, hf⟩ := z_bd hf
  refine z_cV (As := [.int l1, .int (2 : Int32)]) (rest := []) B hW (f_X11_its l e2 h0) sc_X11_its sv_X11_58 h0 ⟨Nat.le_of_ble_eq_true rfl, Nat.le_of_ble_eq_true rfl⟩ ⟨Nat.zero_le _, Nat.zero_le _⟩ rfl hl.1 rfl (Nat.le_of_ble_eq_true rfl) dX11_saysPlain_3 (fun H locs hW => ?_)
  refine lv_if_eq (tgt := 21) hx hb dX11_saysPlain_6 (by decide) (fun c3 => ?_) (fun c3 => ?_)
  · have hf := z_it c3 hf
    refine lv_aload_n hx hb dX11_saysPlain_21 rfl (lv_at hl 0 rfl) ?_
    refine lv_iload_n hx hb dX11_saysPlain_22 rfl (lv_at hl 1 rfl) ?_
    refine lv_iconst (v := 1) hx hb dX11_saysPlain_23 (by decide) ?_
    obtain ⟨r4, e5, hf⟩ := z_bd hf
    refine z_cV (As := [.int l1, .int (1 : Int32)]) (rest := []) B hW (f_X11_its l e5 h0) sc_X11_its sv_X11_58 h0 ⟨Nat.le_of_ble_eq_true rfl, Nat.le_of_ble_eq_true rfl⟩ ⟨Nat.zero_le _, Nat.zero_le _⟩ rfl hl.1 rfl (Nat.le_of_ble_eq_true rfl) dX11_saysPlain_24 (fun H locs hW => ?_)
    obtain ⟨r6, e7, hf⟩ := z_bd hf
    refine z_cS (As := [.int r4]) (rest := []) B hW (f_X11_first l e7) sc_X11_first ⟨q961, q962⟩ ⟨Nat.le_of_ble_eq_true rfl, Nat.le_of_ble_eq_true rfl⟩ ⟨Nat.zero_le _, Nat.zero_le _⟩ rfl hl.1 rfl (Nat.le_of_ble_eq_true rfl) dX11_saysPlain_27 (fun H locs hW => ?_)
    have hf := Option.some.inj hf
    subst hf
    exact z_ri B hW dX11_saysPlain_30
  · have hf := z_if c3 hf
    refine lv_aload_n hx hb dX11_saysPlain_9 rfl (lv_at hl 0 rfl) ?_
    refine lv_iload_n hx hb dX11_saysPlain_10 rfl (lv_at hl 1 rfl) ?_
    refine lv_iconst (v := 2) hx hb dX11_saysPlain_11 (by decide) ?_
    obtain ⟨r8, e9, hf⟩ := z_bd hf
    refine z_cV (As := [.int l1, .int (2 : Int32)]) (rest := []) B hW (f_X11_its l e9 h0) sc_X11_its sv_X11_58 h0 ⟨Nat.le_of_ble_eq_true rfl, Nat.le_of_ble_eq_true rfl⟩ ⟨Nat.zero_le _, Nat.zero_le _⟩ rfl hl.1 rfl (Nat.le_of_ble_eq_true rfl) dX11_saysPlain_12 (fun H locs hW => ?_)
    obtain ⟨r10, e11, hf⟩ := z_bd hf
    refine z_cS (As := [.int r8]) (rest := []) B hW (f_X11_first l e11) sc_X11_first ⟨q961, q962⟩ ⟨Nat.le_of_ble_eq_true rfl, Nat.le_of_ble_eq_true rfl⟩ ⟨Nat.zero_le _, Nat.zero_le _⟩ rfl hl.1 rfl (Nat.le_of_ble_eq_true rfl) dX11_saysPlain_15 (fun H locs hW => ?_)
    refine lv_goto (tgt := 30) hx hb dX11_saysPlain_18 (by decide) ?_
    have hf := Option.some.inj hf
    subst hf
    exact z_ri B hW dX11_saysPlain_30
set_option maxHeartbeats 4000000 in
set_option maxRecDepth 100000 in
theorem f_X11_says (l : Launch) {Γ : Zg} {M : Zm} {l0 : Nat} {l1 : Int32} {r : Int32} (hf : X11_says Γ M l0 l1 = some r) (h0 : z_Is Γ 11 l0) : z_Fn l Γ yX11_says cX11_says 3 (some .int) 2 43 [.ref l0, .int l1] M (some (.int r)) M := by
  refine z_Fn.of (by decide) (Nat.le_of_ble_eq_true rfl) ?_
  intro p e s m below meth c ls B hW hl
  have B : z_Bd Γ p s m _ meth c cX11_says 3 (some .int) RX11 := B
  have hl : lv_has ls 3 [(0, .ref l0), (1, .int l1)] := hl
  rw [X11_says] at hf
  have hx := B.1
  have hb := B.2.1
  have hml := B.2.2.1
  have ho := B.2.2.2.1
  have hw := B.2.2.2.2.1
  have hE := B.2.2.2.2.2.1.2.2
  have hg := B.2.2.2.2.2.2.1
  refine lv_aload_n hx hb dX11_says_0 rfl (lv_at hl 0 rfl) ?_
  refine z_get_11_0 B hW h0 q855 dX11_says_1 ?_
  refine lv_iconst (v := 1) hx hb dX11_says_4 (by decide) ?_
  refine z_ia B hW (z_g11_0 hg h0) (z_ixd (by decide)) dX11_says_5 ?_
  refine lv_bipush (v := 24) hx hb dX11_says_6 (by decide) ?_
  refine lv_irem hx hb dX11_says_8 (by decide) ?_
  refine lv_istore_n (lv' := [(2, .int ((M.1 (z_r Γ l0 0) 1) - (M.1 (z_r Γ l0 0) 1) / (24 : Int32) * (24 : Int32))), (0, .ref l0), (1, .int l1)]) hx hb dX11_says_9 rfl hl (by decide) rfl (fun ls hl => ?_)
  refine lv_iload_n hx hb dX11_says_10 rfl (lv_at hl 0 rfl) ?_
  refine lv_bipush (v := 22) hx hb dX11_says_11 (by decide) ?_
  refine lv_icmp_lt (tgt := 18) hx hb dX11_says_13 (by decide) (fun c1 => ?_) (fun c1 => ?_)
  · have hf := z_it c1 hf
    refine lv_aload_n hx hb dX11_says_18 rfl (lv_at hl 1 rfl) ?_
    refine lv_iload_n hx hb dX11_says_19 rfl (lv_at hl 2 rfl) ?_
    refine lv_iconst (v := 0) hx hb dX11_says_20 (by decide) ?_
    obtain ⟨r2, e3, hf⟩ := z_bd hf
    refine z_cV (As := [.int l1, .int (0 : Int32)]) (rest := []) B hW (f_X11_its l e3 h0) sc_X11_its sv_X11_58 h0 ⟨Nat.le_of_ble_eq_true rfl, Nat.le_of_ble_eq_true rfl⟩ ⟨Nat.zero_le _, Nat.zero_le _⟩ rfl hl.1 rfl (Nat.le_of_ble_eq_true rfl) dX11_says_21 (fun H locs hW => ?_)
    by_cases c4 : r2 = (1 : Int32)
    · have hf := z_it c4 hf
      refine lv_tableIn (off := 36) (tgt := 60) hx hb dX11_says_24 (by rw [c4]; decide) (by rw [c4]; decide) (by rw [c4]; decide) (by decide) ?_
      refine lv_aload_n hx hb dX11_says_60 rfl (lv_at hl 1 rfl) ?_
      refine lv_iload_n hx hb dX11_says_61 rfl (lv_at hl 2 rfl) ?_
      refine lv_iconst (v := 1) hx hb dX11_says_62 (by decide) ?_
      obtain ⟨r5, e6, hf⟩ := z_bd hf
      refine z_cV (As := [.int l1, .int (1 : Int32)]) (rest := []) B hW (f_X11_its l e6 h0) sc_X11_its sv_X11_58 h0 ⟨Nat.le_of_ble_eq_true rfl, Nat.le_of_ble_eq_true rfl⟩ ⟨Nat.zero_le _, Nat.zero_le _⟩ rfl hl.1 rfl (Nat.le_of_ble_eq_true rfl) dX11_says_63 (fun H locs hW => ?_)
      obtain ⟨r7, e8, hf⟩ := z_bd hf
      refine z_cS (As := [.int r5]) (rest := []) B hW (f_X11_last l e8) sc_X11_last ⟨q958, q959⟩ ⟨Nat.le_of_ble_eq_true rfl, Nat.le_of_ble_eq_true rfl⟩ ⟨Nat.zero_le _, Nat.zero_le _⟩ rfl hl.1 rfl (Nat.le_of_ble_eq_true rfl) dX11_says_66 (fun H locs hW => ?_)
      have hf := Option.some.inj hf
      subst hf
      exact z_ri B hW dX11_says_69
    · have hf := z_if c4 hf
      by_cases c9 : r2 = (2 : Int32)
      · have hf := z_it c9 hf
        refine lv_tableIn (off := 46) (tgt := 70) hx hb dX11_says_24 (by rw [c9]; decide) (by rw [c9]; decide) (by rw [c9]; decide) (by decide) ?_
        refine lv_aload_n hx hb dX11_says_70 rfl (lv_at hl 1 rfl) ?_
        refine z_get_11_0 B hW h0 q855 dX11_says_71 ?_
        refine lv_iconst (v := 2) hx hb dX11_says_74 (by decide) ?_
        refine z_ia B hW (z_g11_0 hg h0) (z_ixd (by decide)) dX11_says_75 ?_
        refine lv_if_eq (tgt := 91) hx hb dX11_says_76 (by decide) (fun c10 => ?_) (fun c10 => ?_)
        · have hf := z_it c10 hf
          refine lv_aload_n hx hb dX11_says_91 rfl (lv_at hl 1 rfl) ?_
          refine lv_iload_n hx hb dX11_says_92 rfl (lv_at hl 2 rfl) ?_
          obtain ⟨r11, e12, hf⟩ := z_bd hf
          refine z_cV (As := [.int l1]) (rest := []) B hW (f_X11_saysPlain l e12 h0) sc_X11_saysPlain sv_X11_77 h0 ⟨Nat.le_of_ble_eq_true rfl, Nat.le_of_ble_eq_true rfl⟩ ⟨Nat.zero_le _, Nat.zero_le _⟩ rfl hl.1 rfl (Nat.le_of_ble_eq_true rfl) dX11_says_93 (fun H locs hW => ?_)
          have hf := Option.some.inj hf
          subst hf
          exact z_ri B hW dX11_says_96
        · have hf := z_if c10 hf
          refine lv_aload_n hx hb dX11_says_79 rfl (lv_at hl 1 rfl) ?_
          refine z_get_11_0 B hW h0 q855 dX11_says_80 ?_
          refine lv_iconst (v := 2) hx hb dX11_says_83 (by decide) ?_
          refine z_ia B hW (z_g11_0 hg h0) (z_ixd (by decide)) dX11_says_84 ?_
          obtain ⟨r13, e14, hf⟩ := z_bd hf
          refine z_cS (As := [.int (M.1 (z_r Γ l0 0) 2)]) (rest := []) B hW (f_X11_first l e14) sc_X11_first ⟨q961, q962⟩ ⟨Nat.le_of_ble_eq_true rfl, Nat.le_of_ble_eq_true rfl⟩ ⟨Nat.zero_le _, Nat.zero_le _⟩ rfl hl.1 rfl (Nat.le_of_ble_eq_true rfl) dX11_says_85 (fun H locs hW => ?_)
          refine lv_goto (tgt := 96) hx hb dX11_says_88 (by decide) ?_
          have hf := Option.some.inj hf
          subst hf
          exact z_ri B hW dX11_says_96
      · have hf := z_if c9 hf
        by_cases c15 : r2 = (3 : Int32)
        · have hf := z_it c15 hf
          refine lv_tableIn (off := 73) (tgt := 97) hx hb dX11_says_24 (by rw [c15]; decide) (by rw [c15]; decide) (by rw [c15]; decide) (by decide) ?_
          refine lv_iconst (v := -1) hx hb dX11_says_97 (by decide) ?_
          have hf := Option.some.inj hf
          subst hf
          exact z_ri B hW dX11_says_98
        · have hf := z_if c15 hf
          by_cases c16 : r2 = (4 : Int32)
          · have hf := z_it c16 hf
            refine lv_tableIn (off := 75) (tgt := 99) hx hb dX11_says_24 (by rw [c16]; decide) (by rw [c16]; decide) (by rw [c16]; decide) (by decide) ?_
            refine lv_iload_n hx hb dX11_says_99 rfl (lv_at hl 0 rfl) ?_
            refine lv_bipush (v := 12) hx hb dX11_says_100 (by decide) ?_
            refine lv_icmp_ge (tgt := 109) hx hb dX11_says_102 (by decide) (fun c17 => ?_) (fun c17 => ?_)
            · have hf := z_it c17 hf
              refine lv_aload_n hx hb dX11_says_109 rfl (lv_at hl 1 rfl) ?_
              refine lv_iload_n hx hb dX11_says_110 rfl (lv_at hl 2 rfl) ?_
              refine lv_iconst (v := 1) hx hb dX11_says_111 (by decide) ?_
              obtain ⟨r18, e19, hf⟩ := z_bd hf
              refine z_cV (As := [.int l1, .int (1 : Int32)]) (rest := []) B hW (f_X11_its l e19 h0) sc_X11_its sv_X11_58 h0 ⟨Nat.le_of_ble_eq_true rfl, Nat.le_of_ble_eq_true rfl⟩ ⟨Nat.zero_le _, Nat.zero_le _⟩ rfl hl.1 rfl (Nat.le_of_ble_eq_true rfl) dX11_says_112 (fun H locs hW => ?_)
              obtain ⟨r20, e21, hf⟩ := z_bd hf
              refine z_cS (As := [.int r18]) (rest := []) B hW (f_X11_last l e21) sc_X11_last ⟨q958, q959⟩ ⟨Nat.le_of_ble_eq_true rfl, Nat.le_of_ble_eq_true rfl⟩ ⟨Nat.zero_le _, Nat.zero_le _⟩ rfl hl.1 rfl (Nat.le_of_ble_eq_true rfl) dX11_says_115 (fun H locs hW => ?_)
              have hf := Option.some.inj hf
              subst hf
              exact z_ri B hW dX11_says_118
            · have hf := z_if c17 hf
              refine lv_iconst (v := -1) hx hb dX11_says_105 (by decide) ?_
              refine lv_goto (tgt := 118) hx hb dX11_says_106 (by decide) ?_
              have hf := Option.some.inj hf
              subst hf
              exact z_ri B hW dX11_says_118
          · have hf := z_if c16 hf
            by_cases c22 : r2 = (5 : Int32)
            · have hf := z_it c22 hf
              refine lv_tableIn (off := 95) (tgt := 119) hx hb dX11_says_24 (by rw [c22]; decide) (by rw [c22]; decide) (by rw [c22]; decide) (by decide) ?_
              refine lv_iload_n hx hb dX11_says_119 rfl (lv_at hl 0 rfl) ?_
              refine lv_bipush (v := 6) hx hb dX11_says_120 (by decide) ?_
              refine lv_irem hx hb dX11_says_122 (by decide) ?_
              refine lv_if_ne (tgt := 134) hx hb dX11_says_123 (by decide) (fun c23 => ?_) (fun c23 => ?_)
              · have hf := z_if c23 hf
                refine lv_iconst (v := -1) hx hb dX11_says_134 (by decide) ?_
                have hf := Option.some.inj hf
                subst hf
                exact z_ri B hW dX11_says_135
              · have hf := z_it c23 hf
                refine lv_aload_n hx hb dX11_says_126 rfl (lv_at hl 1 rfl) ?_
                refine lv_iload_n hx hb dX11_says_127 rfl (lv_at hl 2 rfl) ?_
                obtain ⟨r24, e25, hf⟩ := z_bd hf
                refine z_cV (As := [.int l1]) (rest := []) B hW (f_X11_saysPlain l e25 h0) sc_X11_saysPlain sv_X11_77 h0 ⟨Nat.le_of_ble_eq_true rfl, Nat.le_of_ble_eq_true rfl⟩ ⟨Nat.zero_le _, Nat.zero_le _⟩ rfl hl.1 rfl (Nat.le_of_ble_eq_true rfl) dX11_says_128 (fun H locs hW => ?_)
                refine lv_goto (tgt := 135) hx hb dX11_says_131 (by decide) ?_
                have hf := Option.some.inj hf
                subst hf
                exact z_ri B hW dX11_says_135
            · have hf := z_if c22 hf
              have hsw : r2.toInt < 1 ∨ 5 < r2.toInt := by
                have ec4 := z_nei 1 (by decide) c4
                have ec9 := z_nei 2 (by decide) c9
                have ec15 := z_nei 3 (by decide) c15
                have ec16 := z_nei 4 (by decide) c16
                have ec22 := z_nei 5 (by decide) c22
                omega
              refine lv_tableOut (tgt := 136) hx hb dX11_says_24 hsw (by decide) ?_
              refine lv_aload_n hx hb dX11_says_136 rfl (lv_at hl 1 rfl) ?_
              refine lv_iload_n hx hb dX11_says_137 rfl (lv_at hl 2 rfl) ?_
              obtain ⟨r26, e27, hf⟩ := z_bd hf
              refine z_cV (As := [.int l1]) (rest := []) B hW (f_X11_saysPlain l e27 h0) sc_X11_saysPlain sv_X11_77 h0 ⟨Nat.le_of_ble_eq_true rfl, Nat.le_of_ble_eq_true rfl⟩ ⟨Nat.zero_le _, Nat.zero_le _⟩ rfl hl.1 rfl (Nat.le_of_ble_eq_true rfl) dX11_says_138 (fun H locs hW => ?_)
              have hf := Option.some.inj hf
              subst hf
              exact z_ri B hW dX11_says_141
  · have hf := z_if c1 hf
    refine lv_iconst (v := -1) hx hb dX11_says_16 (by decide) ?_
    have hf := Option.some.inj hf
    subst hf
    exact z_ri B hW dX11_says_17
set_option maxHeartbeats 4000000 in
set_option maxRecDepth 100000 in
theorem w_X11_isTrusted_P18 (B : z_Bd Γ p s m args meth c cX11_isTrusted 5 (some .boolean) RX11) : ∀ (M : Zm) (l0 : Nat) (l1 : Int32) (s0 : Int32) (r : Int32), X11_isTrusted_P18 Γ M l0 l1 s0 = some r → z_Is Γ 11 l0 → ∀ (H : Heap) (locs : List Loc) (ls : Array Slot), z_Wd Γ M s.heap H locs → lv_has ls 5 [(0, .ref l0), (1, .int l1)] → W p l e (z_rm 1 22) s m args below meth c H locs 0 0 (z_Q Γ below args s (some (.int r)) M) (F0 m 18 ls [.int s0]) := by
  have hx := B.1
  have hb := B.2.1
  have hml := B.2.2.1
  have ho := B.2.2.2.1
  have hw := B.2.2.2.2.1
  have hE := B.2.2.2.2.2.1.2.2
  have hg := B.2.2.2.2.2.2.1
  intro M l0 l1 s0 r hf h0 H locs ls hW hl
  rw [X11_isTrusted_P18] at hf
  refine lv_istore_n (lv' := [(3, .int s0), (0, .ref l0), (1, .int l1)]) hx hb dX11_isTrusted_18 rfl hl (by decide) rfl (fun ls hl => ?_)
  refine lv_aload_n hx hb dX11_isTrusted_19 rfl (lv_at hl 1 rfl) ?_
  refine lv_iload_n hx hb dX11_isTrusted_20 rfl (lv_at hl 2 rfl) ?_
  refine lv_iconst (v := 1) hx hb dX11_isTrusted_21 (by decide) ?_
  obtain ⟨r2, e3, hf⟩ := z_bd hf
  refine z_cV (As := [.int l1, .int (1 : Int32)]) (rest := []) B hW (f_X11_its l e3 h0) sc_X11_its sv_X11_58 h0 ⟨Nat.le_of_ble_eq_true rfl, Nat.le_of_ble_eq_true rfl⟩ ⟨Nat.zero_le _, Nat.zero_le _⟩ rfl hl.1 rfl (Nat.le_of_ble_eq_true rfl) dX11_isTrusted_22 (fun H locs hW => ?_)
  obtain ⟨r4, e5, hf⟩ := z_bd hf
  refine z_cS (As := [.int r2]) (rest := []) B hW (f_X11_many l e5) sc_X11_many ⟨q972, q973⟩ ⟨Nat.le_of_ble_eq_true rfl, Nat.le_of_ble_eq_true rfl⟩ ⟨Nat.zero_le _, Nat.zero_le _⟩ rfl hl.1 rfl (Nat.le_of_ble_eq_true rfl) dX11_isTrusted_25 (fun H locs hW => ?_)
  refine lv_istore (lv' := [(4, .int r4), (3, .int s0), (0, .ref l0), (1, .int l1)]) hx hb dX11_isTrusted_28 hl (by decide) rfl (fun ls hl => ?_)
  refine lv_aload_n hx hb dX11_isTrusted_30 rfl (lv_at hl 2 rfl) ?_
  refine lv_iload_n hx hb dX11_isTrusted_31 rfl (lv_at hl 3 rfl) ?_
  refine lv_iconst (v := 0) hx hb dX11_isTrusted_32 (by decide) ?_
  obtain ⟨r6, e7, hf⟩ := z_bd hf
  refine z_cV (As := [.int l1, .int (0 : Int32)]) (rest := []) B hW (f_X11_its l e7 h0) sc_X11_its sv_X11_58 h0 ⟨Nat.le_of_ble_eq_true rfl, Nat.le_of_ble_eq_true rfl⟩ ⟨Nat.zero_le _, Nat.zero_le _⟩ rfl hl.1 rfl (Nat.le_of_ble_eq_true rfl) dX11_isTrusted_33 (fun H locs hW => ?_)
  by_cases c8 : r6 = (1 : Int32)
  · have hf := z_it c8 hf
    refine lv_tableIn (off := 36) (tgt := 72) hx hb dX11_isTrusted_36 (by rw [c8]; decide) (by rw [c8]; decide) (by rw [c8]; decide) (by decide) ?_
    refine lv_iconst (v := 1) hx hb dX11_isTrusted_72 (by decide) ?_
    have hf := Option.some.inj hf
    subst hf
    exact z_rz B hW (Or.inr rfl) dX11_isTrusted_73
  · have hf := z_if c8 hf
    by_cases c9 : r6 = (2 : Int32)
    · have hf := z_it c9 hf
      refine lv_tableIn (off := 38) (tgt := 74) hx hb dX11_isTrusted_36 (by rw [c9]; decide) (by rw [c9]; decide) (by rw [c9]; decide) (by decide) ?_
      refine lv_iload_n hx hb dX11_isTrusted_74 rfl (lv_at hl 1 rfl) ?_
      obtain ⟨g10, hf⟩ := z_gp hf
      have hf := Option.some.inj hf
      subst hf
      exact z_rz B hW g10 dX11_isTrusted_75
    · have hf := z_if c9 hf
      by_cases c11 : r6 = (3 : Int32)
      · have hf := z_it c11 hf
        refine lv_tableIn (off := 40) (tgt := 76) hx hb dX11_isTrusted_36 (by rw [c11]; decide) (by rw [c11]; decide) (by rw [c11]; decide) (by decide) ?_
        refine lv_iload_n hx hb dX11_isTrusted_76 rfl (lv_at hl 1 rfl) ?_
        refine lv_if_ne (tgt := 92) hx hb dX11_isTrusted_77 (by decide) (fun c12 => ?_) (fun c12 => ?_)
        · have hf := z_if c12 hf
          refine lv_iconst (v := 1) hx hb dX11_isTrusted_92 (by decide) ?_
          refine lv_goto (tgt := 97) hx hb dX11_isTrusted_93 (by decide) ?_
          have hf := Option.some.inj hf
          subst hf
          exact z_rz B hW (Or.inr rfl) dX11_isTrusted_97
        · have hf := z_it c12 hf
          refine lv_iload hx hb dX11_isTrusted_80 (lv_at hl 0 rfl) ?_
          refine lv_iconst (v := 3) hx hb dX11_isTrusted_82 (by decide) ?_
          refine lv_icmp_lt (tgt := 92) hx hb dX11_isTrusted_83 (by decide) (fun c13 => ?_) (fun c13 => ?_)
          · have hf := z_it c13 hf
            refine lv_iconst (v := 1) hx hb dX11_isTrusted_92 (by decide) ?_
            refine lv_goto (tgt := 97) hx hb dX11_isTrusted_93 (by decide) ?_
            have hf := Option.some.inj hf
            subst hf
            exact z_rz B hW (Or.inr rfl) dX11_isTrusted_97
          · have hf := z_if c13 hf
            refine lv_iload hx hb dX11_isTrusted_86 (lv_at hl 0 rfl) ?_
            refine lv_iconst (v := 5) hx hb dX11_isTrusted_88 (by decide) ?_
            refine lv_icmp_lt (tgt := 96) hx hb dX11_isTrusted_89 (by decide) (fun c14 => ?_) (fun c14 => ?_)
            · have hf := z_it c14 hf
              refine lv_iconst (v := 0) hx hb dX11_isTrusted_96 (by decide) ?_
              have hf := Option.some.inj hf
              subst hf
              exact z_rz B hW (Or.inl rfl) dX11_isTrusted_97
            · have hf := z_if c14 hf
              refine lv_iconst (v := 1) hx hb dX11_isTrusted_92 (by decide) ?_
              refine lv_goto (tgt := 97) hx hb dX11_isTrusted_93 (by decide) ?_
              have hf := Option.some.inj hf
              subst hf
              exact z_rz B hW (Or.inr rfl) dX11_isTrusted_97
      · have hf := z_if c11 hf
        by_cases c15 : r6 = (4 : Int32)
        · have hf := z_it c15 hf
          refine lv_tableIn (off := 36) (tgt := 72) hx hb dX11_isTrusted_36 (by rw [c15]; decide) (by rw [c15]; decide) (by rw [c15]; decide) (by decide) ?_
          refine lv_iconst (v := 1) hx hb dX11_isTrusted_72 (by decide) ?_
          have hf := Option.some.inj hf
          subst hf
          exact z_rz B hW (Or.inr rfl) dX11_isTrusted_73
        · have hf := z_if c15 hf
          by_cases c16 : r6 = (5 : Int32)
          · have hf := z_it c16 hf
            refine lv_tableIn (off := 38) (tgt := 74) hx hb dX11_isTrusted_36 (by rw [c16]; decide) (by rw [c16]; decide) (by rw [c16]; decide) (by decide) ?_
            refine lv_iload_n hx hb dX11_isTrusted_74 rfl (lv_at hl 1 rfl) ?_
            obtain ⟨g17, hf⟩ := z_gp hf
            have hf := Option.some.inj hf
            subst hf
            exact z_rz B hW g17 dX11_isTrusted_75
          · have hf := z_if c16 hf
            have hsw : r6.toInt < 1 ∨ 5 < r6.toInt := by
              have ec8 := z_nei 1 (by decide) c8
              have ec9 := z_nei 2 (by decide) c9
              have ec11 := z_nei 3 (by decide) c11
              have ec15 := z_nei 4 (by decide) c15
              have ec16 := z_nei 5 (by decide) c16
              omega
            refine lv_tableOut (tgt := 98) hx hb dX11_isTrusted_36 hsw (by decide) ?_
            refine lv_iload_n hx hb dX11_isTrusted_98 rfl (lv_at hl 1 rfl) ?_
            refine lv_if_ne (tgt := 108) hx hb dX11_isTrusted_99 (by decide) (fun c18 => ?_) (fun c18 => ?_)
            · have hf := z_if c18 hf
              refine lv_iconst (v := 1) hx hb dX11_isTrusted_108 (by decide) ?_
              refine lv_goto (tgt := 113) hx hb dX11_isTrusted_109 (by decide) ?_
              have hf := Option.some.inj hf
              subst hf
              exact z_rz B hW (Or.inr rfl) dX11_isTrusted_113
            · have hf := z_it c18 hf
              refine lv_iload hx hb dX11_isTrusted_102 (lv_at hl 0 rfl) ?_
              refine lv_iconst (v := 3) hx hb dX11_isTrusted_104 (by decide) ?_
              refine lv_icmp_ge (tgt := 112) hx hb dX11_isTrusted_105 (by decide) (fun c19 => ?_) (fun c19 => ?_)
              · have hf := z_it c19 hf
                refine lv_iconst (v := 0) hx hb dX11_isTrusted_112 (by decide) ?_
                have hf := Option.some.inj hf
                subst hf
                exact z_rz B hW (Or.inl rfl) dX11_isTrusted_113
              · have hf := z_if c19 hf
                refine lv_iconst (v := 1) hx hb dX11_isTrusted_108 (by decide) ?_
                refine lv_goto (tgt := 113) hx hb dX11_isTrusted_109 (by decide) ?_
                have hf := Option.some.inj hf
                subst hf
                exact z_rz B hW (Or.inr rfl) dX11_isTrusted_113
set_option maxHeartbeats 4000000 in
set_option maxRecDepth 100000 in
theorem f_X11_isTrusted (l : Launch) {Γ : Zg} {M : Zm} {l0 : Nat} {l1 : Int32} {l2 : Int32} {r : Int32} (hf : X11_isTrusted Γ M l0 l1 l2 = some r) (h0 : z_Is Γ 11 l0) : z_Fn l Γ yX11_isTrusted cX11_isTrusted 5 (some .boolean) 1 22 [.ref l0, .int l1, .int l2] M (some (.int r)) M := by
  refine z_Fn.of (by decide) (Nat.le_of_ble_eq_true rfl) ?_
  intro p e s m below meth c ls B hW hl
  have B : z_Bd Γ p s m _ meth c cX11_isTrusted 5 (some .boolean) RX11 := B
  have hl : lv_has ls 5 [(0, .ref l0), (1, .int l1), (2, .int l2)] := hl
  rw [X11_isTrusted] at hf
  have hx := B.1
  have hb := B.2.1
  have hml := B.2.2.1
  have ho := B.2.2.2.1
  have hw := B.2.2.2.2.1
  have hE := B.2.2.2.2.2.1.2.2
  have hg := B.2.2.2.2.2.2.1
  refine lv_aload_n hx hb dX11_isTrusted_0 rfl (lv_at hl 0 rfl) ?_
  refine z_get_11_0 B hW h0 q855 dX11_isTrusted_1 ?_
  refine lv_iconst (v := 2) hx hb dX11_isTrusted_4 (by decide) ?_
  refine z_ia B hW (z_g11_0 hg h0) (z_ixd (by decide)) dX11_isTrusted_5 ?_
  refine lv_iload_n hx hb dX11_isTrusted_6 rfl (lv_at hl 2 rfl) ?_
  refine lv_ishr hx hb dX11_isTrusted_7 ?_
  refine lv_iconst (v := 1) hx hb dX11_isTrusted_8 (by decide) ?_
  refine lv_iand hx hb dX11_isTrusted_9 ?_
  refine lv_if_ne (tgt := 17) hx hb dX11_isTrusted_10 (by decide) (fun c1 => ?_) (fun c1 => ?_)
  · have hf := z_if c1 hf
    refine lv_iconst (v := 0) hx hb dX11_isTrusted_17 (by decide) ?_
    exact w_X11_isTrusted_P18 B M l0 l1 (0 : Int32) _ hf h0 _ _ _ hW (lv_sub hl [0, 1] rfl)
  · have hf := z_it c1 hf
    refine lv_iconst (v := 1) hx hb dX11_isTrusted_13 (by decide) ?_
    refine lv_goto (tgt := 18) hx hb dX11_isTrusted_14 (by decide) ?_
    exact w_X11_isTrusted_P18 B M l0 l1 (1 : Int32) _ hf h0 _ _ _ hW (lv_sub hl [0, 1] rfl)
set_option maxHeartbeats 4000000 in
set_option maxRecDepth 100000 in
theorem f_X11_stays (l : Launch) {Γ : Zg} {M : Zm} {l0 : Nat} {l1 : Int32} {r : Int32} (hf : X11_stays Γ M l0 l1 = some r) (h0 : z_Is Γ 11 l0) : z_Fn l Γ yX11_stays cX11_stays 2 (some .int) 1 22 [.ref l0, .int l1] M (some (.int r)) M := by
  refine z_Fn.of (by decide) (Nat.le_of_ble_eq_true rfl) ?_
  intro p e s m below meth c ls B hW hl
  have B : z_Bd Γ p s m _ meth c cX11_stays 2 (some .int) RX11 := B
  have hl : lv_has ls 2 [(0, .ref l0), (1, .int l1)] := hl
  rw [X11_stays] at hf
  have hx := B.1
  have hb := B.2.1
  have hml := B.2.2.1
  have ho := B.2.2.2.1
  have hw := B.2.2.2.2.1
  have hE := B.2.2.2.2.2.1.2.2
  have hg := B.2.2.2.2.2.2.1
  refine lv_aload_n hx hb dX11_stays_0 rfl (lv_at hl 0 rfl) ?_
  refine lv_iload_n hx hb dX11_stays_1 rfl (lv_at hl 1 rfl) ?_
  refine lv_iconst (v := 0) hx hb dX11_stays_2 (by decide) ?_
  obtain ⟨r1, e2, hf⟩ := z_bd hf
  refine z_cV (As := [.int l1, .int (0 : Int32)]) (rest := []) B hW (f_X11_its l e2 h0) sc_X11_its sv_X11_58 h0 ⟨Nat.le_of_ble_eq_true rfl, Nat.le_of_ble_eq_true rfl⟩ ⟨Nat.zero_le _, Nat.zero_le _⟩ rfl hl.1 rfl (Nat.le_of_ble_eq_true rfl) dX11_stays_3 (fun H locs hW => ?_)
  by_cases c3 : r1 = (1 : Int32)
  · have hf := z_it c3 hf
    refine lv_tableIn (off := 34) (tgt := 40) hx hb dX11_stays_6 (by rw [c3]; decide) (by rw [c3]; decide) (by rw [c3]; decide) (by decide) ?_
    refine lv_iconst (v := 4) hx hb dX11_stays_40 (by decide) ?_
    have hf := Option.some.inj hf
    subst hf
    exact z_ri B hW dX11_stays_41
  · have hf := z_if c3 hf
    by_cases c4 : r1 = (2 : Int32)
    · have hf := z_it c4 hf
      refine lv_tableIn (off := 36) (tgt := 42) hx hb dX11_stays_6 (by rw [c4]; decide) (by rw [c4]; decide) (by rw [c4]; decide) (by decide) ?_
      refine lv_bipush (v := 9) hx hb dX11_stays_42 (by decide) ?_
      have hf := Option.some.inj hf
      subst hf
      exact z_ri B hW dX11_stays_44
    · have hf := z_if c4 hf
      by_cases c5 : r1 = (3 : Int32)
      · have hf := z_it c5 hf
        refine lv_tableIn (off := 39) (tgt := 45) hx hb dX11_stays_6 (by rw [c5]; decide) (by rw [c5]; decide) (by rw [c5]; decide) (by decide) ?_
        refine lv_bipush (v := 6) hx hb dX11_stays_45 (by decide) ?_
        have hf := Option.some.inj hf
        subst hf
        exact z_ri B hW dX11_stays_47
      · have hf := z_if c5 hf
        by_cases c6 : r1 = (4 : Int32)
        · have hf := z_it c6 hf
          refine lv_tableIn (off := 42) (tgt := 48) hx hb dX11_stays_6 (by rw [c6]; decide) (by rw [c6]; decide) (by rw [c6]; decide) (by decide) ?_
          refine lv_iconst (v := 4) hx hb dX11_stays_48 (by decide) ?_
          refine lv_aload_n hx hb dX11_stays_49 rfl (lv_at hl 0 rfl) ?_
          refine lv_iload_n hx hb dX11_stays_50 rfl (lv_at hl 1 rfl) ?_
          refine lv_iconst (v := 1) hx hb dX11_stays_51 (by decide) ?_
          obtain ⟨r7, e8, hf⟩ := z_bd hf
          refine z_cV (As := [.int l1, .int (1 : Int32)]) (rest := [.int (4 : Int32)]) B hW (f_X11_its l e8 h0) sc_X11_its sv_X11_58 h0 ⟨Nat.le_of_ble_eq_true rfl, Nat.le_of_ble_eq_true rfl⟩ ⟨Nat.zero_le _, Nat.zero_le _⟩ rfl hl.1 rfl (Nat.le_of_ble_eq_true rfl) dX11_stays_52 (fun H locs hW => ?_)
          obtain ⟨r9, e10, hf⟩ := z_bd hf
          refine z_cS (As := [.int r7]) (rest := [.int (4 : Int32)]) B hW (f_X11_many l e10) sc_X11_many ⟨q972, q973⟩ ⟨Nat.le_of_ble_eq_true rfl, Nat.le_of_ble_eq_true rfl⟩ ⟨Nat.zero_le _, Nat.zero_le _⟩ rfl hl.1 rfl (Nat.le_of_ble_eq_true rfl) dX11_stays_55 (fun H locs hW => ?_)
          refine lv_iconst (v := 4) hx hb dX11_stays_58 (by decide) ?_
          refine lv_idiv hx hb dX11_stays_59 (by decide) ?_
          refine lv_iadd hx hb dX11_stays_60 ?_
          have hf := Option.some.inj hf
          subst hf
          exact z_ri B hW dX11_stays_61
        · have hf := z_if c6 hf
          by_cases c11 : r1 = (5 : Int32)
          · have hf := z_it c11 hf
            refine lv_tableIn (off := 39) (tgt := 45) hx hb dX11_stays_6 (by rw [c11]; decide) (by rw [c11]; decide) (by rw [c11]; decide) (by decide) ?_
            refine lv_bipush (v := 6) hx hb dX11_stays_45 (by decide) ?_
            have hf := Option.some.inj hf
            subst hf
            exact z_ri B hW dX11_stays_47
          · have hf := z_if c11 hf
            have hsw : r1.toInt < 1 ∨ 5 < r1.toInt := by
              have ec3 := z_nei 1 (by decide) c3
              have ec4 := z_nei 2 (by decide) c4
              have ec5 := z_nei 3 (by decide) c5
              have ec6 := z_nei 4 (by decide) c6
              have ec11 := z_nei 5 (by decide) c11
              omega
            refine lv_tableOut (tgt := 62) hx hb dX11_stays_6 hsw (by decide) ?_
            refine lv_iconst (v := 3) hx hb dX11_stays_62 (by decide) ?_
            have hf := Option.some.inj hf
            subst hf
            exact z_ri B hW dX11_stays_63
set_option maxHeartbeats 4000000 in
set_option maxRecDepth 100000 in
theorem f_X11_of (l : Launch) {Γ : Zg} {M : Zm} {l0 : Nat} {l1 : Int32} {l2 : Int32} {r : Int32} {M' : Zm} (hf : X11_of Γ M l0 l1 l2 = some (r, M')) (h0 : z_Is Γ 11 l0) : z_Fn l Γ yX11_of cX11_of 3 (some .int) 3 65 [.ref l0, .int l1, .int l2] M (some (.int r)) M' := by
  refine z_Fn.of (by decide) (Nat.le_of_ble_eq_true rfl) ?_
  intro p e s m below meth c ls B hW hl
  have B : z_Bd Γ p s m _ meth c cX11_of 3 (some .int) RX11 := B
  have hl : lv_has ls 3 [(0, .ref l0), (1, .int l1), (2, .int l2)] := hl
  rw [X11_of] at hf
  have hx := B.1
  have hb := B.2.1
  have hml := B.2.2.1
  have ho := B.2.2.2.1
  have hw := B.2.2.2.2.1
  have hE := B.2.2.2.2.2.1.2.2
  have hg := B.2.2.2.2.2.2.1
  refine lv_aload_n hx hb dX11_of_0 rfl (lv_at hl 0 rfl) ?_
  refine lv_iload_n hx hb dX11_of_1 rfl (lv_at hl 1 rfl) ?_
  refine z_cV (As := [.int l1]) (rest := []) B hW (f_X11_isOne l h0) sc_X11_isOne sv_X11_83 h0 ⟨Nat.le_of_ble_eq_true rfl, Nat.le_of_ble_eq_true rfl⟩ ⟨Nat.zero_le _, Nat.zero_le _⟩ rfl hl.1 rfl (Nat.le_of_ble_eq_true rfl) dX11_of_2 (fun H locs hW => ?_)
  refine lv_if_eq (tgt := 20) hx hb dX11_of_5 (by decide) (fun c3 => ?_) (fun c3 => ?_)
  · have hf := z_it c3 hf
    refine lv_aload_n hx hb dX11_of_20 rfl (lv_at hl 0 rfl) ?_
    refine lv_ldc hx hb ho (hw _ q916) dX11_of_21 ?_
    obtain ⟨r4, M5, e6, hf⟩ := z_bpe hf
    refine z_cV (As := [.int (-1000000001 : Int32)]) (rest := []) B hW (f_X11_finds l e6 h0) sc_X11_finds sv_X11_40 h0 ⟨Nat.le_of_ble_eq_true rfl, Nat.le_of_ble_eq_true rfl⟩ ⟨Nat.zero_le _, Nat.zero_le _⟩ rfl hl.1 rfl (Nat.le_of_ble_eq_true rfl) dX11_of_23 (fun H locs hW => ?_)
    obtain ⟨e1, e2⟩ := z_s2 hf
    subst e1
    subst e2
    exact z_ri B hW dX11_of_26
  · have hf := z_if c3 hf
    refine lv_iload_n hx hb dX11_of_8 rfl (lv_at hl 2 rfl) ?_
    refine lv_i2l hx hb dX11_of_9 rfl ?_
    refine lv_lconst (v := 0) hx hb dX11_of_10 (by decide) ?_
    refine lv_ldc2 hx hb ho (hw _ q953) dX11_of_11 ?_
    refine z_cS (As := [.long l2.toInt64, .long (0 : Int64), .long (7 : Int64)]) (rest := []) B hW (f_X11_isIn l) sc_X11_isIn ⟨q909, q910⟩ ⟨Nat.le_of_ble_eq_true rfl, Nat.le_of_ble_eq_true rfl⟩ ⟨Nat.zero_le _, Nat.zero_le _⟩ rfl hl.1 rfl (Nat.le_of_ble_eq_true rfl) dX11_of_14 (fun H locs hW => ?_)
    refine lv_if_ne (tgt := 27) hx hb dX11_of_17 (by decide) (fun c9 => ?_) (fun c9 => ?_)
    · have hf := z_if c9 hf
      refine lv_iload_n hx hb dX11_of_27 rfl (lv_at hl 2 rfl) ?_
      refine lv_bipush (v := 6) hx hb dX11_of_28 (by decide) ?_
      refine lv_icmp_ne (tgt := 41) hx hb dX11_of_30 (by decide) (fun c10 => ?_) (fun c10 => ?_)
      · have hf := z_if c10 hf
        refine lv_iload_n hx hb dX11_of_41 rfl (lv_at hl 2 rfl) ?_
        refine lv_bipush (v := 7) hx hb dX11_of_42 (by decide) ?_
        refine lv_icmp_ne (tgt := 55) hx hb dX11_of_44 (by decide) (fun c11 => ?_) (fun c11 => ?_)
        · have hf := z_if c11 hf
          refine lv_aload_n hx hb dX11_of_55 rfl (lv_at hl 0 rfl) ?_
          refine lv_iload_n hx hb dX11_of_56 rfl (lv_at hl 1 rfl) ?_
          refine lv_iload_n hx hb dX11_of_57 rfl (lv_at hl 2 rfl) ?_
          obtain ⟨r12, e13, hf⟩ := z_bd hf
          refine z_cV (As := [.int l1, .int l2]) (rest := []) B hW (f_X11_its l e13 h0) sc_X11_its sv_X11_58 h0 ⟨Nat.le_of_ble_eq_true rfl, Nat.le_of_ble_eq_true rfl⟩ ⟨Nat.zero_le _, Nat.zero_le _⟩ rfl hl.1 rfl (Nat.le_of_ble_eq_true rfl) dX11_of_58 (fun H locs hW => ?_)
          obtain ⟨e1, e2⟩ := z_s2 hf
          subst e1
          subst e2
          exact z_ri B hW dX11_of_61
        · have hf := z_it c11 hf
          refine lv_aload_n hx hb dX11_of_47 rfl (lv_at hl 0 rfl) ?_
          refine lv_iload_n hx hb dX11_of_48 rfl (lv_at hl 1 rfl) ?_
          obtain ⟨r14, e15, hf⟩ := z_bd hf
          refine z_cV (As := [.int l1]) (rest := []) B hW (f_X11_stays l e15 h0) sc_X11_stays sv_X11_91 h0 ⟨Nat.le_of_ble_eq_true rfl, Nat.le_of_ble_eq_true rfl⟩ ⟨Nat.zero_le _, Nat.zero_le _⟩ rfl hl.1 rfl (Nat.le_of_ble_eq_true rfl) dX11_of_49 (fun H locs hW => ?_)
          refine lv_goto (tgt := 61) hx hb dX11_of_52 (by decide) ?_
          obtain ⟨e1, e2⟩ := z_s2 hf
          subst e1
          subst e2
          exact z_ri B hW dX11_of_61
      · have hf := z_it c10 hf
        refine lv_aload_n hx hb dX11_of_33 rfl (lv_at hl 0 rfl) ?_
        refine lv_iload_n hx hb dX11_of_34 rfl (lv_at hl 1 rfl) ?_
        obtain ⟨r16, e17, hf⟩ := z_bd hf
        refine z_cV (As := [.int l1]) (rest := []) B hW (f_X11_says l e17 h0) sc_X11_says sv_X11_88 h0 ⟨Nat.le_of_ble_eq_true rfl, Nat.le_of_ble_eq_true rfl⟩ ⟨Nat.zero_le _, Nat.zero_le _⟩ rfl hl.1 rfl (Nat.le_of_ble_eq_true rfl) dX11_of_35 (fun H locs hW => ?_)
        refine lv_goto (tgt := 61) hx hb dX11_of_38 (by decide) ?_
        obtain ⟨e1, e2⟩ := z_s2 hf
        subst e1
        subst e2
        exact z_ri B hW dX11_of_61
    · have hf := z_it c9 hf
      refine lv_aload_n hx hb dX11_of_20 rfl (lv_at hl 0 rfl) ?_
      refine lv_ldc hx hb ho (hw _ q916) dX11_of_21 ?_
      obtain ⟨r18, M19, e20, hf⟩ := z_bpe hf
      refine z_cV (As := [.int (-1000000001 : Int32)]) (rest := []) B hW (f_X11_finds l e20 h0) sc_X11_finds sv_X11_40 h0 ⟨Nat.le_of_ble_eq_true rfl, Nat.le_of_ble_eq_true rfl⟩ ⟨Nat.zero_le _, Nat.zero_le _⟩ rfl hl.1 rfl (Nat.le_of_ble_eq_true rfl) dX11_of_23 (fun H locs hW => ?_)
      obtain ⟨e1, e2⟩ := z_s2 hf
      subst e1
      subst e2
      exact z_ri B hW dX11_of_26
end
